section
-- pasted from kit/laws/SKELETON.whole (PART A)
-- ===== PART A: goes FIRST, ahead of the names: the tables' words, and 'selects' of the private methods out of them =====
/-- a private method of a class that the tables say can be made, by its rows of tables_1 -/
def lw_okq (q : MethodName × Nat) : Prop := (q.1.cls ≠ "java/lang/invoke/MethodHandle" ∧ q.1.cls ≠ "java/lang/invoke/VarHandle") ∧ Cond.instantiable q.1.cls q.2 ∈ tables_1 ∧ Cond.privateMethod q.1 ∈ tables_1 ∧ Cond.instanceMethod q.1 ∈ tables_1
theorem lw_p0 : lw_okq (⟨"FountainNet", "refuse", "(I)I"⟩, 7) := ⟨⟨by decide +kernel, by decide +kernel⟩, List.mem_of_getElem? (i := 22) (by decide +kernel), List.mem_of_getElem? (i := 217) (by decide +kernel), List.mem_of_getElem? (i := 218) (by decide +kernel)⟩
theorem lw_p1 : lw_okq (⟨"java/util/ArrayList", "add", "(Ljava/lang/Object;[Ljava/lang/Object;I)V"⟩, 3) := ⟨⟨by decide +kernel, by decide +kernel⟩, List.mem_of_getElem? (i := 36) (by decide +kernel), List.mem_of_getElem? (i := 275) (by decide +kernel), List.mem_of_getElem? (i := 276) (by decide +kernel)⟩
theorem lw_p2 : lw_okq (⟨"java/util/ArrayList", "grow", "()[Ljava/lang/Object;"⟩, 3) := ⟨⟨by decide +kernel, by decide +kernel⟩, List.mem_of_getElem? (i := 36) (by decide +kernel), List.mem_of_getElem? (i := 279) (by decide +kernel), List.mem_of_getElem? (i := 280) (by decide +kernel)⟩
theorem lw_p3 : lw_okq (⟨"java/util/ArrayList", "grow", "(I)[Ljava/lang/Object;"⟩, 3) := ⟨⟨by decide +kernel, by decide +kernel⟩, List.mem_of_getElem? (i := 36) (by decide +kernel), List.mem_of_getElem? (i := 283) (by decide +kernel), List.mem_of_getElem? (i := 284) (by decide +kernel)⟩
theorem lw_p4 : lw_okq (⟨"FountainNet$Garden", "forgetFlows", "()V"⟩, 5) := ⟨⟨by decide +kernel, by decide +kernel⟩, List.mem_of_getElem? (i := 30) (by decide +kernel), List.mem_of_getElem? (i := 517) (by decide +kernel), List.mem_of_getElem? (i := 518) (by decide +kernel)⟩
theorem lw_p5 : lw_okq (⟨"FountainNet$Garden", "addFlowAhead", "(LFountainNet$Joint;)V"⟩, 5) := ⟨⟨by decide +kernel, by decide +kernel⟩, List.mem_of_getElem? (i := 30) (by decide +kernel), List.mem_of_getElem? (i := 526) (by decide +kernel), List.mem_of_getElem? (i := 527) (by decide +kernel)⟩
theorem lw_p6 : lw_okq (⟨"FountainNet", "refuseAsTold", "(I)I"⟩, 7) := ⟨⟨by decide +kernel, by decide +kernel⟩, List.mem_of_getElem? (i := 22) (by decide +kernel), List.mem_of_getElem? (i := 539) (by decide +kernel), List.mem_of_getElem? (i := 540) (by decide +kernel)⟩
theorem lw_p7 : lw_okq (⟨"java/util/ArrayList", "fastRemove", "([Ljava/lang/Object;I)V"⟩, 3) := ⟨⟨by decide +kernel, by decide +kernel⟩, List.mem_of_getElem? (i := 36) (by decide +kernel), List.mem_of_getElem? (i := 636) (by decide +kernel), List.mem_of_getElem? (i := 637) (by decide +kernel)⟩
theorem lw_p8 : lw_okq (⟨"FountainNet$Stroll", "lastMinute", "()I"⟩, 8) := ⟨⟨by decide +kernel, by decide +kernel⟩, List.mem_of_getElem? (i := 91) (by decide +kernel), List.mem_of_getElem? (i := 649) (by decide +kernel), List.mem_of_getElem? (i := 650) (by decide +kernel)⟩
theorem lw_p9 : lw_okq (⟨"FountainNet$Stroll", "begin", "()V"⟩, 8) := ⟨⟨by decide +kernel, by decide +kernel⟩, List.mem_of_getElem? (i := 91) (by decide +kernel), List.mem_of_getElem? (i := 664) (by decide +kernel), List.mem_of_getElem? (i := 665) (by decide +kernel)⟩
theorem lw_p10 : lw_okq (⟨"FountainNet$Stroll", "lookAtRises", "(LFountainNet$View;Z)LFountainNet$Jet;"⟩, 8) := ⟨⟨by decide +kernel, by decide +kernel⟩, List.mem_of_getElem? (i := 91) (by decide +kernel), List.mem_of_getElem? (i := 672) (by decide +kernel), List.mem_of_getElem? (i := 673) (by decide +kernel)⟩
theorem lw_p11 : lw_okq (⟨"FountainNet$Stroll", "passMinute", "()V"⟩, 8) := ⟨⟨by decide +kernel, by decide +kernel⟩, List.mem_of_getElem? (i := 91) (by decide +kernel), List.mem_of_getElem? (i := 679) (by decide +kernel), List.mem_of_getElem? (i := 680) (by decide +kernel)⟩
theorem lw_p12 : lw_okq (⟨"FountainNet$TaskList", "addChange", "(III)V"⟩, 8) := ⟨⟨by decide +kernel, by decide +kernel⟩, List.mem_of_getElem? (i := 128) (by decide +kernel), List.mem_of_getElem? (i := 704) (by decide +kernel), List.mem_of_getElem? (i := 705) (by decide +kernel)⟩
theorem lw_p13 : lw_okq (⟨"FountainNet$TaskList", "mostApartAhead", "(II)I"⟩, 8) := ⟨⟨by decide +kernel, by decide +kernel⟩, List.mem_of_getElem? (i := 128) (by decide +kernel), List.mem_of_getElem? (i := 726) (by decide +kernel), List.mem_of_getElem? (i := 727) (by decide +kernel)⟩
theorem lw_p14 : lw_okq (⟨"FountainNet$LeakSearch", "forgetFound", "()V"⟩, 6) := ⟨⟨by decide +kernel, by decide +kernel⟩, List.mem_of_getElem? (i := 161) (by decide +kernel), List.mem_of_getElem? (i := 750) (by decide +kernel), List.mem_of_getElem? (i := 751) (by decide +kernel)⟩
theorem lw_p15 : lw_okq (⟨"FountainNet$LeakSearch", "isAnyRead", "()Z"⟩, 6) := ⟨⟨by decide +kernel, by decide +kernel⟩, List.mem_of_getElem? (i := 161) (by decide +kernel), List.mem_of_getElem? (i := 754) (by decide +kernel), List.mem_of_getElem? (i := 755) (by decide +kernel)⟩
def lw_privs_1 : List (MethodName × Nat) := [(⟨"FountainNet", "refuse", "(I)I"⟩, 7), (⟨"java/util/ArrayList", "add", "(Ljava/lang/Object;[Ljava/lang/Object;I)V"⟩, 3), (⟨"java/util/ArrayList", "grow", "()[Ljava/lang/Object;"⟩, 3), (⟨"java/util/ArrayList", "grow", "(I)[Ljava/lang/Object;"⟩, 3), (⟨"FountainNet$Garden", "forgetFlows", "()V"⟩, 5), (⟨"FountainNet$Garden", "addFlowAhead", "(LFountainNet$Joint;)V"⟩, 5), (⟨"FountainNet", "refuseAsTold", "(I)I"⟩, 7), (⟨"java/util/ArrayList", "fastRemove", "([Ljava/lang/Object;I)V"⟩, 3), (⟨"FountainNet$Stroll", "lastMinute", "()I"⟩, 8), (⟨"FountainNet$Stroll", "begin", "()V"⟩, 8), (⟨"FountainNet$Stroll", "lookAtRises", "(LFountainNet$View;Z)LFountainNet$Jet;"⟩, 8), (⟨"FountainNet$Stroll", "passMinute", "()V"⟩, 8), (⟨"FountainNet$TaskList", "addChange", "(III)V"⟩, 8), (⟨"FountainNet$TaskList", "mostApartAhead", "(II)I"⟩, 8), (⟨"FountainNet$LeakSearch", "forgetFound", "()V"⟩, 6), (⟨"FountainNet$LeakSearch", "isAnyRead", "()Z"⟩, 6)]
theorem lw_r1 : ∀ q ∈ lw_privs_1, lw_okq q := List.forall_mem_cons.mpr ⟨lw_p0, List.forall_mem_cons.mpr ⟨lw_p1, List.forall_mem_cons.mpr ⟨lw_p2, List.forall_mem_cons.mpr ⟨lw_p3, List.forall_mem_cons.mpr ⟨lw_p4, List.forall_mem_cons.mpr ⟨lw_p5, List.forall_mem_cons.mpr ⟨lw_p6, List.forall_mem_cons.mpr ⟨lw_p7, List.forall_mem_cons.mpr ⟨lw_p8, List.forall_mem_cons.mpr ⟨lw_p9, List.forall_mem_cons.mpr ⟨lw_p10, List.forall_mem_cons.mpr ⟨lw_p11, List.forall_mem_cons.mpr ⟨lw_p12, List.forall_mem_cons.mpr ⟨lw_p13, List.forall_mem_cons.mpr ⟨lw_p14, List.forall_mem_cons.mpr ⟨lw_p15, fun _ h => absurd h List.not_mem_nil⟩⟩⟩⟩⟩⟩⟩⟩⟩⟩⟩⟩⟩⟩⟩⟩
theorem lw_p16 : lw_okq (⟨"FountainNet$LeakSearch", "misses", "()I"⟩, 6) := ⟨⟨by decide +kernel, by decide +kernel⟩, List.mem_of_getElem? (i := 161) (by decide +kernel), List.mem_of_getElem? (i := 761) (by decide +kernel), List.mem_of_getElem? (i := 762) (by decide +kernel)⟩
theorem lw_p17 : lw_okq (⟨"FountainNet$LeakSearch", "explainsAlone", "(LFountainNet$Joint;)Z"⟩, 6) := ⟨⟨by decide +kernel, by decide +kernel⟩, List.mem_of_getElem? (i := 161) (by decide +kernel), List.mem_of_getElem? (i := 768) (by decide +kernel), List.mem_of_getElem? (i := 769) (by decide +kernel)⟩
theorem lw_p18 : lw_okq (⟨"FountainNet$LeakSearch", "explainTogether", "(LFountainNet$Joint;LFountainNet$Joint;)Z"⟩, 6) := ⟨⟨by decide +kernel, by decide +kernel⟩, List.mem_of_getElem? (i := 161) (by decide +kernel), List.mem_of_getElem? (i := 772) (by decide +kernel), List.mem_of_getElem? (i := 773) (by decide +kernel)⟩
theorem lw_p19 : lw_okq (⟨"FountainNet$LeakSearch", "keepTwo", "(LFountainNet$Joint;LFountainNet$Joint;)V"⟩, 6) := ⟨⟨by decide +kernel, by decide +kernel⟩, List.mem_of_getElem? (i := 161) (by decide +kernel), List.mem_of_getElem? (i := 776) (by decide +kernel), List.mem_of_getElem? (i := 777) (by decide +kernel)⟩
theorem lw_p20 : lw_okq (⟨"FountainNet$Garden", "beginOrder", "()V"⟩, 5) := ⟨⟨by decide +kernel, by decide +kernel⟩, List.mem_of_getElem? (i := 30) (by decide +kernel), List.mem_of_getElem? (i := 812) (by decide +kernel), List.mem_of_getElem? (i := 813) (by decide +kernel)⟩
theorem lw_p21 : lw_okq (⟨"FountainNet$Garden", "nextInOrder", "()LFountainNet$Joint;"⟩, 5) := ⟨⟨by decide +kernel, by decide +kernel⟩, List.mem_of_getElem? (i := 30) (by decide +kernel), List.mem_of_getElem? (i := 816) (by decide +kernel), List.mem_of_getElem? (i := 817) (by decide +kernel)⟩
theorem lw_p22 : lw_okq (⟨"FountainNet", "refusalsOf", "(I)I"⟩, 7) := ⟨⟨by decide +kernel, by decide +kernel⟩, List.mem_of_getElem? (i := 22) (by decide +kernel), List.mem_of_getElem? (i := 844) (by decide +kernel), List.mem_of_getElem? (i := 845) (by decide +kernel)⟩
theorem lw_p23 : lw_okq (⟨"FountainNetModel", "refuse", "(I)I"⟩, 63) := ⟨⟨by decide +kernel, by decide +kernel⟩, List.mem_of_getElem? (i := 848) (by decide +kernel), List.mem_of_getElem? (i := 1049) (by decide +kernel), List.mem_of_getElem? (i := 1050) (by decide +kernel)⟩
theorem lw_p24 : lw_okq (⟨"FountainNetModel", "changes", "()V"⟩, 63) := ⟨⟨by decide +kernel, by decide +kernel⟩, List.mem_of_getElem? (i := 848) (by decide +kernel), List.mem_of_getElem? (i := 1063) (by decide +kernel), List.mem_of_getElem? (i := 1064) (by decide +kernel)⟩
theorem lw_p25 : lw_okq (⟨"FountainNetModel", "isJoint", "(I)Z"⟩, 63) := ⟨⟨by decide +kernel, by decide +kernel⟩, List.mem_of_getElem? (i := 848) (by decide +kernel), List.mem_of_getElem? (i := 1075) (by decide +kernel), List.mem_of_getElem? (i := 1076) (by decide +kernel)⟩
theorem lw_p26 : lw_okq (⟨"FountainNetModel", "isJet", "(I)Z"⟩, 63) := ⟨⟨by decide +kernel, by decide +kernel⟩, List.mem_of_getElem? (i := 848) (by decide +kernel), List.mem_of_getElem? (i := 1083) (by decide +kernel), List.mem_of_getElem? (i := 1084) (by decide +kernel)⟩
theorem lw_p27 : lw_okq (⟨"FountainNetModel", "isCut", "(I)Z"⟩, 63) := ⟨⟨by decide +kernel, by decide +kernel⟩, List.mem_of_getElem? (i := 848) (by decide +kernel), List.mem_of_getElem? (i := 1087) (by decide +kernel), List.mem_of_getElem? (i := 1088) (by decide +kernel)⟩
theorem lw_p28 : lw_okq (⟨"FountainNetModel", "sees", "()V"⟩, 63) := ⟨⟨by decide +kernel, by decide +kernel⟩, List.mem_of_getElem? (i := 848) (by decide +kernel), List.mem_of_getElem? (i := 1103) (by decide +kernel), List.mem_of_getElem? (i := 1104) (by decide +kernel)⟩
theorem lw_p29 : lw_okq (⟨"FountainNetModel", "asItIs", "()V"⟩, 63) := ⟨⟨by decide +kernel, by decide +kernel⟩, List.mem_of_getElem? (i := 848) (by decide +kernel), List.mem_of_getElem? (i := 1107) (by decide +kernel), List.mem_of_getElem? (i := 1108) (by decide +kernel)⟩
theorem lw_p30 : lw_okq (⟨"FountainNetModel", "runs", "()V"⟩, 63) := ⟨⟨by decide +kernel, by decide +kernel⟩, List.mem_of_getElem? (i := 848) (by decide +kernel), List.mem_of_getElem? (i := 1111) (by decide +kernel), List.mem_of_getElem? (i := 1112) (by decide +kernel)⟩
theorem lw_p31 : lw_okq (⟨"FountainNetModel", "refuseFar", "(I)I"⟩, 63) := ⟨⟨by decide +kernel, by decide +kernel⟩, List.mem_of_getElem? (i := 848) (by decide +kernel), List.mem_of_getElem? (i := 1120) (by decide +kernel), List.mem_of_getElem? (i := 1121) (by decide +kernel)⟩
def lw_privs_2 : List (MethodName × Nat) := [(⟨"FountainNet$LeakSearch", "misses", "()I"⟩, 6), (⟨"FountainNet$LeakSearch", "explainsAlone", "(LFountainNet$Joint;)Z"⟩, 6), (⟨"FountainNet$LeakSearch", "explainTogether", "(LFountainNet$Joint;LFountainNet$Joint;)Z"⟩, 6), (⟨"FountainNet$LeakSearch", "keepTwo", "(LFountainNet$Joint;LFountainNet$Joint;)V"⟩, 6), (⟨"FountainNet$Garden", "beginOrder", "()V"⟩, 5), (⟨"FountainNet$Garden", "nextInOrder", "()LFountainNet$Joint;"⟩, 5), (⟨"FountainNet", "refusalsOf", "(I)I"⟩, 7), (⟨"FountainNetModel", "refuse", "(I)I"⟩, 63), (⟨"FountainNetModel", "changes", "()V"⟩, 63), (⟨"FountainNetModel", "isJoint", "(I)Z"⟩, 63), (⟨"FountainNetModel", "isJet", "(I)Z"⟩, 63), (⟨"FountainNetModel", "isCut", "(I)Z"⟩, 63), (⟨"FountainNetModel", "sees", "()V"⟩, 63), (⟨"FountainNetModel", "asItIs", "()V"⟩, 63), (⟨"FountainNetModel", "runs", "()V"⟩, 63), (⟨"FountainNetModel", "refuseFar", "(I)I"⟩, 63)]
theorem lw_r2 : ∀ q ∈ lw_privs_2, lw_okq q := List.forall_mem_cons.mpr ⟨lw_p16, List.forall_mem_cons.mpr ⟨lw_p17, List.forall_mem_cons.mpr ⟨lw_p18, List.forall_mem_cons.mpr ⟨lw_p19, List.forall_mem_cons.mpr ⟨lw_p20, List.forall_mem_cons.mpr ⟨lw_p21, List.forall_mem_cons.mpr ⟨lw_p22, List.forall_mem_cons.mpr ⟨lw_p23, List.forall_mem_cons.mpr ⟨lw_p24, List.forall_mem_cons.mpr ⟨lw_p25, List.forall_mem_cons.mpr ⟨lw_p26, List.forall_mem_cons.mpr ⟨lw_p27, List.forall_mem_cons.mpr ⟨lw_p28, List.forall_mem_cons.mpr ⟨lw_p29, List.forall_mem_cons.mpr ⟨lw_p30, List.forall_mem_cons.mpr ⟨lw_p31, fun _ h => absurd h List.not_mem_nil⟩⟩⟩⟩⟩⟩⟩⟩⟩⟩⟩⟩⟩⟩⟩⟩
theorem lw_p32 : lw_okq (⟨"FountainNetModel", "riseOf", "(I)I"⟩, 63) := ⟨⟨by decide +kernel, by decide +kernel⟩, List.mem_of_getElem? (i := 848) (by decide +kernel), List.mem_of_getElem? (i := 1129) (by decide +kernel), List.mem_of_getElem? (i := 1130) (by decide +kernel)⟩
theorem lw_p33 : lw_okq (⟨"FountainNetModel", "passes", "(I)V"⟩, 63) := ⟨⟨by decide +kernel, by decide +kernel⟩, List.mem_of_getElem? (i := 848) (by decide +kernel), List.mem_of_getElem? (i := 1141) (by decide +kernel), List.mem_of_getElem? (i := 1142) (by decide +kernel)⟩
theorem lw_p34 : lw_okq (⟨"FountainNetModel", "hasWalk", "()Z"⟩, 63) := ⟨⟨by decide +kernel, by decide +kernel⟩, List.mem_of_getElem? (i := 848) (by decide +kernel), List.mem_of_getElem? (i := 1163) (by decide +kernel), List.mem_of_getElem? (i := 1164) (by decide +kernel)⟩
theorem lw_p35 : lw_okq (⟨"FountainNetModel", "walks", "(Z)V"⟩, 63) := ⟨⟨by decide +kernel, by decide +kernel⟩, List.mem_of_getElem? (i := 848) (by decide +kernel), List.mem_of_getElem? (i := 1167) (by decide +kernel), List.mem_of_getElem? (i := 1168) (by decide +kernel)⟩
theorem lw_p36 : lw_okq (⟨"FountainNetModel", "looksAt", "()V"⟩, 63) := ⟨⟨by decide +kernel, by decide +kernel⟩, List.mem_of_getElem? (i := 848) (by decide +kernel), List.mem_of_getElem? (i := 1171) (by decide +kernel), List.mem_of_getElem? (i := 1172) (by decide +kernel)⟩
theorem lw_p37 : lw_okq (⟨"FountainNetModel", "viewAt", "(I)I"⟩, 63) := ⟨⟨by decide +kernel, by decide +kernel⟩, List.mem_of_getElem? (i := 848) (by decide +kernel), List.mem_of_getElem? (i := 1175) (by decide +kernel), List.mem_of_getElem? (i := 1176) (by decide +kernel)⟩
theorem lw_p38 : lw_okq (⟨"FountainNetModel", "findTasks", "()V"⟩, 63) := ⟨⟨by decide +kernel, by decide +kernel⟩, List.mem_of_getElem? (i := 848) (by decide +kernel), List.mem_of_getElem? (i := 1191) (by decide +kernel), List.mem_of_getElem? (i := 1192) (by decide +kernel)⟩
theorem lw_p39 : lw_okq (⟨"FountainNetModel", "adds", "(III)V"⟩, 63) := ⟨⟨by decide +kernel, by decide +kernel⟩, List.mem_of_getElem? (i := 848) (by decide +kernel), List.mem_of_getElem? (i := 1195) (by decide +kernel), List.mem_of_getElem? (i := 1196) (by decide +kernel)⟩
theorem lw_p40 : lw_okq (⟨"FountainNetModel", "leads", "(I)Z"⟩, 63) := ⟨⟨by decide +kernel, by decide +kernel⟩, List.mem_of_getElem? (i := 848) (by decide +kernel), List.mem_of_getElem? (i := 1207) (by decide +kernel), List.mem_of_getElem? (i := 1208) (by decide +kernel)⟩
theorem lw_p41 : lw_okq (⟨"FountainNetModel", "canFollow", "(II)Z"⟩, 63) := ⟨⟨by decide +kernel, by decide +kernel⟩, List.mem_of_getElem? (i := 848) (by decide +kernel), List.mem_of_getElem? (i := 1211) (by decide +kernel), List.mem_of_getElem? (i := 1212) (by decide +kernel)⟩
theorem lw_p42 : lw_okq (⟨"FountainNetModel", "look", "()V"⟩, 63) := ⟨⟨by decide +kernel, by decide +kernel⟩, List.mem_of_getElem? (i := 848) (by decide +kernel), List.mem_of_getElem? (i := 1228) (by decide +kernel), List.mem_of_getElem? (i := 1229) (by decide +kernel)⟩
theorem lw_p43 : lw_okq (⟨"FountainNetModel", "explains", "()Z"⟩, 63) := ⟨⟨by decide +kernel, by decide +kernel⟩, List.mem_of_getElem? (i := 848) (by decide +kernel), List.mem_of_getElem? (i := 1232) (by decide +kernel), List.mem_of_getElem? (i := 1233) (by decide +kernel)⟩
theorem lw_p44 : lw_okq (⟨"FountainNetModel", "two", "(II)V"⟩, 63) := ⟨⟨by decide +kernel, by decide +kernel⟩, List.mem_of_getElem? (i := 848) (by decide +kernel), List.mem_of_getElem? (i := 1236) (by decide +kernel), List.mem_of_getElem? (i := 1237) (by decide +kernel)⟩
theorem lw_p45 : lw_okq (⟨"FountainNetModel", "mayEmpty", "(I[Z)Z"⟩, 63) := ⟨⟨by decide +kernel, by decide +kernel⟩, List.mem_of_getElem? (i := 848) (by decide +kernel), List.mem_of_getElem? (i := 1252) (by decide +kernel), List.mem_of_getElem? (i := 1253) (by decide +kernel)⟩
def lw_privs_3 : List (MethodName × Nat) := [(⟨"FountainNetModel", "riseOf", "(I)I"⟩, 63), (⟨"FountainNetModel", "passes", "(I)V"⟩, 63), (⟨"FountainNetModel", "hasWalk", "()Z"⟩, 63), (⟨"FountainNetModel", "walks", "(Z)V"⟩, 63), (⟨"FountainNetModel", "looksAt", "()V"⟩, 63), (⟨"FountainNetModel", "viewAt", "(I)I"⟩, 63), (⟨"FountainNetModel", "findTasks", "()V"⟩, 63), (⟨"FountainNetModel", "adds", "(III)V"⟩, 63), (⟨"FountainNetModel", "leads", "(I)Z"⟩, 63), (⟨"FountainNetModel", "canFollow", "(II)Z"⟩, 63), (⟨"FountainNetModel", "look", "()V"⟩, 63), (⟨"FountainNetModel", "explains", "()Z"⟩, 63), (⟨"FountainNetModel", "two", "(II)V"⟩, 63), (⟨"FountainNetModel", "mayEmpty", "(I[Z)Z"⟩, 63)]
theorem lw_r3 : ∀ q ∈ lw_privs_3, lw_okq q := List.forall_mem_cons.mpr ⟨lw_p32, List.forall_mem_cons.mpr ⟨lw_p33, List.forall_mem_cons.mpr ⟨lw_p34, List.forall_mem_cons.mpr ⟨lw_p35, List.forall_mem_cons.mpr ⟨lw_p36, List.forall_mem_cons.mpr ⟨lw_p37, List.forall_mem_cons.mpr ⟨lw_p38, List.forall_mem_cons.mpr ⟨lw_p39, List.forall_mem_cons.mpr ⟨lw_p40, List.forall_mem_cons.mpr ⟨lw_p41, List.forall_mem_cons.mpr ⟨lw_p42, List.forall_mem_cons.mpr ⟨lw_p43, List.forall_mem_cons.mpr ⟨lw_p44, List.forall_mem_cons.mpr ⟨lw_p45, fun _ h => absurd h List.not_mem_nil⟩⟩⟩⟩⟩⟩⟩⟩⟩⟩⟩⟩⟩⟩
def lw_privs : List (MethodName × Nat) := lw_privs_1 ++ (lw_privs_2 ++ (lw_privs_3))
def lw_tbl : List Cond := k2_sels lw_privs ++ tables_1
theorem lw_privs_ok : ∀ q ∈ lw_privs, lw_okq q := by
  show ∀ q ∈ lw_privs_1 ++ (lw_privs_2 ++ (lw_privs_3)), lw_okq q
  exact List.forall_mem_append.mpr ⟨lw_r1, List.forall_mem_append.mpr ⟨lw_r2, lw_r3⟩⟩
end
section
/-! An abstract machine over the kit's walk: values, a heap of cells by kind and number, and the judgement mT: 'from this point of this method, in every state that stands for this heap, the method comes to its end with Q'. Every instruction gets one rule (tr_..); behind them no class file and no address is seen any more. -/
abbrev mV : Type := Int32 ⊕ (Int64 ⊕ Option (Nat × Nat))
abbrev vi (x : Int32) : mV := .inl x
abbrev vl (x : Int64) : mV := .inr (.inl x)
abbrev vr (k n : Nat) : mV := .inr (.inr (some (k, n)))
abbrev vn : mV := .inr (.inr none)
abbrev vp (r : Option (Nat × Nat)) : mV := .inr (.inr r)
/-- a value as the machine has it -/
def mco (ad : Nat → Nat → Nat) : mV → Value
  | .inl x => .int x
  | .inr (.inl x) => .long x
  | .inr (.inr none) => .null
  | .inr (.inr (some r)) => .ref (ad r.1 r.2)
/-- the tables' words that hold in every state behind the start -/
def mTb : List Cond := lw_tbl.filter goodWord
/-- counts, lengths, pointers; and numbers -/
abbrev mH : Type := ((Nat → Nat) × (Nat → Nat → Nat) × (Nat → Nat → Nat → Option (Nat × Nat))) × (Nat → Nat → Nat → Int32)
def hC (h : mH) (k : Nat) : Nat := h.1.1 k
def hL (h : mH) (k n : Nat) : Nat := h.1.2.1 k n
def hP (h : mH) (k n f : Nat) : Option (Nat × Nat) := h.1.2.2 k n f
def hI (h : mH) (k n f : Nat) : Int32 := h.2 k n f
def setI (h : mH) (k n f : Nat) (v : Int32) : mH := (h.1, fun k' n' f' => if k' = k ∧ n' = n ∧ f' = f then v else h.2 k' n' f')
def setP (h : mH) (k n f : Nat) (v : Option (Nat × Nat)) : mH := ((h.1.1, h.1.2.1, fun k' n' f' => if k' = k ∧ n' = n ∧ f' = f then v else h.1.2.2 k' n' f'), h.2)
def newC (h : mH) (k len : Nat) : mH :=
  ((fun k' => if k' = k then h.1.1 k + 1 else h.1.1 k', fun k' n' => if k' = k ∧ n' = h.1.1 k then len else h.1.2.1 k' n', fun k' n' f' => if k' = k ∧ n' = h.1.1 k then none else h.1.2.2 k' n' f'), fun k' n' f' => if k' = k ∧ n' = h.1.1 k then 0 else h.2 k' n' f')
def mwf (h : mH) : mV → Prop
  | .inr (.inr (some r)) => r.2 < hC h r.1
  | _ => True
/-- launch; class numbers; the classes of the arrays of int, boolean, Object; script, the empty row, the first new address, the Class of rows of Objects; the script -/
abbrev mG : Type := Launch × va_G × (ClassId × ClassId × ClassId) × (Nat × Nat × Nat × Nat) × (Nat × (Nat → Int32))
abbrev mtys (g : mG) : List (ClassId × FieldType) := [(g.2.2.1.1, .int), (g.2.2.1.2.1, .boolean), (g.2.2.1.2.2, .object "java/lang/Object")]
abbrev mA (g : mG) : Nat → Prop := fun q => g.2.2.2.1.2.2.1 ≤ q
def mF0 : u_T := fun k => match k with
  | 0 => ("FountainNet", "garden", "LFountainNet$Garden;", true)
  | 1 => ("FountainNet", "views", "Ljava/util/ArrayList;", true)
  | 2 => ("FountainNet", "stroll", "LFountainNet$Stroll;", true)
  | 3 => ("FountainNet", "taskList", "LFountainNet$TaskList;", true)
  | 4 => ("FountainNet", "search", "LFountainNet$LeakSearch;", true)
  | 5 => ("FountainNet", "refusals", "[I", true)
  | _ => ("FountainNet", "minutesPerJoint", "I", false)
def mD0 : Nat → FieldType := fun k => match k with
  | 0 => .object "FountainNet$Garden"
  | 1 => .object "java/util/ArrayList"
  | 2 => .object "FountainNet$Stroll"
  | 3 => .object "FountainNet$TaskList"
  | 4 => .object "FountainNet$LeakSearch"
  | 5 => .array .int
  | _ => .int
def mF1 : u_T := fun k => match k with
  | 0 => ("FountainNet$Garden", "tanks", "Ljava/util/ArrayList;", true)
  | 1 => ("FountainNet$Garden", "joints", "Ljava/util/ArrayList;", true)
  | 2 => ("FountainNet$Garden", "jets", "Ljava/util/ArrayList;", true)
  | 3 => ("FountainNet$Garden", "playing", "I", false)
  | _ => ("FountainNet$Garden", "minute", "I", false)
def mD1 : Nat → FieldType := fun k => match k with
  | 0 => .object "java/util/ArrayList"
  | 1 => .object "java/util/ArrayList"
  | 2 => .object "java/util/ArrayList"
  | 3 => .int
  | _ => .int
def mF2 : u_T := fun k => match k with
  | 0 => ("java/util/ArrayList", "elementData", "[Ljava/lang/Object;", false)
  | 1 => ("java/util/ArrayList", "size", "I", false)
  | _ => ("java/util/AbstractList", "modCount", "I", false)
def mD2 : Nat → FieldType := fun k => match k with
  | 0 => .array (.object "java/lang/Object")
  | 1 => .int
  | _ => .int
def mF3 : u_T := fun k => match k with
  | 0 => ("FountainNet$Stroll", "garden", "LFountainNet$Garden;", true)
  | 1 => ("FountainNet$Stroll", "views", "Ljava/util/ArrayList;", true)
  | 2 => ("FountainNet$Stroll", "failMinute", "I", false)
  | 3 => ("FountainNet$Stroll", "failView", "I", false)
  | 4 => ("FountainNet$Stroll", "failJet", "I", false)
  | 5 => ("FountainNet$Stroll", "waterUsed", "I", false)
  | 6 => ("FountainNet$Stroll", "leastWater", "I", false)
  | _ => ("FountainNet$Stroll", "lowestRise", "I", false)
def mD3 : Nat → FieldType := fun k => match k with
  | 0 => .object "FountainNet$Garden"
  | 1 => .object "java/util/ArrayList"
  | 2 => .int
  | 3 => .int
  | 4 => .int
  | 5 => .int
  | 6 => .int
  | _ => .int
def mF4 : u_T := fun k => match k with
  | 0 => ("FountainNet$TaskList", "garden", "LFountainNet$Garden;", true)
  | 1 => ("FountainNet$TaskList", "views", "Ljava/util/ArrayList;", true)
  | 2 => ("FountainNet$TaskList", "minuteOf", "[I", true)
  | 3 => ("FountainNet$TaskList", "jetOf", "[I", true)
  | 4 => ("FountainNet$TaskList", "opens", "[I", true)
  | 5 => ("FountainNet$TaskList", "jointOfTask", "[I", true)
  | 6 => ("FountainNet$TaskList", "mostApart", "[I", true)
  | _ => ("FountainNet$TaskList", "size", "I", false)
def mD4 : Nat → FieldType := fun k => match k with
  | 0 => .object "FountainNet$Garden"
  | 1 => .object "java/util/ArrayList"
  | 2 => .array .int
  | 3 => .array .int
  | 4 => .array .int
  | 5 => .array .int
  | 6 => .array .int
  | _ => .int
def mF5 : u_T := fun k => match k with
  | 0 => ("FountainNet$LeakSearch", "garden", "LFountainNet$Garden;", true)
  | 1 => ("FountainNet$LeakSearch", "tolerance", "I", false)
  | 2 => ("FountainNet$LeakSearch", "firstJoint", "I", false)
  | 3 => ("FountainNet$LeakSearch", "firstLeak", "I", false)
  | 4 => ("FountainNet$LeakSearch", "secondJoint", "I", false)
  | _ => ("FountainNet$LeakSearch", "secondLeak", "I", false)
def mD5 : Nat → FieldType := fun k => match k with
  | 0 => .object "FountainNet$Garden"
  | 1 => .int
  | 2 => .int
  | 3 => .int
  | 4 => .int
  | _ => .int
def mF6 : u_T := fun k => match k with
  | 0 => ("FountainNet$Tank", "number", "I", true)
  | 1 => ("FountainNet$Tank", "floor", "I", true)
  | 2 => ("FountainNet$Tank", "area", "I", true)
  | 3 => ("FountainNet$Tank", "depth", "I", true)
  | 4 => ("FountainNet$Tank", "spring", "I", false)
  | 5 => ("FountainNet$Tank", "water", "I", false)
  | 6 => ("FountainNet$Tank", "spilled", "I", false)
  | 7 => ("FountainNet$Tank", "lack", "I", false)
  | 8 => ("FountainNet$Tank", "flowNow", "I", false)
  | _ => ("FountainNet$Tank", "strollWater", "I", false)
def mD6 : Nat → FieldType := fun k => match k with
  | 0 => .int
  | 1 => .int
  | 2 => .int
  | 3 => .int
  | 4 => .int
  | 5 => .int
  | 6 => .int
  | 7 => .int
  | 8 => .int
  | _ => .int
def mF7 : u_T := fun k => match k with
  | 0 => ("FountainNet$Joint", "number", "I", true)
  | 1 => ("FountainNet$Joint", "feeder", "LFountainNet$Tank;", true)
  | 2 => ("FountainNet$Joint", "ahead", "LFountainNet$Joint;", true)
  | 3 => ("FountainNet$Joint", "height", "I", true)
  | 4 => ("FountainNet$Joint", "length", "I", true)
  | 5 => ("FountainNet$Joint", "size", "I", false)
  | 6 => ("FountainNet$Joint", "toldLeak", "I", false)
  | 7 => ("FountainNet$Joint", "triedLeak", "I", false)
  | 8 => ("FountainNet$Joint", "isEmpty", "Z", false)
  | 9 => ("FountainNet$Joint", "jetThere", "LFountainNet$Jet;", false)
  | 10 => ("FountainNet$Joint", "flowNow", "I", false)
  | 11 => ("FountainNet$Joint", "lossesTo", "I", false)
  | 12 => ("FountainNet$Joint", "isDone", "Z", false)
  | _ => ("FountainNet$Joint", "notDoneBehind", "I", false)
def mD7 : Nat → FieldType := fun k => match k with
  | 0 => .int
  | 1 => .object "FountainNet$Tank"
  | 2 => .object "FountainNet$Joint"
  | 3 => .int
  | 4 => .int
  | 5 => .int
  | 6 => .int
  | 7 => .int
  | 8 => .boolean
  | 9 => .object "FountainNet$Jet"
  | 10 => .int
  | 11 => .int
  | 12 => .boolean
  | _ => .int
def mF8 : u_T := fun k => match k with
  | 0 => ("FountainNet$Jet", "number", "I", true)
  | 1 => ("FountainNet$Jet", "bit", "I", true)
  | 2 => ("FountainNet$Jet", "place", "LFountainNet$Joint;", true)
  | 3 => ("FountainNet$Jet", "draw", "I", true)
  | _ => ("FountainNet$Jet", "reading", "I", false)
def mD8 : Nat → FieldType := fun k => match k with
  | 0 => .int
  | 1 => .int
  | 2 => .object "FountainNet$Joint"
  | 3 => .int
  | _ => .int
def mF9 : u_T := fun k => match k with
  | 0 => ("FountainNet$View", "jetSet", "I", true)
  | 1 => ("FountainNet$View", "from", "I", true)
  | 2 => ("FountainNet$View", "to", "I", true)
  | _ => ("FountainNet$View", "rise", "I", true)
def mD9 : Nat → FieldType := fun k => match k with
  | 0 => .int
  | 1 => .int
  | 2 => .int
  | _ => .int
def mF10 : u_T := fun k => match k with
  | 0 => ("FountainNetModel", "refusals", "[I", true)
  | 1 => ("FountainNetModel", "minute", "I", false)
  | 2 => ("FountainNetModel", "tanks", "I", false)
  | 3 => ("FountainNetModel", "joints", "I", false)
  | 4 => ("FountainNetModel", "jets", "I", false)
  | 5 => ("FountainNetModel", "views", "I", false)
  | 6 => ("FountainNetModel", "pace", "I", false)
  | 7 => ("FountainNetModel", "tol", "I", false)
  | 8 => ("FountainNetModel", "floor", "[I", true)
  | 9 => ("FountainNetModel", "area", "[I", true)
  | 10 => ("FountainNetModel", "depth", "[I", true)
  | 11 => ("FountainNetModel", "spring", "[I", true)
  | 12 => ("FountainNetModel", "water", "[I", true)
  | 13 => ("FountainNetModel", "spilled", "[I", true)
  | 14 => ("FountainNetModel", "lack", "[I", true)
  | 15 => ("FountainNetModel", "ahead", "[I", true)
  | 16 => ("FountainNetModel", "feeder", "[I", true)
  | 17 => ("FountainNetModel", "height", "[I", true)
  | 18 => ("FountainNetModel", "size", "[I", true)
  | 19 => ("FountainNetModel", "length", "[I", true)
  | 20 => ("FountainNetModel", "leak", "[I", true)
  | 21 => ("FountainNetModel", "jetAt", "[I", true)
  | 22 => ("FountainNetModel", "isEmpty", "[Z", true)
  | 23 => ("FountainNetModel", "joint", "[I", true)
  | 24 => ("FountainNetModel", "draw", "[I", true)
  | 25 => ("FountainNetModel", "gauge", "[I", true)
  | 26 => ("FountainNetModel", "plays", "[Z", true)
  | 27 => ("FountainNetModel", "viewSet", "[I", true)
  | 28 => ("FountainNetModel", "viewFrom", "[I", true)
  | 29 => ("FountainNetModel", "viewTo", "[I", true)
  | 30 => ("FountainNetModel", "viewRise", "[I", true)
  | 31 => ("FountainNetModel", "leaks", "[I", true)
  | 32 => ("FountainNetModel", "flow", "[I", true)
  | 33 => ("FountainNetModel", "loss", "[I", true)
  | 34 => ("FountainNetModel", "head", "[I", true)
  | 35 => ("FountainNetModel", "level", "[I", true)
  | 36 => ("FountainNetModel", "has", "[I", true)
  | 37 => ("FountainNetModel", "out", "[I", true)
  | 38 => ("FountainNetModel", "on", "[Z", true)
  | 39 => ("FountainNetModel", "lost", "[I", true)
  | 40 => ("FountainNetModel", "spill", "I", false)
  | 41 => ("FountainNetModel", "went", "I", false)
  | 42 => ("FountainNetModel", "lacked", "I", false)
  | 43 => ("FountainNetModel", "failsAt", "I", false)
  | 44 => ("FountainNetModel", "failsView", "I", false)
  | 45 => ("FountainNetModel", "failsJet", "I", false)
  | 46 => ("FountainNetModel", "walked", "I", false)
  | 47 => ("FountainNetModel", "lowest", "I", false)
  | 48 => ("FountainNetModel", "leastRise", "I", false)
  | 49 => ("FountainNetModel", "taskAt", "[I", true)
  | 50 => ("FountainNetModel", "taskJet", "[I", true)
  | 51 => ("FountainNetModel", "taskOpen", "[I", true)
  | 52 => ("FountainNetModel", "taskMany", "I", false)
  | 53 => ("FountainNetModel", "behind", "[I", true)
  | 54 => ("FountainNetModel", "seen", "[Z", true)
  | 55 => ("FountainNetModel", "isExplained", "Z", false)
  | 56 => ("FountainNetModel", "how", "I", false)
  | 57 => ("FountainNetModel", "firstJoint", "I", false)
  | 58 => ("FountainNetModel", "firstLeak", "I", false)
  | 59 => ("FountainNetModel", "secondJoint", "I", false)
  | 60 => ("FountainNetModel", "secondLeak", "I", false)
  | 61 => ("FountainNetModel", "rivals", "I", false)
  | _ => ("FountainNetModel", "trial", "[Z", true)
def mD10 : Nat → FieldType := fun k => match k with
  | 0 => .array .int
  | 1 => .int
  | 2 => .int
  | 3 => .int
  | 4 => .int
  | 5 => .int
  | 6 => .int
  | 7 => .int
  | 8 => .array .int
  | 9 => .array .int
  | 10 => .array .int
  | 11 => .array .int
  | 12 => .array .int
  | 13 => .array .int
  | 14 => .array .int
  | 15 => .array .int
  | 16 => .array .int
  | 17 => .array .int
  | 18 => .array .int
  | 19 => .array .int
  | 20 => .array .int
  | 21 => .array .int
  | 22 => .array .boolean
  | 23 => .array .int
  | 24 => .array .int
  | 25 => .array .int
  | 26 => .array .boolean
  | 27 => .array .int
  | 28 => .array .int
  | 29 => .array .int
  | 30 => .array .int
  | 31 => .array .int
  | 32 => .array .int
  | 33 => .array .int
  | 34 => .array .int
  | 35 => .array .int
  | 36 => .array .int
  | 37 => .array .int
  | 38 => .array .boolean
  | 39 => .array .int
  | 40 => .int
  | 41 => .int
  | 42 => .int
  | 43 => .int
  | 44 => .int
  | 45 => .int
  | 46 => .int
  | 47 => .int
  | 48 => .int
  | 49 => .array .int
  | 50 => .array .int
  | 51 => .array .int
  | 52 => .int
  | 53 => .array .int
  | 54 => .array .boolean
  | 55 => .boolean
  | 56 => .int
  | 57 => .int
  | 58 => .int
  | 59 => .int
  | 60 => .int
  | 61 => .int
  | _ => .array .boolean
def mkd (k : Nat) : vw_C := match k with
  | 0 => ("FountainNet", mF0, 7)
  | 1 => ("FountainNet$Garden", mF1, 5)
  | 2 => ("java/util/ArrayList", mF2, 3)
  | 3 => ("FountainNet$Stroll", mF3, 8)
  | 4 => ("FountainNet$TaskList", mF4, 8)
  | 5 => ("FountainNet$LeakSearch", mF5, 6)
  | 6 => ("FountainNet$Tank", mF6, 10)
  | 7 => ("FountainNet$Joint", mF7, 14)
  | 8 => ("FountainNet$Jet", mF8, 5)
  | 9 => ("FountainNet$View", mF9, 4)
  | _ => ("FountainNetModel", mF10, 63)
def mty (k : Nat) : Nat → FieldType := match k with
  | 0 => mD0
  | 1 => mD1
  | 2 => mD2
  | 3 => mD3
  | 4 => mD4
  | 5 => mD5
  | 6 => mD6
  | 7 => mD7
  | 8 => mD8
  | 9 => mD9
  | _ => mD10
def mcl : List vw_C := (List.range 11).map mkd
/-- is a field a pointer -/
def misR (t : FieldType) : Bool := match t with
  | .object _ => true
  | .array _ => true
  | _ => false
def mfv (ad : Nat → Nat → Nat) (h : mH) (k n f : Nat) : Value := if misR (mty k f) = true then mco ad (vp (hP h k n f)) else .int (hI h k n f)
def mfs (ad : Nat → Nat → Nat) (h : mH) (k n : Nat) : List Value := (List.range (mkd k).2.2).map (mfv ad h k n)
def mpt (ad : Nat → Nat → Nat) (h : mH) (n : Nat) : Nat → Option Nat := fun j => (hP h 13 n j).map fun r => ad r.1 r.2
def ment (g : mG) (ad : Nat → Nat → Nat) (h : mH) (k n : Nat) : va_E :=
  if k < 11 then .inr (k, mfs ad h k n)
  else if k = 11 then .inl (g.2.2.1.1, hL h 11 n, .inl (hI h 11 n))
  else if k = 12 then .inl (g.2.2.1.2.1, hL h 12 n, .inl (hI h 12 n))
  else .inl (g.2.2.1.2.2, hL h 13 n, .inr (.inr (.inr (.inr (mpt ad h n)))))
def mOld (g : mG) (U : State) (H : Heap) : Prop :=
  va_Z "java/util/ArrayList" "DEFAULTCAPACITY_EMPTY_ELEMENTDATA" "[Ljava/lang/Object;" (.ref g.2.2.2.1.2.1) (mA g) U H ∧ va_X g.2.2.2.1.1 g.2.2.2.2.1 g.2.2.2.2.2 U H ∧
  (∃ cell : Cell, H[g.2.2.2.1.2.1]? = some cell ∧ U.isArrayOf cell (.object "java/lang/Object") ∧ cell.vm ≠ .unknown ∧ cell.slots.size = 0) ∧ g.2.2.2.1.1 < g.2.2.2.1.2.2.1 ∧ g.2.2.2.1.2.1 < g.2.2.2.1.2.2.1 ∧ g.2.2.2.1.2.2.1 ≤ H.size ∧ va_Mi "[Ljava/lang/Object;" g.2.2.2.1.2.2.2 U ∧
  (∀ k, k < 11 → va_Nw (.castable (mkd k).1 "java/lang/Object") U) ∧ va_AO "java/lang/Object" U ∧ va_Dc U
def mExt (h0 : mH) (ad0 : Nat → Nat → Nat) (h : mH) (ad : Nat → Nat → Nat) : Prop := ∀ k n : Nat, n < hC h0 k → n < hC h k ∧ ad k n = ad0 k n
/-- what holds of the cells that were there before, and that pointers point at cells -/
def mCo (g : mG) (ad : Nat → Nat → Nat) (h : mH) : Prop :=
  (ad 14 0 = g.2.2.2.1.1 ∧ ad 15 0 = g.2.2.2.1.2.1 ∧ hC h 14 = 1 ∧ hC h 15 = 1 ∧ hL h 14 0 = g.2.2.2.2.1 ∧ hL h 15 0 = 0 ∧ hI h 14 0 = g.2.2.2.2.2 ∧ ad 16 0 = g.2.2.2.1.2.2.2 ∧ hC h 16 = 1) ∧
  (∀ (k n f : Nat) (r : Nat × Nat), hP h k n f = some r → r.2 < hC h r.1) ∧ (∀ k : Nat, 17 ≤ k → hC h k = 0)
def mSm (g : mG) (ad : Nat → Nat → Nat) (h : mH) (H : Heap) (ws : va_W) (ix : Nat → Nat → Nat) : Prop :=
  (∀ k n : Nat, k < 14 → n < hC h k → ws[ix k n]? = some (ad k n, ment g ad h k n)) ∧
  (∀ k n k' n' : Nat, k < 14 → n < hC h k → k' < 14 → n' < hC h k' → ix k n = ix k' n' → k = k' ∧ n = n') ∧
  va_P g.2.1 mcl ws H ∧ va_D (mA g) ws ∧ mCo g ad h
def mSim (g : mG) (ad : Nat → Nat → Nat) (h : mH) (H : Heap) : Prop := ∃ (ws : va_W) (ix : Nat → Nat → Nat), mSm g ad h H ws ix
/-- a method: its name, bytes, locals, type of its answer -/
abbrev mMe : Type := MethodName × ByteArray × Nat × Option FieldType
def mLoc (ad : Nat → Nat → Nat) (h : mH) (n : Nat) (L : List (Option mV)) (ls : Array Slot) : Prop :=
  L.length = n ∧ ls.size = n ∧ lv_wf ls ∧ ∀ (i : Nat) (v : mV), L[i]? = some (some v) → ls[i]? = some (.val (mco ad v)) ∧ mwf h v
def mX (g : mG) (m : mMe) (d mc ms : Nat) (L : List (Option mV)) (st : List mV) (h : mH) (p : Program) (R : Room) (s : State) (mi : MethodId) (args : Array Value) (meth : Method) (c : Code) (H : Heap) (ls : Array Slot) (locs : List Loc) (cells slots : Nat) (ad ad0 : Nat → Nat → Nat) (h0 : mH) : Prop :=
  (p.tables.exec = Jvm.exec ∧ c.code = m.2.1 ∧ c.maxLocals = m.2.2.1 ∧ s.vm.findClass m.1.cls = some mi.cls ∧ (∀ w ∈ mTb, w.before args s = true) ∧ meth.sig.returnType = m.2.2.2 ∧ meth.locks = false ∧ (m.1.name = "<init>" → meth.name = "<init>")) ∧
  (d ≤ R.frames ∧ 40 * d ≤ R.locals ∧ cells + mc ≤ R.cells ∧ slots + ms ≤ R.slots) ∧
  (mOld g s s.heap ∧ va_K g.2.1 mcl (mtys g) s) ∧ (mExt h0 ad0 h ad ∧ mSim g ad h H) ∧ (mLoc ad h m.2.2.1 L ls ∧ ∀ v ∈ st, mwf h v) ∧ va_S (mA g) s.heap H locs
def mRet (m : mMe) (pc : Nat) : Option mV → Prop
  | none => m.2.2.2 = none ∧ decode m.2.1 pc = .ok (.return_, 1)
  | some (.inl x) => decode m.2.1 pc = .ok (.ireturn, 1) ∧ ∃ ty, m.2.2.2 = some ty ∧ narrow ty (.int x) = .int x
  | some (.inr (.inl _)) => False
  | some (.inr (.inr _)) => decode m.2.1 pc = .ok (.areturn, 1) ∧ ∃ ty, m.2.2.2 = some ty ∧ ((∃ n, ty = .object n) ∨ ∃ t, ty = .array t)
def mEnd (g : mG) (m : mMe) (Q : Option mV → mH → Prop) (p : Program) (R : Room) (e : Env) (s : State) (mi : MethodId) (args : Array Value) (below : List Frame) (meth : Method) (c : Code) (ad0 : Nat → Nat → Nat) (h0 : mH) (Qf : State → Prop) : Prop :=
  ∀ {H : Heap} {ls : Array Slot} {locs : List Loc} {pc : Nat} {h : mH} {ad : Nat → Nat → Nat} {v : Option mV} {cells slots : Nat}, mRet m pc v → Q v h → mExt h0 ad0 h ad → mSim g ad h H → (∀ x, v = some x → mwf h x) → va_S (mA g) s.heap H locs → cells ≤ R.cells → slots ≤ R.slots →
    W p g.1 e R s mi args below meth c H locs cells slots Qf (F0 mi pc ls (v.map (mco ad)).toList)
/-- THE JUDGEMENT -/
def mT (g : mG) (m : mMe) (d mc ms pc : Nat) (L : List (Option mV)) (st : List mV) (h : mH) (Q : Option mV → mH → Prop) : Prop :=
  ∀ (p : Program) (R : Room) (e : Env) (s : State) (mi : MethodId) (args : Array Value) (below : List Frame) (meth : Method) (c : Code) (H : Heap) (ls : Array Slot) (locs : List Loc) (cells slots : Nat) (ad ad0 : Nat → Nat → Nat) (h0 : mH) (Qf : State → Prop),
    mX g m d mc ms L st h p R s mi args meth c H ls locs cells slots ad ad0 h0 → mEnd g m Q p R e s mi args below meth c ad0 h0 Qf → W p g.1 e R s mi args below meth c H locs cells slots Qf (F0 mi pc ls (st.map (mco ad)))
theorem mT.use {g : mG} {m : mMe} {d mc ms pc : Nat} {L : List (Option mV)} {st : List mV} {h : mH} {Q : Option mV → mH → Prop} (kk : mT g m d mc ms pc L st h Q) {p : Program} {R : Room} {e : Env} {s : State} {mi : MethodId} {args : Array Value} {below : List Frame} {meth : Method} {c : Code} {H : Heap} {ls : Array Slot} {locs : List Loc} {cells slots : Nat} {ad ad0 : Nat → Nat → Nat} {h0 : mH} {Qf : State → Prop}
    (X : mX g m d mc ms L st h p R s mi args meth c H ls locs cells slots ad ad0 h0) (E : mEnd g m Q p R e s mi args below meth c ad0 h0 Qf) : W p g.1 e R s mi args below meth c H locs cells slots Qf (F0 mi pc ls (st.map (mco ad))) := kk p R e s mi args below meth c H ls locs cells slots ad ad0 h0 Qf X E
theorem mX.to {g : mG} {m : mMe} {d mc ms : Nat} {L L' : List (Option mV)} {st st' : List mV} {h : mH} {p : Program} {R : Room} {s : State} {mi : MethodId} {args : Array Value} {meth : Method} {c : Code} {H : Heap} {ls ls' : Array Slot} {locs : List Loc} {cells slots : Nat} {ad ad0 : Nat → Nat → Nat} {h0 : mH}
    (X : mX g m d mc ms L st h p R s mi args meth c H ls locs cells slots ad ad0 h0) (h1 : mLoc ad h m.2.2.1 L' ls') (h2 : ∀ v ∈ st', mwf h v) : mX g m d mc ms L' st' h p R s mi args meth c H ls' locs cells slots ad ad0 h0 := ⟨X.1, X.2.1, X.2.2.1, X.2.2.2.1, ⟨h1, h2⟩, X.2.2.2.2.2⟩
end
section
/-! rules: locals, stack, numbers, branches -/
def mAs (ad : Nat → Nat → Nat) (L : List (Option mV)) : List (Nat × Value) := L.zipIdx.filterMap fun q => q.1.map fun v => (q.2, mco ad v)
theorem mAs_mem {ad : Nat → Nat → Nat} {L : List (Option mV)} {i : Nat} {w : Value} : (i, w) ∈ mAs ad L ↔ ∃ v, L[i]? = some (some v) ∧ w = mco ad v := by
  unfold mAs
  rw [List.mem_filterMap]
  constructor
  · rintro ⟨⟨o, j⟩, hm, he⟩
    rw [List.mem_zipIdx_iff_getElem?] at hm
    cases o with
    | none => cases he
    | some v =>
      simp only [Option.map_some, Option.some.injEq, Prod.mk.injEq] at he
      obtain ⟨rfl, rfl⟩ := he
      exact ⟨v, hm, rfl⟩
  · rintro ⟨v, hm, rfl⟩
    exact ⟨(some v, i), List.mem_zipIdx_iff_getElem?.mpr hm, rfl⟩
theorem mLoc.has {ad : Nat → Nat → Nat} {h : mH} {n : Nat} {L : List (Option mV)} {ls : Array Slot} (X : mLoc ad h n L ls) : lv_has ls n (mAs ad L) := by
  refine ⟨X.2.1, X.2.2.1, ?_⟩
  rintro ⟨i, w⟩ hq
  obtain ⟨v, hv, rfl⟩ := mAs_mem.mp hq
  exact (X.2.2.2 i v hv).1
/-- no long begins just ahead of this place -/
def mOkS (L : List (Option mV)) : Nat → Bool
  | 0 => true
  | j + 1 => match L[j]? with
    | some (some (.inr (.inl _))) => false
    | _ => true
theorem mco_cat2 {ad : Nat → Nat → Nat} {v : mV} (h : (mco ad v).category = 2) : ∃ x, v = vl x := by
  rcases v with x | x | r | r
  · cases h
  · exact ⟨x, rfl⟩
  · cases h
  · cases h
theorem mLoc.store1 {ad : Nat → Nat → Nat} {h : mH} {n i : Nat} {L : List (Option mV)} {ls ls' : Array Slot} {v : mV} (X : mLoc ad h n L ls) (hi : i < n) (hw : mwf h v) (hk : mOkS L i = true)
    (hs : lv_has ls' n ((i, mco ad v) :: (mAs ad L).filter (fun q => !(q.1 == i) && !(q.1 + 1 == i && q.2.category == 2)))) : mLoc ad h n (L.set i (some v)) ls' := by
  refine ⟨by rw [List.length_set]; exact X.1, hs.1, hs.2.1, ?_⟩
  intro j w hj
  by_cases hji : j = i
  · subst hji
    rw [List.getElem?_set_self (by rw [X.1]; exact hi)] at hj
    cases hj
    exact ⟨hs.2.2 (j, mco ad v) List.mem_cons_self, hw⟩
  · rw [List.getElem?_set_ne (fun q => hji q.symm)] at hj
    refine ⟨hs.2.2 (j, mco ad w) (List.mem_cons_of_mem _ (List.mem_filter.mpr ⟨mAs_mem.mpr ⟨w, hj, rfl⟩, ?_⟩)), (X.2.2.2 j w hj).2⟩
    have h1 : ¬ (j + 1 = i ∧ (mco ad w).category = 2) := by
      rintro ⟨e1, e2⟩
      obtain ⟨x, rfl⟩ := mco_cat2 e2
      subst e1
      simp only [mOkS, hj] at hk
      cases hk
    simp only [Bool.and_eq_true, Bool.not_eq_true', beq_eq_false_iff_ne, ne_eq, Bool.and_eq_false_iff]
    refine ⟨hji, ?_⟩
    by_cases h2 : j + 1 = i
    · exact Or.inr (fun q => h1 ⟨h2, q⟩)
    · exact Or.inl h2
theorem mLoc.store2 {ad : Nat → Nat → Nat} {h : mH} {n i : Nat} {L : List (Option mV)} {ls ls' : Array Slot} {v : mV} (X : mLoc ad h n L ls) (hi : i + 1 < n) (hw : mwf h v) (hk : mOkS L i = true)
    (hs : lv_has ls' n ((i, mco ad v) :: (mAs ad L).filter (fun q => !(q.1 == i) && (!(q.1 == i + 1) && !(q.1 + 1 == i && q.2.category == 2))))) : mLoc ad h n ((L.set i (some v)).set (i + 1) none) ls' := by
  refine ⟨by rw [List.length_set, List.length_set]; exact X.1, hs.1, hs.2.1, ?_⟩
  intro j w hj
  by_cases hj2 : j = i + 1
  · subst hj2
    rw [List.getElem?_set_self (by rw [List.length_set, X.1]; exact hi)] at hj
    cases hj
  rw [List.getElem?_set_ne (fun q => hj2 q.symm)] at hj
  by_cases hji : j = i
  · subst hji
    rw [List.getElem?_set_self (by rw [X.1]; omega)] at hj
    cases hj
    exact ⟨hs.2.2 (j, mco ad v) List.mem_cons_self, hw⟩
  · rw [List.getElem?_set_ne (fun q => hji q.symm)] at hj
    refine ⟨hs.2.2 (j, mco ad w) (List.mem_cons_of_mem _ (List.mem_filter.mpr ⟨mAs_mem.mpr ⟨w, hj, rfl⟩, ?_⟩)), (X.2.2.2 j w hj).2⟩
    have h1 : ¬ (j + 1 = i ∧ (mco ad w).category = 2) := by
      rintro ⟨e1, e2⟩
      obtain ⟨x, rfl⟩ := mco_cat2 e2
      subst e1
      simp only [mOkS, hj] at hk
      cases hk
    simp only [Bool.and_eq_true, Bool.not_eq_true', beq_eq_false_iff_ne, ne_eq, Bool.and_eq_false_iff]
    refine ⟨hji, hj2, ?_⟩
    by_cases h2 : j + 1 = i
    · exact Or.inr (fun q => h1 ⟨h2, q⟩)
    · exact Or.inl h2
section TR
variable {g : mG} {m : mMe} {d mc ms pc : Nat} {L : List (Option mV)} {st : List mV} {h : mH} {Q : Option mV → mH → Prop}
theorem tr_iconst {n : Int} {v : Int32} (hc : decode m.2.1 pc = .ok (.iconst n, 1)) (hv : Int32.ofInt n = v) (kk : mT g m d mc ms (pc + 1) L (vi v :: st) h Q) : mT g m d mc ms pc L (st) h Q := by
  intro p R e s mi args below meth c H ls locs cells slots ad ad0 h0 Qf X E
  exact lv_iconst X.1.1 X.1.2.1 hc hv (kk.use (X.to X.2.2.2.2.1.1 (List.forall_mem_cons.mpr ⟨trivial, X.2.2.2.2.1.2⟩)) E)
theorem tr_bipush {n : Int} {v : Int32} (hc : decode m.2.1 pc = .ok (.bipush n, 2)) (hv : (Int8.ofInt n).toInt32 = v) (kk : mT g m d mc ms (pc + 2) L (vi v :: st) h Q) : mT g m d mc ms pc L (st) h Q := by
  intro p R e s mi args below meth c H ls locs cells slots ad ad0 h0 Qf X E
  exact lv_bipush X.1.1 X.1.2.1 hc hv (kk.use (X.to X.2.2.2.2.1.1 (List.forall_mem_cons.mpr ⟨trivial, X.2.2.2.2.1.2⟩)) E)
theorem tr_sipush {n : Int} {v : Int32} (hc : decode m.2.1 pc = .ok (.sipush n, 3)) (hv : (Int16.ofInt n).toInt32 = v) (kk : mT g m d mc ms (pc + 3) L (vi v :: st) h Q) : mT g m d mc ms pc L (st) h Q := by
  intro p R e s mi args below meth c H ls locs cells slots ad ad0 h0 Qf X E
  exact lv_sipush X.1.1 X.1.2.1 hc hv (kk.use (X.to X.2.2.2.2.1.1 (List.forall_mem_cons.mpr ⟨trivial, X.2.2.2.2.1.2⟩)) E)
theorem tr_lconst {n : Fin 2} {v : Int64} (hc : decode m.2.1 pc = .ok (.lconst n, 1)) (hv : Int64.ofNat (n : Nat) = v) (kk : mT g m d mc ms (pc + 1) L (vl v :: st) h Q) : mT g m d mc ms pc L (st) h Q := by
  intro p R e s mi args below meth c H ls locs cells slots ad ad0 h0 Qf X E
  exact lv_lconst X.1.1 X.1.2.1 hc hv (kk.use (X.to X.2.2.2.2.1.1 (List.forall_mem_cons.mpr ⟨trivial, X.2.2.2.2.1.2⟩)) E)
theorem tr_null  (hc : decode m.2.1 pc = .ok (.aconst_null, 1))  (kk : mT g m d mc ms (pc + 1) L (vn :: st) h Q) : mT g m d mc ms pc L (st) h Q := by
  intro p R e s mi args below meth c H ls locs cells slots ad ad0 h0 Qf X E
  exact lv_null X.1.1 X.1.2.1 hc (kk.use (X.to X.2.2.2.2.1.1 (List.forall_mem_cons.mpr ⟨trivial, X.2.2.2.2.1.2⟩)) E)
theorem tr_iload_n {k : Fin 4} (i : Nat) {x : Int32} (hc : decode m.2.1 pc = .ok (.iload_n k, 1)) (hi : (k : Nat) = i) (hl : L[i]? = some (some (vi x))) (kk : mT g m d mc ms (pc + 1) L (vi x :: st) h Q) : mT g m d mc ms pc L (st) h Q := by
  intro p R e s mi args below meth c H ls locs cells slots ad ad0 h0 Qf X E
  exact lv_iload_n X.1.1 X.1.2.1 hc hi (X.2.2.2.2.1.1.2.2.2 _ _ hl).1 (kk.use (X.to X.2.2.2.2.1.1 (List.forall_mem_cons.mpr ⟨trivial, X.2.2.2.2.1.2⟩)) E)
theorem tr_lload_n {k : Fin 4} (i : Nat) {x : Int64} (hc : decode m.2.1 pc = .ok (.lload_n k, 1)) (hi : (k : Nat) = i) (hl : L[i]? = some (some (vl x))) (kk : mT g m d mc ms (pc + 1) L (vl x :: st) h Q) : mT g m d mc ms pc L (st) h Q := by
  intro p R e s mi args below meth c H ls locs cells slots ad ad0 h0 Qf X E
  exact lv_lload_n X.1.1 X.1.2.1 hc hi (X.2.2.2.2.1.1.2.2.2 _ _ hl).1 (kk.use (X.to X.2.2.2.2.1.1 (List.forall_mem_cons.mpr ⟨trivial, X.2.2.2.2.1.2⟩)) E)
theorem tr_iload {i : Nat} {x : Int32} (hc : decode m.2.1 pc = .ok (.iload i, 2)) (hl : L[i]? = some (some (vi x))) (kk : mT g m d mc ms (pc + 2) L (vi x :: st) h Q) : mT g m d mc ms pc L (st) h Q := by
  intro p R e s mi args below meth c H ls locs cells slots ad ad0 h0 Qf X E
  exact lv_iload X.1.1 X.1.2.1 hc (X.2.2.2.2.1.1.2.2.2 _ _ hl).1 (kk.use (X.to X.2.2.2.2.1.1 (List.forall_mem_cons.mpr ⟨trivial, X.2.2.2.2.1.2⟩)) E)
theorem tr_aload_n {k : Fin 4} (i : Nat) {r : Option (Nat × Nat)} (hc : decode m.2.1 pc = .ok (.aload_n k, 1)) (hi : (k : Nat) = i) (hl : L[i]? = some (some (vp r))) (kk : mT g m d mc ms (pc + 1) L (vp r :: st) h Q) : mT g m d mc ms pc L (st) h Q := by
  intro p R e s mi args below meth c H ls locs cells slots ad ad0 h0 Qf X E
  have hw := X.2.2.2.2.1.1.2.2.2 _ _ hl
  have kk' := kk.use (X.to X.2.2.2.2.1.1 (List.forall_mem_cons.mpr ⟨hw.2, X.2.2.2.2.1.2⟩)) E
  cases r with
  | none => exact lv_aload_nN X.1.1 X.1.2.1 hc hi hw.1 kk'
  | some r => exact lv_aload_n X.1.1 X.1.2.1 hc hi hw.1 kk'
theorem tr_aload {i : Nat} {r : Option (Nat × Nat)} (hc : decode m.2.1 pc = .ok (.aload i, 2)) (hl : L[i]? = some (some (vp r))) (kk : mT g m d mc ms (pc + 2) L (vp r :: st) h Q) : mT g m d mc ms pc L (st) h Q := by
  intro p R e s mi args below meth c H ls locs cells slots ad ad0 h0 Qf X E
  have hw := X.2.2.2.2.1.1.2.2.2 _ _ hl
  have kk' := kk.use (X.to X.2.2.2.2.1.1 (List.forall_mem_cons.mpr ⟨hw.2, X.2.2.2.2.1.2⟩)) E
  cases r with
  | none => exact lv_aloadN X.1.1 X.1.2.1 hc hw.1 kk'
  | some r => exact lv_aload X.1.1 X.1.2.1 hc hw.1 kk'
theorem tr_istore_n {k : Fin 4} (i : Nat) {x : Int32} (hc : decode m.2.1 pc = .ok (.istore_n k, 1)) (hi : (k : Nat) = i) (hn : i < m.2.2.1) (hk : mOkS L i = true) (kk : mT g m d mc ms (pc + 1) (L.set i (some (vi x))) st h Q) : mT g m d mc ms pc L (vi x :: st) h Q := by
  intro p R e s mi args below meth c H ls locs cells slots ad ad0 h0 Qf X E
  have hw := List.forall_mem_cons.mp X.2.2.2.2.1.2
  exact lv_istore_n X.1.1 X.1.2.1 hc hi X.2.2.2.2.1.1.has hn rfl (fun ls' h' => kk.use (X.to (mLoc.store1 X.2.2.2.2.1.1 hn hw.1 hk h') hw.2) E)
theorem tr_istore {i : Nat} {x : Int32} (hc : decode m.2.1 pc = .ok (.istore i, 2)) (hn : i < m.2.2.1) (hk : mOkS L i = true) (kk : mT g m d mc ms (pc + 2) (L.set i (some (vi x))) st h Q) : mT g m d mc ms pc L (vi x :: st) h Q := by
  intro p R e s mi args below meth c H ls locs cells slots ad ad0 h0 Qf X E
  have hw := List.forall_mem_cons.mp X.2.2.2.2.1.2
  exact lv_istore X.1.1 X.1.2.1 hc X.2.2.2.2.1.1.has hn rfl (fun ls' h' => kk.use (X.to (mLoc.store1 X.2.2.2.2.1.1 hn hw.1 hk h') hw.2) E)
theorem tr_lstore_n {k : Fin 4} (i : Nat) {x : Int64} (hc : decode m.2.1 pc = .ok (.lstore_n k, 1)) (hi : (k : Nat) = i) (hn : i + 1 < m.2.2.1) (hk : mOkS L i = true) (kk : mT g m d mc ms (pc + 1) ((L.set i (some (vl x))).set (i + 1) none) st h Q) : mT g m d mc ms pc L (vl x :: st) h Q := by
  intro p R e s mi args below meth c H ls locs cells slots ad ad0 h0 Qf X E
  have hw := List.forall_mem_cons.mp X.2.2.2.2.1.2
  exact lv_lstore_n X.1.1 X.1.2.1 hc hi X.2.2.2.2.1.1.has hn rfl (fun ls' h' => kk.use (X.to (mLoc.store2 X.2.2.2.2.1.1 hn hw.1 hk h') hw.2) E)
theorem tr_astore_n {k : Fin 4} (i : Nat) {r : Option (Nat × Nat)} (hc : decode m.2.1 pc = .ok (.astore_n k, 1)) (hi : (k : Nat) = i) (hn : i < m.2.2.1) (hk : mOkS L i = true) (kk : mT g m d mc ms (pc + 1) (L.set i (some (vp r))) st h Q) : mT g m d mc ms pc L (vp r :: st) h Q := by
  intro p R e s mi args below meth c H ls locs cells slots ad ad0 h0 Qf X E
  have hw := List.forall_mem_cons.mp X.2.2.2.2.1.2
  have kk' : ∀ ls', mLoc ad h m.2.2.1 (L.set i (some (vp r))) ls' → W p g.1 e R s mi args below meth c H locs cells slots Qf (F0 mi (pc + 1) ls' (st.map (mco ad))) := fun ls' h' => kk.use (X.to h' hw.2) E
  cases r with
  | none => exact lv_astore_nN X.1.1 X.1.2.1 hc hi X.2.2.2.2.1.1.has hn rfl (fun ls' h' => kk' ls' (mLoc.store1 X.2.2.2.2.1.1 hn hw.1 hk h'))
  | some r => exact lv_astore_n X.1.1 X.1.2.1 hc hi X.2.2.2.2.1.1.has hn rfl (fun ls' h' => kk' ls' (mLoc.store1 X.2.2.2.2.1.1 hn hw.1 hk h'))
theorem tr_astore {i : Nat} {r : Option (Nat × Nat)} (hc : decode m.2.1 pc = .ok (.astore i, 2)) (hn : i < m.2.2.1) (hk : mOkS L i = true) (kk : mT g m d mc ms (pc + 2) (L.set i (some (vp r))) st h Q) : mT g m d mc ms pc L (vp r :: st) h Q := by
  intro p R e s mi args below meth c H ls locs cells slots ad ad0 h0 Qf X E
  have hw := List.forall_mem_cons.mp X.2.2.2.2.1.2
  have kk' : ∀ ls', mLoc ad h m.2.2.1 (L.set i (some (vp r))) ls' → W p g.1 e R s mi args below meth c H locs cells slots Qf (F0 mi (pc + 2) ls' (st.map (mco ad))) := fun ls' h' => kk.use (X.to h' hw.2) E
  cases r with
  | none => exact lv_astoreN X.1.1 X.1.2.1 hc X.2.2.2.2.1.1.has hn rfl (fun ls' h' => kk' ls' (mLoc.store1 X.2.2.2.2.1.1 hn hw.1 hk h'))
  | some r => exact lv_astore X.1.1 X.1.2.1 hc X.2.2.2.2.1.1.has hn rfl (fun ls' h' => kk' ls' (mLoc.store1 X.2.2.2.2.1.1 hn hw.1 hk h'))
theorem tr_iinc {i : Nat} {n : Int} {x v : Int32} (hc : decode m.2.1 pc = .ok (.iinc i n, 3)) (hl : L[i]? = some (some (vi x))) (hv : x + Int32.ofInt n = v) (hn : i < m.2.2.1) (hk : mOkS L i = true) (kk : mT g m d mc ms (pc + 3) (L.set i (some (vi v))) st h Q) : mT g m d mc ms pc L st h Q := by
  intro p R e s mi args below meth c H ls locs cells slots ad ad0 h0 Qf X E
  obtain ⟨k, hk1⟩ := List.getElem?_of_mem (mAs_mem (ad := ad).mpr ⟨_, hl, rfl⟩)
  exact lv_iinc (k := k) X.1.1 X.1.2.1 hc X.2.2.2.2.1.1.has hk1 hv hn rfl (fun ls' h' => kk.use (X.to (mLoc.store1 X.2.2.2.2.1.1 hn trivial hk h') X.2.2.2.2.1.2) E)
theorem tr_iadd {x y : Int32} (hc : decode m.2.1 pc = .ok (.iadd, 1))  (kk : mT g m d mc ms (pc + 1) L (vi (x + y) :: st) h Q) : mT g m d mc ms pc L (vi y :: vi x :: st) h Q := by
  intro p R e s mi args below meth c H ls locs cells slots ad ad0 h0 Qf X E
  exact lv_iadd X.1.1 X.1.2.1 hc (kk.use (X.to X.2.2.2.2.1.1 (List.forall_mem_cons.mpr ⟨trivial, (List.forall_mem_cons.mp (List.forall_mem_cons.mp X.2.2.2.2.1.2).2).2⟩)) E)
theorem tr_isub {x y : Int32} (hc : decode m.2.1 pc = .ok (.isub, 1))  (kk : mT g m d mc ms (pc + 1) L (vi (x - y) :: st) h Q) : mT g m d mc ms pc L (vi y :: vi x :: st) h Q := by
  intro p R e s mi args below meth c H ls locs cells slots ad ad0 h0 Qf X E
  exact lv_isub X.1.1 X.1.2.1 hc (kk.use (X.to X.2.2.2.2.1.1 (List.forall_mem_cons.mpr ⟨trivial, (List.forall_mem_cons.mp (List.forall_mem_cons.mp X.2.2.2.2.1.2).2).2⟩)) E)
theorem tr_imul {x y : Int32} (hc : decode m.2.1 pc = .ok (.imul, 1))  (kk : mT g m d mc ms (pc + 1) L (vi (x * y) :: st) h Q) : mT g m d mc ms pc L (vi y :: vi x :: st) h Q := by
  intro p R e s mi args below meth c H ls locs cells slots ad ad0 h0 Qf X E
  exact lv_imul X.1.1 X.1.2.1 hc (kk.use (X.to X.2.2.2.2.1.1 (List.forall_mem_cons.mpr ⟨trivial, (List.forall_mem_cons.mp (List.forall_mem_cons.mp X.2.2.2.2.1.2).2).2⟩)) E)
theorem tr_iand {x y : Int32} (hc : decode m.2.1 pc = .ok (.iand, 1))  (kk : mT g m d mc ms (pc + 1) L (vi (x &&& y) :: st) h Q) : mT g m d mc ms pc L (vi y :: vi x :: st) h Q := by
  intro p R e s mi args below meth c H ls locs cells slots ad ad0 h0 Qf X E
  exact lv_iand X.1.1 X.1.2.1 hc (kk.use (X.to X.2.2.2.2.1.1 (List.forall_mem_cons.mpr ⟨trivial, (List.forall_mem_cons.mp (List.forall_mem_cons.mp X.2.2.2.2.1.2).2).2⟩)) E)
theorem tr_ior {x y : Int32} (hc : decode m.2.1 pc = .ok (.ior, 1))  (kk : mT g m d mc ms (pc + 1) L (vi (x ||| y) :: st) h Q) : mT g m d mc ms pc L (vi y :: vi x :: st) h Q := by
  intro p R e s mi args below meth c H ls locs cells slots ad ad0 h0 Qf X E
  exact lv_ior X.1.1 X.1.2.1 hc (kk.use (X.to X.2.2.2.2.1.1 (List.forall_mem_cons.mpr ⟨trivial, (List.forall_mem_cons.mp (List.forall_mem_cons.mp X.2.2.2.2.1.2).2).2⟩)) E)
theorem tr_ixor {x y : Int32} (hc : decode m.2.1 pc = .ok (.ixor, 1))  (kk : mT g m d mc ms (pc + 1) L (vi (x ^^^ y) :: st) h Q) : mT g m d mc ms pc L (vi y :: vi x :: st) h Q := by
  intro p R e s mi args below meth c H ls locs cells slots ad ad0 h0 Qf X E
  exact lv_ixor X.1.1 X.1.2.1 hc (kk.use (X.to X.2.2.2.2.1.1 (List.forall_mem_cons.mpr ⟨trivial, (List.forall_mem_cons.mp (List.forall_mem_cons.mp X.2.2.2.2.1.2).2).2⟩)) E)
theorem tr_ishl {x y : Int32} (hc : decode m.2.1 pc = .ok (.ishl, 1))  (kk : mT g m d mc ms (pc + 1) L (vi (x <<< (y &&& 31)) :: st) h Q) : mT g m d mc ms pc L (vi y :: vi x :: st) h Q := by
  intro p R e s mi args below meth c H ls locs cells slots ad ad0 h0 Qf X E
  exact lv_ishl X.1.1 X.1.2.1 hc (kk.use (X.to X.2.2.2.2.1.1 (List.forall_mem_cons.mpr ⟨trivial, (List.forall_mem_cons.mp (List.forall_mem_cons.mp X.2.2.2.2.1.2).2).2⟩)) E)
theorem tr_ishr {x y : Int32} (hc : decode m.2.1 pc = .ok (.ishr, 1))  (kk : mT g m d mc ms (pc + 1) L (vi (x >>> (y &&& 31)) :: st) h Q) : mT g m d mc ms pc L (vi y :: vi x :: st) h Q := by
  intro p R e s mi args below meth c H ls locs cells slots ad ad0 h0 Qf X E
  exact lv_ishr X.1.1 X.1.2.1 hc (kk.use (X.to X.2.2.2.2.1.1 (List.forall_mem_cons.mpr ⟨trivial, (List.forall_mem_cons.mp (List.forall_mem_cons.mp X.2.2.2.2.1.2).2).2⟩)) E)
theorem tr_idiv {x y : Int32} (hc : decode m.2.1 pc = .ok (.idiv, 1)) (hne : ¬ y = 0) (kk : mT g m d mc ms (pc + 1) L (vi (x / y) :: st) h Q) : mT g m d mc ms pc L (vi y :: vi x :: st) h Q := by
  intro p R e s mi args below meth c H ls locs cells slots ad ad0 h0 Qf X E
  exact lv_idiv X.1.1 X.1.2.1 hc hne (kk.use (X.to X.2.2.2.2.1.1 (List.forall_mem_cons.mpr ⟨trivial, (List.forall_mem_cons.mp (List.forall_mem_cons.mp X.2.2.2.2.1.2).2).2⟩)) E)
theorem tr_ineg {x : Int32} (hc : decode m.2.1 pc = .ok (.ineg, 1))  (kk : mT g m d mc ms (pc + 1) L (vi (-x) :: st) h Q) : mT g m d mc ms pc L (vi x :: st) h Q := by
  intro p R e s mi args below meth c H ls locs cells slots ad ad0 h0 Qf X E
  exact lv_ineg X.1.1 X.1.2.1 hc (kk.use (X.to X.2.2.2.2.1.1 (List.forall_mem_cons.mpr ⟨trivial, (List.forall_mem_cons.mp X.2.2.2.2.1.2).2⟩)) E)
theorem tr_iushr {x y v : Int32} (hc : decode m.2.1 pc = .ok (.iushr, 1)) (hv : (x.toUInt32 >>> (y.toUInt32 &&& Int32.toUInt32 31)).toInt32 = v) (kk : mT g m d mc ms (pc + 1) L (vi v :: st) h Q) : mT g m d mc ms pc L (vi y :: vi x :: st) h Q := by
  intro p R e s mi args below meth c H ls locs cells slots ad ad0 h0 Qf X E
  exact lv_iushr X.1.1 X.1.2.1 hc hv (kk.use (X.to X.2.2.2.2.1.1 (List.forall_mem_cons.mpr ⟨trivial, (List.forall_mem_cons.mp (List.forall_mem_cons.mp X.2.2.2.2.1.2).2).2⟩)) E)
theorem tr_lmul {x y : Int64} (hc : decode m.2.1 pc = .ok (.lmul, 1))  (kk : mT g m d mc ms (pc + 1) L (vl (x * y) :: st) h Q) : mT g m d mc ms pc L (vl y :: vl x :: st) h Q := by
  intro p R e s mi args below meth c H ls locs cells slots ad ad0 h0 Qf X E
  exact lv_lmul X.1.1 X.1.2.1 hc (kk.use (X.to X.2.2.2.2.1.1 (List.forall_mem_cons.mpr ⟨trivial, (List.forall_mem_cons.mp (List.forall_mem_cons.mp X.2.2.2.2.1.2).2).2⟩)) E)
theorem tr_ldiv {x y : Int64} (hc : decode m.2.1 pc = .ok (.ldiv, 1)) (hne : ¬ y = 0) (kk : mT g m d mc ms (pc + 1) L (vl (x / y) :: st) h Q) : mT g m d mc ms pc L (vl y :: vl x :: st) h Q := by
  intro p R e s mi args below meth c H ls locs cells slots ad ad0 h0 Qf X E
  exact lv_ldiv X.1.1 X.1.2.1 hc hne (kk.use (X.to X.2.2.2.2.1.1 (List.forall_mem_cons.mpr ⟨trivial, (List.forall_mem_cons.mp (List.forall_mem_cons.mp X.2.2.2.2.1.2).2).2⟩)) E)
theorem tr_lcmp {x y : Int64} (hc : decode m.2.1 pc = .ok (.lcmp, 1))  (kk : mT g m d mc ms (pc + 1) L (vi (lg_cmp x y) :: st) h Q) : mT g m d mc ms pc L (vl y :: vl x :: st) h Q := by
  intro p R e s mi args below meth c H ls locs cells slots ad ad0 h0 Qf X E
  exact W.lcmp X.1.1 X.1.2.1 hc (kk.use (X.to X.2.2.2.2.1.1 (List.forall_mem_cons.mpr ⟨trivial, (List.forall_mem_cons.mp (List.forall_mem_cons.mp X.2.2.2.2.1.2).2).2⟩)) E)
theorem tr_i2l {x : Int32} (hc : decode m.2.1 pc = .ok (.i2l, 1))  (kk : mT g m d mc ms (pc + 1) L (vl x.toInt64 :: st) h Q) : mT g m d mc ms pc L (vi x :: st) h Q := by
  intro p R e s mi args below meth c H ls locs cells slots ad ad0 h0 Qf X E
  exact lv_i2l X.1.1 X.1.2.1 hc rfl (kk.use (X.to X.2.2.2.2.1.1 (List.forall_mem_cons.mpr ⟨trivial, (List.forall_mem_cons.mp X.2.2.2.2.1.2).2⟩)) E)
theorem tr_l2i {x : Int64} (hc : decode m.2.1 pc = .ok (.l2i, 1))  (kk : mT g m d mc ms (pc + 1) L (vi x.toInt32 :: st) h Q) : mT g m d mc ms pc L (vl x :: st) h Q := by
  intro p R e s mi args below meth c H ls locs cells slots ad ad0 h0 Qf X E
  exact lv_l2i X.1.1 X.1.2.1 hc rfl (kk.use (X.to X.2.2.2.2.1.1 (List.forall_mem_cons.mpr ⟨trivial, (List.forall_mem_cons.mp X.2.2.2.2.1.2).2⟩)) E)
def mc1 : mV → Bool
  | .inr (.inl _) => false
  | _ => true
theorem mc1_cat {ad : Nat → Nat → Nat} {v : mV} (h : mc1 v = true) : (mco ad v).category = 1 := by
  rcases v with x | x | r | r
  · rfl
  · cases h
  · rfl
  · rfl
theorem tr_dup {v : mV} (hc : decode m.2.1 pc = .ok (.dup, 1)) (hv : mc1 v = true) (kk : mT g m d mc ms (pc + 1) L (v :: v :: st) h Q) : mT g m d mc ms pc L (v :: st) h Q := by
  intro p R e s mi args below meth c H ls locs cells slots ad ad0 h0 Qf X E
  have hw := List.forall_mem_cons.mp X.2.2.2.2.1.2
  exact lv_dup X.1.1 X.1.2.1 hc (mc1_cat hv) (kk.use (X.to X.2.2.2.2.1.1 (List.forall_mem_cons.mpr ⟨hw.1, X.2.2.2.2.1.2⟩)) E)
theorem tr_pop {v : mV} (hc : decode m.2.1 pc = .ok (.pop, 1)) (hv : mc1 v = true) (kk : mT g m d mc ms (pc + 1) L (st) h Q) : mT g m d mc ms pc L (v :: st) h Q := by
  intro p R e s mi args below meth c H ls locs cells slots ad ad0 h0 Qf X E
  have hw := List.forall_mem_cons.mp X.2.2.2.2.1.2
  exact lv_pop X.1.1 X.1.2.1 hc (mc1_cat hv) (kk.use (X.to X.2.2.2.2.1.1 hw.2) E)
theorem tr_dup_x1 {v w : mV} (hc : decode m.2.1 pc = .ok (.dup_x1, 1)) (hv : mc1 v = true) (hw : mc1 w = true) (kk : mT g m d mc ms (pc + 1) L (v :: w :: v :: st) h Q) : mT g m d mc ms pc L (v :: w :: st) h Q := by
  intro p R e s mi args below meth c H ls locs cells slots ad ad0 h0 Qf X E
  have h1 := List.forall_mem_cons.mp X.2.2.2.2.1.2
  have h2 := List.forall_mem_cons.mp h1.2
  exact lv_dup_x1 X.1.1 X.1.2.1 hc (mc1_cat hv) (mc1_cat hw) (kk.use (X.to X.2.2.2.2.1.1 (List.forall_mem_cons.mpr ⟨h1.1, List.forall_mem_cons.mpr ⟨h2.1, List.forall_mem_cons.mpr ⟨h1.1, h2.2⟩⟩⟩)) E)
theorem tr_dup2 {v w : mV} (hc : decode m.2.1 pc = .ok (.dup2, 1)) (hv : mc1 v = true) (hw : mc1 w = true) (kk : mT g m d mc ms (pc + 1) L (v :: w :: v :: w :: st) h Q) : mT g m d mc ms pc L (v :: w :: st) h Q := by
  intro p R e s mi args below meth c H ls locs cells slots ad ad0 h0 Qf X E
  have h1 := List.forall_mem_cons.mp X.2.2.2.2.1.2
  have h2 := List.forall_mem_cons.mp h1.2
  exact lv_dup2_11 X.1.1 X.1.2.1 hc (mc1_cat hv) (mc1_cat hw) (kk.use (X.to X.2.2.2.2.1.1 (List.forall_mem_cons.mpr ⟨h1.1, List.forall_mem_cons.mpr ⟨h2.1, X.2.2.2.2.1.2⟩⟩)) E)
theorem tr_if_eq {x : Int32} {off : Int} (tgt : Nat) (hc : decode m.2.1 pc = .ok (.ifCond .eq off, 3)) (ht : (pc : Int) + off = (tgt : Int)) (kt : x = 0 → mT g m d mc ms tgt L st h Q) (kf : ¬ x = 0 → mT g m d mc ms (pc + 3) L st h Q) : mT g m d mc ms pc L (vi x :: st) h Q := by
  intro p R e s mi args below meth c H ls locs cells slots ad ad0 h0 Qf X E
  have hw := List.forall_mem_cons.mp X.2.2.2.2.1.2
  exact lv_if_eq X.1.1 X.1.2.1 hc ht (fun q => (kt q).use (X.to X.2.2.2.2.1.1 hw.2) E) (fun q => (kf q).use (X.to X.2.2.2.2.1.1 hw.2) E)
theorem tr_if_ne {x : Int32} {off : Int} (tgt : Nat) (hc : decode m.2.1 pc = .ok (.ifCond .ne off, 3)) (ht : (pc : Int) + off = (tgt : Int)) (kt : ¬ x = 0 → mT g m d mc ms tgt L st h Q) (kf : x = 0 → mT g m d mc ms (pc + 3) L st h Q) : mT g m d mc ms pc L (vi x :: st) h Q := by
  intro p R e s mi args below meth c H ls locs cells slots ad ad0 h0 Qf X E
  have hw := List.forall_mem_cons.mp X.2.2.2.2.1.2
  exact lv_if_ne X.1.1 X.1.2.1 hc ht (fun q => (kt q).use (X.to X.2.2.2.2.1.1 hw.2) E) (fun q => (kf q).use (X.to X.2.2.2.2.1.1 hw.2) E)
theorem tr_if_lt {x : Int32} {off : Int} (tgt : Nat) (hc : decode m.2.1 pc = .ok (.ifCond .lt off, 3)) (ht : (pc : Int) + off = (tgt : Int)) (kt : x < 0 → mT g m d mc ms tgt L st h Q) (kf : ¬ x < 0 → mT g m d mc ms (pc + 3) L st h Q) : mT g m d mc ms pc L (vi x :: st) h Q := by
  intro p R e s mi args below meth c H ls locs cells slots ad ad0 h0 Qf X E
  have hw := List.forall_mem_cons.mp X.2.2.2.2.1.2
  exact lv_if_lt X.1.1 X.1.2.1 hc ht (fun q => (kt q).use (X.to X.2.2.2.2.1.1 hw.2) E) (fun q => (kf q).use (X.to X.2.2.2.2.1.1 hw.2) E)
theorem tr_if_ge {x : Int32} {off : Int} (tgt : Nat) (hc : decode m.2.1 pc = .ok (.ifCond .ge off, 3)) (ht : (pc : Int) + off = (tgt : Int)) (kt : 0 ≤ x → mT g m d mc ms tgt L st h Q) (kf : ¬ 0 ≤ x → mT g m d mc ms (pc + 3) L st h Q) : mT g m d mc ms pc L (vi x :: st) h Q := by
  intro p R e s mi args below meth c H ls locs cells slots ad ad0 h0 Qf X E
  have hw := List.forall_mem_cons.mp X.2.2.2.2.1.2
  exact lv_if_ge X.1.1 X.1.2.1 hc ht (fun q => (kt q).use (X.to X.2.2.2.2.1.1 hw.2) E) (fun q => (kf q).use (X.to X.2.2.2.2.1.1 hw.2) E)
theorem tr_if_gt {x : Int32} {off : Int} (tgt : Nat) (hc : decode m.2.1 pc = .ok (.ifCond .gt off, 3)) (ht : (pc : Int) + off = (tgt : Int)) (kt : 0 < x → mT g m d mc ms tgt L st h Q) (kf : ¬ 0 < x → mT g m d mc ms (pc + 3) L st h Q) : mT g m d mc ms pc L (vi x :: st) h Q := by
  intro p R e s mi args below meth c H ls locs cells slots ad ad0 h0 Qf X E
  have hw := List.forall_mem_cons.mp X.2.2.2.2.1.2
  exact lv_if_gt X.1.1 X.1.2.1 hc ht (fun q => (kt q).use (X.to X.2.2.2.2.1.1 hw.2) E) (fun q => (kf q).use (X.to X.2.2.2.2.1.1 hw.2) E)
theorem tr_if_le {x : Int32} {off : Int} (tgt : Nat) (hc : decode m.2.1 pc = .ok (.ifCond .le off, 3)) (ht : (pc : Int) + off = (tgt : Int)) (kt : x ≤ 0 → mT g m d mc ms tgt L st h Q) (kf : ¬ x ≤ 0 → mT g m d mc ms (pc + 3) L st h Q) : mT g m d mc ms pc L (vi x :: st) h Q := by
  intro p R e s mi args below meth c H ls locs cells slots ad ad0 h0 Qf X E
  have hw := List.forall_mem_cons.mp X.2.2.2.2.1.2
  exact lv_if_le X.1.1 X.1.2.1 hc ht (fun q => (kt q).use (X.to X.2.2.2.2.1.1 hw.2) E) (fun q => (kf q).use (X.to X.2.2.2.2.1.1 hw.2) E)
theorem tr_icmp_eq {x y : Int32} {off : Int} (tgt : Nat) (hc : decode m.2.1 pc = .ok (.if_icmp .eq off, 3)) (ht : (pc : Int) + off = (tgt : Int)) (kt : x = y → mT g m d mc ms tgt L st h Q) (kf : ¬ x = y → mT g m d mc ms (pc + 3) L st h Q) : mT g m d mc ms pc L (vi y :: vi x :: st) h Q := by
  intro p R e s mi args below meth c H ls locs cells slots ad ad0 h0 Qf X E
  have hw := List.forall_mem_cons.mp (List.forall_mem_cons.mp X.2.2.2.2.1.2).2
  exact lv_icmp_eq X.1.1 X.1.2.1 hc ht (fun q => (kt q).use (X.to X.2.2.2.2.1.1 hw.2) E) (fun q => (kf q).use (X.to X.2.2.2.2.1.1 hw.2) E)
theorem tr_icmp_ne {x y : Int32} {off : Int} (tgt : Nat) (hc : decode m.2.1 pc = .ok (.if_icmp .ne off, 3)) (ht : (pc : Int) + off = (tgt : Int)) (kt : ¬ x = y → mT g m d mc ms tgt L st h Q) (kf : x = y → mT g m d mc ms (pc + 3) L st h Q) : mT g m d mc ms pc L (vi y :: vi x :: st) h Q := by
  intro p R e s mi args below meth c H ls locs cells slots ad ad0 h0 Qf X E
  have hw := List.forall_mem_cons.mp (List.forall_mem_cons.mp X.2.2.2.2.1.2).2
  exact lv_icmp_ne X.1.1 X.1.2.1 hc ht (fun q => (kt q).use (X.to X.2.2.2.2.1.1 hw.2) E) (fun q => (kf q).use (X.to X.2.2.2.2.1.1 hw.2) E)
theorem tr_icmp_lt {x y : Int32} {off : Int} (tgt : Nat) (hc : decode m.2.1 pc = .ok (.if_icmp .lt off, 3)) (ht : (pc : Int) + off = (tgt : Int)) (kt : x < y → mT g m d mc ms tgt L st h Q) (kf : ¬ x < y → mT g m d mc ms (pc + 3) L st h Q) : mT g m d mc ms pc L (vi y :: vi x :: st) h Q := by
  intro p R e s mi args below meth c H ls locs cells slots ad ad0 h0 Qf X E
  have hw := List.forall_mem_cons.mp (List.forall_mem_cons.mp X.2.2.2.2.1.2).2
  exact lv_icmp_lt X.1.1 X.1.2.1 hc ht (fun q => (kt q).use (X.to X.2.2.2.2.1.1 hw.2) E) (fun q => (kf q).use (X.to X.2.2.2.2.1.1 hw.2) E)
theorem tr_icmp_ge {x y : Int32} {off : Int} (tgt : Nat) (hc : decode m.2.1 pc = .ok (.if_icmp .ge off, 3)) (ht : (pc : Int) + off = (tgt : Int)) (kt : y ≤ x → mT g m d mc ms tgt L st h Q) (kf : ¬ y ≤ x → mT g m d mc ms (pc + 3) L st h Q) : mT g m d mc ms pc L (vi y :: vi x :: st) h Q := by
  intro p R e s mi args below meth c H ls locs cells slots ad ad0 h0 Qf X E
  have hw := List.forall_mem_cons.mp (List.forall_mem_cons.mp X.2.2.2.2.1.2).2
  exact lv_icmp_ge X.1.1 X.1.2.1 hc ht (fun q => (kt q).use (X.to X.2.2.2.2.1.1 hw.2) E) (fun q => (kf q).use (X.to X.2.2.2.2.1.1 hw.2) E)
theorem tr_icmp_gt {x y : Int32} {off : Int} (tgt : Nat) (hc : decode m.2.1 pc = .ok (.if_icmp .gt off, 3)) (ht : (pc : Int) + off = (tgt : Int)) (kt : y < x → mT g m d mc ms tgt L st h Q) (kf : ¬ y < x → mT g m d mc ms (pc + 3) L st h Q) : mT g m d mc ms pc L (vi y :: vi x :: st) h Q := by
  intro p R e s mi args below meth c H ls locs cells slots ad ad0 h0 Qf X E
  have hw := List.forall_mem_cons.mp (List.forall_mem_cons.mp X.2.2.2.2.1.2).2
  exact lv_icmp_gt X.1.1 X.1.2.1 hc ht (fun q => (kt q).use (X.to X.2.2.2.2.1.1 hw.2) E) (fun q => (kf q).use (X.to X.2.2.2.2.1.1 hw.2) E)
theorem tr_icmp_le {x y : Int32} {off : Int} (tgt : Nat) (hc : decode m.2.1 pc = .ok (.if_icmp .le off, 3)) (ht : (pc : Int) + off = (tgt : Int)) (kt : x ≤ y → mT g m d mc ms tgt L st h Q) (kf : ¬ x ≤ y → mT g m d mc ms (pc + 3) L st h Q) : mT g m d mc ms pc L (vi y :: vi x :: st) h Q := by
  intro p R e s mi args below meth c H ls locs cells slots ad ad0 h0 Qf X E
  have hw := List.forall_mem_cons.mp (List.forall_mem_cons.mp X.2.2.2.2.1.2).2
  exact lv_icmp_le X.1.1 X.1.2.1 hc ht (fun q => (kt q).use (X.to X.2.2.2.2.1.1 hw.2) E) (fun q => (kf q).use (X.to X.2.2.2.2.1.1 hw.2) E)
theorem tr_goto {off : Int} (tgt : Nat) (hc : decode m.2.1 pc = .ok (.goto off, 3)) (ht : (pc : Int) + off = (tgt : Int)) (kk : mT g m d mc ms tgt L st h Q) : mT g m d mc ms pc L st h Q := by
  intro p R e s mi args below meth c H ls locs cells slots ad ad0 h0 Qf X E
  exact lv_goto X.1.1 X.1.2.1 hc ht (kk.use (X.to X.2.2.2.2.1.1 X.2.2.2.2.1.2) E)
theorem tr_ifnull {r : Option (Nat × Nat)} {off : Int} (tgt : Nat) (hc : decode m.2.1 pc = .ok (.ifnull off, 3)) (ht : (pc : Int) + off = (tgt : Int)) (kN : r = none → mT g m d mc ms tgt L st h Q) (kS : ∀ k n, r = some (k, n) → mT g m d mc ms (pc + 3) L st h Q) : mT g m d mc ms pc L (vp r :: st) h Q := by
  intro p R e s mi args below meth c H ls locs cells slots ad ad0 h0 Qf X E
  have hw := List.forall_mem_cons.mp X.2.2.2.2.1.2
  cases r with
  | none => exact lv_ifnullN X.1.1 X.1.2.1 hc ht ((kN rfl).use (X.to X.2.2.2.2.1.1 hw.2) E)
  | some r => exact lv_ifnull X.1.1 X.1.2.1 hc ((kS r.1 r.2 rfl).use (X.to X.2.2.2.2.1.1 hw.2) E)
theorem tr_ifnonnull {r : Option (Nat × Nat)} {off : Int} (tgt : Nat) (hc : decode m.2.1 pc = .ok (.ifnonnull off, 3)) (ht : (pc : Int) + off = (tgt : Int)) (kN : r = none → mT g m d mc ms (pc + 3) L st h Q) (kS : ∀ k n, r = some (k, n) → mT g m d mc ms tgt L st h Q) : mT g m d mc ms pc L (vp r :: st) h Q := by
  intro p R e s mi args below meth c H ls locs cells slots ad ad0 h0 Qf X E
  have hw := List.forall_mem_cons.mp X.2.2.2.2.1.2
  cases r with
  | none => exact lv_ifnonnullN X.1.1 X.1.2.1 hc ((kN rfl).use (X.to X.2.2.2.2.1.1 hw.2) E)
  | some r => exact lv_ifnonnull X.1.1 X.1.2.1 hc ht ((kS r.1 r.2 rfl).use (X.to X.2.2.2.2.1.1 hw.2) E)
theorem tr_table {dflt lo hi : Int} {offs : Array Int} {len : Nat} {x : Int32} (tgs : List Nat) (dt : Nat) (hc : decode m.2.1 pc = .ok (.tableswitch dflt lo hi offs, len)) (hs : hi = lo + tgs.length - 1) (ht : offs.toList = tgs.map (fun t : Nat => ((t : Int) - (pc : Int)))) (hd : (pc : Int) + dflt = (dt : Int))
    (kin : ∀ (i t : Nat), tgs[i]? = some t → x.toInt = lo + i → mT g m d mc ms t L st h Q) (kout : (∀ i : Nat, i < tgs.length → x.toInt ≠ lo + i) → mT g m d mc ms dt L st h Q) : mT g m d mc ms pc L (vi x :: st) h Q := by
  intro p R e s mi args below meth c H ls locs cells slots ad ad0 h0 Qf X E
  have hw := List.forall_mem_cons.mp X.2.2.2.2.1.2
  by_cases h1 : x.toInt < lo
  · exact lv_tableOut X.1.1 X.1.2.1 hc (Or.inl h1) hd ((kout (fun i hi => by omega)).use (X.to X.2.2.2.2.1.1 hw.2) E)
  by_cases h2 : hi < x.toInt
  · exact lv_tableOut X.1.1 X.1.2.1 hc (Or.inr h2) hd ((kout (fun i hi => by omega)).use (X.to X.2.2.2.2.1.1 hw.2) E)
  have hlt : (x.toInt - lo).toNat < tgs.length := by omega
  have h3 : tgs[(x.toInt - lo).toNat]? = some tgs[(x.toInt - lo).toNat] := List.getElem?_eq_getElem hlt
  have h4 : offs[(x.toInt - lo).toNat]? = some ((tgs[(x.toInt - lo).toNat] : Int) - pc) := by
    rw [← Array.getElem?_toList, ht, List.getElem?_map, h3]
    rfl
  exact lv_tableIn X.1.1 X.1.2.1 hc h1 h2 h4 (tgt := tgs[(x.toInt - lo).toNat]) (by omega) ((kin (x.toInt - lo).toNat _ h3 (by omega)).use (X.to X.2.2.2.2.1.1 hw.2) E)
theorem tr_ireturn {x : Int32} (hc : decode m.2.1 pc = .ok (.ireturn, 1)) {ty : FieldType} (hr : m.2.2.2 = some ty) (hn : narrow ty (.int x) = .int x) (kk : Q (some (vi x)) h) : mT g m d mc ms pc L (vi x :: []) h Q := by
  intro p R e s mi args below meth c H ls locs cells slots ad ad0 h0 Qf X E
  exact E (v := some (vi x)) ⟨hc, ty, hr, hn⟩ kk X.2.2.2.1.1 X.2.2.2.1.2 (fun y hy => by cases hy; exact trivial) X.2.2.2.2.2 (Nat.le_trans (Nat.le_add_right _ _) X.2.1.2.2.1) (Nat.le_trans (Nat.le_add_right _ _) X.2.1.2.2.2)
theorem tr_return (hc : decode m.2.1 pc = .ok (.return_, 1)) (hr : m.2.2.2 = none) (kk : Q (none) h) : mT g m d mc ms pc L ([]) h Q := by
  intro p R e s mi args below meth c H ls locs cells slots ad ad0 h0 Qf X E
  exact E (v := none) ⟨hr, hc⟩ kk X.2.2.2.1.1 X.2.2.2.1.2 (fun y hy => by cases hy) X.2.2.2.2.2 (Nat.le_trans (Nat.le_add_right _ _) X.2.1.2.2.1) (Nat.le_trans (Nat.le_add_right _ _) X.2.1.2.2.2)
theorem tr_areturn {r : Option (Nat × Nat)} (hc : decode m.2.1 pc = .ok (.areturn, 1)) {ty : FieldType} (hr : m.2.2.2 = some ty) (ht : misR ty = true) (kk : Q (some (vp r)) h) : mT g m d mc ms pc L ([vp r]) h Q := by
  intro p R e s mi args below meth c H ls locs cells slots ad ad0 h0 Qf X E
  exact E (v := some (vp r)) ⟨hc, ty, hr, by cases ty <;> first | exact Or.inl ⟨_, rfl⟩ | exact Or.inr ⟨_, rfl⟩ | cases ht⟩ kk X.2.2.2.1.1 X.2.2.2.1.2 (fun y hy => by cases hy; exact (List.forall_mem_cons.mp X.2.2.2.2.1.2).1) X.2.2.2.2.2 (Nat.le_trans (Nat.le_add_right _ _) X.2.1.2.2.1) (Nat.le_trans (Nat.le_add_right _ _) X.2.1.2.2.2)
end TR
end
section
/-! rows that a program decides, of the classes' fields -/
theorem mcl_at {k : Nat} (hk : k < 11) : mcl[k]? = some (mkd k) := by
  unfold mcl
  rw [List.getElem?_map, List.getElem?_range hk]
  rfl
set_option maxRecDepth 100000 in
theorem mlays : ∀ k, k < 11 → ∀ w ∈ u_ws (mkd k).1 (mkd k).2.1 (mkd k).2.2, w ∈ mTb := by decide +kernel
set_option maxRecDepth 100000 in
theorem mtys_ok : ∀ k, k < 11 → ∀ f, f < (mkd k).2.2 → parseFieldDescriptor ((mkd k).2.1 f).2.2.1 = some (mty k f) := by decide +kernel
set_option maxRecDepth 100000 in
theorem mnames_ok : ∀ k, k < 11 → ∀ a, a < (mkd k).2.2 → ∀ b, b < (mkd k).2.2 → a ≠ b → ((mkd k).2.1 a).2.1 ≠ ((mkd k).2.1 b).2.1 := by decide +kernel
end
section
/-! rules: fields, arrays, new cells -/
theorem hI_setI (h : mH) (k n f : Nat) (v : Int32) (k' n' f' : Nat) : hI (setI h k n f v) k' n' f' = if k' = k ∧ n' = n ∧ f' = f then v else hI h k' n' f' := rfl
theorem hI_ne {h : mH} {k n f : Nat} {v : Int32} {k' n' : Nat} (q : ¬ (k' = k ∧ n' = n)) : hI (setI h k n f v) k' n' = hI h k' n' := by
  funext f'
  show (if k' = k ∧ n' = n ∧ f' = f then v else hI h k' n' f') = _
  rw [if_neg (fun z => q ⟨z.1, z.2.1⟩)]
theorem hP_ne {h : mH} {k n f : Nat} {v : Option (Nat × Nat)} {k' n' : Nat} (q : ¬ (k' = k ∧ n' = n)) : hP (setP h k n f v) k' n' = hP h k' n' := by
  funext f'
  show (if k' = k ∧ n' = n ∧ f' = f then v else hP h k' n' f') = _
  rw [if_neg (fun z => q ⟨z.1, z.2.1⟩)]
theorem ment_congr {g : mG} {ad : Nat → Nat → Nat} {h h' : mH} {k n : Nat} (h1 : hI h' k n = hI h k n) (h2 : hP h' k n = hP h k n) (h3 : hL h' k n = hL h k n) (hk : k < 14) : ment g ad h' k n = ment g ad h k n := by
  unfold ment
  split
  · congr 2
    unfold mfs mfv
    rw [h1, h2]
  · split
    · rename_i q; subst q; rw [h1, h3]
    · split
      · rename_i q; subst q; rw [h1, h3]
      · have q : k = 13 := by omega
        subst q
        unfold mpt
        rw [h2, h3]
theorem mco_ad {ad ad' : Nat → Nat → Nat} {r : Option (Nat × Nat)} (hr : ∀ q, r = some q → ad' q.1 q.2 = ad q.1 q.2) : mco ad' (vp r) = mco ad (vp r) := by
  cases r with
  | none => rfl
  | some q => show Value.ref (ad' q.1 q.2) = _; rw [hr q rfl]; rfl
theorem ment_ad {g : mG} {ad ad' : Nat → Nat → Nat} {h : mH} {k n : Nat} (hr : ∀ f q, hP h k n f = some q → ad' q.1 q.2 = ad q.1 q.2) (hk : k < 14) : ment g ad' h k n = ment g ad h k n := by
  unfold ment
  split
  · congr 2
    unfold mfs
    refine List.map_congr_left fun f _ => ?_
    unfold mfv
    split
    · exact mco_ad (hr f)
    · rfl
  · split
    · rfl
    · split
      · rfl
      · have q : k = 13 := by omega
        subst q
        have e : mpt ad' h n = mpt ad h n := by
          funext f
          unfold mpt
          cases hq : hP h 13 n f with
          | none => rfl
          | some q => show some (ad' q.1 q.2) = some (ad q.1 q.2); rw [hr f q hq]
        rw [e]
theorem mSm.set {g : mG} {ad : Nat → Nat → Nat} {h h' : mH} {H H' : Heap} {ws : va_W} {ix : Nat → Nat → Nat} {k n : Nat} {e : va_E} (S : mSm g ad h H ws ix) (hk : k < 14) (hn : n < hC h k) (he : e = ment g ad h' k n) (hc : ∀ k, hC h' k = hC h k)
    (ho : ∀ k' n', k' < 14 → ¬ (k' = k ∧ n' = n) → ment g ad h' k' n' = ment g ad h k' n') (hco : mCo g ad h') (P' : va_P g.2.1 mcl (ws.set (ix k n) (ad k n, e)) H') (D' : va_D (mA g) (ws.set (ix k n) (ad k n, e))) : mSim g ad h' H' := by
  refine ⟨ws.set (ix k n) (ad k n, e), ix, ?_, ?_, P', D', hco⟩
  · intro k' n' hk' hn'
    rw [hc] at hn'
    by_cases q : k' = k ∧ n' = n
    · obtain ⟨rfl, rfl⟩ := q
      rw [List.getElem?_set_self (List.getElem?_eq_some_iff.mp (S.1 _ _ hk' hn')).1, he]
    · rw [List.getElem?_set_ne (fun z => q (by obtain ⟨a, b⟩ := S.2.1 k n k' n' hk hn hk' hn' z; exact ⟨a.symm, b.symm⟩)), S.1 _ _ hk' hn', ho _ _ hk' q]
  · intro k1 n1 k2 n2 a1 a2 a3 a4
    rw [hc] at a2 a4
    exact S.2.1 k1 n1 k2 n2 a1 a2 a3 a4
/-- the ways to a field: own class, its number in the pool, kind and place of the field -/
def mFl (own : String) (idx k f : Nat) : Prop := k < 11 ∧ f < (mkd k).2.2 ∧ ∃ ref, Cond.fieldLink own idx ref ((mkd k).2.1 f).2.1 ((mkd k).2.1 f).2.2.1 ∈ mTb ∧ (ref = ((mkd k).2.1 f).1 ∨ Cond.sameField ref ((mkd k).2.1 f).1 ((mkd k).2.1 f).2.1 ((mkd k).2.1 f).2.2.1 ∈ mTb)
theorem mfs_at {ad : Nat → Nat → Nat} {h : mH} {k n f : Nat} (hf : f < (mkd k).2.2) : (mfs ad h k n)[f]? = some (mfv ad h k n f) := by
  unfold mfs
  rw [List.getElem?_map, List.getElem?_range hf]
  rfl
theorem ment_o {g : mG} {ad : Nat → Nat → Nat} {h : mH} {k n : Nat} (hk : k < 11) : ment g ad h k n = .inr (k, mfs ad h k n) := if_pos hk
theorem mFl.same {own : String} {s : State} {args : Array Value} {k f : Nat} {ref : String} (hts : ∀ w ∈ mTb, w.before args s = true) (hr : ref = ((mkd k).2.1 f).1 ∨ Cond.sameField ref ((mkd k).2.1 f).1 ((mkd k).2.1 f).2.1 ((mkd k).2.1 f).2.2.1 ∈ mTb) :
    ∀ x, s.fieldFound? ((mkd k).2.1 f).1 ((mkd k).2.1 f).2.1 ((mkd k).2.1 f).2.2.1 = some x → s.fieldFound? ref ((mkd k).2.1 f).2.1 ((mkd k).2.1 f).2.2.1 = some x := by
  intro x hx
  rcases hr with rfl | hr
  · exact hx
  · exact u_same (hts _ hr) x hx
section TR
variable {g : mG} {m : mMe} {d mc ms pc : Nat} {L : List (Option mV)} {st : List mV} {h : mH} {Q : Option mV → mH → Prop}
theorem tr_get {k n f idx : Nat} (hc : decode m.2.1 pc = .ok (.getfield idx, 3)) (hf : mFl m.1.cls idx k f) {v : mV} (hv : ∀ ad : Nat → Nat → Nat, mfv ad h k n f = mco ad v) (hw : (∀ (k n f : Nat) (r : Nat × Nat), hP h k n f = some r → r.2 < hC h r.1) → mwf h v) (kk : mT g m d mc ms (pc + 3) L (v :: st) h Q) : mT g m d mc ms pc L (vr k n :: st) h Q := by
  intro p R e s mi args below meth c H ls locs cells slots ad ad0 h0 Qf X E
  have hst := List.forall_mem_cons.mp X.2.2.2.2.1.2
  obtain ⟨ws, ix, S⟩ := X.2.2.2.1.2
  obtain ⟨hk, hfl, ref, hlink, hsame⟩ := hf
  have hin := S.1 k n (by omega) hst.1
  rw [ment_o hk] at hin
  refine va_get (T := (mkd k).2.1) (N := (mkd k).2.2) (C := (mkd k).1) X.1.1 X.1.2.1 X.1.2.2.2.2.1 (mlays k hk) X.1.2.2.2.1 X.2.2.1.2 S.2.2.1 (ix k n) hin (mcl_at hk) f hfl (X.1.2.2.2.2.1 _ hlink) (mFl.same (own := "") X.1.2.2.2.2.1 hsame) (v := mco ad v) (by rw [mfs_at hfl, hv]) hc (kk.use (X.to X.2.2.2.2.1.1 (List.forall_mem_cons.mpr ⟨hw S.2.2.2.2.2.1, hst.2⟩)) E)
theorem tr_getI {k n f idx : Nat} (hc : decode m.2.1 pc = .ok (.getfield idx, 3)) (hf : mFl m.1.cls idx k f) (ht : misR (mty k f) = false) (kk : mT g m d mc ms (pc + 3) L (vi (hI h k n f) :: st) h Q) : mT g m d mc ms pc L (vr k n :: st) h Q :=
  tr_get hc hf (v := vi (hI h k n f)) (fun ad => by unfold mfv; rw [ht]; rfl) (fun _ => trivial) kk
theorem tr_getP {k n f idx : Nat} {r : Option (Nat × Nat)} (hc : decode m.2.1 pc = .ok (.getfield idx, 3)) (hf : mFl m.1.cls idx k f) (ht : misR (mty k f) = true) (hr : hP h k n f = r) (kk : mT g m d mc ms (pc + 3) L (vp r :: st) h Q) : mT g m d mc ms pc L (vr k n :: st) h Q :=
  tr_get hc hf (v := vp r) (fun ad => by unfold mfv; rw [ht, ← hr]; rfl) (fun hw => by cases r with
    | none => exact trivial
    | some r => exact hw k n f r hr) kk
/-- what may be stored in a field -/
def mPut (m : mMe) (k f : Nat) : Prop := ((mkd k).2.1 f).2.2.2 = false ∨ (((mkd k).2.1 f).2.2.2 = true ∧ m.1.name = "<init>" ∧ ((mkd k).2.1 f).1 = m.1.cls)
theorem tr_put {k n f idx : Nat} (hc : decode m.2.1 pc = .ok (.putfield idx, 3)) (hf : mFl m.1.cls idx k f) (hp : mPut m k f) {v : mV} {h' : mH} (hn : ∀ ad : Nat → Nat → Nat, narrow (mty k f) (mco ad v) = mco ad v ∧ fits (mty k f) (mco ad v) = true) (hC' : ∀ k, hC h' k = hC h k)
    (hv : ∀ ad : Nat → Nat → Nat, mfs ad h' k n = (mfs ad h k n).set f (mco ad v)) (ho : ∀ k' n', ¬ (k' = k ∧ n' = n) → hI h' k' n' = hI h k' n' ∧ hP h' k' n' = hP h k' n') (hL' : ∀ k n, hL h' k n = hL h k n)
    (hw : mwf h v → (∀ (k n f : Nat) (r : Nat × Nat), hP h k n f = some r → r.2 < hC h r.1) → ∀ (k n f : Nat) (r : Nat × Nat), hP h' k n f = some r → r.2 < hC h r.1) (kk : mT g m d mc ms (pc + 3) L st h' Q) : mT g m d mc ms pc L (v :: vr k n :: st) h Q := by
  intro p R e s mi args below meth c H ls locs cells slots ad ad0 h0 Qf X E
  have hst := List.forall_mem_cons.mp X.2.2.2.2.1.2
  have hst2 := List.forall_mem_cons.mp hst.2
  obtain ⟨ws, ix, S⟩ := X.2.2.2.1.2
  obtain ⟨hk, hfl, ref, hlink, hsame⟩ := hf
  have hin := S.1 k n (by omega) hst2.1
  rw [ment_o hk] at hin
  have hwf : ∀ w, mwf h w → mwf h' w := by
    intro w
    rcases w with x | x | r | r
    · exact id
    · exact id
    · exact id
    · show r.2 < _ → r.2 < _
      rw [hC']
      exact id
  have hco : mCo g ad h' := by
    obtain ⟨⟨a1, a2, a3, a4, a5, a6, a7, a8, a9⟩, b, c⟩ := S.2.2.2.2
    refine ⟨⟨a1, a2, by rw [hC']; exact a3, by rw [hC']; exact a4, by rw [hL']; exact a5, by rw [hL']; exact a6, ?_, a8, by rw [hC']; exact a9⟩, fun k n f r hr => by rw [hC']; exact hw hst.1 b k n f r hr, fun k hk => by rw [hC']; exact c k hk⟩
    rw [(ho 14 0 (fun q => by omega)).1]
    exact a7
  have kk' : ∀ (H1 : Heap) (locs1 : List Loc), va_P g.2.1 mcl (ws.set (ix k n) (ad k n, .inr (k, (mfs ad h k n).set f (mco ad v)))) H1 → va_D (mA g) (ws.set (ix k n) (ad k n, .inr (k, (mfs ad h k n).set f (mco ad v)))) → va_S (mA g) s.heap H1 locs1 → W p g.1 e R s mi args below meth c H1 locs1 cells slots Qf (F0 mi (pc + 3) ls (st.map (mco ad))) := by
    intro H1 locs1 P1 D1 S1
    refine kk.use ⟨X.1, X.2.1, X.2.2.1, ⟨?_, S.set (h' := h') (by omega) hst2.1 (by rw [ment_o hk, hv]) hC' (fun k' n' hk' q => ment_congr (ho k' n' q).1 (ho k' n' q).2 (hL' k' n') hk') hco P1 D1⟩, ⟨⟨X.2.2.2.2.1.1.1, X.2.2.2.2.1.1.2.1, X.2.2.2.2.1.1.2.2.1, fun i w hi => ⟨(X.2.2.2.2.1.1.2.2.2 i w hi).1, hwf w (X.2.2.2.2.1.1.2.2.2 i w hi).2⟩⟩, fun w hw => hwf w (hst2.2 w hw)⟩, S1⟩ E
    intro k n hn
    rw [hC']
    exact X.2.2.2.1.1 k n hn
  rcases hp with hp | ⟨hp1, hp2, hp3⟩
  · exact va_put (T := (mkd k).2.1) (N := (mkd k).2.2) (C := (mkd k).1) X.1.1 X.1.2.1 X.1.2.2.2.2.1 (mlays k hk) (mty k) (mtys_ok k hk) (mnames_ok k hk) X.1.2.2.2.1 X.2.2.1.2 S.2.2.1 S.2.2.2.1 X.2.2.2.2.2 (ix k n) hin (mcl_at hk) f hfl (X.1.2.2.2.2.1 _ hlink) (mFl.same (own := "") X.1.2.2.2.2.1 hsame) hp (mtys_ok k hk f hfl) (hn ad).1 (hn ad).2 (by unfold mfs; rw [List.length_map, List.length_range]; exact hfl) hc kk'
  · exact va_putF (T := (mkd k).2.1) (N := (mkd k).2.2) (C := (mkd k).1) X.1.1 X.1.2.1 X.1.2.2.2.2.1 (mlays k hk) (mty k) (mtys_ok k hk) (mnames_ok k hk) X.1.2.2.2.1 X.2.2.1.2 S.2.2.1 S.2.2.2.1 X.2.2.2.2.2 (ix k n) hin (mcl_at hk) f hfl (X.1.2.2.2.2.1 _ hlink) (mFl.same (own := "") X.1.2.2.2.2.1 hsame) hp1 (X.1.2.2.2.2.2.2.2 hp2) hp3 (mtys_ok k hk f hfl) (hn ad).1 (hn ad).2 (by unfold mfs; rw [List.length_map, List.length_range]; exact hfl) hc kk'
theorem mfs_setI {ad : Nat → Nat → Nat} {h : mH} {k n f : Nat} {x : Int32} (ht : misR (mty k f) = false) : mfs ad (setI h k n f x) k n = (mfs ad h k n).set f (.int x) := by
  refine List.ext_getElem? fun j => ?_
  by_cases hj : j < (mkd k).2.2
  · rw [mfs_at hj]
    by_cases q : j = f
    · subst q
      rw [List.getElem?_set_self (by unfold mfs; rw [List.length_map, List.length_range]; exact hj)]
      unfold mfv
      rw [ht]
      show some (Value.int (hI (setI h k n j x) k n j)) = _
      rw [hI_setI, if_pos ⟨rfl, rfl, rfl⟩]
    · rw [List.getElem?_set_ne (fun z => q z.symm), mfs_at hj]
      unfold mfv
      have e : hI (setI h k n f x) k n j = hI h k n j := by rw [hI_setI, if_neg (fun z => q z.2.2)]
      rw [e]
      rfl
  · rw [List.getElem?_eq_none (by unfold mfs; rw [List.length_map, List.length_range]; omega), List.getElem?_eq_none (by rw [List.length_set]; unfold mfs; rw [List.length_map, List.length_range]; omega)]
theorem mfs_setP {ad : Nat → Nat → Nat} {h : mH} {k n f : Nat} {r : Option (Nat × Nat)} (ht : misR (mty k f) = true) : mfs ad (setP h k n f r) k n = (mfs ad h k n).set f (mco ad (vp r)) := by
  refine List.ext_getElem? fun j => ?_
  by_cases hj : j < (mkd k).2.2
  · rw [mfs_at hj]
    by_cases q : j = f
    · subst q
      rw [List.getElem?_set_self (by unfold mfs; rw [List.length_map, List.length_range]; exact hj)]
      unfold mfv
      rw [ht]
      have e : hP (setP h k n j r) k n j = r := by show (if k = k ∧ n = n ∧ j = j then r else _) = r; rw [if_pos ⟨rfl, rfl, rfl⟩]
      rw [e]
      rfl
    · rw [List.getElem?_set_ne (fun z => q z.symm), mfs_at hj]
      unfold mfv
      have e : hP (setP h k n f r) k n j = hP h k n j := by show (if k = k ∧ n = n ∧ j = f then r else _) = _; rw [if_neg (fun z => q z.2.2)]; rfl
      rw [e]
      rfl
  · rw [List.getElem?_eq_none (by unfold mfs; rw [List.length_map, List.length_range]; omega), List.getElem?_eq_none (by rw [List.length_set]; unfold mfs; rw [List.length_map, List.length_range]; omega)]
theorem tr_putI {k n f idx : Nat} {x : Int32} (hc : decode m.2.1 pc = .ok (.putfield idx, 3)) (hf : mFl m.1.cls idx k f) (hp : mPut m k f) (ht : misR (mty k f) = false) (hn : narrow (mty k f) (.int x) = .int x ∧ fits (mty k f) (.int x) = true) (kk : mT g m d mc ms (pc + 3) L st (setI h k n f x) Q) : mT g m d mc ms pc L (vi x :: vr k n :: st) h Q :=
  tr_put (v := vi x) (h' := setI h k n f x) hc hf hp (fun _ => hn) (fun _ => rfl) (fun ad => mfs_setI ht) (fun k' n' q => ⟨hI_ne q, rfl⟩) (fun _ _ => rfl) (fun _ hw => hw) kk
theorem mnar_r {t : FieldType} (ht : misR t = true) (ad : Nat → Nat → Nat) (r : Option (Nat × Nat)) : narrow t (mco ad (vp r)) = mco ad (vp r) ∧ fits t (mco ad (vp r)) = true := by
  cases t <;> first | (simp [misR] at ht; done) | (cases r <;> exact ⟨rfl, rfl⟩)
theorem tr_putP {k n f idx : Nat} {r : Option (Nat × Nat)} (hc : decode m.2.1 pc = .ok (.putfield idx, 3)) (hf : mFl m.1.cls idx k f) (hp : mPut m k f) (ht : misR (mty k f) = true) (kk : mT g m d mc ms (pc + 3) L st (setP h k n f r) Q) : mT g m d mc ms pc L (vp r :: vr k n :: st) h Q := by
  refine tr_put (v := vp r) (h' := setP h k n f r) hc hf hp (fun ad => mnar_r ht ad r) (fun _ => rfl) (fun ad => mfs_setP ht) (fun k' n' q => ⟨rfl, hP_ne q⟩) (fun _ _ => rfl) ?_ kk
  intro hv hw k' n' f' r' hr
  by_cases q : k' = k ∧ n' = n ∧ f' = f
  · have e : hP (setP h k n f r) k' n' f' = r := if_pos q
    rw [e] at hr
    subst hr
    exact hv
  · have e : hP (setP h k n f r) k' n' f' = hP h k' n' f' := if_neg q
    rw [e] at hr
    exact hw _ _ _ _ hr
end TR
end
section
/-! rules: rows, new cells, casts, statics -/
def cpyP (h : mH) (n0 n1 len : Nat) : mH := ((h.1.1, h.1.2.1, fun k n f => if k = 13 ∧ n = n1 ∧ f < len then h.1.2.2 13 n0 f else h.1.2.2 k n f), h.2)
theorem mwf_c {h h' : mH} (hc : ∀ k, hC h' k = hC h k) : ∀ v, mwf h v → mwf h' v := by
  intro w
  rcases w with x | x | r | r
  · exact id
  · exact id
  · exact id
  · show r.2 < _ → r.2 < _
    rw [hc]
    exact id
theorem mX.heap {g : mG} {m : mMe} {d mc ms : Nat} {L : List (Option mV)} {st st' : List mV} {h h' : mH} {p : Program} {R : Room} {s : State} {mi : MethodId} {args : Array Value} {meth : Method} {c : Code} {H H1 : Heap} {ls : Array Slot} {locs locs1 : List Loc} {cells slots : Nat} {ad ad0 : Nat → Nat → Nat} {h0 : mH}
    (X : mX g m d mc ms L st h p R s mi args meth c H ls locs cells slots ad ad0 h0) (hc : ∀ k, hC h' k = hC h k) (hS : mSim g ad h' H1) (h2 : ∀ v ∈ st', mwf h v) (S1 : va_S (mA g) s.heap H1 locs1) : mX g m d mc ms L st' h' p R s mi args meth c H1 ls locs1 cells slots ad ad0 h0 :=
  ⟨X.1, X.2.1, X.2.2.1, ⟨fun k n hn => by rw [hc]; exact X.2.2.2.1.1 k n hn, hS⟩, ⟨⟨X.2.2.2.2.1.1.1, X.2.2.2.2.1.1.2.1, X.2.2.2.2.1.1.2.2.1, fun i w hi => ⟨(X.2.2.2.2.1.1.2.2.2 i w hi).1, mwf_c hc w (X.2.2.2.2.1.1.2.2.2 i w hi).2⟩⟩, fun w hw => mwf_c hc w (h2 w hw)⟩, S1⟩
theorem ment_i {g : mG} {ad : Nat → Nat → Nat} {h : mH} {n : Nat} : ment g ad h 11 n = .inl (g.2.2.1.1, hL h 11 n, .inl (hI h 11 n)) := rfl
theorem ment_z {g : mG} {ad : Nat → Nat → Nat} {h : mH} {n : Nat} : ment g ad h 12 n = .inl (g.2.2.1.2.1, hL h 12 n, .inl (hI h 12 n)) := rfl
theorem ment_q {g : mG} {ad : Nat → Nat → Nat} {h : mH} {n : Nat} : ment g ad h 13 n = .inl (g.2.2.1.2.2, hL h 13 n, .inr (.inr (.inr (.inr (mpt ad h n))))) := rfl
theorem mCo.sI {g : mG} {ad : Nat → Nat → Nat} {h : mH} (k n f : Nat) (v : Int32) (hk : k < 14) (C : mCo g ad h) : mCo g ad (setI h k n f v) := by
  obtain ⟨⟨a1, a2, a3, a4, a5, a6, a7, a8, a9⟩, b, c⟩ := C
  refine ⟨⟨a1, a2, a3, a4, a5, a6, ?_, a8, a9⟩, b, c⟩
  rw [hI_ne (fun q => by omega)]
  exact a7
section TR
variable {g : mG} {m : mMe} {d mc ms pc : Nat} {L : List (Option mV)} {st : List mV} {h : mH} {Q : Option mV → mH → Prop}
theorem tr_iald {n : Nat} {i : Int32} (hc : decode m.2.1 pc = .ok (.iaload, 1)) (hin : vp_in i (hL h 11 n)) (kk : mT g m d mc ms (pc + 1) L (vi (hI h 11 n i.toNatClampNeg) :: st) h Q) : mT g m d mc ms pc L (vi i :: vr 11 n :: st) h Q := by
  intro p R e s mi args below meth c H ls locs cells slots ad ad0 h0 Qf X E
  have hst := List.forall_mem_cons.mp (List.forall_mem_cons.mp X.2.2.2.2.1.2).2
  obtain ⟨ws, ix, S⟩ := X.2.2.2.1.2
  exact va_iald X.1.1 X.1.2.1 X.2.2.1.2 S.2.2.1 (ix 11 n) 0 ((S.1 11 n (by omega) hst.1).trans (by rw [ment_i])) rfl hin hc (kk.use (X.to X.2.2.2.2.1.1 (List.forall_mem_cons.mpr ⟨trivial, hst.2⟩)) E)
theorem tr_zald {n : Nat} {i : Int32} (hc : decode m.2.1 pc = .ok (.baload, 1)) (hin : vp_in i (hL h 12 n)) (kk : mT g m d mc ms (pc + 1) L (vi (hI h 12 n i.toNatClampNeg) :: st) h Q) : mT g m d mc ms pc L (vi i :: vr 12 n :: st) h Q := by
  intro p R e s mi args below meth c H ls locs cells slots ad ad0 h0 Qf X E
  have hst := List.forall_mem_cons.mp (List.forall_mem_cons.mp X.2.2.2.2.1.2).2
  obtain ⟨ws, ix, S⟩ := X.2.2.2.1.2
  exact va_zald X.1.1 X.1.2.1 X.2.2.1.2 S.2.2.1 (ix 12 n) 1 ((S.1 12 n (by omega) hst.1).trans (by rw [ment_z])) rfl hin hc (kk.use (X.to X.2.2.2.2.1.1 (List.forall_mem_cons.mpr ⟨trivial, hst.2⟩)) E)
theorem tr_sald {i : Int32} (hc : decode m.2.1 pc = .ok (.iaload, 1)) (hin : vp_in i (hL h 14 0)) (kk : mT g m d mc ms (pc + 1) L (vi (hI h 14 0 i.toNatClampNeg) :: st) h Q) : mT g m d mc ms pc L (vi i :: vr 14 0 :: st) h Q := by
  intro p R e s mi args below meth c H ls locs cells slots ad ad0 h0 Qf X E
  have hst := List.forall_mem_cons.mp (List.forall_mem_cons.mp X.2.2.2.2.1.2).2
  obtain ⟨ws, ix, S⟩ := X.2.2.2.1.2
  obtain ⟨⟨a1, a2, a3, a4, a5, a6, a7, a8, a9⟩, b, c⟩ := S.2.2.2.2
  have kk' := kk.use (X.to X.2.2.2.2.1.1 (List.forall_mem_cons.mpr ⟨trivial, hst.2⟩)) E
  rw [a7] at kk'
  rw [a5] at hin
  have O := X.2.2.1.1
  show W p g.1 e R s mi args below meth _ H locs cells slots Qf (F0 mi pc ls (.int i :: .ref (ad 14 0) :: st.map (mco ad)))
  rw [a1]
  exact va_sld X.1.1 X.1.2.1 O.2.1 (Nat.lt_of_lt_of_le O.2.2.2.1 O.2.2.2.2.2.1) (Nat.not_le.mpr O.2.2.2.1) X.2.2.2.2.2 hin hc kk'
theorem tr_slen {v : Int32} (hc : decode m.2.1 pc = .ok (.arraylength, 1)) (hv : Int32.ofNat (hL h 14 0) = v) (kk : mT g m d mc ms (pc + 1) L (vi v :: st) h Q) : mT g m d mc ms pc L (vr 14 0 :: st) h Q := by
  intro p R e s mi args below meth c H ls locs cells slots ad ad0 h0 Qf X E
  have hst := List.forall_mem_cons.mp X.2.2.2.2.1.2
  obtain ⟨ws, ix, S⟩ := X.2.2.2.1.2
  obtain ⟨⟨a1, a2, a3, a4, a5, a6, a7, a8, a9⟩, b, c⟩ := S.2.2.2.2
  have kk' := kk.use (X.to X.2.2.2.2.1.1 (List.forall_mem_cons.mpr ⟨trivial, hst.2⟩)) E
  rw [← hv, a5] at kk'
  have O := X.2.2.1.1
  show W p g.1 e R s mi args below meth _ H locs cells slots Qf (F0 mi pc ls (.ref (ad 14 0) :: st.map (mco ad)))
  rw [a1]
  exact va_slen X.1.1 X.1.2.1 O.2.1 (Nat.lt_of_lt_of_le O.2.2.2.1 O.2.2.2.2.2.1) (Nat.not_le.mpr O.2.2.2.1) X.2.2.2.2.2 hc kk'
theorem tr_dlen (hc : decode m.2.1 pc = .ok (.arraylength, 1)) (kk : mT g m d mc ms (pc + 1) L (vi 0 :: st) h Q) : mT g m d mc ms pc L (vr 15 0 :: st) h Q := by
  intro p R e s mi args below meth c H ls locs cells slots ad ad0 h0 Qf X E
  have hst := List.forall_mem_cons.mp X.2.2.2.2.1.2
  obtain ⟨ws, ix, S⟩ := X.2.2.2.1.2
  obtain ⟨⟨a1, a2, a3, a4, a5, a6, a7, a8, a9⟩, b, c⟩ := S.2.2.2.2
  have kk' := kk.use (X.to X.2.2.2.2.1.1 (List.forall_mem_cons.mpr ⟨trivial, hst.2⟩)) E
  have O := X.2.2.1.1
  obtain ⟨cell, q1, q2, q3, q4⟩ := O.2.2.1
  show W p g.1 e R s mi args below meth _ H locs cells slots Qf (F0 mi pc ls (.ref (ad 15 0) :: st.map (mco ad)))
  rw [a2]
  exact W.alen (n := 0) X.1.1 X.1.2.1 (by rw [X.2.2.2.2.2.2.1 _ (Nat.lt_of_lt_of_le O.2.2.2.2.1 O.2.2.2.2.2.1) (Nat.not_le.mpr O.2.2.2.2.1)]; exact q1) q2 (by rw [q4]; rfl) rfl rfl hc kk'
theorem tr_alen {k n : Nat} {v : Int32} (hk : k = 11 ∨ k = 12 ∨ k = 13) (hc : decode m.2.1 pc = .ok (.arraylength, 1)) (hv : Int32.ofNat (hL h k n) = v) (kk : mT g m d mc ms (pc + 1) L (vi v :: st) h Q) : mT g m d mc ms pc L (vr k n :: st) h Q := by
  intro p R e s mi args below meth c H ls locs cells slots ad ad0 h0 Qf X E
  have hst := List.forall_mem_cons.mp X.2.2.2.2.1.2
  obtain ⟨ws, ix, S⟩ := X.2.2.2.1.2
  have kk' := kk.use (X.to X.2.2.2.2.1.1 (List.forall_mem_cons.mpr ⟨trivial, hst.2⟩)) E
  rcases hk with rfl | rfl | rfl
  · exact va_alen X.1.1 X.1.2.1 X.2.2.1.2 S.2.2.1 (ix 11 n) 0 (S.1 11 n (by omega) hst.1) rfl hv hc kk'
  · exact va_alen X.1.1 X.1.2.1 X.2.2.1.2 S.2.2.1 (ix 12 n) 1 (S.1 12 n (by omega) hst.1) rfl hv hc kk'
  · exact va_alen X.1.1 X.1.2.1 X.2.2.1.2 S.2.2.1 (ix 13 n) 2 (S.1 13 n (by omega) hst.1) rfl hv hc kk'
theorem tr_aald {n : Nat} {i : Int32} {r : Option (Nat × Nat)} (hc : decode m.2.1 pc = .ok (.aaload, 1)) (hin : vp_in i (hL h 13 n)) (hr : hP h 13 n i.toNatClampNeg = r) (kk : mT g m d mc ms (pc + 1) L (vp r :: st) h Q) : mT g m d mc ms pc L (vi i :: vr 13 n :: st) h Q := by
  intro p R e s mi args below meth c H ls locs cells slots ad ad0 h0 Qf X E
  have hst := List.forall_mem_cons.mp (List.forall_mem_cons.mp X.2.2.2.2.1.2).2
  obtain ⟨ws, ix, S⟩ := X.2.2.2.1.2
  have hw : mwf h (vp r) := by
    cases r with
    | none => exact trivial
    | some r => exact S.2.2.2.2.2.1 _ _ _ _ hr
  have kk' := kk.use (X.to X.2.2.2.2.1.1 (List.forall_mem_cons.mpr ⟨hw, hst.2⟩)) E
  have he : mco ad (vp r) = va_rf (mpt ad h n i.toNatClampNeg) := by
    unfold mpt
    rw [hr]
    cases r <;> rfl
  rw [List.map_cons, he] at kk'
  exact va_aldq (C := "java/lang/Object") X.1.1 X.1.2.1 X.2.2.1.2 S.2.2.1 (ix 13 n) 2 ((S.1 13 n (by omega) hst.1).trans (by rw [ment_q])) rfl hin hc kk'
theorem upd_hI (h : mH) (k n i : Nat) (x : Int32) : upd (hI h k n) i x = hI (setI h k n i x) k n := by
  funext j
  show (if j = i then x else hI h k n j) = if k = k ∧ n = n ∧ j = i then x else hI h k n j
  by_cases q : j = i
  · rw [if_pos q, if_pos ⟨rfl, rfl, q⟩]
  · rw [if_neg q, if_neg (fun z => q z.2.2)]
theorem tr_iast {n : Nat} {i x : Int32} (hc : decode m.2.1 pc = .ok (.iastore, 1)) (hin : vp_in i (hL h 11 n)) (kk : mT g m d mc ms (pc + 1) L st (setI h 11 n i.toNatClampNeg x) Q) : mT g m d mc ms pc L (vi x :: vi i :: vr 11 n :: st) h Q := by
  intro p R e s mi args below meth c H ls locs cells slots ad ad0 h0 Qf X E
  have hst := List.forall_mem_cons.mp (List.forall_mem_cons.mp (List.forall_mem_cons.mp X.2.2.2.2.1.2).2).2
  obtain ⟨ws, ix, S⟩ := X.2.2.2.1.2
  refine va_iast X.1.1 X.1.2.1 X.2.2.1.2 S.2.2.1 S.2.2.2.1 X.2.2.2.2.2 (ix 11 n) 0 ((S.1 11 n (by omega) hst.1).trans (by rw [ment_i])) rfl hin hc fun H1 locs1 P1 D1 S1 => ?_
  exact kk.use (X.heap (h' := setI h 11 n i.toNatClampNeg x) (fun _ => rfl) (S.set (by omega) hst.1 (by rw [ment_i, upd_hI]; rfl) (fun _ => rfl) (fun k' n' hk' q => ment_congr (hI_ne q) rfl rfl hk') (S.2.2.2.2.sI _ _ _ _ (by omega)) P1 D1) hst.2 S1) E
theorem tr_zast {n : Nat} {i x : Int32} (hc : decode m.2.1 pc = .ok (.bastore, 1)) (hin : vp_in i (hL h 12 n)) (hx : vp_nar .boolean x = x) (kk : mT g m d mc ms (pc + 1) L st (setI h 12 n i.toNatClampNeg x) Q) : mT g m d mc ms pc L (vi x :: vi i :: vr 12 n :: st) h Q := by
  intro p R e s mi args below meth c H ls locs cells slots ad ad0 h0 Qf X E
  have hst := List.forall_mem_cons.mp (List.forall_mem_cons.mp (List.forall_mem_cons.mp X.2.2.2.2.1.2).2).2
  obtain ⟨ws, ix, S⟩ := X.2.2.2.1.2
  refine va_zast X.1.1 X.1.2.1 X.2.2.1.2 S.2.2.1 S.2.2.2.1 X.2.2.2.2.2 (ix 12 n) 1 ((S.1 12 n (by omega) hst.1).trans (by rw [ment_z])) rfl hin hc fun H1 locs1 P1 D1 S1 => ?_
  exact kk.use (X.heap (h' := setI h 12 n i.toNatClampNeg x) (fun _ => rfl) (S.set (by omega) hst.1 (by rw [ment_z, hx, upd_hI]; rfl) (fun _ => rfl) (fun k' n' hk' q => ment_congr (hI_ne q) rfl rfl hk') (S.2.2.2.2.sI _ _ _ _ (by omega)) P1 D1) hst.2 S1) E
theorem up_mpt (ad : Nat → Nat → Nat) (h : mH) (n i : Nat) (r : Option (Nat × Nat)) : va_up (mpt ad h n) i (r.map fun r => ad r.1 r.2) = mpt ad (setP h 13 n i r) n := by
  funext j
  show (if j = i then (r.map fun r => ad r.1 r.2) else mpt ad h n j) = (if (13:Nat) = 13 ∧ n = n ∧ j = i then r else hP h 13 n j).map fun r => ad r.1 r.2
  by_cases q : j = i
  · rw [if_pos q, if_pos ⟨rfl, rfl, q⟩]
  · rw [if_neg q, if_neg (fun z => q z.2.2)]
    rfl
theorem mCo.sP {g : mG} {ad : Nat → Nat → Nat} {h : mH} (k n f : Nat) (v : Option (Nat × Nat)) (hv : mwf h (vp v)) (C : mCo g ad h) : mCo g ad (setP h k n f v) := by
  obtain ⟨a, b, c⟩ := C
  refine ⟨a, ?_, c⟩
  intro k' n' f' r' hr
  by_cases q : k' = k ∧ n' = n ∧ f' = f
  · have e : hP (setP h k n f v) k' n' f' = v := if_pos q
    rw [e] at hr
    subst hr
    exact hv
  · have e : hP (setP h k n f v) k' n' f' = hP h k' n' f' := if_neg q
    rw [e] at hr
    exact b _ _ _ _ hr
theorem mAny {s : State} {H : Heap} {ad : Nat → Nat → Nat} {ws : va_W} {ix : Nat → Nat → Nat} {k n : Nat} {H0 : Heap} (hO : mOld g s H0) (hK : va_K g.2.1 mcl (mtys g) s) (S : mSm g ad h H ws ix) (hk : k < 11) (hn : n < hC h k) : va_Any "java/lang/Object" s H (ad k n) := by
  have hin := S.1 k n (by omega) hn
  rw [ment_o hk] at hin
  refine va_rAny hK S.2.2.1 hin (mcl_at hk) fun comp c0 h1 h2 => ?_
  obtain ⟨c1, t1, f1, f2, f3⟩ := Cond.castable_spec (va_Nw.use (A := #[]) rfl (hO.2.2.2.2.2.2.2.1 k hk))
  cases h2.symm.trans f1
  cases h1.symm.trans f2
  exact f3
theorem tr_aast {n k n' : Nat} {i : Int32} (hc : decode m.2.1 pc = .ok (.aastore, 1)) (hin : vp_in i (hL h 13 n)) (hk : k < 11) (kk : mT g m d mc ms (pc + 1) L st (setP h 13 n i.toNatClampNeg (some (k, n'))) Q) : mT g m d mc ms pc L (vr k n' :: vi i :: vr 13 n :: st) h Q := by
  intro p R e s mi args below meth c H ls locs cells slots ad ad0 h0 Qf X E
  have hv := List.forall_mem_cons.mp X.2.2.2.2.1.2
  have hst := List.forall_mem_cons.mp (List.forall_mem_cons.mp hv.2).2
  obtain ⟨ws, ix, S⟩ := X.2.2.2.1.2
  refine va_astqM X.1.1 X.1.2.1 X.2.2.1.2 S.2.2.1 S.2.2.2.1 X.2.2.2.2.2 (ix 13 n) 2 (E := "java/lang/Object") ((S.1 13 n (by omega) hst.1).trans (by rw [ment_q])) rfl (mAny X.2.2.1.1 X.2.2.1.2 S hk hv.1) hin hc fun H1 locs1 P1 D1 S1 => ?_
  exact kk.use (X.heap (h' := setP h 13 n i.toNatClampNeg (some (k, n'))) (fun _ => rfl) (S.set (by omega) hst.1 (by rw [ment_q, ← up_mpt]; rfl) (fun _ => rfl) (fun k' n' hk' q => ment_congr rfl (hP_ne q) rfl hk') (S.2.2.2.2.sP _ _ _ _ hv.1) P1 D1) hst.2 S1) E
theorem tr_aastN {n : Nat} {i : Int32} (hc : decode m.2.1 pc = .ok (.aastore, 1)) (hin : vp_in i (hL h 13 n)) (kk : mT g m d mc ms (pc + 1) L st (setP h 13 n i.toNatClampNeg none) Q) : mT g m d mc ms pc L (vn :: vi i :: vr 13 n :: st) h Q := by
  intro p R e s mi args below meth c H ls locs cells slots ad ad0 h0 Qf X E
  have hv := List.forall_mem_cons.mp X.2.2.2.2.1.2
  have hst := List.forall_mem_cons.mp (List.forall_mem_cons.mp hv.2).2
  obtain ⟨ws, ix, S⟩ := X.2.2.2.1.2
  refine va_astqN (C := "java/lang/Object") X.1.1 X.1.2.1 X.2.2.1.2 S.2.2.1 S.2.2.2.1 X.2.2.2.2.2 (ix 13 n) 2 ((S.1 13 n (by omega) hst.1).trans (by rw [ment_q])) rfl hin hc fun H1 locs1 P1 D1 S1 => ?_
  exact kk.use (X.heap (h' := setP h 13 n i.toNatClampNeg none) (fun _ => rfl) (S.set (by omega) hst.1 (by rw [ment_q, ← up_mpt]; rfl) (fun _ => rfl) (fun k' n' hk' q => ment_congr rfl (hP_ne q) rfl hk') (S.2.2.2.2.sP _ _ _ _ trivial) P1 D1) hst.2 S1) E
end TR
end
section
/-! rules: new cells, casts, statics, constants, the numbers' own helpers -/
def newAd (ad : Nat → Nat → Nat) (k n q : Nat) : Nat → Nat → Nat := fun k' n' => if k' = k ∧ n' = n then q else ad k' n'
theorem hC_newC (h : mH) (k len k' : Nat) : hC (newC h k len) k' = if k' = k then hC h k + 1 else hC h k' := rfl
theorem hC_le (h : mH) (k len k' : Nat) : hC h k' ≤ hC (newC h k len) k' := by
  rw [hC_newC]
  split
  · rename_i q; subst q; omega
  · omega
theorem newC_I {h : mH} {k len k' n' : Nat} (q : ¬ (k' = k ∧ n' = hC h k)) : hI (newC h k len) k' n' = hI h k' n' := by
  funext f
  exact if_neg q
theorem newC_P {h : mH} {k len k' n' : Nat} (q : ¬ (k' = k ∧ n' = hC h k)) : hP (newC h k len) k' n' = hP h k' n' := by
  funext f
  exact if_neg q
theorem newC_L {h : mH} {k len k' n' : Nat} (q : ¬ (k' = k ∧ n' = hC h k)) : hL (newC h k len) k' n' = hL h k' n' := if_neg q
theorem newC_I0 (h : mH) (k len f : Nat) : hI (newC h k len) k (hC h k) f = 0 := if_pos ⟨rfl, rfl⟩
theorem newC_P0 (h : mH) (k len f : Nat) : hP (newC h k len) k (hC h k) f = none := if_pos ⟨rfl, rfl⟩
theorem newC_L0 (h : mH) (k len : Nat) : hL (newC h k len) k (hC h k) = len := if_pos ⟨rfl, rfl⟩
theorem newC_wf {h : mH} {k len : Nat} (hw : ∀ (k n f : Nat) (r : Nat × Nat), hP h k n f = some r → r.2 < hC h r.1) : ∀ (k' n f : Nat) (r : Nat × Nat), hP (newC h k len) k' n f = some r → r.2 < hC h r.1 := by
  intro k' n f r hr
  by_cases q : k' = k ∧ n = hC h k
  · have e : hP (newC h k len) k' n f = none := if_pos q
    rw [e] at hr
    cases hr
  · rw [newC_P q] at hr
    exact hw _ _ _ _ hr
theorem newAd_old {ad : Nat → Nat → Nat} {h : mH} {k q k' n' : Nat} (hn : n' < hC h k') : newAd ad k (hC h k) q k' n' = ad k' n' := by
  unfold newAd
  rw [if_neg]
  rintro ⟨rfl, rfl⟩
  omega
theorem mco_new {ad : Nat → Nat → Nat} {h : mH} {k q : Nat} {v : mV} (hw : mwf h v) : mco (newAd ad k (hC h k) q) v = mco ad v := by
  rcases v with x | x | r | r
  · rfl
  · rfl
  · rfl
  · show Value.ref _ = Value.ref _
    rw [newAd_old hw]
theorem mSm.push {g : mG} {ad : Nat → Nat → Nat} {h : mH} {H H' : Heap} {ws : va_W} {ix : Nat → Nat → Nat} {k len q : Nat} {e : va_E} (S : mSm g ad h H ws ix) (hk : k < 14) (he : e = ment g (newAd ad k (hC h k) q) (newC h k len) k (hC h k))
    (P' : va_P g.2.1 mcl (ws ++ [(q, e)]) H') (D' : va_D (mA g) (ws ++ [(q, e)])) : mSim g (newAd ad k (hC h k) q) (newC h k len) H' := by
  obtain ⟨⟨a1, a2, a3, a4, a5, a6, a7, a8, a9⟩, b, c⟩ := S.2.2.2.2
  have ho : ∀ k' n', k' < 14 → n' < hC h k' → ment g (newAd ad k (hC h k) q) (newC h k len) k' n' = ment g ad h k' n' := by
    intro k' n' hk' hn'
    have hne : ¬ (k' = k ∧ n' = hC h k) := by rintro ⟨rfl, rfl⟩; omega
    rw [ment_congr (newC_I hne) (newC_P hne) (newC_L hne) hk']
    exact ment_ad (fun f r hr => newAd_old (b _ _ _ _ hr)) hk'
  have hold : ∀ k' n', k' < 14 → n' < hC h k' → ix k' n' < ws.length := fun k' n' h1 h2 => (List.getElem?_eq_some_iff.mp (S.1 k' n' h1 h2)).1
  refine ⟨ws ++ [(q, e)], fun k' n' => if k' = k ∧ n' = hC h k then ws.length else ix k' n', ?_, ?_, P', D', ⟨?_, ?_, ?_⟩⟩
  · intro k' n' hk' hn'
    dsimp only
    by_cases z : k' = k ∧ n' = hC h k
    · obtain ⟨rfl, rfl⟩ := z
      rw [if_pos ⟨rfl, rfl⟩, List.getElem?_append_right (Nat.le_refl _), Nat.sub_self, he]
      show some (q, _) = some (newAd ad k' (hC h k') q k' (hC h k'), _)
      have e2 : newAd ad k' (hC h k') q k' (hC h k') = q := if_pos ⟨rfl, rfl⟩
      rw [e2]
    · have hn2 : n' < hC h k' := by
        rw [hC_newC] at hn'
        split at hn'
        · rename_i y; subst y
          have : n' ≠ hC h k' := fun w => z ⟨rfl, w⟩
          omega
        · exact hn'
      rw [if_neg z, List.getElem?_append_left (hold _ _ hk' hn2), S.1 _ _ hk' hn2, ho _ _ hk' hn2, newAd_old hn2]
  · intro k1 n1 k2 n2 x1 x2 x3 x4 hix
    have hlt : ∀ k' n', n' < hC (newC h k len) k' → ¬ (k' = k ∧ n' = hC h k) → n' < hC h k' := by
      intro k' n' hn' z
      rw [hC_newC] at hn'
      split at hn'
      · rename_i y; subst y
        have : n' ≠ hC h k' := fun w => z ⟨rfl, w⟩
        omega
      · exact hn'
    dsimp only at hix
    by_cases z1 : k1 = k ∧ n1 = hC h k <;> by_cases z2 : k2 = k ∧ n2 = hC h k
    · exact ⟨z1.1.trans z2.1.symm, z1.2.trans z2.2.symm⟩
    · rw [if_pos z1, if_neg z2] at hix
      have := hold _ _ x3 (hlt _ _ x4 z2)
      omega
    · rw [if_neg z1, if_pos z2] at hix
      have := hold _ _ x1 (hlt _ _ x2 z1)
      omega
    · rw [if_neg z1, if_neg z2] at hix
      exact S.2.1 _ _ _ _ x1 (hlt _ _ x2 z1) x3 (hlt _ _ x4 z2) hix
  · have n14 : ∀ k', 14 ≤ k' → ∀ n, newAd ad k (hC h k) q k' n = ad k' n := fun k' hk' n => if_neg (by omega)
    have c14 : ∀ k', 14 ≤ k' → hC (newC h k len) k' = hC h k' := fun k' hk' => if_neg (by omega)
    refine ⟨by rw [n14 _ (by omega)]; exact a1, by rw [n14 _ (by omega)]; exact a2, by rw [c14 _ (by omega)]; exact a3, by rw [c14 _ (by omega)]; exact a4, by rw [newC_L (by omega)]; exact a5, by rw [newC_L (by omega)]; exact a6, by rw [newC_I (by omega)]; exact a7, by rw [n14 _ (by omega)]; exact a8, by rw [c14 _ (by omega)]; exact a9⟩
  · intro k' n f r hr
    exact Nat.lt_of_lt_of_le (newC_wf b _ _ _ _ hr) (hC_le _ _ _ _)
  · intro k' hk'
    rw [hC_newC, if_neg (by omega)]
    exact c k' hk'
theorem mX.born {g : mG} {m : mMe} {d mc ms w : Nat} {L : List (Option mV)} {st st' : List mV} {h : mH} {p : Program} {R : Room} {s : State} {mi : MethodId} {args : Array Value} {meth : Method} {c : Code} {H H1 : Heap} {ls : Array Slot} {locs : List Loc} {cells slots : Nat} {ad ad0 : Nat → Nat → Nat} {h0 : mH} {k len q : Nat}
    (X : mX g m d (mc + 1) (ms + w) L st h p R s mi args meth c H ls locs cells slots ad ad0 h0) (hS : mSim g (newAd ad k (hC h k) q) (newC h k len) H1) (h2 : ∀ v ∈ st', mwf h v) (S1 : va_S (mA g) s.heap H1 locs) :
    mX g m d mc ms L (vr k (hC h k) :: st') (newC h k len) p R s mi args meth c H1 ls locs (cells + 1) (slots + w) (newAd ad k (hC h k) q) ad0 h0 := by
  have hw : ∀ v, mwf h v → mwf (newC h k len) v := by
    intro v
    rcases v with x | x | r | r
    · exact id
    · exact id
    · exact id
    · exact fun hr => Nat.lt_of_lt_of_le hr (hC_le _ _ _ _)
  refine ⟨X.1, ⟨X.2.1.1, X.2.1.2.1, by have := X.2.1.2.2.1; omega, by have := X.2.1.2.2.2; omega⟩, X.2.2.1, ⟨fun k' n' hn => ?_, hS⟩, ⟨⟨X.2.2.2.2.1.1.1, X.2.2.2.2.1.1.2.1, X.2.2.2.2.1.1.2.2.1, fun i v hi => ?_⟩, ?_⟩, S1⟩
  · obtain ⟨h1, h3⟩ := X.2.2.2.1.1 k' n' hn
    exact ⟨Nat.lt_of_lt_of_le h1 (hC_le _ _ _ _), by rw [newAd_old h1]; exact h3⟩
  · obtain ⟨h1, h3⟩ := X.2.2.2.2.1.1.2.2.2 i v hi
    exact ⟨by rw [mco_new h3]; exact h1, hw v h3⟩
  · refine List.forall_mem_cons.mpr ⟨?_, fun v hv => hw v (h2 v hv)⟩
    show hC h k < hC (newC h k len) k
    rw [hC_newC, if_pos rfl]
    omega
theorem mstk_new {ad : Nat → Nat → Nat} {h : mH} {k q : Nat} {st : List mV} (hw : ∀ v ∈ st, mwf h v) : st.map (mco (newAd ad k (hC h k) q)) = st.map (mco ad) := List.map_congr_left fun v hv => mco_new (hw v hv)
theorem newAd_self (ad : Nat → Nat → Nat) (k n q : Nat) : newAd ad k n q k n = q := if_pos ⟨rfl, rfl⟩
set_option maxRecDepth 100000 in
theorem mdef_ok : ∀ k, k < 11 → ∀ f, f < (mkd k).2.2 → defaultValue (mty k f) = if misR (mty k f) = true then Value.null else Value.int 0 := by decide +kernel
section TR
variable {g : mG} {m : mMe} {d mc ms pc : Nat} {L : List (Option mV)} {st : List mV} {h : mH} {Q : Option mV → mH → Prop}
theorem tr_new {k w idx : Nat} (hc : decode m.2.1 pc = .ok (.new idx, 3)) (hk : k < 11) (hw : (mkd k).2.2 = w) (hl : Cond.classLink m.1.cls idx (mkd k).1 ∈ mTb) (hi : Cond.instantiable (mkd k).1 (mkd k).2.2 ∈ mTb) (hn : Cond.initialized (mkd k).1 ∈ mTb)
    (kk : mT g m d mc ms (pc + 3) L (vr k (hC h k) :: st) (newC h k 0) Q) : mT g m d (mc + 1) (ms + w) pc L st h Q := by
  intro p R e s mi args below meth c H ls locs cells slots ad ad0 h0 Qf X E
  subst hw
  obtain ⟨ws, ix, S⟩ := X.2.2.2.1.2
  have hA : ∀ q, s.heap.size ≤ q → mA g q := fun q hq => Nat.le_trans X.2.2.1.1.2.2.2.2.2.1 hq
  refine va_new (T := (mkd k).2.1) (N := (mkd k).2.2) (C := (mkd k).1) X.1.1 X.1.2.1 X.1.2.2.2.2.1 (mlays k hk) (mty k) (mtys_ok k hk) X.1.2.2.2.1 (X.1.2.2.2.2.1 _ hl) (X.1.2.2.2.2.1 _ hi) (X.1.2.2.2.2.1 _ hn) X.2.2.1.2 S.2.2.1 S.2.2.2.1 X.2.2.2.2.2 hA (mcl_at hk) (fs := mfs ad (newC h k 0) k (hC h k)) ?_ (by have := X.2.1.2.2.1; omega) (by have := X.2.1.2.2.2; omega) hc fun q H1 P1 D1 S1 => ?_
  · intro j hj
    rw [mdef_ok k hk j hj]
    show _ = (mfs ad (newC h k 0) k (hC h k)).getD j .null
    rw [List.getD_eq_getElem?_getD, mfs_at hj]
    show _ = mfv _ _ _ _ _
    unfold mfv
    rw [newC_I0, newC_P0]
    rfl
  · have e : mfs (newAd ad k (hC h k) q) (newC h k 0) k (hC h k) = mfs ad (newC h k 0) k (hC h k) := by
      unfold mfs
      refine List.map_congr_left fun f _ => ?_
      unfold mfv
      rw [newC_P0]
      rfl
    have kk' := kk.use (X.born (S.push (len := 0) (by omega) (by rw [ment_o hk, e]) P1 D1) X.2.2.2.2.1.2 S1) E
    rw [List.map_cons, mstk_new X.2.2.2.2.1.2] at kk'
    have e3 : mco (newAd ad k (hC h k) q) (vr k (hC h k)) = .ref q := congrArg Value.ref (newAd_self _ _ _ _)
    rw [e3] at kk'
    exact kk'
theorem mRA_int {s : State} {cA cB : ClassId} {ty : FieldType} (hn : ∀ C, ty ≠ .object C) (h1 : va_RA s cA ty) (h2 : va_RA s cB ty) : cA = cB := by
  cases ty with
  | object C => exact absurd rfl (hn C)
  | _ => exact Option.some.inj (Eq.trans (Eq.symm h1) h2)
theorem tr_newI {n : Int32} {w : Nat} (hc : decode m.2.1 pc = .ok (.newarray .int, 2)) (h0 : ¬ n < 0) (hw : n.toNatClampNeg = w) (hb : w ≤ 1000000) (hl : Cond.arrayClass .int ∈ mTb) (kk : mT g m d mc ms (pc + 2) L (vr 11 (hC h 11) :: st) (newC h 11 w) Q) : mT g m d (mc + 1) (ms + w) pc L (vi n :: st) h Q := by
  intro p R e s mi args below meth c H ls locs cells slots ad ad0 h0' Qf X E
  obtain ⟨ws, ix, S⟩ := X.2.2.2.1.2
  have hst := (List.forall_mem_cons.mp X.2.2.2.2.1.2).2
  have hA : ∀ q, s.heap.size ≤ q → mA g q := fun q hq => Nat.le_trans X.2.2.1.1.2.2.2.2.2.1 hq
  refine va_newa (atype := .int) (ty := .int) (a0 := (w, .inl (fun _ => 0))) X.1.1 X.1.2.1 (X.1.2.2.2.2.1 _ hl) rfl X.2.2.1.2 S.2.2.1 S.2.2.2.1 X.2.2.2.2.2 hA (fun _ => rfl) h0 hw (by show w * 4 ≤ _; omega) (by have := X.2.1.2.2.1; omega) (by have := X.2.1.2.2.2; omega) hc fun q cA H1 K1 P1 D1 S1 => ?_
  have e : cA = g.2.2.1.1 := mRA_int (fun C hC => by cases hC) (K1.2 3 (cA, .int) rfl).2 (K1.2 0 _ rfl).2
  subst e
  have kk' := kk.use (X.born (S.push (len := w) (by omega) (by rw [ment_i, newC_L0, show hI (newC h 11 w) 11 (hC h 11) = (fun _ => 0) from funext fun f => newC_I0 _ _ _ _]) P1 D1) hst S1) E
  rw [List.map_cons, mstk_new hst] at kk'
  have e3 : mco (newAd ad 11 (hC h 11) q) (vr 11 (hC h 11)) = .ref q := congrArg Value.ref (newAd_self _ _ _ _)
  rw [e3] at kk'
  exact kk'
theorem tr_newZ {n : Int32} {w : Nat} (hc : decode m.2.1 pc = .ok (.newarray .boolean, 2)) (h0 : ¬ n < 0) (hw : n.toNatClampNeg = w) (hb : w ≤ 1000000) (hl : Cond.arrayClass .boolean ∈ mTb) (kk : mT g m d mc ms (pc + 2) L (vr 12 (hC h 12) :: st) (newC h 12 w) Q) : mT g m d (mc + 1) (ms + w) pc L (vi n :: st) h Q := by
  intro p R e s mi args below meth c H ls locs cells slots ad ad0 h0' Qf X E
  obtain ⟨ws, ix, S⟩ := X.2.2.2.1.2
  have hst := (List.forall_mem_cons.mp X.2.2.2.2.1.2).2
  have hA : ∀ q, s.heap.size ≤ q → mA g q := fun q hq => Nat.le_trans X.2.2.1.1.2.2.2.2.2.1 hq
  refine va_newa (atype := .boolean) (ty := .boolean) (a0 := (w, .inl (fun _ => 0))) X.1.1 X.1.2.1 (X.1.2.2.2.2.1 _ hl) rfl X.2.2.1.2 S.2.2.1 S.2.2.2.1 X.2.2.2.2.2 hA (fun _ => rfl) h0 hw (by show w * 1 ≤ _; omega) (by have := X.2.1.2.2.1; omega) (by have := X.2.1.2.2.2; omega) hc fun q cA H1 K1 P1 D1 S1 => ?_
  have e : cA = g.2.2.1.2.1 := mRA_int (fun C hC => by cases hC) (K1.2 3 (cA, .boolean) rfl).2 (K1.2 1 _ rfl).2
  subst e
  have kk' := kk.use (X.born (S.push (len := w) (by omega) (by rw [ment_z, newC_L0, show hI (newC h 12 w) 12 (hC h 12) = (fun _ => 0) from funext fun f => newC_I0 _ _ _ _]) P1 D1) hst S1) E
  rw [List.map_cons, mstk_new hst] at kk'
  have e3 : mco (newAd ad 12 (hC h 12) q) (vr 12 (hC h 12)) = .ref q := congrArg Value.ref (newAd_self _ _ _ _)
  rw [e3] at kk'
  exact kk'
theorem tr_newQ {n : Int32} {w idx : Nat} (hc : decode m.2.1 pc = .ok (.anewarray idx, 3)) (h0 : ¬ n < 0) (hw : n.toNatClampNeg = w) (hb : w ≤ 1000000) (hl : Cond.classLink m.1.cls idx "java/lang/Object" ∈ mTb) (kk : mT g m d mc ms (pc + 3) L (vr 13 (hC h 13) :: st) (newC h 13 w) Q) : mT g m d (mc + 1) (ms + w) pc L (vi n :: st) h Q := by
  intro p R e s mi args below meth c H ls locs cells slots ad ad0 h0' Qf X E
  obtain ⟨ws, ix, S⟩ := X.2.2.2.1.2
  have hst := (List.forall_mem_cons.mp X.2.2.2.2.1.2).2
  have hA : ∀ q, s.heap.size ≤ q → mA g q := fun q hq => Nat.le_trans X.2.2.1.1.2.2.2.2.2.1 hq
  refine va_newq (C := "java/lang/Object") X.1.1 X.1.2.1 X.1.2.2.2.1 (X.1.2.2.2.2.1 _ hl) X.2.2.1.1.2.2.2.2.2.2.2.2.1 X.2.2.1.2 S.2.2.1 S.2.2.2.1 X.2.2.2.2.2 hA h0 hw (by omega) (by have := X.2.1.2.2.1; omega) (by have := X.2.1.2.2.2; omega) hc fun q cA H1 K1 P1 D1 S1 => ?_
  have e : cA = g.2.2.1.2.2 := by
    obtain ⟨k1, c1, x1, x2, x3, x4⟩ := (K1.2 3 (cA, .object "java/lang/Object") rfl).2
    obtain ⟨k2, c2, y1, y2, y3, y4⟩ := (K1.2 2 _ rfl).2
    exact Option.some.inj (x4.symm.trans y4)
  subst e
  have kk' := kk.use (X.born (S.push (len := w) (by omega) (by rw [ment_q, newC_L0, show mpt (newAd ad 13 (hC h 13) q) (newC h 13 w) (hC h 13) = (fun _ => none) from funext fun f => by unfold mpt; rw [newC_P0]; rfl]) P1 D1) hst S1) E
  rw [List.map_cons, mstk_new hst] at kk'
  have e3 : mco (newAd ad 13 (hC h 13) q) (vr 13 (hC h 13)) = .ref q := congrArg Value.ref (newAd_self _ _ _ _)
  rw [e3] at kk'
  exact kk'
end TR
end
section
/-! rules: calls -/
abbrev mR (d mc ms : Nat) : Room := { frames := d, cells := mc, slots := ms, locals := 40 * d }
def mPU (g : mG) (ad : Nat → Nat → Nat) (h : mH) (U : State) : Prop := mOld g U U.heap ∧ va_K g.2.1 mcl (mtys g) U ∧ mSim g ad h U.heap
def mQc (g : mG) (ad0 : Nat → Nat → Nat) (h0 : mH) (Q : Option mV → mH → Prop) : Array Value → State → Outcome → State → Prop := fun _ st o t =>
  (∃ (v : Option mV) (h : mH) (ad : Nat → Nat → Nat), o = .returned (v.map (mco ad)) ∧ Q v h ∧ mExt h0 ad0 h ad ∧ mSim g ad h t.heap ∧ ∀ x, v = some x → mwf h x) ∧ va_F (mA g) st t
/-- the locals with which a method begins -/
def margs (vs : List mV) (n : Nat) : List (Option mV) := vs.map some ++ List.replicate (n - vs.length) none
theorem lv_args1 {ad : Nat → Nat → Nat} : ∀ (vs : List mV) (i : Nat), (∀ v ∈ vs, mc1 v = true) → ∀ (j : Nat) (v : mV), vs[j]? = some v → (i + j, mco ad v) ∈ lv_args i (vs.map (mco ad))
  | [], _, _, j, v, h => by simp at h
  | w :: vs, i, hv, j, v, h => by
    have hw := List.forall_mem_cons.mp hv
    rw [List.map_cons]
    unfold lv_args
    rw [if_neg (by rw [mc1_cat hw.1]; omega)]
    cases j with
    | zero =>
      cases h
      exact List.mem_cons_self
    | succ j =>
      have := lv_args1 (ad := ad) vs (i + 1) hw.2 j v (by simpa using h)
      rw [show i + 1 + j = i + (j + 1) by omega] at this
      exact List.mem_cons_of_mem _ this
theorem lg_len1 {ad : Nat → Nat → Nat} : ∀ (vs : List mV), (∀ v ∈ vs, mc1 v = true) → (lg_sl (vs.map (mco ad))).length = vs.length
  | [], _ => rfl
  | w :: vs, hv => by
    have hw := List.forall_mem_cons.mp hv
    have ih := lg_len1 (ad := ad) vs hw.2
    unfold lg_sl at ih ⊢
    rw [List.map_cons, List.flatMap_cons, List.length_append, ih, if_neg (by rw [mc1_cat hw.1]; omega)]
    simp
    omega
theorem mLoc.entry {ad : Nat → Nat → Nat} {h : mH} {vs : List mV} {n : Nat} (hv : ∀ v ∈ vs, mc1 v = true) (hn : vs.length ≤ n) (hw : ∀ v ∈ vs, mwf h v) : mLoc ad h n (margs vs n) ((lg_sl (vs.map (mco ad)) ++ List.replicate (n - (lg_sl (vs.map (mco ad))).length) Slot.unset).toArray) := by
  have hl := lv_entry (vs.map (mco ad)) (n := n) (by rw [lg_len1 vs hv]; exact hn)
  refine ⟨by unfold margs; simp; omega, hl.1, hl.2.1, ?_⟩
  intro i v hi
  have hi2 : vs[i]? = some v := by
    unfold margs at hi
    by_cases hlt : i < vs.length
    · rw [List.getElem?_append_left (by simpa using hlt), List.getElem?_map] at hi
      cases hq : vs[i]? with
      | none => rw [hq] at hi; cases hi
      | some w => rw [hq] at hi; cases hi; rfl
    · rw [List.getElem?_append_right (by simpa using hlt), List.getElem?_replicate] at hi
      split at hi
      · cases hi
      · cases hi
  have hm := lv_args1 (ad := ad) vs 0 hv i v hi2
  rw [Nat.zero_add] at hm
  exact ⟨hl.2.2 _ hm, hw v (List.mem_of_getElem? hi2)⟩
theorem mT.met {g : mG} {y : mMe} {d mc ms : Nat} {vs : List mV} {h : mH} {Q : Option mV → mH → Prop} (hy : plainFor y.1 = true) (hv : ∀ v ∈ vs, mc1 v = true) (hn : vs.length ≤ y.2.2.1) (B : mT g y d mc ms 0 (margs vs y.2.2.1) [] h Q) (ad : Nat → Nat → Nat) (hw : ∀ v ∈ vs, mwf h v) :
    Met g.1 y.1 (Cond.code y.1 y.2.1 y.2.2.1 y.2.2.2 :: mTb) (mR d mc ms) (va_Pc (vs.map (mco ad)) (mPU g ad h)) (mQc g ad h Q) mc ms (mA g) := by
  refine va_MetF (cc := y.2.1) (maxL := y.2.2.1) (ret := y.2.2.2) hy rfl ?_
  intro p e s m args below meth c s₁ B0 hml hv0
  obtain ⟨rfl, hO, hK, hS⟩ := hv0
  have hts := atoms_spec (ws := Cond.code y.1 y.2.1 y.2.2.1 y.2.2.2 :: mTb) B0.pre
  rw [lg_entry_eq]
  refine B.use (p := p) (R := mR d mc ms) (ad := ad) (ad0 := ad) (h0 := h) (cells := 0) (slots := 0) ⟨⟨B0.exec, B0.bytes, hml, findClass_of_methodNamed B0.named, fun w hw => hts w (List.mem_cons_of_mem _ hw), B0.returns, B0.notSynchronized, fun hi => (name_of_methodNamed B0.named B0.method).1.trans hi⟩, ⟨Nat.le_refl _, Nat.le_refl _, by show 0 + mc ≤ mc; omega, by show 0 + ms ≤ ms; omega⟩, ⟨hO, hK⟩, ⟨fun k n hn => ⟨hn, rfl⟩, hS⟩, ⟨mLoc.entry hv hn hw, fun v hv => absurd hv List.not_mem_nil⟩, va_S.rf⟩ ?_
  intro H ls locs pc h' ad' v cells slots hret hq hext hsim hwf hS1 hc hs
  refine W.widen (k := mc) (n := ms) hc hs ?_
  have hlocks := B0.notSynchronized
  have hQ : ∀ t : State, t.heap = H → s.WarmedH t.vm → mQc g ad h Q (vs.map (mco ad)).toArray s (.returned (v.map (mco ad'))) t := fun t ht hW => ⟨⟨v, h', ad', rfl, hq, hext, by rw [ht]; exact hsim, hwf⟩, hS1.F ht⟩
  rcases v with _ | (x | x | r)
  · exact W.vret B0.exec B0.bytes (B0.returns.trans hret.1) hQ hS1.2.2 hret.2
  · obtain ⟨h1, ty, h2, h3⟩ := hret
    exact W.zret B0.exec B0.bytes (B0.returns.trans h2) h3 hQ hS1.2.2 h1
  · exact hret.elim
  · obtain ⟨h1, ty, h2, h3⟩ := hret
    exact W.aret B0.exec B0.bytes (B0.returns.trans h2) h3 (by cases r with
      | none => exact Or.inl rfl
      | some r => exact Or.inr ⟨_, rfl⟩) hQ hS1.2.2 h1
theorem mgood : ∀ w ∈ mTb, goodWord w = true := fun w hw => (List.mem_filter.mp hw).2
theorem mgoodIn {ws : List Cond} (h : ∀ w ∈ ws, w ∈ mTb) : GoodIn mTb ws := fun w hw => ⟨h w hw, good_of_word (mgood w (h w hw))⟩
theorem mcat_sum (ad : Nat → Nat → Nat) : ∀ st : List mV, ((st.map (mco ad)).map fun v => v.category).sum ≤ 2 * st.length
  | [] => Nat.le_refl _
  | v :: st => by
    have := mcat_sum ad st
    have h2 := lv_cat (mco ad v)
    simp only [List.map_cons, List.sum_cons, List.length_cons]
    omega
theorem mOld.warm {g : mG} {s U : State} {H : Heap} {locs : List Loc} (h : mOld g s s.heap) (hS : va_S (mA g) s.heap H locs) (hvm : s.vm.Alike U.vm) : mOld g U H := by
  obtain ⟨a1, a2, ⟨cell, b1, b2, b3, b4⟩, a4, a5, a6, a7, a8, a9, a10⟩ := h
  have hk : ∀ q : Nat, q < g.2.2.2.1.2.2.1 → H[q]? = s.heap[q]? := fun q hq => hS.2.1 q (Nat.lt_of_lt_of_le hq a6) (Nat.not_le.mpr hq)
  exact ⟨(a1.kept fun q h1 h2 => hS.2.1 q h1 h2).moved hvm, (a2.kept (hk _ a4)).moved hvm, ⟨cell, by rw [hk _ a5]; exact b1, State.isArrayOf_alike hvm b2, b3, b4⟩, a4, a5, Nat.le_trans a6 hS.1, va_Mi.moved hvm a7, fun k hk => va_tabs rfl (rfl : (s.setVm U.vm).vm = U.vm) (by rw [Cond.castable_setVm hvm]; exact a8 k hk), a9.moved hvm, a10.moved hvm⟩
theorem mPU_blind (g : mG) (ad : Nat → Nat → Nat) (h : mH) (as : List Value) : FrameBlind (va_Pc as (mPU g ad h)) := by
  intro a U gg mk ⟨q1, q2, q3, q4⟩
  exact ⟨q1, mOld.warm (locs := []) q2 va_S.rf (U := U.calling gg mk a) (Vm.Alike.refl U.vm), va_K.moved (u := U) (U := U.calling gg mk a) (Vm.Alike.refl U.vm) q3, q4⟩
theorem mco_ext {h h' : mH} {ad ad' : Nat → Nat → Nat} (hx : mExt h ad h' ad') {v : mV} (hw : mwf h v) : mco ad' v = mco ad v ∧ mwf h' v := by
  rcases v with x | x | r | r
  · exact ⟨rfl, trivial⟩
  · exact ⟨rfl, trivial⟩
  · exact ⟨rfl, trivial⟩
  · obtain ⟨h1, h2⟩ := hx r.1 r.2 hw
    exact ⟨congrArg Value.ref h2, h1⟩
/-- behind a call -/
theorem mX.called {g : mG} {m : mMe} {d mc ms mc' ms' : Nat} {L : List (Option mV)} {st st0 : List mV} {h h' : mH} {p : Program} {R : Room} {s : State} {mi : MethodId} {args : Array Value} {meth : Method} {c : Code} {H H1 : Heap} {ls : Array Slot} {locs L1 : List Loc} {cells slots : Nat} {ad ad' ad0 : Nat → Nat → Nat} {h0 : mH}
    (X : mX g m d mc ms L st0 h p R s mi args meth c H ls locs cells slots ad ad0 h0) (h1 : mc' ≤ mc) (h2 : ms' ≤ ms) (hx : mExt h ad h' ad') (hS : mSim g ad' h' H1) (hst : ∀ v ∈ st, mwf h' v) (hz : H.size ≤ H1.size) (hk : ∀ q : Nat, q < H.size → ¬ mA g q → H1[q]? = H[q]?) (hL : ∀ q ∈ L1, mA g q.base) :
    mX g m d (mc - mc') (ms - ms') L st h' p R s mi args meth c H1 ls (locs ++ L1) (cells + mc') (slots + ms') ad' ad0 h0 := by
  refine ⟨X.1, ⟨X.2.1.1, X.2.1.2.1, by have := X.2.1.2.2.1; omega, by have := X.2.1.2.2.2; omega⟩, X.2.2.1, ⟨fun k n hn => ?_, hS⟩, ⟨⟨X.2.2.2.2.1.1.1, X.2.2.2.2.1.1.2.1, X.2.2.2.2.1.1.2.2.1, fun i v hi => ?_⟩, hst⟩, ⟨Nat.le_trans X.2.2.2.2.2.1 hz, fun q q1 q2 => ?_, fun q hq => ?_⟩⟩
  · obtain ⟨a1, a2⟩ := X.2.2.2.1.1 k n hn
    obtain ⟨b1, b2⟩ := hx k n a1
    exact ⟨b1, b2.trans a2⟩
  · obtain ⟨a1, a2⟩ := X.2.2.2.2.1.1.2.2.2 i v hi
    obtain ⟨b1, b2⟩ := mco_ext hx a2
    exact ⟨by rw [b1]; exact a1, b2⟩
  · rw [hk q (Nat.lt_of_lt_of_le q1 X.2.2.2.2.2.1) q2]
    exact X.2.2.2.2.2.2.1 q q1 q2
  · rcases List.mem_append.mp hq with a | a
    · exact X.2.2.2.2.2.2.2 q a
    · exact hL q a
section TR
variable {g : mG} {m : mMe} {d mc ms pc : Nat} {L : List (Option mV)} {st : List mV} {h : mH} {Q : Option mV → mH → Prop}
/-- from a run of the callee to the walk behind it -/
theorem tr_run {y : mMe} {mc' ms' : Nat} {st0 : List mV} {Qk : Option mV → mH → Prop} (h1 : mc' ≤ mc) (h2 : ms' ≤ ms)
    (kk : ∀ v h', Qk v h' → mT g m d (mc - mc') (ms - ms') (pc + 3) L (v.toList ++ st) h' Q)
    {p : Program} {R : Room} {e : Env} {s : State} {mi : MethodId} {args : Array Value} {below : List Frame} {meth : Method} {c : Code} {H : Heap} {ls : Array Slot} {locs : List Loc} {cells slots : Nat} {ad ad0 : Nat → Nat → Nat} {h0 : mH} {Qf : State → Prop}
    (X : mX g m d mc ms L st0 h p R s mi args meth c H ls locs cells slots ad ad0 h0) (E : mEnd g m Q p R e s mi args below meth c ad0 h0 Qf) (hst : ∀ v ∈ st, mwf h v) {a : Array Value}
    (hr : va_Run p g.1 e R s mi args below meth c H locs cells slots mc' ms' (F0 mi pc ls (st0.map (mco ad))) (st.map (mco ad)) (mQc g ad h Qk a) (mA g)) :
    W p g.1 e R s mi args below meth c H locs cells slots Qf (F0 mi pc ls (st0.map (mco ad))) := by
  intro T hT X'
  obtain ⟨v, st₀, t, T', L', hh, X2, hL, e1, e2, ⟨⟨v', h', ad', hv, hQ, hext, hsim, hwf⟩, hF⟩, hgo⟩ := hr T hT X'
  cases hv
  have hst' : ∀ w ∈ v'.toList ++ st, mwf h' w := by
    intro w hw
    rcases List.mem_append.mp hw with hw | hw
    · exact hwf w (Option.mem_toList.mp hw)
    · exact (mco_ext hext (hst w hw)).2
  have hst2 : (v'.toList ++ st).map (mco ad') = (v'.map (mco ad')).toList ++ st.map (mco ad) := by
    rw [List.map_append]
    congr 1
    · cases v' <;> rfl
    · exact List.map_congr_left fun w hw => (mco_ext hext (hst w hw)).1
  have k1 := (kk v' h' hQ).use (X.called h1 h2 hext (by rw [e1]; exact hsim : mSim g ad' h' T'.heap) hst' (by rw [← hh, e1]; exact hF.1) (fun q q1 q2 => by rw [e1, ← hh]; exact hF.2 q (by rw [hh]; exact q1) q2) hL) E
  rw [hst2] at k1
  obtain ⟨t2, a1, b1⟩ := k1 T' rfl X2
  exact ⟨t2, hgo t2 a1, b1⟩
/-- what the tables say of a callee -/
def mCal (y : mMe) : Prop := plainFor y.1 = true ∧ (y.1.cls ≠ "java/lang/invoke/MethodHandle" ∧ y.1.cls ≠ "java/lang/invoke/VarHandle") ∧ y.2.2.1 ≤ 20 ∧ Cond.code y.1 y.2.1 y.2.2.1 y.2.2.2 ∈ mTb ∧ Cond.initialized y.1.cls ∈ mTb
theorem tr_callV {y : mMe} {idx k b d' mc' ms' : Nat} (vs : List mV) {Qk : Option mV → mH → Prop} (hc : decode m.2.1 pc = .ok (.invokevirtual idx, 3)) (C : mCal y) (hl : Cond.methodLink m.1.cls idx y.1 ∈ mTb) (hi : Cond.instanceMethod y.1 ∈ mTb ∧ Cond.selects y.1.cls y.1 y.1 ∈ mTb) (hk : k < 11 ∧ (mkd k).1 = y.1.cls)
    (hp : (parseMethodDescriptor y.1.desc).map (fun d => d.parameters.length) = some vs.length) (hd : d' < d) (h1 : mc' ≤ mc) (h2 : ms' ≤ ms) (hv : vs.all mc1 = true) (hn : vs.length + 1 ≤ y.2.2.1) (hs : st.length ≤ 4)
    (B : mT g y d' mc' ms' 0 (margs (vr k b :: vs) y.2.2.1) [] h Qk) (kk : ∀ v h', Qk v h' → mT g m d (mc - mc') (ms - ms') (pc + 3) L (v.toList ++ st) h' Q) : mT g m d mc ms pc L (vs.reverse ++ vr k b :: st) h Q := by
  intro p R e s mi args below meth c H ls locs cells slots ad ad0 h0 Qf X E
  have hw := X.2.2.2.2.1.2
  have hst : ∀ v ∈ st, mwf h v := fun v q => hw v (List.mem_append_right _ (List.mem_cons_of_mem _ q))
  have hb : mwf h (vr k b) := hw _ (List.mem_append_right _ List.mem_cons_self)
  have hvs : ∀ v ∈ vs, mwf h v := fun v q => hw v (List.mem_append_left _ (List.mem_reverse.mpr q))
  have hall : ∀ v ∈ vr k b :: vs, mc1 v = true := List.forall_mem_cons.mpr ⟨rfl, List.all_eq_true.mp hv⟩
  have hM := B.met C.1 hall (by simpa using hn) ad (List.forall_mem_cons.mpr ⟨hb, hvs⟩)
  obtain ⟨ws, ix, S⟩ := X.2.2.2.1.2
  have hin := S.1 k b (by omega) hb
  rw [ment_o hk.1] at hin
  have hts := X.1.2.2.2.2.1
  refine tr_run (y := y) h1 h2 kk X E hst (va_runV (As := vs.map (mco ad)) (n := vs.length) (C := y.1.cls) ⟨X.1.1, X.1.2.1, X.1.2.2.1, X.1.2.2.2.1, hts⟩ hM (cwV vs.length hts (mgoodIn ?_) rfl rfl rfl ⟨rfl, C.2.1.1, C.2.1.2, hp⟩ ⟨?_, ?_⟩) ⟨mPU_blind _ _ _ _, ?_, fun U hU hW => ⟨rfl, ?_, va_K.moved hW.alike X.2.2.1.2, by rw [hU]; exact X.2.2.2.1.2⟩⟩ rfl (by rw [List.length_map]) X.2.2.2.2.1.1.2.1 ?_ (lv_room ?_) hc ⟨?_, ?_⟩)
  · intro w hw
    simp only [wsV, List.cons_append, List.nil_append, List.mem_cons] at hw
    rcases hw with rfl | rfl | rfl | rfl | rfl | hw
    · exact hl
    · exact hi.1
    · exact hi.2
    · exact C.2.2.2.2
    · exact C.2.2.2.1
    · exact hw
  · show d' + 1 ≤ R.frames
    have := X.2.1.1
    omega
  · show 8 + (y.2.2.1 + 11) + 40 * d' ≤ R.locals
    have := X.2.1.2.1
    have := C.2.2.1
    omega
  · have := va_recv X.2.2.1.2 S.2.2.1 (mcl_at hk.1) hin
    rw [hk.2] at this
    exact this
  · rw [hU]
    exact X.2.2.1.1.warm X.2.2.2.2.2 hW.alike
  · show (vs.reverse ++ vr k b :: st).map (mco ad) = _
    rw [List.map_append, List.map_reverse]
    rfl
  · have := mcat_sum ad st
    omega
  · have := X.2.1.2.2.1
    omega
  · have := X.2.1.2.2.2
    omega
theorem tr_callI {y : mMe} {idx k b d' mc' ms' : Nat} (vs : List mV) {Qk : Option mV → mH → Prop} (hc : decode m.2.1 pc = .ok (.invokespecial idx, 3)) (C : mCal y) (hl : Cond.methodLink m.1.cls idx y.1 ∈ mTb) (hi : Cond.instanceMethod y.1 ∈ mTb ∧ y.1.name = "<init>" ∧ y.2.2.2 = none)
    (hp : (parseMethodDescriptor y.1.desc).map (fun d => d.parameters.length) = some vs.length) (hd : d' < d) (h1 : mc' ≤ mc) (h2 : ms' ≤ ms) (hv : vs.all mc1 = true) (hn : vs.length + 1 ≤ y.2.2.1) (hs : st.length ≤ 4)
    (B : mT g y d' mc' ms' 0 (margs (vr k b :: vs) y.2.2.1) [] h Qk) (kk : ∀ v h', Qk v h' → mT g m d (mc - mc') (ms - ms') (pc + 3) L (v.toList ++ st) h' Q) : mT g m d mc ms pc L (vs.reverse ++ vr k b :: st) h Q := by
  intro p R e s mi args below meth c H ls locs cells slots ad ad0 h0 Qf X E
  have hw := X.2.2.2.2.1.2
  have hst : ∀ v ∈ st, mwf h v := fun v q => hw v (List.mem_append_right _ (List.mem_cons_of_mem _ q))
  have hb : mwf h (vr k b) := hw _ (List.mem_append_right _ List.mem_cons_self)
  have hvs : ∀ v ∈ vs, mwf h v := fun v q => hw v (List.mem_append_left _ (List.mem_reverse.mpr q))
  have hall : ∀ v ∈ vr k b :: vs, mc1 v = true := List.forall_mem_cons.mpr ⟨rfl, List.all_eq_true.mp hv⟩
  have hM := B.met C.1 hall (by simpa using hn) ad (List.forall_mem_cons.mpr ⟨hb, hvs⟩)
  have hts := X.1.2.2.2.2.1
  have hcode := C.2.2.2.1
  rw [hi.2.2] at hM hcode
  refine tr_run (y := y) h1 h2 kk X E hst (va_runI (As := vs.map (mco ad)) (n := vs.length) ⟨X.1.1, X.1.2.1, X.1.2.2.1, X.1.2.2.2.1, hts⟩ hM (cwI vs.length hts (mgoodIn ?_) rfl rfl rfl (hts _ C.2.2.2.2) (hts _ hl) (hts _ hi.1) hi.2.1 ⟨C.2.1.1, C.2.1.2, hp⟩ ⟨?_, ?_⟩) ⟨mPU_blind _ _ _ _, fun U hU hW => ⟨rfl, ?_, va_K.moved hW.alike X.2.2.1.2, by rw [hU]; exact X.2.2.2.1.2⟩⟩ rfl (by rw [List.length_map]) X.2.2.2.2.1.1.2.1 ?_ (lv_room ?_) hc ⟨?_, ?_⟩)
  · intro w hw
    rcases List.mem_cons.mp hw with rfl | hw
    · exact hcode
    · exact hw
  · show d' + 1 ≤ R.frames
    have := X.2.1.1
    omega
  · show 8 + (y.2.2.1 + 11) + 40 * d' ≤ R.locals
    have := X.2.1.2.1
    have := C.2.2.1
    omega
  · rw [hU]
    exact X.2.2.1.1.warm X.2.2.2.2.2 hW.alike
  · show (vs.reverse ++ vr k b :: st).map (mco ad) = _
    rw [List.map_append, List.map_reverse]
    rfl
  · have := mcat_sum ad st
    omega
  · have := X.2.1.2.2.1
    omega
  · have := X.2.1.2.2.2
    omega
theorem tr_callS {y : mMe} {idx d' mc' ms' : Nat} (vs : List mV) {Qk : Option mV → mH → Prop} (hc : decode m.2.1 pc = .ok (.invokestatic idx, 3)) (C : mCal y) (hl : Cond.methodLink m.1.cls idx y.1 ∈ mTb) (hi : Cond.static y.1 ∈ mTb)
    (hp : (parseMethodDescriptor y.1.desc).map (fun d => d.parameters.length) = some vs.length) (hd : d' < d) (h1 : mc' ≤ mc) (h2 : ms' ≤ ms) (hv : vs.all mc1 = true) (hn : vs.length ≤ y.2.2.1) (hs : st.length ≤ 4)
    (B : mT g y d' mc' ms' 0 (margs vs y.2.2.1) [] h Qk) (kk : ∀ v h', Qk v h' → mT g m d (mc - mc') (ms - ms') (pc + 3) L (v.toList ++ st) h' Q) : mT g m d mc ms pc L (vs.reverse ++ st) h Q := by
  intro p R e s mi args below meth c H ls locs cells slots ad ad0 h0 Qf X E
  have hw := X.2.2.2.2.1.2
  have hst : ∀ v ∈ st, mwf h v := fun v q => hw v (List.mem_append_right _ q)
  have hvs : ∀ v ∈ vs, mwf h v := fun v q => hw v (List.mem_append_left _ (List.mem_reverse.mpr q))
  have hM := B.met C.1 (List.all_eq_true.mp hv) hn ad hvs
  have hts := X.1.2.2.2.2.1
  refine tr_run (y := y) h1 h2 kk X E hst (va_runS (As := vs.map (mco ad)) (n := vs.length) ⟨X.1.1, X.1.2.1, X.1.2.2.1, X.1.2.2.2.1, hts⟩ hM (va_cwS vs.length hts (mgoodIn ?_) rfl rfl rfl ⟨C.2.1.1, C.2.1.2, hp⟩ ⟨?_, ?_⟩) ⟨mPU_blind _ _ _ _, fun U hU hW => ⟨rfl, ?_, va_K.moved hW.alike X.2.2.1.2, by rw [hU]; exact X.2.2.2.1.2⟩⟩ rfl (by rw [List.length_map]) X.2.2.2.2.1.1.2.1 ?_ (lv_room ?_) hc ⟨?_, ?_⟩)
  · intro w hw
    simp only [va_wsS, List.cons_append, List.nil_append, List.mem_cons] at hw
    rcases hw with rfl | rfl | rfl | rfl | hw
    · exact hl
    · exact hi
    · exact C.2.2.2.2
    · exact C.2.2.2.1
    · exact hw
  · show d' + 1 ≤ R.frames
    have := X.2.1.1
    omega
  · show 8 + (y.2.2.1 + 11) + 40 * d' ≤ R.locals
    have := X.2.1.2.1
    have := C.2.2.1
    omega
  · rw [hU]
    exact X.2.2.1.1.warm X.2.2.2.2.2 hW.alike
  · show (vs.reverse ++ st).map (mco ad) = _
    rw [List.map_append, List.map_reverse]
  · have := mcat_sum ad st
    omega
  · have := X.2.1.2.2.1
    omega
  · have := X.2.1.2.2.2
    omega
end TR
end
section
/-! rules: casts, statics, constants, Math, comparing pointers, Object's constructor, copying rows -/
/-- pointers whose addresses tell them apart -/
def mAp (a b : Nat × Nat) : Prop := (a.1 < 14 ∧ b.1 < 14) ∨ (a.1 < 14 ∧ b.1 = 15) ∨ (a.1 = 15 ∧ b.1 < 14) ∨ (a.1 = b.1 ∧ (a.1 = 15 ∨ a.1 = 16))
theorem mAp.inj {g : mG} {ad : Nat → Nat → Nat} {h : mH} {H : Heap} {ws : va_W} {ix : Nat → Nat → Nat} {s : State} {H0 : Heap} (S : mSm g ad h H ws ix) (O : mOld g s H0) {a b : Nat × Nat} (hp : mAp a b) (ha : a.2 < hC h a.1) (hb : b.2 < hC h b.1) (he : ad a.1 a.2 = ad b.1 b.2) : a = b := by
  obtain ⟨k, n⟩ := a
  obtain ⟨k', n'⟩ := b
  dsimp only at *
  obtain ⟨⟨a1, a2, a3, a4, a5, a6, a7, a8, a9⟩, b, c⟩ := S.2.2.2.2
  have hlow : ∀ k n, k < 14 → n < hC h k → g.2.2.2.1.2.2.1 ≤ ad k n := fun k n h1 h2 => S.2.2.2.1.2 _ _ (S.1 k n h1 h2)
  rcases hp with ⟨h1, h2⟩ | ⟨h1, h2⟩ | ⟨h1, h2⟩ | ⟨h1, h2⟩
  · have := S.2.2.2.1.1 _ _ _ _ (S.1 k n h1 ha) (S.1 k' n' h2 hb) he
    obtain ⟨e1, e2⟩ := S.2.1 k n k' n' h1 ha h2 hb this
    rw [e1, e2]
  · dsimp only at h1 h2
    subst h2
    have : n' = 0 := by omega
    subst this
    have := hlow k n h1 ha
    have := O.2.2.2.2.1
    omega
  · dsimp only at h1 h2
    subst h1
    have : n = 0 := by omega
    subst this
    have := hlow k' n' h2 hb
    have := O.2.2.2.2.1
    omega
  · dsimp only at h1 h2
    subst h1
    rcases h2 with rfl | rfl
    · have : n = n' := by omega
      rw [this]
    · have : n = n' := by omega
      rw [this]
theorem mco_vp (ad : Nat → Nat → Nat) (r : Option (Nat × Nat)) : mco ad (vp r) = va_rf (r.map fun r => ad r.1 r.2) := by cases r <;> rfl
theorem mAp.opt {g : mG} {ad : Nat → Nat → Nat} {h : mH} {H : Heap} {ws : va_W} {ix : Nat → Nat → Nat} {s : State} {H0 : Heap} (S : mSm g ad h H ws ix) (O : mOld g s H0) {r r' : Option (Nat × Nat)} (hp : ∀ a b, r = some a → r' = some b → mAp a b) (ha : mwf h (vp r)) (hb : mwf h (vp r')) : (r.map fun r => ad r.1 r.2) = (r'.map fun r => ad r.1 r.2) ↔ r = r' := by
  constructor
  · intro he
    cases r <;> cases r'
    · rfl
    · cases he
    · cases he
    · exact congrArg some ((hp _ _ rfl rfl).inj S O ha hb (Option.some.inj he))
  · rintro rfl
    rfl
set_option maxRecDepth 100000 in
theorem mMathW : Cond.static Lib.Math.max.name ∈ mTb ∧ Cond.static Lib.Math.min.name ∈ mTb ∧ Cond.static Lib.Math.abs.name ∈ mTb ∧ Cond.initialized "java/lang/Math" ∈ mTb ∧ Cond.code Lib.Math.max.name Lib.Math.max.code 2 (some .int) ∈ mTb ∧ Cond.code Lib.Math.min.name Lib.Math.min.code 2 (some .int) ∈ mTb ∧ Cond.code Lib.Math.abs.name Lib.Math.abs.code 1 (some .int) ∈ mTb := by decide +kernel
set_option maxRecDepth 100000 in
theorem mObjW : Cond.instanceMethod Lib.objectInit ∈ mTb ∧ Cond.code Lib.objectInit ⟨#[0xb1]⟩ 1 none ∈ mTb := by decide +kernel
set_option maxRecDepth 100000 in
theorem mCpyW : Cond.native arraycopyName ∈ mTb ∧ Cond.static arraycopyName ∈ mTb ∧ Cond.initialized "java/lang/System" ∈ mTb ∧ Cond.selects "[Ljava/lang/Object;" ⟨"java/lang/Object", "getClass", "()Ljava/lang/Class;"⟩ ⟨"java/lang/Object", "getClass", "()Ljava/lang/Class;"⟩ ∈ mTb ∧ Cond.instanceMethod ⟨"java/lang/Object", "getClass", "()Ljava/lang/Class;"⟩ ∈ mTb ∧ Cond.native ⟨"java/lang/Object", "getClass", "()Ljava/lang/Class;"⟩ ∈ mTb := by decide +kernel
section TR
variable {g : mG} {m : mMe} {d mc ms pc : Nat} {L : List (Option mV)} {st : List mV} {h : mH} {Q : Option mV → mH → Prop}
theorem tr_cast {k n idx : Nat} (hc : decode m.2.1 pc = .ok (.checkcast idx, 3)) (hk : k < 11) (hl : Cond.classLink m.1.cls idx (mkd k).1 ∈ mTb) (kk : mT g m d mc ms (pc + 3) L (vr k n :: st) h Q) : mT g m d mc ms pc L (vr k n :: st) h Q := by
  intro p R e s mi args below meth c H ls locs cells slots ad ad0 h0 Qf X E
  have hst := List.forall_mem_cons.mp X.2.2.2.2.1.2
  obtain ⟨ws, ix, S⟩ := X.2.2.2.1.2
  have hin := S.1 k n (by omega) hst.1
  rw [ment_o hk] at hin
  exact va_castS X.1.1 X.1.2.1 X.1.2.2.2.1 (X.1.2.2.2.2.1 _ hl) (X.2.2.1.2.1 k _ (mcl_at hk)).2 (va_recv X.2.2.1.2 S.2.2.1 (mcl_at hk) hin) hc (kk.use (X.to X.2.2.2.2.1.1 X.2.2.2.2.1.2) E)
theorem tr_gets {idx : Nat} (hc : decode m.2.1 pc = .ok (.getstatic idx, 3)) (hl : Cond.fieldLink m.1.cls idx "java/util/ArrayList" "DEFAULTCAPACITY_EMPTY_ELEMENTDATA" "[Ljava/lang/Object;" ∈ mTb) (kk : mT g m d mc ms (pc + 3) L (vr 15 0 :: st) h Q) : mT g m d mc ms pc L st h Q := by
  intro p R e s mi args below meth c H ls locs cells slots ad ad0 h0 Qf X E
  obtain ⟨ws, ix, S⟩ := X.2.2.2.1.2
  obtain ⟨⟨a1, a2, a3, a4, a5, a6, a7, a8, a9⟩, b, c⟩ := S.2.2.2.2
  have kk' := kk.use (X.to X.2.2.2.2.1.1 (List.forall_mem_cons.mpr ⟨(by rw [a4]; exact Nat.one_pos : 0 < hC h 15), X.2.2.2.2.1.2⟩)) E
  have e3 : mco ad (vr 15 0) = .ref g.2.2.2.1.2.1 := congrArg Value.ref a2
  rw [List.map_cons, e3] at kk'
  exact va_gets X.1.1 X.1.2.1 X.2.2.1.1.1 X.2.2.2.2.2 X.1.2.2.2.1 (X.1.2.2.2.2.1 _ hl) (fun x hx => hx) hc kk'
theorem tr_ldc {idx : Nat} {v : Int32} (hc : decode m.2.1 pc = .ok (.ldc idx, 2)) (hl : Cond.constant m.1.cls idx v ∈ mTb) (kk : mT g m d mc ms (pc + 2) L (vi v :: st) h Q) : mT g m d mc ms pc L st h Q := by
  intro p R e s mi args below meth c H ls locs cells slots ad ad0 h0 Qf X E
  exact lv_ldc X.1.1 X.1.2.1 X.1.2.2.2.1 (X.1.2.2.2.2.1 _ hl) hc (kk.use (X.to X.2.2.2.2.1.1 (List.forall_mem_cons.mpr ⟨trivial, X.2.2.2.2.1.2⟩)) E)
theorem tr_ldcw {idx : Nat} {v : Int32} (hc : decode m.2.1 pc = .ok (.ldc_w idx, 3)) (hl : Cond.constant m.1.cls idx v ∈ mTb) (kk : mT g m d mc ms (pc + 3) L (vi v :: st) h Q) : mT g m d mc ms pc L st h Q := by
  intro p R e s mi args below meth c H ls locs cells slots ad ad0 h0 Qf X E
  exact lv_ldcw X.1.1 X.1.2.1 X.1.2.2.2.1 (X.1.2.2.2.2.1 _ hl) hc (kk.use (X.to X.2.2.2.2.1.1 (List.forall_mem_cons.mpr ⟨trivial, X.2.2.2.2.1.2⟩)) E)
theorem tr_ldc2 {idx : Nat} {v : Int64} (hc : decode m.2.1 pc = .ok (.ldc2_w idx, 3)) (hl : Cond.constantLong m.1.cls idx v ∈ mTb) (kk : mT g m d mc ms (pc + 3) L (vl v :: st) h Q) : mT g m d mc ms pc L st h Q := by
  intro p R e s mi args below meth c H ls locs cells slots ad ad0 h0 Qf X E
  exact lv_ldc2 X.1.1 X.1.2.1 X.1.2.2.2.1 (X.1.2.2.2.2.1 _ hl) hc (kk.use (X.to X.2.2.2.2.1.1 (List.forall_mem_cons.mpr ⟨trivial, X.2.2.2.2.1.2⟩)) E)
theorem tr_max {idx : Nat} {x y : Int32} (hc : decode m.2.1 pc = .ok (.invokestatic idx, 3)) (hl : Cond.methodLink m.1.cls idx Lib.Math.max.name ∈ mTb) (hd : 1 ≤ d) (hs : st.length ≤ 6) (kk : mT g m d mc ms (pc + 3) L (vi (if x < y then y else x) :: st) h Q) : mT g m d mc ms pc L (vi y :: vi x :: st) h Q := by
  intro p R e s mi args below meth c H ls locs cells slots ad ad0 h0 Qf X E
  have hts := X.1.2.2.2.2.1
  have hst := (List.forall_mem_cons.mp (List.forall_mem_cons.mp X.2.2.2.2.1.2).2).2
  have := mcat_sum ad st
  have := X.2.1
  exact va_mmax X.1.1 X.1.2.1 (X.1.2.2.1.trans X.2.2.2.2.1.1.2.1.symm) X.1.2.2.2.1 (hts _ hl) (hts _ mMathW.1) (hts _ mMathW.2.2.2.1) (hts _ mMathW.2.2.2.2.1) (by omega) (by omega) (by omega) (by omega) hc (kk.use (X.to X.2.2.2.2.1.1 (List.forall_mem_cons.mpr ⟨trivial, hst⟩)) E)
theorem tr_min {idx : Nat} {x y : Int32} (hc : decode m.2.1 pc = .ok (.invokestatic idx, 3)) (hl : Cond.methodLink m.1.cls idx Lib.Math.min.name ∈ mTb) (hd : 1 ≤ d) (hs : st.length ≤ 6) (kk : mT g m d mc ms (pc + 3) L (vi (if y < x then y else x) :: st) h Q) : mT g m d mc ms pc L (vi y :: vi x :: st) h Q := by
  intro p R e s mi args below meth c H ls locs cells slots ad ad0 h0 Qf X E
  have hts := X.1.2.2.2.2.1
  have hst := (List.forall_mem_cons.mp (List.forall_mem_cons.mp X.2.2.2.2.1.2).2).2
  have := mcat_sum ad st
  have := X.2.1
  exact va_mmin X.1.1 X.1.2.1 (X.1.2.2.1.trans X.2.2.2.2.1.1.2.1.symm) X.1.2.2.2.1 (hts _ hl) (hts _ mMathW.2.1) (hts _ mMathW.2.2.2.1) (hts _ mMathW.2.2.2.2.2.1) (by omega) (by omega) (by omega) (by omega) hc (kk.use (X.to X.2.2.2.2.1.1 (List.forall_mem_cons.mpr ⟨trivial, hst⟩)) E)
theorem tr_abs {idx : Nat} {x : Int32} (hc : decode m.2.1 pc = .ok (.invokestatic idx, 3)) (hl : Cond.methodLink m.1.cls idx Lib.Math.abs.name ∈ mTb) (hd : 1 ≤ d) (hs : st.length ≤ 6) (kk : mT g m d mc ms (pc + 3) L (vi (if 0 ≤ x then x else 0 - x) :: st) h Q) : mT g m d mc ms pc L (vi x :: st) h Q := by
  intro p R e s mi args below meth c H ls locs cells slots ad ad0 h0 Qf X E
  have hts := X.1.2.2.2.2.1
  have hst := (List.forall_mem_cons.mp X.2.2.2.2.1.2).2
  have := mcat_sum ad st
  have := X.2.1
  exact va_mabs X.1.1 X.1.2.1 (X.1.2.2.1.trans X.2.2.2.2.1.1.2.1.symm) X.1.2.2.2.1 (hts _ hl) (hts _ mMathW.2.2.1) (hts _ mMathW.2.2.2.1) (hts _ mMathW.2.2.2.2.2.2) (by omega) (by omega) (by omega) (by omega) hc (kk.use (X.to X.2.2.2.2.1.1 (List.forall_mem_cons.mpr ⟨trivial, hst⟩)) E)
theorem tr_acmp_eq {r r' : Option (Nat × Nat)} {off : Int} (tgt : Nat) (hc : decode m.2.1 pc = .ok (.if_acmp .eq off, 3)) (ht : (pc : Int) + off = (tgt : Int)) (hp : ∀ a b, r = some a → r' = some b → mAp a b) (kt : r = r' → mT g m d mc ms tgt L st h Q) (kf : ¬ r = r' → mT g m d mc ms (pc + 3) L st h Q) : mT g m d mc ms pc L (vp r' :: vp r :: st) h Q := by
  intro p R e s mi args below meth c H ls locs cells slots ad ad0 h0 Qf X E
  have h1 := List.forall_mem_cons.mp X.2.2.2.2.1.2
  have h2 := List.forall_mem_cons.mp h1.2
  obtain ⟨ws, ix, S⟩ := X.2.2.2.1.2
  have hi := mAp.opt S X.2.2.1.1 hp h2.1 h1.1
  show W p g.1 e R s mi args below meth _ H locs cells slots Qf (F0 mi pc ls (mco ad (vp r') :: mco ad (vp r) :: st.map (mco ad)))
  rw [mco_vp, mco_vp]
  exact lv_acmp_eq X.1.1 X.1.2.1 hc ht (fun q => (kt (hi.mp q)).use (X.to X.2.2.2.2.1.1 h2.2) E) (fun q => (kf (fun z => q (hi.mpr z))).use (X.to X.2.2.2.2.1.1 h2.2) E)
theorem tr_acmp_ne {r r' : Option (Nat × Nat)} {off : Int} (tgt : Nat) (hc : decode m.2.1 pc = .ok (.if_acmp .ne off, 3)) (ht : (pc : Int) + off = (tgt : Int)) (hp : ∀ a b, r = some a → r' = some b → mAp a b) (kt : ¬ r = r' → mT g m d mc ms tgt L st h Q) (kf : r = r' → mT g m d mc ms (pc + 3) L st h Q) : mT g m d mc ms pc L (vp r' :: vp r :: st) h Q := by
  intro p R e s mi args below meth c H ls locs cells slots ad ad0 h0 Qf X E
  have h1 := List.forall_mem_cons.mp X.2.2.2.2.1.2
  have h2 := List.forall_mem_cons.mp h1.2
  obtain ⟨ws, ix, S⟩ := X.2.2.2.1.2
  have hi := mAp.opt S X.2.2.1.1 hp h2.1 h1.1
  show W p g.1 e R s mi args below meth _ H locs cells slots Qf (F0 mi pc ls (mco ad (vp r') :: mco ad (vp r) :: st.map (mco ad)))
  rw [mco_vp, mco_vp]
  exact lv_acmp_ne X.1.1 X.1.2.1 hc ht (fun q => (kt (fun z => q (hi.mpr z))).use (X.to X.2.2.2.2.1.1 h2.2) E) (fun q => (kf (hi.mp q)).use (X.to X.2.2.2.2.1.1 h2.2) E)
theorem tr_obj {k n idx : Nat} (hc : decode m.2.1 pc = .ok (.invokespecial idx, 3)) (hl : Cond.methodLink m.1.cls idx Lib.objectInit ∈ mTb) (hd : 1 ≤ d) (hs : st.length ≤ 4) (kk : mT g m d mc ms (pc + 3) L st h Q) : mT g m d mc ms pc L (vr k n :: st) h Q := by
  intro p R e s mi args below meth c H ls locs cells slots ad ad0 h0 Qf X E
  have hts := X.1.2.2.2.2.1
  have hst := (List.forall_mem_cons.mp X.2.2.2.2.1.2).2
  have h1 := mcat_sum ad st
  have h2 := X.2.1
  have h3 : 2 * (F0 mi pc ls (mco ad (vr k n) :: st.map (mco ad))).monitorRoom + ((st.map (mco ad)).map fun v => v.category).sum ≤ 8 := lv_room (by omega)
  exact W.objInit X.1.1 X.1.2.1 X.1.2.2.2.1 (hts _ hl) (hts _ mObjW.1) (hts _ mObjW.2) rfl (X.2.2.2.2.1.1.2.1.trans X.1.2.2.1.symm) rfl hc (by omega) (Nat.le_trans (Nat.add_le_add_right h3 12) (by omega)) (kk.use (X.to X.2.2.2.2.1.1 hst) E)
theorem tr_getC {n idx : Nat} (hc : decode m.2.1 pc = .ok (.invokevirtual idx, 3)) (hl : Cond.methodLink m.1.cls idx ⟨"java/lang/Object", "getClass", "()Ljava/lang/Class;"⟩ ∈ mTb) (hd : 1 ≤ d) (hs : st.length ≤ 4) (kk : mT g m d mc ms (pc + 3) L (vr 16 0 :: st) h Q) : mT g m d mc ms pc L (vr 13 n :: st) h Q := by
  intro p R e s mi args below meth c H ls locs cells slots ad ad0 h0 Qf X E
  have hts := X.1.2.2.2.2.1
  have hst := List.forall_mem_cons.mp X.2.2.2.2.1.2
  have h1 := mcat_sum ad st
  have h2 := X.2.1
  obtain ⟨ws, ix, S⟩ := X.2.2.2.1.2
  obtain ⟨⟨a1, a2, a3, a4, a5, a6, a7, a8, a9⟩, b, c⟩ := S.2.2.2.2
  have kk' := kk.use (X.to X.2.2.2.2.1.1 (List.forall_mem_cons.mpr ⟨(by rw [a9]; exact Nat.one_pos : 0 < hC h 16), hst.2⟩)) E
  have e3 : mco ad (vr 16 0) = .ref g.2.2.2.1.2.2.2 := congrArg Value.ref a8
  rw [List.map_cons, e3] at kk'
  have hin := S.1 13 n (by omega) hst.1
  have hcell := S.2.2.1 _ _ hin
  obtain ⟨kA, comp, k1, k2, k3, k4⟩ := (X.2.2.1.2.2 2 _ rfl).2
  have O := X.2.2.1.1
  exact va_getC (C := "[Ljava/lang/Object;") X.1.1 X.1.2.1 (X.1.2.2.1.trans X.2.2.2.2.1.1.2.1.symm) X.1.2.2.2.1 (hts _ hl) (va_Dc.use O.2.2.2.2.2.2.2.2.2) (hts _ mCpyW.2.2.2.1) (hts _ mCpyW.2.2.2.2.1) (hts _ mCpyW.2.2.2.2.2) O.2.2.2.2.2.2.1 ⟨_, hcell, rfl, k4⟩ (by omega) (by omega) hc kk'
theorem tr_ldcC {idx : Nat} (hc : decode m.2.1 pc = .ok (.ldc idx, 2)) (hl : Cond.classLink m.1.cls idx "[Ljava/lang/Object;" ∈ mTb) (kk : mT g m d mc ms (pc + 2) L (vr 16 0 :: st) h Q) : mT g m d mc ms pc L st h Q := by
  intro p R e s mi args below meth c H ls locs cells slots ad ad0 h0 Qf X E
  have hts := X.1.2.2.2.2.1
  obtain ⟨ws, ix, S⟩ := X.2.2.2.1.2
  obtain ⟨⟨a1, a2, a3, a4, a5, a6, a7, a8, a9⟩, b, c⟩ := S.2.2.2.2
  have kk' := kk.use (X.to X.2.2.2.2.1.1 (List.forall_mem_cons.mpr ⟨(by rw [a9]; exact Nat.one_pos : 0 < hC h 16), X.2.2.2.2.1.2⟩)) E
  have e3 : mco ad (vr 16 0) = .ref g.2.2.2.1.2.2.2 := congrArg Value.ref a8
  rw [List.map_cons, e3] at kk'
  exact va_ldcM X.1.1 X.1.2.1 X.1.2.2.2.1 (hts _ hl) X.2.2.1.1.2.2.2.2.2.2.1 hc kk'
theorem tr_copy {n0 n1 idx w : Nat} {n : Int32} (hc : decode m.2.1 pc = .ok (.invokestatic idx, 3)) (hl : Cond.methodLink m.1.cls idx arraycopyName ∈ mTb) (hd : 1 ≤ d) (hs : st.length ≤ 4) (hn : ¬ n < 0) (hw : n.toNatClampNeg = w) (h4 : w ≤ hL h 13 n0) (h5 : w ≤ hL h 13 n1) (hel : ∀ i, i < w → ∀ r, hP h 13 n0 i = some r → r.1 < 11)
    (kk : mT g m d mc ms (pc + 3) L st (cpyP h n0 n1 w) Q) : mT g m d mc ms pc L (vi n :: vi 0 :: vr 13 n1 :: vi 0 :: vr 13 n0 :: st) h Q := by
  intro p R e s mi args below meth c H ls locs cells slots ad ad0 h0 Qf X E
  subst hw
  have hts := X.1.2.2.2.2.1
  have w1 := List.forall_mem_cons.mp (List.forall_mem_cons.mp (List.forall_mem_cons.mp X.2.2.2.2.1.2).2).2
  have w2 := List.forall_mem_cons.mp (List.forall_mem_cons.mp w1.2).2
  have h1 := mcat_sum ad st
  have h2 := X.2.1
  obtain ⟨ws, ix, S⟩ := X.2.2.2.1.2
  have i0 := S.1 13 n0 (by omega) w2.1
  have i1 := S.1 13 n1 (by omega) w1.1
  have hcp : va_cpy (mpt ad h n0) (mpt ad h n1) 0 0 n.toNatClampNeg = mpt ad (cpyP h n0 n1 n.toNatClampNeg) n1 := by
    funext j
    show (if 0 ≤ j ∧ j < 0 + n.toNatClampNeg then mpt ad h n0 (0 + (j - 0)) else mpt ad h n1 j) = (if (13:Nat) = 13 ∧ n1 = n1 ∧ j < n.toNatClampNeg then hP h 13 n0 j else hP h 13 n1 j).map fun r => ad r.1 r.2
    by_cases q : j < n.toNatClampNeg
    · rw [if_pos ⟨by omega, by omega⟩, if_pos ⟨rfl, rfl, q⟩, show 0 + (j - 0) = j by omega]
      rfl
    · rw [if_neg (fun z => q (by omega)), if_neg (fun z => q z.2.2)]
      rfl
  refine va_copyM (E0 := "java/lang/Object") (E1 := "java/lang/Object") X.1.1 X.1.2.1 (X.1.2.2.1.trans X.2.2.2.2.1.1.2.1.symm) X.1.2.2.2.1 (hts _ hl) (hts _ mCpyW.1) (hts _ mCpyW.2.1) (hts _ mCpyW.2.2.1) X.2.2.1.2 S.2.2.1 S.2.2.2.1 X.2.2.2.2.2 (ix 13 n0) (ix 13 n1) 2 2 (i0.trans (by rw [ment_q])) (i1.trans (by rw [ment_q])) rfl rfl (by decide) (by decide) hn (by show 0 + _ ≤ _; omega) (by show 0 + _ ≤ _; omega) ?_ (by omega) (by have h9 : nativeFrameWords "java/lang/System" "arraycopy" 5 ≤ 10 := (by decide +kernel); omega) hc fun H1 locs1 P1 D1 S1 => ?_
  · intro i hi y hy
    have hy2 : (hP h 13 n0 i).map (fun r => ad r.1 r.2) = some y := by rw [← hy]; show _ = mpt ad h n0 (0 + i); rw [Nat.zero_add]; rfl
    cases hr : hP h 13 n0 i with
    | none => rw [hr] at hy2; cases hy2
    | some r =>
      rw [hr] at hy2
      cases hy2
      exact mAny X.2.2.1.1 X.2.2.1.2 S (hel i hi r hr) (S.2.2.2.2.2.1 _ _ _ _ hr)
  · have hco : mCo g ad (cpyP h n0 n1 n.toNatClampNeg) := by
      obtain ⟨a, b, c⟩ := S.2.2.2.2
      refine ⟨a, ?_, c⟩
      intro k' n' f' r' hr
      by_cases q : k' = 13 ∧ n' = n1 ∧ f' < n.toNatClampNeg
      · have e : hP (cpyP h n0 n1 n.toNatClampNeg) k' n' f' = hP h 13 n0 f' := if_pos q
        rw [e] at hr
        exact b _ _ _ _ hr
      · have e : hP (cpyP h n0 n1 n.toNatClampNeg) k' n' f' = hP h k' n' f' := if_neg q
        rw [e] at hr
        exact b _ _ _ _ hr
    refine kk.use (X.heap (h' := cpyP h n0 n1 n.toNatClampNeg) (fun _ => rfl) (S.set (by omega) w1.1 (by rw [ment_q, ← hcp]; rfl) (fun _ => rfl) (fun k' n' hk' q => ment_congr rfl ?_ rfl hk') hco P1 D1) w2.2 S1) E
    funext f
    exact if_neg (fun z => q ⟨z.1, z.2.1⟩)
end TR
end
section
/-! printed by my own program: the methods, what the tables say of them, of their calls and fields -/
theorem mm {w : Cond} (i : Nat) (h : lw_tbl[i]? = some w) (hg : goodWord w = true) : w ∈ mTb := List.mem_filter.mpr ⟨List.mem_of_getElem? h, hg⟩
abbrev me_fn_init : mMe := (⟨"FountainNet", "<init>", "()V"⟩, prog_1_method_1_code, 1, none)
abbrev me_ga_init : mMe := (⟨"FountainNet$Garden", "<init>", "()V"⟩, prog_2_method_1_code, 1, none)
abbrev me_al_init : mMe := (⟨"java/util/ArrayList", "<init>", "()V"⟩, prog_20_method_2_code, 1, none)
abbrev me_ab_init : mMe := (⟨"java/util/AbstractList", "<init>", "()V"⟩, prog_19_method_1_code, 1, none)
abbrev me_ac_init : mMe := (⟨"java/util/AbstractCollection", "<init>", "()V"⟩, prog_18_method_1_code, 1, none)
abbrev me_sr_init : mMe := (⟨"FountainNet$Stroll", "<init>", "(LFountainNet$Garden;Ljava/util/ArrayList;)V"⟩, prog_6_method_1_code, 3, none)
abbrev me_tl_init : mMe := (⟨"FountainNet$TaskList", "<init>", "(LFountainNet$Garden;Ljava/util/ArrayList;)V"⟩, prog_8_method_1_code, 3, none)
abbrev me_lk_init : mMe := (⟨"FountainNet$LeakSearch", "<init>", "(LFountainNet$Garden;)V"⟩, prog_5_method_1_code, 2, none)
abbrev me_fn_tank : mMe := (⟨"FountainNet", "tank", "(IIII)I"⟩, prog_1_method_2_code, 6, some .int)
abbrev me_fn_refuse : mMe := (⟨"FountainNet", "refuse", "(I)I"⟩, prog_1_method_35_code, 3, some .int)
abbrev me_al_size : mMe := (⟨"java/util/ArrayList", "size", "()I"⟩, prog_20_method_8_code, 1, some .int)
abbrev me_tk_init : mMe := (⟨"FountainNet$Tank", "<init>", "(IIIII)V"⟩, prog_7_method_1_code, 6, none)
abbrev me_al_add : mMe := (⟨"java/util/ArrayList", "add", "(Ljava/lang/Object;)Z"⟩, prog_20_method_25_code, 2, some .boolean)
abbrev me_al_add2 : mMe := (⟨"java/util/ArrayList", "add", "(Ljava/lang/Object;[Ljava/lang/Object;I)V"⟩, prog_20_method_24_code, 4, none)
abbrev me_al_grow : mMe := (⟨"java/util/ArrayList", "grow", "()[Ljava/lang/Object;"⟩, prog_20_method_7_code, 1, some (.array (.object "java/lang/Object")))
abbrev me_al_grow2 : mMe := (⟨"java/util/ArrayList", "grow", "(I)[Ljava/lang/Object;"⟩, prog_20_method_6_code, 4, some (.array (.object "java/lang/Object")))
abbrev me_as_newLength : mMe := (⟨"jdk/internal/util/ArraysSupport", "newLength", "(III)I"⟩, prog_27_method_27_code, 4, some .int)
abbrev me_ar_copyOf : mMe := (⟨"java/util/Arrays", "copyOf", "([Ljava/lang/Object;I)[Ljava/lang/Object;"⟩, prog_21_method_119_code, 2, some (.array (.object "java/lang/Object")))
abbrev me_ar_copyOf2 : mMe := (⟨"java/util/Arrays", "copyOf", "([Ljava/lang/Object;ILjava/lang/Class;)[Ljava/lang/Object;"⟩, prog_21_method_120_code, 4, some (.array (.object "java/lang/Object")))
abbrev me_fn_set : mMe := (⟨"FountainNet", "set", "(III)I"⟩, prog_1_method_3_code, 5, some .int)
abbrev me_ga_tankAt : mMe := (⟨"FountainNet$Garden", "tankAt", "(I)LFountainNet$Tank;"⟩, prog_2_method_2_code, 2, some (.object "FountainNet$Tank"))
abbrev me_al_get : mMe := (⟨"java/util/ArrayList", "get", "(I)Ljava/lang/Object;"⟩, prog_20_method_20_code, 2, some (.object "java/lang/Object"))
abbrev me_os_checkIndex : mMe := (⟨"java/util/Objects", "checkIndex", "(II)I"⟩, prog_24_method_17_code, 2, some .int)
abbrev me_pr_checkIndex : mMe := (⟨"jdk/internal/util/Preconditions", "checkIndex", "(IILjava/util/function/BiFunction;)I"⟩, prog_28_method_11_code, 3, some .int)
abbrev me_al_elementData : mMe := (⟨"java/util/ArrayList", "elementData", "(I)Ljava/lang/Object;"⟩, prog_20_method_18_code, 2, some (.object "java/lang/Object"))
abbrev me_tk_capacity : mMe := (⟨"FountainNet$Tank", "capacity", "()I"⟩, prog_7_method_2_code, 1, some .int)
abbrev me_tk_changeSpring : mMe := (⟨"FountainNet$Tank", "changeSpring", "(I)I"⟩, prog_7_method_4_code, 3, some .int)
abbrev me_tk_changeWater : mMe := (⟨"FountainNet$Tank", "changeWater", "(I)I"⟩, prog_7_method_5_code, 3, some .int)
abbrev me_fn_joint : mMe := (⟨"FountainNet", "joint", "(ZIIII)I"⟩, prog_1_method_4_code, 9, some .int)
abbrev me_ga_jointAt : mMe := (⟨"FountainNet$Garden", "jointAt", "(I)LFountainNet$Joint;"⟩, prog_2_method_3_code, 2, some (.object "FountainNet$Joint"))
abbrev me_fn_feederOf : mMe := (⟨"FountainNet", "feederOf", "(LFountainNet$Joint;)LFountainNet$Tank;"⟩, prog_1_method_37_code, 1, some (.object "FountainNet$Tank"))
abbrev me_jn_init : mMe := (⟨"FountainNet$Joint", "<init>", "(ILFountainNet$Tank;LFountainNet$Joint;III)V"⟩, prog_4_method_1_code, 7, none)
abbrev me_fn_jet : mMe := (⟨"FountainNet", "jet", "(II)I"⟩, prog_1_method_5_code, 6, some .int)
abbrev me_je_init : mMe := (⟨"FountainNet$Jet", "<init>", "(ILFountainNet$Joint;I)V"⟩, prog_3_method_1_code, 4, none)
abbrev me_fn_play : mMe := (⟨"FountainNet", "play", "(IZ)I"⟩, prog_1_method_6_code, 4, some .int)
abbrev me_ga_jetAt : mMe := (⟨"FountainNet$Garden", "jetAt", "(I)LFountainNet$Jet;"⟩, prog_2_method_4_code, 2, some (.object "FountainNet$Jet"))
abbrev me_je_isIn : mMe := (⟨"FountainNet$Jet", "isIn", "(I)Z"⟩, prog_3_method_2_code, 2, some .boolean)
abbrev me_fn_pipe : mMe := (⟨"FountainNet", "pipe", "(II)I"⟩, prog_1_method_7_code, 5, some .int)
abbrev me_fn_leak : mMe := (⟨"FountainNet", "leak", "(II)I"⟩, prog_1_method_8_code, 5, some .int)
abbrev me_fn_flow : mMe := (⟨"FountainNet", "flow", "(I)I"⟩, prog_1_method_9_code, 3, some .int)
abbrev me_ga_reckonAsItIs : mMe := (⟨"FountainNet$Garden", "reckonAsItIs", "()V"⟩, prog_2_method_6_code, 1, none)
abbrev me_ga_reckon : mMe := (⟨"FountainNet$Garden", "reckon", "(IZ)V"⟩, prog_2_method_7_code, 5, none)
abbrev me_ga_forgetFlows : mMe := (⟨"FountainNet$Garden", "forgetFlows", "()V"⟩, prog_2_method_8_code, 2, none)
abbrev me_jn_drawAmong : mMe := (⟨"FountainNet$Joint", "drawAmong", "(I)I"⟩, prog_4_method_4_code, 2, some .int)
abbrev me_ga_addFlowAhead : mMe := (⟨"FountainNet$Garden", "addFlowAhead", "(LFountainNet$Joint;)V"⟩, prog_2_method_9_code, 2, none)
abbrev me_jn_lossNow : mMe := (⟨"FountainNet$Joint", "lossNow", "()I"⟩, prog_4_method_2_code, 3, some .int)
abbrev me_fn_head : mMe := (⟨"FountainNet", "head", "(I)I"⟩, prog_1_method_10_code, 3, some .int)
abbrev me_fn_refuseAsTold : mMe := (⟨"FountainNet", "refuseAsTold", "(I)I"⟩, prog_1_method_36_code, 2, some .int)
abbrev me_jn_headWith : mMe := (⟨"FountainNet$Joint", "headWith", "(I)I"⟩, prog_4_method_3_code, 3, some .int)
abbrev me_tk_levelWith : mMe := (⟨"FountainNet$Tank", "levelWith", "(I)I"⟩, prog_7_method_3_code, 2, some .int)
abbrev me_fn_rise : mMe := (⟨"FountainNet", "rise", "(I)I"⟩, prog_1_method_11_code, 3, some .int)
abbrev me_je_riseAmong : mMe := (⟨"FountainNet$Jet", "riseAmong", "(II)I"⟩, prog_3_method_3_code, 3, some .int)
abbrev me_fn_share : mMe := (⟨"FountainNet", "share", "(II)I"⟩, prog_1_method_12_code, 8, some .int)
abbrev me_fn_minutes : mMe := (⟨"FountainNet", "minutes", "(I)I"⟩, prog_1_method_13_code, 3, some .int)
abbrev me_tk_passMinutes : mMe := (⟨"FountainNet$Tank", "passMinutes", "(I)V"⟩, prog_7_method_8_code, 4, none)
abbrev me_tk_withSpring : mMe := (⟨"FountainNet$Tank", "withSpring", "(I)I"⟩, prog_7_method_6_code, 2, some .int)
abbrev me_tk_waterAfterMinute : mMe := (⟨"FountainNet$Tank", "waterAfterMinute", "(I)I"⟩, prog_7_method_7_code, 2, some .int)
abbrev me_fn_lasts : mMe := (⟨"FountainNet", "lasts", "(I)I"⟩, prog_1_method_14_code, 5, some .int)
abbrev me_fn_view : mMe := (⟨"FountainNet", "view", "(IIII)I"⟩, prog_1_method_15_code, 7, some .int)
abbrev me_ga_allJets : mMe := (⟨"FountainNet$Garden", "allJets", "()I"⟩, prog_2_method_5_code, 1, some .int)
abbrev me_vw_init : mMe := (⟨"FountainNet$View", "<init>", "(IIII)V"⟩, prog_9_method_1_code, 5, none)
abbrev me_fn_unview : mMe := (⟨"FountainNet", "unview", "()I"⟩, prog_1_method_16_code, 2, some .int)
abbrev me_al_remove : mMe := (⟨"java/util/ArrayList", "remove", "(I)Ljava/lang/Object;"⟩, prog_20_method_29_code, 4, some (.object "java/lang/Object"))
abbrev me_al_fastRemove : mMe := (⟨"java/util/ArrayList", "fastRemove", "([Ljava/lang/Object;I)V"⟩, prog_20_method_39_code, 4, none)
abbrev me_fn_walk : mMe := (⟨"FountainNet", "walk", "(I)I"⟩, prog_1_method_17_code, 2, some .int)
abbrev me_sr_isAhead : mMe := (⟨"FountainNet$Stroll", "isAhead", "()Z"⟩, prog_6_method_2_code, 1, some .boolean)
abbrev me_sr_lastMinute : mMe := (⟨"FountainNet$Stroll", "lastMinute", "()I"⟩, prog_6_method_3_code, 1, some .int)
abbrev me_al_isEmpty : mMe := (⟨"java/util/ArrayList", "isEmpty", "()Z"⟩, prog_20_method_9_code, 1, some .boolean)
abbrev me_sr_go : mMe := (⟨"FountainNet$Stroll", "go", "(Z)V"⟩, prog_6_method_4_code, 9, none)
abbrev me_sr_begin : mMe := (⟨"FountainNet$Stroll", "begin", "()V"⟩, prog_6_method_5_code, 3, none)
abbrev me_sr_lookAtRises : mMe := (⟨"FountainNet$Stroll", "lookAtRises", "(LFountainNet$View;Z)LFountainNet$Jet;"⟩, prog_6_method_6_code, 6, some (.object "FountainNet$Jet"))
abbrev me_sr_passMinute : mMe := (⟨"FountainNet$Stroll", "passMinute", "()V"⟩, prog_6_method_7_code, 4, none)
abbrev me_fn_most : mMe := (⟨"FountainNet", "most", "()I"⟩, prog_1_method_18_code, 1, some .int)
abbrev me_fn_pace : mMe := (⟨"FountainNet", "pace", "(I)I"⟩, prog_1_method_19_code, 3, some .int)
abbrev me_fn_tasks : mMe := (⟨"FountainNet", "tasks", "()I"⟩, prog_1_method_20_code, 1, some .int)
abbrev me_tl_build : mMe := (⟨"FountainNet$TaskList", "build", "()V"⟩, prog_8_method_2_code, 5, none)
abbrev me_tl_addChange : mMe := (⟨"FountainNet$TaskList", "addChange", "(III)V"⟩, prog_8_method_3_code, 6, none)
abbrev me_fn_task : mMe := (⟨"FountainNet", "task", "(II)I"⟩, prog_1_method_21_code, 3, some .int)
abbrev me_tl_tell : mMe := (⟨"FountainNet$TaskList", "tell", "(II)I"⟩, prog_8_method_4_code, 3, some .int)
abbrev me_fn_boys : mMe := (⟨"FountainNet", "boys", "()I"⟩, prog_1_method_22_code, 1, some .int)
abbrev me_tl_fewestBoys : mMe := (⟨"FountainNet$TaskList", "fewestBoys", "(I)I"⟩, prog_8_method_5_code, 5, some .int)
abbrev me_tl_mostApartAhead : mMe := (⟨"FountainNet$TaskList", "mostApartAhead", "(II)I"⟩, prog_8_method_6_code, 6, some .int)
abbrev me_fn_gauge : mMe := (⟨"FountainNet", "gauge", "(II)I"⟩, prog_1_method_23_code, 5, some .int)
abbrev me_fn_tol : mMe := (⟨"FountainNet", "tol", "(I)I"⟩, prog_1_method_24_code, 3, some .int)
abbrev me_fn_explain : mMe := (⟨"FountainNet", "explain", "()I"⟩, prog_1_method_25_code, 1, some .int)
abbrev me_lk_seek : mMe := (⟨"FountainNet$LeakSearch", "seek", "()I"⟩, prog_5_method_2_code, 4, some .int)
abbrev me_lk_forgetFound : mMe := (⟨"FountainNet$LeakSearch", "forgetFound", "()V"⟩, prog_5_method_4_code, 1, none)
abbrev me_lk_isAnyRead : mMe := (⟨"FountainNet$LeakSearch", "isAnyRead", "()Z"⟩, prog_5_method_5_code, 2, some .boolean)
abbrev me_lk_misses : mMe := (⟨"FountainNet$LeakSearch", "misses", "()I"⟩, prog_5_method_9_code, 5, some .int)
abbrev me_lk_explainsAlone : mMe := (⟨"FountainNet$LeakSearch", "explainsAlone", "(LFountainNet$Joint;)Z"⟩, prog_5_method_6_code, 6, some .boolean)
abbrev me_lk_explainTogether : mMe := (⟨"FountainNet$LeakSearch", "explainTogether", "(LFountainNet$Joint;LFountainNet$Joint;)Z"⟩, prog_5_method_7_code, 9, some .boolean)
abbrev me_lk_keepTwo : mMe := (⟨"FountainNet$LeakSearch", "keepTwo", "(LFountainNet$Joint;LFountainNet$Joint;)V"⟩, prog_5_method_8_code, 3, none)
abbrev me_fn_explained : mMe := (⟨"FountainNet", "explained", "(I)I"⟩, prog_1_method_26_code, 2, some .int)
abbrev me_fn_rivals : mMe := (⟨"FountainNet", "rivals", "()I"⟩, prog_1_method_27_code, 1, some .int)
abbrev me_lk_howManyAlone : mMe := (⟨"FountainNet$LeakSearch", "howManyAlone", "()I"⟩, prog_5_method_3_code, 3, some .int)
abbrev me_fn_empty : mMe := (⟨"FountainNet", "empty", "(I)I"⟩, prog_1_method_28_code, 3, some .int)
abbrev me_ga_mayBeEmptied : mMe := (⟨"FountainNet$Garden", "mayBeEmptied", "(LFountainNet$Joint;)Z"⟩, prog_2_method_10_code, 4, some .boolean)
abbrev me_fn_fill : mMe := (⟨"FountainNet", "fill", "(I)I"⟩, prog_1_method_29_code, 3, some .int)
abbrev me_fn_order : mMe := (⟨"FountainNet", "order", "(I)I"⟩, prog_1_method_30_code, 2, some .int)
abbrev me_ga_jointInOrder : mMe := (⟨"FountainNet$Garden", "jointInOrder", "(I)I"⟩, prog_2_method_12_code, 4, some .int)
abbrev me_ga_beginOrder : mMe := (⟨"FountainNet$Garden", "beginOrder", "()V"⟩, prog_2_method_13_code, 3, none)
abbrev me_ga_nextInOrder : mMe := (⟨"FountainNet$Garden", "nextInOrder", "()LFountainNet$Joint;"⟩, prog_2_method_14_code, 5, some (.object "FountainNet$Joint"))
abbrev me_fn_tankOf : mMe := (⟨"FountainNet", "tankOf", "(II)I"⟩, prog_1_method_31_code, 4, some .int)
abbrev me_fn_jointOf : mMe := (⟨"FountainNet", "jointOf", "(II)I"⟩, prog_1_method_32_code, 4, some .int)
abbrev me_fn_count : mMe := (⟨"FountainNet", "count", "(I)I"⟩, prog_1_method_33_code, 2, some .int)
abbrev me_it_bitCount : mMe := (⟨"java/lang/Integer", "bitCount", "(I)I"⟩, prog_14_method_49_code, 1, some .int)
abbrev me_ga_emptyPipes : mMe := (⟨"FountainNet$Garden", "emptyPipes", "()I"⟩, prog_2_method_11_code, 3, some .int)
abbrev me_fn_refusalsOf : mMe := (⟨"FountainNet", "refusalsOf", "(I)I"⟩, prog_1_method_34_code, 2, some .int)
abbrev me_fm_init : mMe := (⟨"FountainNetModel", "<init>", "()V"⟩, prog_11_method_1_code, 1, none)
abbrev me_fm_tank : mMe := (⟨"FountainNetModel", "tank", "(IIII)I"⟩, prog_11_method_7_code, 5, some .int)
abbrev me_fm_refuse : mMe := (⟨"FountainNetModel", "refuse", "(I)I"⟩, prog_11_method_2_code, 2, some .int)
abbrev me_fm_set : mMe := (⟨"FountainNetModel", "set", "(III)I"⟩, prog_11_method_8_code, 6, some .int)
abbrev me_fm_isIn : mMe := (⟨"FountainNetModel", "isIn", "(II)Z"⟩, prog_11_method_4_code, 2, some .boolean)
abbrev me_fm_wrong : mMe := (⟨"FountainNetModel", "wrong", "(III)I"⟩, prog_11_method_5_code, 3, some .int)
abbrev me_fm_changes : mMe := (⟨"FountainNetModel", "changes", "()V"⟩, prog_11_method_6_code, 1, none)
abbrev me_fm_joint : mMe := (⟨"FountainNetModel", "joint", "(ZIIII)I"⟩, prog_11_method_11_code, 6, some .int)
abbrev me_fm_jet : mMe := (⟨"FountainNetModel", "jet", "(II)I"⟩, prog_11_method_12_code, 3, some .int)
abbrev me_fm_isJoint : mMe := (⟨"FountainNetModel", "isJoint", "(I)Z"⟩, prog_11_method_9_code, 2, some .boolean)
abbrev me_fm_play : mMe := (⟨"FountainNetModel", "play", "(IZ)I"⟩, prog_11_method_14_code, 3, some .int)
abbrev me_fm_isJet : mMe := (⟨"FountainNetModel", "isJet", "(I)Z"⟩, prog_11_method_10_code, 2, some .boolean)
abbrev me_fm_isCut : mMe := (⟨"FountainNetModel", "isCut", "(I)Z"⟩, prog_11_method_13_code, 4, some .boolean)
abbrev me_fm_pipe : mMe := (⟨"FountainNetModel", "pipe", "(II)I"⟩, prog_11_method_15_code, 5, some .int)
abbrev me_fm_leak : mMe := (⟨"FountainNetModel", "leak", "(II)I"⟩, prog_11_method_16_code, 5, some .int)
abbrev me_fm_flow : mMe := (⟨"FountainNetModel", "flow", "(I)I"⟩, prog_11_method_21_code, 2, some .int)
abbrev me_fm_sees : mMe := (⟨"FountainNetModel", "sees", "()V"⟩, prog_11_method_20_code, 1, none)
abbrev me_fm_asItIs : mMe := (⟨"FountainNetModel", "asItIs", "()V"⟩, prog_11_method_17_code, 2, none)
abbrev me_fm_runs : mMe := (⟨"FountainNetModel", "runs", "()V"⟩, prog_11_method_18_code, 4, none)
abbrev me_fm_head : mMe := (⟨"FountainNetModel", "head", "(I)I"⟩, prog_11_method_22_code, 2, some .int)
abbrev me_fm_refuseFar : mMe := (⟨"FountainNetModel", "refuseFar", "(I)I"⟩, prog_11_method_3_code, 2, some .int)
abbrev me_fm_rise : mMe := (⟨"FountainNetModel", "rise", "(I)I"⟩, prog_11_method_23_code, 2, some .int)
abbrev me_fm_riseOf : mMe := (⟨"FountainNetModel", "riseOf", "(I)I"⟩, prog_11_method_19_code, 2, some .int)
abbrev me_fm_share : mMe := (⟨"FountainNetModel", "share", "(II)I"⟩, prog_11_method_24_code, 4, some .int)
abbrev me_fm_minutes : mMe := (⟨"FountainNetModel", "minutes", "(I)I"⟩, prog_11_method_26_code, 5, some .int)
abbrev me_fm_passes : mMe := (⟨"FountainNetModel", "passes", "(I)V"⟩, prog_11_method_25_code, 4, none)
abbrev me_fm_lasts : mMe := (⟨"FountainNetModel", "lasts", "(I)I"⟩, prog_11_method_27_code, 3, some .int)
abbrev me_fm_view : mMe := (⟨"FountainNetModel", "view", "(IIII)I"⟩, prog_11_method_28_code, 6, some .int)
abbrev me_fm_unview : mMe := (⟨"FountainNetModel", "unview", "()I"⟩, prog_11_method_29_code, 1, some .int)
abbrev me_fm_walk : mMe := (⟨"FountainNetModel", "walk", "(I)I"⟩, prog_11_method_34_code, 2, some .int)
abbrev me_fm_hasWalk : mMe := (⟨"FountainNetModel", "hasWalk", "()Z"⟩, prog_11_method_33_code, 1, some .boolean)
abbrev me_fm_walks : mMe := (⟨"FountainNetModel", "walks", "(Z)V"⟩, prog_11_method_31_code, 6, none)
abbrev me_fm_looksAt : mMe := (⟨"FountainNetModel", "looksAt", "()V"⟩, prog_11_method_32_code, 2, none)
abbrev me_fm_viewAt : mMe := (⟨"FountainNetModel", "viewAt", "(I)I"⟩, prog_11_method_30_code, 3, some .int)
abbrev me_fm_most : mMe := (⟨"FountainNetModel", "most", "()I"⟩, prog_11_method_35_code, 1, some .int)
abbrev me_fm_pace : mMe := (⟨"FountainNetModel", "pace", "(I)I"⟩, prog_11_method_36_code, 4, some .int)
abbrev me_fm_tasks : mMe := (⟨"FountainNetModel", "tasks", "()I"⟩, prog_11_method_39_code, 1, some .int)
abbrev me_fm_findTasks : mMe := (⟨"FountainNetModel", "findTasks", "()V"⟩, prog_11_method_38_code, 4, none)
abbrev me_fm_adds : mMe := (⟨"FountainNetModel", "adds", "(III)V"⟩, prog_11_method_37_code, 5, none)
abbrev me_fm_task : mMe := (⟨"FountainNetModel", "task", "(II)I"⟩, prog_11_method_40_code, 3, some .int)
abbrev me_fm_boys : mMe := (⟨"FountainNetModel", "boys", "()I"⟩, prog_11_method_43_code, 4, some .int)
abbrev me_fm_leads : mMe := (⟨"FountainNetModel", "leads", "(I)Z"⟩, prog_11_method_42_code, 3, some .boolean)
abbrev me_fm_canFollow : mMe := (⟨"FountainNetModel", "canFollow", "(II)Z"⟩, prog_11_method_41_code, 3, some .boolean)
abbrev me_fm_gauge : mMe := (⟨"FountainNetModel", "gauge", "(II)I"⟩, prog_11_method_44_code, 5, some .int)
abbrev me_fm_tol : mMe := (⟨"FountainNetModel", "tol", "(I)I"⟩, prog_11_method_45_code, 4, some .int)
abbrev me_fm_explain : mMe := (⟨"FountainNetModel", "explain", "()I"⟩, prog_11_method_49_code, 1, some .int)
abbrev me_fm_look : mMe := (⟨"FountainNetModel", "look", "()V"⟩, prog_11_method_47_code, 5, none)
abbrev me_fm_explains : mMe := (⟨"FountainNetModel", "explains", "()Z"⟩, prog_11_method_46_code, 3, some .boolean)
abbrev me_fm_two : mMe := (⟨"FountainNetModel", "two", "(II)V"⟩, prog_11_method_48_code, 5, none)
abbrev me_fm_explained : mMe := (⟨"FountainNetModel", "explained", "(I)I"⟩, prog_11_method_50_code, 2, some .int)
abbrev me_fm_rivals : mMe := (⟨"FountainNetModel", "rivals", "()I"⟩, prog_11_method_51_code, 1, some .int)
abbrev me_fm_empty : mMe := (⟨"FountainNetModel", "empty", "(I)I"⟩, prog_11_method_53_code, 2, some .int)
abbrev me_fm_mayEmpty : mMe := (⟨"FountainNetModel", "mayEmpty", "(I[Z)Z"⟩, prog_11_method_52_code, 5, some .boolean)
abbrev me_fm_fill : mMe := (⟨"FountainNetModel", "fill", "(I)I"⟩, prog_11_method_54_code, 2, some .int)
abbrev me_fm_order : mMe := (⟨"FountainNetModel", "order", "(I)I"⟩, prog_11_method_55_code, 5, some .int)
abbrev me_fm_tankOf : mMe := (⟨"FountainNetModel", "tankOf", "(II)I"⟩, prog_11_method_56_code, 3, some .int)
abbrev me_fm_jointOf : mMe := (⟨"FountainNetModel", "jointOf", "(II)I"⟩, prog_11_method_57_code, 3, some .int)
abbrev me_fm_count : mMe := (⟨"FountainNetModel", "count", "(I)I"⟩, prog_11_method_58_code, 4, some .int)
abbrev me_lw_law : mMe := (⟨"FountainNetLaw", "law", "([I)Z"⟩, code, 4, some .boolean)
theorem ca_fn_init : mCal me_fn_init := ⟨by decide +kernel, ⟨by decide, by decide⟩, by decide, (mm 71 (by decide +kernel) rfl), (mm 47 (by decide +kernel) rfl)⟩
theorem pa_fn_init : (parseMethodDescriptor me_fn_init.1.desc).map (fun d => d.parameters.length) = some 0 := by decide +kernel
theorem ii_fn_init : Cond.instanceMethod me_fn_init.1 ∈ mTb ∧ me_fn_init.1.name = "<init>" ∧ me_fn_init.2.2.2 = none := ⟨(mm 70 (by decide +kernel) rfl), rfl, rfl⟩
theorem ca_ga_init : mCal me_ga_init := ⟨by decide +kernel, ⟨by decide, by decide⟩, by decide, (mm 79 (by decide +kernel) rfl), (mm 48 (by decide +kernel) rfl)⟩
theorem pa_ga_init : (parseMethodDescriptor me_ga_init.1.desc).map (fun d => d.parameters.length) = some 0 := by decide +kernel
theorem ii_ga_init : Cond.instanceMethod me_ga_init.1 ∈ mTb ∧ me_ga_init.1.name = "<init>" ∧ me_ga_init.2.2.2 = none := ⟨(mm 78 (by decide +kernel) rfl), rfl, rfl⟩
theorem ca_al_init : mCal me_al_init := ⟨by decide +kernel, ⟨by decide, by decide⟩, by decide, (mm 85 (by decide +kernel) rfl), (mm 51 (by decide +kernel) rfl)⟩
theorem pa_al_init : (parseMethodDescriptor me_al_init.1.desc).map (fun d => d.parameters.length) = some 0 := by decide +kernel
theorem ii_al_init : Cond.instanceMethod me_al_init.1 ∈ mTb ∧ me_al_init.1.name = "<init>" ∧ me_al_init.2.2.2 = none := ⟨(mm 84 (by decide +kernel) rfl), rfl, rfl⟩
theorem ca_ab_init : mCal me_ab_init := ⟨by decide +kernel, ⟨by decide, by decide⟩, by decide, (mm 88 (by decide +kernel) rfl), (mm 50 (by decide +kernel) rfl)⟩
theorem pa_ab_init : (parseMethodDescriptor me_ab_init.1.desc).map (fun d => d.parameters.length) = some 0 := by decide +kernel
theorem ii_ab_init : Cond.instanceMethod me_ab_init.1 ∈ mTb ∧ me_ab_init.1.name = "<init>" ∧ me_ab_init.2.2.2 = none := ⟨(mm 87 (by decide +kernel) rfl), rfl, rfl⟩
theorem ca_ac_init : mCal me_ac_init := ⟨by decide +kernel, ⟨by decide, by decide⟩, by decide, (mm 91 (by decide +kernel) rfl), (mm 49 (by decide +kernel) rfl)⟩
theorem pa_ac_init : (parseMethodDescriptor me_ac_init.1.desc).map (fun d => d.parameters.length) = some 0 := by decide +kernel
theorem ii_ac_init : Cond.instanceMethod me_ac_init.1 ∈ mTb ∧ me_ac_init.1.name = "<init>" ∧ me_ac_init.2.2.2 = none := ⟨(mm 90 (by decide +kernel) rfl), rfl, rfl⟩
theorem ca_sr_init : mCal me_sr_init := ⟨by decide +kernel, ⟨by decide, by decide⟩, by decide, (mm 140 (by decide +kernel) rfl), (mm 52 (by decide +kernel) rfl)⟩
theorem pa_sr_init : (parseMethodDescriptor me_sr_init.1.desc).map (fun d => d.parameters.length) = some 2 := by decide +kernel
theorem ii_sr_init : Cond.instanceMethod me_sr_init.1 ∈ mTb ∧ me_sr_init.1.name = "<init>" ∧ me_sr_init.2.2.2 = none := ⟨(mm 139 (by decide +kernel) rfl), rfl, rfl⟩
theorem ca_tl_init : mCal me_tl_init := ⟨by decide +kernel, ⟨by decide, by decide⟩, by decide, (mm 177 (by decide +kernel) rfl), (mm 53 (by decide +kernel) rfl)⟩
theorem pa_tl_init : (parseMethodDescriptor me_tl_init.1.desc).map (fun d => d.parameters.length) = some 2 := by decide +kernel
theorem ii_tl_init : Cond.instanceMethod me_tl_init.1 ∈ mTb ∧ me_tl_init.1.name = "<init>" ∧ me_tl_init.2.2.2 = none := ⟨(mm 176 (by decide +kernel) rfl), rfl, rfl⟩
theorem ca_lk_init : mCal me_lk_init := ⟨by decide +kernel, ⟨by decide, by decide⟩, by decide, (mm 210 (by decide +kernel) rfl), (mm 54 (by decide +kernel) rfl)⟩
theorem pa_lk_init : (parseMethodDescriptor me_lk_init.1.desc).map (fun d => d.parameters.length) = some 1 := by decide +kernel
theorem ii_lk_init : Cond.instanceMethod me_lk_init.1 ∈ mTb ∧ me_lk_init.1.name = "<init>" ∧ me_lk_init.2.2.2 = none := ⟨(mm 209 (by decide +kernel) rfl), rfl, rfl⟩
theorem ca_fn_tank : mCal me_fn_tank := ⟨by decide +kernel, ⟨by decide, by decide⟩, by decide, (mm 261 (by decide +kernel) rfl), (mm 47 (by decide +kernel) rfl)⟩
theorem pa_fn_tank : (parseMethodDescriptor me_fn_tank.1.desc).map (fun d => d.parameters.length) = some 4 := by decide +kernel
theorem ii_fn_tank : Cond.instanceMethod me_fn_tank.1 ∈ mTb ∧ Cond.selects me_fn_tank.1.cls me_fn_tank.1 me_fn_tank.1 ∈ mTb := ⟨(mm 259 (by decide +kernel) rfl), (mm 260 (by decide +kernel) rfl)⟩
theorem ca_fn_refuse : mCal me_fn_refuse := ⟨by decide +kernel, ⟨by decide, by decide⟩, by decide, (mm 265 (by decide +kernel) rfl), (mm 47 (by decide +kernel) rfl)⟩
theorem pa_fn_refuse : (parseMethodDescriptor me_fn_refuse.1.desc).map (fun d => d.parameters.length) = some 1 := by decide +kernel
theorem ii_fn_refuse : Cond.instanceMethod me_fn_refuse.1 ∈ mTb ∧ Cond.selects me_fn_refuse.1.cls me_fn_refuse.1 me_fn_refuse.1 ∈ mTb := ⟨(mm 264 (by decide +kernel) rfl), (mm 0 (by decide +kernel) rfl)⟩
theorem ca_al_size : mCal me_al_size := ⟨by decide +kernel, ⟨by decide, by decide⟩, by decide, (mm 269 (by decide +kernel) rfl), (mm 51 (by decide +kernel) rfl)⟩
theorem pa_al_size : (parseMethodDescriptor me_al_size.1.desc).map (fun d => d.parameters.length) = some 0 := by decide +kernel
theorem ii_al_size : Cond.instanceMethod me_al_size.1 ∈ mTb ∧ Cond.selects me_al_size.1.cls me_al_size.1 me_al_size.1 ∈ mTb := ⟨(mm 267 (by decide +kernel) rfl), (mm 268 (by decide +kernel) rfl)⟩
theorem ca_tk_init : mCal me_tk_init := ⟨by decide +kernel, ⟨by decide, by decide⟩, by decide, (mm 274 (by decide +kernel) rfl), (mm 56 (by decide +kernel) rfl)⟩
theorem pa_tk_init : (parseMethodDescriptor me_tk_init.1.desc).map (fun d => d.parameters.length) = some 5 := by decide +kernel
theorem ii_tk_init : Cond.instanceMethod me_tk_init.1 ∈ mTb ∧ me_tk_init.1.name = "<init>" ∧ me_tk_init.2.2.2 = none := ⟨(mm 273 (by decide +kernel) rfl), rfl, rfl⟩
theorem ca_al_add : mCal me_al_add := ⟨by decide +kernel, ⟨by decide, by decide⟩, by decide, (mm 319 (by decide +kernel) rfl), (mm 51 (by decide +kernel) rfl)⟩
theorem pa_al_add : (parseMethodDescriptor me_al_add.1.desc).map (fun d => d.parameters.length) = some 1 := by decide +kernel
theorem ii_al_add : Cond.instanceMethod me_al_add.1 ∈ mTb ∧ Cond.selects me_al_add.1.cls me_al_add.1 me_al_add.1 ∈ mTb := ⟨(mm 317 (by decide +kernel) rfl), (mm 318 (by decide +kernel) rfl)⟩
theorem ca_al_add2 : mCal me_al_add2 := ⟨by decide +kernel, ⟨by decide, by decide⟩, by decide, (mm 323 (by decide +kernel) rfl), (mm 51 (by decide +kernel) rfl)⟩
theorem pa_al_add2 : (parseMethodDescriptor me_al_add2.1.desc).map (fun d => d.parameters.length) = some 3 := by decide +kernel
theorem ii_al_add2 : Cond.instanceMethod me_al_add2.1 ∈ mTb ∧ Cond.selects me_al_add2.1.cls me_al_add2.1 me_al_add2.1 ∈ mTb := ⟨(mm 322 (by decide +kernel) rfl), (mm 1 (by decide +kernel) rfl)⟩
theorem ca_al_grow : mCal me_al_grow := ⟨by decide +kernel, ⟨by decide, by decide⟩, by decide, (mm 327 (by decide +kernel) rfl), (mm 51 (by decide +kernel) rfl)⟩
theorem pa_al_grow : (parseMethodDescriptor me_al_grow.1.desc).map (fun d => d.parameters.length) = some 0 := by decide +kernel
theorem ii_al_grow : Cond.instanceMethod me_al_grow.1 ∈ mTb ∧ Cond.selects me_al_grow.1.cls me_al_grow.1 me_al_grow.1 ∈ mTb := ⟨(mm 326 (by decide +kernel) rfl), (mm 2 (by decide +kernel) rfl)⟩
theorem ca_al_grow2 : mCal me_al_grow2 := ⟨by decide +kernel, ⟨by decide, by decide⟩, by decide, (mm 331 (by decide +kernel) rfl), (mm 51 (by decide +kernel) rfl)⟩
theorem pa_al_grow2 : (parseMethodDescriptor me_al_grow2.1.desc).map (fun d => d.parameters.length) = some 1 := by decide +kernel
theorem ii_al_grow2 : Cond.instanceMethod me_al_grow2.1 ∈ mTb ∧ Cond.selects me_al_grow2.1.cls me_al_grow2.1 me_al_grow2.1 ∈ mTb := ⟨(mm 330 (by decide +kernel) rfl), (mm 3 (by decide +kernel) rfl)⟩
theorem ca_as_newLength : mCal me_as_newLength := ⟨by decide +kernel, ⟨by decide, by decide⟩, by decide, (mm 334 (by decide +kernel) rfl), (mm 57 (by decide +kernel) rfl)⟩
theorem pa_as_newLength : (parseMethodDescriptor me_as_newLength.1.desc).map (fun d => d.parameters.length) = some 3 := by decide +kernel
theorem is_as_newLength : Cond.static me_as_newLength.1 ∈ mTb := (mm 333 (by decide +kernel) rfl)
theorem ca_ar_copyOf : mCal me_ar_copyOf := ⟨by decide +kernel, ⟨by decide, by decide⟩, by decide, (mm 344 (by decide +kernel) rfl), (mm 59 (by decide +kernel) rfl)⟩
theorem pa_ar_copyOf : (parseMethodDescriptor me_ar_copyOf.1.desc).map (fun d => d.parameters.length) = some 2 := by decide +kernel
theorem is_ar_copyOf : Cond.static me_ar_copyOf.1 ∈ mTb := (mm 343 (by decide +kernel) rfl)
theorem ca_ar_copyOf2 : mCal me_ar_copyOf2 := ⟨by decide +kernel, ⟨by decide, by decide⟩, by decide, (mm 362 (by decide +kernel) rfl), (mm 59 (by decide +kernel) rfl)⟩
theorem pa_ar_copyOf2 : (parseMethodDescriptor me_ar_copyOf2.1.desc).map (fun d => d.parameters.length) = some 3 := by decide +kernel
theorem is_ar_copyOf2 : Cond.static me_ar_copyOf2.1 ∈ mTb := (mm 361 (by decide +kernel) rfl)
theorem ca_fn_set : mCal me_fn_set := ⟨by decide +kernel, ⟨by decide, by decide⟩, by decide, (mm 377 (by decide +kernel) rfl), (mm 47 (by decide +kernel) rfl)⟩
theorem pa_fn_set : (parseMethodDescriptor me_fn_set.1.desc).map (fun d => d.parameters.length) = some 3 := by decide +kernel
theorem ii_fn_set : Cond.instanceMethod me_fn_set.1 ∈ mTb ∧ Cond.selects me_fn_set.1.cls me_fn_set.1 me_fn_set.1 ∈ mTb := ⟨(mm 375 (by decide +kernel) rfl), (mm 376 (by decide +kernel) rfl)⟩
theorem ca_ga_tankAt : mCal me_ga_tankAt := ⟨by decide +kernel, ⟨by decide, by decide⟩, by decide, (mm 381 (by decide +kernel) rfl), (mm 48 (by decide +kernel) rfl)⟩
theorem pa_ga_tankAt : (parseMethodDescriptor me_ga_tankAt.1.desc).map (fun d => d.parameters.length) = some 1 := by decide +kernel
theorem ii_ga_tankAt : Cond.instanceMethod me_ga_tankAt.1 ∈ mTb ∧ Cond.selects me_ga_tankAt.1.cls me_ga_tankAt.1 me_ga_tankAt.1 ∈ mTb := ⟨(mm 379 (by decide +kernel) rfl), (mm 380 (by decide +kernel) rfl)⟩
theorem ca_al_get : mCal me_al_get := ⟨by decide +kernel, ⟨by decide, by decide⟩, by decide, (mm 386 (by decide +kernel) rfl), (mm 51 (by decide +kernel) rfl)⟩
theorem pa_al_get : (parseMethodDescriptor me_al_get.1.desc).map (fun d => d.parameters.length) = some 1 := by decide +kernel
theorem ii_al_get : Cond.instanceMethod me_al_get.1 ∈ mTb ∧ Cond.selects me_al_get.1.cls me_al_get.1 me_al_get.1 ∈ mTb := ⟨(mm 384 (by decide +kernel) rfl), (mm 385 (by decide +kernel) rfl)⟩
theorem ca_os_checkIndex : mCal me_os_checkIndex := ⟨by decide +kernel, ⟨by decide, by decide⟩, by decide, (mm 389 (by decide +kernel) rfl), (mm 61 (by decide +kernel) rfl)⟩
theorem pa_os_checkIndex : (parseMethodDescriptor me_os_checkIndex.1.desc).map (fun d => d.parameters.length) = some 2 := by decide +kernel
theorem is_os_checkIndex : Cond.static me_os_checkIndex.1 ∈ mTb := (mm 388 (by decide +kernel) rfl)
theorem ca_pr_checkIndex : mCal me_pr_checkIndex := ⟨by decide +kernel, ⟨by decide, by decide⟩, by decide, (mm 392 (by decide +kernel) rfl), (mm 62 (by decide +kernel) rfl)⟩
theorem pa_pr_checkIndex : (parseMethodDescriptor me_pr_checkIndex.1.desc).map (fun d => d.parameters.length) = some 3 := by decide +kernel
theorem is_pr_checkIndex : Cond.static me_pr_checkIndex.1 ∈ mTb := (mm 391 (by decide +kernel) rfl)
theorem ca_al_elementData : mCal me_al_elementData := ⟨by decide +kernel, ⟨by decide, by decide⟩, by decide, (mm 396 (by decide +kernel) rfl), (mm 51 (by decide +kernel) rfl)⟩
theorem pa_al_elementData : (parseMethodDescriptor me_al_elementData.1.desc).map (fun d => d.parameters.length) = some 1 := by decide +kernel
theorem ii_al_elementData : Cond.instanceMethod me_al_elementData.1 ∈ mTb ∧ Cond.selects me_al_elementData.1.cls me_al_elementData.1 me_al_elementData.1 ∈ mTb := ⟨(mm 394 (by decide +kernel) rfl), (mm 395 (by decide +kernel) rfl)⟩
theorem ca_tk_capacity : mCal me_tk_capacity := ⟨by decide +kernel, ⟨by decide, by decide⟩, by decide, (mm 401 (by decide +kernel) rfl), (mm 56 (by decide +kernel) rfl)⟩
theorem pa_tk_capacity : (parseMethodDescriptor me_tk_capacity.1.desc).map (fun d => d.parameters.length) = some 0 := by decide +kernel
theorem ii_tk_capacity : Cond.instanceMethod me_tk_capacity.1 ∈ mTb ∧ Cond.selects me_tk_capacity.1.cls me_tk_capacity.1 me_tk_capacity.1 ∈ mTb := ⟨(mm 399 (by decide +kernel) rfl), (mm 400 (by decide +kernel) rfl)⟩
theorem ca_tk_changeSpring : mCal me_tk_changeSpring := ⟨by decide +kernel, ⟨by decide, by decide⟩, by decide, (mm 405 (by decide +kernel) rfl), (mm 56 (by decide +kernel) rfl)⟩
theorem pa_tk_changeSpring : (parseMethodDescriptor me_tk_changeSpring.1.desc).map (fun d => d.parameters.length) = some 1 := by decide +kernel
theorem ii_tk_changeSpring : Cond.instanceMethod me_tk_changeSpring.1 ∈ mTb ∧ Cond.selects me_tk_changeSpring.1.cls me_tk_changeSpring.1 me_tk_changeSpring.1 ∈ mTb := ⟨(mm 403 (by decide +kernel) rfl), (mm 404 (by decide +kernel) rfl)⟩
theorem ca_tk_changeWater : mCal me_tk_changeWater := ⟨by decide +kernel, ⟨by decide, by decide⟩, by decide, (mm 409 (by decide +kernel) rfl), (mm 56 (by decide +kernel) rfl)⟩
theorem pa_tk_changeWater : (parseMethodDescriptor me_tk_changeWater.1.desc).map (fun d => d.parameters.length) = some 1 := by decide +kernel
theorem ii_tk_changeWater : Cond.instanceMethod me_tk_changeWater.1 ∈ mTb ∧ Cond.selects me_tk_changeWater.1.cls me_tk_changeWater.1 me_tk_changeWater.1 ∈ mTb := ⟨(mm 407 (by decide +kernel) rfl), (mm 408 (by decide +kernel) rfl)⟩
theorem ca_fn_joint : mCal me_fn_joint := ⟨by decide +kernel, ⟨by decide, by decide⟩, by decide, (mm 413 (by decide +kernel) rfl), (mm 47 (by decide +kernel) rfl)⟩
theorem pa_fn_joint : (parseMethodDescriptor me_fn_joint.1.desc).map (fun d => d.parameters.length) = some 5 := by decide +kernel
theorem ii_fn_joint : Cond.instanceMethod me_fn_joint.1 ∈ mTb ∧ Cond.selects me_fn_joint.1.cls me_fn_joint.1 me_fn_joint.1 ∈ mTb := ⟨(mm 411 (by decide +kernel) rfl), (mm 412 (by decide +kernel) rfl)⟩
theorem ca_ga_jointAt : mCal me_ga_jointAt := ⟨by decide +kernel, ⟨by decide, by decide⟩, by decide, (mm 417 (by decide +kernel) rfl), (mm 48 (by decide +kernel) rfl)⟩
theorem pa_ga_jointAt : (parseMethodDescriptor me_ga_jointAt.1.desc).map (fun d => d.parameters.length) = some 1 := by decide +kernel
theorem ii_ga_jointAt : Cond.instanceMethod me_ga_jointAt.1 ∈ mTb ∧ Cond.selects me_ga_jointAt.1.cls me_ga_jointAt.1 me_ga_jointAt.1 ∈ mTb := ⟨(mm 415 (by decide +kernel) rfl), (mm 416 (by decide +kernel) rfl)⟩
theorem ca_fn_feederOf : mCal me_fn_feederOf := ⟨by decide +kernel, ⟨by decide, by decide⟩, by decide, (mm 421 (by decide +kernel) rfl), (mm 47 (by decide +kernel) rfl)⟩
theorem pa_fn_feederOf : (parseMethodDescriptor me_fn_feederOf.1.desc).map (fun d => d.parameters.length) = some 1 := by decide +kernel
theorem is_fn_feederOf : Cond.static me_fn_feederOf.1 ∈ mTb := (mm 420 (by decide +kernel) rfl)
theorem ca_jn_init : mCal me_jn_init := ⟨by decide +kernel, ⟨by decide, by decide⟩, by decide, (mm 426 (by decide +kernel) rfl), (mm 63 (by decide +kernel) rfl)⟩
theorem pa_jn_init : (parseMethodDescriptor me_jn_init.1.desc).map (fun d => d.parameters.length) = some 6 := by decide +kernel
theorem ii_jn_init : Cond.instanceMethod me_jn_init.1 ∈ mTb ∧ me_jn_init.1.name = "<init>" ∧ me_jn_init.2.2.2 = none := ⟨(mm 425 (by decide +kernel) rfl), rfl, rfl⟩
theorem ca_fn_jet : mCal me_fn_jet := ⟨by decide +kernel, ⟨by decide, by decide⟩, by decide, (mm 496 (by decide +kernel) rfl), (mm 47 (by decide +kernel) rfl)⟩
theorem pa_fn_jet : (parseMethodDescriptor me_fn_jet.1.desc).map (fun d => d.parameters.length) = some 2 := by decide +kernel
theorem ii_fn_jet : Cond.instanceMethod me_fn_jet.1 ∈ mTb ∧ Cond.selects me_fn_jet.1.cls me_fn_jet.1 me_fn_jet.1 ∈ mTb := ⟨(mm 494 (by decide +kernel) rfl), (mm 495 (by decide +kernel) rfl)⟩
theorem ca_je_init : mCal me_je_init := ⟨by decide +kernel, ⟨by decide, by decide⟩, by decide, (mm 501 (by decide +kernel) rfl), (mm 64 (by decide +kernel) rfl)⟩
theorem pa_je_init : (parseMethodDescriptor me_je_init.1.desc).map (fun d => d.parameters.length) = some 3 := by decide +kernel
theorem ii_je_init : Cond.instanceMethod me_je_init.1 ∈ mTb ∧ me_je_init.1.name = "<init>" ∧ me_je_init.2.2.2 = none := ⟨(mm 500 (by decide +kernel) rfl), rfl, rfl⟩
theorem ca_fn_play : mCal me_fn_play := ⟨by decide +kernel, ⟨by decide, by decide⟩, by decide, (mm 532 (by decide +kernel) rfl), (mm 47 (by decide +kernel) rfl)⟩
theorem pa_fn_play : (parseMethodDescriptor me_fn_play.1.desc).map (fun d => d.parameters.length) = some 2 := by decide +kernel
theorem ii_fn_play : Cond.instanceMethod me_fn_play.1 ∈ mTb ∧ Cond.selects me_fn_play.1.cls me_fn_play.1 me_fn_play.1 ∈ mTb := ⟨(mm 530 (by decide +kernel) rfl), (mm 531 (by decide +kernel) rfl)⟩
theorem ca_ga_jetAt : mCal me_ga_jetAt := ⟨by decide +kernel, ⟨by decide, by decide⟩, by decide, (mm 536 (by decide +kernel) rfl), (mm 48 (by decide +kernel) rfl)⟩
theorem pa_ga_jetAt : (parseMethodDescriptor me_ga_jetAt.1.desc).map (fun d => d.parameters.length) = some 1 := by decide +kernel
theorem ii_ga_jetAt : Cond.instanceMethod me_ga_jetAt.1 ∈ mTb ∧ Cond.selects me_ga_jetAt.1.cls me_ga_jetAt.1 me_ga_jetAt.1 ∈ mTb := ⟨(mm 534 (by decide +kernel) rfl), (mm 535 (by decide +kernel) rfl)⟩
theorem ca_je_isIn : mCal me_je_isIn := ⟨by decide +kernel, ⟨by decide, by decide⟩, by decide, (mm 541 (by decide +kernel) rfl), (mm 64 (by decide +kernel) rfl)⟩
theorem pa_je_isIn : (parseMethodDescriptor me_je_isIn.1.desc).map (fun d => d.parameters.length) = some 1 := by decide +kernel
theorem ii_je_isIn : Cond.instanceMethod me_je_isIn.1 ∈ mTb ∧ Cond.selects me_je_isIn.1.cls me_je_isIn.1 me_je_isIn.1 ∈ mTb := ⟨(mm 539 (by decide +kernel) rfl), (mm 540 (by decide +kernel) rfl)⟩
theorem ca_fn_pipe : mCal me_fn_pipe := ⟨by decide +kernel, ⟨by decide, by decide⟩, by decide, (mm 545 (by decide +kernel) rfl), (mm 47 (by decide +kernel) rfl)⟩
theorem pa_fn_pipe : (parseMethodDescriptor me_fn_pipe.1.desc).map (fun d => d.parameters.length) = some 2 := by decide +kernel
theorem ii_fn_pipe : Cond.instanceMethod me_fn_pipe.1 ∈ mTb ∧ Cond.selects me_fn_pipe.1.cls me_fn_pipe.1 me_fn_pipe.1 ∈ mTb := ⟨(mm 543 (by decide +kernel) rfl), (mm 544 (by decide +kernel) rfl)⟩
theorem ca_fn_leak : mCal me_fn_leak := ⟨by decide +kernel, ⟨by decide, by decide⟩, by decide, (mm 549 (by decide +kernel) rfl), (mm 47 (by decide +kernel) rfl)⟩
theorem pa_fn_leak : (parseMethodDescriptor me_fn_leak.1.desc).map (fun d => d.parameters.length) = some 2 := by decide +kernel
theorem ii_fn_leak : Cond.instanceMethod me_fn_leak.1 ∈ mTb ∧ Cond.selects me_fn_leak.1.cls me_fn_leak.1 me_fn_leak.1 ∈ mTb := ⟨(mm 547 (by decide +kernel) rfl), (mm 548 (by decide +kernel) rfl)⟩
theorem ca_fn_flow : mCal me_fn_flow := ⟨by decide +kernel, ⟨by decide, by decide⟩, by decide, (mm 553 (by decide +kernel) rfl), (mm 47 (by decide +kernel) rfl)⟩
theorem pa_fn_flow : (parseMethodDescriptor me_fn_flow.1.desc).map (fun d => d.parameters.length) = some 1 := by decide +kernel
theorem ii_fn_flow : Cond.instanceMethod me_fn_flow.1 ∈ mTb ∧ Cond.selects me_fn_flow.1.cls me_fn_flow.1 me_fn_flow.1 ∈ mTb := ⟨(mm 551 (by decide +kernel) rfl), (mm 552 (by decide +kernel) rfl)⟩
theorem ca_ga_reckonAsItIs : mCal me_ga_reckonAsItIs := ⟨by decide +kernel, ⟨by decide, by decide⟩, by decide, (mm 557 (by decide +kernel) rfl), (mm 48 (by decide +kernel) rfl)⟩
theorem pa_ga_reckonAsItIs : (parseMethodDescriptor me_ga_reckonAsItIs.1.desc).map (fun d => d.parameters.length) = some 0 := by decide +kernel
theorem ii_ga_reckonAsItIs : Cond.instanceMethod me_ga_reckonAsItIs.1 ∈ mTb ∧ Cond.selects me_ga_reckonAsItIs.1.cls me_ga_reckonAsItIs.1 me_ga_reckonAsItIs.1 ∈ mTb := ⟨(mm 555 (by decide +kernel) rfl), (mm 556 (by decide +kernel) rfl)⟩
theorem ca_ga_reckon : mCal me_ga_reckon := ⟨by decide +kernel, ⟨by decide, by decide⟩, by decide, (mm 561 (by decide +kernel) rfl), (mm 48 (by decide +kernel) rfl)⟩
theorem pa_ga_reckon : (parseMethodDescriptor me_ga_reckon.1.desc).map (fun d => d.parameters.length) = some 2 := by decide +kernel
theorem ii_ga_reckon : Cond.instanceMethod me_ga_reckon.1 ∈ mTb ∧ Cond.selects me_ga_reckon.1.cls me_ga_reckon.1 me_ga_reckon.1 ∈ mTb := ⟨(mm 559 (by decide +kernel) rfl), (mm 560 (by decide +kernel) rfl)⟩
theorem ca_ga_forgetFlows : mCal me_ga_forgetFlows := ⟨by decide +kernel, ⟨by decide, by decide⟩, by decide, (mm 565 (by decide +kernel) rfl), (mm 48 (by decide +kernel) rfl)⟩
theorem pa_ga_forgetFlows : (parseMethodDescriptor me_ga_forgetFlows.1.desc).map (fun d => d.parameters.length) = some 0 := by decide +kernel
theorem ii_ga_forgetFlows : Cond.instanceMethod me_ga_forgetFlows.1 ∈ mTb ∧ Cond.selects me_ga_forgetFlows.1.cls me_ga_forgetFlows.1 me_ga_forgetFlows.1 ∈ mTb := ⟨(mm 564 (by decide +kernel) rfl), (mm 4 (by decide +kernel) rfl)⟩
theorem ca_jn_drawAmong : mCal me_jn_drawAmong := ⟨by decide +kernel, ⟨by decide, by decide⟩, by decide, (mm 569 (by decide +kernel) rfl), (mm 63 (by decide +kernel) rfl)⟩
theorem pa_jn_drawAmong : (parseMethodDescriptor me_jn_drawAmong.1.desc).map (fun d => d.parameters.length) = some 1 := by decide +kernel
theorem ii_jn_drawAmong : Cond.instanceMethod me_jn_drawAmong.1 ∈ mTb ∧ Cond.selects me_jn_drawAmong.1.cls me_jn_drawAmong.1 me_jn_drawAmong.1 ∈ mTb := ⟨(mm 567 (by decide +kernel) rfl), (mm 568 (by decide +kernel) rfl)⟩
theorem ca_ga_addFlowAhead : mCal me_ga_addFlowAhead := ⟨by decide +kernel, ⟨by decide, by decide⟩, by decide, (mm 574 (by decide +kernel) rfl), (mm 48 (by decide +kernel) rfl)⟩
theorem pa_ga_addFlowAhead : (parseMethodDescriptor me_ga_addFlowAhead.1.desc).map (fun d => d.parameters.length) = some 1 := by decide +kernel
theorem ii_ga_addFlowAhead : Cond.instanceMethod me_ga_addFlowAhead.1 ∈ mTb ∧ Cond.selects me_ga_addFlowAhead.1.cls me_ga_addFlowAhead.1 me_ga_addFlowAhead.1 ∈ mTb := ⟨(mm 573 (by decide +kernel) rfl), (mm 5 (by decide +kernel) rfl)⟩
theorem ca_jn_lossNow : mCal me_jn_lossNow := ⟨by decide +kernel, ⟨by decide, by decide⟩, by decide, (mm 578 (by decide +kernel) rfl), (mm 63 (by decide +kernel) rfl)⟩
theorem pa_jn_lossNow : (parseMethodDescriptor me_jn_lossNow.1.desc).map (fun d => d.parameters.length) = some 0 := by decide +kernel
theorem ii_jn_lossNow : Cond.instanceMethod me_jn_lossNow.1 ∈ mTb ∧ Cond.selects me_jn_lossNow.1.cls me_jn_lossNow.1 me_jn_lossNow.1 ∈ mTb := ⟨(mm 576 (by decide +kernel) rfl), (mm 577 (by decide +kernel) rfl)⟩
theorem ca_fn_head : mCal me_fn_head := ⟨by decide +kernel, ⟨by decide, by decide⟩, by decide, (mm 583 (by decide +kernel) rfl), (mm 47 (by decide +kernel) rfl)⟩
theorem pa_fn_head : (parseMethodDescriptor me_fn_head.1.desc).map (fun d => d.parameters.length) = some 1 := by decide +kernel
theorem ii_fn_head : Cond.instanceMethod me_fn_head.1 ∈ mTb ∧ Cond.selects me_fn_head.1.cls me_fn_head.1 me_fn_head.1 ∈ mTb := ⟨(mm 581 (by decide +kernel) rfl), (mm 582 (by decide +kernel) rfl)⟩
theorem ca_fn_refuseAsTold : mCal me_fn_refuseAsTold := ⟨by decide +kernel, ⟨by decide, by decide⟩, by decide, (mm 587 (by decide +kernel) rfl), (mm 47 (by decide +kernel) rfl)⟩
theorem pa_fn_refuseAsTold : (parseMethodDescriptor me_fn_refuseAsTold.1.desc).map (fun d => d.parameters.length) = some 1 := by decide +kernel
theorem ii_fn_refuseAsTold : Cond.instanceMethod me_fn_refuseAsTold.1 ∈ mTb ∧ Cond.selects me_fn_refuseAsTold.1.cls me_fn_refuseAsTold.1 me_fn_refuseAsTold.1 ∈ mTb := ⟨(mm 586 (by decide +kernel) rfl), (mm 6 (by decide +kernel) rfl)⟩
theorem ca_jn_headWith : mCal me_jn_headWith := ⟨by decide +kernel, ⟨by decide, by decide⟩, by decide, (mm 592 (by decide +kernel) rfl), (mm 63 (by decide +kernel) rfl)⟩
theorem pa_jn_headWith : (parseMethodDescriptor me_jn_headWith.1.desc).map (fun d => d.parameters.length) = some 1 := by decide +kernel
theorem ii_jn_headWith : Cond.instanceMethod me_jn_headWith.1 ∈ mTb ∧ Cond.selects me_jn_headWith.1.cls me_jn_headWith.1 me_jn_headWith.1 ∈ mTb := ⟨(mm 590 (by decide +kernel) rfl), (mm 591 (by decide +kernel) rfl)⟩
theorem ca_tk_levelWith : mCal me_tk_levelWith := ⟨by decide +kernel, ⟨by decide, by decide⟩, by decide, (mm 596 (by decide +kernel) rfl), (mm 56 (by decide +kernel) rfl)⟩
theorem pa_tk_levelWith : (parseMethodDescriptor me_tk_levelWith.1.desc).map (fun d => d.parameters.length) = some 1 := by decide +kernel
theorem ii_tk_levelWith : Cond.instanceMethod me_tk_levelWith.1 ∈ mTb ∧ Cond.selects me_tk_levelWith.1.cls me_tk_levelWith.1 me_tk_levelWith.1 ∈ mTb := ⟨(mm 594 (by decide +kernel) rfl), (mm 595 (by decide +kernel) rfl)⟩
theorem ca_fn_rise : mCal me_fn_rise := ⟨by decide +kernel, ⟨by decide, by decide⟩, by decide, (mm 600 (by decide +kernel) rfl), (mm 47 (by decide +kernel) rfl)⟩
theorem pa_fn_rise : (parseMethodDescriptor me_fn_rise.1.desc).map (fun d => d.parameters.length) = some 1 := by decide +kernel
theorem ii_fn_rise : Cond.instanceMethod me_fn_rise.1 ∈ mTb ∧ Cond.selects me_fn_rise.1.cls me_fn_rise.1 me_fn_rise.1 ∈ mTb := ⟨(mm 598 (by decide +kernel) rfl), (mm 599 (by decide +kernel) rfl)⟩
theorem ca_je_riseAmong : mCal me_je_riseAmong := ⟨by decide +kernel, ⟨by decide, by decide⟩, by decide, (mm 604 (by decide +kernel) rfl), (mm 64 (by decide +kernel) rfl)⟩
theorem pa_je_riseAmong : (parseMethodDescriptor me_je_riseAmong.1.desc).map (fun d => d.parameters.length) = some 2 := by decide +kernel
theorem ii_je_riseAmong : Cond.instanceMethod me_je_riseAmong.1 ∈ mTb ∧ Cond.selects me_je_riseAmong.1.cls me_je_riseAmong.1 me_je_riseAmong.1 ∈ mTb := ⟨(mm 602 (by decide +kernel) rfl), (mm 603 (by decide +kernel) rfl)⟩
theorem ca_fn_share : mCal me_fn_share := ⟨by decide +kernel, ⟨by decide, by decide⟩, by decide, (mm 611 (by decide +kernel) rfl), (mm 47 (by decide +kernel) rfl)⟩
theorem pa_fn_share : (parseMethodDescriptor me_fn_share.1.desc).map (fun d => d.parameters.length) = some 2 := by decide +kernel
theorem ii_fn_share : Cond.instanceMethod me_fn_share.1 ∈ mTb ∧ Cond.selects me_fn_share.1.cls me_fn_share.1 me_fn_share.1 ∈ mTb := ⟨(mm 609 (by decide +kernel) rfl), (mm 610 (by decide +kernel) rfl)⟩
theorem ca_fn_minutes : mCal me_fn_minutes := ⟨by decide +kernel, ⟨by decide, by decide⟩, by decide, (mm 616 (by decide +kernel) rfl), (mm 47 (by decide +kernel) rfl)⟩
theorem pa_fn_minutes : (parseMethodDescriptor me_fn_minutes.1.desc).map (fun d => d.parameters.length) = some 1 := by decide +kernel
theorem ii_fn_minutes : Cond.instanceMethod me_fn_minutes.1 ∈ mTb ∧ Cond.selects me_fn_minutes.1.cls me_fn_minutes.1 me_fn_minutes.1 ∈ mTb := ⟨(mm 614 (by decide +kernel) rfl), (mm 615 (by decide +kernel) rfl)⟩
theorem ca_tk_passMinutes : mCal me_tk_passMinutes := ⟨by decide +kernel, ⟨by decide, by decide⟩, by decide, (mm 621 (by decide +kernel) rfl), (mm 56 (by decide +kernel) rfl)⟩
theorem pa_tk_passMinutes : (parseMethodDescriptor me_tk_passMinutes.1.desc).map (fun d => d.parameters.length) = some 1 := by decide +kernel
theorem ii_tk_passMinutes : Cond.instanceMethod me_tk_passMinutes.1 ∈ mTb ∧ Cond.selects me_tk_passMinutes.1.cls me_tk_passMinutes.1 me_tk_passMinutes.1 ∈ mTb := ⟨(mm 619 (by decide +kernel) rfl), (mm 620 (by decide +kernel) rfl)⟩
theorem ca_tk_withSpring : mCal me_tk_withSpring := ⟨by decide +kernel, ⟨by decide, by decide⟩, by decide, (mm 625 (by decide +kernel) rfl), (mm 56 (by decide +kernel) rfl)⟩
theorem pa_tk_withSpring : (parseMethodDescriptor me_tk_withSpring.1.desc).map (fun d => d.parameters.length) = some 1 := by decide +kernel
theorem ii_tk_withSpring : Cond.instanceMethod me_tk_withSpring.1 ∈ mTb ∧ Cond.selects me_tk_withSpring.1.cls me_tk_withSpring.1 me_tk_withSpring.1 ∈ mTb := ⟨(mm 623 (by decide +kernel) rfl), (mm 624 (by decide +kernel) rfl)⟩
theorem ca_tk_waterAfterMinute : mCal me_tk_waterAfterMinute := ⟨by decide +kernel, ⟨by decide, by decide⟩, by decide, (mm 632 (by decide +kernel) rfl), (mm 56 (by decide +kernel) rfl)⟩
theorem pa_tk_waterAfterMinute : (parseMethodDescriptor me_tk_waterAfterMinute.1.desc).map (fun d => d.parameters.length) = some 1 := by decide +kernel
theorem ii_tk_waterAfterMinute : Cond.instanceMethod me_tk_waterAfterMinute.1 ∈ mTb ∧ Cond.selects me_tk_waterAfterMinute.1.cls me_tk_waterAfterMinute.1 me_tk_waterAfterMinute.1 ∈ mTb := ⟨(mm 630 (by decide +kernel) rfl), (mm 631 (by decide +kernel) rfl)⟩
theorem ca_fn_lasts : mCal me_fn_lasts := ⟨by decide +kernel, ⟨by decide, by decide⟩, by decide, (mm 636 (by decide +kernel) rfl), (mm 47 (by decide +kernel) rfl)⟩
theorem pa_fn_lasts : (parseMethodDescriptor me_fn_lasts.1.desc).map (fun d => d.parameters.length) = some 1 := by decide +kernel
theorem ii_fn_lasts : Cond.instanceMethod me_fn_lasts.1 ∈ mTb ∧ Cond.selects me_fn_lasts.1.cls me_fn_lasts.1 me_fn_lasts.1 ∈ mTb := ⟨(mm 634 (by decide +kernel) rfl), (mm 635 (by decide +kernel) rfl)⟩
theorem ca_fn_view : mCal me_fn_view := ⟨by decide +kernel, ⟨by decide, by decide⟩, by decide, (mm 641 (by decide +kernel) rfl), (mm 47 (by decide +kernel) rfl)⟩
theorem pa_fn_view : (parseMethodDescriptor me_fn_view.1.desc).map (fun d => d.parameters.length) = some 4 := by decide +kernel
theorem ii_fn_view : Cond.instanceMethod me_fn_view.1 ∈ mTb ∧ Cond.selects me_fn_view.1.cls me_fn_view.1 me_fn_view.1 ∈ mTb := ⟨(mm 639 (by decide +kernel) rfl), (mm 640 (by decide +kernel) rfl)⟩
theorem ca_ga_allJets : mCal me_ga_allJets := ⟨by decide +kernel, ⟨by decide, by decide⟩, by decide, (mm 645 (by decide +kernel) rfl), (mm 48 (by decide +kernel) rfl)⟩
theorem pa_ga_allJets : (parseMethodDescriptor me_ga_allJets.1.desc).map (fun d => d.parameters.length) = some 0 := by decide +kernel
theorem ii_ga_allJets : Cond.instanceMethod me_ga_allJets.1 ∈ mTb ∧ Cond.selects me_ga_allJets.1.cls me_ga_allJets.1 me_ga_allJets.1 ∈ mTb := ⟨(mm 643 (by decide +kernel) rfl), (mm 644 (by decide +kernel) rfl)⟩
theorem ca_vw_init : mCal me_vw_init := ⟨by decide +kernel, ⟨by decide, by decide⟩, by decide, (mm 650 (by decide +kernel) rfl), (mm 65 (by decide +kernel) rfl)⟩
theorem pa_vw_init : (parseMethodDescriptor me_vw_init.1.desc).map (fun d => d.parameters.length) = some 4 := by decide +kernel
theorem ii_vw_init : Cond.instanceMethod me_vw_init.1 ∈ mTb ∧ me_vw_init.1.name = "<init>" ∧ me_vw_init.2.2.2 = none := ⟨(mm 649 (by decide +kernel) rfl), rfl, rfl⟩
theorem ca_fn_unview : mCal me_fn_unview := ⟨by decide +kernel, ⟨by decide, by decide⟩, by decide, (mm 676 (by decide +kernel) rfl), (mm 47 (by decide +kernel) rfl)⟩
theorem pa_fn_unview : (parseMethodDescriptor me_fn_unview.1.desc).map (fun d => d.parameters.length) = some 0 := by decide +kernel
theorem ii_fn_unview : Cond.instanceMethod me_fn_unview.1 ∈ mTb ∧ Cond.selects me_fn_unview.1.cls me_fn_unview.1 me_fn_unview.1 ∈ mTb := ⟨(mm 674 (by decide +kernel) rfl), (mm 675 (by decide +kernel) rfl)⟩
theorem ca_al_remove : mCal me_al_remove := ⟨by decide +kernel, ⟨by decide, by decide⟩, by decide, (mm 680 (by decide +kernel) rfl), (mm 51 (by decide +kernel) rfl)⟩
theorem pa_al_remove : (parseMethodDescriptor me_al_remove.1.desc).map (fun d => d.parameters.length) = some 1 := by decide +kernel
theorem ii_al_remove : Cond.instanceMethod me_al_remove.1 ∈ mTb ∧ Cond.selects me_al_remove.1.cls me_al_remove.1 me_al_remove.1 ∈ mTb := ⟨(mm 678 (by decide +kernel) rfl), (mm 679 (by decide +kernel) rfl)⟩
theorem ca_al_fastRemove : mCal me_al_fastRemove := ⟨by decide +kernel, ⟨by decide, by decide⟩, by decide, (mm 684 (by decide +kernel) rfl), (mm 51 (by decide +kernel) rfl)⟩
theorem pa_al_fastRemove : (parseMethodDescriptor me_al_fastRemove.1.desc).map (fun d => d.parameters.length) = some 2 := by decide +kernel
theorem ii_al_fastRemove : Cond.instanceMethod me_al_fastRemove.1 ∈ mTb ∧ Cond.selects me_al_fastRemove.1.cls me_al_fastRemove.1 me_al_fastRemove.1 ∈ mTb := ⟨(mm 683 (by decide +kernel) rfl), (mm 7 (by decide +kernel) rfl)⟩
theorem ca_fn_walk : mCal me_fn_walk := ⟨by decide +kernel, ⟨by decide, by decide⟩, by decide, (mm 689 (by decide +kernel) rfl), (mm 47 (by decide +kernel) rfl)⟩
theorem pa_fn_walk : (parseMethodDescriptor me_fn_walk.1.desc).map (fun d => d.parameters.length) = some 1 := by decide +kernel
theorem ii_fn_walk : Cond.instanceMethod me_fn_walk.1 ∈ mTb ∧ Cond.selects me_fn_walk.1.cls me_fn_walk.1 me_fn_walk.1 ∈ mTb := ⟨(mm 687 (by decide +kernel) rfl), (mm 688 (by decide +kernel) rfl)⟩
theorem ca_sr_isAhead : mCal me_sr_isAhead := ⟨by decide +kernel, ⟨by decide, by decide⟩, by decide, (mm 693 (by decide +kernel) rfl), (mm 52 (by decide +kernel) rfl)⟩
theorem pa_sr_isAhead : (parseMethodDescriptor me_sr_isAhead.1.desc).map (fun d => d.parameters.length) = some 0 := by decide +kernel
theorem ii_sr_isAhead : Cond.instanceMethod me_sr_isAhead.1 ∈ mTb ∧ Cond.selects me_sr_isAhead.1.cls me_sr_isAhead.1 me_sr_isAhead.1 ∈ mTb := ⟨(mm 691 (by decide +kernel) rfl), (mm 692 (by decide +kernel) rfl)⟩
theorem ca_sr_lastMinute : mCal me_sr_lastMinute := ⟨by decide +kernel, ⟨by decide, by decide⟩, by decide, (mm 697 (by decide +kernel) rfl), (mm 52 (by decide +kernel) rfl)⟩
theorem pa_sr_lastMinute : (parseMethodDescriptor me_sr_lastMinute.1.desc).map (fun d => d.parameters.length) = some 0 := by decide +kernel
theorem ii_sr_lastMinute : Cond.instanceMethod me_sr_lastMinute.1 ∈ mTb ∧ Cond.selects me_sr_lastMinute.1.cls me_sr_lastMinute.1 me_sr_lastMinute.1 ∈ mTb := ⟨(mm 696 (by decide +kernel) rfl), (mm 8 (by decide +kernel) rfl)⟩
theorem ca_al_isEmpty : mCal me_al_isEmpty := ⟨by decide +kernel, ⟨by decide, by decide⟩, by decide, (mm 701 (by decide +kernel) rfl), (mm 51 (by decide +kernel) rfl)⟩
theorem pa_al_isEmpty : (parseMethodDescriptor me_al_isEmpty.1.desc).map (fun d => d.parameters.length) = some 0 := by decide +kernel
theorem ii_al_isEmpty : Cond.instanceMethod me_al_isEmpty.1 ∈ mTb ∧ Cond.selects me_al_isEmpty.1.cls me_al_isEmpty.1 me_al_isEmpty.1 ∈ mTb := ⟨(mm 699 (by decide +kernel) rfl), (mm 700 (by decide +kernel) rfl)⟩
theorem ca_sr_go : mCal me_sr_go := ⟨by decide +kernel, ⟨by decide, by decide⟩, by decide, (mm 708 (by decide +kernel) rfl), (mm 52 (by decide +kernel) rfl)⟩
theorem pa_sr_go : (parseMethodDescriptor me_sr_go.1.desc).map (fun d => d.parameters.length) = some 1 := by decide +kernel
theorem ii_sr_go : Cond.instanceMethod me_sr_go.1 ∈ mTb ∧ Cond.selects me_sr_go.1.cls me_sr_go.1 me_sr_go.1 ∈ mTb := ⟨(mm 706 (by decide +kernel) rfl), (mm 707 (by decide +kernel) rfl)⟩
theorem ca_sr_begin : mCal me_sr_begin := ⟨by decide +kernel, ⟨by decide, by decide⟩, by decide, (mm 712 (by decide +kernel) rfl), (mm 52 (by decide +kernel) rfl)⟩
theorem pa_sr_begin : (parseMethodDescriptor me_sr_begin.1.desc).map (fun d => d.parameters.length) = some 0 := by decide +kernel
theorem ii_sr_begin : Cond.instanceMethod me_sr_begin.1 ∈ mTb ∧ Cond.selects me_sr_begin.1.cls me_sr_begin.1 me_sr_begin.1 ∈ mTb := ⟨(mm 711 (by decide +kernel) rfl), (mm 9 (by decide +kernel) rfl)⟩
theorem ca_sr_lookAtRises : mCal me_sr_lookAtRises := ⟨by decide +kernel, ⟨by decide, by decide⟩, by decide, (mm 720 (by decide +kernel) rfl), (mm 52 (by decide +kernel) rfl)⟩
theorem pa_sr_lookAtRises : (parseMethodDescriptor me_sr_lookAtRises.1.desc).map (fun d => d.parameters.length) = some 2 := by decide +kernel
theorem ii_sr_lookAtRises : Cond.instanceMethod me_sr_lookAtRises.1 ∈ mTb ∧ Cond.selects me_sr_lookAtRises.1.cls me_sr_lookAtRises.1 me_sr_lookAtRises.1 ∈ mTb := ⟨(mm 719 (by decide +kernel) rfl), (mm 10 (by decide +kernel) rfl)⟩
theorem ca_sr_passMinute : mCal me_sr_passMinute := ⟨by decide +kernel, ⟨by decide, by decide⟩, by decide, (mm 727 (by decide +kernel) rfl), (mm 52 (by decide +kernel) rfl)⟩
theorem pa_sr_passMinute : (parseMethodDescriptor me_sr_passMinute.1.desc).map (fun d => d.parameters.length) = some 0 := by decide +kernel
theorem ii_sr_passMinute : Cond.instanceMethod me_sr_passMinute.1 ∈ mTb ∧ Cond.selects me_sr_passMinute.1.cls me_sr_passMinute.1 me_sr_passMinute.1 ∈ mTb := ⟨(mm 726 (by decide +kernel) rfl), (mm 11 (by decide +kernel) rfl)⟩
theorem ca_fn_most : mCal me_fn_most := ⟨by decide +kernel, ⟨by decide, by decide⟩, by decide, (mm 733 (by decide +kernel) rfl), (mm 47 (by decide +kernel) rfl)⟩
theorem pa_fn_most : (parseMethodDescriptor me_fn_most.1.desc).map (fun d => d.parameters.length) = some 0 := by decide +kernel
theorem ii_fn_most : Cond.instanceMethod me_fn_most.1 ∈ mTb ∧ Cond.selects me_fn_most.1.cls me_fn_most.1 me_fn_most.1 ∈ mTb := ⟨(mm 731 (by decide +kernel) rfl), (mm 732 (by decide +kernel) rfl)⟩
theorem ca_fn_pace : mCal me_fn_pace := ⟨by decide +kernel, ⟨by decide, by decide⟩, by decide, (mm 737 (by decide +kernel) rfl), (mm 47 (by decide +kernel) rfl)⟩
theorem pa_fn_pace : (parseMethodDescriptor me_fn_pace.1.desc).map (fun d => d.parameters.length) = some 1 := by decide +kernel
theorem ii_fn_pace : Cond.instanceMethod me_fn_pace.1 ∈ mTb ∧ Cond.selects me_fn_pace.1.cls me_fn_pace.1 me_fn_pace.1 ∈ mTb := ⟨(mm 735 (by decide +kernel) rfl), (mm 736 (by decide +kernel) rfl)⟩
theorem ca_fn_tasks : mCal me_fn_tasks := ⟨by decide +kernel, ⟨by decide, by decide⟩, by decide, (mm 741 (by decide +kernel) rfl), (mm 47 (by decide +kernel) rfl)⟩
theorem pa_fn_tasks : (parseMethodDescriptor me_fn_tasks.1.desc).map (fun d => d.parameters.length) = some 0 := by decide +kernel
theorem ii_fn_tasks : Cond.instanceMethod me_fn_tasks.1 ∈ mTb ∧ Cond.selects me_fn_tasks.1.cls me_fn_tasks.1 me_fn_tasks.1 ∈ mTb := ⟨(mm 739 (by decide +kernel) rfl), (mm 740 (by decide +kernel) rfl)⟩
theorem ca_tl_build : mCal me_tl_build := ⟨by decide +kernel, ⟨by decide, by decide⟩, by decide, (mm 745 (by decide +kernel) rfl), (mm 53 (by decide +kernel) rfl)⟩
theorem pa_tl_build : (parseMethodDescriptor me_tl_build.1.desc).map (fun d => d.parameters.length) = some 0 := by decide +kernel
theorem ii_tl_build : Cond.instanceMethod me_tl_build.1 ∈ mTb ∧ Cond.selects me_tl_build.1.cls me_tl_build.1 me_tl_build.1 ∈ mTb := ⟨(mm 743 (by decide +kernel) rfl), (mm 744 (by decide +kernel) rfl)⟩
theorem ca_tl_addChange : mCal me_tl_addChange := ⟨by decide +kernel, ⟨by decide, by decide⟩, by decide, (mm 752 (by decide +kernel) rfl), (mm 53 (by decide +kernel) rfl)⟩
theorem pa_tl_addChange : (parseMethodDescriptor me_tl_addChange.1.desc).map (fun d => d.parameters.length) = some 3 := by decide +kernel
theorem ii_tl_addChange : Cond.instanceMethod me_tl_addChange.1 ∈ mTb ∧ Cond.selects me_tl_addChange.1.cls me_tl_addChange.1 me_tl_addChange.1 ∈ mTb := ⟨(mm 751 (by decide +kernel) rfl), (mm 12 (by decide +kernel) rfl)⟩
theorem ca_fn_task : mCal me_fn_task := ⟨by decide +kernel, ⟨by decide, by decide⟩, by decide, (mm 758 (by decide +kernel) rfl), (mm 47 (by decide +kernel) rfl)⟩
theorem pa_fn_task : (parseMethodDescriptor me_fn_task.1.desc).map (fun d => d.parameters.length) = some 2 := by decide +kernel
theorem ii_fn_task : Cond.instanceMethod me_fn_task.1 ∈ mTb ∧ Cond.selects me_fn_task.1.cls me_fn_task.1 me_fn_task.1 ∈ mTb := ⟨(mm 756 (by decide +kernel) rfl), (mm 757 (by decide +kernel) rfl)⟩
theorem ca_tl_tell : mCal me_tl_tell := ⟨by decide +kernel, ⟨by decide, by decide⟩, by decide, (mm 762 (by decide +kernel) rfl), (mm 53 (by decide +kernel) rfl)⟩
theorem pa_tl_tell : (parseMethodDescriptor me_tl_tell.1.desc).map (fun d => d.parameters.length) = some 2 := by decide +kernel
theorem ii_tl_tell : Cond.instanceMethod me_tl_tell.1 ∈ mTb ∧ Cond.selects me_tl_tell.1.cls me_tl_tell.1 me_tl_tell.1 ∈ mTb := ⟨(mm 760 (by decide +kernel) rfl), (mm 761 (by decide +kernel) rfl)⟩
theorem ca_fn_boys : mCal me_fn_boys := ⟨by decide +kernel, ⟨by decide, by decide⟩, by decide, (mm 766 (by decide +kernel) rfl), (mm 47 (by decide +kernel) rfl)⟩
theorem pa_fn_boys : (parseMethodDescriptor me_fn_boys.1.desc).map (fun d => d.parameters.length) = some 0 := by decide +kernel
theorem ii_fn_boys : Cond.instanceMethod me_fn_boys.1 ∈ mTb ∧ Cond.selects me_fn_boys.1.cls me_fn_boys.1 me_fn_boys.1 ∈ mTb := ⟨(mm 764 (by decide +kernel) rfl), (mm 765 (by decide +kernel) rfl)⟩
theorem ca_tl_fewestBoys : mCal me_tl_fewestBoys := ⟨by decide +kernel, ⟨by decide, by decide⟩, by decide, (mm 770 (by decide +kernel) rfl), (mm 53 (by decide +kernel) rfl)⟩
theorem pa_tl_fewestBoys : (parseMethodDescriptor me_tl_fewestBoys.1.desc).map (fun d => d.parameters.length) = some 1 := by decide +kernel
theorem ii_tl_fewestBoys : Cond.instanceMethod me_tl_fewestBoys.1 ∈ mTb ∧ Cond.selects me_tl_fewestBoys.1.cls me_tl_fewestBoys.1 me_tl_fewestBoys.1 ∈ mTb := ⟨(mm 768 (by decide +kernel) rfl), (mm 769 (by decide +kernel) rfl)⟩
theorem ca_tl_mostApartAhead : mCal me_tl_mostApartAhead := ⟨by decide +kernel, ⟨by decide, by decide⟩, by decide, (mm 774 (by decide +kernel) rfl), (mm 53 (by decide +kernel) rfl)⟩
theorem pa_tl_mostApartAhead : (parseMethodDescriptor me_tl_mostApartAhead.1.desc).map (fun d => d.parameters.length) = some 2 := by decide +kernel
theorem ii_tl_mostApartAhead : Cond.instanceMethod me_tl_mostApartAhead.1 ∈ mTb ∧ Cond.selects me_tl_mostApartAhead.1.cls me_tl_mostApartAhead.1 me_tl_mostApartAhead.1 ∈ mTb := ⟨(mm 773 (by decide +kernel) rfl), (mm 13 (by decide +kernel) rfl)⟩
theorem ca_fn_gauge : mCal me_fn_gauge := ⟨by decide +kernel, ⟨by decide, by decide⟩, by decide, (mm 782 (by decide +kernel) rfl), (mm 47 (by decide +kernel) rfl)⟩
theorem pa_fn_gauge : (parseMethodDescriptor me_fn_gauge.1.desc).map (fun d => d.parameters.length) = some 2 := by decide +kernel
theorem ii_fn_gauge : Cond.instanceMethod me_fn_gauge.1 ∈ mTb ∧ Cond.selects me_fn_gauge.1.cls me_fn_gauge.1 me_fn_gauge.1 ∈ mTb := ⟨(mm 780 (by decide +kernel) rfl), (mm 781 (by decide +kernel) rfl)⟩
theorem ca_fn_tol : mCal me_fn_tol := ⟨by decide +kernel, ⟨by decide, by decide⟩, by decide, (mm 786 (by decide +kernel) rfl), (mm 47 (by decide +kernel) rfl)⟩
theorem pa_fn_tol : (parseMethodDescriptor me_fn_tol.1.desc).map (fun d => d.parameters.length) = some 1 := by decide +kernel
theorem ii_fn_tol : Cond.instanceMethod me_fn_tol.1 ∈ mTb ∧ Cond.selects me_fn_tol.1.cls me_fn_tol.1 me_fn_tol.1 ∈ mTb := ⟨(mm 784 (by decide +kernel) rfl), (mm 785 (by decide +kernel) rfl)⟩
theorem ca_fn_explain : mCal me_fn_explain := ⟨by decide +kernel, ⟨by decide, by decide⟩, by decide, (mm 790 (by decide +kernel) rfl), (mm 47 (by decide +kernel) rfl)⟩
theorem pa_fn_explain : (parseMethodDescriptor me_fn_explain.1.desc).map (fun d => d.parameters.length) = some 0 := by decide +kernel
theorem ii_fn_explain : Cond.instanceMethod me_fn_explain.1 ∈ mTb ∧ Cond.selects me_fn_explain.1.cls me_fn_explain.1 me_fn_explain.1 ∈ mTb := ⟨(mm 788 (by decide +kernel) rfl), (mm 789 (by decide +kernel) rfl)⟩
theorem ca_lk_seek : mCal me_lk_seek := ⟨by decide +kernel, ⟨by decide, by decide⟩, by decide, (mm 794 (by decide +kernel) rfl), (mm 54 (by decide +kernel) rfl)⟩
theorem pa_lk_seek : (parseMethodDescriptor me_lk_seek.1.desc).map (fun d => d.parameters.length) = some 0 := by decide +kernel
theorem ii_lk_seek : Cond.instanceMethod me_lk_seek.1 ∈ mTb ∧ Cond.selects me_lk_seek.1.cls me_lk_seek.1 me_lk_seek.1 ∈ mTb := ⟨(mm 792 (by decide +kernel) rfl), (mm 793 (by decide +kernel) rfl)⟩
theorem ca_lk_forgetFound : mCal me_lk_forgetFound := ⟨by decide +kernel, ⟨by decide, by decide⟩, by decide, (mm 798 (by decide +kernel) rfl), (mm 54 (by decide +kernel) rfl)⟩
theorem pa_lk_forgetFound : (parseMethodDescriptor me_lk_forgetFound.1.desc).map (fun d => d.parameters.length) = some 0 := by decide +kernel
theorem ii_lk_forgetFound : Cond.instanceMethod me_lk_forgetFound.1 ∈ mTb ∧ Cond.selects me_lk_forgetFound.1.cls me_lk_forgetFound.1 me_lk_forgetFound.1 ∈ mTb := ⟨(mm 797 (by decide +kernel) rfl), (mm 14 (by decide +kernel) rfl)⟩
theorem ca_lk_isAnyRead : mCal me_lk_isAnyRead := ⟨by decide +kernel, ⟨by decide, by decide⟩, by decide, (mm 802 (by decide +kernel) rfl), (mm 54 (by decide +kernel) rfl)⟩
theorem pa_lk_isAnyRead : (parseMethodDescriptor me_lk_isAnyRead.1.desc).map (fun d => d.parameters.length) = some 0 := by decide +kernel
theorem ii_lk_isAnyRead : Cond.instanceMethod me_lk_isAnyRead.1 ∈ mTb ∧ Cond.selects me_lk_isAnyRead.1.cls me_lk_isAnyRead.1 me_lk_isAnyRead.1 ∈ mTb := ⟨(mm 801 (by decide +kernel) rfl), (mm 15 (by decide +kernel) rfl)⟩
theorem ca_lk_misses : mCal me_lk_misses := ⟨by decide +kernel, ⟨by decide, by decide⟩, by decide, (mm 809 (by decide +kernel) rfl), (mm 54 (by decide +kernel) rfl)⟩
theorem pa_lk_misses : (parseMethodDescriptor me_lk_misses.1.desc).map (fun d => d.parameters.length) = some 0 := by decide +kernel
theorem ii_lk_misses : Cond.instanceMethod me_lk_misses.1 ∈ mTb ∧ Cond.selects me_lk_misses.1.cls me_lk_misses.1 me_lk_misses.1 ∈ mTb := ⟨(mm 808 (by decide +kernel) rfl), (mm 16 (by decide +kernel) rfl)⟩
theorem ca_lk_explainsAlone : mCal me_lk_explainsAlone := ⟨by decide +kernel, ⟨by decide, by decide⟩, by decide, (mm 816 (by decide +kernel) rfl), (mm 54 (by decide +kernel) rfl)⟩
theorem pa_lk_explainsAlone : (parseMethodDescriptor me_lk_explainsAlone.1.desc).map (fun d => d.parameters.length) = some 1 := by decide +kernel
theorem ii_lk_explainsAlone : Cond.instanceMethod me_lk_explainsAlone.1 ∈ mTb ∧ Cond.selects me_lk_explainsAlone.1.cls me_lk_explainsAlone.1 me_lk_explainsAlone.1 ∈ mTb := ⟨(mm 815 (by decide +kernel) rfl), (mm 17 (by decide +kernel) rfl)⟩
theorem ca_lk_explainTogether : mCal me_lk_explainTogether := ⟨by decide +kernel, ⟨by decide, by decide⟩, by decide, (mm 820 (by decide +kernel) rfl), (mm 54 (by decide +kernel) rfl)⟩
theorem pa_lk_explainTogether : (parseMethodDescriptor me_lk_explainTogether.1.desc).map (fun d => d.parameters.length) = some 2 := by decide +kernel
theorem ii_lk_explainTogether : Cond.instanceMethod me_lk_explainTogether.1 ∈ mTb ∧ Cond.selects me_lk_explainTogether.1.cls me_lk_explainTogether.1 me_lk_explainTogether.1 ∈ mTb := ⟨(mm 819 (by decide +kernel) rfl), (mm 18 (by decide +kernel) rfl)⟩
theorem ca_lk_keepTwo : mCal me_lk_keepTwo := ⟨by decide +kernel, ⟨by decide, by decide⟩, by decide, (mm 824 (by decide +kernel) rfl), (mm 54 (by decide +kernel) rfl)⟩
theorem pa_lk_keepTwo : (parseMethodDescriptor me_lk_keepTwo.1.desc).map (fun d => d.parameters.length) = some 2 := by decide +kernel
theorem ii_lk_keepTwo : Cond.instanceMethod me_lk_keepTwo.1 ∈ mTb ∧ Cond.selects me_lk_keepTwo.1.cls me_lk_keepTwo.1 me_lk_keepTwo.1 ∈ mTb := ⟨(mm 823 (by decide +kernel) rfl), (mm 19 (by decide +kernel) rfl)⟩
theorem ca_fn_explained : mCal me_fn_explained := ⟨by decide +kernel, ⟨by decide, by decide⟩, by decide, (mm 828 (by decide +kernel) rfl), (mm 47 (by decide +kernel) rfl)⟩
theorem pa_fn_explained : (parseMethodDescriptor me_fn_explained.1.desc).map (fun d => d.parameters.length) = some 1 := by decide +kernel
theorem ii_fn_explained : Cond.instanceMethod me_fn_explained.1 ∈ mTb ∧ Cond.selects me_fn_explained.1.cls me_fn_explained.1 me_fn_explained.1 ∈ mTb := ⟨(mm 826 (by decide +kernel) rfl), (mm 827 (by decide +kernel) rfl)⟩
theorem ca_fn_rivals : mCal me_fn_rivals := ⟨by decide +kernel, ⟨by decide, by decide⟩, by decide, (mm 832 (by decide +kernel) rfl), (mm 47 (by decide +kernel) rfl)⟩
theorem pa_fn_rivals : (parseMethodDescriptor me_fn_rivals.1.desc).map (fun d => d.parameters.length) = some 0 := by decide +kernel
theorem ii_fn_rivals : Cond.instanceMethod me_fn_rivals.1 ∈ mTb ∧ Cond.selects me_fn_rivals.1.cls me_fn_rivals.1 me_fn_rivals.1 ∈ mTb := ⟨(mm 830 (by decide +kernel) rfl), (mm 831 (by decide +kernel) rfl)⟩
theorem ca_lk_howManyAlone : mCal me_lk_howManyAlone := ⟨by decide +kernel, ⟨by decide, by decide⟩, by decide, (mm 836 (by decide +kernel) rfl), (mm 54 (by decide +kernel) rfl)⟩
theorem pa_lk_howManyAlone : (parseMethodDescriptor me_lk_howManyAlone.1.desc).map (fun d => d.parameters.length) = some 0 := by decide +kernel
theorem ii_lk_howManyAlone : Cond.instanceMethod me_lk_howManyAlone.1 ∈ mTb ∧ Cond.selects me_lk_howManyAlone.1.cls me_lk_howManyAlone.1 me_lk_howManyAlone.1 ∈ mTb := ⟨(mm 834 (by decide +kernel) rfl), (mm 835 (by decide +kernel) rfl)⟩
theorem ca_fn_empty : mCal me_fn_empty := ⟨by decide +kernel, ⟨by decide, by decide⟩, by decide, (mm 840 (by decide +kernel) rfl), (mm 47 (by decide +kernel) rfl)⟩
theorem pa_fn_empty : (parseMethodDescriptor me_fn_empty.1.desc).map (fun d => d.parameters.length) = some 1 := by decide +kernel
theorem ii_fn_empty : Cond.instanceMethod me_fn_empty.1 ∈ mTb ∧ Cond.selects me_fn_empty.1.cls me_fn_empty.1 me_fn_empty.1 ∈ mTb := ⟨(mm 838 (by decide +kernel) rfl), (mm 839 (by decide +kernel) rfl)⟩
theorem ca_ga_mayBeEmptied : mCal me_ga_mayBeEmptied := ⟨by decide +kernel, ⟨by decide, by decide⟩, by decide, (mm 844 (by decide +kernel) rfl), (mm 48 (by decide +kernel) rfl)⟩
theorem pa_ga_mayBeEmptied : (parseMethodDescriptor me_ga_mayBeEmptied.1.desc).map (fun d => d.parameters.length) = some 1 := by decide +kernel
theorem ii_ga_mayBeEmptied : Cond.instanceMethod me_ga_mayBeEmptied.1 ∈ mTb ∧ Cond.selects me_ga_mayBeEmptied.1.cls me_ga_mayBeEmptied.1 me_ga_mayBeEmptied.1 ∈ mTb := ⟨(mm 842 (by decide +kernel) rfl), (mm 843 (by decide +kernel) rfl)⟩
theorem ca_fn_fill : mCal me_fn_fill := ⟨by decide +kernel, ⟨by decide, by decide⟩, by decide, (mm 848 (by decide +kernel) rfl), (mm 47 (by decide +kernel) rfl)⟩
theorem pa_fn_fill : (parseMethodDescriptor me_fn_fill.1.desc).map (fun d => d.parameters.length) = some 1 := by decide +kernel
theorem ii_fn_fill : Cond.instanceMethod me_fn_fill.1 ∈ mTb ∧ Cond.selects me_fn_fill.1.cls me_fn_fill.1 me_fn_fill.1 ∈ mTb := ⟨(mm 846 (by decide +kernel) rfl), (mm 847 (by decide +kernel) rfl)⟩
theorem ca_fn_order : mCal me_fn_order := ⟨by decide +kernel, ⟨by decide, by decide⟩, by decide, (mm 852 (by decide +kernel) rfl), (mm 47 (by decide +kernel) rfl)⟩
theorem pa_fn_order : (parseMethodDescriptor me_fn_order.1.desc).map (fun d => d.parameters.length) = some 1 := by decide +kernel
theorem ii_fn_order : Cond.instanceMethod me_fn_order.1 ∈ mTb ∧ Cond.selects me_fn_order.1.cls me_fn_order.1 me_fn_order.1 ∈ mTb := ⟨(mm 850 (by decide +kernel) rfl), (mm 851 (by decide +kernel) rfl)⟩
theorem ca_ga_jointInOrder : mCal me_ga_jointInOrder := ⟨by decide +kernel, ⟨by decide, by decide⟩, by decide, (mm 856 (by decide +kernel) rfl), (mm 48 (by decide +kernel) rfl)⟩
theorem pa_ga_jointInOrder : (parseMethodDescriptor me_ga_jointInOrder.1.desc).map (fun d => d.parameters.length) = some 1 := by decide +kernel
theorem ii_ga_jointInOrder : Cond.instanceMethod me_ga_jointInOrder.1 ∈ mTb ∧ Cond.selects me_ga_jointInOrder.1.cls me_ga_jointInOrder.1 me_ga_jointInOrder.1 ∈ mTb := ⟨(mm 854 (by decide +kernel) rfl), (mm 855 (by decide +kernel) rfl)⟩
theorem ca_ga_beginOrder : mCal me_ga_beginOrder := ⟨by decide +kernel, ⟨by decide, by decide⟩, by decide, (mm 860 (by decide +kernel) rfl), (mm 48 (by decide +kernel) rfl)⟩
theorem pa_ga_beginOrder : (parseMethodDescriptor me_ga_beginOrder.1.desc).map (fun d => d.parameters.length) = some 0 := by decide +kernel
theorem ii_ga_beginOrder : Cond.instanceMethod me_ga_beginOrder.1 ∈ mTb ∧ Cond.selects me_ga_beginOrder.1.cls me_ga_beginOrder.1 me_ga_beginOrder.1 ∈ mTb := ⟨(mm 859 (by decide +kernel) rfl), (mm 20 (by decide +kernel) rfl)⟩
theorem ca_ga_nextInOrder : mCal me_ga_nextInOrder := ⟨by decide +kernel, ⟨by decide, by decide⟩, by decide, (mm 864 (by decide +kernel) rfl), (mm 48 (by decide +kernel) rfl)⟩
theorem pa_ga_nextInOrder : (parseMethodDescriptor me_ga_nextInOrder.1.desc).map (fun d => d.parameters.length) = some 0 := by decide +kernel
theorem ii_ga_nextInOrder : Cond.instanceMethod me_ga_nextInOrder.1 ∈ mTb ∧ Cond.selects me_ga_nextInOrder.1.cls me_ga_nextInOrder.1 me_ga_nextInOrder.1 ∈ mTb := ⟨(mm 863 (by decide +kernel) rfl), (mm 21 (by decide +kernel) rfl)⟩
theorem ca_fn_tankOf : mCal me_fn_tankOf := ⟨by decide +kernel, ⟨by decide, by decide⟩, by decide, (mm 868 (by decide +kernel) rfl), (mm 47 (by decide +kernel) rfl)⟩
theorem pa_fn_tankOf : (parseMethodDescriptor me_fn_tankOf.1.desc).map (fun d => d.parameters.length) = some 2 := by decide +kernel
theorem ii_fn_tankOf : Cond.instanceMethod me_fn_tankOf.1 ∈ mTb ∧ Cond.selects me_fn_tankOf.1.cls me_fn_tankOf.1 me_fn_tankOf.1 ∈ mTb := ⟨(mm 866 (by decide +kernel) rfl), (mm 867 (by decide +kernel) rfl)⟩
theorem ca_fn_jointOf : mCal me_fn_jointOf := ⟨by decide +kernel, ⟨by decide, by decide⟩, by decide, (mm 873 (by decide +kernel) rfl), (mm 47 (by decide +kernel) rfl)⟩
theorem pa_fn_jointOf : (parseMethodDescriptor me_fn_jointOf.1.desc).map (fun d => d.parameters.length) = some 2 := by decide +kernel
theorem ii_fn_jointOf : Cond.instanceMethod me_fn_jointOf.1 ∈ mTb ∧ Cond.selects me_fn_jointOf.1.cls me_fn_jointOf.1 me_fn_jointOf.1 ∈ mTb := ⟨(mm 871 (by decide +kernel) rfl), (mm 872 (by decide +kernel) rfl)⟩
theorem ca_fn_count : mCal me_fn_count := ⟨by decide +kernel, ⟨by decide, by decide⟩, by decide, (mm 878 (by decide +kernel) rfl), (mm 47 (by decide +kernel) rfl)⟩
theorem pa_fn_count : (parseMethodDescriptor me_fn_count.1.desc).map (fun d => d.parameters.length) = some 1 := by decide +kernel
theorem ii_fn_count : Cond.instanceMethod me_fn_count.1 ∈ mTb ∧ Cond.selects me_fn_count.1.cls me_fn_count.1 me_fn_count.1 ∈ mTb := ⟨(mm 876 (by decide +kernel) rfl), (mm 877 (by decide +kernel) rfl)⟩
theorem ca_it_bitCount : mCal me_it_bitCount := ⟨by decide +kernel, ⟨by decide, by decide⟩, by decide, (mm 881 (by decide +kernel) rfl), (mm 66 (by decide +kernel) rfl)⟩
theorem pa_it_bitCount : (parseMethodDescriptor me_it_bitCount.1.desc).map (fun d => d.parameters.length) = some 1 := by decide +kernel
theorem is_it_bitCount : Cond.static me_it_bitCount.1 ∈ mTb := (mm 880 (by decide +kernel) rfl)
theorem ca_ga_emptyPipes : mCal me_ga_emptyPipes := ⟨by decide +kernel, ⟨by decide, by decide⟩, by decide, (mm 888 (by decide +kernel) rfl), (mm 48 (by decide +kernel) rfl)⟩
theorem pa_ga_emptyPipes : (parseMethodDescriptor me_ga_emptyPipes.1.desc).map (fun d => d.parameters.length) = some 0 := by decide +kernel
theorem ii_ga_emptyPipes : Cond.instanceMethod me_ga_emptyPipes.1 ∈ mTb ∧ Cond.selects me_ga_emptyPipes.1.cls me_ga_emptyPipes.1 me_ga_emptyPipes.1 ∈ mTb := ⟨(mm 886 (by decide +kernel) rfl), (mm 887 (by decide +kernel) rfl)⟩
theorem ca_fn_refusalsOf : mCal me_fn_refusalsOf := ⟨by decide +kernel, ⟨by decide, by decide⟩, by decide, (mm 892 (by decide +kernel) rfl), (mm 47 (by decide +kernel) rfl)⟩
theorem pa_fn_refusalsOf : (parseMethodDescriptor me_fn_refusalsOf.1.desc).map (fun d => d.parameters.length) = some 1 := by decide +kernel
theorem ii_fn_refusalsOf : Cond.instanceMethod me_fn_refusalsOf.1 ∈ mTb ∧ Cond.selects me_fn_refusalsOf.1.cls me_fn_refusalsOf.1 me_fn_refusalsOf.1 ∈ mTb := ⟨(mm 891 (by decide +kernel) rfl), (mm 22 (by decide +kernel) rfl)⟩
theorem ca_fm_init : mCal me_fm_init := ⟨by decide +kernel, ⟨by decide, by decide⟩, by decide, (mm 897 (by decide +kernel) rfl), (mm 55 (by decide +kernel) rfl)⟩
theorem pa_fm_init : (parseMethodDescriptor me_fm_init.1.desc).map (fun d => d.parameters.length) = some 0 := by decide +kernel
theorem ii_fm_init : Cond.instanceMethod me_fm_init.1 ∈ mTb ∧ me_fm_init.1.name = "<init>" ∧ me_fm_init.2.2.2 = none := ⟨(mm 896 (by decide +kernel) rfl), rfl, rfl⟩
theorem ca_fm_tank : mCal me_fm_tank := ⟨by decide +kernel, ⟨by decide, by decide⟩, by decide, (mm 1093 (by decide +kernel) rfl), (mm 55 (by decide +kernel) rfl)⟩
theorem pa_fm_tank : (parseMethodDescriptor me_fm_tank.1.desc).map (fun d => d.parameters.length) = some 4 := by decide +kernel
theorem ii_fm_tank : Cond.instanceMethod me_fm_tank.1 ∈ mTb ∧ Cond.selects me_fm_tank.1.cls me_fm_tank.1 me_fm_tank.1 ∈ mTb := ⟨(mm 1091 (by decide +kernel) rfl), (mm 1092 (by decide +kernel) rfl)⟩
theorem ca_fm_refuse : mCal me_fm_refuse := ⟨by decide +kernel, ⟨by decide, by decide⟩, by decide, (mm 1097 (by decide +kernel) rfl), (mm 55 (by decide +kernel) rfl)⟩
theorem pa_fm_refuse : (parseMethodDescriptor me_fm_refuse.1.desc).map (fun d => d.parameters.length) = some 1 := by decide +kernel
theorem ii_fm_refuse : Cond.instanceMethod me_fm_refuse.1 ∈ mTb ∧ Cond.selects me_fm_refuse.1.cls me_fm_refuse.1 me_fm_refuse.1 ∈ mTb := ⟨(mm 1096 (by decide +kernel) rfl), (mm 23 (by decide +kernel) rfl)⟩
theorem ca_fm_set : mCal me_fm_set := ⟨by decide +kernel, ⟨by decide, by decide⟩, by decide, (mm 1101 (by decide +kernel) rfl), (mm 55 (by decide +kernel) rfl)⟩
theorem pa_fm_set : (parseMethodDescriptor me_fm_set.1.desc).map (fun d => d.parameters.length) = some 3 := by decide +kernel
theorem ii_fm_set : Cond.instanceMethod me_fm_set.1 ∈ mTb ∧ Cond.selects me_fm_set.1.cls me_fm_set.1 me_fm_set.1 ∈ mTb := ⟨(mm 1099 (by decide +kernel) rfl), (mm 1100 (by decide +kernel) rfl)⟩
theorem ca_fm_isIn : mCal me_fm_isIn := ⟨by decide +kernel, ⟨by decide, by decide⟩, by decide, (mm 1104 (by decide +kernel) rfl), (mm 55 (by decide +kernel) rfl)⟩
theorem pa_fm_isIn : (parseMethodDescriptor me_fm_isIn.1.desc).map (fun d => d.parameters.length) = some 2 := by decide +kernel
theorem is_fm_isIn : Cond.static me_fm_isIn.1 ∈ mTb := (mm 1103 (by decide +kernel) rfl)
theorem ca_fm_wrong : mCal me_fm_wrong := ⟨by decide +kernel, ⟨by decide, by decide⟩, by decide, (mm 1107 (by decide +kernel) rfl), (mm 55 (by decide +kernel) rfl)⟩
theorem pa_fm_wrong : (parseMethodDescriptor me_fm_wrong.1.desc).map (fun d => d.parameters.length) = some 3 := by decide +kernel
theorem is_fm_wrong : Cond.static me_fm_wrong.1 ∈ mTb := (mm 1106 (by decide +kernel) rfl)
theorem ca_fm_changes : mCal me_fm_changes := ⟨by decide +kernel, ⟨by decide, by decide⟩, by decide, (mm 1111 (by decide +kernel) rfl), (mm 55 (by decide +kernel) rfl)⟩
theorem pa_fm_changes : (parseMethodDescriptor me_fm_changes.1.desc).map (fun d => d.parameters.length) = some 0 := by decide +kernel
theorem ii_fm_changes : Cond.instanceMethod me_fm_changes.1 ∈ mTb ∧ Cond.selects me_fm_changes.1.cls me_fm_changes.1 me_fm_changes.1 ∈ mTb := ⟨(mm 1110 (by decide +kernel) rfl), (mm 24 (by decide +kernel) rfl)⟩
theorem ca_fm_joint : mCal me_fm_joint := ⟨by decide +kernel, ⟨by decide, by decide⟩, by decide, (mm 1115 (by decide +kernel) rfl), (mm 55 (by decide +kernel) rfl)⟩
theorem pa_fm_joint : (parseMethodDescriptor me_fm_joint.1.desc).map (fun d => d.parameters.length) = some 5 := by decide +kernel
theorem ii_fm_joint : Cond.instanceMethod me_fm_joint.1 ∈ mTb ∧ Cond.selects me_fm_joint.1.cls me_fm_joint.1 me_fm_joint.1 ∈ mTb := ⟨(mm 1113 (by decide +kernel) rfl), (mm 1114 (by decide +kernel) rfl)⟩
theorem ca_fm_jet : mCal me_fm_jet := ⟨by decide +kernel, ⟨by decide, by decide⟩, by decide, (mm 1119 (by decide +kernel) rfl), (mm 55 (by decide +kernel) rfl)⟩
theorem pa_fm_jet : (parseMethodDescriptor me_fm_jet.1.desc).map (fun d => d.parameters.length) = some 2 := by decide +kernel
theorem ii_fm_jet : Cond.instanceMethod me_fm_jet.1 ∈ mTb ∧ Cond.selects me_fm_jet.1.cls me_fm_jet.1 me_fm_jet.1 ∈ mTb := ⟨(mm 1117 (by decide +kernel) rfl), (mm 1118 (by decide +kernel) rfl)⟩
theorem ca_fm_isJoint : mCal me_fm_isJoint := ⟨by decide +kernel, ⟨by decide, by decide⟩, by decide, (mm 1123 (by decide +kernel) rfl), (mm 55 (by decide +kernel) rfl)⟩
theorem pa_fm_isJoint : (parseMethodDescriptor me_fm_isJoint.1.desc).map (fun d => d.parameters.length) = some 1 := by decide +kernel
theorem ii_fm_isJoint : Cond.instanceMethod me_fm_isJoint.1 ∈ mTb ∧ Cond.selects me_fm_isJoint.1.cls me_fm_isJoint.1 me_fm_isJoint.1 ∈ mTb := ⟨(mm 1122 (by decide +kernel) rfl), (mm 25 (by decide +kernel) rfl)⟩
theorem ca_fm_play : mCal me_fm_play := ⟨by decide +kernel, ⟨by decide, by decide⟩, by decide, (mm 1127 (by decide +kernel) rfl), (mm 55 (by decide +kernel) rfl)⟩
theorem pa_fm_play : (parseMethodDescriptor me_fm_play.1.desc).map (fun d => d.parameters.length) = some 2 := by decide +kernel
theorem ii_fm_play : Cond.instanceMethod me_fm_play.1 ∈ mTb ∧ Cond.selects me_fm_play.1.cls me_fm_play.1 me_fm_play.1 ∈ mTb := ⟨(mm 1125 (by decide +kernel) rfl), (mm 1126 (by decide +kernel) rfl)⟩
theorem ca_fm_isJet : mCal me_fm_isJet := ⟨by decide +kernel, ⟨by decide, by decide⟩, by decide, (mm 1131 (by decide +kernel) rfl), (mm 55 (by decide +kernel) rfl)⟩
theorem pa_fm_isJet : (parseMethodDescriptor me_fm_isJet.1.desc).map (fun d => d.parameters.length) = some 1 := by decide +kernel
theorem ii_fm_isJet : Cond.instanceMethod me_fm_isJet.1 ∈ mTb ∧ Cond.selects me_fm_isJet.1.cls me_fm_isJet.1 me_fm_isJet.1 ∈ mTb := ⟨(mm 1130 (by decide +kernel) rfl), (mm 26 (by decide +kernel) rfl)⟩
theorem ca_fm_isCut : mCal me_fm_isCut := ⟨by decide +kernel, ⟨by decide, by decide⟩, by decide, (mm 1135 (by decide +kernel) rfl), (mm 55 (by decide +kernel) rfl)⟩
theorem pa_fm_isCut : (parseMethodDescriptor me_fm_isCut.1.desc).map (fun d => d.parameters.length) = some 1 := by decide +kernel
theorem ii_fm_isCut : Cond.instanceMethod me_fm_isCut.1 ∈ mTb ∧ Cond.selects me_fm_isCut.1.cls me_fm_isCut.1 me_fm_isCut.1 ∈ mTb := ⟨(mm 1134 (by decide +kernel) rfl), (mm 27 (by decide +kernel) rfl)⟩
theorem ca_fm_pipe : mCal me_fm_pipe := ⟨by decide +kernel, ⟨by decide, by decide⟩, by decide, (mm 1139 (by decide +kernel) rfl), (mm 55 (by decide +kernel) rfl)⟩
theorem pa_fm_pipe : (parseMethodDescriptor me_fm_pipe.1.desc).map (fun d => d.parameters.length) = some 2 := by decide +kernel
theorem ii_fm_pipe : Cond.instanceMethod me_fm_pipe.1 ∈ mTb ∧ Cond.selects me_fm_pipe.1.cls me_fm_pipe.1 me_fm_pipe.1 ∈ mTb := ⟨(mm 1137 (by decide +kernel) rfl), (mm 1138 (by decide +kernel) rfl)⟩
theorem ca_fm_leak : mCal me_fm_leak := ⟨by decide +kernel, ⟨by decide, by decide⟩, by decide, (mm 1143 (by decide +kernel) rfl), (mm 55 (by decide +kernel) rfl)⟩
theorem pa_fm_leak : (parseMethodDescriptor me_fm_leak.1.desc).map (fun d => d.parameters.length) = some 2 := by decide +kernel
theorem ii_fm_leak : Cond.instanceMethod me_fm_leak.1 ∈ mTb ∧ Cond.selects me_fm_leak.1.cls me_fm_leak.1 me_fm_leak.1 ∈ mTb := ⟨(mm 1141 (by decide +kernel) rfl), (mm 1142 (by decide +kernel) rfl)⟩
theorem ca_fm_flow : mCal me_fm_flow := ⟨by decide +kernel, ⟨by decide, by decide⟩, by decide, (mm 1147 (by decide +kernel) rfl), (mm 55 (by decide +kernel) rfl)⟩
theorem pa_fm_flow : (parseMethodDescriptor me_fm_flow.1.desc).map (fun d => d.parameters.length) = some 1 := by decide +kernel
theorem ii_fm_flow : Cond.instanceMethod me_fm_flow.1 ∈ mTb ∧ Cond.selects me_fm_flow.1.cls me_fm_flow.1 me_fm_flow.1 ∈ mTb := ⟨(mm 1145 (by decide +kernel) rfl), (mm 1146 (by decide +kernel) rfl)⟩
theorem ca_fm_sees : mCal me_fm_sees := ⟨by decide +kernel, ⟨by decide, by decide⟩, by decide, (mm 1151 (by decide +kernel) rfl), (mm 55 (by decide +kernel) rfl)⟩
theorem pa_fm_sees : (parseMethodDescriptor me_fm_sees.1.desc).map (fun d => d.parameters.length) = some 0 := by decide +kernel
theorem ii_fm_sees : Cond.instanceMethod me_fm_sees.1 ∈ mTb ∧ Cond.selects me_fm_sees.1.cls me_fm_sees.1 me_fm_sees.1 ∈ mTb := ⟨(mm 1150 (by decide +kernel) rfl), (mm 28 (by decide +kernel) rfl)⟩
theorem ca_fm_asItIs : mCal me_fm_asItIs := ⟨by decide +kernel, ⟨by decide, by decide⟩, by decide, (mm 1155 (by decide +kernel) rfl), (mm 55 (by decide +kernel) rfl)⟩
theorem pa_fm_asItIs : (parseMethodDescriptor me_fm_asItIs.1.desc).map (fun d => d.parameters.length) = some 0 := by decide +kernel
theorem ii_fm_asItIs : Cond.instanceMethod me_fm_asItIs.1 ∈ mTb ∧ Cond.selects me_fm_asItIs.1.cls me_fm_asItIs.1 me_fm_asItIs.1 ∈ mTb := ⟨(mm 1154 (by decide +kernel) rfl), (mm 29 (by decide +kernel) rfl)⟩
theorem ca_fm_runs : mCal me_fm_runs := ⟨by decide +kernel, ⟨by decide, by decide⟩, by decide, (mm 1159 (by decide +kernel) rfl), (mm 55 (by decide +kernel) rfl)⟩
theorem pa_fm_runs : (parseMethodDescriptor me_fm_runs.1.desc).map (fun d => d.parameters.length) = some 0 := by decide +kernel
theorem ii_fm_runs : Cond.instanceMethod me_fm_runs.1 ∈ mTb ∧ Cond.selects me_fm_runs.1.cls me_fm_runs.1 me_fm_runs.1 ∈ mTb := ⟨(mm 1158 (by decide +kernel) rfl), (mm 30 (by decide +kernel) rfl)⟩
theorem ca_fm_head : mCal me_fm_head := ⟨by decide +kernel, ⟨by decide, by decide⟩, by decide, (mm 1164 (by decide +kernel) rfl), (mm 55 (by decide +kernel) rfl)⟩
theorem pa_fm_head : (parseMethodDescriptor me_fm_head.1.desc).map (fun d => d.parameters.length) = some 1 := by decide +kernel
theorem ii_fm_head : Cond.instanceMethod me_fm_head.1 ∈ mTb ∧ Cond.selects me_fm_head.1.cls me_fm_head.1 me_fm_head.1 ∈ mTb := ⟨(mm 1162 (by decide +kernel) rfl), (mm 1163 (by decide +kernel) rfl)⟩
theorem ca_fm_refuseFar : mCal me_fm_refuseFar := ⟨by decide +kernel, ⟨by decide, by decide⟩, by decide, (mm 1168 (by decide +kernel) rfl), (mm 55 (by decide +kernel) rfl)⟩
theorem pa_fm_refuseFar : (parseMethodDescriptor me_fm_refuseFar.1.desc).map (fun d => d.parameters.length) = some 1 := by decide +kernel
theorem ii_fm_refuseFar : Cond.instanceMethod me_fm_refuseFar.1 ∈ mTb ∧ Cond.selects me_fm_refuseFar.1.cls me_fm_refuseFar.1 me_fm_refuseFar.1 ∈ mTb := ⟨(mm 1167 (by decide +kernel) rfl), (mm 31 (by decide +kernel) rfl)⟩
theorem ca_fm_rise : mCal me_fm_rise := ⟨by decide +kernel, ⟨by decide, by decide⟩, by decide, (mm 1173 (by decide +kernel) rfl), (mm 55 (by decide +kernel) rfl)⟩
theorem pa_fm_rise : (parseMethodDescriptor me_fm_rise.1.desc).map (fun d => d.parameters.length) = some 1 := by decide +kernel
theorem ii_fm_rise : Cond.instanceMethod me_fm_rise.1 ∈ mTb ∧ Cond.selects me_fm_rise.1.cls me_fm_rise.1 me_fm_rise.1 ∈ mTb := ⟨(mm 1171 (by decide +kernel) rfl), (mm 1172 (by decide +kernel) rfl)⟩
theorem ca_fm_riseOf : mCal me_fm_riseOf := ⟨by decide +kernel, ⟨by decide, by decide⟩, by decide, (mm 1177 (by decide +kernel) rfl), (mm 55 (by decide +kernel) rfl)⟩
theorem pa_fm_riseOf : (parseMethodDescriptor me_fm_riseOf.1.desc).map (fun d => d.parameters.length) = some 1 := by decide +kernel
theorem ii_fm_riseOf : Cond.instanceMethod me_fm_riseOf.1 ∈ mTb ∧ Cond.selects me_fm_riseOf.1.cls me_fm_riseOf.1 me_fm_riseOf.1 ∈ mTb := ⟨(mm 1176 (by decide +kernel) rfl), (mm 32 (by decide +kernel) rfl)⟩
theorem ca_fm_share : mCal me_fm_share := ⟨by decide +kernel, ⟨by decide, by decide⟩, by decide, (mm 1181 (by decide +kernel) rfl), (mm 55 (by decide +kernel) rfl)⟩
theorem pa_fm_share : (parseMethodDescriptor me_fm_share.1.desc).map (fun d => d.parameters.length) = some 2 := by decide +kernel
theorem ii_fm_share : Cond.instanceMethod me_fm_share.1 ∈ mTb ∧ Cond.selects me_fm_share.1.cls me_fm_share.1 me_fm_share.1 ∈ mTb := ⟨(mm 1179 (by decide +kernel) rfl), (mm 1180 (by decide +kernel) rfl)⟩
theorem ca_fm_minutes : mCal me_fm_minutes := ⟨by decide +kernel, ⟨by decide, by decide⟩, by decide, (mm 1185 (by decide +kernel) rfl), (mm 55 (by decide +kernel) rfl)⟩
theorem pa_fm_minutes : (parseMethodDescriptor me_fm_minutes.1.desc).map (fun d => d.parameters.length) = some 1 := by decide +kernel
theorem ii_fm_minutes : Cond.instanceMethod me_fm_minutes.1 ∈ mTb ∧ Cond.selects me_fm_minutes.1.cls me_fm_minutes.1 me_fm_minutes.1 ∈ mTb := ⟨(mm 1183 (by decide +kernel) rfl), (mm 1184 (by decide +kernel) rfl)⟩
theorem ca_fm_passes : mCal me_fm_passes := ⟨by decide +kernel, ⟨by decide, by decide⟩, by decide, (mm 1189 (by decide +kernel) rfl), (mm 55 (by decide +kernel) rfl)⟩
theorem pa_fm_passes : (parseMethodDescriptor me_fm_passes.1.desc).map (fun d => d.parameters.length) = some 1 := by decide +kernel
theorem ii_fm_passes : Cond.instanceMethod me_fm_passes.1 ∈ mTb ∧ Cond.selects me_fm_passes.1.cls me_fm_passes.1 me_fm_passes.1 ∈ mTb := ⟨(mm 1188 (by decide +kernel) rfl), (mm 33 (by decide +kernel) rfl)⟩
theorem ca_fm_lasts : mCal me_fm_lasts := ⟨by decide +kernel, ⟨by decide, by decide⟩, by decide, (mm 1195 (by decide +kernel) rfl), (mm 55 (by decide +kernel) rfl)⟩
theorem pa_fm_lasts : (parseMethodDescriptor me_fm_lasts.1.desc).map (fun d => d.parameters.length) = some 1 := by decide +kernel
theorem ii_fm_lasts : Cond.instanceMethod me_fm_lasts.1 ∈ mTb ∧ Cond.selects me_fm_lasts.1.cls me_fm_lasts.1 me_fm_lasts.1 ∈ mTb := ⟨(mm 1193 (by decide +kernel) rfl), (mm 1194 (by decide +kernel) rfl)⟩
theorem ca_fm_view : mCal me_fm_view := ⟨by decide +kernel, ⟨by decide, by decide⟩, by decide, (mm 1199 (by decide +kernel) rfl), (mm 55 (by decide +kernel) rfl)⟩
theorem pa_fm_view : (parseMethodDescriptor me_fm_view.1.desc).map (fun d => d.parameters.length) = some 4 := by decide +kernel
theorem ii_fm_view : Cond.instanceMethod me_fm_view.1 ∈ mTb ∧ Cond.selects me_fm_view.1.cls me_fm_view.1 me_fm_view.1 ∈ mTb := ⟨(mm 1197 (by decide +kernel) rfl), (mm 1198 (by decide +kernel) rfl)⟩
theorem ca_fm_unview : mCal me_fm_unview := ⟨by decide +kernel, ⟨by decide, by decide⟩, by decide, (mm 1203 (by decide +kernel) rfl), (mm 55 (by decide +kernel) rfl)⟩
theorem pa_fm_unview : (parseMethodDescriptor me_fm_unview.1.desc).map (fun d => d.parameters.length) = some 0 := by decide +kernel
theorem ii_fm_unview : Cond.instanceMethod me_fm_unview.1 ∈ mTb ∧ Cond.selects me_fm_unview.1.cls me_fm_unview.1 me_fm_unview.1 ∈ mTb := ⟨(mm 1201 (by decide +kernel) rfl), (mm 1202 (by decide +kernel) rfl)⟩
theorem ca_fm_walk : mCal me_fm_walk := ⟨by decide +kernel, ⟨by decide, by decide⟩, by decide, (mm 1207 (by decide +kernel) rfl), (mm 55 (by decide +kernel) rfl)⟩
theorem pa_fm_walk : (parseMethodDescriptor me_fm_walk.1.desc).map (fun d => d.parameters.length) = some 1 := by decide +kernel
theorem ii_fm_walk : Cond.instanceMethod me_fm_walk.1 ∈ mTb ∧ Cond.selects me_fm_walk.1.cls me_fm_walk.1 me_fm_walk.1 ∈ mTb := ⟨(mm 1205 (by decide +kernel) rfl), (mm 1206 (by decide +kernel) rfl)⟩
theorem ca_fm_hasWalk : mCal me_fm_hasWalk := ⟨by decide +kernel, ⟨by decide, by decide⟩, by decide, (mm 1211 (by decide +kernel) rfl), (mm 55 (by decide +kernel) rfl)⟩
theorem pa_fm_hasWalk : (parseMethodDescriptor me_fm_hasWalk.1.desc).map (fun d => d.parameters.length) = some 0 := by decide +kernel
theorem ii_fm_hasWalk : Cond.instanceMethod me_fm_hasWalk.1 ∈ mTb ∧ Cond.selects me_fm_hasWalk.1.cls me_fm_hasWalk.1 me_fm_hasWalk.1 ∈ mTb := ⟨(mm 1210 (by decide +kernel) rfl), (mm 34 (by decide +kernel) rfl)⟩
theorem ca_fm_walks : mCal me_fm_walks := ⟨by decide +kernel, ⟨by decide, by decide⟩, by decide, (mm 1215 (by decide +kernel) rfl), (mm 55 (by decide +kernel) rfl)⟩
theorem pa_fm_walks : (parseMethodDescriptor me_fm_walks.1.desc).map (fun d => d.parameters.length) = some 1 := by decide +kernel
theorem ii_fm_walks : Cond.instanceMethod me_fm_walks.1 ∈ mTb ∧ Cond.selects me_fm_walks.1.cls me_fm_walks.1 me_fm_walks.1 ∈ mTb := ⟨(mm 1214 (by decide +kernel) rfl), (mm 35 (by decide +kernel) rfl)⟩
theorem ca_fm_looksAt : mCal me_fm_looksAt := ⟨by decide +kernel, ⟨by decide, by decide⟩, by decide, (mm 1219 (by decide +kernel) rfl), (mm 55 (by decide +kernel) rfl)⟩
theorem pa_fm_looksAt : (parseMethodDescriptor me_fm_looksAt.1.desc).map (fun d => d.parameters.length) = some 0 := by decide +kernel
theorem ii_fm_looksAt : Cond.instanceMethod me_fm_looksAt.1 ∈ mTb ∧ Cond.selects me_fm_looksAt.1.cls me_fm_looksAt.1 me_fm_looksAt.1 ∈ mTb := ⟨(mm 1218 (by decide +kernel) rfl), (mm 36 (by decide +kernel) rfl)⟩
theorem ca_fm_viewAt : mCal me_fm_viewAt := ⟨by decide +kernel, ⟨by decide, by decide⟩, by decide, (mm 1223 (by decide +kernel) rfl), (mm 55 (by decide +kernel) rfl)⟩
theorem pa_fm_viewAt : (parseMethodDescriptor me_fm_viewAt.1.desc).map (fun d => d.parameters.length) = some 1 := by decide +kernel
theorem ii_fm_viewAt : Cond.instanceMethod me_fm_viewAt.1 ∈ mTb ∧ Cond.selects me_fm_viewAt.1.cls me_fm_viewAt.1 me_fm_viewAt.1 ∈ mTb := ⟨(mm 1222 (by decide +kernel) rfl), (mm 37 (by decide +kernel) rfl)⟩
theorem ca_fm_most : mCal me_fm_most := ⟨by decide +kernel, ⟨by decide, by decide⟩, by decide, (mm 1227 (by decide +kernel) rfl), (mm 55 (by decide +kernel) rfl)⟩
theorem pa_fm_most : (parseMethodDescriptor me_fm_most.1.desc).map (fun d => d.parameters.length) = some 0 := by decide +kernel
theorem ii_fm_most : Cond.instanceMethod me_fm_most.1 ∈ mTb ∧ Cond.selects me_fm_most.1.cls me_fm_most.1 me_fm_most.1 ∈ mTb := ⟨(mm 1225 (by decide +kernel) rfl), (mm 1226 (by decide +kernel) rfl)⟩
theorem ca_fm_pace : mCal me_fm_pace := ⟨by decide +kernel, ⟨by decide, by decide⟩, by decide, (mm 1231 (by decide +kernel) rfl), (mm 55 (by decide +kernel) rfl)⟩
theorem pa_fm_pace : (parseMethodDescriptor me_fm_pace.1.desc).map (fun d => d.parameters.length) = some 1 := by decide +kernel
theorem ii_fm_pace : Cond.instanceMethod me_fm_pace.1 ∈ mTb ∧ Cond.selects me_fm_pace.1.cls me_fm_pace.1 me_fm_pace.1 ∈ mTb := ⟨(mm 1229 (by decide +kernel) rfl), (mm 1230 (by decide +kernel) rfl)⟩
theorem ca_fm_tasks : mCal me_fm_tasks := ⟨by decide +kernel, ⟨by decide, by decide⟩, by decide, (mm 1235 (by decide +kernel) rfl), (mm 55 (by decide +kernel) rfl)⟩
theorem pa_fm_tasks : (parseMethodDescriptor me_fm_tasks.1.desc).map (fun d => d.parameters.length) = some 0 := by decide +kernel
theorem ii_fm_tasks : Cond.instanceMethod me_fm_tasks.1 ∈ mTb ∧ Cond.selects me_fm_tasks.1.cls me_fm_tasks.1 me_fm_tasks.1 ∈ mTb := ⟨(mm 1233 (by decide +kernel) rfl), (mm 1234 (by decide +kernel) rfl)⟩
theorem ca_fm_findTasks : mCal me_fm_findTasks := ⟨by decide +kernel, ⟨by decide, by decide⟩, by decide, (mm 1239 (by decide +kernel) rfl), (mm 55 (by decide +kernel) rfl)⟩
theorem pa_fm_findTasks : (parseMethodDescriptor me_fm_findTasks.1.desc).map (fun d => d.parameters.length) = some 0 := by decide +kernel
theorem ii_fm_findTasks : Cond.instanceMethod me_fm_findTasks.1 ∈ mTb ∧ Cond.selects me_fm_findTasks.1.cls me_fm_findTasks.1 me_fm_findTasks.1 ∈ mTb := ⟨(mm 1238 (by decide +kernel) rfl), (mm 38 (by decide +kernel) rfl)⟩
theorem ca_fm_adds : mCal me_fm_adds := ⟨by decide +kernel, ⟨by decide, by decide⟩, by decide, (mm 1243 (by decide +kernel) rfl), (mm 55 (by decide +kernel) rfl)⟩
theorem pa_fm_adds : (parseMethodDescriptor me_fm_adds.1.desc).map (fun d => d.parameters.length) = some 3 := by decide +kernel
theorem ii_fm_adds : Cond.instanceMethod me_fm_adds.1 ∈ mTb ∧ Cond.selects me_fm_adds.1.cls me_fm_adds.1 me_fm_adds.1 ∈ mTb := ⟨(mm 1242 (by decide +kernel) rfl), (mm 39 (by decide +kernel) rfl)⟩
theorem ca_fm_task : mCal me_fm_task := ⟨by decide +kernel, ⟨by decide, by decide⟩, by decide, (mm 1247 (by decide +kernel) rfl), (mm 55 (by decide +kernel) rfl)⟩
theorem pa_fm_task : (parseMethodDescriptor me_fm_task.1.desc).map (fun d => d.parameters.length) = some 2 := by decide +kernel
theorem ii_fm_task : Cond.instanceMethod me_fm_task.1 ∈ mTb ∧ Cond.selects me_fm_task.1.cls me_fm_task.1 me_fm_task.1 ∈ mTb := ⟨(mm 1245 (by decide +kernel) rfl), (mm 1246 (by decide +kernel) rfl)⟩
theorem ca_fm_boys : mCal me_fm_boys := ⟨by decide +kernel, ⟨by decide, by decide⟩, by decide, (mm 1251 (by decide +kernel) rfl), (mm 55 (by decide +kernel) rfl)⟩
theorem pa_fm_boys : (parseMethodDescriptor me_fm_boys.1.desc).map (fun d => d.parameters.length) = some 0 := by decide +kernel
theorem ii_fm_boys : Cond.instanceMethod me_fm_boys.1 ∈ mTb ∧ Cond.selects me_fm_boys.1.cls me_fm_boys.1 me_fm_boys.1 ∈ mTb := ⟨(mm 1249 (by decide +kernel) rfl), (mm 1250 (by decide +kernel) rfl)⟩
theorem ca_fm_leads : mCal me_fm_leads := ⟨by decide +kernel, ⟨by decide, by decide⟩, by decide, (mm 1255 (by decide +kernel) rfl), (mm 55 (by decide +kernel) rfl)⟩
theorem pa_fm_leads : (parseMethodDescriptor me_fm_leads.1.desc).map (fun d => d.parameters.length) = some 1 := by decide +kernel
theorem ii_fm_leads : Cond.instanceMethod me_fm_leads.1 ∈ mTb ∧ Cond.selects me_fm_leads.1.cls me_fm_leads.1 me_fm_leads.1 ∈ mTb := ⟨(mm 1254 (by decide +kernel) rfl), (mm 40 (by decide +kernel) rfl)⟩
theorem ca_fm_canFollow : mCal me_fm_canFollow := ⟨by decide +kernel, ⟨by decide, by decide⟩, by decide, (mm 1259 (by decide +kernel) rfl), (mm 55 (by decide +kernel) rfl)⟩
theorem pa_fm_canFollow : (parseMethodDescriptor me_fm_canFollow.1.desc).map (fun d => d.parameters.length) = some 2 := by decide +kernel
theorem ii_fm_canFollow : Cond.instanceMethod me_fm_canFollow.1 ∈ mTb ∧ Cond.selects me_fm_canFollow.1.cls me_fm_canFollow.1 me_fm_canFollow.1 ∈ mTb := ⟨(mm 1258 (by decide +kernel) rfl), (mm 41 (by decide +kernel) rfl)⟩
theorem ca_fm_gauge : mCal me_fm_gauge := ⟨by decide +kernel, ⟨by decide, by decide⟩, by decide, (mm 1264 (by decide +kernel) rfl), (mm 55 (by decide +kernel) rfl)⟩
theorem pa_fm_gauge : (parseMethodDescriptor me_fm_gauge.1.desc).map (fun d => d.parameters.length) = some 2 := by decide +kernel
theorem ii_fm_gauge : Cond.instanceMethod me_fm_gauge.1 ∈ mTb ∧ Cond.selects me_fm_gauge.1.cls me_fm_gauge.1 me_fm_gauge.1 ∈ mTb := ⟨(mm 1262 (by decide +kernel) rfl), (mm 1263 (by decide +kernel) rfl)⟩
theorem ca_fm_tol : mCal me_fm_tol := ⟨by decide +kernel, ⟨by decide, by decide⟩, by decide, (mm 1268 (by decide +kernel) rfl), (mm 55 (by decide +kernel) rfl)⟩
theorem pa_fm_tol : (parseMethodDescriptor me_fm_tol.1.desc).map (fun d => d.parameters.length) = some 1 := by decide +kernel
theorem ii_fm_tol : Cond.instanceMethod me_fm_tol.1 ∈ mTb ∧ Cond.selects me_fm_tol.1.cls me_fm_tol.1 me_fm_tol.1 ∈ mTb := ⟨(mm 1266 (by decide +kernel) rfl), (mm 1267 (by decide +kernel) rfl)⟩
theorem ca_fm_explain : mCal me_fm_explain := ⟨by decide +kernel, ⟨by decide, by decide⟩, by decide, (mm 1272 (by decide +kernel) rfl), (mm 55 (by decide +kernel) rfl)⟩
theorem pa_fm_explain : (parseMethodDescriptor me_fm_explain.1.desc).map (fun d => d.parameters.length) = some 0 := by decide +kernel
theorem ii_fm_explain : Cond.instanceMethod me_fm_explain.1 ∈ mTb ∧ Cond.selects me_fm_explain.1.cls me_fm_explain.1 me_fm_explain.1 ∈ mTb := ⟨(mm 1270 (by decide +kernel) rfl), (mm 1271 (by decide +kernel) rfl)⟩
theorem ca_fm_look : mCal me_fm_look := ⟨by decide +kernel, ⟨by decide, by decide⟩, by decide, (mm 1276 (by decide +kernel) rfl), (mm 55 (by decide +kernel) rfl)⟩
theorem pa_fm_look : (parseMethodDescriptor me_fm_look.1.desc).map (fun d => d.parameters.length) = some 0 := by decide +kernel
theorem ii_fm_look : Cond.instanceMethod me_fm_look.1 ∈ mTb ∧ Cond.selects me_fm_look.1.cls me_fm_look.1 me_fm_look.1 ∈ mTb := ⟨(mm 1275 (by decide +kernel) rfl), (mm 42 (by decide +kernel) rfl)⟩
theorem ca_fm_explains : mCal me_fm_explains := ⟨by decide +kernel, ⟨by decide, by decide⟩, by decide, (mm 1280 (by decide +kernel) rfl), (mm 55 (by decide +kernel) rfl)⟩
theorem pa_fm_explains : (parseMethodDescriptor me_fm_explains.1.desc).map (fun d => d.parameters.length) = some 0 := by decide +kernel
theorem ii_fm_explains : Cond.instanceMethod me_fm_explains.1 ∈ mTb ∧ Cond.selects me_fm_explains.1.cls me_fm_explains.1 me_fm_explains.1 ∈ mTb := ⟨(mm 1279 (by decide +kernel) rfl), (mm 43 (by decide +kernel) rfl)⟩
theorem ca_fm_two : mCal me_fm_two := ⟨by decide +kernel, ⟨by decide, by decide⟩, by decide, (mm 1284 (by decide +kernel) rfl), (mm 55 (by decide +kernel) rfl)⟩
theorem pa_fm_two : (parseMethodDescriptor me_fm_two.1.desc).map (fun d => d.parameters.length) = some 2 := by decide +kernel
theorem ii_fm_two : Cond.instanceMethod me_fm_two.1 ∈ mTb ∧ Cond.selects me_fm_two.1.cls me_fm_two.1 me_fm_two.1 ∈ mTb := ⟨(mm 1283 (by decide +kernel) rfl), (mm 44 (by decide +kernel) rfl)⟩
theorem ca_fm_explained : mCal me_fm_explained := ⟨by decide +kernel, ⟨by decide, by decide⟩, by decide, (mm 1288 (by decide +kernel) rfl), (mm 55 (by decide +kernel) rfl)⟩
theorem pa_fm_explained : (parseMethodDescriptor me_fm_explained.1.desc).map (fun d => d.parameters.length) = some 1 := by decide +kernel
theorem ii_fm_explained : Cond.instanceMethod me_fm_explained.1 ∈ mTb ∧ Cond.selects me_fm_explained.1.cls me_fm_explained.1 me_fm_explained.1 ∈ mTb := ⟨(mm 1286 (by decide +kernel) rfl), (mm 1287 (by decide +kernel) rfl)⟩
theorem ca_fm_rivals : mCal me_fm_rivals := ⟨by decide +kernel, ⟨by decide, by decide⟩, by decide, (mm 1292 (by decide +kernel) rfl), (mm 55 (by decide +kernel) rfl)⟩
theorem pa_fm_rivals : (parseMethodDescriptor me_fm_rivals.1.desc).map (fun d => d.parameters.length) = some 0 := by decide +kernel
theorem ii_fm_rivals : Cond.instanceMethod me_fm_rivals.1 ∈ mTb ∧ Cond.selects me_fm_rivals.1.cls me_fm_rivals.1 me_fm_rivals.1 ∈ mTb := ⟨(mm 1290 (by decide +kernel) rfl), (mm 1291 (by decide +kernel) rfl)⟩
theorem ca_fm_empty : mCal me_fm_empty := ⟨by decide +kernel, ⟨by decide, by decide⟩, by decide, (mm 1296 (by decide +kernel) rfl), (mm 55 (by decide +kernel) rfl)⟩
theorem pa_fm_empty : (parseMethodDescriptor me_fm_empty.1.desc).map (fun d => d.parameters.length) = some 1 := by decide +kernel
theorem ii_fm_empty : Cond.instanceMethod me_fm_empty.1 ∈ mTb ∧ Cond.selects me_fm_empty.1.cls me_fm_empty.1 me_fm_empty.1 ∈ mTb := ⟨(mm 1294 (by decide +kernel) rfl), (mm 1295 (by decide +kernel) rfl)⟩
theorem ca_fm_mayEmpty : mCal me_fm_mayEmpty := ⟨by decide +kernel, ⟨by decide, by decide⟩, by decide, (mm 1300 (by decide +kernel) rfl), (mm 55 (by decide +kernel) rfl)⟩
theorem pa_fm_mayEmpty : (parseMethodDescriptor me_fm_mayEmpty.1.desc).map (fun d => d.parameters.length) = some 2 := by decide +kernel
theorem ii_fm_mayEmpty : Cond.instanceMethod me_fm_mayEmpty.1 ∈ mTb ∧ Cond.selects me_fm_mayEmpty.1.cls me_fm_mayEmpty.1 me_fm_mayEmpty.1 ∈ mTb := ⟨(mm 1299 (by decide +kernel) rfl), (mm 45 (by decide +kernel) rfl)⟩
theorem ca_fm_fill : mCal me_fm_fill := ⟨by decide +kernel, ⟨by decide, by decide⟩, by decide, (mm 1304 (by decide +kernel) rfl), (mm 55 (by decide +kernel) rfl)⟩
theorem pa_fm_fill : (parseMethodDescriptor me_fm_fill.1.desc).map (fun d => d.parameters.length) = some 1 := by decide +kernel
theorem ii_fm_fill : Cond.instanceMethod me_fm_fill.1 ∈ mTb ∧ Cond.selects me_fm_fill.1.cls me_fm_fill.1 me_fm_fill.1 ∈ mTb := ⟨(mm 1302 (by decide +kernel) rfl), (mm 1303 (by decide +kernel) rfl)⟩
theorem ca_fm_order : mCal me_fm_order := ⟨by decide +kernel, ⟨by decide, by decide⟩, by decide, (mm 1308 (by decide +kernel) rfl), (mm 55 (by decide +kernel) rfl)⟩
theorem pa_fm_order : (parseMethodDescriptor me_fm_order.1.desc).map (fun d => d.parameters.length) = some 1 := by decide +kernel
theorem ii_fm_order : Cond.instanceMethod me_fm_order.1 ∈ mTb ∧ Cond.selects me_fm_order.1.cls me_fm_order.1 me_fm_order.1 ∈ mTb := ⟨(mm 1306 (by decide +kernel) rfl), (mm 1307 (by decide +kernel) rfl)⟩
theorem ca_fm_tankOf : mCal me_fm_tankOf := ⟨by decide +kernel, ⟨by decide, by decide⟩, by decide, (mm 1312 (by decide +kernel) rfl), (mm 55 (by decide +kernel) rfl)⟩
theorem pa_fm_tankOf : (parseMethodDescriptor me_fm_tankOf.1.desc).map (fun d => d.parameters.length) = some 2 := by decide +kernel
theorem ii_fm_tankOf : Cond.instanceMethod me_fm_tankOf.1 ∈ mTb ∧ Cond.selects me_fm_tankOf.1.cls me_fm_tankOf.1 me_fm_tankOf.1 ∈ mTb := ⟨(mm 1310 (by decide +kernel) rfl), (mm 1311 (by decide +kernel) rfl)⟩
theorem ca_fm_jointOf : mCal me_fm_jointOf := ⟨by decide +kernel, ⟨by decide, by decide⟩, by decide, (mm 1316 (by decide +kernel) rfl), (mm 55 (by decide +kernel) rfl)⟩
theorem pa_fm_jointOf : (parseMethodDescriptor me_fm_jointOf.1.desc).map (fun d => d.parameters.length) = some 2 := by decide +kernel
theorem ii_fm_jointOf : Cond.instanceMethod me_fm_jointOf.1 ∈ mTb ∧ Cond.selects me_fm_jointOf.1.cls me_fm_jointOf.1 me_fm_jointOf.1 ∈ mTb := ⟨(mm 1314 (by decide +kernel) rfl), (mm 1315 (by decide +kernel) rfl)⟩
theorem ca_fm_count : mCal me_fm_count := ⟨by decide +kernel, ⟨by decide, by decide⟩, by decide, (mm 1320 (by decide +kernel) rfl), (mm 55 (by decide +kernel) rfl)⟩
theorem pa_fm_count : (parseMethodDescriptor me_fm_count.1.desc).map (fun d => d.parameters.length) = some 1 := by decide +kernel
theorem ii_fm_count : Cond.instanceMethod me_fm_count.1 ∈ mTb ∧ Cond.selects me_fm_count.1.cls me_fm_count.1 me_fm_count.1 ∈ mTb := ⟨(mm 1318 (by decide +kernel) rfl), (mm 1319 (by decide +kernel) rfl)⟩
theorem ml_lw_9 : Cond.methodLink "FountainNetLaw" 9 me_fn_init.1 ∈ mTb := (mm 69 (by decide +kernel) rfl)
theorem ml_fn_3 : Cond.methodLink "FountainNet" 3 Lib.objectInit ∈ mTb := (mm 72 (by decide +kernel) rfl)
theorem ml_fn_11 : Cond.methodLink "FountainNet" 11 me_ga_init.1 ∈ mTb := (mm 77 (by decide +kernel) rfl)
theorem ml_ga_3 : Cond.methodLink "FountainNet$Garden" 3 Lib.objectInit ∈ mTb := (mm 80 (by decide +kernel) rfl)
theorem ml_ga_11 : Cond.methodLink "FountainNet$Garden" 11 me_al_init.1 ∈ mTb := (mm 83 (by decide +kernel) rfl)
theorem ml_al_1 : Cond.methodLink "java/util/ArrayList" 1 me_ab_init.1 ∈ mTb := (mm 86 (by decide +kernel) rfl)
theorem ml_ab_1 : Cond.methodLink "java/util/AbstractList" 1 me_ac_init.1 ∈ mTb := (mm 89 (by decide +kernel) rfl)
theorem ml_ac_1 : Cond.methodLink "java/util/AbstractCollection" 1 Lib.objectInit ∈ mTb := (mm 92 (by decide +kernel) rfl)
theorem ml_fn_18 : Cond.methodLink "FountainNet" 18 me_al_init.1 ∈ mTb := (mm 135 (by decide +kernel) rfl)
theorem ml_fn_25 : Cond.methodLink "FountainNet" 25 me_sr_init.1 ∈ mTb := (mm 138 (by decide +kernel) rfl)
theorem ml_sr_3 : Cond.methodLink "FountainNet$Stroll" 3 Lib.objectInit ∈ mTb := (mm 141 (by decide +kernel) rfl)
theorem ml_fn_34 : Cond.methodLink "FountainNet" 34 me_tl_init.1 ∈ mTb := (mm 175 (by decide +kernel) rfl)
theorem ml_tl_3 : Cond.methodLink "FountainNet$TaskList" 3 Lib.objectInit ∈ mTb := (mm 178 (by decide +kernel) rfl)
theorem ml_fn_41 : Cond.methodLink "FountainNet" 41 me_lk_init.1 ∈ mTb := (mm 208 (by decide +kernel) rfl)
theorem ml_lk_3 : Cond.methodLink "FountainNet$LeakSearch" 3 Lib.objectInit ∈ mTb := (mm 211 (by decide +kernel) rfl)
theorem ml_lw_13 : Cond.methodLink "FountainNetLaw" 13 me_fn_tank.1 ∈ mTb := (mm 258 (by decide +kernel) rfl)
theorem ml_fn_56 : Cond.methodLink "FountainNet" 56 me_fn_refuse.1 ∈ mTb := (mm 262 (by decide +kernel) rfl)
theorem ml_fn_63 : Cond.methodLink "FountainNet" 63 me_al_size.1 ∈ mTb := (mm 266 (by decide +kernel) rfl)
theorem ml_fn_69 : Cond.methodLink "FountainNet" 69 me_tk_init.1 ∈ mTb := (mm 272 (by decide +kernel) rfl)
theorem ml_tk_1 : Cond.methodLink "FountainNet$Tank" 1 Lib.objectInit ∈ mTb := (mm 275 (by decide +kernel) rfl)
theorem ml_fn_72 : Cond.methodLink "FountainNet" 72 me_al_add.1 ∈ mTb := (mm 316 (by decide +kernel) rfl)
theorem ml_al_131 : Cond.methodLink "java/util/ArrayList" 131 me_al_add2.1 ∈ mTb := (mm 320 (by decide +kernel) rfl)
theorem ml_al_129 : Cond.methodLink "java/util/ArrayList" 129 me_al_grow.1 ∈ mTb := (mm 324 (by decide +kernel) rfl)
theorem ml_al_69 : Cond.methodLink "java/util/ArrayList" 69 me_al_grow2.1 ∈ mTb := (mm 328 (by decide +kernel) rfl)
theorem ml_al_73 : Cond.methodLink "java/util/ArrayList" 73 me_as_newLength.1 ∈ mTb := (mm 332 (by decide +kernel) rfl)
theorem ml_as_194 : Cond.methodLink "jdk/internal/util/ArraysSupport" 194 Lib.Math.max.name ∈ mTb := (mm 335 (by decide +kernel) rfl)
theorem ml_al_66 : Cond.methodLink "java/util/ArrayList" 66 me_ar_copyOf.1 ∈ mTb := (mm 342 (by decide +kernel) rfl)
theorem ml_ar_86 : Cond.methodLink "java/util/Arrays" 86 ⟨"java/lang/Object", "getClass", "()Ljava/lang/Class;"⟩ ∈ mTb := (mm 345 (by decide +kernel) rfl)
theorem ml_ar_300 : Cond.methodLink "java/util/Arrays" 300 me_ar_copyOf2.1 ∈ mTb := (mm 360 (by decide +kernel) rfl)
theorem ml_ar_304 : Cond.methodLink "java/util/Arrays" 304 Lib.Math.min.name ∈ mTb := (mm 366 (by decide +kernel) rfl)
theorem ml_ar_150 : Cond.methodLink "java/util/Arrays" 150 arraycopyName ∈ mTb := (mm 369 (by decide +kernel) rfl)
theorem ml_al_79 : Cond.methodLink "java/util/ArrayList" 79 Lib.Math.max.name ∈ mTb := (mm 372 (by decide +kernel) rfl)
theorem ml_lw_18 : Cond.methodLink "FountainNetLaw" 18 me_fn_set.1 ∈ mTb := (mm 374 (by decide +kernel) rfl)
theorem ml_fn_76 : Cond.methodLink "FountainNet" 76 me_ga_tankAt.1 ∈ mTb := (mm 378 (by decide +kernel) rfl)
theorem ml_ga_24 : Cond.methodLink "FountainNet$Garden" 24 me_al_size.1 ∈ mTb := (mm 382 (by decide +kernel) rfl)
theorem ml_ga_28 : Cond.methodLink "FountainNet$Garden" 28 me_al_get.1 ∈ mTb := (mm 383 (by decide +kernel) rfl)
theorem ml_al_118 : Cond.methodLink "java/util/ArrayList" 118 me_os_checkIndex.1 ∈ mTb := (mm 387 (by decide +kernel) rfl)
theorem ml_os_105 : Cond.methodLink "java/util/Objects" 105 me_pr_checkIndex.1 ∈ mTb := (mm 390 (by decide +kernel) rfl)
theorem ml_al_123 : Cond.methodLink "java/util/ArrayList" 123 me_al_elementData.1 ∈ mTb := (mm 393 (by decide +kernel) rfl)
theorem ml_fn_80 : Cond.methodLink "FountainNet" 80 me_tk_capacity.1 ∈ mTb := (mm 398 (by decide +kernel) rfl)
theorem ml_fn_83 : Cond.methodLink "FountainNet" 83 me_tk_changeSpring.1 ∈ mTb := (mm 402 (by decide +kernel) rfl)
theorem ml_fn_86 : Cond.methodLink "FountainNet" 86 me_tk_changeWater.1 ∈ mTb := (mm 406 (by decide +kernel) rfl)
theorem ml_lw_23 : Cond.methodLink "FountainNetLaw" 23 me_fn_joint.1 ∈ mTb := (mm 410 (by decide +kernel) rfl)
theorem ml_fn_89 : Cond.methodLink "FountainNet" 89 me_ga_jointAt.1 ∈ mTb := (mm 414 (by decide +kernel) rfl)
theorem ml_fn_93 : Cond.methodLink "FountainNet" 93 me_fn_feederOf.1 ∈ mTb := (mm 419 (by decide +kernel) rfl)
theorem ml_fn_106 : Cond.methodLink "FountainNet" 106 me_jn_init.1 ∈ mTb := (mm 424 (by decide +kernel) rfl)
theorem ml_jn_1 : Cond.methodLink "FountainNet$Joint" 1 Lib.objectInit ∈ mTb := (mm 427 (by decide +kernel) rfl)
theorem ml_lw_28 : Cond.methodLink "FountainNetLaw" 28 me_fn_jet.1 ∈ mTb := (mm 493 (by decide +kernel) rfl)
theorem ml_fn_118 : Cond.methodLink "FountainNet" 118 me_je_init.1 ∈ mTb := (mm 499 (by decide +kernel) rfl)
theorem ml_je_1 : Cond.methodLink "FountainNet$Jet" 1 Lib.objectInit ∈ mTb := (mm 502 (by decide +kernel) rfl)
theorem ml_lw_33 : Cond.methodLink "FountainNetLaw" 33 me_fn_play.1 ∈ mTb := (mm 529 (by decide +kernel) rfl)
theorem ml_fn_121 : Cond.methodLink "FountainNet" 121 me_ga_jetAt.1 ∈ mTb := (mm 533 (by decide +kernel) rfl)
theorem ml_fn_132 : Cond.methodLink "FountainNet" 132 me_je_isIn.1 ∈ mTb := (mm 538 (by decide +kernel) rfl)
theorem ml_lw_38 : Cond.methodLink "FountainNetLaw" 38 me_fn_pipe.1 ∈ mTb := (mm 542 (by decide +kernel) rfl)
theorem ml_lw_42 : Cond.methodLink "FountainNetLaw" 42 me_fn_leak.1 ∈ mTb := (mm 546 (by decide +kernel) rfl)
theorem ml_lw_46 : Cond.methodLink "FountainNetLaw" 46 me_fn_flow.1 ∈ mTb := (mm 550 (by decide +kernel) rfl)
theorem ml_fn_144 : Cond.methodLink "FountainNet" 144 me_ga_reckonAsItIs.1 ∈ mTb := (mm 554 (by decide +kernel) rfl)
theorem ml_ga_42 : Cond.methodLink "FountainNet$Garden" 42 me_ga_reckon.1 ∈ mTb := (mm 558 (by decide +kernel) rfl)
theorem ml_ga_46 : Cond.methodLink "FountainNet$Garden" 46 me_ga_forgetFlows.1 ∈ mTb := (mm 562 (by decide +kernel) rfl)
theorem ml_ga_56 : Cond.methodLink "FountainNet$Garden" 56 me_jn_drawAmong.1 ∈ mTb := (mm 566 (by decide +kernel) rfl)
theorem ml_jn_52 : Cond.methodLink "FountainNet$Joint" 52 me_je_isIn.1 ∈ mTb := (mm 570 (by decide +kernel) rfl)
theorem ml_ga_66 : Cond.methodLink "FountainNet$Garden" 66 me_ga_addFlowAhead.1 ∈ mTb := (mm 571 (by decide +kernel) rfl)
theorem ml_ga_70 : Cond.methodLink "FountainNet$Garden" 70 me_jn_lossNow.1 ∈ mTb := (mm 575 (by decide +kernel) rfl)
theorem ml_lw_51 : Cond.methodLink "FountainNetLaw" 51 me_fn_head.1 ∈ mTb := (mm 580 (by decide +kernel) rfl)
theorem ml_fn_150 : Cond.methodLink "FountainNet" 150 me_fn_refuseAsTold.1 ∈ mTb := (mm 584 (by decide +kernel) rfl)
theorem ml_fn_160 : Cond.methodLink "FountainNet" 160 me_jn_headWith.1 ∈ mTb := (mm 589 (by decide +kernel) rfl)
theorem ml_jn_39 : Cond.methodLink "FountainNet$Joint" 39 me_tk_levelWith.1 ∈ mTb := (mm 593 (by decide +kernel) rfl)
theorem ml_lw_55 : Cond.methodLink "FountainNetLaw" 55 me_fn_rise.1 ∈ mTb := (mm 597 (by decide +kernel) rfl)
theorem ml_fn_163 : Cond.methodLink "FountainNet" 163 me_je_riseAmong.1 ∈ mTb := (mm 601 (by decide +kernel) rfl)
theorem ml_je_26 : Cond.methodLink "FountainNet$Jet" 26 me_je_isIn.1 ∈ mTb := (mm 605 (by decide +kernel) rfl)
theorem ml_je_30 : Cond.methodLink "FountainNet$Jet" 30 me_jn_headWith.1 ∈ mTb := (mm 606 (by decide +kernel) rfl)
theorem ml_je_36 : Cond.methodLink "FountainNet$Jet" 36 Lib.Math.max.name ∈ mTb := (mm 607 (by decide +kernel) rfl)
theorem ml_lw_59 : Cond.methodLink "FountainNetLaw" 59 me_fn_share.1 ∈ mTb := (mm 608 (by decide +kernel) rfl)
theorem ml_fn_167 : Cond.methodLink "FountainNet" 167 me_ga_reckon.1 ∈ mTb := (mm 612 (by decide +kernel) rfl)
theorem ml_lw_63 : Cond.methodLink "FountainNetLaw" 63 me_fn_minutes.1 ∈ mTb := (mm 613 (by decide +kernel) rfl)
theorem ml_fn_174 : Cond.methodLink "FountainNet" 174 me_al_get.1 ∈ mTb := (mm 617 (by decide +kernel) rfl)
theorem ml_fn_178 : Cond.methodLink "FountainNet" 178 me_tk_passMinutes.1 ∈ mTb := (mm 618 (by decide +kernel) rfl)
theorem ml_tk_38 : Cond.methodLink "FountainNet$Tank" 38 me_tk_withSpring.1 ∈ mTb := (mm 622 (by decide +kernel) rfl)
theorem ml_tk_28 : Cond.methodLink "FountainNet$Tank" 28 me_tk_capacity.1 ∈ mTb := (mm 626 (by decide +kernel) rfl)
theorem ml_tk_32 : Cond.methodLink "FountainNet$Tank" 32 Lib.Math.min.name ∈ mTb := (mm 627 (by decide +kernel) rfl)
theorem ml_tk_45 : Cond.methodLink "FountainNet$Tank" 45 Lib.Math.max.name ∈ mTb := (mm 628 (by decide +kernel) rfl)
theorem ml_tk_54 : Cond.methodLink "FountainNet$Tank" 54 me_tk_waterAfterMinute.1 ∈ mTb := (mm 629 (by decide +kernel) rfl)
theorem ml_lw_67 : Cond.methodLink "FountainNetLaw" 67 me_fn_lasts.1 ∈ mTb := (mm 633 (by decide +kernel) rfl)
theorem ml_fn_182 : Cond.methodLink "FountainNet" 182 me_tk_waterAfterMinute.1 ∈ mTb := (mm 637 (by decide +kernel) rfl)
theorem ml_lw_71 : Cond.methodLink "FountainNetLaw" 71 me_fn_view.1 ∈ mTb := (mm 638 (by decide +kernel) rfl)
theorem ml_fn_185 : Cond.methodLink "FountainNet" 185 me_ga_allJets.1 ∈ mTb := (mm 642 (by decide +kernel) rfl)
theorem ml_fn_193 : Cond.methodLink "FountainNet" 193 me_vw_init.1 ∈ mTb := (mm 648 (by decide +kernel) rfl)
theorem ml_vw_1 : Cond.methodLink "FountainNet$View" 1 Lib.objectInit ∈ mTb := (mm 651 (by decide +kernel) rfl)
theorem ml_lw_75 : Cond.methodLink "FountainNetLaw" 75 me_fn_unview.1 ∈ mTb := (mm 673 (by decide +kernel) rfl)
theorem ml_fn_196 : Cond.methodLink "FountainNet" 196 me_al_remove.1 ∈ mTb := (mm 677 (by decide +kernel) rfl)
theorem ml_al_144 : Cond.methodLink "java/util/ArrayList" 144 me_al_fastRemove.1 ∈ mTb := (mm 681 (by decide +kernel) rfl)
theorem ml_al_112 : Cond.methodLink "java/util/ArrayList" 112 arraycopyName ∈ mTb := (mm 685 (by decide +kernel) rfl)
theorem ml_lw_80 : Cond.methodLink "FountainNetLaw" 80 me_fn_walk.1 ∈ mTb := (mm 686 (by decide +kernel) rfl)
theorem ml_fn_199 : Cond.methodLink "FountainNet" 199 me_sr_isAhead.1 ∈ mTb := (mm 690 (by decide +kernel) rfl)
theorem ml_sr_19 : Cond.methodLink "FountainNet$Stroll" 19 me_sr_lastMinute.1 ∈ mTb := (mm 694 (by decide +kernel) rfl)
theorem ml_sr_29 : Cond.methodLink "FountainNet$Stroll" 29 me_al_isEmpty.1 ∈ mTb := (mm 698 (by decide +kernel) rfl)
theorem ml_sr_35 : Cond.methodLink "FountainNet$Stroll" 35 me_al_size.1 ∈ mTb := (mm 702 (by decide +kernel) rfl)
theorem ml_sr_38 : Cond.methodLink "FountainNet$Stroll" 38 me_al_get.1 ∈ mTb := (mm 703 (by decide +kernel) rfl)
theorem ml_fn_203 : Cond.methodLink "FountainNet" 203 me_sr_go.1 ∈ mTb := (mm 705 (by decide +kernel) rfl)
theorem ml_sr_47 : Cond.methodLink "FountainNet$Stroll" 47 me_sr_begin.1 ∈ mTb := (mm 709 (by decide +kernel) rfl)
theorem ml_sr_102 : Cond.methodLink "FountainNet$Stroll" 102 Lib.Math.min.name ∈ mTb := (mm 715 (by decide +kernel) rfl)
theorem ml_sr_56 : Cond.methodLink "FountainNet$Stroll" 56 me_ga_reckon.1 ∈ mTb := (mm 716 (by decide +kernel) rfl)
theorem ml_sr_60 : Cond.methodLink "FountainNet$Stroll" 60 me_sr_lookAtRises.1 ∈ mTb := (mm 717 (by decide +kernel) rfl)
theorem ml_sr_111 : Cond.methodLink "FountainNet$Stroll" 111 me_je_isIn.1 ∈ mTb := (mm 722 (by decide +kernel) rfl)
theorem ml_sr_125 : Cond.methodLink "FountainNet$Stroll" 125 me_je_riseAmong.1 ∈ mTb := (mm 723 (by decide +kernel) rfl)
theorem ml_sr_78 : Cond.methodLink "FountainNet$Stroll" 78 me_sr_passMinute.1 ∈ mTb := (mm 724 (by decide +kernel) rfl)
theorem ml_sr_131 : Cond.methodLink "FountainNet$Stroll" 131 me_tk_withSpring.1 ∈ mTb := (mm 728 (by decide +kernel) rfl)
theorem ml_sr_135 : Cond.methodLink "FountainNet$Stroll" 135 me_tk_waterAfterMinute.1 ∈ mTb := (mm 729 (by decide +kernel) rfl)
theorem ml_lw_84 : Cond.methodLink "FountainNetLaw" 84 me_fn_most.1 ∈ mTb := (mm 730 (by decide +kernel) rfl)
theorem ml_lw_88 : Cond.methodLink "FountainNetLaw" 88 me_fn_pace.1 ∈ mTb := (mm 734 (by decide +kernel) rfl)
theorem ml_lw_92 : Cond.methodLink "FountainNetLaw" 92 me_fn_tasks.1 ∈ mTb := (mm 738 (by decide +kernel) rfl)
theorem ml_fn_225 : Cond.methodLink "FountainNet" 225 me_tl_build.1 ∈ mTb := (mm 742 (by decide +kernel) rfl)
theorem ml_tl_39 : Cond.methodLink "FountainNet$TaskList" 39 me_al_size.1 ∈ mTb := (mm 746 (by decide +kernel) rfl)
theorem ml_tl_44 : Cond.methodLink "FountainNet$TaskList" 44 me_al_get.1 ∈ mTb := (mm 747 (by decide +kernel) rfl)
theorem ml_tl_53 : Cond.methodLink "FountainNet$TaskList" 53 me_tl_addChange.1 ∈ mTb := (mm 749 (by decide +kernel) rfl)
theorem ml_tl_70 : Cond.methodLink "FountainNet$TaskList" 70 me_je_isIn.1 ∈ mTb := (mm 754 (by decide +kernel) rfl)
theorem ml_lw_96 : Cond.methodLink "FountainNetLaw" 96 me_fn_task.1 ∈ mTb := (mm 755 (by decide +kernel) rfl)
theorem ml_fn_229 : Cond.methodLink "FountainNet" 229 me_tl_tell.1 ∈ mTb := (mm 759 (by decide +kernel) rfl)
theorem ml_lw_100 : Cond.methodLink "FountainNetLaw" 100 me_fn_boys.1 ∈ mTb := (mm 763 (by decide +kernel) rfl)
theorem ml_fn_232 : Cond.methodLink "FountainNet" 232 me_tl_fewestBoys.1 ∈ mTb := (mm 767 (by decide +kernel) rfl)
theorem ml_tl_83 : Cond.methodLink "FountainNet$TaskList" 83 me_tl_mostApartAhead.1 ∈ mTb := (mm 771 (by decide +kernel) rfl)
theorem ml_tl_92 : Cond.methodLink "FountainNet$TaskList" 92 Lib.Math.abs.name ∈ mTb := (mm 775 (by decide +kernel) rfl)
theorem ml_tl_87 : Cond.methodLink "FountainNet$TaskList" 87 Lib.Math.max.name ∈ mTb := (mm 778 (by decide +kernel) rfl)
theorem ml_lw_104 : Cond.methodLink "FountainNetLaw" 104 me_fn_gauge.1 ∈ mTb := (mm 779 (by decide +kernel) rfl)
theorem ml_lw_108 : Cond.methodLink "FountainNetLaw" 108 me_fn_tol.1 ∈ mTb := (mm 783 (by decide +kernel) rfl)
theorem ml_lw_112 : Cond.methodLink "FountainNetLaw" 112 me_fn_explain.1 ∈ mTb := (mm 787 (by decide +kernel) rfl)
theorem ml_fn_241 : Cond.methodLink "FountainNet" 241 me_lk_seek.1 ∈ mTb := (mm 791 (by decide +kernel) rfl)
theorem ml_lk_15 : Cond.methodLink "FountainNet$LeakSearch" 15 me_lk_forgetFound.1 ∈ mTb := (mm 795 (by decide +kernel) rfl)
theorem ml_lk_18 : Cond.methodLink "FountainNet$LeakSearch" 18 me_lk_isAnyRead.1 ∈ mTb := (mm 799 (by decide +kernel) rfl)
theorem ml_lk_32 : Cond.methodLink "FountainNet$LeakSearch" 32 me_al_size.1 ∈ mTb := (mm 803 (by decide +kernel) rfl)
theorem ml_lk_37 : Cond.methodLink "FountainNet$LeakSearch" 37 me_al_get.1 ∈ mTb := (mm 804 (by decide +kernel) rfl)
theorem ml_lk_22 : Cond.methodLink "FountainNet$LeakSearch" 22 me_lk_misses.1 ∈ mTb := (mm 806 (by decide +kernel) rfl)
theorem ml_lk_85 : Cond.methodLink "FountainNet$LeakSearch" 85 me_ga_reckon.1 ∈ mTb := (mm 810 (by decide +kernel) rfl)
theorem ml_lk_102 : Cond.methodLink "FountainNet$LeakSearch" 102 me_je_riseAmong.1 ∈ mTb := (mm 811 (by decide +kernel) rfl)
theorem ml_lk_43 : Cond.methodLink "FountainNet$LeakSearch" 43 me_lk_explainsAlone.1 ∈ mTb := (mm 813 (by decide +kernel) rfl)
theorem ml_lk_47 : Cond.methodLink "FountainNet$LeakSearch" 47 me_lk_explainTogether.1 ∈ mTb := (mm 817 (by decide +kernel) rfl)
theorem ml_lk_78 : Cond.methodLink "FountainNet$LeakSearch" 78 me_lk_keepTwo.1 ∈ mTb := (mm 821 (by decide +kernel) rfl)
theorem ml_lw_116 : Cond.methodLink "FountainNetLaw" 116 me_fn_explained.1 ∈ mTb := (mm 825 (by decide +kernel) rfl)
theorem ml_lw_120 : Cond.methodLink "FountainNetLaw" 120 me_fn_rivals.1 ∈ mTb := (mm 829 (by decide +kernel) rfl)
theorem ml_fn_256 : Cond.methodLink "FountainNet" 256 me_lk_howManyAlone.1 ∈ mTb := (mm 833 (by decide +kernel) rfl)
theorem ml_lw_124 : Cond.methodLink "FountainNetLaw" 124 me_fn_empty.1 ∈ mTb := (mm 837 (by decide +kernel) rfl)
theorem ml_fn_259 : Cond.methodLink "FountainNet" 259 me_ga_mayBeEmptied.1 ∈ mTb := (mm 841 (by decide +kernel) rfl)
theorem ml_lw_128 : Cond.methodLink "FountainNetLaw" 128 me_fn_fill.1 ∈ mTb := (mm 845 (by decide +kernel) rfl)
theorem ml_lw_132 : Cond.methodLink "FountainNetLaw" 132 me_fn_order.1 ∈ mTb := (mm 849 (by decide +kernel) rfl)
theorem ml_fn_266 : Cond.methodLink "FountainNet" 266 me_ga_jointInOrder.1 ∈ mTb := (mm 853 (by decide +kernel) rfl)
theorem ml_ga_85 : Cond.methodLink "FountainNet$Garden" 85 me_ga_beginOrder.1 ∈ mTb := (mm 857 (by decide +kernel) rfl)
theorem ml_ga_88 : Cond.methodLink "FountainNet$Garden" 88 me_ga_nextInOrder.1 ∈ mTb := (mm 861 (by decide +kernel) rfl)
theorem ml_lw_136 : Cond.methodLink "FountainNetLaw" 136 me_fn_tankOf.1 ∈ mTb := (mm 865 (by decide +kernel) rfl)
theorem ml_fn_269 : Cond.methodLink "FountainNet" 269 me_tk_levelWith.1 ∈ mTb := (mm 869 (by decide +kernel) rfl)
theorem ml_lw_140 : Cond.methodLink "FountainNetLaw" 140 me_fn_jointOf.1 ∈ mTb := (mm 870 (by decide +kernel) rfl)
theorem ml_fn_293 : Cond.methodLink "FountainNet" 293 me_jn_lossNow.1 ∈ mTb := (mm 874 (by decide +kernel) rfl)
theorem ml_lw_144 : Cond.methodLink "FountainNetLaw" 144 me_fn_count.1 ∈ mTb := (mm 875 (by decide +kernel) rfl)
theorem ml_fn_296 : Cond.methodLink "FountainNet" 296 me_it_bitCount.1 ∈ mTb := (mm 879 (by decide +kernel) rfl)
theorem ml_fn_301 : Cond.methodLink "FountainNet" 301 me_ga_emptyPipes.1 ∈ mTb := (mm 885 (by decide +kernel) rfl)
theorem ml_fn_304 : Cond.methodLink "FountainNet" 304 me_fn_refusalsOf.1 ∈ mTb := (mm 889 (by decide +kernel) rfl)
theorem ml_lw_12 : Cond.methodLink "FountainNetLaw" 12 me_fm_init.1 ∈ mTb := (mm 895 (by decide +kernel) rfl)
theorem ml_fm_3 : Cond.methodLink "FountainNetModel" 3 Lib.objectInit ∈ mTb := (mm 898 (by decide +kernel) rfl)
theorem ml_lw_17 : Cond.methodLink "FountainNetLaw" 17 me_fm_tank.1 ∈ mTb := (mm 1090 (by decide +kernel) rfl)
theorem ml_fm_133 : Cond.methodLink "FountainNetModel" 133 me_fm_refuse.1 ∈ mTb := (mm 1094 (by decide +kernel) rfl)
theorem ml_lw_22 : Cond.methodLink "FountainNetLaw" 22 me_fm_set.1 ∈ mTb := (mm 1098 (by decide +kernel) rfl)
theorem ml_fm_144 : Cond.methodLink "FountainNetModel" 144 me_fm_isIn.1 ∈ mTb := (mm 1102 (by decide +kernel) rfl)
theorem ml_fm_148 : Cond.methodLink "FountainNetModel" 148 me_fm_wrong.1 ∈ mTb := (mm 1105 (by decide +kernel) rfl)
theorem ml_fm_152 : Cond.methodLink "FountainNetModel" 152 me_fm_changes.1 ∈ mTb := (mm 1108 (by decide +kernel) rfl)
theorem ml_lw_27 : Cond.methodLink "FountainNetLaw" 27 me_fm_joint.1 ∈ mTb := (mm 1112 (by decide +kernel) rfl)
theorem ml_lw_32 : Cond.methodLink "FountainNetLaw" 32 me_fm_jet.1 ∈ mTb := (mm 1116 (by decide +kernel) rfl)
theorem ml_fm_161 : Cond.methodLink "FountainNetModel" 161 me_fm_isJoint.1 ∈ mTb := (mm 1120 (by decide +kernel) rfl)
theorem ml_lw_37 : Cond.methodLink "FountainNetLaw" 37 me_fm_play.1 ∈ mTb := (mm 1124 (by decide +kernel) rfl)
theorem ml_fm_165 : Cond.methodLink "FountainNetModel" 165 me_fm_isJet.1 ∈ mTb := (mm 1128 (by decide +kernel) rfl)
theorem ml_fm_168 : Cond.methodLink "FountainNetModel" 168 me_fm_isCut.1 ∈ mTb := (mm 1132 (by decide +kernel) rfl)
theorem ml_lw_41 : Cond.methodLink "FountainNetLaw" 41 me_fm_pipe.1 ∈ mTb := (mm 1136 (by decide +kernel) rfl)
theorem ml_lw_45 : Cond.methodLink "FountainNetLaw" 45 me_fm_leak.1 ∈ mTb := (mm 1140 (by decide +kernel) rfl)
theorem ml_lw_50 : Cond.methodLink "FountainNetLaw" 50 me_fm_flow.1 ∈ mTb := (mm 1144 (by decide +kernel) rfl)
theorem ml_fm_179 : Cond.methodLink "FountainNetModel" 179 me_fm_sees.1 ∈ mTb := (mm 1148 (by decide +kernel) rfl)
theorem ml_fm_173 : Cond.methodLink "FountainNetModel" 173 me_fm_asItIs.1 ∈ mTb := (mm 1152 (by decide +kernel) rfl)
theorem ml_fm_176 : Cond.methodLink "FountainNetModel" 176 me_fm_runs.1 ∈ mTb := (mm 1156 (by decide +kernel) rfl)
theorem ml_lw_54 : Cond.methodLink "FountainNetLaw" 54 me_fm_head.1 ∈ mTb := (mm 1161 (by decide +kernel) rfl)
theorem ml_fm_182 : Cond.methodLink "FountainNetModel" 182 me_fm_refuseFar.1 ∈ mTb := (mm 1165 (by decide +kernel) rfl)
theorem ml_lw_58 : Cond.methodLink "FountainNetLaw" 58 me_fm_rise.1 ∈ mTb := (mm 1170 (by decide +kernel) rfl)
theorem ml_fm_185 : Cond.methodLink "FountainNetModel" 185 me_fm_riseOf.1 ∈ mTb := (mm 1174 (by decide +kernel) rfl)
theorem ml_lw_62 : Cond.methodLink "FountainNetLaw" 62 me_fm_share.1 ∈ mTb := (mm 1178 (by decide +kernel) rfl)
theorem ml_lw_66 : Cond.methodLink "FountainNetLaw" 66 me_fm_minutes.1 ∈ mTb := (mm 1182 (by decide +kernel) rfl)
theorem ml_fm_209 : Cond.methodLink "FountainNetModel" 209 me_fm_passes.1 ∈ mTb := (mm 1186 (by decide +kernel) rfl)
theorem ml_fm_188 : Cond.methodLink "FountainNetModel" 188 Lib.Math.max.name ∈ mTb := (mm 1190 (by decide +kernel) rfl)
theorem ml_fm_197 : Cond.methodLink "FountainNetModel" 197 Lib.Math.min.name ∈ mTb := (mm 1191 (by decide +kernel) rfl)
theorem ml_lw_70 : Cond.methodLink "FountainNetLaw" 70 me_fm_lasts.1 ∈ mTb := (mm 1192 (by decide +kernel) rfl)
theorem ml_lw_74 : Cond.methodLink "FountainNetLaw" 74 me_fm_view.1 ∈ mTb := (mm 1196 (by decide +kernel) rfl)
theorem ml_lw_79 : Cond.methodLink "FountainNetLaw" 79 me_fm_unview.1 ∈ mTb := (mm 1200 (by decide +kernel) rfl)
theorem ml_lw_83 : Cond.methodLink "FountainNetLaw" 83 me_fm_walk.1 ∈ mTb := (mm 1204 (by decide +kernel) rfl)
theorem ml_fm_240 : Cond.methodLink "FountainNetModel" 240 me_fm_hasWalk.1 ∈ mTb := (mm 1208 (by decide +kernel) rfl)
theorem ml_fm_244 : Cond.methodLink "FountainNetModel" 244 me_fm_walks.1 ∈ mTb := (mm 1212 (by decide +kernel) rfl)
theorem ml_fm_234 : Cond.methodLink "FountainNetModel" 234 me_fm_looksAt.1 ∈ mTb := (mm 1216 (by decide +kernel) rfl)
theorem ml_fm_237 : Cond.methodLink "FountainNetModel" 237 me_fm_viewAt.1 ∈ mTb := (mm 1220 (by decide +kernel) rfl)
theorem ml_lw_87 : Cond.methodLink "FountainNetLaw" 87 me_fm_most.1 ∈ mTb := (mm 1224 (by decide +kernel) rfl)
theorem ml_lw_91 : Cond.methodLink "FountainNetLaw" 91 me_fm_pace.1 ∈ mTb := (mm 1228 (by decide +kernel) rfl)
theorem ml_lw_95 : Cond.methodLink "FountainNetLaw" 95 me_fm_tasks.1 ∈ mTb := (mm 1232 (by decide +kernel) rfl)
theorem ml_fm_255 : Cond.methodLink "FountainNetModel" 255 me_fm_findTasks.1 ∈ mTb := (mm 1236 (by decide +kernel) rfl)
theorem ml_fm_251 : Cond.methodLink "FountainNetModel" 251 me_fm_adds.1 ∈ mTb := (mm 1240 (by decide +kernel) rfl)
theorem ml_lw_99 : Cond.methodLink "FountainNetLaw" 99 me_fm_task.1 ∈ mTb := (mm 1244 (by decide +kernel) rfl)
theorem ml_lw_103 : Cond.methodLink "FountainNetLaw" 103 me_fm_boys.1 ∈ mTb := (mm 1248 (by decide +kernel) rfl)
theorem ml_fm_264 : Cond.methodLink "FountainNetModel" 264 me_fm_leads.1 ∈ mTb := (mm 1252 (by decide +kernel) rfl)
theorem ml_fm_261 : Cond.methodLink "FountainNetModel" 261 me_fm_canFollow.1 ∈ mTb := (mm 1256 (by decide +kernel) rfl)
theorem ml_fm_258 : Cond.methodLink "FountainNetModel" 258 Lib.Math.abs.name ∈ mTb := (mm 1260 (by decide +kernel) rfl)
theorem ml_lw_107 : Cond.methodLink "FountainNetLaw" 107 me_fm_gauge.1 ∈ mTb := (mm 1261 (by decide +kernel) rfl)
theorem ml_lw_111 : Cond.methodLink "FountainNetLaw" 111 me_fm_tol.1 ∈ mTb := (mm 1265 (by decide +kernel) rfl)
theorem ml_lw_115 : Cond.methodLink "FountainNetLaw" 115 me_fm_explain.1 ∈ mTb := (mm 1269 (by decide +kernel) rfl)
theorem ml_fm_295 : Cond.methodLink "FountainNetModel" 295 me_fm_look.1 ∈ mTb := (mm 1273 (by decide +kernel) rfl)
theorem ml_fm_288 : Cond.methodLink "FountainNetModel" 288 me_fm_explains.1 ∈ mTb := (mm 1277 (by decide +kernel) rfl)
theorem ml_fm_291 : Cond.methodLink "FountainNetModel" 291 me_fm_two.1 ∈ mTb := (mm 1281 (by decide +kernel) rfl)
theorem ml_lw_119 : Cond.methodLink "FountainNetLaw" 119 me_fm_explained.1 ∈ mTb := (mm 1285 (by decide +kernel) rfl)
theorem ml_lw_123 : Cond.methodLink "FountainNetLaw" 123 me_fm_rivals.1 ∈ mTb := (mm 1289 (by decide +kernel) rfl)
theorem ml_lw_127 : Cond.methodLink "FountainNetLaw" 127 me_fm_empty.1 ∈ mTb := (mm 1293 (by decide +kernel) rfl)
theorem ml_fm_298 : Cond.methodLink "FountainNetModel" 298 me_fm_mayEmpty.1 ∈ mTb := (mm 1297 (by decide +kernel) rfl)
theorem ml_lw_131 : Cond.methodLink "FountainNetLaw" 131 me_fm_fill.1 ∈ mTb := (mm 1301 (by decide +kernel) rfl)
theorem ml_lw_135 : Cond.methodLink "FountainNetLaw" 135 me_fm_order.1 ∈ mTb := (mm 1305 (by decide +kernel) rfl)
theorem ml_lw_139 : Cond.methodLink "FountainNetLaw" 139 me_fm_tankOf.1 ∈ mTb := (mm 1309 (by decide +kernel) rfl)
theorem ml_lw_143 : Cond.methodLink "FountainNetLaw" 143 me_fm_jointOf.1 ∈ mTb := (mm 1313 (by decide +kernel) rfl)
theorem ml_lw_147 : Cond.methodLink "FountainNetLaw" 147 me_fm_count.1 ∈ mTb := (mm 1317 (by decide +kernel) rfl)
theorem cl_lw_7 : Cond.classLink "FountainNetLaw" 7 "FountainNet" ∈ mTb := (mm 67 (by decide +kernel) rfl)
theorem cl_fn_9 : Cond.classLink "FountainNet" 9 "FountainNet$Garden" ∈ mTb := (mm 75 (by decide +kernel) rfl)
theorem cl_ga_9 : Cond.classLink "FountainNet$Garden" 9 "java/util/ArrayList" ∈ mTb := (mm 81 (by decide +kernel) rfl)
theorem cl_fn_16 : Cond.classLink "FountainNet" 16 "java/util/ArrayList" ∈ mTb := (mm 134 (by decide +kernel) rfl)
theorem cl_fn_23 : Cond.classLink "FountainNet" 23 "FountainNet$Stroll" ∈ mTb := (mm 136 (by decide +kernel) rfl)
theorem cl_fn_32 : Cond.classLink "FountainNet" 32 "FountainNet$TaskList" ∈ mTb := (mm 173 (by decide +kernel) rfl)
theorem cl_fn_39 : Cond.classLink "FountainNet" 39 "FountainNet$LeakSearch" ∈ mTb := (mm 206 (by decide +kernel) rfl)
theorem cl_fn_67 : Cond.classLink "FountainNet" 67 "FountainNet$Tank" ∈ mTb := (mm 270 (by decide +kernel) rfl)
theorem cl_ar_110 : Cond.classLink "java/util/Arrays" 110 "[Ljava/lang/Object;" ∈ mTb := (mm 363 (by decide +kernel) rfl)
theorem cl_ar_2 : Cond.classLink "java/util/Arrays" 2 "java/lang/Object" ∈ mTb := (mm 365 (by decide +kernel) rfl)
theorem cl_al_7 : Cond.classLink "java/util/ArrayList" 7 "java/lang/Object" ∈ mTb := (mm 373 (by decide +kernel) rfl)
theorem cl_ga_32 : Cond.classLink "FountainNet$Garden" 32 "FountainNet$Tank" ∈ mTb := (mm 397 (by decide +kernel) rfl)
theorem cl_ga_34 : Cond.classLink "FountainNet$Garden" 34 "FountainNet$Joint" ∈ mTb := (mm 418 (by decide +kernel) rfl)
theorem cl_fn_101 : Cond.classLink "FountainNet" 101 "FountainNet$Joint" ∈ mTb := (mm 422 (by decide +kernel) rfl)
theorem cl_fn_116 : Cond.classLink "FountainNet" 116 "FountainNet$Jet" ∈ mTb := (mm 497 (by decide +kernel) rfl)
theorem cl_ga_36 : Cond.classLink "FountainNet$Garden" 36 "FountainNet$Jet" ∈ mTb := (mm 537 (by decide +kernel) rfl)
theorem cl_fn_188 : Cond.classLink "FountainNet" 188 "FountainNet$View" ∈ mTb := (mm 646 (by decide +kernel) rfl)
theorem cl_sr_42 : Cond.classLink "FountainNet$Stroll" 42 "FountainNet$View" ∈ mTb := (mm 704 (by decide +kernel) rfl)
theorem cl_sr_94 : Cond.classLink "FountainNet$Stroll" 94 "FountainNet$Tank" ∈ mTb := (mm 714 (by decide +kernel) rfl)
theorem cl_sr_71 : Cond.classLink "FountainNet$Stroll" 71 "FountainNet$Jet" ∈ mTb := (mm 721 (by decide +kernel) rfl)
theorem cl_tl_48 : Cond.classLink "FountainNet$TaskList" 48 "FountainNet$View" ∈ mTb := (mm 748 (by decide +kernel) rfl)
theorem cl_tl_68 : Cond.classLink "FountainNet$TaskList" 68 "FountainNet$Jet" ∈ mTb := (mm 753 (by decide +kernel) rfl)
theorem cl_lk_67 : Cond.classLink "FountainNet$LeakSearch" 67 "FountainNet$Jet" ∈ mTb := (mm 805 (by decide +kernel) rfl)
theorem cl_lk_41 : Cond.classLink "FountainNet$LeakSearch" 41 "FountainNet$Joint" ∈ mTb := (mm 812 (by decide +kernel) rfl)
theorem cl_lw_10 : Cond.classLink "FountainNetLaw" 10 "FountainNetModel" ∈ mTb := (mm 893 (by decide +kernel) rfl)
theorem co_as_200 : Cond.constant "jdk/internal/util/ArraysSupport" 200 (2147483639) ∈ mTb := (mm 338 (by decide +kernel) rfl)
theorem co_fn_307 : Cond.constant "FountainNet" 307 (1000000000) ∈ mTb := (mm 588 (by decide +kernel) rfl)
theorem co_sr_84 : Cond.constant "FountainNet$Stroll" 84 (60000) ∈ mTb := (mm 713 (by decide +kernel) rfl)
theorem co_it_265 : Cond.constant "java/lang/Integer" 265 (1431655765) ∈ mTb := (mm 882 (by decide +kernel) rfl)
theorem co_it_266 : Cond.constant "java/lang/Integer" 266 (858993459) ∈ mTb := (mm 883 (by decide +kernel) rfl)
theorem co_it_267 : Cond.constant "java/lang/Integer" 267 (252645135) ∈ mTb := (mm 884 (by decide +kernel) rfl)
theorem co_fm_132 : Cond.constant "FountainNetModel" 132 (1000000000) ∈ mTb := (mm 1169 (by decide +kernel) rfl)
theorem co_jn_30 : Cond.constantLong "FountainNet$Joint" 30 (100) ∈ mTb := (mm 579 (by decide +kernel) rfl)
theorem co_fm_171 : Cond.constantLong "FountainNetModel" 171 (100) ∈ mTb := (mm 1160 (by decide +kernel) rfl)
theorem in_0 : Cond.instantiable (mkd 0).1 (mkd 0).2.2 ∈ mTb := (mm 68 (by decide +kernel) rfl)
theorem iz_0 : Cond.initialized (mkd 0).1 ∈ mTb := (mm 47 (by decide +kernel) rfl)
theorem in_1 : Cond.instantiable (mkd 1).1 (mkd 1).2.2 ∈ mTb := (mm 76 (by decide +kernel) rfl)
theorem iz_1 : Cond.initialized (mkd 1).1 ∈ mTb := (mm 48 (by decide +kernel) rfl)
theorem in_2 : Cond.instantiable (mkd 2).1 (mkd 2).2.2 ∈ mTb := (mm 82 (by decide +kernel) rfl)
theorem iz_2 : Cond.initialized (mkd 2).1 ∈ mTb := (mm 51 (by decide +kernel) rfl)
theorem in_3 : Cond.instantiable (mkd 3).1 (mkd 3).2.2 ∈ mTb := (mm 137 (by decide +kernel) rfl)
theorem iz_3 : Cond.initialized (mkd 3).1 ∈ mTb := (mm 52 (by decide +kernel) rfl)
theorem in_4 : Cond.instantiable (mkd 4).1 (mkd 4).2.2 ∈ mTb := (mm 174 (by decide +kernel) rfl)
theorem iz_4 : Cond.initialized (mkd 4).1 ∈ mTb := (mm 53 (by decide +kernel) rfl)
theorem in_5 : Cond.instantiable (mkd 5).1 (mkd 5).2.2 ∈ mTb := (mm 207 (by decide +kernel) rfl)
theorem iz_5 : Cond.initialized (mkd 5).1 ∈ mTb := (mm 54 (by decide +kernel) rfl)
theorem in_6 : Cond.instantiable (mkd 6).1 (mkd 6).2.2 ∈ mTb := (mm 271 (by decide +kernel) rfl)
theorem iz_6 : Cond.initialized (mkd 6).1 ∈ mTb := (mm 56 (by decide +kernel) rfl)
theorem in_7 : Cond.instantiable (mkd 7).1 (mkd 7).2.2 ∈ mTb := (mm 423 (by decide +kernel) rfl)
theorem iz_7 : Cond.initialized (mkd 7).1 ∈ mTb := (mm 63 (by decide +kernel) rfl)
theorem in_8 : Cond.instantiable (mkd 8).1 (mkd 8).2.2 ∈ mTb := (mm 498 (by decide +kernel) rfl)
theorem iz_8 : Cond.initialized (mkd 8).1 ∈ mTb := (mm 64 (by decide +kernel) rfl)
theorem in_9 : Cond.instantiable (mkd 9).1 (mkd 9).2.2 ∈ mTb := (mm 647 (by decide +kernel) rfl)
theorem iz_9 : Cond.initialized (mkd 9).1 ∈ mTb := (mm 65 (by decide +kernel) rfl)
theorem in_10 : Cond.instantiable (mkd 10).1 (mkd 10).2.2 ∈ mTb := (mm 894 (by decide +kernel) rfl)
theorem iz_10 : Cond.initialized (mkd 10).1 ∈ mTb := (mm 55 (by decide +kernel) rfl)
theorem ac_int : Cond.arrayClass .int ∈ mTb := (mm 205 (by decide +kernel) rfl)
theorem ac_boolean : Cond.arrayClass .boolean ∈ mTb := (mm 1089 (by decide +kernel) rfl)
theorem fs_al_39 : Cond.fieldLink "java/util/ArrayList" 39 "java/util/ArrayList" "DEFAULTCAPACITY_EMPTY_ELEMENTDATA" "[Ljava/lang/Object;" ∈ mTb := (mm 93 (by decide +kernel) rfl)
theorem fl_al_9 : mFl "java/util/ArrayList" 9 2 0 := ⟨by decide, by decide, "java/util/ArrayList", (mm 95 (by decide +kernel) rfl), Or.inl rfl⟩
theorem fl_al_48 : mFl "java/util/ArrayList" 48 2 1 := ⟨by decide, by decide, "java/util/ArrayList", (mm 96 (by decide +kernel) rfl), Or.inl rfl⟩
theorem fl_ab_7 : mFl "java/util/AbstractList" 7 2 2 := ⟨by decide, by decide, "java/util/AbstractList", (mm 97 (by decide +kernel) rfl), Or.inl rfl⟩
theorem fl_al_63 : mFl "java/util/ArrayList" 63 2 2 := ⟨by decide, by decide, "java/util/ArrayList", (mm 98 (by decide +kernel) rfl), Or.inr (mm 99 (by decide +kernel) rfl)⟩
theorem fl_ga_12 : mFl "FountainNet$Garden" 12 1 0 := ⟨by decide, by decide, "FountainNet$Garden", (mm 107 (by decide +kernel) rfl), Or.inl rfl⟩
theorem fl_fn_60 : mFl "FountainNet" 60 1 0 := ⟨by decide, by decide, "FountainNet$Garden", (mm 108 (by decide +kernel) rfl), Or.inl rfl⟩
theorem fl_sr_91 : mFl "FountainNet$Stroll" 91 1 0 := ⟨by decide, by decide, "FountainNet$Garden", (mm 109 (by decide +kernel) rfl), Or.inl rfl⟩
theorem fl_ga_18 : mFl "FountainNet$Garden" 18 1 1 := ⟨by decide, by decide, "FountainNet$Garden", (mm 110 (by decide +kernel) rfl), Or.inl rfl⟩
theorem fl_lk_26 : mFl "FountainNet$LeakSearch" 26 1 1 := ⟨by decide, by decide, "FountainNet$Garden", (mm 111 (by decide +kernel) rfl), Or.inl rfl⟩
theorem fl_fn_97 : mFl "FountainNet" 97 1 1 := ⟨by decide, by decide, "FountainNet$Garden", (mm 112 (by decide +kernel) rfl), Or.inl rfl⟩
theorem fl_ga_21 : mFl "FountainNet$Garden" 21 1 2 := ⟨by decide, by decide, "FountainNet$Garden", (mm 113 (by decide +kernel) rfl), Or.inl rfl⟩
theorem fl_tl_63 : mFl "FountainNet$TaskList" 63 1 2 := ⟨by decide, by decide, "FountainNet$Garden", (mm 114 (by decide +kernel) rfl), Or.inl rfl⟩
theorem fl_lk_64 : mFl "FountainNet$LeakSearch" 64 1 2 := ⟨by decide, by decide, "FountainNet$Garden", (mm 115 (by decide +kernel) rfl), Or.inl rfl⟩
theorem fl_fn_113 : mFl "FountainNet" 113 1 2 := ⟨by decide, by decide, "FountainNet$Garden", (mm 116 (by decide +kernel) rfl), Or.inl rfl⟩
theorem fl_sr_108 : mFl "FountainNet$Stroll" 108 1 2 := ⟨by decide, by decide, "FountainNet$Garden", (mm 117 (by decide +kernel) rfl), Or.inl rfl⟩
theorem fl_ga_38 : mFl "FountainNet$Garden" 38 1 3 := ⟨by decide, by decide, "FountainNet$Garden", (mm 118 (by decide +kernel) rfl), Or.inl rfl⟩
theorem fl_fn_129 : mFl "FountainNet" 129 1 3 := ⟨by decide, by decide, "FountainNet$Garden", (mm 119 (by decide +kernel) rfl), Or.inl rfl⟩
theorem fl_lk_82 : mFl "FountainNet$LeakSearch" 82 1 3 := ⟨by decide, by decide, "FountainNet$Garden", (mm 120 (by decide +kernel) rfl), Or.inl rfl⟩
theorem fl_sr_23 : mFl "FountainNet$Stroll" 23 1 4 := ⟨by decide, by decide, "FountainNet$Garden", (mm 121 (by decide +kernel) rfl), Or.inl rfl⟩
theorem fl_fn_171 : mFl "FountainNet" 171 1 4 := ⟨by decide, by decide, "FountainNet$Garden", (mm 122 (by decide +kernel) rfl), Or.inl rfl⟩
theorem fl_sr_9 : mFl "FountainNet$Stroll" 9 3 0 := ⟨by decide, by decide, "FountainNet$Stroll", (mm 142 (by decide +kernel) rfl), Or.inl rfl⟩
theorem fl_sr_15 : mFl "FountainNet$Stroll" 15 3 1 := ⟨by decide, by decide, "FountainNet$Stroll", (mm 143 (by decide +kernel) rfl), Or.inl rfl⟩
theorem fl_sr_64 : mFl "FountainNet$Stroll" 64 3 2 := ⟨by decide, by decide, "FountainNet$Stroll", (mm 144 (by decide +kernel) rfl), Or.inl rfl⟩
theorem fl_fn_207 : mFl "FountainNet" 207 3 2 := ⟨by decide, by decide, "FountainNet$Stroll", (mm 145 (by decide +kernel) rfl), Or.inl rfl⟩
theorem fl_sr_67 : mFl "FountainNet$Stroll" 67 3 3 := ⟨by decide, by decide, "FountainNet$Stroll", (mm 146 (by decide +kernel) rfl), Or.inl rfl⟩
theorem fl_fn_210 : mFl "FountainNet" 210 3 3 := ⟨by decide, by decide, "FountainNet$Stroll", (mm 147 (by decide +kernel) rfl), Or.inl rfl⟩
theorem fl_sr_75 : mFl "FountainNet$Stroll" 75 3 4 := ⟨by decide, by decide, "FountainNet$Stroll", (mm 148 (by decide +kernel) rfl), Or.inl rfl⟩
theorem fl_fn_213 : mFl "FountainNet" 213 3 4 := ⟨by decide, by decide, "FountainNet$Stroll", (mm 149 (by decide +kernel) rfl), Or.inl rfl⟩
theorem fl_sr_81 : mFl "FountainNet$Stroll" 81 3 5 := ⟨by decide, by decide, "FountainNet$Stroll", (mm 150 (by decide +kernel) rfl), Or.inl rfl⟩
theorem fl_fn_216 : mFl "FountainNet" 216 3 5 := ⟨by decide, by decide, "FountainNet$Stroll", (mm 151 (by decide +kernel) rfl), Or.inl rfl⟩
theorem fl_sr_85 : mFl "FountainNet$Stroll" 85 3 6 := ⟨by decide, by decide, "FountainNet$Stroll", (mm 152 (by decide +kernel) rfl), Or.inl rfl⟩
theorem fl_fn_219 : mFl "FountainNet" 219 3 6 := ⟨by decide, by decide, "FountainNet$Stroll", (mm 153 (by decide +kernel) rfl), Or.inl rfl⟩
theorem fl_sr_88 : mFl "FountainNet$Stroll" 88 3 7 := ⟨by decide, by decide, "FountainNet$Stroll", (mm 154 (by decide +kernel) rfl), Or.inl rfl⟩
theorem fl_fn_222 : mFl "FountainNet" 222 3 7 := ⟨by decide, by decide, "FountainNet$Stroll", (mm 155 (by decide +kernel) rfl), Or.inl rfl⟩
theorem fl_tl_9 : mFl "FountainNet$TaskList" 9 4 0 := ⟨by decide, by decide, "FountainNet$TaskList", (mm 179 (by decide +kernel) rfl), Or.inl rfl⟩
theorem fl_tl_15 : mFl "FountainNet$TaskList" 15 4 1 := ⟨by decide, by decide, "FountainNet$TaskList", (mm 180 (by decide +kernel) rfl), Or.inl rfl⟩
theorem fl_tl_19 : mFl "FountainNet$TaskList" 19 4 2 := ⟨by decide, by decide, "FountainNet$TaskList", (mm 181 (by decide +kernel) rfl), Or.inl rfl⟩
theorem fl_tl_23 : mFl "FountainNet$TaskList" 23 4 3 := ⟨by decide, by decide, "FountainNet$TaskList", (mm 182 (by decide +kernel) rfl), Or.inl rfl⟩
theorem fl_tl_26 : mFl "FountainNet$TaskList" 26 4 4 := ⟨by decide, by decide, "FountainNet$TaskList", (mm 183 (by decide +kernel) rfl), Or.inl rfl⟩
theorem fl_tl_29 : mFl "FountainNet$TaskList" 29 4 5 := ⟨by decide, by decide, "FountainNet$TaskList", (mm 184 (by decide +kernel) rfl), Or.inl rfl⟩
theorem fl_tl_32 : mFl "FountainNet$TaskList" 32 4 6 := ⟨by decide, by decide, "FountainNet$TaskList", (mm 185 (by decide +kernel) rfl), Or.inl rfl⟩
theorem fl_tl_35 : mFl "FountainNet$TaskList" 35 4 7 := ⟨by decide, by decide, "FountainNet$TaskList", (mm 186 (by decide +kernel) rfl), Or.inl rfl⟩
theorem fl_fn_228 : mFl "FountainNet" 228 4 7 := ⟨by decide, by decide, "FountainNet$TaskList", (mm 187 (by decide +kernel) rfl), Or.inl rfl⟩
theorem fl_lk_9 : mFl "FountainNet$LeakSearch" 9 5 0 := ⟨by decide, by decide, "FountainNet$LeakSearch", (mm 212 (by decide +kernel) rfl), Or.inl rfl⟩
theorem fl_lk_106 : mFl "FountainNet$LeakSearch" 106 5 1 := ⟨by decide, by decide, "FountainNet$LeakSearch", (mm 213 (by decide +kernel) rfl), Or.inl rfl⟩
theorem fl_fn_238 : mFl "FountainNet" 238 5 1 := ⟨by decide, by decide, "FountainNet$LeakSearch", (mm 214 (by decide +kernel) rfl), Or.inl rfl⟩
theorem fl_lk_51 : mFl "FountainNet$LeakSearch" 51 5 2 := ⟨by decide, by decide, "FountainNet$LeakSearch", (mm 215 (by decide +kernel) rfl), Or.inl rfl⟩
theorem fl_fn_244 : mFl "FountainNet" 244 5 2 := ⟨by decide, by decide, "FountainNet$LeakSearch", (mm 216 (by decide +kernel) rfl), Or.inl rfl⟩
theorem fl_lk_55 : mFl "FountainNet$LeakSearch" 55 5 3 := ⟨by decide, by decide, "FountainNet$LeakSearch", (mm 217 (by decide +kernel) rfl), Or.inl rfl⟩
theorem fl_fn_247 : mFl "FountainNet" 247 5 3 := ⟨by decide, by decide, "FountainNet$LeakSearch", (mm 218 (by decide +kernel) rfl), Or.inl rfl⟩
theorem fl_lk_58 : mFl "FountainNet$LeakSearch" 58 5 4 := ⟨by decide, by decide, "FountainNet$LeakSearch", (mm 219 (by decide +kernel) rfl), Or.inl rfl⟩
theorem fl_fn_250 : mFl "FountainNet" 250 5 4 := ⟨by decide, by decide, "FountainNet$LeakSearch", (mm 220 (by decide +kernel) rfl), Or.inl rfl⟩
theorem fl_lk_61 : mFl "FountainNet$LeakSearch" 61 5 5 := ⟨by decide, by decide, "FountainNet$LeakSearch", (mm 221 (by decide +kernel) rfl), Or.inl rfl⟩
theorem fl_fn_253 : mFl "FountainNet" 253 5 5 := ⟨by decide, by decide, "FountainNet$LeakSearch", (mm 222 (by decide +kernel) rfl), Or.inl rfl⟩
theorem fl_fn_12 : mFl "FountainNet" 12 0 0 := ⟨by decide, by decide, "FountainNet", (mm 236 (by decide +kernel) rfl), Or.inl rfl⟩
theorem fl_fn_19 : mFl "FountainNet" 19 0 1 := ⟨by decide, by decide, "FountainNet", (mm 237 (by decide +kernel) rfl), Or.inl rfl⟩
theorem fl_fn_28 : mFl "FountainNet" 28 0 2 := ⟨by decide, by decide, "FountainNet", (mm 238 (by decide +kernel) rfl), Or.inl rfl⟩
theorem fl_fn_35 : mFl "FountainNet" 35 0 3 := ⟨by decide, by decide, "FountainNet", (mm 239 (by decide +kernel) rfl), Or.inl rfl⟩
theorem fl_fn_44 : mFl "FountainNet" 44 0 4 := ⟨by decide, by decide, "FountainNet", (mm 240 (by decide +kernel) rfl), Or.inl rfl⟩
theorem fl_fn_48 : mFl "FountainNet" 48 0 5 := ⟨by decide, by decide, "FountainNet", (mm 241 (by decide +kernel) rfl), Or.inl rfl⟩
theorem fl_fn_52 : mFl "FountainNet" 52 0 6 := ⟨by decide, by decide, "FountainNet", (mm 242 (by decide +kernel) rfl), Or.inl rfl⟩
theorem fl_tk_7 : mFl "FountainNet$Tank" 7 6 0 := ⟨by decide, by decide, "FountainNet$Tank", (mm 276 (by decide +kernel) rfl), Or.inl rfl⟩
theorem fl_fn_288 : mFl "FountainNet" 288 6 0 := ⟨by decide, by decide, "FountainNet$Tank", (mm 277 (by decide +kernel) rfl), Or.inl rfl⟩
theorem fl_tk_13 : mFl "FountainNet$Tank" 13 6 1 := ⟨by decide, by decide, "FountainNet$Tank", (mm 278 (by decide +kernel) rfl), Or.inl rfl⟩
theorem fl_tk_16 : mFl "FountainNet$Tank" 16 6 2 := ⟨by decide, by decide, "FountainNet$Tank", (mm 279 (by decide +kernel) rfl), Or.inl rfl⟩
theorem fl_tk_19 : mFl "FountainNet$Tank" 19 6 3 := ⟨by decide, by decide, "FountainNet$Tank", (mm 280 (by decide +kernel) rfl), Or.inl rfl⟩
theorem fl_tk_22 : mFl "FountainNet$Tank" 22 6 4 := ⟨by decide, by decide, "FountainNet$Tank", (mm 281 (by decide +kernel) rfl), Or.inl rfl⟩
theorem fl_fn_272 : mFl "FountainNet" 272 6 4 := ⟨by decide, by decide, "FountainNet$Tank", (mm 282 (by decide +kernel) rfl), Or.inl rfl⟩
theorem fl_tk_25 : mFl "FountainNet$Tank" 25 6 5 := ⟨by decide, by decide, "FountainNet$Tank", (mm 283 (by decide +kernel) rfl), Or.inl rfl⟩
theorem fl_sr_96 : mFl "FountainNet$Stroll" 96 6 5 := ⟨by decide, by decide, "FountainNet$Tank", (mm 284 (by decide +kernel) rfl), Or.inl rfl⟩
theorem fl_lk_97 : mFl "FountainNet$LeakSearch" 97 6 5 := ⟨by decide, by decide, "FountainNet$Tank", (mm 285 (by decide +kernel) rfl), Or.inl rfl⟩
theorem fl_fn_157 : mFl "FountainNet" 157 6 5 := ⟨by decide, by decide, "FountainNet$Tank", (mm 286 (by decide +kernel) rfl), Or.inl rfl⟩
theorem fl_tk_48 : mFl "FountainNet$Tank" 48 6 6 := ⟨by decide, by decide, "FountainNet$Tank", (mm 287 (by decide +kernel) rfl), Or.inl rfl⟩
theorem fl_fn_275 : mFl "FountainNet" 275 6 6 := ⟨by decide, by decide, "FountainNet$Tank", (mm 288 (by decide +kernel) rfl), Or.inl rfl⟩
theorem fl_tk_51 : mFl "FountainNet$Tank" 51 6 7 := ⟨by decide, by decide, "FountainNet$Tank", (mm 289 (by decide +kernel) rfl), Or.inl rfl⟩
theorem fl_fn_278 : mFl "FountainNet" 278 6 7 := ⟨by decide, by decide, "FountainNet$Tank", (mm 290 (by decide +kernel) rfl), Or.inl rfl⟩
theorem fl_tk_42 : mFl "FountainNet$Tank" 42 6 8 := ⟨by decide, by decide, "FountainNet$Tank", (mm 291 (by decide +kernel) rfl), Or.inl rfl⟩
theorem fl_ga_80 : mFl "FountainNet$Garden" 80 6 8 := ⟨by decide, by decide, "FountainNet$Tank", (mm 292 (by decide +kernel) rfl), Or.inl rfl⟩
theorem fl_fn_281 : mFl "FountainNet" 281 6 8 := ⟨by decide, by decide, "FountainNet$Tank", (mm 293 (by decide +kernel) rfl), Or.inl rfl⟩
theorem fl_sr_99 : mFl "FountainNet$Stroll" 99 6 9 := ⟨by decide, by decide, "FountainNet$Tank", (mm 294 (by decide +kernel) rfl), Or.inl rfl⟩
theorem fl_jn_7 : mFl "FountainNet$Joint" 7 7 0 := ⟨by decide, by decide, "FountainNet$Joint", (mm 428 (by decide +kernel) rfl), Or.inl rfl⟩
theorem fl_tl_78 : mFl "FountainNet$TaskList" 78 7 0 := ⟨by decide, by decide, "FountainNet$Joint", (mm 429 (by decide +kernel) rfl), Or.inl rfl⟩
theorem fl_lk_75 : mFl "FountainNet$LeakSearch" 75 7 0 := ⟨by decide, by decide, "FountainNet$Joint", (mm 430 (by decide +kernel) rfl), Or.inl rfl⟩
theorem fl_ga_92 : mFl "FountainNet$Garden" 92 7 0 := ⟨by decide, by decide, "FountainNet$Joint", (mm 431 (by decide +kernel) rfl), Or.inl rfl⟩
theorem fl_fn_291 : mFl "FountainNet" 291 7 0 := ⟨by decide, by decide, "FountainNet$Joint", (mm 432 (by decide +kernel) rfl), Or.inl rfl⟩
theorem fl_jn_13 : mFl "FountainNet$Joint" 13 7 1 := ⟨by decide, by decide, "FountainNet$Joint", (mm 433 (by decide +kernel) rfl), Or.inl rfl⟩
theorem fl_sr_119 : mFl "FountainNet$Stroll" 119 7 1 := ⟨by decide, by decide, "FountainNet$Joint", (mm 434 (by decide +kernel) rfl), Or.inl rfl⟩
theorem fl_ga_81 : mFl "FountainNet$Garden" 81 7 1 := ⟨by decide, by decide, "FountainNet$Joint", (mm 435 (by decide +kernel) rfl), Or.inl rfl⟩
theorem fl_lk_93 : mFl "FountainNet$LeakSearch" 93 7 1 := ⟨by decide, by decide, "FountainNet$Joint", (mm 436 (by decide +kernel) rfl), Or.inl rfl⟩
theorem fl_fn_153 : mFl "FountainNet" 153 7 1 := ⟨by decide, by decide, "FountainNet$Joint", (mm 437 (by decide +kernel) rfl), Or.inl rfl⟩
theorem fl_jn_17 : mFl "FountainNet$Joint" 17 7 2 := ⟨by decide, by decide, "FountainNet$Joint", (mm 438 (by decide +kernel) rfl), Or.inl rfl⟩
theorem fl_ga_73 : mFl "FountainNet$Garden" 73 7 2 := ⟨by decide, by decide, "FountainNet$Joint", (mm 439 (by decide +kernel) rfl), Or.inl rfl⟩
theorem fl_fn_263 : mFl "FountainNet" 263 7 2 := ⟨by decide, by decide, "FountainNet$Joint", (mm 440 (by decide +kernel) rfl), Or.inl rfl⟩
theorem fl_jn_21 : mFl "FountainNet$Joint" 21 7 3 := ⟨by decide, by decide, "FountainNet$Joint", (mm 441 (by decide +kernel) rfl), Or.inl rfl⟩
theorem fl_ga_101 : mFl "FountainNet$Garden" 101 7 3 := ⟨by decide, by decide, "FountainNet$Joint", (mm 442 (by decide +kernel) rfl), Or.inl rfl⟩
theorem fl_fn_282 : mFl "FountainNet" 282 7 3 := ⟨by decide, by decide, "FountainNet$Joint", (mm 443 (by decide +kernel) rfl), Or.inl rfl⟩
theorem fl_jn_27 : mFl "FountainNet$Joint" 27 7 4 := ⟨by decide, by decide, "FountainNet$Joint", (mm 444 (by decide +kernel) rfl), Or.inl rfl⟩
theorem fl_fn_285 : mFl "FountainNet" 285 7 4 := ⟨by decide, by decide, "FountainNet$Joint", (mm 445 (by decide +kernel) rfl), Or.inl rfl⟩
theorem fl_jn_24 : mFl "FountainNet$Joint" 24 7 5 := ⟨by decide, by decide, "FountainNet$Joint", (mm 446 (by decide +kernel) rfl), Or.inl rfl⟩
theorem fl_fn_139 : mFl "FountainNet" 139 7 5 := ⟨by decide, by decide, "FountainNet$Joint", (mm 447 (by decide +kernel) rfl), Or.inl rfl⟩
theorem fl_ga_63 : mFl "FountainNet$Garden" 63 7 6 := ⟨by decide, by decide, "FountainNet$Joint", (mm 448 (by decide +kernel) rfl), Or.inl rfl⟩
theorem fl_fn_141 : mFl "FountainNet" 141 7 6 := ⟨by decide, by decide, "FountainNet$Joint", (mm 449 (by decide +kernel) rfl), Or.inl rfl⟩
theorem fl_lk_72 : mFl "FountainNet$LeakSearch" 72 7 7 := ⟨by decide, by decide, "FountainNet$Joint", (mm 450 (by decide +kernel) rfl), Or.inl rfl⟩
theorem fl_ga_60 : mFl "FountainNet$Garden" 60 7 7 := ⟨by decide, by decide, "FountainNet$Joint", (mm 451 (by decide +kernel) rfl), Or.inl rfl⟩
theorem fl_jn_35 : mFl "FountainNet$Joint" 35 7 8 := ⟨by decide, by decide, "FountainNet$Joint", (mm 452 (by decide +kernel) rfl), Or.inl rfl⟩
theorem fl_fn_100 : mFl "FountainNet" 100 7 8 := ⟨by decide, by decide, "FountainNet$Joint", (mm 453 (by decide +kernel) rfl), Or.inl rfl⟩
theorem fl_ga_49 : mFl "FountainNet$Garden" 49 7 8 := ⟨by decide, by decide, "FountainNet$Joint", (mm 454 (by decide +kernel) rfl), Or.inl rfl⟩
theorem fl_jn_48 : mFl "FountainNet$Joint" 48 7 9 := ⟨by decide, by decide, "FountainNet$Joint", (mm 455 (by decide +kernel) rfl), Or.inl rfl⟩
theorem fl_fn_109 : mFl "FountainNet" 109 7 9 := ⟨by decide, by decide, "FountainNet$Joint", (mm 456 (by decide +kernel) rfl), Or.inl rfl⟩
theorem fl_jn_32 : mFl "FountainNet$Joint" 32 7 10 := ⟨by decide, by decide, "FountainNet$Joint", (mm 457 (by decide +kernel) rfl), Or.inl rfl⟩
theorem fl_ga_53 : mFl "FountainNet$Garden" 53 7 10 := ⟨by decide, by decide, "FountainNet$Joint", (mm 458 (by decide +kernel) rfl), Or.inl rfl⟩
theorem fl_fn_147 : mFl "FountainNet" 147 7 10 := ⟨by decide, by decide, "FountainNet$Joint", (mm 459 (by decide +kernel) rfl), Or.inl rfl⟩
theorem fl_jn_45 : mFl "FountainNet$Joint" 45 7 11 := ⟨by decide, by decide, "FountainNet$Joint", (mm 460 (by decide +kernel) rfl), Or.inl rfl⟩
theorem fl_ga_77 : mFl "FountainNet$Garden" 77 7 11 := ⟨by decide, by decide, "FountainNet$Joint", (mm 461 (by decide +kernel) rfl), Or.inl rfl⟩
theorem fl_ga_95 : mFl "FountainNet$Garden" 95 7 12 := ⟨by decide, by decide, "FountainNet$Joint", (mm 462 (by decide +kernel) rfl), Or.inl rfl⟩
theorem fl_ga_98 : mFl "FountainNet$Garden" 98 7 13 := ⟨by decide, by decide, "FountainNet$Joint", (mm 463 (by decide +kernel) rfl), Or.inl rfl⟩
theorem fl_je_7 : mFl "FountainNet$Jet" 7 8 0 := ⟨by decide, by decide, "FountainNet$Jet", (mm 503 (by decide +kernel) rfl), Or.inl rfl⟩
theorem fl_sr_70 : mFl "FountainNet$Stroll" 70 8 0 := ⟨by decide, by decide, "FountainNet$Jet", (mm 504 (by decide +kernel) rfl), Or.inl rfl⟩
theorem fl_fn_292 : mFl "FountainNet" 292 8 0 := ⟨by decide, by decide, "FountainNet$Jet", (mm 505 (by decide +kernel) rfl), Or.inl rfl⟩
theorem fl_je_13 : mFl "FountainNet$Jet" 13 8 1 := ⟨by decide, by decide, "FountainNet$Jet", (mm 506 (by decide +kernel) rfl), Or.inl rfl⟩
theorem fl_fn_136 : mFl "FountainNet" 136 8 1 := ⟨by decide, by decide, "FountainNet$Jet", (mm 507 (by decide +kernel) rfl), Or.inl rfl⟩
theorem fl_je_16 : mFl "FountainNet$Jet" 16 8 2 := ⟨by decide, by decide, "FountainNet$Jet", (mm 508 (by decide +kernel) rfl), Or.inl rfl⟩
theorem fl_tl_74 : mFl "FountainNet$TaskList" 74 8 2 := ⟨by decide, by decide, "FountainNet$Jet", (mm 509 (by decide +kernel) rfl), Or.inl rfl⟩
theorem fl_fn_125 : mFl "FountainNet" 125 8 2 := ⟨by decide, by decide, "FountainNet$Jet", (mm 510 (by decide +kernel) rfl), Or.inl rfl⟩
theorem fl_sr_115 : mFl "FountainNet$Stroll" 115 8 2 := ⟨by decide, by decide, "FountainNet$Jet", (mm 511 (by decide +kernel) rfl), Or.inl rfl⟩
theorem fl_lk_89 : mFl "FountainNet$LeakSearch" 89 8 2 := ⟨by decide, by decide, "FountainNet$Jet", (mm 512 (by decide +kernel) rfl), Or.inl rfl⟩
theorem fl_je_20 : mFl "FountainNet$Jet" 20 8 3 := ⟨by decide, by decide, "FountainNet$Jet", (mm 513 (by decide +kernel) rfl), Or.inl rfl⟩
theorem fl_jn_58 : mFl "FountainNet$Joint" 58 8 3 := ⟨by decide, by decide, "FountainNet$Jet", (mm 514 (by decide +kernel) rfl), Or.inl rfl⟩
theorem fl_je_23 : mFl "FountainNet$Jet" 23 8 4 := ⟨by decide, by decide, "FountainNet$Jet", (mm 515 (by decide +kernel) rfl), Or.inl rfl⟩
theorem fl_lk_69 : mFl "FountainNet$LeakSearch" 69 8 4 := ⟨by decide, by decide, "FountainNet$Jet", (mm 516 (by decide +kernel) rfl), Or.inl rfl⟩
theorem fl_fn_235 : mFl "FountainNet" 235 8 4 := ⟨by decide, by decide, "FountainNet$Jet", (mm 517 (by decide +kernel) rfl), Or.inl rfl⟩
theorem fl_vw_7 : mFl "FountainNet$View" 7 9 0 := ⟨by decide, by decide, "FountainNet$View", (mm 652 (by decide +kernel) rfl), Or.inl rfl⟩
theorem fl_tl_57 : mFl "FountainNet$TaskList" 57 9 0 := ⟨by decide, by decide, "FountainNet$View", (mm 653 (by decide +kernel) rfl), Or.inl rfl⟩
theorem fl_sr_53 : mFl "FountainNet$Stroll" 53 9 0 := ⟨by decide, by decide, "FountainNet$View", (mm 654 (by decide +kernel) rfl), Or.inl rfl⟩
theorem fl_vw_13 : mFl "FountainNet$View" 13 9 1 := ⟨by decide, by decide, "FountainNet$View", (mm 655 (by decide +kernel) rfl), Or.inl rfl⟩
theorem fl_tl_50 : mFl "FountainNet$TaskList" 50 9 1 := ⟨by decide, by decide, "FountainNet$View", (mm 656 (by decide +kernel) rfl), Or.inl rfl⟩
theorem fl_sr_50 : mFl "FountainNet$Stroll" 50 9 1 := ⟨by decide, by decide, "FountainNet$View", (mm 657 (by decide +kernel) rfl), Or.inl rfl⟩
theorem fl_vw_16 : mFl "FountainNet$View" 16 9 2 := ⟨by decide, by decide, "FountainNet$View", (mm 658 (by decide +kernel) rfl), Or.inl rfl⟩
theorem fl_tl_60 : mFl "FountainNet$TaskList" 60 9 2 := ⟨by decide, by decide, "FountainNet$View", (mm 659 (by decide +kernel) rfl), Or.inl rfl⟩
theorem fl_sr_44 : mFl "FountainNet$Stroll" 44 9 2 := ⟨by decide, by decide, "FountainNet$View", (mm 660 (by decide +kernel) rfl), Or.inl rfl⟩
theorem fl_fn_190 : mFl "FountainNet" 190 9 2 := ⟨by decide, by decide, "FountainNet$View", (mm 661 (by decide +kernel) rfl), Or.inl rfl⟩
theorem fl_vw_19 : mFl "FountainNet$View" 19 9 3 := ⟨by decide, by decide, "FountainNet$View", (mm 662 (by decide +kernel) rfl), Or.inl rfl⟩
theorem fl_sr_128 : mFl "FountainNet$Stroll" 128 9 3 := ⟨by decide, by decide, "FountainNet$View", (mm 663 (by decide +kernel) rfl), Or.inl rfl⟩
theorem fl_fm_9 : mFl "FountainNetModel" 9 10 0 := ⟨by decide, by decide, "FountainNetModel", (mm 899 (by decide +kernel) rfl), Or.inl rfl⟩
theorem fl_fm_206 : mFl "FountainNetModel" 206 10 1 := ⟨by decide, by decide, "FountainNetModel", (mm 900 (by decide +kernel) rfl), Or.inl rfl⟩
theorem fl_fm_141 : mFl "FountainNetModel" 141 10 2 := ⟨by decide, by decide, "FountainNetModel", (mm 901 (by decide +kernel) rfl), Or.inl rfl⟩
theorem fl_fm_155 : mFl "FountainNetModel" 155 10 3 := ⟨by decide, by decide, "FountainNetModel", (mm 902 (by decide +kernel) rfl), Or.inl rfl⟩
theorem fl_fm_158 : mFl "FountainNetModel" 158 10 4 := ⟨by decide, by decide, "FountainNetModel", (mm 903 (by decide +kernel) rfl), Or.inl rfl⟩
theorem fl_fm_213 : mFl "FountainNetModel" 213 10 5 := ⟨by decide, by decide, "FountainNetModel", (mm 904 (by decide +kernel) rfl), Or.inl rfl⟩
theorem fl_fm_13 : mFl "FountainNetModel" 13 10 6 := ⟨by decide, by decide, "FountainNetModel", (mm 905 (by decide +kernel) rfl), Or.inl rfl⟩
theorem fl_fm_267 : mFl "FountainNetModel" 267 10 7 := ⟨by decide, by decide, "FountainNetModel", (mm 906 (by decide +kernel) rfl), Or.inl rfl⟩
theorem fl_fm_17 : mFl "FountainNetModel" 17 10 8 := ⟨by decide, by decide, "FountainNetModel", (mm 907 (by decide +kernel) rfl), Or.inl rfl⟩
theorem fl_fm_20 : mFl "FountainNetModel" 20 10 9 := ⟨by decide, by decide, "FountainNetModel", (mm 908 (by decide +kernel) rfl), Or.inl rfl⟩
theorem fl_fm_23 : mFl "FountainNetModel" 23 10 10 := ⟨by decide, by decide, "FountainNetModel", (mm 909 (by decide +kernel) rfl), Or.inl rfl⟩
theorem fl_fm_26 : mFl "FountainNetModel" 26 10 11 := ⟨by decide, by decide, "FountainNetModel", (mm 910 (by decide +kernel) rfl), Or.inl rfl⟩
theorem fl_fm_29 : mFl "FountainNetModel" 29 10 12 := ⟨by decide, by decide, "FountainNetModel", (mm 911 (by decide +kernel) rfl), Or.inl rfl⟩
theorem fl_fm_32 : mFl "FountainNetModel" 32 10 13 := ⟨by decide, by decide, "FountainNetModel", (mm 912 (by decide +kernel) rfl), Or.inl rfl⟩
theorem fl_fm_35 : mFl "FountainNetModel" 35 10 14 := ⟨by decide, by decide, "FountainNetModel", (mm 913 (by decide +kernel) rfl), Or.inl rfl⟩
theorem fl_fm_38 : mFl "FountainNetModel" 38 10 15 := ⟨by decide, by decide, "FountainNetModel", (mm 914 (by decide +kernel) rfl), Or.inl rfl⟩
theorem fl_fm_41 : mFl "FountainNetModel" 41 10 16 := ⟨by decide, by decide, "FountainNetModel", (mm 915 (by decide +kernel) rfl), Or.inl rfl⟩
theorem fl_fm_44 : mFl "FountainNetModel" 44 10 17 := ⟨by decide, by decide, "FountainNetModel", (mm 916 (by decide +kernel) rfl), Or.inl rfl⟩
theorem fl_fm_47 : mFl "FountainNetModel" 47 10 18 := ⟨by decide, by decide, "FountainNetModel", (mm 917 (by decide +kernel) rfl), Or.inl rfl⟩
theorem fl_fm_50 : mFl "FountainNetModel" 50 10 19 := ⟨by decide, by decide, "FountainNetModel", (mm 918 (by decide +kernel) rfl), Or.inl rfl⟩
theorem fl_fm_53 : mFl "FountainNetModel" 53 10 20 := ⟨by decide, by decide, "FountainNetModel", (mm 919 (by decide +kernel) rfl), Or.inl rfl⟩
theorem fl_fm_56 : mFl "FountainNetModel" 56 10 21 := ⟨by decide, by decide, "FountainNetModel", (mm 920 (by decide +kernel) rfl), Or.inl rfl⟩
theorem fl_fm_59 : mFl "FountainNetModel" 59 10 22 := ⟨by decide, by decide, "FountainNetModel", (mm 921 (by decide +kernel) rfl), Or.inl rfl⟩
theorem fl_fm_63 : mFl "FountainNetModel" 63 10 23 := ⟨by decide, by decide, "FountainNetModel", (mm 922 (by decide +kernel) rfl), Or.inl rfl⟩
theorem fl_fm_66 : mFl "FountainNetModel" 66 10 24 := ⟨by decide, by decide, "FountainNetModel", (mm 923 (by decide +kernel) rfl), Or.inl rfl⟩
theorem fl_fm_69 : mFl "FountainNetModel" 69 10 25 := ⟨by decide, by decide, "FountainNetModel", (mm 924 (by decide +kernel) rfl), Or.inl rfl⟩
theorem fl_fm_72 : mFl "FountainNetModel" 72 10 26 := ⟨by decide, by decide, "FountainNetModel", (mm 925 (by decide +kernel) rfl), Or.inl rfl⟩
theorem fl_fm_75 : mFl "FountainNetModel" 75 10 27 := ⟨by decide, by decide, "FountainNetModel", (mm 926 (by decide +kernel) rfl), Or.inl rfl⟩
theorem fl_fm_78 : mFl "FountainNetModel" 78 10 28 := ⟨by decide, by decide, "FountainNetModel", (mm 927 (by decide +kernel) rfl), Or.inl rfl⟩
theorem fl_fm_81 : mFl "FountainNetModel" 81 10 29 := ⟨by decide, by decide, "FountainNetModel", (mm 928 (by decide +kernel) rfl), Or.inl rfl⟩
theorem fl_fm_84 : mFl "FountainNetModel" 84 10 30 := ⟨by decide, by decide, "FountainNetModel", (mm 929 (by decide +kernel) rfl), Or.inl rfl⟩
theorem fl_fm_87 : mFl "FountainNetModel" 87 10 31 := ⟨by decide, by decide, "FountainNetModel", (mm 930 (by decide +kernel) rfl), Or.inl rfl⟩
theorem fl_fm_90 : mFl "FountainNetModel" 90 10 32 := ⟨by decide, by decide, "FountainNetModel", (mm 931 (by decide +kernel) rfl), Or.inl rfl⟩
theorem fl_fm_93 : mFl "FountainNetModel" 93 10 33 := ⟨by decide, by decide, "FountainNetModel", (mm 932 (by decide +kernel) rfl), Or.inl rfl⟩
theorem fl_fm_96 : mFl "FountainNetModel" 96 10 34 := ⟨by decide, by decide, "FountainNetModel", (mm 933 (by decide +kernel) rfl), Or.inl rfl⟩
theorem fl_fm_99 : mFl "FountainNetModel" 99 10 35 := ⟨by decide, by decide, "FountainNetModel", (mm 934 (by decide +kernel) rfl), Or.inl rfl⟩
theorem fl_fm_102 : mFl "FountainNetModel" 102 10 36 := ⟨by decide, by decide, "FountainNetModel", (mm 935 (by decide +kernel) rfl), Or.inl rfl⟩
theorem fl_fm_105 : mFl "FountainNetModel" 105 10 37 := ⟨by decide, by decide, "FountainNetModel", (mm 936 (by decide +kernel) rfl), Or.inl rfl⟩
theorem fl_fm_108 : mFl "FountainNetModel" 108 10 38 := ⟨by decide, by decide, "FountainNetModel", (mm 937 (by decide +kernel) rfl), Or.inl rfl⟩
theorem fl_fm_111 : mFl "FountainNetModel" 111 10 39 := ⟨by decide, by decide, "FountainNetModel", (mm 938 (by decide +kernel) rfl), Or.inl rfl⟩
theorem fl_fm_194 : mFl "FountainNetModel" 194 10 40 := ⟨by decide, by decide, "FountainNetModel", (mm 939 (by decide +kernel) rfl), Or.inl rfl⟩
theorem fl_fm_200 : mFl "FountainNetModel" 200 10 41 := ⟨by decide, by decide, "FountainNetModel", (mm 940 (by decide +kernel) rfl), Or.inl rfl⟩
theorem fl_fm_203 : mFl "FountainNetModel" 203 10 42 := ⟨by decide, by decide, "FountainNetModel", (mm 941 (by decide +kernel) rfl), Or.inl rfl⟩
theorem fl_fm_216 : mFl "FountainNetModel" 216 10 43 := ⟨by decide, by decide, "FountainNetModel", (mm 942 (by decide +kernel) rfl), Or.inl rfl⟩
theorem fl_fm_219 : mFl "FountainNetModel" 219 10 44 := ⟨by decide, by decide, "FountainNetModel", (mm 943 (by decide +kernel) rfl), Or.inl rfl⟩
theorem fl_fm_222 : mFl "FountainNetModel" 222 10 45 := ⟨by decide, by decide, "FountainNetModel", (mm 944 (by decide +kernel) rfl), Or.inl rfl⟩
theorem fl_fm_225 : mFl "FountainNetModel" 225 10 46 := ⟨by decide, by decide, "FountainNetModel", (mm 945 (by decide +kernel) rfl), Or.inl rfl⟩
theorem fl_fm_228 : mFl "FountainNetModel" 228 10 47 := ⟨by decide, by decide, "FountainNetModel", (mm 946 (by decide +kernel) rfl), Or.inl rfl⟩
theorem fl_fm_231 : mFl "FountainNetModel" 231 10 48 := ⟨by decide, by decide, "FountainNetModel", (mm 947 (by decide +kernel) rfl), Or.inl rfl⟩
theorem fl_fm_114 : mFl "FountainNetModel" 114 10 49 := ⟨by decide, by decide, "FountainNetModel", (mm 948 (by decide +kernel) rfl), Or.inl rfl⟩
theorem fl_fm_117 : mFl "FountainNetModel" 117 10 50 := ⟨by decide, by decide, "FountainNetModel", (mm 949 (by decide +kernel) rfl), Or.inl rfl⟩
theorem fl_fm_120 : mFl "FountainNetModel" 120 10 51 := ⟨by decide, by decide, "FountainNetModel", (mm 950 (by decide +kernel) rfl), Or.inl rfl⟩
theorem fl_fm_248 : mFl "FountainNetModel" 248 10 52 := ⟨by decide, by decide, "FountainNetModel", (mm 951 (by decide +kernel) rfl), Or.inl rfl⟩
theorem fl_fm_123 : mFl "FountainNetModel" 123 10 53 := ⟨by decide, by decide, "FountainNetModel", (mm 952 (by decide +kernel) rfl), Or.inl rfl⟩
theorem fl_fm_126 : mFl "FountainNetModel" 126 10 54 := ⟨by decide, by decide, "FountainNetModel", (mm 953 (by decide +kernel) rfl), Or.inl rfl⟩
theorem fl_fm_137 : mFl "FountainNetModel" 137 10 55 := ⟨by decide, by decide, "FountainNetModel", (mm 954 (by decide +kernel) rfl), Or.inl rfl⟩
theorem fl_fm_270 : mFl "FountainNetModel" 270 10 56 := ⟨by decide, by decide, "FountainNetModel", (mm 955 (by decide +kernel) rfl), Or.inl rfl⟩
theorem fl_fm_273 : mFl "FountainNetModel" 273 10 57 := ⟨by decide, by decide, "FountainNetModel", (mm 956 (by decide +kernel) rfl), Or.inl rfl⟩
theorem fl_fm_276 : mFl "FountainNetModel" 276 10 58 := ⟨by decide, by decide, "FountainNetModel", (mm 957 (by decide +kernel) rfl), Or.inl rfl⟩
theorem fl_fm_279 : mFl "FountainNetModel" 279 10 59 := ⟨by decide, by decide, "FountainNetModel", (mm 958 (by decide +kernel) rfl), Or.inl rfl⟩
theorem fl_fm_282 : mFl "FountainNetModel" 282 10 60 := ⟨by decide, by decide, "FountainNetModel", (mm 959 (by decide +kernel) rfl), Or.inl rfl⟩
theorem fl_fm_285 : mFl "FountainNetModel" 285 10 61 := ⟨by decide, by decide, "FountainNetModel", (mm 960 (by decide +kernel) rfl), Or.inl rfl⟩
theorem fl_fm_129 : mFl "FountainNetModel" 129 10 62 := ⟨by decide, by decide, "FountainNetModel", (mm 961 (by decide +kernel) rfl), Or.inl rfl⟩
end
section
/-! printed by my own program: decode rows -/
theorem k_fn_init_0 : decode me_fn_init.2.1 0 = .ok (.aload_n 0, 1) := by decide +kernel
theorem k_fn_init_1 : decode me_fn_init.2.1 1 = .ok (.invokespecial 3, 3) := by decide +kernel
theorem k_fn_init_4 : decode me_fn_init.2.1 4 = .ok (.aload_n 0, 1) := by decide +kernel
theorem k_fn_init_5 : decode me_fn_init.2.1 5 = .ok (.new 9, 3) := by decide +kernel
theorem k_fn_init_8 : decode me_fn_init.2.1 8 = .ok (.dup, 1) := by decide +kernel
theorem k_fn_init_9 : decode me_fn_init.2.1 9 = .ok (.invokespecial 11, 3) := by decide +kernel
theorem k_fn_init_12 : decode me_fn_init.2.1 12 = .ok (.putfield 12, 3) := by decide +kernel
theorem k_fn_init_15 : decode me_fn_init.2.1 15 = .ok (.aload_n 0, 1) := by decide +kernel
theorem k_fn_init_16 : decode me_fn_init.2.1 16 = .ok (.new 16, 3) := by decide +kernel
theorem k_fn_init_19 : decode me_fn_init.2.1 19 = .ok (.dup, 1) := by decide +kernel
theorem k_fn_init_20 : decode me_fn_init.2.1 20 = .ok (.invokespecial 18, 3) := by decide +kernel
theorem k_fn_init_23 : decode me_fn_init.2.1 23 = .ok (.putfield 19, 3) := by decide +kernel
theorem k_fn_init_26 : decode me_fn_init.2.1 26 = .ok (.aload_n 0, 1) := by decide +kernel
theorem k_fn_init_27 : decode me_fn_init.2.1 27 = .ok (.new 23, 3) := by decide +kernel
theorem k_fn_init_30 : decode me_fn_init.2.1 30 = .ok (.dup, 1) := by decide +kernel
theorem k_fn_init_31 : decode me_fn_init.2.1 31 = .ok (.aload_n 0, 1) := by decide +kernel
theorem k_fn_init_32 : decode me_fn_init.2.1 32 = .ok (.getfield 12, 3) := by decide +kernel
theorem k_fn_init_35 : decode me_fn_init.2.1 35 = .ok (.aload_n 0, 1) := by decide +kernel
theorem k_fn_init_36 : decode me_fn_init.2.1 36 = .ok (.getfield 19, 3) := by decide +kernel
theorem k_fn_init_39 : decode me_fn_init.2.1 39 = .ok (.invokespecial 25, 3) := by decide +kernel
theorem k_fn_init_42 : decode me_fn_init.2.1 42 = .ok (.putfield 28, 3) := by decide +kernel
theorem k_fn_init_45 : decode me_fn_init.2.1 45 = .ok (.aload_n 0, 1) := by decide +kernel
theorem k_fn_init_46 : decode me_fn_init.2.1 46 = .ok (.new 32, 3) := by decide +kernel
theorem k_fn_init_49 : decode me_fn_init.2.1 49 = .ok (.dup, 1) := by decide +kernel
theorem k_fn_init_50 : decode me_fn_init.2.1 50 = .ok (.aload_n 0, 1) := by decide +kernel
theorem k_fn_init_51 : decode me_fn_init.2.1 51 = .ok (.getfield 12, 3) := by decide +kernel
theorem k_fn_init_54 : decode me_fn_init.2.1 54 = .ok (.aload_n 0, 1) := by decide +kernel
theorem k_fn_init_55 : decode me_fn_init.2.1 55 = .ok (.getfield 19, 3) := by decide +kernel
theorem k_fn_init_58 : decode me_fn_init.2.1 58 = .ok (.invokespecial 34, 3) := by decide +kernel
theorem k_fn_init_61 : decode me_fn_init.2.1 61 = .ok (.putfield 35, 3) := by decide +kernel
theorem k_fn_init_64 : decode me_fn_init.2.1 64 = .ok (.aload_n 0, 1) := by decide +kernel
theorem k_fn_init_65 : decode me_fn_init.2.1 65 = .ok (.new 39, 3) := by decide +kernel
theorem k_fn_init_68 : decode me_fn_init.2.1 68 = .ok (.dup, 1) := by decide +kernel
theorem k_fn_init_69 : decode me_fn_init.2.1 69 = .ok (.aload_n 0, 1) := by decide +kernel
theorem k_fn_init_70 : decode me_fn_init.2.1 70 = .ok (.getfield 12, 3) := by decide +kernel
theorem k_fn_init_73 : decode me_fn_init.2.1 73 = .ok (.invokespecial 41, 3) := by decide +kernel
theorem k_fn_init_76 : decode me_fn_init.2.1 76 = .ok (.putfield 44, 3) := by decide +kernel
theorem k_fn_init_79 : decode me_fn_init.2.1 79 = .ok (.aload_n 0, 1) := by decide +kernel
theorem k_fn_init_80 : decode me_fn_init.2.1 80 = .ok (.bipush 7, 2) := by decide +kernel
theorem k_fn_init_82 : decode me_fn_init.2.1 82 = .ok (.newarray .int, 2) := by decide +kernel
theorem k_fn_init_84 : decode me_fn_init.2.1 84 = .ok (.putfield 48, 3) := by decide +kernel
theorem k_fn_init_87 : decode me_fn_init.2.1 87 = .ok (.aload_n 0, 1) := by decide +kernel
theorem k_fn_init_88 : decode me_fn_init.2.1 88 = .ok (.iconst 1, 1) := by decide +kernel
theorem k_fn_init_89 : decode me_fn_init.2.1 89 = .ok (.putfield 52, 3) := by decide +kernel
theorem k_fn_init_92 : decode me_fn_init.2.1 92 = .ok (.return_, 1) := by decide +kernel
theorem k_ga_init_0 : decode me_ga_init.2.1 0 = .ok (.aload_n 0, 1) := by decide +kernel
theorem k_ga_init_1 : decode me_ga_init.2.1 1 = .ok (.invokespecial 3, 3) := by decide +kernel
theorem k_ga_init_4 : decode me_ga_init.2.1 4 = .ok (.aload_n 0, 1) := by decide +kernel
theorem k_ga_init_5 : decode me_ga_init.2.1 5 = .ok (.new 9, 3) := by decide +kernel
theorem k_ga_init_8 : decode me_ga_init.2.1 8 = .ok (.dup, 1) := by decide +kernel
theorem k_ga_init_9 : decode me_ga_init.2.1 9 = .ok (.invokespecial 11, 3) := by decide +kernel
theorem k_ga_init_12 : decode me_ga_init.2.1 12 = .ok (.putfield 12, 3) := by decide +kernel
theorem k_ga_init_15 : decode me_ga_init.2.1 15 = .ok (.aload_n 0, 1) := by decide +kernel
theorem k_ga_init_16 : decode me_ga_init.2.1 16 = .ok (.new 9, 3) := by decide +kernel
theorem k_ga_init_19 : decode me_ga_init.2.1 19 = .ok (.dup, 1) := by decide +kernel
theorem k_ga_init_20 : decode me_ga_init.2.1 20 = .ok (.invokespecial 11, 3) := by decide +kernel
theorem k_ga_init_23 : decode me_ga_init.2.1 23 = .ok (.putfield 18, 3) := by decide +kernel
theorem k_ga_init_26 : decode me_ga_init.2.1 26 = .ok (.aload_n 0, 1) := by decide +kernel
theorem k_ga_init_27 : decode me_ga_init.2.1 27 = .ok (.new 9, 3) := by decide +kernel
theorem k_ga_init_30 : decode me_ga_init.2.1 30 = .ok (.dup, 1) := by decide +kernel
theorem k_ga_init_31 : decode me_ga_init.2.1 31 = .ok (.invokespecial 11, 3) := by decide +kernel
theorem k_ga_init_34 : decode me_ga_init.2.1 34 = .ok (.putfield 21, 3) := by decide +kernel
theorem k_ga_init_37 : decode me_ga_init.2.1 37 = .ok (.return_, 1) := by decide +kernel
theorem k_al_init_0 : decode me_al_init.2.1 0 = .ok (.aload_n 0, 1) := by decide +kernel
theorem k_al_init_1 : decode me_al_init.2.1 1 = .ok (.invokespecial 1, 3) := by decide +kernel
theorem k_al_init_4 : decode me_al_init.2.1 4 = .ok (.aload_n 0, 1) := by decide +kernel
theorem k_al_init_5 : decode me_al_init.2.1 5 = .ok (.getstatic 39, 3) := by decide +kernel
theorem k_al_init_8 : decode me_al_init.2.1 8 = .ok (.putfield 9, 3) := by decide +kernel
theorem k_al_init_11 : decode me_al_init.2.1 11 = .ok (.return_, 1) := by decide +kernel
theorem k_ab_init_0 : decode me_ab_init.2.1 0 = .ok (.aload_n 0, 1) := by decide +kernel
theorem k_ab_init_1 : decode me_ab_init.2.1 1 = .ok (.invokespecial 1, 3) := by decide +kernel
theorem k_ab_init_4 : decode me_ab_init.2.1 4 = .ok (.aload_n 0, 1) := by decide +kernel
theorem k_ab_init_5 : decode me_ab_init.2.1 5 = .ok (.iconst 0, 1) := by decide +kernel
theorem k_ab_init_6 : decode me_ab_init.2.1 6 = .ok (.putfield 7, 3) := by decide +kernel
theorem k_ab_init_9 : decode me_ab_init.2.1 9 = .ok (.return_, 1) := by decide +kernel
theorem k_ac_init_0 : decode me_ac_init.2.1 0 = .ok (.aload_n 0, 1) := by decide +kernel
theorem k_ac_init_1 : decode me_ac_init.2.1 1 = .ok (.invokespecial 1, 3) := by decide +kernel
theorem k_ac_init_4 : decode me_ac_init.2.1 4 = .ok (.return_, 1) := by decide +kernel
theorem k_sr_init_0 : decode me_sr_init.2.1 0 = .ok (.aload_n 0, 1) := by decide +kernel
theorem k_sr_init_1 : decode me_sr_init.2.1 1 = .ok (.invokespecial 3, 3) := by decide +kernel
theorem k_sr_init_4 : decode me_sr_init.2.1 4 = .ok (.aload_n 0, 1) := by decide +kernel
theorem k_sr_init_5 : decode me_sr_init.2.1 5 = .ok (.aload_n 1, 1) := by decide +kernel
theorem k_sr_init_6 : decode me_sr_init.2.1 6 = .ok (.putfield 9, 3) := by decide +kernel
theorem k_sr_init_9 : decode me_sr_init.2.1 9 = .ok (.aload_n 0, 1) := by decide +kernel
theorem k_sr_init_10 : decode me_sr_init.2.1 10 = .ok (.aload_n 2, 1) := by decide +kernel
theorem k_sr_init_11 : decode me_sr_init.2.1 11 = .ok (.putfield 15, 3) := by decide +kernel
theorem k_sr_init_14 : decode me_sr_init.2.1 14 = .ok (.return_, 1) := by decide +kernel
theorem k_tl_init_0 : decode me_tl_init.2.1 0 = .ok (.aload_n 0, 1) := by decide +kernel
theorem k_tl_init_1 : decode me_tl_init.2.1 1 = .ok (.invokespecial 3, 3) := by decide +kernel
theorem k_tl_init_4 : decode me_tl_init.2.1 4 = .ok (.aload_n 0, 1) := by decide +kernel
theorem k_tl_init_5 : decode me_tl_init.2.1 5 = .ok (.aload_n 1, 1) := by decide +kernel
theorem k_tl_init_6 : decode me_tl_init.2.1 6 = .ok (.putfield 9, 3) := by decide +kernel
theorem k_tl_init_9 : decode me_tl_init.2.1 9 = .ok (.aload_n 0, 1) := by decide +kernel
theorem k_tl_init_10 : decode me_tl_init.2.1 10 = .ok (.aload_n 2, 1) := by decide +kernel
theorem k_tl_init_11 : decode me_tl_init.2.1 11 = .ok (.putfield 15, 3) := by decide +kernel
theorem k_tl_init_14 : decode me_tl_init.2.1 14 = .ok (.aload_n 0, 1) := by decide +kernel
theorem k_tl_init_15 : decode me_tl_init.2.1 15 = .ok (.sipush 576, 3) := by decide +kernel
theorem k_tl_init_18 : decode me_tl_init.2.1 18 = .ok (.newarray .int, 2) := by decide +kernel
theorem k_tl_init_20 : decode me_tl_init.2.1 20 = .ok (.putfield 19, 3) := by decide +kernel
theorem k_tl_init_23 : decode me_tl_init.2.1 23 = .ok (.aload_n 0, 1) := by decide +kernel
theorem k_tl_init_24 : decode me_tl_init.2.1 24 = .ok (.sipush 576, 3) := by decide +kernel
theorem k_tl_init_27 : decode me_tl_init.2.1 27 = .ok (.newarray .int, 2) := by decide +kernel
theorem k_tl_init_29 : decode me_tl_init.2.1 29 = .ok (.putfield 23, 3) := by decide +kernel
theorem k_tl_init_32 : decode me_tl_init.2.1 32 = .ok (.aload_n 0, 1) := by decide +kernel
theorem k_tl_init_33 : decode me_tl_init.2.1 33 = .ok (.sipush 576, 3) := by decide +kernel
theorem k_tl_init_36 : decode me_tl_init.2.1 36 = .ok (.newarray .int, 2) := by decide +kernel
theorem k_tl_init_38 : decode me_tl_init.2.1 38 = .ok (.putfield 26, 3) := by decide +kernel
theorem k_tl_init_41 : decode me_tl_init.2.1 41 = .ok (.aload_n 0, 1) := by decide +kernel
theorem k_tl_init_42 : decode me_tl_init.2.1 42 = .ok (.sipush 576, 3) := by decide +kernel
theorem k_tl_init_45 : decode me_tl_init.2.1 45 = .ok (.newarray .int, 2) := by decide +kernel
theorem k_tl_init_47 : decode me_tl_init.2.1 47 = .ok (.putfield 29, 3) := by decide +kernel
theorem k_tl_init_50 : decode me_tl_init.2.1 50 = .ok (.aload_n 0, 1) := by decide +kernel
theorem k_tl_init_51 : decode me_tl_init.2.1 51 = .ok (.sipush 576, 3) := by decide +kernel
theorem k_tl_init_54 : decode me_tl_init.2.1 54 = .ok (.newarray .int, 2) := by decide +kernel
theorem k_tl_init_56 : decode me_tl_init.2.1 56 = .ok (.putfield 32, 3) := by decide +kernel
theorem k_tl_init_59 : decode me_tl_init.2.1 59 = .ok (.return_, 1) := by decide +kernel
theorem k_lk_init_0 : decode me_lk_init.2.1 0 = .ok (.aload_n 0, 1) := by decide +kernel
theorem k_lk_init_1 : decode me_lk_init.2.1 1 = .ok (.invokespecial 3, 3) := by decide +kernel
theorem k_lk_init_4 : decode me_lk_init.2.1 4 = .ok (.aload_n 0, 1) := by decide +kernel
theorem k_lk_init_5 : decode me_lk_init.2.1 5 = .ok (.aload_n 1, 1) := by decide +kernel
theorem k_lk_init_6 : decode me_lk_init.2.1 6 = .ok (.putfield 9, 3) := by decide +kernel
theorem k_lk_init_9 : decode me_lk_init.2.1 9 = .ok (.return_, 1) := by decide +kernel
theorem k_fn_tank_0 : decode me_fn_tank.2.1 0 = .ok (.iload_n 1, 1) := by decide +kernel
theorem k_fn_tank_1 : decode me_fn_tank.2.1 1 = .ok (.ifCond .lt 18, 3) := by decide +kernel
theorem k_fn_tank_4 : decode me_fn_tank.2.1 4 = .ok (.iload_n 2, 1) := by decide +kernel
theorem k_fn_tank_5 : decode me_fn_tank.2.1 5 = .ok (.iconst 1, 1) := by decide +kernel
theorem k_fn_tank_6 : decode me_fn_tank.2.1 6 = .ok (.if_icmp .lt 13, 3) := by decide +kernel
theorem k_fn_tank_9 : decode me_fn_tank.2.1 9 = .ok (.iload_n 3, 1) := by decide +kernel
theorem k_fn_tank_10 : decode me_fn_tank.2.1 10 = .ok (.iconst 1, 1) := by decide +kernel
theorem k_fn_tank_11 : decode me_fn_tank.2.1 11 = .ok (.if_icmp .lt 8, 3) := by decide +kernel
theorem k_fn_tank_14 : decode me_fn_tank.2.1 14 = .ok (.iload 4, 2) := by decide +kernel
theorem k_fn_tank_16 : decode me_fn_tank.2.1 16 = .ok (.ifCond .ge 10, 3) := by decide +kernel
theorem k_fn_tank_19 : decode me_fn_tank.2.1 19 = .ok (.aload_n 0, 1) := by decide +kernel
theorem k_fn_tank_20 : decode me_fn_tank.2.1 20 = .ok (.bipush (-4), 2) := by decide +kernel
theorem k_fn_tank_22 : decode me_fn_tank.2.1 22 = .ok (.invokevirtual 56, 3) := by decide +kernel
theorem k_fn_tank_25 : decode me_fn_tank.2.1 25 = .ok (.ireturn, 1) := by decide +kernel
theorem k_fn_tank_26 : decode me_fn_tank.2.1 26 = .ok (.iload_n 1, 1) := by decide +kernel
theorem k_fn_tank_27 : decode me_fn_tank.2.1 27 = .ok (.sipush 500, 3) := by decide +kernel
theorem k_fn_tank_30 : decode me_fn_tank.2.1 30 = .ok (.if_icmp .gt 24, 3) := by decide +kernel
theorem k_fn_tank_33 : decode me_fn_tank.2.1 33 = .ok (.iload_n 2, 1) := by decide +kernel
theorem k_fn_tank_34 : decode me_fn_tank.2.1 34 = .ok (.sipush 1000, 3) := by decide +kernel
theorem k_fn_tank_37 : decode me_fn_tank.2.1 37 = .ok (.if_icmp .gt 17, 3) := by decide +kernel
theorem k_fn_tank_40 : decode me_fn_tank.2.1 40 = .ok (.iload_n 3, 1) := by decide +kernel
theorem k_fn_tank_41 : decode me_fn_tank.2.1 41 = .ok (.bipush 60, 2) := by decide +kernel
theorem k_fn_tank_43 : decode me_fn_tank.2.1 43 = .ok (.if_icmp .gt 11, 3) := by decide +kernel
theorem k_fn_tank_46 : decode me_fn_tank.2.1 46 = .ok (.iload 4, 2) := by decide +kernel
theorem k_fn_tank_48 : decode me_fn_tank.2.1 48 = .ok (.sipush 500, 3) := by decide +kernel
theorem k_fn_tank_51 : decode me_fn_tank.2.1 51 = .ok (.if_icmp .le 10, 3) := by decide +kernel
theorem k_fn_tank_54 : decode me_fn_tank.2.1 54 = .ok (.aload_n 0, 1) := by decide +kernel
theorem k_fn_tank_55 : decode me_fn_tank.2.1 55 = .ok (.bipush (-6), 2) := by decide +kernel
theorem k_fn_tank_57 : decode me_fn_tank.2.1 57 = .ok (.invokevirtual 56, 3) := by decide +kernel
theorem k_fn_tank_60 : decode me_fn_tank.2.1 60 = .ok (.ireturn, 1) := by decide +kernel
theorem k_fn_tank_61 : decode me_fn_tank.2.1 61 = .ok (.aload_n 0, 1) := by decide +kernel
theorem k_fn_tank_62 : decode me_fn_tank.2.1 62 = .ok (.getfield 12, 3) := by decide +kernel
theorem k_fn_tank_65 : decode me_fn_tank.2.1 65 = .ok (.getfield 60, 3) := by decide +kernel
theorem k_fn_tank_68 : decode me_fn_tank.2.1 68 = .ok (.invokevirtual 63, 3) := by decide +kernel
theorem k_fn_tank_71 : decode me_fn_tank.2.1 71 = .ok (.istore 5, 2) := by decide +kernel
theorem k_fn_tank_73 : decode me_fn_tank.2.1 73 = .ok (.iload 5, 2) := by decide +kernel
theorem k_fn_tank_75 : decode me_fn_tank.2.1 75 = .ok (.iconst 4, 1) := by decide +kernel
theorem k_fn_tank_76 : decode me_fn_tank.2.1 76 = .ok (.if_icmp .lt 10, 3) := by decide +kernel
theorem k_fn_tank_79 : decode me_fn_tank.2.1 79 = .ok (.aload_n 0, 1) := by decide +kernel
theorem k_fn_tank_80 : decode me_fn_tank.2.1 80 = .ok (.bipush (-6), 2) := by decide +kernel
theorem k_fn_tank_82 : decode me_fn_tank.2.1 82 = .ok (.invokevirtual 56, 3) := by decide +kernel
theorem k_fn_tank_85 : decode me_fn_tank.2.1 85 = .ok (.ireturn, 1) := by decide +kernel
theorem k_fn_tank_86 : decode me_fn_tank.2.1 86 = .ok (.aload_n 0, 1) := by decide +kernel
theorem k_fn_tank_87 : decode me_fn_tank.2.1 87 = .ok (.getfield 12, 3) := by decide +kernel
theorem k_fn_tank_90 : decode me_fn_tank.2.1 90 = .ok (.getfield 60, 3) := by decide +kernel
theorem k_fn_tank_93 : decode me_fn_tank.2.1 93 = .ok (.new 67, 3) := by decide +kernel
theorem k_fn_tank_96 : decode me_fn_tank.2.1 96 = .ok (.dup, 1) := by decide +kernel
theorem k_fn_tank_97 : decode me_fn_tank.2.1 97 = .ok (.iload 5, 2) := by decide +kernel
theorem k_fn_tank_99 : decode me_fn_tank.2.1 99 = .ok (.iload_n 1, 1) := by decide +kernel
theorem k_fn_tank_100 : decode me_fn_tank.2.1 100 = .ok (.iload_n 2, 1) := by decide +kernel
theorem k_fn_tank_101 : decode me_fn_tank.2.1 101 = .ok (.iload_n 3, 1) := by decide +kernel
theorem k_fn_tank_102 : decode me_fn_tank.2.1 102 = .ok (.iload 4, 2) := by decide +kernel
theorem k_fn_tank_104 : decode me_fn_tank.2.1 104 = .ok (.invokespecial 69, 3) := by decide +kernel
theorem k_fn_tank_107 : decode me_fn_tank.2.1 107 = .ok (.invokevirtual 72, 3) := by decide +kernel
theorem k_fn_tank_110 : decode me_fn_tank.2.1 110 = .ok (.pop, 1) := by decide +kernel
theorem k_fn_tank_111 : decode me_fn_tank.2.1 111 = .ok (.iload 5, 2) := by decide +kernel
theorem k_fn_tank_113 : decode me_fn_tank.2.1 113 = .ok (.ireturn, 1) := by decide +kernel
theorem k_fn_refuse_0 : decode me_fn_refuse.2.1 0 = .ok (.iload_n 1, 1) := by decide +kernel
theorem k_fn_refuse_1 : decode me_fn_refuse.2.1 1 = .ok (.ineg, 1) := by decide +kernel
theorem k_fn_refuse_2 : decode me_fn_refuse.2.1 2 = .ok (.istore_n 2, 1) := by decide +kernel
theorem k_fn_refuse_3 : decode me_fn_refuse.2.1 3 = .ok (.iload_n 2, 1) := by decide +kernel
theorem k_fn_refuse_4 : decode me_fn_refuse.2.1 4 = .ok (.ifCond .lt 22, 3) := by decide +kernel
theorem k_fn_refuse_7 : decode me_fn_refuse.2.1 7 = .ok (.iload_n 2, 1) := by decide +kernel
theorem k_fn_refuse_8 : decode me_fn_refuse.2.1 8 = .ok (.aload_n 0, 1) := by decide +kernel
theorem k_fn_refuse_9 : decode me_fn_refuse.2.1 9 = .ok (.getfield 48, 3) := by decide +kernel
theorem k_fn_refuse_12 : decode me_fn_refuse.2.1 12 = .ok (.arraylength, 1) := by decide +kernel
theorem k_fn_refuse_13 : decode me_fn_refuse.2.1 13 = .ok (.if_icmp .ge 13, 3) := by decide +kernel
theorem k_fn_refuse_16 : decode me_fn_refuse.2.1 16 = .ok (.aload_n 0, 1) := by decide +kernel
theorem k_fn_refuse_17 : decode me_fn_refuse.2.1 17 = .ok (.getfield 48, 3) := by decide +kernel
theorem k_fn_refuse_20 : decode me_fn_refuse.2.1 20 = .ok (.iload_n 2, 1) := by decide +kernel
theorem k_fn_refuse_21 : decode me_fn_refuse.2.1 21 = .ok (.dup2, 1) := by decide +kernel
theorem k_fn_refuse_22 : decode me_fn_refuse.2.1 22 = .ok (.iaload, 1) := by decide +kernel
theorem k_fn_refuse_23 : decode me_fn_refuse.2.1 23 = .ok (.iconst 1, 1) := by decide +kernel
theorem k_fn_refuse_24 : decode me_fn_refuse.2.1 24 = .ok (.iadd, 1) := by decide +kernel
theorem k_fn_refuse_25 : decode me_fn_refuse.2.1 25 = .ok (.iastore, 1) := by decide +kernel
theorem k_fn_refuse_26 : decode me_fn_refuse.2.1 26 = .ok (.iload_n 1, 1) := by decide +kernel
theorem k_fn_refuse_27 : decode me_fn_refuse.2.1 27 = .ok (.ireturn, 1) := by decide +kernel
theorem k_al_size_0 : decode me_al_size.2.1 0 = .ok (.aload_n 0, 1) := by decide +kernel
theorem k_al_size_1 : decode me_al_size.2.1 1 = .ok (.getfield 48, 3) := by decide +kernel
theorem k_al_size_4 : decode me_al_size.2.1 4 = .ok (.ireturn, 1) := by decide +kernel
theorem k_tk_init_0 : decode me_tk_init.2.1 0 = .ok (.aload_n 0, 1) := by decide +kernel
theorem k_tk_init_1 : decode me_tk_init.2.1 1 = .ok (.invokespecial 1, 3) := by decide +kernel
theorem k_tk_init_4 : decode me_tk_init.2.1 4 = .ok (.aload_n 0, 1) := by decide +kernel
theorem k_tk_init_5 : decode me_tk_init.2.1 5 = .ok (.iload_n 1, 1) := by decide +kernel
theorem k_tk_init_6 : decode me_tk_init.2.1 6 = .ok (.putfield 7, 3) := by decide +kernel
theorem k_tk_init_9 : decode me_tk_init.2.1 9 = .ok (.aload_n 0, 1) := by decide +kernel
theorem k_tk_init_10 : decode me_tk_init.2.1 10 = .ok (.iload_n 2, 1) := by decide +kernel
theorem k_tk_init_11 : decode me_tk_init.2.1 11 = .ok (.putfield 13, 3) := by decide +kernel
theorem k_tk_init_14 : decode me_tk_init.2.1 14 = .ok (.aload_n 0, 1) := by decide +kernel
theorem k_tk_init_15 : decode me_tk_init.2.1 15 = .ok (.iload_n 3, 1) := by decide +kernel
theorem k_tk_init_16 : decode me_tk_init.2.1 16 = .ok (.putfield 16, 3) := by decide +kernel
theorem k_tk_init_19 : decode me_tk_init.2.1 19 = .ok (.aload_n 0, 1) := by decide +kernel
theorem k_tk_init_20 : decode me_tk_init.2.1 20 = .ok (.iload 4, 2) := by decide +kernel
theorem k_tk_init_22 : decode me_tk_init.2.1 22 = .ok (.putfield 19, 3) := by decide +kernel
theorem k_tk_init_25 : decode me_tk_init.2.1 25 = .ok (.aload_n 0, 1) := by decide +kernel
theorem k_tk_init_26 : decode me_tk_init.2.1 26 = .ok (.iload 5, 2) := by decide +kernel
theorem k_tk_init_28 : decode me_tk_init.2.1 28 = .ok (.putfield 22, 3) := by decide +kernel
theorem k_tk_init_31 : decode me_tk_init.2.1 31 = .ok (.aload_n 0, 1) := by decide +kernel
theorem k_tk_init_32 : decode me_tk_init.2.1 32 = .ok (.iload_n 3, 1) := by decide +kernel
theorem k_tk_init_33 : decode me_tk_init.2.1 33 = .ok (.iload 4, 2) := by decide +kernel
theorem k_tk_init_35 : decode me_tk_init.2.1 35 = .ok (.imul, 1) := by decide +kernel
theorem k_tk_init_36 : decode me_tk_init.2.1 36 = .ok (.putfield 25, 3) := by decide +kernel
theorem k_tk_init_39 : decode me_tk_init.2.1 39 = .ok (.return_, 1) := by decide +kernel
theorem k_al_add_0 : decode me_al_add.2.1 0 = .ok (.aload_n 0, 1) := by decide +kernel
theorem k_al_add_1 : decode me_al_add.2.1 1 = .ok (.dup, 1) := by decide +kernel
theorem k_al_add_2 : decode me_al_add.2.1 2 = .ok (.getfield 63, 3) := by decide +kernel
theorem k_al_add_5 : decode me_al_add.2.1 5 = .ok (.iconst 1, 1) := by decide +kernel
theorem k_al_add_6 : decode me_al_add.2.1 6 = .ok (.iadd, 1) := by decide +kernel
theorem k_al_add_7 : decode me_al_add.2.1 7 = .ok (.putfield 63, 3) := by decide +kernel
theorem k_al_add_10 : decode me_al_add.2.1 10 = .ok (.aload_n 0, 1) := by decide +kernel
theorem k_al_add_11 : decode me_al_add.2.1 11 = .ok (.aload_n 1, 1) := by decide +kernel
theorem k_al_add_12 : decode me_al_add.2.1 12 = .ok (.aload_n 0, 1) := by decide +kernel
theorem k_al_add_13 : decode me_al_add.2.1 13 = .ok (.getfield 9, 3) := by decide +kernel
theorem k_al_add_16 : decode me_al_add.2.1 16 = .ok (.aload_n 0, 1) := by decide +kernel
theorem k_al_add_17 : decode me_al_add.2.1 17 = .ok (.getfield 48, 3) := by decide +kernel
theorem k_al_add_20 : decode me_al_add.2.1 20 = .ok (.invokevirtual 131, 3) := by decide +kernel
theorem k_al_add_23 : decode me_al_add.2.1 23 = .ok (.iconst 1, 1) := by decide +kernel
theorem k_al_add_24 : decode me_al_add.2.1 24 = .ok (.ireturn, 1) := by decide +kernel
theorem k_al_add2_0 : decode me_al_add2.2.1 0 = .ok (.iload_n 3, 1) := by decide +kernel
theorem k_al_add2_1 : decode me_al_add2.2.1 1 = .ok (.aload_n 2, 1) := by decide +kernel
theorem k_al_add2_2 : decode me_al_add2.2.1 2 = .ok (.arraylength, 1) := by decide +kernel
theorem k_al_add2_3 : decode me_al_add2.2.1 3 = .ok (.if_icmp .ne 8, 3) := by decide +kernel
theorem k_al_add2_6 : decode me_al_add2.2.1 6 = .ok (.aload_n 0, 1) := by decide +kernel
theorem k_al_add2_7 : decode me_al_add2.2.1 7 = .ok (.invokevirtual 129, 3) := by decide +kernel
theorem k_al_add2_10 : decode me_al_add2.2.1 10 = .ok (.astore_n 2, 1) := by decide +kernel
theorem k_al_add2_11 : decode me_al_add2.2.1 11 = .ok (.aload_n 2, 1) := by decide +kernel
theorem k_al_add2_12 : decode me_al_add2.2.1 12 = .ok (.iload_n 3, 1) := by decide +kernel
theorem k_al_add2_13 : decode me_al_add2.2.1 13 = .ok (.aload_n 1, 1) := by decide +kernel
theorem k_al_add2_14 : decode me_al_add2.2.1 14 = .ok (.aastore, 1) := by decide +kernel
theorem k_al_add2_15 : decode me_al_add2.2.1 15 = .ok (.aload_n 0, 1) := by decide +kernel
theorem k_al_add2_16 : decode me_al_add2.2.1 16 = .ok (.iload_n 3, 1) := by decide +kernel
theorem k_al_add2_17 : decode me_al_add2.2.1 17 = .ok (.iconst 1, 1) := by decide +kernel
theorem k_al_add2_18 : decode me_al_add2.2.1 18 = .ok (.iadd, 1) := by decide +kernel
theorem k_al_add2_19 : decode me_al_add2.2.1 19 = .ok (.putfield 48, 3) := by decide +kernel
theorem k_al_add2_22 : decode me_al_add2.2.1 22 = .ok (.return_, 1) := by decide +kernel
theorem k_al_grow_0 : decode me_al_grow.2.1 0 = .ok (.aload_n 0, 1) := by decide +kernel
theorem k_al_grow_1 : decode me_al_grow.2.1 1 = .ok (.aload_n 0, 1) := by decide +kernel
theorem k_al_grow_2 : decode me_al_grow.2.1 2 = .ok (.getfield 48, 3) := by decide +kernel
theorem k_al_grow_5 : decode me_al_grow.2.1 5 = .ok (.iconst 1, 1) := by decide +kernel
theorem k_al_grow_6 : decode me_al_grow.2.1 6 = .ok (.iadd, 1) := by decide +kernel
theorem k_al_grow_7 : decode me_al_grow.2.1 7 = .ok (.invokevirtual 69, 3) := by decide +kernel
theorem k_al_grow_10 : decode me_al_grow.2.1 10 = .ok (.areturn, 1) := by decide +kernel
theorem k_al_grow2_0 : decode me_al_grow2.2.1 0 = .ok (.aload_n 0, 1) := by decide +kernel
theorem k_al_grow2_1 : decode me_al_grow2.2.1 1 = .ok (.getfield 9, 3) := by decide +kernel
theorem k_al_grow2_4 : decode me_al_grow2.2.1 4 = .ok (.arraylength, 1) := by decide +kernel
theorem k_al_grow2_5 : decode me_al_grow2.2.1 5 = .ok (.istore_n 2, 1) := by decide +kernel
theorem k_al_grow2_6 : decode me_al_grow2.2.1 6 = .ok (.iload_n 2, 1) := by decide +kernel
theorem k_al_grow2_7 : decode me_al_grow2.2.1 7 = .ok (.ifCond .gt 13, 3) := by decide +kernel
theorem k_al_grow2_10 : decode me_al_grow2.2.1 10 = .ok (.aload_n 0, 1) := by decide +kernel
theorem k_al_grow2_11 : decode me_al_grow2.2.1 11 = .ok (.getfield 9, 3) := by decide +kernel
theorem k_al_grow2_14 : decode me_al_grow2.2.1 14 = .ok (.getstatic 39, 3) := by decide +kernel
theorem k_al_grow2_17 : decode me_al_grow2.2.1 17 = .ok (.if_acmp .eq 28, 3) := by decide +kernel
theorem k_al_grow2_20 : decode me_al_grow2.2.1 20 = .ok (.iload_n 2, 1) := by decide +kernel
theorem k_al_grow2_21 : decode me_al_grow2.2.1 21 = .ok (.iload_n 1, 1) := by decide +kernel
theorem k_al_grow2_22 : decode me_al_grow2.2.1 22 = .ok (.iload_n 2, 1) := by decide +kernel
theorem k_al_grow2_23 : decode me_al_grow2.2.1 23 = .ok (.isub, 1) := by decide +kernel
theorem k_al_grow2_24 : decode me_al_grow2.2.1 24 = .ok (.iload_n 2, 1) := by decide +kernel
theorem k_al_grow2_25 : decode me_al_grow2.2.1 25 = .ok (.iconst 1, 1) := by decide +kernel
theorem k_al_grow2_26 : decode me_al_grow2.2.1 26 = .ok (.ishr, 1) := by decide +kernel
theorem k_al_grow2_27 : decode me_al_grow2.2.1 27 = .ok (.invokestatic 73, 3) := by decide +kernel
theorem k_al_grow2_30 : decode me_al_grow2.2.1 30 = .ok (.istore_n 3, 1) := by decide +kernel
theorem k_al_grow2_31 : decode me_al_grow2.2.1 31 = .ok (.aload_n 0, 1) := by decide +kernel
theorem k_al_grow2_32 : decode me_al_grow2.2.1 32 = .ok (.aload_n 0, 1) := by decide +kernel
theorem k_al_grow2_33 : decode me_al_grow2.2.1 33 = .ok (.getfield 9, 3) := by decide +kernel
theorem k_al_grow2_36 : decode me_al_grow2.2.1 36 = .ok (.iload_n 3, 1) := by decide +kernel
theorem k_al_grow2_37 : decode me_al_grow2.2.1 37 = .ok (.invokestatic 66, 3) := by decide +kernel
theorem k_al_grow2_40 : decode me_al_grow2.2.1 40 = .ok (.dup_x1, 1) := by decide +kernel
theorem k_al_grow2_41 : decode me_al_grow2.2.1 41 = .ok (.putfield 9, 3) := by decide +kernel
theorem k_al_grow2_44 : decode me_al_grow2.2.1 44 = .ok (.areturn, 1) := by decide +kernel
theorem k_al_grow2_45 : decode me_al_grow2.2.1 45 = .ok (.aload_n 0, 1) := by decide +kernel
theorem k_al_grow2_46 : decode me_al_grow2.2.1 46 = .ok (.bipush 10, 2) := by decide +kernel
theorem k_al_grow2_48 : decode me_al_grow2.2.1 48 = .ok (.iload_n 1, 1) := by decide +kernel
theorem k_al_grow2_49 : decode me_al_grow2.2.1 49 = .ok (.invokestatic 79, 3) := by decide +kernel
theorem k_al_grow2_52 : decode me_al_grow2.2.1 52 = .ok (.anewarray 7, 3) := by decide +kernel
theorem k_al_grow2_55 : decode me_al_grow2.2.1 55 = .ok (.dup_x1, 1) := by decide +kernel
theorem k_al_grow2_56 : decode me_al_grow2.2.1 56 = .ok (.putfield 9, 3) := by decide +kernel
theorem k_al_grow2_59 : decode me_al_grow2.2.1 59 = .ok (.areturn, 1) := by decide +kernel
theorem k_as_newLength_0 : decode me_as_newLength.2.1 0 = .ok (.iload_n 0, 1) := by decide +kernel
theorem k_as_newLength_1 : decode me_as_newLength.2.1 1 = .ok (.iload_n 1, 1) := by decide +kernel
theorem k_as_newLength_2 : decode me_as_newLength.2.1 2 = .ok (.iload_n 2, 1) := by decide +kernel
theorem k_as_newLength_3 : decode me_as_newLength.2.1 3 = .ok (.invokestatic 194, 3) := by decide +kernel
theorem k_as_newLength_6 : decode me_as_newLength.2.1 6 = .ok (.iadd, 1) := by decide +kernel
theorem k_as_newLength_7 : decode me_as_newLength.2.1 7 = .ok (.istore_n 3, 1) := by decide +kernel
theorem k_as_newLength_8 : decode me_as_newLength.2.1 8 = .ok (.iconst 0, 1) := by decide +kernel
theorem k_as_newLength_9 : decode me_as_newLength.2.1 9 = .ok (.iload_n 3, 1) := by decide +kernel
theorem k_as_newLength_10 : decode me_as_newLength.2.1 10 = .ok (.if_icmp .ge 11, 3) := by decide +kernel
theorem k_as_newLength_13 : decode me_as_newLength.2.1 13 = .ok (.iload_n 3, 1) := by decide +kernel
theorem k_as_newLength_14 : decode me_as_newLength.2.1 14 = .ok (.ldc 200, 2) := by decide +kernel
theorem k_as_newLength_16 : decode me_as_newLength.2.1 16 = .ok (.if_icmp .gt 5, 3) := by decide +kernel
theorem k_as_newLength_19 : decode me_as_newLength.2.1 19 = .ok (.iload_n 3, 1) := by decide +kernel
theorem k_as_newLength_20 : decode me_as_newLength.2.1 20 = .ok (.ireturn, 1) := by decide +kernel
theorem k_as_newLength_21 : decode me_as_newLength.2.1 21 = .ok (.iload_n 0, 1) := by decide +kernel
theorem k_as_newLength_22 : decode me_as_newLength.2.1 22 = .ok (.iload_n 1, 1) := by decide +kernel
theorem k_as_newLength_23 : decode me_as_newLength.2.1 23 = .ok (.invokestatic 201, 3) := by decide +kernel
theorem k_as_newLength_26 : decode me_as_newLength.2.1 26 = .ok (.ireturn, 1) := by decide +kernel
theorem k_ar_copyOf_0 : decode me_ar_copyOf.2.1 0 = .ok (.aload_n 0, 1) := by decide +kernel
theorem k_ar_copyOf_1 : decode me_ar_copyOf.2.1 1 = .ok (.iload_n 1, 1) := by decide +kernel
theorem k_ar_copyOf_2 : decode me_ar_copyOf.2.1 2 = .ok (.aload_n 0, 1) := by decide +kernel
theorem k_ar_copyOf_3 : decode me_ar_copyOf.2.1 3 = .ok (.invokevirtual 86, 3) := by decide +kernel
theorem k_ar_copyOf_6 : decode me_ar_copyOf.2.1 6 = .ok (.invokestatic 300, 3) := by decide +kernel
theorem k_ar_copyOf_9 : decode me_ar_copyOf.2.1 9 = .ok (.areturn, 1) := by decide +kernel
theorem k_ar_copyOf2_0 : decode me_ar_copyOf2.2.1 0 = .ok (.aload_n 2, 1) := by decide +kernel
theorem k_ar_copyOf2_1 : decode me_ar_copyOf2.2.1 1 = .ok (.ldc 110, 2) := by decide +kernel
theorem k_ar_copyOf2_3 : decode me_ar_copyOf2.2.1 3 = .ok (.if_acmp .ne 10, 3) := by decide +kernel
theorem k_ar_copyOf2_6 : decode me_ar_copyOf2.2.1 6 = .ok (.iload_n 1, 1) := by decide +kernel
theorem k_ar_copyOf2_7 : decode me_ar_copyOf2.2.1 7 = .ok (.anewarray 2, 3) := by decide +kernel
theorem k_ar_copyOf2_10 : decode me_ar_copyOf2.2.1 10 = .ok (.goto 14, 3) := by decide +kernel
theorem k_ar_copyOf2_13 : decode me_ar_copyOf2.2.1 13 = .ok (.aload_n 2, 1) := by decide +kernel
theorem k_ar_copyOf2_14 : decode me_ar_copyOf2.2.1 14 = .ok (.invokevirtual 90, 3) := by decide +kernel
theorem k_ar_copyOf2_17 : decode me_ar_copyOf2.2.1 17 = .ok (.iload_n 1, 1) := by decide +kernel
theorem k_ar_copyOf2_18 : decode me_ar_copyOf2.2.1 18 = .ok (.invokestatic 95, 3) := by decide +kernel
theorem k_ar_copyOf2_21 : decode me_ar_copyOf2.2.1 21 = .ok (.checkcast 110, 3) := by decide +kernel
theorem k_ar_copyOf2_24 : decode me_ar_copyOf2.2.1 24 = .ok (.astore_n 3, 1) := by decide +kernel
theorem k_ar_copyOf2_25 : decode me_ar_copyOf2.2.1 25 = .ok (.aload_n 0, 1) := by decide +kernel
theorem k_ar_copyOf2_26 : decode me_ar_copyOf2.2.1 26 = .ok (.iconst 0, 1) := by decide +kernel
theorem k_ar_copyOf2_27 : decode me_ar_copyOf2.2.1 27 = .ok (.aload_n 3, 1) := by decide +kernel
theorem k_ar_copyOf2_28 : decode me_ar_copyOf2.2.1 28 = .ok (.iconst 0, 1) := by decide +kernel
theorem k_ar_copyOf2_29 : decode me_ar_copyOf2.2.1 29 = .ok (.aload_n 0, 1) := by decide +kernel
theorem k_ar_copyOf2_30 : decode me_ar_copyOf2.2.1 30 = .ok (.arraylength, 1) := by decide +kernel
theorem k_ar_copyOf2_31 : decode me_ar_copyOf2.2.1 31 = .ok (.iload_n 1, 1) := by decide +kernel
theorem k_ar_copyOf2_32 : decode me_ar_copyOf2.2.1 32 = .ok (.invokestatic 304, 3) := by decide +kernel
theorem k_ar_copyOf2_35 : decode me_ar_copyOf2.2.1 35 = .ok (.invokestatic 150, 3) := by decide +kernel
theorem k_ar_copyOf2_38 : decode me_ar_copyOf2.2.1 38 = .ok (.aload_n 3, 1) := by decide +kernel
theorem k_ar_copyOf2_39 : decode me_ar_copyOf2.2.1 39 = .ok (.areturn, 1) := by decide +kernel
theorem k_fn_set_0 : decode me_fn_set.2.1 0 = .ok (.aload_n 0, 1) := by decide +kernel
theorem k_fn_set_1 : decode me_fn_set.2.1 1 = .ok (.getfield 12, 3) := by decide +kernel
theorem k_fn_set_4 : decode me_fn_set.2.1 4 = .ok (.iload_n 1, 1) := by decide +kernel
theorem k_fn_set_5 : decode me_fn_set.2.1 5 = .ok (.invokevirtual 76, 3) := by decide +kernel
theorem k_fn_set_8 : decode me_fn_set.2.1 8 = .ok (.astore 4, 2) := by decide +kernel
theorem k_fn_set_10 : decode me_fn_set.2.1 10 = .ok (.aload 4, 2) := by decide +kernel
theorem k_fn_set_12 : decode me_fn_set.2.1 12 = .ok (.ifnonnull 9, 3) := by decide +kernel
theorem k_fn_set_15 : decode me_fn_set.2.1 15 = .ok (.aload_n 0, 1) := by decide +kernel
theorem k_fn_set_16 : decode me_fn_set.2.1 16 = .ok (.iconst (-1), 1) := by decide +kernel
theorem k_fn_set_17 : decode me_fn_set.2.1 17 = .ok (.invokevirtual 56, 3) := by decide +kernel
theorem k_fn_set_20 : decode me_fn_set.2.1 20 = .ok (.ireturn, 1) := by decide +kernel
theorem k_fn_set_21 : decode me_fn_set.2.1 21 = .ok (.iload_n 2, 1) := by decide +kernel
theorem k_fn_set_22 : decode me_fn_set.2.1 22 = .ok (.ifCond .lt 8, 3) := by decide +kernel
theorem k_fn_set_25 : decode me_fn_set.2.1 25 = .ok (.iload_n 2, 1) := by decide +kernel
theorem k_fn_set_26 : decode me_fn_set.2.1 26 = .ok (.iconst 1, 1) := by decide +kernel
theorem k_fn_set_27 : decode me_fn_set.2.1 27 = .ok (.if_icmp .le 10, 3) := by decide +kernel
theorem k_fn_set_30 : decode me_fn_set.2.1 30 = .ok (.aload_n 0, 1) := by decide +kernel
theorem k_fn_set_31 : decode me_fn_set.2.1 31 = .ok (.bipush (-2), 2) := by decide +kernel
theorem k_fn_set_33 : decode me_fn_set.2.1 33 = .ok (.invokevirtual 56, 3) := by decide +kernel
theorem k_fn_set_36 : decode me_fn_set.2.1 36 = .ok (.ireturn, 1) := by decide +kernel
theorem k_fn_set_37 : decode me_fn_set.2.1 37 = .ok (.iload_n 3, 1) := by decide +kernel
theorem k_fn_set_38 : decode me_fn_set.2.1 38 = .ok (.ifCond .ge 10, 3) := by decide +kernel
theorem k_fn_set_41 : decode me_fn_set.2.1 41 = .ok (.aload_n 0, 1) := by decide +kernel
theorem k_fn_set_42 : decode me_fn_set.2.1 42 = .ok (.bipush (-4), 2) := by decide +kernel
theorem k_fn_set_44 : decode me_fn_set.2.1 44 = .ok (.invokevirtual 56, 3) := by decide +kernel
theorem k_fn_set_47 : decode me_fn_set.2.1 47 = .ok (.ireturn, 1) := by decide +kernel
theorem k_fn_set_48 : decode me_fn_set.2.1 48 = .ok (.iload_n 3, 1) := by decide +kernel
theorem k_fn_set_49 : decode me_fn_set.2.1 49 = .ok (.iload_n 2, 1) := by decide +kernel
theorem k_fn_set_50 : decode me_fn_set.2.1 50 = .ok (.ifCond .ne 9, 3) := by decide +kernel
theorem k_fn_set_53 : decode me_fn_set.2.1 53 = .ok (.sipush 500, 3) := by decide +kernel
theorem k_fn_set_56 : decode me_fn_set.2.1 56 = .ok (.goto 8, 3) := by decide +kernel
theorem k_fn_set_59 : decode me_fn_set.2.1 59 = .ok (.aload 4, 2) := by decide +kernel
theorem k_fn_set_61 : decode me_fn_set.2.1 61 = .ok (.invokevirtual 80, 3) := by decide +kernel
theorem k_fn_set_64 : decode me_fn_set.2.1 64 = .ok (.if_icmp .le 10, 3) := by decide +kernel
theorem k_fn_set_67 : decode me_fn_set.2.1 67 = .ok (.aload_n 0, 1) := by decide +kernel
theorem k_fn_set_68 : decode me_fn_set.2.1 68 = .ok (.bipush (-6), 2) := by decide +kernel
theorem k_fn_set_70 : decode me_fn_set.2.1 70 = .ok (.invokevirtual 56, 3) := by decide +kernel
theorem k_fn_set_73 : decode me_fn_set.2.1 73 = .ok (.ireturn, 1) := by decide +kernel
theorem k_fn_set_74 : decode me_fn_set.2.1 74 = .ok (.iload_n 2, 1) := by decide +kernel
theorem k_fn_set_75 : decode me_fn_set.2.1 75 = .ok (.ifCond .ne 12, 3) := by decide +kernel
theorem k_fn_set_78 : decode me_fn_set.2.1 78 = .ok (.aload 4, 2) := by decide +kernel
theorem k_fn_set_80 : decode me_fn_set.2.1 80 = .ok (.iload_n 3, 1) := by decide +kernel
theorem k_fn_set_81 : decode me_fn_set.2.1 81 = .ok (.invokevirtual 83, 3) := by decide +kernel
theorem k_fn_set_84 : decode me_fn_set.2.1 84 = .ok (.goto 9, 3) := by decide +kernel
theorem k_fn_set_87 : decode me_fn_set.2.1 87 = .ok (.aload 4, 2) := by decide +kernel
theorem k_fn_set_89 : decode me_fn_set.2.1 89 = .ok (.iload_n 3, 1) := by decide +kernel
theorem k_fn_set_90 : decode me_fn_set.2.1 90 = .ok (.invokevirtual 86, 3) := by decide +kernel
theorem k_fn_set_93 : decode me_fn_set.2.1 93 = .ok (.ireturn, 1) := by decide +kernel
theorem k_ga_tankAt_0 : decode me_ga_tankAt.2.1 0 = .ok (.iload_n 1, 1) := by decide +kernel
theorem k_ga_tankAt_1 : decode me_ga_tankAt.2.1 1 = .ok (.ifCond .lt 28, 3) := by decide +kernel
theorem k_ga_tankAt_4 : decode me_ga_tankAt.2.1 4 = .ok (.iload_n 1, 1) := by decide +kernel
theorem k_ga_tankAt_5 : decode me_ga_tankAt.2.1 5 = .ok (.aload_n 0, 1) := by decide +kernel
theorem k_ga_tankAt_6 : decode me_ga_tankAt.2.1 6 = .ok (.getfield 12, 3) := by decide +kernel
theorem k_ga_tankAt_9 : decode me_ga_tankAt.2.1 9 = .ok (.invokevirtual 24, 3) := by decide +kernel
theorem k_ga_tankAt_12 : decode me_ga_tankAt.2.1 12 = .ok (.if_icmp .ge 17, 3) := by decide +kernel
theorem k_ga_tankAt_15 : decode me_ga_tankAt.2.1 15 = .ok (.aload_n 0, 1) := by decide +kernel
theorem k_ga_tankAt_16 : decode me_ga_tankAt.2.1 16 = .ok (.getfield 12, 3) := by decide +kernel
theorem k_ga_tankAt_19 : decode me_ga_tankAt.2.1 19 = .ok (.iload_n 1, 1) := by decide +kernel
theorem k_ga_tankAt_20 : decode me_ga_tankAt.2.1 20 = .ok (.invokevirtual 28, 3) := by decide +kernel
theorem k_ga_tankAt_23 : decode me_ga_tankAt.2.1 23 = .ok (.checkcast 32, 3) := by decide +kernel
theorem k_ga_tankAt_26 : decode me_ga_tankAt.2.1 26 = .ok (.goto 4, 3) := by decide +kernel
theorem k_ga_tankAt_29 : decode me_ga_tankAt.2.1 29 = .ok (.aconst_null, 1) := by decide +kernel
theorem k_ga_tankAt_30 : decode me_ga_tankAt.2.1 30 = .ok (.areturn, 1) := by decide +kernel
theorem k_al_get_0 : decode me_al_get.2.1 0 = .ok (.iload_n 1, 1) := by decide +kernel
theorem k_al_get_1 : decode me_al_get.2.1 1 = .ok (.aload_n 0, 1) := by decide +kernel
theorem k_al_get_2 : decode me_al_get.2.1 2 = .ok (.getfield 48, 3) := by decide +kernel
theorem k_al_get_5 : decode me_al_get.2.1 5 = .ok (.invokestatic 118, 3) := by decide +kernel
theorem k_al_get_8 : decode me_al_get.2.1 8 = .ok (.pop, 1) := by decide +kernel
theorem k_al_get_9 : decode me_al_get.2.1 9 = .ok (.aload_n 0, 1) := by decide +kernel
theorem k_al_get_10 : decode me_al_get.2.1 10 = .ok (.iload_n 1, 1) := by decide +kernel
theorem k_al_get_11 : decode me_al_get.2.1 11 = .ok (.invokevirtual 123, 3) := by decide +kernel
theorem k_al_get_14 : decode me_al_get.2.1 14 = .ok (.areturn, 1) := by decide +kernel
theorem k_os_checkIndex_0 : decode me_os_checkIndex.2.1 0 = .ok (.iload_n 0, 1) := by decide +kernel
theorem k_os_checkIndex_1 : decode me_os_checkIndex.2.1 1 = .ok (.iload_n 1, 1) := by decide +kernel
theorem k_os_checkIndex_2 : decode me_os_checkIndex.2.1 2 = .ok (.aconst_null, 1) := by decide +kernel
theorem k_os_checkIndex_3 : decode me_os_checkIndex.2.1 3 = .ok (.invokestatic 105, 3) := by decide +kernel
theorem k_os_checkIndex_6 : decode me_os_checkIndex.2.1 6 = .ok (.ireturn, 1) := by decide +kernel
theorem k_pr_checkIndex_0 : decode me_pr_checkIndex.2.1 0 = .ok (.iload_n 0, 1) := by decide +kernel
theorem k_pr_checkIndex_1 : decode me_pr_checkIndex.2.1 1 = .ok (.ifCond .lt 8, 3) := by decide +kernel
theorem k_pr_checkIndex_4 : decode me_pr_checkIndex.2.1 4 = .ok (.iload_n 0, 1) := by decide +kernel
theorem k_pr_checkIndex_5 : decode me_pr_checkIndex.2.1 5 = .ok (.iload_n 1, 1) := by decide +kernel
theorem k_pr_checkIndex_6 : decode me_pr_checkIndex.2.1 6 = .ok (.if_icmp .lt 10, 3) := by decide +kernel
theorem k_pr_checkIndex_9 : decode me_pr_checkIndex.2.1 9 = .ok (.aload_n 2, 1) := by decide +kernel
theorem k_pr_checkIndex_10 : decode me_pr_checkIndex.2.1 10 = .ok (.iload_n 0, 1) := by decide +kernel
theorem k_pr_checkIndex_11 : decode me_pr_checkIndex.2.1 11 = .ok (.iload_n 1, 1) := by decide +kernel
theorem k_pr_checkIndex_12 : decode me_pr_checkIndex.2.1 12 = .ok (.invokestatic 95, 3) := by decide +kernel
theorem k_pr_checkIndex_16 : decode me_pr_checkIndex.2.1 16 = .ok (.iload_n 0, 1) := by decide +kernel
theorem k_pr_checkIndex_17 : decode me_pr_checkIndex.2.1 17 = .ok (.ireturn, 1) := by decide +kernel
theorem k_al_elementData_0 : decode me_al_elementData.2.1 0 = .ok (.aload_n 0, 1) := by decide +kernel
theorem k_al_elementData_1 : decode me_al_elementData.2.1 1 = .ok (.getfield 9, 3) := by decide +kernel
theorem k_al_elementData_4 : decode me_al_elementData.2.1 4 = .ok (.iload_n 1, 1) := by decide +kernel
theorem k_al_elementData_5 : decode me_al_elementData.2.1 5 = .ok (.aaload, 1) := by decide +kernel
theorem k_al_elementData_6 : decode me_al_elementData.2.1 6 = .ok (.areturn, 1) := by decide +kernel
theorem k_tk_capacity_0 : decode me_tk_capacity.2.1 0 = .ok (.aload_n 0, 1) := by decide +kernel
theorem k_tk_capacity_1 : decode me_tk_capacity.2.1 1 = .ok (.getfield 16, 3) := by decide +kernel
theorem k_tk_capacity_4 : decode me_tk_capacity.2.1 4 = .ok (.aload_n 0, 1) := by decide +kernel
theorem k_tk_capacity_5 : decode me_tk_capacity.2.1 5 = .ok (.getfield 19, 3) := by decide +kernel
theorem k_tk_capacity_8 : decode me_tk_capacity.2.1 8 = .ok (.imul, 1) := by decide +kernel
theorem k_tk_capacity_9 : decode me_tk_capacity.2.1 9 = .ok (.ireturn, 1) := by decide +kernel
theorem k_tk_changeSpring_0 : decode me_tk_changeSpring.2.1 0 = .ok (.aload_n 0, 1) := by decide +kernel
theorem k_tk_changeSpring_1 : decode me_tk_changeSpring.2.1 1 = .ok (.getfield 22, 3) := by decide +kernel
theorem k_tk_changeSpring_4 : decode me_tk_changeSpring.2.1 4 = .ok (.istore_n 2, 1) := by decide +kernel
theorem k_tk_changeSpring_5 : decode me_tk_changeSpring.2.1 5 = .ok (.aload_n 0, 1) := by decide +kernel
theorem k_tk_changeSpring_6 : decode me_tk_changeSpring.2.1 6 = .ok (.iload_n 1, 1) := by decide +kernel
theorem k_tk_changeSpring_7 : decode me_tk_changeSpring.2.1 7 = .ok (.putfield 22, 3) := by decide +kernel
theorem k_tk_changeSpring_10 : decode me_tk_changeSpring.2.1 10 = .ok (.iload_n 2, 1) := by decide +kernel
theorem k_tk_changeSpring_11 : decode me_tk_changeSpring.2.1 11 = .ok (.ireturn, 1) := by decide +kernel
theorem k_tk_changeWater_0 : decode me_tk_changeWater.2.1 0 = .ok (.aload_n 0, 1) := by decide +kernel
theorem k_tk_changeWater_1 : decode me_tk_changeWater.2.1 1 = .ok (.getfield 25, 3) := by decide +kernel
theorem k_tk_changeWater_4 : decode me_tk_changeWater.2.1 4 = .ok (.istore_n 2, 1) := by decide +kernel
theorem k_tk_changeWater_5 : decode me_tk_changeWater.2.1 5 = .ok (.aload_n 0, 1) := by decide +kernel
theorem k_tk_changeWater_6 : decode me_tk_changeWater.2.1 6 = .ok (.iload_n 1, 1) := by decide +kernel
theorem k_tk_changeWater_7 : decode me_tk_changeWater.2.1 7 = .ok (.putfield 25, 3) := by decide +kernel
theorem k_tk_changeWater_10 : decode me_tk_changeWater.2.1 10 = .ok (.iload_n 2, 1) := by decide +kernel
theorem k_tk_changeWater_11 : decode me_tk_changeWater.2.1 11 = .ok (.ireturn, 1) := by decide +kernel
theorem k_fn_joint_0 : decode me_fn_joint.2.1 0 = .ok (.iload_n 1, 1) := by decide +kernel
theorem k_fn_joint_1 : decode me_fn_joint.2.1 1 = .ok (.ifCond .eq 7, 3) := by decide +kernel
theorem k_fn_joint_4 : decode me_fn_joint.2.1 4 = .ok (.aconst_null, 1) := by decide +kernel
theorem k_fn_joint_5 : decode me_fn_joint.2.1 5 = .ok (.goto 11, 3) := by decide +kernel
theorem k_fn_joint_8 : decode me_fn_joint.2.1 8 = .ok (.aload_n 0, 1) := by decide +kernel
theorem k_fn_joint_9 : decode me_fn_joint.2.1 9 = .ok (.getfield 12, 3) := by decide +kernel
theorem k_fn_joint_12 : decode me_fn_joint.2.1 12 = .ok (.iload_n 2, 1) := by decide +kernel
theorem k_fn_joint_13 : decode me_fn_joint.2.1 13 = .ok (.invokevirtual 89, 3) := by decide +kernel
theorem k_fn_joint_16 : decode me_fn_joint.2.1 16 = .ok (.astore 6, 2) := by decide +kernel
theorem k_fn_joint_18 : decode me_fn_joint.2.1 18 = .ok (.iload_n 1, 1) := by decide +kernel
theorem k_fn_joint_19 : decode me_fn_joint.2.1 19 = .ok (.ifCond .eq 14, 3) := by decide +kernel
theorem k_fn_joint_22 : decode me_fn_joint.2.1 22 = .ok (.aload_n 0, 1) := by decide +kernel
theorem k_fn_joint_23 : decode me_fn_joint.2.1 23 = .ok (.getfield 12, 3) := by decide +kernel
theorem k_fn_joint_26 : decode me_fn_joint.2.1 26 = .ok (.iload_n 2, 1) := by decide +kernel
theorem k_fn_joint_27 : decode me_fn_joint.2.1 27 = .ok (.invokevirtual 76, 3) := by decide +kernel
theorem k_fn_joint_30 : decode me_fn_joint.2.1 30 = .ok (.goto 8, 3) := by decide +kernel
theorem k_fn_joint_33 : decode me_fn_joint.2.1 33 = .ok (.aload 6, 2) := by decide +kernel
theorem k_fn_joint_35 : decode me_fn_joint.2.1 35 = .ok (.invokestatic 93, 3) := by decide +kernel
theorem k_fn_joint_38 : decode me_fn_joint.2.1 38 = .ok (.astore 7, 2) := by decide +kernel
theorem k_fn_joint_40 : decode me_fn_joint.2.1 40 = .ok (.aload 7, 2) := by decide +kernel
theorem k_fn_joint_42 : decode me_fn_joint.2.1 42 = .ok (.ifnonnull 9, 3) := by decide +kernel
theorem k_fn_joint_45 : decode me_fn_joint.2.1 45 = .ok (.aload_n 0, 1) := by decide +kernel
theorem k_fn_joint_46 : decode me_fn_joint.2.1 46 = .ok (.iconst (-1), 1) := by decide +kernel
theorem k_fn_joint_47 : decode me_fn_joint.2.1 47 = .ok (.invokevirtual 56, 3) := by decide +kernel
theorem k_fn_joint_50 : decode me_fn_joint.2.1 50 = .ok (.ireturn, 1) := by decide +kernel
theorem k_fn_joint_51 : decode me_fn_joint.2.1 51 = .ok (.iload_n 3, 1) := by decide +kernel
theorem k_fn_joint_52 : decode me_fn_joint.2.1 52 = .ok (.ifCond .lt 15, 3) := by decide +kernel
theorem k_fn_joint_55 : decode me_fn_joint.2.1 55 = .ok (.iload 4, 2) := by decide +kernel
theorem k_fn_joint_57 : decode me_fn_joint.2.1 57 = .ok (.iconst 1, 1) := by decide +kernel
theorem k_fn_joint_58 : decode me_fn_joint.2.1 58 = .ok (.if_icmp .lt 9, 3) := by decide +kernel
theorem k_fn_joint_61 : decode me_fn_joint.2.1 61 = .ok (.iload 5, 2) := by decide +kernel
theorem k_fn_joint_63 : decode me_fn_joint.2.1 63 = .ok (.iconst 1, 1) := by decide +kernel
theorem k_fn_joint_64 : decode me_fn_joint.2.1 64 = .ok (.if_icmp .ge 10, 3) := by decide +kernel
theorem k_fn_joint_67 : decode me_fn_joint.2.1 67 = .ok (.aload_n 0, 1) := by decide +kernel
theorem k_fn_joint_68 : decode me_fn_joint.2.1 68 = .ok (.bipush (-4), 2) := by decide +kernel
theorem k_fn_joint_70 : decode me_fn_joint.2.1 70 = .ok (.invokevirtual 56, 3) := by decide +kernel
theorem k_fn_joint_73 : decode me_fn_joint.2.1 73 = .ok (.ireturn, 1) := by decide +kernel
theorem k_fn_joint_74 : decode me_fn_joint.2.1 74 = .ok (.aload_n 0, 1) := by decide +kernel
theorem k_fn_joint_75 : decode me_fn_joint.2.1 75 = .ok (.getfield 12, 3) := by decide +kernel
theorem k_fn_joint_78 : decode me_fn_joint.2.1 78 = .ok (.getfield 97, 3) := by decide +kernel
theorem k_fn_joint_81 : decode me_fn_joint.2.1 81 = .ok (.invokevirtual 63, 3) := by decide +kernel
theorem k_fn_joint_84 : decode me_fn_joint.2.1 84 = .ok (.istore 8, 2) := by decide +kernel
theorem k_fn_joint_86 : decode me_fn_joint.2.1 86 = .ok (.iload_n 3, 1) := by decide +kernel
theorem k_fn_joint_87 : decode me_fn_joint.2.1 87 = .ok (.sipush 500, 3) := by decide +kernel
theorem k_fn_joint_90 : decode me_fn_joint.2.1 90 = .ok (.if_icmp .gt 25, 3) := by decide +kernel
theorem k_fn_joint_93 : decode me_fn_joint.2.1 93 = .ok (.iload 4, 2) := by decide +kernel
theorem k_fn_joint_95 : decode me_fn_joint.2.1 95 = .ok (.bipush 9, 2) := by decide +kernel
theorem k_fn_joint_97 : decode me_fn_joint.2.1 97 = .ok (.if_icmp .gt 18, 3) := by decide +kernel
theorem k_fn_joint_100 : decode me_fn_joint.2.1 100 = .ok (.iload 5, 2) := by decide +kernel
theorem k_fn_joint_102 : decode me_fn_joint.2.1 102 = .ok (.sipush 200, 3) := by decide +kernel
theorem k_fn_joint_105 : decode me_fn_joint.2.1 105 = .ok (.if_icmp .gt 10, 3) := by decide +kernel
theorem k_fn_joint_108 : decode me_fn_joint.2.1 108 = .ok (.iload 8, 2) := by decide +kernel
theorem k_fn_joint_110 : decode me_fn_joint.2.1 110 = .ok (.bipush 30, 2) := by decide +kernel
theorem k_fn_joint_112 : decode me_fn_joint.2.1 112 = .ok (.if_icmp .lt 10, 3) := by decide +kernel
theorem k_fn_joint_115 : decode me_fn_joint.2.1 115 = .ok (.aload_n 0, 1) := by decide +kernel
theorem k_fn_joint_116 : decode me_fn_joint.2.1 116 = .ok (.bipush (-6), 2) := by decide +kernel
theorem k_fn_joint_118 : decode me_fn_joint.2.1 118 = .ok (.invokevirtual 56, 3) := by decide +kernel
theorem k_fn_joint_121 : decode me_fn_joint.2.1 121 = .ok (.ireturn, 1) := by decide +kernel
theorem k_fn_joint_122 : decode me_fn_joint.2.1 122 = .ok (.aload 6, 2) := by decide +kernel
theorem k_fn_joint_124 : decode me_fn_joint.2.1 124 = .ok (.ifnull 18, 3) := by decide +kernel
theorem k_fn_joint_127 : decode me_fn_joint.2.1 127 = .ok (.aload 6, 2) := by decide +kernel
theorem k_fn_joint_129 : decode me_fn_joint.2.1 129 = .ok (.getfield 100, 3) := by decide +kernel
theorem k_fn_joint_132 : decode me_fn_joint.2.1 132 = .ok (.ifCond .eq 10, 3) := by decide +kernel
theorem k_fn_joint_135 : decode me_fn_joint.2.1 135 = .ok (.aload_n 0, 1) := by decide +kernel
theorem k_fn_joint_136 : decode me_fn_joint.2.1 136 = .ok (.bipush (-3), 2) := by decide +kernel
theorem k_fn_joint_138 : decode me_fn_joint.2.1 138 = .ok (.invokevirtual 56, 3) := by decide +kernel
theorem k_fn_joint_141 : decode me_fn_joint.2.1 141 = .ok (.ireturn, 1) := by decide +kernel
theorem k_fn_joint_142 : decode me_fn_joint.2.1 142 = .ok (.aload_n 0, 1) := by decide +kernel
theorem k_fn_joint_143 : decode me_fn_joint.2.1 143 = .ok (.getfield 12, 3) := by decide +kernel
theorem k_fn_joint_146 : decode me_fn_joint.2.1 146 = .ok (.getfield 97, 3) := by decide +kernel
theorem k_fn_joint_149 : decode me_fn_joint.2.1 149 = .ok (.new 101, 3) := by decide +kernel
theorem k_fn_joint_152 : decode me_fn_joint.2.1 152 = .ok (.dup, 1) := by decide +kernel
theorem k_fn_joint_153 : decode me_fn_joint.2.1 153 = .ok (.iload 8, 2) := by decide +kernel
theorem k_fn_joint_155 : decode me_fn_joint.2.1 155 = .ok (.aload 7, 2) := by decide +kernel
theorem k_fn_joint_157 : decode me_fn_joint.2.1 157 = .ok (.aload 6, 2) := by decide +kernel
theorem k_fn_joint_159 : decode me_fn_joint.2.1 159 = .ok (.iload_n 3, 1) := by decide +kernel
theorem k_fn_joint_160 : decode me_fn_joint.2.1 160 = .ok (.iload 4, 2) := by decide +kernel
theorem k_fn_joint_162 : decode me_fn_joint.2.1 162 = .ok (.iload 5, 2) := by decide +kernel
theorem k_fn_joint_164 : decode me_fn_joint.2.1 164 = .ok (.invokespecial 106, 3) := by decide +kernel
theorem k_fn_joint_167 : decode me_fn_joint.2.1 167 = .ok (.invokevirtual 72, 3) := by decide +kernel
theorem k_fn_joint_170 : decode me_fn_joint.2.1 170 = .ok (.pop, 1) := by decide +kernel
theorem k_fn_joint_171 : decode me_fn_joint.2.1 171 = .ok (.iload 8, 2) := by decide +kernel
theorem k_fn_joint_173 : decode me_fn_joint.2.1 173 = .ok (.ireturn, 1) := by decide +kernel
theorem k_ga_jointAt_0 : decode me_ga_jointAt.2.1 0 = .ok (.iload_n 1, 1) := by decide +kernel
theorem k_ga_jointAt_1 : decode me_ga_jointAt.2.1 1 = .ok (.ifCond .lt 28, 3) := by decide +kernel
theorem k_ga_jointAt_4 : decode me_ga_jointAt.2.1 4 = .ok (.iload_n 1, 1) := by decide +kernel
theorem k_ga_jointAt_5 : decode me_ga_jointAt.2.1 5 = .ok (.aload_n 0, 1) := by decide +kernel
theorem k_ga_jointAt_6 : decode me_ga_jointAt.2.1 6 = .ok (.getfield 18, 3) := by decide +kernel
theorem k_ga_jointAt_9 : decode me_ga_jointAt.2.1 9 = .ok (.invokevirtual 24, 3) := by decide +kernel
theorem k_ga_jointAt_12 : decode me_ga_jointAt.2.1 12 = .ok (.if_icmp .ge 17, 3) := by decide +kernel
theorem k_ga_jointAt_15 : decode me_ga_jointAt.2.1 15 = .ok (.aload_n 0, 1) := by decide +kernel
theorem k_ga_jointAt_16 : decode me_ga_jointAt.2.1 16 = .ok (.getfield 18, 3) := by decide +kernel
theorem k_ga_jointAt_19 : decode me_ga_jointAt.2.1 19 = .ok (.iload_n 1, 1) := by decide +kernel
theorem k_ga_jointAt_20 : decode me_ga_jointAt.2.1 20 = .ok (.invokevirtual 28, 3) := by decide +kernel
theorem k_ga_jointAt_23 : decode me_ga_jointAt.2.1 23 = .ok (.checkcast 34, 3) := by decide +kernel
theorem k_ga_jointAt_26 : decode me_ga_jointAt.2.1 26 = .ok (.goto 4, 3) := by decide +kernel
theorem k_ga_jointAt_29 : decode me_ga_jointAt.2.1 29 = .ok (.aconst_null, 1) := by decide +kernel
theorem k_ga_jointAt_30 : decode me_ga_jointAt.2.1 30 = .ok (.areturn, 1) := by decide +kernel
theorem k_fn_feederOf_0 : decode me_fn_feederOf.2.1 0 = .ok (.aload_n 0, 1) := by decide +kernel
theorem k_fn_feederOf_1 : decode me_fn_feederOf.2.1 1 = .ok (.ifnonnull 7, 3) := by decide +kernel
theorem k_fn_feederOf_4 : decode me_fn_feederOf.2.1 4 = .ok (.aconst_null, 1) := by decide +kernel
theorem k_fn_feederOf_5 : decode me_fn_feederOf.2.1 5 = .ok (.goto 7, 3) := by decide +kernel
theorem k_fn_feederOf_8 : decode me_fn_feederOf.2.1 8 = .ok (.aload_n 0, 1) := by decide +kernel
theorem k_fn_feederOf_9 : decode me_fn_feederOf.2.1 9 = .ok (.getfield 153, 3) := by decide +kernel
theorem k_fn_feederOf_12 : decode me_fn_feederOf.2.1 12 = .ok (.areturn, 1) := by decide +kernel
theorem k_jn_init_0 : decode me_jn_init.2.1 0 = .ok (.aload_n 0, 1) := by decide +kernel
theorem k_jn_init_1 : decode me_jn_init.2.1 1 = .ok (.invokespecial 1, 3) := by decide +kernel
theorem k_jn_init_4 : decode me_jn_init.2.1 4 = .ok (.aload_n 0, 1) := by decide +kernel
theorem k_jn_init_5 : decode me_jn_init.2.1 5 = .ok (.iload_n 1, 1) := by decide +kernel
theorem k_jn_init_6 : decode me_jn_init.2.1 6 = .ok (.putfield 7, 3) := by decide +kernel
theorem k_jn_init_9 : decode me_jn_init.2.1 9 = .ok (.aload_n 0, 1) := by decide +kernel
theorem k_jn_init_10 : decode me_jn_init.2.1 10 = .ok (.aload_n 2, 1) := by decide +kernel
theorem k_jn_init_11 : decode me_jn_init.2.1 11 = .ok (.putfield 13, 3) := by decide +kernel
theorem k_jn_init_14 : decode me_jn_init.2.1 14 = .ok (.aload_n 0, 1) := by decide +kernel
theorem k_jn_init_15 : decode me_jn_init.2.1 15 = .ok (.aload_n 3, 1) := by decide +kernel
theorem k_jn_init_16 : decode me_jn_init.2.1 16 = .ok (.putfield 17, 3) := by decide +kernel
theorem k_jn_init_19 : decode me_jn_init.2.1 19 = .ok (.aload_n 0, 1) := by decide +kernel
theorem k_jn_init_20 : decode me_jn_init.2.1 20 = .ok (.iload 4, 2) := by decide +kernel
theorem k_jn_init_22 : decode me_jn_init.2.1 22 = .ok (.putfield 21, 3) := by decide +kernel
theorem k_jn_init_25 : decode me_jn_init.2.1 25 = .ok (.aload_n 0, 1) := by decide +kernel
theorem k_jn_init_26 : decode me_jn_init.2.1 26 = .ok (.iload 5, 2) := by decide +kernel
theorem k_jn_init_28 : decode me_jn_init.2.1 28 = .ok (.putfield 24, 3) := by decide +kernel
theorem k_jn_init_31 : decode me_jn_init.2.1 31 = .ok (.aload_n 0, 1) := by decide +kernel
theorem k_jn_init_32 : decode me_jn_init.2.1 32 = .ok (.iload 6, 2) := by decide +kernel
theorem k_jn_init_34 : decode me_jn_init.2.1 34 = .ok (.putfield 27, 3) := by decide +kernel
theorem k_jn_init_37 : decode me_jn_init.2.1 37 = .ok (.return_, 1) := by decide +kernel
theorem k_fn_jet_0 : decode me_fn_jet.2.1 0 = .ok (.aload_n 0, 1) := by decide +kernel
theorem k_fn_jet_1 : decode me_fn_jet.2.1 1 = .ok (.getfield 12, 3) := by decide +kernel
theorem k_fn_jet_4 : decode me_fn_jet.2.1 4 = .ok (.iload_n 1, 1) := by decide +kernel
theorem k_fn_jet_5 : decode me_fn_jet.2.1 5 = .ok (.invokevirtual 89, 3) := by decide +kernel
theorem k_fn_jet_8 : decode me_fn_jet.2.1 8 = .ok (.astore_n 3, 1) := by decide +kernel
theorem k_fn_jet_9 : decode me_fn_jet.2.1 9 = .ok (.aload_n 3, 1) := by decide +kernel
theorem k_fn_jet_10 : decode me_fn_jet.2.1 10 = .ok (.ifnonnull 9, 3) := by decide +kernel
theorem k_fn_jet_13 : decode me_fn_jet.2.1 13 = .ok (.aload_n 0, 1) := by decide +kernel
theorem k_fn_jet_14 : decode me_fn_jet.2.1 14 = .ok (.iconst (-1), 1) := by decide +kernel
theorem k_fn_jet_15 : decode me_fn_jet.2.1 15 = .ok (.invokevirtual 56, 3) := by decide +kernel
theorem k_fn_jet_18 : decode me_fn_jet.2.1 18 = .ok (.ireturn, 1) := by decide +kernel
theorem k_fn_jet_19 : decode me_fn_jet.2.1 19 = .ok (.aload_n 3, 1) := by decide +kernel
theorem k_fn_jet_20 : decode me_fn_jet.2.1 20 = .ok (.getfield 109, 3) := by decide +kernel
theorem k_fn_jet_23 : decode me_fn_jet.2.1 23 = .ok (.ifnull 10, 3) := by decide +kernel
theorem k_fn_jet_26 : decode me_fn_jet.2.1 26 = .ok (.aload_n 0, 1) := by decide +kernel
theorem k_fn_jet_27 : decode me_fn_jet.2.1 27 = .ok (.bipush (-3), 2) := by decide +kernel
theorem k_fn_jet_29 : decode me_fn_jet.2.1 29 = .ok (.invokevirtual 56, 3) := by decide +kernel
theorem k_fn_jet_32 : decode me_fn_jet.2.1 32 = .ok (.ireturn, 1) := by decide +kernel
theorem k_fn_jet_33 : decode me_fn_jet.2.1 33 = .ok (.iload_n 2, 1) := by decide +kernel
theorem k_fn_jet_34 : decode me_fn_jet.2.1 34 = .ok (.iconst 1, 1) := by decide +kernel
theorem k_fn_jet_35 : decode me_fn_jet.2.1 35 = .ok (.if_icmp .ge 10, 3) := by decide +kernel
theorem k_fn_jet_38 : decode me_fn_jet.2.1 38 = .ok (.aload_n 0, 1) := by decide +kernel
theorem k_fn_jet_39 : decode me_fn_jet.2.1 39 = .ok (.bipush (-4), 2) := by decide +kernel
theorem k_fn_jet_41 : decode me_fn_jet.2.1 41 = .ok (.invokevirtual 56, 3) := by decide +kernel
theorem k_fn_jet_44 : decode me_fn_jet.2.1 44 = .ok (.ireturn, 1) := by decide +kernel
theorem k_fn_jet_45 : decode me_fn_jet.2.1 45 = .ok (.aload_n 0, 1) := by decide +kernel
theorem k_fn_jet_46 : decode me_fn_jet.2.1 46 = .ok (.getfield 12, 3) := by decide +kernel
theorem k_fn_jet_49 : decode me_fn_jet.2.1 49 = .ok (.getfield 113, 3) := by decide +kernel
theorem k_fn_jet_52 : decode me_fn_jet.2.1 52 = .ok (.invokevirtual 63, 3) := by decide +kernel
theorem k_fn_jet_55 : decode me_fn_jet.2.1 55 = .ok (.istore 4, 2) := by decide +kernel
theorem k_fn_jet_57 : decode me_fn_jet.2.1 57 = .ok (.iload_n 2, 1) := by decide +kernel
theorem k_fn_jet_58 : decode me_fn_jet.2.1 58 = .ok (.bipush 60, 2) := by decide +kernel
theorem k_fn_jet_60 : decode me_fn_jet.2.1 60 = .ok (.if_icmp .gt 10, 3) := by decide +kernel
theorem k_fn_jet_63 : decode me_fn_jet.2.1 63 = .ok (.iload 4, 2) := by decide +kernel
theorem k_fn_jet_65 : decode me_fn_jet.2.1 65 = .ok (.bipush 24, 2) := by decide +kernel
theorem k_fn_jet_67 : decode me_fn_jet.2.1 67 = .ok (.if_icmp .lt 10, 3) := by decide +kernel
theorem k_fn_jet_70 : decode me_fn_jet.2.1 70 = .ok (.aload_n 0, 1) := by decide +kernel
theorem k_fn_jet_71 : decode me_fn_jet.2.1 71 = .ok (.bipush (-6), 2) := by decide +kernel
theorem k_fn_jet_73 : decode me_fn_jet.2.1 73 = .ok (.invokevirtual 56, 3) := by decide +kernel
theorem k_fn_jet_76 : decode me_fn_jet.2.1 76 = .ok (.ireturn, 1) := by decide +kernel
theorem k_fn_jet_77 : decode me_fn_jet.2.1 77 = .ok (.new 116, 3) := by decide +kernel
theorem k_fn_jet_80 : decode me_fn_jet.2.1 80 = .ok (.dup, 1) := by decide +kernel
theorem k_fn_jet_81 : decode me_fn_jet.2.1 81 = .ok (.iload 4, 2) := by decide +kernel
theorem k_fn_jet_83 : decode me_fn_jet.2.1 83 = .ok (.aload_n 3, 1) := by decide +kernel
theorem k_fn_jet_84 : decode me_fn_jet.2.1 84 = .ok (.iload_n 2, 1) := by decide +kernel
theorem k_fn_jet_85 : decode me_fn_jet.2.1 85 = .ok (.invokespecial 118, 3) := by decide +kernel
theorem k_fn_jet_88 : decode me_fn_jet.2.1 88 = .ok (.astore 5, 2) := by decide +kernel
theorem k_fn_jet_90 : decode me_fn_jet.2.1 90 = .ok (.aload_n 3, 1) := by decide +kernel
theorem k_fn_jet_91 : decode me_fn_jet.2.1 91 = .ok (.aload 5, 2) := by decide +kernel
theorem k_fn_jet_93 : decode me_fn_jet.2.1 93 = .ok (.putfield 109, 3) := by decide +kernel
theorem k_fn_jet_96 : decode me_fn_jet.2.1 96 = .ok (.aload_n 0, 1) := by decide +kernel
theorem k_fn_jet_97 : decode me_fn_jet.2.1 97 = .ok (.getfield 12, 3) := by decide +kernel
theorem k_fn_jet_100 : decode me_fn_jet.2.1 100 = .ok (.getfield 113, 3) := by decide +kernel
theorem k_fn_jet_103 : decode me_fn_jet.2.1 103 = .ok (.aload 5, 2) := by decide +kernel
theorem k_fn_jet_105 : decode me_fn_jet.2.1 105 = .ok (.invokevirtual 72, 3) := by decide +kernel
theorem k_fn_jet_108 : decode me_fn_jet.2.1 108 = .ok (.pop, 1) := by decide +kernel
theorem k_fn_jet_109 : decode me_fn_jet.2.1 109 = .ok (.iload 4, 2) := by decide +kernel
theorem k_fn_jet_111 : decode me_fn_jet.2.1 111 = .ok (.ireturn, 1) := by decide +kernel
theorem k_je_init_0 : decode me_je_init.2.1 0 = .ok (.aload_n 0, 1) := by decide +kernel
theorem k_je_init_1 : decode me_je_init.2.1 1 = .ok (.invokespecial 1, 3) := by decide +kernel
theorem k_je_init_4 : decode me_je_init.2.1 4 = .ok (.aload_n 0, 1) := by decide +kernel
theorem k_je_init_5 : decode me_je_init.2.1 5 = .ok (.iload_n 1, 1) := by decide +kernel
theorem k_je_init_6 : decode me_je_init.2.1 6 = .ok (.putfield 7, 3) := by decide +kernel
theorem k_je_init_9 : decode me_je_init.2.1 9 = .ok (.aload_n 0, 1) := by decide +kernel
theorem k_je_init_10 : decode me_je_init.2.1 10 = .ok (.iconst 1, 1) := by decide +kernel
theorem k_je_init_11 : decode me_je_init.2.1 11 = .ok (.iload_n 1, 1) := by decide +kernel
theorem k_je_init_12 : decode me_je_init.2.1 12 = .ok (.ishl, 1) := by decide +kernel
theorem k_je_init_13 : decode me_je_init.2.1 13 = .ok (.putfield 13, 3) := by decide +kernel
theorem k_je_init_16 : decode me_je_init.2.1 16 = .ok (.aload_n 0, 1) := by decide +kernel
theorem k_je_init_17 : decode me_je_init.2.1 17 = .ok (.aload_n 2, 1) := by decide +kernel
theorem k_je_init_18 : decode me_je_init.2.1 18 = .ok (.putfield 16, 3) := by decide +kernel
theorem k_je_init_21 : decode me_je_init.2.1 21 = .ok (.aload_n 0, 1) := by decide +kernel
theorem k_je_init_22 : decode me_je_init.2.1 22 = .ok (.iload_n 3, 1) := by decide +kernel
theorem k_je_init_23 : decode me_je_init.2.1 23 = .ok (.putfield 20, 3) := by decide +kernel
theorem k_je_init_26 : decode me_je_init.2.1 26 = .ok (.aload_n 0, 1) := by decide +kernel
theorem k_je_init_27 : decode me_je_init.2.1 27 = .ok (.iconst (-1), 1) := by decide +kernel
theorem k_je_init_28 : decode me_je_init.2.1 28 = .ok (.putfield 23, 3) := by decide +kernel
theorem k_je_init_31 : decode me_je_init.2.1 31 = .ok (.return_, 1) := by decide +kernel
theorem k_fn_play_0 : decode me_fn_play.2.1 0 = .ok (.aload_n 0, 1) := by decide +kernel
theorem k_fn_play_1 : decode me_fn_play.2.1 1 = .ok (.getfield 12, 3) := by decide +kernel
theorem k_fn_play_4 : decode me_fn_play.2.1 4 = .ok (.iload_n 1, 1) := by decide +kernel
theorem k_fn_play_5 : decode me_fn_play.2.1 5 = .ok (.invokevirtual 121, 3) := by decide +kernel
theorem k_fn_play_8 : decode me_fn_play.2.1 8 = .ok (.astore_n 3, 1) := by decide +kernel
theorem k_fn_play_9 : decode me_fn_play.2.1 9 = .ok (.aload_n 3, 1) := by decide +kernel
theorem k_fn_play_10 : decode me_fn_play.2.1 10 = .ok (.ifnonnull 9, 3) := by decide +kernel
theorem k_fn_play_13 : decode me_fn_play.2.1 13 = .ok (.aload_n 0, 1) := by decide +kernel
theorem k_fn_play_14 : decode me_fn_play.2.1 14 = .ok (.iconst (-1), 1) := by decide +kernel
theorem k_fn_play_15 : decode me_fn_play.2.1 15 = .ok (.invokevirtual 56, 3) := by decide +kernel
theorem k_fn_play_18 : decode me_fn_play.2.1 18 = .ok (.ireturn, 1) := by decide +kernel
theorem k_fn_play_19 : decode me_fn_play.2.1 19 = .ok (.iload_n 2, 1) := by decide +kernel
theorem k_fn_play_20 : decode me_fn_play.2.1 20 = .ok (.ifCond .eq 20, 3) := by decide +kernel
theorem k_fn_play_23 : decode me_fn_play.2.1 23 = .ok (.aload_n 3, 1) := by decide +kernel
theorem k_fn_play_24 : decode me_fn_play.2.1 24 = .ok (.getfield 125, 3) := by decide +kernel
theorem k_fn_play_27 : decode me_fn_play.2.1 27 = .ok (.getfield 100, 3) := by decide +kernel
theorem k_fn_play_30 : decode me_fn_play.2.1 30 = .ok (.ifCond .eq 10, 3) := by decide +kernel
theorem k_fn_play_33 : decode me_fn_play.2.1 33 = .ok (.aload_n 0, 1) := by decide +kernel
theorem k_fn_play_34 : decode me_fn_play.2.1 34 = .ok (.bipush (-3), 2) := by decide +kernel
theorem k_fn_play_36 : decode me_fn_play.2.1 36 = .ok (.invokevirtual 56, 3) := by decide +kernel
theorem k_fn_play_39 : decode me_fn_play.2.1 39 = .ok (.ireturn, 1) := by decide +kernel
theorem k_fn_play_40 : decode me_fn_play.2.1 40 = .ok (.aload_n 3, 1) := by decide +kernel
theorem k_fn_play_41 : decode me_fn_play.2.1 41 = .ok (.aload_n 0, 1) := by decide +kernel
theorem k_fn_play_42 : decode me_fn_play.2.1 42 = .ok (.getfield 12, 3) := by decide +kernel
theorem k_fn_play_45 : decode me_fn_play.2.1 45 = .ok (.getfield 129, 3) := by decide +kernel
theorem k_fn_play_48 : decode me_fn_play.2.1 48 = .ok (.invokevirtual 132, 3) := by decide +kernel
theorem k_fn_play_51 : decode me_fn_play.2.1 51 = .ok (.iload_n 2, 1) := by decide +kernel
theorem k_fn_play_52 : decode me_fn_play.2.1 52 = .ok (.if_icmp .ne 5, 3) := by decide +kernel
theorem k_fn_play_55 : decode me_fn_play.2.1 55 = .ok (.iconst 0, 1) := by decide +kernel
theorem k_fn_play_56 : decode me_fn_play.2.1 56 = .ok (.ireturn, 1) := by decide +kernel
theorem k_fn_play_57 : decode me_fn_play.2.1 57 = .ok (.aload_n 0, 1) := by decide +kernel
theorem k_fn_play_58 : decode me_fn_play.2.1 58 = .ok (.getfield 12, 3) := by decide +kernel
theorem k_fn_play_61 : decode me_fn_play.2.1 61 = .ok (.dup, 1) := by decide +kernel
theorem k_fn_play_62 : decode me_fn_play.2.1 62 = .ok (.getfield 129, 3) := by decide +kernel
theorem k_fn_play_65 : decode me_fn_play.2.1 65 = .ok (.aload_n 3, 1) := by decide +kernel
theorem k_fn_play_66 : decode me_fn_play.2.1 66 = .ok (.getfield 136, 3) := by decide +kernel
theorem k_fn_play_69 : decode me_fn_play.2.1 69 = .ok (.ixor, 1) := by decide +kernel
theorem k_fn_play_70 : decode me_fn_play.2.1 70 = .ok (.putfield 129, 3) := by decide +kernel
theorem k_fn_play_73 : decode me_fn_play.2.1 73 = .ok (.iconst 1, 1) := by decide +kernel
theorem k_fn_play_74 : decode me_fn_play.2.1 74 = .ok (.ireturn, 1) := by decide +kernel
theorem k_ga_jetAt_0 : decode me_ga_jetAt.2.1 0 = .ok (.iload_n 1, 1) := by decide +kernel
theorem k_ga_jetAt_1 : decode me_ga_jetAt.2.1 1 = .ok (.ifCond .lt 28, 3) := by decide +kernel
theorem k_ga_jetAt_4 : decode me_ga_jetAt.2.1 4 = .ok (.iload_n 1, 1) := by decide +kernel
theorem k_ga_jetAt_5 : decode me_ga_jetAt.2.1 5 = .ok (.aload_n 0, 1) := by decide +kernel
theorem k_ga_jetAt_6 : decode me_ga_jetAt.2.1 6 = .ok (.getfield 21, 3) := by decide +kernel
theorem k_ga_jetAt_9 : decode me_ga_jetAt.2.1 9 = .ok (.invokevirtual 24, 3) := by decide +kernel
theorem k_ga_jetAt_12 : decode me_ga_jetAt.2.1 12 = .ok (.if_icmp .ge 17, 3) := by decide +kernel
theorem k_ga_jetAt_15 : decode me_ga_jetAt.2.1 15 = .ok (.aload_n 0, 1) := by decide +kernel
theorem k_ga_jetAt_16 : decode me_ga_jetAt.2.1 16 = .ok (.getfield 21, 3) := by decide +kernel
theorem k_ga_jetAt_19 : decode me_ga_jetAt.2.1 19 = .ok (.iload_n 1, 1) := by decide +kernel
theorem k_ga_jetAt_20 : decode me_ga_jetAt.2.1 20 = .ok (.invokevirtual 28, 3) := by decide +kernel
theorem k_ga_jetAt_23 : decode me_ga_jetAt.2.1 23 = .ok (.checkcast 36, 3) := by decide +kernel
theorem k_ga_jetAt_26 : decode me_ga_jetAt.2.1 26 = .ok (.goto 4, 3) := by decide +kernel
theorem k_ga_jetAt_29 : decode me_ga_jetAt.2.1 29 = .ok (.aconst_null, 1) := by decide +kernel
theorem k_ga_jetAt_30 : decode me_ga_jetAt.2.1 30 = .ok (.areturn, 1) := by decide +kernel
theorem k_je_isIn_0 : decode me_je_isIn.2.1 0 = .ok (.iload_n 1, 1) := by decide +kernel
theorem k_je_isIn_1 : decode me_je_isIn.2.1 1 = .ok (.aload_n 0, 1) := by decide +kernel
theorem k_je_isIn_2 : decode me_je_isIn.2.1 2 = .ok (.getfield 13, 3) := by decide +kernel
theorem k_je_isIn_5 : decode me_je_isIn.2.1 5 = .ok (.iand, 1) := by decide +kernel
theorem k_je_isIn_6 : decode me_je_isIn.2.1 6 = .ok (.ifCond .eq 7, 3) := by decide +kernel
theorem k_je_isIn_9 : decode me_je_isIn.2.1 9 = .ok (.iconst 1, 1) := by decide +kernel
theorem k_je_isIn_10 : decode me_je_isIn.2.1 10 = .ok (.goto 4, 3) := by decide +kernel
theorem k_je_isIn_13 : decode me_je_isIn.2.1 13 = .ok (.iconst 0, 1) := by decide +kernel
theorem k_je_isIn_14 : decode me_je_isIn.2.1 14 = .ok (.ireturn, 1) := by decide +kernel
theorem k_fn_pipe_0 : decode me_fn_pipe.2.1 0 = .ok (.aload_n 0, 1) := by decide +kernel
theorem k_fn_pipe_1 : decode me_fn_pipe.2.1 1 = .ok (.getfield 12, 3) := by decide +kernel
theorem k_fn_pipe_4 : decode me_fn_pipe.2.1 4 = .ok (.iload_n 1, 1) := by decide +kernel
theorem k_fn_pipe_5 : decode me_fn_pipe.2.1 5 = .ok (.invokevirtual 89, 3) := by decide +kernel
theorem k_fn_pipe_8 : decode me_fn_pipe.2.1 8 = .ok (.astore_n 3, 1) := by decide +kernel
theorem k_fn_pipe_9 : decode me_fn_pipe.2.1 9 = .ok (.aload_n 3, 1) := by decide +kernel
theorem k_fn_pipe_10 : decode me_fn_pipe.2.1 10 = .ok (.ifnonnull 9, 3) := by decide +kernel
theorem k_fn_pipe_13 : decode me_fn_pipe.2.1 13 = .ok (.aload_n 0, 1) := by decide +kernel
theorem k_fn_pipe_14 : decode me_fn_pipe.2.1 14 = .ok (.iconst (-1), 1) := by decide +kernel
theorem k_fn_pipe_15 : decode me_fn_pipe.2.1 15 = .ok (.invokevirtual 56, 3) := by decide +kernel
theorem k_fn_pipe_18 : decode me_fn_pipe.2.1 18 = .ok (.ireturn, 1) := by decide +kernel
theorem k_fn_pipe_19 : decode me_fn_pipe.2.1 19 = .ok (.iload_n 2, 1) := by decide +kernel
theorem k_fn_pipe_20 : decode me_fn_pipe.2.1 20 = .ok (.iconst 1, 1) := by decide +kernel
theorem k_fn_pipe_21 : decode me_fn_pipe.2.1 21 = .ok (.if_icmp .ge 10, 3) := by decide +kernel
theorem k_fn_pipe_24 : decode me_fn_pipe.2.1 24 = .ok (.aload_n 0, 1) := by decide +kernel
theorem k_fn_pipe_25 : decode me_fn_pipe.2.1 25 = .ok (.bipush (-4), 2) := by decide +kernel
theorem k_fn_pipe_27 : decode me_fn_pipe.2.1 27 = .ok (.invokevirtual 56, 3) := by decide +kernel
theorem k_fn_pipe_30 : decode me_fn_pipe.2.1 30 = .ok (.ireturn, 1) := by decide +kernel
theorem k_fn_pipe_31 : decode me_fn_pipe.2.1 31 = .ok (.iload_n 2, 1) := by decide +kernel
theorem k_fn_pipe_32 : decode me_fn_pipe.2.1 32 = .ok (.bipush 9, 2) := by decide +kernel
theorem k_fn_pipe_34 : decode me_fn_pipe.2.1 34 = .ok (.if_icmp .le 10, 3) := by decide +kernel
theorem k_fn_pipe_37 : decode me_fn_pipe.2.1 37 = .ok (.aload_n 0, 1) := by decide +kernel
theorem k_fn_pipe_38 : decode me_fn_pipe.2.1 38 = .ok (.bipush (-6), 2) := by decide +kernel
theorem k_fn_pipe_40 : decode me_fn_pipe.2.1 40 = .ok (.invokevirtual 56, 3) := by decide +kernel
theorem k_fn_pipe_43 : decode me_fn_pipe.2.1 43 = .ok (.ireturn, 1) := by decide +kernel
theorem k_fn_pipe_44 : decode me_fn_pipe.2.1 44 = .ok (.aload_n 3, 1) := by decide +kernel
theorem k_fn_pipe_45 : decode me_fn_pipe.2.1 45 = .ok (.getfield 139, 3) := by decide +kernel
theorem k_fn_pipe_48 : decode me_fn_pipe.2.1 48 = .ok (.istore 4, 2) := by decide +kernel
theorem k_fn_pipe_50 : decode me_fn_pipe.2.1 50 = .ok (.aload_n 3, 1) := by decide +kernel
theorem k_fn_pipe_51 : decode me_fn_pipe.2.1 51 = .ok (.iload_n 2, 1) := by decide +kernel
theorem k_fn_pipe_52 : decode me_fn_pipe.2.1 52 = .ok (.putfield 139, 3) := by decide +kernel
theorem k_fn_pipe_55 : decode me_fn_pipe.2.1 55 = .ok (.iload 4, 2) := by decide +kernel
theorem k_fn_pipe_57 : decode me_fn_pipe.2.1 57 = .ok (.ireturn, 1) := by decide +kernel
theorem k_fn_leak_0 : decode me_fn_leak.2.1 0 = .ok (.aload_n 0, 1) := by decide +kernel
theorem k_fn_leak_1 : decode me_fn_leak.2.1 1 = .ok (.getfield 12, 3) := by decide +kernel
theorem k_fn_leak_4 : decode me_fn_leak.2.1 4 = .ok (.iload_n 1, 1) := by decide +kernel
theorem k_fn_leak_5 : decode me_fn_leak.2.1 5 = .ok (.invokevirtual 89, 3) := by decide +kernel
theorem k_fn_leak_8 : decode me_fn_leak.2.1 8 = .ok (.astore_n 3, 1) := by decide +kernel
theorem k_fn_leak_9 : decode me_fn_leak.2.1 9 = .ok (.aload_n 3, 1) := by decide +kernel
theorem k_fn_leak_10 : decode me_fn_leak.2.1 10 = .ok (.ifnonnull 9, 3) := by decide +kernel
theorem k_fn_leak_13 : decode me_fn_leak.2.1 13 = .ok (.aload_n 0, 1) := by decide +kernel
theorem k_fn_leak_14 : decode me_fn_leak.2.1 14 = .ok (.iconst (-1), 1) := by decide +kernel
theorem k_fn_leak_15 : decode me_fn_leak.2.1 15 = .ok (.invokevirtual 56, 3) := by decide +kernel
theorem k_fn_leak_18 : decode me_fn_leak.2.1 18 = .ok (.ireturn, 1) := by decide +kernel
theorem k_fn_leak_19 : decode me_fn_leak.2.1 19 = .ok (.iload_n 2, 1) := by decide +kernel
theorem k_fn_leak_20 : decode me_fn_leak.2.1 20 = .ok (.ifCond .ge 10, 3) := by decide +kernel
theorem k_fn_leak_23 : decode me_fn_leak.2.1 23 = .ok (.aload_n 0, 1) := by decide +kernel
theorem k_fn_leak_24 : decode me_fn_leak.2.1 24 = .ok (.bipush (-4), 2) := by decide +kernel
theorem k_fn_leak_26 : decode me_fn_leak.2.1 26 = .ok (.invokevirtual 56, 3) := by decide +kernel
theorem k_fn_leak_29 : decode me_fn_leak.2.1 29 = .ok (.ireturn, 1) := by decide +kernel
theorem k_fn_leak_30 : decode me_fn_leak.2.1 30 = .ok (.iload_n 2, 1) := by decide +kernel
theorem k_fn_leak_31 : decode me_fn_leak.2.1 31 = .ok (.bipush 60, 2) := by decide +kernel
theorem k_fn_leak_33 : decode me_fn_leak.2.1 33 = .ok (.if_icmp .le 10, 3) := by decide +kernel
theorem k_fn_leak_36 : decode me_fn_leak.2.1 36 = .ok (.aload_n 0, 1) := by decide +kernel
theorem k_fn_leak_37 : decode me_fn_leak.2.1 37 = .ok (.bipush (-6), 2) := by decide +kernel
theorem k_fn_leak_39 : decode me_fn_leak.2.1 39 = .ok (.invokevirtual 56, 3) := by decide +kernel
theorem k_fn_leak_42 : decode me_fn_leak.2.1 42 = .ok (.ireturn, 1) := by decide +kernel
theorem k_fn_leak_43 : decode me_fn_leak.2.1 43 = .ok (.aload_n 3, 1) := by decide +kernel
theorem k_fn_leak_44 : decode me_fn_leak.2.1 44 = .ok (.getfield 141, 3) := by decide +kernel
theorem k_fn_leak_47 : decode me_fn_leak.2.1 47 = .ok (.istore 4, 2) := by decide +kernel
theorem k_fn_leak_49 : decode me_fn_leak.2.1 49 = .ok (.aload_n 3, 1) := by decide +kernel
theorem k_fn_leak_50 : decode me_fn_leak.2.1 50 = .ok (.iload_n 2, 1) := by decide +kernel
theorem k_fn_leak_51 : decode me_fn_leak.2.1 51 = .ok (.putfield 141, 3) := by decide +kernel
theorem k_fn_leak_54 : decode me_fn_leak.2.1 54 = .ok (.iload 4, 2) := by decide +kernel
theorem k_fn_leak_56 : decode me_fn_leak.2.1 56 = .ok (.ireturn, 1) := by decide +kernel
theorem k_fn_flow_0 : decode me_fn_flow.2.1 0 = .ok (.aload_n 0, 1) := by decide +kernel
theorem k_fn_flow_1 : decode me_fn_flow.2.1 1 = .ok (.getfield 12, 3) := by decide +kernel
theorem k_fn_flow_4 : decode me_fn_flow.2.1 4 = .ok (.iload_n 1, 1) := by decide +kernel
theorem k_fn_flow_5 : decode me_fn_flow.2.1 5 = .ok (.invokevirtual 89, 3) := by decide +kernel
theorem k_fn_flow_8 : decode me_fn_flow.2.1 8 = .ok (.astore_n 2, 1) := by decide +kernel
theorem k_fn_flow_9 : decode me_fn_flow.2.1 9 = .ok (.aload_n 2, 1) := by decide +kernel
theorem k_fn_flow_10 : decode me_fn_flow.2.1 10 = .ok (.ifnonnull 9, 3) := by decide +kernel
theorem k_fn_flow_13 : decode me_fn_flow.2.1 13 = .ok (.aload_n 0, 1) := by decide +kernel
theorem k_fn_flow_14 : decode me_fn_flow.2.1 14 = .ok (.iconst (-1), 1) := by decide +kernel
theorem k_fn_flow_15 : decode me_fn_flow.2.1 15 = .ok (.invokevirtual 56, 3) := by decide +kernel
theorem k_fn_flow_18 : decode me_fn_flow.2.1 18 = .ok (.ireturn, 1) := by decide +kernel
theorem k_fn_flow_19 : decode me_fn_flow.2.1 19 = .ok (.aload_n 0, 1) := by decide +kernel
theorem k_fn_flow_20 : decode me_fn_flow.2.1 20 = .ok (.getfield 12, 3) := by decide +kernel
theorem k_fn_flow_23 : decode me_fn_flow.2.1 23 = .ok (.invokevirtual 144, 3) := by decide +kernel
theorem k_fn_flow_26 : decode me_fn_flow.2.1 26 = .ok (.aload_n 2, 1) := by decide +kernel
theorem k_fn_flow_27 : decode me_fn_flow.2.1 27 = .ok (.getfield 147, 3) := by decide +kernel
theorem k_fn_flow_30 : decode me_fn_flow.2.1 30 = .ok (.ireturn, 1) := by decide +kernel
theorem k_ga_reckonAsItIs_0 : decode me_ga_reckonAsItIs.2.1 0 = .ok (.aload_n 0, 1) := by decide +kernel
theorem k_ga_reckonAsItIs_1 : decode me_ga_reckonAsItIs.2.1 1 = .ok (.aload_n 0, 1) := by decide +kernel
theorem k_ga_reckonAsItIs_2 : decode me_ga_reckonAsItIs.2.1 2 = .ok (.getfield 38, 3) := by decide +kernel
theorem k_ga_reckonAsItIs_5 : decode me_ga_reckonAsItIs.2.1 5 = .ok (.iconst 0, 1) := by decide +kernel
theorem k_ga_reckonAsItIs_6 : decode me_ga_reckonAsItIs.2.1 6 = .ok (.invokevirtual 42, 3) := by decide +kernel
theorem k_ga_reckonAsItIs_9 : decode me_ga_reckonAsItIs.2.1 9 = .ok (.return_, 1) := by decide +kernel
theorem k_ga_reckon_0 : decode me_ga_reckon.2.1 0 = .ok (.aload_n 0, 1) := by decide +kernel
theorem k_ga_reckon_1 : decode me_ga_reckon.2.1 1 = .ok (.invokevirtual 46, 3) := by decide +kernel
theorem k_ga_reckon_4 : decode me_ga_reckon.2.1 4 = .ok (.aload_n 0, 1) := by decide +kernel
theorem k_ga_reckon_5 : decode me_ga_reckon.2.1 5 = .ok (.getfield 18, 3) := by decide +kernel
theorem k_ga_reckon_8 : decode me_ga_reckon.2.1 8 = .ok (.invokevirtual 24, 3) := by decide +kernel
theorem k_ga_reckon_11 : decode me_ga_reckon.2.1 11 = .ok (.iconst 1, 1) := by decide +kernel
theorem k_ga_reckon_12 : decode me_ga_reckon.2.1 12 = .ok (.isub, 1) := by decide +kernel
theorem k_ga_reckon_13 : decode me_ga_reckon.2.1 13 = .ok (.istore_n 3, 1) := by decide +kernel
theorem k_ga_reckon_14 : decode me_ga_reckon.2.1 14 = .ok (.iload_n 3, 1) := by decide +kernel
theorem k_ga_reckon_15 : decode me_ga_reckon.2.1 15 = .ok (.ifCond .lt 70, 3) := by decide +kernel
theorem k_ga_reckon_18 : decode me_ga_reckon.2.1 18 = .ok (.aload_n 0, 1) := by decide +kernel
theorem k_ga_reckon_19 : decode me_ga_reckon.2.1 19 = .ok (.getfield 18, 3) := by decide +kernel
theorem k_ga_reckon_22 : decode me_ga_reckon.2.1 22 = .ok (.iload_n 3, 1) := by decide +kernel
theorem k_ga_reckon_23 : decode me_ga_reckon.2.1 23 = .ok (.invokevirtual 28, 3) := by decide +kernel
theorem k_ga_reckon_26 : decode me_ga_reckon.2.1 26 = .ok (.checkcast 34, 3) := by decide +kernel
theorem k_ga_reckon_29 : decode me_ga_reckon.2.1 29 = .ok (.astore 4, 2) := by decide +kernel
theorem k_ga_reckon_31 : decode me_ga_reckon.2.1 31 = .ok (.aload 4, 2) := by decide +kernel
theorem k_ga_reckon_33 : decode me_ga_reckon.2.1 33 = .ok (.getfield 49, 3) := by decide +kernel
theorem k_ga_reckon_36 : decode me_ga_reckon.2.1 36 = .ok (.ifCond .ne 43, 3) := by decide +kernel
theorem k_ga_reckon_39 : decode me_ga_reckon.2.1 39 = .ok (.aload 4, 2) := by decide +kernel
theorem k_ga_reckon_41 : decode me_ga_reckon.2.1 41 = .ok (.dup, 1) := by decide +kernel
theorem k_ga_reckon_42 : decode me_ga_reckon.2.1 42 = .ok (.getfield 53, 3) := by decide +kernel
theorem k_ga_reckon_45 : decode me_ga_reckon.2.1 45 = .ok (.aload 4, 2) := by decide +kernel
theorem k_ga_reckon_47 : decode me_ga_reckon.2.1 47 = .ok (.iload_n 1, 1) := by decide +kernel
theorem k_ga_reckon_48 : decode me_ga_reckon.2.1 48 = .ok (.invokevirtual 56, 3) := by decide +kernel
theorem k_ga_reckon_51 : decode me_ga_reckon.2.1 51 = .ok (.iload_n 2, 1) := by decide +kernel
theorem k_ga_reckon_52 : decode me_ga_reckon.2.1 52 = .ok (.ifCond .eq 11, 3) := by decide +kernel
theorem k_ga_reckon_55 : decode me_ga_reckon.2.1 55 = .ok (.aload 4, 2) := by decide +kernel
theorem k_ga_reckon_57 : decode me_ga_reckon.2.1 57 = .ok (.getfield 60, 3) := by decide +kernel
theorem k_ga_reckon_60 : decode me_ga_reckon.2.1 60 = .ok (.goto 8, 3) := by decide +kernel
theorem k_ga_reckon_63 : decode me_ga_reckon.2.1 63 = .ok (.aload 4, 2) := by decide +kernel
theorem k_ga_reckon_65 : decode me_ga_reckon.2.1 65 = .ok (.getfield 63, 3) := by decide +kernel
theorem k_ga_reckon_68 : decode me_ga_reckon.2.1 68 = .ok (.iadd, 1) := by decide +kernel
theorem k_ga_reckon_69 : decode me_ga_reckon.2.1 69 = .ok (.iadd, 1) := by decide +kernel
theorem k_ga_reckon_70 : decode me_ga_reckon.2.1 70 = .ok (.putfield 53, 3) := by decide +kernel
theorem k_ga_reckon_73 : decode me_ga_reckon.2.1 73 = .ok (.aload_n 0, 1) := by decide +kernel
theorem k_ga_reckon_74 : decode me_ga_reckon.2.1 74 = .ok (.aload 4, 2) := by decide +kernel
theorem k_ga_reckon_76 : decode me_ga_reckon.2.1 76 = .ok (.invokevirtual 66, 3) := by decide +kernel
theorem k_ga_reckon_79 : decode me_ga_reckon.2.1 79 = .ok (.iinc 3 (-1), 3) := by decide +kernel
theorem k_ga_reckon_82 : decode me_ga_reckon.2.1 82 = .ok (.goto (-68), 3) := by decide +kernel
theorem k_ga_reckon_85 : decode me_ga_reckon.2.1 85 = .ok (.iconst 0, 1) := by decide +kernel
theorem k_ga_reckon_86 : decode me_ga_reckon.2.1 86 = .ok (.istore_n 3, 1) := by decide +kernel
theorem k_ga_reckon_87 : decode me_ga_reckon.2.1 87 = .ok (.iload_n 3, 1) := by decide +kernel
theorem k_ga_reckon_88 : decode me_ga_reckon.2.1 88 = .ok (.aload_n 0, 1) := by decide +kernel
theorem k_ga_reckon_89 : decode me_ga_reckon.2.1 89 = .ok (.getfield 18, 3) := by decide +kernel
theorem k_ga_reckon_92 : decode me_ga_reckon.2.1 92 = .ok (.invokevirtual 24, 3) := by decide +kernel
theorem k_ga_reckon_95 : decode me_ga_reckon.2.1 95 = .ok (.if_icmp .ge 53, 3) := by decide +kernel
theorem k_ga_reckon_98 : decode me_ga_reckon.2.1 98 = .ok (.aload_n 0, 1) := by decide +kernel
theorem k_ga_reckon_99 : decode me_ga_reckon.2.1 99 = .ok (.getfield 18, 3) := by decide +kernel
theorem k_ga_reckon_102 : decode me_ga_reckon.2.1 102 = .ok (.iload_n 3, 1) := by decide +kernel
theorem k_ga_reckon_103 : decode me_ga_reckon.2.1 103 = .ok (.invokevirtual 28, 3) := by decide +kernel
theorem k_ga_reckon_106 : decode me_ga_reckon.2.1 106 = .ok (.checkcast 34, 3) := by decide +kernel
theorem k_ga_reckon_109 : decode me_ga_reckon.2.1 109 = .ok (.astore 4, 2) := by decide +kernel
theorem k_ga_reckon_111 : decode me_ga_reckon.2.1 111 = .ok (.aload 4, 2) := by decide +kernel
theorem k_ga_reckon_113 : decode me_ga_reckon.2.1 113 = .ok (.aload 4, 2) := by decide +kernel
theorem k_ga_reckon_115 : decode me_ga_reckon.2.1 115 = .ok (.invokevirtual 70, 3) := by decide +kernel
theorem k_ga_reckon_118 : decode me_ga_reckon.2.1 118 = .ok (.aload 4, 2) := by decide +kernel
theorem k_ga_reckon_120 : decode me_ga_reckon.2.1 120 = .ok (.getfield 73, 3) := by decide +kernel
theorem k_ga_reckon_123 : decode me_ga_reckon.2.1 123 = .ok (.ifnonnull 7, 3) := by decide +kernel
theorem k_ga_reckon_126 : decode me_ga_reckon.2.1 126 = .ok (.iconst 0, 1) := by decide +kernel
theorem k_ga_reckon_127 : decode me_ga_reckon.2.1 127 = .ok (.goto 11, 3) := by decide +kernel
theorem k_ga_reckon_130 : decode me_ga_reckon.2.1 130 = .ok (.aload 4, 2) := by decide +kernel
theorem k_ga_reckon_132 : decode me_ga_reckon.2.1 132 = .ok (.getfield 73, 3) := by decide +kernel
theorem k_ga_reckon_135 : decode me_ga_reckon.2.1 135 = .ok (.getfield 77, 3) := by decide +kernel
theorem k_ga_reckon_138 : decode me_ga_reckon.2.1 138 = .ok (.iadd, 1) := by decide +kernel
theorem k_ga_reckon_139 : decode me_ga_reckon.2.1 139 = .ok (.putfield 77, 3) := by decide +kernel
theorem k_ga_reckon_142 : decode me_ga_reckon.2.1 142 = .ok (.iinc 3 1, 3) := by decide +kernel
theorem k_ga_reckon_145 : decode me_ga_reckon.2.1 145 = .ok (.goto (-58), 3) := by decide +kernel
theorem k_ga_reckon_148 : decode me_ga_reckon.2.1 148 = .ok (.return_, 1) := by decide +kernel
theorem k_ga_forgetFlows_0 : decode me_ga_forgetFlows.2.1 0 = .ok (.iconst 0, 1) := by decide +kernel
theorem k_ga_forgetFlows_1 : decode me_ga_forgetFlows.2.1 1 = .ok (.istore_n 1, 1) := by decide +kernel
theorem k_ga_forgetFlows_2 : decode me_ga_forgetFlows.2.1 2 = .ok (.iload_n 1, 1) := by decide +kernel
theorem k_ga_forgetFlows_3 : decode me_ga_forgetFlows.2.1 3 = .ok (.aload_n 0, 1) := by decide +kernel
theorem k_ga_forgetFlows_4 : decode me_ga_forgetFlows.2.1 4 = .ok (.getfield 12, 3) := by decide +kernel
theorem k_ga_forgetFlows_7 : decode me_ga_forgetFlows.2.1 7 = .ok (.invokevirtual 24, 3) := by decide +kernel
theorem k_ga_forgetFlows_10 : decode me_ga_forgetFlows.2.1 10 = .ok (.if_icmp .ge 24, 3) := by decide +kernel
theorem k_ga_forgetFlows_13 : decode me_ga_forgetFlows.2.1 13 = .ok (.aload_n 0, 1) := by decide +kernel
theorem k_ga_forgetFlows_14 : decode me_ga_forgetFlows.2.1 14 = .ok (.getfield 12, 3) := by decide +kernel
theorem k_ga_forgetFlows_17 : decode me_ga_forgetFlows.2.1 17 = .ok (.iload_n 1, 1) := by decide +kernel
theorem k_ga_forgetFlows_18 : decode me_ga_forgetFlows.2.1 18 = .ok (.invokevirtual 28, 3) := by decide +kernel
theorem k_ga_forgetFlows_21 : decode me_ga_forgetFlows.2.1 21 = .ok (.checkcast 32, 3) := by decide +kernel
theorem k_ga_forgetFlows_24 : decode me_ga_forgetFlows.2.1 24 = .ok (.iconst 0, 1) := by decide +kernel
theorem k_ga_forgetFlows_25 : decode me_ga_forgetFlows.2.1 25 = .ok (.putfield 80, 3) := by decide +kernel
theorem k_ga_forgetFlows_28 : decode me_ga_forgetFlows.2.1 28 = .ok (.iinc 1 1, 3) := by decide +kernel
theorem k_ga_forgetFlows_31 : decode me_ga_forgetFlows.2.1 31 = .ok (.goto (-29), 3) := by decide +kernel
theorem k_ga_forgetFlows_34 : decode me_ga_forgetFlows.2.1 34 = .ok (.iconst 0, 1) := by decide +kernel
theorem k_ga_forgetFlows_35 : decode me_ga_forgetFlows.2.1 35 = .ok (.istore_n 1, 1) := by decide +kernel
theorem k_ga_forgetFlows_36 : decode me_ga_forgetFlows.2.1 36 = .ok (.iload_n 1, 1) := by decide +kernel
theorem k_ga_forgetFlows_37 : decode me_ga_forgetFlows.2.1 37 = .ok (.aload_n 0, 1) := by decide +kernel
theorem k_ga_forgetFlows_38 : decode me_ga_forgetFlows.2.1 38 = .ok (.getfield 18, 3) := by decide +kernel
theorem k_ga_forgetFlows_41 : decode me_ga_forgetFlows.2.1 41 = .ok (.invokevirtual 24, 3) := by decide +kernel
theorem k_ga_forgetFlows_44 : decode me_ga_forgetFlows.2.1 44 = .ok (.if_icmp .ge 24, 3) := by decide +kernel
theorem k_ga_forgetFlows_47 : decode me_ga_forgetFlows.2.1 47 = .ok (.aload_n 0, 1) := by decide +kernel
theorem k_ga_forgetFlows_48 : decode me_ga_forgetFlows.2.1 48 = .ok (.getfield 18, 3) := by decide +kernel
theorem k_ga_forgetFlows_51 : decode me_ga_forgetFlows.2.1 51 = .ok (.iload_n 1, 1) := by decide +kernel
theorem k_ga_forgetFlows_52 : decode me_ga_forgetFlows.2.1 52 = .ok (.invokevirtual 28, 3) := by decide +kernel
theorem k_ga_forgetFlows_55 : decode me_ga_forgetFlows.2.1 55 = .ok (.checkcast 34, 3) := by decide +kernel
theorem k_ga_forgetFlows_58 : decode me_ga_forgetFlows.2.1 58 = .ok (.iconst 0, 1) := by decide +kernel
theorem k_ga_forgetFlows_59 : decode me_ga_forgetFlows.2.1 59 = .ok (.putfield 53, 3) := by decide +kernel
theorem k_ga_forgetFlows_62 : decode me_ga_forgetFlows.2.1 62 = .ok (.iinc 1 1, 3) := by decide +kernel
theorem k_ga_forgetFlows_65 : decode me_ga_forgetFlows.2.1 65 = .ok (.goto (-29), 3) := by decide +kernel
theorem k_ga_forgetFlows_68 : decode me_ga_forgetFlows.2.1 68 = .ok (.return_, 1) := by decide +kernel
theorem k_jn_drawAmong_0 : decode me_jn_drawAmong.2.1 0 = .ok (.aload_n 0, 1) := by decide +kernel
theorem k_jn_drawAmong_1 : decode me_jn_drawAmong.2.1 1 = .ok (.getfield 48, 3) := by decide +kernel
theorem k_jn_drawAmong_4 : decode me_jn_drawAmong.2.1 4 = .ok (.ifnull 24, 3) := by decide +kernel
theorem k_jn_drawAmong_7 : decode me_jn_drawAmong.2.1 7 = .ok (.aload_n 0, 1) := by decide +kernel
theorem k_jn_drawAmong_8 : decode me_jn_drawAmong.2.1 8 = .ok (.getfield 48, 3) := by decide +kernel
theorem k_jn_drawAmong_11 : decode me_jn_drawAmong.2.1 11 = .ok (.iload_n 1, 1) := by decide +kernel
theorem k_jn_drawAmong_12 : decode me_jn_drawAmong.2.1 12 = .ok (.invokevirtual 52, 3) := by decide +kernel
theorem k_jn_drawAmong_15 : decode me_jn_drawAmong.2.1 15 = .ok (.ifCond .eq 13, 3) := by decide +kernel
theorem k_jn_drawAmong_18 : decode me_jn_drawAmong.2.1 18 = .ok (.aload_n 0, 1) := by decide +kernel
theorem k_jn_drawAmong_19 : decode me_jn_drawAmong.2.1 19 = .ok (.getfield 48, 3) := by decide +kernel
theorem k_jn_drawAmong_22 : decode me_jn_drawAmong.2.1 22 = .ok (.getfield 58, 3) := by decide +kernel
theorem k_jn_drawAmong_25 : decode me_jn_drawAmong.2.1 25 = .ok (.goto 4, 3) := by decide +kernel
theorem k_jn_drawAmong_28 : decode me_jn_drawAmong.2.1 28 = .ok (.iconst 0, 1) := by decide +kernel
theorem k_jn_drawAmong_29 : decode me_jn_drawAmong.2.1 29 = .ok (.ireturn, 1) := by decide +kernel
theorem k_ga_addFlowAhead_0 : decode me_ga_addFlowAhead.2.1 0 = .ok (.aload_n 1, 1) := by decide +kernel
theorem k_ga_addFlowAhead_1 : decode me_ga_addFlowAhead.2.1 1 = .ok (.getfield 73, 3) := by decide +kernel
theorem k_ga_addFlowAhead_4 : decode me_ga_addFlowAhead.2.1 4 = .ok (.ifnonnull 22, 3) := by decide +kernel
theorem k_ga_addFlowAhead_7 : decode me_ga_addFlowAhead.2.1 7 = .ok (.aload_n 1, 1) := by decide +kernel
theorem k_ga_addFlowAhead_8 : decode me_ga_addFlowAhead.2.1 8 = .ok (.getfield 81, 3) := by decide +kernel
theorem k_ga_addFlowAhead_11 : decode me_ga_addFlowAhead.2.1 11 = .ok (.dup, 1) := by decide +kernel
theorem k_ga_addFlowAhead_12 : decode me_ga_addFlowAhead.2.1 12 = .ok (.getfield 80, 3) := by decide +kernel
theorem k_ga_addFlowAhead_15 : decode me_ga_addFlowAhead.2.1 15 = .ok (.aload_n 1, 1) := by decide +kernel
theorem k_ga_addFlowAhead_16 : decode me_ga_addFlowAhead.2.1 16 = .ok (.getfield 53, 3) := by decide +kernel
theorem k_ga_addFlowAhead_19 : decode me_ga_addFlowAhead.2.1 19 = .ok (.iadd, 1) := by decide +kernel
theorem k_ga_addFlowAhead_20 : decode me_ga_addFlowAhead.2.1 20 = .ok (.putfield 80, 3) := by decide +kernel
theorem k_ga_addFlowAhead_23 : decode me_ga_addFlowAhead.2.1 23 = .ok (.goto 19, 3) := by decide +kernel
theorem k_ga_addFlowAhead_26 : decode me_ga_addFlowAhead.2.1 26 = .ok (.aload_n 1, 1) := by decide +kernel
theorem k_ga_addFlowAhead_27 : decode me_ga_addFlowAhead.2.1 27 = .ok (.getfield 73, 3) := by decide +kernel
theorem k_ga_addFlowAhead_30 : decode me_ga_addFlowAhead.2.1 30 = .ok (.dup, 1) := by decide +kernel
theorem k_ga_addFlowAhead_31 : decode me_ga_addFlowAhead.2.1 31 = .ok (.getfield 53, 3) := by decide +kernel
theorem k_ga_addFlowAhead_34 : decode me_ga_addFlowAhead.2.1 34 = .ok (.aload_n 1, 1) := by decide +kernel
theorem k_ga_addFlowAhead_35 : decode me_ga_addFlowAhead.2.1 35 = .ok (.getfield 53, 3) := by decide +kernel
theorem k_ga_addFlowAhead_38 : decode me_ga_addFlowAhead.2.1 38 = .ok (.iadd, 1) := by decide +kernel
theorem k_ga_addFlowAhead_39 : decode me_ga_addFlowAhead.2.1 39 = .ok (.putfield 53, 3) := by decide +kernel
theorem k_ga_addFlowAhead_42 : decode me_ga_addFlowAhead.2.1 42 = .ok (.return_, 1) := by decide +kernel
theorem k_jn_lossNow_0 : decode me_jn_lossNow.2.1 0 = .ok (.ldc2_w 30, 3) := by decide +kernel
theorem k_jn_lossNow_3 : decode me_jn_lossNow.2.1 3 = .ok (.aload_n 0, 1) := by decide +kernel
theorem k_jn_lossNow_4 : decode me_jn_lossNow.2.1 4 = .ok (.getfield 24, 3) := by decide +kernel
theorem k_jn_lossNow_7 : decode me_jn_lossNow.2.1 7 = .ok (.i2l, 1) := by decide +kernel
theorem k_jn_lossNow_8 : decode me_jn_lossNow.2.1 8 = .ok (.lmul, 1) := by decide +kernel
theorem k_jn_lossNow_9 : decode me_jn_lossNow.2.1 9 = .ok (.aload_n 0, 1) := by decide +kernel
theorem k_jn_lossNow_10 : decode me_jn_lossNow.2.1 10 = .ok (.getfield 24, 3) := by decide +kernel
theorem k_jn_lossNow_13 : decode me_jn_lossNow.2.1 13 = .ok (.i2l, 1) := by decide +kernel
theorem k_jn_lossNow_14 : decode me_jn_lossNow.2.1 14 = .ok (.lmul, 1) := by decide +kernel
theorem k_jn_lossNow_15 : decode me_jn_lossNow.2.1 15 = .ok (.lstore_n 1, 1) := by decide +kernel
theorem k_jn_lossNow_16 : decode me_jn_lossNow.2.1 16 = .ok (.lload_n 1, 1) := by decide +kernel
theorem k_jn_lossNow_17 : decode me_jn_lossNow.2.1 17 = .ok (.lconst 1, 1) := by decide +kernel
theorem k_jn_lossNow_18 : decode me_jn_lossNow.2.1 18 = .ok (.lcmp, 1) := by decide +kernel
theorem k_jn_lossNow_19 : decode me_jn_lossNow.2.1 19 = .ok (.ifCond .ge 7, 3) := by decide +kernel
theorem k_jn_lossNow_22 : decode me_jn_lossNow.2.1 22 = .ok (.iconst 0, 1) := by decide +kernel
theorem k_jn_lossNow_23 : decode me_jn_lossNow.2.1 23 = .ok (.goto 23, 3) := by decide +kernel
theorem k_jn_lossNow_26 : decode me_jn_lossNow.2.1 26 = .ok (.aload_n 0, 1) := by decide +kernel
theorem k_jn_lossNow_27 : decode me_jn_lossNow.2.1 27 = .ok (.getfield 32, 3) := by decide +kernel
theorem k_jn_lossNow_30 : decode me_jn_lossNow.2.1 30 = .ok (.i2l, 1) := by decide +kernel
theorem k_jn_lossNow_31 : decode me_jn_lossNow.2.1 31 = .ok (.aload_n 0, 1) := by decide +kernel
theorem k_jn_lossNow_32 : decode me_jn_lossNow.2.1 32 = .ok (.getfield 32, 3) := by decide +kernel
theorem k_jn_lossNow_35 : decode me_jn_lossNow.2.1 35 = .ok (.i2l, 1) := by decide +kernel
theorem k_jn_lossNow_36 : decode me_jn_lossNow.2.1 36 = .ok (.lmul, 1) := by decide +kernel
theorem k_jn_lossNow_37 : decode me_jn_lossNow.2.1 37 = .ok (.aload_n 0, 1) := by decide +kernel
theorem k_jn_lossNow_38 : decode me_jn_lossNow.2.1 38 = .ok (.getfield 27, 3) := by decide +kernel
theorem k_jn_lossNow_41 : decode me_jn_lossNow.2.1 41 = .ok (.i2l, 1) := by decide +kernel
theorem k_jn_lossNow_42 : decode me_jn_lossNow.2.1 42 = .ok (.lmul, 1) := by decide +kernel
theorem k_jn_lossNow_43 : decode me_jn_lossNow.2.1 43 = .ok (.lload_n 1, 1) := by decide +kernel
theorem k_jn_lossNow_44 : decode me_jn_lossNow.2.1 44 = .ok (.ldiv, 1) := by decide +kernel
theorem k_jn_lossNow_45 : decode me_jn_lossNow.2.1 45 = .ok (.l2i, 1) := by decide +kernel
theorem k_jn_lossNow_46 : decode me_jn_lossNow.2.1 46 = .ok (.ireturn, 1) := by decide +kernel
theorem k_fn_head_0 : decode me_fn_head.2.1 0 = .ok (.aload_n 0, 1) := by decide +kernel
theorem k_fn_head_1 : decode me_fn_head.2.1 1 = .ok (.getfield 12, 3) := by decide +kernel
theorem k_fn_head_4 : decode me_fn_head.2.1 4 = .ok (.iload_n 1, 1) := by decide +kernel
theorem k_fn_head_5 : decode me_fn_head.2.1 5 = .ok (.invokevirtual 89, 3) := by decide +kernel
theorem k_fn_head_8 : decode me_fn_head.2.1 8 = .ok (.astore_n 2, 1) := by decide +kernel
theorem k_fn_head_9 : decode me_fn_head.2.1 9 = .ok (.aload_n 2, 1) := by decide +kernel
theorem k_fn_head_10 : decode me_fn_head.2.1 10 = .ok (.ifnonnull 9, 3) := by decide +kernel
theorem k_fn_head_13 : decode me_fn_head.2.1 13 = .ok (.aload_n 0, 1) := by decide +kernel
theorem k_fn_head_14 : decode me_fn_head.2.1 14 = .ok (.iconst (-1), 1) := by decide +kernel
theorem k_fn_head_15 : decode me_fn_head.2.1 15 = .ok (.invokevirtual 150, 3) := by decide +kernel
theorem k_fn_head_18 : decode me_fn_head.2.1 18 = .ok (.ireturn, 1) := by decide +kernel
theorem k_fn_head_19 : decode me_fn_head.2.1 19 = .ok (.aload_n 0, 1) := by decide +kernel
theorem k_fn_head_20 : decode me_fn_head.2.1 20 = .ok (.getfield 12, 3) := by decide +kernel
theorem k_fn_head_23 : decode me_fn_head.2.1 23 = .ok (.invokevirtual 144, 3) := by decide +kernel
theorem k_fn_head_26 : decode me_fn_head.2.1 26 = .ok (.aload_n 2, 1) := by decide +kernel
theorem k_fn_head_27 : decode me_fn_head.2.1 27 = .ok (.aload_n 2, 1) := by decide +kernel
theorem k_fn_head_28 : decode me_fn_head.2.1 28 = .ok (.getfield 153, 3) := by decide +kernel
theorem k_fn_head_31 : decode me_fn_head.2.1 31 = .ok (.getfield 157, 3) := by decide +kernel
theorem k_fn_head_34 : decode me_fn_head.2.1 34 = .ok (.invokevirtual 160, 3) := by decide +kernel
theorem k_fn_head_37 : decode me_fn_head.2.1 37 = .ok (.ireturn, 1) := by decide +kernel
theorem k_fn_refuseAsTold_0 : decode me_fn_refuseAsTold.2.1 0 = .ok (.ldc_w 307, 3) := by decide +kernel
theorem k_fn_refuseAsTold_3 : decode me_fn_refuseAsTold.2.1 3 = .ok (.aload_n 0, 1) := by decide +kernel
theorem k_fn_refuseAsTold_4 : decode me_fn_refuseAsTold.2.1 4 = .ok (.iload_n 1, 1) := by decide +kernel
theorem k_fn_refuseAsTold_5 : decode me_fn_refuseAsTold.2.1 5 = .ok (.invokevirtual 56, 3) := by decide +kernel
theorem k_fn_refuseAsTold_8 : decode me_fn_refuseAsTold.2.1 8 = .ok (.isub, 1) := by decide +kernel
theorem k_fn_refuseAsTold_9 : decode me_fn_refuseAsTold.2.1 9 = .ok (.ireturn, 1) := by decide +kernel
theorem k_jn_headWith_0 : decode me_jn_headWith.2.1 0 = .ok (.aload_n 0, 1) := by decide +kernel
theorem k_jn_headWith_1 : decode me_jn_headWith.2.1 1 = .ok (.getfield 35, 3) := by decide +kernel
theorem k_jn_headWith_4 : decode me_jn_headWith.2.1 4 = .ok (.ifCond .ne 7, 3) := by decide +kernel
theorem k_jn_headWith_7 : decode me_jn_headWith.2.1 7 = .ok (.iload_n 1, 1) := by decide +kernel
theorem k_jn_headWith_8 : decode me_jn_headWith.2.1 8 = .ok (.ifCond .ne 7, 3) := by decide +kernel
theorem k_jn_headWith_11 : decode me_jn_headWith.2.1 11 = .ok (.iconst 1, 1) := by decide +kernel
theorem k_jn_headWith_12 : decode me_jn_headWith.2.1 12 = .ok (.goto 4, 3) := by decide +kernel
theorem k_jn_headWith_15 : decode me_jn_headWith.2.1 15 = .ok (.iconst 0, 1) := by decide +kernel
theorem k_jn_headWith_16 : decode me_jn_headWith.2.1 16 = .ok (.istore_n 2, 1) := by decide +kernel
theorem k_jn_headWith_17 : decode me_jn_headWith.2.1 17 = .ok (.iload_n 2, 1) := by decide +kernel
theorem k_jn_headWith_18 : decode me_jn_headWith.2.1 18 = .ok (.ifCond .eq 7, 3) := by decide +kernel
theorem k_jn_headWith_21 : decode me_jn_headWith.2.1 21 = .ok (.iconst 0, 1) := by decide +kernel
theorem k_jn_headWith_22 : decode me_jn_headWith.2.1 22 = .ok (.goto 21, 3) := by decide +kernel
theorem k_jn_headWith_25 : decode me_jn_headWith.2.1 25 = .ok (.aload_n 0, 1) := by decide +kernel
theorem k_jn_headWith_26 : decode me_jn_headWith.2.1 26 = .ok (.getfield 13, 3) := by decide +kernel
theorem k_jn_headWith_29 : decode me_jn_headWith.2.1 29 = .ok (.iload_n 1, 1) := by decide +kernel
theorem k_jn_headWith_30 : decode me_jn_headWith.2.1 30 = .ok (.invokevirtual 39, 3) := by decide +kernel
theorem k_jn_headWith_33 : decode me_jn_headWith.2.1 33 = .ok (.aload_n 0, 1) := by decide +kernel
theorem k_jn_headWith_34 : decode me_jn_headWith.2.1 34 = .ok (.getfield 45, 3) := by decide +kernel
theorem k_jn_headWith_37 : decode me_jn_headWith.2.1 37 = .ok (.isub, 1) := by decide +kernel
theorem k_jn_headWith_38 : decode me_jn_headWith.2.1 38 = .ok (.aload_n 0, 1) := by decide +kernel
theorem k_jn_headWith_39 : decode me_jn_headWith.2.1 39 = .ok (.getfield 21, 3) := by decide +kernel
theorem k_jn_headWith_42 : decode me_jn_headWith.2.1 42 = .ok (.isub, 1) := by decide +kernel
theorem k_jn_headWith_43 : decode me_jn_headWith.2.1 43 = .ok (.ireturn, 1) := by decide +kernel
theorem k_tk_levelWith_0 : decode me_tk_levelWith.2.1 0 = .ok (.aload_n 0, 1) := by decide +kernel
theorem k_tk_levelWith_1 : decode me_tk_levelWith.2.1 1 = .ok (.getfield 16, 3) := by decide +kernel
theorem k_tk_levelWith_4 : decode me_tk_levelWith.2.1 4 = .ok (.iconst 1, 1) := by decide +kernel
theorem k_tk_levelWith_5 : decode me_tk_levelWith.2.1 5 = .ok (.if_icmp .ge 10, 3) := by decide +kernel
theorem k_tk_levelWith_8 : decode me_tk_levelWith.2.1 8 = .ok (.aload_n 0, 1) := by decide +kernel
theorem k_tk_levelWith_9 : decode me_tk_levelWith.2.1 9 = .ok (.getfield 13, 3) := by decide +kernel
theorem k_tk_levelWith_12 : decode me_tk_levelWith.2.1 12 = .ok (.goto 14, 3) := by decide +kernel
theorem k_tk_levelWith_15 : decode me_tk_levelWith.2.1 15 = .ok (.aload_n 0, 1) := by decide +kernel
theorem k_tk_levelWith_16 : decode me_tk_levelWith.2.1 16 = .ok (.getfield 13, 3) := by decide +kernel
theorem k_tk_levelWith_19 : decode me_tk_levelWith.2.1 19 = .ok (.iload_n 1, 1) := by decide +kernel
theorem k_tk_levelWith_20 : decode me_tk_levelWith.2.1 20 = .ok (.aload_n 0, 1) := by decide +kernel
theorem k_tk_levelWith_21 : decode me_tk_levelWith.2.1 21 = .ok (.getfield 16, 3) := by decide +kernel
theorem k_tk_levelWith_24 : decode me_tk_levelWith.2.1 24 = .ok (.idiv, 1) := by decide +kernel
theorem k_tk_levelWith_25 : decode me_tk_levelWith.2.1 25 = .ok (.iadd, 1) := by decide +kernel
theorem k_tk_levelWith_26 : decode me_tk_levelWith.2.1 26 = .ok (.ireturn, 1) := by decide +kernel
theorem k_fn_rise_0 : decode me_fn_rise.2.1 0 = .ok (.aload_n 0, 1) := by decide +kernel
theorem k_fn_rise_1 : decode me_fn_rise.2.1 1 = .ok (.getfield 12, 3) := by decide +kernel
theorem k_fn_rise_4 : decode me_fn_rise.2.1 4 = .ok (.iload_n 1, 1) := by decide +kernel
theorem k_fn_rise_5 : decode me_fn_rise.2.1 5 = .ok (.invokevirtual 121, 3) := by decide +kernel
theorem k_fn_rise_8 : decode me_fn_rise.2.1 8 = .ok (.astore_n 2, 1) := by decide +kernel
theorem k_fn_rise_9 : decode me_fn_rise.2.1 9 = .ok (.aload_n 2, 1) := by decide +kernel
theorem k_fn_rise_10 : decode me_fn_rise.2.1 10 = .ok (.ifnonnull 9, 3) := by decide +kernel
theorem k_fn_rise_13 : decode me_fn_rise.2.1 13 = .ok (.aload_n 0, 1) := by decide +kernel
theorem k_fn_rise_14 : decode me_fn_rise.2.1 14 = .ok (.iconst (-1), 1) := by decide +kernel
theorem k_fn_rise_15 : decode me_fn_rise.2.1 15 = .ok (.invokevirtual 56, 3) := by decide +kernel
theorem k_fn_rise_18 : decode me_fn_rise.2.1 18 = .ok (.ireturn, 1) := by decide +kernel
theorem k_fn_rise_19 : decode me_fn_rise.2.1 19 = .ok (.aload_n 0, 1) := by decide +kernel
theorem k_fn_rise_20 : decode me_fn_rise.2.1 20 = .ok (.getfield 12, 3) := by decide +kernel
theorem k_fn_rise_23 : decode me_fn_rise.2.1 23 = .ok (.invokevirtual 144, 3) := by decide +kernel
theorem k_fn_rise_26 : decode me_fn_rise.2.1 26 = .ok (.aload_n 2, 1) := by decide +kernel
theorem k_fn_rise_27 : decode me_fn_rise.2.1 27 = .ok (.aload_n 0, 1) := by decide +kernel
theorem k_fn_rise_28 : decode me_fn_rise.2.1 28 = .ok (.getfield 12, 3) := by decide +kernel
theorem k_fn_rise_31 : decode me_fn_rise.2.1 31 = .ok (.getfield 129, 3) := by decide +kernel
theorem k_fn_rise_34 : decode me_fn_rise.2.1 34 = .ok (.aload_n 2, 1) := by decide +kernel
theorem k_fn_rise_35 : decode me_fn_rise.2.1 35 = .ok (.getfield 125, 3) := by decide +kernel
theorem k_fn_rise_38 : decode me_fn_rise.2.1 38 = .ok (.getfield 153, 3) := by decide +kernel
theorem k_fn_rise_41 : decode me_fn_rise.2.1 41 = .ok (.getfield 157, 3) := by decide +kernel
theorem k_fn_rise_44 : decode me_fn_rise.2.1 44 = .ok (.invokevirtual 163, 3) := by decide +kernel
theorem k_fn_rise_47 : decode me_fn_rise.2.1 47 = .ok (.ireturn, 1) := by decide +kernel
theorem k_je_riseAmong_0 : decode me_je_riseAmong.2.1 0 = .ok (.aload_n 0, 1) := by decide +kernel
theorem k_je_riseAmong_1 : decode me_je_riseAmong.2.1 1 = .ok (.iload_n 1, 1) := by decide +kernel
theorem k_je_riseAmong_2 : decode me_je_riseAmong.2.1 2 = .ok (.invokevirtual 26, 3) := by decide +kernel
theorem k_je_riseAmong_5 : decode me_je_riseAmong.2.1 5 = .ok (.ifCond .eq 24, 3) := by decide +kernel
theorem k_je_riseAmong_8 : decode me_je_riseAmong.2.1 8 = .ok (.aload_n 0, 1) := by decide +kernel
theorem k_je_riseAmong_9 : decode me_je_riseAmong.2.1 9 = .ok (.getfield 16, 3) := by decide +kernel
theorem k_je_riseAmong_12 : decode me_je_riseAmong.2.1 12 = .ok (.iload_n 2, 1) := by decide +kernel
theorem k_je_riseAmong_13 : decode me_je_riseAmong.2.1 13 = .ok (.invokevirtual 30, 3) := by decide +kernel
theorem k_je_riseAmong_16 : decode me_je_riseAmong.2.1 16 = .ok (.iconst 0, 1) := by decide +kernel
theorem k_je_riseAmong_17 : decode me_je_riseAmong.2.1 17 = .ok (.invokestatic 36, 3) := by decide +kernel
theorem k_je_riseAmong_20 : decode me_je_riseAmong.2.1 20 = .ok (.bipush 9, 2) := by decide +kernel
theorem k_je_riseAmong_22 : decode me_je_riseAmong.2.1 22 = .ok (.imul, 1) := by decide +kernel
theorem k_je_riseAmong_23 : decode me_je_riseAmong.2.1 23 = .ok (.bipush 10, 2) := by decide +kernel
theorem k_je_riseAmong_25 : decode me_je_riseAmong.2.1 25 = .ok (.idiv, 1) := by decide +kernel
theorem k_je_riseAmong_26 : decode me_je_riseAmong.2.1 26 = .ok (.goto 4, 3) := by decide +kernel
theorem k_je_riseAmong_29 : decode me_je_riseAmong.2.1 29 = .ok (.iconst 0, 1) := by decide +kernel
theorem k_je_riseAmong_30 : decode me_je_riseAmong.2.1 30 = .ok (.ireturn, 1) := by decide +kernel
theorem k_fn_share_0 : decode me_fn_share.2.1 0 = .ok (.aload_n 0, 1) := by decide +kernel
theorem k_fn_share_1 : decode me_fn_share.2.1 1 = .ok (.getfield 12, 3) := by decide +kernel
theorem k_fn_share_4 : decode me_fn_share.2.1 4 = .ok (.iload_n 1, 1) := by decide +kernel
theorem k_fn_share_5 : decode me_fn_share.2.1 5 = .ok (.invokevirtual 121, 3) := by decide +kernel
theorem k_fn_share_8 : decode me_fn_share.2.1 8 = .ok (.astore_n 3, 1) := by decide +kernel
theorem k_fn_share_9 : decode me_fn_share.2.1 9 = .ok (.aload_n 0, 1) := by decide +kernel
theorem k_fn_share_10 : decode me_fn_share.2.1 10 = .ok (.getfield 12, 3) := by decide +kernel
theorem k_fn_share_13 : decode me_fn_share.2.1 13 = .ok (.iload_n 2, 1) := by decide +kernel
theorem k_fn_share_14 : decode me_fn_share.2.1 14 = .ok (.invokevirtual 121, 3) := by decide +kernel
theorem k_fn_share_17 : decode me_fn_share.2.1 17 = .ok (.astore 4, 2) := by decide +kernel
theorem k_fn_share_19 : decode me_fn_share.2.1 19 = .ok (.aload_n 3, 1) := by decide +kernel
theorem k_fn_share_20 : decode me_fn_share.2.1 20 = .ok (.ifnull 14, 3) := by decide +kernel
theorem k_fn_share_23 : decode me_fn_share.2.1 23 = .ok (.aload 4, 2) := by decide +kernel
theorem k_fn_share_25 : decode me_fn_share.2.1 25 = .ok (.ifnull 9, 3) := by decide +kernel
theorem k_fn_share_28 : decode me_fn_share.2.1 28 = .ok (.aload_n 3, 1) := by decide +kernel
theorem k_fn_share_29 : decode me_fn_share.2.1 29 = .ok (.aload 4, 2) := by decide +kernel
theorem k_fn_share_31 : decode me_fn_share.2.1 31 = .ok (.if_acmp .ne 9, 3) := by decide +kernel
theorem k_fn_share_34 : decode me_fn_share.2.1 34 = .ok (.aload_n 0, 1) := by decide +kernel
theorem k_fn_share_35 : decode me_fn_share.2.1 35 = .ok (.iconst (-1), 1) := by decide +kernel
theorem k_fn_share_36 : decode me_fn_share.2.1 36 = .ok (.invokevirtual 56, 3) := by decide +kernel
theorem k_fn_share_39 : decode me_fn_share.2.1 39 = .ok (.ireturn, 1) := by decide +kernel
theorem k_fn_share_40 : decode me_fn_share.2.1 40 = .ok (.aload_n 3, 1) := by decide +kernel
theorem k_fn_share_41 : decode me_fn_share.2.1 41 = .ok (.aload_n 0, 1) := by decide +kernel
theorem k_fn_share_42 : decode me_fn_share.2.1 42 = .ok (.getfield 12, 3) := by decide +kernel
theorem k_fn_share_45 : decode me_fn_share.2.1 45 = .ok (.getfield 129, 3) := by decide +kernel
theorem k_fn_share_48 : decode me_fn_share.2.1 48 = .ok (.invokevirtual 132, 3) := by decide +kernel
theorem k_fn_share_51 : decode me_fn_share.2.1 51 = .ok (.ifCond .eq 18, 3) := by decide +kernel
theorem k_fn_share_54 : decode me_fn_share.2.1 54 = .ok (.aload 4, 2) := by decide +kernel
theorem k_fn_share_56 : decode me_fn_share.2.1 56 = .ok (.aload_n 0, 1) := by decide +kernel
theorem k_fn_share_57 : decode me_fn_share.2.1 57 = .ok (.getfield 12, 3) := by decide +kernel
theorem k_fn_share_60 : decode me_fn_share.2.1 60 = .ok (.getfield 129, 3) := by decide +kernel
theorem k_fn_share_63 : decode me_fn_share.2.1 63 = .ok (.invokevirtual 132, 3) := by decide +kernel
theorem k_fn_share_66 : decode me_fn_share.2.1 66 = .ok (.ifCond .ne 10, 3) := by decide +kernel
theorem k_fn_share_69 : decode me_fn_share.2.1 69 = .ok (.aload_n 0, 1) := by decide +kernel
theorem k_fn_share_70 : decode me_fn_share.2.1 70 = .ok (.bipush (-3), 2) := by decide +kernel
theorem k_fn_share_72 : decode me_fn_share.2.1 72 = .ok (.invokevirtual 56, 3) := by decide +kernel
theorem k_fn_share_75 : decode me_fn_share.2.1 75 = .ok (.ireturn, 1) := by decide +kernel
theorem k_fn_share_76 : decode me_fn_share.2.1 76 = .ok (.aload_n 3, 1) := by decide +kernel
theorem k_fn_share_77 : decode me_fn_share.2.1 77 = .ok (.getfield 125, 3) := by decide +kernel
theorem k_fn_share_80 : decode me_fn_share.2.1 80 = .ok (.getfield 153, 3) := by decide +kernel
theorem k_fn_share_83 : decode me_fn_share.2.1 83 = .ok (.getfield 157, 3) := by decide +kernel
theorem k_fn_share_86 : decode me_fn_share.2.1 86 = .ok (.istore 5, 2) := by decide +kernel
theorem k_fn_share_88 : decode me_fn_share.2.1 88 = .ok (.aload_n 0, 1) := by decide +kernel
theorem k_fn_share_89 : decode me_fn_share.2.1 89 = .ok (.getfield 12, 3) := by decide +kernel
theorem k_fn_share_92 : decode me_fn_share.2.1 92 = .ok (.invokevirtual 144, 3) := by decide +kernel
theorem k_fn_share_95 : decode me_fn_share.2.1 95 = .ok (.aload_n 3, 1) := by decide +kernel
theorem k_fn_share_96 : decode me_fn_share.2.1 96 = .ok (.aload_n 0, 1) := by decide +kernel
theorem k_fn_share_97 : decode me_fn_share.2.1 97 = .ok (.getfield 12, 3) := by decide +kernel
theorem k_fn_share_100 : decode me_fn_share.2.1 100 = .ok (.getfield 129, 3) := by decide +kernel
theorem k_fn_share_103 : decode me_fn_share.2.1 103 = .ok (.iload 5, 2) := by decide +kernel
theorem k_fn_share_105 : decode me_fn_share.2.1 105 = .ok (.invokevirtual 163, 3) := by decide +kernel
theorem k_fn_share_108 : decode me_fn_share.2.1 108 = .ok (.istore 6, 2) := by decide +kernel
theorem k_fn_share_110 : decode me_fn_share.2.1 110 = .ok (.aload_n 0, 1) := by decide +kernel
theorem k_fn_share_111 : decode me_fn_share.2.1 111 = .ok (.getfield 12, 3) := by decide +kernel
theorem k_fn_share_114 : decode me_fn_share.2.1 114 = .ok (.getfield 129, 3) := by decide +kernel
theorem k_fn_share_117 : decode me_fn_share.2.1 117 = .ok (.aload 4, 2) := by decide +kernel
theorem k_fn_share_119 : decode me_fn_share.2.1 119 = .ok (.getfield 136, 3) := by decide +kernel
theorem k_fn_share_122 : decode me_fn_share.2.1 122 = .ok (.iconst (-1), 1) := by decide +kernel
theorem k_fn_share_123 : decode me_fn_share.2.1 123 = .ok (.ixor, 1) := by decide +kernel
theorem k_fn_share_124 : decode me_fn_share.2.1 124 = .ok (.iand, 1) := by decide +kernel
theorem k_fn_share_125 : decode me_fn_share.2.1 125 = .ok (.istore 7, 2) := by decide +kernel
theorem k_fn_share_127 : decode me_fn_share.2.1 127 = .ok (.aload_n 0, 1) := by decide +kernel
theorem k_fn_share_128 : decode me_fn_share.2.1 128 = .ok (.getfield 12, 3) := by decide +kernel
theorem k_fn_share_131 : decode me_fn_share.2.1 131 = .ok (.iload 7, 2) := by decide +kernel
theorem k_fn_share_133 : decode me_fn_share.2.1 133 = .ok (.iconst 0, 1) := by decide +kernel
theorem k_fn_share_134 : decode me_fn_share.2.1 134 = .ok (.invokevirtual 167, 3) := by decide +kernel
theorem k_fn_share_137 : decode me_fn_share.2.1 137 = .ok (.aload_n 3, 1) := by decide +kernel
theorem k_fn_share_138 : decode me_fn_share.2.1 138 = .ok (.iload 7, 2) := by decide +kernel
theorem k_fn_share_140 : decode me_fn_share.2.1 140 = .ok (.iload 5, 2) := by decide +kernel
theorem k_fn_share_142 : decode me_fn_share.2.1 142 = .ok (.invokevirtual 163, 3) := by decide +kernel
theorem k_fn_share_145 : decode me_fn_share.2.1 145 = .ok (.iload 6, 2) := by decide +kernel
theorem k_fn_share_147 : decode me_fn_share.2.1 147 = .ok (.isub, 1) := by decide +kernel
theorem k_fn_share_148 : decode me_fn_share.2.1 148 = .ok (.ireturn, 1) := by decide +kernel
theorem k_fn_minutes_0 : decode me_fn_minutes.2.1 0 = .ok (.iload_n 1, 1) := by decide +kernel
theorem k_fn_minutes_1 : decode me_fn_minutes.2.1 1 = .ok (.iconst 1, 1) := by decide +kernel
theorem k_fn_minutes_2 : decode me_fn_minutes.2.1 2 = .ok (.if_icmp .ge 10, 3) := by decide +kernel
theorem k_fn_minutes_5 : decode me_fn_minutes.2.1 5 = .ok (.aload_n 0, 1) := by decide +kernel
theorem k_fn_minutes_6 : decode me_fn_minutes.2.1 6 = .ok (.bipush (-4), 2) := by decide +kernel
theorem k_fn_minutes_8 : decode me_fn_minutes.2.1 8 = .ok (.invokevirtual 56, 3) := by decide +kernel
theorem k_fn_minutes_11 : decode me_fn_minutes.2.1 11 = .ok (.ireturn, 1) := by decide +kernel
theorem k_fn_minutes_12 : decode me_fn_minutes.2.1 12 = .ok (.iload_n 1, 1) := by decide +kernel
theorem k_fn_minutes_13 : decode me_fn_minutes.2.1 13 = .ok (.sipush 1440, 3) := by decide +kernel
theorem k_fn_minutes_16 : decode me_fn_minutes.2.1 16 = .ok (.aload_n 0, 1) := by decide +kernel
theorem k_fn_minutes_17 : decode me_fn_minutes.2.1 17 = .ok (.getfield 12, 3) := by decide +kernel
theorem k_fn_minutes_20 : decode me_fn_minutes.2.1 20 = .ok (.getfield 171, 3) := by decide +kernel
theorem k_fn_minutes_23 : decode me_fn_minutes.2.1 23 = .ok (.isub, 1) := by decide +kernel
theorem k_fn_minutes_24 : decode me_fn_minutes.2.1 24 = .ok (.if_icmp .le 10, 3) := by decide +kernel
theorem k_fn_minutes_27 : decode me_fn_minutes.2.1 27 = .ok (.aload_n 0, 1) := by decide +kernel
theorem k_fn_minutes_28 : decode me_fn_minutes.2.1 28 = .ok (.bipush (-6), 2) := by decide +kernel
theorem k_fn_minutes_30 : decode me_fn_minutes.2.1 30 = .ok (.invokevirtual 56, 3) := by decide +kernel
theorem k_fn_minutes_33 : decode me_fn_minutes.2.1 33 = .ok (.ireturn, 1) := by decide +kernel
theorem k_fn_minutes_34 : decode me_fn_minutes.2.1 34 = .ok (.aload_n 0, 1) := by decide +kernel
theorem k_fn_minutes_35 : decode me_fn_minutes.2.1 35 = .ok (.getfield 12, 3) := by decide +kernel
theorem k_fn_minutes_38 : decode me_fn_minutes.2.1 38 = .ok (.invokevirtual 144, 3) := by decide +kernel
theorem k_fn_minutes_41 : decode me_fn_minutes.2.1 41 = .ok (.iconst 0, 1) := by decide +kernel
theorem k_fn_minutes_42 : decode me_fn_minutes.2.1 42 = .ok (.istore_n 2, 1) := by decide +kernel
theorem k_fn_minutes_43 : decode me_fn_minutes.2.1 43 = .ok (.iload_n 2, 1) := by decide +kernel
theorem k_fn_minutes_44 : decode me_fn_minutes.2.1 44 = .ok (.aload_n 0, 1) := by decide +kernel
theorem k_fn_minutes_45 : decode me_fn_minutes.2.1 45 = .ok (.getfield 12, 3) := by decide +kernel
theorem k_fn_minutes_48 : decode me_fn_minutes.2.1 48 = .ok (.getfield 60, 3) := by decide +kernel
theorem k_fn_minutes_51 : decode me_fn_minutes.2.1 51 = .ok (.invokevirtual 63, 3) := by decide +kernel
theorem k_fn_minutes_54 : decode me_fn_minutes.2.1 54 = .ok (.if_icmp .ge 27, 3) := by decide +kernel
theorem k_fn_minutes_57 : decode me_fn_minutes.2.1 57 = .ok (.aload_n 0, 1) := by decide +kernel
theorem k_fn_minutes_58 : decode me_fn_minutes.2.1 58 = .ok (.getfield 12, 3) := by decide +kernel
theorem k_fn_minutes_61 : decode me_fn_minutes.2.1 61 = .ok (.getfield 60, 3) := by decide +kernel
theorem k_fn_minutes_64 : decode me_fn_minutes.2.1 64 = .ok (.iload_n 2, 1) := by decide +kernel
theorem k_fn_minutes_65 : decode me_fn_minutes.2.1 65 = .ok (.invokevirtual 174, 3) := by decide +kernel
theorem k_fn_minutes_68 : decode me_fn_minutes.2.1 68 = .ok (.checkcast 67, 3) := by decide +kernel
theorem k_fn_minutes_71 : decode me_fn_minutes.2.1 71 = .ok (.iload_n 1, 1) := by decide +kernel
theorem k_fn_minutes_72 : decode me_fn_minutes.2.1 72 = .ok (.invokevirtual 178, 3) := by decide +kernel
theorem k_fn_minutes_75 : decode me_fn_minutes.2.1 75 = .ok (.iinc 2 1, 3) := by decide +kernel
theorem k_fn_minutes_78 : decode me_fn_minutes.2.1 78 = .ok (.goto (-35), 3) := by decide +kernel
theorem k_fn_minutes_81 : decode me_fn_minutes.2.1 81 = .ok (.aload_n 0, 1) := by decide +kernel
theorem k_fn_minutes_82 : decode me_fn_minutes.2.1 82 = .ok (.getfield 12, 3) := by decide +kernel
theorem k_fn_minutes_85 : decode me_fn_minutes.2.1 85 = .ok (.dup, 1) := by decide +kernel
theorem k_fn_minutes_86 : decode me_fn_minutes.2.1 86 = .ok (.getfield 171, 3) := by decide +kernel
theorem k_fn_minutes_89 : decode me_fn_minutes.2.1 89 = .ok (.iload_n 1, 1) := by decide +kernel
theorem k_fn_minutes_90 : decode me_fn_minutes.2.1 90 = .ok (.iadd, 1) := by decide +kernel
theorem k_fn_minutes_91 : decode me_fn_minutes.2.1 91 = .ok (.putfield 171, 3) := by decide +kernel
theorem k_fn_minutes_94 : decode me_fn_minutes.2.1 94 = .ok (.aload_n 0, 1) := by decide +kernel
theorem k_fn_minutes_95 : decode me_fn_minutes.2.1 95 = .ok (.getfield 12, 3) := by decide +kernel
theorem k_fn_minutes_98 : decode me_fn_minutes.2.1 98 = .ok (.getfield 171, 3) := by decide +kernel
theorem k_fn_minutes_101 : decode me_fn_minutes.2.1 101 = .ok (.ireturn, 1) := by decide +kernel
theorem k_tk_passMinutes_0 : decode me_tk_passMinutes.2.1 0 = .ok (.iconst 0, 1) := by decide +kernel
theorem k_tk_passMinutes_1 : decode me_tk_passMinutes.2.1 1 = .ok (.istore_n 2, 1) := by decide +kernel
theorem k_tk_passMinutes_2 : decode me_tk_passMinutes.2.1 2 = .ok (.iload_n 2, 1) := by decide +kernel
theorem k_tk_passMinutes_3 : decode me_tk_passMinutes.2.1 3 = .ok (.iload_n 1, 1) := by decide +kernel
theorem k_tk_passMinutes_4 : decode me_tk_passMinutes.2.1 4 = .ok (.if_icmp .ge 69, 3) := by decide +kernel
theorem k_tk_passMinutes_7 : decode me_tk_passMinutes.2.1 7 = .ok (.aload_n 0, 1) := by decide +kernel
theorem k_tk_passMinutes_8 : decode me_tk_passMinutes.2.1 8 = .ok (.aload_n 0, 1) := by decide +kernel
theorem k_tk_passMinutes_9 : decode me_tk_passMinutes.2.1 9 = .ok (.getfield 25, 3) := by decide +kernel
theorem k_tk_passMinutes_12 : decode me_tk_passMinutes.2.1 12 = .ok (.invokevirtual 38, 3) := by decide +kernel
theorem k_tk_passMinutes_15 : decode me_tk_passMinutes.2.1 15 = .ok (.istore_n 3, 1) := by decide +kernel
theorem k_tk_passMinutes_16 : decode me_tk_passMinutes.2.1 16 = .ok (.aload_n 0, 1) := by decide +kernel
theorem k_tk_passMinutes_17 : decode me_tk_passMinutes.2.1 17 = .ok (.dup, 1) := by decide +kernel
theorem k_tk_passMinutes_18 : decode me_tk_passMinutes.2.1 18 = .ok (.getfield 48, 3) := by decide +kernel
theorem k_tk_passMinutes_21 : decode me_tk_passMinutes.2.1 21 = .ok (.aload_n 0, 1) := by decide +kernel
theorem k_tk_passMinutes_22 : decode me_tk_passMinutes.2.1 22 = .ok (.getfield 25, 3) := by decide +kernel
theorem k_tk_passMinutes_25 : decode me_tk_passMinutes.2.1 25 = .ok (.aload_n 0, 1) := by decide +kernel
theorem k_tk_passMinutes_26 : decode me_tk_passMinutes.2.1 26 = .ok (.getfield 22, 3) := by decide +kernel
theorem k_tk_passMinutes_29 : decode me_tk_passMinutes.2.1 29 = .ok (.iadd, 1) := by decide +kernel
theorem k_tk_passMinutes_30 : decode me_tk_passMinutes.2.1 30 = .ok (.iload_n 3, 1) := by decide +kernel
theorem k_tk_passMinutes_31 : decode me_tk_passMinutes.2.1 31 = .ok (.isub, 1) := by decide +kernel
theorem k_tk_passMinutes_32 : decode me_tk_passMinutes.2.1 32 = .ok (.iadd, 1) := by decide +kernel
theorem k_tk_passMinutes_33 : decode me_tk_passMinutes.2.1 33 = .ok (.putfield 48, 3) := by decide +kernel
theorem k_tk_passMinutes_36 : decode me_tk_passMinutes.2.1 36 = .ok (.aload_n 0, 1) := by decide +kernel
theorem k_tk_passMinutes_37 : decode me_tk_passMinutes.2.1 37 = .ok (.dup, 1) := by decide +kernel
theorem k_tk_passMinutes_38 : decode me_tk_passMinutes.2.1 38 = .ok (.getfield 51, 3) := by decide +kernel
theorem k_tk_passMinutes_41 : decode me_tk_passMinutes.2.1 41 = .ok (.aload_n 0, 1) := by decide +kernel
theorem k_tk_passMinutes_42 : decode me_tk_passMinutes.2.1 42 = .ok (.getfield 42, 3) := by decide +kernel
theorem k_tk_passMinutes_45 : decode me_tk_passMinutes.2.1 45 = .ok (.iload_n 3, 1) := by decide +kernel
theorem k_tk_passMinutes_46 : decode me_tk_passMinutes.2.1 46 = .ok (.isub, 1) := by decide +kernel
theorem k_tk_passMinutes_47 : decode me_tk_passMinutes.2.1 47 = .ok (.iconst 0, 1) := by decide +kernel
theorem k_tk_passMinutes_48 : decode me_tk_passMinutes.2.1 48 = .ok (.invokestatic 45, 3) := by decide +kernel
theorem k_tk_passMinutes_51 : decode me_tk_passMinutes.2.1 51 = .ok (.iadd, 1) := by decide +kernel
theorem k_tk_passMinutes_52 : decode me_tk_passMinutes.2.1 52 = .ok (.putfield 51, 3) := by decide +kernel
theorem k_tk_passMinutes_55 : decode me_tk_passMinutes.2.1 55 = .ok (.aload_n 0, 1) := by decide +kernel
theorem k_tk_passMinutes_56 : decode me_tk_passMinutes.2.1 56 = .ok (.aload_n 0, 1) := by decide +kernel
theorem k_tk_passMinutes_57 : decode me_tk_passMinutes.2.1 57 = .ok (.aload_n 0, 1) := by decide +kernel
theorem k_tk_passMinutes_58 : decode me_tk_passMinutes.2.1 58 = .ok (.getfield 25, 3) := by decide +kernel
theorem k_tk_passMinutes_61 : decode me_tk_passMinutes.2.1 61 = .ok (.invokevirtual 54, 3) := by decide +kernel
theorem k_tk_passMinutes_64 : decode me_tk_passMinutes.2.1 64 = .ok (.putfield 25, 3) := by decide +kernel
theorem k_tk_passMinutes_67 : decode me_tk_passMinutes.2.1 67 = .ok (.iinc 2 1, 3) := by decide +kernel
theorem k_tk_passMinutes_70 : decode me_tk_passMinutes.2.1 70 = .ok (.goto (-68), 3) := by decide +kernel
theorem k_tk_passMinutes_73 : decode me_tk_passMinutes.2.1 73 = .ok (.return_, 1) := by decide +kernel
theorem k_tk_withSpring_0 : decode me_tk_withSpring.2.1 0 = .ok (.iload_n 1, 1) := by decide +kernel
theorem k_tk_withSpring_1 : decode me_tk_withSpring.2.1 1 = .ok (.aload_n 0, 1) := by decide +kernel
theorem k_tk_withSpring_2 : decode me_tk_withSpring.2.1 2 = .ok (.getfield 22, 3) := by decide +kernel
theorem k_tk_withSpring_5 : decode me_tk_withSpring.2.1 5 = .ok (.iadd, 1) := by decide +kernel
theorem k_tk_withSpring_6 : decode me_tk_withSpring.2.1 6 = .ok (.aload_n 0, 1) := by decide +kernel
theorem k_tk_withSpring_7 : decode me_tk_withSpring.2.1 7 = .ok (.invokevirtual 28, 3) := by decide +kernel
theorem k_tk_withSpring_10 : decode me_tk_withSpring.2.1 10 = .ok (.invokestatic 32, 3) := by decide +kernel
theorem k_tk_withSpring_13 : decode me_tk_withSpring.2.1 13 = .ok (.ireturn, 1) := by decide +kernel
theorem k_tk_waterAfterMinute_0 : decode me_tk_waterAfterMinute.2.1 0 = .ok (.aload_n 0, 1) := by decide +kernel
theorem k_tk_waterAfterMinute_1 : decode me_tk_waterAfterMinute.2.1 1 = .ok (.iload_n 1, 1) := by decide +kernel
theorem k_tk_waterAfterMinute_2 : decode me_tk_waterAfterMinute.2.1 2 = .ok (.invokevirtual 38, 3) := by decide +kernel
theorem k_tk_waterAfterMinute_5 : decode me_tk_waterAfterMinute.2.1 5 = .ok (.aload_n 0, 1) := by decide +kernel
theorem k_tk_waterAfterMinute_6 : decode me_tk_waterAfterMinute.2.1 6 = .ok (.getfield 42, 3) := by decide +kernel
theorem k_tk_waterAfterMinute_9 : decode me_tk_waterAfterMinute.2.1 9 = .ok (.isub, 1) := by decide +kernel
theorem k_tk_waterAfterMinute_10 : decode me_tk_waterAfterMinute.2.1 10 = .ok (.iconst 0, 1) := by decide +kernel
theorem k_tk_waterAfterMinute_11 : decode me_tk_waterAfterMinute.2.1 11 = .ok (.invokestatic 45, 3) := by decide +kernel
theorem k_tk_waterAfterMinute_14 : decode me_tk_waterAfterMinute.2.1 14 = .ok (.ireturn, 1) := by decide +kernel
theorem k_fn_lasts_0 : decode me_fn_lasts.2.1 0 = .ok (.aload_n 0, 1) := by decide +kernel
theorem k_fn_lasts_1 : decode me_fn_lasts.2.1 1 = .ok (.getfield 12, 3) := by decide +kernel
theorem k_fn_lasts_4 : decode me_fn_lasts.2.1 4 = .ok (.iload_n 1, 1) := by decide +kernel
theorem k_fn_lasts_5 : decode me_fn_lasts.2.1 5 = .ok (.invokevirtual 76, 3) := by decide +kernel
theorem k_fn_lasts_8 : decode me_fn_lasts.2.1 8 = .ok (.astore_n 2, 1) := by decide +kernel
theorem k_fn_lasts_9 : decode me_fn_lasts.2.1 9 = .ok (.aload_n 2, 1) := by decide +kernel
theorem k_fn_lasts_10 : decode me_fn_lasts.2.1 10 = .ok (.ifnonnull 9, 3) := by decide +kernel
theorem k_fn_lasts_13 : decode me_fn_lasts.2.1 13 = .ok (.aload_n 0, 1) := by decide +kernel
theorem k_fn_lasts_14 : decode me_fn_lasts.2.1 14 = .ok (.iconst (-1), 1) := by decide +kernel
theorem k_fn_lasts_15 : decode me_fn_lasts.2.1 15 = .ok (.invokevirtual 56, 3) := by decide +kernel
theorem k_fn_lasts_18 : decode me_fn_lasts.2.1 18 = .ok (.ireturn, 1) := by decide +kernel
theorem k_fn_lasts_19 : decode me_fn_lasts.2.1 19 = .ok (.aload_n 0, 1) := by decide +kernel
theorem k_fn_lasts_20 : decode me_fn_lasts.2.1 20 = .ok (.getfield 12, 3) := by decide +kernel
theorem k_fn_lasts_23 : decode me_fn_lasts.2.1 23 = .ok (.invokevirtual 144, 3) := by decide +kernel
theorem k_fn_lasts_26 : decode me_fn_lasts.2.1 26 = .ok (.aload_n 2, 1) := by decide +kernel
theorem k_fn_lasts_27 : decode me_fn_lasts.2.1 27 = .ok (.getfield 157, 3) := by decide +kernel
theorem k_fn_lasts_30 : decode me_fn_lasts.2.1 30 = .ok (.istore_n 3, 1) := by decide +kernel
theorem k_fn_lasts_31 : decode me_fn_lasts.2.1 31 = .ok (.iconst 0, 1) := by decide +kernel
theorem k_fn_lasts_32 : decode me_fn_lasts.2.1 32 = .ok (.istore 4, 2) := by decide +kernel
theorem k_fn_lasts_34 : decode me_fn_lasts.2.1 34 = .ok (.iload 4, 2) := by decide +kernel
theorem k_fn_lasts_36 : decode me_fn_lasts.2.1 36 = .ok (.sipush 1440, 3) := by decide +kernel
theorem k_fn_lasts_39 : decode me_fn_lasts.2.1 39 = .ok (.if_icmp .gt 22, 3) := by decide +kernel
theorem k_fn_lasts_42 : decode me_fn_lasts.2.1 42 = .ok (.iload_n 3, 1) := by decide +kernel
theorem k_fn_lasts_43 : decode me_fn_lasts.2.1 43 = .ok (.ifCond .ne 6, 3) := by decide +kernel
theorem k_fn_lasts_46 : decode me_fn_lasts.2.1 46 = .ok (.iload 4, 2) := by decide +kernel
theorem k_fn_lasts_48 : decode me_fn_lasts.2.1 48 = .ok (.ireturn, 1) := by decide +kernel
theorem k_fn_lasts_49 : decode me_fn_lasts.2.1 49 = .ok (.aload_n 2, 1) := by decide +kernel
theorem k_fn_lasts_50 : decode me_fn_lasts.2.1 50 = .ok (.iload_n 3, 1) := by decide +kernel
theorem k_fn_lasts_51 : decode me_fn_lasts.2.1 51 = .ok (.invokevirtual 182, 3) := by decide +kernel
theorem k_fn_lasts_54 : decode me_fn_lasts.2.1 54 = .ok (.istore_n 3, 1) := by decide +kernel
theorem k_fn_lasts_55 : decode me_fn_lasts.2.1 55 = .ok (.iinc 4 1, 3) := by decide +kernel
theorem k_fn_lasts_58 : decode me_fn_lasts.2.1 58 = .ok (.goto (-24), 3) := by decide +kernel
theorem k_fn_lasts_61 : decode me_fn_lasts.2.1 61 = .ok (.bipush (-9), 2) := by decide +kernel
theorem k_fn_lasts_63 : decode me_fn_lasts.2.1 63 = .ok (.ireturn, 1) := by decide +kernel
theorem k_fn_view_0 : decode me_fn_view.2.1 0 = .ok (.iload_n 1, 1) := by decide +kernel
theorem k_fn_view_1 : decode me_fn_view.2.1 1 = .ok (.ifCond .eq 17, 3) := by decide +kernel
theorem k_fn_view_4 : decode me_fn_view.2.1 4 = .ok (.iload_n 1, 1) := by decide +kernel
theorem k_fn_view_5 : decode me_fn_view.2.1 5 = .ok (.aload_n 0, 1) := by decide +kernel
theorem k_fn_view_6 : decode me_fn_view.2.1 6 = .ok (.getfield 12, 3) := by decide +kernel
theorem k_fn_view_9 : decode me_fn_view.2.1 9 = .ok (.invokevirtual 185, 3) := by decide +kernel
theorem k_fn_view_12 : decode me_fn_view.2.1 12 = .ok (.iconst (-1), 1) := by decide +kernel
theorem k_fn_view_13 : decode me_fn_view.2.1 13 = .ok (.ixor, 1) := by decide +kernel
theorem k_fn_view_14 : decode me_fn_view.2.1 14 = .ok (.iand, 1) := by decide +kernel
theorem k_fn_view_15 : decode me_fn_view.2.1 15 = .ok (.ifCond .eq 9, 3) := by decide +kernel
theorem k_fn_view_18 : decode me_fn_view.2.1 18 = .ok (.aload_n 0, 1) := by decide +kernel
theorem k_fn_view_19 : decode me_fn_view.2.1 19 = .ok (.iconst (-1), 1) := by decide +kernel
theorem k_fn_view_20 : decode me_fn_view.2.1 20 = .ok (.invokevirtual 56, 3) := by decide +kernel
theorem k_fn_view_23 : decode me_fn_view.2.1 23 = .ok (.ireturn, 1) := by decide +kernel
theorem k_fn_view_24 : decode me_fn_view.2.1 24 = .ok (.aload_n 0, 1) := by decide +kernel
theorem k_fn_view_25 : decode me_fn_view.2.1 25 = .ok (.getfield 19, 3) := by decide +kernel
theorem k_fn_view_28 : decode me_fn_view.2.1 28 = .ok (.invokevirtual 63, 3) := by decide +kernel
theorem k_fn_view_31 : decode me_fn_view.2.1 31 = .ok (.istore 5, 2) := by decide +kernel
theorem k_fn_view_33 : decode me_fn_view.2.1 33 = .ok (.iload 5, 2) := by decide +kernel
theorem k_fn_view_35 : decode me_fn_view.2.1 35 = .ok (.ifCond .ne 7, 3) := by decide +kernel
theorem k_fn_view_38 : decode me_fn_view.2.1 38 = .ok (.iconst (-1), 1) := by decide +kernel
theorem k_fn_view_39 : decode me_fn_view.2.1 39 = .ok (.goto 20, 3) := by decide +kernel
theorem k_fn_view_42 : decode me_fn_view.2.1 42 = .ok (.aload_n 0, 1) := by decide +kernel
theorem k_fn_view_43 : decode me_fn_view.2.1 43 = .ok (.getfield 19, 3) := by decide +kernel
theorem k_fn_view_46 : decode me_fn_view.2.1 46 = .ok (.iload 5, 2) := by decide +kernel
theorem k_fn_view_48 : decode me_fn_view.2.1 48 = .ok (.iconst 1, 1) := by decide +kernel
theorem k_fn_view_49 : decode me_fn_view.2.1 49 = .ok (.isub, 1) := by decide +kernel
theorem k_fn_view_50 : decode me_fn_view.2.1 50 = .ok (.invokevirtual 174, 3) := by decide +kernel
theorem k_fn_view_53 : decode me_fn_view.2.1 53 = .ok (.checkcast 188, 3) := by decide +kernel
theorem k_fn_view_56 : decode me_fn_view.2.1 56 = .ok (.getfield 190, 3) := by decide +kernel
theorem k_fn_view_59 : decode me_fn_view.2.1 59 = .ok (.istore 6, 2) := by decide +kernel
theorem k_fn_view_61 : decode me_fn_view.2.1 61 = .ok (.iload_n 2, 1) := by decide +kernel
theorem k_fn_view_62 : decode me_fn_view.2.1 62 = .ok (.iload 6, 2) := by decide +kernel
theorem k_fn_view_64 : decode me_fn_view.2.1 64 = .ok (.if_icmp .le 13, 3) := by decide +kernel
theorem k_fn_view_67 : decode me_fn_view.2.1 67 = .ok (.iload_n 3, 1) := by decide +kernel
theorem k_fn_view_68 : decode me_fn_view.2.1 68 = .ok (.iload_n 2, 1) := by decide +kernel
theorem k_fn_view_69 : decode me_fn_view.2.1 69 = .ok (.if_icmp .lt 8, 3) := by decide +kernel
theorem k_fn_view_72 : decode me_fn_view.2.1 72 = .ok (.iload 4, 2) := by decide +kernel
theorem k_fn_view_74 : decode me_fn_view.2.1 74 = .ok (.ifCond .ge 10, 3) := by decide +kernel
theorem k_fn_view_77 : decode me_fn_view.2.1 77 = .ok (.aload_n 0, 1) := by decide +kernel
theorem k_fn_view_78 : decode me_fn_view.2.1 78 = .ok (.bipush (-4), 2) := by decide +kernel
theorem k_fn_view_80 : decode me_fn_view.2.1 80 = .ok (.invokevirtual 56, 3) := by decide +kernel
theorem k_fn_view_83 : decode me_fn_view.2.1 83 = .ok (.ireturn, 1) := by decide +kernel
theorem k_fn_view_84 : decode me_fn_view.2.1 84 = .ok (.iload_n 3, 1) := by decide +kernel
theorem k_fn_view_85 : decode me_fn_view.2.1 85 = .ok (.sipush 1440, 3) := by decide +kernel
theorem k_fn_view_88 : decode me_fn_view.2.1 88 = .ok (.if_icmp .gt 18, 3) := by decide +kernel
theorem k_fn_view_91 : decode me_fn_view.2.1 91 = .ok (.iload 4, 2) := by decide +kernel
theorem k_fn_view_93 : decode me_fn_view.2.1 93 = .ok (.sipush 500, 3) := by decide +kernel
theorem k_fn_view_96 : decode me_fn_view.2.1 96 = .ok (.if_icmp .gt 10, 3) := by decide +kernel
theorem k_fn_view_99 : decode me_fn_view.2.1 99 = .ok (.iload 5, 2) := by decide +kernel
theorem k_fn_view_101 : decode me_fn_view.2.1 101 = .ok (.bipush 12, 2) := by decide +kernel
theorem k_fn_view_103 : decode me_fn_view.2.1 103 = .ok (.if_icmp .lt 10, 3) := by decide +kernel
theorem k_fn_view_106 : decode me_fn_view.2.1 106 = .ok (.aload_n 0, 1) := by decide +kernel
theorem k_fn_view_107 : decode me_fn_view.2.1 107 = .ok (.bipush (-6), 2) := by decide +kernel
theorem k_fn_view_109 : decode me_fn_view.2.1 109 = .ok (.invokevirtual 56, 3) := by decide +kernel
theorem k_fn_view_112 : decode me_fn_view.2.1 112 = .ok (.ireturn, 1) := by decide +kernel
theorem k_fn_view_113 : decode me_fn_view.2.1 113 = .ok (.aload_n 0, 1) := by decide +kernel
theorem k_fn_view_114 : decode me_fn_view.2.1 114 = .ok (.getfield 19, 3) := by decide +kernel
theorem k_fn_view_117 : decode me_fn_view.2.1 117 = .ok (.new 188, 3) := by decide +kernel
theorem k_fn_view_120 : decode me_fn_view.2.1 120 = .ok (.dup, 1) := by decide +kernel
theorem k_fn_view_121 : decode me_fn_view.2.1 121 = .ok (.iload_n 1, 1) := by decide +kernel
theorem k_fn_view_122 : decode me_fn_view.2.1 122 = .ok (.iload_n 2, 1) := by decide +kernel
theorem k_fn_view_123 : decode me_fn_view.2.1 123 = .ok (.iload_n 3, 1) := by decide +kernel
theorem k_fn_view_124 : decode me_fn_view.2.1 124 = .ok (.iload 4, 2) := by decide +kernel
theorem k_fn_view_126 : decode me_fn_view.2.1 126 = .ok (.invokespecial 193, 3) := by decide +kernel
theorem k_fn_view_129 : decode me_fn_view.2.1 129 = .ok (.invokevirtual 72, 3) := by decide +kernel
theorem k_fn_view_132 : decode me_fn_view.2.1 132 = .ok (.pop, 1) := by decide +kernel
theorem k_fn_view_133 : decode me_fn_view.2.1 133 = .ok (.iload 5, 2) := by decide +kernel
theorem k_fn_view_135 : decode me_fn_view.2.1 135 = .ok (.ireturn, 1) := by decide +kernel
theorem k_ga_allJets_0 : decode me_ga_allJets.2.1 0 = .ok (.iconst 1, 1) := by decide +kernel
theorem k_ga_allJets_1 : decode me_ga_allJets.2.1 1 = .ok (.aload_n 0, 1) := by decide +kernel
theorem k_ga_allJets_2 : decode me_ga_allJets.2.1 2 = .ok (.getfield 21, 3) := by decide +kernel
theorem k_ga_allJets_5 : decode me_ga_allJets.2.1 5 = .ok (.invokevirtual 24, 3) := by decide +kernel
theorem k_ga_allJets_8 : decode me_ga_allJets.2.1 8 = .ok (.ishl, 1) := by decide +kernel
theorem k_ga_allJets_9 : decode me_ga_allJets.2.1 9 = .ok (.iconst 1, 1) := by decide +kernel
theorem k_ga_allJets_10 : decode me_ga_allJets.2.1 10 = .ok (.isub, 1) := by decide +kernel
theorem k_ga_allJets_11 : decode me_ga_allJets.2.1 11 = .ok (.ireturn, 1) := by decide +kernel
theorem k_vw_init_0 : decode me_vw_init.2.1 0 = .ok (.aload_n 0, 1) := by decide +kernel
theorem k_vw_init_1 : decode me_vw_init.2.1 1 = .ok (.invokespecial 1, 3) := by decide +kernel
theorem k_vw_init_4 : decode me_vw_init.2.1 4 = .ok (.aload_n 0, 1) := by decide +kernel
theorem k_vw_init_5 : decode me_vw_init.2.1 5 = .ok (.iload_n 1, 1) := by decide +kernel
theorem k_vw_init_6 : decode me_vw_init.2.1 6 = .ok (.putfield 7, 3) := by decide +kernel
theorem k_vw_init_9 : decode me_vw_init.2.1 9 = .ok (.aload_n 0, 1) := by decide +kernel
theorem k_vw_init_10 : decode me_vw_init.2.1 10 = .ok (.iload_n 2, 1) := by decide +kernel
theorem k_vw_init_11 : decode me_vw_init.2.1 11 = .ok (.putfield 13, 3) := by decide +kernel
theorem k_vw_init_14 : decode me_vw_init.2.1 14 = .ok (.aload_n 0, 1) := by decide +kernel
theorem k_vw_init_15 : decode me_vw_init.2.1 15 = .ok (.iload_n 3, 1) := by decide +kernel
theorem k_vw_init_16 : decode me_vw_init.2.1 16 = .ok (.putfield 16, 3) := by decide +kernel
theorem k_vw_init_19 : decode me_vw_init.2.1 19 = .ok (.aload_n 0, 1) := by decide +kernel
theorem k_vw_init_20 : decode me_vw_init.2.1 20 = .ok (.iload 4, 2) := by decide +kernel
theorem k_vw_init_22 : decode me_vw_init.2.1 22 = .ok (.putfield 19, 3) := by decide +kernel
theorem k_vw_init_25 : decode me_vw_init.2.1 25 = .ok (.return_, 1) := by decide +kernel
theorem k_fn_unview_0 : decode me_fn_unview.2.1 0 = .ok (.aload_n 0, 1) := by decide +kernel
theorem k_fn_unview_1 : decode me_fn_unview.2.1 1 = .ok (.getfield 19, 3) := by decide +kernel
theorem k_fn_unview_4 : decode me_fn_unview.2.1 4 = .ok (.invokevirtual 63, 3) := by decide +kernel
theorem k_fn_unview_7 : decode me_fn_unview.2.1 7 = .ok (.istore_n 1, 1) := by decide +kernel
theorem k_fn_unview_8 : decode me_fn_unview.2.1 8 = .ok (.iload_n 1, 1) := by decide +kernel
theorem k_fn_unview_9 : decode me_fn_unview.2.1 9 = .ok (.ifCond .ne 10, 3) := by decide +kernel
theorem k_fn_unview_12 : decode me_fn_unview.2.1 12 = .ok (.aload_n 0, 1) := by decide +kernel
theorem k_fn_unview_13 : decode me_fn_unview.2.1 13 = .ok (.bipush (-3), 2) := by decide +kernel
theorem k_fn_unview_15 : decode me_fn_unview.2.1 15 = .ok (.invokevirtual 56, 3) := by decide +kernel
theorem k_fn_unview_18 : decode me_fn_unview.2.1 18 = .ok (.ireturn, 1) := by decide +kernel
theorem k_fn_unview_19 : decode me_fn_unview.2.1 19 = .ok (.aload_n 0, 1) := by decide +kernel
theorem k_fn_unview_20 : decode me_fn_unview.2.1 20 = .ok (.getfield 19, 3) := by decide +kernel
theorem k_fn_unview_23 : decode me_fn_unview.2.1 23 = .ok (.iload_n 1, 1) := by decide +kernel
theorem k_fn_unview_24 : decode me_fn_unview.2.1 24 = .ok (.iconst 1, 1) := by decide +kernel
theorem k_fn_unview_25 : decode me_fn_unview.2.1 25 = .ok (.isub, 1) := by decide +kernel
theorem k_fn_unview_26 : decode me_fn_unview.2.1 26 = .ok (.invokevirtual 196, 3) := by decide +kernel
theorem k_fn_unview_29 : decode me_fn_unview.2.1 29 = .ok (.pop, 1) := by decide +kernel
theorem k_fn_unview_30 : decode me_fn_unview.2.1 30 = .ok (.iload_n 1, 1) := by decide +kernel
theorem k_fn_unview_31 : decode me_fn_unview.2.1 31 = .ok (.iconst 1, 1) := by decide +kernel
theorem k_fn_unview_32 : decode me_fn_unview.2.1 32 = .ok (.isub, 1) := by decide +kernel
theorem k_fn_unview_33 : decode me_fn_unview.2.1 33 = .ok (.ireturn, 1) := by decide +kernel
theorem k_al_remove_0 : decode me_al_remove.2.1 0 = .ok (.iload_n 1, 1) := by decide +kernel
theorem k_al_remove_1 : decode me_al_remove.2.1 1 = .ok (.aload_n 0, 1) := by decide +kernel
theorem k_al_remove_2 : decode me_al_remove.2.1 2 = .ok (.getfield 48, 3) := by decide +kernel
theorem k_al_remove_5 : decode me_al_remove.2.1 5 = .ok (.invokestatic 118, 3) := by decide +kernel
theorem k_al_remove_8 : decode me_al_remove.2.1 8 = .ok (.pop, 1) := by decide +kernel
theorem k_al_remove_9 : decode me_al_remove.2.1 9 = .ok (.aload_n 0, 1) := by decide +kernel
theorem k_al_remove_10 : decode me_al_remove.2.1 10 = .ok (.getfield 9, 3) := by decide +kernel
theorem k_al_remove_13 : decode me_al_remove.2.1 13 = .ok (.astore_n 2, 1) := by decide +kernel
theorem k_al_remove_14 : decode me_al_remove.2.1 14 = .ok (.aload_n 2, 1) := by decide +kernel
theorem k_al_remove_15 : decode me_al_remove.2.1 15 = .ok (.iload_n 1, 1) := by decide +kernel
theorem k_al_remove_16 : decode me_al_remove.2.1 16 = .ok (.aaload, 1) := by decide +kernel
theorem k_al_remove_17 : decode me_al_remove.2.1 17 = .ok (.astore_n 3, 1) := by decide +kernel
theorem k_al_remove_18 : decode me_al_remove.2.1 18 = .ok (.aload_n 0, 1) := by decide +kernel
theorem k_al_remove_19 : decode me_al_remove.2.1 19 = .ok (.aload_n 2, 1) := by decide +kernel
theorem k_al_remove_20 : decode me_al_remove.2.1 20 = .ok (.iload_n 1, 1) := by decide +kernel
theorem k_al_remove_21 : decode me_al_remove.2.1 21 = .ok (.invokevirtual 144, 3) := by decide +kernel
theorem k_al_remove_24 : decode me_al_remove.2.1 24 = .ok (.aload_n 3, 1) := by decide +kernel
theorem k_al_remove_25 : decode me_al_remove.2.1 25 = .ok (.areturn, 1) := by decide +kernel
theorem k_al_fastRemove_0 : decode me_al_fastRemove.2.1 0 = .ok (.aload_n 0, 1) := by decide +kernel
theorem k_al_fastRemove_1 : decode me_al_fastRemove.2.1 1 = .ok (.dup, 1) := by decide +kernel
theorem k_al_fastRemove_2 : decode me_al_fastRemove.2.1 2 = .ok (.getfield 63, 3) := by decide +kernel
theorem k_al_fastRemove_5 : decode me_al_fastRemove.2.1 5 = .ok (.iconst 1, 1) := by decide +kernel
theorem k_al_fastRemove_6 : decode me_al_fastRemove.2.1 6 = .ok (.iadd, 1) := by decide +kernel
theorem k_al_fastRemove_7 : decode me_al_fastRemove.2.1 7 = .ok (.putfield 63, 3) := by decide +kernel
theorem k_al_fastRemove_10 : decode me_al_fastRemove.2.1 10 = .ok (.aload_n 0, 1) := by decide +kernel
theorem k_al_fastRemove_11 : decode me_al_fastRemove.2.1 11 = .ok (.getfield 48, 3) := by decide +kernel
theorem k_al_fastRemove_14 : decode me_al_fastRemove.2.1 14 = .ok (.iconst 1, 1) := by decide +kernel
theorem k_al_fastRemove_15 : decode me_al_fastRemove.2.1 15 = .ok (.isub, 1) := by decide +kernel
theorem k_al_fastRemove_16 : decode me_al_fastRemove.2.1 16 = .ok (.dup, 1) := by decide +kernel
theorem k_al_fastRemove_17 : decode me_al_fastRemove.2.1 17 = .ok (.istore_n 3, 1) := by decide +kernel
theorem k_al_fastRemove_18 : decode me_al_fastRemove.2.1 18 = .ok (.iload_n 2, 1) := by decide +kernel
theorem k_al_fastRemove_19 : decode me_al_fastRemove.2.1 19 = .ok (.if_icmp .le 15, 3) := by decide +kernel
theorem k_al_fastRemove_22 : decode me_al_fastRemove.2.1 22 = .ok (.aload_n 1, 1) := by decide +kernel
theorem k_al_fastRemove_23 : decode me_al_fastRemove.2.1 23 = .ok (.iload_n 2, 1) := by decide +kernel
theorem k_al_fastRemove_24 : decode me_al_fastRemove.2.1 24 = .ok (.iconst 1, 1) := by decide +kernel
theorem k_al_fastRemove_25 : decode me_al_fastRemove.2.1 25 = .ok (.iadd, 1) := by decide +kernel
theorem k_al_fastRemove_26 : decode me_al_fastRemove.2.1 26 = .ok (.aload_n 1, 1) := by decide +kernel
theorem k_al_fastRemove_27 : decode me_al_fastRemove.2.1 27 = .ok (.iload_n 2, 1) := by decide +kernel
theorem k_al_fastRemove_28 : decode me_al_fastRemove.2.1 28 = .ok (.iload_n 3, 1) := by decide +kernel
theorem k_al_fastRemove_29 : decode me_al_fastRemove.2.1 29 = .ok (.iload_n 2, 1) := by decide +kernel
theorem k_al_fastRemove_30 : decode me_al_fastRemove.2.1 30 = .ok (.isub, 1) := by decide +kernel
theorem k_al_fastRemove_31 : decode me_al_fastRemove.2.1 31 = .ok (.invokestatic 112, 3) := by decide +kernel
theorem k_al_fastRemove_34 : decode me_al_fastRemove.2.1 34 = .ok (.aload_n 1, 1) := by decide +kernel
theorem k_al_fastRemove_35 : decode me_al_fastRemove.2.1 35 = .ok (.aload_n 0, 1) := by decide +kernel
theorem k_al_fastRemove_36 : decode me_al_fastRemove.2.1 36 = .ok (.iload_n 3, 1) := by decide +kernel
theorem k_al_fastRemove_37 : decode me_al_fastRemove.2.1 37 = .ok (.dup_x1, 1) := by decide +kernel
theorem k_al_fastRemove_38 : decode me_al_fastRemove.2.1 38 = .ok (.putfield 48, 3) := by decide +kernel
theorem k_al_fastRemove_41 : decode me_al_fastRemove.2.1 41 = .ok (.aconst_null, 1) := by decide +kernel
theorem k_al_fastRemove_42 : decode me_al_fastRemove.2.1 42 = .ok (.aastore, 1) := by decide +kernel
theorem k_al_fastRemove_43 : decode me_al_fastRemove.2.1 43 = .ok (.return_, 1) := by decide +kernel
theorem k_fn_walk_0 : decode me_fn_walk.2.1 0 = .ok (.iload_n 1, 1) := by decide +kernel
theorem k_fn_walk_1 : decode me_fn_walk.2.1 1 = .ok (.ifCond .lt 8, 3) := by decide +kernel
theorem k_fn_walk_4 : decode me_fn_walk.2.1 4 = .ok (.iload_n 1, 1) := by decide +kernel
theorem k_fn_walk_5 : decode me_fn_walk.2.1 5 = .ok (.iconst 4, 1) := by decide +kernel
theorem k_fn_walk_6 : decode me_fn_walk.2.1 6 = .ok (.if_icmp .le 10, 3) := by decide +kernel
theorem k_fn_walk_9 : decode me_fn_walk.2.1 9 = .ok (.aload_n 0, 1) := by decide +kernel
theorem k_fn_walk_10 : decode me_fn_walk.2.1 10 = .ok (.bipush (-2), 2) := by decide +kernel
theorem k_fn_walk_12 : decode me_fn_walk.2.1 12 = .ok (.invokevirtual 56, 3) := by decide +kernel
theorem k_fn_walk_15 : decode me_fn_walk.2.1 15 = .ok (.ireturn, 1) := by decide +kernel
theorem k_fn_walk_16 : decode me_fn_walk.2.1 16 = .ok (.aload_n 0, 1) := by decide +kernel
theorem k_fn_walk_17 : decode me_fn_walk.2.1 17 = .ok (.getfield 28, 3) := by decide +kernel
theorem k_fn_walk_20 : decode me_fn_walk.2.1 20 = .ok (.invokevirtual 199, 3) := by decide +kernel
theorem k_fn_walk_23 : decode me_fn_walk.2.1 23 = .ok (.ifCond .ne 10, 3) := by decide +kernel
theorem k_fn_walk_26 : decode me_fn_walk.2.1 26 = .ok (.aload_n 0, 1) := by decide +kernel
theorem k_fn_walk_27 : decode me_fn_walk.2.1 27 = .ok (.bipush (-3), 2) := by decide +kernel
theorem k_fn_walk_29 : decode me_fn_walk.2.1 29 = .ok (.invokevirtual 56, 3) := by decide +kernel
theorem k_fn_walk_32 : decode me_fn_walk.2.1 32 = .ok (.ireturn, 1) := by decide +kernel
theorem k_fn_walk_33 : decode me_fn_walk.2.1 33 = .ok (.aload_n 0, 1) := by decide +kernel
theorem k_fn_walk_34 : decode me_fn_walk.2.1 34 = .ok (.getfield 28, 3) := by decide +kernel
theorem k_fn_walk_37 : decode me_fn_walk.2.1 37 = .ok (.iconst 1, 1) := by decide +kernel
theorem k_fn_walk_38 : decode me_fn_walk.2.1 38 = .ok (.invokevirtual 203, 3) := by decide +kernel
theorem k_fn_walk_41 : decode me_fn_walk.2.1 41 = .ok (.iload_n 1, 1) := by decide +kernel
theorem k_fn_walk_42 : decode me_fn_walk.2.1 42 = .ok (.tableswitch 62 0 3 #[30, 38, 46, 54], 30) := by decide +kernel
theorem k_fn_walk_72 : decode me_fn_walk.2.1 72 = .ok (.aload_n 0, 1) := by decide +kernel
theorem k_fn_walk_73 : decode me_fn_walk.2.1 73 = .ok (.getfield 28, 3) := by decide +kernel
theorem k_fn_walk_76 : decode me_fn_walk.2.1 76 = .ok (.getfield 207, 3) := by decide +kernel
theorem k_fn_walk_79 : decode me_fn_walk.2.1 79 = .ok (.ireturn, 1) := by decide +kernel
theorem k_fn_walk_80 : decode me_fn_walk.2.1 80 = .ok (.aload_n 0, 1) := by decide +kernel
theorem k_fn_walk_81 : decode me_fn_walk.2.1 81 = .ok (.getfield 28, 3) := by decide +kernel
theorem k_fn_walk_84 : decode me_fn_walk.2.1 84 = .ok (.getfield 210, 3) := by decide +kernel
theorem k_fn_walk_87 : decode me_fn_walk.2.1 87 = .ok (.ireturn, 1) := by decide +kernel
theorem k_fn_walk_88 : decode me_fn_walk.2.1 88 = .ok (.aload_n 0, 1) := by decide +kernel
theorem k_fn_walk_89 : decode me_fn_walk.2.1 89 = .ok (.getfield 28, 3) := by decide +kernel
theorem k_fn_walk_92 : decode me_fn_walk.2.1 92 = .ok (.getfield 213, 3) := by decide +kernel
theorem k_fn_walk_95 : decode me_fn_walk.2.1 95 = .ok (.ireturn, 1) := by decide +kernel
theorem k_fn_walk_96 : decode me_fn_walk.2.1 96 = .ok (.aload_n 0, 1) := by decide +kernel
theorem k_fn_walk_97 : decode me_fn_walk.2.1 97 = .ok (.getfield 28, 3) := by decide +kernel
theorem k_fn_walk_100 : decode me_fn_walk.2.1 100 = .ok (.getfield 216, 3) := by decide +kernel
theorem k_fn_walk_103 : decode me_fn_walk.2.1 103 = .ok (.ireturn, 1) := by decide +kernel
theorem k_fn_walk_104 : decode me_fn_walk.2.1 104 = .ok (.aload_n 0, 1) := by decide +kernel
theorem k_fn_walk_105 : decode me_fn_walk.2.1 105 = .ok (.getfield 28, 3) := by decide +kernel
theorem k_fn_walk_108 : decode me_fn_walk.2.1 108 = .ok (.getfield 219, 3) := by decide +kernel
theorem k_fn_walk_111 : decode me_fn_walk.2.1 111 = .ok (.ireturn, 1) := by decide +kernel
theorem k_sr_isAhead_0 : decode me_sr_isAhead.2.1 0 = .ok (.aload_n 0, 1) := by decide +kernel
theorem k_sr_isAhead_1 : decode me_sr_isAhead.2.1 1 = .ok (.invokevirtual 19, 3) := by decide +kernel
theorem k_sr_isAhead_4 : decode me_sr_isAhead.2.1 4 = .ok (.aload_n 0, 1) := by decide +kernel
theorem k_sr_isAhead_5 : decode me_sr_isAhead.2.1 5 = .ok (.getfield 9, 3) := by decide +kernel
theorem k_sr_isAhead_8 : decode me_sr_isAhead.2.1 8 = .ok (.getfield 23, 3) := by decide +kernel
theorem k_sr_isAhead_11 : decode me_sr_isAhead.2.1 11 = .ok (.if_icmp .lt 7, 3) := by decide +kernel
theorem k_sr_isAhead_14 : decode me_sr_isAhead.2.1 14 = .ok (.iconst 1, 1) := by decide +kernel
theorem k_sr_isAhead_15 : decode me_sr_isAhead.2.1 15 = .ok (.goto 4, 3) := by decide +kernel
theorem k_sr_isAhead_18 : decode me_sr_isAhead.2.1 18 = .ok (.iconst 0, 1) := by decide +kernel
theorem k_sr_isAhead_19 : decode me_sr_isAhead.2.1 19 = .ok (.ireturn, 1) := by decide +kernel
theorem k_sr_lastMinute_0 : decode me_sr_lastMinute.2.1 0 = .ok (.aload_n 0, 1) := by decide +kernel
theorem k_sr_lastMinute_1 : decode me_sr_lastMinute.2.1 1 = .ok (.getfield 15, 3) := by decide +kernel
theorem k_sr_lastMinute_4 : decode me_sr_lastMinute.2.1 4 = .ok (.invokevirtual 29, 3) := by decide +kernel
theorem k_sr_lastMinute_7 : decode me_sr_lastMinute.2.1 7 = .ok (.ifCond .eq 7, 3) := by decide +kernel
theorem k_sr_lastMinute_10 : decode me_sr_lastMinute.2.1 10 = .ok (.iconst (-1), 1) := by decide +kernel
theorem k_sr_lastMinute_11 : decode me_sr_lastMinute.2.1 11 = .ok (.goto 25, 3) := by decide +kernel
theorem k_sr_lastMinute_14 : decode me_sr_lastMinute.2.1 14 = .ok (.aload_n 0, 1) := by decide +kernel
theorem k_sr_lastMinute_15 : decode me_sr_lastMinute.2.1 15 = .ok (.getfield 15, 3) := by decide +kernel
theorem k_sr_lastMinute_18 : decode me_sr_lastMinute.2.1 18 = .ok (.aload_n 0, 1) := by decide +kernel
theorem k_sr_lastMinute_19 : decode me_sr_lastMinute.2.1 19 = .ok (.getfield 15, 3) := by decide +kernel
theorem k_sr_lastMinute_22 : decode me_sr_lastMinute.2.1 22 = .ok (.invokevirtual 35, 3) := by decide +kernel
theorem k_sr_lastMinute_25 : decode me_sr_lastMinute.2.1 25 = .ok (.iconst 1, 1) := by decide +kernel
theorem k_sr_lastMinute_26 : decode me_sr_lastMinute.2.1 26 = .ok (.isub, 1) := by decide +kernel
theorem k_sr_lastMinute_27 : decode me_sr_lastMinute.2.1 27 = .ok (.invokevirtual 38, 3) := by decide +kernel
theorem k_sr_lastMinute_30 : decode me_sr_lastMinute.2.1 30 = .ok (.checkcast 42, 3) := by decide +kernel
theorem k_sr_lastMinute_33 : decode me_sr_lastMinute.2.1 33 = .ok (.getfield 44, 3) := by decide +kernel
theorem k_sr_lastMinute_36 : decode me_sr_lastMinute.2.1 36 = .ok (.ireturn, 1) := by decide +kernel
theorem k_al_isEmpty_0 : decode me_al_isEmpty.2.1 0 = .ok (.aload_n 0, 1) := by decide +kernel
theorem k_al_isEmpty_1 : decode me_al_isEmpty.2.1 1 = .ok (.getfield 48, 3) := by decide +kernel
theorem k_al_isEmpty_4 : decode me_al_isEmpty.2.1 4 = .ok (.ifCond .ne 7, 3) := by decide +kernel
theorem k_al_isEmpty_7 : decode me_al_isEmpty.2.1 7 = .ok (.iconst 1, 1) := by decide +kernel
theorem k_al_isEmpty_8 : decode me_al_isEmpty.2.1 8 = .ok (.goto 4, 3) := by decide +kernel
theorem k_al_isEmpty_11 : decode me_al_isEmpty.2.1 11 = .ok (.iconst 0, 1) := by decide +kernel
theorem k_al_isEmpty_12 : decode me_al_isEmpty.2.1 12 = .ok (.ireturn, 1) := by decide +kernel
theorem k_sr_go_0 : decode me_sr_go.2.1 0 = .ok (.aload_n 0, 1) := by decide +kernel
theorem k_sr_go_1 : decode me_sr_go.2.1 1 = .ok (.invokevirtual 47, 3) := by decide +kernel
theorem k_sr_go_4 : decode me_sr_go.2.1 4 = .ok (.aload_n 0, 1) := by decide +kernel
theorem k_sr_go_5 : decode me_sr_go.2.1 5 = .ok (.invokevirtual 19, 3) := by decide +kernel
theorem k_sr_go_8 : decode me_sr_go.2.1 8 = .ok (.istore_n 2, 1) := by decide +kernel
theorem k_sr_go_9 : decode me_sr_go.2.1 9 = .ok (.iconst 0, 1) := by decide +kernel
theorem k_sr_go_10 : decode me_sr_go.2.1 10 = .ok (.istore_n 3, 1) := by decide +kernel
theorem k_sr_go_11 : decode me_sr_go.2.1 11 = .ok (.iconst (-1), 1) := by decide +kernel
theorem k_sr_go_12 : decode me_sr_go.2.1 12 = .ok (.istore 4, 2) := by decide +kernel
theorem k_sr_go_14 : decode me_sr_go.2.1 14 = .ok (.aload_n 0, 1) := by decide +kernel
theorem k_sr_go_15 : decode me_sr_go.2.1 15 = .ok (.getfield 9, 3) := by decide +kernel
theorem k_sr_go_18 : decode me_sr_go.2.1 18 = .ok (.getfield 23, 3) := by decide +kernel
theorem k_sr_go_21 : decode me_sr_go.2.1 21 = .ok (.istore 5, 2) := by decide +kernel
theorem k_sr_go_23 : decode me_sr_go.2.1 23 = .ok (.iload 5, 2) := by decide +kernel
theorem k_sr_go_25 : decode me_sr_go.2.1 25 = .ok (.iload_n 2, 1) := by decide +kernel
theorem k_sr_go_26 : decode me_sr_go.2.1 26 = .ok (.if_icmp .gt 177, 3) := by decide +kernel
theorem k_sr_go_29 : decode me_sr_go.2.1 29 = .ok (.iload_n 3, 1) := by decide +kernel
theorem k_sr_go_30 : decode me_sr_go.2.1 30 = .ok (.aload_n 0, 1) := by decide +kernel
theorem k_sr_go_31 : decode me_sr_go.2.1 31 = .ok (.getfield 15, 3) := by decide +kernel
theorem k_sr_go_34 : decode me_sr_go.2.1 34 = .ok (.invokevirtual 35, 3) := by decide +kernel
theorem k_sr_go_37 : decode me_sr_go.2.1 37 = .ok (.if_icmp .ge 28, 3) := by decide +kernel
theorem k_sr_go_40 : decode me_sr_go.2.1 40 = .ok (.aload_n 0, 1) := by decide +kernel
theorem k_sr_go_41 : decode me_sr_go.2.1 41 = .ok (.getfield 15, 3) := by decide +kernel
theorem k_sr_go_44 : decode me_sr_go.2.1 44 = .ok (.iload_n 3, 1) := by decide +kernel
theorem k_sr_go_45 : decode me_sr_go.2.1 45 = .ok (.invokevirtual 38, 3) := by decide +kernel
theorem k_sr_go_48 : decode me_sr_go.2.1 48 = .ok (.checkcast 42, 3) := by decide +kernel
theorem k_sr_go_51 : decode me_sr_go.2.1 51 = .ok (.getfield 44, 3) := by decide +kernel
theorem k_sr_go_54 : decode me_sr_go.2.1 54 = .ok (.iload 5, 2) := by decide +kernel
theorem k_sr_go_56 : decode me_sr_go.2.1 56 = .ok (.if_icmp .ge 9, 3) := by decide +kernel
theorem k_sr_go_59 : decode me_sr_go.2.1 59 = .ok (.iinc 3 1, 3) := by decide +kernel
theorem k_sr_go_62 : decode me_sr_go.2.1 62 = .ok (.goto (-33), 3) := by decide +kernel
theorem k_sr_go_65 : decode me_sr_go.2.1 65 = .ok (.iload_n 3, 1) := by decide +kernel
theorem k_sr_go_66 : decode me_sr_go.2.1 66 = .ok (.aload_n 0, 1) := by decide +kernel
theorem k_sr_go_67 : decode me_sr_go.2.1 67 = .ok (.getfield 15, 3) := by decide +kernel
theorem k_sr_go_70 : decode me_sr_go.2.1 70 = .ok (.invokevirtual 35, 3) := by decide +kernel
theorem k_sr_go_73 : decode me_sr_go.2.1 73 = .ok (.if_icmp .ge 36, 3) := by decide +kernel
theorem k_sr_go_76 : decode me_sr_go.2.1 76 = .ok (.aload_n 0, 1) := by decide +kernel
theorem k_sr_go_77 : decode me_sr_go.2.1 77 = .ok (.getfield 15, 3) := by decide +kernel
theorem k_sr_go_80 : decode me_sr_go.2.1 80 = .ok (.iload_n 3, 1) := by decide +kernel
theorem k_sr_go_81 : decode me_sr_go.2.1 81 = .ok (.invokevirtual 38, 3) := by decide +kernel
theorem k_sr_go_84 : decode me_sr_go.2.1 84 = .ok (.checkcast 42, 3) := by decide +kernel
theorem k_sr_go_87 : decode me_sr_go.2.1 87 = .ok (.getfield 50, 3) := by decide +kernel
theorem k_sr_go_90 : decode me_sr_go.2.1 90 = .ok (.iload 5, 2) := by decide +kernel
theorem k_sr_go_92 : decode me_sr_go.2.1 92 = .ok (.if_icmp .gt 17, 3) := by decide +kernel
theorem k_sr_go_95 : decode me_sr_go.2.1 95 = .ok (.aload_n 0, 1) := by decide +kernel
theorem k_sr_go_96 : decode me_sr_go.2.1 96 = .ok (.getfield 15, 3) := by decide +kernel
theorem k_sr_go_99 : decode me_sr_go.2.1 99 = .ok (.iload_n 3, 1) := by decide +kernel
theorem k_sr_go_100 : decode me_sr_go.2.1 100 = .ok (.invokevirtual 38, 3) := by decide +kernel
theorem k_sr_go_103 : decode me_sr_go.2.1 103 = .ok (.checkcast 42, 3) := by decide +kernel
theorem k_sr_go_106 : decode me_sr_go.2.1 106 = .ok (.goto 4, 3) := by decide +kernel
theorem k_sr_go_109 : decode me_sr_go.2.1 109 = .ok (.aconst_null, 1) := by decide +kernel
theorem k_sr_go_110 : decode me_sr_go.2.1 110 = .ok (.astore 6, 2) := by decide +kernel
theorem k_sr_go_112 : decode me_sr_go.2.1 112 = .ok (.aload 6, 2) := by decide +kernel
theorem k_sr_go_114 : decode me_sr_go.2.1 114 = .ok (.ifnonnull 7, 3) := by decide +kernel
theorem k_sr_go_117 : decode me_sr_go.2.1 117 = .ok (.iconst 0, 1) := by decide +kernel
theorem k_sr_go_118 : decode me_sr_go.2.1 118 = .ok (.goto 8, 3) := by decide +kernel
theorem k_sr_go_121 : decode me_sr_go.2.1 121 = .ok (.aload 6, 2) := by decide +kernel
theorem k_sr_go_123 : decode me_sr_go.2.1 123 = .ok (.getfield 53, 3) := by decide +kernel
theorem k_sr_go_126 : decode me_sr_go.2.1 126 = .ok (.istore 7, 2) := by decide +kernel
theorem k_sr_go_128 : decode me_sr_go.2.1 128 = .ok (.iload 7, 2) := by decide +kernel
theorem k_sr_go_130 : decode me_sr_go.2.1 130 = .ok (.iload 4, 2) := by decide +kernel
theorem k_sr_go_132 : decode me_sr_go.2.1 132 = .ok (.if_icmp .eq 17, 3) := by decide +kernel
theorem k_sr_go_135 : decode me_sr_go.2.1 135 = .ok (.aload_n 0, 1) := by decide +kernel
theorem k_sr_go_136 : decode me_sr_go.2.1 136 = .ok (.getfield 9, 3) := by decide +kernel
theorem k_sr_go_139 : decode me_sr_go.2.1 139 = .ok (.iload 7, 2) := by decide +kernel
theorem k_sr_go_141 : decode me_sr_go.2.1 141 = .ok (.iconst 0, 1) := by decide +kernel
theorem k_sr_go_142 : decode me_sr_go.2.1 142 = .ok (.invokevirtual 56, 3) := by decide +kernel
theorem k_sr_go_145 : decode me_sr_go.2.1 145 = .ok (.iload 7, 2) := by decide +kernel
theorem k_sr_go_147 : decode me_sr_go.2.1 147 = .ok (.istore 4, 2) := by decide +kernel
theorem k_sr_go_149 : decode me_sr_go.2.1 149 = .ok (.aload 6, 2) := by decide +kernel
theorem k_sr_go_151 : decode me_sr_go.2.1 151 = .ok (.ifnonnull 7, 3) := by decide +kernel
theorem k_sr_go_154 : decode me_sr_go.2.1 154 = .ok (.aconst_null, 1) := by decide +kernel
theorem k_sr_go_155 : decode me_sr_go.2.1 155 = .ok (.goto 10, 3) := by decide +kernel
theorem k_sr_go_158 : decode me_sr_go.2.1 158 = .ok (.aload_n 0, 1) := by decide +kernel
theorem k_sr_go_159 : decode me_sr_go.2.1 159 = .ok (.aload 6, 2) := by decide +kernel
theorem k_sr_go_161 : decode me_sr_go.2.1 161 = .ok (.iload_n 1, 1) := by decide +kernel
theorem k_sr_go_162 : decode me_sr_go.2.1 162 = .ok (.invokevirtual 60, 3) := by decide +kernel
theorem k_sr_go_165 : decode me_sr_go.2.1 165 = .ok (.astore 8, 2) := by decide +kernel
theorem k_sr_go_167 : decode me_sr_go.2.1 167 = .ok (.aload 8, 2) := by decide +kernel
theorem k_sr_go_169 : decode me_sr_go.2.1 169 = .ok (.ifnull 24, 3) := by decide +kernel
theorem k_sr_go_172 : decode me_sr_go.2.1 172 = .ok (.aload_n 0, 1) := by decide +kernel
theorem k_sr_go_173 : decode me_sr_go.2.1 173 = .ok (.iload 5, 2) := by decide +kernel
theorem k_sr_go_175 : decode me_sr_go.2.1 175 = .ok (.putfield 64, 3) := by decide +kernel
theorem k_sr_go_178 : decode me_sr_go.2.1 178 = .ok (.aload_n 0, 1) := by decide +kernel
theorem k_sr_go_179 : decode me_sr_go.2.1 179 = .ok (.iload_n 3, 1) := by decide +kernel
theorem k_sr_go_180 : decode me_sr_go.2.1 180 = .ok (.putfield 67, 3) := by decide +kernel
theorem k_sr_go_183 : decode me_sr_go.2.1 183 = .ok (.aload_n 0, 1) := by decide +kernel
theorem k_sr_go_184 : decode me_sr_go.2.1 184 = .ok (.aload 8, 2) := by decide +kernel
theorem k_sr_go_186 : decode me_sr_go.2.1 186 = .ok (.getfield 70, 3) := by decide +kernel
theorem k_sr_go_189 : decode me_sr_go.2.1 189 = .ok (.putfield 75, 3) := by decide +kernel
theorem k_sr_go_192 : decode me_sr_go.2.1 192 = .ok (.return_, 1) := by decide +kernel
theorem k_sr_go_193 : decode me_sr_go.2.1 193 = .ok (.aload_n 0, 1) := by decide +kernel
theorem k_sr_go_194 : decode me_sr_go.2.1 194 = .ok (.invokevirtual 78, 3) := by decide +kernel
theorem k_sr_go_197 : decode me_sr_go.2.1 197 = .ok (.iinc 5 1, 3) := by decide +kernel
theorem k_sr_go_200 : decode me_sr_go.2.1 200 = .ok (.goto (-177), 3) := by decide +kernel
theorem k_sr_go_203 : decode me_sr_go.2.1 203 = .ok (.return_, 1) := by decide +kernel
theorem k_sr_begin_0 : decode me_sr_begin.2.1 0 = .ok (.aload_n 0, 1) := by decide +kernel
theorem k_sr_begin_1 : decode me_sr_begin.2.1 1 = .ok (.bipush (-9), 2) := by decide +kernel
theorem k_sr_begin_3 : decode me_sr_begin.2.1 3 = .ok (.putfield 64, 3) := by decide +kernel
theorem k_sr_begin_6 : decode me_sr_begin.2.1 6 = .ok (.aload_n 0, 1) := by decide +kernel
theorem k_sr_begin_7 : decode me_sr_begin.2.1 7 = .ok (.bipush (-9), 2) := by decide +kernel
theorem k_sr_begin_9 : decode me_sr_begin.2.1 9 = .ok (.putfield 67, 3) := by decide +kernel
theorem k_sr_begin_12 : decode me_sr_begin.2.1 12 = .ok (.aload_n 0, 1) := by decide +kernel
theorem k_sr_begin_13 : decode me_sr_begin.2.1 13 = .ok (.bipush (-9), 2) := by decide +kernel
theorem k_sr_begin_15 : decode me_sr_begin.2.1 15 = .ok (.putfield 75, 3) := by decide +kernel
theorem k_sr_begin_18 : decode me_sr_begin.2.1 18 = .ok (.aload_n 0, 1) := by decide +kernel
theorem k_sr_begin_19 : decode me_sr_begin.2.1 19 = .ok (.iconst 0, 1) := by decide +kernel
theorem k_sr_begin_20 : decode me_sr_begin.2.1 20 = .ok (.putfield 81, 3) := by decide +kernel
theorem k_sr_begin_23 : decode me_sr_begin.2.1 23 = .ok (.aload_n 0, 1) := by decide +kernel
theorem k_sr_begin_24 : decode me_sr_begin.2.1 24 = .ok (.ldc 84, 2) := by decide +kernel
theorem k_sr_begin_26 : decode me_sr_begin.2.1 26 = .ok (.putfield 85, 3) := by decide +kernel
theorem k_sr_begin_29 : decode me_sr_begin.2.1 29 = .ok (.aload_n 0, 1) := by decide +kernel
theorem k_sr_begin_30 : decode me_sr_begin.2.1 30 = .ok (.sipush 500, 3) := by decide +kernel
theorem k_sr_begin_33 : decode me_sr_begin.2.1 33 = .ok (.putfield 88, 3) := by decide +kernel
theorem k_sr_begin_36 : decode me_sr_begin.2.1 36 = .ok (.iconst 0, 1) := by decide +kernel
theorem k_sr_begin_37 : decode me_sr_begin.2.1 37 = .ok (.istore_n 1, 1) := by decide +kernel
theorem k_sr_begin_38 : decode me_sr_begin.2.1 38 = .ok (.iload_n 1, 1) := by decide +kernel
theorem k_sr_begin_39 : decode me_sr_begin.2.1 39 = .ok (.aload_n 0, 1) := by decide +kernel
theorem k_sr_begin_40 : decode me_sr_begin.2.1 40 = .ok (.getfield 9, 3) := by decide +kernel
theorem k_sr_begin_43 : decode me_sr_begin.2.1 43 = .ok (.getfield 91, 3) := by decide +kernel
theorem k_sr_begin_46 : decode me_sr_begin.2.1 46 = .ok (.invokevirtual 35, 3) := by decide +kernel
theorem k_sr_begin_49 : decode me_sr_begin.2.1 49 = .ok (.if_icmp .ge 47, 3) := by decide +kernel
theorem k_sr_begin_52 : decode me_sr_begin.2.1 52 = .ok (.aload_n 0, 1) := by decide +kernel
theorem k_sr_begin_53 : decode me_sr_begin.2.1 53 = .ok (.getfield 9, 3) := by decide +kernel
theorem k_sr_begin_56 : decode me_sr_begin.2.1 56 = .ok (.getfield 91, 3) := by decide +kernel
theorem k_sr_begin_59 : decode me_sr_begin.2.1 59 = .ok (.iload_n 1, 1) := by decide +kernel
theorem k_sr_begin_60 : decode me_sr_begin.2.1 60 = .ok (.invokevirtual 38, 3) := by decide +kernel
theorem k_sr_begin_63 : decode me_sr_begin.2.1 63 = .ok (.checkcast 94, 3) := by decide +kernel
theorem k_sr_begin_66 : decode me_sr_begin.2.1 66 = .ok (.astore_n 2, 1) := by decide +kernel
theorem k_sr_begin_67 : decode me_sr_begin.2.1 67 = .ok (.aload_n 2, 1) := by decide +kernel
theorem k_sr_begin_68 : decode me_sr_begin.2.1 68 = .ok (.aload_n 2, 1) := by decide +kernel
theorem k_sr_begin_69 : decode me_sr_begin.2.1 69 = .ok (.getfield 96, 3) := by decide +kernel
theorem k_sr_begin_72 : decode me_sr_begin.2.1 72 = .ok (.putfield 99, 3) := by decide +kernel
theorem k_sr_begin_75 : decode me_sr_begin.2.1 75 = .ok (.aload_n 0, 1) := by decide +kernel
theorem k_sr_begin_76 : decode me_sr_begin.2.1 76 = .ok (.aload_n 0, 1) := by decide +kernel
theorem k_sr_begin_77 : decode me_sr_begin.2.1 77 = .ok (.getfield 85, 3) := by decide +kernel
theorem k_sr_begin_80 : decode me_sr_begin.2.1 80 = .ok (.aload_n 2, 1) := by decide +kernel
theorem k_sr_begin_81 : decode me_sr_begin.2.1 81 = .ok (.getfield 96, 3) := by decide +kernel
theorem k_sr_begin_84 : decode me_sr_begin.2.1 84 = .ok (.invokestatic 102, 3) := by decide +kernel
theorem k_sr_begin_87 : decode me_sr_begin.2.1 87 = .ok (.putfield 85, 3) := by decide +kernel
theorem k_sr_begin_90 : decode me_sr_begin.2.1 90 = .ok (.iinc 1 1, 3) := by decide +kernel
theorem k_sr_begin_93 : decode me_sr_begin.2.1 93 = .ok (.goto (-55), 3) := by decide +kernel
theorem k_sr_begin_96 : decode me_sr_begin.2.1 96 = .ok (.return_, 1) := by decide +kernel
theorem k_sr_lookAtRises_0 : decode me_sr_lookAtRises.2.1 0 = .ok (.iconst 0, 1) := by decide +kernel
theorem k_sr_lookAtRises_1 : decode me_sr_lookAtRises.2.1 1 = .ok (.istore_n 3, 1) := by decide +kernel
theorem k_sr_lookAtRises_2 : decode me_sr_lookAtRises.2.1 2 = .ok (.iload_n 3, 1) := by decide +kernel
theorem k_sr_lookAtRises_3 : decode me_sr_lookAtRises.2.1 3 = .ok (.aload_n 0, 1) := by decide +kernel
theorem k_sr_lookAtRises_4 : decode me_sr_lookAtRises.2.1 4 = .ok (.getfield 9, 3) := by decide +kernel
theorem k_sr_lookAtRises_7 : decode me_sr_lookAtRises.2.1 7 = .ok (.getfield 108, 3) := by decide +kernel
theorem k_sr_lookAtRises_10 : decode me_sr_lookAtRises.2.1 10 = .ok (.invokevirtual 35, 3) := by decide +kernel
theorem k_sr_lookAtRises_13 : decode me_sr_lookAtRises.2.1 13 = .ok (.if_icmp .ge 88, 3) := by decide +kernel
theorem k_sr_lookAtRises_16 : decode me_sr_lookAtRises.2.1 16 = .ok (.aload_n 0, 1) := by decide +kernel
theorem k_sr_lookAtRises_17 : decode me_sr_lookAtRises.2.1 17 = .ok (.getfield 9, 3) := by decide +kernel
end
section
/-! printed by my own program: decode rows -/
theorem k_sr_lookAtRises_20 : decode me_sr_lookAtRises.2.1 20 = .ok (.getfield 108, 3) := by decide +kernel
theorem k_sr_lookAtRises_23 : decode me_sr_lookAtRises.2.1 23 = .ok (.iload_n 3, 1) := by decide +kernel
theorem k_sr_lookAtRises_24 : decode me_sr_lookAtRises.2.1 24 = .ok (.invokevirtual 38, 3) := by decide +kernel
theorem k_sr_lookAtRises_27 : decode me_sr_lookAtRises.2.1 27 = .ok (.checkcast 71, 3) := by decide +kernel
theorem k_sr_lookAtRises_30 : decode me_sr_lookAtRises.2.1 30 = .ok (.astore 4, 2) := by decide +kernel
theorem k_sr_lookAtRises_32 : decode me_sr_lookAtRises.2.1 32 = .ok (.aload 4, 2) := by decide +kernel
theorem k_sr_lookAtRises_34 : decode me_sr_lookAtRises.2.1 34 = .ok (.aload_n 1, 1) := by decide +kernel
theorem k_sr_lookAtRises_35 : decode me_sr_lookAtRises.2.1 35 = .ok (.getfield 53, 3) := by decide +kernel
theorem k_sr_lookAtRises_38 : decode me_sr_lookAtRises.2.1 38 = .ok (.invokevirtual 111, 3) := by decide +kernel
theorem k_sr_lookAtRises_41 : decode me_sr_lookAtRises.2.1 41 = .ok (.ifCond .eq 54, 3) := by decide +kernel
theorem k_sr_lookAtRises_44 : decode me_sr_lookAtRises.2.1 44 = .ok (.aload 4, 2) := by decide +kernel
theorem k_sr_lookAtRises_46 : decode me_sr_lookAtRises.2.1 46 = .ok (.aload_n 1, 1) := by decide +kernel
theorem k_sr_lookAtRises_47 : decode me_sr_lookAtRises.2.1 47 = .ok (.getfield 53, 3) := by decide +kernel
theorem k_sr_lookAtRises_50 : decode me_sr_lookAtRises.2.1 50 = .ok (.aload 4, 2) := by decide +kernel
theorem k_sr_lookAtRises_52 : decode me_sr_lookAtRises.2.1 52 = .ok (.getfield 115, 3) := by decide +kernel
theorem k_sr_lookAtRises_55 : decode me_sr_lookAtRises.2.1 55 = .ok (.getfield 119, 3) := by decide +kernel
theorem k_sr_lookAtRises_58 : decode me_sr_lookAtRises.2.1 58 = .ok (.getfield 99, 3) := by decide +kernel
theorem k_sr_lookAtRises_61 : decode me_sr_lookAtRises.2.1 61 = .ok (.invokevirtual 125, 3) := by decide +kernel
theorem k_sr_lookAtRises_64 : decode me_sr_lookAtRises.2.1 64 = .ok (.istore 5, 2) := by decide +kernel
theorem k_sr_lookAtRises_66 : decode me_sr_lookAtRises.2.1 66 = .ok (.aload_n 0, 1) := by decide +kernel
theorem k_sr_lookAtRises_67 : decode me_sr_lookAtRises.2.1 67 = .ok (.aload_n 0, 1) := by decide +kernel
theorem k_sr_lookAtRises_68 : decode me_sr_lookAtRises.2.1 68 = .ok (.getfield 88, 3) := by decide +kernel
theorem k_sr_lookAtRises_71 : decode me_sr_lookAtRises.2.1 71 = .ok (.iload 5, 2) := by decide +kernel
theorem k_sr_lookAtRises_73 : decode me_sr_lookAtRises.2.1 73 = .ok (.invokestatic 102, 3) := by decide +kernel
theorem k_sr_lookAtRises_76 : decode me_sr_lookAtRises.2.1 76 = .ok (.putfield 88, 3) := by decide +kernel
theorem k_sr_lookAtRises_79 : decode me_sr_lookAtRises.2.1 79 = .ok (.iload_n 2, 1) := by decide +kernel
theorem k_sr_lookAtRises_80 : decode me_sr_lookAtRises.2.1 80 = .ok (.ifCond .eq 15, 3) := by decide +kernel
theorem k_sr_lookAtRises_83 : decode me_sr_lookAtRises.2.1 83 = .ok (.iload 5, 2) := by decide +kernel
theorem k_sr_lookAtRises_85 : decode me_sr_lookAtRises.2.1 85 = .ok (.aload_n 1, 1) := by decide +kernel
theorem k_sr_lookAtRises_86 : decode me_sr_lookAtRises.2.1 86 = .ok (.getfield 128, 3) := by decide +kernel
theorem k_sr_lookAtRises_89 : decode me_sr_lookAtRises.2.1 89 = .ok (.if_icmp .ge 6, 3) := by decide +kernel
theorem k_sr_lookAtRises_92 : decode me_sr_lookAtRises.2.1 92 = .ok (.aload 4, 2) := by decide +kernel
theorem k_sr_lookAtRises_94 : decode me_sr_lookAtRises.2.1 94 = .ok (.areturn, 1) := by decide +kernel
theorem k_sr_lookAtRises_95 : decode me_sr_lookAtRises.2.1 95 = .ok (.iinc 3 1, 3) := by decide +kernel
theorem k_sr_lookAtRises_98 : decode me_sr_lookAtRises.2.1 98 = .ok (.goto (-96), 3) := by decide +kernel
theorem k_sr_lookAtRises_101 : decode me_sr_lookAtRises.2.1 101 = .ok (.aconst_null, 1) := by decide +kernel
theorem k_sr_lookAtRises_102 : decode me_sr_lookAtRises.2.1 102 = .ok (.areturn, 1) := by decide +kernel
theorem k_sr_passMinute_0 : decode me_sr_passMinute.2.1 0 = .ok (.iconst 0, 1) := by decide +kernel
theorem k_sr_passMinute_1 : decode me_sr_passMinute.2.1 1 = .ok (.istore_n 1, 1) := by decide +kernel
theorem k_sr_passMinute_2 : decode me_sr_passMinute.2.1 2 = .ok (.iload_n 1, 1) := by decide +kernel
theorem k_sr_passMinute_3 : decode me_sr_passMinute.2.1 3 = .ok (.aload_n 0, 1) := by decide +kernel
theorem k_sr_passMinute_4 : decode me_sr_passMinute.2.1 4 = .ok (.getfield 9, 3) := by decide +kernel
theorem k_sr_passMinute_7 : decode me_sr_passMinute.2.1 7 = .ok (.getfield 91, 3) := by decide +kernel
theorem k_sr_passMinute_10 : decode me_sr_passMinute.2.1 10 = .ok (.invokevirtual 35, 3) := by decide +kernel
theorem k_sr_passMinute_13 : decode me_sr_passMinute.2.1 13 = .ok (.if_icmp .ge 75, 3) := by decide +kernel
theorem k_sr_passMinute_16 : decode me_sr_passMinute.2.1 16 = .ok (.aload_n 0, 1) := by decide +kernel
theorem k_sr_passMinute_17 : decode me_sr_passMinute.2.1 17 = .ok (.getfield 9, 3) := by decide +kernel
theorem k_sr_passMinute_20 : decode me_sr_passMinute.2.1 20 = .ok (.getfield 91, 3) := by decide +kernel
theorem k_sr_passMinute_23 : decode me_sr_passMinute.2.1 23 = .ok (.iload_n 1, 1) := by decide +kernel
theorem k_sr_passMinute_24 : decode me_sr_passMinute.2.1 24 = .ok (.invokevirtual 38, 3) := by decide +kernel
theorem k_sr_passMinute_27 : decode me_sr_passMinute.2.1 27 = .ok (.checkcast 94, 3) := by decide +kernel
theorem k_sr_passMinute_30 : decode me_sr_passMinute.2.1 30 = .ok (.astore_n 2, 1) := by decide +kernel
theorem k_sr_passMinute_31 : decode me_sr_passMinute.2.1 31 = .ok (.aload_n 2, 1) := by decide +kernel
theorem k_sr_passMinute_32 : decode me_sr_passMinute.2.1 32 = .ok (.aload_n 2, 1) := by decide +kernel
theorem k_sr_passMinute_33 : decode me_sr_passMinute.2.1 33 = .ok (.getfield 99, 3) := by decide +kernel
theorem k_sr_passMinute_36 : decode me_sr_passMinute.2.1 36 = .ok (.invokevirtual 131, 3) := by decide +kernel
theorem k_sr_passMinute_39 : decode me_sr_passMinute.2.1 39 = .ok (.istore_n 3, 1) := by decide +kernel
theorem k_sr_passMinute_40 : decode me_sr_passMinute.2.1 40 = .ok (.aload_n 2, 1) := by decide +kernel
theorem k_sr_passMinute_41 : decode me_sr_passMinute.2.1 41 = .ok (.aload_n 2, 1) := by decide +kernel
theorem k_sr_passMinute_42 : decode me_sr_passMinute.2.1 42 = .ok (.aload_n 2, 1) := by decide +kernel
theorem k_sr_passMinute_43 : decode me_sr_passMinute.2.1 43 = .ok (.getfield 99, 3) := by decide +kernel
theorem k_sr_passMinute_46 : decode me_sr_passMinute.2.1 46 = .ok (.invokevirtual 135, 3) := by decide +kernel
theorem k_sr_passMinute_49 : decode me_sr_passMinute.2.1 49 = .ok (.putfield 99, 3) := by decide +kernel
theorem k_sr_passMinute_52 : decode me_sr_passMinute.2.1 52 = .ok (.aload_n 0, 1) := by decide +kernel
theorem k_sr_passMinute_53 : decode me_sr_passMinute.2.1 53 = .ok (.dup, 1) := by decide +kernel
theorem k_sr_passMinute_54 : decode me_sr_passMinute.2.1 54 = .ok (.getfield 81, 3) := by decide +kernel
theorem k_sr_passMinute_57 : decode me_sr_passMinute.2.1 57 = .ok (.iload_n 3, 1) := by decide +kernel
theorem k_sr_passMinute_58 : decode me_sr_passMinute.2.1 58 = .ok (.aload_n 2, 1) := by decide +kernel
theorem k_sr_passMinute_59 : decode me_sr_passMinute.2.1 59 = .ok (.getfield 99, 3) := by decide +kernel
theorem k_sr_passMinute_62 : decode me_sr_passMinute.2.1 62 = .ok (.isub, 1) := by decide +kernel
theorem k_sr_passMinute_63 : decode me_sr_passMinute.2.1 63 = .ok (.iadd, 1) := by decide +kernel
theorem k_sr_passMinute_64 : decode me_sr_passMinute.2.1 64 = .ok (.putfield 81, 3) := by decide +kernel
theorem k_sr_passMinute_67 : decode me_sr_passMinute.2.1 67 = .ok (.aload_n 0, 1) := by decide +kernel
theorem k_sr_passMinute_68 : decode me_sr_passMinute.2.1 68 = .ok (.aload_n 0, 1) := by decide +kernel
theorem k_sr_passMinute_69 : decode me_sr_passMinute.2.1 69 = .ok (.getfield 85, 3) := by decide +kernel
theorem k_sr_passMinute_72 : decode me_sr_passMinute.2.1 72 = .ok (.aload_n 2, 1) := by decide +kernel
theorem k_sr_passMinute_73 : decode me_sr_passMinute.2.1 73 = .ok (.getfield 99, 3) := by decide +kernel
theorem k_sr_passMinute_76 : decode me_sr_passMinute.2.1 76 = .ok (.invokestatic 102, 3) := by decide +kernel
theorem k_sr_passMinute_79 : decode me_sr_passMinute.2.1 79 = .ok (.putfield 85, 3) := by decide +kernel
theorem k_sr_passMinute_82 : decode me_sr_passMinute.2.1 82 = .ok (.iinc 1 1, 3) := by decide +kernel
theorem k_sr_passMinute_85 : decode me_sr_passMinute.2.1 85 = .ok (.goto (-83), 3) := by decide +kernel
theorem k_sr_passMinute_88 : decode me_sr_passMinute.2.1 88 = .ok (.return_, 1) := by decide +kernel
theorem k_fn_most_0 : decode me_fn_most.2.1 0 = .ok (.aload_n 0, 1) := by decide +kernel
theorem k_fn_most_1 : decode me_fn_most.2.1 1 = .ok (.getfield 28, 3) := by decide +kernel
theorem k_fn_most_4 : decode me_fn_most.2.1 4 = .ok (.invokevirtual 199, 3) := by decide +kernel
theorem k_fn_most_7 : decode me_fn_most.2.1 7 = .ok (.ifCond .ne 10, 3) := by decide +kernel
theorem k_fn_most_10 : decode me_fn_most.2.1 10 = .ok (.aload_n 0, 1) := by decide +kernel
theorem k_fn_most_11 : decode me_fn_most.2.1 11 = .ok (.bipush (-3), 2) := by decide +kernel
theorem k_fn_most_13 : decode me_fn_most.2.1 13 = .ok (.invokevirtual 56, 3) := by decide +kernel
theorem k_fn_most_16 : decode me_fn_most.2.1 16 = .ok (.ireturn, 1) := by decide +kernel
theorem k_fn_most_17 : decode me_fn_most.2.1 17 = .ok (.aload_n 0, 1) := by decide +kernel
theorem k_fn_most_18 : decode me_fn_most.2.1 18 = .ok (.getfield 28, 3) := by decide +kernel
theorem k_fn_most_21 : decode me_fn_most.2.1 21 = .ok (.iconst 0, 1) := by decide +kernel
theorem k_fn_most_22 : decode me_fn_most.2.1 22 = .ok (.invokevirtual 203, 3) := by decide +kernel
theorem k_fn_most_25 : decode me_fn_most.2.1 25 = .ok (.aload_n 0, 1) := by decide +kernel
theorem k_fn_most_26 : decode me_fn_most.2.1 26 = .ok (.getfield 28, 3) := by decide +kernel
theorem k_fn_most_29 : decode me_fn_most.2.1 29 = .ok (.getfield 222, 3) := by decide +kernel
theorem k_fn_most_32 : decode me_fn_most.2.1 32 = .ok (.ireturn, 1) := by decide +kernel
theorem k_fn_pace_0 : decode me_fn_pace.2.1 0 = .ok (.iload_n 1, 1) := by decide +kernel
theorem k_fn_pace_1 : decode me_fn_pace.2.1 1 = .ok (.ifCond .ge 10, 3) := by decide +kernel
theorem k_fn_pace_4 : decode me_fn_pace.2.1 4 = .ok (.aload_n 0, 1) := by decide +kernel
theorem k_fn_pace_5 : decode me_fn_pace.2.1 5 = .ok (.bipush (-4), 2) := by decide +kernel
theorem k_fn_pace_7 : decode me_fn_pace.2.1 7 = .ok (.invokevirtual 56, 3) := by decide +kernel
theorem k_fn_pace_10 : decode me_fn_pace.2.1 10 = .ok (.ireturn, 1) := by decide +kernel
theorem k_fn_pace_11 : decode me_fn_pace.2.1 11 = .ok (.iload_n 1, 1) := by decide +kernel
theorem k_fn_pace_12 : decode me_fn_pace.2.1 12 = .ok (.bipush 30, 2) := by decide +kernel
theorem k_fn_pace_14 : decode me_fn_pace.2.1 14 = .ok (.if_icmp .le 10, 3) := by decide +kernel
theorem k_fn_pace_17 : decode me_fn_pace.2.1 17 = .ok (.aload_n 0, 1) := by decide +kernel
theorem k_fn_pace_18 : decode me_fn_pace.2.1 18 = .ok (.bipush (-6), 2) := by decide +kernel
theorem k_fn_pace_20 : decode me_fn_pace.2.1 20 = .ok (.invokevirtual 56, 3) := by decide +kernel
theorem k_fn_pace_23 : decode me_fn_pace.2.1 23 = .ok (.ireturn, 1) := by decide +kernel
theorem k_fn_pace_24 : decode me_fn_pace.2.1 24 = .ok (.aload_n 0, 1) := by decide +kernel
theorem k_fn_pace_25 : decode me_fn_pace.2.1 25 = .ok (.getfield 52, 3) := by decide +kernel
theorem k_fn_pace_28 : decode me_fn_pace.2.1 28 = .ok (.istore_n 2, 1) := by decide +kernel
theorem k_fn_pace_29 : decode me_fn_pace.2.1 29 = .ok (.aload_n 0, 1) := by decide +kernel
theorem k_fn_pace_30 : decode me_fn_pace.2.1 30 = .ok (.iload_n 1, 1) := by decide +kernel
theorem k_fn_pace_31 : decode me_fn_pace.2.1 31 = .ok (.putfield 52, 3) := by decide +kernel
theorem k_fn_pace_34 : decode me_fn_pace.2.1 34 = .ok (.iload_n 2, 1) := by decide +kernel
theorem k_fn_pace_35 : decode me_fn_pace.2.1 35 = .ok (.ireturn, 1) := by decide +kernel
theorem k_fn_tasks_0 : decode me_fn_tasks.2.1 0 = .ok (.aload_n 0, 1) := by decide +kernel
theorem k_fn_tasks_1 : decode me_fn_tasks.2.1 1 = .ok (.getfield 35, 3) := by decide +kernel
theorem k_fn_tasks_4 : decode me_fn_tasks.2.1 4 = .ok (.invokevirtual 225, 3) := by decide +kernel
theorem k_fn_tasks_7 : decode me_fn_tasks.2.1 7 = .ok (.aload_n 0, 1) := by decide +kernel
theorem k_fn_tasks_8 : decode me_fn_tasks.2.1 8 = .ok (.getfield 35, 3) := by decide +kernel
theorem k_fn_tasks_11 : decode me_fn_tasks.2.1 11 = .ok (.getfield 228, 3) := by decide +kernel
theorem k_fn_tasks_14 : decode me_fn_tasks.2.1 14 = .ok (.ireturn, 1) := by decide +kernel
theorem k_tl_build_0 : decode me_tl_build.2.1 0 = .ok (.aload_n 0, 1) := by decide +kernel
theorem k_tl_build_1 : decode me_tl_build.2.1 1 = .ok (.iconst 0, 1) := by decide +kernel
theorem k_tl_build_2 : decode me_tl_build.2.1 2 = .ok (.putfield 35, 3) := by decide +kernel
theorem k_tl_build_5 : decode me_tl_build.2.1 5 = .ok (.iconst 0, 1) := by decide +kernel
theorem k_tl_build_6 : decode me_tl_build.2.1 6 = .ok (.istore_n 1, 1) := by decide +kernel
theorem k_tl_build_7 : decode me_tl_build.2.1 7 = .ok (.iconst (-1), 1) := by decide +kernel
theorem k_tl_build_8 : decode me_tl_build.2.1 8 = .ok (.istore_n 2, 1) := by decide +kernel
theorem k_tl_build_9 : decode me_tl_build.2.1 9 = .ok (.iconst 0, 1) := by decide +kernel
theorem k_tl_build_10 : decode me_tl_build.2.1 10 = .ok (.istore_n 3, 1) := by decide +kernel
theorem k_tl_build_11 : decode me_tl_build.2.1 11 = .ok (.iload_n 3, 1) := by decide +kernel
theorem k_tl_build_12 : decode me_tl_build.2.1 12 = .ok (.aload_n 0, 1) := by decide +kernel
theorem k_tl_build_13 : decode me_tl_build.2.1 13 = .ok (.getfield 15, 3) := by decide +kernel
theorem k_tl_build_16 : decode me_tl_build.2.1 16 = .ok (.invokevirtual 39, 3) := by decide +kernel
theorem k_tl_build_19 : decode me_tl_build.2.1 19 = .ok (.if_icmp .ge 71, 3) := by decide +kernel
theorem k_tl_build_22 : decode me_tl_build.2.1 22 = .ok (.aload_n 0, 1) := by decide +kernel
theorem k_tl_build_23 : decode me_tl_build.2.1 23 = .ok (.getfield 15, 3) := by decide +kernel
theorem k_tl_build_26 : decode me_tl_build.2.1 26 = .ok (.iload_n 3, 1) := by decide +kernel
theorem k_tl_build_27 : decode me_tl_build.2.1 27 = .ok (.invokevirtual 44, 3) := by decide +kernel
theorem k_tl_build_30 : decode me_tl_build.2.1 30 = .ok (.checkcast 48, 3) := by decide +kernel
theorem k_tl_build_33 : decode me_tl_build.2.1 33 = .ok (.astore 4, 2) := by decide +kernel
theorem k_tl_build_35 : decode me_tl_build.2.1 35 = .ok (.iload_n 2, 1) := by decide +kernel
theorem k_tl_build_36 : decode me_tl_build.2.1 36 = .ok (.iconst 1, 1) := by decide +kernel
theorem k_tl_build_37 : decode me_tl_build.2.1 37 = .ok (.iadd, 1) := by decide +kernel
theorem k_tl_build_38 : decode me_tl_build.2.1 38 = .ok (.aload 4, 2) := by decide +kernel
theorem k_tl_build_40 : decode me_tl_build.2.1 40 = .ok (.getfield 50, 3) := by decide +kernel
theorem k_tl_build_43 : decode me_tl_build.2.1 43 = .ok (.if_icmp .eq 14, 3) := by decide +kernel
theorem k_tl_build_46 : decode me_tl_build.2.1 46 = .ok (.aload_n 0, 1) := by decide +kernel
theorem k_tl_build_47 : decode me_tl_build.2.1 47 = .ok (.iload_n 2, 1) := by decide +kernel
theorem k_tl_build_48 : decode me_tl_build.2.1 48 = .ok (.iconst 1, 1) := by decide +kernel
theorem k_tl_build_49 : decode me_tl_build.2.1 49 = .ok (.iadd, 1) := by decide +kernel
theorem k_tl_build_50 : decode me_tl_build.2.1 50 = .ok (.iload_n 1, 1) := by decide +kernel
theorem k_tl_build_51 : decode me_tl_build.2.1 51 = .ok (.iconst 0, 1) := by decide +kernel
theorem k_tl_build_52 : decode me_tl_build.2.1 52 = .ok (.invokevirtual 53, 3) := by decide +kernel
theorem k_tl_build_55 : decode me_tl_build.2.1 55 = .ok (.iconst 0, 1) := by decide +kernel
theorem k_tl_build_56 : decode me_tl_build.2.1 56 = .ok (.istore_n 1, 1) := by decide +kernel
theorem k_tl_build_57 : decode me_tl_build.2.1 57 = .ok (.aload_n 0, 1) := by decide +kernel
theorem k_tl_build_58 : decode me_tl_build.2.1 58 = .ok (.aload 4, 2) := by decide +kernel
theorem k_tl_build_60 : decode me_tl_build.2.1 60 = .ok (.getfield 50, 3) := by decide +kernel
theorem k_tl_build_63 : decode me_tl_build.2.1 63 = .ok (.iload_n 1, 1) := by decide +kernel
theorem k_tl_build_64 : decode me_tl_build.2.1 64 = .ok (.aload 4, 2) := by decide +kernel
theorem k_tl_build_66 : decode me_tl_build.2.1 66 = .ok (.getfield 57, 3) := by decide +kernel
theorem k_tl_build_69 : decode me_tl_build.2.1 69 = .ok (.invokevirtual 53, 3) := by decide +kernel
theorem k_tl_build_72 : decode me_tl_build.2.1 72 = .ok (.aload 4, 2) := by decide +kernel
theorem k_tl_build_74 : decode me_tl_build.2.1 74 = .ok (.getfield 57, 3) := by decide +kernel
theorem k_tl_build_77 : decode me_tl_build.2.1 77 = .ok (.istore_n 1, 1) := by decide +kernel
theorem k_tl_build_78 : decode me_tl_build.2.1 78 = .ok (.aload 4, 2) := by decide +kernel
theorem k_tl_build_80 : decode me_tl_build.2.1 80 = .ok (.getfield 60, 3) := by decide +kernel
theorem k_tl_build_83 : decode me_tl_build.2.1 83 = .ok (.istore_n 2, 1) := by decide +kernel
theorem k_tl_build_84 : decode me_tl_build.2.1 84 = .ok (.iinc 3 1, 3) := by decide +kernel
theorem k_tl_build_87 : decode me_tl_build.2.1 87 = .ok (.goto (-76), 3) := by decide +kernel
theorem k_tl_build_90 : decode me_tl_build.2.1 90 = .ok (.aload_n 0, 1) := by decide +kernel
theorem k_tl_build_91 : decode me_tl_build.2.1 91 = .ok (.iload_n 2, 1) := by decide +kernel
theorem k_tl_build_92 : decode me_tl_build.2.1 92 = .ok (.iconst 1, 1) := by decide +kernel
theorem k_tl_build_93 : decode me_tl_build.2.1 93 = .ok (.iadd, 1) := by decide +kernel
theorem k_tl_build_94 : decode me_tl_build.2.1 94 = .ok (.iload_n 1, 1) := by decide +kernel
theorem k_tl_build_95 : decode me_tl_build.2.1 95 = .ok (.iconst 0, 1) := by decide +kernel
theorem k_tl_build_96 : decode me_tl_build.2.1 96 = .ok (.invokevirtual 53, 3) := by decide +kernel
theorem k_tl_build_99 : decode me_tl_build.2.1 99 = .ok (.return_, 1) := by decide +kernel
theorem k_tl_addChange_0 : decode me_tl_addChange.2.1 0 = .ok (.iconst 0, 1) := by decide +kernel
theorem k_tl_addChange_1 : decode me_tl_addChange.2.1 1 = .ok (.istore 4, 2) := by decide +kernel
theorem k_tl_addChange_3 : decode me_tl_addChange.2.1 3 = .ok (.iload 4, 2) := by decide +kernel
theorem k_tl_addChange_5 : decode me_tl_addChange.2.1 5 = .ok (.aload_n 0, 1) := by decide +kernel
theorem k_tl_addChange_6 : decode me_tl_addChange.2.1 6 = .ok (.getfield 9, 3) := by decide +kernel
theorem k_tl_addChange_9 : decode me_tl_addChange.2.1 9 = .ok (.getfield 63, 3) := by decide +kernel
theorem k_tl_addChange_12 : decode me_tl_addChange.2.1 12 = .ok (.invokevirtual 39, 3) := by decide +kernel
theorem k_tl_addChange_15 : decode me_tl_addChange.2.1 15 = .ok (.if_icmp .ge 122, 3) := by decide +kernel
theorem k_tl_addChange_18 : decode me_tl_addChange.2.1 18 = .ok (.aload_n 0, 1) := by decide +kernel
theorem k_tl_addChange_19 : decode me_tl_addChange.2.1 19 = .ok (.getfield 9, 3) := by decide +kernel
theorem k_tl_addChange_22 : decode me_tl_addChange.2.1 22 = .ok (.getfield 63, 3) := by decide +kernel
theorem k_tl_addChange_25 : decode me_tl_addChange.2.1 25 = .ok (.iload 4, 2) := by decide +kernel
theorem k_tl_addChange_27 : decode me_tl_addChange.2.1 27 = .ok (.invokevirtual 44, 3) := by decide +kernel
theorem k_tl_addChange_30 : decode me_tl_addChange.2.1 30 = .ok (.checkcast 68, 3) := by decide +kernel
theorem k_tl_addChange_33 : decode me_tl_addChange.2.1 33 = .ok (.astore 5, 2) := by decide +kernel
theorem k_tl_addChange_35 : decode me_tl_addChange.2.1 35 = .ok (.aload 5, 2) := by decide +kernel
theorem k_tl_addChange_37 : decode me_tl_addChange.2.1 37 = .ok (.iload_n 2, 1) := by decide +kernel
theorem k_tl_addChange_38 : decode me_tl_addChange.2.1 38 = .ok (.invokevirtual 70, 3) := by decide +kernel
theorem k_tl_addChange_41 : decode me_tl_addChange.2.1 41 = .ok (.aload 5, 2) := by decide +kernel
theorem k_tl_addChange_43 : decode me_tl_addChange.2.1 43 = .ok (.iload_n 3, 1) := by decide +kernel
theorem k_tl_addChange_44 : decode me_tl_addChange.2.1 44 = .ok (.invokevirtual 70, 3) := by decide +kernel
theorem k_tl_addChange_47 : decode me_tl_addChange.2.1 47 = .ok (.if_icmp .eq 84, 3) := by decide +kernel
theorem k_tl_addChange_50 : decode me_tl_addChange.2.1 50 = .ok (.aload_n 0, 1) := by decide +kernel
theorem k_tl_addChange_51 : decode me_tl_addChange.2.1 51 = .ok (.getfield 35, 3) := by decide +kernel
theorem k_tl_addChange_54 : decode me_tl_addChange.2.1 54 = .ok (.sipush 576, 3) := by decide +kernel
theorem k_tl_addChange_57 : decode me_tl_addChange.2.1 57 = .ok (.if_icmp .ge 74, 3) := by decide +kernel
theorem k_tl_addChange_60 : decode me_tl_addChange.2.1 60 = .ok (.aload_n 0, 1) := by decide +kernel
theorem k_tl_addChange_61 : decode me_tl_addChange.2.1 61 = .ok (.getfield 19, 3) := by decide +kernel
theorem k_tl_addChange_64 : decode me_tl_addChange.2.1 64 = .ok (.aload_n 0, 1) := by decide +kernel
theorem k_tl_addChange_65 : decode me_tl_addChange.2.1 65 = .ok (.getfield 35, 3) := by decide +kernel
theorem k_tl_addChange_68 : decode me_tl_addChange.2.1 68 = .ok (.iload_n 1, 1) := by decide +kernel
theorem k_tl_addChange_69 : decode me_tl_addChange.2.1 69 = .ok (.iastore, 1) := by decide +kernel
theorem k_tl_addChange_70 : decode me_tl_addChange.2.1 70 = .ok (.aload_n 0, 1) := by decide +kernel
theorem k_tl_addChange_71 : decode me_tl_addChange.2.1 71 = .ok (.getfield 23, 3) := by decide +kernel
theorem k_tl_addChange_74 : decode me_tl_addChange.2.1 74 = .ok (.aload_n 0, 1) := by decide +kernel
theorem k_tl_addChange_75 : decode me_tl_addChange.2.1 75 = .ok (.getfield 35, 3) := by decide +kernel
theorem k_tl_addChange_78 : decode me_tl_addChange.2.1 78 = .ok (.iload 4, 2) := by decide +kernel
theorem k_tl_addChange_80 : decode me_tl_addChange.2.1 80 = .ok (.iastore, 1) := by decide +kernel
theorem k_tl_addChange_81 : decode me_tl_addChange.2.1 81 = .ok (.aload_n 0, 1) := by decide +kernel
theorem k_tl_addChange_82 : decode me_tl_addChange.2.1 82 = .ok (.getfield 26, 3) := by decide +kernel
theorem k_tl_addChange_85 : decode me_tl_addChange.2.1 85 = .ok (.aload_n 0, 1) := by decide +kernel
theorem k_tl_addChange_86 : decode me_tl_addChange.2.1 86 = .ok (.getfield 35, 3) := by decide +kernel
theorem k_tl_addChange_89 : decode me_tl_addChange.2.1 89 = .ok (.aload 5, 2) := by decide +kernel
theorem k_tl_addChange_91 : decode me_tl_addChange.2.1 91 = .ok (.iload_n 3, 1) := by decide +kernel
theorem k_tl_addChange_92 : decode me_tl_addChange.2.1 92 = .ok (.invokevirtual 70, 3) := by decide +kernel
theorem k_tl_addChange_95 : decode me_tl_addChange.2.1 95 = .ok (.ifCond .eq 7, 3) := by decide +kernel
theorem k_tl_addChange_98 : decode me_tl_addChange.2.1 98 = .ok (.iconst 1, 1) := by decide +kernel
theorem k_tl_addChange_99 : decode me_tl_addChange.2.1 99 = .ok (.goto 4, 3) := by decide +kernel
theorem k_tl_addChange_102 : decode me_tl_addChange.2.1 102 = .ok (.iconst 0, 1) := by decide +kernel
theorem k_tl_addChange_103 : decode me_tl_addChange.2.1 103 = .ok (.iastore, 1) := by decide +kernel
theorem k_tl_addChange_104 : decode me_tl_addChange.2.1 104 = .ok (.aload_n 0, 1) := by decide +kernel
theorem k_tl_addChange_105 : decode me_tl_addChange.2.1 105 = .ok (.getfield 29, 3) := by decide +kernel
theorem k_tl_addChange_108 : decode me_tl_addChange.2.1 108 = .ok (.aload_n 0, 1) := by decide +kernel
theorem k_tl_addChange_109 : decode me_tl_addChange.2.1 109 = .ok (.getfield 35, 3) := by decide +kernel
theorem k_tl_addChange_112 : decode me_tl_addChange.2.1 112 = .ok (.aload 5, 2) := by decide +kernel
theorem k_tl_addChange_114 : decode me_tl_addChange.2.1 114 = .ok (.getfield 74, 3) := by decide +kernel
theorem k_tl_addChange_117 : decode me_tl_addChange.2.1 117 = .ok (.getfield 78, 3) := by decide +kernel
theorem k_tl_addChange_120 : decode me_tl_addChange.2.1 120 = .ok (.iastore, 1) := by decide +kernel
theorem k_tl_addChange_121 : decode me_tl_addChange.2.1 121 = .ok (.aload_n 0, 1) := by decide +kernel
theorem k_tl_addChange_122 : decode me_tl_addChange.2.1 122 = .ok (.dup, 1) := by decide +kernel
theorem k_tl_addChange_123 : decode me_tl_addChange.2.1 123 = .ok (.getfield 35, 3) := by decide +kernel
theorem k_tl_addChange_126 : decode me_tl_addChange.2.1 126 = .ok (.iconst 1, 1) := by decide +kernel
theorem k_tl_addChange_127 : decode me_tl_addChange.2.1 127 = .ok (.iadd, 1) := by decide +kernel
theorem k_tl_addChange_128 : decode me_tl_addChange.2.1 128 = .ok (.putfield 35, 3) := by decide +kernel
theorem k_tl_addChange_131 : decode me_tl_addChange.2.1 131 = .ok (.iinc 4 1, 3) := by decide +kernel
theorem k_tl_addChange_134 : decode me_tl_addChange.2.1 134 = .ok (.goto (-131), 3) := by decide +kernel
theorem k_tl_addChange_137 : decode me_tl_addChange.2.1 137 = .ok (.return_, 1) := by decide +kernel
theorem k_fn_task_0 : decode me_fn_task.2.1 0 = .ok (.aload_n 0, 1) := by decide +kernel
theorem k_fn_task_1 : decode me_fn_task.2.1 1 = .ok (.getfield 35, 3) := by decide +kernel
theorem k_fn_task_4 : decode me_fn_task.2.1 4 = .ok (.invokevirtual 225, 3) := by decide +kernel
theorem k_fn_task_7 : decode me_fn_task.2.1 7 = .ok (.iload_n 1, 1) := by decide +kernel
theorem k_fn_task_8 : decode me_fn_task.2.1 8 = .ok (.ifCond .lt 14, 3) := by decide +kernel
theorem k_fn_task_11 : decode me_fn_task.2.1 11 = .ok (.iload_n 1, 1) := by decide +kernel
theorem k_fn_task_12 : decode me_fn_task.2.1 12 = .ok (.aload_n 0, 1) := by decide +kernel
theorem k_fn_task_13 : decode me_fn_task.2.1 13 = .ok (.getfield 35, 3) := by decide +kernel
theorem k_fn_task_16 : decode me_fn_task.2.1 16 = .ok (.getfield 228, 3) := by decide +kernel
theorem k_fn_task_19 : decode me_fn_task.2.1 19 = .ok (.if_icmp .lt 9, 3) := by decide +kernel
theorem k_fn_task_22 : decode me_fn_task.2.1 22 = .ok (.aload_n 0, 1) := by decide +kernel
theorem k_fn_task_23 : decode me_fn_task.2.1 23 = .ok (.iconst (-1), 1) := by decide +kernel
theorem k_fn_task_24 : decode me_fn_task.2.1 24 = .ok (.invokevirtual 56, 3) := by decide +kernel
theorem k_fn_task_27 : decode me_fn_task.2.1 27 = .ok (.ireturn, 1) := by decide +kernel
theorem k_fn_task_28 : decode me_fn_task.2.1 28 = .ok (.iload_n 2, 1) := by decide +kernel
theorem k_fn_task_29 : decode me_fn_task.2.1 29 = .ok (.ifCond .lt 8, 3) := by decide +kernel
theorem k_fn_task_32 : decode me_fn_task.2.1 32 = .ok (.iload_n 2, 1) := by decide +kernel
theorem k_fn_task_33 : decode me_fn_task.2.1 33 = .ok (.iconst 2, 1) := by decide +kernel
theorem k_fn_task_34 : decode me_fn_task.2.1 34 = .ok (.if_icmp .le 10, 3) := by decide +kernel
theorem k_fn_task_37 : decode me_fn_task.2.1 37 = .ok (.aload_n 0, 1) := by decide +kernel
theorem k_fn_task_38 : decode me_fn_task.2.1 38 = .ok (.bipush (-2), 2) := by decide +kernel
theorem k_fn_task_40 : decode me_fn_task.2.1 40 = .ok (.invokevirtual 56, 3) := by decide +kernel
theorem k_fn_task_43 : decode me_fn_task.2.1 43 = .ok (.ireturn, 1) := by decide +kernel
theorem k_fn_task_44 : decode me_fn_task.2.1 44 = .ok (.aload_n 0, 1) := by decide +kernel
theorem k_fn_task_45 : decode me_fn_task.2.1 45 = .ok (.getfield 35, 3) := by decide +kernel
theorem k_fn_task_48 : decode me_fn_task.2.1 48 = .ok (.iload_n 1, 1) := by decide +kernel
theorem k_fn_task_49 : decode me_fn_task.2.1 49 = .ok (.iload_n 2, 1) := by decide +kernel
theorem k_fn_task_50 : decode me_fn_task.2.1 50 = .ok (.invokevirtual 229, 3) := by decide +kernel
theorem k_fn_task_53 : decode me_fn_task.2.1 53 = .ok (.ireturn, 1) := by decide +kernel
theorem k_tl_tell_0 : decode me_tl_tell.2.1 0 = .ok (.iload_n 1, 1) := by decide +kernel
theorem k_tl_tell_1 : decode me_tl_tell.2.1 1 = .ok (.ifCond .lt 20, 3) := by decide +kernel
theorem k_tl_tell_4 : decode me_tl_tell.2.1 4 = .ok (.iload_n 1, 1) := by decide +kernel
theorem k_tl_tell_5 : decode me_tl_tell.2.1 5 = .ok (.aload_n 0, 1) := by decide +kernel
theorem k_tl_tell_6 : decode me_tl_tell.2.1 6 = .ok (.getfield 35, 3) := by decide +kernel
theorem k_tl_tell_9 : decode me_tl_tell.2.1 9 = .ok (.if_icmp .ge 12, 3) := by decide +kernel
theorem k_tl_tell_12 : decode me_tl_tell.2.1 12 = .ok (.iload_n 1, 1) := by decide +kernel
theorem k_tl_tell_13 : decode me_tl_tell.2.1 13 = .ok (.aload_n 0, 1) := by decide +kernel
theorem k_tl_tell_14 : decode me_tl_tell.2.1 14 = .ok (.getfield 19, 3) := by decide +kernel
theorem k_tl_tell_17 : decode me_tl_tell.2.1 17 = .ok (.arraylength, 1) := by decide +kernel
theorem k_tl_tell_18 : decode me_tl_tell.2.1 18 = .ok (.if_icmp .lt 6, 3) := by decide +kernel
theorem k_tl_tell_21 : decode me_tl_tell.2.1 21 = .ok (.bipush (-9), 2) := by decide +kernel
theorem k_tl_tell_23 : decode me_tl_tell.2.1 23 = .ok (.ireturn, 1) := by decide +kernel
theorem k_tl_tell_24 : decode me_tl_tell.2.1 24 = .ok (.iload_n 2, 1) := by decide +kernel
theorem k_tl_tell_25 : decode me_tl_tell.2.1 25 = .ok (.ifCond .ne 12, 3) := by decide +kernel
theorem k_tl_tell_28 : decode me_tl_tell.2.1 28 = .ok (.aload_n 0, 1) := by decide +kernel
theorem k_tl_tell_29 : decode me_tl_tell.2.1 29 = .ok (.getfield 19, 3) := by decide +kernel
theorem k_tl_tell_32 : decode me_tl_tell.2.1 32 = .ok (.iload_n 1, 1) := by decide +kernel
theorem k_tl_tell_33 : decode me_tl_tell.2.1 33 = .ok (.iaload, 1) := by decide +kernel
theorem k_tl_tell_34 : decode me_tl_tell.2.1 34 = .ok (.goto 23, 3) := by decide +kernel
theorem k_tl_tell_37 : decode me_tl_tell.2.1 37 = .ok (.iload_n 2, 1) := by decide +kernel
theorem k_tl_tell_38 : decode me_tl_tell.2.1 38 = .ok (.iconst 1, 1) := by decide +kernel
theorem k_tl_tell_39 : decode me_tl_tell.2.1 39 = .ok (.if_icmp .ne 12, 3) := by decide +kernel
theorem k_tl_tell_42 : decode me_tl_tell.2.1 42 = .ok (.aload_n 0, 1) := by decide +kernel
theorem k_tl_tell_43 : decode me_tl_tell.2.1 43 = .ok (.getfield 23, 3) := by decide +kernel
theorem k_tl_tell_46 : decode me_tl_tell.2.1 46 = .ok (.iload_n 1, 1) := by decide +kernel
theorem k_tl_tell_47 : decode me_tl_tell.2.1 47 = .ok (.iaload, 1) := by decide +kernel
theorem k_tl_tell_48 : decode me_tl_tell.2.1 48 = .ok (.goto 9, 3) := by decide +kernel
theorem k_tl_tell_51 : decode me_tl_tell.2.1 51 = .ok (.aload_n 0, 1) := by decide +kernel
theorem k_tl_tell_52 : decode me_tl_tell.2.1 52 = .ok (.getfield 26, 3) := by decide +kernel
theorem k_tl_tell_55 : decode me_tl_tell.2.1 55 = .ok (.iload_n 1, 1) := by decide +kernel
theorem k_tl_tell_56 : decode me_tl_tell.2.1 56 = .ok (.iaload, 1) := by decide +kernel
theorem k_tl_tell_57 : decode me_tl_tell.2.1 57 = .ok (.ireturn, 1) := by decide +kernel
theorem k_fn_boys_0 : decode me_fn_boys.2.1 0 = .ok (.aload_n 0, 1) := by decide +kernel
theorem k_fn_boys_1 : decode me_fn_boys.2.1 1 = .ok (.getfield 35, 3) := by decide +kernel
theorem k_fn_boys_4 : decode me_fn_boys.2.1 4 = .ok (.invokevirtual 225, 3) := by decide +kernel
theorem k_fn_boys_7 : decode me_fn_boys.2.1 7 = .ok (.aload_n 0, 1) := by decide +kernel
theorem k_fn_boys_8 : decode me_fn_boys.2.1 8 = .ok (.getfield 35, 3) := by decide +kernel
theorem k_fn_boys_11 : decode me_fn_boys.2.1 11 = .ok (.getfield 228, 3) := by decide +kernel
theorem k_fn_boys_14 : decode me_fn_boys.2.1 14 = .ok (.bipush 60, 2) := by decide +kernel
theorem k_fn_boys_16 : decode me_fn_boys.2.1 16 = .ok (.if_icmp .le 10, 3) := by decide +kernel
theorem k_fn_boys_19 : decode me_fn_boys.2.1 19 = .ok (.aload_n 0, 1) := by decide +kernel
theorem k_fn_boys_20 : decode me_fn_boys.2.1 20 = .ok (.bipush (-6), 2) := by decide +kernel
theorem k_fn_boys_22 : decode me_fn_boys.2.1 22 = .ok (.invokevirtual 56, 3) := by decide +kernel
theorem k_fn_boys_25 : decode me_fn_boys.2.1 25 = .ok (.ireturn, 1) := by decide +kernel
theorem k_fn_boys_26 : decode me_fn_boys.2.1 26 = .ok (.aload_n 0, 1) := by decide +kernel
theorem k_fn_boys_27 : decode me_fn_boys.2.1 27 = .ok (.getfield 35, 3) := by decide +kernel
theorem k_fn_boys_30 : decode me_fn_boys.2.1 30 = .ok (.aload_n 0, 1) := by decide +kernel
theorem k_fn_boys_31 : decode me_fn_boys.2.1 31 = .ok (.getfield 52, 3) := by decide +kernel
theorem k_fn_boys_34 : decode me_fn_boys.2.1 34 = .ok (.invokevirtual 232, 3) := by decide +kernel
theorem k_fn_boys_37 : decode me_fn_boys.2.1 37 = .ok (.ireturn, 1) := by decide +kernel
theorem k_tl_fewestBoys_0 : decode me_tl_fewestBoys.2.1 0 = .ok (.iconst 0, 1) := by decide +kernel
theorem k_tl_fewestBoys_1 : decode me_tl_fewestBoys.2.1 1 = .ok (.istore_n 2, 1) := by decide +kernel
theorem k_tl_fewestBoys_2 : decode me_tl_fewestBoys.2.1 2 = .ok (.iconst 0, 1) := by decide +kernel
theorem k_tl_fewestBoys_3 : decode me_tl_fewestBoys.2.1 3 = .ok (.istore_n 3, 1) := by decide +kernel
theorem k_tl_fewestBoys_4 : decode me_tl_fewestBoys.2.1 4 = .ok (.iload_n 3, 1) := by decide +kernel
theorem k_tl_fewestBoys_5 : decode me_tl_fewestBoys.2.1 5 = .ok (.bipush 30, 2) := by decide +kernel
theorem k_tl_fewestBoys_7 : decode me_tl_fewestBoys.2.1 7 = .ok (.if_icmp .ge 76, 3) := by decide +kernel
theorem k_tl_fewestBoys_10 : decode me_tl_fewestBoys.2.1 10 = .ok (.iconst 0, 1) := by decide +kernel
theorem k_tl_fewestBoys_11 : decode me_tl_fewestBoys.2.1 11 = .ok (.istore 4, 2) := by decide +kernel
theorem k_tl_fewestBoys_13 : decode me_tl_fewestBoys.2.1 13 = .ok (.iload 4, 2) := by decide +kernel
theorem k_tl_fewestBoys_15 : decode me_tl_fewestBoys.2.1 15 = .ok (.aload_n 0, 1) := by decide +kernel
theorem k_tl_fewestBoys_16 : decode me_tl_fewestBoys.2.1 16 = .ok (.getfield 35, 3) := by decide +kernel
theorem k_tl_fewestBoys_19 : decode me_tl_fewestBoys.2.1 19 = .ok (.if_icmp .ge 58, 3) := by decide +kernel
theorem k_tl_fewestBoys_22 : decode me_tl_fewestBoys.2.1 22 = .ok (.iload 4, 2) := by decide +kernel
theorem k_tl_fewestBoys_24 : decode me_tl_fewestBoys.2.1 24 = .ok (.aload_n 0, 1) := by decide +kernel
theorem k_tl_fewestBoys_25 : decode me_tl_fewestBoys.2.1 25 = .ok (.getfield 32, 3) := by decide +kernel
theorem k_tl_fewestBoys_28 : decode me_tl_fewestBoys.2.1 28 = .ok (.arraylength, 1) := by decide +kernel
theorem k_tl_fewestBoys_29 : decode me_tl_fewestBoys.2.1 29 = .ok (.if_icmp .ge 48, 3) := by decide +kernel
theorem k_tl_fewestBoys_32 : decode me_tl_fewestBoys.2.1 32 = .ok (.aload_n 0, 1) := by decide +kernel
theorem k_tl_fewestBoys_33 : decode me_tl_fewestBoys.2.1 33 = .ok (.getfield 29, 3) := by decide +kernel
theorem k_tl_fewestBoys_36 : decode me_tl_fewestBoys.2.1 36 = .ok (.iload 4, 2) := by decide +kernel
theorem k_tl_fewestBoys_38 : decode me_tl_fewestBoys.2.1 38 = .ok (.iaload, 1) := by decide +kernel
theorem k_tl_fewestBoys_39 : decode me_tl_fewestBoys.2.1 39 = .ok (.iload_n 3, 1) := by decide +kernel
theorem k_tl_fewestBoys_40 : decode me_tl_fewestBoys.2.1 40 = .ok (.if_icmp .ne 31, 3) := by decide +kernel
theorem k_tl_fewestBoys_43 : decode me_tl_fewestBoys.2.1 43 = .ok (.aload_n 0, 1) := by decide +kernel
theorem k_tl_fewestBoys_44 : decode me_tl_fewestBoys.2.1 44 = .ok (.getfield 32, 3) := by decide +kernel
theorem k_tl_fewestBoys_47 : decode me_tl_fewestBoys.2.1 47 = .ok (.iload 4, 2) := by decide +kernel
theorem k_tl_fewestBoys_49 : decode me_tl_fewestBoys.2.1 49 = .ok (.iconst 1, 1) := by decide +kernel
theorem k_tl_fewestBoys_50 : decode me_tl_fewestBoys.2.1 50 = .ok (.aload_n 0, 1) := by decide +kernel
theorem k_tl_fewestBoys_51 : decode me_tl_fewestBoys.2.1 51 = .ok (.iload 4, 2) := by decide +kernel
theorem k_tl_fewestBoys_53 : decode me_tl_fewestBoys.2.1 53 = .ok (.iload_n 1, 1) := by decide +kernel
theorem k_tl_fewestBoys_54 : decode me_tl_fewestBoys.2.1 54 = .ok (.invokevirtual 83, 3) := by decide +kernel
theorem k_tl_fewestBoys_57 : decode me_tl_fewestBoys.2.1 57 = .ok (.iadd, 1) := by decide +kernel
theorem k_tl_fewestBoys_58 : decode me_tl_fewestBoys.2.1 58 = .ok (.iastore, 1) := by decide +kernel
theorem k_tl_fewestBoys_59 : decode me_tl_fewestBoys.2.1 59 = .ok (.iload_n 2, 1) := by decide +kernel
theorem k_tl_fewestBoys_60 : decode me_tl_fewestBoys.2.1 60 = .ok (.aload_n 0, 1) := by decide +kernel
theorem k_tl_fewestBoys_61 : decode me_tl_fewestBoys.2.1 61 = .ok (.getfield 32, 3) := by decide +kernel
theorem k_tl_fewestBoys_64 : decode me_tl_fewestBoys.2.1 64 = .ok (.iload 4, 2) := by decide +kernel
theorem k_tl_fewestBoys_66 : decode me_tl_fewestBoys.2.1 66 = .ok (.iaload, 1) := by decide +kernel
theorem k_tl_fewestBoys_67 : decode me_tl_fewestBoys.2.1 67 = .ok (.invokestatic 87, 3) := by decide +kernel
theorem k_tl_fewestBoys_70 : decode me_tl_fewestBoys.2.1 70 = .ok (.istore_n 2, 1) := by decide +kernel
theorem k_tl_fewestBoys_71 : decode me_tl_fewestBoys.2.1 71 = .ok (.iinc 4 1, 3) := by decide +kernel
theorem k_tl_fewestBoys_74 : decode me_tl_fewestBoys.2.1 74 = .ok (.goto (-61), 3) := by decide +kernel
theorem k_tl_fewestBoys_77 : decode me_tl_fewestBoys.2.1 77 = .ok (.iinc 3 1, 3) := by decide +kernel
theorem k_tl_fewestBoys_80 : decode me_tl_fewestBoys.2.1 80 = .ok (.goto (-76), 3) := by decide +kernel
theorem k_tl_fewestBoys_83 : decode me_tl_fewestBoys.2.1 83 = .ok (.iload_n 2, 1) := by decide +kernel
theorem k_tl_fewestBoys_84 : decode me_tl_fewestBoys.2.1 84 = .ok (.ireturn, 1) := by decide +kernel
theorem k_tl_mostApartAhead_0 : decode me_tl_mostApartAhead.2.1 0 = .ok (.iload_n 1, 1) := by decide +kernel
theorem k_tl_mostApartAhead_1 : decode me_tl_mostApartAhead.2.1 1 = .ok (.ifCond .lt 12, 3) := by decide +kernel
theorem k_tl_mostApartAhead_4 : decode me_tl_mostApartAhead.2.1 4 = .ok (.iload_n 1, 1) := by decide +kernel
theorem k_tl_mostApartAhead_5 : decode me_tl_mostApartAhead.2.1 5 = .ok (.aload_n 0, 1) := by decide +kernel
theorem k_tl_mostApartAhead_6 : decode me_tl_mostApartAhead.2.1 6 = .ok (.getfield 32, 3) := by decide +kernel
theorem k_tl_mostApartAhead_9 : decode me_tl_mostApartAhead.2.1 9 = .ok (.arraylength, 1) := by decide +kernel
theorem k_tl_mostApartAhead_10 : decode me_tl_mostApartAhead.2.1 10 = .ok (.if_icmp .lt 5, 3) := by decide +kernel
theorem k_tl_mostApartAhead_13 : decode me_tl_mostApartAhead.2.1 13 = .ok (.iconst 0, 1) := by decide +kernel
theorem k_tl_mostApartAhead_14 : decode me_tl_mostApartAhead.2.1 14 = .ok (.ireturn, 1) := by decide +kernel
theorem k_tl_mostApartAhead_15 : decode me_tl_mostApartAhead.2.1 15 = .ok (.iconst 0, 1) := by decide +kernel
theorem k_tl_mostApartAhead_16 : decode me_tl_mostApartAhead.2.1 16 = .ok (.istore_n 3, 1) := by decide +kernel
theorem k_tl_mostApartAhead_17 : decode me_tl_mostApartAhead.2.1 17 = .ok (.iconst 0, 1) := by decide +kernel
theorem k_tl_mostApartAhead_18 : decode me_tl_mostApartAhead.2.1 18 = .ok (.istore 4, 2) := by decide +kernel
theorem k_tl_mostApartAhead_20 : decode me_tl_mostApartAhead.2.1 20 = .ok (.iload 4, 2) := by decide +kernel
theorem k_tl_mostApartAhead_22 : decode me_tl_mostApartAhead.2.1 22 = .ok (.aload_n 0, 1) := by decide +kernel
theorem k_tl_mostApartAhead_23 : decode me_tl_mostApartAhead.2.1 23 = .ok (.getfield 35, 3) := by decide +kernel
theorem k_tl_mostApartAhead_26 : decode me_tl_mostApartAhead.2.1 26 = .ok (.if_icmp .ge 71, 3) := by decide +kernel
theorem k_tl_mostApartAhead_29 : decode me_tl_mostApartAhead.2.1 29 = .ok (.iload 4, 2) := by decide +kernel
theorem k_tl_mostApartAhead_31 : decode me_tl_mostApartAhead.2.1 31 = .ok (.aload_n 0, 1) := by decide +kernel
theorem k_tl_mostApartAhead_32 : decode me_tl_mostApartAhead.2.1 32 = .ok (.getfield 32, 3) := by decide +kernel
theorem k_tl_mostApartAhead_35 : decode me_tl_mostApartAhead.2.1 35 = .ok (.arraylength, 1) := by decide +kernel
theorem k_tl_mostApartAhead_36 : decode me_tl_mostApartAhead.2.1 36 = .ok (.if_icmp .ge 61, 3) := by decide +kernel
theorem k_tl_mostApartAhead_39 : decode me_tl_mostApartAhead.2.1 39 = .ok (.aload_n 0, 1) := by decide +kernel
theorem k_tl_mostApartAhead_40 : decode me_tl_mostApartAhead.2.1 40 = .ok (.getfield 29, 3) := by decide +kernel
theorem k_tl_mostApartAhead_43 : decode me_tl_mostApartAhead.2.1 43 = .ok (.iload_n 1, 1) := by decide +kernel
theorem k_tl_mostApartAhead_44 : decode me_tl_mostApartAhead.2.1 44 = .ok (.iaload, 1) := by decide +kernel
theorem k_tl_mostApartAhead_45 : decode me_tl_mostApartAhead.2.1 45 = .ok (.aload_n 0, 1) := by decide +kernel
theorem k_tl_mostApartAhead_46 : decode me_tl_mostApartAhead.2.1 46 = .ok (.getfield 29, 3) := by decide +kernel
theorem k_tl_mostApartAhead_49 : decode me_tl_mostApartAhead.2.1 49 = .ok (.iload 4, 2) := by decide +kernel
theorem k_tl_mostApartAhead_51 : decode me_tl_mostApartAhead.2.1 51 = .ok (.iaload, 1) := by decide +kernel
theorem k_tl_mostApartAhead_52 : decode me_tl_mostApartAhead.2.1 52 = .ok (.isub, 1) := by decide +kernel
theorem k_tl_mostApartAhead_53 : decode me_tl_mostApartAhead.2.1 53 = .ok (.iload_n 2, 1) := by decide +kernel
theorem k_tl_mostApartAhead_54 : decode me_tl_mostApartAhead.2.1 54 = .ok (.imul, 1) := by decide +kernel
theorem k_tl_mostApartAhead_55 : decode me_tl_mostApartAhead.2.1 55 = .ok (.istore 5, 2) := by decide +kernel
theorem k_tl_mostApartAhead_57 : decode me_tl_mostApartAhead.2.1 57 = .ok (.aload_n 0, 1) := by decide +kernel
theorem k_tl_mostApartAhead_58 : decode me_tl_mostApartAhead.2.1 58 = .ok (.getfield 19, 3) := by decide +kernel
theorem k_tl_mostApartAhead_61 : decode me_tl_mostApartAhead.2.1 61 = .ok (.iload_n 1, 1) := by decide +kernel
theorem k_tl_mostApartAhead_62 : decode me_tl_mostApartAhead.2.1 62 = .ok (.iaload, 1) := by decide +kernel
theorem k_tl_mostApartAhead_63 : decode me_tl_mostApartAhead.2.1 63 = .ok (.aload_n 0, 1) := by decide +kernel
theorem k_tl_mostApartAhead_64 : decode me_tl_mostApartAhead.2.1 64 = .ok (.getfield 19, 3) := by decide +kernel
theorem k_tl_mostApartAhead_67 : decode me_tl_mostApartAhead.2.1 67 = .ok (.iload 4, 2) := by decide +kernel
theorem k_tl_mostApartAhead_69 : decode me_tl_mostApartAhead.2.1 69 = .ok (.iaload, 1) := by decide +kernel
theorem k_tl_mostApartAhead_70 : decode me_tl_mostApartAhead.2.1 70 = .ok (.isub, 1) := by decide +kernel
theorem k_tl_mostApartAhead_71 : decode me_tl_mostApartAhead.2.1 71 = .ok (.invokestatic 92, 3) := by decide +kernel
theorem k_tl_mostApartAhead_74 : decode me_tl_mostApartAhead.2.1 74 = .ok (.iload 5, 2) := by decide +kernel
theorem k_tl_mostApartAhead_76 : decode me_tl_mostApartAhead.2.1 76 = .ok (.if_icmp .ge 15, 3) := by decide +kernel
theorem k_tl_mostApartAhead_79 : decode me_tl_mostApartAhead.2.1 79 = .ok (.iload_n 3, 1) := by decide +kernel
theorem k_tl_mostApartAhead_80 : decode me_tl_mostApartAhead.2.1 80 = .ok (.aload_n 0, 1) := by decide +kernel
theorem k_tl_mostApartAhead_81 : decode me_tl_mostApartAhead.2.1 81 = .ok (.getfield 32, 3) := by decide +kernel
theorem k_tl_mostApartAhead_84 : decode me_tl_mostApartAhead.2.1 84 = .ok (.iload 4, 2) := by decide +kernel
theorem k_tl_mostApartAhead_86 : decode me_tl_mostApartAhead.2.1 86 = .ok (.iaload, 1) := by decide +kernel
theorem k_tl_mostApartAhead_87 : decode me_tl_mostApartAhead.2.1 87 = .ok (.invokestatic 87, 3) := by decide +kernel
theorem k_tl_mostApartAhead_90 : decode me_tl_mostApartAhead.2.1 90 = .ok (.istore_n 3, 1) := by decide +kernel
theorem k_tl_mostApartAhead_91 : decode me_tl_mostApartAhead.2.1 91 = .ok (.iinc 4 1, 3) := by decide +kernel
theorem k_tl_mostApartAhead_94 : decode me_tl_mostApartAhead.2.1 94 = .ok (.goto (-74), 3) := by decide +kernel
theorem k_tl_mostApartAhead_97 : decode me_tl_mostApartAhead.2.1 97 = .ok (.iload_n 3, 1) := by decide +kernel
theorem k_tl_mostApartAhead_98 : decode me_tl_mostApartAhead.2.1 98 = .ok (.ireturn, 1) := by decide +kernel
theorem k_fn_gauge_0 : decode me_fn_gauge.2.1 0 = .ok (.aload_n 0, 1) := by decide +kernel
theorem k_fn_gauge_1 : decode me_fn_gauge.2.1 1 = .ok (.getfield 12, 3) := by decide +kernel
theorem k_fn_gauge_4 : decode me_fn_gauge.2.1 4 = .ok (.iload_n 1, 1) := by decide +kernel
theorem k_fn_gauge_5 : decode me_fn_gauge.2.1 5 = .ok (.invokevirtual 121, 3) := by decide +kernel
theorem k_fn_gauge_8 : decode me_fn_gauge.2.1 8 = .ok (.astore_n 3, 1) := by decide +kernel
theorem k_fn_gauge_9 : decode me_fn_gauge.2.1 9 = .ok (.aload_n 3, 1) := by decide +kernel
theorem k_fn_gauge_10 : decode me_fn_gauge.2.1 10 = .ok (.ifnonnull 9, 3) := by decide +kernel
theorem k_fn_gauge_13 : decode me_fn_gauge.2.1 13 = .ok (.aload_n 0, 1) := by decide +kernel
theorem k_fn_gauge_14 : decode me_fn_gauge.2.1 14 = .ok (.iconst (-1), 1) := by decide +kernel
theorem k_fn_gauge_15 : decode me_fn_gauge.2.1 15 = .ok (.invokevirtual 150, 3) := by decide +kernel
theorem k_fn_gauge_18 : decode me_fn_gauge.2.1 18 = .ok (.ireturn, 1) := by decide +kernel
theorem k_fn_gauge_19 : decode me_fn_gauge.2.1 19 = .ok (.iload_n 2, 1) := by decide +kernel
theorem k_fn_gauge_20 : decode me_fn_gauge.2.1 20 = .ok (.iconst (-1), 1) := by decide +kernel
theorem k_fn_gauge_21 : decode me_fn_gauge.2.1 21 = .ok (.if_icmp .ge 10, 3) := by decide +kernel
theorem k_fn_gauge_24 : decode me_fn_gauge.2.1 24 = .ok (.aload_n 0, 1) := by decide +kernel
theorem k_fn_gauge_25 : decode me_fn_gauge.2.1 25 = .ok (.bipush (-4), 2) := by decide +kernel
theorem k_fn_gauge_27 : decode me_fn_gauge.2.1 27 = .ok (.invokevirtual 150, 3) := by decide +kernel
theorem k_fn_gauge_30 : decode me_fn_gauge.2.1 30 = .ok (.ireturn, 1) := by decide +kernel
theorem k_fn_gauge_31 : decode me_fn_gauge.2.1 31 = .ok (.iload_n 2, 1) := by decide +kernel
theorem k_fn_gauge_32 : decode me_fn_gauge.2.1 32 = .ok (.sipush 500, 3) := by decide +kernel
theorem k_fn_gauge_35 : decode me_fn_gauge.2.1 35 = .ok (.if_icmp .le 10, 3) := by decide +kernel
theorem k_fn_gauge_38 : decode me_fn_gauge.2.1 38 = .ok (.aload_n 0, 1) := by decide +kernel
theorem k_fn_gauge_39 : decode me_fn_gauge.2.1 39 = .ok (.bipush (-6), 2) := by decide +kernel
theorem k_fn_gauge_41 : decode me_fn_gauge.2.1 41 = .ok (.invokevirtual 150, 3) := by decide +kernel
theorem k_fn_gauge_44 : decode me_fn_gauge.2.1 44 = .ok (.ireturn, 1) := by decide +kernel
theorem k_fn_gauge_45 : decode me_fn_gauge.2.1 45 = .ok (.aload_n 3, 1) := by decide +kernel
theorem k_fn_gauge_46 : decode me_fn_gauge.2.1 46 = .ok (.getfield 235, 3) := by decide +kernel
theorem k_fn_gauge_49 : decode me_fn_gauge.2.1 49 = .ok (.istore 4, 2) := by decide +kernel
theorem k_fn_gauge_51 : decode me_fn_gauge.2.1 51 = .ok (.aload_n 3, 1) := by decide +kernel
theorem k_fn_gauge_52 : decode me_fn_gauge.2.1 52 = .ok (.iload_n 2, 1) := by decide +kernel
theorem k_fn_gauge_53 : decode me_fn_gauge.2.1 53 = .ok (.putfield 235, 3) := by decide +kernel
theorem k_fn_gauge_56 : decode me_fn_gauge.2.1 56 = .ok (.iload 4, 2) := by decide +kernel
theorem k_fn_gauge_58 : decode me_fn_gauge.2.1 58 = .ok (.ireturn, 1) := by decide +kernel
theorem k_fn_tol_0 : decode me_fn_tol.2.1 0 = .ok (.iload_n 1, 1) := by decide +kernel
theorem k_fn_tol_1 : decode me_fn_tol.2.1 1 = .ok (.ifCond .ge 10, 3) := by decide +kernel
theorem k_fn_tol_4 : decode me_fn_tol.2.1 4 = .ok (.aload_n 0, 1) := by decide +kernel
theorem k_fn_tol_5 : decode me_fn_tol.2.1 5 = .ok (.bipush (-4), 2) := by decide +kernel
theorem k_fn_tol_7 : decode me_fn_tol.2.1 7 = .ok (.invokevirtual 56, 3) := by decide +kernel
theorem k_fn_tol_10 : decode me_fn_tol.2.1 10 = .ok (.ireturn, 1) := by decide +kernel
theorem k_fn_tol_11 : decode me_fn_tol.2.1 11 = .ok (.iload_n 1, 1) := by decide +kernel
theorem k_fn_tol_12 : decode me_fn_tol.2.1 12 = .ok (.bipush 50, 2) := by decide +kernel
theorem k_fn_tol_14 : decode me_fn_tol.2.1 14 = .ok (.if_icmp .le 10, 3) := by decide +kernel
theorem k_fn_tol_17 : decode me_fn_tol.2.1 17 = .ok (.aload_n 0, 1) := by decide +kernel
theorem k_fn_tol_18 : decode me_fn_tol.2.1 18 = .ok (.bipush (-6), 2) := by decide +kernel
theorem k_fn_tol_20 : decode me_fn_tol.2.1 20 = .ok (.invokevirtual 56, 3) := by decide +kernel
theorem k_fn_tol_23 : decode me_fn_tol.2.1 23 = .ok (.ireturn, 1) := by decide +kernel
theorem k_fn_tol_24 : decode me_fn_tol.2.1 24 = .ok (.aload_n 0, 1) := by decide +kernel
theorem k_fn_tol_25 : decode me_fn_tol.2.1 25 = .ok (.getfield 44, 3) := by decide +kernel
theorem k_fn_tol_28 : decode me_fn_tol.2.1 28 = .ok (.getfield 238, 3) := by decide +kernel
theorem k_fn_tol_31 : decode me_fn_tol.2.1 31 = .ok (.istore_n 2, 1) := by decide +kernel
theorem k_fn_tol_32 : decode me_fn_tol.2.1 32 = .ok (.aload_n 0, 1) := by decide +kernel
theorem k_fn_tol_33 : decode me_fn_tol.2.1 33 = .ok (.getfield 44, 3) := by decide +kernel
theorem k_fn_tol_36 : decode me_fn_tol.2.1 36 = .ok (.iload_n 1, 1) := by decide +kernel
theorem k_fn_tol_37 : decode me_fn_tol.2.1 37 = .ok (.putfield 238, 3) := by decide +kernel
theorem k_fn_tol_40 : decode me_fn_tol.2.1 40 = .ok (.iload_n 2, 1) := by decide +kernel
theorem k_fn_tol_41 : decode me_fn_tol.2.1 41 = .ok (.ireturn, 1) := by decide +kernel
theorem k_fn_explain_0 : decode me_fn_explain.2.1 0 = .ok (.aload_n 0, 1) := by decide +kernel
theorem k_fn_explain_1 : decode me_fn_explain.2.1 1 = .ok (.getfield 44, 3) := by decide +kernel
theorem k_fn_explain_4 : decode me_fn_explain.2.1 4 = .ok (.invokevirtual 241, 3) := by decide +kernel
theorem k_fn_explain_7 : decode me_fn_explain.2.1 7 = .ok (.ireturn, 1) := by decide +kernel
theorem k_lk_seek_0 : decode me_lk_seek.2.1 0 = .ok (.aload_n 0, 1) := by decide +kernel
theorem k_lk_seek_1 : decode me_lk_seek.2.1 1 = .ok (.invokevirtual 15, 3) := by decide +kernel
theorem k_lk_seek_4 : decode me_lk_seek.2.1 4 = .ok (.aload_n 0, 1) := by decide +kernel
theorem k_lk_seek_5 : decode me_lk_seek.2.1 5 = .ok (.invokevirtual 18, 3) := by decide +kernel
theorem k_lk_seek_8 : decode me_lk_seek.2.1 8 = .ok (.ifCond .ne 5, 3) := by decide +kernel
theorem k_lk_seek_11 : decode me_lk_seek.2.1 11 = .ok (.iconst 4, 1) := by decide +kernel
theorem k_lk_seek_12 : decode me_lk_seek.2.1 12 = .ok (.ireturn, 1) := by decide +kernel
theorem k_lk_seek_13 : decode me_lk_seek.2.1 13 = .ok (.aload_n 0, 1) := by decide +kernel
theorem k_lk_seek_14 : decode me_lk_seek.2.1 14 = .ok (.invokevirtual 22, 3) := by decide +kernel
theorem k_lk_seek_17 : decode me_lk_seek.2.1 17 = .ok (.ifCond .ne 5, 3) := by decide +kernel
theorem k_lk_seek_20 : decode me_lk_seek.2.1 20 = .ok (.iconst 0, 1) := by decide +kernel
theorem k_lk_seek_21 : decode me_lk_seek.2.1 21 = .ok (.ireturn, 1) := by decide +kernel
theorem k_lk_seek_22 : decode me_lk_seek.2.1 22 = .ok (.aload_n 0, 1) := by decide +kernel
theorem k_lk_seek_23 : decode me_lk_seek.2.1 23 = .ok (.getfield 9, 3) := by decide +kernel
theorem k_lk_seek_26 : decode me_lk_seek.2.1 26 = .ok (.getfield 26, 3) := by decide +kernel
theorem k_lk_seek_29 : decode me_lk_seek.2.1 29 = .ok (.invokevirtual 32, 3) := by decide +kernel
theorem k_lk_seek_32 : decode me_lk_seek.2.1 32 = .ok (.istore_n 1, 1) := by decide +kernel
theorem k_lk_seek_33 : decode me_lk_seek.2.1 33 = .ok (.iconst 0, 1) := by decide +kernel
theorem k_lk_seek_34 : decode me_lk_seek.2.1 34 = .ok (.istore_n 2, 1) := by decide +kernel
theorem k_lk_seek_35 : decode me_lk_seek.2.1 35 = .ok (.iload_n 2, 1) := by decide +kernel
theorem k_lk_seek_36 : decode me_lk_seek.2.1 36 = .ok (.iload_n 1, 1) := by decide +kernel
theorem k_lk_seek_37 : decode me_lk_seek.2.1 37 = .ok (.if_icmp .ge 32, 3) := by decide +kernel
theorem k_lk_seek_40 : decode me_lk_seek.2.1 40 = .ok (.aload_n 0, 1) := by decide +kernel
theorem k_lk_seek_41 : decode me_lk_seek.2.1 41 = .ok (.aload_n 0, 1) := by decide +kernel
theorem k_lk_seek_42 : decode me_lk_seek.2.1 42 = .ok (.getfield 9, 3) := by decide +kernel
theorem k_lk_seek_45 : decode me_lk_seek.2.1 45 = .ok (.getfield 26, 3) := by decide +kernel
theorem k_lk_seek_48 : decode me_lk_seek.2.1 48 = .ok (.iload_n 2, 1) := by decide +kernel
theorem k_lk_seek_49 : decode me_lk_seek.2.1 49 = .ok (.invokevirtual 37, 3) := by decide +kernel
theorem k_lk_seek_52 : decode me_lk_seek.2.1 52 = .ok (.checkcast 41, 3) := by decide +kernel
theorem k_lk_seek_55 : decode me_lk_seek.2.1 55 = .ok (.invokevirtual 43, 3) := by decide +kernel
theorem k_lk_seek_58 : decode me_lk_seek.2.1 58 = .ok (.ifCond .eq 5, 3) := by decide +kernel
theorem k_lk_seek_61 : decode me_lk_seek.2.1 61 = .ok (.iconst 1, 1) := by decide +kernel
theorem k_lk_seek_62 : decode me_lk_seek.2.1 62 = .ok (.ireturn, 1) := by decide +kernel
theorem k_lk_seek_63 : decode me_lk_seek.2.1 63 = .ok (.iinc 2 1, 3) := by decide +kernel
theorem k_lk_seek_66 : decode me_lk_seek.2.1 66 = .ok (.goto (-31), 3) := by decide +kernel
theorem k_lk_seek_69 : decode me_lk_seek.2.1 69 = .ok (.iconst 0, 1) := by decide +kernel
theorem k_lk_seek_70 : decode me_lk_seek.2.1 70 = .ok (.istore_n 2, 1) := by decide +kernel
theorem k_lk_seek_71 : decode me_lk_seek.2.1 71 = .ok (.iload_n 2, 1) := by decide +kernel
theorem k_lk_seek_72 : decode me_lk_seek.2.1 72 = .ok (.iload_n 1, 1) := by decide +kernel
theorem k_lk_seek_73 : decode me_lk_seek.2.1 73 = .ok (.if_icmp .ge 61, 3) := by decide +kernel
theorem k_lk_seek_76 : decode me_lk_seek.2.1 76 = .ok (.iload_n 2, 1) := by decide +kernel
theorem k_lk_seek_77 : decode me_lk_seek.2.1 77 = .ok (.iconst 1, 1) := by decide +kernel
theorem k_lk_seek_78 : decode me_lk_seek.2.1 78 = .ok (.iadd, 1) := by decide +kernel
theorem k_lk_seek_79 : decode me_lk_seek.2.1 79 = .ok (.istore_n 3, 1) := by decide +kernel
theorem k_lk_seek_80 : decode me_lk_seek.2.1 80 = .ok (.iload_n 3, 1) := by decide +kernel
theorem k_lk_seek_81 : decode me_lk_seek.2.1 81 = .ok (.iload_n 1, 1) := by decide +kernel
theorem k_lk_seek_82 : decode me_lk_seek.2.1 82 = .ok (.if_icmp .ge 46, 3) := by decide +kernel
theorem k_lk_seek_85 : decode me_lk_seek.2.1 85 = .ok (.aload_n 0, 1) := by decide +kernel
theorem k_lk_seek_86 : decode me_lk_seek.2.1 86 = .ok (.aload_n 0, 1) := by decide +kernel
theorem k_lk_seek_87 : decode me_lk_seek.2.1 87 = .ok (.getfield 9, 3) := by decide +kernel
theorem k_lk_seek_90 : decode me_lk_seek.2.1 90 = .ok (.getfield 26, 3) := by decide +kernel
theorem k_lk_seek_93 : decode me_lk_seek.2.1 93 = .ok (.iload_n 2, 1) := by decide +kernel
theorem k_lk_seek_94 : decode me_lk_seek.2.1 94 = .ok (.invokevirtual 37, 3) := by decide +kernel
theorem k_lk_seek_97 : decode me_lk_seek.2.1 97 = .ok (.checkcast 41, 3) := by decide +kernel
theorem k_lk_seek_100 : decode me_lk_seek.2.1 100 = .ok (.aload_n 0, 1) := by decide +kernel
theorem k_lk_seek_101 : decode me_lk_seek.2.1 101 = .ok (.getfield 9, 3) := by decide +kernel
theorem k_lk_seek_104 : decode me_lk_seek.2.1 104 = .ok (.getfield 26, 3) := by decide +kernel
theorem k_lk_seek_107 : decode me_lk_seek.2.1 107 = .ok (.iload_n 3, 1) := by decide +kernel
theorem k_lk_seek_108 : decode me_lk_seek.2.1 108 = .ok (.invokevirtual 37, 3) := by decide +kernel
theorem k_lk_seek_111 : decode me_lk_seek.2.1 111 = .ok (.checkcast 41, 3) := by decide +kernel
theorem k_lk_seek_114 : decode me_lk_seek.2.1 114 = .ok (.invokevirtual 47, 3) := by decide +kernel
theorem k_lk_seek_117 : decode me_lk_seek.2.1 117 = .ok (.ifCond .eq 5, 3) := by decide +kernel
theorem k_lk_seek_120 : decode me_lk_seek.2.1 120 = .ok (.iconst 2, 1) := by decide +kernel
theorem k_lk_seek_121 : decode me_lk_seek.2.1 121 = .ok (.ireturn, 1) := by decide +kernel
theorem k_lk_seek_122 : decode me_lk_seek.2.1 122 = .ok (.iinc 3 1, 3) := by decide +kernel
theorem k_lk_seek_125 : decode me_lk_seek.2.1 125 = .ok (.goto (-45), 3) := by decide +kernel
theorem k_lk_seek_128 : decode me_lk_seek.2.1 128 = .ok (.iinc 2 1, 3) := by decide +kernel
theorem k_lk_seek_131 : decode me_lk_seek.2.1 131 = .ok (.goto (-60), 3) := by decide +kernel
theorem k_lk_seek_134 : decode me_lk_seek.2.1 134 = .ok (.iconst 3, 1) := by decide +kernel
theorem k_lk_seek_135 : decode me_lk_seek.2.1 135 = .ok (.ireturn, 1) := by decide +kernel
theorem k_lk_forgetFound_0 : decode me_lk_forgetFound.2.1 0 = .ok (.aload_n 0, 1) := by decide +kernel
theorem k_lk_forgetFound_1 : decode me_lk_forgetFound.2.1 1 = .ok (.bipush (-9), 2) := by decide +kernel
theorem k_lk_forgetFound_3 : decode me_lk_forgetFound.2.1 3 = .ok (.putfield 51, 3) := by decide +kernel
theorem k_lk_forgetFound_6 : decode me_lk_forgetFound.2.1 6 = .ok (.aload_n 0, 1) := by decide +kernel
theorem k_lk_forgetFound_7 : decode me_lk_forgetFound.2.1 7 = .ok (.bipush (-9), 2) := by decide +kernel
theorem k_lk_forgetFound_9 : decode me_lk_forgetFound.2.1 9 = .ok (.putfield 55, 3) := by decide +kernel
theorem k_lk_forgetFound_12 : decode me_lk_forgetFound.2.1 12 = .ok (.aload_n 0, 1) := by decide +kernel
theorem k_lk_forgetFound_13 : decode me_lk_forgetFound.2.1 13 = .ok (.bipush (-9), 2) := by decide +kernel
theorem k_lk_forgetFound_15 : decode me_lk_forgetFound.2.1 15 = .ok (.putfield 58, 3) := by decide +kernel
theorem k_lk_forgetFound_18 : decode me_lk_forgetFound.2.1 18 = .ok (.aload_n 0, 1) := by decide +kernel
theorem k_lk_forgetFound_19 : decode me_lk_forgetFound.2.1 19 = .ok (.bipush (-9), 2) := by decide +kernel
theorem k_lk_forgetFound_21 : decode me_lk_forgetFound.2.1 21 = .ok (.putfield 61, 3) := by decide +kernel
theorem k_lk_forgetFound_24 : decode me_lk_forgetFound.2.1 24 = .ok (.return_, 1) := by decide +kernel
theorem k_lk_isAnyRead_0 : decode me_lk_isAnyRead.2.1 0 = .ok (.iconst 0, 1) := by decide +kernel
theorem k_lk_isAnyRead_1 : decode me_lk_isAnyRead.2.1 1 = .ok (.istore_n 1, 1) := by decide +kernel
theorem k_lk_isAnyRead_2 : decode me_lk_isAnyRead.2.1 2 = .ok (.iload_n 1, 1) := by decide +kernel
theorem k_lk_isAnyRead_3 : decode me_lk_isAnyRead.2.1 3 = .ok (.aload_n 0, 1) := by decide +kernel
theorem k_lk_isAnyRead_4 : decode me_lk_isAnyRead.2.1 4 = .ok (.getfield 9, 3) := by decide +kernel
theorem k_lk_isAnyRead_7 : decode me_lk_isAnyRead.2.1 7 = .ok (.getfield 64, 3) := by decide +kernel
theorem k_lk_isAnyRead_10 : decode me_lk_isAnyRead.2.1 10 = .ok (.invokevirtual 32, 3) := by decide +kernel
theorem k_lk_isAnyRead_13 : decode me_lk_isAnyRead.2.1 13 = .ok (.if_icmp .ge 31, 3) := by decide +kernel
theorem k_lk_isAnyRead_16 : decode me_lk_isAnyRead.2.1 16 = .ok (.aload_n 0, 1) := by decide +kernel
theorem k_lk_isAnyRead_17 : decode me_lk_isAnyRead.2.1 17 = .ok (.getfield 9, 3) := by decide +kernel
theorem k_lk_isAnyRead_20 : decode me_lk_isAnyRead.2.1 20 = .ok (.getfield 64, 3) := by decide +kernel
theorem k_lk_isAnyRead_23 : decode me_lk_isAnyRead.2.1 23 = .ok (.iload_n 1, 1) := by decide +kernel
theorem k_lk_isAnyRead_24 : decode me_lk_isAnyRead.2.1 24 = .ok (.invokevirtual 37, 3) := by decide +kernel
theorem k_lk_isAnyRead_27 : decode me_lk_isAnyRead.2.1 27 = .ok (.checkcast 67, 3) := by decide +kernel
theorem k_lk_isAnyRead_30 : decode me_lk_isAnyRead.2.1 30 = .ok (.getfield 69, 3) := by decide +kernel
theorem k_lk_isAnyRead_33 : decode me_lk_isAnyRead.2.1 33 = .ok (.ifCond .lt 5, 3) := by decide +kernel
theorem k_lk_isAnyRead_36 : decode me_lk_isAnyRead.2.1 36 = .ok (.iconst 1, 1) := by decide +kernel
theorem k_lk_isAnyRead_37 : decode me_lk_isAnyRead.2.1 37 = .ok (.ireturn, 1) := by decide +kernel
theorem k_lk_isAnyRead_38 : decode me_lk_isAnyRead.2.1 38 = .ok (.iinc 1 1, 3) := by decide +kernel
theorem k_lk_isAnyRead_41 : decode me_lk_isAnyRead.2.1 41 = .ok (.goto (-39), 3) := by decide +kernel
theorem k_lk_isAnyRead_44 : decode me_lk_isAnyRead.2.1 44 = .ok (.iconst 0, 1) := by decide +kernel
theorem k_lk_isAnyRead_45 : decode me_lk_isAnyRead.2.1 45 = .ok (.ireturn, 1) := by decide +kernel
theorem k_lk_misses_0 : decode me_lk_misses.2.1 0 = .ok (.aload_n 0, 1) := by decide +kernel
theorem k_lk_misses_1 : decode me_lk_misses.2.1 1 = .ok (.getfield 9, 3) := by decide +kernel
theorem k_lk_misses_4 : decode me_lk_misses.2.1 4 = .ok (.aload_n 0, 1) := by decide +kernel
theorem k_lk_misses_5 : decode me_lk_misses.2.1 5 = .ok (.getfield 9, 3) := by decide +kernel
theorem k_lk_misses_8 : decode me_lk_misses.2.1 8 = .ok (.getfield 82, 3) := by decide +kernel
theorem k_lk_misses_11 : decode me_lk_misses.2.1 11 = .ok (.iconst 1, 1) := by decide +kernel
theorem k_lk_misses_12 : decode me_lk_misses.2.1 12 = .ok (.invokevirtual 85, 3) := by decide +kernel
theorem k_lk_misses_15 : decode me_lk_misses.2.1 15 = .ok (.iconst 0, 1) := by decide +kernel
theorem k_lk_misses_16 : decode me_lk_misses.2.1 16 = .ok (.istore_n 1, 1) := by decide +kernel
theorem k_lk_misses_17 : decode me_lk_misses.2.1 17 = .ok (.iconst 0, 1) := by decide +kernel
theorem k_lk_misses_18 : decode me_lk_misses.2.1 18 = .ok (.istore_n 2, 1) := by decide +kernel
theorem k_lk_misses_19 : decode me_lk_misses.2.1 19 = .ok (.iload_n 2, 1) := by decide +kernel
theorem k_lk_misses_20 : decode me_lk_misses.2.1 20 = .ok (.aload_n 0, 1) := by decide +kernel
theorem k_lk_misses_21 : decode me_lk_misses.2.1 21 = .ok (.getfield 9, 3) := by decide +kernel
theorem k_lk_misses_24 : decode me_lk_misses.2.1 24 = .ok (.getfield 64, 3) := by decide +kernel
theorem k_lk_misses_27 : decode me_lk_misses.2.1 27 = .ok (.invokevirtual 32, 3) := by decide +kernel
theorem k_lk_misses_30 : decode me_lk_misses.2.1 30 = .ok (.if_icmp .ge 90, 3) := by decide +kernel
theorem k_lk_misses_33 : decode me_lk_misses.2.1 33 = .ok (.aload_n 0, 1) := by decide +kernel
theorem k_lk_misses_34 : decode me_lk_misses.2.1 34 = .ok (.getfield 9, 3) := by decide +kernel
theorem k_lk_misses_37 : decode me_lk_misses.2.1 37 = .ok (.getfield 64, 3) := by decide +kernel
theorem k_lk_misses_40 : decode me_lk_misses.2.1 40 = .ok (.iload_n 2, 1) := by decide +kernel
theorem k_lk_misses_41 : decode me_lk_misses.2.1 41 = .ok (.invokevirtual 37, 3) := by decide +kernel
theorem k_lk_misses_44 : decode me_lk_misses.2.1 44 = .ok (.checkcast 67, 3) := by decide +kernel
theorem k_lk_misses_47 : decode me_lk_misses.2.1 47 = .ok (.astore_n 3, 1) := by decide +kernel
theorem k_lk_misses_48 : decode me_lk_misses.2.1 48 = .ok (.aload_n 3, 1) := by decide +kernel
theorem k_lk_misses_49 : decode me_lk_misses.2.1 49 = .ok (.getfield 69, 3) := by decide +kernel
theorem k_lk_misses_52 : decode me_lk_misses.2.1 52 = .ok (.ifCond .lt 62, 3) := by decide +kernel
theorem k_lk_misses_55 : decode me_lk_misses.2.1 55 = .ok (.aload_n 3, 1) := by decide +kernel
theorem k_lk_misses_56 : decode me_lk_misses.2.1 56 = .ok (.aload_n 0, 1) := by decide +kernel
theorem k_lk_misses_57 : decode me_lk_misses.2.1 57 = .ok (.getfield 9, 3) := by decide +kernel
theorem k_lk_misses_60 : decode me_lk_misses.2.1 60 = .ok (.getfield 82, 3) := by decide +kernel
theorem k_lk_misses_63 : decode me_lk_misses.2.1 63 = .ok (.aload_n 3, 1) := by decide +kernel
theorem k_lk_misses_64 : decode me_lk_misses.2.1 64 = .ok (.getfield 89, 3) := by decide +kernel
theorem k_lk_misses_67 : decode me_lk_misses.2.1 67 = .ok (.getfield 93, 3) := by decide +kernel
theorem k_lk_misses_70 : decode me_lk_misses.2.1 70 = .ok (.getfield 97, 3) := by decide +kernel
theorem k_lk_misses_73 : decode me_lk_misses.2.1 73 = .ok (.invokevirtual 102, 3) := by decide +kernel
theorem k_lk_misses_76 : decode me_lk_misses.2.1 76 = .ok (.aload_n 3, 1) := by decide +kernel
theorem k_lk_misses_77 : decode me_lk_misses.2.1 77 = .ok (.getfield 69, 3) := by decide +kernel
theorem k_lk_misses_80 : decode me_lk_misses.2.1 80 = .ok (.isub, 1) := by decide +kernel
theorem k_lk_misses_81 : decode me_lk_misses.2.1 81 = .ok (.istore 4, 2) := by decide +kernel
theorem k_lk_misses_83 : decode me_lk_misses.2.1 83 = .ok (.iload_n 1, 1) := by decide +kernel
theorem k_lk_misses_84 : decode me_lk_misses.2.1 84 = .ok (.iload 4, 2) := by decide +kernel
theorem k_lk_misses_86 : decode me_lk_misses.2.1 86 = .ok (.aload_n 0, 1) := by decide +kernel
theorem k_lk_misses_87 : decode me_lk_misses.2.1 87 = .ok (.getfield 106, 3) := by decide +kernel
theorem k_lk_misses_90 : decode me_lk_misses.2.1 90 = .ok (.if_icmp .le 7, 3) := by decide +kernel
theorem k_lk_misses_93 : decode me_lk_misses.2.1 93 = .ok (.iconst 2, 1) := by decide +kernel
theorem k_lk_misses_94 : decode me_lk_misses.2.1 94 = .ok (.goto 18, 3) := by decide +kernel
theorem k_lk_misses_97 : decode me_lk_misses.2.1 97 = .ok (.iload 4, 2) := by decide +kernel
theorem k_lk_misses_99 : decode me_lk_misses.2.1 99 = .ok (.aload_n 0, 1) := by decide +kernel
theorem k_lk_misses_100 : decode me_lk_misses.2.1 100 = .ok (.getfield 106, 3) := by decide +kernel
theorem k_lk_misses_103 : decode me_lk_misses.2.1 103 = .ok (.ineg, 1) := by decide +kernel
theorem k_lk_misses_104 : decode me_lk_misses.2.1 104 = .ok (.if_icmp .ge 7, 3) := by decide +kernel
theorem k_lk_misses_107 : decode me_lk_misses.2.1 107 = .ok (.iconst 1, 1) := by decide +kernel
theorem k_lk_misses_108 : decode me_lk_misses.2.1 108 = .ok (.goto 4, 3) := by decide +kernel
theorem k_lk_misses_111 : decode me_lk_misses.2.1 111 = .ok (.iconst 0, 1) := by decide +kernel
theorem k_lk_misses_112 : decode me_lk_misses.2.1 112 = .ok (.ior, 1) := by decide +kernel
theorem k_lk_misses_113 : decode me_lk_misses.2.1 113 = .ok (.istore_n 1, 1) := by decide +kernel
theorem k_lk_misses_114 : decode me_lk_misses.2.1 114 = .ok (.iinc 2 1, 3) := by decide +kernel
theorem k_lk_misses_117 : decode me_lk_misses.2.1 117 = .ok (.goto (-98), 3) := by decide +kernel
theorem k_lk_misses_120 : decode me_lk_misses.2.1 120 = .ok (.iload_n 1, 1) := by decide +kernel
theorem k_lk_misses_121 : decode me_lk_misses.2.1 121 = .ok (.ireturn, 1) := by decide +kernel
theorem k_lk_explainsAlone_0 : decode me_lk_explainsAlone.2.1 0 = .ok (.iconst 0, 1) := by decide +kernel
theorem k_lk_explainsAlone_1 : decode me_lk_explainsAlone.2.1 1 = .ok (.istore_n 2, 1) := by decide +kernel
theorem k_lk_explainsAlone_2 : decode me_lk_explainsAlone.2.1 2 = .ok (.iconst 0, 1) := by decide +kernel
theorem k_lk_explainsAlone_3 : decode me_lk_explainsAlone.2.1 3 = .ok (.istore_n 3, 1) := by decide +kernel
theorem k_lk_explainsAlone_4 : decode me_lk_explainsAlone.2.1 4 = .ok (.iconst 1, 1) := by decide +kernel
theorem k_lk_explainsAlone_5 : decode me_lk_explainsAlone.2.1 5 = .ok (.istore 4, 2) := by decide +kernel
theorem k_lk_explainsAlone_7 : decode me_lk_explainsAlone.2.1 7 = .ok (.iload 4, 2) := by decide +kernel
theorem k_lk_explainsAlone_9 : decode me_lk_explainsAlone.2.1 9 = .ok (.bipush 60, 2) := by decide +kernel
theorem k_lk_explainsAlone_11 : decode me_lk_explainsAlone.2.1 11 = .ok (.if_icmp .gt 53, 3) := by decide +kernel
theorem k_lk_explainsAlone_14 : decode me_lk_explainsAlone.2.1 14 = .ok (.iload_n 2, 1) := by decide +kernel
theorem k_lk_explainsAlone_15 : decode me_lk_explainsAlone.2.1 15 = .ok (.ifCond .ne 49, 3) := by decide +kernel
theorem k_lk_explainsAlone_18 : decode me_lk_explainsAlone.2.1 18 = .ok (.iload_n 3, 1) := by decide +kernel
theorem k_lk_explainsAlone_19 : decode me_lk_explainsAlone.2.1 19 = .ok (.ifCond .ne 45, 3) := by decide +kernel
theorem k_lk_explainsAlone_22 : decode me_lk_explainsAlone.2.1 22 = .ok (.aload_n 1, 1) := by decide +kernel
theorem k_lk_explainsAlone_23 : decode me_lk_explainsAlone.2.1 23 = .ok (.iload 4, 2) := by decide +kernel
theorem k_lk_explainsAlone_25 : decode me_lk_explainsAlone.2.1 25 = .ok (.putfield 72, 3) := by decide +kernel
theorem k_lk_explainsAlone_28 : decode me_lk_explainsAlone.2.1 28 = .ok (.aload_n 0, 1) := by decide +kernel
theorem k_lk_explainsAlone_29 : decode me_lk_explainsAlone.2.1 29 = .ok (.invokevirtual 22, 3) := by decide +kernel
theorem k_lk_explainsAlone_32 : decode me_lk_explainsAlone.2.1 32 = .ok (.istore 5, 2) := by decide +kernel
theorem k_lk_explainsAlone_34 : decode me_lk_explainsAlone.2.1 34 = .ok (.iload 5, 2) := by decide +kernel
theorem k_lk_explainsAlone_36 : decode me_lk_explainsAlone.2.1 36 = .ok (.iconst 1, 1) := by decide +kernel
theorem k_lk_explainsAlone_37 : decode me_lk_explainsAlone.2.1 37 = .ok (.iand, 1) := by decide +kernel
theorem k_lk_explainsAlone_38 : decode me_lk_explainsAlone.2.1 38 = .ok (.ifCond .eq 7, 3) := by decide +kernel
theorem k_lk_explainsAlone_41 : decode me_lk_explainsAlone.2.1 41 = .ok (.iconst 1, 1) := by decide +kernel
theorem k_lk_explainsAlone_42 : decode me_lk_explainsAlone.2.1 42 = .ok (.goto 4, 3) := by decide +kernel
theorem k_lk_explainsAlone_45 : decode me_lk_explainsAlone.2.1 45 = .ok (.iconst 0, 1) := by decide +kernel
theorem k_lk_explainsAlone_46 : decode me_lk_explainsAlone.2.1 46 = .ok (.istore_n 3, 1) := by decide +kernel
theorem k_lk_explainsAlone_47 : decode me_lk_explainsAlone.2.1 47 = .ok (.iload 5, 2) := by decide +kernel
theorem k_lk_explainsAlone_49 : decode me_lk_explainsAlone.2.1 49 = .ok (.ifCond .ne 7, 3) := by decide +kernel
theorem k_lk_explainsAlone_52 : decode me_lk_explainsAlone.2.1 52 = .ok (.iconst 1, 1) := by decide +kernel
theorem k_lk_explainsAlone_53 : decode me_lk_explainsAlone.2.1 53 = .ok (.goto 4, 3) := by decide +kernel
theorem k_lk_explainsAlone_56 : decode me_lk_explainsAlone.2.1 56 = .ok (.iconst 0, 1) := by decide +kernel
theorem k_lk_explainsAlone_57 : decode me_lk_explainsAlone.2.1 57 = .ok (.istore_n 2, 1) := by decide +kernel
theorem k_lk_explainsAlone_58 : decode me_lk_explainsAlone.2.1 58 = .ok (.iinc 4 1, 3) := by decide +kernel
theorem k_lk_explainsAlone_61 : decode me_lk_explainsAlone.2.1 61 = .ok (.goto (-54), 3) := by decide +kernel
theorem k_lk_explainsAlone_64 : decode me_lk_explainsAlone.2.1 64 = .ok (.iload_n 2, 1) := by decide +kernel
theorem k_lk_explainsAlone_65 : decode me_lk_explainsAlone.2.1 65 = .ok (.ifCond .eq 19, 3) := by decide +kernel
theorem k_lk_explainsAlone_68 : decode me_lk_explainsAlone.2.1 68 = .ok (.aload_n 0, 1) := by decide +kernel
theorem k_lk_explainsAlone_69 : decode me_lk_explainsAlone.2.1 69 = .ok (.aload_n 1, 1) := by decide +kernel
theorem k_lk_explainsAlone_70 : decode me_lk_explainsAlone.2.1 70 = .ok (.getfield 75, 3) := by decide +kernel
theorem k_lk_explainsAlone_73 : decode me_lk_explainsAlone.2.1 73 = .ok (.putfield 51, 3) := by decide +kernel
theorem k_lk_explainsAlone_76 : decode me_lk_explainsAlone.2.1 76 = .ok (.aload_n 0, 1) := by decide +kernel
theorem k_lk_explainsAlone_77 : decode me_lk_explainsAlone.2.1 77 = .ok (.aload_n 1, 1) := by decide +kernel
theorem k_lk_explainsAlone_78 : decode me_lk_explainsAlone.2.1 78 = .ok (.getfield 72, 3) := by decide +kernel
theorem k_lk_explainsAlone_81 : decode me_lk_explainsAlone.2.1 81 = .ok (.putfield 55, 3) := by decide +kernel
theorem k_lk_explainsAlone_84 : decode me_lk_explainsAlone.2.1 84 = .ok (.aload_n 1, 1) := by decide +kernel
theorem k_lk_explainsAlone_85 : decode me_lk_explainsAlone.2.1 85 = .ok (.iconst 0, 1) := by decide +kernel
theorem k_lk_explainsAlone_86 : decode me_lk_explainsAlone.2.1 86 = .ok (.putfield 72, 3) := by decide +kernel
theorem k_lk_explainsAlone_89 : decode me_lk_explainsAlone.2.1 89 = .ok (.iload_n 2, 1) := by decide +kernel
theorem k_lk_explainsAlone_90 : decode me_lk_explainsAlone.2.1 90 = .ok (.ireturn, 1) := by decide +kernel
theorem k_lk_explainTogether_0 : decode me_lk_explainTogether.2.1 0 = .ok (.aload_n 1, 1) := by decide +kernel
theorem k_lk_explainTogether_1 : decode me_lk_explainTogether.2.1 1 = .ok (.bipush 12, 2) := by decide +kernel
theorem k_lk_explainTogether_3 : decode me_lk_explainTogether.2.1 3 = .ok (.putfield 72, 3) := by decide +kernel
theorem k_lk_explainTogether_6 : decode me_lk_explainTogether.2.1 6 = .ok (.aload_n 2, 1) := by decide +kernel
theorem k_lk_explainTogether_7 : decode me_lk_explainTogether.2.1 7 = .ok (.bipush 12, 2) := by decide +kernel
theorem k_lk_explainTogether_9 : decode me_lk_explainTogether.2.1 9 = .ok (.putfield 72, 3) := by decide +kernel
theorem k_lk_explainTogether_12 : decode me_lk_explainTogether.2.1 12 = .ok (.aload_n 0, 1) := by decide +kernel
theorem k_lk_explainTogether_13 : decode me_lk_explainTogether.2.1 13 = .ok (.invokevirtual 22, 3) := by decide +kernel
theorem k_lk_explainTogether_16 : decode me_lk_explainTogether.2.1 16 = .ok (.iconst 2, 1) := by decide +kernel
theorem k_lk_explainTogether_17 : decode me_lk_explainTogether.2.1 17 = .ok (.iand, 1) := by decide +kernel
theorem k_lk_explainTogether_18 : decode me_lk_explainTogether.2.1 18 = .ok (.ifCond .eq 7, 3) := by decide +kernel
theorem k_lk_explainTogether_21 : decode me_lk_explainTogether.2.1 21 = .ok (.iconst 1, 1) := by decide +kernel
theorem k_lk_explainTogether_22 : decode me_lk_explainTogether.2.1 22 = .ok (.goto 4, 3) := by decide +kernel
theorem k_lk_explainTogether_25 : decode me_lk_explainTogether.2.1 25 = .ok (.iconst 0, 1) := by decide +kernel
theorem k_lk_explainTogether_26 : decode me_lk_explainTogether.2.1 26 = .ok (.istore_n 3, 1) := by decide +kernel
theorem k_lk_explainTogether_27 : decode me_lk_explainTogether.2.1 27 = .ok (.iconst 0, 1) := by decide +kernel
theorem k_lk_explainTogether_28 : decode me_lk_explainTogether.2.1 28 = .ok (.istore 4, 2) := by decide +kernel
theorem k_lk_explainTogether_30 : decode me_lk_explainTogether.2.1 30 = .ok (.iconst 1, 1) := by decide +kernel
theorem k_lk_explainTogether_31 : decode me_lk_explainTogether.2.1 31 = .ok (.istore 5, 2) := by decide +kernel
theorem k_lk_explainTogether_33 : decode me_lk_explainTogether.2.1 33 = .ok (.iload 5, 2) := by decide +kernel
theorem k_lk_explainTogether_35 : decode me_lk_explainTogether.2.1 35 = .ok (.bipush 12, 2) := by decide +kernel
theorem k_lk_explainTogether_37 : decode me_lk_explainTogether.2.1 37 = .ok (.if_icmp .gt 91, 3) := by decide +kernel
theorem k_lk_explainTogether_40 : decode me_lk_explainTogether.2.1 40 = .ok (.iload 4, 2) := by decide +kernel
theorem k_lk_explainTogether_42 : decode me_lk_explainTogether.2.1 42 = .ok (.ifCond .ne 86, 3) := by decide +kernel
theorem k_lk_explainTogether_45 : decode me_lk_explainTogether.2.1 45 = .ok (.iload_n 3, 1) := by decide +kernel
theorem k_lk_explainTogether_46 : decode me_lk_explainTogether.2.1 46 = .ok (.ifCond .ne 82, 3) := by decide +kernel
theorem k_lk_explainTogether_49 : decode me_lk_explainTogether.2.1 49 = .ok (.aload_n 1, 1) := by decide +kernel
theorem k_lk_explainTogether_50 : decode me_lk_explainTogether.2.1 50 = .ok (.iload 5, 2) := by decide +kernel
theorem k_lk_explainTogether_52 : decode me_lk_explainTogether.2.1 52 = .ok (.putfield 72, 3) := by decide +kernel
theorem k_lk_explainTogether_55 : decode me_lk_explainTogether.2.1 55 = .ok (.iconst 0, 1) := by decide +kernel
theorem k_lk_explainTogether_56 : decode me_lk_explainTogether.2.1 56 = .ok (.istore 6, 2) := by decide +kernel
theorem k_lk_explainTogether_58 : decode me_lk_explainTogether.2.1 58 = .ok (.iconst 1, 1) := by decide +kernel
theorem k_lk_explainTogether_59 : decode me_lk_explainTogether.2.1 59 = .ok (.istore 7, 2) := by decide +kernel
theorem k_lk_explainTogether_61 : decode me_lk_explainTogether.2.1 61 = .ok (.iload 7, 2) := by decide +kernel
theorem k_lk_explainTogether_63 : decode me_lk_explainTogether.2.1 63 = .ok (.bipush 12, 2) := by decide +kernel
theorem k_lk_explainTogether_65 : decode me_lk_explainTogether.2.1 65 = .ok (.if_icmp .gt 57, 3) := by decide +kernel
theorem k_lk_explainTogether_68 : decode me_lk_explainTogether.2.1 68 = .ok (.iload 4, 2) := by decide +kernel
theorem k_lk_explainTogether_70 : decode me_lk_explainTogether.2.1 70 = .ok (.ifCond .ne 52, 3) := by decide +kernel
theorem k_lk_explainTogether_73 : decode me_lk_explainTogether.2.1 73 = .ok (.iload 6, 2) := by decide +kernel
theorem k_lk_explainTogether_75 : decode me_lk_explainTogether.2.1 75 = .ok (.ifCond .ne 47, 3) := by decide +kernel
theorem k_lk_explainTogether_78 : decode me_lk_explainTogether.2.1 78 = .ok (.aload_n 2, 1) := by decide +kernel
theorem k_lk_explainTogether_79 : decode me_lk_explainTogether.2.1 79 = .ok (.iload 7, 2) := by decide +kernel
theorem k_lk_explainTogether_81 : decode me_lk_explainTogether.2.1 81 = .ok (.putfield 72, 3) := by decide +kernel
theorem k_lk_explainTogether_84 : decode me_lk_explainTogether.2.1 84 = .ok (.aload_n 0, 1) := by decide +kernel
theorem k_lk_explainTogether_85 : decode me_lk_explainTogether.2.1 85 = .ok (.invokevirtual 22, 3) := by decide +kernel
theorem k_lk_explainTogether_88 : decode me_lk_explainTogether.2.1 88 = .ok (.istore 8, 2) := by decide +kernel
theorem k_lk_explainTogether_90 : decode me_lk_explainTogether.2.1 90 = .ok (.iload 8, 2) := by decide +kernel
theorem k_lk_explainTogether_92 : decode me_lk_explainTogether.2.1 92 = .ok (.iconst 1, 1) := by decide +kernel
theorem k_lk_explainTogether_93 : decode me_lk_explainTogether.2.1 93 = .ok (.iand, 1) := by decide +kernel
theorem k_lk_explainTogether_94 : decode me_lk_explainTogether.2.1 94 = .ok (.ifCond .eq 7, 3) := by decide +kernel
theorem k_lk_explainTogether_97 : decode me_lk_explainTogether.2.1 97 = .ok (.iconst 1, 1) := by decide +kernel
theorem k_lk_explainTogether_98 : decode me_lk_explainTogether.2.1 98 = .ok (.goto 4, 3) := by decide +kernel
theorem k_lk_explainTogether_101 : decode me_lk_explainTogether.2.1 101 = .ok (.iconst 0, 1) := by decide +kernel
theorem k_lk_explainTogether_102 : decode me_lk_explainTogether.2.1 102 = .ok (.istore 6, 2) := by decide +kernel
theorem k_lk_explainTogether_104 : decode me_lk_explainTogether.2.1 104 = .ok (.iload 8, 2) := by decide +kernel
theorem k_lk_explainTogether_106 : decode me_lk_explainTogether.2.1 106 = .ok (.ifCond .ne 7, 3) := by decide +kernel
theorem k_lk_explainTogether_109 : decode me_lk_explainTogether.2.1 109 = .ok (.iconst 1, 1) := by decide +kernel
theorem k_lk_explainTogether_110 : decode me_lk_explainTogether.2.1 110 = .ok (.goto 4, 3) := by decide +kernel
theorem k_lk_explainTogether_113 : decode me_lk_explainTogether.2.1 113 = .ok (.iconst 0, 1) := by decide +kernel
theorem k_lk_explainTogether_114 : decode me_lk_explainTogether.2.1 114 = .ok (.istore 4, 2) := by decide +kernel
theorem k_lk_explainTogether_116 : decode me_lk_explainTogether.2.1 116 = .ok (.iinc 7 1, 3) := by decide +kernel
theorem k_lk_explainTogether_119 : decode me_lk_explainTogether.2.1 119 = .ok (.goto (-58), 3) := by decide +kernel
theorem k_lk_explainTogether_122 : decode me_lk_explainTogether.2.1 122 = .ok (.iinc 5 1, 3) := by decide +kernel
theorem k_lk_explainTogether_125 : decode me_lk_explainTogether.2.1 125 = .ok (.goto (-92), 3) := by decide +kernel
theorem k_lk_explainTogether_128 : decode me_lk_explainTogether.2.1 128 = .ok (.iload 4, 2) := by decide +kernel
theorem k_lk_explainTogether_130 : decode me_lk_explainTogether.2.1 130 = .ok (.ifCond .eq 9, 3) := by decide +kernel
theorem k_lk_explainTogether_133 : decode me_lk_explainTogether.2.1 133 = .ok (.aload_n 0, 1) := by decide +kernel
theorem k_lk_explainTogether_134 : decode me_lk_explainTogether.2.1 134 = .ok (.aload_n 1, 1) := by decide +kernel
theorem k_lk_explainTogether_135 : decode me_lk_explainTogether.2.1 135 = .ok (.aload_n 2, 1) := by decide +kernel
theorem k_lk_explainTogether_136 : decode me_lk_explainTogether.2.1 136 = .ok (.invokevirtual 78, 3) := by decide +kernel
theorem k_lk_explainTogether_139 : decode me_lk_explainTogether.2.1 139 = .ok (.aload_n 1, 1) := by decide +kernel
theorem k_lk_explainTogether_140 : decode me_lk_explainTogether.2.1 140 = .ok (.iconst 0, 1) := by decide +kernel
theorem k_lk_explainTogether_141 : decode me_lk_explainTogether.2.1 141 = .ok (.putfield 72, 3) := by decide +kernel
theorem k_lk_explainTogether_144 : decode me_lk_explainTogether.2.1 144 = .ok (.aload_n 2, 1) := by decide +kernel
theorem k_lk_explainTogether_145 : decode me_lk_explainTogether.2.1 145 = .ok (.iconst 0, 1) := by decide +kernel
theorem k_lk_explainTogether_146 : decode me_lk_explainTogether.2.1 146 = .ok (.putfield 72, 3) := by decide +kernel
theorem k_lk_explainTogether_149 : decode me_lk_explainTogether.2.1 149 = .ok (.iload 4, 2) := by decide +kernel
theorem k_lk_explainTogether_151 : decode me_lk_explainTogether.2.1 151 = .ok (.ireturn, 1) := by decide +kernel
theorem k_lk_keepTwo_0 : decode me_lk_keepTwo.2.1 0 = .ok (.aload_n 0, 1) := by decide +kernel
theorem k_lk_keepTwo_1 : decode me_lk_keepTwo.2.1 1 = .ok (.aload_n 1, 1) := by decide +kernel
theorem k_lk_keepTwo_2 : decode me_lk_keepTwo.2.1 2 = .ok (.getfield 75, 3) := by decide +kernel
theorem k_lk_keepTwo_5 : decode me_lk_keepTwo.2.1 5 = .ok (.putfield 51, 3) := by decide +kernel
theorem k_lk_keepTwo_8 : decode me_lk_keepTwo.2.1 8 = .ok (.aload_n 0, 1) := by decide +kernel
theorem k_lk_keepTwo_9 : decode me_lk_keepTwo.2.1 9 = .ok (.aload_n 1, 1) := by decide +kernel
theorem k_lk_keepTwo_10 : decode me_lk_keepTwo.2.1 10 = .ok (.getfield 72, 3) := by decide +kernel
theorem k_lk_keepTwo_13 : decode me_lk_keepTwo.2.1 13 = .ok (.putfield 55, 3) := by decide +kernel
theorem k_lk_keepTwo_16 : decode me_lk_keepTwo.2.1 16 = .ok (.aload_n 0, 1) := by decide +kernel
theorem k_lk_keepTwo_17 : decode me_lk_keepTwo.2.1 17 = .ok (.aload_n 2, 1) := by decide +kernel
theorem k_lk_keepTwo_18 : decode me_lk_keepTwo.2.1 18 = .ok (.getfield 75, 3) := by decide +kernel
theorem k_lk_keepTwo_21 : decode me_lk_keepTwo.2.1 21 = .ok (.putfield 58, 3) := by decide +kernel
theorem k_lk_keepTwo_24 : decode me_lk_keepTwo.2.1 24 = .ok (.aload_n 0, 1) := by decide +kernel
theorem k_lk_keepTwo_25 : decode me_lk_keepTwo.2.1 25 = .ok (.aload_n 2, 1) := by decide +kernel
theorem k_lk_keepTwo_26 : decode me_lk_keepTwo.2.1 26 = .ok (.getfield 72, 3) := by decide +kernel
theorem k_lk_keepTwo_29 : decode me_lk_keepTwo.2.1 29 = .ok (.putfield 61, 3) := by decide +kernel
theorem k_lk_keepTwo_32 : decode me_lk_keepTwo.2.1 32 = .ok (.return_, 1) := by decide +kernel
theorem k_fn_explained_0 : decode me_fn_explained.2.1 0 = .ok (.iload_n 1, 1) := by decide +kernel
theorem k_fn_explained_1 : decode me_fn_explained.2.1 1 = .ok (.ifCond .lt 8, 3) := by decide +kernel
theorem k_fn_explained_4 : decode me_fn_explained.2.1 4 = .ok (.iload_n 1, 1) := by decide +kernel
theorem k_fn_explained_5 : decode me_fn_explained.2.1 5 = .ok (.iconst 3, 1) := by decide +kernel
theorem k_fn_explained_6 : decode me_fn_explained.2.1 6 = .ok (.if_icmp .le 10, 3) := by decide +kernel
theorem k_fn_explained_9 : decode me_fn_explained.2.1 9 = .ok (.aload_n 0, 1) := by decide +kernel
theorem k_fn_explained_10 : decode me_fn_explained.2.1 10 = .ok (.bipush (-2), 2) := by decide +kernel
theorem k_fn_explained_12 : decode me_fn_explained.2.1 12 = .ok (.invokevirtual 56, 3) := by decide +kernel
theorem k_fn_explained_15 : decode me_fn_explained.2.1 15 = .ok (.ireturn, 1) := by decide +kernel
theorem k_fn_explained_16 : decode me_fn_explained.2.1 16 = .ok (.aload_n 0, 1) := by decide +kernel
theorem k_fn_explained_17 : decode me_fn_explained.2.1 17 = .ok (.getfield 44, 3) := by decide +kernel
theorem k_fn_explained_20 : decode me_fn_explained.2.1 20 = .ok (.invokevirtual 241, 3) := by decide +kernel
theorem k_fn_explained_23 : decode me_fn_explained.2.1 23 = .ok (.pop, 1) := by decide +kernel
theorem k_fn_explained_24 : decode me_fn_explained.2.1 24 = .ok (.iload_n 1, 1) := by decide +kernel
theorem k_fn_explained_25 : decode me_fn_explained.2.1 25 = .ok (.tableswitch 51 0 2 #[27, 35, 43], 27) := by decide +kernel
theorem k_fn_explained_52 : decode me_fn_explained.2.1 52 = .ok (.aload_n 0, 1) := by decide +kernel
theorem k_fn_explained_53 : decode me_fn_explained.2.1 53 = .ok (.getfield 44, 3) := by decide +kernel
theorem k_fn_explained_56 : decode me_fn_explained.2.1 56 = .ok (.getfield 244, 3) := by decide +kernel
theorem k_fn_explained_59 : decode me_fn_explained.2.1 59 = .ok (.ireturn, 1) := by decide +kernel
theorem k_fn_explained_60 : decode me_fn_explained.2.1 60 = .ok (.aload_n 0, 1) := by decide +kernel
theorem k_fn_explained_61 : decode me_fn_explained.2.1 61 = .ok (.getfield 44, 3) := by decide +kernel
theorem k_fn_explained_64 : decode me_fn_explained.2.1 64 = .ok (.getfield 247, 3) := by decide +kernel
theorem k_fn_explained_67 : decode me_fn_explained.2.1 67 = .ok (.ireturn, 1) := by decide +kernel
theorem k_fn_explained_68 : decode me_fn_explained.2.1 68 = .ok (.aload_n 0, 1) := by decide +kernel
theorem k_fn_explained_69 : decode me_fn_explained.2.1 69 = .ok (.getfield 44, 3) := by decide +kernel
theorem k_fn_explained_72 : decode me_fn_explained.2.1 72 = .ok (.getfield 250, 3) := by decide +kernel
theorem k_fn_explained_75 : decode me_fn_explained.2.1 75 = .ok (.ireturn, 1) := by decide +kernel
theorem k_fn_explained_76 : decode me_fn_explained.2.1 76 = .ok (.aload_n 0, 1) := by decide +kernel
theorem k_fn_explained_77 : decode me_fn_explained.2.1 77 = .ok (.getfield 44, 3) := by decide +kernel
theorem k_fn_explained_80 : decode me_fn_explained.2.1 80 = .ok (.getfield 253, 3) := by decide +kernel
theorem k_fn_explained_83 : decode me_fn_explained.2.1 83 = .ok (.ireturn, 1) := by decide +kernel
theorem k_fn_rivals_0 : decode me_fn_rivals.2.1 0 = .ok (.aload_n 0, 1) := by decide +kernel
theorem k_fn_rivals_1 : decode me_fn_rivals.2.1 1 = .ok (.getfield 44, 3) := by decide +kernel
theorem k_fn_rivals_4 : decode me_fn_rivals.2.1 4 = .ok (.invokevirtual 256, 3) := by decide +kernel
theorem k_fn_rivals_7 : decode me_fn_rivals.2.1 7 = .ok (.ireturn, 1) := by decide +kernel
theorem k_lk_howManyAlone_0 : decode me_lk_howManyAlone.2.1 0 = .ok (.aload_n 0, 1) := by decide +kernel
theorem k_lk_howManyAlone_1 : decode me_lk_howManyAlone.2.1 1 = .ok (.invokevirtual 18, 3) := by decide +kernel
theorem k_lk_howManyAlone_4 : decode me_lk_howManyAlone.2.1 4 = .ok (.ifCond .ne 5, 3) := by decide +kernel
theorem k_lk_howManyAlone_7 : decode me_lk_howManyAlone.2.1 7 = .ok (.iconst 0, 1) := by decide +kernel
theorem k_lk_howManyAlone_8 : decode me_lk_howManyAlone.2.1 8 = .ok (.ireturn, 1) := by decide +kernel
theorem k_lk_howManyAlone_9 : decode me_lk_howManyAlone.2.1 9 = .ok (.iconst 0, 1) := by decide +kernel
theorem k_lk_howManyAlone_10 : decode me_lk_howManyAlone.2.1 10 = .ok (.istore_n 1, 1) := by decide +kernel
theorem k_lk_howManyAlone_11 : decode me_lk_howManyAlone.2.1 11 = .ok (.iconst 0, 1) := by decide +kernel
theorem k_lk_howManyAlone_12 : decode me_lk_howManyAlone.2.1 12 = .ok (.istore_n 2, 1) := by decide +kernel
theorem k_lk_howManyAlone_13 : decode me_lk_howManyAlone.2.1 13 = .ok (.iload_n 2, 1) := by decide +kernel
theorem k_lk_howManyAlone_14 : decode me_lk_howManyAlone.2.1 14 = .ok (.aload_n 0, 1) := by decide +kernel
theorem k_lk_howManyAlone_15 : decode me_lk_howManyAlone.2.1 15 = .ok (.getfield 9, 3) := by decide +kernel
theorem k_lk_howManyAlone_18 : decode me_lk_howManyAlone.2.1 18 = .ok (.getfield 26, 3) := by decide +kernel
theorem k_lk_howManyAlone_21 : decode me_lk_howManyAlone.2.1 21 = .ok (.invokevirtual 32, 3) := by decide +kernel
theorem k_lk_howManyAlone_24 : decode me_lk_howManyAlone.2.1 24 = .ok (.if_icmp .ge 38, 3) := by decide +kernel
theorem k_lk_howManyAlone_27 : decode me_lk_howManyAlone.2.1 27 = .ok (.iload_n 1, 1) := by decide +kernel
theorem k_lk_howManyAlone_28 : decode me_lk_howManyAlone.2.1 28 = .ok (.aload_n 0, 1) := by decide +kernel
theorem k_lk_howManyAlone_29 : decode me_lk_howManyAlone.2.1 29 = .ok (.aload_n 0, 1) := by decide +kernel
theorem k_lk_howManyAlone_30 : decode me_lk_howManyAlone.2.1 30 = .ok (.getfield 9, 3) := by decide +kernel
theorem k_lk_howManyAlone_33 : decode me_lk_howManyAlone.2.1 33 = .ok (.getfield 26, 3) := by decide +kernel
theorem k_lk_howManyAlone_36 : decode me_lk_howManyAlone.2.1 36 = .ok (.iload_n 2, 1) := by decide +kernel
theorem k_lk_howManyAlone_37 : decode me_lk_howManyAlone.2.1 37 = .ok (.invokevirtual 37, 3) := by decide +kernel
theorem k_lk_howManyAlone_40 : decode me_lk_howManyAlone.2.1 40 = .ok (.checkcast 41, 3) := by decide +kernel
theorem k_lk_howManyAlone_43 : decode me_lk_howManyAlone.2.1 43 = .ok (.invokevirtual 43, 3) := by decide +kernel
theorem k_lk_howManyAlone_46 : decode me_lk_howManyAlone.2.1 46 = .ok (.ifCond .eq 7, 3) := by decide +kernel
theorem k_lk_howManyAlone_49 : decode me_lk_howManyAlone.2.1 49 = .ok (.iconst 1, 1) := by decide +kernel
theorem k_lk_howManyAlone_50 : decode me_lk_howManyAlone.2.1 50 = .ok (.goto 4, 3) := by decide +kernel
theorem k_lk_howManyAlone_53 : decode me_lk_howManyAlone.2.1 53 = .ok (.iconst 0, 1) := by decide +kernel
theorem k_lk_howManyAlone_54 : decode me_lk_howManyAlone.2.1 54 = .ok (.iadd, 1) := by decide +kernel
theorem k_lk_howManyAlone_55 : decode me_lk_howManyAlone.2.1 55 = .ok (.istore_n 1, 1) := by decide +kernel
theorem k_lk_howManyAlone_56 : decode me_lk_howManyAlone.2.1 56 = .ok (.iinc 2 1, 3) := by decide +kernel
theorem k_lk_howManyAlone_59 : decode me_lk_howManyAlone.2.1 59 = .ok (.goto (-46), 3) := by decide +kernel
theorem k_lk_howManyAlone_62 : decode me_lk_howManyAlone.2.1 62 = .ok (.iload_n 1, 1) := by decide +kernel
theorem k_lk_howManyAlone_63 : decode me_lk_howManyAlone.2.1 63 = .ok (.ireturn, 1) := by decide +kernel
theorem k_fn_empty_0 : decode me_fn_empty.2.1 0 = .ok (.aload_n 0, 1) := by decide +kernel
theorem k_fn_empty_1 : decode me_fn_empty.2.1 1 = .ok (.getfield 12, 3) := by decide +kernel
theorem k_fn_empty_4 : decode me_fn_empty.2.1 4 = .ok (.iload_n 1, 1) := by decide +kernel
theorem k_fn_empty_5 : decode me_fn_empty.2.1 5 = .ok (.invokevirtual 89, 3) := by decide +kernel
theorem k_fn_empty_8 : decode me_fn_empty.2.1 8 = .ok (.astore_n 2, 1) := by decide +kernel
theorem k_fn_empty_9 : decode me_fn_empty.2.1 9 = .ok (.aload_n 2, 1) := by decide +kernel
theorem k_fn_empty_10 : decode me_fn_empty.2.1 10 = .ok (.ifnonnull 9, 3) := by decide +kernel
theorem k_fn_empty_13 : decode me_fn_empty.2.1 13 = .ok (.aload_n 0, 1) := by decide +kernel
theorem k_fn_empty_14 : decode me_fn_empty.2.1 14 = .ok (.iconst (-1), 1) := by decide +kernel
theorem k_fn_empty_15 : decode me_fn_empty.2.1 15 = .ok (.invokevirtual 56, 3) := by decide +kernel
theorem k_fn_empty_18 : decode me_fn_empty.2.1 18 = .ok (.ireturn, 1) := by decide +kernel
theorem k_fn_empty_19 : decode me_fn_empty.2.1 19 = .ok (.aload_n 2, 1) := by decide +kernel
theorem k_fn_empty_20 : decode me_fn_empty.2.1 20 = .ok (.getfield 100, 3) := by decide +kernel
theorem k_fn_empty_23 : decode me_fn_empty.2.1 23 = .ok (.ifCond .ne 14, 3) := by decide +kernel
theorem k_fn_empty_26 : decode me_fn_empty.2.1 26 = .ok (.aload_n 0, 1) := by decide +kernel
theorem k_fn_empty_27 : decode me_fn_empty.2.1 27 = .ok (.getfield 12, 3) := by decide +kernel
theorem k_fn_empty_30 : decode me_fn_empty.2.1 30 = .ok (.aload_n 2, 1) := by decide +kernel
theorem k_fn_empty_31 : decode me_fn_empty.2.1 31 = .ok (.invokevirtual 259, 3) := by decide +kernel
theorem k_fn_empty_34 : decode me_fn_empty.2.1 34 = .ok (.ifCond .ne 10, 3) := by decide +kernel
theorem k_fn_empty_37 : decode me_fn_empty.2.1 37 = .ok (.aload_n 0, 1) := by decide +kernel
theorem k_fn_empty_38 : decode me_fn_empty.2.1 38 = .ok (.bipush (-3), 2) := by decide +kernel
theorem k_fn_empty_40 : decode me_fn_empty.2.1 40 = .ok (.invokevirtual 56, 3) := by decide +kernel
theorem k_fn_empty_43 : decode me_fn_empty.2.1 43 = .ok (.ireturn, 1) := by decide +kernel
theorem k_fn_empty_44 : decode me_fn_empty.2.1 44 = .ok (.aload_n 2, 1) := by decide +kernel
theorem k_fn_empty_45 : decode me_fn_empty.2.1 45 = .ok (.iconst 1, 1) := by decide +kernel
theorem k_fn_empty_46 : decode me_fn_empty.2.1 46 = .ok (.putfield 100, 3) := by decide +kernel
theorem k_fn_empty_49 : decode me_fn_empty.2.1 49 = .ok (.iconst 1, 1) := by decide +kernel
theorem k_fn_empty_50 : decode me_fn_empty.2.1 50 = .ok (.ireturn, 1) := by decide +kernel
theorem k_ga_mayBeEmptied_0 : decode me_ga_mayBeEmptied.2.1 0 = .ok (.iconst 0, 1) := by decide +kernel
theorem k_ga_mayBeEmptied_1 : decode me_ga_mayBeEmptied.2.1 1 = .ok (.istore_n 2, 1) := by decide +kernel
theorem k_ga_mayBeEmptied_2 : decode me_ga_mayBeEmptied.2.1 2 = .ok (.iload_n 2, 1) := by decide +kernel
theorem k_ga_mayBeEmptied_3 : decode me_ga_mayBeEmptied.2.1 3 = .ok (.aload_n 0, 1) := by decide +kernel
theorem k_ga_mayBeEmptied_4 : decode me_ga_mayBeEmptied.2.1 4 = .ok (.getfield 18, 3) := by decide +kernel
theorem k_ga_mayBeEmptied_7 : decode me_ga_mayBeEmptied.2.1 7 = .ok (.invokevirtual 24, 3) := by decide +kernel
theorem k_ga_mayBeEmptied_10 : decode me_ga_mayBeEmptied.2.1 10 = .ok (.if_icmp .ge 38, 3) := by decide +kernel
theorem k_ga_mayBeEmptied_13 : decode me_ga_mayBeEmptied.2.1 13 = .ok (.aload_n 0, 1) := by decide +kernel
theorem k_ga_mayBeEmptied_14 : decode me_ga_mayBeEmptied.2.1 14 = .ok (.getfield 18, 3) := by decide +kernel
theorem k_ga_mayBeEmptied_17 : decode me_ga_mayBeEmptied.2.1 17 = .ok (.iload_n 2, 1) := by decide +kernel
theorem k_ga_mayBeEmptied_18 : decode me_ga_mayBeEmptied.2.1 18 = .ok (.invokevirtual 28, 3) := by decide +kernel
theorem k_ga_mayBeEmptied_21 : decode me_ga_mayBeEmptied.2.1 21 = .ok (.checkcast 34, 3) := by decide +kernel
theorem k_ga_mayBeEmptied_24 : decode me_ga_mayBeEmptied.2.1 24 = .ok (.astore_n 3, 1) := by decide +kernel
theorem k_ga_mayBeEmptied_25 : decode me_ga_mayBeEmptied.2.1 25 = .ok (.aload_n 3, 1) := by decide +kernel
theorem k_ga_mayBeEmptied_26 : decode me_ga_mayBeEmptied.2.1 26 = .ok (.getfield 73, 3) := by decide +kernel
theorem k_ga_mayBeEmptied_29 : decode me_ga_mayBeEmptied.2.1 29 = .ok (.aload_n 1, 1) := by decide +kernel
theorem k_ga_mayBeEmptied_30 : decode me_ga_mayBeEmptied.2.1 30 = .ok (.if_acmp .ne 12, 3) := by decide +kernel
theorem k_ga_mayBeEmptied_33 : decode me_ga_mayBeEmptied.2.1 33 = .ok (.aload_n 3, 1) := by decide +kernel
theorem k_ga_mayBeEmptied_34 : decode me_ga_mayBeEmptied.2.1 34 = .ok (.getfield 49, 3) := by decide +kernel
theorem k_ga_mayBeEmptied_37 : decode me_ga_mayBeEmptied.2.1 37 = .ok (.ifCond .ne 5, 3) := by decide +kernel
theorem k_ga_mayBeEmptied_40 : decode me_ga_mayBeEmptied.2.1 40 = .ok (.iconst 0, 1) := by decide +kernel
theorem k_ga_mayBeEmptied_41 : decode me_ga_mayBeEmptied.2.1 41 = .ok (.ireturn, 1) := by decide +kernel
theorem k_ga_mayBeEmptied_42 : decode me_ga_mayBeEmptied.2.1 42 = .ok (.iinc 2 1, 3) := by decide +kernel
theorem k_ga_mayBeEmptied_45 : decode me_ga_mayBeEmptied.2.1 45 = .ok (.goto (-43), 3) := by decide +kernel
theorem k_ga_mayBeEmptied_48 : decode me_ga_mayBeEmptied.2.1 48 = .ok (.aload_n 1, 1) := by decide +kernel
theorem k_ga_mayBeEmptied_49 : decode me_ga_mayBeEmptied.2.1 49 = .ok (.aload_n 0, 1) := by decide +kernel
theorem k_ga_mayBeEmptied_50 : decode me_ga_mayBeEmptied.2.1 50 = .ok (.getfield 38, 3) := by decide +kernel
theorem k_ga_mayBeEmptied_53 : decode me_ga_mayBeEmptied.2.1 53 = .ok (.invokevirtual 56, 3) := by decide +kernel
theorem k_ga_mayBeEmptied_56 : decode me_ga_mayBeEmptied.2.1 56 = .ok (.ifCond .ne 7, 3) := by decide +kernel
theorem k_ga_mayBeEmptied_59 : decode me_ga_mayBeEmptied.2.1 59 = .ok (.iconst 1, 1) := by decide +kernel
theorem k_ga_mayBeEmptied_60 : decode me_ga_mayBeEmptied.2.1 60 = .ok (.goto 4, 3) := by decide +kernel
theorem k_ga_mayBeEmptied_63 : decode me_ga_mayBeEmptied.2.1 63 = .ok (.iconst 0, 1) := by decide +kernel
theorem k_ga_mayBeEmptied_64 : decode me_ga_mayBeEmptied.2.1 64 = .ok (.ireturn, 1) := by decide +kernel
theorem k_fn_fill_0 : decode me_fn_fill.2.1 0 = .ok (.aload_n 0, 1) := by decide +kernel
theorem k_fn_fill_1 : decode me_fn_fill.2.1 1 = .ok (.getfield 12, 3) := by decide +kernel
theorem k_fn_fill_4 : decode me_fn_fill.2.1 4 = .ok (.iload_n 1, 1) := by decide +kernel
theorem k_fn_fill_5 : decode me_fn_fill.2.1 5 = .ok (.invokevirtual 89, 3) := by decide +kernel
theorem k_fn_fill_8 : decode me_fn_fill.2.1 8 = .ok (.astore_n 2, 1) := by decide +kernel
theorem k_fn_fill_9 : decode me_fn_fill.2.1 9 = .ok (.aload_n 2, 1) := by decide +kernel
theorem k_fn_fill_10 : decode me_fn_fill.2.1 10 = .ok (.ifnonnull 9, 3) := by decide +kernel
theorem k_fn_fill_13 : decode me_fn_fill.2.1 13 = .ok (.aload_n 0, 1) := by decide +kernel
theorem k_fn_fill_14 : decode me_fn_fill.2.1 14 = .ok (.iconst (-1), 1) := by decide +kernel
theorem k_fn_fill_15 : decode me_fn_fill.2.1 15 = .ok (.invokevirtual 56, 3) := by decide +kernel
theorem k_fn_fill_18 : decode me_fn_fill.2.1 18 = .ok (.ireturn, 1) := by decide +kernel
theorem k_fn_fill_19 : decode me_fn_fill.2.1 19 = .ok (.aload_n 2, 1) := by decide +kernel
theorem k_fn_fill_20 : decode me_fn_fill.2.1 20 = .ok (.getfield 100, 3) := by decide +kernel
theorem k_fn_fill_23 : decode me_fn_fill.2.1 23 = .ok (.ifCond .eq 20, 3) := by decide +kernel
theorem k_fn_fill_26 : decode me_fn_fill.2.1 26 = .ok (.aload_n 2, 1) := by decide +kernel
theorem k_fn_fill_27 : decode me_fn_fill.2.1 27 = .ok (.getfield 263, 3) := by decide +kernel
theorem k_fn_fill_30 : decode me_fn_fill.2.1 30 = .ok (.ifnull 20, 3) := by decide +kernel
theorem k_fn_fill_33 : decode me_fn_fill.2.1 33 = .ok (.aload_n 2, 1) := by decide +kernel
theorem k_fn_fill_34 : decode me_fn_fill.2.1 34 = .ok (.getfield 263, 3) := by decide +kernel
theorem k_fn_fill_37 : decode me_fn_fill.2.1 37 = .ok (.getfield 100, 3) := by decide +kernel
theorem k_fn_fill_40 : decode me_fn_fill.2.1 40 = .ok (.ifCond .eq 10, 3) := by decide +kernel
theorem k_fn_fill_43 : decode me_fn_fill.2.1 43 = .ok (.aload_n 0, 1) := by decide +kernel
theorem k_fn_fill_44 : decode me_fn_fill.2.1 44 = .ok (.bipush (-3), 2) := by decide +kernel
theorem k_fn_fill_46 : decode me_fn_fill.2.1 46 = .ok (.invokevirtual 56, 3) := by decide +kernel
theorem k_fn_fill_49 : decode me_fn_fill.2.1 49 = .ok (.ireturn, 1) := by decide +kernel
theorem k_fn_fill_50 : decode me_fn_fill.2.1 50 = .ok (.aload_n 2, 1) := by decide +kernel
theorem k_fn_fill_51 : decode me_fn_fill.2.1 51 = .ok (.iconst 0, 1) := by decide +kernel
theorem k_fn_fill_52 : decode me_fn_fill.2.1 52 = .ok (.putfield 100, 3) := by decide +kernel
theorem k_fn_fill_55 : decode me_fn_fill.2.1 55 = .ok (.iconst 1, 1) := by decide +kernel
theorem k_fn_fill_56 : decode me_fn_fill.2.1 56 = .ok (.ireturn, 1) := by decide +kernel
theorem k_fn_order_0 : decode me_fn_order.2.1 0 = .ok (.aload_n 0, 1) := by decide +kernel
theorem k_fn_order_1 : decode me_fn_order.2.1 1 = .ok (.getfield 12, 3) := by decide +kernel
theorem k_fn_order_4 : decode me_fn_order.2.1 4 = .ok (.iload_n 1, 1) := by decide +kernel
theorem k_fn_order_5 : decode me_fn_order.2.1 5 = .ok (.invokevirtual 266, 3) := by decide +kernel
theorem k_fn_order_8 : decode me_fn_order.2.1 8 = .ok (.ireturn, 1) := by decide +kernel
theorem k_ga_jointInOrder_0 : decode me_ga_jointInOrder.2.1 0 = .ok (.aload_n 0, 1) := by decide +kernel
theorem k_ga_jointInOrder_1 : decode me_ga_jointInOrder.2.1 1 = .ok (.invokevirtual 85, 3) := by decide +kernel
theorem k_ga_jointInOrder_4 : decode me_ga_jointInOrder.2.1 4 = .ok (.iconst 0, 1) := by decide +kernel
theorem k_ga_jointInOrder_5 : decode me_ga_jointInOrder.2.1 5 = .ok (.istore_n 2, 1) := by decide +kernel
theorem k_ga_jointInOrder_6 : decode me_ga_jointInOrder.2.1 6 = .ok (.iload_n 2, 1) := by decide +kernel
theorem k_ga_jointInOrder_7 : decode me_ga_jointInOrder.2.1 7 = .ok (.aload_n 0, 1) := by decide +kernel
theorem k_ga_jointInOrder_8 : decode me_ga_jointInOrder.2.1 8 = .ok (.getfield 18, 3) := by decide +kernel
theorem k_ga_jointInOrder_11 : decode me_ga_jointInOrder.2.1 11 = .ok (.invokevirtual 24, 3) := by decide +kernel
theorem k_ga_jointInOrder_14 : decode me_ga_jointInOrder.2.1 14 = .ok (.if_icmp .ge 56, 3) := by decide +kernel
theorem k_ga_jointInOrder_17 : decode me_ga_jointInOrder.2.1 17 = .ok (.aload_n 0, 1) := by decide +kernel
theorem k_ga_jointInOrder_18 : decode me_ga_jointInOrder.2.1 18 = .ok (.invokevirtual 88, 3) := by decide +kernel
theorem k_ga_jointInOrder_21 : decode me_ga_jointInOrder.2.1 21 = .ok (.astore_n 3, 1) := by decide +kernel
theorem k_ga_jointInOrder_22 : decode me_ga_jointInOrder.2.1 22 = .ok (.aload_n 3, 1) := by decide +kernel
theorem k_ga_jointInOrder_23 : decode me_ga_jointInOrder.2.1 23 = .ok (.ifnonnull 6, 3) := by decide +kernel
theorem k_ga_jointInOrder_26 : decode me_ga_jointInOrder.2.1 26 = .ok (.bipush (-9), 2) := by decide +kernel
theorem k_ga_jointInOrder_28 : decode me_ga_jointInOrder.2.1 28 = .ok (.ireturn, 1) := by decide +kernel
theorem k_ga_jointInOrder_29 : decode me_ga_jointInOrder.2.1 29 = .ok (.iload_n 2, 1) := by decide +kernel
theorem k_ga_jointInOrder_30 : decode me_ga_jointInOrder.2.1 30 = .ok (.iload_n 1, 1) := by decide +kernel
theorem k_ga_jointInOrder_31 : decode me_ga_jointInOrder.2.1 31 = .ok (.if_icmp .ne 8, 3) := by decide +kernel
theorem k_ga_jointInOrder_34 : decode me_ga_jointInOrder.2.1 34 = .ok (.aload_n 3, 1) := by decide +kernel
theorem k_ga_jointInOrder_35 : decode me_ga_jointInOrder.2.1 35 = .ok (.getfield 92, 3) := by decide +kernel
theorem k_ga_jointInOrder_38 : decode me_ga_jointInOrder.2.1 38 = .ok (.ireturn, 1) := by decide +kernel
theorem k_ga_jointInOrder_39 : decode me_ga_jointInOrder.2.1 39 = .ok (.aload_n 3, 1) := by decide +kernel
theorem k_ga_jointInOrder_40 : decode me_ga_jointInOrder.2.1 40 = .ok (.iconst 1, 1) := by decide +kernel
theorem k_ga_jointInOrder_41 : decode me_ga_jointInOrder.2.1 41 = .ok (.putfield 95, 3) := by decide +kernel
theorem k_ga_jointInOrder_44 : decode me_ga_jointInOrder.2.1 44 = .ok (.aload_n 3, 1) := by decide +kernel
theorem k_ga_jointInOrder_45 : decode me_ga_jointInOrder.2.1 45 = .ok (.getfield 73, 3) := by decide +kernel
theorem k_ga_jointInOrder_48 : decode me_ga_jointInOrder.2.1 48 = .ok (.ifnull 16, 3) := by decide +kernel
theorem k_ga_jointInOrder_51 : decode me_ga_jointInOrder.2.1 51 = .ok (.aload_n 3, 1) := by decide +kernel
theorem k_ga_jointInOrder_52 : decode me_ga_jointInOrder.2.1 52 = .ok (.getfield 73, 3) := by decide +kernel
theorem k_ga_jointInOrder_55 : decode me_ga_jointInOrder.2.1 55 = .ok (.dup, 1) := by decide +kernel
theorem k_ga_jointInOrder_56 : decode me_ga_jointInOrder.2.1 56 = .ok (.getfield 98, 3) := by decide +kernel
theorem k_ga_jointInOrder_59 : decode me_ga_jointInOrder.2.1 59 = .ok (.iconst 1, 1) := by decide +kernel
theorem k_ga_jointInOrder_60 : decode me_ga_jointInOrder.2.1 60 = .ok (.isub, 1) := by decide +kernel
theorem k_ga_jointInOrder_61 : decode me_ga_jointInOrder.2.1 61 = .ok (.putfield 98, 3) := by decide +kernel
theorem k_ga_jointInOrder_64 : decode me_ga_jointInOrder.2.1 64 = .ok (.iinc 2 1, 3) := by decide +kernel
theorem k_ga_jointInOrder_67 : decode me_ga_jointInOrder.2.1 67 = .ok (.goto (-61), 3) := by decide +kernel
theorem k_ga_jointInOrder_70 : decode me_ga_jointInOrder.2.1 70 = .ok (.bipush (-9), 2) := by decide +kernel
theorem k_ga_jointInOrder_72 : decode me_ga_jointInOrder.2.1 72 = .ok (.ireturn, 1) := by decide +kernel
theorem k_ga_beginOrder_0 : decode me_ga_beginOrder.2.1 0 = .ok (.aload_n 0, 1) := by decide +kernel
theorem k_ga_beginOrder_1 : decode me_ga_beginOrder.2.1 1 = .ok (.getfield 18, 3) := by decide +kernel
theorem k_ga_beginOrder_4 : decode me_ga_beginOrder.2.1 4 = .ok (.invokevirtual 24, 3) := by decide +kernel
theorem k_ga_beginOrder_7 : decode me_ga_beginOrder.2.1 7 = .ok (.iconst 1, 1) := by decide +kernel
theorem k_ga_beginOrder_8 : decode me_ga_beginOrder.2.1 8 = .ok (.isub, 1) := by decide +kernel
theorem k_ga_beginOrder_9 : decode me_ga_beginOrder.2.1 9 = .ok (.istore_n 1, 1) := by decide +kernel
theorem k_ga_beginOrder_10 : decode me_ga_beginOrder.2.1 10 = .ok (.iload_n 1, 1) := by decide +kernel
theorem k_ga_beginOrder_11 : decode me_ga_beginOrder.2.1 11 = .ok (.ifCond .lt 52, 3) := by decide +kernel
theorem k_ga_beginOrder_14 : decode me_ga_beginOrder.2.1 14 = .ok (.aload_n 0, 1) := by decide +kernel
theorem k_ga_beginOrder_15 : decode me_ga_beginOrder.2.1 15 = .ok (.getfield 18, 3) := by decide +kernel
theorem k_ga_beginOrder_18 : decode me_ga_beginOrder.2.1 18 = .ok (.iload_n 1, 1) := by decide +kernel
theorem k_ga_beginOrder_19 : decode me_ga_beginOrder.2.1 19 = .ok (.invokevirtual 28, 3) := by decide +kernel
theorem k_ga_beginOrder_22 : decode me_ga_beginOrder.2.1 22 = .ok (.checkcast 34, 3) := by decide +kernel
theorem k_ga_beginOrder_25 : decode me_ga_beginOrder.2.1 25 = .ok (.aload_n 0, 1) := by decide +kernel
theorem k_ga_beginOrder_26 : decode me_ga_beginOrder.2.1 26 = .ok (.getfield 18, 3) := by decide +kernel
theorem k_ga_beginOrder_29 : decode me_ga_beginOrder.2.1 29 = .ok (.iload_n 1, 1) := by decide +kernel
theorem k_ga_beginOrder_30 : decode me_ga_beginOrder.2.1 30 = .ok (.invokevirtual 28, 3) := by decide +kernel
theorem k_ga_beginOrder_33 : decode me_ga_beginOrder.2.1 33 = .ok (.checkcast 34, 3) := by decide +kernel
theorem k_ga_beginOrder_36 : decode me_ga_beginOrder.2.1 36 = .ok (.getfield 49, 3) := by decide +kernel
theorem k_ga_beginOrder_39 : decode me_ga_beginOrder.2.1 39 = .ok (.putfield 95, 3) := by decide +kernel
theorem k_ga_beginOrder_42 : decode me_ga_beginOrder.2.1 42 = .ok (.aload_n 0, 1) := by decide +kernel
theorem k_ga_beginOrder_43 : decode me_ga_beginOrder.2.1 43 = .ok (.getfield 18, 3) := by decide +kernel
theorem k_ga_beginOrder_46 : decode me_ga_beginOrder.2.1 46 = .ok (.iload_n 1, 1) := by decide +kernel
theorem k_ga_beginOrder_47 : decode me_ga_beginOrder.2.1 47 = .ok (.invokevirtual 28, 3) := by decide +kernel
theorem k_ga_beginOrder_50 : decode me_ga_beginOrder.2.1 50 = .ok (.checkcast 34, 3) := by decide +kernel
theorem k_ga_beginOrder_53 : decode me_ga_beginOrder.2.1 53 = .ok (.iconst 0, 1) := by decide +kernel
theorem k_ga_beginOrder_54 : decode me_ga_beginOrder.2.1 54 = .ok (.putfield 98, 3) := by decide +kernel
theorem k_ga_beginOrder_57 : decode me_ga_beginOrder.2.1 57 = .ok (.iinc 1 (-1), 3) := by decide +kernel
theorem k_ga_beginOrder_60 : decode me_ga_beginOrder.2.1 60 = .ok (.goto (-50), 3) := by decide +kernel
theorem k_ga_beginOrder_63 : decode me_ga_beginOrder.2.1 63 = .ok (.aload_n 0, 1) := by decide +kernel
theorem k_ga_beginOrder_64 : decode me_ga_beginOrder.2.1 64 = .ok (.getfield 18, 3) := by decide +kernel
theorem k_ga_beginOrder_67 : decode me_ga_beginOrder.2.1 67 = .ok (.invokevirtual 24, 3) := by decide +kernel
theorem k_ga_beginOrder_70 : decode me_ga_beginOrder.2.1 70 = .ok (.iconst 1, 1) := by decide +kernel
theorem k_ga_beginOrder_71 : decode me_ga_beginOrder.2.1 71 = .ok (.isub, 1) := by decide +kernel
theorem k_ga_beginOrder_72 : decode me_ga_beginOrder.2.1 72 = .ok (.istore_n 1, 1) := by decide +kernel
theorem k_ga_beginOrder_73 : decode me_ga_beginOrder.2.1 73 = .ok (.iload_n 1, 1) := by decide +kernel
theorem k_ga_beginOrder_74 : decode me_ga_beginOrder.2.1 74 = .ok (.ifCond .lt 48, 3) := by decide +kernel
theorem k_ga_beginOrder_77 : decode me_ga_beginOrder.2.1 77 = .ok (.aload_n 0, 1) := by decide +kernel
theorem k_ga_beginOrder_78 : decode me_ga_beginOrder.2.1 78 = .ok (.getfield 18, 3) := by decide +kernel
theorem k_ga_beginOrder_81 : decode me_ga_beginOrder.2.1 81 = .ok (.iload_n 1, 1) := by decide +kernel
theorem k_ga_beginOrder_82 : decode me_ga_beginOrder.2.1 82 = .ok (.invokevirtual 28, 3) := by decide +kernel
theorem k_ga_beginOrder_85 : decode me_ga_beginOrder.2.1 85 = .ok (.checkcast 34, 3) := by decide +kernel
theorem k_ga_beginOrder_88 : decode me_ga_beginOrder.2.1 88 = .ok (.astore_n 2, 1) := by decide +kernel
theorem k_ga_beginOrder_89 : decode me_ga_beginOrder.2.1 89 = .ok (.aload_n 2, 1) := by decide +kernel
theorem k_ga_beginOrder_90 : decode me_ga_beginOrder.2.1 90 = .ok (.getfield 95, 3) := by decide +kernel
theorem k_ga_beginOrder_93 : decode me_ga_beginOrder.2.1 93 = .ok (.ifCond .ne 23, 3) := by decide +kernel
theorem k_ga_beginOrder_96 : decode me_ga_beginOrder.2.1 96 = .ok (.aload_n 2, 1) := by decide +kernel
theorem k_ga_beginOrder_97 : decode me_ga_beginOrder.2.1 97 = .ok (.getfield 73, 3) := by decide +kernel
theorem k_ga_beginOrder_100 : decode me_ga_beginOrder.2.1 100 = .ok (.ifnull 16, 3) := by decide +kernel
theorem k_ga_beginOrder_103 : decode me_ga_beginOrder.2.1 103 = .ok (.aload_n 2, 1) := by decide +kernel
theorem k_ga_beginOrder_104 : decode me_ga_beginOrder.2.1 104 = .ok (.getfield 73, 3) := by decide +kernel
theorem k_ga_beginOrder_107 : decode me_ga_beginOrder.2.1 107 = .ok (.dup, 1) := by decide +kernel
theorem k_ga_beginOrder_108 : decode me_ga_beginOrder.2.1 108 = .ok (.getfield 98, 3) := by decide +kernel
theorem k_ga_beginOrder_111 : decode me_ga_beginOrder.2.1 111 = .ok (.iconst 1, 1) := by decide +kernel
theorem k_ga_beginOrder_112 : decode me_ga_beginOrder.2.1 112 = .ok (.iadd, 1) := by decide +kernel
theorem k_ga_beginOrder_113 : decode me_ga_beginOrder.2.1 113 = .ok (.putfield 98, 3) := by decide +kernel
theorem k_ga_beginOrder_116 : decode me_ga_beginOrder.2.1 116 = .ok (.iinc 1 (-1), 3) := by decide +kernel
theorem k_ga_beginOrder_119 : decode me_ga_beginOrder.2.1 119 = .ok (.goto (-46), 3) := by decide +kernel
theorem k_ga_beginOrder_122 : decode me_ga_beginOrder.2.1 122 = .ok (.return_, 1) := by decide +kernel
theorem k_ga_nextInOrder_0 : decode me_ga_nextInOrder.2.1 0 = .ok (.aconst_null, 1) := by decide +kernel
theorem k_ga_nextInOrder_1 : decode me_ga_nextInOrder.2.1 1 = .ok (.astore_n 1, 1) := by decide +kernel
theorem k_ga_nextInOrder_2 : decode me_ga_nextInOrder.2.1 2 = .ok (.iconst 0, 1) := by decide +kernel
theorem k_ga_nextInOrder_3 : decode me_ga_nextInOrder.2.1 3 = .ok (.istore_n 2, 1) := by decide +kernel
theorem k_ga_nextInOrder_4 : decode me_ga_nextInOrder.2.1 4 = .ok (.iload_n 2, 1) := by decide +kernel
theorem k_ga_nextInOrder_5 : decode me_ga_nextInOrder.2.1 5 = .ok (.aload_n 0, 1) := by decide +kernel
theorem k_ga_nextInOrder_6 : decode me_ga_nextInOrder.2.1 6 = .ok (.getfield 18, 3) := by decide +kernel
theorem k_ga_nextInOrder_9 : decode me_ga_nextInOrder.2.1 9 = .ok (.invokevirtual 24, 3) := by decide +kernel
theorem k_ga_nextInOrder_12 : decode me_ga_nextInOrder.2.1 12 = .ok (.if_icmp .ge 64, 3) := by decide +kernel
theorem k_ga_nextInOrder_15 : decode me_ga_nextInOrder.2.1 15 = .ok (.aload_n 0, 1) := by decide +kernel
theorem k_ga_nextInOrder_16 : decode me_ga_nextInOrder.2.1 16 = .ok (.getfield 18, 3) := by decide +kernel
theorem k_ga_nextInOrder_19 : decode me_ga_nextInOrder.2.1 19 = .ok (.iload_n 2, 1) := by decide +kernel
theorem k_ga_nextInOrder_20 : decode me_ga_nextInOrder.2.1 20 = .ok (.invokevirtual 28, 3) := by decide +kernel
theorem k_ga_nextInOrder_23 : decode me_ga_nextInOrder.2.1 23 = .ok (.checkcast 34, 3) := by decide +kernel
theorem k_ga_nextInOrder_26 : decode me_ga_nextInOrder.2.1 26 = .ok (.astore_n 3, 1) := by decide +kernel
theorem k_ga_nextInOrder_27 : decode me_ga_nextInOrder.2.1 27 = .ok (.aload_n 3, 1) := by decide +kernel
theorem k_ga_nextInOrder_28 : decode me_ga_nextInOrder.2.1 28 = .ok (.getfield 95, 3) := by decide +kernel
theorem k_ga_nextInOrder_31 : decode me_ga_nextInOrder.2.1 31 = .ok (.ifCond .ne 14, 3) := by decide +kernel
theorem k_ga_nextInOrder_34 : decode me_ga_nextInOrder.2.1 34 = .ok (.aload_n 3, 1) := by decide +kernel
theorem k_ga_nextInOrder_35 : decode me_ga_nextInOrder.2.1 35 = .ok (.getfield 98, 3) := by decide +kernel
theorem k_ga_nextInOrder_38 : decode me_ga_nextInOrder.2.1 38 = .ok (.ifCond .ne 7, 3) := by decide +kernel
theorem k_ga_nextInOrder_41 : decode me_ga_nextInOrder.2.1 41 = .ok (.iconst 1, 1) := by decide +kernel
theorem k_ga_nextInOrder_42 : decode me_ga_nextInOrder.2.1 42 = .ok (.goto 4, 3) := by decide +kernel
theorem k_ga_nextInOrder_45 : decode me_ga_nextInOrder.2.1 45 = .ok (.iconst 0, 1) := by decide +kernel
theorem k_ga_nextInOrder_46 : decode me_ga_nextInOrder.2.1 46 = .ok (.istore 4, 2) := by decide +kernel
theorem k_ga_nextInOrder_48 : decode me_ga_nextInOrder.2.1 48 = .ok (.iload 4, 2) := by decide +kernel
theorem k_ga_nextInOrder_50 : decode me_ga_nextInOrder.2.1 50 = .ok (.ifCond .eq 20, 3) := by decide +kernel
theorem k_ga_nextInOrder_53 : decode me_ga_nextInOrder.2.1 53 = .ok (.aload_n 1, 1) := by decide +kernel
theorem k_ga_nextInOrder_54 : decode me_ga_nextInOrder.2.1 54 = .ok (.ifnull 14, 3) := by decide +kernel
theorem k_ga_nextInOrder_57 : decode me_ga_nextInOrder.2.1 57 = .ok (.aload_n 3, 1) := by decide +kernel
theorem k_ga_nextInOrder_58 : decode me_ga_nextInOrder.2.1 58 = .ok (.getfield 101, 3) := by decide +kernel
theorem k_ga_nextInOrder_61 : decode me_ga_nextInOrder.2.1 61 = .ok (.aload_n 1, 1) := by decide +kernel
theorem k_ga_nextInOrder_62 : decode me_ga_nextInOrder.2.1 62 = .ok (.getfield 101, 3) := by decide +kernel
theorem k_ga_nextInOrder_65 : decode me_ga_nextInOrder.2.1 65 = .ok (.if_icmp .le 5, 3) := by decide +kernel
theorem k_ga_nextInOrder_68 : decode me_ga_nextInOrder.2.1 68 = .ok (.aload_n 3, 1) := by decide +kernel
theorem k_ga_nextInOrder_69 : decode me_ga_nextInOrder.2.1 69 = .ok (.astore_n 1, 1) := by decide +kernel
theorem k_ga_nextInOrder_70 : decode me_ga_nextInOrder.2.1 70 = .ok (.iinc 2 1, 3) := by decide +kernel
theorem k_ga_nextInOrder_73 : decode me_ga_nextInOrder.2.1 73 = .ok (.goto (-69), 3) := by decide +kernel
theorem k_ga_nextInOrder_76 : decode me_ga_nextInOrder.2.1 76 = .ok (.aload_n 1, 1) := by decide +kernel
theorem k_ga_nextInOrder_77 : decode me_ga_nextInOrder.2.1 77 = .ok (.areturn, 1) := by decide +kernel
theorem k_fn_tankOf_0 : decode me_fn_tankOf.2.1 0 = .ok (.aload_n 0, 1) := by decide +kernel
theorem k_fn_tankOf_1 : decode me_fn_tankOf.2.1 1 = .ok (.getfield 12, 3) := by decide +kernel
theorem k_fn_tankOf_4 : decode me_fn_tankOf.2.1 4 = .ok (.iload_n 1, 1) := by decide +kernel
theorem k_fn_tankOf_5 : decode me_fn_tankOf.2.1 5 = .ok (.invokevirtual 76, 3) := by decide +kernel
theorem k_fn_tankOf_8 : decode me_fn_tankOf.2.1 8 = .ok (.astore_n 3, 1) := by decide +kernel
theorem k_fn_tankOf_9 : decode me_fn_tankOf.2.1 9 = .ok (.aload_n 3, 1) := by decide +kernel
theorem k_fn_tankOf_10 : decode me_fn_tankOf.2.1 10 = .ok (.ifnonnull 9, 3) := by decide +kernel
theorem k_fn_tankOf_13 : decode me_fn_tankOf.2.1 13 = .ok (.aload_n 0, 1) := by decide +kernel
theorem k_fn_tankOf_14 : decode me_fn_tankOf.2.1 14 = .ok (.iconst (-1), 1) := by decide +kernel
theorem k_fn_tankOf_15 : decode me_fn_tankOf.2.1 15 = .ok (.invokevirtual 56, 3) := by decide +kernel
theorem k_fn_tankOf_18 : decode me_fn_tankOf.2.1 18 = .ok (.ireturn, 1) := by decide +kernel
theorem k_fn_tankOf_19 : decode me_fn_tankOf.2.1 19 = .ok (.iload_n 2, 1) := by decide +kernel
theorem k_fn_tankOf_20 : decode me_fn_tankOf.2.1 20 = .ok (.tableswitch 81 0 5 #[40, 49, 54, 59, 64, 69], 40) := by decide +kernel
theorem k_fn_tankOf_60 : decode me_fn_tankOf.2.1 60 = .ok (.aload_n 3, 1) := by decide +kernel
theorem k_fn_tankOf_61 : decode me_fn_tankOf.2.1 61 = .ok (.aload_n 3, 1) := by decide +kernel
theorem k_fn_tankOf_62 : decode me_fn_tankOf.2.1 62 = .ok (.getfield 157, 3) := by decide +kernel
theorem k_fn_tankOf_65 : decode me_fn_tankOf.2.1 65 = .ok (.invokevirtual 269, 3) := by decide +kernel
theorem k_fn_tankOf_68 : decode me_fn_tankOf.2.1 68 = .ok (.ireturn, 1) := by decide +kernel
theorem k_fn_tankOf_69 : decode me_fn_tankOf.2.1 69 = .ok (.aload_n 3, 1) := by decide +kernel
theorem k_fn_tankOf_70 : decode me_fn_tankOf.2.1 70 = .ok (.getfield 157, 3) := by decide +kernel
theorem k_fn_tankOf_73 : decode me_fn_tankOf.2.1 73 = .ok (.ireturn, 1) := by decide +kernel
theorem k_fn_tankOf_74 : decode me_fn_tankOf.2.1 74 = .ok (.aload_n 3, 1) := by decide +kernel
theorem k_fn_tankOf_75 : decode me_fn_tankOf.2.1 75 = .ok (.getfield 272, 3) := by decide +kernel
theorem k_fn_tankOf_78 : decode me_fn_tankOf.2.1 78 = .ok (.ireturn, 1) := by decide +kernel
theorem k_fn_tankOf_79 : decode me_fn_tankOf.2.1 79 = .ok (.aload_n 3, 1) := by decide +kernel
theorem k_fn_tankOf_80 : decode me_fn_tankOf.2.1 80 = .ok (.getfield 275, 3) := by decide +kernel
theorem k_fn_tankOf_83 : decode me_fn_tankOf.2.1 83 = .ok (.ireturn, 1) := by decide +kernel
theorem k_fn_tankOf_84 : decode me_fn_tankOf.2.1 84 = .ok (.aload_n 3, 1) := by decide +kernel
theorem k_fn_tankOf_85 : decode me_fn_tankOf.2.1 85 = .ok (.getfield 278, 3) := by decide +kernel
theorem k_fn_tankOf_88 : decode me_fn_tankOf.2.1 88 = .ok (.ireturn, 1) := by decide +kernel
theorem k_fn_tankOf_89 : decode me_fn_tankOf.2.1 89 = .ok (.aload_n 0, 1) := by decide +kernel
theorem k_fn_tankOf_90 : decode me_fn_tankOf.2.1 90 = .ok (.getfield 12, 3) := by decide +kernel
theorem k_fn_tankOf_93 : decode me_fn_tankOf.2.1 93 = .ok (.invokevirtual 144, 3) := by decide +kernel
theorem k_fn_tankOf_96 : decode me_fn_tankOf.2.1 96 = .ok (.aload_n 3, 1) := by decide +kernel
theorem k_fn_tankOf_97 : decode me_fn_tankOf.2.1 97 = .ok (.getfield 281, 3) := by decide +kernel
theorem k_fn_tankOf_100 : decode me_fn_tankOf.2.1 100 = .ok (.ireturn, 1) := by decide +kernel
theorem k_fn_tankOf_101 : decode me_fn_tankOf.2.1 101 = .ok (.aload_n 0, 1) := by decide +kernel
theorem k_fn_tankOf_102 : decode me_fn_tankOf.2.1 102 = .ok (.bipush (-2), 2) := by decide +kernel
theorem k_fn_tankOf_104 : decode me_fn_tankOf.2.1 104 = .ok (.invokevirtual 56, 3) := by decide +kernel
theorem k_fn_tankOf_107 : decode me_fn_tankOf.2.1 107 = .ok (.ireturn, 1) := by decide +kernel
theorem k_fn_jointOf_0 : decode me_fn_jointOf.2.1 0 = .ok (.aload_n 0, 1) := by decide +kernel
theorem k_fn_jointOf_1 : decode me_fn_jointOf.2.1 1 = .ok (.getfield 12, 3) := by decide +kernel
theorem k_fn_jointOf_4 : decode me_fn_jointOf.2.1 4 = .ok (.iload_n 1, 1) := by decide +kernel
theorem k_fn_jointOf_5 : decode me_fn_jointOf.2.1 5 = .ok (.invokevirtual 89, 3) := by decide +kernel
theorem k_fn_jointOf_8 : decode me_fn_jointOf.2.1 8 = .ok (.astore_n 3, 1) := by decide +kernel
theorem k_fn_jointOf_9 : decode me_fn_jointOf.2.1 9 = .ok (.aload_n 3, 1) := by decide +kernel
theorem k_fn_jointOf_10 : decode me_fn_jointOf.2.1 10 = .ok (.ifnonnull 9, 3) := by decide +kernel
theorem k_fn_jointOf_13 : decode me_fn_jointOf.2.1 13 = .ok (.aload_n 0, 1) := by decide +kernel
theorem k_fn_jointOf_14 : decode me_fn_jointOf.2.1 14 = .ok (.iconst (-1), 1) := by decide +kernel
theorem k_fn_jointOf_15 : decode me_fn_jointOf.2.1 15 = .ok (.invokevirtual 56, 3) := by decide +kernel
theorem k_fn_jointOf_18 : decode me_fn_jointOf.2.1 18 = .ok (.ireturn, 1) := by decide +kernel
theorem k_fn_jointOf_19 : decode me_fn_jointOf.2.1 19 = .ok (.iload_n 2, 1) := by decide +kernel
theorem k_fn_jointOf_20 : decode me_fn_jointOf.2.1 20 = .ok (.tableswitch 145 0 8 #[52, 57, 62, 67, 75, 95, 115, 128, 133], 52) := by decide +kernel
theorem k_fn_jointOf_72 : decode me_fn_jointOf.2.1 72 = .ok (.aload_n 3, 1) := by decide +kernel
theorem k_fn_jointOf_73 : decode me_fn_jointOf.2.1 73 = .ok (.getfield 282, 3) := by decide +kernel
theorem k_fn_jointOf_76 : decode me_fn_jointOf.2.1 76 = .ok (.ireturn, 1) := by decide +kernel
theorem k_fn_jointOf_77 : decode me_fn_jointOf.2.1 77 = .ok (.aload_n 3, 1) := by decide +kernel
theorem k_fn_jointOf_78 : decode me_fn_jointOf.2.1 78 = .ok (.getfield 139, 3) := by decide +kernel
theorem k_fn_jointOf_81 : decode me_fn_jointOf.2.1 81 = .ok (.ireturn, 1) := by decide +kernel
theorem k_fn_jointOf_82 : decode me_fn_jointOf.2.1 82 = .ok (.aload_n 3, 1) := by decide +kernel
theorem k_fn_jointOf_83 : decode me_fn_jointOf.2.1 83 = .ok (.getfield 285, 3) := by decide +kernel
theorem k_fn_jointOf_86 : decode me_fn_jointOf.2.1 86 = .ok (.ireturn, 1) := by decide +kernel
theorem k_fn_jointOf_87 : decode me_fn_jointOf.2.1 87 = .ok (.aload_n 3, 1) := by decide +kernel
theorem k_fn_jointOf_88 : decode me_fn_jointOf.2.1 88 = .ok (.getfield 153, 3) := by decide +kernel
theorem k_fn_jointOf_91 : decode me_fn_jointOf.2.1 91 = .ok (.getfield 288, 3) := by decide +kernel
theorem k_fn_jointOf_94 : decode me_fn_jointOf.2.1 94 = .ok (.ireturn, 1) := by decide +kernel
theorem k_fn_jointOf_95 : decode me_fn_jointOf.2.1 95 = .ok (.aload_n 3, 1) := by decide +kernel
theorem k_fn_jointOf_96 : decode me_fn_jointOf.2.1 96 = .ok (.getfield 263, 3) := by decide +kernel
theorem k_fn_jointOf_99 : decode me_fn_jointOf.2.1 99 = .ok (.ifnonnull 8, 3) := by decide +kernel
theorem k_fn_jointOf_102 : decode me_fn_jointOf.2.1 102 = .ok (.bipush (-9), 2) := by decide +kernel
theorem k_fn_jointOf_104 : decode me_fn_jointOf.2.1 104 = .ok (.goto 10, 3) := by decide +kernel
theorem k_fn_jointOf_107 : decode me_fn_jointOf.2.1 107 = .ok (.aload_n 3, 1) := by decide +kernel
theorem k_fn_jointOf_108 : decode me_fn_jointOf.2.1 108 = .ok (.getfield 263, 3) := by decide +kernel
theorem k_fn_jointOf_111 : decode me_fn_jointOf.2.1 111 = .ok (.getfield 291, 3) := by decide +kernel
theorem k_fn_jointOf_114 : decode me_fn_jointOf.2.1 114 = .ok (.ireturn, 1) := by decide +kernel
theorem k_fn_jointOf_115 : decode me_fn_jointOf.2.1 115 = .ok (.aload_n 3, 1) := by decide +kernel
theorem k_fn_jointOf_116 : decode me_fn_jointOf.2.1 116 = .ok (.getfield 109, 3) := by decide +kernel
theorem k_fn_jointOf_119 : decode me_fn_jointOf.2.1 119 = .ok (.ifnonnull 8, 3) := by decide +kernel
theorem k_fn_jointOf_122 : decode me_fn_jointOf.2.1 122 = .ok (.bipush (-9), 2) := by decide +kernel
theorem k_fn_jointOf_124 : decode me_fn_jointOf.2.1 124 = .ok (.goto 10, 3) := by decide +kernel
theorem k_fn_jointOf_127 : decode me_fn_jointOf.2.1 127 = .ok (.aload_n 3, 1) := by decide +kernel
theorem k_fn_jointOf_128 : decode me_fn_jointOf.2.1 128 = .ok (.getfield 109, 3) := by decide +kernel
theorem k_fn_jointOf_131 : decode me_fn_jointOf.2.1 131 = .ok (.getfield 292, 3) := by decide +kernel
theorem k_fn_jointOf_134 : decode me_fn_jointOf.2.1 134 = .ok (.ireturn, 1) := by decide +kernel
theorem k_fn_jointOf_135 : decode me_fn_jointOf.2.1 135 = .ok (.aload_n 3, 1) := by decide +kernel
theorem k_fn_jointOf_136 : decode me_fn_jointOf.2.1 136 = .ok (.getfield 100, 3) := by decide +kernel
theorem k_fn_jointOf_139 : decode me_fn_jointOf.2.1 139 = .ok (.ifCond .eq 7, 3) := by decide +kernel
theorem k_fn_jointOf_142 : decode me_fn_jointOf.2.1 142 = .ok (.iconst 1, 1) := by decide +kernel
theorem k_fn_jointOf_143 : decode me_fn_jointOf.2.1 143 = .ok (.goto 4, 3) := by decide +kernel
theorem k_fn_jointOf_146 : decode me_fn_jointOf.2.1 146 = .ok (.iconst 0, 1) := by decide +kernel
theorem k_fn_jointOf_147 : decode me_fn_jointOf.2.1 147 = .ok (.ireturn, 1) := by decide +kernel
theorem k_fn_jointOf_148 : decode me_fn_jointOf.2.1 148 = .ok (.aload_n 3, 1) := by decide +kernel
theorem k_fn_jointOf_149 : decode me_fn_jointOf.2.1 149 = .ok (.getfield 141, 3) := by decide +kernel
theorem k_fn_jointOf_152 : decode me_fn_jointOf.2.1 152 = .ok (.ireturn, 1) := by decide +kernel
theorem k_fn_jointOf_153 : decode me_fn_jointOf.2.1 153 = .ok (.aload_n 0, 1) := by decide +kernel
theorem k_fn_jointOf_154 : decode me_fn_jointOf.2.1 154 = .ok (.getfield 12, 3) := by decide +kernel
theorem k_fn_jointOf_157 : decode me_fn_jointOf.2.1 157 = .ok (.invokevirtual 144, 3) := by decide +kernel
theorem k_fn_jointOf_160 : decode me_fn_jointOf.2.1 160 = .ok (.aload_n 3, 1) := by decide +kernel
theorem k_fn_jointOf_161 : decode me_fn_jointOf.2.1 161 = .ok (.invokevirtual 293, 3) := by decide +kernel
theorem k_fn_jointOf_164 : decode me_fn_jointOf.2.1 164 = .ok (.ireturn, 1) := by decide +kernel
theorem k_fn_jointOf_165 : decode me_fn_jointOf.2.1 165 = .ok (.aload_n 0, 1) := by decide +kernel
theorem k_fn_jointOf_166 : decode me_fn_jointOf.2.1 166 = .ok (.bipush (-2), 2) := by decide +kernel
theorem k_fn_jointOf_168 : decode me_fn_jointOf.2.1 168 = .ok (.invokevirtual 56, 3) := by decide +kernel
theorem k_fn_jointOf_171 : decode me_fn_jointOf.2.1 171 = .ok (.ireturn, 1) := by decide +kernel
theorem k_fn_count_0 : decode me_fn_count.2.1 0 = .ok (.iload_n 1, 1) := by decide +kernel
theorem k_fn_count_1 : decode me_fn_count.2.1 1 = .ok (.tableswitch 111 0 6 #[43, 51, 62, 73, 84, 95, 103], 43) := by decide +kernel
theorem k_fn_count_44 : decode me_fn_count.2.1 44 = .ok (.aload_n 0, 1) := by decide +kernel
theorem k_fn_count_45 : decode me_fn_count.2.1 45 = .ok (.getfield 12, 3) := by decide +kernel
theorem k_fn_count_48 : decode me_fn_count.2.1 48 = .ok (.getfield 171, 3) := by decide +kernel
theorem k_fn_count_51 : decode me_fn_count.2.1 51 = .ok (.ireturn, 1) := by decide +kernel
theorem k_fn_count_52 : decode me_fn_count.2.1 52 = .ok (.aload_n 0, 1) := by decide +kernel
theorem k_fn_count_53 : decode me_fn_count.2.1 53 = .ok (.getfield 12, 3) := by decide +kernel
theorem k_fn_count_56 : decode me_fn_count.2.1 56 = .ok (.getfield 60, 3) := by decide +kernel
theorem k_fn_count_59 : decode me_fn_count.2.1 59 = .ok (.invokevirtual 63, 3) := by decide +kernel
theorem k_fn_count_62 : decode me_fn_count.2.1 62 = .ok (.ireturn, 1) := by decide +kernel
theorem k_fn_count_63 : decode me_fn_count.2.1 63 = .ok (.aload_n 0, 1) := by decide +kernel
theorem k_fn_count_64 : decode me_fn_count.2.1 64 = .ok (.getfield 12, 3) := by decide +kernel
theorem k_fn_count_67 : decode me_fn_count.2.1 67 = .ok (.getfield 97, 3) := by decide +kernel
theorem k_fn_count_70 : decode me_fn_count.2.1 70 = .ok (.invokevirtual 63, 3) := by decide +kernel
theorem k_fn_count_73 : decode me_fn_count.2.1 73 = .ok (.ireturn, 1) := by decide +kernel
theorem k_fn_count_74 : decode me_fn_count.2.1 74 = .ok (.aload_n 0, 1) := by decide +kernel
theorem k_fn_count_75 : decode me_fn_count.2.1 75 = .ok (.getfield 12, 3) := by decide +kernel
theorem k_fn_count_78 : decode me_fn_count.2.1 78 = .ok (.getfield 113, 3) := by decide +kernel
theorem k_fn_count_81 : decode me_fn_count.2.1 81 = .ok (.invokevirtual 63, 3) := by decide +kernel
theorem k_fn_count_84 : decode me_fn_count.2.1 84 = .ok (.ireturn, 1) := by decide +kernel
theorem k_fn_count_85 : decode me_fn_count.2.1 85 = .ok (.aload_n 0, 1) := by decide +kernel
theorem k_fn_count_86 : decode me_fn_count.2.1 86 = .ok (.getfield 12, 3) := by decide +kernel
theorem k_fn_count_89 : decode me_fn_count.2.1 89 = .ok (.getfield 129, 3) := by decide +kernel
theorem k_fn_count_92 : decode me_fn_count.2.1 92 = .ok (.invokestatic 296, 3) := by decide +kernel
theorem k_fn_count_95 : decode me_fn_count.2.1 95 = .ok (.ireturn, 1) := by decide +kernel
theorem k_fn_count_96 : decode me_fn_count.2.1 96 = .ok (.aload_n 0, 1) := by decide +kernel
theorem k_fn_count_97 : decode me_fn_count.2.1 97 = .ok (.getfield 19, 3) := by decide +kernel
theorem k_fn_count_100 : decode me_fn_count.2.1 100 = .ok (.invokevirtual 63, 3) := by decide +kernel
theorem k_fn_count_103 : decode me_fn_count.2.1 103 = .ok (.ireturn, 1) := by decide +kernel
theorem k_fn_count_104 : decode me_fn_count.2.1 104 = .ok (.aload_n 0, 1) := by decide +kernel
theorem k_fn_count_105 : decode me_fn_count.2.1 105 = .ok (.getfield 12, 3) := by decide +kernel
theorem k_fn_count_108 : decode me_fn_count.2.1 108 = .ok (.invokevirtual 301, 3) := by decide +kernel
theorem k_fn_count_111 : decode me_fn_count.2.1 111 = .ok (.ireturn, 1) := by decide +kernel
theorem k_fn_count_112 : decode me_fn_count.2.1 112 = .ok (.aload_n 0, 1) := by decide +kernel
theorem k_fn_count_113 : decode me_fn_count.2.1 113 = .ok (.iload_n 1, 1) := by decide +kernel
theorem k_fn_count_114 : decode me_fn_count.2.1 114 = .ok (.bipush 10, 2) := by decide +kernel
theorem k_fn_count_116 : decode me_fn_count.2.1 116 = .ok (.isub, 1) := by decide +kernel
theorem k_fn_count_117 : decode me_fn_count.2.1 117 = .ok (.invokevirtual 304, 3) := by decide +kernel
theorem k_fn_count_120 : decode me_fn_count.2.1 120 = .ok (.ireturn, 1) := by decide +kernel
theorem k_it_bitCount_0 : decode me_it_bitCount.2.1 0 = .ok (.iload_n 0, 1) := by decide +kernel
theorem k_it_bitCount_1 : decode me_it_bitCount.2.1 1 = .ok (.iload_n 0, 1) := by decide +kernel
theorem k_it_bitCount_2 : decode me_it_bitCount.2.1 2 = .ok (.iconst 1, 1) := by decide +kernel
theorem k_it_bitCount_3 : decode me_it_bitCount.2.1 3 = .ok (.iushr, 1) := by decide +kernel
theorem k_it_bitCount_4 : decode me_it_bitCount.2.1 4 = .ok (.ldc_w 265, 3) := by decide +kernel
theorem k_it_bitCount_7 : decode me_it_bitCount.2.1 7 = .ok (.iand, 1) := by decide +kernel
theorem k_it_bitCount_8 : decode me_it_bitCount.2.1 8 = .ok (.isub, 1) := by decide +kernel
theorem k_it_bitCount_9 : decode me_it_bitCount.2.1 9 = .ok (.istore_n 0, 1) := by decide +kernel
theorem k_it_bitCount_10 : decode me_it_bitCount.2.1 10 = .ok (.iload_n 0, 1) := by decide +kernel
theorem k_it_bitCount_11 : decode me_it_bitCount.2.1 11 = .ok (.ldc_w 266, 3) := by decide +kernel
theorem k_it_bitCount_14 : decode me_it_bitCount.2.1 14 = .ok (.iand, 1) := by decide +kernel
theorem k_it_bitCount_15 : decode me_it_bitCount.2.1 15 = .ok (.iload_n 0, 1) := by decide +kernel
theorem k_it_bitCount_16 : decode me_it_bitCount.2.1 16 = .ok (.iconst 2, 1) := by decide +kernel
theorem k_it_bitCount_17 : decode me_it_bitCount.2.1 17 = .ok (.iushr, 1) := by decide +kernel
theorem k_it_bitCount_18 : decode me_it_bitCount.2.1 18 = .ok (.ldc_w 266, 3) := by decide +kernel
theorem k_it_bitCount_21 : decode me_it_bitCount.2.1 21 = .ok (.iand, 1) := by decide +kernel
theorem k_it_bitCount_22 : decode me_it_bitCount.2.1 22 = .ok (.iadd, 1) := by decide +kernel
theorem k_it_bitCount_23 : decode me_it_bitCount.2.1 23 = .ok (.istore_n 0, 1) := by decide +kernel
theorem k_it_bitCount_24 : decode me_it_bitCount.2.1 24 = .ok (.iload_n 0, 1) := by decide +kernel
theorem k_it_bitCount_25 : decode me_it_bitCount.2.1 25 = .ok (.iload_n 0, 1) := by decide +kernel
theorem k_it_bitCount_26 : decode me_it_bitCount.2.1 26 = .ok (.iconst 4, 1) := by decide +kernel
theorem k_it_bitCount_27 : decode me_it_bitCount.2.1 27 = .ok (.iushr, 1) := by decide +kernel
theorem k_it_bitCount_28 : decode me_it_bitCount.2.1 28 = .ok (.iadd, 1) := by decide +kernel
theorem k_it_bitCount_29 : decode me_it_bitCount.2.1 29 = .ok (.ldc_w 267, 3) := by decide +kernel
theorem k_it_bitCount_32 : decode me_it_bitCount.2.1 32 = .ok (.iand, 1) := by decide +kernel
theorem k_it_bitCount_33 : decode me_it_bitCount.2.1 33 = .ok (.istore_n 0, 1) := by decide +kernel
theorem k_it_bitCount_34 : decode me_it_bitCount.2.1 34 = .ok (.iload_n 0, 1) := by decide +kernel
theorem k_it_bitCount_35 : decode me_it_bitCount.2.1 35 = .ok (.iload_n 0, 1) := by decide +kernel
theorem k_it_bitCount_36 : decode me_it_bitCount.2.1 36 = .ok (.bipush 8, 2) := by decide +kernel
theorem k_it_bitCount_38 : decode me_it_bitCount.2.1 38 = .ok (.iushr, 1) := by decide +kernel
theorem k_it_bitCount_39 : decode me_it_bitCount.2.1 39 = .ok (.iadd, 1) := by decide +kernel
theorem k_it_bitCount_40 : decode me_it_bitCount.2.1 40 = .ok (.istore_n 0, 1) := by decide +kernel
theorem k_it_bitCount_41 : decode me_it_bitCount.2.1 41 = .ok (.iload_n 0, 1) := by decide +kernel
theorem k_it_bitCount_42 : decode me_it_bitCount.2.1 42 = .ok (.iload_n 0, 1) := by decide +kernel
theorem k_it_bitCount_43 : decode me_it_bitCount.2.1 43 = .ok (.bipush 16, 2) := by decide +kernel
theorem k_it_bitCount_45 : decode me_it_bitCount.2.1 45 = .ok (.iushr, 1) := by decide +kernel
theorem k_it_bitCount_46 : decode me_it_bitCount.2.1 46 = .ok (.iadd, 1) := by decide +kernel
theorem k_it_bitCount_47 : decode me_it_bitCount.2.1 47 = .ok (.istore_n 0, 1) := by decide +kernel
theorem k_it_bitCount_48 : decode me_it_bitCount.2.1 48 = .ok (.iload_n 0, 1) := by decide +kernel
theorem k_it_bitCount_49 : decode me_it_bitCount.2.1 49 = .ok (.bipush 63, 2) := by decide +kernel
theorem k_it_bitCount_51 : decode me_it_bitCount.2.1 51 = .ok (.iand, 1) := by decide +kernel
theorem k_it_bitCount_52 : decode me_it_bitCount.2.1 52 = .ok (.ireturn, 1) := by decide +kernel
theorem k_ga_emptyPipes_0 : decode me_ga_emptyPipes.2.1 0 = .ok (.iconst 0, 1) := by decide +kernel
theorem k_ga_emptyPipes_1 : decode me_ga_emptyPipes.2.1 1 = .ok (.istore_n 1, 1) := by decide +kernel
theorem k_ga_emptyPipes_2 : decode me_ga_emptyPipes.2.1 2 = .ok (.iconst 0, 1) := by decide +kernel
theorem k_ga_emptyPipes_3 : decode me_ga_emptyPipes.2.1 3 = .ok (.istore_n 2, 1) := by decide +kernel
theorem k_ga_emptyPipes_4 : decode me_ga_emptyPipes.2.1 4 = .ok (.iload_n 2, 1) := by decide +kernel
theorem k_ga_emptyPipes_5 : decode me_ga_emptyPipes.2.1 5 = .ok (.aload_n 0, 1) := by decide +kernel
theorem k_ga_emptyPipes_6 : decode me_ga_emptyPipes.2.1 6 = .ok (.getfield 18, 3) := by decide +kernel
theorem k_ga_emptyPipes_9 : decode me_ga_emptyPipes.2.1 9 = .ok (.invokevirtual 24, 3) := by decide +kernel
theorem k_ga_emptyPipes_12 : decode me_ga_emptyPipes.2.1 12 = .ok (.if_icmp .ge 34, 3) := by decide +kernel
theorem k_ga_emptyPipes_15 : decode me_ga_emptyPipes.2.1 15 = .ok (.iload_n 1, 1) := by decide +kernel
theorem k_ga_emptyPipes_16 : decode me_ga_emptyPipes.2.1 16 = .ok (.aload_n 0, 1) := by decide +kernel
theorem k_ga_emptyPipes_17 : decode me_ga_emptyPipes.2.1 17 = .ok (.getfield 18, 3) := by decide +kernel
theorem k_ga_emptyPipes_20 : decode me_ga_emptyPipes.2.1 20 = .ok (.iload_n 2, 1) := by decide +kernel
theorem k_ga_emptyPipes_21 : decode me_ga_emptyPipes.2.1 21 = .ok (.invokevirtual 28, 3) := by decide +kernel
theorem k_ga_emptyPipes_24 : decode me_ga_emptyPipes.2.1 24 = .ok (.checkcast 34, 3) := by decide +kernel
theorem k_ga_emptyPipes_27 : decode me_ga_emptyPipes.2.1 27 = .ok (.getfield 49, 3) := by decide +kernel
theorem k_ga_emptyPipes_30 : decode me_ga_emptyPipes.2.1 30 = .ok (.ifCond .eq 7, 3) := by decide +kernel
theorem k_ga_emptyPipes_33 : decode me_ga_emptyPipes.2.1 33 = .ok (.iconst 1, 1) := by decide +kernel
theorem k_ga_emptyPipes_34 : decode me_ga_emptyPipes.2.1 34 = .ok (.goto 4, 3) := by decide +kernel
theorem k_ga_emptyPipes_37 : decode me_ga_emptyPipes.2.1 37 = .ok (.iconst 0, 1) := by decide +kernel
theorem k_ga_emptyPipes_38 : decode me_ga_emptyPipes.2.1 38 = .ok (.iadd, 1) := by decide +kernel
theorem k_ga_emptyPipes_39 : decode me_ga_emptyPipes.2.1 39 = .ok (.istore_n 1, 1) := by decide +kernel
theorem k_ga_emptyPipes_40 : decode me_ga_emptyPipes.2.1 40 = .ok (.iinc 2 1, 3) := by decide +kernel
theorem k_ga_emptyPipes_43 : decode me_ga_emptyPipes.2.1 43 = .ok (.goto (-39), 3) := by decide +kernel
theorem k_ga_emptyPipes_46 : decode me_ga_emptyPipes.2.1 46 = .ok (.iload_n 1, 1) := by decide +kernel
theorem k_ga_emptyPipes_47 : decode me_ga_emptyPipes.2.1 47 = .ok (.ireturn, 1) := by decide +kernel
theorem k_fn_refusalsOf_0 : decode me_fn_refusalsOf.2.1 0 = .ok (.iload_n 1, 1) := by decide +kernel
theorem k_fn_refusalsOf_1 : decode me_fn_refusalsOf.2.1 1 = .ok (.iconst 1, 1) := by decide +kernel
theorem k_fn_refusalsOf_2 : decode me_fn_refusalsOf.2.1 2 = .ok (.if_icmp .lt 27, 3) := by decide +kernel
theorem k_fn_refusalsOf_5 : decode me_fn_refusalsOf.2.1 5 = .ok (.iload_n 1, 1) := by decide +kernel
theorem k_fn_refusalsOf_6 : decode me_fn_refusalsOf.2.1 6 = .ok (.bipush 6, 2) := by decide +kernel
theorem k_fn_refusalsOf_8 : decode me_fn_refusalsOf.2.1 8 = .ok (.if_icmp .gt 21, 3) := by decide +kernel
theorem k_fn_refusalsOf_11 : decode me_fn_refusalsOf.2.1 11 = .ok (.iload_n 1, 1) := by decide +kernel
theorem k_fn_refusalsOf_12 : decode me_fn_refusalsOf.2.1 12 = .ok (.aload_n 0, 1) := by decide +kernel
theorem k_fn_refusalsOf_13 : decode me_fn_refusalsOf.2.1 13 = .ok (.getfield 48, 3) := by decide +kernel
theorem k_fn_refusalsOf_16 : decode me_fn_refusalsOf.2.1 16 = .ok (.arraylength, 1) := by decide +kernel
theorem k_fn_refusalsOf_17 : decode me_fn_refusalsOf.2.1 17 = .ok (.if_icmp .ge 12, 3) := by decide +kernel
theorem k_fn_refusalsOf_20 : decode me_fn_refusalsOf.2.1 20 = .ok (.aload_n 0, 1) := by decide +kernel
theorem k_fn_refusalsOf_21 : decode me_fn_refusalsOf.2.1 21 = .ok (.getfield 48, 3) := by decide +kernel
theorem k_fn_refusalsOf_24 : decode me_fn_refusalsOf.2.1 24 = .ok (.iload_n 1, 1) := by decide +kernel
theorem k_fn_refusalsOf_25 : decode me_fn_refusalsOf.2.1 25 = .ok (.iaload, 1) := by decide +kernel
theorem k_fn_refusalsOf_26 : decode me_fn_refusalsOf.2.1 26 = .ok (.goto 5, 3) := by decide +kernel
theorem k_fn_refusalsOf_29 : decode me_fn_refusalsOf.2.1 29 = .ok (.bipush (-9), 2) := by decide +kernel
theorem k_fn_refusalsOf_31 : decode me_fn_refusalsOf.2.1 31 = .ok (.ireturn, 1) := by decide +kernel
theorem k_fm_init_0 : decode me_fm_init.2.1 0 = .ok (.aload_n 0, 1) := by decide +kernel
theorem k_fm_init_1 : decode me_fm_init.2.1 1 = .ok (.invokespecial 3, 3) := by decide +kernel
theorem k_fm_init_4 : decode me_fm_init.2.1 4 = .ok (.aload_n 0, 1) := by decide +kernel
theorem k_fm_init_5 : decode me_fm_init.2.1 5 = .ok (.bipush 7, 2) := by decide +kernel
theorem k_fm_init_7 : decode me_fm_init.2.1 7 = .ok (.newarray .int, 2) := by decide +kernel
theorem k_fm_init_9 : decode me_fm_init.2.1 9 = .ok (.putfield 9, 3) := by decide +kernel
theorem k_fm_init_12 : decode me_fm_init.2.1 12 = .ok (.aload_n 0, 1) := by decide +kernel
theorem k_fm_init_13 : decode me_fm_init.2.1 13 = .ok (.iconst 1, 1) := by decide +kernel
theorem k_fm_init_14 : decode me_fm_init.2.1 14 = .ok (.putfield 13, 3) := by decide +kernel
theorem k_fm_init_17 : decode me_fm_init.2.1 17 = .ok (.aload_n 0, 1) := by decide +kernel
theorem k_fm_init_18 : decode me_fm_init.2.1 18 = .ok (.iconst 4, 1) := by decide +kernel
theorem k_fm_init_19 : decode me_fm_init.2.1 19 = .ok (.newarray .int, 2) := by decide +kernel
theorem k_fm_init_21 : decode me_fm_init.2.1 21 = .ok (.putfield 17, 3) := by decide +kernel
theorem k_fm_init_24 : decode me_fm_init.2.1 24 = .ok (.aload_n 0, 1) := by decide +kernel
theorem k_fm_init_25 : decode me_fm_init.2.1 25 = .ok (.iconst 4, 1) := by decide +kernel
theorem k_fm_init_26 : decode me_fm_init.2.1 26 = .ok (.newarray .int, 2) := by decide +kernel
theorem k_fm_init_28 : decode me_fm_init.2.1 28 = .ok (.putfield 20, 3) := by decide +kernel
theorem k_fm_init_31 : decode me_fm_init.2.1 31 = .ok (.aload_n 0, 1) := by decide +kernel
theorem k_fm_init_32 : decode me_fm_init.2.1 32 = .ok (.iconst 4, 1) := by decide +kernel
theorem k_fm_init_33 : decode me_fm_init.2.1 33 = .ok (.newarray .int, 2) := by decide +kernel
theorem k_fm_init_35 : decode me_fm_init.2.1 35 = .ok (.putfield 23, 3) := by decide +kernel
theorem k_fm_init_38 : decode me_fm_init.2.1 38 = .ok (.aload_n 0, 1) := by decide +kernel
theorem k_fm_init_39 : decode me_fm_init.2.1 39 = .ok (.iconst 4, 1) := by decide +kernel
theorem k_fm_init_40 : decode me_fm_init.2.1 40 = .ok (.newarray .int, 2) := by decide +kernel
theorem k_fm_init_42 : decode me_fm_init.2.1 42 = .ok (.putfield 26, 3) := by decide +kernel
theorem k_fm_init_45 : decode me_fm_init.2.1 45 = .ok (.aload_n 0, 1) := by decide +kernel
theorem k_fm_init_46 : decode me_fm_init.2.1 46 = .ok (.iconst 4, 1) := by decide +kernel
theorem k_fm_init_47 : decode me_fm_init.2.1 47 = .ok (.newarray .int, 2) := by decide +kernel
theorem k_fm_init_49 : decode me_fm_init.2.1 49 = .ok (.putfield 29, 3) := by decide +kernel
theorem k_fm_init_52 : decode me_fm_init.2.1 52 = .ok (.aload_n 0, 1) := by decide +kernel
theorem k_fm_init_53 : decode me_fm_init.2.1 53 = .ok (.iconst 4, 1) := by decide +kernel
theorem k_fm_init_54 : decode me_fm_init.2.1 54 = .ok (.newarray .int, 2) := by decide +kernel
theorem k_fm_init_56 : decode me_fm_init.2.1 56 = .ok (.putfield 32, 3) := by decide +kernel
theorem k_fm_init_59 : decode me_fm_init.2.1 59 = .ok (.aload_n 0, 1) := by decide +kernel
theorem k_fm_init_60 : decode me_fm_init.2.1 60 = .ok (.iconst 4, 1) := by decide +kernel
theorem k_fm_init_61 : decode me_fm_init.2.1 61 = .ok (.newarray .int, 2) := by decide +kernel
theorem k_fm_init_63 : decode me_fm_init.2.1 63 = .ok (.putfield 35, 3) := by decide +kernel
theorem k_fm_init_66 : decode me_fm_init.2.1 66 = .ok (.aload_n 0, 1) := by decide +kernel
theorem k_fm_init_67 : decode me_fm_init.2.1 67 = .ok (.bipush 30, 2) := by decide +kernel
theorem k_fm_init_69 : decode me_fm_init.2.1 69 = .ok (.newarray .int, 2) := by decide +kernel
theorem k_fm_init_71 : decode me_fm_init.2.1 71 = .ok (.putfield 38, 3) := by decide +kernel
theorem k_fm_init_74 : decode me_fm_init.2.1 74 = .ok (.aload_n 0, 1) := by decide +kernel
theorem k_fm_init_75 : decode me_fm_init.2.1 75 = .ok (.bipush 30, 2) := by decide +kernel
theorem k_fm_init_77 : decode me_fm_init.2.1 77 = .ok (.newarray .int, 2) := by decide +kernel
theorem k_fm_init_79 : decode me_fm_init.2.1 79 = .ok (.putfield 41, 3) := by decide +kernel
theorem k_fm_init_82 : decode me_fm_init.2.1 82 = .ok (.aload_n 0, 1) := by decide +kernel
theorem k_fm_init_83 : decode me_fm_init.2.1 83 = .ok (.bipush 30, 2) := by decide +kernel
theorem k_fm_init_85 : decode me_fm_init.2.1 85 = .ok (.newarray .int, 2) := by decide +kernel
theorem k_fm_init_87 : decode me_fm_init.2.1 87 = .ok (.putfield 44, 3) := by decide +kernel
theorem k_fm_init_90 : decode me_fm_init.2.1 90 = .ok (.aload_n 0, 1) := by decide +kernel
theorem k_fm_init_91 : decode me_fm_init.2.1 91 = .ok (.bipush 30, 2) := by decide +kernel
theorem k_fm_init_93 : decode me_fm_init.2.1 93 = .ok (.newarray .int, 2) := by decide +kernel
theorem k_fm_init_95 : decode me_fm_init.2.1 95 = .ok (.putfield 47, 3) := by decide +kernel
theorem k_fm_init_98 : decode me_fm_init.2.1 98 = .ok (.aload_n 0, 1) := by decide +kernel
theorem k_fm_init_99 : decode me_fm_init.2.1 99 = .ok (.bipush 30, 2) := by decide +kernel
theorem k_fm_init_101 : decode me_fm_init.2.1 101 = .ok (.newarray .int, 2) := by decide +kernel
theorem k_fm_init_103 : decode me_fm_init.2.1 103 = .ok (.putfield 50, 3) := by decide +kernel
theorem k_fm_init_106 : decode me_fm_init.2.1 106 = .ok (.aload_n 0, 1) := by decide +kernel
theorem k_fm_init_107 : decode me_fm_init.2.1 107 = .ok (.bipush 30, 2) := by decide +kernel
theorem k_fm_init_109 : decode me_fm_init.2.1 109 = .ok (.newarray .int, 2) := by decide +kernel
theorem k_fm_init_111 : decode me_fm_init.2.1 111 = .ok (.putfield 53, 3) := by decide +kernel
theorem k_fm_init_114 : decode me_fm_init.2.1 114 = .ok (.aload_n 0, 1) := by decide +kernel
theorem k_fm_init_115 : decode me_fm_init.2.1 115 = .ok (.bipush 30, 2) := by decide +kernel
theorem k_fm_init_117 : decode me_fm_init.2.1 117 = .ok (.newarray .int, 2) := by decide +kernel
theorem k_fm_init_119 : decode me_fm_init.2.1 119 = .ok (.putfield 56, 3) := by decide +kernel
theorem k_fm_init_122 : decode me_fm_init.2.1 122 = .ok (.aload_n 0, 1) := by decide +kernel
theorem k_fm_init_123 : decode me_fm_init.2.1 123 = .ok (.bipush 30, 2) := by decide +kernel
theorem k_fm_init_125 : decode me_fm_init.2.1 125 = .ok (.newarray .boolean, 2) := by decide +kernel
theorem k_fm_init_127 : decode me_fm_init.2.1 127 = .ok (.putfield 59, 3) := by decide +kernel
theorem k_fm_init_130 : decode me_fm_init.2.1 130 = .ok (.aload_n 0, 1) := by decide +kernel
theorem k_fm_init_131 : decode me_fm_init.2.1 131 = .ok (.bipush 24, 2) := by decide +kernel
theorem k_fm_init_133 : decode me_fm_init.2.1 133 = .ok (.newarray .int, 2) := by decide +kernel
theorem k_fm_init_135 : decode me_fm_init.2.1 135 = .ok (.putfield 63, 3) := by decide +kernel
theorem k_fm_init_138 : decode me_fm_init.2.1 138 = .ok (.aload_n 0, 1) := by decide +kernel
theorem k_fm_init_139 : decode me_fm_init.2.1 139 = .ok (.bipush 24, 2) := by decide +kernel
theorem k_fm_init_141 : decode me_fm_init.2.1 141 = .ok (.newarray .int, 2) := by decide +kernel
theorem k_fm_init_143 : decode me_fm_init.2.1 143 = .ok (.putfield 66, 3) := by decide +kernel
theorem k_fm_init_146 : decode me_fm_init.2.1 146 = .ok (.aload_n 0, 1) := by decide +kernel
theorem k_fm_init_147 : decode me_fm_init.2.1 147 = .ok (.bipush 24, 2) := by decide +kernel
theorem k_fm_init_149 : decode me_fm_init.2.1 149 = .ok (.newarray .int, 2) := by decide +kernel
theorem k_fm_init_151 : decode me_fm_init.2.1 151 = .ok (.putfield 69, 3) := by decide +kernel
theorem k_fm_init_154 : decode me_fm_init.2.1 154 = .ok (.aload_n 0, 1) := by decide +kernel
theorem k_fm_init_155 : decode me_fm_init.2.1 155 = .ok (.bipush 24, 2) := by decide +kernel
theorem k_fm_init_157 : decode me_fm_init.2.1 157 = .ok (.newarray .boolean, 2) := by decide +kernel
theorem k_fm_init_159 : decode me_fm_init.2.1 159 = .ok (.putfield 72, 3) := by decide +kernel
theorem k_fm_init_162 : decode me_fm_init.2.1 162 = .ok (.aload_n 0, 1) := by decide +kernel
theorem k_fm_init_163 : decode me_fm_init.2.1 163 = .ok (.bipush 12, 2) := by decide +kernel
theorem k_fm_init_165 : decode me_fm_init.2.1 165 = .ok (.newarray .int, 2) := by decide +kernel
theorem k_fm_init_167 : decode me_fm_init.2.1 167 = .ok (.putfield 75, 3) := by decide +kernel
theorem k_fm_init_170 : decode me_fm_init.2.1 170 = .ok (.aload_n 0, 1) := by decide +kernel
theorem k_fm_init_171 : decode me_fm_init.2.1 171 = .ok (.bipush 12, 2) := by decide +kernel
theorem k_fm_init_173 : decode me_fm_init.2.1 173 = .ok (.newarray .int, 2) := by decide +kernel
theorem k_fm_init_175 : decode me_fm_init.2.1 175 = .ok (.putfield 78, 3) := by decide +kernel
theorem k_fm_init_178 : decode me_fm_init.2.1 178 = .ok (.aload_n 0, 1) := by decide +kernel
theorem k_fm_init_179 : decode me_fm_init.2.1 179 = .ok (.bipush 12, 2) := by decide +kernel
theorem k_fm_init_181 : decode me_fm_init.2.1 181 = .ok (.newarray .int, 2) := by decide +kernel
theorem k_fm_init_183 : decode me_fm_init.2.1 183 = .ok (.putfield 81, 3) := by decide +kernel
theorem k_fm_init_186 : decode me_fm_init.2.1 186 = .ok (.aload_n 0, 1) := by decide +kernel
theorem k_fm_init_187 : decode me_fm_init.2.1 187 = .ok (.bipush 12, 2) := by decide +kernel
theorem k_fm_init_189 : decode me_fm_init.2.1 189 = .ok (.newarray .int, 2) := by decide +kernel
theorem k_fm_init_191 : decode me_fm_init.2.1 191 = .ok (.putfield 84, 3) := by decide +kernel
theorem k_fm_init_194 : decode me_fm_init.2.1 194 = .ok (.aload_n 0, 1) := by decide +kernel
theorem k_fm_init_195 : decode me_fm_init.2.1 195 = .ok (.bipush 30, 2) := by decide +kernel
theorem k_fm_init_197 : decode me_fm_init.2.1 197 = .ok (.newarray .int, 2) := by decide +kernel
theorem k_fm_init_199 : decode me_fm_init.2.1 199 = .ok (.putfield 87, 3) := by decide +kernel
theorem k_fm_init_202 : decode me_fm_init.2.1 202 = .ok (.aload_n 0, 1) := by decide +kernel
theorem k_fm_init_203 : decode me_fm_init.2.1 203 = .ok (.bipush 30, 2) := by decide +kernel
theorem k_fm_init_205 : decode me_fm_init.2.1 205 = .ok (.newarray .int, 2) := by decide +kernel
theorem k_fm_init_207 : decode me_fm_init.2.1 207 = .ok (.putfield 90, 3) := by decide +kernel
theorem k_fm_init_210 : decode me_fm_init.2.1 210 = .ok (.aload_n 0, 1) := by decide +kernel
theorem k_fm_init_211 : decode me_fm_init.2.1 211 = .ok (.bipush 30, 2) := by decide +kernel
theorem k_fm_init_213 : decode me_fm_init.2.1 213 = .ok (.newarray .int, 2) := by decide +kernel
theorem k_fm_init_215 : decode me_fm_init.2.1 215 = .ok (.putfield 93, 3) := by decide +kernel
theorem k_fm_init_218 : decode me_fm_init.2.1 218 = .ok (.aload_n 0, 1) := by decide +kernel
theorem k_fm_init_219 : decode me_fm_init.2.1 219 = .ok (.bipush 30, 2) := by decide +kernel
theorem k_fm_init_221 : decode me_fm_init.2.1 221 = .ok (.newarray .int, 2) := by decide +kernel
theorem k_fm_init_223 : decode me_fm_init.2.1 223 = .ok (.putfield 96, 3) := by decide +kernel
theorem k_fm_init_226 : decode me_fm_init.2.1 226 = .ok (.aload_n 0, 1) := by decide +kernel
theorem k_fm_init_227 : decode me_fm_init.2.1 227 = .ok (.iconst 4, 1) := by decide +kernel
theorem k_fm_init_228 : decode me_fm_init.2.1 228 = .ok (.newarray .int, 2) := by decide +kernel
theorem k_fm_init_230 : decode me_fm_init.2.1 230 = .ok (.putfield 99, 3) := by decide +kernel
theorem k_fm_init_233 : decode me_fm_init.2.1 233 = .ok (.aload_n 0, 1) := by decide +kernel
theorem k_fm_init_234 : decode me_fm_init.2.1 234 = .ok (.iconst 4, 1) := by decide +kernel
theorem k_fm_init_235 : decode me_fm_init.2.1 235 = .ok (.newarray .int, 2) := by decide +kernel
theorem k_fm_init_237 : decode me_fm_init.2.1 237 = .ok (.putfield 102, 3) := by decide +kernel
theorem k_fm_init_240 : decode me_fm_init.2.1 240 = .ok (.aload_n 0, 1) := by decide +kernel
theorem k_fm_init_241 : decode me_fm_init.2.1 241 = .ok (.iconst 4, 1) := by decide +kernel
theorem k_fm_init_242 : decode me_fm_init.2.1 242 = .ok (.newarray .int, 2) := by decide +kernel
theorem k_fm_init_244 : decode me_fm_init.2.1 244 = .ok (.putfield 105, 3) := by decide +kernel
theorem k_fm_init_247 : decode me_fm_init.2.1 247 = .ok (.aload_n 0, 1) := by decide +kernel
theorem k_fm_init_248 : decode me_fm_init.2.1 248 = .ok (.bipush 24, 2) := by decide +kernel
theorem k_fm_init_250 : decode me_fm_init.2.1 250 = .ok (.newarray .boolean, 2) := by decide +kernel
theorem k_fm_init_252 : decode me_fm_init.2.1 252 = .ok (.putfield 108, 3) := by decide +kernel
theorem k_fm_init_255 : decode me_fm_init.2.1 255 = .ok (.aload_n 0, 1) := by decide +kernel
theorem k_fm_init_256 : decode me_fm_init.2.1 256 = .ok (.bipush 30, 2) := by decide +kernel
theorem k_fm_init_258 : decode me_fm_init.2.1 258 = .ok (.newarray .int, 2) := by decide +kernel
theorem k_fm_init_260 : decode me_fm_init.2.1 260 = .ok (.putfield 111, 3) := by decide +kernel
theorem k_fm_init_263 : decode me_fm_init.2.1 263 = .ok (.aload_n 0, 1) := by decide +kernel
theorem k_fm_init_264 : decode me_fm_init.2.1 264 = .ok (.sipush 576, 3) := by decide +kernel
theorem k_fm_init_267 : decode me_fm_init.2.1 267 = .ok (.newarray .int, 2) := by decide +kernel
theorem k_fm_init_269 : decode me_fm_init.2.1 269 = .ok (.putfield 114, 3) := by decide +kernel
theorem k_fm_init_272 : decode me_fm_init.2.1 272 = .ok (.aload_n 0, 1) := by decide +kernel
theorem k_fm_init_273 : decode me_fm_init.2.1 273 = .ok (.sipush 576, 3) := by decide +kernel
theorem k_fm_init_276 : decode me_fm_init.2.1 276 = .ok (.newarray .int, 2) := by decide +kernel
theorem k_fm_init_278 : decode me_fm_init.2.1 278 = .ok (.putfield 117, 3) := by decide +kernel
theorem k_fm_init_281 : decode me_fm_init.2.1 281 = .ok (.aload_n 0, 1) := by decide +kernel
theorem k_fm_init_282 : decode me_fm_init.2.1 282 = .ok (.sipush 576, 3) := by decide +kernel
theorem k_fm_init_285 : decode me_fm_init.2.1 285 = .ok (.newarray .int, 2) := by decide +kernel
theorem k_fm_init_287 : decode me_fm_init.2.1 287 = .ok (.putfield 120, 3) := by decide +kernel
theorem k_fm_init_290 : decode me_fm_init.2.1 290 = .ok (.aload_n 0, 1) := by decide +kernel
theorem k_fm_init_291 : decode me_fm_init.2.1 291 = .ok (.bipush 60, 2) := by decide +kernel
theorem k_fm_init_293 : decode me_fm_init.2.1 293 = .ok (.newarray .int, 2) := by decide +kernel
theorem k_fm_init_295 : decode me_fm_init.2.1 295 = .ok (.putfield 123, 3) := by decide +kernel
theorem k_fm_init_298 : decode me_fm_init.2.1 298 = .ok (.aload_n 0, 1) := by decide +kernel
theorem k_fm_init_299 : decode me_fm_init.2.1 299 = .ok (.bipush 60, 2) := by decide +kernel
theorem k_fm_init_301 : decode me_fm_init.2.1 301 = .ok (.newarray .boolean, 2) := by decide +kernel
theorem k_fm_init_303 : decode me_fm_init.2.1 303 = .ok (.putfield 126, 3) := by decide +kernel
theorem k_fm_init_306 : decode me_fm_init.2.1 306 = .ok (.aload_n 0, 1) := by decide +kernel
theorem k_fm_init_307 : decode me_fm_init.2.1 307 = .ok (.bipush 30, 2) := by decide +kernel
theorem k_fm_init_309 : decode me_fm_init.2.1 309 = .ok (.newarray .boolean, 2) := by decide +kernel
theorem k_fm_init_311 : decode me_fm_init.2.1 311 = .ok (.putfield 129, 3) := by decide +kernel
theorem k_fm_init_314 : decode me_fm_init.2.1 314 = .ok (.return_, 1) := by decide +kernel
theorem k_fm_tank_0 : decode me_fm_tank.2.1 0 = .ok (.iload_n 1, 1) := by decide +kernel
theorem k_fm_tank_1 : decode me_fm_tank.2.1 1 = .ok (.ifCond .lt 18, 3) := by decide +kernel
theorem k_fm_tank_4 : decode me_fm_tank.2.1 4 = .ok (.iload_n 2, 1) := by decide +kernel
theorem k_fm_tank_5 : decode me_fm_tank.2.1 5 = .ok (.iconst 1, 1) := by decide +kernel
theorem k_fm_tank_6 : decode me_fm_tank.2.1 6 = .ok (.if_icmp .lt 13, 3) := by decide +kernel
theorem k_fm_tank_9 : decode me_fm_tank.2.1 9 = .ok (.iload_n 3, 1) := by decide +kernel
theorem k_fm_tank_10 : decode me_fm_tank.2.1 10 = .ok (.iconst 1, 1) := by decide +kernel
theorem k_fm_tank_11 : decode me_fm_tank.2.1 11 = .ok (.if_icmp .lt 8, 3) := by decide +kernel
theorem k_fm_tank_14 : decode me_fm_tank.2.1 14 = .ok (.iload 4, 2) := by decide +kernel
theorem k_fm_tank_16 : decode me_fm_tank.2.1 16 = .ok (.ifCond .ge 10, 3) := by decide +kernel
theorem k_fm_tank_19 : decode me_fm_tank.2.1 19 = .ok (.aload_n 0, 1) := by decide +kernel
theorem k_fm_tank_20 : decode me_fm_tank.2.1 20 = .ok (.bipush (-4), 2) := by decide +kernel
theorem k_fm_tank_22 : decode me_fm_tank.2.1 22 = .ok (.invokevirtual 133, 3) := by decide +kernel
theorem k_fm_tank_25 : decode me_fm_tank.2.1 25 = .ok (.ireturn, 1) := by decide +kernel
theorem k_fm_tank_26 : decode me_fm_tank.2.1 26 = .ok (.iload_n 1, 1) := by decide +kernel
theorem k_fm_tank_27 : decode me_fm_tank.2.1 27 = .ok (.sipush 500, 3) := by decide +kernel
theorem k_fm_tank_30 : decode me_fm_tank.2.1 30 = .ok (.if_icmp .gt 32, 3) := by decide +kernel
theorem k_fm_tank_33 : decode me_fm_tank.2.1 33 = .ok (.iload_n 2, 1) := by decide +kernel
theorem k_fm_tank_34 : decode me_fm_tank.2.1 34 = .ok (.sipush 1000, 3) := by decide +kernel
theorem k_fm_tank_37 : decode me_fm_tank.2.1 37 = .ok (.if_icmp .gt 25, 3) := by decide +kernel
theorem k_fm_tank_40 : decode me_fm_tank.2.1 40 = .ok (.iload_n 3, 1) := by decide +kernel
theorem k_fm_tank_41 : decode me_fm_tank.2.1 41 = .ok (.bipush 60, 2) := by decide +kernel
theorem k_fm_tank_43 : decode me_fm_tank.2.1 43 = .ok (.if_icmp .gt 19, 3) := by decide +kernel
theorem k_fm_tank_46 : decode me_fm_tank.2.1 46 = .ok (.iload 4, 2) := by decide +kernel
theorem k_fm_tank_48 : decode me_fm_tank.2.1 48 = .ok (.sipush 500, 3) := by decide +kernel
theorem k_fm_tank_51 : decode me_fm_tank.2.1 51 = .ok (.if_icmp .gt 11, 3) := by decide +kernel
theorem k_fm_tank_54 : decode me_fm_tank.2.1 54 = .ok (.aload_n 0, 1) := by decide +kernel
theorem k_fm_tank_55 : decode me_fm_tank.2.1 55 = .ok (.getfield 141, 3) := by decide +kernel
theorem k_fm_tank_58 : decode me_fm_tank.2.1 58 = .ok (.iconst 4, 1) := by decide +kernel
theorem k_fm_tank_59 : decode me_fm_tank.2.1 59 = .ok (.if_icmp .ne 10, 3) := by decide +kernel
theorem k_fm_tank_62 : decode me_fm_tank.2.1 62 = .ok (.aload_n 0, 1) := by decide +kernel
theorem k_fm_tank_63 : decode me_fm_tank.2.1 63 = .ok (.bipush (-6), 2) := by decide +kernel
theorem k_fm_tank_65 : decode me_fm_tank.2.1 65 = .ok (.invokevirtual 133, 3) := by decide +kernel
theorem k_fm_tank_68 : decode me_fm_tank.2.1 68 = .ok (.ireturn, 1) := by decide +kernel
theorem k_fm_tank_69 : decode me_fm_tank.2.1 69 = .ok (.aload_n 0, 1) := by decide +kernel
theorem k_fm_tank_70 : decode me_fm_tank.2.1 70 = .ok (.getfield 17, 3) := by decide +kernel
theorem k_fm_tank_73 : decode me_fm_tank.2.1 73 = .ok (.aload_n 0, 1) := by decide +kernel
theorem k_fm_tank_74 : decode me_fm_tank.2.1 74 = .ok (.getfield 141, 3) := by decide +kernel
theorem k_fm_tank_77 : decode me_fm_tank.2.1 77 = .ok (.iload_n 1, 1) := by decide +kernel
theorem k_fm_tank_78 : decode me_fm_tank.2.1 78 = .ok (.iastore, 1) := by decide +kernel
theorem k_fm_tank_79 : decode me_fm_tank.2.1 79 = .ok (.aload_n 0, 1) := by decide +kernel
theorem k_fm_tank_80 : decode me_fm_tank.2.1 80 = .ok (.getfield 20, 3) := by decide +kernel
theorem k_fm_tank_83 : decode me_fm_tank.2.1 83 = .ok (.aload_n 0, 1) := by decide +kernel
theorem k_fm_tank_84 : decode me_fm_tank.2.1 84 = .ok (.getfield 141, 3) := by decide +kernel
theorem k_fm_tank_87 : decode me_fm_tank.2.1 87 = .ok (.iload_n 2, 1) := by decide +kernel
theorem k_fm_tank_88 : decode me_fm_tank.2.1 88 = .ok (.iastore, 1) := by decide +kernel
theorem k_fm_tank_89 : decode me_fm_tank.2.1 89 = .ok (.aload_n 0, 1) := by decide +kernel
theorem k_fm_tank_90 : decode me_fm_tank.2.1 90 = .ok (.getfield 23, 3) := by decide +kernel
theorem k_fm_tank_93 : decode me_fm_tank.2.1 93 = .ok (.aload_n 0, 1) := by decide +kernel
theorem k_fm_tank_94 : decode me_fm_tank.2.1 94 = .ok (.getfield 141, 3) := by decide +kernel
theorem k_fm_tank_97 : decode me_fm_tank.2.1 97 = .ok (.iload_n 3, 1) := by decide +kernel
theorem k_fm_tank_98 : decode me_fm_tank.2.1 98 = .ok (.iastore, 1) := by decide +kernel
theorem k_fm_tank_99 : decode me_fm_tank.2.1 99 = .ok (.aload_n 0, 1) := by decide +kernel
theorem k_fm_tank_100 : decode me_fm_tank.2.1 100 = .ok (.getfield 26, 3) := by decide +kernel
theorem k_fm_tank_103 : decode me_fm_tank.2.1 103 = .ok (.aload_n 0, 1) := by decide +kernel
theorem k_fm_tank_104 : decode me_fm_tank.2.1 104 = .ok (.getfield 141, 3) := by decide +kernel
theorem k_fm_tank_107 : decode me_fm_tank.2.1 107 = .ok (.iload 4, 2) := by decide +kernel
theorem k_fm_tank_109 : decode me_fm_tank.2.1 109 = .ok (.iastore, 1) := by decide +kernel
theorem k_fm_tank_110 : decode me_fm_tank.2.1 110 = .ok (.aload_n 0, 1) := by decide +kernel
theorem k_fm_tank_111 : decode me_fm_tank.2.1 111 = .ok (.getfield 29, 3) := by decide +kernel
theorem k_fm_tank_114 : decode me_fm_tank.2.1 114 = .ok (.aload_n 0, 1) := by decide +kernel
theorem k_fm_tank_115 : decode me_fm_tank.2.1 115 = .ok (.getfield 141, 3) := by decide +kernel
theorem k_fm_tank_118 : decode me_fm_tank.2.1 118 = .ok (.iload_n 2, 1) := by decide +kernel
theorem k_fm_tank_119 : decode me_fm_tank.2.1 119 = .ok (.iload_n 3, 1) := by decide +kernel
theorem k_fm_tank_120 : decode me_fm_tank.2.1 120 = .ok (.imul, 1) := by decide +kernel
theorem k_fm_tank_121 : decode me_fm_tank.2.1 121 = .ok (.iastore, 1) := by decide +kernel
theorem k_fm_tank_122 : decode me_fm_tank.2.1 122 = .ok (.aload_n 0, 1) := by decide +kernel
theorem k_fm_tank_123 : decode me_fm_tank.2.1 123 = .ok (.dup, 1) := by decide +kernel
theorem k_fm_tank_124 : decode me_fm_tank.2.1 124 = .ok (.getfield 141, 3) := by decide +kernel
theorem k_fm_tank_127 : decode me_fm_tank.2.1 127 = .ok (.iconst 1, 1) := by decide +kernel
theorem k_fm_tank_128 : decode me_fm_tank.2.1 128 = .ok (.iadd, 1) := by decide +kernel
theorem k_fm_tank_129 : decode me_fm_tank.2.1 129 = .ok (.putfield 141, 3) := by decide +kernel
theorem k_fm_tank_132 : decode me_fm_tank.2.1 132 = .ok (.aload_n 0, 1) := by decide +kernel
theorem k_fm_tank_133 : decode me_fm_tank.2.1 133 = .ok (.getfield 141, 3) := by decide +kernel
theorem k_fm_tank_136 : decode me_fm_tank.2.1 136 = .ok (.iconst 1, 1) := by decide +kernel
theorem k_fm_tank_137 : decode me_fm_tank.2.1 137 = .ok (.isub, 1) := by decide +kernel
theorem k_fm_tank_138 : decode me_fm_tank.2.1 138 = .ok (.ireturn, 1) := by decide +kernel
theorem k_fm_refuse_0 : decode me_fm_refuse.2.1 0 = .ok (.aload_n 0, 1) := by decide +kernel
theorem k_fm_refuse_1 : decode me_fm_refuse.2.1 1 = .ok (.getfield 9, 3) := by decide +kernel
theorem k_fm_refuse_4 : decode me_fm_refuse.2.1 4 = .ok (.iload_n 1, 1) := by decide +kernel
theorem k_fm_refuse_5 : decode me_fm_refuse.2.1 5 = .ok (.ineg, 1) := by decide +kernel
theorem k_fm_refuse_6 : decode me_fm_refuse.2.1 6 = .ok (.dup2, 1) := by decide +kernel
theorem k_fm_refuse_7 : decode me_fm_refuse.2.1 7 = .ok (.iaload, 1) := by decide +kernel
theorem k_fm_refuse_8 : decode me_fm_refuse.2.1 8 = .ok (.iconst 1, 1) := by decide +kernel
theorem k_fm_refuse_9 : decode me_fm_refuse.2.1 9 = .ok (.iadd, 1) := by decide +kernel
theorem k_fm_refuse_10 : decode me_fm_refuse.2.1 10 = .ok (.iastore, 1) := by decide +kernel
theorem k_fm_refuse_11 : decode me_fm_refuse.2.1 11 = .ok (.iload_n 1, 1) := by decide +kernel
theorem k_fm_refuse_12 : decode me_fm_refuse.2.1 12 = .ok (.ireturn, 1) := by decide +kernel
theorem k_fm_set_0 : decode me_fm_set.2.1 0 = .ok (.iload_n 1, 1) := by decide +kernel
theorem k_fm_set_1 : decode me_fm_set.2.1 1 = .ok (.aload_n 0, 1) := by decide +kernel
theorem k_fm_set_2 : decode me_fm_set.2.1 2 = .ok (.getfield 141, 3) := by decide +kernel
theorem k_fm_set_5 : decode me_fm_set.2.1 5 = .ok (.invokestatic 144, 3) := by decide +kernel
theorem k_fm_set_8 : decode me_fm_set.2.1 8 = .ok (.ifCond .ne 9, 3) := by decide +kernel
theorem k_fm_set_11 : decode me_fm_set.2.1 11 = .ok (.aload_n 0, 1) := by decide +kernel
theorem k_fm_set_12 : decode me_fm_set.2.1 12 = .ok (.iconst (-1), 1) := by decide +kernel
theorem k_fm_set_13 : decode me_fm_set.2.1 13 = .ok (.invokevirtual 133, 3) := by decide +kernel
theorem k_fm_set_16 : decode me_fm_set.2.1 16 = .ok (.ireturn, 1) := by decide +kernel
theorem k_fm_set_17 : decode me_fm_set.2.1 17 = .ok (.iload_n 2, 1) := by decide +kernel
theorem k_fm_set_18 : decode me_fm_set.2.1 18 = .ok (.iconst 2, 1) := by decide +kernel
theorem k_fm_set_19 : decode me_fm_set.2.1 19 = .ok (.invokestatic 144, 3) := by decide +kernel
theorem k_fm_set_22 : decode me_fm_set.2.1 22 = .ok (.ifCond .ne 10, 3) := by decide +kernel
theorem k_fm_set_25 : decode me_fm_set.2.1 25 = .ok (.aload_n 0, 1) := by decide +kernel
theorem k_fm_set_26 : decode me_fm_set.2.1 26 = .ok (.bipush (-2), 2) := by decide +kernel
theorem k_fm_set_28 : decode me_fm_set.2.1 28 = .ok (.invokevirtual 133, 3) := by decide +kernel
theorem k_fm_set_31 : decode me_fm_set.2.1 31 = .ok (.ireturn, 1) := by decide +kernel
theorem k_fm_set_32 : decode me_fm_set.2.1 32 = .ok (.iload_n 3, 1) := by decide +kernel
theorem k_fm_set_33 : decode me_fm_set.2.1 33 = .ok (.iconst 0, 1) := by decide +kernel
theorem k_fm_set_34 : decode me_fm_set.2.1 34 = .ok (.iload_n 2, 1) := by decide +kernel
theorem k_fm_set_35 : decode me_fm_set.2.1 35 = .ok (.ifCond .ne 9, 3) := by decide +kernel
theorem k_fm_set_38 : decode me_fm_set.2.1 38 = .ok (.sipush 500, 3) := by decide +kernel
theorem k_fm_set_41 : decode me_fm_set.2.1 41 = .ok (.goto 16, 3) := by decide +kernel
theorem k_fm_set_44 : decode me_fm_set.2.1 44 = .ok (.aload_n 0, 1) := by decide +kernel
theorem k_fm_set_45 : decode me_fm_set.2.1 45 = .ok (.getfield 20, 3) := by decide +kernel
theorem k_fm_set_48 : decode me_fm_set.2.1 48 = .ok (.iload_n 1, 1) := by decide +kernel
theorem k_fm_set_49 : decode me_fm_set.2.1 49 = .ok (.iaload, 1) := by decide +kernel
theorem k_fm_set_50 : decode me_fm_set.2.1 50 = .ok (.aload_n 0, 1) := by decide +kernel
theorem k_fm_set_51 : decode me_fm_set.2.1 51 = .ok (.getfield 23, 3) := by decide +kernel
theorem k_fm_set_54 : decode me_fm_set.2.1 54 = .ok (.iload_n 1, 1) := by decide +kernel
theorem k_fm_set_55 : decode me_fm_set.2.1 55 = .ok (.iaload, 1) := by decide +kernel
theorem k_fm_set_56 : decode me_fm_set.2.1 56 = .ok (.imul, 1) := by decide +kernel
theorem k_fm_set_57 : decode me_fm_set.2.1 57 = .ok (.invokestatic 148, 3) := by decide +kernel
theorem k_fm_set_60 : decode me_fm_set.2.1 60 = .ok (.istore 4, 2) := by decide +kernel
theorem k_fm_set_62 : decode me_fm_set.2.1 62 = .ok (.iload 4, 2) := by decide +kernel
theorem k_fm_set_64 : decode me_fm_set.2.1 64 = .ok (.ifCond .eq 10, 3) := by decide +kernel
theorem k_fm_set_67 : decode me_fm_set.2.1 67 = .ok (.aload_n 0, 1) := by decide +kernel
theorem k_fm_set_68 : decode me_fm_set.2.1 68 = .ok (.iload 4, 2) := by decide +kernel
theorem k_fm_set_70 : decode me_fm_set.2.1 70 = .ok (.invokevirtual 133, 3) := by decide +kernel
theorem k_fm_set_73 : decode me_fm_set.2.1 73 = .ok (.ireturn, 1) := by decide +kernel
theorem k_fm_set_74 : decode me_fm_set.2.1 74 = .ok (.iload_n 2, 1) := by decide +kernel
theorem k_fm_set_75 : decode me_fm_set.2.1 75 = .ok (.ifCond .ne 12, 3) := by decide +kernel
theorem k_fm_set_78 : decode me_fm_set.2.1 78 = .ok (.aload_n 0, 1) := by decide +kernel
theorem k_fm_set_79 : decode me_fm_set.2.1 79 = .ok (.getfield 26, 3) := by decide +kernel
theorem k_fm_set_82 : decode me_fm_set.2.1 82 = .ok (.iload_n 1, 1) := by decide +kernel
theorem k_fm_set_83 : decode me_fm_set.2.1 83 = .ok (.iaload, 1) := by decide +kernel
theorem k_fm_set_84 : decode me_fm_set.2.1 84 = .ok (.goto 9, 3) := by decide +kernel
theorem k_fm_set_87 : decode me_fm_set.2.1 87 = .ok (.aload_n 0, 1) := by decide +kernel
theorem k_fm_set_88 : decode me_fm_set.2.1 88 = .ok (.getfield 29, 3) := by decide +kernel
theorem k_fm_set_91 : decode me_fm_set.2.1 91 = .ok (.iload_n 1, 1) := by decide +kernel
theorem k_fm_set_92 : decode me_fm_set.2.1 92 = .ok (.iaload, 1) := by decide +kernel
theorem k_fm_set_93 : decode me_fm_set.2.1 93 = .ok (.istore 5, 2) := by decide +kernel
theorem k_fm_set_95 : decode me_fm_set.2.1 95 = .ok (.iload_n 2, 1) := by decide +kernel
theorem k_fm_set_96 : decode me_fm_set.2.1 96 = .ok (.ifCond .ne 13, 3) := by decide +kernel
theorem k_fm_set_99 : decode me_fm_set.2.1 99 = .ok (.aload_n 0, 1) := by decide +kernel
theorem k_fm_set_100 : decode me_fm_set.2.1 100 = .ok (.getfield 26, 3) := by decide +kernel
theorem k_fm_set_103 : decode me_fm_set.2.1 103 = .ok (.iload_n 1, 1) := by decide +kernel
theorem k_fm_set_104 : decode me_fm_set.2.1 104 = .ok (.iload_n 3, 1) := by decide +kernel
theorem k_fm_set_105 : decode me_fm_set.2.1 105 = .ok (.iastore, 1) := by decide +kernel
theorem k_fm_set_106 : decode me_fm_set.2.1 106 = .ok (.goto 10, 3) := by decide +kernel
theorem k_fm_set_109 : decode me_fm_set.2.1 109 = .ok (.aload_n 0, 1) := by decide +kernel
theorem k_fm_set_110 : decode me_fm_set.2.1 110 = .ok (.getfield 29, 3) := by decide +kernel
theorem k_fm_set_113 : decode me_fm_set.2.1 113 = .ok (.iload_n 1, 1) := by decide +kernel
theorem k_fm_set_114 : decode me_fm_set.2.1 114 = .ok (.iload_n 3, 1) := by decide +kernel
theorem k_fm_set_115 : decode me_fm_set.2.1 115 = .ok (.iastore, 1) := by decide +kernel
theorem k_fm_set_116 : decode me_fm_set.2.1 116 = .ok (.aload_n 0, 1) := by decide +kernel
theorem k_fm_set_117 : decode me_fm_set.2.1 117 = .ok (.invokevirtual 152, 3) := by decide +kernel
theorem k_fm_set_120 : decode me_fm_set.2.1 120 = .ok (.iload 5, 2) := by decide +kernel
theorem k_fm_set_122 : decode me_fm_set.2.1 122 = .ok (.ireturn, 1) := by decide +kernel
theorem k_fm_isIn_0 : decode me_fm_isIn.2.1 0 = .ok (.iload_n 0, 1) := by decide +kernel
theorem k_fm_isIn_1 : decode me_fm_isIn.2.1 1 = .ok (.ifCond .lt 12, 3) := by decide +kernel
theorem k_fm_isIn_4 : decode me_fm_isIn.2.1 4 = .ok (.iload_n 0, 1) := by decide +kernel
theorem k_fm_isIn_5 : decode me_fm_isIn.2.1 5 = .ok (.iload_n 1, 1) := by decide +kernel
theorem k_fm_isIn_6 : decode me_fm_isIn.2.1 6 = .ok (.if_icmp .ge 7, 3) := by decide +kernel
theorem k_fm_isIn_9 : decode me_fm_isIn.2.1 9 = .ok (.iconst 1, 1) := by decide +kernel
theorem k_fm_isIn_10 : decode me_fm_isIn.2.1 10 = .ok (.goto 4, 3) := by decide +kernel
theorem k_fm_isIn_13 : decode me_fm_isIn.2.1 13 = .ok (.iconst 0, 1) := by decide +kernel
theorem k_fm_isIn_14 : decode me_fm_isIn.2.1 14 = .ok (.ireturn, 1) := by decide +kernel
theorem k_fm_wrong_0 : decode me_fm_wrong.2.1 0 = .ok (.iload_n 0, 1) := by decide +kernel
theorem k_fm_wrong_1 : decode me_fm_wrong.2.1 1 = .ok (.iload_n 1, 1) := by decide +kernel
theorem k_fm_wrong_2 : decode me_fm_wrong.2.1 2 = .ok (.if_icmp .ge 8, 3) := by decide +kernel
theorem k_fm_wrong_5 : decode me_fm_wrong.2.1 5 = .ok (.bipush (-4), 2) := by decide +kernel
theorem k_fm_wrong_7 : decode me_fm_wrong.2.1 7 = .ok (.goto 14, 3) := by decide +kernel
theorem k_fm_wrong_10 : decode me_fm_wrong.2.1 10 = .ok (.iload_n 0, 1) := by decide +kernel
theorem k_fm_wrong_11 : decode me_fm_wrong.2.1 11 = .ok (.iload_n 2, 1) := by decide +kernel
theorem k_fm_wrong_12 : decode me_fm_wrong.2.1 12 = .ok (.if_icmp .le 8, 3) := by decide +kernel
theorem k_fm_wrong_15 : decode me_fm_wrong.2.1 15 = .ok (.bipush (-6), 2) := by decide +kernel
theorem k_fm_wrong_17 : decode me_fm_wrong.2.1 17 = .ok (.goto 4, 3) := by decide +kernel
theorem k_fm_wrong_20 : decode me_fm_wrong.2.1 20 = .ok (.iconst 0, 1) := by decide +kernel
theorem k_fm_wrong_21 : decode me_fm_wrong.2.1 21 = .ok (.ireturn, 1) := by decide +kernel
theorem k_fm_changes_0 : decode me_fm_changes.2.1 0 = .ok (.aload_n 0, 1) := by decide +kernel
theorem k_fm_changes_1 : decode me_fm_changes.2.1 1 = .ok (.iconst 0, 1) := by decide +kernel
theorem k_fm_changes_2 : decode me_fm_changes.2.1 2 = .ok (.putfield 137, 3) := by decide +kernel
theorem k_fm_changes_5 : decode me_fm_changes.2.1 5 = .ok (.return_, 1) := by decide +kernel
theorem k_fm_joint_0 : decode me_fm_joint.2.1 0 = .ok (.iload_n 2, 1) := by decide +kernel
theorem k_fm_joint_1 : decode me_fm_joint.2.1 1 = .ok (.iload_n 1, 1) := by decide +kernel
theorem k_fm_joint_2 : decode me_fm_joint.2.1 2 = .ok (.ifCond .eq 10, 3) := by decide +kernel
theorem k_fm_joint_5 : decode me_fm_joint.2.1 5 = .ok (.aload_n 0, 1) := by decide +kernel
theorem k_fm_joint_6 : decode me_fm_joint.2.1 6 = .ok (.getfield 141, 3) := by decide +kernel
theorem k_fm_joint_9 : decode me_fm_joint.2.1 9 = .ok (.goto 7, 3) := by decide +kernel
theorem k_fm_joint_12 : decode me_fm_joint.2.1 12 = .ok (.aload_n 0, 1) := by decide +kernel
theorem k_fm_joint_13 : decode me_fm_joint.2.1 13 = .ok (.getfield 155, 3) := by decide +kernel
theorem k_fm_joint_16 : decode me_fm_joint.2.1 16 = .ok (.invokestatic 144, 3) := by decide +kernel
theorem k_fm_joint_19 : decode me_fm_joint.2.1 19 = .ok (.ifCond .ne 9, 3) := by decide +kernel
theorem k_fm_joint_22 : decode me_fm_joint.2.1 22 = .ok (.aload_n 0, 1) := by decide +kernel
theorem k_fm_joint_23 : decode me_fm_joint.2.1 23 = .ok (.iconst (-1), 1) := by decide +kernel
theorem k_fm_joint_24 : decode me_fm_joint.2.1 24 = .ok (.invokevirtual 133, 3) := by decide +kernel
theorem k_fm_joint_27 : decode me_fm_joint.2.1 27 = .ok (.ireturn, 1) := by decide +kernel
theorem k_fm_joint_28 : decode me_fm_joint.2.1 28 = .ok (.iload_n 3, 1) := by decide +kernel
theorem k_fm_joint_29 : decode me_fm_joint.2.1 29 = .ok (.ifCond .lt 15, 3) := by decide +kernel
theorem k_fm_joint_32 : decode me_fm_joint.2.1 32 = .ok (.iload 4, 2) := by decide +kernel
end
section
/-! printed by my own program: decode rows -/
theorem k_fm_joint_34 : decode me_fm_joint.2.1 34 = .ok (.iconst 1, 1) := by decide +kernel
theorem k_fm_joint_35 : decode me_fm_joint.2.1 35 = .ok (.if_icmp .lt 9, 3) := by decide +kernel
theorem k_fm_joint_38 : decode me_fm_joint.2.1 38 = .ok (.iload 5, 2) := by decide +kernel
theorem k_fm_joint_40 : decode me_fm_joint.2.1 40 = .ok (.iconst 1, 1) := by decide +kernel
theorem k_fm_joint_41 : decode me_fm_joint.2.1 41 = .ok (.if_icmp .ge 10, 3) := by decide +kernel
theorem k_fm_joint_44 : decode me_fm_joint.2.1 44 = .ok (.aload_n 0, 1) := by decide +kernel
theorem k_fm_joint_45 : decode me_fm_joint.2.1 45 = .ok (.bipush (-4), 2) := by decide +kernel
theorem k_fm_joint_47 : decode me_fm_joint.2.1 47 = .ok (.invokevirtual 133, 3) := by decide +kernel
theorem k_fm_joint_50 : decode me_fm_joint.2.1 50 = .ok (.ireturn, 1) := by decide +kernel
theorem k_fm_joint_51 : decode me_fm_joint.2.1 51 = .ok (.iload_n 3, 1) := by decide +kernel
theorem k_fm_joint_52 : decode me_fm_joint.2.1 52 = .ok (.sipush 500, 3) := by decide +kernel
theorem k_fm_joint_55 : decode me_fm_joint.2.1 55 = .ok (.if_icmp .gt 27, 3) := by decide +kernel
theorem k_fm_joint_58 : decode me_fm_joint.2.1 58 = .ok (.iload 4, 2) := by decide +kernel
theorem k_fm_joint_60 : decode me_fm_joint.2.1 60 = .ok (.bipush 9, 2) := by decide +kernel
theorem k_fm_joint_62 : decode me_fm_joint.2.1 62 = .ok (.if_icmp .gt 20, 3) := by decide +kernel
theorem k_fm_joint_65 : decode me_fm_joint.2.1 65 = .ok (.iload 5, 2) := by decide +kernel
theorem k_fm_joint_67 : decode me_fm_joint.2.1 67 = .ok (.sipush 200, 3) := by decide +kernel
theorem k_fm_joint_70 : decode me_fm_joint.2.1 70 = .ok (.if_icmp .gt 12, 3) := by decide +kernel
theorem k_fm_joint_73 : decode me_fm_joint.2.1 73 = .ok (.aload_n 0, 1) := by decide +kernel
theorem k_fm_joint_74 : decode me_fm_joint.2.1 74 = .ok (.getfield 155, 3) := by decide +kernel
theorem k_fm_joint_77 : decode me_fm_joint.2.1 77 = .ok (.bipush 30, 2) := by decide +kernel
theorem k_fm_joint_79 : decode me_fm_joint.2.1 79 = .ok (.if_icmp .ne 10, 3) := by decide +kernel
theorem k_fm_joint_82 : decode me_fm_joint.2.1 82 = .ok (.aload_n 0, 1) := by decide +kernel
theorem k_fm_joint_83 : decode me_fm_joint.2.1 83 = .ok (.bipush (-6), 2) := by decide +kernel
theorem k_fm_joint_85 : decode me_fm_joint.2.1 85 = .ok (.invokevirtual 133, 3) := by decide +kernel
theorem k_fm_joint_88 : decode me_fm_joint.2.1 88 = .ok (.ireturn, 1) := by decide +kernel
theorem k_fm_joint_89 : decode me_fm_joint.2.1 89 = .ok (.iload_n 1, 1) := by decide +kernel
theorem k_fm_joint_90 : decode me_fm_joint.2.1 90 = .ok (.ifCond .ne 19, 3) := by decide +kernel
theorem k_fm_joint_93 : decode me_fm_joint.2.1 93 = .ok (.aload_n 0, 1) := by decide +kernel
theorem k_fm_joint_94 : decode me_fm_joint.2.1 94 = .ok (.getfield 59, 3) := by decide +kernel
theorem k_fm_joint_97 : decode me_fm_joint.2.1 97 = .ok (.iload_n 2, 1) := by decide +kernel
theorem k_fm_joint_98 : decode me_fm_joint.2.1 98 = .ok (.baload, 1) := by decide +kernel
theorem k_fm_joint_99 : decode me_fm_joint.2.1 99 = .ok (.ifCond .eq 10, 3) := by decide +kernel
theorem k_fm_joint_102 : decode me_fm_joint.2.1 102 = .ok (.aload_n 0, 1) := by decide +kernel
theorem k_fm_joint_103 : decode me_fm_joint.2.1 103 = .ok (.bipush (-3), 2) := by decide +kernel
theorem k_fm_joint_105 : decode me_fm_joint.2.1 105 = .ok (.invokevirtual 133, 3) := by decide +kernel
theorem k_fm_joint_108 : decode me_fm_joint.2.1 108 = .ok (.ireturn, 1) := by decide +kernel
theorem k_fm_joint_109 : decode me_fm_joint.2.1 109 = .ok (.aload_n 0, 1) := by decide +kernel
theorem k_fm_joint_110 : decode me_fm_joint.2.1 110 = .ok (.getfield 38, 3) := by decide +kernel
theorem k_fm_joint_113 : decode me_fm_joint.2.1 113 = .ok (.aload_n 0, 1) := by decide +kernel
theorem k_fm_joint_114 : decode me_fm_joint.2.1 114 = .ok (.getfield 155, 3) := by decide +kernel
theorem k_fm_joint_117 : decode me_fm_joint.2.1 117 = .ok (.iload_n 1, 1) := by decide +kernel
theorem k_fm_joint_118 : decode me_fm_joint.2.1 118 = .ok (.ifCond .eq 8, 3) := by decide +kernel
theorem k_fm_joint_121 : decode me_fm_joint.2.1 121 = .ok (.bipush (-9), 2) := by decide +kernel
theorem k_fm_joint_123 : decode me_fm_joint.2.1 123 = .ok (.goto 4, 3) := by decide +kernel
theorem k_fm_joint_126 : decode me_fm_joint.2.1 126 = .ok (.iload_n 2, 1) := by decide +kernel
theorem k_fm_joint_127 : decode me_fm_joint.2.1 127 = .ok (.iastore, 1) := by decide +kernel
theorem k_fm_joint_128 : decode me_fm_joint.2.1 128 = .ok (.aload_n 0, 1) := by decide +kernel
theorem k_fm_joint_129 : decode me_fm_joint.2.1 129 = .ok (.getfield 41, 3) := by decide +kernel
theorem k_fm_joint_132 : decode me_fm_joint.2.1 132 = .ok (.aload_n 0, 1) := by decide +kernel
theorem k_fm_joint_133 : decode me_fm_joint.2.1 133 = .ok (.getfield 155, 3) := by decide +kernel
theorem k_fm_joint_136 : decode me_fm_joint.2.1 136 = .ok (.iload_n 1, 1) := by decide +kernel
theorem k_fm_joint_137 : decode me_fm_joint.2.1 137 = .ok (.ifCond .eq 7, 3) := by decide +kernel
theorem k_fm_joint_140 : decode me_fm_joint.2.1 140 = .ok (.iload_n 2, 1) := by decide +kernel
theorem k_fm_joint_141 : decode me_fm_joint.2.1 141 = .ok (.goto 9, 3) := by decide +kernel
theorem k_fm_joint_144 : decode me_fm_joint.2.1 144 = .ok (.aload_n 0, 1) := by decide +kernel
theorem k_fm_joint_145 : decode me_fm_joint.2.1 145 = .ok (.getfield 41, 3) := by decide +kernel
theorem k_fm_joint_148 : decode me_fm_joint.2.1 148 = .ok (.iload_n 2, 1) := by decide +kernel
theorem k_fm_joint_149 : decode me_fm_joint.2.1 149 = .ok (.iaload, 1) := by decide +kernel
theorem k_fm_joint_150 : decode me_fm_joint.2.1 150 = .ok (.iastore, 1) := by decide +kernel
theorem k_fm_joint_151 : decode me_fm_joint.2.1 151 = .ok (.aload_n 0, 1) := by decide +kernel
theorem k_fm_joint_152 : decode me_fm_joint.2.1 152 = .ok (.getfield 44, 3) := by decide +kernel
theorem k_fm_joint_155 : decode me_fm_joint.2.1 155 = .ok (.aload_n 0, 1) := by decide +kernel
theorem k_fm_joint_156 : decode me_fm_joint.2.1 156 = .ok (.getfield 155, 3) := by decide +kernel
theorem k_fm_joint_159 : decode me_fm_joint.2.1 159 = .ok (.iload_n 3, 1) := by decide +kernel
theorem k_fm_joint_160 : decode me_fm_joint.2.1 160 = .ok (.iastore, 1) := by decide +kernel
theorem k_fm_joint_161 : decode me_fm_joint.2.1 161 = .ok (.aload_n 0, 1) := by decide +kernel
theorem k_fm_joint_162 : decode me_fm_joint.2.1 162 = .ok (.getfield 47, 3) := by decide +kernel
theorem k_fm_joint_165 : decode me_fm_joint.2.1 165 = .ok (.aload_n 0, 1) := by decide +kernel
theorem k_fm_joint_166 : decode me_fm_joint.2.1 166 = .ok (.getfield 155, 3) := by decide +kernel
theorem k_fm_joint_169 : decode me_fm_joint.2.1 169 = .ok (.iload 4, 2) := by decide +kernel
theorem k_fm_joint_171 : decode me_fm_joint.2.1 171 = .ok (.iastore, 1) := by decide +kernel
theorem k_fm_joint_172 : decode me_fm_joint.2.1 172 = .ok (.aload_n 0, 1) := by decide +kernel
theorem k_fm_joint_173 : decode me_fm_joint.2.1 173 = .ok (.getfield 50, 3) := by decide +kernel
theorem k_fm_joint_176 : decode me_fm_joint.2.1 176 = .ok (.aload_n 0, 1) := by decide +kernel
theorem k_fm_joint_177 : decode me_fm_joint.2.1 177 = .ok (.getfield 155, 3) := by decide +kernel
theorem k_fm_joint_180 : decode me_fm_joint.2.1 180 = .ok (.iload 5, 2) := by decide +kernel
theorem k_fm_joint_182 : decode me_fm_joint.2.1 182 = .ok (.iastore, 1) := by decide +kernel
theorem k_fm_joint_183 : decode me_fm_joint.2.1 183 = .ok (.aload_n 0, 1) := by decide +kernel
theorem k_fm_joint_184 : decode me_fm_joint.2.1 184 = .ok (.getfield 56, 3) := by decide +kernel
theorem k_fm_joint_187 : decode me_fm_joint.2.1 187 = .ok (.aload_n 0, 1) := by decide +kernel
theorem k_fm_joint_188 : decode me_fm_joint.2.1 188 = .ok (.getfield 155, 3) := by decide +kernel
theorem k_fm_joint_191 : decode me_fm_joint.2.1 191 = .ok (.bipush (-9), 2) := by decide +kernel
theorem k_fm_joint_193 : decode me_fm_joint.2.1 193 = .ok (.iastore, 1) := by decide +kernel
theorem k_fm_joint_194 : decode me_fm_joint.2.1 194 = .ok (.aload_n 0, 1) := by decide +kernel
theorem k_fm_joint_195 : decode me_fm_joint.2.1 195 = .ok (.dup, 1) := by decide +kernel
theorem k_fm_joint_196 : decode me_fm_joint.2.1 196 = .ok (.getfield 155, 3) := by decide +kernel
theorem k_fm_joint_199 : decode me_fm_joint.2.1 199 = .ok (.iconst 1, 1) := by decide +kernel
theorem k_fm_joint_200 : decode me_fm_joint.2.1 200 = .ok (.iadd, 1) := by decide +kernel
theorem k_fm_joint_201 : decode me_fm_joint.2.1 201 = .ok (.putfield 155, 3) := by decide +kernel
theorem k_fm_joint_204 : decode me_fm_joint.2.1 204 = .ok (.aload_n 0, 1) := by decide +kernel
theorem k_fm_joint_205 : decode me_fm_joint.2.1 205 = .ok (.invokevirtual 152, 3) := by decide +kernel
theorem k_fm_joint_208 : decode me_fm_joint.2.1 208 = .ok (.aload_n 0, 1) := by decide +kernel
theorem k_fm_joint_209 : decode me_fm_joint.2.1 209 = .ok (.getfield 155, 3) := by decide +kernel
theorem k_fm_joint_212 : decode me_fm_joint.2.1 212 = .ok (.iconst 1, 1) := by decide +kernel
theorem k_fm_joint_213 : decode me_fm_joint.2.1 213 = .ok (.isub, 1) := by decide +kernel
theorem k_fm_joint_214 : decode me_fm_joint.2.1 214 = .ok (.ireturn, 1) := by decide +kernel
theorem k_fm_jet_0 : decode me_fm_jet.2.1 0 = .ok (.aload_n 0, 1) := by decide +kernel
theorem k_fm_jet_1 : decode me_fm_jet.2.1 1 = .ok (.iload_n 1, 1) := by decide +kernel
theorem k_fm_jet_2 : decode me_fm_jet.2.1 2 = .ok (.invokevirtual 161, 3) := by decide +kernel
theorem k_fm_jet_5 : decode me_fm_jet.2.1 5 = .ok (.ifCond .ne 9, 3) := by decide +kernel
theorem k_fm_jet_8 : decode me_fm_jet.2.1 8 = .ok (.aload_n 0, 1) := by decide +kernel
theorem k_fm_jet_9 : decode me_fm_jet.2.1 9 = .ok (.iconst (-1), 1) := by decide +kernel
theorem k_fm_jet_10 : decode me_fm_jet.2.1 10 = .ok (.invokevirtual 133, 3) := by decide +kernel
theorem k_fm_jet_13 : decode me_fm_jet.2.1 13 = .ok (.ireturn, 1) := by decide +kernel
theorem k_fm_jet_14 : decode me_fm_jet.2.1 14 = .ok (.aload_n 0, 1) := by decide +kernel
theorem k_fm_jet_15 : decode me_fm_jet.2.1 15 = .ok (.getfield 56, 3) := by decide +kernel
theorem k_fm_jet_18 : decode me_fm_jet.2.1 18 = .ok (.iload_n 1, 1) := by decide +kernel
theorem k_fm_jet_19 : decode me_fm_jet.2.1 19 = .ok (.iaload, 1) := by decide +kernel
theorem k_fm_jet_20 : decode me_fm_jet.2.1 20 = .ok (.ifCond .lt 10, 3) := by decide +kernel
theorem k_fm_jet_23 : decode me_fm_jet.2.1 23 = .ok (.aload_n 0, 1) := by decide +kernel
theorem k_fm_jet_24 : decode me_fm_jet.2.1 24 = .ok (.bipush (-3), 2) := by decide +kernel
theorem k_fm_jet_26 : decode me_fm_jet.2.1 26 = .ok (.invokevirtual 133, 3) := by decide +kernel
theorem k_fm_jet_29 : decode me_fm_jet.2.1 29 = .ok (.ireturn, 1) := by decide +kernel
theorem k_fm_jet_30 : decode me_fm_jet.2.1 30 = .ok (.iload_n 2, 1) := by decide +kernel
theorem k_fm_jet_31 : decode me_fm_jet.2.1 31 = .ok (.iconst 1, 1) := by decide +kernel
theorem k_fm_jet_32 : decode me_fm_jet.2.1 32 = .ok (.if_icmp .ge 10, 3) := by decide +kernel
theorem k_fm_jet_35 : decode me_fm_jet.2.1 35 = .ok (.aload_n 0, 1) := by decide +kernel
theorem k_fm_jet_36 : decode me_fm_jet.2.1 36 = .ok (.bipush (-4), 2) := by decide +kernel
theorem k_fm_jet_38 : decode me_fm_jet.2.1 38 = .ok (.invokevirtual 133, 3) := by decide +kernel
theorem k_fm_jet_41 : decode me_fm_jet.2.1 41 = .ok (.ireturn, 1) := by decide +kernel
theorem k_fm_jet_42 : decode me_fm_jet.2.1 42 = .ok (.iload_n 2, 1) := by decide +kernel
theorem k_fm_jet_43 : decode me_fm_jet.2.1 43 = .ok (.bipush 60, 2) := by decide +kernel
theorem k_fm_jet_45 : decode me_fm_jet.2.1 45 = .ok (.if_icmp .gt 12, 3) := by decide +kernel
theorem k_fm_jet_48 : decode me_fm_jet.2.1 48 = .ok (.aload_n 0, 1) := by decide +kernel
theorem k_fm_jet_49 : decode me_fm_jet.2.1 49 = .ok (.getfield 158, 3) := by decide +kernel
theorem k_fm_jet_52 : decode me_fm_jet.2.1 52 = .ok (.bipush 24, 2) := by decide +kernel
theorem k_fm_jet_54 : decode me_fm_jet.2.1 54 = .ok (.if_icmp .ne 10, 3) := by decide +kernel
theorem k_fm_jet_57 : decode me_fm_jet.2.1 57 = .ok (.aload_n 0, 1) := by decide +kernel
theorem k_fm_jet_58 : decode me_fm_jet.2.1 58 = .ok (.bipush (-6), 2) := by decide +kernel
theorem k_fm_jet_60 : decode me_fm_jet.2.1 60 = .ok (.invokevirtual 133, 3) := by decide +kernel
theorem k_fm_jet_63 : decode me_fm_jet.2.1 63 = .ok (.ireturn, 1) := by decide +kernel
theorem k_fm_jet_64 : decode me_fm_jet.2.1 64 = .ok (.aload_n 0, 1) := by decide +kernel
theorem k_fm_jet_65 : decode me_fm_jet.2.1 65 = .ok (.getfield 63, 3) := by decide +kernel
theorem k_fm_jet_68 : decode me_fm_jet.2.1 68 = .ok (.aload_n 0, 1) := by decide +kernel
theorem k_fm_jet_69 : decode me_fm_jet.2.1 69 = .ok (.getfield 158, 3) := by decide +kernel
theorem k_fm_jet_72 : decode me_fm_jet.2.1 72 = .ok (.iload_n 1, 1) := by decide +kernel
theorem k_fm_jet_73 : decode me_fm_jet.2.1 73 = .ok (.iastore, 1) := by decide +kernel
theorem k_fm_jet_74 : decode me_fm_jet.2.1 74 = .ok (.aload_n 0, 1) := by decide +kernel
theorem k_fm_jet_75 : decode me_fm_jet.2.1 75 = .ok (.getfield 66, 3) := by decide +kernel
theorem k_fm_jet_78 : decode me_fm_jet.2.1 78 = .ok (.aload_n 0, 1) := by decide +kernel
theorem k_fm_jet_79 : decode me_fm_jet.2.1 79 = .ok (.getfield 158, 3) := by decide +kernel
theorem k_fm_jet_82 : decode me_fm_jet.2.1 82 = .ok (.iload_n 2, 1) := by decide +kernel
theorem k_fm_jet_83 : decode me_fm_jet.2.1 83 = .ok (.iastore, 1) := by decide +kernel
theorem k_fm_jet_84 : decode me_fm_jet.2.1 84 = .ok (.aload_n 0, 1) := by decide +kernel
theorem k_fm_jet_85 : decode me_fm_jet.2.1 85 = .ok (.getfield 69, 3) := by decide +kernel
theorem k_fm_jet_88 : decode me_fm_jet.2.1 88 = .ok (.aload_n 0, 1) := by decide +kernel
theorem k_fm_jet_89 : decode me_fm_jet.2.1 89 = .ok (.getfield 158, 3) := by decide +kernel
theorem k_fm_jet_92 : decode me_fm_jet.2.1 92 = .ok (.iconst (-1), 1) := by decide +kernel
theorem k_fm_jet_93 : decode me_fm_jet.2.1 93 = .ok (.iastore, 1) := by decide +kernel
theorem k_fm_jet_94 : decode me_fm_jet.2.1 94 = .ok (.aload_n 0, 1) := by decide +kernel
theorem k_fm_jet_95 : decode me_fm_jet.2.1 95 = .ok (.getfield 56, 3) := by decide +kernel
theorem k_fm_jet_98 : decode me_fm_jet.2.1 98 = .ok (.iload_n 1, 1) := by decide +kernel
theorem k_fm_jet_99 : decode me_fm_jet.2.1 99 = .ok (.aload_n 0, 1) := by decide +kernel
theorem k_fm_jet_100 : decode me_fm_jet.2.1 100 = .ok (.getfield 158, 3) := by decide +kernel
theorem k_fm_jet_103 : decode me_fm_jet.2.1 103 = .ok (.iastore, 1) := by decide +kernel
theorem k_fm_jet_104 : decode me_fm_jet.2.1 104 = .ok (.aload_n 0, 1) := by decide +kernel
theorem k_fm_jet_105 : decode me_fm_jet.2.1 105 = .ok (.dup, 1) := by decide +kernel
theorem k_fm_jet_106 : decode me_fm_jet.2.1 106 = .ok (.getfield 158, 3) := by decide +kernel
theorem k_fm_jet_109 : decode me_fm_jet.2.1 109 = .ok (.iconst 1, 1) := by decide +kernel
theorem k_fm_jet_110 : decode me_fm_jet.2.1 110 = .ok (.iadd, 1) := by decide +kernel
theorem k_fm_jet_111 : decode me_fm_jet.2.1 111 = .ok (.putfield 158, 3) := by decide +kernel
theorem k_fm_jet_114 : decode me_fm_jet.2.1 114 = .ok (.aload_n 0, 1) := by decide +kernel
theorem k_fm_jet_115 : decode me_fm_jet.2.1 115 = .ok (.getfield 158, 3) := by decide +kernel
theorem k_fm_jet_118 : decode me_fm_jet.2.1 118 = .ok (.iconst 1, 1) := by decide +kernel
theorem k_fm_jet_119 : decode me_fm_jet.2.1 119 = .ok (.isub, 1) := by decide +kernel
theorem k_fm_jet_120 : decode me_fm_jet.2.1 120 = .ok (.ireturn, 1) := by decide +kernel
theorem k_fm_isJoint_0 : decode me_fm_isJoint.2.1 0 = .ok (.iload_n 1, 1) := by decide +kernel
theorem k_fm_isJoint_1 : decode me_fm_isJoint.2.1 1 = .ok (.aload_n 0, 1) := by decide +kernel
theorem k_fm_isJoint_2 : decode me_fm_isJoint.2.1 2 = .ok (.getfield 155, 3) := by decide +kernel
theorem k_fm_isJoint_5 : decode me_fm_isJoint.2.1 5 = .ok (.invokestatic 144, 3) := by decide +kernel
theorem k_fm_isJoint_8 : decode me_fm_isJoint.2.1 8 = .ok (.ireturn, 1) := by decide +kernel
theorem k_fm_play_0 : decode me_fm_play.2.1 0 = .ok (.aload_n 0, 1) := by decide +kernel
theorem k_fm_play_1 : decode me_fm_play.2.1 1 = .ok (.iload_n 1, 1) := by decide +kernel
theorem k_fm_play_2 : decode me_fm_play.2.1 2 = .ok (.invokevirtual 165, 3) := by decide +kernel
theorem k_fm_play_5 : decode me_fm_play.2.1 5 = .ok (.ifCond .ne 9, 3) := by decide +kernel
theorem k_fm_play_8 : decode me_fm_play.2.1 8 = .ok (.aload_n 0, 1) := by decide +kernel
theorem k_fm_play_9 : decode me_fm_play.2.1 9 = .ok (.iconst (-1), 1) := by decide +kernel
theorem k_fm_play_10 : decode me_fm_play.2.1 10 = .ok (.invokevirtual 133, 3) := by decide +kernel
theorem k_fm_play_13 : decode me_fm_play.2.1 13 = .ok (.ireturn, 1) := by decide +kernel
theorem k_fm_play_14 : decode me_fm_play.2.1 14 = .ok (.iload_n 2, 1) := by decide +kernel
theorem k_fm_play_15 : decode me_fm_play.2.1 15 = .ok (.ifCond .eq 23, 3) := by decide +kernel
theorem k_fm_play_18 : decode me_fm_play.2.1 18 = .ok (.aload_n 0, 1) := by decide +kernel
theorem k_fm_play_19 : decode me_fm_play.2.1 19 = .ok (.aload_n 0, 1) := by decide +kernel
theorem k_fm_play_20 : decode me_fm_play.2.1 20 = .ok (.getfield 63, 3) := by decide +kernel
theorem k_fm_play_23 : decode me_fm_play.2.1 23 = .ok (.iload_n 1, 1) := by decide +kernel
theorem k_fm_play_24 : decode me_fm_play.2.1 24 = .ok (.iaload, 1) := by decide +kernel
theorem k_fm_play_25 : decode me_fm_play.2.1 25 = .ok (.invokevirtual 168, 3) := by decide +kernel
theorem k_fm_play_28 : decode me_fm_play.2.1 28 = .ok (.ifCond .eq 10, 3) := by decide +kernel
theorem k_fm_play_31 : decode me_fm_play.2.1 31 = .ok (.aload_n 0, 1) := by decide +kernel
theorem k_fm_play_32 : decode me_fm_play.2.1 32 = .ok (.bipush (-3), 2) := by decide +kernel
theorem k_fm_play_34 : decode me_fm_play.2.1 34 = .ok (.invokevirtual 133, 3) := by decide +kernel
theorem k_fm_play_37 : decode me_fm_play.2.1 37 = .ok (.ireturn, 1) := by decide +kernel
theorem k_fm_play_38 : decode me_fm_play.2.1 38 = .ok (.aload_n 0, 1) := by decide +kernel
theorem k_fm_play_39 : decode me_fm_play.2.1 39 = .ok (.getfield 72, 3) := by decide +kernel
theorem k_fm_play_42 : decode me_fm_play.2.1 42 = .ok (.iload_n 1, 1) := by decide +kernel
theorem k_fm_play_43 : decode me_fm_play.2.1 43 = .ok (.baload, 1) := by decide +kernel
theorem k_fm_play_44 : decode me_fm_play.2.1 44 = .ok (.iload_n 2, 1) := by decide +kernel
theorem k_fm_play_45 : decode me_fm_play.2.1 45 = .ok (.if_icmp .ne 5, 3) := by decide +kernel
theorem k_fm_play_48 : decode me_fm_play.2.1 48 = .ok (.iconst 0, 1) := by decide +kernel
theorem k_fm_play_49 : decode me_fm_play.2.1 49 = .ok (.ireturn, 1) := by decide +kernel
theorem k_fm_play_50 : decode me_fm_play.2.1 50 = .ok (.aload_n 0, 1) := by decide +kernel
theorem k_fm_play_51 : decode me_fm_play.2.1 51 = .ok (.getfield 72, 3) := by decide +kernel
theorem k_fm_play_54 : decode me_fm_play.2.1 54 = .ok (.iload_n 1, 1) := by decide +kernel
theorem k_fm_play_55 : decode me_fm_play.2.1 55 = .ok (.iload_n 2, 1) := by decide +kernel
theorem k_fm_play_56 : decode me_fm_play.2.1 56 = .ok (.bastore, 1) := by decide +kernel
theorem k_fm_play_57 : decode me_fm_play.2.1 57 = .ok (.aload_n 0, 1) := by decide +kernel
theorem k_fm_play_58 : decode me_fm_play.2.1 58 = .ok (.invokevirtual 152, 3) := by decide +kernel
theorem k_fm_play_61 : decode me_fm_play.2.1 61 = .ok (.iconst 1, 1) := by decide +kernel
theorem k_fm_play_62 : decode me_fm_play.2.1 62 = .ok (.ireturn, 1) := by decide +kernel
theorem k_fm_isJet_0 : decode me_fm_isJet.2.1 0 = .ok (.iload_n 1, 1) := by decide +kernel
theorem k_fm_isJet_1 : decode me_fm_isJet.2.1 1 = .ok (.aload_n 0, 1) := by decide +kernel
theorem k_fm_isJet_2 : decode me_fm_isJet.2.1 2 = .ok (.getfield 158, 3) := by decide +kernel
theorem k_fm_isJet_5 : decode me_fm_isJet.2.1 5 = .ok (.invokestatic 144, 3) := by decide +kernel
theorem k_fm_isJet_8 : decode me_fm_isJet.2.1 8 = .ok (.ireturn, 1) := by decide +kernel
theorem k_fm_isCut_0 : decode me_fm_isCut.2.1 0 = .ok (.iconst 0, 1) := by decide +kernel
theorem k_fm_isCut_1 : decode me_fm_isCut.2.1 1 = .ok (.istore_n 2, 1) := by decide +kernel
theorem k_fm_isCut_2 : decode me_fm_isCut.2.1 2 = .ok (.iload_n 1, 1) := by decide +kernel
theorem k_fm_isCut_3 : decode me_fm_isCut.2.1 3 = .ok (.istore_n 3, 1) := by decide +kernel
theorem k_fm_isCut_4 : decode me_fm_isCut.2.1 4 = .ok (.iload_n 3, 1) := by decide +kernel
theorem k_fm_isCut_5 : decode me_fm_isCut.2.1 5 = .ok (.ifCond .lt 32, 3) := by decide +kernel
theorem k_fm_isCut_8 : decode me_fm_isCut.2.1 8 = .ok (.iload_n 2, 1) := by decide +kernel
theorem k_fm_isCut_9 : decode me_fm_isCut.2.1 9 = .ok (.ifCond .ne 12, 3) := by decide +kernel
theorem k_fm_isCut_12 : decode me_fm_isCut.2.1 12 = .ok (.aload_n 0, 1) := by decide +kernel
theorem k_fm_isCut_13 : decode me_fm_isCut.2.1 13 = .ok (.getfield 59, 3) := by decide +kernel
theorem k_fm_isCut_16 : decode me_fm_isCut.2.1 16 = .ok (.iload_n 3, 1) := by decide +kernel
theorem k_fm_isCut_17 : decode me_fm_isCut.2.1 17 = .ok (.baload, 1) := by decide +kernel
theorem k_fm_isCut_18 : decode me_fm_isCut.2.1 18 = .ok (.ifCond .eq 7, 3) := by decide +kernel
theorem k_fm_isCut_21 : decode me_fm_isCut.2.1 21 = .ok (.iconst 1, 1) := by decide +kernel
theorem k_fm_isCut_22 : decode me_fm_isCut.2.1 22 = .ok (.goto 4, 3) := by decide +kernel
theorem k_fm_isCut_25 : decode me_fm_isCut.2.1 25 = .ok (.iconst 0, 1) := by decide +kernel
theorem k_fm_isCut_26 : decode me_fm_isCut.2.1 26 = .ok (.istore_n 2, 1) := by decide +kernel
theorem k_fm_isCut_27 : decode me_fm_isCut.2.1 27 = .ok (.aload_n 0, 1) := by decide +kernel
theorem k_fm_isCut_28 : decode me_fm_isCut.2.1 28 = .ok (.getfield 38, 3) := by decide +kernel
theorem k_fm_isCut_31 : decode me_fm_isCut.2.1 31 = .ok (.iload_n 3, 1) := by decide +kernel
theorem k_fm_isCut_32 : decode me_fm_isCut.2.1 32 = .ok (.iaload, 1) := by decide +kernel
theorem k_fm_isCut_33 : decode me_fm_isCut.2.1 33 = .ok (.istore_n 3, 1) := by decide +kernel
theorem k_fm_isCut_34 : decode me_fm_isCut.2.1 34 = .ok (.goto (-30), 3) := by decide +kernel
theorem k_fm_isCut_37 : decode me_fm_isCut.2.1 37 = .ok (.iload_n 2, 1) := by decide +kernel
theorem k_fm_isCut_38 : decode me_fm_isCut.2.1 38 = .ok (.ireturn, 1) := by decide +kernel
theorem k_fm_pipe_0 : decode me_fm_pipe.2.1 0 = .ok (.aload_n 0, 1) := by decide +kernel
theorem k_fm_pipe_1 : decode me_fm_pipe.2.1 1 = .ok (.iload_n 1, 1) := by decide +kernel
theorem k_fm_pipe_2 : decode me_fm_pipe.2.1 2 = .ok (.invokevirtual 161, 3) := by decide +kernel
theorem k_fm_pipe_5 : decode me_fm_pipe.2.1 5 = .ok (.ifCond .eq 13, 3) := by decide +kernel
theorem k_fm_pipe_8 : decode me_fm_pipe.2.1 8 = .ok (.iload_n 2, 1) := by decide +kernel
theorem k_fm_pipe_9 : decode me_fm_pipe.2.1 9 = .ok (.iconst 1, 1) := by decide +kernel
theorem k_fm_pipe_10 : decode me_fm_pipe.2.1 10 = .ok (.bipush 9, 2) := by decide +kernel
theorem k_fm_pipe_12 : decode me_fm_pipe.2.1 12 = .ok (.invokestatic 148, 3) := by decide +kernel
theorem k_fm_pipe_15 : decode me_fm_pipe.2.1 15 = .ok (.goto 4, 3) := by decide +kernel
theorem k_fm_pipe_18 : decode me_fm_pipe.2.1 18 = .ok (.iconst (-1), 1) := by decide +kernel
theorem k_fm_pipe_19 : decode me_fm_pipe.2.1 19 = .ok (.istore_n 3, 1) := by decide +kernel
theorem k_fm_pipe_20 : decode me_fm_pipe.2.1 20 = .ok (.iload_n 3, 1) := by decide +kernel
theorem k_fm_pipe_21 : decode me_fm_pipe.2.1 21 = .ok (.ifCond .eq 9, 3) := by decide +kernel
theorem k_fm_pipe_24 : decode me_fm_pipe.2.1 24 = .ok (.aload_n 0, 1) := by decide +kernel
theorem k_fm_pipe_25 : decode me_fm_pipe.2.1 25 = .ok (.iload_n 3, 1) := by decide +kernel
theorem k_fm_pipe_26 : decode me_fm_pipe.2.1 26 = .ok (.invokevirtual 133, 3) := by decide +kernel
theorem k_fm_pipe_29 : decode me_fm_pipe.2.1 29 = .ok (.ireturn, 1) := by decide +kernel
theorem k_fm_pipe_30 : decode me_fm_pipe.2.1 30 = .ok (.aload_n 0, 1) := by decide +kernel
theorem k_fm_pipe_31 : decode me_fm_pipe.2.1 31 = .ok (.getfield 47, 3) := by decide +kernel
theorem k_fm_pipe_34 : decode me_fm_pipe.2.1 34 = .ok (.iload_n 1, 1) := by decide +kernel
theorem k_fm_pipe_35 : decode me_fm_pipe.2.1 35 = .ok (.iaload, 1) := by decide +kernel
theorem k_fm_pipe_36 : decode me_fm_pipe.2.1 36 = .ok (.istore 4, 2) := by decide +kernel
theorem k_fm_pipe_38 : decode me_fm_pipe.2.1 38 = .ok (.aload_n 0, 1) := by decide +kernel
theorem k_fm_pipe_39 : decode me_fm_pipe.2.1 39 = .ok (.getfield 47, 3) := by decide +kernel
theorem k_fm_pipe_42 : decode me_fm_pipe.2.1 42 = .ok (.iload_n 1, 1) := by decide +kernel
theorem k_fm_pipe_43 : decode me_fm_pipe.2.1 43 = .ok (.iload_n 2, 1) := by decide +kernel
theorem k_fm_pipe_44 : decode me_fm_pipe.2.1 44 = .ok (.iastore, 1) := by decide +kernel
theorem k_fm_pipe_45 : decode me_fm_pipe.2.1 45 = .ok (.aload_n 0, 1) := by decide +kernel
theorem k_fm_pipe_46 : decode me_fm_pipe.2.1 46 = .ok (.invokevirtual 152, 3) := by decide +kernel
theorem k_fm_pipe_49 : decode me_fm_pipe.2.1 49 = .ok (.iload 4, 2) := by decide +kernel
theorem k_fm_pipe_51 : decode me_fm_pipe.2.1 51 = .ok (.ireturn, 1) := by decide +kernel
theorem k_fm_leak_0 : decode me_fm_leak.2.1 0 = .ok (.aload_n 0, 1) := by decide +kernel
theorem k_fm_leak_1 : decode me_fm_leak.2.1 1 = .ok (.iload_n 1, 1) := by decide +kernel
theorem k_fm_leak_2 : decode me_fm_leak.2.1 2 = .ok (.invokevirtual 161, 3) := by decide +kernel
theorem k_fm_leak_5 : decode me_fm_leak.2.1 5 = .ok (.ifCond .eq 13, 3) := by decide +kernel
theorem k_fm_leak_8 : decode me_fm_leak.2.1 8 = .ok (.iload_n 2, 1) := by decide +kernel
theorem k_fm_leak_9 : decode me_fm_leak.2.1 9 = .ok (.iconst 0, 1) := by decide +kernel
theorem k_fm_leak_10 : decode me_fm_leak.2.1 10 = .ok (.bipush 60, 2) := by decide +kernel
theorem k_fm_leak_12 : decode me_fm_leak.2.1 12 = .ok (.invokestatic 148, 3) := by decide +kernel
theorem k_fm_leak_15 : decode me_fm_leak.2.1 15 = .ok (.goto 4, 3) := by decide +kernel
theorem k_fm_leak_18 : decode me_fm_leak.2.1 18 = .ok (.iconst (-1), 1) := by decide +kernel
theorem k_fm_leak_19 : decode me_fm_leak.2.1 19 = .ok (.istore_n 3, 1) := by decide +kernel
theorem k_fm_leak_20 : decode me_fm_leak.2.1 20 = .ok (.iload_n 3, 1) := by decide +kernel
theorem k_fm_leak_21 : decode me_fm_leak.2.1 21 = .ok (.ifCond .eq 9, 3) := by decide +kernel
theorem k_fm_leak_24 : decode me_fm_leak.2.1 24 = .ok (.aload_n 0, 1) := by decide +kernel
theorem k_fm_leak_25 : decode me_fm_leak.2.1 25 = .ok (.iload_n 3, 1) := by decide +kernel
theorem k_fm_leak_26 : decode me_fm_leak.2.1 26 = .ok (.invokevirtual 133, 3) := by decide +kernel
theorem k_fm_leak_29 : decode me_fm_leak.2.1 29 = .ok (.ireturn, 1) := by decide +kernel
theorem k_fm_leak_30 : decode me_fm_leak.2.1 30 = .ok (.aload_n 0, 1) := by decide +kernel
theorem k_fm_leak_31 : decode me_fm_leak.2.1 31 = .ok (.getfield 53, 3) := by decide +kernel
theorem k_fm_leak_34 : decode me_fm_leak.2.1 34 = .ok (.iload_n 1, 1) := by decide +kernel
theorem k_fm_leak_35 : decode me_fm_leak.2.1 35 = .ok (.iaload, 1) := by decide +kernel
theorem k_fm_leak_36 : decode me_fm_leak.2.1 36 = .ok (.istore 4, 2) := by decide +kernel
theorem k_fm_leak_38 : decode me_fm_leak.2.1 38 = .ok (.aload_n 0, 1) := by decide +kernel
theorem k_fm_leak_39 : decode me_fm_leak.2.1 39 = .ok (.getfield 53, 3) := by decide +kernel
theorem k_fm_leak_42 : decode me_fm_leak.2.1 42 = .ok (.iload_n 1, 1) := by decide +kernel
theorem k_fm_leak_43 : decode me_fm_leak.2.1 43 = .ok (.iload_n 2, 1) := by decide +kernel
theorem k_fm_leak_44 : decode me_fm_leak.2.1 44 = .ok (.iastore, 1) := by decide +kernel
theorem k_fm_leak_45 : decode me_fm_leak.2.1 45 = .ok (.iload 4, 2) := by decide +kernel
theorem k_fm_leak_47 : decode me_fm_leak.2.1 47 = .ok (.ireturn, 1) := by decide +kernel
theorem k_fm_flow_0 : decode me_fm_flow.2.1 0 = .ok (.aload_n 0, 1) := by decide +kernel
theorem k_fm_flow_1 : decode me_fm_flow.2.1 1 = .ok (.iload_n 1, 1) := by decide +kernel
theorem k_fm_flow_2 : decode me_fm_flow.2.1 2 = .ok (.invokevirtual 161, 3) := by decide +kernel
theorem k_fm_flow_5 : decode me_fm_flow.2.1 5 = .ok (.ifCond .ne 9, 3) := by decide +kernel
theorem k_fm_flow_8 : decode me_fm_flow.2.1 8 = .ok (.aload_n 0, 1) := by decide +kernel
theorem k_fm_flow_9 : decode me_fm_flow.2.1 9 = .ok (.iconst (-1), 1) := by decide +kernel
theorem k_fm_flow_10 : decode me_fm_flow.2.1 10 = .ok (.invokevirtual 133, 3) := by decide +kernel
theorem k_fm_flow_13 : decode me_fm_flow.2.1 13 = .ok (.ireturn, 1) := by decide +kernel
theorem k_fm_flow_14 : decode me_fm_flow.2.1 14 = .ok (.aload_n 0, 1) := by decide +kernel
theorem k_fm_flow_15 : decode me_fm_flow.2.1 15 = .ok (.invokevirtual 179, 3) := by decide +kernel
theorem k_fm_flow_18 : decode me_fm_flow.2.1 18 = .ok (.aload_n 0, 1) := by decide +kernel
theorem k_fm_flow_19 : decode me_fm_flow.2.1 19 = .ok (.getfield 90, 3) := by decide +kernel
theorem k_fm_flow_22 : decode me_fm_flow.2.1 22 = .ok (.iload_n 1, 1) := by decide +kernel
theorem k_fm_flow_23 : decode me_fm_flow.2.1 23 = .ok (.iaload, 1) := by decide +kernel
theorem k_fm_flow_24 : decode me_fm_flow.2.1 24 = .ok (.ireturn, 1) := by decide +kernel
theorem k_fm_sees_0 : decode me_fm_sees.2.1 0 = .ok (.aload_n 0, 1) := by decide +kernel
theorem k_fm_sees_1 : decode me_fm_sees.2.1 1 = .ok (.invokevirtual 173, 3) := by decide +kernel
theorem k_fm_sees_4 : decode me_fm_sees.2.1 4 = .ok (.aload_n 0, 1) := by decide +kernel
theorem k_fm_sees_5 : decode me_fm_sees.2.1 5 = .ok (.invokevirtual 176, 3) := by decide +kernel
theorem k_fm_sees_8 : decode me_fm_sees.2.1 8 = .ok (.return_, 1) := by decide +kernel
theorem k_fm_asItIs_0 : decode me_fm_asItIs.2.1 0 = .ok (.iconst 0, 1) := by decide +kernel
theorem k_fm_asItIs_1 : decode me_fm_asItIs.2.1 1 = .ok (.istore_n 1, 1) := by decide +kernel
theorem k_fm_asItIs_2 : decode me_fm_asItIs.2.1 2 = .ok (.iload_n 1, 1) := by decide +kernel
theorem k_fm_asItIs_3 : decode me_fm_asItIs.2.1 3 = .ok (.aload_n 0, 1) := by decide +kernel
theorem k_fm_asItIs_4 : decode me_fm_asItIs.2.1 4 = .ok (.getfield 155, 3) := by decide +kernel
theorem k_fm_asItIs_7 : decode me_fm_asItIs.2.1 7 = .ok (.if_icmp .ge 21, 3) := by decide +kernel
theorem k_fm_asItIs_10 : decode me_fm_asItIs.2.1 10 = .ok (.aload_n 0, 1) := by decide +kernel
theorem k_fm_asItIs_11 : decode me_fm_asItIs.2.1 11 = .ok (.getfield 87, 3) := by decide +kernel
theorem k_fm_asItIs_14 : decode me_fm_asItIs.2.1 14 = .ok (.iload_n 1, 1) := by decide +kernel
theorem k_fm_asItIs_15 : decode me_fm_asItIs.2.1 15 = .ok (.aload_n 0, 1) := by decide +kernel
theorem k_fm_asItIs_16 : decode me_fm_asItIs.2.1 16 = .ok (.getfield 53, 3) := by decide +kernel
theorem k_fm_asItIs_19 : decode me_fm_asItIs.2.1 19 = .ok (.iload_n 1, 1) := by decide +kernel
theorem k_fm_asItIs_20 : decode me_fm_asItIs.2.1 20 = .ok (.iaload, 1) := by decide +kernel
theorem k_fm_asItIs_21 : decode me_fm_asItIs.2.1 21 = .ok (.iastore, 1) := by decide +kernel
theorem k_fm_asItIs_22 : decode me_fm_asItIs.2.1 22 = .ok (.iinc 1 1, 3) := by decide +kernel
theorem k_fm_asItIs_25 : decode me_fm_asItIs.2.1 25 = .ok (.goto (-23), 3) := by decide +kernel
theorem k_fm_asItIs_28 : decode me_fm_asItIs.2.1 28 = .ok (.iconst 0, 1) := by decide +kernel
theorem k_fm_asItIs_29 : decode me_fm_asItIs.2.1 29 = .ok (.istore_n 1, 1) := by decide +kernel
theorem k_fm_asItIs_30 : decode me_fm_asItIs.2.1 30 = .ok (.iload_n 1, 1) := by decide +kernel
theorem k_fm_asItIs_31 : decode me_fm_asItIs.2.1 31 = .ok (.aload_n 0, 1) := by decide +kernel
theorem k_fm_asItIs_32 : decode me_fm_asItIs.2.1 32 = .ok (.getfield 158, 3) := by decide +kernel
theorem k_fm_asItIs_35 : decode me_fm_asItIs.2.1 35 = .ok (.if_icmp .ge 21, 3) := by decide +kernel
theorem k_fm_asItIs_38 : decode me_fm_asItIs.2.1 38 = .ok (.aload_n 0, 1) := by decide +kernel
theorem k_fm_asItIs_39 : decode me_fm_asItIs.2.1 39 = .ok (.getfield 108, 3) := by decide +kernel
theorem k_fm_asItIs_42 : decode me_fm_asItIs.2.1 42 = .ok (.iload_n 1, 1) := by decide +kernel
theorem k_fm_asItIs_43 : decode me_fm_asItIs.2.1 43 = .ok (.aload_n 0, 1) := by decide +kernel
theorem k_fm_asItIs_44 : decode me_fm_asItIs.2.1 44 = .ok (.getfield 72, 3) := by decide +kernel
theorem k_fm_asItIs_47 : decode me_fm_asItIs.2.1 47 = .ok (.iload_n 1, 1) := by decide +kernel
theorem k_fm_asItIs_48 : decode me_fm_asItIs.2.1 48 = .ok (.baload, 1) := by decide +kernel
theorem k_fm_asItIs_49 : decode me_fm_asItIs.2.1 49 = .ok (.bastore, 1) := by decide +kernel
theorem k_fm_asItIs_50 : decode me_fm_asItIs.2.1 50 = .ok (.iinc 1 1, 3) := by decide +kernel
theorem k_fm_asItIs_53 : decode me_fm_asItIs.2.1 53 = .ok (.goto (-23), 3) := by decide +kernel
theorem k_fm_asItIs_56 : decode me_fm_asItIs.2.1 56 = .ok (.iconst 0, 1) := by decide +kernel
theorem k_fm_asItIs_57 : decode me_fm_asItIs.2.1 57 = .ok (.istore_n 1, 1) := by decide +kernel
theorem k_fm_asItIs_58 : decode me_fm_asItIs.2.1 58 = .ok (.iload_n 1, 1) := by decide +kernel
theorem k_fm_asItIs_59 : decode me_fm_asItIs.2.1 59 = .ok (.aload_n 0, 1) := by decide +kernel
theorem k_fm_asItIs_60 : decode me_fm_asItIs.2.1 60 = .ok (.getfield 141, 3) := by decide +kernel
theorem k_fm_asItIs_63 : decode me_fm_asItIs.2.1 63 = .ok (.if_icmp .ge 21, 3) := by decide +kernel
theorem k_fm_asItIs_66 : decode me_fm_asItIs.2.1 66 = .ok (.aload_n 0, 1) := by decide +kernel
theorem k_fm_asItIs_67 : decode me_fm_asItIs.2.1 67 = .ok (.getfield 102, 3) := by decide +kernel
theorem k_fm_asItIs_70 : decode me_fm_asItIs.2.1 70 = .ok (.iload_n 1, 1) := by decide +kernel
theorem k_fm_asItIs_71 : decode me_fm_asItIs.2.1 71 = .ok (.aload_n 0, 1) := by decide +kernel
theorem k_fm_asItIs_72 : decode me_fm_asItIs.2.1 72 = .ok (.getfield 29, 3) := by decide +kernel
theorem k_fm_asItIs_75 : decode me_fm_asItIs.2.1 75 = .ok (.iload_n 1, 1) := by decide +kernel
theorem k_fm_asItIs_76 : decode me_fm_asItIs.2.1 76 = .ok (.iaload, 1) := by decide +kernel
theorem k_fm_asItIs_77 : decode me_fm_asItIs.2.1 77 = .ok (.iastore, 1) := by decide +kernel
theorem k_fm_asItIs_78 : decode me_fm_asItIs.2.1 78 = .ok (.iinc 1 1, 3) := by decide +kernel
theorem k_fm_asItIs_81 : decode me_fm_asItIs.2.1 81 = .ok (.goto (-23), 3) := by decide +kernel
theorem k_fm_asItIs_84 : decode me_fm_asItIs.2.1 84 = .ok (.return_, 1) := by decide +kernel
theorem k_fm_runs_0 : decode me_fm_runs.2.1 0 = .ok (.iconst 0, 1) := by decide +kernel
theorem k_fm_runs_1 : decode me_fm_runs.2.1 1 = .ok (.istore_n 1, 1) := by decide +kernel
theorem k_fm_runs_2 : decode me_fm_runs.2.1 2 = .ok (.iload_n 1, 1) := by decide +kernel
theorem k_fm_runs_3 : decode me_fm_runs.2.1 3 = .ok (.aload_n 0, 1) := by decide +kernel
theorem k_fm_runs_4 : decode me_fm_runs.2.1 4 = .ok (.getfield 141, 3) := by decide +kernel
theorem k_fm_runs_7 : decode me_fm_runs.2.1 7 = .ok (.if_icmp .ge 16, 3) := by decide +kernel
theorem k_fm_runs_10 : decode me_fm_runs.2.1 10 = .ok (.aload_n 0, 1) := by decide +kernel
theorem k_fm_runs_11 : decode me_fm_runs.2.1 11 = .ok (.getfield 105, 3) := by decide +kernel
theorem k_fm_runs_14 : decode me_fm_runs.2.1 14 = .ok (.iload_n 1, 1) := by decide +kernel
theorem k_fm_runs_15 : decode me_fm_runs.2.1 15 = .ok (.iconst 0, 1) := by decide +kernel
theorem k_fm_runs_16 : decode me_fm_runs.2.1 16 = .ok (.iastore, 1) := by decide +kernel
theorem k_fm_runs_17 : decode me_fm_runs.2.1 17 = .ok (.iinc 1 1, 3) := by decide +kernel
theorem k_fm_runs_20 : decode me_fm_runs.2.1 20 = .ok (.goto (-18), 3) := by decide +kernel
theorem k_fm_runs_23 : decode me_fm_runs.2.1 23 = .ok (.iconst 0, 1) := by decide +kernel
theorem k_fm_runs_24 : decode me_fm_runs.2.1 24 = .ok (.istore_n 1, 1) := by decide +kernel
theorem k_fm_runs_25 : decode me_fm_runs.2.1 25 = .ok (.iload_n 1, 1) := by decide +kernel
theorem k_fm_runs_26 : decode me_fm_runs.2.1 26 = .ok (.aload_n 0, 1) := by decide +kernel
theorem k_fm_runs_27 : decode me_fm_runs.2.1 27 = .ok (.getfield 155, 3) := by decide +kernel
theorem k_fm_runs_30 : decode me_fm_runs.2.1 30 = .ok (.if_icmp .ge 16, 3) := by decide +kernel
theorem k_fm_runs_33 : decode me_fm_runs.2.1 33 = .ok (.aload_n 0, 1) := by decide +kernel
theorem k_fm_runs_34 : decode me_fm_runs.2.1 34 = .ok (.getfield 90, 3) := by decide +kernel
theorem k_fm_runs_37 : decode me_fm_runs.2.1 37 = .ok (.iload_n 1, 1) := by decide +kernel
theorem k_fm_runs_38 : decode me_fm_runs.2.1 38 = .ok (.iconst 0, 1) := by decide +kernel
theorem k_fm_runs_39 : decode me_fm_runs.2.1 39 = .ok (.iastore, 1) := by decide +kernel
theorem k_fm_runs_40 : decode me_fm_runs.2.1 40 = .ok (.iinc 1 1, 3) := by decide +kernel
theorem k_fm_runs_43 : decode me_fm_runs.2.1 43 = .ok (.goto (-18), 3) := by decide +kernel
theorem k_fm_runs_46 : decode me_fm_runs.2.1 46 = .ok (.aload_n 0, 1) := by decide +kernel
theorem k_fm_runs_47 : decode me_fm_runs.2.1 47 = .ok (.getfield 155, 3) := by decide +kernel
theorem k_fm_runs_50 : decode me_fm_runs.2.1 50 = .ok (.iconst 1, 1) := by decide +kernel
theorem k_fm_runs_51 : decode me_fm_runs.2.1 51 = .ok (.isub, 1) := by decide +kernel
theorem k_fm_runs_52 : decode me_fm_runs.2.1 52 = .ok (.istore_n 1, 1) := by decide +kernel
theorem k_fm_runs_53 : decode me_fm_runs.2.1 53 = .ok (.iload_n 1, 1) := by decide +kernel
theorem k_fm_runs_54 : decode me_fm_runs.2.1 54 = .ok (.ifCond .lt 134, 3) := by decide +kernel
theorem k_fm_runs_57 : decode me_fm_runs.2.1 57 = .ok (.aload_n 0, 1) := by decide +kernel
theorem k_fm_runs_58 : decode me_fm_runs.2.1 58 = .ok (.getfield 59, 3) := by decide +kernel
theorem k_fm_runs_61 : decode me_fm_runs.2.1 61 = .ok (.iload_n 1, 1) := by decide +kernel
theorem k_fm_runs_62 : decode me_fm_runs.2.1 62 = .ok (.baload, 1) := by decide +kernel
theorem k_fm_runs_63 : decode me_fm_runs.2.1 63 = .ok (.ifCond .eq 13, 3) := by decide +kernel
theorem k_fm_runs_66 : decode me_fm_runs.2.1 66 = .ok (.aload_n 0, 1) := by decide +kernel
theorem k_fm_runs_67 : decode me_fm_runs.2.1 67 = .ok (.getfield 90, 3) := by decide +kernel
theorem k_fm_runs_70 : decode me_fm_runs.2.1 70 = .ok (.iload_n 1, 1) := by decide +kernel
theorem k_fm_runs_71 : decode me_fm_runs.2.1 71 = .ok (.iconst 0, 1) := by decide +kernel
theorem k_fm_runs_72 : decode me_fm_runs.2.1 72 = .ok (.iastore, 1) := by decide +kernel
theorem k_fm_runs_73 : decode me_fm_runs.2.1 73 = .ok (.goto 57, 3) := by decide +kernel
theorem k_fm_runs_76 : decode me_fm_runs.2.1 76 = .ok (.aload_n 0, 1) := by decide +kernel
theorem k_fm_runs_77 : decode me_fm_runs.2.1 77 = .ok (.getfield 90, 3) := by decide +kernel
theorem k_fm_runs_80 : decode me_fm_runs.2.1 80 = .ok (.iload_n 1, 1) := by decide +kernel
theorem k_fm_runs_81 : decode me_fm_runs.2.1 81 = .ok (.dup2, 1) := by decide +kernel
theorem k_fm_runs_82 : decode me_fm_runs.2.1 82 = .ok (.iaload, 1) := by decide +kernel
theorem k_fm_runs_83 : decode me_fm_runs.2.1 83 = .ok (.aload_n 0, 1) := by decide +kernel
theorem k_fm_runs_84 : decode me_fm_runs.2.1 84 = .ok (.getfield 87, 3) := by decide +kernel
theorem k_fm_runs_87 : decode me_fm_runs.2.1 87 = .ok (.iload_n 1, 1) := by decide +kernel
theorem k_fm_runs_88 : decode me_fm_runs.2.1 88 = .ok (.iaload, 1) := by decide +kernel
theorem k_fm_runs_89 : decode me_fm_runs.2.1 89 = .ok (.aload_n 0, 1) := by decide +kernel
theorem k_fm_runs_90 : decode me_fm_runs.2.1 90 = .ok (.getfield 56, 3) := by decide +kernel
theorem k_fm_runs_93 : decode me_fm_runs.2.1 93 = .ok (.iload_n 1, 1) := by decide +kernel
theorem k_fm_runs_94 : decode me_fm_runs.2.1 94 = .ok (.iaload, 1) := by decide +kernel
theorem k_fm_runs_95 : decode me_fm_runs.2.1 95 = .ok (.ifCond .lt 31, 3) := by decide +kernel
theorem k_fm_runs_98 : decode me_fm_runs.2.1 98 = .ok (.aload_n 0, 1) := by decide +kernel
theorem k_fm_runs_99 : decode me_fm_runs.2.1 99 = .ok (.getfield 108, 3) := by decide +kernel
theorem k_fm_runs_102 : decode me_fm_runs.2.1 102 = .ok (.aload_n 0, 1) := by decide +kernel
theorem k_fm_runs_103 : decode me_fm_runs.2.1 103 = .ok (.getfield 56, 3) := by decide +kernel
theorem k_fm_runs_106 : decode me_fm_runs.2.1 106 = .ok (.iload_n 1, 1) := by decide +kernel
theorem k_fm_runs_107 : decode me_fm_runs.2.1 107 = .ok (.iaload, 1) := by decide +kernel
theorem k_fm_runs_108 : decode me_fm_runs.2.1 108 = .ok (.baload, 1) := by decide +kernel
theorem k_fm_runs_109 : decode me_fm_runs.2.1 109 = .ok (.ifCond .eq 17, 3) := by decide +kernel
theorem k_fm_runs_112 : decode me_fm_runs.2.1 112 = .ok (.aload_n 0, 1) := by decide +kernel
theorem k_fm_runs_113 : decode me_fm_runs.2.1 113 = .ok (.getfield 66, 3) := by decide +kernel
theorem k_fm_runs_116 : decode me_fm_runs.2.1 116 = .ok (.aload_n 0, 1) := by decide +kernel
theorem k_fm_runs_117 : decode me_fm_runs.2.1 117 = .ok (.getfield 56, 3) := by decide +kernel
theorem k_fm_runs_120 : decode me_fm_runs.2.1 120 = .ok (.iload_n 1, 1) := by decide +kernel
theorem k_fm_runs_121 : decode me_fm_runs.2.1 121 = .ok (.iaload, 1) := by decide +kernel
theorem k_fm_runs_122 : decode me_fm_runs.2.1 122 = .ok (.iaload, 1) := by decide +kernel
theorem k_fm_runs_123 : decode me_fm_runs.2.1 123 = .ok (.goto 4, 3) := by decide +kernel
theorem k_fm_runs_126 : decode me_fm_runs.2.1 126 = .ok (.iconst 0, 1) := by decide +kernel
theorem k_fm_runs_127 : decode me_fm_runs.2.1 127 = .ok (.iadd, 1) := by decide +kernel
theorem k_fm_runs_128 : decode me_fm_runs.2.1 128 = .ok (.iadd, 1) := by decide +kernel
theorem k_fm_runs_129 : decode me_fm_runs.2.1 129 = .ok (.iastore, 1) := by decide +kernel
theorem k_fm_runs_130 : decode me_fm_runs.2.1 130 = .ok (.aload_n 0, 1) := by decide +kernel
theorem k_fm_runs_131 : decode me_fm_runs.2.1 131 = .ok (.getfield 38, 3) := by decide +kernel
theorem k_fm_runs_134 : decode me_fm_runs.2.1 134 = .ok (.iload_n 1, 1) := by decide +kernel
theorem k_fm_runs_135 : decode me_fm_runs.2.1 135 = .ok (.iaload, 1) := by decide +kernel
theorem k_fm_runs_136 : decode me_fm_runs.2.1 136 = .ok (.ifCond .lt 26, 3) := by decide +kernel
theorem k_fm_runs_139 : decode me_fm_runs.2.1 139 = .ok (.aload_n 0, 1) := by decide +kernel
theorem k_fm_runs_140 : decode me_fm_runs.2.1 140 = .ok (.getfield 90, 3) := by decide +kernel
theorem k_fm_runs_143 : decode me_fm_runs.2.1 143 = .ok (.aload_n 0, 1) := by decide +kernel
theorem k_fm_runs_144 : decode me_fm_runs.2.1 144 = .ok (.getfield 38, 3) := by decide +kernel
theorem k_fm_runs_147 : decode me_fm_runs.2.1 147 = .ok (.iload_n 1, 1) := by decide +kernel
theorem k_fm_runs_148 : decode me_fm_runs.2.1 148 = .ok (.iaload, 1) := by decide +kernel
theorem k_fm_runs_149 : decode me_fm_runs.2.1 149 = .ok (.dup2, 1) := by decide +kernel
theorem k_fm_runs_150 : decode me_fm_runs.2.1 150 = .ok (.iaload, 1) := by decide +kernel
theorem k_fm_runs_151 : decode me_fm_runs.2.1 151 = .ok (.aload_n 0, 1) := by decide +kernel
theorem k_fm_runs_152 : decode me_fm_runs.2.1 152 = .ok (.getfield 90, 3) := by decide +kernel
theorem k_fm_runs_155 : decode me_fm_runs.2.1 155 = .ok (.iload_n 1, 1) := by decide +kernel
theorem k_fm_runs_156 : decode me_fm_runs.2.1 156 = .ok (.iaload, 1) := by decide +kernel
theorem k_fm_runs_157 : decode me_fm_runs.2.1 157 = .ok (.iadd, 1) := by decide +kernel
theorem k_fm_runs_158 : decode me_fm_runs.2.1 158 = .ok (.iastore, 1) := by decide +kernel
theorem k_fm_runs_159 : decode me_fm_runs.2.1 159 = .ok (.goto 23, 3) := by decide +kernel
theorem k_fm_runs_162 : decode me_fm_runs.2.1 162 = .ok (.aload_n 0, 1) := by decide +kernel
theorem k_fm_runs_163 : decode me_fm_runs.2.1 163 = .ok (.getfield 105, 3) := by decide +kernel
theorem k_fm_runs_166 : decode me_fm_runs.2.1 166 = .ok (.aload_n 0, 1) := by decide +kernel
theorem k_fm_runs_167 : decode me_fm_runs.2.1 167 = .ok (.getfield 41, 3) := by decide +kernel
theorem k_fm_runs_170 : decode me_fm_runs.2.1 170 = .ok (.iload_n 1, 1) := by decide +kernel
theorem k_fm_runs_171 : decode me_fm_runs.2.1 171 = .ok (.iaload, 1) := by decide +kernel
theorem k_fm_runs_172 : decode me_fm_runs.2.1 172 = .ok (.dup2, 1) := by decide +kernel
theorem k_fm_runs_173 : decode me_fm_runs.2.1 173 = .ok (.iaload, 1) := by decide +kernel
theorem k_fm_runs_174 : decode me_fm_runs.2.1 174 = .ok (.aload_n 0, 1) := by decide +kernel
theorem k_fm_runs_175 : decode me_fm_runs.2.1 175 = .ok (.getfield 90, 3) := by decide +kernel
theorem k_fm_runs_178 : decode me_fm_runs.2.1 178 = .ok (.iload_n 1, 1) := by decide +kernel
theorem k_fm_runs_179 : decode me_fm_runs.2.1 179 = .ok (.iaload, 1) := by decide +kernel
theorem k_fm_runs_180 : decode me_fm_runs.2.1 180 = .ok (.iadd, 1) := by decide +kernel
theorem k_fm_runs_181 : decode me_fm_runs.2.1 181 = .ok (.iastore, 1) := by decide +kernel
theorem k_fm_runs_182 : decode me_fm_runs.2.1 182 = .ok (.iinc 1 (-1), 3) := by decide +kernel
theorem k_fm_runs_185 : decode me_fm_runs.2.1 185 = .ok (.goto (-132), 3) := by decide +kernel
theorem k_fm_runs_188 : decode me_fm_runs.2.1 188 = .ok (.iconst 0, 1) := by decide +kernel
theorem k_fm_runs_189 : decode me_fm_runs.2.1 189 = .ok (.istore_n 1, 1) := by decide +kernel
theorem k_fm_runs_190 : decode me_fm_runs.2.1 190 = .ok (.iload_n 1, 1) := by decide +kernel
theorem k_fm_runs_191 : decode me_fm_runs.2.1 191 = .ok (.aload_n 0, 1) := by decide +kernel
theorem k_fm_runs_192 : decode me_fm_runs.2.1 192 = .ok (.getfield 155, 3) := by decide +kernel
theorem k_fm_runs_195 : decode me_fm_runs.2.1 195 = .ok (.if_icmp .ge 217, 3) := by decide +kernel
theorem k_fm_runs_198 : decode me_fm_runs.2.1 198 = .ok (.aload_n 0, 1) := by decide +kernel
theorem k_fm_runs_199 : decode me_fm_runs.2.1 199 = .ok (.getfield 59, 3) := by decide +kernel
theorem k_fm_runs_202 : decode me_fm_runs.2.1 202 = .ok (.iload_n 1, 1) := by decide +kernel
theorem k_fm_runs_203 : decode me_fm_runs.2.1 203 = .ok (.baload, 1) := by decide +kernel
theorem k_fm_runs_204 : decode me_fm_runs.2.1 204 = .ok (.ifCond .ne 26, 3) := by decide +kernel
theorem k_fm_runs_207 : decode me_fm_runs.2.1 207 = .ok (.aload_n 0, 1) := by decide +kernel
theorem k_fm_runs_208 : decode me_fm_runs.2.1 208 = .ok (.getfield 38, 3) := by decide +kernel
theorem k_fm_runs_211 : decode me_fm_runs.2.1 211 = .ok (.iload_n 1, 1) := by decide +kernel
theorem k_fm_runs_212 : decode me_fm_runs.2.1 212 = .ok (.iaload, 1) := by decide +kernel
theorem k_fm_runs_213 : decode me_fm_runs.2.1 213 = .ok (.ifCond .lt 21, 3) := by decide +kernel
theorem k_fm_runs_216 : decode me_fm_runs.2.1 216 = .ok (.aload_n 0, 1) := by decide +kernel
theorem k_fm_runs_217 : decode me_fm_runs.2.1 217 = .ok (.getfield 111, 3) := by decide +kernel
theorem k_fm_runs_220 : decode me_fm_runs.2.1 220 = .ok (.aload_n 0, 1) := by decide +kernel
theorem k_fm_runs_221 : decode me_fm_runs.2.1 221 = .ok (.getfield 38, 3) := by decide +kernel
theorem k_fm_runs_224 : decode me_fm_runs.2.1 224 = .ok (.iload_n 1, 1) := by decide +kernel
theorem k_fm_runs_225 : decode me_fm_runs.2.1 225 = .ok (.iaload, 1) := by decide +kernel
theorem k_fm_runs_226 : decode me_fm_runs.2.1 226 = .ok (.iaload, 1) := by decide +kernel
theorem k_fm_runs_227 : decode me_fm_runs.2.1 227 = .ok (.ifCond .ge 7, 3) := by decide +kernel
theorem k_fm_runs_230 : decode me_fm_runs.2.1 230 = .ok (.iconst 1, 1) := by decide +kernel
theorem k_fm_runs_231 : decode me_fm_runs.2.1 231 = .ok (.goto 4, 3) := by decide +kernel
theorem k_fm_runs_234 : decode me_fm_runs.2.1 234 = .ok (.iconst 0, 1) := by decide +kernel
theorem k_fm_runs_235 : decode me_fm_runs.2.1 235 = .ok (.istore_n 2, 1) := by decide +kernel
theorem k_fm_runs_236 : decode me_fm_runs.2.1 236 = .ok (.iload_n 2, 1) := by decide +kernel
theorem k_fm_runs_237 : decode me_fm_runs.2.1 237 = .ok (.ifCond .eq 10, 3) := by decide +kernel
theorem k_fm_runs_240 : decode me_fm_runs.2.1 240 = .ok (.aload_n 0, 1) := by decide +kernel
theorem k_fm_runs_241 : decode me_fm_runs.2.1 241 = .ok (.getfield 90, 3) := by decide +kernel
theorem k_fm_runs_244 : decode me_fm_runs.2.1 244 = .ok (.iload_n 1, 1) := by decide +kernel
theorem k_fm_runs_245 : decode me_fm_runs.2.1 245 = .ok (.iconst 0, 1) := by decide +kernel
theorem k_fm_runs_246 : decode me_fm_runs.2.1 246 = .ok (.iastore, 1) := by decide +kernel
theorem k_fm_runs_247 : decode me_fm_runs.2.1 247 = .ok (.aload_n 0, 1) := by decide +kernel
theorem k_fm_runs_248 : decode me_fm_runs.2.1 248 = .ok (.getfield 93, 3) := by decide +kernel
theorem k_fm_runs_251 : decode me_fm_runs.2.1 251 = .ok (.iload_n 1, 1) := by decide +kernel
theorem k_fm_runs_252 : decode me_fm_runs.2.1 252 = .ok (.aload_n 0, 1) := by decide +kernel
theorem k_fm_runs_253 : decode me_fm_runs.2.1 253 = .ok (.getfield 90, 3) := by decide +kernel
theorem k_fm_runs_256 : decode me_fm_runs.2.1 256 = .ok (.iload_n 1, 1) := by decide +kernel
theorem k_fm_runs_257 : decode me_fm_runs.2.1 257 = .ok (.iaload, 1) := by decide +kernel
theorem k_fm_runs_258 : decode me_fm_runs.2.1 258 = .ok (.i2l, 1) := by decide +kernel
theorem k_fm_runs_259 : decode me_fm_runs.2.1 259 = .ok (.aload_n 0, 1) := by decide +kernel
theorem k_fm_runs_260 : decode me_fm_runs.2.1 260 = .ok (.getfield 90, 3) := by decide +kernel
theorem k_fm_runs_263 : decode me_fm_runs.2.1 263 = .ok (.iload_n 1, 1) := by decide +kernel
theorem k_fm_runs_264 : decode me_fm_runs.2.1 264 = .ok (.iaload, 1) := by decide +kernel
theorem k_fm_runs_265 : decode me_fm_runs.2.1 265 = .ok (.i2l, 1) := by decide +kernel
theorem k_fm_runs_266 : decode me_fm_runs.2.1 266 = .ok (.lmul, 1) := by decide +kernel
theorem k_fm_runs_267 : decode me_fm_runs.2.1 267 = .ok (.aload_n 0, 1) := by decide +kernel
theorem k_fm_runs_268 : decode me_fm_runs.2.1 268 = .ok (.getfield 50, 3) := by decide +kernel
theorem k_fm_runs_271 : decode me_fm_runs.2.1 271 = .ok (.iload_n 1, 1) := by decide +kernel
theorem k_fm_runs_272 : decode me_fm_runs.2.1 272 = .ok (.iaload, 1) := by decide +kernel
theorem k_fm_runs_273 : decode me_fm_runs.2.1 273 = .ok (.i2l, 1) := by decide +kernel
theorem k_fm_runs_274 : decode me_fm_runs.2.1 274 = .ok (.lmul, 1) := by decide +kernel
theorem k_fm_runs_275 : decode me_fm_runs.2.1 275 = .ok (.ldc2_w 171, 3) := by decide +kernel
theorem k_fm_runs_278 : decode me_fm_runs.2.1 278 = .ok (.aload_n 0, 1) := by decide +kernel
theorem k_fm_runs_279 : decode me_fm_runs.2.1 279 = .ok (.getfield 47, 3) := by decide +kernel
theorem k_fm_runs_282 : decode me_fm_runs.2.1 282 = .ok (.iload_n 1, 1) := by decide +kernel
theorem k_fm_runs_283 : decode me_fm_runs.2.1 283 = .ok (.iaload, 1) := by decide +kernel
theorem k_fm_runs_284 : decode me_fm_runs.2.1 284 = .ok (.i2l, 1) := by decide +kernel
theorem k_fm_runs_285 : decode me_fm_runs.2.1 285 = .ok (.lmul, 1) := by decide +kernel
theorem k_fm_runs_286 : decode me_fm_runs.2.1 286 = .ok (.aload_n 0, 1) := by decide +kernel
theorem k_fm_runs_287 : decode me_fm_runs.2.1 287 = .ok (.getfield 47, 3) := by decide +kernel
theorem k_fm_runs_290 : decode me_fm_runs.2.1 290 = .ok (.iload_n 1, 1) := by decide +kernel
theorem k_fm_runs_291 : decode me_fm_runs.2.1 291 = .ok (.iaload, 1) := by decide +kernel
theorem k_fm_runs_292 : decode me_fm_runs.2.1 292 = .ok (.i2l, 1) := by decide +kernel
theorem k_fm_runs_293 : decode me_fm_runs.2.1 293 = .ok (.lmul, 1) := by decide +kernel
theorem k_fm_runs_294 : decode me_fm_runs.2.1 294 = .ok (.ldiv, 1) := by decide +kernel
theorem k_fm_runs_295 : decode me_fm_runs.2.1 295 = .ok (.l2i, 1) := by decide +kernel
theorem k_fm_runs_296 : decode me_fm_runs.2.1 296 = .ok (.iastore, 1) := by decide +kernel
theorem k_fm_runs_297 : decode me_fm_runs.2.1 297 = .ok (.aload_n 0, 1) := by decide +kernel
theorem k_fm_runs_298 : decode me_fm_runs.2.1 298 = .ok (.getfield 111, 3) := by decide +kernel
theorem k_fm_runs_301 : decode me_fm_runs.2.1 301 = .ok (.iload_n 1, 1) := by decide +kernel
theorem k_fm_runs_302 : decode me_fm_runs.2.1 302 = .ok (.iload_n 2, 1) := by decide +kernel
theorem k_fm_runs_303 : decode me_fm_runs.2.1 303 = .ok (.ifCond .eq 7, 3) := by decide +kernel
theorem k_fm_runs_306 : decode me_fm_runs.2.1 306 = .ok (.iconst (-1), 1) := by decide +kernel
theorem k_fm_runs_307 : decode me_fm_runs.2.1 307 = .ok (.goto 34, 3) := by decide +kernel
theorem k_fm_runs_310 : decode me_fm_runs.2.1 310 = .ok (.aload_n 0, 1) := by decide +kernel
theorem k_fm_runs_311 : decode me_fm_runs.2.1 311 = .ok (.getfield 93, 3) := by decide +kernel
theorem k_fm_runs_314 : decode me_fm_runs.2.1 314 = .ok (.iload_n 1, 1) := by decide +kernel
theorem k_fm_runs_315 : decode me_fm_runs.2.1 315 = .ok (.iaload, 1) := by decide +kernel
theorem k_fm_runs_316 : decode me_fm_runs.2.1 316 = .ok (.aload_n 0, 1) := by decide +kernel
theorem k_fm_runs_317 : decode me_fm_runs.2.1 317 = .ok (.getfield 38, 3) := by decide +kernel
theorem k_fm_runs_320 : decode me_fm_runs.2.1 320 = .ok (.iload_n 1, 1) := by decide +kernel
theorem k_fm_runs_321 : decode me_fm_runs.2.1 321 = .ok (.iaload, 1) := by decide +kernel
theorem k_fm_runs_322 : decode me_fm_runs.2.1 322 = .ok (.ifCond .lt 17, 3) := by decide +kernel
theorem k_fm_runs_325 : decode me_fm_runs.2.1 325 = .ok (.aload_n 0, 1) := by decide +kernel
theorem k_fm_runs_326 : decode me_fm_runs.2.1 326 = .ok (.getfield 111, 3) := by decide +kernel
theorem k_fm_runs_329 : decode me_fm_runs.2.1 329 = .ok (.aload_n 0, 1) := by decide +kernel
theorem k_fm_runs_330 : decode me_fm_runs.2.1 330 = .ok (.getfield 38, 3) := by decide +kernel
theorem k_fm_runs_333 : decode me_fm_runs.2.1 333 = .ok (.iload_n 1, 1) := by decide +kernel
theorem k_fm_runs_334 : decode me_fm_runs.2.1 334 = .ok (.iaload, 1) := by decide +kernel
theorem k_fm_runs_335 : decode me_fm_runs.2.1 335 = .ok (.iaload, 1) := by decide +kernel
theorem k_fm_runs_336 : decode me_fm_runs.2.1 336 = .ok (.goto 4, 3) := by decide +kernel
theorem k_fm_runs_339 : decode me_fm_runs.2.1 339 = .ok (.iconst 0, 1) := by decide +kernel
theorem k_fm_runs_340 : decode me_fm_runs.2.1 340 = .ok (.iadd, 1) := by decide +kernel
theorem k_fm_runs_341 : decode me_fm_runs.2.1 341 = .ok (.iastore, 1) := by decide +kernel
theorem k_fm_runs_342 : decode me_fm_runs.2.1 342 = .ok (.aload_n 0, 1) := by decide +kernel
theorem k_fm_runs_343 : decode me_fm_runs.2.1 343 = .ok (.getfield 41, 3) := by decide +kernel
theorem k_fm_runs_346 : decode me_fm_runs.2.1 346 = .ok (.iload_n 1, 1) := by decide +kernel
theorem k_fm_runs_347 : decode me_fm_runs.2.1 347 = .ok (.iaload, 1) := by decide +kernel
theorem k_fm_runs_348 : decode me_fm_runs.2.1 348 = .ok (.istore_n 3, 1) := by decide +kernel
theorem k_fm_runs_349 : decode me_fm_runs.2.1 349 = .ok (.aload_n 0, 1) := by decide +kernel
theorem k_fm_runs_350 : decode me_fm_runs.2.1 350 = .ok (.getfield 96, 3) := by decide +kernel
theorem k_fm_runs_353 : decode me_fm_runs.2.1 353 = .ok (.iload_n 1, 1) := by decide +kernel
theorem k_fm_runs_354 : decode me_fm_runs.2.1 354 = .ok (.iload_n 2, 1) := by decide +kernel
theorem k_fm_runs_355 : decode me_fm_runs.2.1 355 = .ok (.ifCond .ne 12, 3) := by decide +kernel
theorem k_fm_runs_358 : decode me_fm_runs.2.1 358 = .ok (.aload_n 0, 1) := by decide +kernel
theorem k_fm_runs_359 : decode me_fm_runs.2.1 359 = .ok (.getfield 102, 3) := by decide +kernel
theorem k_fm_runs_362 : decode me_fm_runs.2.1 362 = .ok (.iload_n 3, 1) := by decide +kernel
theorem k_fm_runs_363 : decode me_fm_runs.2.1 363 = .ok (.iaload, 1) := by decide +kernel
theorem k_fm_runs_364 : decode me_fm_runs.2.1 364 = .ok (.ifCond .ne 7, 3) := by decide +kernel
theorem k_fm_runs_367 : decode me_fm_runs.2.1 367 = .ok (.iconst 0, 1) := by decide +kernel
theorem k_fm_runs_368 : decode me_fm_runs.2.1 368 = .ok (.goto 37, 3) := by decide +kernel
theorem k_fm_runs_371 : decode me_fm_runs.2.1 371 = .ok (.aload_n 0, 1) := by decide +kernel
theorem k_fm_runs_372 : decode me_fm_runs.2.1 372 = .ok (.getfield 17, 3) := by decide +kernel
theorem k_fm_runs_375 : decode me_fm_runs.2.1 375 = .ok (.iload_n 3, 1) := by decide +kernel
theorem k_fm_runs_376 : decode me_fm_runs.2.1 376 = .ok (.iaload, 1) := by decide +kernel
theorem k_fm_runs_377 : decode me_fm_runs.2.1 377 = .ok (.aload_n 0, 1) := by decide +kernel
theorem k_fm_runs_378 : decode me_fm_runs.2.1 378 = .ok (.getfield 102, 3) := by decide +kernel
theorem k_fm_runs_381 : decode me_fm_runs.2.1 381 = .ok (.iload_n 3, 1) := by decide +kernel
theorem k_fm_runs_382 : decode me_fm_runs.2.1 382 = .ok (.iaload, 1) := by decide +kernel
theorem k_fm_runs_383 : decode me_fm_runs.2.1 383 = .ok (.aload_n 0, 1) := by decide +kernel
theorem k_fm_runs_384 : decode me_fm_runs.2.1 384 = .ok (.getfield 20, 3) := by decide +kernel
theorem k_fm_runs_387 : decode me_fm_runs.2.1 387 = .ok (.iload_n 3, 1) := by decide +kernel
theorem k_fm_runs_388 : decode me_fm_runs.2.1 388 = .ok (.iaload, 1) := by decide +kernel
theorem k_fm_runs_389 : decode me_fm_runs.2.1 389 = .ok (.idiv, 1) := by decide +kernel
theorem k_fm_runs_390 : decode me_fm_runs.2.1 390 = .ok (.iadd, 1) := by decide +kernel
theorem k_fm_runs_391 : decode me_fm_runs.2.1 391 = .ok (.aload_n 0, 1) := by decide +kernel
theorem k_fm_runs_392 : decode me_fm_runs.2.1 392 = .ok (.getfield 111, 3) := by decide +kernel
theorem k_fm_runs_395 : decode me_fm_runs.2.1 395 = .ok (.iload_n 1, 1) := by decide +kernel
theorem k_fm_runs_396 : decode me_fm_runs.2.1 396 = .ok (.iaload, 1) := by decide +kernel
theorem k_fm_runs_397 : decode me_fm_runs.2.1 397 = .ok (.isub, 1) := by decide +kernel
theorem k_fm_runs_398 : decode me_fm_runs.2.1 398 = .ok (.aload_n 0, 1) := by decide +kernel
theorem k_fm_runs_399 : decode me_fm_runs.2.1 399 = .ok (.getfield 44, 3) := by decide +kernel
theorem k_fm_runs_402 : decode me_fm_runs.2.1 402 = .ok (.iload_n 1, 1) := by decide +kernel
theorem k_fm_runs_403 : decode me_fm_runs.2.1 403 = .ok (.iaload, 1) := by decide +kernel
theorem k_fm_runs_404 : decode me_fm_runs.2.1 404 = .ok (.isub, 1) := by decide +kernel
theorem k_fm_runs_405 : decode me_fm_runs.2.1 405 = .ok (.iastore, 1) := by decide +kernel
theorem k_fm_runs_406 : decode me_fm_runs.2.1 406 = .ok (.iinc 1 1, 3) := by decide +kernel
theorem k_fm_runs_409 : decode me_fm_runs.2.1 409 = .ok (.goto (-219), 3) := by decide +kernel
theorem k_fm_runs_412 : decode me_fm_runs.2.1 412 = .ok (.return_, 1) := by decide +kernel
theorem k_fm_head_0 : decode me_fm_head.2.1 0 = .ok (.aload_n 0, 1) := by decide +kernel
theorem k_fm_head_1 : decode me_fm_head.2.1 1 = .ok (.iload_n 1, 1) := by decide +kernel
theorem k_fm_head_2 : decode me_fm_head.2.1 2 = .ok (.invokevirtual 161, 3) := by decide +kernel
theorem k_fm_head_5 : decode me_fm_head.2.1 5 = .ok (.ifCond .ne 9, 3) := by decide +kernel
theorem k_fm_head_8 : decode me_fm_head.2.1 8 = .ok (.aload_n 0, 1) := by decide +kernel
theorem k_fm_head_9 : decode me_fm_head.2.1 9 = .ok (.iconst (-1), 1) := by decide +kernel
theorem k_fm_head_10 : decode me_fm_head.2.1 10 = .ok (.invokevirtual 182, 3) := by decide +kernel
theorem k_fm_head_13 : decode me_fm_head.2.1 13 = .ok (.ireturn, 1) := by decide +kernel
theorem k_fm_head_14 : decode me_fm_head.2.1 14 = .ok (.aload_n 0, 1) := by decide +kernel
theorem k_fm_head_15 : decode me_fm_head.2.1 15 = .ok (.invokevirtual 179, 3) := by decide +kernel
theorem k_fm_head_18 : decode me_fm_head.2.1 18 = .ok (.aload_n 0, 1) := by decide +kernel
theorem k_fm_head_19 : decode me_fm_head.2.1 19 = .ok (.getfield 96, 3) := by decide +kernel
theorem k_fm_head_22 : decode me_fm_head.2.1 22 = .ok (.iload_n 1, 1) := by decide +kernel
theorem k_fm_head_23 : decode me_fm_head.2.1 23 = .ok (.iaload, 1) := by decide +kernel
theorem k_fm_head_24 : decode me_fm_head.2.1 24 = .ok (.ireturn, 1) := by decide +kernel
theorem k_fm_refuseFar_0 : decode me_fm_refuseFar.2.1 0 = .ok (.ldc 132, 2) := by decide +kernel
theorem k_fm_refuseFar_2 : decode me_fm_refuseFar.2.1 2 = .ok (.aload_n 0, 1) := by decide +kernel
theorem k_fm_refuseFar_3 : decode me_fm_refuseFar.2.1 3 = .ok (.iload_n 1, 1) := by decide +kernel
theorem k_fm_refuseFar_4 : decode me_fm_refuseFar.2.1 4 = .ok (.invokevirtual 133, 3) := by decide +kernel
theorem k_fm_refuseFar_7 : decode me_fm_refuseFar.2.1 7 = .ok (.isub, 1) := by decide +kernel
theorem k_fm_refuseFar_8 : decode me_fm_refuseFar.2.1 8 = .ok (.ireturn, 1) := by decide +kernel
theorem k_fm_rise_0 : decode me_fm_rise.2.1 0 = .ok (.aload_n 0, 1) := by decide +kernel
theorem k_fm_rise_1 : decode me_fm_rise.2.1 1 = .ok (.iload_n 1, 1) := by decide +kernel
theorem k_fm_rise_2 : decode me_fm_rise.2.1 2 = .ok (.invokevirtual 165, 3) := by decide +kernel
theorem k_fm_rise_5 : decode me_fm_rise.2.1 5 = .ok (.ifCond .ne 9, 3) := by decide +kernel
theorem k_fm_rise_8 : decode me_fm_rise.2.1 8 = .ok (.aload_n 0, 1) := by decide +kernel
theorem k_fm_rise_9 : decode me_fm_rise.2.1 9 = .ok (.iconst (-1), 1) := by decide +kernel
theorem k_fm_rise_10 : decode me_fm_rise.2.1 10 = .ok (.invokevirtual 133, 3) := by decide +kernel
theorem k_fm_rise_13 : decode me_fm_rise.2.1 13 = .ok (.ireturn, 1) := by decide +kernel
theorem k_fm_rise_14 : decode me_fm_rise.2.1 14 = .ok (.aload_n 0, 1) := by decide +kernel
theorem k_fm_rise_15 : decode me_fm_rise.2.1 15 = .ok (.invokevirtual 179, 3) := by decide +kernel
theorem k_fm_rise_18 : decode me_fm_rise.2.1 18 = .ok (.aload_n 0, 1) := by decide +kernel
theorem k_fm_rise_19 : decode me_fm_rise.2.1 19 = .ok (.iload_n 1, 1) := by decide +kernel
theorem k_fm_rise_20 : decode me_fm_rise.2.1 20 = .ok (.invokevirtual 185, 3) := by decide +kernel
theorem k_fm_rise_23 : decode me_fm_rise.2.1 23 = .ok (.ireturn, 1) := by decide +kernel
theorem k_fm_riseOf_0 : decode me_fm_riseOf.2.1 0 = .ok (.aload_n 0, 1) := by decide +kernel
theorem k_fm_riseOf_1 : decode me_fm_riseOf.2.1 1 = .ok (.getfield 108, 3) := by decide +kernel
theorem k_fm_riseOf_4 : decode me_fm_riseOf.2.1 4 = .ok (.iload_n 1, 1) := by decide +kernel
theorem k_fm_riseOf_5 : decode me_fm_riseOf.2.1 5 = .ok (.baload, 1) := by decide +kernel
theorem k_fm_riseOf_6 : decode me_fm_riseOf.2.1 6 = .ok (.ifCond .eq 37, 3) := by decide +kernel
theorem k_fm_riseOf_9 : decode me_fm_riseOf.2.1 9 = .ok (.aload_n 0, 1) := by decide +kernel
theorem k_fm_riseOf_10 : decode me_fm_riseOf.2.1 10 = .ok (.getfield 96, 3) := by decide +kernel
theorem k_fm_riseOf_13 : decode me_fm_riseOf.2.1 13 = .ok (.aload_n 0, 1) := by decide +kernel
theorem k_fm_riseOf_14 : decode me_fm_riseOf.2.1 14 = .ok (.getfield 63, 3) := by decide +kernel
theorem k_fm_riseOf_17 : decode me_fm_riseOf.2.1 17 = .ok (.iload_n 1, 1) := by decide +kernel
theorem k_fm_riseOf_18 : decode me_fm_riseOf.2.1 18 = .ok (.iaload, 1) := by decide +kernel
theorem k_fm_riseOf_19 : decode me_fm_riseOf.2.1 19 = .ok (.iaload, 1) := by decide +kernel
theorem k_fm_riseOf_20 : decode me_fm_riseOf.2.1 20 = .ok (.ifCond .le 23, 3) := by decide +kernel
theorem k_fm_riseOf_23 : decode me_fm_riseOf.2.1 23 = .ok (.bipush 9, 2) := by decide +kernel
theorem k_fm_riseOf_25 : decode me_fm_riseOf.2.1 25 = .ok (.aload_n 0, 1) := by decide +kernel
theorem k_fm_riseOf_26 : decode me_fm_riseOf.2.1 26 = .ok (.getfield 96, 3) := by decide +kernel
theorem k_fm_riseOf_29 : decode me_fm_riseOf.2.1 29 = .ok (.aload_n 0, 1) := by decide +kernel
theorem k_fm_riseOf_30 : decode me_fm_riseOf.2.1 30 = .ok (.getfield 63, 3) := by decide +kernel
theorem k_fm_riseOf_33 : decode me_fm_riseOf.2.1 33 = .ok (.iload_n 1, 1) := by decide +kernel
theorem k_fm_riseOf_34 : decode me_fm_riseOf.2.1 34 = .ok (.iaload, 1) := by decide +kernel
theorem k_fm_riseOf_35 : decode me_fm_riseOf.2.1 35 = .ok (.iaload, 1) := by decide +kernel
theorem k_fm_riseOf_36 : decode me_fm_riseOf.2.1 36 = .ok (.imul, 1) := by decide +kernel
theorem k_fm_riseOf_37 : decode me_fm_riseOf.2.1 37 = .ok (.bipush 10, 2) := by decide +kernel
theorem k_fm_riseOf_39 : decode me_fm_riseOf.2.1 39 = .ok (.idiv, 1) := by decide +kernel
theorem k_fm_riseOf_40 : decode me_fm_riseOf.2.1 40 = .ok (.goto 4, 3) := by decide +kernel
theorem k_fm_riseOf_43 : decode me_fm_riseOf.2.1 43 = .ok (.iconst 0, 1) := by decide +kernel
theorem k_fm_riseOf_44 : decode me_fm_riseOf.2.1 44 = .ok (.ireturn, 1) := by decide +kernel
theorem k_fm_share_0 : decode me_fm_share.2.1 0 = .ok (.aload_n 0, 1) := by decide +kernel
theorem k_fm_share_1 : decode me_fm_share.2.1 1 = .ok (.iload_n 1, 1) := by decide +kernel
theorem k_fm_share_2 : decode me_fm_share.2.1 2 = .ok (.invokevirtual 165, 3) := by decide +kernel
theorem k_fm_share_5 : decode me_fm_share.2.1 5 = .ok (.ifCond .eq 16, 3) := by decide +kernel
theorem k_fm_share_8 : decode me_fm_share.2.1 8 = .ok (.aload_n 0, 1) := by decide +kernel
theorem k_fm_share_9 : decode me_fm_share.2.1 9 = .ok (.iload_n 2, 1) := by decide +kernel
theorem k_fm_share_10 : decode me_fm_share.2.1 10 = .ok (.invokevirtual 165, 3) := by decide +kernel
theorem k_fm_share_13 : decode me_fm_share.2.1 13 = .ok (.ifCond .eq 8, 3) := by decide +kernel
theorem k_fm_share_16 : decode me_fm_share.2.1 16 = .ok (.iload_n 1, 1) := by decide +kernel
theorem k_fm_share_17 : decode me_fm_share.2.1 17 = .ok (.iload_n 2, 1) := by decide +kernel
theorem k_fm_share_18 : decode me_fm_share.2.1 18 = .ok (.if_icmp .ne 9, 3) := by decide +kernel
theorem k_fm_share_21 : decode me_fm_share.2.1 21 = .ok (.aload_n 0, 1) := by decide +kernel
theorem k_fm_share_22 : decode me_fm_share.2.1 22 = .ok (.iconst (-1), 1) := by decide +kernel
theorem k_fm_share_23 : decode me_fm_share.2.1 23 = .ok (.invokevirtual 133, 3) := by decide +kernel
theorem k_fm_share_26 : decode me_fm_share.2.1 26 = .ok (.ireturn, 1) := by decide +kernel
theorem k_fm_share_27 : decode me_fm_share.2.1 27 = .ok (.aload_n 0, 1) := by decide +kernel
theorem k_fm_share_28 : decode me_fm_share.2.1 28 = .ok (.getfield 72, 3) := by decide +kernel
theorem k_fm_share_31 : decode me_fm_share.2.1 31 = .ok (.iload_n 1, 1) := by decide +kernel
theorem k_fm_share_32 : decode me_fm_share.2.1 32 = .ok (.baload, 1) := by decide +kernel
theorem k_fm_share_33 : decode me_fm_share.2.1 33 = .ok (.ifCond .eq 12, 3) := by decide +kernel
theorem k_fm_share_36 : decode me_fm_share.2.1 36 = .ok (.aload_n 0, 1) := by decide +kernel
theorem k_fm_share_37 : decode me_fm_share.2.1 37 = .ok (.getfield 72, 3) := by decide +kernel
theorem k_fm_share_40 : decode me_fm_share.2.1 40 = .ok (.iload_n 2, 1) := by decide +kernel
theorem k_fm_share_41 : decode me_fm_share.2.1 41 = .ok (.baload, 1) := by decide +kernel
theorem k_fm_share_42 : decode me_fm_share.2.1 42 = .ok (.ifCond .ne 10, 3) := by decide +kernel
theorem k_fm_share_45 : decode me_fm_share.2.1 45 = .ok (.aload_n 0, 1) := by decide +kernel
theorem k_fm_share_46 : decode me_fm_share.2.1 46 = .ok (.bipush (-3), 2) := by decide +kernel
theorem k_fm_share_48 : decode me_fm_share.2.1 48 = .ok (.invokevirtual 133, 3) := by decide +kernel
theorem k_fm_share_51 : decode me_fm_share.2.1 51 = .ok (.ireturn, 1) := by decide +kernel
theorem k_fm_share_52 : decode me_fm_share.2.1 52 = .ok (.aload_n 0, 1) := by decide +kernel
theorem k_fm_share_53 : decode me_fm_share.2.1 53 = .ok (.invokevirtual 179, 3) := by decide +kernel
theorem k_fm_share_56 : decode me_fm_share.2.1 56 = .ok (.aload_n 0, 1) := by decide +kernel
theorem k_fm_share_57 : decode me_fm_share.2.1 57 = .ok (.iload_n 1, 1) := by decide +kernel
theorem k_fm_share_58 : decode me_fm_share.2.1 58 = .ok (.invokevirtual 185, 3) := by decide +kernel
theorem k_fm_share_61 : decode me_fm_share.2.1 61 = .ok (.istore_n 3, 1) := by decide +kernel
theorem k_fm_share_62 : decode me_fm_share.2.1 62 = .ok (.aload_n 0, 1) := by decide +kernel
theorem k_fm_share_63 : decode me_fm_share.2.1 63 = .ok (.getfield 108, 3) := by decide +kernel
theorem k_fm_share_66 : decode me_fm_share.2.1 66 = .ok (.iload_n 2, 1) := by decide +kernel
theorem k_fm_share_67 : decode me_fm_share.2.1 67 = .ok (.iconst 0, 1) := by decide +kernel
theorem k_fm_share_68 : decode me_fm_share.2.1 68 = .ok (.bastore, 1) := by decide +kernel
theorem k_fm_share_69 : decode me_fm_share.2.1 69 = .ok (.aload_n 0, 1) := by decide +kernel
theorem k_fm_share_70 : decode me_fm_share.2.1 70 = .ok (.invokevirtual 176, 3) := by decide +kernel
theorem k_fm_share_73 : decode me_fm_share.2.1 73 = .ok (.aload_n 0, 1) := by decide +kernel
theorem k_fm_share_74 : decode me_fm_share.2.1 74 = .ok (.iload_n 1, 1) := by decide +kernel
theorem k_fm_share_75 : decode me_fm_share.2.1 75 = .ok (.invokevirtual 185, 3) := by decide +kernel
theorem k_fm_share_78 : decode me_fm_share.2.1 78 = .ok (.iload_n 3, 1) := by decide +kernel
theorem k_fm_share_79 : decode me_fm_share.2.1 79 = .ok (.isub, 1) := by decide +kernel
theorem k_fm_share_80 : decode me_fm_share.2.1 80 = .ok (.ireturn, 1) := by decide +kernel
theorem k_fm_minutes_0 : decode me_fm_minutes.2.1 0 = .ok (.iload_n 1, 1) := by decide +kernel
theorem k_fm_minutes_1 : decode me_fm_minutes.2.1 1 = .ok (.iconst 1, 1) := by decide +kernel
theorem k_fm_minutes_2 : decode me_fm_minutes.2.1 2 = .ok (.sipush 1440, 3) := by decide +kernel
theorem k_fm_minutes_5 : decode me_fm_minutes.2.1 5 = .ok (.aload_n 0, 1) := by decide +kernel
theorem k_fm_minutes_6 : decode me_fm_minutes.2.1 6 = .ok (.getfield 206, 3) := by decide +kernel
theorem k_fm_minutes_9 : decode me_fm_minutes.2.1 9 = .ok (.isub, 1) := by decide +kernel
theorem k_fm_minutes_10 : decode me_fm_minutes.2.1 10 = .ok (.invokestatic 148, 3) := by decide +kernel
theorem k_fm_minutes_13 : decode me_fm_minutes.2.1 13 = .ok (.istore_n 2, 1) := by decide +kernel
theorem k_fm_minutes_14 : decode me_fm_minutes.2.1 14 = .ok (.iload_n 2, 1) := by decide +kernel
theorem k_fm_minutes_15 : decode me_fm_minutes.2.1 15 = .ok (.ifCond .eq 9, 3) := by decide +kernel
theorem k_fm_minutes_18 : decode me_fm_minutes.2.1 18 = .ok (.aload_n 0, 1) := by decide +kernel
theorem k_fm_minutes_19 : decode me_fm_minutes.2.1 19 = .ok (.iload_n 2, 1) := by decide +kernel
theorem k_fm_minutes_20 : decode me_fm_minutes.2.1 20 = .ok (.invokevirtual 133, 3) := by decide +kernel
theorem k_fm_minutes_23 : decode me_fm_minutes.2.1 23 = .ok (.ireturn, 1) := by decide +kernel
theorem k_fm_minutes_24 : decode me_fm_minutes.2.1 24 = .ok (.aload_n 0, 1) := by decide +kernel
theorem k_fm_minutes_25 : decode me_fm_minutes.2.1 25 = .ok (.invokevirtual 179, 3) := by decide +kernel
theorem k_fm_minutes_28 : decode me_fm_minutes.2.1 28 = .ok (.iconst 0, 1) := by decide +kernel
theorem k_fm_minutes_29 : decode me_fm_minutes.2.1 29 = .ok (.istore_n 3, 1) := by decide +kernel
theorem k_fm_minutes_30 : decode me_fm_minutes.2.1 30 = .ok (.iload_n 3, 1) := by decide +kernel
theorem k_fm_minutes_31 : decode me_fm_minutes.2.1 31 = .ok (.iload_n 1, 1) := by decide +kernel
theorem k_fm_minutes_32 : decode me_fm_minutes.2.1 32 = .ok (.if_icmp .ge 71, 3) := by decide +kernel
theorem k_fm_minutes_35 : decode me_fm_minutes.2.1 35 = .ok (.iconst 0, 1) := by decide +kernel
theorem k_fm_minutes_36 : decode me_fm_minutes.2.1 36 = .ok (.istore 4, 2) := by decide +kernel
theorem k_fm_minutes_38 : decode me_fm_minutes.2.1 38 = .ok (.iload 4, 2) := by decide +kernel
theorem k_fm_minutes_40 : decode me_fm_minutes.2.1 40 = .ok (.aload_n 0, 1) := by decide +kernel
theorem k_fm_minutes_41 : decode me_fm_minutes.2.1 41 = .ok (.getfield 141, 3) := by decide +kernel
theorem k_fm_minutes_44 : decode me_fm_minutes.2.1 44 = .ok (.if_icmp .ge 43, 3) := by decide +kernel
theorem k_fm_minutes_47 : decode me_fm_minutes.2.1 47 = .ok (.aload_n 0, 1) := by decide +kernel
theorem k_fm_minutes_48 : decode me_fm_minutes.2.1 48 = .ok (.iload 4, 2) := by decide +kernel
theorem k_fm_minutes_50 : decode me_fm_minutes.2.1 50 = .ok (.invokevirtual 209, 3) := by decide +kernel
theorem k_fm_minutes_53 : decode me_fm_minutes.2.1 53 = .ok (.aload_n 0, 1) := by decide +kernel
theorem k_fm_minutes_54 : decode me_fm_minutes.2.1 54 = .ok (.getfield 32, 3) := by decide +kernel
theorem k_fm_minutes_57 : decode me_fm_minutes.2.1 57 = .ok (.iload 4, 2) := by decide +kernel
theorem k_fm_minutes_59 : decode me_fm_minutes.2.1 59 = .ok (.dup2, 1) := by decide +kernel
theorem k_fm_minutes_60 : decode me_fm_minutes.2.1 60 = .ok (.iaload, 1) := by decide +kernel
theorem k_fm_minutes_61 : decode me_fm_minutes.2.1 61 = .ok (.aload_n 0, 1) := by decide +kernel
theorem k_fm_minutes_62 : decode me_fm_minutes.2.1 62 = .ok (.getfield 194, 3) := by decide +kernel
theorem k_fm_minutes_65 : decode me_fm_minutes.2.1 65 = .ok (.iadd, 1) := by decide +kernel
theorem k_fm_minutes_66 : decode me_fm_minutes.2.1 66 = .ok (.iastore, 1) := by decide +kernel
theorem k_fm_minutes_67 : decode me_fm_minutes.2.1 67 = .ok (.aload_n 0, 1) := by decide +kernel
theorem k_fm_minutes_68 : decode me_fm_minutes.2.1 68 = .ok (.getfield 35, 3) := by decide +kernel
theorem k_fm_minutes_71 : decode me_fm_minutes.2.1 71 = .ok (.iload 4, 2) := by decide +kernel
theorem k_fm_minutes_73 : decode me_fm_minutes.2.1 73 = .ok (.dup2, 1) := by decide +kernel
theorem k_fm_minutes_74 : decode me_fm_minutes.2.1 74 = .ok (.iaload, 1) := by decide +kernel
theorem k_fm_minutes_75 : decode me_fm_minutes.2.1 75 = .ok (.aload_n 0, 1) := by decide +kernel
theorem k_fm_minutes_76 : decode me_fm_minutes.2.1 76 = .ok (.getfield 203, 3) := by decide +kernel
theorem k_fm_minutes_79 : decode me_fm_minutes.2.1 79 = .ok (.iadd, 1) := by decide +kernel
theorem k_fm_minutes_80 : decode me_fm_minutes.2.1 80 = .ok (.iastore, 1) := by decide +kernel
theorem k_fm_minutes_81 : decode me_fm_minutes.2.1 81 = .ok (.iinc 4 1, 3) := by decide +kernel
theorem k_fm_minutes_84 : decode me_fm_minutes.2.1 84 = .ok (.goto (-46), 3) := by decide +kernel
theorem k_fm_minutes_87 : decode me_fm_minutes.2.1 87 = .ok (.aload_n 0, 1) := by decide +kernel
theorem k_fm_minutes_88 : decode me_fm_minutes.2.1 88 = .ok (.dup, 1) := by decide +kernel
theorem k_fm_minutes_89 : decode me_fm_minutes.2.1 89 = .ok (.getfield 206, 3) := by decide +kernel
theorem k_fm_minutes_92 : decode me_fm_minutes.2.1 92 = .ok (.iconst 1, 1) := by decide +kernel
theorem k_fm_minutes_93 : decode me_fm_minutes.2.1 93 = .ok (.iadd, 1) := by decide +kernel
theorem k_fm_minutes_94 : decode me_fm_minutes.2.1 94 = .ok (.putfield 206, 3) := by decide +kernel
theorem k_fm_minutes_97 : decode me_fm_minutes.2.1 97 = .ok (.iinc 3 1, 3) := by decide +kernel
theorem k_fm_minutes_100 : decode me_fm_minutes.2.1 100 = .ok (.goto (-70), 3) := by decide +kernel
theorem k_fm_minutes_103 : decode me_fm_minutes.2.1 103 = .ok (.iconst 0, 1) := by decide +kernel
theorem k_fm_minutes_104 : decode me_fm_minutes.2.1 104 = .ok (.istore_n 3, 1) := by decide +kernel
theorem k_fm_minutes_105 : decode me_fm_minutes.2.1 105 = .ok (.iload_n 3, 1) := by decide +kernel
theorem k_fm_minutes_106 : decode me_fm_minutes.2.1 106 = .ok (.aload_n 0, 1) := by decide +kernel
theorem k_fm_minutes_107 : decode me_fm_minutes.2.1 107 = .ok (.getfield 141, 3) := by decide +kernel
theorem k_fm_minutes_110 : decode me_fm_minutes.2.1 110 = .ok (.if_icmp .ge 21, 3) := by decide +kernel
theorem k_fm_minutes_113 : decode me_fm_minutes.2.1 113 = .ok (.aload_n 0, 1) := by decide +kernel
theorem k_fm_minutes_114 : decode me_fm_minutes.2.1 114 = .ok (.getfield 29, 3) := by decide +kernel
theorem k_fm_minutes_117 : decode me_fm_minutes.2.1 117 = .ok (.iload_n 3, 1) := by decide +kernel
theorem k_fm_minutes_118 : decode me_fm_minutes.2.1 118 = .ok (.aload_n 0, 1) := by decide +kernel
theorem k_fm_minutes_119 : decode me_fm_minutes.2.1 119 = .ok (.getfield 102, 3) := by decide +kernel
theorem k_fm_minutes_122 : decode me_fm_minutes.2.1 122 = .ok (.iload_n 3, 1) := by decide +kernel
theorem k_fm_minutes_123 : decode me_fm_minutes.2.1 123 = .ok (.iaload, 1) := by decide +kernel
theorem k_fm_minutes_124 : decode me_fm_minutes.2.1 124 = .ok (.iastore, 1) := by decide +kernel
theorem k_fm_minutes_125 : decode me_fm_minutes.2.1 125 = .ok (.iinc 3 1, 3) := by decide +kernel
theorem k_fm_minutes_128 : decode me_fm_minutes.2.1 128 = .ok (.goto (-23), 3) := by decide +kernel
theorem k_fm_minutes_131 : decode me_fm_minutes.2.1 131 = .ok (.aload_n 0, 1) := by decide +kernel
theorem k_fm_minutes_132 : decode me_fm_minutes.2.1 132 = .ok (.invokevirtual 152, 3) := by decide +kernel
theorem k_fm_minutes_135 : decode me_fm_minutes.2.1 135 = .ok (.aload_n 0, 1) := by decide +kernel
theorem k_fm_minutes_136 : decode me_fm_minutes.2.1 136 = .ok (.getfield 206, 3) := by decide +kernel
theorem k_fm_minutes_139 : decode me_fm_minutes.2.1 139 = .ok (.ireturn, 1) := by decide +kernel
theorem k_fm_passes_0 : decode me_fm_passes.2.1 0 = .ok (.aload_n 0, 1) := by decide +kernel
theorem k_fm_passes_1 : decode me_fm_passes.2.1 1 = .ok (.getfield 20, 3) := by decide +kernel
theorem k_fm_passes_4 : decode me_fm_passes.2.1 4 = .ok (.iload_n 1, 1) := by decide +kernel
theorem k_fm_passes_5 : decode me_fm_passes.2.1 5 = .ok (.iaload, 1) := by decide +kernel
theorem k_fm_passes_6 : decode me_fm_passes.2.1 6 = .ok (.aload_n 0, 1) := by decide +kernel
theorem k_fm_passes_7 : decode me_fm_passes.2.1 7 = .ok (.getfield 23, 3) := by decide +kernel
theorem k_fm_passes_10 : decode me_fm_passes.2.1 10 = .ok (.iload_n 1, 1) := by decide +kernel
theorem k_fm_passes_11 : decode me_fm_passes.2.1 11 = .ok (.iaload, 1) := by decide +kernel
theorem k_fm_passes_12 : decode me_fm_passes.2.1 12 = .ok (.imul, 1) := by decide +kernel
theorem k_fm_passes_13 : decode me_fm_passes.2.1 13 = .ok (.istore_n 2, 1) := by decide +kernel
theorem k_fm_passes_14 : decode me_fm_passes.2.1 14 = .ok (.aload_n 0, 1) := by decide +kernel
theorem k_fm_passes_15 : decode me_fm_passes.2.1 15 = .ok (.getfield 102, 3) := by decide +kernel
theorem k_fm_passes_18 : decode me_fm_passes.2.1 18 = .ok (.iload_n 1, 1) := by decide +kernel
theorem k_fm_passes_19 : decode me_fm_passes.2.1 19 = .ok (.iaload, 1) := by decide +kernel
theorem k_fm_passes_20 : decode me_fm_passes.2.1 20 = .ok (.aload_n 0, 1) := by decide +kernel
theorem k_fm_passes_21 : decode me_fm_passes.2.1 21 = .ok (.getfield 26, 3) := by decide +kernel
theorem k_fm_passes_24 : decode me_fm_passes.2.1 24 = .ok (.iload_n 1, 1) := by decide +kernel
theorem k_fm_passes_25 : decode me_fm_passes.2.1 25 = .ok (.iaload, 1) := by decide +kernel
theorem k_fm_passes_26 : decode me_fm_passes.2.1 26 = .ok (.iadd, 1) := by decide +kernel
theorem k_fm_passes_27 : decode me_fm_passes.2.1 27 = .ok (.istore_n 3, 1) := by decide +kernel
theorem k_fm_passes_28 : decode me_fm_passes.2.1 28 = .ok (.aload_n 0, 1) := by decide +kernel
theorem k_fm_passes_29 : decode me_fm_passes.2.1 29 = .ok (.iconst 0, 1) := by decide +kernel
theorem k_fm_passes_30 : decode me_fm_passes.2.1 30 = .ok (.iload_n 3, 1) := by decide +kernel
theorem k_fm_passes_31 : decode me_fm_passes.2.1 31 = .ok (.iload_n 2, 1) := by decide +kernel
theorem k_fm_passes_32 : decode me_fm_passes.2.1 32 = .ok (.isub, 1) := by decide +kernel
theorem k_fm_passes_33 : decode me_fm_passes.2.1 33 = .ok (.invokestatic 188, 3) := by decide +kernel
theorem k_fm_passes_36 : decode me_fm_passes.2.1 36 = .ok (.putfield 194, 3) := by decide +kernel
theorem k_fm_passes_39 : decode me_fm_passes.2.1 39 = .ok (.iload_n 3, 1) := by decide +kernel
theorem k_fm_passes_40 : decode me_fm_passes.2.1 40 = .ok (.iload_n 2, 1) := by decide +kernel
theorem k_fm_passes_41 : decode me_fm_passes.2.1 41 = .ok (.invokestatic 197, 3) := by decide +kernel
theorem k_fm_passes_44 : decode me_fm_passes.2.1 44 = .ok (.istore_n 3, 1) := by decide +kernel
theorem k_fm_passes_45 : decode me_fm_passes.2.1 45 = .ok (.aload_n 0, 1) := by decide +kernel
theorem k_fm_passes_46 : decode me_fm_passes.2.1 46 = .ok (.iload_n 3, 1) := by decide +kernel
theorem k_fm_passes_47 : decode me_fm_passes.2.1 47 = .ok (.aload_n 0, 1) := by decide +kernel
theorem k_fm_passes_48 : decode me_fm_passes.2.1 48 = .ok (.getfield 105, 3) := by decide +kernel
theorem k_fm_passes_51 : decode me_fm_passes.2.1 51 = .ok (.iload_n 1, 1) := by decide +kernel
theorem k_fm_passes_52 : decode me_fm_passes.2.1 52 = .ok (.iaload, 1) := by decide +kernel
theorem k_fm_passes_53 : decode me_fm_passes.2.1 53 = .ok (.invokestatic 197, 3) := by decide +kernel
theorem k_fm_passes_56 : decode me_fm_passes.2.1 56 = .ok (.putfield 200, 3) := by decide +kernel
theorem k_fm_passes_59 : decode me_fm_passes.2.1 59 = .ok (.aload_n 0, 1) := by decide +kernel
theorem k_fm_passes_60 : decode me_fm_passes.2.1 60 = .ok (.aload_n 0, 1) := by decide +kernel
theorem k_fm_passes_61 : decode me_fm_passes.2.1 61 = .ok (.getfield 105, 3) := by decide +kernel
theorem k_fm_passes_64 : decode me_fm_passes.2.1 64 = .ok (.iload_n 1, 1) := by decide +kernel
theorem k_fm_passes_65 : decode me_fm_passes.2.1 65 = .ok (.iaload, 1) := by decide +kernel
theorem k_fm_passes_66 : decode me_fm_passes.2.1 66 = .ok (.aload_n 0, 1) := by decide +kernel
theorem k_fm_passes_67 : decode me_fm_passes.2.1 67 = .ok (.getfield 200, 3) := by decide +kernel
theorem k_fm_passes_70 : decode me_fm_passes.2.1 70 = .ok (.isub, 1) := by decide +kernel
theorem k_fm_passes_71 : decode me_fm_passes.2.1 71 = .ok (.putfield 203, 3) := by decide +kernel
theorem k_fm_passes_74 : decode me_fm_passes.2.1 74 = .ok (.aload_n 0, 1) := by decide +kernel
theorem k_fm_passes_75 : decode me_fm_passes.2.1 75 = .ok (.getfield 102, 3) := by decide +kernel
theorem k_fm_passes_78 : decode me_fm_passes.2.1 78 = .ok (.iload_n 1, 1) := by decide +kernel
theorem k_fm_passes_79 : decode me_fm_passes.2.1 79 = .ok (.iload_n 3, 1) := by decide +kernel
theorem k_fm_passes_80 : decode me_fm_passes.2.1 80 = .ok (.aload_n 0, 1) := by decide +kernel
theorem k_fm_passes_81 : decode me_fm_passes.2.1 81 = .ok (.getfield 200, 3) := by decide +kernel
theorem k_fm_passes_84 : decode me_fm_passes.2.1 84 = .ok (.isub, 1) := by decide +kernel
theorem k_fm_passes_85 : decode me_fm_passes.2.1 85 = .ok (.iastore, 1) := by decide +kernel
theorem k_fm_passes_86 : decode me_fm_passes.2.1 86 = .ok (.return_, 1) := by decide +kernel
theorem k_fm_lasts_0 : decode me_fm_lasts.2.1 0 = .ok (.iload_n 1, 1) := by decide +kernel
theorem k_fm_lasts_1 : decode me_fm_lasts.2.1 1 = .ok (.aload_n 0, 1) := by decide +kernel
theorem k_fm_lasts_2 : decode me_fm_lasts.2.1 2 = .ok (.getfield 141, 3) := by decide +kernel
theorem k_fm_lasts_5 : decode me_fm_lasts.2.1 5 = .ok (.invokestatic 144, 3) := by decide +kernel
theorem k_fm_lasts_8 : decode me_fm_lasts.2.1 8 = .ok (.ifCond .ne 9, 3) := by decide +kernel
theorem k_fm_lasts_11 : decode me_fm_lasts.2.1 11 = .ok (.aload_n 0, 1) := by decide +kernel
theorem k_fm_lasts_12 : decode me_fm_lasts.2.1 12 = .ok (.iconst (-1), 1) := by decide +kernel
theorem k_fm_lasts_13 : decode me_fm_lasts.2.1 13 = .ok (.invokevirtual 133, 3) := by decide +kernel
theorem k_fm_lasts_16 : decode me_fm_lasts.2.1 16 = .ok (.ireturn, 1) := by decide +kernel
theorem k_fm_lasts_17 : decode me_fm_lasts.2.1 17 = .ok (.aload_n 0, 1) := by decide +kernel
theorem k_fm_lasts_18 : decode me_fm_lasts.2.1 18 = .ok (.invokevirtual 179, 3) := by decide +kernel
theorem k_fm_lasts_21 : decode me_fm_lasts.2.1 21 = .ok (.iconst 0, 1) := by decide +kernel
theorem k_fm_lasts_22 : decode me_fm_lasts.2.1 22 = .ok (.istore_n 2, 1) := by decide +kernel
theorem k_fm_lasts_23 : decode me_fm_lasts.2.1 23 = .ok (.iload_n 2, 1) := by decide +kernel
theorem k_fm_lasts_24 : decode me_fm_lasts.2.1 24 = .ok (.sipush 1440, 3) := by decide +kernel
theorem k_fm_lasts_27 : decode me_fm_lasts.2.1 27 = .ok (.if_icmp .gt 25, 3) := by decide +kernel
theorem k_fm_lasts_30 : decode me_fm_lasts.2.1 30 = .ok (.aload_n 0, 1) := by decide +kernel
theorem k_fm_lasts_31 : decode me_fm_lasts.2.1 31 = .ok (.getfield 102, 3) := by decide +kernel
theorem k_fm_lasts_34 : decode me_fm_lasts.2.1 34 = .ok (.iload_n 1, 1) := by decide +kernel
theorem k_fm_lasts_35 : decode me_fm_lasts.2.1 35 = .ok (.iaload, 1) := by decide +kernel
theorem k_fm_lasts_36 : decode me_fm_lasts.2.1 36 = .ok (.ifCond .ne 5, 3) := by decide +kernel
theorem k_fm_lasts_39 : decode me_fm_lasts.2.1 39 = .ok (.iload_n 2, 1) := by decide +kernel
theorem k_fm_lasts_40 : decode me_fm_lasts.2.1 40 = .ok (.ireturn, 1) := by decide +kernel
theorem k_fm_lasts_41 : decode me_fm_lasts.2.1 41 = .ok (.aload_n 0, 1) := by decide +kernel
theorem k_fm_lasts_42 : decode me_fm_lasts.2.1 42 = .ok (.iload_n 1, 1) := by decide +kernel
theorem k_fm_lasts_43 : decode me_fm_lasts.2.1 43 = .ok (.invokevirtual 209, 3) := by decide +kernel
theorem k_fm_lasts_46 : decode me_fm_lasts.2.1 46 = .ok (.iinc 2 1, 3) := by decide +kernel
theorem k_fm_lasts_49 : decode me_fm_lasts.2.1 49 = .ok (.goto (-26), 3) := by decide +kernel
theorem k_fm_lasts_52 : decode me_fm_lasts.2.1 52 = .ok (.bipush (-9), 2) := by decide +kernel
theorem k_fm_lasts_54 : decode me_fm_lasts.2.1 54 = .ok (.ireturn, 1) := by decide +kernel
theorem k_fm_view_0 : decode me_fm_view.2.1 0 = .ok (.iload_n 1, 1) := by decide +kernel
theorem k_fm_view_1 : decode me_fm_view.2.1 1 = .ok (.ifCond .le 13, 3) := by decide +kernel
theorem k_fm_view_4 : decode me_fm_view.2.1 4 = .ok (.iload_n 1, 1) := by decide +kernel
theorem k_fm_view_5 : decode me_fm_view.2.1 5 = .ok (.iconst 1, 1) := by decide +kernel
theorem k_fm_view_6 : decode me_fm_view.2.1 6 = .ok (.aload_n 0, 1) := by decide +kernel
theorem k_fm_view_7 : decode me_fm_view.2.1 7 = .ok (.getfield 158, 3) := by decide +kernel
theorem k_fm_view_10 : decode me_fm_view.2.1 10 = .ok (.ishl, 1) := by decide +kernel
theorem k_fm_view_11 : decode me_fm_view.2.1 11 = .ok (.if_icmp .lt 9, 3) := by decide +kernel
theorem k_fm_view_14 : decode me_fm_view.2.1 14 = .ok (.aload_n 0, 1) := by decide +kernel
theorem k_fm_view_15 : decode me_fm_view.2.1 15 = .ok (.iconst (-1), 1) := by decide +kernel
theorem k_fm_view_16 : decode me_fm_view.2.1 16 = .ok (.invokevirtual 133, 3) := by decide +kernel
theorem k_fm_view_19 : decode me_fm_view.2.1 19 = .ok (.ireturn, 1) := by decide +kernel
theorem k_fm_view_20 : decode me_fm_view.2.1 20 = .ok (.aload_n 0, 1) := by decide +kernel
theorem k_fm_view_21 : decode me_fm_view.2.1 21 = .ok (.getfield 213, 3) := by decide +kernel
theorem k_fm_view_24 : decode me_fm_view.2.1 24 = .ok (.ifCond .ne 7, 3) := by decide +kernel
theorem k_fm_view_27 : decode me_fm_view.2.1 27 = .ok (.iconst 0, 1) := by decide +kernel
theorem k_fm_view_28 : decode me_fm_view.2.1 28 = .ok (.goto 16, 3) := by decide +kernel
theorem k_fm_view_31 : decode me_fm_view.2.1 31 = .ok (.aload_n 0, 1) := by decide +kernel
theorem k_fm_view_32 : decode me_fm_view.2.1 32 = .ok (.getfield 81, 3) := by decide +kernel
theorem k_fm_view_35 : decode me_fm_view.2.1 35 = .ok (.aload_n 0, 1) := by decide +kernel
theorem k_fm_view_36 : decode me_fm_view.2.1 36 = .ok (.getfield 213, 3) := by decide +kernel
theorem k_fm_view_39 : decode me_fm_view.2.1 39 = .ok (.iconst 1, 1) := by decide +kernel
theorem k_fm_view_40 : decode me_fm_view.2.1 40 = .ok (.isub, 1) := by decide +kernel
theorem k_fm_view_41 : decode me_fm_view.2.1 41 = .ok (.iaload, 1) := by decide +kernel
theorem k_fm_view_42 : decode me_fm_view.2.1 42 = .ok (.iconst 1, 1) := by decide +kernel
theorem k_fm_view_43 : decode me_fm_view.2.1 43 = .ok (.iadd, 1) := by decide +kernel
theorem k_fm_view_44 : decode me_fm_view.2.1 44 = .ok (.istore 5, 2) := by decide +kernel
theorem k_fm_view_46 : decode me_fm_view.2.1 46 = .ok (.iload_n 2, 1) := by decide +kernel
theorem k_fm_view_47 : decode me_fm_view.2.1 47 = .ok (.iload 5, 2) := by decide +kernel
theorem k_fm_view_49 : decode me_fm_view.2.1 49 = .ok (.if_icmp .lt 13, 3) := by decide +kernel
theorem k_fm_view_52 : decode me_fm_view.2.1 52 = .ok (.iload_n 3, 1) := by decide +kernel
theorem k_fm_view_53 : decode me_fm_view.2.1 53 = .ok (.iload_n 2, 1) := by decide +kernel
theorem k_fm_view_54 : decode me_fm_view.2.1 54 = .ok (.if_icmp .lt 8, 3) := by decide +kernel
theorem k_fm_view_57 : decode me_fm_view.2.1 57 = .ok (.iload 4, 2) := by decide +kernel
theorem k_fm_view_59 : decode me_fm_view.2.1 59 = .ok (.ifCond .ge 10, 3) := by decide +kernel
theorem k_fm_view_62 : decode me_fm_view.2.1 62 = .ok (.aload_n 0, 1) := by decide +kernel
theorem k_fm_view_63 : decode me_fm_view.2.1 63 = .ok (.bipush (-4), 2) := by decide +kernel
theorem k_fm_view_65 : decode me_fm_view.2.1 65 = .ok (.invokevirtual 133, 3) := by decide +kernel
theorem k_fm_view_68 : decode me_fm_view.2.1 68 = .ok (.ireturn, 1) := by decide +kernel
theorem k_fm_view_69 : decode me_fm_view.2.1 69 = .ok (.iload_n 3, 1) := by decide +kernel
theorem k_fm_view_70 : decode me_fm_view.2.1 70 = .ok (.sipush 1440, 3) := by decide +kernel
theorem k_fm_view_73 : decode me_fm_view.2.1 73 = .ok (.if_icmp .gt 20, 3) := by decide +kernel
theorem k_fm_view_76 : decode me_fm_view.2.1 76 = .ok (.iload 4, 2) := by decide +kernel
theorem k_fm_view_78 : decode me_fm_view.2.1 78 = .ok (.sipush 500, 3) := by decide +kernel
theorem k_fm_view_81 : decode me_fm_view.2.1 81 = .ok (.if_icmp .gt 12, 3) := by decide +kernel
theorem k_fm_view_84 : decode me_fm_view.2.1 84 = .ok (.aload_n 0, 1) := by decide +kernel
theorem k_fm_view_85 : decode me_fm_view.2.1 85 = .ok (.getfield 213, 3) := by decide +kernel
theorem k_fm_view_88 : decode me_fm_view.2.1 88 = .ok (.bipush 12, 2) := by decide +kernel
theorem k_fm_view_90 : decode me_fm_view.2.1 90 = .ok (.if_icmp .ne 10, 3) := by decide +kernel
theorem k_fm_view_93 : decode me_fm_view.2.1 93 = .ok (.aload_n 0, 1) := by decide +kernel
theorem k_fm_view_94 : decode me_fm_view.2.1 94 = .ok (.bipush (-6), 2) := by decide +kernel
theorem k_fm_view_96 : decode me_fm_view.2.1 96 = .ok (.invokevirtual 133, 3) := by decide +kernel
theorem k_fm_view_99 : decode me_fm_view.2.1 99 = .ok (.ireturn, 1) := by decide +kernel
theorem k_fm_view_100 : decode me_fm_view.2.1 100 = .ok (.aload_n 0, 1) := by decide +kernel
theorem k_fm_view_101 : decode me_fm_view.2.1 101 = .ok (.getfield 75, 3) := by decide +kernel
theorem k_fm_view_104 : decode me_fm_view.2.1 104 = .ok (.aload_n 0, 1) := by decide +kernel
theorem k_fm_view_105 : decode me_fm_view.2.1 105 = .ok (.getfield 213, 3) := by decide +kernel
theorem k_fm_view_108 : decode me_fm_view.2.1 108 = .ok (.iload_n 1, 1) := by decide +kernel
theorem k_fm_view_109 : decode me_fm_view.2.1 109 = .ok (.iastore, 1) := by decide +kernel
theorem k_fm_view_110 : decode me_fm_view.2.1 110 = .ok (.aload_n 0, 1) := by decide +kernel
theorem k_fm_view_111 : decode me_fm_view.2.1 111 = .ok (.getfield 78, 3) := by decide +kernel
theorem k_fm_view_114 : decode me_fm_view.2.1 114 = .ok (.aload_n 0, 1) := by decide +kernel
theorem k_fm_view_115 : decode me_fm_view.2.1 115 = .ok (.getfield 213, 3) := by decide +kernel
theorem k_fm_view_118 : decode me_fm_view.2.1 118 = .ok (.iload_n 2, 1) := by decide +kernel
theorem k_fm_view_119 : decode me_fm_view.2.1 119 = .ok (.iastore, 1) := by decide +kernel
theorem k_fm_view_120 : decode me_fm_view.2.1 120 = .ok (.aload_n 0, 1) := by decide +kernel
theorem k_fm_view_121 : decode me_fm_view.2.1 121 = .ok (.getfield 81, 3) := by decide +kernel
theorem k_fm_view_124 : decode me_fm_view.2.1 124 = .ok (.aload_n 0, 1) := by decide +kernel
theorem k_fm_view_125 : decode me_fm_view.2.1 125 = .ok (.getfield 213, 3) := by decide +kernel
theorem k_fm_view_128 : decode me_fm_view.2.1 128 = .ok (.iload_n 3, 1) := by decide +kernel
theorem k_fm_view_129 : decode me_fm_view.2.1 129 = .ok (.iastore, 1) := by decide +kernel
theorem k_fm_view_130 : decode me_fm_view.2.1 130 = .ok (.aload_n 0, 1) := by decide +kernel
theorem k_fm_view_131 : decode me_fm_view.2.1 131 = .ok (.getfield 84, 3) := by decide +kernel
theorem k_fm_view_134 : decode me_fm_view.2.1 134 = .ok (.aload_n 0, 1) := by decide +kernel
theorem k_fm_view_135 : decode me_fm_view.2.1 135 = .ok (.getfield 213, 3) := by decide +kernel
theorem k_fm_view_138 : decode me_fm_view.2.1 138 = .ok (.iload 4, 2) := by decide +kernel
theorem k_fm_view_140 : decode me_fm_view.2.1 140 = .ok (.iastore, 1) := by decide +kernel
theorem k_fm_view_141 : decode me_fm_view.2.1 141 = .ok (.aload_n 0, 1) := by decide +kernel
theorem k_fm_view_142 : decode me_fm_view.2.1 142 = .ok (.dup, 1) := by decide +kernel
theorem k_fm_view_143 : decode me_fm_view.2.1 143 = .ok (.getfield 213, 3) := by decide +kernel
theorem k_fm_view_146 : decode me_fm_view.2.1 146 = .ok (.iconst 1, 1) := by decide +kernel
theorem k_fm_view_147 : decode me_fm_view.2.1 147 = .ok (.iadd, 1) := by decide +kernel
theorem k_fm_view_148 : decode me_fm_view.2.1 148 = .ok (.putfield 213, 3) := by decide +kernel
theorem k_fm_view_151 : decode me_fm_view.2.1 151 = .ok (.aload_n 0, 1) := by decide +kernel
theorem k_fm_view_152 : decode me_fm_view.2.1 152 = .ok (.getfield 213, 3) := by decide +kernel
theorem k_fm_view_155 : decode me_fm_view.2.1 155 = .ok (.iconst 1, 1) := by decide +kernel
theorem k_fm_view_156 : decode me_fm_view.2.1 156 = .ok (.isub, 1) := by decide +kernel
theorem k_fm_view_157 : decode me_fm_view.2.1 157 = .ok (.ireturn, 1) := by decide +kernel
theorem k_fm_unview_0 : decode me_fm_unview.2.1 0 = .ok (.aload_n 0, 1) := by decide +kernel
theorem k_fm_unview_1 : decode me_fm_unview.2.1 1 = .ok (.getfield 213, 3) := by decide +kernel
theorem k_fm_unview_4 : decode me_fm_unview.2.1 4 = .ok (.ifCond .ne 10, 3) := by decide +kernel
theorem k_fm_unview_7 : decode me_fm_unview.2.1 7 = .ok (.aload_n 0, 1) := by decide +kernel
theorem k_fm_unview_8 : decode me_fm_unview.2.1 8 = .ok (.bipush (-3), 2) := by decide +kernel
theorem k_fm_unview_10 : decode me_fm_unview.2.1 10 = .ok (.invokevirtual 133, 3) := by decide +kernel
theorem k_fm_unview_13 : decode me_fm_unview.2.1 13 = .ok (.ireturn, 1) := by decide +kernel
theorem k_fm_unview_14 : decode me_fm_unview.2.1 14 = .ok (.aload_n 0, 1) := by decide +kernel
theorem k_fm_unview_15 : decode me_fm_unview.2.1 15 = .ok (.dup, 1) := by decide +kernel
theorem k_fm_unview_16 : decode me_fm_unview.2.1 16 = .ok (.getfield 213, 3) := by decide +kernel
theorem k_fm_unview_19 : decode me_fm_unview.2.1 19 = .ok (.iconst 1, 1) := by decide +kernel
theorem k_fm_unview_20 : decode me_fm_unview.2.1 20 = .ok (.isub, 1) := by decide +kernel
theorem k_fm_unview_21 : decode me_fm_unview.2.1 21 = .ok (.putfield 213, 3) := by decide +kernel
theorem k_fm_unview_24 : decode me_fm_unview.2.1 24 = .ok (.aload_n 0, 1) := by decide +kernel
theorem k_fm_unview_25 : decode me_fm_unview.2.1 25 = .ok (.getfield 213, 3) := by decide +kernel
theorem k_fm_unview_28 : decode me_fm_unview.2.1 28 = .ok (.ireturn, 1) := by decide +kernel
theorem k_fm_walk_0 : decode me_fm_walk.2.1 0 = .ok (.iload_n 1, 1) := by decide +kernel
theorem k_fm_walk_1 : decode me_fm_walk.2.1 1 = .ok (.iconst 5, 1) := by decide +kernel
theorem k_fm_walk_2 : decode me_fm_walk.2.1 2 = .ok (.invokestatic 144, 3) := by decide +kernel
theorem k_fm_walk_5 : decode me_fm_walk.2.1 5 = .ok (.ifCond .ne 10, 3) := by decide +kernel
theorem k_fm_walk_8 : decode me_fm_walk.2.1 8 = .ok (.aload_n 0, 1) := by decide +kernel
theorem k_fm_walk_9 : decode me_fm_walk.2.1 9 = .ok (.bipush (-2), 2) := by decide +kernel
theorem k_fm_walk_11 : decode me_fm_walk.2.1 11 = .ok (.invokevirtual 133, 3) := by decide +kernel
theorem k_fm_walk_14 : decode me_fm_walk.2.1 14 = .ok (.ireturn, 1) := by decide +kernel
theorem k_fm_walk_15 : decode me_fm_walk.2.1 15 = .ok (.aload_n 0, 1) := by decide +kernel
theorem k_fm_walk_16 : decode me_fm_walk.2.1 16 = .ok (.invokevirtual 240, 3) := by decide +kernel
theorem k_fm_walk_19 : decode me_fm_walk.2.1 19 = .ok (.ifCond .ne 10, 3) := by decide +kernel
theorem k_fm_walk_22 : decode me_fm_walk.2.1 22 = .ok (.aload_n 0, 1) := by decide +kernel
theorem k_fm_walk_23 : decode me_fm_walk.2.1 23 = .ok (.bipush (-3), 2) := by decide +kernel
theorem k_fm_walk_25 : decode me_fm_walk.2.1 25 = .ok (.invokevirtual 133, 3) := by decide +kernel
theorem k_fm_walk_28 : decode me_fm_walk.2.1 28 = .ok (.ireturn, 1) := by decide +kernel
theorem k_fm_walk_29 : decode me_fm_walk.2.1 29 = .ok (.aload_n 0, 1) := by decide +kernel
theorem k_fm_walk_30 : decode me_fm_walk.2.1 30 = .ok (.iconst 1, 1) := by decide +kernel
theorem k_fm_walk_31 : decode me_fm_walk.2.1 31 = .ok (.invokevirtual 244, 3) := by decide +kernel
theorem k_fm_walk_34 : decode me_fm_walk.2.1 34 = .ok (.iload_n 1, 1) := by decide +kernel
theorem k_fm_walk_35 : decode me_fm_walk.2.1 35 = .ok (.ifCond .ne 10, 3) := by decide +kernel
theorem k_fm_walk_38 : decode me_fm_walk.2.1 38 = .ok (.aload_n 0, 1) := by decide +kernel
theorem k_fm_walk_39 : decode me_fm_walk.2.1 39 = .ok (.getfield 216, 3) := by decide +kernel
theorem k_fm_walk_42 : decode me_fm_walk.2.1 42 = .ok (.goto 43, 3) := by decide +kernel
theorem k_fm_walk_45 : decode me_fm_walk.2.1 45 = .ok (.iload_n 1, 1) := by decide +kernel
theorem k_fm_walk_46 : decode me_fm_walk.2.1 46 = .ok (.iconst 1, 1) := by decide +kernel
theorem k_fm_walk_47 : decode me_fm_walk.2.1 47 = .ok (.if_icmp .ne 10, 3) := by decide +kernel
theorem k_fm_walk_50 : decode me_fm_walk.2.1 50 = .ok (.aload_n 0, 1) := by decide +kernel
theorem k_fm_walk_51 : decode me_fm_walk.2.1 51 = .ok (.getfield 219, 3) := by decide +kernel
theorem k_fm_walk_54 : decode me_fm_walk.2.1 54 = .ok (.goto 31, 3) := by decide +kernel
theorem k_fm_walk_57 : decode me_fm_walk.2.1 57 = .ok (.iload_n 1, 1) := by decide +kernel
theorem k_fm_walk_58 : decode me_fm_walk.2.1 58 = .ok (.iconst 2, 1) := by decide +kernel
theorem k_fm_walk_59 : decode me_fm_walk.2.1 59 = .ok (.if_icmp .ne 10, 3) := by decide +kernel
theorem k_fm_walk_62 : decode me_fm_walk.2.1 62 = .ok (.aload_n 0, 1) := by decide +kernel
theorem k_fm_walk_63 : decode me_fm_walk.2.1 63 = .ok (.getfield 222, 3) := by decide +kernel
theorem k_fm_walk_66 : decode me_fm_walk.2.1 66 = .ok (.goto 19, 3) := by decide +kernel
theorem k_fm_walk_69 : decode me_fm_walk.2.1 69 = .ok (.iload_n 1, 1) := by decide +kernel
theorem k_fm_walk_70 : decode me_fm_walk.2.1 70 = .ok (.iconst 3, 1) := by decide +kernel
theorem k_fm_walk_71 : decode me_fm_walk.2.1 71 = .ok (.if_icmp .ne 10, 3) := by decide +kernel
theorem k_fm_walk_74 : decode me_fm_walk.2.1 74 = .ok (.aload_n 0, 1) := by decide +kernel
theorem k_fm_walk_75 : decode me_fm_walk.2.1 75 = .ok (.getfield 225, 3) := by decide +kernel
theorem k_fm_walk_78 : decode me_fm_walk.2.1 78 = .ok (.goto 7, 3) := by decide +kernel
theorem k_fm_walk_81 : decode me_fm_walk.2.1 81 = .ok (.aload_n 0, 1) := by decide +kernel
theorem k_fm_walk_82 : decode me_fm_walk.2.1 82 = .ok (.getfield 228, 3) := by decide +kernel
theorem k_fm_walk_85 : decode me_fm_walk.2.1 85 = .ok (.ireturn, 1) := by decide +kernel
theorem k_fm_hasWalk_0 : decode me_fm_hasWalk.2.1 0 = .ok (.aload_n 0, 1) := by decide +kernel
theorem k_fm_hasWalk_1 : decode me_fm_hasWalk.2.1 1 = .ok (.getfield 213, 3) := by decide +kernel
theorem k_fm_hasWalk_4 : decode me_fm_hasWalk.2.1 4 = .ok (.ifCond .le 25, 3) := by decide +kernel
theorem k_fm_hasWalk_7 : decode me_fm_hasWalk.2.1 7 = .ok (.aload_n 0, 1) := by decide +kernel
theorem k_fm_hasWalk_8 : decode me_fm_hasWalk.2.1 8 = .ok (.getfield 81, 3) := by decide +kernel
theorem k_fm_hasWalk_11 : decode me_fm_hasWalk.2.1 11 = .ok (.aload_n 0, 1) := by decide +kernel
theorem k_fm_hasWalk_12 : decode me_fm_hasWalk.2.1 12 = .ok (.getfield 213, 3) := by decide +kernel
theorem k_fm_hasWalk_15 : decode me_fm_hasWalk.2.1 15 = .ok (.iconst 1, 1) := by decide +kernel
theorem k_fm_hasWalk_16 : decode me_fm_hasWalk.2.1 16 = .ok (.isub, 1) := by decide +kernel
theorem k_fm_hasWalk_17 : decode me_fm_hasWalk.2.1 17 = .ok (.iaload, 1) := by decide +kernel
theorem k_fm_hasWalk_18 : decode me_fm_hasWalk.2.1 18 = .ok (.aload_n 0, 1) := by decide +kernel
theorem k_fm_hasWalk_19 : decode me_fm_hasWalk.2.1 19 = .ok (.getfield 206, 3) := by decide +kernel
theorem k_fm_hasWalk_22 : decode me_fm_hasWalk.2.1 22 = .ok (.if_icmp .lt 7, 3) := by decide +kernel
theorem k_fm_hasWalk_25 : decode me_fm_hasWalk.2.1 25 = .ok (.iconst 1, 1) := by decide +kernel
theorem k_fm_hasWalk_26 : decode me_fm_hasWalk.2.1 26 = .ok (.goto 4, 3) := by decide +kernel
theorem k_fm_hasWalk_29 : decode me_fm_hasWalk.2.1 29 = .ok (.iconst 0, 1) := by decide +kernel
theorem k_fm_hasWalk_30 : decode me_fm_hasWalk.2.1 30 = .ok (.ireturn, 1) := by decide +kernel
theorem k_fm_walks_0 : decode me_fm_walks.2.1 0 = .ok (.aload_n 0, 1) := by decide +kernel
theorem k_fm_walks_1 : decode me_fm_walks.2.1 1 = .ok (.invokevirtual 179, 3) := by decide +kernel
theorem k_fm_walks_4 : decode me_fm_walks.2.1 4 = .ok (.aload_n 0, 1) := by decide +kernel
theorem k_fm_walks_5 : decode me_fm_walks.2.1 5 = .ok (.bipush (-9), 2) := by decide +kernel
theorem k_fm_walks_7 : decode me_fm_walks.2.1 7 = .ok (.putfield 216, 3) := by decide +kernel
theorem k_fm_walks_10 : decode me_fm_walks.2.1 10 = .ok (.aload_n 0, 1) := by decide +kernel
theorem k_fm_walks_11 : decode me_fm_walks.2.1 11 = .ok (.bipush (-9), 2) := by decide +kernel
theorem k_fm_walks_13 : decode me_fm_walks.2.1 13 = .ok (.putfield 219, 3) := by decide +kernel
theorem k_fm_walks_16 : decode me_fm_walks.2.1 16 = .ok (.aload_n 0, 1) := by decide +kernel
theorem k_fm_walks_17 : decode me_fm_walks.2.1 17 = .ok (.bipush (-9), 2) := by decide +kernel
theorem k_fm_walks_19 : decode me_fm_walks.2.1 19 = .ok (.putfield 222, 3) := by decide +kernel
theorem k_fm_walks_22 : decode me_fm_walks.2.1 22 = .ok (.aload_n 0, 1) := by decide +kernel
theorem k_fm_walks_23 : decode me_fm_walks.2.1 23 = .ok (.iconst 0, 1) := by decide +kernel
theorem k_fm_walks_24 : decode me_fm_walks.2.1 24 = .ok (.putfield 225, 3) := by decide +kernel
theorem k_fm_walks_27 : decode me_fm_walks.2.1 27 = .ok (.aload_n 0, 1) := by decide +kernel
theorem k_fm_walks_28 : decode me_fm_walks.2.1 28 = .ok (.iconst (-1), 1) := by decide +kernel
theorem k_fm_walks_29 : decode me_fm_walks.2.1 29 = .ok (.putfield 228, 3) := by decide +kernel
theorem k_fm_walks_32 : decode me_fm_walks.2.1 32 = .ok (.aload_n 0, 1) := by decide +kernel
theorem k_fm_walks_33 : decode me_fm_walks.2.1 33 = .ok (.sipush 500, 3) := by decide +kernel
theorem k_fm_walks_36 : decode me_fm_walks.2.1 36 = .ok (.putfield 231, 3) := by decide +kernel
theorem k_fm_walks_39 : decode me_fm_walks.2.1 39 = .ok (.aload_n 0, 1) := by decide +kernel
theorem k_fm_walks_40 : decode me_fm_walks.2.1 40 = .ok (.invokevirtual 234, 3) := by decide +kernel
theorem k_fm_walks_43 : decode me_fm_walks.2.1 43 = .ok (.aload_n 0, 1) := by decide +kernel
theorem k_fm_walks_44 : decode me_fm_walks.2.1 44 = .ok (.getfield 206, 3) := by decide +kernel
theorem k_fm_walks_47 : decode me_fm_walks.2.1 47 = .ok (.istore_n 2, 1) := by decide +kernel
theorem k_fm_walks_48 : decode me_fm_walks.2.1 48 = .ok (.iload_n 2, 1) := by decide +kernel
theorem k_fm_walks_49 : decode me_fm_walks.2.1 49 = .ok (.aload_n 0, 1) := by decide +kernel
theorem k_fm_walks_50 : decode me_fm_walks.2.1 50 = .ok (.getfield 81, 3) := by decide +kernel
theorem k_fm_walks_53 : decode me_fm_walks.2.1 53 = .ok (.aload_n 0, 1) := by decide +kernel
theorem k_fm_walks_54 : decode me_fm_walks.2.1 54 = .ok (.getfield 213, 3) := by decide +kernel
theorem k_fm_walks_57 : decode me_fm_walks.2.1 57 = .ok (.iconst 1, 1) := by decide +kernel
theorem k_fm_walks_58 : decode me_fm_walks.2.1 58 = .ok (.isub, 1) := by decide +kernel
theorem k_fm_walks_59 : decode me_fm_walks.2.1 59 = .ok (.iaload, 1) := by decide +kernel
theorem k_fm_walks_60 : decode me_fm_walks.2.1 60 = .ok (.if_icmp .gt 200, 3) := by decide +kernel
theorem k_fm_walks_63 : decode me_fm_walks.2.1 63 = .ok (.aload_n 0, 1) := by decide +kernel
theorem k_fm_walks_64 : decode me_fm_walks.2.1 64 = .ok (.iload_n 2, 1) := by decide +kernel
theorem k_fm_walks_65 : decode me_fm_walks.2.1 65 = .ok (.invokevirtual 237, 3) := by decide +kernel
theorem k_fm_walks_68 : decode me_fm_walks.2.1 68 = .ok (.istore_n 3, 1) := by decide +kernel
theorem k_fm_walks_69 : decode me_fm_walks.2.1 69 = .ok (.iconst 0, 1) := by decide +kernel
theorem k_fm_walks_70 : decode me_fm_walks.2.1 70 = .ok (.istore 4, 2) := by decide +kernel
theorem k_fm_walks_72 : decode me_fm_walks.2.1 72 = .ok (.iload 4, 2) := by decide +kernel
theorem k_fm_walks_74 : decode me_fm_walks.2.1 74 = .ok (.aload_n 0, 1) := by decide +kernel
theorem k_fm_walks_75 : decode me_fm_walks.2.1 75 = .ok (.getfield 158, 3) := by decide +kernel
theorem k_fm_walks_78 : decode me_fm_walks.2.1 78 = .ok (.if_icmp .ge 40, 3) := by decide +kernel
theorem k_fm_walks_81 : decode me_fm_walks.2.1 81 = .ok (.aload_n 0, 1) := by decide +kernel
theorem k_fm_walks_82 : decode me_fm_walks.2.1 82 = .ok (.getfield 108, 3) := by decide +kernel
theorem k_fm_walks_85 : decode me_fm_walks.2.1 85 = .ok (.iload 4, 2) := by decide +kernel
theorem k_fm_walks_87 : decode me_fm_walks.2.1 87 = .ok (.iload_n 3, 1) := by decide +kernel
theorem k_fm_walks_88 : decode me_fm_walks.2.1 88 = .ok (.ifCond .lt 22, 3) := by decide +kernel
theorem k_fm_walks_91 : decode me_fm_walks.2.1 91 = .ok (.aload_n 0, 1) := by decide +kernel
theorem k_fm_walks_92 : decode me_fm_walks.2.1 92 = .ok (.getfield 75, 3) := by decide +kernel
theorem k_fm_walks_95 : decode me_fm_walks.2.1 95 = .ok (.iload_n 3, 1) := by decide +kernel
theorem k_fm_walks_96 : decode me_fm_walks.2.1 96 = .ok (.iaload, 1) := by decide +kernel
theorem k_fm_walks_97 : decode me_fm_walks.2.1 97 = .ok (.iload 4, 2) := by decide +kernel
theorem k_fm_walks_99 : decode me_fm_walks.2.1 99 = .ok (.ishr, 1) := by decide +kernel
theorem k_fm_walks_100 : decode me_fm_walks.2.1 100 = .ok (.iconst 1, 1) := by decide +kernel
theorem k_fm_walks_101 : decode me_fm_walks.2.1 101 = .ok (.iand, 1) := by decide +kernel
theorem k_fm_walks_102 : decode me_fm_walks.2.1 102 = .ok (.iconst 1, 1) := by decide +kernel
theorem k_fm_walks_103 : decode me_fm_walks.2.1 103 = .ok (.if_icmp .ne 7, 3) := by decide +kernel
theorem k_fm_walks_106 : decode me_fm_walks.2.1 106 = .ok (.iconst 1, 1) := by decide +kernel
theorem k_fm_walks_107 : decode me_fm_walks.2.1 107 = .ok (.goto 4, 3) := by decide +kernel
theorem k_fm_walks_110 : decode me_fm_walks.2.1 110 = .ok (.iconst 0, 1) := by decide +kernel
theorem k_fm_walks_111 : decode me_fm_walks.2.1 111 = .ok (.bastore, 1) := by decide +kernel
theorem k_fm_walks_112 : decode me_fm_walks.2.1 112 = .ok (.iinc 4 1, 3) := by decide +kernel
theorem k_fm_walks_115 : decode me_fm_walks.2.1 115 = .ok (.goto (-43), 3) := by decide +kernel
theorem k_fm_walks_118 : decode me_fm_walks.2.1 118 = .ok (.aload_n 0, 1) := by decide +kernel
theorem k_fm_walks_119 : decode me_fm_walks.2.1 119 = .ok (.invokevirtual 176, 3) := by decide +kernel
theorem k_fm_walks_122 : decode me_fm_walks.2.1 122 = .ok (.iconst 0, 1) := by decide +kernel
theorem k_fm_walks_123 : decode me_fm_walks.2.1 123 = .ok (.istore 4, 2) := by decide +kernel
theorem k_fm_walks_125 : decode me_fm_walks.2.1 125 = .ok (.iload 4, 2) := by decide +kernel
theorem k_fm_walks_127 : decode me_fm_walks.2.1 127 = .ok (.aload_n 0, 1) := by decide +kernel
theorem k_fm_walks_128 : decode me_fm_walks.2.1 128 = .ok (.getfield 158, 3) := by decide +kernel
theorem k_fm_walks_131 : decode me_fm_walks.2.1 131 = .ok (.if_icmp .ge 82, 3) := by decide +kernel
theorem k_fm_walks_134 : decode me_fm_walks.2.1 134 = .ok (.iload_n 3, 1) := by decide +kernel
theorem k_fm_walks_135 : decode me_fm_walks.2.1 135 = .ok (.ifCond .lt 78, 3) := by decide +kernel
theorem k_fm_walks_138 : decode me_fm_walks.2.1 138 = .ok (.aload_n 0, 1) := by decide +kernel
theorem k_fm_walks_139 : decode me_fm_walks.2.1 139 = .ok (.getfield 108, 3) := by decide +kernel
theorem k_fm_walks_142 : decode me_fm_walks.2.1 142 = .ok (.iload 4, 2) := by decide +kernel
theorem k_fm_walks_144 : decode me_fm_walks.2.1 144 = .ok (.baload, 1) := by decide +kernel
theorem k_fm_walks_145 : decode me_fm_walks.2.1 145 = .ok (.ifCond .ne 6, 3) := by decide +kernel
theorem k_fm_walks_148 : decode me_fm_walks.2.1 148 = .ok (.goto 59, 3) := by decide +kernel
theorem k_fm_walks_151 : decode me_fm_walks.2.1 151 = .ok (.aload_n 0, 1) := by decide +kernel
theorem k_fm_walks_152 : decode me_fm_walks.2.1 152 = .ok (.iload 4, 2) := by decide +kernel
theorem k_fm_walks_154 : decode me_fm_walks.2.1 154 = .ok (.invokevirtual 185, 3) := by decide +kernel
theorem k_fm_walks_157 : decode me_fm_walks.2.1 157 = .ok (.istore 5, 2) := by decide +kernel
theorem k_fm_walks_159 : decode me_fm_walks.2.1 159 = .ok (.aload_n 0, 1) := by decide +kernel
theorem k_fm_walks_160 : decode me_fm_walks.2.1 160 = .ok (.aload_n 0, 1) := by decide +kernel
theorem k_fm_walks_161 : decode me_fm_walks.2.1 161 = .ok (.getfield 231, 3) := by decide +kernel
theorem k_fm_walks_164 : decode me_fm_walks.2.1 164 = .ok (.iload 5, 2) := by decide +kernel
theorem k_fm_walks_166 : decode me_fm_walks.2.1 166 = .ok (.invokestatic 197, 3) := by decide +kernel
theorem k_fm_walks_169 : decode me_fm_walks.2.1 169 = .ok (.putfield 231, 3) := by decide +kernel
theorem k_fm_walks_172 : decode me_fm_walks.2.1 172 = .ok (.iload_n 1, 1) := by decide +kernel
theorem k_fm_walks_173 : decode me_fm_walks.2.1 173 = .ok (.ifCond .eq 34, 3) := by decide +kernel
theorem k_fm_walks_176 : decode me_fm_walks.2.1 176 = .ok (.iload 5, 2) := by decide +kernel
theorem k_fm_walks_178 : decode me_fm_walks.2.1 178 = .ok (.aload_n 0, 1) := by decide +kernel
theorem k_fm_walks_179 : decode me_fm_walks.2.1 179 = .ok (.getfield 84, 3) := by decide +kernel
theorem k_fm_walks_182 : decode me_fm_walks.2.1 182 = .ok (.iload_n 3, 1) := by decide +kernel
theorem k_fm_walks_183 : decode me_fm_walks.2.1 183 = .ok (.iaload, 1) := by decide +kernel
theorem k_fm_walks_184 : decode me_fm_walks.2.1 184 = .ok (.if_icmp .lt 6, 3) := by decide +kernel
theorem k_fm_walks_187 : decode me_fm_walks.2.1 187 = .ok (.goto 20, 3) := by decide +kernel
theorem k_fm_walks_190 : decode me_fm_walks.2.1 190 = .ok (.aload_n 0, 1) := by decide +kernel
theorem k_fm_walks_191 : decode me_fm_walks.2.1 191 = .ok (.iload_n 2, 1) := by decide +kernel
theorem k_fm_walks_192 : decode me_fm_walks.2.1 192 = .ok (.putfield 216, 3) := by decide +kernel
theorem k_fm_walks_195 : decode me_fm_walks.2.1 195 = .ok (.aload_n 0, 1) := by decide +kernel
theorem k_fm_walks_196 : decode me_fm_walks.2.1 196 = .ok (.iload_n 3, 1) := by decide +kernel
theorem k_fm_walks_197 : decode me_fm_walks.2.1 197 = .ok (.putfield 219, 3) := by decide +kernel
theorem k_fm_walks_200 : decode me_fm_walks.2.1 200 = .ok (.aload_n 0, 1) := by decide +kernel
theorem k_fm_walks_201 : decode me_fm_walks.2.1 201 = .ok (.iload 4, 2) := by decide +kernel
theorem k_fm_walks_203 : decode me_fm_walks.2.1 203 = .ok (.putfield 222, 3) := by decide +kernel
theorem k_fm_walks_206 : decode me_fm_walks.2.1 206 = .ok (.return_, 1) := by decide +kernel
theorem k_fm_walks_207 : decode me_fm_walks.2.1 207 = .ok (.iinc 4 1, 3) := by decide +kernel
theorem k_fm_walks_210 : decode me_fm_walks.2.1 210 = .ok (.goto (-85), 3) := by decide +kernel
theorem k_fm_walks_213 : decode me_fm_walks.2.1 213 = .ok (.iconst 0, 1) := by decide +kernel
theorem k_fm_walks_214 : decode me_fm_walks.2.1 214 = .ok (.istore 4, 2) := by decide +kernel
theorem k_fm_walks_216 : decode me_fm_walks.2.1 216 = .ok (.iload 4, 2) := by decide +kernel
theorem k_fm_walks_218 : decode me_fm_walks.2.1 218 = .ok (.aload_n 0, 1) := by decide +kernel
theorem k_fm_walks_219 : decode me_fm_walks.2.1 219 = .ok (.getfield 141, 3) := by decide +kernel
theorem k_fm_walks_222 : decode me_fm_walks.2.1 222 = .ok (.if_icmp .ge 28, 3) := by decide +kernel
theorem k_fm_walks_225 : decode me_fm_walks.2.1 225 = .ok (.aload_n 0, 1) := by decide +kernel
theorem k_fm_walks_226 : decode me_fm_walks.2.1 226 = .ok (.iload 4, 2) := by decide +kernel
theorem k_fm_walks_228 : decode me_fm_walks.2.1 228 = .ok (.invokevirtual 209, 3) := by decide +kernel
theorem k_fm_walks_231 : decode me_fm_walks.2.1 231 = .ok (.aload_n 0, 1) := by decide +kernel
theorem k_fm_walks_232 : decode me_fm_walks.2.1 232 = .ok (.dup, 1) := by decide +kernel
theorem k_fm_walks_233 : decode me_fm_walks.2.1 233 = .ok (.getfield 225, 3) := by decide +kernel
theorem k_fm_walks_236 : decode me_fm_walks.2.1 236 = .ok (.aload_n 0, 1) := by decide +kernel
theorem k_fm_walks_237 : decode me_fm_walks.2.1 237 = .ok (.getfield 200, 3) := by decide +kernel
theorem k_fm_walks_240 : decode me_fm_walks.2.1 240 = .ok (.iadd, 1) := by decide +kernel
theorem k_fm_walks_241 : decode me_fm_walks.2.1 241 = .ok (.putfield 225, 3) := by decide +kernel
theorem k_fm_walks_244 : decode me_fm_walks.2.1 244 = .ok (.iinc 4 1, 3) := by decide +kernel
theorem k_fm_walks_247 : decode me_fm_walks.2.1 247 = .ok (.goto (-31), 3) := by decide +kernel
theorem k_fm_walks_250 : decode me_fm_walks.2.1 250 = .ok (.aload_n 0, 1) := by decide +kernel
theorem k_fm_walks_251 : decode me_fm_walks.2.1 251 = .ok (.invokevirtual 234, 3) := by decide +kernel
theorem k_fm_walks_254 : decode me_fm_walks.2.1 254 = .ok (.iinc 2 1, 3) := by decide +kernel
theorem k_fm_walks_257 : decode me_fm_walks.2.1 257 = .ok (.goto (-209), 3) := by decide +kernel
theorem k_fm_walks_260 : decode me_fm_walks.2.1 260 = .ok (.return_, 1) := by decide +kernel
theorem k_fm_looksAt_0 : decode me_fm_looksAt.2.1 0 = .ok (.iconst 0, 1) := by decide +kernel
theorem k_fm_looksAt_1 : decode me_fm_looksAt.2.1 1 = .ok (.istore_n 1, 1) := by decide +kernel
theorem k_fm_looksAt_2 : decode me_fm_looksAt.2.1 2 = .ok (.iload_n 1, 1) := by decide +kernel
theorem k_fm_looksAt_3 : decode me_fm_looksAt.2.1 3 = .ok (.aload_n 0, 1) := by decide +kernel
theorem k_fm_looksAt_4 : decode me_fm_looksAt.2.1 4 = .ok (.getfield 141, 3) := by decide +kernel
theorem k_fm_looksAt_7 : decode me_fm_looksAt.2.1 7 = .ok (.if_icmp .ge 42, 3) := by decide +kernel
theorem k_fm_looksAt_10 : decode me_fm_looksAt.2.1 10 = .ok (.aload_n 0, 1) := by decide +kernel
theorem k_fm_looksAt_11 : decode me_fm_looksAt.2.1 11 = .ok (.aload_n 0, 1) := by decide +kernel
theorem k_fm_looksAt_12 : decode me_fm_looksAt.2.1 12 = .ok (.getfield 228, 3) := by decide +kernel
theorem k_fm_looksAt_15 : decode me_fm_looksAt.2.1 15 = .ok (.ifCond .ge 12, 3) := by decide +kernel
theorem k_fm_looksAt_18 : decode me_fm_looksAt.2.1 18 = .ok (.aload_n 0, 1) := by decide +kernel
theorem k_fm_looksAt_19 : decode me_fm_looksAt.2.1 19 = .ok (.getfield 102, 3) := by decide +kernel
theorem k_fm_looksAt_22 : decode me_fm_looksAt.2.1 22 = .ok (.iload_n 1, 1) := by decide +kernel
theorem k_fm_looksAt_23 : decode me_fm_looksAt.2.1 23 = .ok (.iaload, 1) := by decide +kernel
theorem k_fm_looksAt_24 : decode me_fm_looksAt.2.1 24 = .ok (.goto 16, 3) := by decide +kernel
theorem k_fm_looksAt_27 : decode me_fm_looksAt.2.1 27 = .ok (.aload_n 0, 1) := by decide +kernel
theorem k_fm_looksAt_28 : decode me_fm_looksAt.2.1 28 = .ok (.getfield 228, 3) := by decide +kernel
theorem k_fm_looksAt_31 : decode me_fm_looksAt.2.1 31 = .ok (.aload_n 0, 1) := by decide +kernel
theorem k_fm_looksAt_32 : decode me_fm_looksAt.2.1 32 = .ok (.getfield 102, 3) := by decide +kernel
theorem k_fm_looksAt_35 : decode me_fm_looksAt.2.1 35 = .ok (.iload_n 1, 1) := by decide +kernel
theorem k_fm_looksAt_36 : decode me_fm_looksAt.2.1 36 = .ok (.iaload, 1) := by decide +kernel
theorem k_fm_looksAt_37 : decode me_fm_looksAt.2.1 37 = .ok (.invokestatic 197, 3) := by decide +kernel
theorem k_fm_looksAt_40 : decode me_fm_looksAt.2.1 40 = .ok (.putfield 228, 3) := by decide +kernel
theorem k_fm_looksAt_43 : decode me_fm_looksAt.2.1 43 = .ok (.iinc 1 1, 3) := by decide +kernel
theorem k_fm_looksAt_46 : decode me_fm_looksAt.2.1 46 = .ok (.goto (-44), 3) := by decide +kernel
theorem k_fm_looksAt_49 : decode me_fm_looksAt.2.1 49 = .ok (.return_, 1) := by decide +kernel
theorem k_fm_viewAt_0 : decode me_fm_viewAt.2.1 0 = .ok (.iconst 0, 1) := by decide +kernel
theorem k_fm_viewAt_1 : decode me_fm_viewAt.2.1 1 = .ok (.istore_n 2, 1) := by decide +kernel
theorem k_fm_viewAt_2 : decode me_fm_viewAt.2.1 2 = .ok (.iload_n 2, 1) := by decide +kernel
theorem k_fm_viewAt_3 : decode me_fm_viewAt.2.1 3 = .ok (.aload_n 0, 1) := by decide +kernel
theorem k_fm_viewAt_4 : decode me_fm_viewAt.2.1 4 = .ok (.getfield 213, 3) := by decide +kernel
theorem k_fm_viewAt_7 : decode me_fm_viewAt.2.1 7 = .ok (.if_icmp .ge 31, 3) := by decide +kernel
theorem k_fm_viewAt_10 : decode me_fm_viewAt.2.1 10 = .ok (.aload_n 0, 1) := by decide +kernel
theorem k_fm_viewAt_11 : decode me_fm_viewAt.2.1 11 = .ok (.getfield 78, 3) := by decide +kernel
theorem k_fm_viewAt_14 : decode me_fm_viewAt.2.1 14 = .ok (.iload_n 2, 1) := by decide +kernel
theorem k_fm_viewAt_15 : decode me_fm_viewAt.2.1 15 = .ok (.iaload, 1) := by decide +kernel
theorem k_fm_viewAt_16 : decode me_fm_viewAt.2.1 16 = .ok (.iload_n 1, 1) := by decide +kernel
theorem k_fm_viewAt_17 : decode me_fm_viewAt.2.1 17 = .ok (.if_icmp .gt 15, 3) := by decide +kernel
theorem k_fm_viewAt_20 : decode me_fm_viewAt.2.1 20 = .ok (.iload_n 1, 1) := by decide +kernel
theorem k_fm_viewAt_21 : decode me_fm_viewAt.2.1 21 = .ok (.aload_n 0, 1) := by decide +kernel
theorem k_fm_viewAt_22 : decode me_fm_viewAt.2.1 22 = .ok (.getfield 81, 3) := by decide +kernel
theorem k_fm_viewAt_25 : decode me_fm_viewAt.2.1 25 = .ok (.iload_n 2, 1) := by decide +kernel
theorem k_fm_viewAt_26 : decode me_fm_viewAt.2.1 26 = .ok (.iaload, 1) := by decide +kernel
theorem k_fm_viewAt_27 : decode me_fm_viewAt.2.1 27 = .ok (.if_icmp .gt 5, 3) := by decide +kernel
theorem k_fm_viewAt_30 : decode me_fm_viewAt.2.1 30 = .ok (.iload_n 2, 1) := by decide +kernel
theorem k_fm_viewAt_31 : decode me_fm_viewAt.2.1 31 = .ok (.ireturn, 1) := by decide +kernel
theorem k_fm_viewAt_32 : decode me_fm_viewAt.2.1 32 = .ok (.iinc 2 1, 3) := by decide +kernel
theorem k_fm_viewAt_35 : decode me_fm_viewAt.2.1 35 = .ok (.goto (-33), 3) := by decide +kernel
theorem k_fm_viewAt_38 : decode me_fm_viewAt.2.1 38 = .ok (.bipush (-9), 2) := by decide +kernel
theorem k_fm_viewAt_40 : decode me_fm_viewAt.2.1 40 = .ok (.ireturn, 1) := by decide +kernel
theorem k_fm_most_0 : decode me_fm_most.2.1 0 = .ok (.aload_n 0, 1) := by decide +kernel
theorem k_fm_most_1 : decode me_fm_most.2.1 1 = .ok (.invokevirtual 240, 3) := by decide +kernel
theorem k_fm_most_4 : decode me_fm_most.2.1 4 = .ok (.ifCond .ne 10, 3) := by decide +kernel
theorem k_fm_most_7 : decode me_fm_most.2.1 7 = .ok (.aload_n 0, 1) := by decide +kernel
theorem k_fm_most_8 : decode me_fm_most.2.1 8 = .ok (.bipush (-3), 2) := by decide +kernel
theorem k_fm_most_10 : decode me_fm_most.2.1 10 = .ok (.invokevirtual 133, 3) := by decide +kernel
theorem k_fm_most_13 : decode me_fm_most.2.1 13 = .ok (.ireturn, 1) := by decide +kernel
theorem k_fm_most_14 : decode me_fm_most.2.1 14 = .ok (.aload_n 0, 1) := by decide +kernel
theorem k_fm_most_15 : decode me_fm_most.2.1 15 = .ok (.iconst 0, 1) := by decide +kernel
theorem k_fm_most_16 : decode me_fm_most.2.1 16 = .ok (.invokevirtual 244, 3) := by decide +kernel
theorem k_fm_most_19 : decode me_fm_most.2.1 19 = .ok (.aload_n 0, 1) := by decide +kernel
theorem k_fm_most_20 : decode me_fm_most.2.1 20 = .ok (.getfield 231, 3) := by decide +kernel
theorem k_fm_most_23 : decode me_fm_most.2.1 23 = .ok (.ireturn, 1) := by decide +kernel
theorem k_fm_pace_0 : decode me_fm_pace.2.1 0 = .ok (.iload_n 1, 1) := by decide +kernel
theorem k_fm_pace_1 : decode me_fm_pace.2.1 1 = .ok (.iconst 0, 1) := by decide +kernel
theorem k_fm_pace_2 : decode me_fm_pace.2.1 2 = .ok (.bipush 30, 2) := by decide +kernel
theorem k_fm_pace_4 : decode me_fm_pace.2.1 4 = .ok (.invokestatic 148, 3) := by decide +kernel
theorem k_fm_pace_7 : decode me_fm_pace.2.1 7 = .ok (.istore_n 2, 1) := by decide +kernel
theorem k_fm_pace_8 : decode me_fm_pace.2.1 8 = .ok (.iload_n 2, 1) := by decide +kernel
theorem k_fm_pace_9 : decode me_fm_pace.2.1 9 = .ok (.ifCond .eq 9, 3) := by decide +kernel
theorem k_fm_pace_12 : decode me_fm_pace.2.1 12 = .ok (.aload_n 0, 1) := by decide +kernel
theorem k_fm_pace_13 : decode me_fm_pace.2.1 13 = .ok (.iload_n 2, 1) := by decide +kernel
theorem k_fm_pace_14 : decode me_fm_pace.2.1 14 = .ok (.invokevirtual 133, 3) := by decide +kernel
theorem k_fm_pace_17 : decode me_fm_pace.2.1 17 = .ok (.ireturn, 1) := by decide +kernel
theorem k_fm_pace_18 : decode me_fm_pace.2.1 18 = .ok (.aload_n 0, 1) := by decide +kernel
theorem k_fm_pace_19 : decode me_fm_pace.2.1 19 = .ok (.getfield 13, 3) := by decide +kernel
theorem k_fm_pace_22 : decode me_fm_pace.2.1 22 = .ok (.istore_n 3, 1) := by decide +kernel
theorem k_fm_pace_23 : decode me_fm_pace.2.1 23 = .ok (.aload_n 0, 1) := by decide +kernel
theorem k_fm_pace_24 : decode me_fm_pace.2.1 24 = .ok (.iload_n 1, 1) := by decide +kernel
theorem k_fm_pace_25 : decode me_fm_pace.2.1 25 = .ok (.putfield 13, 3) := by decide +kernel
theorem k_fm_pace_28 : decode me_fm_pace.2.1 28 = .ok (.iload_n 3, 1) := by decide +kernel
theorem k_fm_pace_29 : decode me_fm_pace.2.1 29 = .ok (.ireturn, 1) := by decide +kernel
theorem k_fm_tasks_0 : decode me_fm_tasks.2.1 0 = .ok (.aload_n 0, 1) := by decide +kernel
theorem k_fm_tasks_1 : decode me_fm_tasks.2.1 1 = .ok (.invokevirtual 255, 3) := by decide +kernel
theorem k_fm_tasks_4 : decode me_fm_tasks.2.1 4 = .ok (.aload_n 0, 1) := by decide +kernel
theorem k_fm_tasks_5 : decode me_fm_tasks.2.1 5 = .ok (.getfield 248, 3) := by decide +kernel
theorem k_fm_tasks_8 : decode me_fm_tasks.2.1 8 = .ok (.ireturn, 1) := by decide +kernel
theorem k_fm_findTasks_0 : decode me_fm_findTasks.2.1 0 = .ok (.aload_n 0, 1) := by decide +kernel
theorem k_fm_findTasks_1 : decode me_fm_findTasks.2.1 1 = .ok (.iconst 0, 1) := by decide +kernel
theorem k_fm_findTasks_2 : decode me_fm_findTasks.2.1 2 = .ok (.putfield 248, 3) := by decide +kernel
theorem k_fm_findTasks_5 : decode me_fm_findTasks.2.1 5 = .ok (.iconst 0, 1) := by decide +kernel
theorem k_fm_findTasks_6 : decode me_fm_findTasks.2.1 6 = .ok (.istore_n 1, 1) := by decide +kernel
theorem k_fm_findTasks_7 : decode me_fm_findTasks.2.1 7 = .ok (.iconst 0, 1) := by decide +kernel
theorem k_fm_findTasks_8 : decode me_fm_findTasks.2.1 8 = .ok (.istore_n 2, 1) := by decide +kernel
theorem k_fm_findTasks_9 : decode me_fm_findTasks.2.1 9 = .ok (.iload_n 2, 1) := by decide +kernel
theorem k_fm_findTasks_10 : decode me_fm_findTasks.2.1 10 = .ok (.aload_n 0, 1) := by decide +kernel
theorem k_fm_findTasks_11 : decode me_fm_findTasks.2.1 11 = .ok (.getfield 213, 3) := by decide +kernel
theorem k_fm_findTasks_14 : decode me_fm_findTasks.2.1 14 = .ok (.if_icmp .ge 101, 3) := by decide +kernel
theorem k_fm_findTasks_17 : decode me_fm_findTasks.2.1 17 = .ok (.iload_n 2, 1) := by decide +kernel
theorem k_fm_findTasks_18 : decode me_fm_findTasks.2.1 18 = .ok (.ifCond .le 26, 3) := by decide +kernel
theorem k_fm_findTasks_21 : decode me_fm_findTasks.2.1 21 = .ok (.aload_n 0, 1) := by decide +kernel
theorem k_fm_findTasks_22 : decode me_fm_findTasks.2.1 22 = .ok (.getfield 81, 3) := by decide +kernel
theorem k_fm_findTasks_25 : decode me_fm_findTasks.2.1 25 = .ok (.iload_n 2, 1) := by decide +kernel
theorem k_fm_findTasks_26 : decode me_fm_findTasks.2.1 26 = .ok (.iconst 1, 1) := by decide +kernel
theorem k_fm_findTasks_27 : decode me_fm_findTasks.2.1 27 = .ok (.isub, 1) := by decide +kernel
theorem k_fm_findTasks_28 : decode me_fm_findTasks.2.1 28 = .ok (.iaload, 1) := by decide +kernel
theorem k_fm_findTasks_29 : decode me_fm_findTasks.2.1 29 = .ok (.iconst 1, 1) := by decide +kernel
theorem k_fm_findTasks_30 : decode me_fm_findTasks.2.1 30 = .ok (.iadd, 1) := by decide +kernel
theorem k_fm_findTasks_31 : decode me_fm_findTasks.2.1 31 = .ok (.aload_n 0, 1) := by decide +kernel
theorem k_fm_findTasks_32 : decode me_fm_findTasks.2.1 32 = .ok (.getfield 78, 3) := by decide +kernel
theorem k_fm_findTasks_35 : decode me_fm_findTasks.2.1 35 = .ok (.iload_n 2, 1) := by decide +kernel
theorem k_fm_findTasks_36 : decode me_fm_findTasks.2.1 36 = .ok (.iaload, 1) := by decide +kernel
theorem k_fm_findTasks_37 : decode me_fm_findTasks.2.1 37 = .ok (.if_icmp .ne 7, 3) := by decide +kernel
theorem k_fm_findTasks_40 : decode me_fm_findTasks.2.1 40 = .ok (.iconst 1, 1) := by decide +kernel
theorem k_fm_findTasks_41 : decode me_fm_findTasks.2.1 41 = .ok (.goto 4, 3) := by decide +kernel
theorem k_fm_findTasks_44 : decode me_fm_findTasks.2.1 44 = .ok (.iconst 0, 1) := by decide +kernel
theorem k_fm_findTasks_45 : decode me_fm_findTasks.2.1 45 = .ok (.istore_n 3, 1) := by decide +kernel
theorem k_fm_findTasks_46 : decode me_fm_findTasks.2.1 46 = .ok (.iload_n 2, 1) := by decide +kernel
theorem k_fm_findTasks_47 : decode me_fm_findTasks.2.1 47 = .ok (.ifCond .le 25, 3) := by decide +kernel
theorem k_fm_findTasks_50 : decode me_fm_findTasks.2.1 50 = .ok (.iload_n 3, 1) := by decide +kernel
theorem k_fm_findTasks_51 : decode me_fm_findTasks.2.1 51 = .ok (.ifCond .ne 21, 3) := by decide +kernel
theorem k_fm_findTasks_54 : decode me_fm_findTasks.2.1 54 = .ok (.aload_n 0, 1) := by decide +kernel
theorem k_fm_findTasks_55 : decode me_fm_findTasks.2.1 55 = .ok (.aload_n 0, 1) := by decide +kernel
theorem k_fm_findTasks_56 : decode me_fm_findTasks.2.1 56 = .ok (.getfield 81, 3) := by decide +kernel
theorem k_fm_findTasks_59 : decode me_fm_findTasks.2.1 59 = .ok (.iload_n 2, 1) := by decide +kernel
theorem k_fm_findTasks_60 : decode me_fm_findTasks.2.1 60 = .ok (.iconst 1, 1) := by decide +kernel
theorem k_fm_findTasks_61 : decode me_fm_findTasks.2.1 61 = .ok (.isub, 1) := by decide +kernel
theorem k_fm_findTasks_62 : decode me_fm_findTasks.2.1 62 = .ok (.iaload, 1) := by decide +kernel
theorem k_fm_findTasks_63 : decode me_fm_findTasks.2.1 63 = .ok (.iconst 1, 1) := by decide +kernel
theorem k_fm_findTasks_64 : decode me_fm_findTasks.2.1 64 = .ok (.iadd, 1) := by decide +kernel
theorem k_fm_findTasks_65 : decode me_fm_findTasks.2.1 65 = .ok (.iconst 0, 1) := by decide +kernel
theorem k_fm_findTasks_66 : decode me_fm_findTasks.2.1 66 = .ok (.iload_n 1, 1) := by decide +kernel
theorem k_fm_findTasks_67 : decode me_fm_findTasks.2.1 67 = .ok (.invokevirtual 251, 3) := by decide +kernel
theorem k_fm_findTasks_70 : decode me_fm_findTasks.2.1 70 = .ok (.iconst 0, 1) := by decide +kernel
theorem k_fm_findTasks_71 : decode me_fm_findTasks.2.1 71 = .ok (.istore_n 1, 1) := by decide +kernel
theorem k_fm_findTasks_72 : decode me_fm_findTasks.2.1 72 = .ok (.aload_n 0, 1) := by decide +kernel
theorem k_fm_findTasks_73 : decode me_fm_findTasks.2.1 73 = .ok (.aload_n 0, 1) := by decide +kernel
theorem k_fm_findTasks_74 : decode me_fm_findTasks.2.1 74 = .ok (.getfield 78, 3) := by decide +kernel
theorem k_fm_findTasks_77 : decode me_fm_findTasks.2.1 77 = .ok (.iload_n 2, 1) := by decide +kernel
theorem k_fm_findTasks_78 : decode me_fm_findTasks.2.1 78 = .ok (.iaload, 1) := by decide +kernel
theorem k_fm_findTasks_79 : decode me_fm_findTasks.2.1 79 = .ok (.aload_n 0, 1) := by decide +kernel
theorem k_fm_findTasks_80 : decode me_fm_findTasks.2.1 80 = .ok (.getfield 75, 3) := by decide +kernel
theorem k_fm_findTasks_83 : decode me_fm_findTasks.2.1 83 = .ok (.iload_n 2, 1) := by decide +kernel
theorem k_fm_findTasks_84 : decode me_fm_findTasks.2.1 84 = .ok (.iaload, 1) := by decide +kernel
theorem k_fm_findTasks_85 : decode me_fm_findTasks.2.1 85 = .ok (.iload_n 1, 1) := by decide +kernel
theorem k_fm_findTasks_86 : decode me_fm_findTasks.2.1 86 = .ok (.iconst (-1), 1) := by decide +kernel
theorem k_fm_findTasks_87 : decode me_fm_findTasks.2.1 87 = .ok (.ixor, 1) := by decide +kernel
theorem k_fm_findTasks_88 : decode me_fm_findTasks.2.1 88 = .ok (.iand, 1) := by decide +kernel
theorem k_fm_findTasks_89 : decode me_fm_findTasks.2.1 89 = .ok (.iload_n 1, 1) := by decide +kernel
theorem k_fm_findTasks_90 : decode me_fm_findTasks.2.1 90 = .ok (.aload_n 0, 1) := by decide +kernel
theorem k_fm_findTasks_91 : decode me_fm_findTasks.2.1 91 = .ok (.getfield 75, 3) := by decide +kernel
theorem k_fm_findTasks_94 : decode me_fm_findTasks.2.1 94 = .ok (.iload_n 2, 1) := by decide +kernel
theorem k_fm_findTasks_95 : decode me_fm_findTasks.2.1 95 = .ok (.iaload, 1) := by decide +kernel
theorem k_fm_findTasks_96 : decode me_fm_findTasks.2.1 96 = .ok (.iconst (-1), 1) := by decide +kernel
theorem k_fm_findTasks_97 : decode me_fm_findTasks.2.1 97 = .ok (.ixor, 1) := by decide +kernel
theorem k_fm_findTasks_98 : decode me_fm_findTasks.2.1 98 = .ok (.iand, 1) := by decide +kernel
theorem k_fm_findTasks_99 : decode me_fm_findTasks.2.1 99 = .ok (.invokevirtual 251, 3) := by decide +kernel
theorem k_fm_findTasks_102 : decode me_fm_findTasks.2.1 102 = .ok (.aload_n 0, 1) := by decide +kernel
theorem k_fm_findTasks_103 : decode me_fm_findTasks.2.1 103 = .ok (.getfield 75, 3) := by decide +kernel
theorem k_fm_findTasks_106 : decode me_fm_findTasks.2.1 106 = .ok (.iload_n 2, 1) := by decide +kernel
theorem k_fm_findTasks_107 : decode me_fm_findTasks.2.1 107 = .ok (.iaload, 1) := by decide +kernel
theorem k_fm_findTasks_108 : decode me_fm_findTasks.2.1 108 = .ok (.istore_n 1, 1) := by decide +kernel
theorem k_fm_findTasks_109 : decode me_fm_findTasks.2.1 109 = .ok (.iinc 2 1, 3) := by decide +kernel
theorem k_fm_findTasks_112 : decode me_fm_findTasks.2.1 112 = .ok (.goto (-103), 3) := by decide +kernel
theorem k_fm_findTasks_115 : decode me_fm_findTasks.2.1 115 = .ok (.aload_n 0, 1) := by decide +kernel
theorem k_fm_findTasks_116 : decode me_fm_findTasks.2.1 116 = .ok (.getfield 213, 3) := by decide +kernel
theorem k_fm_findTasks_119 : decode me_fm_findTasks.2.1 119 = .ok (.ifCond .le 22, 3) := by decide +kernel
theorem k_fm_findTasks_122 : decode me_fm_findTasks.2.1 122 = .ok (.aload_n 0, 1) := by decide +kernel
theorem k_fm_findTasks_123 : decode me_fm_findTasks.2.1 123 = .ok (.aload_n 0, 1) := by decide +kernel
theorem k_fm_findTasks_124 : decode me_fm_findTasks.2.1 124 = .ok (.getfield 81, 3) := by decide +kernel
theorem k_fm_findTasks_127 : decode me_fm_findTasks.2.1 127 = .ok (.aload_n 0, 1) := by decide +kernel
theorem k_fm_findTasks_128 : decode me_fm_findTasks.2.1 128 = .ok (.getfield 213, 3) := by decide +kernel
theorem k_fm_findTasks_131 : decode me_fm_findTasks.2.1 131 = .ok (.iconst 1, 1) := by decide +kernel
theorem k_fm_findTasks_132 : decode me_fm_findTasks.2.1 132 = .ok (.isub, 1) := by decide +kernel
theorem k_fm_findTasks_133 : decode me_fm_findTasks.2.1 133 = .ok (.iaload, 1) := by decide +kernel
theorem k_fm_findTasks_134 : decode me_fm_findTasks.2.1 134 = .ok (.iconst 1, 1) := by decide +kernel
theorem k_fm_findTasks_135 : decode me_fm_findTasks.2.1 135 = .ok (.iadd, 1) := by decide +kernel
theorem k_fm_findTasks_136 : decode me_fm_findTasks.2.1 136 = .ok (.iconst 0, 1) := by decide +kernel
theorem k_fm_findTasks_137 : decode me_fm_findTasks.2.1 137 = .ok (.iload_n 1, 1) := by decide +kernel
theorem k_fm_findTasks_138 : decode me_fm_findTasks.2.1 138 = .ok (.invokevirtual 251, 3) := by decide +kernel
theorem k_fm_findTasks_141 : decode me_fm_findTasks.2.1 141 = .ok (.return_, 1) := by decide +kernel
theorem k_fm_adds_0 : decode me_fm_adds.2.1 0 = .ok (.iconst 0, 1) := by decide +kernel
theorem k_fm_adds_1 : decode me_fm_adds.2.1 1 = .ok (.istore 4, 2) := by decide +kernel
theorem k_fm_adds_3 : decode me_fm_adds.2.1 3 = .ok (.iload 4, 2) := by decide +kernel
theorem k_fm_adds_5 : decode me_fm_adds.2.1 5 = .ok (.aload_n 0, 1) := by decide +kernel
theorem k_fm_adds_6 : decode me_fm_adds.2.1 6 = .ok (.getfield 158, 3) := by decide +kernel
theorem k_fm_adds_9 : decode me_fm_adds.2.1 9 = .ok (.if_icmp .ge 69, 3) := by decide +kernel
theorem k_fm_adds_12 : decode me_fm_adds.2.1 12 = .ok (.iload_n 2, 1) := by decide +kernel
theorem k_fm_adds_13 : decode me_fm_adds.2.1 13 = .ok (.iload_n 3, 1) := by decide +kernel
theorem k_fm_adds_14 : decode me_fm_adds.2.1 14 = .ok (.ior, 1) := by decide +kernel
theorem k_fm_adds_15 : decode me_fm_adds.2.1 15 = .ok (.iload 4, 2) := by decide +kernel
theorem k_fm_adds_17 : decode me_fm_adds.2.1 17 = .ok (.ishr, 1) := by decide +kernel
theorem k_fm_adds_18 : decode me_fm_adds.2.1 18 = .ok (.iconst 1, 1) := by decide +kernel
theorem k_fm_adds_19 : decode me_fm_adds.2.1 19 = .ok (.iand, 1) := by decide +kernel
theorem k_fm_adds_20 : decode me_fm_adds.2.1 20 = .ok (.ifCond .ne 6, 3) := by decide +kernel
theorem k_fm_adds_23 : decode me_fm_adds.2.1 23 = .ok (.goto 49, 3) := by decide +kernel
theorem k_fm_adds_26 : decode me_fm_adds.2.1 26 = .ok (.aload_n 0, 1) := by decide +kernel
theorem k_fm_adds_27 : decode me_fm_adds.2.1 27 = .ok (.getfield 114, 3) := by decide +kernel
theorem k_fm_adds_30 : decode me_fm_adds.2.1 30 = .ok (.aload_n 0, 1) := by decide +kernel
theorem k_fm_adds_31 : decode me_fm_adds.2.1 31 = .ok (.getfield 248, 3) := by decide +kernel
theorem k_fm_adds_34 : decode me_fm_adds.2.1 34 = .ok (.iload_n 1, 1) := by decide +kernel
theorem k_fm_adds_35 : decode me_fm_adds.2.1 35 = .ok (.iastore, 1) := by decide +kernel
theorem k_fm_adds_36 : decode me_fm_adds.2.1 36 = .ok (.aload_n 0, 1) := by decide +kernel
theorem k_fm_adds_37 : decode me_fm_adds.2.1 37 = .ok (.getfield 117, 3) := by decide +kernel
theorem k_fm_adds_40 : decode me_fm_adds.2.1 40 = .ok (.aload_n 0, 1) := by decide +kernel
theorem k_fm_adds_41 : decode me_fm_adds.2.1 41 = .ok (.getfield 248, 3) := by decide +kernel
theorem k_fm_adds_44 : decode me_fm_adds.2.1 44 = .ok (.iload 4, 2) := by decide +kernel
theorem k_fm_adds_46 : decode me_fm_adds.2.1 46 = .ok (.iastore, 1) := by decide +kernel
theorem k_fm_adds_47 : decode me_fm_adds.2.1 47 = .ok (.aload_n 0, 1) := by decide +kernel
theorem k_fm_adds_48 : decode me_fm_adds.2.1 48 = .ok (.getfield 120, 3) := by decide +kernel
theorem k_fm_adds_51 : decode me_fm_adds.2.1 51 = .ok (.aload_n 0, 1) := by decide +kernel
theorem k_fm_adds_52 : decode me_fm_adds.2.1 52 = .ok (.getfield 248, 3) := by decide +kernel
theorem k_fm_adds_55 : decode me_fm_adds.2.1 55 = .ok (.iload_n 2, 1) := by decide +kernel
theorem k_fm_adds_56 : decode me_fm_adds.2.1 56 = .ok (.iload 4, 2) := by decide +kernel
theorem k_fm_adds_58 : decode me_fm_adds.2.1 58 = .ok (.ishr, 1) := by decide +kernel
theorem k_fm_adds_59 : decode me_fm_adds.2.1 59 = .ok (.iconst 1, 1) := by decide +kernel
theorem k_fm_adds_60 : decode me_fm_adds.2.1 60 = .ok (.iand, 1) := by decide +kernel
theorem k_fm_adds_61 : decode me_fm_adds.2.1 61 = .ok (.iastore, 1) := by decide +kernel
theorem k_fm_adds_62 : decode me_fm_adds.2.1 62 = .ok (.aload_n 0, 1) := by decide +kernel
theorem k_fm_adds_63 : decode me_fm_adds.2.1 63 = .ok (.dup, 1) := by decide +kernel
theorem k_fm_adds_64 : decode me_fm_adds.2.1 64 = .ok (.getfield 248, 3) := by decide +kernel
theorem k_fm_adds_67 : decode me_fm_adds.2.1 67 = .ok (.iconst 1, 1) := by decide +kernel
theorem k_fm_adds_68 : decode me_fm_adds.2.1 68 = .ok (.iadd, 1) := by decide +kernel
theorem k_fm_adds_69 : decode me_fm_adds.2.1 69 = .ok (.putfield 248, 3) := by decide +kernel
theorem k_fm_adds_72 : decode me_fm_adds.2.1 72 = .ok (.iinc 4 1, 3) := by decide +kernel
theorem k_fm_adds_75 : decode me_fm_adds.2.1 75 = .ok (.goto (-72), 3) := by decide +kernel
theorem k_fm_adds_78 : decode me_fm_adds.2.1 78 = .ok (.return_, 1) := by decide +kernel
theorem k_fm_task_0 : decode me_fm_task.2.1 0 = .ok (.aload_n 0, 1) := by decide +kernel
theorem k_fm_task_1 : decode me_fm_task.2.1 1 = .ok (.invokevirtual 255, 3) := by decide +kernel
theorem k_fm_task_4 : decode me_fm_task.2.1 4 = .ok (.iload_n 1, 1) := by decide +kernel
theorem k_fm_task_5 : decode me_fm_task.2.1 5 = .ok (.aload_n 0, 1) := by decide +kernel
theorem k_fm_task_6 : decode me_fm_task.2.1 6 = .ok (.getfield 248, 3) := by decide +kernel
theorem k_fm_task_9 : decode me_fm_task.2.1 9 = .ok (.invokestatic 144, 3) := by decide +kernel
theorem k_fm_task_12 : decode me_fm_task.2.1 12 = .ok (.ifCond .ne 9, 3) := by decide +kernel
theorem k_fm_task_15 : decode me_fm_task.2.1 15 = .ok (.aload_n 0, 1) := by decide +kernel
theorem k_fm_task_16 : decode me_fm_task.2.1 16 = .ok (.iconst (-1), 1) := by decide +kernel
theorem k_fm_task_17 : decode me_fm_task.2.1 17 = .ok (.invokevirtual 133, 3) := by decide +kernel
theorem k_fm_task_20 : decode me_fm_task.2.1 20 = .ok (.ireturn, 1) := by decide +kernel
theorem k_fm_task_21 : decode me_fm_task.2.1 21 = .ok (.iload_n 2, 1) := by decide +kernel
theorem k_fm_task_22 : decode me_fm_task.2.1 22 = .ok (.ifCond .ne 12, 3) := by decide +kernel
theorem k_fm_task_25 : decode me_fm_task.2.1 25 = .ok (.aload_n 0, 1) := by decide +kernel
theorem k_fm_task_26 : decode me_fm_task.2.1 26 = .ok (.getfield 114, 3) := by decide +kernel
theorem k_fm_task_29 : decode me_fm_task.2.1 29 = .ok (.iload_n 1, 1) := by decide +kernel
theorem k_fm_task_30 : decode me_fm_task.2.1 30 = .ok (.iaload, 1) := by decide +kernel
theorem k_fm_task_31 : decode me_fm_task.2.1 31 = .ok (.goto 37, 3) := by decide +kernel
theorem k_fm_task_34 : decode me_fm_task.2.1 34 = .ok (.iload_n 2, 1) := by decide +kernel
theorem k_fm_task_35 : decode me_fm_task.2.1 35 = .ok (.iconst 1, 1) := by decide +kernel
theorem k_fm_task_36 : decode me_fm_task.2.1 36 = .ok (.if_icmp .ne 12, 3) := by decide +kernel
theorem k_fm_task_39 : decode me_fm_task.2.1 39 = .ok (.aload_n 0, 1) := by decide +kernel
theorem k_fm_task_40 : decode me_fm_task.2.1 40 = .ok (.getfield 117, 3) := by decide +kernel
theorem k_fm_task_43 : decode me_fm_task.2.1 43 = .ok (.iload_n 1, 1) := by decide +kernel
theorem k_fm_task_44 : decode me_fm_task.2.1 44 = .ok (.iaload, 1) := by decide +kernel
theorem k_fm_task_45 : decode me_fm_task.2.1 45 = .ok (.goto 23, 3) := by decide +kernel
theorem k_fm_task_48 : decode me_fm_task.2.1 48 = .ok (.iload_n 2, 1) := by decide +kernel
theorem k_fm_task_49 : decode me_fm_task.2.1 49 = .ok (.iconst 2, 1) := by decide +kernel
theorem k_fm_task_50 : decode me_fm_task.2.1 50 = .ok (.if_icmp .ne 12, 3) := by decide +kernel
theorem k_fm_task_53 : decode me_fm_task.2.1 53 = .ok (.aload_n 0, 1) := by decide +kernel
theorem k_fm_task_54 : decode me_fm_task.2.1 54 = .ok (.getfield 120, 3) := by decide +kernel
theorem k_fm_task_57 : decode me_fm_task.2.1 57 = .ok (.iload_n 1, 1) := by decide +kernel
theorem k_fm_task_58 : decode me_fm_task.2.1 58 = .ok (.iaload, 1) := by decide +kernel
theorem k_fm_task_59 : decode me_fm_task.2.1 59 = .ok (.goto 9, 3) := by decide +kernel
theorem k_fm_task_62 : decode me_fm_task.2.1 62 = .ok (.aload_n 0, 1) := by decide +kernel
theorem k_fm_task_63 : decode me_fm_task.2.1 63 = .ok (.bipush (-2), 2) := by decide +kernel
theorem k_fm_task_65 : decode me_fm_task.2.1 65 = .ok (.invokevirtual 133, 3) := by decide +kernel
theorem k_fm_task_68 : decode me_fm_task.2.1 68 = .ok (.ireturn, 1) := by decide +kernel
theorem k_fm_boys_0 : decode me_fm_boys.2.1 0 = .ok (.aload_n 0, 1) := by decide +kernel
theorem k_fm_boys_1 : decode me_fm_boys.2.1 1 = .ok (.invokevirtual 255, 3) := by decide +kernel
theorem k_fm_boys_4 : decode me_fm_boys.2.1 4 = .ok (.aload_n 0, 1) := by decide +kernel
theorem k_fm_boys_5 : decode me_fm_boys.2.1 5 = .ok (.getfield 248, 3) := by decide +kernel
theorem k_fm_boys_8 : decode me_fm_boys.2.1 8 = .ok (.bipush 60, 2) := by decide +kernel
theorem k_fm_boys_10 : decode me_fm_boys.2.1 10 = .ok (.if_icmp .le 10, 3) := by decide +kernel
theorem k_fm_boys_13 : decode me_fm_boys.2.1 13 = .ok (.aload_n 0, 1) := by decide +kernel
theorem k_fm_boys_14 : decode me_fm_boys.2.1 14 = .ok (.bipush (-6), 2) := by decide +kernel
theorem k_fm_boys_16 : decode me_fm_boys.2.1 16 = .ok (.invokevirtual 133, 3) := by decide +kernel
theorem k_fm_boys_19 : decode me_fm_boys.2.1 19 = .ok (.ireturn, 1) := by decide +kernel
theorem k_fm_boys_20 : decode me_fm_boys.2.1 20 = .ok (.iconst 0, 1) := by decide +kernel
theorem k_fm_boys_21 : decode me_fm_boys.2.1 21 = .ok (.istore_n 1, 1) := by decide +kernel
theorem k_fm_boys_22 : decode me_fm_boys.2.1 22 = .ok (.iload_n 1, 1) := by decide +kernel
theorem k_fm_boys_23 : decode me_fm_boys.2.1 23 = .ok (.aload_n 0, 1) := by decide +kernel
theorem k_fm_boys_24 : decode me_fm_boys.2.1 24 = .ok (.getfield 248, 3) := by decide +kernel
theorem k_fm_boys_27 : decode me_fm_boys.2.1 27 = .ok (.if_icmp .ge 16, 3) := by decide +kernel
theorem k_fm_boys_30 : decode me_fm_boys.2.1 30 = .ok (.aload_n 0, 1) := by decide +kernel
theorem k_fm_boys_31 : decode me_fm_boys.2.1 31 = .ok (.getfield 123, 3) := by decide +kernel
theorem k_fm_boys_34 : decode me_fm_boys.2.1 34 = .ok (.iload_n 1, 1) := by decide +kernel
theorem k_fm_boys_35 : decode me_fm_boys.2.1 35 = .ok (.iconst (-1), 1) := by decide +kernel
theorem k_fm_boys_36 : decode me_fm_boys.2.1 36 = .ok (.iastore, 1) := by decide +kernel
theorem k_fm_boys_37 : decode me_fm_boys.2.1 37 = .ok (.iinc 1 1, 3) := by decide +kernel
theorem k_fm_boys_40 : decode me_fm_boys.2.1 40 = .ok (.goto (-18), 3) := by decide +kernel
theorem k_fm_boys_43 : decode me_fm_boys.2.1 43 = .ok (.aload_n 0, 1) := by decide +kernel
theorem k_fm_boys_44 : decode me_fm_boys.2.1 44 = .ok (.getfield 248, 3) := by decide +kernel
theorem k_fm_boys_47 : decode me_fm_boys.2.1 47 = .ok (.istore_n 1, 1) := by decide +kernel
theorem k_fm_boys_48 : decode me_fm_boys.2.1 48 = .ok (.iconst 0, 1) := by decide +kernel
theorem k_fm_boys_49 : decode me_fm_boys.2.1 49 = .ok (.istore_n 2, 1) := by decide +kernel
theorem k_fm_boys_50 : decode me_fm_boys.2.1 50 = .ok (.iload_n 2, 1) := by decide +kernel
theorem k_fm_boys_51 : decode me_fm_boys.2.1 51 = .ok (.aload_n 0, 1) := by decide +kernel
theorem k_fm_boys_52 : decode me_fm_boys.2.1 52 = .ok (.getfield 248, 3) := by decide +kernel
theorem k_fm_boys_55 : decode me_fm_boys.2.1 55 = .ok (.if_icmp .ge 48, 3) := by decide +kernel
theorem k_fm_boys_58 : decode me_fm_boys.2.1 58 = .ok (.iconst 0, 1) := by decide +kernel
theorem k_fm_boys_59 : decode me_fm_boys.2.1 59 = .ok (.istore_n 3, 1) := by decide +kernel
theorem k_fm_boys_60 : decode me_fm_boys.2.1 60 = .ok (.iload_n 3, 1) := by decide +kernel
theorem k_fm_boys_61 : decode me_fm_boys.2.1 61 = .ok (.aload_n 0, 1) := by decide +kernel
theorem k_fm_boys_62 : decode me_fm_boys.2.1 62 = .ok (.getfield 248, 3) := by decide +kernel
theorem k_fm_boys_65 : decode me_fm_boys.2.1 65 = .ok (.if_icmp .ge 16, 3) := by decide +kernel
theorem k_fm_boys_68 : decode me_fm_boys.2.1 68 = .ok (.aload_n 0, 1) := by decide +kernel
theorem k_fm_boys_69 : decode me_fm_boys.2.1 69 = .ok (.getfield 126, 3) := by decide +kernel
theorem k_fm_boys_72 : decode me_fm_boys.2.1 72 = .ok (.iload_n 3, 1) := by decide +kernel
theorem k_fm_boys_73 : decode me_fm_boys.2.1 73 = .ok (.iconst 0, 1) := by decide +kernel
theorem k_fm_boys_74 : decode me_fm_boys.2.1 74 = .ok (.bastore, 1) := by decide +kernel
theorem k_fm_boys_75 : decode me_fm_boys.2.1 75 = .ok (.iinc 3 1, 3) := by decide +kernel
theorem k_fm_boys_78 : decode me_fm_boys.2.1 78 = .ok (.goto (-18), 3) := by decide +kernel
theorem k_fm_boys_81 : decode me_fm_boys.2.1 81 = .ok (.iload_n 1, 1) := by decide +kernel
theorem k_fm_boys_82 : decode me_fm_boys.2.1 82 = .ok (.aload_n 0, 1) := by decide +kernel
theorem k_fm_boys_83 : decode me_fm_boys.2.1 83 = .ok (.iload_n 2, 1) := by decide +kernel
theorem k_fm_boys_84 : decode me_fm_boys.2.1 84 = .ok (.invokevirtual 264, 3) := by decide +kernel
theorem k_fm_boys_87 : decode me_fm_boys.2.1 87 = .ok (.ifCond .eq 7, 3) := by decide +kernel
theorem k_fm_boys_90 : decode me_fm_boys.2.1 90 = .ok (.iconst 1, 1) := by decide +kernel
theorem k_fm_boys_91 : decode me_fm_boys.2.1 91 = .ok (.goto 4, 3) := by decide +kernel
theorem k_fm_boys_94 : decode me_fm_boys.2.1 94 = .ok (.iconst 0, 1) := by decide +kernel
theorem k_fm_boys_95 : decode me_fm_boys.2.1 95 = .ok (.isub, 1) := by decide +kernel
theorem k_fm_boys_96 : decode me_fm_boys.2.1 96 = .ok (.istore_n 1, 1) := by decide +kernel
theorem k_fm_boys_97 : decode me_fm_boys.2.1 97 = .ok (.iinc 2 1, 3) := by decide +kernel
theorem k_fm_boys_100 : decode me_fm_boys.2.1 100 = .ok (.goto (-50), 3) := by decide +kernel
theorem k_fm_boys_103 : decode me_fm_boys.2.1 103 = .ok (.iload_n 1, 1) := by decide +kernel
theorem k_fm_boys_104 : decode me_fm_boys.2.1 104 = .ok (.ireturn, 1) := by decide +kernel
theorem k_fm_leads_0 : decode me_fm_leads.2.1 0 = .ok (.iconst 0, 1) := by decide +kernel
theorem k_fm_leads_1 : decode me_fm_leads.2.1 1 = .ok (.istore_n 2, 1) := by decide +kernel
theorem k_fm_leads_2 : decode me_fm_leads.2.1 2 = .ok (.iload_n 2, 1) := by decide +kernel
theorem k_fm_leads_3 : decode me_fm_leads.2.1 3 = .ok (.aload_n 0, 1) := by decide +kernel
theorem k_fm_leads_4 : decode me_fm_leads.2.1 4 = .ok (.getfield 248, 3) := by decide +kernel
theorem k_fm_leads_7 : decode me_fm_leads.2.1 7 = .ok (.if_icmp .ge 68, 3) := by decide +kernel
theorem k_fm_leads_10 : decode me_fm_leads.2.1 10 = .ok (.aload_n 0, 1) := by decide +kernel
theorem k_fm_leads_11 : decode me_fm_leads.2.1 11 = .ok (.getfield 126, 3) := by decide +kernel
theorem k_fm_leads_14 : decode me_fm_leads.2.1 14 = .ok (.iload_n 2, 1) := by decide +kernel
theorem k_fm_leads_15 : decode me_fm_leads.2.1 15 = .ok (.baload, 1) := by decide +kernel
theorem k_fm_leads_16 : decode me_fm_leads.2.1 16 = .ok (.ifCond .ne 53, 3) := by decide +kernel
theorem k_fm_leads_19 : decode me_fm_leads.2.1 19 = .ok (.aload_n 0, 1) := by decide +kernel
theorem k_fm_leads_20 : decode me_fm_leads.2.1 20 = .ok (.iload_n 1, 1) := by decide +kernel
theorem k_fm_leads_21 : decode me_fm_leads.2.1 21 = .ok (.iload_n 2, 1) := by decide +kernel
theorem k_fm_leads_22 : decode me_fm_leads.2.1 22 = .ok (.invokevirtual 261, 3) := by decide +kernel
theorem k_fm_leads_25 : decode me_fm_leads.2.1 25 = .ok (.ifCond .ne 6, 3) := by decide +kernel
theorem k_fm_leads_28 : decode me_fm_leads.2.1 28 = .ok (.goto 41, 3) := by decide +kernel
theorem k_fm_leads_31 : decode me_fm_leads.2.1 31 = .ok (.aload_n 0, 1) := by decide +kernel
theorem k_fm_leads_32 : decode me_fm_leads.2.1 32 = .ok (.getfield 126, 3) := by decide +kernel
theorem k_fm_leads_35 : decode me_fm_leads.2.1 35 = .ok (.iload_n 2, 1) := by decide +kernel
theorem k_fm_leads_36 : decode me_fm_leads.2.1 36 = .ok (.iconst 1, 1) := by decide +kernel
theorem k_fm_leads_37 : decode me_fm_leads.2.1 37 = .ok (.bastore, 1) := by decide +kernel
theorem k_fm_leads_38 : decode me_fm_leads.2.1 38 = .ok (.aload_n 0, 1) := by decide +kernel
theorem k_fm_leads_39 : decode me_fm_leads.2.1 39 = .ok (.getfield 123, 3) := by decide +kernel
theorem k_fm_leads_42 : decode me_fm_leads.2.1 42 = .ok (.iload_n 2, 1) := by decide +kernel
theorem k_fm_leads_43 : decode me_fm_leads.2.1 43 = .ok (.iaload, 1) := by decide +kernel
theorem k_fm_leads_44 : decode me_fm_leads.2.1 44 = .ok (.ifCond .lt 16, 3) := by decide +kernel
theorem k_fm_leads_47 : decode me_fm_leads.2.1 47 = .ok (.aload_n 0, 1) := by decide +kernel
theorem k_fm_leads_48 : decode me_fm_leads.2.1 48 = .ok (.aload_n 0, 1) := by decide +kernel
theorem k_fm_leads_49 : decode me_fm_leads.2.1 49 = .ok (.getfield 123, 3) := by decide +kernel
theorem k_fm_leads_52 : decode me_fm_leads.2.1 52 = .ok (.iload_n 2, 1) := by decide +kernel
theorem k_fm_leads_53 : decode me_fm_leads.2.1 53 = .ok (.iaload, 1) := by decide +kernel
theorem k_fm_leads_54 : decode me_fm_leads.2.1 54 = .ok (.invokevirtual 264, 3) := by decide +kernel
theorem k_fm_leads_57 : decode me_fm_leads.2.1 57 = .ok (.ifCond .eq 12, 3) := by decide +kernel
theorem k_fm_leads_60 : decode me_fm_leads.2.1 60 = .ok (.aload_n 0, 1) := by decide +kernel
theorem k_fm_leads_61 : decode me_fm_leads.2.1 61 = .ok (.getfield 123, 3) := by decide +kernel
theorem k_fm_leads_64 : decode me_fm_leads.2.1 64 = .ok (.iload_n 2, 1) := by decide +kernel
theorem k_fm_leads_65 : decode me_fm_leads.2.1 65 = .ok (.iload_n 1, 1) := by decide +kernel
theorem k_fm_leads_66 : decode me_fm_leads.2.1 66 = .ok (.iastore, 1) := by decide +kernel
theorem k_fm_leads_67 : decode me_fm_leads.2.1 67 = .ok (.iconst 1, 1) := by decide +kernel
theorem k_fm_leads_68 : decode me_fm_leads.2.1 68 = .ok (.ireturn, 1) := by decide +kernel
theorem k_fm_leads_69 : decode me_fm_leads.2.1 69 = .ok (.iinc 2 1, 3) := by decide +kernel
theorem k_fm_leads_72 : decode me_fm_leads.2.1 72 = .ok (.goto (-70), 3) := by decide +kernel
theorem k_fm_leads_75 : decode me_fm_leads.2.1 75 = .ok (.iconst 0, 1) := by decide +kernel
theorem k_fm_leads_76 : decode me_fm_leads.2.1 76 = .ok (.ireturn, 1) := by decide +kernel
theorem k_fm_canFollow_0 : decode me_fm_canFollow.2.1 0 = .ok (.iload_n 1, 1) := by decide +kernel
theorem k_fm_canFollow_1 : decode me_fm_canFollow.2.1 1 = .ok (.iload_n 2, 1) := by decide +kernel
theorem k_fm_canFollow_2 : decode me_fm_canFollow.2.1 2 = .ok (.if_icmp .ge 54, 3) := by decide +kernel
theorem k_fm_canFollow_5 : decode me_fm_canFollow.2.1 5 = .ok (.aload_n 0, 1) := by decide +kernel
theorem k_fm_canFollow_6 : decode me_fm_canFollow.2.1 6 = .ok (.getfield 114, 3) := by decide +kernel
theorem k_fm_canFollow_9 : decode me_fm_canFollow.2.1 9 = .ok (.iload_n 2, 1) := by decide +kernel
theorem k_fm_canFollow_10 : decode me_fm_canFollow.2.1 10 = .ok (.iaload, 1) := by decide +kernel
theorem k_fm_canFollow_11 : decode me_fm_canFollow.2.1 11 = .ok (.aload_n 0, 1) := by decide +kernel
theorem k_fm_canFollow_12 : decode me_fm_canFollow.2.1 12 = .ok (.getfield 114, 3) := by decide +kernel
theorem k_fm_canFollow_15 : decode me_fm_canFollow.2.1 15 = .ok (.iload_n 1, 1) := by decide +kernel
theorem k_fm_canFollow_16 : decode me_fm_canFollow.2.1 16 = .ok (.iaload, 1) := by decide +kernel
theorem k_fm_canFollow_17 : decode me_fm_canFollow.2.1 17 = .ok (.aload_n 0, 1) := by decide +kernel
theorem k_fm_canFollow_18 : decode me_fm_canFollow.2.1 18 = .ok (.getfield 13, 3) := by decide +kernel
theorem k_fm_canFollow_21 : decode me_fm_canFollow.2.1 21 = .ok (.aload_n 0, 1) := by decide +kernel
theorem k_fm_canFollow_22 : decode me_fm_canFollow.2.1 22 = .ok (.getfield 63, 3) := by decide +kernel
theorem k_fm_canFollow_25 : decode me_fm_canFollow.2.1 25 = .ok (.aload_n 0, 1) := by decide +kernel
theorem k_fm_canFollow_26 : decode me_fm_canFollow.2.1 26 = .ok (.getfield 117, 3) := by decide +kernel
theorem k_fm_canFollow_29 : decode me_fm_canFollow.2.1 29 = .ok (.iload_n 1, 1) := by decide +kernel
theorem k_fm_canFollow_30 : decode me_fm_canFollow.2.1 30 = .ok (.iaload, 1) := by decide +kernel
theorem k_fm_canFollow_31 : decode me_fm_canFollow.2.1 31 = .ok (.iaload, 1) := by decide +kernel
theorem k_fm_canFollow_32 : decode me_fm_canFollow.2.1 32 = .ok (.aload_n 0, 1) := by decide +kernel
theorem k_fm_canFollow_33 : decode me_fm_canFollow.2.1 33 = .ok (.getfield 63, 3) := by decide +kernel
theorem k_fm_canFollow_36 : decode me_fm_canFollow.2.1 36 = .ok (.aload_n 0, 1) := by decide +kernel
theorem k_fm_canFollow_37 : decode me_fm_canFollow.2.1 37 = .ok (.getfield 117, 3) := by decide +kernel
theorem k_fm_canFollow_40 : decode me_fm_canFollow.2.1 40 = .ok (.iload_n 2, 1) := by decide +kernel
theorem k_fm_canFollow_41 : decode me_fm_canFollow.2.1 41 = .ok (.iaload, 1) := by decide +kernel
theorem k_fm_canFollow_42 : decode me_fm_canFollow.2.1 42 = .ok (.iaload, 1) := by decide +kernel
theorem k_fm_canFollow_43 : decode me_fm_canFollow.2.1 43 = .ok (.isub, 1) := by decide +kernel
theorem k_fm_canFollow_44 : decode me_fm_canFollow.2.1 44 = .ok (.invokestatic 258, 3) := by decide +kernel
theorem k_fm_canFollow_47 : decode me_fm_canFollow.2.1 47 = .ok (.imul, 1) := by decide +kernel
theorem k_fm_canFollow_48 : decode me_fm_canFollow.2.1 48 = .ok (.iadd, 1) := by decide +kernel
theorem k_fm_canFollow_49 : decode me_fm_canFollow.2.1 49 = .ok (.if_icmp .lt 7, 3) := by decide +kernel
theorem k_fm_canFollow_52 : decode me_fm_canFollow.2.1 52 = .ok (.iconst 1, 1) := by decide +kernel
theorem k_fm_canFollow_53 : decode me_fm_canFollow.2.1 53 = .ok (.goto 4, 3) := by decide +kernel
theorem k_fm_canFollow_56 : decode me_fm_canFollow.2.1 56 = .ok (.iconst 0, 1) := by decide +kernel
theorem k_fm_canFollow_57 : decode me_fm_canFollow.2.1 57 = .ok (.ireturn, 1) := by decide +kernel
theorem k_fm_gauge_0 : decode me_fm_gauge.2.1 0 = .ok (.aload_n 0, 1) := by decide +kernel
theorem k_fm_gauge_1 : decode me_fm_gauge.2.1 1 = .ok (.iload_n 1, 1) := by decide +kernel
theorem k_fm_gauge_2 : decode me_fm_gauge.2.1 2 = .ok (.invokevirtual 165, 3) := by decide +kernel
theorem k_fm_gauge_5 : decode me_fm_gauge.2.1 5 = .ok (.ifCond .eq 14, 3) := by decide +kernel
theorem k_fm_gauge_8 : decode me_fm_gauge.2.1 8 = .ok (.iload_n 2, 1) := by decide +kernel
theorem k_fm_gauge_9 : decode me_fm_gauge.2.1 9 = .ok (.iconst (-1), 1) := by decide +kernel
theorem k_fm_gauge_10 : decode me_fm_gauge.2.1 10 = .ok (.sipush 500, 3) := by decide +kernel
theorem k_fm_gauge_13 : decode me_fm_gauge.2.1 13 = .ok (.invokestatic 148, 3) := by decide +kernel
theorem k_fm_gauge_16 : decode me_fm_gauge.2.1 16 = .ok (.goto 4, 3) := by decide +kernel
theorem k_fm_gauge_19 : decode me_fm_gauge.2.1 19 = .ok (.iconst (-1), 1) := by decide +kernel
theorem k_fm_gauge_20 : decode me_fm_gauge.2.1 20 = .ok (.istore_n 3, 1) := by decide +kernel
theorem k_fm_gauge_21 : decode me_fm_gauge.2.1 21 = .ok (.iload_n 3, 1) := by decide +kernel
theorem k_fm_gauge_22 : decode me_fm_gauge.2.1 22 = .ok (.ifCond .eq 9, 3) := by decide +kernel
theorem k_fm_gauge_25 : decode me_fm_gauge.2.1 25 = .ok (.aload_n 0, 1) := by decide +kernel
theorem k_fm_gauge_26 : decode me_fm_gauge.2.1 26 = .ok (.iload_n 3, 1) := by decide +kernel
theorem k_fm_gauge_27 : decode me_fm_gauge.2.1 27 = .ok (.invokevirtual 182, 3) := by decide +kernel
theorem k_fm_gauge_30 : decode me_fm_gauge.2.1 30 = .ok (.ireturn, 1) := by decide +kernel
theorem k_fm_gauge_31 : decode me_fm_gauge.2.1 31 = .ok (.aload_n 0, 1) := by decide +kernel
theorem k_fm_gauge_32 : decode me_fm_gauge.2.1 32 = .ok (.getfield 69, 3) := by decide +kernel
theorem k_fm_gauge_35 : decode me_fm_gauge.2.1 35 = .ok (.iload_n 1, 1) := by decide +kernel
theorem k_fm_gauge_36 : decode me_fm_gauge.2.1 36 = .ok (.iaload, 1) := by decide +kernel
theorem k_fm_gauge_37 : decode me_fm_gauge.2.1 37 = .ok (.istore 4, 2) := by decide +kernel
theorem k_fm_gauge_39 : decode me_fm_gauge.2.1 39 = .ok (.aload_n 0, 1) := by decide +kernel
theorem k_fm_gauge_40 : decode me_fm_gauge.2.1 40 = .ok (.getfield 69, 3) := by decide +kernel
theorem k_fm_gauge_43 : decode me_fm_gauge.2.1 43 = .ok (.iload_n 1, 1) := by decide +kernel
theorem k_fm_gauge_44 : decode me_fm_gauge.2.1 44 = .ok (.iload_n 2, 1) := by decide +kernel
theorem k_fm_gauge_45 : decode me_fm_gauge.2.1 45 = .ok (.iastore, 1) := by decide +kernel
theorem k_fm_gauge_46 : decode me_fm_gauge.2.1 46 = .ok (.aload_n 0, 1) := by decide +kernel
theorem k_fm_gauge_47 : decode me_fm_gauge.2.1 47 = .ok (.invokevirtual 152, 3) := by decide +kernel
theorem k_fm_gauge_50 : decode me_fm_gauge.2.1 50 = .ok (.iload 4, 2) := by decide +kernel
theorem k_fm_gauge_52 : decode me_fm_gauge.2.1 52 = .ok (.ireturn, 1) := by decide +kernel
theorem k_fm_tol_0 : decode me_fm_tol.2.1 0 = .ok (.iload_n 1, 1) := by decide +kernel
theorem k_fm_tol_1 : decode me_fm_tol.2.1 1 = .ok (.iconst 0, 1) := by decide +kernel
theorem k_fm_tol_2 : decode me_fm_tol.2.1 2 = .ok (.bipush 50, 2) := by decide +kernel
theorem k_fm_tol_4 : decode me_fm_tol.2.1 4 = .ok (.invokestatic 148, 3) := by decide +kernel
theorem k_fm_tol_7 : decode me_fm_tol.2.1 7 = .ok (.istore_n 2, 1) := by decide +kernel
theorem k_fm_tol_8 : decode me_fm_tol.2.1 8 = .ok (.iload_n 2, 1) := by decide +kernel
theorem k_fm_tol_9 : decode me_fm_tol.2.1 9 = .ok (.ifCond .eq 9, 3) := by decide +kernel
theorem k_fm_tol_12 : decode me_fm_tol.2.1 12 = .ok (.aload_n 0, 1) := by decide +kernel
theorem k_fm_tol_13 : decode me_fm_tol.2.1 13 = .ok (.iload_n 2, 1) := by decide +kernel
theorem k_fm_tol_14 : decode me_fm_tol.2.1 14 = .ok (.invokevirtual 133, 3) := by decide +kernel
theorem k_fm_tol_17 : decode me_fm_tol.2.1 17 = .ok (.ireturn, 1) := by decide +kernel
theorem k_fm_tol_18 : decode me_fm_tol.2.1 18 = .ok (.aload_n 0, 1) := by decide +kernel
theorem k_fm_tol_19 : decode me_fm_tol.2.1 19 = .ok (.getfield 267, 3) := by decide +kernel
theorem k_fm_tol_22 : decode me_fm_tol.2.1 22 = .ok (.istore_n 3, 1) := by decide +kernel
theorem k_fm_tol_23 : decode me_fm_tol.2.1 23 = .ok (.aload_n 0, 1) := by decide +kernel
theorem k_fm_tol_24 : decode me_fm_tol.2.1 24 = .ok (.iload_n 1, 1) := by decide +kernel
theorem k_fm_tol_25 : decode me_fm_tol.2.1 25 = .ok (.putfield 267, 3) := by decide +kernel
theorem k_fm_tol_28 : decode me_fm_tol.2.1 28 = .ok (.aload_n 0, 1) := by decide +kernel
theorem k_fm_tol_29 : decode me_fm_tol.2.1 29 = .ok (.invokevirtual 152, 3) := by decide +kernel
theorem k_fm_tol_32 : decode me_fm_tol.2.1 32 = .ok (.iload_n 3, 1) := by decide +kernel
theorem k_fm_tol_33 : decode me_fm_tol.2.1 33 = .ok (.ireturn, 1) := by decide +kernel
theorem k_fm_explain_0 : decode me_fm_explain.2.1 0 = .ok (.aload_n 0, 1) := by decide +kernel
theorem k_fm_explain_1 : decode me_fm_explain.2.1 1 = .ok (.invokevirtual 295, 3) := by decide +kernel
theorem k_fm_explain_4 : decode me_fm_explain.2.1 4 = .ok (.aload_n 0, 1) := by decide +kernel
theorem k_fm_explain_5 : decode me_fm_explain.2.1 5 = .ok (.getfield 270, 3) := by decide +kernel
theorem k_fm_explain_8 : decode me_fm_explain.2.1 8 = .ok (.ireturn, 1) := by decide +kernel
theorem k_fm_look_0 : decode me_fm_look.2.1 0 = .ok (.aload_n 0, 1) := by decide +kernel
theorem k_fm_look_1 : decode me_fm_look.2.1 1 = .ok (.getfield 137, 3) := by decide +kernel
theorem k_fm_look_4 : decode me_fm_look.2.1 4 = .ok (.ifCond .eq 4, 3) := by decide +kernel
theorem k_fm_look_7 : decode me_fm_look.2.1 7 = .ok (.return_, 1) := by decide +kernel
theorem k_fm_look_8 : decode me_fm_look.2.1 8 = .ok (.aload_n 0, 1) := by decide +kernel
theorem k_fm_look_9 : decode me_fm_look.2.1 9 = .ok (.iconst 1, 1) := by decide +kernel
theorem k_fm_look_10 : decode me_fm_look.2.1 10 = .ok (.putfield 137, 3) := by decide +kernel
theorem k_fm_look_13 : decode me_fm_look.2.1 13 = .ok (.aload_n 0, 1) := by decide +kernel
theorem k_fm_look_14 : decode me_fm_look.2.1 14 = .ok (.iconst 4, 1) := by decide +kernel
theorem k_fm_look_15 : decode me_fm_look.2.1 15 = .ok (.putfield 270, 3) := by decide +kernel
theorem k_fm_look_18 : decode me_fm_look.2.1 18 = .ok (.aload_n 0, 1) := by decide +kernel
theorem k_fm_look_19 : decode me_fm_look.2.1 19 = .ok (.bipush (-9), 2) := by decide +kernel
theorem k_fm_look_21 : decode me_fm_look.2.1 21 = .ok (.putfield 273, 3) := by decide +kernel
theorem k_fm_look_24 : decode me_fm_look.2.1 24 = .ok (.aload_n 0, 1) := by decide +kernel
theorem k_fm_look_25 : decode me_fm_look.2.1 25 = .ok (.bipush (-9), 2) := by decide +kernel
theorem k_fm_look_27 : decode me_fm_look.2.1 27 = .ok (.putfield 276, 3) := by decide +kernel
theorem k_fm_look_30 : decode me_fm_look.2.1 30 = .ok (.aload_n 0, 1) := by decide +kernel
theorem k_fm_look_31 : decode me_fm_look.2.1 31 = .ok (.bipush (-9), 2) := by decide +kernel
theorem k_fm_look_33 : decode me_fm_look.2.1 33 = .ok (.putfield 279, 3) := by decide +kernel
theorem k_fm_look_36 : decode me_fm_look.2.1 36 = .ok (.aload_n 0, 1) := by decide +kernel
theorem k_fm_look_37 : decode me_fm_look.2.1 37 = .ok (.bipush (-9), 2) := by decide +kernel
theorem k_fm_look_39 : decode me_fm_look.2.1 39 = .ok (.putfield 282, 3) := by decide +kernel
theorem k_fm_look_42 : decode me_fm_look.2.1 42 = .ok (.aload_n 0, 1) := by decide +kernel
theorem k_fm_look_43 : decode me_fm_look.2.1 43 = .ok (.iconst 0, 1) := by decide +kernel
theorem k_fm_look_44 : decode me_fm_look.2.1 44 = .ok (.putfield 285, 3) := by decide +kernel
theorem k_fm_look_47 : decode me_fm_look.2.1 47 = .ok (.iconst 0, 1) := by decide +kernel
theorem k_fm_look_48 : decode me_fm_look.2.1 48 = .ok (.istore_n 1, 1) := by decide +kernel
theorem k_fm_look_49 : decode me_fm_look.2.1 49 = .ok (.iconst 0, 1) := by decide +kernel
theorem k_fm_look_50 : decode me_fm_look.2.1 50 = .ok (.istore_n 2, 1) := by decide +kernel
theorem k_fm_look_51 : decode me_fm_look.2.1 51 = .ok (.iload_n 2, 1) := by decide +kernel
theorem k_fm_look_52 : decode me_fm_look.2.1 52 = .ok (.aload_n 0, 1) := by decide +kernel
theorem k_fm_look_53 : decode me_fm_look.2.1 53 = .ok (.getfield 158, 3) := by decide +kernel
theorem k_fm_look_56 : decode me_fm_look.2.1 56 = .ok (.if_icmp .ge 28, 3) := by decide +kernel
theorem k_fm_look_59 : decode me_fm_look.2.1 59 = .ok (.iload_n 1, 1) := by decide +kernel
theorem k_fm_look_60 : decode me_fm_look.2.1 60 = .ok (.ifCond .ne 12, 3) := by decide +kernel
theorem k_fm_look_63 : decode me_fm_look.2.1 63 = .ok (.aload_n 0, 1) := by decide +kernel
end
section
/-! printed by my own program: decode rows -/
theorem k_fm_look_64 : decode me_fm_look.2.1 64 = .ok (.getfield 69, 3) := by decide +kernel
theorem k_fm_look_67 : decode me_fm_look.2.1 67 = .ok (.iload_n 2, 1) := by decide +kernel
theorem k_fm_look_68 : decode me_fm_look.2.1 68 = .ok (.iaload, 1) := by decide +kernel
theorem k_fm_look_69 : decode me_fm_look.2.1 69 = .ok (.ifCond .lt 7, 3) := by decide +kernel
theorem k_fm_look_72 : decode me_fm_look.2.1 72 = .ok (.iconst 1, 1) := by decide +kernel
theorem k_fm_look_73 : decode me_fm_look.2.1 73 = .ok (.goto 4, 3) := by decide +kernel
theorem k_fm_look_76 : decode me_fm_look.2.1 76 = .ok (.iconst 0, 1) := by decide +kernel
theorem k_fm_look_77 : decode me_fm_look.2.1 77 = .ok (.istore_n 1, 1) := by decide +kernel
theorem k_fm_look_78 : decode me_fm_look.2.1 78 = .ok (.iinc 2 1, 3) := by decide +kernel
theorem k_fm_look_81 : decode me_fm_look.2.1 81 = .ok (.goto (-30), 3) := by decide +kernel
theorem k_fm_look_84 : decode me_fm_look.2.1 84 = .ok (.iload_n 1, 1) := by decide +kernel
theorem k_fm_look_85 : decode me_fm_look.2.1 85 = .ok (.ifCond .ne 4, 3) := by decide +kernel
theorem k_fm_look_88 : decode me_fm_look.2.1 88 = .ok (.return_, 1) := by decide +kernel
theorem k_fm_look_89 : decode me_fm_look.2.1 89 = .ok (.aload_n 0, 1) := by decide +kernel
theorem k_fm_look_90 : decode me_fm_look.2.1 90 = .ok (.invokevirtual 173, 3) := by decide +kernel
theorem k_fm_look_93 : decode me_fm_look.2.1 93 = .ok (.iconst 0, 1) := by decide +kernel
theorem k_fm_look_94 : decode me_fm_look.2.1 94 = .ok (.istore_n 2, 1) := by decide +kernel
theorem k_fm_look_95 : decode me_fm_look.2.1 95 = .ok (.iload_n 2, 1) := by decide +kernel
theorem k_fm_look_96 : decode me_fm_look.2.1 96 = .ok (.aload_n 0, 1) := by decide +kernel
theorem k_fm_look_97 : decode me_fm_look.2.1 97 = .ok (.getfield 155, 3) := by decide +kernel
theorem k_fm_look_100 : decode me_fm_look.2.1 100 = .ok (.if_icmp .ge 16, 3) := by decide +kernel
theorem k_fm_look_103 : decode me_fm_look.2.1 103 = .ok (.aload_n 0, 1) := by decide +kernel
theorem k_fm_look_104 : decode me_fm_look.2.1 104 = .ok (.getfield 87, 3) := by decide +kernel
theorem k_fm_look_107 : decode me_fm_look.2.1 107 = .ok (.iload_n 2, 1) := by decide +kernel
theorem k_fm_look_108 : decode me_fm_look.2.1 108 = .ok (.iconst 0, 1) := by decide +kernel
theorem k_fm_look_109 : decode me_fm_look.2.1 109 = .ok (.iastore, 1) := by decide +kernel
theorem k_fm_look_110 : decode me_fm_look.2.1 110 = .ok (.iinc 2 1, 3) := by decide +kernel
theorem k_fm_look_113 : decode me_fm_look.2.1 113 = .ok (.goto (-18), 3) := by decide +kernel
theorem k_fm_look_116 : decode me_fm_look.2.1 116 = .ok (.aload_n 0, 1) := by decide +kernel
theorem k_fm_look_117 : decode me_fm_look.2.1 117 = .ok (.aload_n 0, 1) := by decide +kernel
theorem k_fm_look_118 : decode me_fm_look.2.1 118 = .ok (.invokevirtual 288, 3) := by decide +kernel
theorem k_fm_look_121 : decode me_fm_look.2.1 121 = .ok (.ifCond .eq 7, 3) := by decide +kernel
theorem k_fm_look_124 : decode me_fm_look.2.1 124 = .ok (.iconst 0, 1) := by decide +kernel
theorem k_fm_look_125 : decode me_fm_look.2.1 125 = .ok (.goto 4, 3) := by decide +kernel
theorem k_fm_look_128 : decode me_fm_look.2.1 128 = .ok (.iconst 3, 1) := by decide +kernel
theorem k_fm_look_129 : decode me_fm_look.2.1 129 = .ok (.putfield 270, 3) := by decide +kernel
theorem k_fm_look_132 : decode me_fm_look.2.1 132 = .ok (.iconst 0, 1) := by decide +kernel
theorem k_fm_look_133 : decode me_fm_look.2.1 133 = .ok (.istore_n 2, 1) := by decide +kernel
theorem k_fm_look_134 : decode me_fm_look.2.1 134 = .ok (.iload_n 2, 1) := by decide +kernel
theorem k_fm_look_135 : decode me_fm_look.2.1 135 = .ok (.aload_n 0, 1) := by decide +kernel
theorem k_fm_look_136 : decode me_fm_look.2.1 136 = .ok (.getfield 155, 3) := by decide +kernel
theorem k_fm_look_139 : decode me_fm_look.2.1 139 = .ok (.if_icmp .ge 97, 3) := by decide +kernel
theorem k_fm_look_142 : decode me_fm_look.2.1 142 = .ok (.iconst 0, 1) := by decide +kernel
theorem k_fm_look_143 : decode me_fm_look.2.1 143 = .ok (.istore_n 3, 1) := by decide +kernel
theorem k_fm_look_144 : decode me_fm_look.2.1 144 = .ok (.iconst 1, 1) := by decide +kernel
theorem k_fm_look_145 : decode me_fm_look.2.1 145 = .ok (.istore 4, 2) := by decide +kernel
theorem k_fm_look_147 : decode me_fm_look.2.1 147 = .ok (.iload 4, 2) := by decide +kernel
theorem k_fm_look_149 : decode me_fm_look.2.1 149 = .ok (.bipush 60, 2) := by decide +kernel
theorem k_fm_look_151 : decode me_fm_look.2.1 151 = .ok (.if_icmp .gt 26, 3) := by decide +kernel
theorem k_fm_look_154 : decode me_fm_look.2.1 154 = .ok (.iload_n 3, 1) := by decide +kernel
theorem k_fm_look_155 : decode me_fm_look.2.1 155 = .ok (.ifCond .ne 22, 3) := by decide +kernel
theorem k_fm_look_158 : decode me_fm_look.2.1 158 = .ok (.aload_n 0, 1) := by decide +kernel
theorem k_fm_look_159 : decode me_fm_look.2.1 159 = .ok (.getfield 87, 3) := by decide +kernel
theorem k_fm_look_162 : decode me_fm_look.2.1 162 = .ok (.iload_n 2, 1) := by decide +kernel
theorem k_fm_look_163 : decode me_fm_look.2.1 163 = .ok (.iload 4, 2) := by decide +kernel
theorem k_fm_look_165 : decode me_fm_look.2.1 165 = .ok (.iastore, 1) := by decide +kernel
theorem k_fm_look_166 : decode me_fm_look.2.1 166 = .ok (.aload_n 0, 1) := by decide +kernel
theorem k_fm_look_167 : decode me_fm_look.2.1 167 = .ok (.invokevirtual 288, 3) := by decide +kernel
theorem k_fm_look_170 : decode me_fm_look.2.1 170 = .ok (.istore_n 3, 1) := by decide +kernel
theorem k_fm_look_171 : decode me_fm_look.2.1 171 = .ok (.iinc 4 1, 3) := by decide +kernel
theorem k_fm_look_174 : decode me_fm_look.2.1 174 = .ok (.goto (-27), 3) := by decide +kernel
theorem k_fm_look_177 : decode me_fm_look.2.1 177 = .ok (.iload_n 3, 1) := by decide +kernel
theorem k_fm_look_178 : decode me_fm_look.2.1 178 = .ok (.ifCond .eq 13, 3) := by decide +kernel
theorem k_fm_look_181 : decode me_fm_look.2.1 181 = .ok (.aload_n 0, 1) := by decide +kernel
theorem k_fm_look_182 : decode me_fm_look.2.1 182 = .ok (.dup, 1) := by decide +kernel
theorem k_fm_look_183 : decode me_fm_look.2.1 183 = .ok (.getfield 285, 3) := by decide +kernel
theorem k_fm_look_186 : decode me_fm_look.2.1 186 = .ok (.iconst 1, 1) := by decide +kernel
theorem k_fm_look_187 : decode me_fm_look.2.1 187 = .ok (.iadd, 1) := by decide +kernel
theorem k_fm_look_188 : decode me_fm_look.2.1 188 = .ok (.putfield 285, 3) := by decide +kernel
theorem k_fm_look_191 : decode me_fm_look.2.1 191 = .ok (.iload_n 3, 1) := by decide +kernel
theorem k_fm_look_192 : decode me_fm_look.2.1 192 = .ok (.ifCond .eq 31, 3) := by decide +kernel
theorem k_fm_look_195 : decode me_fm_look.2.1 195 = .ok (.aload_n 0, 1) := by decide +kernel
theorem k_fm_look_196 : decode me_fm_look.2.1 196 = .ok (.getfield 270, 3) := by decide +kernel
theorem k_fm_look_199 : decode me_fm_look.2.1 199 = .ok (.iconst 3, 1) := by decide +kernel
theorem k_fm_look_200 : decode me_fm_look.2.1 200 = .ok (.if_icmp .ne 23, 3) := by decide +kernel
theorem k_fm_look_203 : decode me_fm_look.2.1 203 = .ok (.aload_n 0, 1) := by decide +kernel
theorem k_fm_look_204 : decode me_fm_look.2.1 204 = .ok (.iconst 1, 1) := by decide +kernel
theorem k_fm_look_205 : decode me_fm_look.2.1 205 = .ok (.putfield 270, 3) := by decide +kernel
theorem k_fm_look_208 : decode me_fm_look.2.1 208 = .ok (.aload_n 0, 1) := by decide +kernel
theorem k_fm_look_209 : decode me_fm_look.2.1 209 = .ok (.iload_n 2, 1) := by decide +kernel
theorem k_fm_look_210 : decode me_fm_look.2.1 210 = .ok (.putfield 273, 3) := by decide +kernel
theorem k_fm_look_213 : decode me_fm_look.2.1 213 = .ok (.aload_n 0, 1) := by decide +kernel
theorem k_fm_look_214 : decode me_fm_look.2.1 214 = .ok (.aload_n 0, 1) := by decide +kernel
theorem k_fm_look_215 : decode me_fm_look.2.1 215 = .ok (.getfield 87, 3) := by decide +kernel
theorem k_fm_look_218 : decode me_fm_look.2.1 218 = .ok (.iload_n 2, 1) := by decide +kernel
theorem k_fm_look_219 : decode me_fm_look.2.1 219 = .ok (.iaload, 1) := by decide +kernel
theorem k_fm_look_220 : decode me_fm_look.2.1 220 = .ok (.putfield 276, 3) := by decide +kernel
theorem k_fm_look_223 : decode me_fm_look.2.1 223 = .ok (.aload_n 0, 1) := by decide +kernel
theorem k_fm_look_224 : decode me_fm_look.2.1 224 = .ok (.getfield 87, 3) := by decide +kernel
theorem k_fm_look_227 : decode me_fm_look.2.1 227 = .ok (.iload_n 2, 1) := by decide +kernel
theorem k_fm_look_228 : decode me_fm_look.2.1 228 = .ok (.iconst 0, 1) := by decide +kernel
theorem k_fm_look_229 : decode me_fm_look.2.1 229 = .ok (.iastore, 1) := by decide +kernel
theorem k_fm_look_230 : decode me_fm_look.2.1 230 = .ok (.iinc 2 1, 3) := by decide +kernel
theorem k_fm_look_233 : decode me_fm_look.2.1 233 = .ok (.goto (-99), 3) := by decide +kernel
theorem k_fm_look_236 : decode me_fm_look.2.1 236 = .ok (.iconst 0, 1) := by decide +kernel
theorem k_fm_look_237 : decode me_fm_look.2.1 237 = .ok (.istore_n 2, 1) := by decide +kernel
theorem k_fm_look_238 : decode me_fm_look.2.1 238 = .ok (.iload_n 2, 1) := by decide +kernel
theorem k_fm_look_239 : decode me_fm_look.2.1 239 = .ok (.aload_n 0, 1) := by decide +kernel
theorem k_fm_look_240 : decode me_fm_look.2.1 240 = .ok (.getfield 155, 3) := by decide +kernel
theorem k_fm_look_243 : decode me_fm_look.2.1 243 = .ok (.if_icmp .ge 49, 3) := by decide +kernel
theorem k_fm_look_246 : decode me_fm_look.2.1 246 = .ok (.aload_n 0, 1) := by decide +kernel
theorem k_fm_look_247 : decode me_fm_look.2.1 247 = .ok (.getfield 270, 3) := by decide +kernel
theorem k_fm_look_250 : decode me_fm_look.2.1 250 = .ok (.iconst 3, 1) := by decide +kernel
theorem k_fm_look_251 : decode me_fm_look.2.1 251 = .ok (.if_icmp .ne 41, 3) := by decide +kernel
theorem k_fm_look_254 : decode me_fm_look.2.1 254 = .ok (.iload_n 2, 1) := by decide +kernel
theorem k_fm_look_255 : decode me_fm_look.2.1 255 = .ok (.iconst 1, 1) := by decide +kernel
theorem k_fm_look_256 : decode me_fm_look.2.1 256 = .ok (.iadd, 1) := by decide +kernel
theorem k_fm_look_257 : decode me_fm_look.2.1 257 = .ok (.istore_n 3, 1) := by decide +kernel
theorem k_fm_look_258 : decode me_fm_look.2.1 258 = .ok (.iload_n 3, 1) := by decide +kernel
theorem k_fm_look_259 : decode me_fm_look.2.1 259 = .ok (.aload_n 0, 1) := by decide +kernel
theorem k_fm_look_260 : decode me_fm_look.2.1 260 = .ok (.getfield 155, 3) := by decide +kernel
theorem k_fm_look_263 : decode me_fm_look.2.1 263 = .ok (.if_icmp .ge 23, 3) := by decide +kernel
theorem k_fm_look_266 : decode me_fm_look.2.1 266 = .ok (.aload_n 0, 1) := by decide +kernel
theorem k_fm_look_267 : decode me_fm_look.2.1 267 = .ok (.getfield 270, 3) := by decide +kernel
theorem k_fm_look_270 : decode me_fm_look.2.1 270 = .ok (.iconst 3, 1) := by decide +kernel
theorem k_fm_look_271 : decode me_fm_look.2.1 271 = .ok (.if_icmp .ne 15, 3) := by decide +kernel
theorem k_fm_look_274 : decode me_fm_look.2.1 274 = .ok (.aload_n 0, 1) := by decide +kernel
theorem k_fm_look_275 : decode me_fm_look.2.1 275 = .ok (.iload_n 2, 1) := by decide +kernel
theorem k_fm_look_276 : decode me_fm_look.2.1 276 = .ok (.iload_n 3, 1) := by decide +kernel
theorem k_fm_look_277 : decode me_fm_look.2.1 277 = .ok (.invokevirtual 291, 3) := by decide +kernel
theorem k_fm_look_280 : decode me_fm_look.2.1 280 = .ok (.iinc 3 1, 3) := by decide +kernel
theorem k_fm_look_283 : decode me_fm_look.2.1 283 = .ok (.goto (-25), 3) := by decide +kernel
theorem k_fm_look_286 : decode me_fm_look.2.1 286 = .ok (.iinc 2 1, 3) := by decide +kernel
theorem k_fm_look_289 : decode me_fm_look.2.1 289 = .ok (.goto (-51), 3) := by decide +kernel
theorem k_fm_look_292 : decode me_fm_look.2.1 292 = .ok (.return_, 1) := by decide +kernel
theorem k_fm_explains_0 : decode me_fm_explains.2.1 0 = .ok (.aload_n 0, 1) := by decide +kernel
theorem k_fm_explains_1 : decode me_fm_explains.2.1 1 = .ok (.invokevirtual 176, 3) := by decide +kernel
theorem k_fm_explains_4 : decode me_fm_explains.2.1 4 = .ok (.iconst 1, 1) := by decide +kernel
theorem k_fm_explains_5 : decode me_fm_explains.2.1 5 = .ok (.istore_n 1, 1) := by decide +kernel
theorem k_fm_explains_6 : decode me_fm_explains.2.1 6 = .ok (.iconst 0, 1) := by decide +kernel
theorem k_fm_explains_7 : decode me_fm_explains.2.1 7 = .ok (.istore_n 2, 1) := by decide +kernel
theorem k_fm_explains_8 : decode me_fm_explains.2.1 8 = .ok (.iload_n 2, 1) := by decide +kernel
theorem k_fm_explains_9 : decode me_fm_explains.2.1 9 = .ok (.aload_n 0, 1) := by decide +kernel
theorem k_fm_explains_10 : decode me_fm_explains.2.1 10 = .ok (.getfield 158, 3) := by decide +kernel
theorem k_fm_explains_13 : decode me_fm_explains.2.1 13 = .ok (.if_icmp .ge 50, 3) := by decide +kernel
theorem k_fm_explains_16 : decode me_fm_explains.2.1 16 = .ok (.iload_n 1, 1) := by decide +kernel
theorem k_fm_explains_17 : decode me_fm_explains.2.1 17 = .ok (.ifCond .eq 46, 3) := by decide +kernel
theorem k_fm_explains_20 : decode me_fm_explains.2.1 20 = .ok (.aload_n 0, 1) := by decide +kernel
theorem k_fm_explains_21 : decode me_fm_explains.2.1 21 = .ok (.getfield 69, 3) := by decide +kernel
theorem k_fm_explains_24 : decode me_fm_explains.2.1 24 = .ok (.iload_n 2, 1) := by decide +kernel
theorem k_fm_explains_25 : decode me_fm_explains.2.1 25 = .ok (.iaload, 1) := by decide +kernel
theorem k_fm_explains_26 : decode me_fm_explains.2.1 26 = .ok (.ifCond .lt 25, 3) := by decide +kernel
theorem k_fm_explains_29 : decode me_fm_explains.2.1 29 = .ok (.aload_n 0, 1) := by decide +kernel
theorem k_fm_explains_30 : decode me_fm_explains.2.1 30 = .ok (.iload_n 2, 1) := by decide +kernel
theorem k_fm_explains_31 : decode me_fm_explains.2.1 31 = .ok (.invokevirtual 185, 3) := by decide +kernel
theorem k_fm_explains_34 : decode me_fm_explains.2.1 34 = .ok (.aload_n 0, 1) := by decide +kernel
theorem k_fm_explains_35 : decode me_fm_explains.2.1 35 = .ok (.getfield 69, 3) := by decide +kernel
theorem k_fm_explains_38 : decode me_fm_explains.2.1 38 = .ok (.iload_n 2, 1) := by decide +kernel
theorem k_fm_explains_39 : decode me_fm_explains.2.1 39 = .ok (.iaload, 1) := by decide +kernel
theorem k_fm_explains_40 : decode me_fm_explains.2.1 40 = .ok (.isub, 1) := by decide +kernel
theorem k_fm_explains_41 : decode me_fm_explains.2.1 41 = .ok (.invokestatic 258, 3) := by decide +kernel
theorem k_fm_explains_44 : decode me_fm_explains.2.1 44 = .ok (.aload_n 0, 1) := by decide +kernel
theorem k_fm_explains_45 : decode me_fm_explains.2.1 45 = .ok (.getfield 267, 3) := by decide +kernel
theorem k_fm_explains_48 : decode me_fm_explains.2.1 48 = .ok (.if_icmp .gt 7, 3) := by decide +kernel
theorem k_fm_explains_51 : decode me_fm_explains.2.1 51 = .ok (.iconst 1, 1) := by decide +kernel
theorem k_fm_explains_52 : decode me_fm_explains.2.1 52 = .ok (.goto 4, 3) := by decide +kernel
theorem k_fm_explains_55 : decode me_fm_explains.2.1 55 = .ok (.iconst 0, 1) := by decide +kernel
theorem k_fm_explains_56 : decode me_fm_explains.2.1 56 = .ok (.istore_n 1, 1) := by decide +kernel
theorem k_fm_explains_57 : decode me_fm_explains.2.1 57 = .ok (.iinc 2 1, 3) := by decide +kernel
theorem k_fm_explains_60 : decode me_fm_explains.2.1 60 = .ok (.goto (-52), 3) := by decide +kernel
theorem k_fm_explains_63 : decode me_fm_explains.2.1 63 = .ok (.iload_n 1, 1) := by decide +kernel
theorem k_fm_explains_64 : decode me_fm_explains.2.1 64 = .ok (.ireturn, 1) := by decide +kernel
theorem k_fm_two_0 : decode me_fm_two.2.1 0 = .ok (.iconst 1, 1) := by decide +kernel
theorem k_fm_two_1 : decode me_fm_two.2.1 1 = .ok (.istore_n 3, 1) := by decide +kernel
theorem k_fm_two_2 : decode me_fm_two.2.1 2 = .ok (.iload_n 3, 1) := by decide +kernel
theorem k_fm_two_3 : decode me_fm_two.2.1 3 = .ok (.bipush 12, 2) := by decide +kernel
theorem k_fm_two_5 : decode me_fm_two.2.1 5 = .ok (.if_icmp .gt 92, 3) := by decide +kernel
theorem k_fm_two_8 : decode me_fm_two.2.1 8 = .ok (.aload_n 0, 1) := by decide +kernel
theorem k_fm_two_9 : decode me_fm_two.2.1 9 = .ok (.getfield 270, 3) := by decide +kernel
theorem k_fm_two_12 : decode me_fm_two.2.1 12 = .ok (.iconst 3, 1) := by decide +kernel
theorem k_fm_two_13 : decode me_fm_two.2.1 13 = .ok (.if_icmp .ne 84, 3) := by decide +kernel
theorem k_fm_two_16 : decode me_fm_two.2.1 16 = .ok (.iconst 1, 1) := by decide +kernel
theorem k_fm_two_17 : decode me_fm_two.2.1 17 = .ok (.istore 4, 2) := by decide +kernel
theorem k_fm_two_19 : decode me_fm_two.2.1 19 = .ok (.iload 4, 2) := by decide +kernel
theorem k_fm_two_21 : decode me_fm_two.2.1 21 = .ok (.bipush 12, 2) := by decide +kernel
theorem k_fm_two_23 : decode me_fm_two.2.1 23 = .ok (.if_icmp .gt 68, 3) := by decide +kernel
theorem k_fm_two_26 : decode me_fm_two.2.1 26 = .ok (.aload_n 0, 1) := by decide +kernel
theorem k_fm_two_27 : decode me_fm_two.2.1 27 = .ok (.getfield 270, 3) := by decide +kernel
theorem k_fm_two_30 : decode me_fm_two.2.1 30 = .ok (.iconst 3, 1) := by decide +kernel
theorem k_fm_two_31 : decode me_fm_two.2.1 31 = .ok (.if_icmp .ne 60, 3) := by decide +kernel
theorem k_fm_two_34 : decode me_fm_two.2.1 34 = .ok (.aload_n 0, 1) := by decide +kernel
theorem k_fm_two_35 : decode me_fm_two.2.1 35 = .ok (.getfield 87, 3) := by decide +kernel
theorem k_fm_two_38 : decode me_fm_two.2.1 38 = .ok (.iload_n 1, 1) := by decide +kernel
theorem k_fm_two_39 : decode me_fm_two.2.1 39 = .ok (.iload_n 3, 1) := by decide +kernel
theorem k_fm_two_40 : decode me_fm_two.2.1 40 = .ok (.iastore, 1) := by decide +kernel
theorem k_fm_two_41 : decode me_fm_two.2.1 41 = .ok (.aload_n 0, 1) := by decide +kernel
theorem k_fm_two_42 : decode me_fm_two.2.1 42 = .ok (.getfield 87, 3) := by decide +kernel
theorem k_fm_two_45 : decode me_fm_two.2.1 45 = .ok (.iload_n 2, 1) := by decide +kernel
theorem k_fm_two_46 : decode me_fm_two.2.1 46 = .ok (.iload 4, 2) := by decide +kernel
theorem k_fm_two_48 : decode me_fm_two.2.1 48 = .ok (.iastore, 1) := by decide +kernel
theorem k_fm_two_49 : decode me_fm_two.2.1 49 = .ok (.aload_n 0, 1) := by decide +kernel
theorem k_fm_two_50 : decode me_fm_two.2.1 50 = .ok (.invokevirtual 288, 3) := by decide +kernel
theorem k_fm_two_53 : decode me_fm_two.2.1 53 = .ok (.ifCond .ne 6, 3) := by decide +kernel
theorem k_fm_two_56 : decode me_fm_two.2.1 56 = .ok (.goto 29, 3) := by decide +kernel
theorem k_fm_two_59 : decode me_fm_two.2.1 59 = .ok (.aload_n 0, 1) := by decide +kernel
theorem k_fm_two_60 : decode me_fm_two.2.1 60 = .ok (.iconst 2, 1) := by decide +kernel
theorem k_fm_two_61 : decode me_fm_two.2.1 61 = .ok (.putfield 270, 3) := by decide +kernel
theorem k_fm_two_64 : decode me_fm_two.2.1 64 = .ok (.aload_n 0, 1) := by decide +kernel
theorem k_fm_two_65 : decode me_fm_two.2.1 65 = .ok (.iload_n 1, 1) := by decide +kernel
theorem k_fm_two_66 : decode me_fm_two.2.1 66 = .ok (.putfield 273, 3) := by decide +kernel
theorem k_fm_two_69 : decode me_fm_two.2.1 69 = .ok (.aload_n 0, 1) := by decide +kernel
theorem k_fm_two_70 : decode me_fm_two.2.1 70 = .ok (.iload_n 3, 1) := by decide +kernel
theorem k_fm_two_71 : decode me_fm_two.2.1 71 = .ok (.putfield 276, 3) := by decide +kernel
theorem k_fm_two_74 : decode me_fm_two.2.1 74 = .ok (.aload_n 0, 1) := by decide +kernel
theorem k_fm_two_75 : decode me_fm_two.2.1 75 = .ok (.iload_n 2, 1) := by decide +kernel
theorem k_fm_two_76 : decode me_fm_two.2.1 76 = .ok (.putfield 279, 3) := by decide +kernel
theorem k_fm_two_79 : decode me_fm_two.2.1 79 = .ok (.aload_n 0, 1) := by decide +kernel
theorem k_fm_two_80 : decode me_fm_two.2.1 80 = .ok (.iload 4, 2) := by decide +kernel
theorem k_fm_two_82 : decode me_fm_two.2.1 82 = .ok (.putfield 282, 3) := by decide +kernel
theorem k_fm_two_85 : decode me_fm_two.2.1 85 = .ok (.iinc 4 1, 3) := by decide +kernel
theorem k_fm_two_88 : decode me_fm_two.2.1 88 = .ok (.goto (-69), 3) := by decide +kernel
theorem k_fm_two_91 : decode me_fm_two.2.1 91 = .ok (.iinc 3 1, 3) := by decide +kernel
theorem k_fm_two_94 : decode me_fm_two.2.1 94 = .ok (.goto (-92), 3) := by decide +kernel
theorem k_fm_two_97 : decode me_fm_two.2.1 97 = .ok (.aload_n 0, 1) := by decide +kernel
theorem k_fm_two_98 : decode me_fm_two.2.1 98 = .ok (.getfield 87, 3) := by decide +kernel
theorem k_fm_two_101 : decode me_fm_two.2.1 101 = .ok (.iload_n 1, 1) := by decide +kernel
theorem k_fm_two_102 : decode me_fm_two.2.1 102 = .ok (.iconst 0, 1) := by decide +kernel
theorem k_fm_two_103 : decode me_fm_two.2.1 103 = .ok (.iastore, 1) := by decide +kernel
theorem k_fm_two_104 : decode me_fm_two.2.1 104 = .ok (.aload_n 0, 1) := by decide +kernel
theorem k_fm_two_105 : decode me_fm_two.2.1 105 = .ok (.getfield 87, 3) := by decide +kernel
theorem k_fm_two_108 : decode me_fm_two.2.1 108 = .ok (.iload_n 2, 1) := by decide +kernel
theorem k_fm_two_109 : decode me_fm_two.2.1 109 = .ok (.iconst 0, 1) := by decide +kernel
theorem k_fm_two_110 : decode me_fm_two.2.1 110 = .ok (.iastore, 1) := by decide +kernel
theorem k_fm_two_111 : decode me_fm_two.2.1 111 = .ok (.return_, 1) := by decide +kernel
theorem k_fm_explained_0 : decode me_fm_explained.2.1 0 = .ok (.iload_n 1, 1) := by decide +kernel
theorem k_fm_explained_1 : decode me_fm_explained.2.1 1 = .ok (.iconst 4, 1) := by decide +kernel
theorem k_fm_explained_2 : decode me_fm_explained.2.1 2 = .ok (.invokestatic 144, 3) := by decide +kernel
theorem k_fm_explained_5 : decode me_fm_explained.2.1 5 = .ok (.ifCond .ne 10, 3) := by decide +kernel
theorem k_fm_explained_8 : decode me_fm_explained.2.1 8 = .ok (.aload_n 0, 1) := by decide +kernel
theorem k_fm_explained_9 : decode me_fm_explained.2.1 9 = .ok (.bipush (-2), 2) := by decide +kernel
theorem k_fm_explained_11 : decode me_fm_explained.2.1 11 = .ok (.invokevirtual 133, 3) := by decide +kernel
theorem k_fm_explained_14 : decode me_fm_explained.2.1 14 = .ok (.ireturn, 1) := by decide +kernel
theorem k_fm_explained_15 : decode me_fm_explained.2.1 15 = .ok (.aload_n 0, 1) := by decide +kernel
theorem k_fm_explained_16 : decode me_fm_explained.2.1 16 = .ok (.invokevirtual 295, 3) := by decide +kernel
theorem k_fm_explained_19 : decode me_fm_explained.2.1 19 = .ok (.iload_n 1, 1) := by decide +kernel
theorem k_fm_explained_20 : decode me_fm_explained.2.1 20 = .ok (.ifCond .ne 10, 3) := by decide +kernel
theorem k_fm_explained_23 : decode me_fm_explained.2.1 23 = .ok (.aload_n 0, 1) := by decide +kernel
theorem k_fm_explained_24 : decode me_fm_explained.2.1 24 = .ok (.getfield 273, 3) := by decide +kernel
theorem k_fm_explained_27 : decode me_fm_explained.2.1 27 = .ok (.goto 31, 3) := by decide +kernel
theorem k_fm_explained_30 : decode me_fm_explained.2.1 30 = .ok (.iload_n 1, 1) := by decide +kernel
theorem k_fm_explained_31 : decode me_fm_explained.2.1 31 = .ok (.iconst 1, 1) := by decide +kernel
theorem k_fm_explained_32 : decode me_fm_explained.2.1 32 = .ok (.if_icmp .ne 10, 3) := by decide +kernel
theorem k_fm_explained_35 : decode me_fm_explained.2.1 35 = .ok (.aload_n 0, 1) := by decide +kernel
theorem k_fm_explained_36 : decode me_fm_explained.2.1 36 = .ok (.getfield 276, 3) := by decide +kernel
theorem k_fm_explained_39 : decode me_fm_explained.2.1 39 = .ok (.goto 19, 3) := by decide +kernel
theorem k_fm_explained_42 : decode me_fm_explained.2.1 42 = .ok (.iload_n 1, 1) := by decide +kernel
theorem k_fm_explained_43 : decode me_fm_explained.2.1 43 = .ok (.iconst 2, 1) := by decide +kernel
theorem k_fm_explained_44 : decode me_fm_explained.2.1 44 = .ok (.if_icmp .ne 10, 3) := by decide +kernel
theorem k_fm_explained_47 : decode me_fm_explained.2.1 47 = .ok (.aload_n 0, 1) := by decide +kernel
theorem k_fm_explained_48 : decode me_fm_explained.2.1 48 = .ok (.getfield 279, 3) := by decide +kernel
theorem k_fm_explained_51 : decode me_fm_explained.2.1 51 = .ok (.goto 7, 3) := by decide +kernel
theorem k_fm_explained_54 : decode me_fm_explained.2.1 54 = .ok (.aload_n 0, 1) := by decide +kernel
theorem k_fm_explained_55 : decode me_fm_explained.2.1 55 = .ok (.getfield 282, 3) := by decide +kernel
theorem k_fm_explained_58 : decode me_fm_explained.2.1 58 = .ok (.ireturn, 1) := by decide +kernel
theorem k_fm_rivals_0 : decode me_fm_rivals.2.1 0 = .ok (.aload_n 0, 1) := by decide +kernel
theorem k_fm_rivals_1 : decode me_fm_rivals.2.1 1 = .ok (.invokevirtual 295, 3) := by decide +kernel
theorem k_fm_rivals_4 : decode me_fm_rivals.2.1 4 = .ok (.aload_n 0, 1) := by decide +kernel
theorem k_fm_rivals_5 : decode me_fm_rivals.2.1 5 = .ok (.getfield 285, 3) := by decide +kernel
theorem k_fm_rivals_8 : decode me_fm_rivals.2.1 8 = .ok (.ireturn, 1) := by decide +kernel
theorem k_fm_empty_0 : decode me_fm_empty.2.1 0 = .ok (.aload_n 0, 1) := by decide +kernel
theorem k_fm_empty_1 : decode me_fm_empty.2.1 1 = .ok (.iload_n 1, 1) := by decide +kernel
theorem k_fm_empty_2 : decode me_fm_empty.2.1 2 = .ok (.invokevirtual 161, 3) := by decide +kernel
theorem k_fm_empty_5 : decode me_fm_empty.2.1 5 = .ok (.ifCond .ne 9, 3) := by decide +kernel
theorem k_fm_empty_8 : decode me_fm_empty.2.1 8 = .ok (.aload_n 0, 1) := by decide +kernel
theorem k_fm_empty_9 : decode me_fm_empty.2.1 9 = .ok (.iconst (-1), 1) := by decide +kernel
theorem k_fm_empty_10 : decode me_fm_empty.2.1 10 = .ok (.invokevirtual 133, 3) := by decide +kernel
theorem k_fm_empty_13 : decode me_fm_empty.2.1 13 = .ok (.ireturn, 1) := by decide +kernel
theorem k_fm_empty_14 : decode me_fm_empty.2.1 14 = .ok (.aload_n 0, 1) := by decide +kernel
theorem k_fm_empty_15 : decode me_fm_empty.2.1 15 = .ok (.iload_n 1, 1) := by decide +kernel
theorem k_fm_empty_16 : decode me_fm_empty.2.1 16 = .ok (.aload_n 0, 1) := by decide +kernel
theorem k_fm_empty_17 : decode me_fm_empty.2.1 17 = .ok (.getfield 59, 3) := by decide +kernel
theorem k_fm_empty_20 : decode me_fm_empty.2.1 20 = .ok (.invokevirtual 298, 3) := by decide +kernel
theorem k_fm_empty_23 : decode me_fm_empty.2.1 23 = .ok (.ifCond .eq 26, 3) := by decide +kernel
theorem k_fm_empty_26 : decode me_fm_empty.2.1 26 = .ok (.aload_n 0, 1) := by decide +kernel
theorem k_fm_empty_27 : decode me_fm_empty.2.1 27 = .ok (.getfield 56, 3) := by decide +kernel
theorem k_fm_empty_30 : decode me_fm_empty.2.1 30 = .ok (.iload_n 1, 1) := by decide +kernel
theorem k_fm_empty_31 : decode me_fm_empty.2.1 31 = .ok (.iaload, 1) := by decide +kernel
theorem k_fm_empty_32 : decode me_fm_empty.2.1 32 = .ok (.ifCond .lt 24, 3) := by decide +kernel
theorem k_fm_empty_35 : decode me_fm_empty.2.1 35 = .ok (.aload_n 0, 1) := by decide +kernel
theorem k_fm_empty_36 : decode me_fm_empty.2.1 36 = .ok (.getfield 72, 3) := by decide +kernel
theorem k_fm_empty_39 : decode me_fm_empty.2.1 39 = .ok (.aload_n 0, 1) := by decide +kernel
theorem k_fm_empty_40 : decode me_fm_empty.2.1 40 = .ok (.getfield 56, 3) := by decide +kernel
theorem k_fm_empty_43 : decode me_fm_empty.2.1 43 = .ok (.iload_n 1, 1) := by decide +kernel
theorem k_fm_empty_44 : decode me_fm_empty.2.1 44 = .ok (.iaload, 1) := by decide +kernel
theorem k_fm_empty_45 : decode me_fm_empty.2.1 45 = .ok (.baload, 1) := by decide +kernel
theorem k_fm_empty_46 : decode me_fm_empty.2.1 46 = .ok (.ifCond .eq 10, 3) := by decide +kernel
theorem k_fm_empty_49 : decode me_fm_empty.2.1 49 = .ok (.aload_n 0, 1) := by decide +kernel
theorem k_fm_empty_50 : decode me_fm_empty.2.1 50 = .ok (.bipush (-3), 2) := by decide +kernel
theorem k_fm_empty_52 : decode me_fm_empty.2.1 52 = .ok (.invokevirtual 133, 3) := by decide +kernel
theorem k_fm_empty_55 : decode me_fm_empty.2.1 55 = .ok (.ireturn, 1) := by decide +kernel
theorem k_fm_empty_56 : decode me_fm_empty.2.1 56 = .ok (.aload_n 0, 1) := by decide +kernel
theorem k_fm_empty_57 : decode me_fm_empty.2.1 57 = .ok (.getfield 59, 3) := by decide +kernel
theorem k_fm_empty_60 : decode me_fm_empty.2.1 60 = .ok (.iload_n 1, 1) := by decide +kernel
theorem k_fm_empty_61 : decode me_fm_empty.2.1 61 = .ok (.iconst 1, 1) := by decide +kernel
theorem k_fm_empty_62 : decode me_fm_empty.2.1 62 = .ok (.bastore, 1) := by decide +kernel
theorem k_fm_empty_63 : decode me_fm_empty.2.1 63 = .ok (.aload_n 0, 1) := by decide +kernel
theorem k_fm_empty_64 : decode me_fm_empty.2.1 64 = .ok (.invokevirtual 152, 3) := by decide +kernel
theorem k_fm_empty_67 : decode me_fm_empty.2.1 67 = .ok (.iconst 1, 1) := by decide +kernel
theorem k_fm_empty_68 : decode me_fm_empty.2.1 68 = .ok (.ireturn, 1) := by decide +kernel
theorem k_fm_mayEmpty_0 : decode me_fm_mayEmpty.2.1 0 = .ok (.aload_n 2, 1) := by decide +kernel
theorem k_fm_mayEmpty_1 : decode me_fm_mayEmpty.2.1 1 = .ok (.iload_n 1, 1) := by decide +kernel
theorem k_fm_mayEmpty_2 : decode me_fm_mayEmpty.2.1 2 = .ok (.baload, 1) := by decide +kernel
theorem k_fm_mayEmpty_3 : decode me_fm_mayEmpty.2.1 3 = .ok (.ifCond .ne 7, 3) := by decide +kernel
theorem k_fm_mayEmpty_6 : decode me_fm_mayEmpty.2.1 6 = .ok (.iconst 1, 1) := by decide +kernel
theorem k_fm_mayEmpty_7 : decode me_fm_mayEmpty.2.1 7 = .ok (.goto 4, 3) := by decide +kernel
theorem k_fm_mayEmpty_10 : decode me_fm_mayEmpty.2.1 10 = .ok (.iconst 0, 1) := by decide +kernel
theorem k_fm_mayEmpty_11 : decode me_fm_mayEmpty.2.1 11 = .ok (.istore_n 3, 1) := by decide +kernel
theorem k_fm_mayEmpty_12 : decode me_fm_mayEmpty.2.1 12 = .ok (.iload_n 1, 1) := by decide +kernel
theorem k_fm_mayEmpty_13 : decode me_fm_mayEmpty.2.1 13 = .ok (.iconst 1, 1) := by decide +kernel
theorem k_fm_mayEmpty_14 : decode me_fm_mayEmpty.2.1 14 = .ok (.iadd, 1) := by decide +kernel
theorem k_fm_mayEmpty_15 : decode me_fm_mayEmpty.2.1 15 = .ok (.istore 4, 2) := by decide +kernel
theorem k_fm_mayEmpty_17 : decode me_fm_mayEmpty.2.1 17 = .ok (.iload 4, 2) := by decide +kernel
theorem k_fm_mayEmpty_19 : decode me_fm_mayEmpty.2.1 19 = .ok (.aload_n 0, 1) := by decide +kernel
theorem k_fm_mayEmpty_20 : decode me_fm_mayEmpty.2.1 20 = .ok (.getfield 155, 3) := by decide +kernel
theorem k_fm_mayEmpty_23 : decode me_fm_mayEmpty.2.1 23 = .ok (.if_icmp .ge 37, 3) := by decide +kernel
theorem k_fm_mayEmpty_26 : decode me_fm_mayEmpty.2.1 26 = .ok (.iload_n 3, 1) := by decide +kernel
theorem k_fm_mayEmpty_27 : decode me_fm_mayEmpty.2.1 27 = .ok (.ifCond .eq 25, 3) := by decide +kernel
theorem k_fm_mayEmpty_30 : decode me_fm_mayEmpty.2.1 30 = .ok (.aload_n 0, 1) := by decide +kernel
theorem k_fm_mayEmpty_31 : decode me_fm_mayEmpty.2.1 31 = .ok (.getfield 38, 3) := by decide +kernel
theorem k_fm_mayEmpty_34 : decode me_fm_mayEmpty.2.1 34 = .ok (.iload 4, 2) := by decide +kernel
theorem k_fm_mayEmpty_36 : decode me_fm_mayEmpty.2.1 36 = .ok (.iaload, 1) := by decide +kernel
theorem k_fm_mayEmpty_37 : decode me_fm_mayEmpty.2.1 37 = .ok (.iload_n 1, 1) := by decide +kernel
theorem k_fm_mayEmpty_38 : decode me_fm_mayEmpty.2.1 38 = .ok (.if_icmp .ne 10, 3) := by decide +kernel
theorem k_fm_mayEmpty_41 : decode me_fm_mayEmpty.2.1 41 = .ok (.aload_n 2, 1) := by decide +kernel
theorem k_fm_mayEmpty_42 : decode me_fm_mayEmpty.2.1 42 = .ok (.iload 4, 2) := by decide +kernel
theorem k_fm_mayEmpty_44 : decode me_fm_mayEmpty.2.1 44 = .ok (.baload, 1) := by decide +kernel
theorem k_fm_mayEmpty_45 : decode me_fm_mayEmpty.2.1 45 = .ok (.ifCond .eq 7, 3) := by decide +kernel
theorem k_fm_mayEmpty_48 : decode me_fm_mayEmpty.2.1 48 = .ok (.iconst 1, 1) := by decide +kernel
theorem k_fm_mayEmpty_49 : decode me_fm_mayEmpty.2.1 49 = .ok (.goto 4, 3) := by decide +kernel
theorem k_fm_mayEmpty_52 : decode me_fm_mayEmpty.2.1 52 = .ok (.iconst 0, 1) := by decide +kernel
theorem k_fm_mayEmpty_53 : decode me_fm_mayEmpty.2.1 53 = .ok (.istore_n 3, 1) := by decide +kernel
theorem k_fm_mayEmpty_54 : decode me_fm_mayEmpty.2.1 54 = .ok (.iinc 4 1, 3) := by decide +kernel
theorem k_fm_mayEmpty_57 : decode me_fm_mayEmpty.2.1 57 = .ok (.goto (-40), 3) := by decide +kernel
theorem k_fm_mayEmpty_60 : decode me_fm_mayEmpty.2.1 60 = .ok (.iload_n 3, 1) := by decide +kernel
theorem k_fm_mayEmpty_61 : decode me_fm_mayEmpty.2.1 61 = .ok (.ireturn, 1) := by decide +kernel
theorem k_fm_fill_0 : decode me_fm_fill.2.1 0 = .ok (.aload_n 0, 1) := by decide +kernel
theorem k_fm_fill_1 : decode me_fm_fill.2.1 1 = .ok (.iload_n 1, 1) := by decide +kernel
theorem k_fm_fill_2 : decode me_fm_fill.2.1 2 = .ok (.invokevirtual 161, 3) := by decide +kernel
theorem k_fm_fill_5 : decode me_fm_fill.2.1 5 = .ok (.ifCond .ne 9, 3) := by decide +kernel
theorem k_fm_fill_8 : decode me_fm_fill.2.1 8 = .ok (.aload_n 0, 1) := by decide +kernel
theorem k_fm_fill_9 : decode me_fm_fill.2.1 9 = .ok (.iconst (-1), 1) := by decide +kernel
theorem k_fm_fill_10 : decode me_fm_fill.2.1 10 = .ok (.invokevirtual 133, 3) := by decide +kernel
theorem k_fm_fill_13 : decode me_fm_fill.2.1 13 = .ok (.ireturn, 1) := by decide +kernel
theorem k_fm_fill_14 : decode me_fm_fill.2.1 14 = .ok (.aload_n 0, 1) := by decide +kernel
theorem k_fm_fill_15 : decode me_fm_fill.2.1 15 = .ok (.getfield 59, 3) := by decide +kernel
theorem k_fm_fill_18 : decode me_fm_fill.2.1 18 = .ok (.iload_n 1, 1) := by decide +kernel
theorem k_fm_fill_19 : decode me_fm_fill.2.1 19 = .ok (.baload, 1) := by decide +kernel
theorem k_fm_fill_20 : decode me_fm_fill.2.1 20 = .ok (.ifCond .eq 26, 3) := by decide +kernel
theorem k_fm_fill_23 : decode me_fm_fill.2.1 23 = .ok (.aload_n 0, 1) := by decide +kernel
theorem k_fm_fill_24 : decode me_fm_fill.2.1 24 = .ok (.getfield 38, 3) := by decide +kernel
theorem k_fm_fill_27 : decode me_fm_fill.2.1 27 = .ok (.iload_n 1, 1) := by decide +kernel
theorem k_fm_fill_28 : decode me_fm_fill.2.1 28 = .ok (.iaload, 1) := by decide +kernel
theorem k_fm_fill_29 : decode me_fm_fill.2.1 29 = .ok (.ifCond .lt 24, 3) := by decide +kernel
theorem k_fm_fill_32 : decode me_fm_fill.2.1 32 = .ok (.aload_n 0, 1) := by decide +kernel
theorem k_fm_fill_33 : decode me_fm_fill.2.1 33 = .ok (.getfield 59, 3) := by decide +kernel
theorem k_fm_fill_36 : decode me_fm_fill.2.1 36 = .ok (.aload_n 0, 1) := by decide +kernel
theorem k_fm_fill_37 : decode me_fm_fill.2.1 37 = .ok (.getfield 38, 3) := by decide +kernel
theorem k_fm_fill_40 : decode me_fm_fill.2.1 40 = .ok (.iload_n 1, 1) := by decide +kernel
theorem k_fm_fill_41 : decode me_fm_fill.2.1 41 = .ok (.iaload, 1) := by decide +kernel
theorem k_fm_fill_42 : decode me_fm_fill.2.1 42 = .ok (.baload, 1) := by decide +kernel
theorem k_fm_fill_43 : decode me_fm_fill.2.1 43 = .ok (.ifCond .eq 10, 3) := by decide +kernel
theorem k_fm_fill_46 : decode me_fm_fill.2.1 46 = .ok (.aload_n 0, 1) := by decide +kernel
theorem k_fm_fill_47 : decode me_fm_fill.2.1 47 = .ok (.bipush (-3), 2) := by decide +kernel
theorem k_fm_fill_49 : decode me_fm_fill.2.1 49 = .ok (.invokevirtual 133, 3) := by decide +kernel
theorem k_fm_fill_52 : decode me_fm_fill.2.1 52 = .ok (.ireturn, 1) := by decide +kernel
theorem k_fm_fill_53 : decode me_fm_fill.2.1 53 = .ok (.aload_n 0, 1) := by decide +kernel
theorem k_fm_fill_54 : decode me_fm_fill.2.1 54 = .ok (.getfield 59, 3) := by decide +kernel
theorem k_fm_fill_57 : decode me_fm_fill.2.1 57 = .ok (.iload_n 1, 1) := by decide +kernel
theorem k_fm_fill_58 : decode me_fm_fill.2.1 58 = .ok (.iconst 0, 1) := by decide +kernel
theorem k_fm_fill_59 : decode me_fm_fill.2.1 59 = .ok (.bastore, 1) := by decide +kernel
theorem k_fm_fill_60 : decode me_fm_fill.2.1 60 = .ok (.aload_n 0, 1) := by decide +kernel
theorem k_fm_fill_61 : decode me_fm_fill.2.1 61 = .ok (.invokevirtual 152, 3) := by decide +kernel
theorem k_fm_fill_64 : decode me_fm_fill.2.1 64 = .ok (.iconst 1, 1) := by decide +kernel
theorem k_fm_fill_65 : decode me_fm_fill.2.1 65 = .ok (.ireturn, 1) := by decide +kernel
theorem k_fm_order_0 : decode me_fm_order.2.1 0 = .ok (.iconst 0, 1) := by decide +kernel
theorem k_fm_order_1 : decode me_fm_order.2.1 1 = .ok (.istore_n 2, 1) := by decide +kernel
theorem k_fm_order_2 : decode me_fm_order.2.1 2 = .ok (.iload_n 2, 1) := by decide +kernel
theorem k_fm_order_3 : decode me_fm_order.2.1 3 = .ok (.aload_n 0, 1) := by decide +kernel
theorem k_fm_order_4 : decode me_fm_order.2.1 4 = .ok (.getfield 155, 3) := by decide +kernel
theorem k_fm_order_7 : decode me_fm_order.2.1 7 = .ok (.if_icmp .ge 21, 3) := by decide +kernel
theorem k_fm_order_10 : decode me_fm_order.2.1 10 = .ok (.aload_n 0, 1) := by decide +kernel
theorem k_fm_order_11 : decode me_fm_order.2.1 11 = .ok (.getfield 129, 3) := by decide +kernel
theorem k_fm_order_14 : decode me_fm_order.2.1 14 = .ok (.iload_n 2, 1) := by decide +kernel
theorem k_fm_order_15 : decode me_fm_order.2.1 15 = .ok (.aload_n 0, 1) := by decide +kernel
theorem k_fm_order_16 : decode me_fm_order.2.1 16 = .ok (.getfield 59, 3) := by decide +kernel
theorem k_fm_order_19 : decode me_fm_order.2.1 19 = .ok (.iload_n 2, 1) := by decide +kernel
theorem k_fm_order_20 : decode me_fm_order.2.1 20 = .ok (.baload, 1) := by decide +kernel
theorem k_fm_order_21 : decode me_fm_order.2.1 21 = .ok (.bastore, 1) := by decide +kernel
theorem k_fm_order_22 : decode me_fm_order.2.1 22 = .ok (.iinc 2 1, 3) := by decide +kernel
theorem k_fm_order_25 : decode me_fm_order.2.1 25 = .ok (.goto (-23), 3) := by decide +kernel
theorem k_fm_order_28 : decode me_fm_order.2.1 28 = .ok (.bipush (-9), 2) := by decide +kernel
theorem k_fm_order_30 : decode me_fm_order.2.1 30 = .ok (.istore_n 2, 1) := by decide +kernel
theorem k_fm_order_31 : decode me_fm_order.2.1 31 = .ok (.iconst 0, 1) := by decide +kernel
theorem k_fm_order_32 : decode me_fm_order.2.1 32 = .ok (.istore_n 3, 1) := by decide +kernel
theorem k_fm_order_33 : decode me_fm_order.2.1 33 = .ok (.iload_n 3, 1) := by decide +kernel
theorem k_fm_order_34 : decode me_fm_order.2.1 34 = .ok (.iload_n 1, 1) := by decide +kernel
theorem k_fm_order_35 : decode me_fm_order.2.1 35 = .ok (.if_icmp .gt 80, 3) := by decide +kernel
theorem k_fm_order_38 : decode me_fm_order.2.1 38 = .ok (.bipush (-9), 2) := by decide +kernel
theorem k_fm_order_40 : decode me_fm_order.2.1 40 = .ok (.istore_n 2, 1) := by decide +kernel
theorem k_fm_order_41 : decode me_fm_order.2.1 41 = .ok (.iconst 0, 1) := by decide +kernel
theorem k_fm_order_42 : decode me_fm_order.2.1 42 = .ok (.istore 4, 2) := by decide +kernel
theorem k_fm_order_44 : decode me_fm_order.2.1 44 = .ok (.iload 4, 2) := by decide +kernel
theorem k_fm_order_46 : decode me_fm_order.2.1 46 = .ok (.aload_n 0, 1) := by decide +kernel
theorem k_fm_order_47 : decode me_fm_order.2.1 47 = .ok (.getfield 155, 3) := by decide +kernel
theorem k_fm_order_50 : decode me_fm_order.2.1 50 = .ok (.if_icmp .ge 45, 3) := by decide +kernel
theorem k_fm_order_53 : decode me_fm_order.2.1 53 = .ok (.aload_n 0, 1) := by decide +kernel
theorem k_fm_order_54 : decode me_fm_order.2.1 54 = .ok (.iload 4, 2) := by decide +kernel
theorem k_fm_order_56 : decode me_fm_order.2.1 56 = .ok (.aload_n 0, 1) := by decide +kernel
theorem k_fm_order_57 : decode me_fm_order.2.1 57 = .ok (.getfield 129, 3) := by decide +kernel
theorem k_fm_order_60 : decode me_fm_order.2.1 60 = .ok (.invokevirtual 298, 3) := by decide +kernel
theorem k_fm_order_63 : decode me_fm_order.2.1 63 = .ok (.ifCond .eq 26, 3) := by decide +kernel
theorem k_fm_order_66 : decode me_fm_order.2.1 66 = .ok (.iload_n 2, 1) := by decide +kernel
theorem k_fm_order_67 : decode me_fm_order.2.1 67 = .ok (.ifCond .lt 19, 3) := by decide +kernel
theorem k_fm_order_70 : decode me_fm_order.2.1 70 = .ok (.aload_n 0, 1) := by decide +kernel
theorem k_fm_order_71 : decode me_fm_order.2.1 71 = .ok (.getfield 44, 3) := by decide +kernel
theorem k_fm_order_74 : decode me_fm_order.2.1 74 = .ok (.iload 4, 2) := by decide +kernel
theorem k_fm_order_76 : decode me_fm_order.2.1 76 = .ok (.iaload, 1) := by decide +kernel
theorem k_fm_order_77 : decode me_fm_order.2.1 77 = .ok (.aload_n 0, 1) := by decide +kernel
theorem k_fm_order_78 : decode me_fm_order.2.1 78 = .ok (.getfield 44, 3) := by decide +kernel
theorem k_fm_order_81 : decode me_fm_order.2.1 81 = .ok (.iload_n 2, 1) := by decide +kernel
theorem k_fm_order_82 : decode me_fm_order.2.1 82 = .ok (.iaload, 1) := by decide +kernel
theorem k_fm_order_83 : decode me_fm_order.2.1 83 = .ok (.if_icmp .le 6, 3) := by decide +kernel
theorem k_fm_order_86 : decode me_fm_order.2.1 86 = .ok (.iload 4, 2) := by decide +kernel
theorem k_fm_order_88 : decode me_fm_order.2.1 88 = .ok (.istore_n 2, 1) := by decide +kernel
theorem k_fm_order_89 : decode me_fm_order.2.1 89 = .ok (.iinc 4 1, 3) := by decide +kernel
theorem k_fm_order_92 : decode me_fm_order.2.1 92 = .ok (.goto (-48), 3) := by decide +kernel
theorem k_fm_order_95 : decode me_fm_order.2.1 95 = .ok (.iload_n 2, 1) := by decide +kernel
theorem k_fm_order_96 : decode me_fm_order.2.1 96 = .ok (.ifCond .ge 6, 3) := by decide +kernel
theorem k_fm_order_99 : decode me_fm_order.2.1 99 = .ok (.bipush (-9), 2) := by decide +kernel
theorem k_fm_order_101 : decode me_fm_order.2.1 101 = .ok (.ireturn, 1) := by decide +kernel
theorem k_fm_order_102 : decode me_fm_order.2.1 102 = .ok (.aload_n 0, 1) := by decide +kernel
theorem k_fm_order_103 : decode me_fm_order.2.1 103 = .ok (.getfield 129, 3) := by decide +kernel
theorem k_fm_order_106 : decode me_fm_order.2.1 106 = .ok (.iload_n 2, 1) := by decide +kernel
theorem k_fm_order_107 : decode me_fm_order.2.1 107 = .ok (.iconst 1, 1) := by decide +kernel
theorem k_fm_order_108 : decode me_fm_order.2.1 108 = .ok (.bastore, 1) := by decide +kernel
theorem k_fm_order_109 : decode me_fm_order.2.1 109 = .ok (.iinc 3 1, 3) := by decide +kernel
theorem k_fm_order_112 : decode me_fm_order.2.1 112 = .ok (.goto (-79), 3) := by decide +kernel
theorem k_fm_order_115 : decode me_fm_order.2.1 115 = .ok (.iload_n 2, 1) := by decide +kernel
theorem k_fm_order_116 : decode me_fm_order.2.1 116 = .ok (.ireturn, 1) := by decide +kernel
theorem k_fm_tankOf_0 : decode me_fm_tankOf.2.1 0 = .ok (.iload_n 1, 1) := by decide +kernel
theorem k_fm_tankOf_1 : decode me_fm_tankOf.2.1 1 = .ok (.aload_n 0, 1) := by decide +kernel
theorem k_fm_tankOf_2 : decode me_fm_tankOf.2.1 2 = .ok (.getfield 141, 3) := by decide +kernel
theorem k_fm_tankOf_5 : decode me_fm_tankOf.2.1 5 = .ok (.invokestatic 144, 3) := by decide +kernel
theorem k_fm_tankOf_8 : decode me_fm_tankOf.2.1 8 = .ok (.ifCond .ne 9, 3) := by decide +kernel
theorem k_fm_tankOf_11 : decode me_fm_tankOf.2.1 11 = .ok (.aload_n 0, 1) := by decide +kernel
theorem k_fm_tankOf_12 : decode me_fm_tankOf.2.1 12 = .ok (.iconst (-1), 1) := by decide +kernel
theorem k_fm_tankOf_13 : decode me_fm_tankOf.2.1 13 = .ok (.invokevirtual 133, 3) := by decide +kernel
theorem k_fm_tankOf_16 : decode me_fm_tankOf.2.1 16 = .ok (.ireturn, 1) := by decide +kernel
theorem k_fm_tankOf_17 : decode me_fm_tankOf.2.1 17 = .ok (.iload_n 2, 1) := by decide +kernel
theorem k_fm_tankOf_18 : decode me_fm_tankOf.2.1 18 = .ok (.tableswitch 98 0 5 #[38, 59, 66, 73, 80, 87], 38) := by decide +kernel
theorem k_fm_tankOf_56 : decode me_fm_tankOf.2.1 56 = .ok (.aload_n 0, 1) := by decide +kernel
theorem k_fm_tankOf_57 : decode me_fm_tankOf.2.1 57 = .ok (.getfield 17, 3) := by decide +kernel
theorem k_fm_tankOf_60 : decode me_fm_tankOf.2.1 60 = .ok (.iload_n 1, 1) := by decide +kernel
theorem k_fm_tankOf_61 : decode me_fm_tankOf.2.1 61 = .ok (.iaload, 1) := by decide +kernel
theorem k_fm_tankOf_62 : decode me_fm_tankOf.2.1 62 = .ok (.aload_n 0, 1) := by decide +kernel
theorem k_fm_tankOf_63 : decode me_fm_tankOf.2.1 63 = .ok (.getfield 29, 3) := by decide +kernel
theorem k_fm_tankOf_66 : decode me_fm_tankOf.2.1 66 = .ok (.iload_n 1, 1) := by decide +kernel
theorem k_fm_tankOf_67 : decode me_fm_tankOf.2.1 67 = .ok (.iaload, 1) := by decide +kernel
theorem k_fm_tankOf_68 : decode me_fm_tankOf.2.1 68 = .ok (.aload_n 0, 1) := by decide +kernel
theorem k_fm_tankOf_69 : decode me_fm_tankOf.2.1 69 = .ok (.getfield 20, 3) := by decide +kernel
theorem k_fm_tankOf_72 : decode me_fm_tankOf.2.1 72 = .ok (.iload_n 1, 1) := by decide +kernel
theorem k_fm_tankOf_73 : decode me_fm_tankOf.2.1 73 = .ok (.iaload, 1) := by decide +kernel
theorem k_fm_tankOf_74 : decode me_fm_tankOf.2.1 74 = .ok (.idiv, 1) := by decide +kernel
theorem k_fm_tankOf_75 : decode me_fm_tankOf.2.1 75 = .ok (.iadd, 1) := by decide +kernel
theorem k_fm_tankOf_76 : decode me_fm_tankOf.2.1 76 = .ok (.ireturn, 1) := by decide +kernel
theorem k_fm_tankOf_77 : decode me_fm_tankOf.2.1 77 = .ok (.aload_n 0, 1) := by decide +kernel
theorem k_fm_tankOf_78 : decode me_fm_tankOf.2.1 78 = .ok (.getfield 29, 3) := by decide +kernel
theorem k_fm_tankOf_81 : decode me_fm_tankOf.2.1 81 = .ok (.iload_n 1, 1) := by decide +kernel
theorem k_fm_tankOf_82 : decode me_fm_tankOf.2.1 82 = .ok (.iaload, 1) := by decide +kernel
theorem k_fm_tankOf_83 : decode me_fm_tankOf.2.1 83 = .ok (.ireturn, 1) := by decide +kernel
theorem k_fm_tankOf_84 : decode me_fm_tankOf.2.1 84 = .ok (.aload_n 0, 1) := by decide +kernel
theorem k_fm_tankOf_85 : decode me_fm_tankOf.2.1 85 = .ok (.getfield 26, 3) := by decide +kernel
theorem k_fm_tankOf_88 : decode me_fm_tankOf.2.1 88 = .ok (.iload_n 1, 1) := by decide +kernel
theorem k_fm_tankOf_89 : decode me_fm_tankOf.2.1 89 = .ok (.iaload, 1) := by decide +kernel
theorem k_fm_tankOf_90 : decode me_fm_tankOf.2.1 90 = .ok (.ireturn, 1) := by decide +kernel
theorem k_fm_tankOf_91 : decode me_fm_tankOf.2.1 91 = .ok (.aload_n 0, 1) := by decide +kernel
theorem k_fm_tankOf_92 : decode me_fm_tankOf.2.1 92 = .ok (.getfield 32, 3) := by decide +kernel
theorem k_fm_tankOf_95 : decode me_fm_tankOf.2.1 95 = .ok (.iload_n 1, 1) := by decide +kernel
theorem k_fm_tankOf_96 : decode me_fm_tankOf.2.1 96 = .ok (.iaload, 1) := by decide +kernel
theorem k_fm_tankOf_97 : decode me_fm_tankOf.2.1 97 = .ok (.ireturn, 1) := by decide +kernel
theorem k_fm_tankOf_98 : decode me_fm_tankOf.2.1 98 = .ok (.aload_n 0, 1) := by decide +kernel
theorem k_fm_tankOf_99 : decode me_fm_tankOf.2.1 99 = .ok (.getfield 35, 3) := by decide +kernel
theorem k_fm_tankOf_102 : decode me_fm_tankOf.2.1 102 = .ok (.iload_n 1, 1) := by decide +kernel
theorem k_fm_tankOf_103 : decode me_fm_tankOf.2.1 103 = .ok (.iaload, 1) := by decide +kernel
theorem k_fm_tankOf_104 : decode me_fm_tankOf.2.1 104 = .ok (.ireturn, 1) := by decide +kernel
theorem k_fm_tankOf_105 : decode me_fm_tankOf.2.1 105 = .ok (.aload_n 0, 1) := by decide +kernel
theorem k_fm_tankOf_106 : decode me_fm_tankOf.2.1 106 = .ok (.invokevirtual 179, 3) := by decide +kernel
theorem k_fm_tankOf_109 : decode me_fm_tankOf.2.1 109 = .ok (.aload_n 0, 1) := by decide +kernel
theorem k_fm_tankOf_110 : decode me_fm_tankOf.2.1 110 = .ok (.getfield 105, 3) := by decide +kernel
theorem k_fm_tankOf_113 : decode me_fm_tankOf.2.1 113 = .ok (.iload_n 1, 1) := by decide +kernel
theorem k_fm_tankOf_114 : decode me_fm_tankOf.2.1 114 = .ok (.iaload, 1) := by decide +kernel
theorem k_fm_tankOf_115 : decode me_fm_tankOf.2.1 115 = .ok (.ireturn, 1) := by decide +kernel
theorem k_fm_tankOf_116 : decode me_fm_tankOf.2.1 116 = .ok (.aload_n 0, 1) := by decide +kernel
theorem k_fm_tankOf_117 : decode me_fm_tankOf.2.1 117 = .ok (.bipush (-2), 2) := by decide +kernel
theorem k_fm_tankOf_119 : decode me_fm_tankOf.2.1 119 = .ok (.invokevirtual 133, 3) := by decide +kernel
theorem k_fm_tankOf_122 : decode me_fm_tankOf.2.1 122 = .ok (.ireturn, 1) := by decide +kernel
theorem k_fm_jointOf_0 : decode me_fm_jointOf.2.1 0 = .ok (.aload_n 0, 1) := by decide +kernel
theorem k_fm_jointOf_1 : decode me_fm_jointOf.2.1 1 = .ok (.iload_n 1, 1) := by decide +kernel
theorem k_fm_jointOf_2 : decode me_fm_jointOf.2.1 2 = .ok (.invokevirtual 161, 3) := by decide +kernel
theorem k_fm_jointOf_5 : decode me_fm_jointOf.2.1 5 = .ok (.ifCond .ne 9, 3) := by decide +kernel
theorem k_fm_jointOf_8 : decode me_fm_jointOf.2.1 8 = .ok (.aload_n 0, 1) := by decide +kernel
theorem k_fm_jointOf_9 : decode me_fm_jointOf.2.1 9 = .ok (.iconst (-1), 1) := by decide +kernel
theorem k_fm_jointOf_10 : decode me_fm_jointOf.2.1 10 = .ok (.invokevirtual 133, 3) := by decide +kernel
theorem k_fm_jointOf_13 : decode me_fm_jointOf.2.1 13 = .ok (.ireturn, 1) := by decide +kernel
theorem k_fm_jointOf_14 : decode me_fm_jointOf.2.1 14 = .ok (.iload_n 2, 1) := by decide +kernel
theorem k_fm_jointOf_15 : decode me_fm_jointOf.2.1 15 = .ok (.tableswitch 124 0 8 #[49, 56, 63, 70, 77, 84, 91, 106, 113], 49) := by decide +kernel
theorem k_fm_jointOf_64 : decode me_fm_jointOf.2.1 64 = .ok (.aload_n 0, 1) := by decide +kernel
theorem k_fm_jointOf_65 : decode me_fm_jointOf.2.1 65 = .ok (.getfield 44, 3) := by decide +kernel
theorem k_fm_jointOf_68 : decode me_fm_jointOf.2.1 68 = .ok (.iload_n 1, 1) := by decide +kernel
theorem k_fm_jointOf_69 : decode me_fm_jointOf.2.1 69 = .ok (.iaload, 1) := by decide +kernel
theorem k_fm_jointOf_70 : decode me_fm_jointOf.2.1 70 = .ok (.ireturn, 1) := by decide +kernel
theorem k_fm_jointOf_71 : decode me_fm_jointOf.2.1 71 = .ok (.aload_n 0, 1) := by decide +kernel
theorem k_fm_jointOf_72 : decode me_fm_jointOf.2.1 72 = .ok (.getfield 47, 3) := by decide +kernel
theorem k_fm_jointOf_75 : decode me_fm_jointOf.2.1 75 = .ok (.iload_n 1, 1) := by decide +kernel
theorem k_fm_jointOf_76 : decode me_fm_jointOf.2.1 76 = .ok (.iaload, 1) := by decide +kernel
theorem k_fm_jointOf_77 : decode me_fm_jointOf.2.1 77 = .ok (.ireturn, 1) := by decide +kernel
theorem k_fm_jointOf_78 : decode me_fm_jointOf.2.1 78 = .ok (.aload_n 0, 1) := by decide +kernel
theorem k_fm_jointOf_79 : decode me_fm_jointOf.2.1 79 = .ok (.getfield 50, 3) := by decide +kernel
theorem k_fm_jointOf_82 : decode me_fm_jointOf.2.1 82 = .ok (.iload_n 1, 1) := by decide +kernel
theorem k_fm_jointOf_83 : decode me_fm_jointOf.2.1 83 = .ok (.iaload, 1) := by decide +kernel
theorem k_fm_jointOf_84 : decode me_fm_jointOf.2.1 84 = .ok (.ireturn, 1) := by decide +kernel
theorem k_fm_jointOf_85 : decode me_fm_jointOf.2.1 85 = .ok (.aload_n 0, 1) := by decide +kernel
theorem k_fm_jointOf_86 : decode me_fm_jointOf.2.1 86 = .ok (.getfield 41, 3) := by decide +kernel
theorem k_fm_jointOf_89 : decode me_fm_jointOf.2.1 89 = .ok (.iload_n 1, 1) := by decide +kernel
theorem k_fm_jointOf_90 : decode me_fm_jointOf.2.1 90 = .ok (.iaload, 1) := by decide +kernel
theorem k_fm_jointOf_91 : decode me_fm_jointOf.2.1 91 = .ok (.ireturn, 1) := by decide +kernel
theorem k_fm_jointOf_92 : decode me_fm_jointOf.2.1 92 = .ok (.aload_n 0, 1) := by decide +kernel
theorem k_fm_jointOf_93 : decode me_fm_jointOf.2.1 93 = .ok (.getfield 38, 3) := by decide +kernel
theorem k_fm_jointOf_96 : decode me_fm_jointOf.2.1 96 = .ok (.iload_n 1, 1) := by decide +kernel
theorem k_fm_jointOf_97 : decode me_fm_jointOf.2.1 97 = .ok (.iaload, 1) := by decide +kernel
theorem k_fm_jointOf_98 : decode me_fm_jointOf.2.1 98 = .ok (.ireturn, 1) := by decide +kernel
theorem k_fm_jointOf_99 : decode me_fm_jointOf.2.1 99 = .ok (.aload_n 0, 1) := by decide +kernel
theorem k_fm_jointOf_100 : decode me_fm_jointOf.2.1 100 = .ok (.getfield 56, 3) := by decide +kernel
theorem k_fm_jointOf_103 : decode me_fm_jointOf.2.1 103 = .ok (.iload_n 1, 1) := by decide +kernel
theorem k_fm_jointOf_104 : decode me_fm_jointOf.2.1 104 = .ok (.iaload, 1) := by decide +kernel
theorem k_fm_jointOf_105 : decode me_fm_jointOf.2.1 105 = .ok (.ireturn, 1) := by decide +kernel
theorem k_fm_jointOf_106 : decode me_fm_jointOf.2.1 106 = .ok (.aload_n 0, 1) := by decide +kernel
theorem k_fm_jointOf_107 : decode me_fm_jointOf.2.1 107 = .ok (.getfield 59, 3) := by decide +kernel
theorem k_fm_jointOf_110 : decode me_fm_jointOf.2.1 110 = .ok (.iload_n 1, 1) := by decide +kernel
theorem k_fm_jointOf_111 : decode me_fm_jointOf.2.1 111 = .ok (.baload, 1) := by decide +kernel
theorem k_fm_jointOf_112 : decode me_fm_jointOf.2.1 112 = .ok (.ifCond .eq 7, 3) := by decide +kernel
theorem k_fm_jointOf_115 : decode me_fm_jointOf.2.1 115 = .ok (.iconst 1, 1) := by decide +kernel
theorem k_fm_jointOf_116 : decode me_fm_jointOf.2.1 116 = .ok (.goto 4, 3) := by decide +kernel
theorem k_fm_jointOf_119 : decode me_fm_jointOf.2.1 119 = .ok (.iconst 0, 1) := by decide +kernel
theorem k_fm_jointOf_120 : decode me_fm_jointOf.2.1 120 = .ok (.ireturn, 1) := by decide +kernel
theorem k_fm_jointOf_121 : decode me_fm_jointOf.2.1 121 = .ok (.aload_n 0, 1) := by decide +kernel
theorem k_fm_jointOf_122 : decode me_fm_jointOf.2.1 122 = .ok (.getfield 53, 3) := by decide +kernel
theorem k_fm_jointOf_125 : decode me_fm_jointOf.2.1 125 = .ok (.iload_n 1, 1) := by decide +kernel
theorem k_fm_jointOf_126 : decode me_fm_jointOf.2.1 126 = .ok (.iaload, 1) := by decide +kernel
theorem k_fm_jointOf_127 : decode me_fm_jointOf.2.1 127 = .ok (.ireturn, 1) := by decide +kernel
theorem k_fm_jointOf_128 : decode me_fm_jointOf.2.1 128 = .ok (.aload_n 0, 1) := by decide +kernel
theorem k_fm_jointOf_129 : decode me_fm_jointOf.2.1 129 = .ok (.invokevirtual 179, 3) := by decide +kernel
theorem k_fm_jointOf_132 : decode me_fm_jointOf.2.1 132 = .ok (.aload_n 0, 1) := by decide +kernel
theorem k_fm_jointOf_133 : decode me_fm_jointOf.2.1 133 = .ok (.getfield 93, 3) := by decide +kernel
theorem k_fm_jointOf_136 : decode me_fm_jointOf.2.1 136 = .ok (.iload_n 1, 1) := by decide +kernel
theorem k_fm_jointOf_137 : decode me_fm_jointOf.2.1 137 = .ok (.iaload, 1) := by decide +kernel
theorem k_fm_jointOf_138 : decode me_fm_jointOf.2.1 138 = .ok (.ireturn, 1) := by decide +kernel
theorem k_fm_jointOf_139 : decode me_fm_jointOf.2.1 139 = .ok (.aload_n 0, 1) := by decide +kernel
theorem k_fm_jointOf_140 : decode me_fm_jointOf.2.1 140 = .ok (.bipush (-2), 2) := by decide +kernel
theorem k_fm_jointOf_142 : decode me_fm_jointOf.2.1 142 = .ok (.invokevirtual 133, 3) := by decide +kernel
theorem k_fm_jointOf_145 : decode me_fm_jointOf.2.1 145 = .ok (.ireturn, 1) := by decide +kernel
theorem k_fm_count_0 : decode me_fm_count.2.1 0 = .ok (.iload_n 1, 1) := by decide +kernel
theorem k_fm_count_1 : decode me_fm_count.2.1 1 = .ok (.bipush 10, 2) := by decide +kernel
theorem k_fm_count_3 : decode me_fm_count.2.1 3 = .ok (.if_icmp .le 19, 3) := by decide +kernel
theorem k_fm_count_6 : decode me_fm_count.2.1 6 = .ok (.iload_n 1, 1) := by decide +kernel
theorem k_fm_count_7 : decode me_fm_count.2.1 7 = .ok (.bipush 17, 2) := by decide +kernel
theorem k_fm_count_9 : decode me_fm_count.2.1 9 = .ok (.if_icmp .ge 13, 3) := by decide +kernel
theorem k_fm_count_12 : decode me_fm_count.2.1 12 = .ok (.aload_n 0, 1) := by decide +kernel
theorem k_fm_count_13 : decode me_fm_count.2.1 13 = .ok (.getfield 9, 3) := by decide +kernel
theorem k_fm_count_16 : decode me_fm_count.2.1 16 = .ok (.iload_n 1, 1) := by decide +kernel
theorem k_fm_count_17 : decode me_fm_count.2.1 17 = .ok (.bipush 10, 2) := by decide +kernel
theorem k_fm_count_19 : decode me_fm_count.2.1 19 = .ok (.isub, 1) := by decide +kernel
theorem k_fm_count_20 : decode me_fm_count.2.1 20 = .ok (.iaload, 1) := by decide +kernel
theorem k_fm_count_21 : decode me_fm_count.2.1 21 = .ok (.ireturn, 1) := by decide +kernel
theorem k_fm_count_22 : decode me_fm_count.2.1 22 = .ok (.iconst 0, 1) := by decide +kernel
theorem k_fm_count_23 : decode me_fm_count.2.1 23 = .ok (.istore_n 2, 1) := by decide +kernel
theorem k_fm_count_24 : decode me_fm_count.2.1 24 = .ok (.iload_n 1, 1) := by decide +kernel
theorem k_fm_count_25 : decode me_fm_count.2.1 25 = .ok (.tableswitch 138 0 6 #[43, 48, 53, 58, 63, 98, 103], 43) := by decide +kernel
theorem k_fm_count_68 : decode me_fm_count.2.1 68 = .ok (.aload_n 0, 1) := by decide +kernel
theorem k_fm_count_69 : decode me_fm_count.2.1 69 = .ok (.getfield 206, 3) := by decide +kernel
theorem k_fm_count_72 : decode me_fm_count.2.1 72 = .ok (.ireturn, 1) := by decide +kernel
theorem k_fm_count_73 : decode me_fm_count.2.1 73 = .ok (.aload_n 0, 1) := by decide +kernel
theorem k_fm_count_74 : decode me_fm_count.2.1 74 = .ok (.getfield 141, 3) := by decide +kernel
theorem k_fm_count_77 : decode me_fm_count.2.1 77 = .ok (.ireturn, 1) := by decide +kernel
theorem k_fm_count_78 : decode me_fm_count.2.1 78 = .ok (.aload_n 0, 1) := by decide +kernel
theorem k_fm_count_79 : decode me_fm_count.2.1 79 = .ok (.getfield 155, 3) := by decide +kernel
theorem k_fm_count_82 : decode me_fm_count.2.1 82 = .ok (.ireturn, 1) := by decide +kernel
theorem k_fm_count_83 : decode me_fm_count.2.1 83 = .ok (.aload_n 0, 1) := by decide +kernel
theorem k_fm_count_84 : decode me_fm_count.2.1 84 = .ok (.getfield 158, 3) := by decide +kernel
theorem k_fm_count_87 : decode me_fm_count.2.1 87 = .ok (.ireturn, 1) := by decide +kernel
theorem k_fm_count_88 : decode me_fm_count.2.1 88 = .ok (.iconst 0, 1) := by decide +kernel
theorem k_fm_count_89 : decode me_fm_count.2.1 89 = .ok (.istore_n 3, 1) := by decide +kernel
theorem k_fm_count_90 : decode me_fm_count.2.1 90 = .ok (.iload_n 3, 1) := by decide +kernel
theorem k_fm_count_91 : decode me_fm_count.2.1 91 = .ok (.aload_n 0, 1) := by decide +kernel
theorem k_fm_count_92 : decode me_fm_count.2.1 92 = .ok (.getfield 158, 3) := by decide +kernel
theorem k_fm_count_95 : decode me_fm_count.2.1 95 = .ok (.if_icmp .ge 26, 3) := by decide +kernel
theorem k_fm_count_98 : decode me_fm_count.2.1 98 = .ok (.iload_n 2, 1) := by decide +kernel
theorem k_fm_count_99 : decode me_fm_count.2.1 99 = .ok (.aload_n 0, 1) := by decide +kernel
theorem k_fm_count_100 : decode me_fm_count.2.1 100 = .ok (.getfield 72, 3) := by decide +kernel
theorem k_fm_count_103 : decode me_fm_count.2.1 103 = .ok (.iload_n 3, 1) := by decide +kernel
theorem k_fm_count_104 : decode me_fm_count.2.1 104 = .ok (.baload, 1) := by decide +kernel
theorem k_fm_count_105 : decode me_fm_count.2.1 105 = .ok (.ifCond .eq 7, 3) := by decide +kernel
theorem k_fm_count_108 : decode me_fm_count.2.1 108 = .ok (.iconst 1, 1) := by decide +kernel
theorem k_fm_count_109 : decode me_fm_count.2.1 109 = .ok (.goto 4, 3) := by decide +kernel
theorem k_fm_count_112 : decode me_fm_count.2.1 112 = .ok (.iconst 0, 1) := by decide +kernel
theorem k_fm_count_113 : decode me_fm_count.2.1 113 = .ok (.iadd, 1) := by decide +kernel
theorem k_fm_count_114 : decode me_fm_count.2.1 114 = .ok (.istore_n 2, 1) := by decide +kernel
theorem k_fm_count_115 : decode me_fm_count.2.1 115 = .ok (.iinc 3 1, 3) := by decide +kernel
theorem k_fm_count_118 : decode me_fm_count.2.1 118 = .ok (.goto (-28), 3) := by decide +kernel
theorem k_fm_count_121 : decode me_fm_count.2.1 121 = .ok (.iload_n 2, 1) := by decide +kernel
theorem k_fm_count_122 : decode me_fm_count.2.1 122 = .ok (.ireturn, 1) := by decide +kernel
theorem k_fm_count_123 : decode me_fm_count.2.1 123 = .ok (.aload_n 0, 1) := by decide +kernel
theorem k_fm_count_124 : decode me_fm_count.2.1 124 = .ok (.getfield 213, 3) := by decide +kernel
theorem k_fm_count_127 : decode me_fm_count.2.1 127 = .ok (.ireturn, 1) := by decide +kernel
theorem k_fm_count_128 : decode me_fm_count.2.1 128 = .ok (.iconst 0, 1) := by decide +kernel
theorem k_fm_count_129 : decode me_fm_count.2.1 129 = .ok (.istore_n 3, 1) := by decide +kernel
theorem k_fm_count_130 : decode me_fm_count.2.1 130 = .ok (.iload_n 3, 1) := by decide +kernel
theorem k_fm_count_131 : decode me_fm_count.2.1 131 = .ok (.aload_n 0, 1) := by decide +kernel
theorem k_fm_count_132 : decode me_fm_count.2.1 132 = .ok (.getfield 155, 3) := by decide +kernel
theorem k_fm_count_135 : decode me_fm_count.2.1 135 = .ok (.if_icmp .ge 26, 3) := by decide +kernel
theorem k_fm_count_138 : decode me_fm_count.2.1 138 = .ok (.iload_n 2, 1) := by decide +kernel
theorem k_fm_count_139 : decode me_fm_count.2.1 139 = .ok (.aload_n 0, 1) := by decide +kernel
theorem k_fm_count_140 : decode me_fm_count.2.1 140 = .ok (.getfield 59, 3) := by decide +kernel
theorem k_fm_count_143 : decode me_fm_count.2.1 143 = .ok (.iload_n 3, 1) := by decide +kernel
theorem k_fm_count_144 : decode me_fm_count.2.1 144 = .ok (.baload, 1) := by decide +kernel
theorem k_fm_count_145 : decode me_fm_count.2.1 145 = .ok (.ifCond .eq 7, 3) := by decide +kernel
theorem k_fm_count_148 : decode me_fm_count.2.1 148 = .ok (.iconst 1, 1) := by decide +kernel
theorem k_fm_count_149 : decode me_fm_count.2.1 149 = .ok (.goto 4, 3) := by decide +kernel
theorem k_fm_count_152 : decode me_fm_count.2.1 152 = .ok (.iconst 0, 1) := by decide +kernel
theorem k_fm_count_153 : decode me_fm_count.2.1 153 = .ok (.iadd, 1) := by decide +kernel
theorem k_fm_count_154 : decode me_fm_count.2.1 154 = .ok (.istore_n 2, 1) := by decide +kernel
theorem k_fm_count_155 : decode me_fm_count.2.1 155 = .ok (.iinc 3 1, 3) := by decide +kernel
theorem k_fm_count_158 : decode me_fm_count.2.1 158 = .ok (.goto (-28), 3) := by decide +kernel
theorem k_fm_count_161 : decode me_fm_count.2.1 161 = .ok (.iload_n 2, 1) := by decide +kernel
theorem k_fm_count_162 : decode me_fm_count.2.1 162 = .ok (.ireturn, 1) := by decide +kernel
theorem k_fm_count_163 : decode me_fm_count.2.1 163 = .ok (.bipush (-9), 2) := by decide +kernel
theorem k_fm_count_165 : decode me_fm_count.2.1 165 = .ok (.ireturn, 1) := by decide +kernel
theorem k_lw_law_0 : decode me_lw_law.2.1 0 = .ok (.new 7, 3) := by decide +kernel
theorem k_lw_law_3 : decode me_lw_law.2.1 3 = .ok (.dup, 1) := by decide +kernel
theorem k_lw_law_4 : decode me_lw_law.2.1 4 = .ok (.invokespecial 9, 3) := by decide +kernel
theorem k_lw_law_7 : decode me_lw_law.2.1 7 = .ok (.astore_n 1, 1) := by decide +kernel
theorem k_lw_law_8 : decode me_lw_law.2.1 8 = .ok (.new 10, 3) := by decide +kernel
theorem k_lw_law_11 : decode me_lw_law.2.1 11 = .ok (.dup, 1) := by decide +kernel
theorem k_lw_law_12 : decode me_lw_law.2.1 12 = .ok (.invokespecial 12, 3) := by decide +kernel
theorem k_lw_law_15 : decode me_lw_law.2.1 15 = .ok (.astore_n 2, 1) := by decide +kernel
theorem k_lw_law_16 : decode me_lw_law.2.1 16 = .ok (.iconst 0, 1) := by decide +kernel
theorem k_lw_law_17 : decode me_lw_law.2.1 17 = .ok (.istore_n 3, 1) := by decide +kernel
theorem k_lw_law_18 : decode me_lw_law.2.1 18 = .ok (.iload_n 3, 1) := by decide +kernel
theorem k_lw_law_19 : decode me_lw_law.2.1 19 = .ok (.aload_n 0, 1) := by decide +kernel
theorem k_lw_law_20 : decode me_lw_law.2.1 20 = .ok (.arraylength, 1) := by decide +kernel
theorem k_lw_law_21 : decode me_lw_law.2.1 21 = .ok (.bipush 6, 2) := by decide +kernel
theorem k_lw_law_23 : decode me_lw_law.2.1 23 = .ok (.isub, 1) := by decide +kernel
theorem k_lw_law_24 : decode me_lw_law.2.1 24 = .ok (.if_icmp .gt 1076, 3) := by decide +kernel
theorem k_lw_law_27 : decode me_lw_law.2.1 27 = .ok (.aload_n 0, 1) := by decide +kernel
theorem k_lw_law_28 : decode me_lw_law.2.1 28 = .ok (.iload_n 3, 1) := by decide +kernel
theorem k_lw_law_29 : decode me_lw_law.2.1 29 = .ok (.iaload, 1) := by decide +kernel
theorem k_lw_law_30 : decode me_lw_law.2.1 30 = .ok (.bipush 31, 2) := by decide +kernel
theorem k_lw_law_32 : decode me_lw_law.2.1 32 = .ok (.iand, 1) := by decide +kernel
theorem k_lw_law_33 : decode me_lw_law.2.1 33 = .ok (.tableswitch 1061 0 31 #[143, 196, 239, 318, 351, 400, 433, 466, 489, 512, 535, 568, 591, 614, 667, 680, 703, 716, 739, 752, 785, 798, 831, 854, 867, 890, 903, 926, 949, 972, 1005, 1038], 143) := by decide +kernel
theorem k_lw_law_176 : decode me_lw_law.2.1 176 = .ok (.aload_n 1, 1) := by decide +kernel
theorem k_lw_law_177 : decode me_lw_law.2.1 177 = .ok (.aload_n 0, 1) := by decide +kernel
theorem k_lw_law_178 : decode me_lw_law.2.1 178 = .ok (.iload_n 3, 1) := by decide +kernel
theorem k_lw_law_179 : decode me_lw_law.2.1 179 = .ok (.iconst 1, 1) := by decide +kernel
theorem k_lw_law_180 : decode me_lw_law.2.1 180 = .ok (.iadd, 1) := by decide +kernel
theorem k_lw_law_181 : decode me_lw_law.2.1 181 = .ok (.iaload, 1) := by decide +kernel
theorem k_lw_law_182 : decode me_lw_law.2.1 182 = .ok (.aload_n 0, 1) := by decide +kernel
theorem k_lw_law_183 : decode me_lw_law.2.1 183 = .ok (.iload_n 3, 1) := by decide +kernel
theorem k_lw_law_184 : decode me_lw_law.2.1 184 = .ok (.iconst 2, 1) := by decide +kernel
theorem k_lw_law_185 : decode me_lw_law.2.1 185 = .ok (.iadd, 1) := by decide +kernel
theorem k_lw_law_186 : decode me_lw_law.2.1 186 = .ok (.iaload, 1) := by decide +kernel
theorem k_lw_law_187 : decode me_lw_law.2.1 187 = .ok (.aload_n 0, 1) := by decide +kernel
theorem k_lw_law_188 : decode me_lw_law.2.1 188 = .ok (.iload_n 3, 1) := by decide +kernel
theorem k_lw_law_189 : decode me_lw_law.2.1 189 = .ok (.iconst 3, 1) := by decide +kernel
theorem k_lw_law_190 : decode me_lw_law.2.1 190 = .ok (.iadd, 1) := by decide +kernel
theorem k_lw_law_191 : decode me_lw_law.2.1 191 = .ok (.iaload, 1) := by decide +kernel
theorem k_lw_law_192 : decode me_lw_law.2.1 192 = .ok (.aload_n 0, 1) := by decide +kernel
theorem k_lw_law_193 : decode me_lw_law.2.1 193 = .ok (.iload_n 3, 1) := by decide +kernel
theorem k_lw_law_194 : decode me_lw_law.2.1 194 = .ok (.iconst 4, 1) := by decide +kernel
theorem k_lw_law_195 : decode me_lw_law.2.1 195 = .ok (.iadd, 1) := by decide +kernel
theorem k_lw_law_196 : decode me_lw_law.2.1 196 = .ok (.iaload, 1) := by decide +kernel
theorem k_lw_law_197 : decode me_lw_law.2.1 197 = .ok (.invokevirtual 13, 3) := by decide +kernel
theorem k_lw_law_200 : decode me_lw_law.2.1 200 = .ok (.aload_n 2, 1) := by decide +kernel
theorem k_lw_law_201 : decode me_lw_law.2.1 201 = .ok (.aload_n 0, 1) := by decide +kernel
theorem k_lw_law_202 : decode me_lw_law.2.1 202 = .ok (.iload_n 3, 1) := by decide +kernel
theorem k_lw_law_203 : decode me_lw_law.2.1 203 = .ok (.iconst 1, 1) := by decide +kernel
theorem k_lw_law_204 : decode me_lw_law.2.1 204 = .ok (.iadd, 1) := by decide +kernel
theorem k_lw_law_205 : decode me_lw_law.2.1 205 = .ok (.iaload, 1) := by decide +kernel
theorem k_lw_law_206 : decode me_lw_law.2.1 206 = .ok (.aload_n 0, 1) := by decide +kernel
theorem k_lw_law_207 : decode me_lw_law.2.1 207 = .ok (.iload_n 3, 1) := by decide +kernel
theorem k_lw_law_208 : decode me_lw_law.2.1 208 = .ok (.iconst 2, 1) := by decide +kernel
theorem k_lw_law_209 : decode me_lw_law.2.1 209 = .ok (.iadd, 1) := by decide +kernel
theorem k_lw_law_210 : decode me_lw_law.2.1 210 = .ok (.iaload, 1) := by decide +kernel
theorem k_lw_law_211 : decode me_lw_law.2.1 211 = .ok (.aload_n 0, 1) := by decide +kernel
theorem k_lw_law_212 : decode me_lw_law.2.1 212 = .ok (.iload_n 3, 1) := by decide +kernel
theorem k_lw_law_213 : decode me_lw_law.2.1 213 = .ok (.iconst 3, 1) := by decide +kernel
theorem k_lw_law_214 : decode me_lw_law.2.1 214 = .ok (.iadd, 1) := by decide +kernel
theorem k_lw_law_215 : decode me_lw_law.2.1 215 = .ok (.iaload, 1) := by decide +kernel
theorem k_lw_law_216 : decode me_lw_law.2.1 216 = .ok (.aload_n 0, 1) := by decide +kernel
theorem k_lw_law_217 : decode me_lw_law.2.1 217 = .ok (.iload_n 3, 1) := by decide +kernel
theorem k_lw_law_218 : decode me_lw_law.2.1 218 = .ok (.iconst 4, 1) := by decide +kernel
theorem k_lw_law_219 : decode me_lw_law.2.1 219 = .ok (.iadd, 1) := by decide +kernel
theorem k_lw_law_220 : decode me_lw_law.2.1 220 = .ok (.iaload, 1) := by decide +kernel
theorem k_lw_law_221 : decode me_lw_law.2.1 221 = .ok (.invokevirtual 17, 3) := by decide +kernel
theorem k_lw_law_224 : decode me_lw_law.2.1 224 = .ok (.if_icmp .eq 870, 3) := by decide +kernel
theorem k_lw_law_227 : decode me_lw_law.2.1 227 = .ok (.iconst 0, 1) := by decide +kernel
theorem k_lw_law_228 : decode me_lw_law.2.1 228 = .ok (.ireturn, 1) := by decide +kernel
theorem k_lw_law_229 : decode me_lw_law.2.1 229 = .ok (.aload_n 1, 1) := by decide +kernel
theorem k_lw_law_230 : decode me_lw_law.2.1 230 = .ok (.aload_n 0, 1) := by decide +kernel
theorem k_lw_law_231 : decode me_lw_law.2.1 231 = .ok (.iload_n 3, 1) := by decide +kernel
theorem k_lw_law_232 : decode me_lw_law.2.1 232 = .ok (.iconst 1, 1) := by decide +kernel
theorem k_lw_law_233 : decode me_lw_law.2.1 233 = .ok (.iadd, 1) := by decide +kernel
theorem k_lw_law_234 : decode me_lw_law.2.1 234 = .ok (.iaload, 1) := by decide +kernel
theorem k_lw_law_235 : decode me_lw_law.2.1 235 = .ok (.aload_n 0, 1) := by decide +kernel
theorem k_lw_law_236 : decode me_lw_law.2.1 236 = .ok (.iload_n 3, 1) := by decide +kernel
theorem k_lw_law_237 : decode me_lw_law.2.1 237 = .ok (.iconst 2, 1) := by decide +kernel
theorem k_lw_law_238 : decode me_lw_law.2.1 238 = .ok (.iadd, 1) := by decide +kernel
theorem k_lw_law_239 : decode me_lw_law.2.1 239 = .ok (.iaload, 1) := by decide +kernel
theorem k_lw_law_240 : decode me_lw_law.2.1 240 = .ok (.aload_n 0, 1) := by decide +kernel
theorem k_lw_law_241 : decode me_lw_law.2.1 241 = .ok (.iload_n 3, 1) := by decide +kernel
theorem k_lw_law_242 : decode me_lw_law.2.1 242 = .ok (.iconst 3, 1) := by decide +kernel
theorem k_lw_law_243 : decode me_lw_law.2.1 243 = .ok (.iadd, 1) := by decide +kernel
theorem k_lw_law_244 : decode me_lw_law.2.1 244 = .ok (.iaload, 1) := by decide +kernel
theorem k_lw_law_245 : decode me_lw_law.2.1 245 = .ok (.invokevirtual 18, 3) := by decide +kernel
theorem k_lw_law_248 : decode me_lw_law.2.1 248 = .ok (.aload_n 2, 1) := by decide +kernel
theorem k_lw_law_249 : decode me_lw_law.2.1 249 = .ok (.aload_n 0, 1) := by decide +kernel
theorem k_lw_law_250 : decode me_lw_law.2.1 250 = .ok (.iload_n 3, 1) := by decide +kernel
theorem k_lw_law_251 : decode me_lw_law.2.1 251 = .ok (.iconst 1, 1) := by decide +kernel
theorem k_lw_law_252 : decode me_lw_law.2.1 252 = .ok (.iadd, 1) := by decide +kernel
theorem k_lw_law_253 : decode me_lw_law.2.1 253 = .ok (.iaload, 1) := by decide +kernel
theorem k_lw_law_254 : decode me_lw_law.2.1 254 = .ok (.aload_n 0, 1) := by decide +kernel
theorem k_lw_law_255 : decode me_lw_law.2.1 255 = .ok (.iload_n 3, 1) := by decide +kernel
theorem k_lw_law_256 : decode me_lw_law.2.1 256 = .ok (.iconst 2, 1) := by decide +kernel
theorem k_lw_law_257 : decode me_lw_law.2.1 257 = .ok (.iadd, 1) := by decide +kernel
theorem k_lw_law_258 : decode me_lw_law.2.1 258 = .ok (.iaload, 1) := by decide +kernel
theorem k_lw_law_259 : decode me_lw_law.2.1 259 = .ok (.aload_n 0, 1) := by decide +kernel
theorem k_lw_law_260 : decode me_lw_law.2.1 260 = .ok (.iload_n 3, 1) := by decide +kernel
theorem k_lw_law_261 : decode me_lw_law.2.1 261 = .ok (.iconst 3, 1) := by decide +kernel
theorem k_lw_law_262 : decode me_lw_law.2.1 262 = .ok (.iadd, 1) := by decide +kernel
theorem k_lw_law_263 : decode me_lw_law.2.1 263 = .ok (.iaload, 1) := by decide +kernel
theorem k_lw_law_264 : decode me_lw_law.2.1 264 = .ok (.invokevirtual 22, 3) := by decide +kernel
theorem k_lw_law_267 : decode me_lw_law.2.1 267 = .ok (.if_icmp .eq 827, 3) := by decide +kernel
theorem k_lw_law_270 : decode me_lw_law.2.1 270 = .ok (.iconst 0, 1) := by decide +kernel
theorem k_lw_law_271 : decode me_lw_law.2.1 271 = .ok (.ireturn, 1) := by decide +kernel
theorem k_lw_law_272 : decode me_lw_law.2.1 272 = .ok (.aload_n 1, 1) := by decide +kernel
theorem k_lw_law_273 : decode me_lw_law.2.1 273 = .ok (.aload_n 0, 1) := by decide +kernel
theorem k_lw_law_274 : decode me_lw_law.2.1 274 = .ok (.iload_n 3, 1) := by decide +kernel
theorem k_lw_law_275 : decode me_lw_law.2.1 275 = .ok (.iconst 1, 1) := by decide +kernel
theorem k_lw_law_276 : decode me_lw_law.2.1 276 = .ok (.iadd, 1) := by decide +kernel
theorem k_lw_law_277 : decode me_lw_law.2.1 277 = .ok (.iaload, 1) := by decide +kernel
theorem k_lw_law_278 : decode me_lw_law.2.1 278 = .ok (.ifCond .eq 7, 3) := by decide +kernel
theorem k_lw_law_281 : decode me_lw_law.2.1 281 = .ok (.iconst 1, 1) := by decide +kernel
theorem k_lw_law_282 : decode me_lw_law.2.1 282 = .ok (.goto 4, 3) := by decide +kernel
theorem k_lw_law_285 : decode me_lw_law.2.1 285 = .ok (.iconst 0, 1) := by decide +kernel
theorem k_lw_law_286 : decode me_lw_law.2.1 286 = .ok (.aload_n 0, 1) := by decide +kernel
theorem k_lw_law_287 : decode me_lw_law.2.1 287 = .ok (.iload_n 3, 1) := by decide +kernel
theorem k_lw_law_288 : decode me_lw_law.2.1 288 = .ok (.iconst 2, 1) := by decide +kernel
theorem k_lw_law_289 : decode me_lw_law.2.1 289 = .ok (.iadd, 1) := by decide +kernel
theorem k_lw_law_290 : decode me_lw_law.2.1 290 = .ok (.iaload, 1) := by decide +kernel
theorem k_lw_law_291 : decode me_lw_law.2.1 291 = .ok (.aload_n 0, 1) := by decide +kernel
theorem k_lw_law_292 : decode me_lw_law.2.1 292 = .ok (.iload_n 3, 1) := by decide +kernel
theorem k_lw_law_293 : decode me_lw_law.2.1 293 = .ok (.iconst 3, 1) := by decide +kernel
theorem k_lw_law_294 : decode me_lw_law.2.1 294 = .ok (.iadd, 1) := by decide +kernel
theorem k_lw_law_295 : decode me_lw_law.2.1 295 = .ok (.iaload, 1) := by decide +kernel
theorem k_lw_law_296 : decode me_lw_law.2.1 296 = .ok (.aload_n 0, 1) := by decide +kernel
theorem k_lw_law_297 : decode me_lw_law.2.1 297 = .ok (.iload_n 3, 1) := by decide +kernel
theorem k_lw_law_298 : decode me_lw_law.2.1 298 = .ok (.iconst 4, 1) := by decide +kernel
theorem k_lw_law_299 : decode me_lw_law.2.1 299 = .ok (.iadd, 1) := by decide +kernel
theorem k_lw_law_300 : decode me_lw_law.2.1 300 = .ok (.iaload, 1) := by decide +kernel
theorem k_lw_law_301 : decode me_lw_law.2.1 301 = .ok (.aload_n 0, 1) := by decide +kernel
theorem k_lw_law_302 : decode me_lw_law.2.1 302 = .ok (.iload_n 3, 1) := by decide +kernel
theorem k_lw_law_303 : decode me_lw_law.2.1 303 = .ok (.iconst 5, 1) := by decide +kernel
theorem k_lw_law_304 : decode me_lw_law.2.1 304 = .ok (.iadd, 1) := by decide +kernel
theorem k_lw_law_305 : decode me_lw_law.2.1 305 = .ok (.iaload, 1) := by decide +kernel
theorem k_lw_law_306 : decode me_lw_law.2.1 306 = .ok (.invokevirtual 23, 3) := by decide +kernel
theorem k_lw_law_309 : decode me_lw_law.2.1 309 = .ok (.aload_n 2, 1) := by decide +kernel
theorem k_lw_law_310 : decode me_lw_law.2.1 310 = .ok (.aload_n 0, 1) := by decide +kernel
theorem k_lw_law_311 : decode me_lw_law.2.1 311 = .ok (.iload_n 3, 1) := by decide +kernel
theorem k_lw_law_312 : decode me_lw_law.2.1 312 = .ok (.iconst 1, 1) := by decide +kernel
theorem k_lw_law_313 : decode me_lw_law.2.1 313 = .ok (.iadd, 1) := by decide +kernel
theorem k_lw_law_314 : decode me_lw_law.2.1 314 = .ok (.iaload, 1) := by decide +kernel
theorem k_lw_law_315 : decode me_lw_law.2.1 315 = .ok (.ifCond .eq 7, 3) := by decide +kernel
theorem k_lw_law_318 : decode me_lw_law.2.1 318 = .ok (.iconst 1, 1) := by decide +kernel
theorem k_lw_law_319 : decode me_lw_law.2.1 319 = .ok (.goto 4, 3) := by decide +kernel
theorem k_lw_law_322 : decode me_lw_law.2.1 322 = .ok (.iconst 0, 1) := by decide +kernel
theorem k_lw_law_323 : decode me_lw_law.2.1 323 = .ok (.aload_n 0, 1) := by decide +kernel
theorem k_lw_law_324 : decode me_lw_law.2.1 324 = .ok (.iload_n 3, 1) := by decide +kernel
theorem k_lw_law_325 : decode me_lw_law.2.1 325 = .ok (.iconst 2, 1) := by decide +kernel
theorem k_lw_law_326 : decode me_lw_law.2.1 326 = .ok (.iadd, 1) := by decide +kernel
theorem k_lw_law_327 : decode me_lw_law.2.1 327 = .ok (.iaload, 1) := by decide +kernel
theorem k_lw_law_328 : decode me_lw_law.2.1 328 = .ok (.aload_n 0, 1) := by decide +kernel
theorem k_lw_law_329 : decode me_lw_law.2.1 329 = .ok (.iload_n 3, 1) := by decide +kernel
theorem k_lw_law_330 : decode me_lw_law.2.1 330 = .ok (.iconst 3, 1) := by decide +kernel
theorem k_lw_law_331 : decode me_lw_law.2.1 331 = .ok (.iadd, 1) := by decide +kernel
theorem k_lw_law_332 : decode me_lw_law.2.1 332 = .ok (.iaload, 1) := by decide +kernel
theorem k_lw_law_333 : decode me_lw_law.2.1 333 = .ok (.aload_n 0, 1) := by decide +kernel
theorem k_lw_law_334 : decode me_lw_law.2.1 334 = .ok (.iload_n 3, 1) := by decide +kernel
theorem k_lw_law_335 : decode me_lw_law.2.1 335 = .ok (.iconst 4, 1) := by decide +kernel
theorem k_lw_law_336 : decode me_lw_law.2.1 336 = .ok (.iadd, 1) := by decide +kernel
theorem k_lw_law_337 : decode me_lw_law.2.1 337 = .ok (.iaload, 1) := by decide +kernel
theorem k_lw_law_338 : decode me_lw_law.2.1 338 = .ok (.aload_n 0, 1) := by decide +kernel
theorem k_lw_law_339 : decode me_lw_law.2.1 339 = .ok (.iload_n 3, 1) := by decide +kernel
theorem k_lw_law_340 : decode me_lw_law.2.1 340 = .ok (.iconst 5, 1) := by decide +kernel
theorem k_lw_law_341 : decode me_lw_law.2.1 341 = .ok (.iadd, 1) := by decide +kernel
theorem k_lw_law_342 : decode me_lw_law.2.1 342 = .ok (.iaload, 1) := by decide +kernel
theorem k_lw_law_343 : decode me_lw_law.2.1 343 = .ok (.invokevirtual 27, 3) := by decide +kernel
theorem k_lw_law_346 : decode me_lw_law.2.1 346 = .ok (.if_icmp .eq 748, 3) := by decide +kernel
theorem k_lw_law_349 : decode me_lw_law.2.1 349 = .ok (.iconst 0, 1) := by decide +kernel
theorem k_lw_law_350 : decode me_lw_law.2.1 350 = .ok (.ireturn, 1) := by decide +kernel
theorem k_lw_law_351 : decode me_lw_law.2.1 351 = .ok (.aload_n 1, 1) := by decide +kernel
theorem k_lw_law_352 : decode me_lw_law.2.1 352 = .ok (.aload_n 0, 1) := by decide +kernel
theorem k_lw_law_353 : decode me_lw_law.2.1 353 = .ok (.iload_n 3, 1) := by decide +kernel
theorem k_lw_law_354 : decode me_lw_law.2.1 354 = .ok (.iconst 1, 1) := by decide +kernel
theorem k_lw_law_355 : decode me_lw_law.2.1 355 = .ok (.iadd, 1) := by decide +kernel
theorem k_lw_law_356 : decode me_lw_law.2.1 356 = .ok (.iaload, 1) := by decide +kernel
theorem k_lw_law_357 : decode me_lw_law.2.1 357 = .ok (.aload_n 0, 1) := by decide +kernel
theorem k_lw_law_358 : decode me_lw_law.2.1 358 = .ok (.iload_n 3, 1) := by decide +kernel
theorem k_lw_law_359 : decode me_lw_law.2.1 359 = .ok (.iconst 2, 1) := by decide +kernel
theorem k_lw_law_360 : decode me_lw_law.2.1 360 = .ok (.iadd, 1) := by decide +kernel
theorem k_lw_law_361 : decode me_lw_law.2.1 361 = .ok (.iaload, 1) := by decide +kernel
theorem k_lw_law_362 : decode me_lw_law.2.1 362 = .ok (.invokevirtual 28, 3) := by decide +kernel
theorem k_lw_law_365 : decode me_lw_law.2.1 365 = .ok (.aload_n 2, 1) := by decide +kernel
theorem k_lw_law_366 : decode me_lw_law.2.1 366 = .ok (.aload_n 0, 1) := by decide +kernel
theorem k_lw_law_367 : decode me_lw_law.2.1 367 = .ok (.iload_n 3, 1) := by decide +kernel
theorem k_lw_law_368 : decode me_lw_law.2.1 368 = .ok (.iconst 1, 1) := by decide +kernel
theorem k_lw_law_369 : decode me_lw_law.2.1 369 = .ok (.iadd, 1) := by decide +kernel
theorem k_lw_law_370 : decode me_lw_law.2.1 370 = .ok (.iaload, 1) := by decide +kernel
theorem k_lw_law_371 : decode me_lw_law.2.1 371 = .ok (.aload_n 0, 1) := by decide +kernel
theorem k_lw_law_372 : decode me_lw_law.2.1 372 = .ok (.iload_n 3, 1) := by decide +kernel
theorem k_lw_law_373 : decode me_lw_law.2.1 373 = .ok (.iconst 2, 1) := by decide +kernel
theorem k_lw_law_374 : decode me_lw_law.2.1 374 = .ok (.iadd, 1) := by decide +kernel
theorem k_lw_law_375 : decode me_lw_law.2.1 375 = .ok (.iaload, 1) := by decide +kernel
theorem k_lw_law_376 : decode me_lw_law.2.1 376 = .ok (.invokevirtual 32, 3) := by decide +kernel
theorem k_lw_law_379 : decode me_lw_law.2.1 379 = .ok (.if_icmp .eq 715, 3) := by decide +kernel
theorem k_lw_law_382 : decode me_lw_law.2.1 382 = .ok (.iconst 0, 1) := by decide +kernel
theorem k_lw_law_383 : decode me_lw_law.2.1 383 = .ok (.ireturn, 1) := by decide +kernel
theorem k_lw_law_384 : decode me_lw_law.2.1 384 = .ok (.aload_n 1, 1) := by decide +kernel
theorem k_lw_law_385 : decode me_lw_law.2.1 385 = .ok (.aload_n 0, 1) := by decide +kernel
theorem k_lw_law_386 : decode me_lw_law.2.1 386 = .ok (.iload_n 3, 1) := by decide +kernel
theorem k_lw_law_387 : decode me_lw_law.2.1 387 = .ok (.iconst 1, 1) := by decide +kernel
theorem k_lw_law_388 : decode me_lw_law.2.1 388 = .ok (.iadd, 1) := by decide +kernel
theorem k_lw_law_389 : decode me_lw_law.2.1 389 = .ok (.iaload, 1) := by decide +kernel
theorem k_lw_law_390 : decode me_lw_law.2.1 390 = .ok (.aload_n 0, 1) := by decide +kernel
theorem k_lw_law_391 : decode me_lw_law.2.1 391 = .ok (.iload_n 3, 1) := by decide +kernel
theorem k_lw_law_392 : decode me_lw_law.2.1 392 = .ok (.iconst 2, 1) := by decide +kernel
theorem k_lw_law_393 : decode me_lw_law.2.1 393 = .ok (.iadd, 1) := by decide +kernel
theorem k_lw_law_394 : decode me_lw_law.2.1 394 = .ok (.iaload, 1) := by decide +kernel
theorem k_lw_law_395 : decode me_lw_law.2.1 395 = .ok (.ifCond .eq 7, 3) := by decide +kernel
theorem k_lw_law_398 : decode me_lw_law.2.1 398 = .ok (.iconst 1, 1) := by decide +kernel
theorem k_lw_law_399 : decode me_lw_law.2.1 399 = .ok (.goto 4, 3) := by decide +kernel
theorem k_lw_law_402 : decode me_lw_law.2.1 402 = .ok (.iconst 0, 1) := by decide +kernel
theorem k_lw_law_403 : decode me_lw_law.2.1 403 = .ok (.invokevirtual 33, 3) := by decide +kernel
theorem k_lw_law_406 : decode me_lw_law.2.1 406 = .ok (.aload_n 2, 1) := by decide +kernel
theorem k_lw_law_407 : decode me_lw_law.2.1 407 = .ok (.aload_n 0, 1) := by decide +kernel
theorem k_lw_law_408 : decode me_lw_law.2.1 408 = .ok (.iload_n 3, 1) := by decide +kernel
theorem k_lw_law_409 : decode me_lw_law.2.1 409 = .ok (.iconst 1, 1) := by decide +kernel
theorem k_lw_law_410 : decode me_lw_law.2.1 410 = .ok (.iadd, 1) := by decide +kernel
theorem k_lw_law_411 : decode me_lw_law.2.1 411 = .ok (.iaload, 1) := by decide +kernel
theorem k_lw_law_412 : decode me_lw_law.2.1 412 = .ok (.aload_n 0, 1) := by decide +kernel
theorem k_lw_law_413 : decode me_lw_law.2.1 413 = .ok (.iload_n 3, 1) := by decide +kernel
theorem k_lw_law_414 : decode me_lw_law.2.1 414 = .ok (.iconst 2, 1) := by decide +kernel
theorem k_lw_law_415 : decode me_lw_law.2.1 415 = .ok (.iadd, 1) := by decide +kernel
theorem k_lw_law_416 : decode me_lw_law.2.1 416 = .ok (.iaload, 1) := by decide +kernel
theorem k_lw_law_417 : decode me_lw_law.2.1 417 = .ok (.ifCond .eq 7, 3) := by decide +kernel
theorem k_lw_law_420 : decode me_lw_law.2.1 420 = .ok (.iconst 1, 1) := by decide +kernel
theorem k_lw_law_421 : decode me_lw_law.2.1 421 = .ok (.goto 4, 3) := by decide +kernel
theorem k_lw_law_424 : decode me_lw_law.2.1 424 = .ok (.iconst 0, 1) := by decide +kernel
theorem k_lw_law_425 : decode me_lw_law.2.1 425 = .ok (.invokevirtual 37, 3) := by decide +kernel
theorem k_lw_law_428 : decode me_lw_law.2.1 428 = .ok (.if_icmp .eq 666, 3) := by decide +kernel
theorem k_lw_law_431 : decode me_lw_law.2.1 431 = .ok (.iconst 0, 1) := by decide +kernel
theorem k_lw_law_432 : decode me_lw_law.2.1 432 = .ok (.ireturn, 1) := by decide +kernel
theorem k_lw_law_433 : decode me_lw_law.2.1 433 = .ok (.aload_n 1, 1) := by decide +kernel
theorem k_lw_law_434 : decode me_lw_law.2.1 434 = .ok (.aload_n 0, 1) := by decide +kernel
theorem k_lw_law_435 : decode me_lw_law.2.1 435 = .ok (.iload_n 3, 1) := by decide +kernel
theorem k_lw_law_436 : decode me_lw_law.2.1 436 = .ok (.iconst 1, 1) := by decide +kernel
theorem k_lw_law_437 : decode me_lw_law.2.1 437 = .ok (.iadd, 1) := by decide +kernel
theorem k_lw_law_438 : decode me_lw_law.2.1 438 = .ok (.iaload, 1) := by decide +kernel
theorem k_lw_law_439 : decode me_lw_law.2.1 439 = .ok (.aload_n 0, 1) := by decide +kernel
theorem k_lw_law_440 : decode me_lw_law.2.1 440 = .ok (.iload_n 3, 1) := by decide +kernel
theorem k_lw_law_441 : decode me_lw_law.2.1 441 = .ok (.iconst 2, 1) := by decide +kernel
theorem k_lw_law_442 : decode me_lw_law.2.1 442 = .ok (.iadd, 1) := by decide +kernel
theorem k_lw_law_443 : decode me_lw_law.2.1 443 = .ok (.iaload, 1) := by decide +kernel
theorem k_lw_law_444 : decode me_lw_law.2.1 444 = .ok (.invokevirtual 38, 3) := by decide +kernel
theorem k_lw_law_447 : decode me_lw_law.2.1 447 = .ok (.aload_n 2, 1) := by decide +kernel
theorem k_lw_law_448 : decode me_lw_law.2.1 448 = .ok (.aload_n 0, 1) := by decide +kernel
theorem k_lw_law_449 : decode me_lw_law.2.1 449 = .ok (.iload_n 3, 1) := by decide +kernel
theorem k_lw_law_450 : decode me_lw_law.2.1 450 = .ok (.iconst 1, 1) := by decide +kernel
theorem k_lw_law_451 : decode me_lw_law.2.1 451 = .ok (.iadd, 1) := by decide +kernel
theorem k_lw_law_452 : decode me_lw_law.2.1 452 = .ok (.iaload, 1) := by decide +kernel
theorem k_lw_law_453 : decode me_lw_law.2.1 453 = .ok (.aload_n 0, 1) := by decide +kernel
theorem k_lw_law_454 : decode me_lw_law.2.1 454 = .ok (.iload_n 3, 1) := by decide +kernel
theorem k_lw_law_455 : decode me_lw_law.2.1 455 = .ok (.iconst 2, 1) := by decide +kernel
theorem k_lw_law_456 : decode me_lw_law.2.1 456 = .ok (.iadd, 1) := by decide +kernel
theorem k_lw_law_457 : decode me_lw_law.2.1 457 = .ok (.iaload, 1) := by decide +kernel
theorem k_lw_law_458 : decode me_lw_law.2.1 458 = .ok (.invokevirtual 41, 3) := by decide +kernel
theorem k_lw_law_461 : decode me_lw_law.2.1 461 = .ok (.if_icmp .eq 633, 3) := by decide +kernel
theorem k_lw_law_464 : decode me_lw_law.2.1 464 = .ok (.iconst 0, 1) := by decide +kernel
theorem k_lw_law_465 : decode me_lw_law.2.1 465 = .ok (.ireturn, 1) := by decide +kernel
theorem k_lw_law_466 : decode me_lw_law.2.1 466 = .ok (.aload_n 1, 1) := by decide +kernel
theorem k_lw_law_467 : decode me_lw_law.2.1 467 = .ok (.aload_n 0, 1) := by decide +kernel
theorem k_lw_law_468 : decode me_lw_law.2.1 468 = .ok (.iload_n 3, 1) := by decide +kernel
theorem k_lw_law_469 : decode me_lw_law.2.1 469 = .ok (.iconst 1, 1) := by decide +kernel
theorem k_lw_law_470 : decode me_lw_law.2.1 470 = .ok (.iadd, 1) := by decide +kernel
theorem k_lw_law_471 : decode me_lw_law.2.1 471 = .ok (.iaload, 1) := by decide +kernel
theorem k_lw_law_472 : decode me_lw_law.2.1 472 = .ok (.aload_n 0, 1) := by decide +kernel
theorem k_lw_law_473 : decode me_lw_law.2.1 473 = .ok (.iload_n 3, 1) := by decide +kernel
theorem k_lw_law_474 : decode me_lw_law.2.1 474 = .ok (.iconst 2, 1) := by decide +kernel
theorem k_lw_law_475 : decode me_lw_law.2.1 475 = .ok (.iadd, 1) := by decide +kernel
theorem k_lw_law_476 : decode me_lw_law.2.1 476 = .ok (.iaload, 1) := by decide +kernel
theorem k_lw_law_477 : decode me_lw_law.2.1 477 = .ok (.invokevirtual 42, 3) := by decide +kernel
theorem k_lw_law_480 : decode me_lw_law.2.1 480 = .ok (.aload_n 2, 1) := by decide +kernel
theorem k_lw_law_481 : decode me_lw_law.2.1 481 = .ok (.aload_n 0, 1) := by decide +kernel
theorem k_lw_law_482 : decode me_lw_law.2.1 482 = .ok (.iload_n 3, 1) := by decide +kernel
theorem k_lw_law_483 : decode me_lw_law.2.1 483 = .ok (.iconst 1, 1) := by decide +kernel
theorem k_lw_law_484 : decode me_lw_law.2.1 484 = .ok (.iadd, 1) := by decide +kernel
theorem k_lw_law_485 : decode me_lw_law.2.1 485 = .ok (.iaload, 1) := by decide +kernel
theorem k_lw_law_486 : decode me_lw_law.2.1 486 = .ok (.aload_n 0, 1) := by decide +kernel
theorem k_lw_law_487 : decode me_lw_law.2.1 487 = .ok (.iload_n 3, 1) := by decide +kernel
theorem k_lw_law_488 : decode me_lw_law.2.1 488 = .ok (.iconst 2, 1) := by decide +kernel
theorem k_lw_law_489 : decode me_lw_law.2.1 489 = .ok (.iadd, 1) := by decide +kernel
theorem k_lw_law_490 : decode me_lw_law.2.1 490 = .ok (.iaload, 1) := by decide +kernel
theorem k_lw_law_491 : decode me_lw_law.2.1 491 = .ok (.invokevirtual 45, 3) := by decide +kernel
theorem k_lw_law_494 : decode me_lw_law.2.1 494 = .ok (.if_icmp .eq 600, 3) := by decide +kernel
theorem k_lw_law_497 : decode me_lw_law.2.1 497 = .ok (.iconst 0, 1) := by decide +kernel
theorem k_lw_law_498 : decode me_lw_law.2.1 498 = .ok (.ireturn, 1) := by decide +kernel
theorem k_lw_law_499 : decode me_lw_law.2.1 499 = .ok (.aload_n 1, 1) := by decide +kernel
theorem k_lw_law_500 : decode me_lw_law.2.1 500 = .ok (.aload_n 0, 1) := by decide +kernel
theorem k_lw_law_501 : decode me_lw_law.2.1 501 = .ok (.iload_n 3, 1) := by decide +kernel
theorem k_lw_law_502 : decode me_lw_law.2.1 502 = .ok (.iconst 1, 1) := by decide +kernel
theorem k_lw_law_503 : decode me_lw_law.2.1 503 = .ok (.iadd, 1) := by decide +kernel
theorem k_lw_law_504 : decode me_lw_law.2.1 504 = .ok (.iaload, 1) := by decide +kernel
theorem k_lw_law_505 : decode me_lw_law.2.1 505 = .ok (.invokevirtual 46, 3) := by decide +kernel
theorem k_lw_law_508 : decode me_lw_law.2.1 508 = .ok (.aload_n 2, 1) := by decide +kernel
theorem k_lw_law_509 : decode me_lw_law.2.1 509 = .ok (.aload_n 0, 1) := by decide +kernel
theorem k_lw_law_510 : decode me_lw_law.2.1 510 = .ok (.iload_n 3, 1) := by decide +kernel
theorem k_lw_law_511 : decode me_lw_law.2.1 511 = .ok (.iconst 1, 1) := by decide +kernel
theorem k_lw_law_512 : decode me_lw_law.2.1 512 = .ok (.iadd, 1) := by decide +kernel
theorem k_lw_law_513 : decode me_lw_law.2.1 513 = .ok (.iaload, 1) := by decide +kernel
theorem k_lw_law_514 : decode me_lw_law.2.1 514 = .ok (.invokevirtual 50, 3) := by decide +kernel
theorem k_lw_law_517 : decode me_lw_law.2.1 517 = .ok (.if_icmp .eq 577, 3) := by decide +kernel
theorem k_lw_law_520 : decode me_lw_law.2.1 520 = .ok (.iconst 0, 1) := by decide +kernel
theorem k_lw_law_521 : decode me_lw_law.2.1 521 = .ok (.ireturn, 1) := by decide +kernel
theorem k_lw_law_522 : decode me_lw_law.2.1 522 = .ok (.aload_n 1, 1) := by decide +kernel
theorem k_lw_law_523 : decode me_lw_law.2.1 523 = .ok (.aload_n 0, 1) := by decide +kernel
theorem k_lw_law_524 : decode me_lw_law.2.1 524 = .ok (.iload_n 3, 1) := by decide +kernel
theorem k_lw_law_525 : decode me_lw_law.2.1 525 = .ok (.iconst 1, 1) := by decide +kernel
theorem k_lw_law_526 : decode me_lw_law.2.1 526 = .ok (.iadd, 1) := by decide +kernel
theorem k_lw_law_527 : decode me_lw_law.2.1 527 = .ok (.iaload, 1) := by decide +kernel
theorem k_lw_law_528 : decode me_lw_law.2.1 528 = .ok (.invokevirtual 51, 3) := by decide +kernel
theorem k_lw_law_531 : decode me_lw_law.2.1 531 = .ok (.aload_n 2, 1) := by decide +kernel
theorem k_lw_law_532 : decode me_lw_law.2.1 532 = .ok (.aload_n 0, 1) := by decide +kernel
theorem k_lw_law_533 : decode me_lw_law.2.1 533 = .ok (.iload_n 3, 1) := by decide +kernel
theorem k_lw_law_534 : decode me_lw_law.2.1 534 = .ok (.iconst 1, 1) := by decide +kernel
theorem k_lw_law_535 : decode me_lw_law.2.1 535 = .ok (.iadd, 1) := by decide +kernel
theorem k_lw_law_536 : decode me_lw_law.2.1 536 = .ok (.iaload, 1) := by decide +kernel
theorem k_lw_law_537 : decode me_lw_law.2.1 537 = .ok (.invokevirtual 54, 3) := by decide +kernel
theorem k_lw_law_540 : decode me_lw_law.2.1 540 = .ok (.if_icmp .eq 554, 3) := by decide +kernel
theorem k_lw_law_543 : decode me_lw_law.2.1 543 = .ok (.iconst 0, 1) := by decide +kernel
theorem k_lw_law_544 : decode me_lw_law.2.1 544 = .ok (.ireturn, 1) := by decide +kernel
theorem k_lw_law_545 : decode me_lw_law.2.1 545 = .ok (.aload_n 1, 1) := by decide +kernel
theorem k_lw_law_546 : decode me_lw_law.2.1 546 = .ok (.aload_n 0, 1) := by decide +kernel
theorem k_lw_law_547 : decode me_lw_law.2.1 547 = .ok (.iload_n 3, 1) := by decide +kernel
theorem k_lw_law_548 : decode me_lw_law.2.1 548 = .ok (.iconst 1, 1) := by decide +kernel
theorem k_lw_law_549 : decode me_lw_law.2.1 549 = .ok (.iadd, 1) := by decide +kernel
theorem k_lw_law_550 : decode me_lw_law.2.1 550 = .ok (.iaload, 1) := by decide +kernel
theorem k_lw_law_551 : decode me_lw_law.2.1 551 = .ok (.invokevirtual 55, 3) := by decide +kernel
theorem k_lw_law_554 : decode me_lw_law.2.1 554 = .ok (.aload_n 2, 1) := by decide +kernel
theorem k_lw_law_555 : decode me_lw_law.2.1 555 = .ok (.aload_n 0, 1) := by decide +kernel
theorem k_lw_law_556 : decode me_lw_law.2.1 556 = .ok (.iload_n 3, 1) := by decide +kernel
theorem k_lw_law_557 : decode me_lw_law.2.1 557 = .ok (.iconst 1, 1) := by decide +kernel
theorem k_lw_law_558 : decode me_lw_law.2.1 558 = .ok (.iadd, 1) := by decide +kernel
theorem k_lw_law_559 : decode me_lw_law.2.1 559 = .ok (.iaload, 1) := by decide +kernel
theorem k_lw_law_560 : decode me_lw_law.2.1 560 = .ok (.invokevirtual 58, 3) := by decide +kernel
theorem k_lw_law_563 : decode me_lw_law.2.1 563 = .ok (.if_icmp .eq 531, 3) := by decide +kernel
theorem k_lw_law_566 : decode me_lw_law.2.1 566 = .ok (.iconst 0, 1) := by decide +kernel
theorem k_lw_law_567 : decode me_lw_law.2.1 567 = .ok (.ireturn, 1) := by decide +kernel
theorem k_lw_law_568 : decode me_lw_law.2.1 568 = .ok (.aload_n 1, 1) := by decide +kernel
theorem k_lw_law_569 : decode me_lw_law.2.1 569 = .ok (.aload_n 0, 1) := by decide +kernel
theorem k_lw_law_570 : decode me_lw_law.2.1 570 = .ok (.iload_n 3, 1) := by decide +kernel
theorem k_lw_law_571 : decode me_lw_law.2.1 571 = .ok (.iconst 1, 1) := by decide +kernel
theorem k_lw_law_572 : decode me_lw_law.2.1 572 = .ok (.iadd, 1) := by decide +kernel
theorem k_lw_law_573 : decode me_lw_law.2.1 573 = .ok (.iaload, 1) := by decide +kernel
theorem k_lw_law_574 : decode me_lw_law.2.1 574 = .ok (.aload_n 0, 1) := by decide +kernel
theorem k_lw_law_575 : decode me_lw_law.2.1 575 = .ok (.iload_n 3, 1) := by decide +kernel
theorem k_lw_law_576 : decode me_lw_law.2.1 576 = .ok (.iconst 2, 1) := by decide +kernel
theorem k_lw_law_577 : decode me_lw_law.2.1 577 = .ok (.iadd, 1) := by decide +kernel
theorem k_lw_law_578 : decode me_lw_law.2.1 578 = .ok (.iaload, 1) := by decide +kernel
theorem k_lw_law_579 : decode me_lw_law.2.1 579 = .ok (.invokevirtual 59, 3) := by decide +kernel
theorem k_lw_law_582 : decode me_lw_law.2.1 582 = .ok (.aload_n 2, 1) := by decide +kernel
theorem k_lw_law_583 : decode me_lw_law.2.1 583 = .ok (.aload_n 0, 1) := by decide +kernel
theorem k_lw_law_584 : decode me_lw_law.2.1 584 = .ok (.iload_n 3, 1) := by decide +kernel
theorem k_lw_law_585 : decode me_lw_law.2.1 585 = .ok (.iconst 1, 1) := by decide +kernel
theorem k_lw_law_586 : decode me_lw_law.2.1 586 = .ok (.iadd, 1) := by decide +kernel
theorem k_lw_law_587 : decode me_lw_law.2.1 587 = .ok (.iaload, 1) := by decide +kernel
theorem k_lw_law_588 : decode me_lw_law.2.1 588 = .ok (.aload_n 0, 1) := by decide +kernel
theorem k_lw_law_589 : decode me_lw_law.2.1 589 = .ok (.iload_n 3, 1) := by decide +kernel
theorem k_lw_law_590 : decode me_lw_law.2.1 590 = .ok (.iconst 2, 1) := by decide +kernel
theorem k_lw_law_591 : decode me_lw_law.2.1 591 = .ok (.iadd, 1) := by decide +kernel
theorem k_lw_law_592 : decode me_lw_law.2.1 592 = .ok (.iaload, 1) := by decide +kernel
theorem k_lw_law_593 : decode me_lw_law.2.1 593 = .ok (.invokevirtual 62, 3) := by decide +kernel
theorem k_lw_law_596 : decode me_lw_law.2.1 596 = .ok (.if_icmp .eq 498, 3) := by decide +kernel
theorem k_lw_law_599 : decode me_lw_law.2.1 599 = .ok (.iconst 0, 1) := by decide +kernel
theorem k_lw_law_600 : decode me_lw_law.2.1 600 = .ok (.ireturn, 1) := by decide +kernel
theorem k_lw_law_601 : decode me_lw_law.2.1 601 = .ok (.aload_n 1, 1) := by decide +kernel
theorem k_lw_law_602 : decode me_lw_law.2.1 602 = .ok (.aload_n 0, 1) := by decide +kernel
theorem k_lw_law_603 : decode me_lw_law.2.1 603 = .ok (.iload_n 3, 1) := by decide +kernel
theorem k_lw_law_604 : decode me_lw_law.2.1 604 = .ok (.iconst 1, 1) := by decide +kernel
theorem k_lw_law_605 : decode me_lw_law.2.1 605 = .ok (.iadd, 1) := by decide +kernel
theorem k_lw_law_606 : decode me_lw_law.2.1 606 = .ok (.iaload, 1) := by decide +kernel
theorem k_lw_law_607 : decode me_lw_law.2.1 607 = .ok (.invokevirtual 63, 3) := by decide +kernel
theorem k_lw_law_610 : decode me_lw_law.2.1 610 = .ok (.aload_n 2, 1) := by decide +kernel
theorem k_lw_law_611 : decode me_lw_law.2.1 611 = .ok (.aload_n 0, 1) := by decide +kernel
theorem k_lw_law_612 : decode me_lw_law.2.1 612 = .ok (.iload_n 3, 1) := by decide +kernel
theorem k_lw_law_613 : decode me_lw_law.2.1 613 = .ok (.iconst 1, 1) := by decide +kernel
theorem k_lw_law_614 : decode me_lw_law.2.1 614 = .ok (.iadd, 1) := by decide +kernel
theorem k_lw_law_615 : decode me_lw_law.2.1 615 = .ok (.iaload, 1) := by decide +kernel
theorem k_lw_law_616 : decode me_lw_law.2.1 616 = .ok (.invokevirtual 66, 3) := by decide +kernel
theorem k_lw_law_619 : decode me_lw_law.2.1 619 = .ok (.if_icmp .eq 475, 3) := by decide +kernel
theorem k_lw_law_622 : decode me_lw_law.2.1 622 = .ok (.iconst 0, 1) := by decide +kernel
theorem k_lw_law_623 : decode me_lw_law.2.1 623 = .ok (.ireturn, 1) := by decide +kernel
theorem k_lw_law_624 : decode me_lw_law.2.1 624 = .ok (.aload_n 1, 1) := by decide +kernel
theorem k_lw_law_625 : decode me_lw_law.2.1 625 = .ok (.aload_n 0, 1) := by decide +kernel
theorem k_lw_law_626 : decode me_lw_law.2.1 626 = .ok (.iload_n 3, 1) := by decide +kernel
theorem k_lw_law_627 : decode me_lw_law.2.1 627 = .ok (.iconst 1, 1) := by decide +kernel
theorem k_lw_law_628 : decode me_lw_law.2.1 628 = .ok (.iadd, 1) := by decide +kernel
theorem k_lw_law_629 : decode me_lw_law.2.1 629 = .ok (.iaload, 1) := by decide +kernel
theorem k_lw_law_630 : decode me_lw_law.2.1 630 = .ok (.invokevirtual 67, 3) := by decide +kernel
theorem k_lw_law_633 : decode me_lw_law.2.1 633 = .ok (.aload_n 2, 1) := by decide +kernel
theorem k_lw_law_634 : decode me_lw_law.2.1 634 = .ok (.aload_n 0, 1) := by decide +kernel
theorem k_lw_law_635 : decode me_lw_law.2.1 635 = .ok (.iload_n 3, 1) := by decide +kernel
theorem k_lw_law_636 : decode me_lw_law.2.1 636 = .ok (.iconst 1, 1) := by decide +kernel
theorem k_lw_law_637 : decode me_lw_law.2.1 637 = .ok (.iadd, 1) := by decide +kernel
theorem k_lw_law_638 : decode me_lw_law.2.1 638 = .ok (.iaload, 1) := by decide +kernel
theorem k_lw_law_639 : decode me_lw_law.2.1 639 = .ok (.invokevirtual 70, 3) := by decide +kernel
theorem k_lw_law_642 : decode me_lw_law.2.1 642 = .ok (.if_icmp .eq 452, 3) := by decide +kernel
theorem k_lw_law_645 : decode me_lw_law.2.1 645 = .ok (.iconst 0, 1) := by decide +kernel
theorem k_lw_law_646 : decode me_lw_law.2.1 646 = .ok (.ireturn, 1) := by decide +kernel
theorem k_lw_law_647 : decode me_lw_law.2.1 647 = .ok (.aload_n 1, 1) := by decide +kernel
theorem k_lw_law_648 : decode me_lw_law.2.1 648 = .ok (.aload_n 0, 1) := by decide +kernel
theorem k_lw_law_649 : decode me_lw_law.2.1 649 = .ok (.iload_n 3, 1) := by decide +kernel
theorem k_lw_law_650 : decode me_lw_law.2.1 650 = .ok (.iconst 1, 1) := by decide +kernel
theorem k_lw_law_651 : decode me_lw_law.2.1 651 = .ok (.iadd, 1) := by decide +kernel
theorem k_lw_law_652 : decode me_lw_law.2.1 652 = .ok (.iaload, 1) := by decide +kernel
theorem k_lw_law_653 : decode me_lw_law.2.1 653 = .ok (.aload_n 0, 1) := by decide +kernel
theorem k_lw_law_654 : decode me_lw_law.2.1 654 = .ok (.iload_n 3, 1) := by decide +kernel
theorem k_lw_law_655 : decode me_lw_law.2.1 655 = .ok (.iconst 2, 1) := by decide +kernel
theorem k_lw_law_656 : decode me_lw_law.2.1 656 = .ok (.iadd, 1) := by decide +kernel
theorem k_lw_law_657 : decode me_lw_law.2.1 657 = .ok (.iaload, 1) := by decide +kernel
theorem k_lw_law_658 : decode me_lw_law.2.1 658 = .ok (.aload_n 0, 1) := by decide +kernel
theorem k_lw_law_659 : decode me_lw_law.2.1 659 = .ok (.iload_n 3, 1) := by decide +kernel
theorem k_lw_law_660 : decode me_lw_law.2.1 660 = .ok (.iconst 3, 1) := by decide +kernel
theorem k_lw_law_661 : decode me_lw_law.2.1 661 = .ok (.iadd, 1) := by decide +kernel
theorem k_lw_law_662 : decode me_lw_law.2.1 662 = .ok (.iaload, 1) := by decide +kernel
theorem k_lw_law_663 : decode me_lw_law.2.1 663 = .ok (.aload_n 0, 1) := by decide +kernel
theorem k_lw_law_664 : decode me_lw_law.2.1 664 = .ok (.iload_n 3, 1) := by decide +kernel
theorem k_lw_law_665 : decode me_lw_law.2.1 665 = .ok (.iconst 4, 1) := by decide +kernel
theorem k_lw_law_666 : decode me_lw_law.2.1 666 = .ok (.iadd, 1) := by decide +kernel
theorem k_lw_law_667 : decode me_lw_law.2.1 667 = .ok (.iaload, 1) := by decide +kernel
theorem k_lw_law_668 : decode me_lw_law.2.1 668 = .ok (.invokevirtual 71, 3) := by decide +kernel
theorem k_lw_law_671 : decode me_lw_law.2.1 671 = .ok (.aload_n 2, 1) := by decide +kernel
theorem k_lw_law_672 : decode me_lw_law.2.1 672 = .ok (.aload_n 0, 1) := by decide +kernel
theorem k_lw_law_673 : decode me_lw_law.2.1 673 = .ok (.iload_n 3, 1) := by decide +kernel
theorem k_lw_law_674 : decode me_lw_law.2.1 674 = .ok (.iconst 1, 1) := by decide +kernel
theorem k_lw_law_675 : decode me_lw_law.2.1 675 = .ok (.iadd, 1) := by decide +kernel
theorem k_lw_law_676 : decode me_lw_law.2.1 676 = .ok (.iaload, 1) := by decide +kernel
theorem k_lw_law_677 : decode me_lw_law.2.1 677 = .ok (.aload_n 0, 1) := by decide +kernel
theorem k_lw_law_678 : decode me_lw_law.2.1 678 = .ok (.iload_n 3, 1) := by decide +kernel
theorem k_lw_law_679 : decode me_lw_law.2.1 679 = .ok (.iconst 2, 1) := by decide +kernel
theorem k_lw_law_680 : decode me_lw_law.2.1 680 = .ok (.iadd, 1) := by decide +kernel
theorem k_lw_law_681 : decode me_lw_law.2.1 681 = .ok (.iaload, 1) := by decide +kernel
theorem k_lw_law_682 : decode me_lw_law.2.1 682 = .ok (.aload_n 0, 1) := by decide +kernel
theorem k_lw_law_683 : decode me_lw_law.2.1 683 = .ok (.iload_n 3, 1) := by decide +kernel
theorem k_lw_law_684 : decode me_lw_law.2.1 684 = .ok (.iconst 3, 1) := by decide +kernel
theorem k_lw_law_685 : decode me_lw_law.2.1 685 = .ok (.iadd, 1) := by decide +kernel
theorem k_lw_law_686 : decode me_lw_law.2.1 686 = .ok (.iaload, 1) := by decide +kernel
theorem k_lw_law_687 : decode me_lw_law.2.1 687 = .ok (.aload_n 0, 1) := by decide +kernel
theorem k_lw_law_688 : decode me_lw_law.2.1 688 = .ok (.iload_n 3, 1) := by decide +kernel
theorem k_lw_law_689 : decode me_lw_law.2.1 689 = .ok (.iconst 4, 1) := by decide +kernel
theorem k_lw_law_690 : decode me_lw_law.2.1 690 = .ok (.iadd, 1) := by decide +kernel
theorem k_lw_law_691 : decode me_lw_law.2.1 691 = .ok (.iaload, 1) := by decide +kernel
theorem k_lw_law_692 : decode me_lw_law.2.1 692 = .ok (.invokevirtual 74, 3) := by decide +kernel
theorem k_lw_law_695 : decode me_lw_law.2.1 695 = .ok (.if_icmp .eq 399, 3) := by decide +kernel
theorem k_lw_law_698 : decode me_lw_law.2.1 698 = .ok (.iconst 0, 1) := by decide +kernel
theorem k_lw_law_699 : decode me_lw_law.2.1 699 = .ok (.ireturn, 1) := by decide +kernel
theorem k_lw_law_700 : decode me_lw_law.2.1 700 = .ok (.aload_n 1, 1) := by decide +kernel
theorem k_lw_law_701 : decode me_lw_law.2.1 701 = .ok (.invokevirtual 75, 3) := by decide +kernel
theorem k_lw_law_704 : decode me_lw_law.2.1 704 = .ok (.aload_n 2, 1) := by decide +kernel
theorem k_lw_law_705 : decode me_lw_law.2.1 705 = .ok (.invokevirtual 79, 3) := by decide +kernel
theorem k_lw_law_708 : decode me_lw_law.2.1 708 = .ok (.if_icmp .eq 386, 3) := by decide +kernel
theorem k_lw_law_711 : decode me_lw_law.2.1 711 = .ok (.iconst 0, 1) := by decide +kernel
theorem k_lw_law_712 : decode me_lw_law.2.1 712 = .ok (.ireturn, 1) := by decide +kernel
theorem k_lw_law_713 : decode me_lw_law.2.1 713 = .ok (.aload_n 1, 1) := by decide +kernel
theorem k_lw_law_714 : decode me_lw_law.2.1 714 = .ok (.aload_n 0, 1) := by decide +kernel
theorem k_lw_law_715 : decode me_lw_law.2.1 715 = .ok (.iload_n 3, 1) := by decide +kernel
theorem k_lw_law_716 : decode me_lw_law.2.1 716 = .ok (.iconst 1, 1) := by decide +kernel
theorem k_lw_law_717 : decode me_lw_law.2.1 717 = .ok (.iadd, 1) := by decide +kernel
theorem k_lw_law_718 : decode me_lw_law.2.1 718 = .ok (.iaload, 1) := by decide +kernel
theorem k_lw_law_719 : decode me_lw_law.2.1 719 = .ok (.invokevirtual 80, 3) := by decide +kernel
theorem k_lw_law_722 : decode me_lw_law.2.1 722 = .ok (.aload_n 2, 1) := by decide +kernel
theorem k_lw_law_723 : decode me_lw_law.2.1 723 = .ok (.aload_n 0, 1) := by decide +kernel
theorem k_lw_law_724 : decode me_lw_law.2.1 724 = .ok (.iload_n 3, 1) := by decide +kernel
theorem k_lw_law_725 : decode me_lw_law.2.1 725 = .ok (.iconst 1, 1) := by decide +kernel
theorem k_lw_law_726 : decode me_lw_law.2.1 726 = .ok (.iadd, 1) := by decide +kernel
theorem k_lw_law_727 : decode me_lw_law.2.1 727 = .ok (.iaload, 1) := by decide +kernel
theorem k_lw_law_728 : decode me_lw_law.2.1 728 = .ok (.invokevirtual 83, 3) := by decide +kernel
theorem k_lw_law_731 : decode me_lw_law.2.1 731 = .ok (.if_icmp .eq 363, 3) := by decide +kernel
theorem k_lw_law_734 : decode me_lw_law.2.1 734 = .ok (.iconst 0, 1) := by decide +kernel
theorem k_lw_law_735 : decode me_lw_law.2.1 735 = .ok (.ireturn, 1) := by decide +kernel
theorem k_lw_law_736 : decode me_lw_law.2.1 736 = .ok (.aload_n 1, 1) := by decide +kernel
theorem k_lw_law_737 : decode me_lw_law.2.1 737 = .ok (.invokevirtual 84, 3) := by decide +kernel
theorem k_lw_law_740 : decode me_lw_law.2.1 740 = .ok (.aload_n 2, 1) := by decide +kernel
theorem k_lw_law_741 : decode me_lw_law.2.1 741 = .ok (.invokevirtual 87, 3) := by decide +kernel
theorem k_lw_law_744 : decode me_lw_law.2.1 744 = .ok (.if_icmp .eq 350, 3) := by decide +kernel
theorem k_lw_law_747 : decode me_lw_law.2.1 747 = .ok (.iconst 0, 1) := by decide +kernel
theorem k_lw_law_748 : decode me_lw_law.2.1 748 = .ok (.ireturn, 1) := by decide +kernel
theorem k_lw_law_749 : decode me_lw_law.2.1 749 = .ok (.aload_n 1, 1) := by decide +kernel
theorem k_lw_law_750 : decode me_lw_law.2.1 750 = .ok (.aload_n 0, 1) := by decide +kernel
theorem k_lw_law_751 : decode me_lw_law.2.1 751 = .ok (.iload_n 3, 1) := by decide +kernel
theorem k_lw_law_752 : decode me_lw_law.2.1 752 = .ok (.iconst 1, 1) := by decide +kernel
theorem k_lw_law_753 : decode me_lw_law.2.1 753 = .ok (.iadd, 1) := by decide +kernel
theorem k_lw_law_754 : decode me_lw_law.2.1 754 = .ok (.iaload, 1) := by decide +kernel
theorem k_lw_law_755 : decode me_lw_law.2.1 755 = .ok (.invokevirtual 88, 3) := by decide +kernel
theorem k_lw_law_758 : decode me_lw_law.2.1 758 = .ok (.aload_n 2, 1) := by decide +kernel
theorem k_lw_law_759 : decode me_lw_law.2.1 759 = .ok (.aload_n 0, 1) := by decide +kernel
theorem k_lw_law_760 : decode me_lw_law.2.1 760 = .ok (.iload_n 3, 1) := by decide +kernel
theorem k_lw_law_761 : decode me_lw_law.2.1 761 = .ok (.iconst 1, 1) := by decide +kernel
theorem k_lw_law_762 : decode me_lw_law.2.1 762 = .ok (.iadd, 1) := by decide +kernel
theorem k_lw_law_763 : decode me_lw_law.2.1 763 = .ok (.iaload, 1) := by decide +kernel
theorem k_lw_law_764 : decode me_lw_law.2.1 764 = .ok (.invokevirtual 91, 3) := by decide +kernel
theorem k_lw_law_767 : decode me_lw_law.2.1 767 = .ok (.if_icmp .eq 327, 3) := by decide +kernel
theorem k_lw_law_770 : decode me_lw_law.2.1 770 = .ok (.iconst 0, 1) := by decide +kernel
theorem k_lw_law_771 : decode me_lw_law.2.1 771 = .ok (.ireturn, 1) := by decide +kernel
theorem k_lw_law_772 : decode me_lw_law.2.1 772 = .ok (.aload_n 1, 1) := by decide +kernel
theorem k_lw_law_773 : decode me_lw_law.2.1 773 = .ok (.invokevirtual 92, 3) := by decide +kernel
theorem k_lw_law_776 : decode me_lw_law.2.1 776 = .ok (.aload_n 2, 1) := by decide +kernel
theorem k_lw_law_777 : decode me_lw_law.2.1 777 = .ok (.invokevirtual 95, 3) := by decide +kernel
theorem k_lw_law_780 : decode me_lw_law.2.1 780 = .ok (.if_icmp .eq 314, 3) := by decide +kernel
theorem k_lw_law_783 : decode me_lw_law.2.1 783 = .ok (.iconst 0, 1) := by decide +kernel
theorem k_lw_law_784 : decode me_lw_law.2.1 784 = .ok (.ireturn, 1) := by decide +kernel
theorem k_lw_law_785 : decode me_lw_law.2.1 785 = .ok (.aload_n 1, 1) := by decide +kernel
theorem k_lw_law_786 : decode me_lw_law.2.1 786 = .ok (.aload_n 0, 1) := by decide +kernel
theorem k_lw_law_787 : decode me_lw_law.2.1 787 = .ok (.iload_n 3, 1) := by decide +kernel
theorem k_lw_law_788 : decode me_lw_law.2.1 788 = .ok (.iconst 1, 1) := by decide +kernel
theorem k_lw_law_789 : decode me_lw_law.2.1 789 = .ok (.iadd, 1) := by decide +kernel
theorem k_lw_law_790 : decode me_lw_law.2.1 790 = .ok (.iaload, 1) := by decide +kernel
theorem k_lw_law_791 : decode me_lw_law.2.1 791 = .ok (.aload_n 0, 1) := by decide +kernel
theorem k_lw_law_792 : decode me_lw_law.2.1 792 = .ok (.iload_n 3, 1) := by decide +kernel
theorem k_lw_law_793 : decode me_lw_law.2.1 793 = .ok (.iconst 2, 1) := by decide +kernel
theorem k_lw_law_794 : decode me_lw_law.2.1 794 = .ok (.iadd, 1) := by decide +kernel
theorem k_lw_law_795 : decode me_lw_law.2.1 795 = .ok (.iaload, 1) := by decide +kernel
theorem k_lw_law_796 : decode me_lw_law.2.1 796 = .ok (.invokevirtual 96, 3) := by decide +kernel
theorem k_lw_law_799 : decode me_lw_law.2.1 799 = .ok (.aload_n 2, 1) := by decide +kernel
theorem k_lw_law_800 : decode me_lw_law.2.1 800 = .ok (.aload_n 0, 1) := by decide +kernel
theorem k_lw_law_801 : decode me_lw_law.2.1 801 = .ok (.iload_n 3, 1) := by decide +kernel
theorem k_lw_law_802 : decode me_lw_law.2.1 802 = .ok (.iconst 1, 1) := by decide +kernel
theorem k_lw_law_803 : decode me_lw_law.2.1 803 = .ok (.iadd, 1) := by decide +kernel
theorem k_lw_law_804 : decode me_lw_law.2.1 804 = .ok (.iaload, 1) := by decide +kernel
theorem k_lw_law_805 : decode me_lw_law.2.1 805 = .ok (.aload_n 0, 1) := by decide +kernel
theorem k_lw_law_806 : decode me_lw_law.2.1 806 = .ok (.iload_n 3, 1) := by decide +kernel
theorem k_lw_law_807 : decode me_lw_law.2.1 807 = .ok (.iconst 2, 1) := by decide +kernel
theorem k_lw_law_808 : decode me_lw_law.2.1 808 = .ok (.iadd, 1) := by decide +kernel
theorem k_lw_law_809 : decode me_lw_law.2.1 809 = .ok (.iaload, 1) := by decide +kernel
theorem k_lw_law_810 : decode me_lw_law.2.1 810 = .ok (.invokevirtual 99, 3) := by decide +kernel
theorem k_lw_law_813 : decode me_lw_law.2.1 813 = .ok (.if_icmp .eq 281, 3) := by decide +kernel
theorem k_lw_law_816 : decode me_lw_law.2.1 816 = .ok (.iconst 0, 1) := by decide +kernel
theorem k_lw_law_817 : decode me_lw_law.2.1 817 = .ok (.ireturn, 1) := by decide +kernel
theorem k_lw_law_818 : decode me_lw_law.2.1 818 = .ok (.aload_n 1, 1) := by decide +kernel
theorem k_lw_law_819 : decode me_lw_law.2.1 819 = .ok (.invokevirtual 100, 3) := by decide +kernel
theorem k_lw_law_822 : decode me_lw_law.2.1 822 = .ok (.aload_n 2, 1) := by decide +kernel
theorem k_lw_law_823 : decode me_lw_law.2.1 823 = .ok (.invokevirtual 103, 3) := by decide +kernel
theorem k_lw_law_826 : decode me_lw_law.2.1 826 = .ok (.if_icmp .eq 268, 3) := by decide +kernel
theorem k_lw_law_829 : decode me_lw_law.2.1 829 = .ok (.iconst 0, 1) := by decide +kernel
theorem k_lw_law_830 : decode me_lw_law.2.1 830 = .ok (.ireturn, 1) := by decide +kernel
theorem k_lw_law_831 : decode me_lw_law.2.1 831 = .ok (.aload_n 1, 1) := by decide +kernel
theorem k_lw_law_832 : decode me_lw_law.2.1 832 = .ok (.aload_n 0, 1) := by decide +kernel
theorem k_lw_law_833 : decode me_lw_law.2.1 833 = .ok (.iload_n 3, 1) := by decide +kernel
theorem k_lw_law_834 : decode me_lw_law.2.1 834 = .ok (.iconst 1, 1) := by decide +kernel
theorem k_lw_law_835 : decode me_lw_law.2.1 835 = .ok (.iadd, 1) := by decide +kernel
theorem k_lw_law_836 : decode me_lw_law.2.1 836 = .ok (.iaload, 1) := by decide +kernel
theorem k_lw_law_837 : decode me_lw_law.2.1 837 = .ok (.aload_n 0, 1) := by decide +kernel
theorem k_lw_law_838 : decode me_lw_law.2.1 838 = .ok (.iload_n 3, 1) := by decide +kernel
theorem k_lw_law_839 : decode me_lw_law.2.1 839 = .ok (.iconst 2, 1) := by decide +kernel
theorem k_lw_law_840 : decode me_lw_law.2.1 840 = .ok (.iadd, 1) := by decide +kernel
theorem k_lw_law_841 : decode me_lw_law.2.1 841 = .ok (.iaload, 1) := by decide +kernel
theorem k_lw_law_842 : decode me_lw_law.2.1 842 = .ok (.invokevirtual 104, 3) := by decide +kernel
theorem k_lw_law_845 : decode me_lw_law.2.1 845 = .ok (.aload_n 2, 1) := by decide +kernel
theorem k_lw_law_846 : decode me_lw_law.2.1 846 = .ok (.aload_n 0, 1) := by decide +kernel
theorem k_lw_law_847 : decode me_lw_law.2.1 847 = .ok (.iload_n 3, 1) := by decide +kernel
theorem k_lw_law_848 : decode me_lw_law.2.1 848 = .ok (.iconst 1, 1) := by decide +kernel
theorem k_lw_law_849 : decode me_lw_law.2.1 849 = .ok (.iadd, 1) := by decide +kernel
theorem k_lw_law_850 : decode me_lw_law.2.1 850 = .ok (.iaload, 1) := by decide +kernel
theorem k_lw_law_851 : decode me_lw_law.2.1 851 = .ok (.aload_n 0, 1) := by decide +kernel
theorem k_lw_law_852 : decode me_lw_law.2.1 852 = .ok (.iload_n 3, 1) := by decide +kernel
theorem k_lw_law_853 : decode me_lw_law.2.1 853 = .ok (.iconst 2, 1) := by decide +kernel
theorem k_lw_law_854 : decode me_lw_law.2.1 854 = .ok (.iadd, 1) := by decide +kernel
theorem k_lw_law_855 : decode me_lw_law.2.1 855 = .ok (.iaload, 1) := by decide +kernel
theorem k_lw_law_856 : decode me_lw_law.2.1 856 = .ok (.invokevirtual 107, 3) := by decide +kernel
theorem k_lw_law_859 : decode me_lw_law.2.1 859 = .ok (.if_icmp .eq 235, 3) := by decide +kernel
theorem k_lw_law_862 : decode me_lw_law.2.1 862 = .ok (.iconst 0, 1) := by decide +kernel
theorem k_lw_law_863 : decode me_lw_law.2.1 863 = .ok (.ireturn, 1) := by decide +kernel
theorem k_lw_law_864 : decode me_lw_law.2.1 864 = .ok (.aload_n 1, 1) := by decide +kernel
theorem k_lw_law_865 : decode me_lw_law.2.1 865 = .ok (.aload_n 0, 1) := by decide +kernel
theorem k_lw_law_866 : decode me_lw_law.2.1 866 = .ok (.iload_n 3, 1) := by decide +kernel
theorem k_lw_law_867 : decode me_lw_law.2.1 867 = .ok (.iconst 1, 1) := by decide +kernel
theorem k_lw_law_868 : decode me_lw_law.2.1 868 = .ok (.iadd, 1) := by decide +kernel
theorem k_lw_law_869 : decode me_lw_law.2.1 869 = .ok (.iaload, 1) := by decide +kernel
theorem k_lw_law_870 : decode me_lw_law.2.1 870 = .ok (.invokevirtual 108, 3) := by decide +kernel
theorem k_lw_law_873 : decode me_lw_law.2.1 873 = .ok (.aload_n 2, 1) := by decide +kernel
theorem k_lw_law_874 : decode me_lw_law.2.1 874 = .ok (.aload_n 0, 1) := by decide +kernel
theorem k_lw_law_875 : decode me_lw_law.2.1 875 = .ok (.iload_n 3, 1) := by decide +kernel
theorem k_lw_law_876 : decode me_lw_law.2.1 876 = .ok (.iconst 1, 1) := by decide +kernel
theorem k_lw_law_877 : decode me_lw_law.2.1 877 = .ok (.iadd, 1) := by decide +kernel
theorem k_lw_law_878 : decode me_lw_law.2.1 878 = .ok (.iaload, 1) := by decide +kernel
theorem k_lw_law_879 : decode me_lw_law.2.1 879 = .ok (.invokevirtual 111, 3) := by decide +kernel
theorem k_lw_law_882 : decode me_lw_law.2.1 882 = .ok (.if_icmp .eq 212, 3) := by decide +kernel
theorem k_lw_law_885 : decode me_lw_law.2.1 885 = .ok (.iconst 0, 1) := by decide +kernel
theorem k_lw_law_886 : decode me_lw_law.2.1 886 = .ok (.ireturn, 1) := by decide +kernel
theorem k_lw_law_887 : decode me_lw_law.2.1 887 = .ok (.aload_n 1, 1) := by decide +kernel
theorem k_lw_law_888 : decode me_lw_law.2.1 888 = .ok (.invokevirtual 112, 3) := by decide +kernel
theorem k_lw_law_891 : decode me_lw_law.2.1 891 = .ok (.aload_n 2, 1) := by decide +kernel
theorem k_lw_law_892 : decode me_lw_law.2.1 892 = .ok (.invokevirtual 115, 3) := by decide +kernel
theorem k_lw_law_895 : decode me_lw_law.2.1 895 = .ok (.if_icmp .eq 199, 3) := by decide +kernel
theorem k_lw_law_898 : decode me_lw_law.2.1 898 = .ok (.iconst 0, 1) := by decide +kernel
theorem k_lw_law_899 : decode me_lw_law.2.1 899 = .ok (.ireturn, 1) := by decide +kernel
theorem k_lw_law_900 : decode me_lw_law.2.1 900 = .ok (.aload_n 1, 1) := by decide +kernel
theorem k_lw_law_901 : decode me_lw_law.2.1 901 = .ok (.aload_n 0, 1) := by decide +kernel
theorem k_lw_law_902 : decode me_lw_law.2.1 902 = .ok (.iload_n 3, 1) := by decide +kernel
theorem k_lw_law_903 : decode me_lw_law.2.1 903 = .ok (.iconst 1, 1) := by decide +kernel
theorem k_lw_law_904 : decode me_lw_law.2.1 904 = .ok (.iadd, 1) := by decide +kernel
theorem k_lw_law_905 : decode me_lw_law.2.1 905 = .ok (.iaload, 1) := by decide +kernel
theorem k_lw_law_906 : decode me_lw_law.2.1 906 = .ok (.invokevirtual 116, 3) := by decide +kernel
theorem k_lw_law_909 : decode me_lw_law.2.1 909 = .ok (.aload_n 2, 1) := by decide +kernel
theorem k_lw_law_910 : decode me_lw_law.2.1 910 = .ok (.aload_n 0, 1) := by decide +kernel
theorem k_lw_law_911 : decode me_lw_law.2.1 911 = .ok (.iload_n 3, 1) := by decide +kernel
theorem k_lw_law_912 : decode me_lw_law.2.1 912 = .ok (.iconst 1, 1) := by decide +kernel
theorem k_lw_law_913 : decode me_lw_law.2.1 913 = .ok (.iadd, 1) := by decide +kernel
theorem k_lw_law_914 : decode me_lw_law.2.1 914 = .ok (.iaload, 1) := by decide +kernel
theorem k_lw_law_915 : decode me_lw_law.2.1 915 = .ok (.invokevirtual 119, 3) := by decide +kernel
theorem k_lw_law_918 : decode me_lw_law.2.1 918 = .ok (.if_icmp .eq 176, 3) := by decide +kernel
theorem k_lw_law_921 : decode me_lw_law.2.1 921 = .ok (.iconst 0, 1) := by decide +kernel
theorem k_lw_law_922 : decode me_lw_law.2.1 922 = .ok (.ireturn, 1) := by decide +kernel
theorem k_lw_law_923 : decode me_lw_law.2.1 923 = .ok (.aload_n 1, 1) := by decide +kernel
theorem k_lw_law_924 : decode me_lw_law.2.1 924 = .ok (.invokevirtual 120, 3) := by decide +kernel
theorem k_lw_law_927 : decode me_lw_law.2.1 927 = .ok (.aload_n 2, 1) := by decide +kernel
theorem k_lw_law_928 : decode me_lw_law.2.1 928 = .ok (.invokevirtual 123, 3) := by decide +kernel
theorem k_lw_law_931 : decode me_lw_law.2.1 931 = .ok (.if_icmp .eq 163, 3) := by decide +kernel
theorem k_lw_law_934 : decode me_lw_law.2.1 934 = .ok (.iconst 0, 1) := by decide +kernel
theorem k_lw_law_935 : decode me_lw_law.2.1 935 = .ok (.ireturn, 1) := by decide +kernel
theorem k_lw_law_936 : decode me_lw_law.2.1 936 = .ok (.aload_n 1, 1) := by decide +kernel
theorem k_lw_law_937 : decode me_lw_law.2.1 937 = .ok (.aload_n 0, 1) := by decide +kernel
theorem k_lw_law_938 : decode me_lw_law.2.1 938 = .ok (.iload_n 3, 1) := by decide +kernel
theorem k_lw_law_939 : decode me_lw_law.2.1 939 = .ok (.iconst 1, 1) := by decide +kernel
theorem k_lw_law_940 : decode me_lw_law.2.1 940 = .ok (.iadd, 1) := by decide +kernel
theorem k_lw_law_941 : decode me_lw_law.2.1 941 = .ok (.iaload, 1) := by decide +kernel
theorem k_lw_law_942 : decode me_lw_law.2.1 942 = .ok (.invokevirtual 124, 3) := by decide +kernel
theorem k_lw_law_945 : decode me_lw_law.2.1 945 = .ok (.aload_n 2, 1) := by decide +kernel
theorem k_lw_law_946 : decode me_lw_law.2.1 946 = .ok (.aload_n 0, 1) := by decide +kernel
theorem k_lw_law_947 : decode me_lw_law.2.1 947 = .ok (.iload_n 3, 1) := by decide +kernel
theorem k_lw_law_948 : decode me_lw_law.2.1 948 = .ok (.iconst 1, 1) := by decide +kernel
theorem k_lw_law_949 : decode me_lw_law.2.1 949 = .ok (.iadd, 1) := by decide +kernel
theorem k_lw_law_950 : decode me_lw_law.2.1 950 = .ok (.iaload, 1) := by decide +kernel
theorem k_lw_law_951 : decode me_lw_law.2.1 951 = .ok (.invokevirtual 127, 3) := by decide +kernel
theorem k_lw_law_954 : decode me_lw_law.2.1 954 = .ok (.if_icmp .eq 140, 3) := by decide +kernel
theorem k_lw_law_957 : decode me_lw_law.2.1 957 = .ok (.iconst 0, 1) := by decide +kernel
theorem k_lw_law_958 : decode me_lw_law.2.1 958 = .ok (.ireturn, 1) := by decide +kernel
theorem k_lw_law_959 : decode me_lw_law.2.1 959 = .ok (.aload_n 1, 1) := by decide +kernel
theorem k_lw_law_960 : decode me_lw_law.2.1 960 = .ok (.aload_n 0, 1) := by decide +kernel
theorem k_lw_law_961 : decode me_lw_law.2.1 961 = .ok (.iload_n 3, 1) := by decide +kernel
theorem k_lw_law_962 : decode me_lw_law.2.1 962 = .ok (.iconst 1, 1) := by decide +kernel
theorem k_lw_law_963 : decode me_lw_law.2.1 963 = .ok (.iadd, 1) := by decide +kernel
theorem k_lw_law_964 : decode me_lw_law.2.1 964 = .ok (.iaload, 1) := by decide +kernel
theorem k_lw_law_965 : decode me_lw_law.2.1 965 = .ok (.invokevirtual 128, 3) := by decide +kernel
theorem k_lw_law_968 : decode me_lw_law.2.1 968 = .ok (.aload_n 2, 1) := by decide +kernel
theorem k_lw_law_969 : decode me_lw_law.2.1 969 = .ok (.aload_n 0, 1) := by decide +kernel
theorem k_lw_law_970 : decode me_lw_law.2.1 970 = .ok (.iload_n 3, 1) := by decide +kernel
theorem k_lw_law_971 : decode me_lw_law.2.1 971 = .ok (.iconst 1, 1) := by decide +kernel
theorem k_lw_law_972 : decode me_lw_law.2.1 972 = .ok (.iadd, 1) := by decide +kernel
theorem k_lw_law_973 : decode me_lw_law.2.1 973 = .ok (.iaload, 1) := by decide +kernel
theorem k_lw_law_974 : decode me_lw_law.2.1 974 = .ok (.invokevirtual 131, 3) := by decide +kernel
theorem k_lw_law_977 : decode me_lw_law.2.1 977 = .ok (.if_icmp .eq 117, 3) := by decide +kernel
theorem k_lw_law_980 : decode me_lw_law.2.1 980 = .ok (.iconst 0, 1) := by decide +kernel
theorem k_lw_law_981 : decode me_lw_law.2.1 981 = .ok (.ireturn, 1) := by decide +kernel
theorem k_lw_law_982 : decode me_lw_law.2.1 982 = .ok (.aload_n 1, 1) := by decide +kernel
theorem k_lw_law_983 : decode me_lw_law.2.1 983 = .ok (.aload_n 0, 1) := by decide +kernel
theorem k_lw_law_984 : decode me_lw_law.2.1 984 = .ok (.iload_n 3, 1) := by decide +kernel
theorem k_lw_law_985 : decode me_lw_law.2.1 985 = .ok (.iconst 1, 1) := by decide +kernel
theorem k_lw_law_986 : decode me_lw_law.2.1 986 = .ok (.iadd, 1) := by decide +kernel
theorem k_lw_law_987 : decode me_lw_law.2.1 987 = .ok (.iaload, 1) := by decide +kernel
theorem k_lw_law_988 : decode me_lw_law.2.1 988 = .ok (.invokevirtual 132, 3) := by decide +kernel
theorem k_lw_law_991 : decode me_lw_law.2.1 991 = .ok (.aload_n 2, 1) := by decide +kernel
theorem k_lw_law_992 : decode me_lw_law.2.1 992 = .ok (.aload_n 0, 1) := by decide +kernel
theorem k_lw_law_993 : decode me_lw_law.2.1 993 = .ok (.iload_n 3, 1) := by decide +kernel
theorem k_lw_law_994 : decode me_lw_law.2.1 994 = .ok (.iconst 1, 1) := by decide +kernel
theorem k_lw_law_995 : decode me_lw_law.2.1 995 = .ok (.iadd, 1) := by decide +kernel
theorem k_lw_law_996 : decode me_lw_law.2.1 996 = .ok (.iaload, 1) := by decide +kernel
theorem k_lw_law_997 : decode me_lw_law.2.1 997 = .ok (.invokevirtual 135, 3) := by decide +kernel
theorem k_lw_law_1000 : decode me_lw_law.2.1 1000 = .ok (.if_icmp .eq 94, 3) := by decide +kernel
theorem k_lw_law_1003 : decode me_lw_law.2.1 1003 = .ok (.iconst 0, 1) := by decide +kernel
theorem k_lw_law_1004 : decode me_lw_law.2.1 1004 = .ok (.ireturn, 1) := by decide +kernel
theorem k_lw_law_1005 : decode me_lw_law.2.1 1005 = .ok (.aload_n 1, 1) := by decide +kernel
theorem k_lw_law_1006 : decode me_lw_law.2.1 1006 = .ok (.aload_n 0, 1) := by decide +kernel
theorem k_lw_law_1007 : decode me_lw_law.2.1 1007 = .ok (.iload_n 3, 1) := by decide +kernel
theorem k_lw_law_1008 : decode me_lw_law.2.1 1008 = .ok (.iconst 1, 1) := by decide +kernel
theorem k_lw_law_1009 : decode me_lw_law.2.1 1009 = .ok (.iadd, 1) := by decide +kernel
theorem k_lw_law_1010 : decode me_lw_law.2.1 1010 = .ok (.iaload, 1) := by decide +kernel
theorem k_lw_law_1011 : decode me_lw_law.2.1 1011 = .ok (.aload_n 0, 1) := by decide +kernel
theorem k_lw_law_1012 : decode me_lw_law.2.1 1012 = .ok (.iload_n 3, 1) := by decide +kernel
theorem k_lw_law_1013 : decode me_lw_law.2.1 1013 = .ok (.iconst 2, 1) := by decide +kernel
theorem k_lw_law_1014 : decode me_lw_law.2.1 1014 = .ok (.iadd, 1) := by decide +kernel
theorem k_lw_law_1015 : decode me_lw_law.2.1 1015 = .ok (.iaload, 1) := by decide +kernel
theorem k_lw_law_1016 : decode me_lw_law.2.1 1016 = .ok (.invokevirtual 136, 3) := by decide +kernel
theorem k_lw_law_1019 : decode me_lw_law.2.1 1019 = .ok (.aload_n 2, 1) := by decide +kernel
theorem k_lw_law_1020 : decode me_lw_law.2.1 1020 = .ok (.aload_n 0, 1) := by decide +kernel
theorem k_lw_law_1021 : decode me_lw_law.2.1 1021 = .ok (.iload_n 3, 1) := by decide +kernel
theorem k_lw_law_1022 : decode me_lw_law.2.1 1022 = .ok (.iconst 1, 1) := by decide +kernel
theorem k_lw_law_1023 : decode me_lw_law.2.1 1023 = .ok (.iadd, 1) := by decide +kernel
theorem k_lw_law_1024 : decode me_lw_law.2.1 1024 = .ok (.iaload, 1) := by decide +kernel
theorem k_lw_law_1025 : decode me_lw_law.2.1 1025 = .ok (.aload_n 0, 1) := by decide +kernel
theorem k_lw_law_1026 : decode me_lw_law.2.1 1026 = .ok (.iload_n 3, 1) := by decide +kernel
theorem k_lw_law_1027 : decode me_lw_law.2.1 1027 = .ok (.iconst 2, 1) := by decide +kernel
theorem k_lw_law_1028 : decode me_lw_law.2.1 1028 = .ok (.iadd, 1) := by decide +kernel
theorem k_lw_law_1029 : decode me_lw_law.2.1 1029 = .ok (.iaload, 1) := by decide +kernel
theorem k_lw_law_1030 : decode me_lw_law.2.1 1030 = .ok (.invokevirtual 139, 3) := by decide +kernel
theorem k_lw_law_1033 : decode me_lw_law.2.1 1033 = .ok (.if_icmp .eq 61, 3) := by decide +kernel
theorem k_lw_law_1036 : decode me_lw_law.2.1 1036 = .ok (.iconst 0, 1) := by decide +kernel
theorem k_lw_law_1037 : decode me_lw_law.2.1 1037 = .ok (.ireturn, 1) := by decide +kernel
theorem k_lw_law_1038 : decode me_lw_law.2.1 1038 = .ok (.aload_n 1, 1) := by decide +kernel
theorem k_lw_law_1039 : decode me_lw_law.2.1 1039 = .ok (.aload_n 0, 1) := by decide +kernel
theorem k_lw_law_1040 : decode me_lw_law.2.1 1040 = .ok (.iload_n 3, 1) := by decide +kernel
theorem k_lw_law_1041 : decode me_lw_law.2.1 1041 = .ok (.iconst 1, 1) := by decide +kernel
theorem k_lw_law_1042 : decode me_lw_law.2.1 1042 = .ok (.iadd, 1) := by decide +kernel
theorem k_lw_law_1043 : decode me_lw_law.2.1 1043 = .ok (.iaload, 1) := by decide +kernel
theorem k_lw_law_1044 : decode me_lw_law.2.1 1044 = .ok (.aload_n 0, 1) := by decide +kernel
theorem k_lw_law_1045 : decode me_lw_law.2.1 1045 = .ok (.iload_n 3, 1) := by decide +kernel
theorem k_lw_law_1046 : decode me_lw_law.2.1 1046 = .ok (.iconst 2, 1) := by decide +kernel
theorem k_lw_law_1047 : decode me_lw_law.2.1 1047 = .ok (.iadd, 1) := by decide +kernel
theorem k_lw_law_1048 : decode me_lw_law.2.1 1048 = .ok (.iaload, 1) := by decide +kernel
theorem k_lw_law_1049 : decode me_lw_law.2.1 1049 = .ok (.invokevirtual 140, 3) := by decide +kernel
theorem k_lw_law_1052 : decode me_lw_law.2.1 1052 = .ok (.aload_n 2, 1) := by decide +kernel
theorem k_lw_law_1053 : decode me_lw_law.2.1 1053 = .ok (.aload_n 0, 1) := by decide +kernel
theorem k_lw_law_1054 : decode me_lw_law.2.1 1054 = .ok (.iload_n 3, 1) := by decide +kernel
theorem k_lw_law_1055 : decode me_lw_law.2.1 1055 = .ok (.iconst 1, 1) := by decide +kernel
theorem k_lw_law_1056 : decode me_lw_law.2.1 1056 = .ok (.iadd, 1) := by decide +kernel
theorem k_lw_law_1057 : decode me_lw_law.2.1 1057 = .ok (.iaload, 1) := by decide +kernel
theorem k_lw_law_1058 : decode me_lw_law.2.1 1058 = .ok (.aload_n 0, 1) := by decide +kernel
theorem k_lw_law_1059 : decode me_lw_law.2.1 1059 = .ok (.iload_n 3, 1) := by decide +kernel
theorem k_lw_law_1060 : decode me_lw_law.2.1 1060 = .ok (.iconst 2, 1) := by decide +kernel
theorem k_lw_law_1061 : decode me_lw_law.2.1 1061 = .ok (.iadd, 1) := by decide +kernel
theorem k_lw_law_1062 : decode me_lw_law.2.1 1062 = .ok (.iaload, 1) := by decide +kernel
theorem k_lw_law_1063 : decode me_lw_law.2.1 1063 = .ok (.invokevirtual 143, 3) := by decide +kernel
theorem k_lw_law_1066 : decode me_lw_law.2.1 1066 = .ok (.if_icmp .eq 28, 3) := by decide +kernel
theorem k_lw_law_1069 : decode me_lw_law.2.1 1069 = .ok (.iconst 0, 1) := by decide +kernel
theorem k_lw_law_1070 : decode me_lw_law.2.1 1070 = .ok (.ireturn, 1) := by decide +kernel
theorem k_lw_law_1071 : decode me_lw_law.2.1 1071 = .ok (.aload_n 1, 1) := by decide +kernel
theorem k_lw_law_1072 : decode me_lw_law.2.1 1072 = .ok (.aload_n 0, 1) := by decide +kernel
theorem k_lw_law_1073 : decode me_lw_law.2.1 1073 = .ok (.iload_n 3, 1) := by decide +kernel
theorem k_lw_law_1074 : decode me_lw_law.2.1 1074 = .ok (.iconst 1, 1) := by decide +kernel
theorem k_lw_law_1075 : decode me_lw_law.2.1 1075 = .ok (.iadd, 1) := by decide +kernel
theorem k_lw_law_1076 : decode me_lw_law.2.1 1076 = .ok (.iaload, 1) := by decide +kernel
theorem k_lw_law_1077 : decode me_lw_law.2.1 1077 = .ok (.invokevirtual 144, 3) := by decide +kernel
theorem k_lw_law_1080 : decode me_lw_law.2.1 1080 = .ok (.aload_n 2, 1) := by decide +kernel
theorem k_lw_law_1081 : decode me_lw_law.2.1 1081 = .ok (.aload_n 0, 1) := by decide +kernel
theorem k_lw_law_1082 : decode me_lw_law.2.1 1082 = .ok (.iload_n 3, 1) := by decide +kernel
theorem k_lw_law_1083 : decode me_lw_law.2.1 1083 = .ok (.iconst 1, 1) := by decide +kernel
theorem k_lw_law_1084 : decode me_lw_law.2.1 1084 = .ok (.iadd, 1) := by decide +kernel
theorem k_lw_law_1085 : decode me_lw_law.2.1 1085 = .ok (.iaload, 1) := by decide +kernel
theorem k_lw_law_1086 : decode me_lw_law.2.1 1086 = .ok (.invokevirtual 147, 3) := by decide +kernel
theorem k_lw_law_1089 : decode me_lw_law.2.1 1089 = .ok (.if_icmp .eq 5, 3) := by decide +kernel
theorem k_lw_law_1092 : decode me_lw_law.2.1 1092 = .ok (.iconst 0, 1) := by decide +kernel
theorem k_lw_law_1093 : decode me_lw_law.2.1 1093 = .ok (.ireturn, 1) := by decide +kernel
theorem k_lw_law_1094 : decode me_lw_law.2.1 1094 = .ok (.iinc 3 6, 3) := by decide +kernel
theorem k_lw_law_1097 : decode me_lw_law.2.1 1097 = .ok (.goto (-1079), 3) := by decide +kernel
theorem k_lw_law_1100 : decode me_lw_law.2.1 1100 = .ok (.iconst 1, 1) := by decide +kernel
theorem k_lw_law_1101 : decode me_lw_law.2.1 1101 = .ok (.ireturn, 1) := by decide +kernel
end
section
/-! what stays: where the fixed pointers point, how long the fixed rows are, of which kind the others are; and the helpers of the printed walks -/
def mst : Nat → Nat → Option (Nat × Nat)
  | 0, 0 => some (1, 0)
  | 0, 1 => some (2, 3)
  | 0, 2 => some (3, 0)
  | 0, 3 => some (4, 0)
  | 0, 4 => some (5, 0)
  | 0, 5 => some (11, 5)
  | 1, 0 => some (2, 0)
  | 1, 1 => some (2, 1)
  | 1, 2 => some (2, 2)
  | 3, 0 => some (1, 0)
  | 3, 1 => some (2, 3)
  | 4, 0 => some (1, 0)
  | 4, 1 => some (2, 3)
  | 4, 2 => some (11, 0)
  | 4, 3 => some (11, 1)
  | 4, 4 => some (11, 2)
  | 4, 5 => some (11, 3)
  | 4, 6 => some (11, 4)
  | 5, 0 => some (1, 0)
  | 10, 0 => some (11, 6)
  | 10, 8 => some (11, 7)
  | 10, 9 => some (11, 8)
  | 10, 10 => some (11, 9)
  | 10, 11 => some (11, 10)
  | 10, 12 => some (11, 11)
  | 10, 13 => some (11, 12)
  | 10, 14 => some (11, 13)
  | 10, 15 => some (11, 14)
  | 10, 16 => some (11, 15)
  | 10, 17 => some (11, 16)
  | 10, 18 => some (11, 17)
  | 10, 19 => some (11, 18)
  | 10, 20 => some (11, 19)
  | 10, 21 => some (11, 20)
  | 10, 22 => some (12, 0)
  | 10, 23 => some (11, 21)
  | 10, 24 => some (11, 22)
  | 10, 25 => some (11, 23)
  | 10, 26 => some (12, 1)
  | 10, 27 => some (11, 24)
  | 10, 28 => some (11, 25)
  | 10, 29 => some (11, 26)
  | 10, 30 => some (11, 27)
  | 10, 31 => some (11, 28)
  | 10, 32 => some (11, 29)
  | 10, 33 => some (11, 30)
  | 10, 34 => some (11, 31)
  | 10, 35 => some (11, 32)
  | 10, 36 => some (11, 33)
  | 10, 37 => some (11, 34)
  | 10, 38 => some (12, 2)
  | 10, 39 => some (11, 35)
  | 10, 49 => some (11, 36)
  | 10, 50 => some (11, 37)
  | 10, 51 => some (11, 38)
  | 10, 53 => some (11, 39)
  | 10, 54 => some (12, 3)
  | 10, 62 => some (12, 4)
  | _, _ => none
def mln : Nat → Nat → Option Nat
  | 11, 0 => some 576
  | 11, 1 => some 576
  | 11, 2 => some 576
  | 11, 3 => some 576
  | 11, 4 => some 576
  | 11, 5 => some 7
  | 11, 6 => some 7
  | 11, 7 => some 4
  | 11, 8 => some 4
  | 11, 9 => some 4
  | 11, 10 => some 4
  | 11, 11 => some 4
  | 11, 12 => some 4
  | 11, 13 => some 4
  | 11, 14 => some 30
  | 11, 15 => some 30
  | 11, 16 => some 30
  | 11, 17 => some 30
  | 11, 18 => some 30
  | 11, 19 => some 30
  | 11, 20 => some 30
  | 11, 21 => some 24
  | 11, 22 => some 24
  | 11, 23 => some 24
  | 11, 24 => some 12
  | 11, 25 => some 12
  | 11, 26 => some 12
  | 11, 27 => some 12
  | 11, 28 => some 30
  | 11, 29 => some 30
  | 11, 30 => some 30
  | 11, 31 => some 30
  | 11, 32 => some 4
  | 11, 33 => some 4
  | 11, 34 => some 4
  | 11, 35 => some 30
  | 11, 36 => some 576
  | 11, 37 => some 576
  | 11, 38 => some 576
  | 11, 39 => some 60
  | 12, 0 => some 30
  | 12, 1 => some 24
  | 12, 2 => some 24
  | 12, 3 => some 60
  | 12, 4 => some 30
  | _, _ => none
def mkn : Nat → Nat → Option Nat
  | 7, 1 => some 6
  | 7, 2 => some 7
  | 7, 9 => some 8
  | 8, 2 => some 7
  | _, _ => none
def mSK (h : mH) : Prop := (∀ k f r, mst k f = some r → hP h k 0 f = some r) ∧ (∀ k n l, mln k n = some l → hL h k n = l) ∧ (∀ k n f t r, mkn k f = some t → hP h k n f = some r → r.1 = t)
theorem mSK.of {h h' : mH} (S : mSK h) (e : h'.1 = h.1) : mSK h' := by
  obtain ⟨s, i⟩ := h
  obtain ⟨s', i'⟩ := h'
  cases e
  exact S
/-- a place of a list -/
def mGet (h : mH) (l : Nat) (i : Int32) (r : Option (Nat × Nat)) : Prop := ∃ ed : Nat, hP h 2 l 0 = some (13, ed) ∧ ¬ i < 0 ∧ i < hI h 2 l 1 ∧ vp_in i (hL h 13 ed) ∧ hP h 13 ed i.toNatClampNeg = r
theorem mGet.up {h h' : mH} {l : Nat} {i : Int32} {r : Option (Nat × Nat)} (G : mGet h l i r) (e : h'.1 = h.1) (e2 : hI h' 2 l 1 = hI h 2 l 1) : mGet h' l i r := by
  obtain ⟨s, j⟩ := h
  obtain ⟨s', j'⟩ := h'
  cases e
  obtain ⟨ed, a, b, c, d, f⟩ := G
  exact ⟨ed, a, b, by rw [e2]; exact c, d, f⟩
theorem hI_nk {h : mH} {k n f : Nat} {v : Int32} {k' n' f' : Nat} (q : k' ≠ k) : hI (setI h k n f v) k' n' f' = hI h k' n' f' := if_neg (fun z => q z.1)
theorem hI_nf {h : mH} {k n f : Nat} {v : Int32} {k' n' f' : Nat} (q : f' ≠ f) : hI (setI h k n f v) k' n' f' = hI h k' n' f' := if_neg (fun z => q z.2.2)
theorem hI_nn {h : mH} {k n f : Nat} {v : Int32} {k' n' f' : Nat} (q : n' ≠ n) : hI (setI h k n f v) k' n' f' = hI h k' n' f' := if_neg (fun z => q z.2.1)
theorem hI_eq {h : mH} {k n f : Nat} {v : Int32} : hI (setI h k n f v) k n f = v := if_pos ⟨rfl, rfl, rfl⟩
theorem hI_setP {h : mH} {k n f : Nat} {v : Option (Nat × Nat)} {k' n' f' : Nat} : hI (setP h k n f v) k' n' f' = hI h k' n' f' := rfl
theorem hI_newk {h : mH} {k l k' n' f' : Nat} (q : k' ≠ k) : hI (newC h k l) k' n' f' = hI h k' n' f' := if_neg (fun z => q z.1)
theorem hP_setI {h : mH} {k n f : Nat} {v : Int32} {k' n' f' : Nat} : hP (setI h k n f v) k' n' f' = hP h k' n' f' := rfl
theorem hP_nk {h : mH} {k n f : Nat} {v : Option (Nat × Nat)} {k' n' f' : Nat} (q : k' ≠ k) : hP (setP h k n f v) k' n' f' = hP h k' n' f' := if_neg (fun z => q z.1)
theorem hP_nf {h : mH} {k n f : Nat} {v : Option (Nat × Nat)} {k' n' f' : Nat} (q : f' ≠ f) : hP (setP h k n f v) k' n' f' = hP h k' n' f' := if_neg (fun z => q z.2.2)
theorem hP_eq {h : mH} {k n f : Nat} {v : Option (Nat × Nat)} : hP (setP h k n f v) k n f = v := if_pos ⟨rfl, rfl, rfl⟩
theorem hP_newk {h : mH} {k l k' n' f' : Nat} (q : k' ≠ k) : hP (newC h k l) k' n' f' = hP h k' n' f' := if_neg (fun z => q z.1)
theorem mvin {h : mH} {k n l : Nat} {i : Int32} (e : hL h k n = l) (o : vp_in i l) : vp_in i (hL h k n) := by rw [e]; exact o
theorem mzret {x : Int32} (h : vp_nar .boolean x = x) : narrow .boolean (.int x) = .int x := by
  unfold vp_nar at h
  cases hn : narrow .boolean (.int x) with
  | int y => rw [hn] at h; dsimp only at h; rw [h]
  | _ => simp [narrow] at hn
theorem mzput {x : Int32} (h : vp_nar .boolean x = x) : narrow .boolean (.int x) = .int x ∧ fits .boolean (.int x) = true := by
  refine ⟨mzret h, ?_⟩
  have h2 := mzret h
  rw [← h2]
  simp [narrow, fits]
theorem mtoI {x c : Int32} (h : x.toInt = c.toInt) : x = c := Int32.toInt_inj.mp h
section TR
variable {g : mG} {m : mMe} {d mc ms pc : Nat} {L : List (Option mV)} {st : List mV} {h : mH} {Q : Option mV → mH → Prop}
theorem tr_getIx {k n f idx : Nat} {x : Int32} (hc : decode m.2.1 pc = .ok (.getfield idx, 3)) (hf : mFl m.1.cls idx k f) (ht : misR (mty k f) = false) (hx : hI h k n f = x) (kk : mT g m d mc ms (pc + 3) L (vi x :: st) h Q) : mT g m d mc ms pc L (vr k n :: st) h Q := tr_getI hc hf ht (by rw [hx]; exact kk)
theorem tr_ialdx {n : Nat} {i x : Int32} (hc : decode m.2.1 pc = .ok (.iaload, 1)) (hin : vp_in i (hL h 11 n)) (hx : hI h 11 n i.toNatClampNeg = x) (kk : mT g m d mc ms (pc + 1) L (vi x :: st) h Q) : mT g m d mc ms pc L (vi i :: vr 11 n :: st) h Q := tr_iald hc hin (by rw [hx]; exact kk)
theorem tr_zaldx {n : Nat} {i x : Int32} (hc : decode m.2.1 pc = .ok (.baload, 1)) (hin : vp_in i (hL h 12 n)) (hx : hI h 12 n i.toNatClampNeg = x) (kk : mT g m d mc ms (pc + 1) L (vi x :: st) h Q) : mT g m d mc ms pc L (vi i :: vr 12 n :: st) h Q := tr_zald hc hin (by rw [hx]; exact kk)
end TR
end
