section
-- pasted from kit/laws/SKELETON.whole (PART A)
-- ===== PART A: goes FIRST, ahead of the names: the tables' words, and 'selects' of the private methods out of them =====
/-- a private method of a class that the tables say can be made, by its rows of tables_1 -/
def lw_okq (q : MethodName × Nat) : Prop := (q.1.cls ≠ "java/lang/invoke/MethodHandle" ∧ q.1.cls ≠ "java/lang/invoke/VarHandle") ∧ Cond.instantiable q.1.cls q.2 ∈ tables_1 ∧ Cond.privateMethod q.1 ∈ tables_1 ∧ Cond.instanceMethod q.1 ∈ tables_1
theorem lw_p0 : lw_okq (⟨"FountainNet", "refuse", "(I)I"⟩, 7) := ⟨⟨by decide +kernel, by decide +kernel⟩, List.mem_of_getElem? (i := 22) (by decide +kernel), List.mem_of_getElem? (i := 217) (by decide +kernel), List.mem_of_getElem? (i := 218) (by decide +kernel)⟩
theorem lw_p1 : lw_okq (⟨"java/util/ArrayList", "add", "(Ljava/lang/Object;[Ljava/lang/Object;I)V"⟩, 3) := ⟨⟨by decide +kernel, by decide +kernel⟩, List.mem_of_getElem? (i := 36) (by decide +kernel), List.mem_of_getElem? (i := 275) (by decide +kernel), List.mem_of_getElem? (i := 276) (by decide +kernel)⟩
theorem lw_p2 : lw_okq (⟨"java/util/ArrayList", "grow", "()[Ljava/lang/Object;"⟩, 3) := ⟨⟨by decide +kernel, by decide +kernel⟩, List.mem_of_getElem? (i := 36) (by decide +kernel), List.mem_of_getElem? (i := 279) (by decide +kernel), List.mem_of_getElem? (i := 280) (by decide +kernel)⟩
theorem lw_p3 : lw_okq (⟨"java/util/ArrayList", "grow", "(I)[Ljava/lang/Object;"⟩, 3) := ⟨⟨by decide +kernel, by decide +kernel⟩, List.mem_of_getElem? (i := 36) (by decide +kernel), List.mem_of_getElem? (i := 283) (by decide +kernel), List.mem_of_getElem? (i := 284) (by decide +kernel)⟩
theorem lw_p4 : lw_okq (⟨"FountainNet$Garden", "forgetFlows", "()V"⟩, 5) := ⟨⟨by decide +kernel, by decide +kernel⟩, List.mem_of_getElem? (i := 30) (by decide +kernel), List.mem_of_getElem? (i := 517) (by decide +kernel), List.mem_of_getElem? (i := 518) (by decide +kernel)⟩
theorem lw_p5 : lw_okq (⟨"FountainNet$Garden", "addFlowAhead", "(LFountainNet$Joint;)V"⟩, 5) := ⟨⟨by decide +kernel, by decide +kernel⟩, List.mem_of_getElem? (i := 30) (by decide +kernel), List.mem_of_getElem? (i := 526) (by decide +kernel), List.mem_of_getElem? (i := 527) (by decide +kernel)⟩
theorem lw_p6 : lw_okq (⟨"FountainNet", "refuseAsTold", "(I)I"⟩, 7) := ⟨⟨by decide +kernel, by decide +kernel⟩, List.mem_of_getElem? (i := 22) (by decide +kernel), List.mem_of_getElem? (i := 539) (by decide +kernel), List.mem_of_getElem? (i := 540) (by decide +kernel)⟩
theorem lw_p7 : lw_okq (⟨"java/util/ArrayList", "fastRemove", "([Ljava/lang/Object;I)V"⟩, 3) := ⟨⟨by decide +kernel, by decide +kernel⟩, List.mem_of_getElem? (i := 36) (by decide +kernel), List.mem_of_getElem? (i := 636) (by decide +kernel), List.mem_of_getElem? (i := 637) (by decide +kernel)⟩
theorem lw_p8 : lw_okq (⟨"FountainNet$Stroll", "lastMinute", "()I"⟩, 8) := ⟨⟨by decide +kernel, by decide +kernel⟩, List.mem_of_getElem? (i := 91) (by decide +kernel), List.mem_of_getElem? (i := 649) (by decide +kernel), List.mem_of_getElem? (i := 650) (by decide +kernel)⟩
theorem lw_p9 : lw_okq (⟨"FountainNet$Stroll", "begin", "()V"⟩, 8) := ⟨⟨by decide +kernel, by decide +kernel⟩, List.mem_of_getElem? (i := 91) (by decide +kernel), List.mem_of_getElem? (i := 664) (by decide +kernel), List.mem_of_getElem? (i := 665) (by decide +kernel)⟩
theorem lw_p10 : lw_okq (⟨"FountainNet$Stroll", "lookAtRises", "(LFountainNet$View;Z)LFountainNet$Jet;"⟩, 8) := ⟨⟨by decide +kernel, by decide +kernel⟩, List.mem_of_getElem? (i := 91) (by decide +kernel), List.mem_of_getElem? (i := 672) (by decide +kernel), List.mem_of_getElem? (i := 673) (by decide +kernel)⟩
theorem lw_p11 : lw_okq (⟨"FountainNet$Stroll", "passMinute", "()V"⟩, 8) := ⟨⟨by decide +kernel, by decide +kernel⟩, List.mem_of_getElem? (i := 91) (by decide +kernel), List.mem_of_getElem? (i := 679) (by decide +kernel), List.mem_of_getElem? (i := 680) (by decide +kernel)⟩
theorem lw_p12 : lw_okq (⟨"FountainNet$TaskList", "addChange", "(III)V"⟩, 8) := ⟨⟨by decide +kernel, by decide +kernel⟩, List.mem_of_getElem? (i := 128) (by decide +kernel), List.mem_of_getElem? (i := 704) (by decide +kernel), List.mem_of_getElem? (i := 705) (by decide +kernel)⟩
theorem lw_p13 : lw_okq (⟨"FountainNet$TaskList", "mostApartAhead", "(II)I"⟩, 8) := ⟨⟨by decide +kernel, by decide +kernel⟩, List.mem_of_getElem? (i := 128) (by decide +kernel), List.mem_of_getElem? (i := 726) (by decide +kernel), List.mem_of_getElem? (i := 727) (by decide +kernel)⟩
theorem lw_p14 : lw_okq (⟨"FountainNet$LeakSearch", "forgetFound", "()V"⟩, 6) := ⟨⟨by decide +kernel, by decide +kernel⟩, List.mem_of_getElem? (i := 161) (by decide +kernel), List.mem_of_getElem? (i := 750) (by decide +kernel), List.mem_of_getElem? (i := 751) (by decide +kernel)⟩
theorem lw_p15 : lw_okq (⟨"FountainNet$LeakSearch", "isAnyRead", "()Z"⟩, 6) := ⟨⟨by decide +kernel, by decide +kernel⟩, List.mem_of_getElem? (i := 161) (by decide +kernel), List.mem_of_getElem? (i := 754) (by decide +kernel), List.mem_of_getElem? (i := 755) (by decide +kernel)⟩
def lw_privs_1 : List (MethodName × Nat) := [(⟨"FountainNet", "refuse", "(I)I"⟩, 7), (⟨"java/util/ArrayList", "add", "(Ljava/lang/Object;[Ljava/lang/Object;I)V"⟩, 3), (⟨"java/util/ArrayList", "grow", "()[Ljava/lang/Object;"⟩, 3), (⟨"java/util/ArrayList", "grow", "(I)[Ljava/lang/Object;"⟩, 3), (⟨"FountainNet$Garden", "forgetFlows", "()V"⟩, 5), (⟨"FountainNet$Garden", "addFlowAhead", "(LFountainNet$Joint;)V"⟩, 5), (⟨"FountainNet", "refuseAsTold", "(I)I"⟩, 7), (⟨"java/util/ArrayList", "fastRemove", "([Ljava/lang/Object;I)V"⟩, 3), (⟨"FountainNet$Stroll", "lastMinute", "()I"⟩, 8), (⟨"FountainNet$Stroll", "begin", "()V"⟩, 8), (⟨"FountainNet$Stroll", "lookAtRises", "(LFountainNet$View;Z)LFountainNet$Jet;"⟩, 8), (⟨"FountainNet$Stroll", "passMinute", "()V"⟩, 8), (⟨"FountainNet$TaskList", "addChange", "(III)V"⟩, 8), (⟨"FountainNet$TaskList", "mostApartAhead", "(II)I"⟩, 8), (⟨"FountainNet$LeakSearch", "forgetFound", "()V"⟩, 6), (⟨"FountainNet$LeakSearch", "isAnyRead", "()Z"⟩, 6)]
theorem lw_r1 : ∀ q ∈ lw_privs_1, lw_okq q := List.forall_mem_cons.mpr ⟨lw_p0, List.forall_mem_cons.mpr ⟨lw_p1, List.forall_mem_cons.mpr ⟨lw_p2, List.forall_mem_cons.mpr ⟨lw_p3, List.forall_mem_cons.mpr ⟨lw_p4, List.forall_mem_cons.mpr ⟨lw_p5, List.forall_mem_cons.mpr ⟨lw_p6, List.forall_mem_cons.mpr ⟨lw_p7, List.forall_mem_cons.mpr ⟨lw_p8, List.forall_mem_cons.mpr ⟨lw_p9, List.forall_mem_cons.mpr ⟨lw_p10, List.forall_mem_cons.mpr ⟨lw_p11, List.forall_mem_cons.mpr ⟨lw_p12, List.forall_mem_cons.mpr ⟨lw_p13, List.forall_mem_cons.mpr ⟨lw_p14, List.forall_mem_cons.mpr ⟨lw_p15, fun _ h => absurd h List.not_mem_nil⟩⟩⟩⟩⟩⟩⟩⟩⟩⟩⟩⟩⟩⟩⟩⟩
theorem lw_p16 : lw_okq (⟨"FountainNet$LeakSearch", "misses", "()I"⟩, 6) := ⟨⟨by decide +kernel, by decide +kernel⟩, List.mem_of_getElem? (i := 161) (by decide +kernel), List.mem_of_getElem? (i := 761) (by decide +kernel), List.mem_of_getElem? (i := 762) (by decide +kernel)⟩
theorem lw_p17 : lw_okq (⟨"FountainNet$LeakSearch", "explainsAlone", "(LFountainNet$Joint;)Z"⟩, 6) := ⟨⟨by decide +kernel, by decide +kernel⟩, List.mem_of_getElem? (i := 161) (by decide +kernel), List.mem_of_getElem? (i := 768) (by decide +kernel), List.mem_of_getElem? (i := 769) (by decide +kernel)⟩
theorem lw_p18 : lw_okq (⟨"FountainNet$LeakSearch", "explainTogether", "(LFountainNet$Joint;LFountainNet$Joint;)Z"⟩, 6) := ⟨⟨by decide +kernel, by decide +kernel⟩, List.mem_of_getElem? (i := 161) (by decide +kernel), List.mem_of_getElem? (i := 772) (by decide +kernel), List.mem_of_getElem? (i := 773) (by decide +kernel)⟩
theorem lw_p19 : lw_okq (⟨"FountainNet$LeakSearch", "keepTwo", "(LFountainNet$Joint;LFountainNet$Joint;)V"⟩, 6) := ⟨⟨by decide +kernel, by decide +kernel⟩, List.mem_of_getElem? (i := 161) (by decide +kernel), List.mem_of_getElem? (i := 776) (by decide +kernel), List.mem_of_getElem? (i := 777) (by decide +kernel)⟩
theorem lw_p20 : lw_okq (⟨"FountainNet$Garden", "beginOrder", "()V"⟩, 5) := ⟨⟨by decide +kernel, by decide +kernel⟩, List.mem_of_getElem? (i := 30) (by decide +kernel), List.mem_of_getElem? (i := 812) (by decide +kernel), List.mem_of_getElem? (i := 813) (by decide +kernel)⟩
theorem lw_p21 : lw_okq (⟨"FountainNet$Garden", "nextInOrder", "()LFountainNet$Joint;"⟩, 5) := ⟨⟨by decide +kernel, by decide +kernel⟩, List.mem_of_getElem? (i := 30) (by decide +kernel), List.mem_of_getElem? (i := 816) (by decide +kernel), List.mem_of_getElem? (i := 817) (by decide +kernel)⟩
theorem lw_p22 : lw_okq (⟨"FountainNet", "refusalsOf", "(I)I"⟩, 7) := ⟨⟨by decide +kernel, by decide +kernel⟩, List.mem_of_getElem? (i := 22) (by decide +kernel), List.mem_of_getElem? (i := 844) (by decide +kernel), List.mem_of_getElem? (i := 845) (by decide +kernel)⟩
theorem lw_p23 : lw_okq (⟨"FountainNetModel", "refuse", "(I)I"⟩, 63) := ⟨⟨by decide +kernel, by decide +kernel⟩, List.mem_of_getElem? (i := 848) (by decide +kernel), List.mem_of_getElem? (i := 1049) (by decide +kernel), List.mem_of_getElem? (i := 1050) (by decide +kernel)⟩
theorem lw_p24 : lw_okq (⟨"FountainNetModel", "changes", "()V"⟩, 63) := ⟨⟨by decide +kernel, by decide +kernel⟩, List.mem_of_getElem? (i := 848) (by decide +kernel), List.mem_of_getElem? (i := 1063) (by decide +kernel), List.mem_of_getElem? (i := 1064) (by decide +kernel)⟩
theorem lw_p25 : lw_okq (⟨"FountainNetModel", "isJoint", "(I)Z"⟩, 63) := ⟨⟨by decide +kernel, by decide +kernel⟩, List.mem_of_getElem? (i := 848) (by decide +kernel), List.mem_of_getElem? (i := 1075) (by decide +kernel), List.mem_of_getElem? (i := 1076) (by decide +kernel)⟩
theorem lw_p26 : lw_okq (⟨"FountainNetModel", "isJet", "(I)Z"⟩, 63) := ⟨⟨by decide +kernel, by decide +kernel⟩, List.mem_of_getElem? (i := 848) (by decide +kernel), List.mem_of_getElem? (i := 1083) (by decide +kernel), List.mem_of_getElem? (i := 1084) (by decide +kernel)⟩
theorem lw_p27 : lw_okq (⟨"FountainNetModel", "isCut", "(I)Z"⟩, 63) := ⟨⟨by decide +kernel, by decide +kernel⟩, List.mem_of_getElem? (i := 848) (by decide +kernel), List.mem_of_getElem? (i := 1087) (by decide +kernel), List.mem_of_getElem? (i := 1088) (by decide +kernel)⟩
theorem lw_p28 : lw_okq (⟨"FountainNetModel", "sees", "()V"⟩, 63) := ⟨⟨by decide +kernel, by decide +kernel⟩, List.mem_of_getElem? (i := 848) (by decide +kernel), List.mem_of_getElem? (i := 1103) (by decide +kernel), List.mem_of_getElem? (i := 1104) (by decide +kernel)⟩
theorem lw_p29 : lw_okq (⟨"FountainNetModel", "asItIs", "()V"⟩, 63) := ⟨⟨by decide +kernel, by decide +kernel⟩, List.mem_of_getElem? (i := 848) (by decide +kernel), List.mem_of_getElem? (i := 1107) (by decide +kernel), List.mem_of_getElem? (i := 1108) (by decide +kernel)⟩
theorem lw_p30 : lw_okq (⟨"FountainNetModel", "runs", "()V"⟩, 63) := ⟨⟨by decide +kernel, by decide +kernel⟩, List.mem_of_getElem? (i := 848) (by decide +kernel), List.mem_of_getElem? (i := 1111) (by decide +kernel), List.mem_of_getElem? (i := 1112) (by decide +kernel)⟩
theorem lw_p31 : lw_okq (⟨"FountainNetModel", "refuseFar", "(I)I"⟩, 63) := ⟨⟨by decide +kernel, by decide +kernel⟩, List.mem_of_getElem? (i := 848) (by decide +kernel), List.mem_of_getElem? (i := 1120) (by decide +kernel), List.mem_of_getElem? (i := 1121) (by decide +kernel)⟩
def lw_privs_2 : List (MethodName × Nat) := [(⟨"FountainNet$LeakSearch", "misses", "()I"⟩, 6), (⟨"FountainNet$LeakSearch", "explainsAlone", "(LFountainNet$Joint;)Z"⟩, 6), (⟨"FountainNet$LeakSearch", "explainTogether", "(LFountainNet$Joint;LFountainNet$Joint;)Z"⟩, 6), (⟨"FountainNet$LeakSearch", "keepTwo", "(LFountainNet$Joint;LFountainNet$Joint;)V"⟩, 6), (⟨"FountainNet$Garden", "beginOrder", "()V"⟩, 5), (⟨"FountainNet$Garden", "nextInOrder", "()LFountainNet$Joint;"⟩, 5), (⟨"FountainNet", "refusalsOf", "(I)I"⟩, 7), (⟨"FountainNetModel", "refuse", "(I)I"⟩, 63), (⟨"FountainNetModel", "changes", "()V"⟩, 63), (⟨"FountainNetModel", "isJoint", "(I)Z"⟩, 63), (⟨"FountainNetModel", "isJet", "(I)Z"⟩, 63), (⟨"FountainNetModel", "isCut", "(I)Z"⟩, 63), (⟨"FountainNetModel", "sees", "()V"⟩, 63), (⟨"FountainNetModel", "asItIs", "()V"⟩, 63), (⟨"FountainNetModel", "runs", "()V"⟩, 63), (⟨"FountainNetModel", "refuseFar", "(I)I"⟩, 63)]
theorem lw_r2 : ∀ q ∈ lw_privs_2, lw_okq q := List.forall_mem_cons.mpr ⟨lw_p16, List.forall_mem_cons.mpr ⟨lw_p17, List.forall_mem_cons.mpr ⟨lw_p18, List.forall_mem_cons.mpr ⟨lw_p19, List.forall_mem_cons.mpr ⟨lw_p20, List.forall_mem_cons.mpr ⟨lw_p21, List.forall_mem_cons.mpr ⟨lw_p22, List.forall_mem_cons.mpr ⟨lw_p23, List.forall_mem_cons.mpr ⟨lw_p24, List.forall_mem_cons.mpr ⟨lw_p25, List.forall_mem_cons.mpr ⟨lw_p26, List.forall_mem_cons.mpr ⟨lw_p27, List.forall_mem_cons.mpr ⟨lw_p28, List.forall_mem_cons.mpr ⟨lw_p29, List.forall_mem_cons.mpr ⟨lw_p30, List.forall_mem_cons.mpr ⟨lw_p31, fun _ h => absurd h List.not_mem_nil⟩⟩⟩⟩⟩⟩⟩⟩⟩⟩⟩⟩⟩⟩⟩⟩
theorem lw_p32 : lw_okq (⟨"FountainNetModel", "riseOf", "(I)I"⟩, 63) := ⟨⟨by decide +kernel, by decide +kernel⟩, List.mem_of_getElem? (i := 848) (by decide +kernel), List.mem_of_getElem? (i := 1129) (by decide +kernel), List.mem_of_getElem? (i := 1130) (by decide +kernel)⟩
theorem lw_p33 : lw_okq (⟨"FountainNetModel", "passes", "(I)V"⟩, 63) := ⟨⟨by decide +kernel, by decide +kernel⟩, List.mem_of_getElem? (i := 848) (by decide +kernel), List.mem_of_getElem? (i := 1141) (by decide +kernel), List.mem_of_getElem? (i := 1142) (by decide +kernel)⟩
theorem lw_p34 : lw_okq (⟨"FountainNetModel", "hasWalk", "()Z"⟩, 63) := ⟨⟨by decide +kernel, by decide +kernel⟩, List.mem_of_getElem? (i := 848) (by decide +kernel), List.mem_of_getElem? (i := 1163) (by decide +kernel), List.mem_of_getElem? (i := 1164) (by decide +kernel)⟩
theorem lw_p35 : lw_okq (⟨"FountainNetModel", "walks", "(Z)V"⟩, 63) := ⟨⟨by decide +kernel, by decide +kernel⟩, List.mem_of_getElem? (i := 848) (by decide +kernel), List.mem_of_getElem? (i := 1167) (by decide +kernel), List.mem_of_getElem? (i := 1168) (by decide +kernel)⟩
theorem lw_p36 : lw_okq (⟨"FountainNetModel", "looksAt", "()V"⟩, 63) := ⟨⟨by decide +kernel, by decide +kernel⟩, List.mem_of_getElem? (i := 848) (by decide +kernel), List.mem_of_getElem? (i := 1171) (by decide +kernel), List.mem_of_getElem? (i := 1172) (by decide +kernel)⟩
theorem lw_p37 : lw_okq (⟨"FountainNetModel", "viewAt", "(I)I"⟩, 63) := ⟨⟨by decide +kernel, by decide +kernel⟩, List.mem_of_getElem? (i := 848) (by decide +kernel), List.mem_of_getElem? (i := 1175) (by decide +kernel), List.mem_of_getElem? (i := 1176) (by decide +kernel)⟩
theorem lw_p38 : lw_okq (⟨"FountainNetModel", "findTasks", "()V"⟩, 63) := ⟨⟨by decide +kernel, by decide +kernel⟩, List.mem_of_getElem? (i := 848) (by decide +kernel), List.mem_of_getElem? (i := 1191) (by decide +kernel), List.mem_of_getElem? (i := 1192) (by decide +kernel)⟩
theorem lw_p39 : lw_okq (⟨"FountainNetModel", "adds", "(III)V"⟩, 63) := ⟨⟨by decide +kernel, by decide +kernel⟩, List.mem_of_getElem? (i := 848) (by decide +kernel), List.mem_of_getElem? (i := 1195) (by decide +kernel), List.mem_of_getElem? (i := 1196) (by decide +kernel)⟩
theorem lw_p40 : lw_okq (⟨"FountainNetModel", "leads", "(I)Z"⟩, 63) := ⟨⟨by decide +kernel, by decide +kernel⟩, List.mem_of_getElem? (i := 848) (by decide +kernel), List.mem_of_getElem? (i := 1207) (by decide +kernel), List.mem_of_getElem? (i := 1208) (by decide +kernel)⟩
theorem lw_p41 : lw_okq (⟨"FountainNetModel", "canFollow", "(II)Z"⟩, 63) := ⟨⟨by decide +kernel, by decide +kernel⟩, List.mem_of_getElem? (i := 848) (by decide +kernel), List.mem_of_getElem? (i := 1211) (by decide +kernel), List.mem_of_getElem? (i := 1212) (by decide +kernel)⟩
theorem lw_p42 : lw_okq (⟨"FountainNetModel", "look", "()V"⟩, 63) := ⟨⟨by decide +kernel, by decide +kernel⟩, List.mem_of_getElem? (i := 848) (by decide +kernel), List.mem_of_getElem? (i := 1228) (by decide +kernel), List.mem_of_getElem? (i := 1229) (by decide +kernel)⟩
theorem lw_p43 : lw_okq (⟨"FountainNetModel", "explains", "()Z"⟩, 63) := ⟨⟨by decide +kernel, by decide +kernel⟩, List.mem_of_getElem? (i := 848) (by decide +kernel), List.mem_of_getElem? (i := 1232) (by decide +kernel), List.mem_of_getElem? (i := 1233) (by decide +kernel)⟩
theorem lw_p44 : lw_okq (⟨"FountainNetModel", "two", "(II)V"⟩, 63) := ⟨⟨by decide +kernel, by decide +kernel⟩, List.mem_of_getElem? (i := 848) (by decide +kernel), List.mem_of_getElem? (i := 1236) (by decide +kernel), List.mem_of_getElem? (i := 1237) (by decide +kernel)⟩
theorem lw_p45 : lw_okq (⟨"FountainNetModel", "mayEmpty", "(I[Z)Z"⟩, 63) := ⟨⟨by decide +kernel, by decide +kernel⟩, List.mem_of_getElem? (i := 848) (by decide +kernel), List.mem_of_getElem? (i := 1252) (by decide +kernel), List.mem_of_getElem? (i := 1253) (by decide +kernel)⟩
def lw_privs_3 : List (MethodName × Nat) := [(⟨"FountainNetModel", "riseOf", "(I)I"⟩, 63), (⟨"FountainNetModel", "passes", "(I)V"⟩, 63), (⟨"FountainNetModel", "hasWalk", "()Z"⟩, 63), (⟨"FountainNetModel", "walks", "(Z)V"⟩, 63), (⟨"FountainNetModel", "looksAt", "()V"⟩, 63), (⟨"FountainNetModel", "viewAt", "(I)I"⟩, 63), (⟨"FountainNetModel", "findTasks", "()V"⟩, 63), (⟨"FountainNetModel", "adds", "(III)V"⟩, 63), (⟨"FountainNetModel", "leads", "(I)Z"⟩, 63), (⟨"FountainNetModel", "canFollow", "(II)Z"⟩, 63), (⟨"FountainNetModel", "look", "()V"⟩, 63), (⟨"FountainNetModel", "explains", "()Z"⟩, 63), (⟨"FountainNetModel", "two", "(II)V"⟩, 63), (⟨"FountainNetModel", "mayEmpty", "(I[Z)Z"⟩, 63)]
theorem lw_r3 : ∀ q ∈ lw_privs_3, lw_okq q := List.forall_mem_cons.mpr ⟨lw_p32, List.forall_mem_cons.mpr ⟨lw_p33, List.forall_mem_cons.mpr ⟨lw_p34, List.forall_mem_cons.mpr ⟨lw_p35, List.forall_mem_cons.mpr ⟨lw_p36, List.forall_mem_cons.mpr ⟨lw_p37, List.forall_mem_cons.mpr ⟨lw_p38, List.forall_mem_cons.mpr ⟨lw_p39, List.forall_mem_cons.mpr ⟨lw_p40, List.forall_mem_cons.mpr ⟨lw_p41, List.forall_mem_cons.mpr ⟨lw_p42, List.forall_mem_cons.mpr ⟨lw_p43, List.forall_mem_cons.mpr ⟨lw_p44, List.forall_mem_cons.mpr ⟨lw_p45, fun _ h => absurd h List.not_mem_nil⟩⟩⟩⟩⟩⟩⟩⟩⟩⟩⟩⟩⟩⟩
def lw_privs : List (MethodName × Nat) := lw_privs_1 ++ (lw_privs_2 ++ (lw_privs_3))
def lw_tbl : List Cond := k2_sels lw_privs ++ tables_1
theorem lw_privs_ok : ∀ q ∈ lw_privs, lw_okq q := by
  show ∀ q ∈ lw_privs_1 ++ (lw_privs_2 ++ (lw_privs_3)), lw_okq q
  exact List.forall_mem_append.mpr ⟨lw_r1, List.forall_mem_append.mpr ⟨lw_r2, lw_r3⟩⟩
end
section
/-! An abstract machine over the kit's walk: values, a heap of cells by kind and number, and the judgement mT: 'from this point of this method, in every state that stands for this heap, the method comes to its end with Q'. Every instruction gets one rule (tr_..); behind them no class file and no address is seen any more. -/
abbrev mV : Type := Int32 ⊕ (Int64 ⊕ Option (Nat × Nat))
abbrev vi (x : Int32) : mV := .inl x
abbrev vl (x : Int64) : mV := .inr (.inl x)
abbrev vr (k n : Nat) : mV := .inr (.inr (some (k, n)))
abbrev vn : mV := .inr (.inr none)
abbrev vp (r : Option (Nat × Nat)) : mV := .inr (.inr r)
/-- a value as the machine has it -/
def mco (ad : Nat → Nat → Nat) : mV → Value
  | .inl x => .int x
  | .inr (.inl x) => .long x
  | .inr (.inr none) => .null
  | .inr (.inr (some r)) => .ref (ad r.1 r.2)
/-- the tables' words that hold in every state behind the start -/
def mTb : List Cond := lw_tbl.filter goodWord
/-- counts, lengths, pointers; and numbers -/
abbrev mH : Type := ((Nat → Nat) × (Nat → Nat → Nat) × (Nat → Nat → Nat → Option (Nat × Nat))) × (Nat → Nat → Nat → Int32)
def hC (h : mH) (k : Nat) : Nat := h.1.1 k
def hL (h : mH) (k n : Nat) : Nat := h.1.2.1 k n
def hP (h : mH) (k n f : Nat) : Option (Nat × Nat) := h.1.2.2 k n f
def hI (h : mH) (k n f : Nat) : Int32 := h.2 k n f
def setI (h : mH) (k n f : Nat) (v : Int32) : mH := (h.1, fun k' n' f' => if k' = k ∧ n' = n ∧ f' = f then v else h.2 k' n' f')
def setP (h : mH) (k n f : Nat) (v : Option (Nat × Nat)) : mH := ((h.1.1, h.1.2.1, fun k' n' f' => if k' = k ∧ n' = n ∧ f' = f then v else h.1.2.2 k' n' f'), h.2)
def newC (h : mH) (k len : Nat) : mH :=
  ((fun k' => if k' = k then h.1.1 k + 1 else h.1.1 k', fun k' n' => if k' = k ∧ n' = h.1.1 k then len else h.1.2.1 k' n', fun k' n' f' => if k' = k ∧ n' = h.1.1 k then none else h.1.2.2 k' n' f'), fun k' n' f' => if k' = k ∧ n' = h.1.1 k then 0 else h.2 k' n' f')
def mwf (h : mH) : mV → Prop
  | .inr (.inr (some r)) => r.2 < hC h r.1
  | _ => True
/-- launch; class numbers; the classes of the arrays of int, boolean, Object; script, the empty row, the first new address, the Class of rows of Objects; the script -/
abbrev mG : Type := Launch × va_G × (ClassId × ClassId × ClassId) × (Nat × Nat × Nat × Nat) × (Nat × (Nat → Int32))
abbrev mtys (g : mG) : List (ClassId × FieldType) := [(g.2.2.1.1, .int), (g.2.2.1.2.1, .boolean), (g.2.2.1.2.2, .object "java/lang/Object")]
abbrev mA (g : mG) : Nat → Prop := fun q => g.2.2.2.1.2.2.1 ≤ q
def mF0 : u_T := fun k => match k with
  | 0 => ("FountainNet", "garden", "LFountainNet$Garden;", true)
  | 1 => ("FountainNet", "views", "Ljava/util/ArrayList;", true)
  | 2 => ("FountainNet", "stroll", "LFountainNet$Stroll;", true)
  | 3 => ("FountainNet", "taskList", "LFountainNet$TaskList;", true)
  | 4 => ("FountainNet", "search", "LFountainNet$LeakSearch;", true)
  | 5 => ("FountainNet", "refusals", "[I", true)
  | _ => ("FountainNet", "minutesPerJoint", "I", false)
def mD0 : Nat → FieldType := fun k => match k with
  | 0 => .object "FountainNet$Garden"
  | 1 => .object "java/util/ArrayList"
  | 2 => .object "FountainNet$Stroll"
  | 3 => .object "FountainNet$TaskList"
  | 4 => .object "FountainNet$LeakSearch"
  | 5 => .array .int
  | _ => .int
def mF1 : u_T := fun k => match k with
  | 0 => ("FountainNet$Garden", "tanks", "Ljava/util/ArrayList;", true)
  | 1 => ("FountainNet$Garden", "joints", "Ljava/util/ArrayList;", true)
  | 2 => ("FountainNet$Garden", "jets", "Ljava/util/ArrayList;", true)
  | 3 => ("FountainNet$Garden", "playing", "I", false)
  | _ => ("FountainNet$Garden", "minute", "I", false)
def mD1 : Nat → FieldType := fun k => match k with
  | 0 => .object "java/util/ArrayList"
  | 1 => .object "java/util/ArrayList"
  | 2 => .object "java/util/ArrayList"
  | 3 => .int
  | _ => .int
def mF2 : u_T := fun k => match k with
  | 0 => ("java/util/ArrayList", "elementData", "[Ljava/lang/Object;", false)
  | 1 => ("java/util/ArrayList", "size", "I", false)
  | _ => ("java/util/AbstractList", "modCount", "I", false)
def mD2 : Nat → FieldType := fun k => match k with
  | 0 => .array (.object "java/lang/Object")
  | 1 => .int
  | _ => .int
def mF3 : u_T := fun k => match k with
  | 0 => ("FountainNet$Stroll", "garden", "LFountainNet$Garden;", true)
  | 1 => ("FountainNet$Stroll", "views", "Ljava/util/ArrayList;", true)
  | 2 => ("FountainNet$Stroll", "failMinute", "I", false)
  | 3 => ("FountainNet$Stroll", "failView", "I", false)
  | 4 => ("FountainNet$Stroll", "failJet", "I", false)
  | 5 => ("FountainNet$Stroll", "waterUsed", "I", false)
  | 6 => ("FountainNet$Stroll", "leastWater", "I", false)
  | _ => ("FountainNet$Stroll", "lowestRise", "I", false)
def mD3 : Nat → FieldType := fun k => match k with
  | 0 => .object "FountainNet$Garden"
  | 1 => .object "java/util/ArrayList"
  | 2 => .int
  | 3 => .int
  | 4 => .int
  | 5 => .int
  | 6 => .int
  | _ => .int
def mF4 : u_T := fun k => match k with
  | 0 => ("FountainNet$TaskList", "garden", "LFountainNet$Garden;", true)
  | 1 => ("FountainNet$TaskList", "views", "Ljava/util/ArrayList;", true)
  | 2 => ("FountainNet$TaskList", "minuteOf", "[I", true)
  | 3 => ("FountainNet$TaskList", "jetOf", "[I", true)
  | 4 => ("FountainNet$TaskList", "opens", "[I", true)
  | 5 => ("FountainNet$TaskList", "jointOfTask", "[I", true)
  | 6 => ("FountainNet$TaskList", "mostApart", "[I", true)
  | _ => ("FountainNet$TaskList", "size", "I", false)
def mD4 : Nat → FieldType := fun k => match k with
  | 0 => .object "FountainNet$Garden"
  | 1 => .object "java/util/ArrayList"
  | 2 => .array .int
  | 3 => .array .int
  | 4 => .array .int
  | 5 => .array .int
  | 6 => .array .int
  | _ => .int
def mF5 : u_T := fun k => match k with
  | 0 => ("FountainNet$LeakSearch", "garden", "LFountainNet$Garden;", true)
  | 1 => ("FountainNet$LeakSearch", "tolerance", "I", false)
  | 2 => ("FountainNet$LeakSearch", "firstJoint", "I", false)
  | 3 => ("FountainNet$LeakSearch", "firstLeak", "I", false)
  | 4 => ("FountainNet$LeakSearch", "secondJoint", "I", false)
  | _ => ("FountainNet$LeakSearch", "secondLeak", "I", false)
def mD5 : Nat → FieldType := fun k => match k with
  | 0 => .object "FountainNet$Garden"
  | 1 => .int
  | 2 => .int
  | 3 => .int
  | 4 => .int
  | _ => .int
def mF6 : u_T := fun k => match k with
  | 0 => ("FountainNet$Tank", "number", "I", true)
  | 1 => ("FountainNet$Tank", "floor", "I", true)
  | 2 => ("FountainNet$Tank", "area", "I", true)
  | 3 => ("FountainNet$Tank", "depth", "I", true)
  | 4 => ("FountainNet$Tank", "spring", "I", false)
  | 5 => ("FountainNet$Tank", "water", "I", false)
  | 6 => ("FountainNet$Tank", "spilled", "I", false)
  | 7 => ("FountainNet$Tank", "lack", "I", false)
  | 8 => ("FountainNet$Tank", "flowNow", "I", false)
  | _ => ("FountainNet$Tank", "strollWater", "I", false)
def mD6 : Nat → FieldType := fun k => match k with
  | 0 => .int
  | 1 => .int
  | 2 => .int
  | 3 => .int
  | 4 => .int
  | 5 => .int
  | 6 => .int
  | 7 => .int
  | 8 => .int
  | _ => .int
def mF7 : u_T := fun k => match k with
  | 0 => ("FountainNet$Joint", "number", "I", true)
  | 1 => ("FountainNet$Joint", "feeder", "LFountainNet$Tank;", true)
  | 2 => ("FountainNet$Joint", "ahead", "LFountainNet$Joint;", true)
  | 3 => ("FountainNet$Joint", "height", "I", true)
  | 4 => ("FountainNet$Joint", "length", "I", true)
  | 5 => ("FountainNet$Joint", "size", "I", false)
  | 6 => ("FountainNet$Joint", "toldLeak", "I", false)
  | 7 => ("FountainNet$Joint", "triedLeak", "I", false)
  | 8 => ("FountainNet$Joint", "isEmpty", "Z", false)
  | 9 => ("FountainNet$Joint", "jetThere", "LFountainNet$Jet;", false)
  | 10 => ("FountainNet$Joint", "flowNow", "I", false)
  | 11 => ("FountainNet$Joint", "lossesTo", "I", false)
  | 12 => ("FountainNet$Joint", "isDone", "Z", false)
  | _ => ("FountainNet$Joint", "notDoneBehind", "I", false)
def mD7 : Nat → FieldType := fun k => match k with
  | 0 => .int
  | 1 => .object "FountainNet$Tank"
  | 2 => .object "FountainNet$Joint"
  | 3 => .int
  | 4 => .int
  | 5 => .int
  | 6 => .int
  | 7 => .int
  | 8 => .boolean
  | 9 => .object "FountainNet$Jet"
  | 10 => .int
  | 11 => .int
  | 12 => .boolean
  | _ => .int
def mF8 : u_T := fun k => match k with
  | 0 => ("FountainNet$Jet", "number", "I", true)
  | 1 => ("FountainNet$Jet", "bit", "I", true)
  | 2 => ("FountainNet$Jet", "place", "LFountainNet$Joint;", true)
  | 3 => ("FountainNet$Jet", "draw", "I", true)
  | _ => ("FountainNet$Jet", "reading", "I", false)
def mD8 : Nat → FieldType := fun k => match k with
  | 0 => .int
  | 1 => .int
  | 2 => .object "FountainNet$Joint"
  | 3 => .int
  | _ => .int
def mF9 : u_T := fun k => match k with
  | 0 => ("FountainNet$View", "jetSet", "I", true)
  | 1 => ("FountainNet$View", "from", "I", true)
  | 2 => ("FountainNet$View", "to", "I", true)
  | _ => ("FountainNet$View", "rise", "I", true)
def mD9 : Nat → FieldType := fun k => match k with
  | 0 => .int
  | 1 => .int
  | 2 => .int
  | _ => .int
def mF10 : u_T := fun k => match k with
  | 0 => ("FountainNetModel", "refusals", "[I", true)
  | 1 => ("FountainNetModel", "minute", "I", false)
  | 2 => ("FountainNetModel", "tanks", "I", false)
  | 3 => ("FountainNetModel", "joints", "I", false)
  | 4 => ("FountainNetModel", "jets", "I", false)
  | 5 => ("FountainNetModel", "views", "I", false)
  | 6 => ("FountainNetModel", "pace", "I", false)
  | 7 => ("FountainNetModel", "tol", "I", false)
  | 8 => ("FountainNetModel", "floor", "[I", true)
  | 9 => ("FountainNetModel", "area", "[I", true)
  | 10 => ("FountainNetModel", "depth", "[I", true)
  | 11 => ("FountainNetModel", "spring", "[I", true)
  | 12 => ("FountainNetModel", "water", "[I", true)
  | 13 => ("FountainNetModel", "spilled", "[I", true)
  | 14 => ("FountainNetModel", "lack", "[I", true)
  | 15 => ("FountainNetModel", "ahead", "[I", true)
  | 16 => ("FountainNetModel", "feeder", "[I", true)
  | 17 => ("FountainNetModel", "height", "[I", true)
  | 18 => ("FountainNetModel", "size", "[I", true)
  | 19 => ("FountainNetModel", "length", "[I", true)
  | 20 => ("FountainNetModel", "leak", "[I", true)
  | 21 => ("FountainNetModel", "jetAt", "[I", true)
  | 22 => ("FountainNetModel", "isEmpty", "[Z", true)
  | 23 => ("FountainNetModel", "joint", "[I", true)
  | 24 => ("FountainNetModel", "draw", "[I", true)
  | 25 => ("FountainNetModel", "gauge", "[I", true)
  | 26 => ("FountainNetModel", "plays", "[Z", true)
  | 27 => ("FountainNetModel", "viewSet", "[I", true)
  | 28 => ("FountainNetModel", "viewFrom", "[I", true)
  | 29 => ("FountainNetModel", "viewTo", "[I", true)
  | 30 => ("FountainNetModel", "viewRise", "[I", true)
  | 31 => ("FountainNetModel", "leaks", "[I", true)
  | 32 => ("FountainNetModel", "flow", "[I", true)
  | 33 => ("FountainNetModel", "loss", "[I", true)
  | 34 => ("FountainNetModel", "head", "[I", true)
  | 35 => ("FountainNetModel", "level", "[I", true)
  | 36 => ("FountainNetModel", "has", "[I", true)
  | 37 => ("FountainNetModel", "out", "[I", true)
  | 38 => ("FountainNetModel", "on", "[Z", true)
  | 39 => ("FountainNetModel", "lost", "[I", true)
  | 40 => ("FountainNetModel", "spill", "I", false)
  | 41 => ("FountainNetModel", "went", "I", false)
  | 42 => ("FountainNetModel", "lacked", "I", false)
  | 43 => ("FountainNetModel", "failsAt", "I", false)
  | 44 => ("FountainNetModel", "failsView", "I", false)
  | 45 => ("FountainNetModel", "failsJet", "I", false)
  | 46 => ("FountainNetModel", "walked", "I", false)
  | 47 => ("FountainNetModel", "lowest", "I", false)
  | 48 => ("FountainNetModel", "leastRise", "I", false)
  | 49 => ("FountainNetModel", "taskAt", "[I", true)
  | 50 => ("FountainNetModel", "taskJet", "[I", true)
  | 51 => ("FountainNetModel", "taskOpen", "[I", true)
  | 52 => ("FountainNetModel", "taskMany", "I", false)
  | 53 => ("FountainNetModel", "behind", "[I", true)
  | 54 => ("FountainNetModel", "seen", "[Z", true)
  | 55 => ("FountainNetModel", "isExplained", "Z", false)
  | 56 => ("FountainNetModel", "how", "I", false)
  | 57 => ("FountainNetModel", "firstJoint", "I", false)
  | 58 => ("FountainNetModel", "firstLeak", "I", false)
  | 59 => ("FountainNetModel", "secondJoint", "I", false)
  | 60 => ("FountainNetModel", "secondLeak", "I", false)
  | 61 => ("FountainNetModel", "rivals", "I", false)
  | _ => ("FountainNetModel", "trial", "[Z", true)
def mD10 : Nat → FieldType := fun k => match k with
  | 0 => .array .int
  | 1 => .int
  | 2 => .int
  | 3 => .int
  | 4 => .int
  | 5 => .int
  | 6 => .int
  | 7 => .int
  | 8 => .array .int
  | 9 => .array .int
  | 10 => .array .int
  | 11 => .array .int
  | 12 => .array .int
  | 13 => .array .int
  | 14 => .array .int
  | 15 => .array .int
  | 16 => .array .int
  | 17 => .array .int
  | 18 => .array .int
  | 19 => .array .int
  | 20 => .array .int
  | 21 => .array .int
  | 22 => .array .boolean
  | 23 => .array .int
  | 24 => .array .int
  | 25 => .array .int
  | 26 => .array .boolean
  | 27 => .array .int
  | 28 => .array .int
  | 29 => .array .int
  | 30 => .array .int
  | 31 => .array .int
  | 32 => .array .int
  | 33 => .array .int
  | 34 => .array .int
  | 35 => .array .int
  | 36 => .array .int
  | 37 => .array .int
  | 38 => .array .boolean
  | 39 => .array .int
  | 40 => .int
  | 41 => .int
  | 42 => .int
  | 43 => .int
  | 44 => .int
  | 45 => .int
  | 46 => .int
  | 47 => .int
  | 48 => .int
  | 49 => .array .int
  | 50 => .array .int
  | 51 => .array .int
  | 52 => .int
  | 53 => .array .int
  | 54 => .array .boolean
  | 55 => .boolean
  | 56 => .int
  | 57 => .int
  | 58 => .int
  | 59 => .int
  | 60 => .int
  | 61 => .int
  | _ => .array .boolean
def mkd (k : Nat) : vw_C := match k with
  | 0 => ("FountainNet", mF0, 7)
  | 1 => ("FountainNet$Garden", mF1, 5)
  | 2 => ("java/util/ArrayList", mF2, 3)
  | 3 => ("FountainNet$Stroll", mF3, 8)
  | 4 => ("FountainNet$TaskList", mF4, 8)
  | 5 => ("FountainNet$LeakSearch", mF5, 6)
  | 6 => ("FountainNet$Tank", mF6, 10)
  | 7 => ("FountainNet$Joint", mF7, 14)
  | 8 => ("FountainNet$Jet", mF8, 5)
  | 9 => ("FountainNet$View", mF9, 4)
  | _ => ("FountainNetModel", mF10, 63)
def mty (k : Nat) : Nat → FieldType := match k with
  | 0 => mD0
  | 1 => mD1
  | 2 => mD2
  | 3 => mD3
  | 4 => mD4
  | 5 => mD5
  | 6 => mD6
  | 7 => mD7
  | 8 => mD8
  | 9 => mD9
  | _ => mD10
def mcl : List vw_C := (List.range 11).map mkd
/-- is a field a pointer -/
def misR (t : FieldType) : Bool := match t with
  | .object _ => true
  | .array _ => true
  | _ => false
def mfv (ad : Nat → Nat → Nat) (h : mH) (k n f : Nat) : Value := if misR (mty k f) = true then mco ad (vp (hP h k n f)) else .int (hI h k n f)
def mfs (ad : Nat → Nat → Nat) (h : mH) (k n : Nat) : List Value := (List.range (mkd k).2.2).map (mfv ad h k n)
def mpt (ad : Nat → Nat → Nat) (h : mH) (n : Nat) : Nat → Option Nat := fun j => (hP h 13 n j).map fun r => ad r.1 r.2
def ment (g : mG) (ad : Nat → Nat → Nat) (h : mH) (k n : Nat) : va_E :=
  if k < 11 then .inr (k, mfs ad h k n)
  else if k = 11 then .inl (g.2.2.1.1, hL h 11 n, .inl (hI h 11 n))
  else if k = 12 then .inl (g.2.2.1.2.1, hL h 12 n, .inl (hI h 12 n))
  else .inl (g.2.2.1.2.2, hL h 13 n, .inr (.inr (.inr (.inr (mpt ad h n)))))
def mOld (g : mG) (U : State) (H : Heap) : Prop :=
  va_Z "java/util/ArrayList" "DEFAULTCAPACITY_EMPTY_ELEMENTDATA" "[Ljava/lang/Object;" (.ref g.2.2.2.1.2.1) (mA g) U H ∧ va_X g.2.2.2.1.1 g.2.2.2.2.1 g.2.2.2.2.2 U H ∧
  (∃ cell : Cell, H[g.2.2.2.1.2.1]? = some cell ∧ U.isArrayOf cell (.object "java/lang/Object") ∧ cell.vm ≠ .unknown ∧ cell.slots.size = 0) ∧ g.2.2.2.1.1 < g.2.2.2.1.2.2.1 ∧ g.2.2.2.1.2.1 < g.2.2.2.1.2.2.1 ∧ g.2.2.2.1.2.2.1 ≤ H.size ∧ va_Mi "[Ljava/lang/Object;" g.2.2.2.1.2.2.2 U ∧
  (∀ k, k < 11 → va_Nw (.castable (mkd k).1 "java/lang/Object") U) ∧ va_AO "java/lang/Object" U ∧ va_Dc U
def mExt (h0 : mH) (ad0 : Nat → Nat → Nat) (h : mH) (ad : Nat → Nat → Nat) : Prop := ∀ k n : Nat, n < hC h0 k → n < hC h k ∧ ad k n = ad0 k n
/-- what holds of the cells that were there before, and that pointers point at cells -/
def mCo (g : mG) (ad : Nat → Nat → Nat) (h : mH) : Prop :=
  (ad 14 0 = g.2.2.2.1.1 ∧ ad 15 0 = g.2.2.2.1.2.1 ∧ hC h 14 = 1 ∧ hC h 15 = 1 ∧ hL h 14 0 = g.2.2.2.2.1 ∧ hL h 15 0 = 0 ∧ hI h 14 0 = g.2.2.2.2.2 ∧ ad 16 0 = g.2.2.2.1.2.2.2 ∧ hC h 16 = 1) ∧
  (∀ (k n f : Nat) (r : Nat × Nat), hP h k n f = some r → r.2 < hC h r.1) ∧ (∀ k : Nat, 17 ≤ k → hC h k = 0)
def mSm (g : mG) (ad : Nat → Nat → Nat) (h : mH) (H : Heap) (ws : va_W) (ix : Nat → Nat → Nat) : Prop :=
  (∀ k n : Nat, k < 14 → n < hC h k → ws[ix k n]? = some (ad k n, ment g ad h k n)) ∧
  (∀ k n k' n' : Nat, k < 14 → n < hC h k → k' < 14 → n' < hC h k' → ix k n = ix k' n' → k = k' ∧ n = n') ∧
  va_P g.2.1 mcl ws H ∧ va_D (mA g) ws ∧ mCo g ad h
def mSim (g : mG) (ad : Nat → Nat → Nat) (h : mH) (H : Heap) : Prop := ∃ (ws : va_W) (ix : Nat → Nat → Nat), mSm g ad h H ws ix
/-- a method: its name, bytes, locals, type of its answer -/
abbrev mMe : Type := MethodName × ByteArray × Nat × Option FieldType
def mLoc (ad : Nat → Nat → Nat) (h : mH) (n : Nat) (L : List (Option mV)) (ls : Array Slot) : Prop :=
  L.length = n ∧ ls.size = n ∧ lv_wf ls ∧ ∀ (i : Nat) (v : mV), L[i]? = some (some v) → ls[i]? = some (.val (mco ad v)) ∧ mwf h v
def mX (g : mG) (m : mMe) (d mc ms : Nat) (L : List (Option mV)) (st : List mV) (h : mH) (p : Program) (R : Room) (s : State) (mi : MethodId) (args : Array Value) (meth : Method) (c : Code) (H : Heap) (ls : Array Slot) (locs : List Loc) (cells slots : Nat) (ad ad0 : Nat → Nat → Nat) (h0 : mH) : Prop :=
  (p.tables.exec = Jvm.exec ∧ c.code = m.2.1 ∧ c.maxLocals = m.2.2.1 ∧ s.vm.findClass m.1.cls = some mi.cls ∧ (∀ w ∈ mTb, w.before args s = true) ∧ meth.sig.returnType = m.2.2.2 ∧ meth.locks = false ∧ (m.1.name = "<init>" → meth.name = "<init>")) ∧
  (d ≤ R.frames ∧ 40 * d ≤ R.locals ∧ cells + mc ≤ R.cells ∧ slots + ms ≤ R.slots) ∧
  (mOld g s s.heap ∧ va_K g.2.1 mcl (mtys g) s) ∧ (mExt h0 ad0 h ad ∧ mSim g ad h H) ∧ (mLoc ad h m.2.2.1 L ls ∧ ∀ v ∈ st, mwf h v) ∧ va_S (mA g) s.heap H locs
def mRet (m : mMe) (pc : Nat) : Option mV → Prop
  | none => m.2.2.2 = none ∧ decode m.2.1 pc = .ok (.return_, 1)
  | some (.inl x) => decode m.2.1 pc = .ok (.ireturn, 1) ∧ ∃ ty, m.2.2.2 = some ty ∧ narrow ty (.int x) = .int x
  | some (.inr (.inl _)) => False
  | some (.inr (.inr _)) => decode m.2.1 pc = .ok (.areturn, 1) ∧ ∃ ty, m.2.2.2 = some ty ∧ ((∃ n, ty = .object n) ∨ ∃ t, ty = .array t)
def mEnd (g : mG) (m : mMe) (Q : Option mV → mH → Prop) (p : Program) (R : Room) (e : Env) (s : State) (mi : MethodId) (args : Array Value) (below : List Frame) (meth : Method) (c : Code) (ad0 : Nat → Nat → Nat) (h0 : mH) (Qf : State → Prop) : Prop :=
  ∀ {H : Heap} {ls : Array Slot} {locs : List Loc} {pc : Nat} {h : mH} {ad : Nat → Nat → Nat} {v : Option mV} {cells slots : Nat}, mRet m pc v → Q v h → mExt h0 ad0 h ad → mSim g ad h H → (∀ x, v = some x → mwf h x) → va_S (mA g) s.heap H locs → cells ≤ R.cells → slots ≤ R.slots →
    W p g.1 e R s mi args below meth c H locs cells slots Qf (F0 mi pc ls (v.map (mco ad)).toList)
/-- THE JUDGEMENT -/
def mT (g : mG) (m : mMe) (d mc ms pc : Nat) (L : List (Option mV)) (st : List mV) (h : mH) (Q : Option mV → mH → Prop) : Prop :=
  ∀ (p : Program) (R : Room) (e : Env) (s : State) (mi : MethodId) (args : Array Value) (below : List Frame) (meth : Method) (c : Code) (H : Heap) (ls : Array Slot) (locs : List Loc) (cells slots : Nat) (ad ad0 : Nat → Nat → Nat) (h0 : mH) (Qf : State → Prop),
    mX g m d mc ms L st h p R s mi args meth c H ls locs cells slots ad ad0 h0 → mEnd g m Q p R e s mi args below meth c ad0 h0 Qf → W p g.1 e R s mi args below meth c H locs cells slots Qf (F0 mi pc ls (st.map (mco ad)))
theorem mT.use {g : mG} {m : mMe} {d mc ms pc : Nat} {L : List (Option mV)} {st : List mV} {h : mH} {Q : Option mV → mH → Prop} (kk : mT g m d mc ms pc L st h Q) {p : Program} {R : Room} {e : Env} {s : State} {mi : MethodId} {args : Array Value} {below : List Frame} {meth : Method} {c : Code} {H : Heap} {ls : Array Slot} {locs : List Loc} {cells slots : Nat} {ad ad0 : Nat → Nat → Nat} {h0 : mH} {Qf : State → Prop}
    (X : mX g m d mc ms L st h p R s mi args meth c H ls locs cells slots ad ad0 h0) (E : mEnd g m Q p R e s mi args below meth c ad0 h0 Qf) : W p g.1 e R s mi args below meth c H locs cells slots Qf (F0 mi pc ls (st.map (mco ad))) := kk p R e s mi args below meth c H ls locs cells slots ad ad0 h0 Qf X E
theorem mX.to {g : mG} {m : mMe} {d mc ms : Nat} {L L' : List (Option mV)} {st st' : List mV} {h : mH} {p : Program} {R : Room} {s : State} {mi : MethodId} {args : Array Value} {meth : Method} {c : Code} {H : Heap} {ls ls' : Array Slot} {locs : List Loc} {cells slots : Nat} {ad ad0 : Nat → Nat → Nat} {h0 : mH}
    (X : mX g m d mc ms L st h p R s mi args meth c H ls locs cells slots ad ad0 h0) (h1 : mLoc ad h m.2.2.1 L' ls') (h2 : ∀ v ∈ st', mwf h v) : mX g m d mc ms L' st' h p R s mi args meth c H ls' locs cells slots ad ad0 h0 := ⟨X.1, X.2.1, X.2.2.1, X.2.2.2.1, ⟨h1, h2⟩, X.2.2.2.2.2⟩
end
section
/-! rules: locals, stack, numbers, branches -/
def mAs (ad : Nat → Nat → Nat) (L : List (Option mV)) : List (Nat × Value) := L.zipIdx.filterMap fun q => q.1.map fun v => (q.2, mco ad v)
theorem mAs_mem {ad : Nat → Nat → Nat} {L : List (Option mV)} {i : Nat} {w : Value} : (i, w) ∈ mAs ad L ↔ ∃ v, L[i]? = some (some v) ∧ w = mco ad v := by
  unfold mAs
  rw [List.mem_filterMap]
  constructor
  · rintro ⟨⟨o, j⟩, hm, he⟩
    rw [List.mem_zipIdx_iff_getElem?] at hm
    cases o with
    | none => cases he
    | some v =>
      simp only [Option.map_some, Option.some.injEq, Prod.mk.injEq] at he
      obtain ⟨rfl, rfl⟩ := he
      exact ⟨v, hm, rfl⟩
  · rintro ⟨v, hm, rfl⟩
    exact ⟨(some v, i), List.mem_zipIdx_iff_getElem?.mpr hm, rfl⟩
theorem mLoc.has {ad : Nat → Nat → Nat} {h : mH} {n : Nat} {L : List (Option mV)} {ls : Array Slot} (X : mLoc ad h n L ls) : lv_has ls n (mAs ad L) := by
  refine ⟨X.2.1, X.2.2.1, ?_⟩
  rintro ⟨i, w⟩ hq
  obtain ⟨v, hv, rfl⟩ := mAs_mem.mp hq
  exact (X.2.2.2 i v hv).1
/-- no long begins just ahead of this place -/
def mOkS (L : List (Option mV)) : Nat → Bool
  | 0 => true
  | j + 1 => match L[j]? with
    | some (some (.inr (.inl _))) => false
    | _ => true
theorem mco_cat2 {ad : Nat → Nat → Nat} {v : mV} (h : (mco ad v).category = 2) : ∃ x, v = vl x := by
  rcases v with x | x | r | r
  · cases h
  · exact ⟨x, rfl⟩
  · cases h
  · cases h
theorem mLoc.store1 {ad : Nat → Nat → Nat} {h : mH} {n i : Nat} {L : List (Option mV)} {ls ls' : Array Slot} {v : mV} (X : mLoc ad h n L ls) (hi : i < n) (hw : mwf h v) (hk : mOkS L i = true)
    (hs : lv_has ls' n ((i, mco ad v) :: (mAs ad L).filter (fun q => !(q.1 == i) && !(q.1 + 1 == i && q.2.category == 2)))) : mLoc ad h n (L.set i (some v)) ls' := by
  refine ⟨by rw [List.length_set]; exact X.1, hs.1, hs.2.1, ?_⟩
  intro j w hj
  by_cases hji : j = i
  · subst hji
    rw [List.getElem?_set_self (by rw [X.1]; exact hi)] at hj
    cases hj
    exact ⟨hs.2.2 (j, mco ad v) List.mem_cons_self, hw⟩
  · rw [List.getElem?_set_ne (fun q => hji q.symm)] at hj
    refine ⟨hs.2.2 (j, mco ad w) (List.mem_cons_of_mem _ (List.mem_filter.mpr ⟨mAs_mem.mpr ⟨w, hj, rfl⟩, ?_⟩)), (X.2.2.2 j w hj).2⟩
    have h1 : ¬ (j + 1 = i ∧ (mco ad w).category = 2) := by
      rintro ⟨e1, e2⟩
      obtain ⟨x, rfl⟩ := mco_cat2 e2
      subst e1
      simp only [mOkS, hj] at hk
      cases hk
    simp only [Bool.and_eq_true, Bool.not_eq_true', beq_eq_false_iff_ne, ne_eq, Bool.and_eq_false_iff]
    refine ⟨hji, ?_⟩
    by_cases h2 : j + 1 = i
    · exact Or.inr (fun q => h1 ⟨h2, q⟩)
    · exact Or.inl h2
theorem mLoc.store2 {ad : Nat → Nat → Nat} {h : mH} {n i : Nat} {L : List (Option mV)} {ls ls' : Array Slot} {v : mV} (X : mLoc ad h n L ls) (hi : i + 1 < n) (hw : mwf h v) (hk : mOkS L i = true)
    (hs : lv_has ls' n ((i, mco ad v) :: (mAs ad L).filter (fun q => !(q.1 == i) && (!(q.1 == i + 1) && !(q.1 + 1 == i && q.2.category == 2))))) : mLoc ad h n ((L.set i (some v)).set (i + 1) none) ls' := by
  refine ⟨by rw [List.length_set, List.length_set]; exact X.1, hs.1, hs.2.1, ?_⟩
  intro j w hj
  by_cases hj2 : j = i + 1
  · subst hj2
    rw [List.getElem?_set_self (by rw [List.length_set, X.1]; exact hi)] at hj
    cases hj
  rw [List.getElem?_set_ne (fun q => hj2 q.symm)] at hj
  by_cases hji : j = i
  · subst hji
    rw [List.getElem?_set_self (by rw [X.1]; omega)] at hj
    cases hj
    exact ⟨hs.2.2 (j, mco ad v) List.mem_cons_self, hw⟩
  · rw [List.getElem?_set_ne (fun q => hji q.symm)] at hj
    refine ⟨hs.2.2 (j, mco ad w) (List.mem_cons_of_mem _ (List.mem_filter.mpr ⟨mAs_mem.mpr ⟨w, hj, rfl⟩, ?_⟩)), (X.2.2.2 j w hj).2⟩
    have h1 : ¬ (j + 1 = i ∧ (mco ad w).category = 2) := by
      rintro ⟨e1, e2⟩
      obtain ⟨x, rfl⟩ := mco_cat2 e2
      subst e1
      simp only [mOkS, hj] at hk
      cases hk
    simp only [Bool.and_eq_true, Bool.not_eq_true', beq_eq_false_iff_ne, ne_eq, Bool.and_eq_false_iff]
    refine ⟨hji, hj2, ?_⟩
    by_cases h2 : j + 1 = i
    · exact Or.inr (fun q => h1 ⟨h2, q⟩)
    · exact Or.inl h2
section TR
variable {g : mG} {m : mMe} {d mc ms pc : Nat} {L : List (Option mV)} {st : List mV} {h : mH} {Q : Option mV → mH → Prop}
theorem tr_iconst {n : Int} {v : Int32} (hc : decode m.2.1 pc = .ok (.iconst n, 1)) (hv : Int32.ofInt n = v) (kk : mT g m d mc ms (pc + 1) L (vi v :: st) h Q) : mT g m d mc ms pc L (st) h Q := by
  intro p R e s mi args below meth c H ls locs cells slots ad ad0 h0 Qf X E
  exact lv_iconst X.1.1 X.1.2.1 hc hv (kk.use (X.to X.2.2.2.2.1.1 (List.forall_mem_cons.mpr ⟨trivial, X.2.2.2.2.1.2⟩)) E)
theorem tr_bipush {n : Int} {v : Int32} (hc : decode m.2.1 pc = .ok (.bipush n, 2)) (hv : (Int8.ofInt n).toInt32 = v) (kk : mT g m d mc ms (pc + 2) L (vi v :: st) h Q) : mT g m d mc ms pc L (st) h Q := by
  intro p R e s mi args below meth c H ls locs cells slots ad ad0 h0 Qf X E
  exact lv_bipush X.1.1 X.1.2.1 hc hv (kk.use (X.to X.2.2.2.2.1.1 (List.forall_mem_cons.mpr ⟨trivial, X.2.2.2.2.1.2⟩)) E)
theorem tr_sipush {n : Int} {v : Int32} (hc : decode m.2.1 pc = .ok (.sipush n, 3)) (hv : (Int16.ofInt n).toInt32 = v) (kk : mT g m d mc ms (pc + 3) L (vi v :: st) h Q) : mT g m d mc ms pc L (st) h Q := by
  intro p R e s mi args below meth c H ls locs cells slots ad ad0 h0 Qf X E
  exact lv_sipush X.1.1 X.1.2.1 hc hv (kk.use (X.to X.2.2.2.2.1.1 (List.forall_mem_cons.mpr ⟨trivial, X.2.2.2.2.1.2⟩)) E)
theorem tr_lconst {n : Fin 2} {v : Int64} (hc : decode m.2.1 pc = .ok (.lconst n, 1)) (hv : Int64.ofNat (n : Nat) = v) (kk : mT g m d mc ms (pc + 1) L (vl v :: st) h Q) : mT g m d mc ms pc L (st) h Q := by
  intro p R e s mi args below meth c H ls locs cells slots ad ad0 h0 Qf X E
  exact lv_lconst X.1.1 X.1.2.1 hc hv (kk.use (X.to X.2.2.2.2.1.1 (List.forall_mem_cons.mpr ⟨trivial, X.2.2.2.2.1.2⟩)) E)
theorem tr_null  (hc : decode m.2.1 pc = .ok (.aconst_null, 1))  (kk : mT g m d mc ms (pc + 1) L (vn :: st) h Q) : mT g m d mc ms pc L (st) h Q := by
  intro p R e s mi args below meth c H ls locs cells slots ad ad0 h0 Qf X E
  exact lv_null X.1.1 X.1.2.1 hc (kk.use (X.to X.2.2.2.2.1.1 (List.forall_mem_cons.mpr ⟨trivial, X.2.2.2.2.1.2⟩)) E)
theorem tr_iload_n {k : Fin 4} (i : Nat) {x : Int32} (hc : decode m.2.1 pc = .ok (.iload_n k, 1)) (hi : (k : Nat) = i) (hl : L[i]? = some (some (vi x))) (kk : mT g m d mc ms (pc + 1) L (vi x :: st) h Q) : mT g m d mc ms pc L (st) h Q := by
  intro p R e s mi args below meth c H ls locs cells slots ad ad0 h0 Qf X E
  exact lv_iload_n X.1.1 X.1.2.1 hc hi (X.2.2.2.2.1.1.2.2.2 _ _ hl).1 (kk.use (X.to X.2.2.2.2.1.1 (List.forall_mem_cons.mpr ⟨trivial, X.2.2.2.2.1.2⟩)) E)
theorem tr_lload_n {k : Fin 4} (i : Nat) {x : Int64} (hc : decode m.2.1 pc = .ok (.lload_n k, 1)) (hi : (k : Nat) = i) (hl : L[i]? = some (some (vl x))) (kk : mT g m d mc ms (pc + 1) L (vl x :: st) h Q) : mT g m d mc ms pc L (st) h Q := by
  intro p R e s mi args below meth c H ls locs cells slots ad ad0 h0 Qf X E
  exact lv_lload_n X.1.1 X.1.2.1 hc hi (X.2.2.2.2.1.1.2.2.2 _ _ hl).1 (kk.use (X.to X.2.2.2.2.1.1 (List.forall_mem_cons.mpr ⟨trivial, X.2.2.2.2.1.2⟩)) E)
theorem tr_iload {i : Nat} {x : Int32} (hc : decode m.2.1 pc = .ok (.iload i, 2)) (hl : L[i]? = some (some (vi x))) (kk : mT g m d mc ms (pc + 2) L (vi x :: st) h Q) : mT g m d mc ms pc L (st) h Q := by
  intro p R e s mi args below meth c H ls locs cells slots ad ad0 h0 Qf X E
  exact lv_iload X.1.1 X.1.2.1 hc (X.2.2.2.2.1.1.2.2.2 _ _ hl).1 (kk.use (X.to X.2.2.2.2.1.1 (List.forall_mem_cons.mpr ⟨trivial, X.2.2.2.2.1.2⟩)) E)
theorem tr_aload_n {k : Fin 4} (i : Nat) {r : Option (Nat × Nat)} (hc : decode m.2.1 pc = .ok (.aload_n k, 1)) (hi : (k : Nat) = i) (hl : L[i]? = some (some (vp r))) (kk : mT g m d mc ms (pc + 1) L (vp r :: st) h Q) : mT g m d mc ms pc L (st) h Q := by
  intro p R e s mi args below meth c H ls locs cells slots ad ad0 h0 Qf X E
  have hw := X.2.2.2.2.1.1.2.2.2 _ _ hl
  have kk' := kk.use (X.to X.2.2.2.2.1.1 (List.forall_mem_cons.mpr ⟨hw.2, X.2.2.2.2.1.2⟩)) E
  cases r with
  | none => exact lv_aload_nN X.1.1 X.1.2.1 hc hi hw.1 kk'
  | some r => exact lv_aload_n X.1.1 X.1.2.1 hc hi hw.1 kk'
theorem tr_aload {i : Nat} {r : Option (Nat × Nat)} (hc : decode m.2.1 pc = .ok (.aload i, 2)) (hl : L[i]? = some (some (vp r))) (kk : mT g m d mc ms (pc + 2) L (vp r :: st) h Q) : mT g m d mc ms pc L (st) h Q := by
  intro p R e s mi args below meth c H ls locs cells slots ad ad0 h0 Qf X E
  have hw := X.2.2.2.2.1.1.2.2.2 _ _ hl
  have kk' := kk.use (X.to X.2.2.2.2.1.1 (List.forall_mem_cons.mpr ⟨hw.2, X.2.2.2.2.1.2⟩)) E
  cases r with
  | none => exact lv_aloadN X.1.1 X.1.2.1 hc hw.1 kk'
  | some r => exact lv_aload X.1.1 X.1.2.1 hc hw.1 kk'
theorem tr_istore_n {k : Fin 4} (i : Nat) {x : Int32} (hc : decode m.2.1 pc = .ok (.istore_n k, 1)) (hi : (k : Nat) = i) (hn : i < m.2.2.1) (hk : mOkS L i = true) (kk : mT g m d mc ms (pc + 1) (L.set i (some (vi x))) st h Q) : mT g m d mc ms pc L (vi x :: st) h Q := by
  intro p R e s mi args below meth c H ls locs cells slots ad ad0 h0 Qf X E
  have hw := List.forall_mem_cons.mp X.2.2.2.2.1.2
  exact lv_istore_n X.1.1 X.1.2.1 hc hi X.2.2.2.2.1.1.has hn rfl (fun ls' h' => kk.use (X.to (mLoc.store1 X.2.2.2.2.1.1 hn hw.1 hk h') hw.2) E)
theorem tr_istore {i : Nat} {x : Int32} (hc : decode m.2.1 pc = .ok (.istore i, 2)) (hn : i < m.2.2.1) (hk : mOkS L i = true) (kk : mT g m d mc ms (pc + 2) (L.set i (some (vi x))) st h Q) : mT g m d mc ms pc L (vi x :: st) h Q := by
  intro p R e s mi args below meth c H ls locs cells slots ad ad0 h0 Qf X E
  have hw := List.forall_mem_cons.mp X.2.2.2.2.1.2
  exact lv_istore X.1.1 X.1.2.1 hc X.2.2.2.2.1.1.has hn rfl (fun ls' h' => kk.use (X.to (mLoc.store1 X.2.2.2.2.1.1 hn hw.1 hk h') hw.2) E)
theorem tr_lstore_n {k : Fin 4} (i : Nat) {x : Int64} (hc : decode m.2.1 pc = .ok (.lstore_n k, 1)) (hi : (k : Nat) = i) (hn : i + 1 < m.2.2.1) (hk : mOkS L i = true) (kk : mT g m d mc ms (pc + 1) ((L.set i (some (vl x))).set (i + 1) none) st h Q) : mT g m d mc ms pc L (vl x :: st) h Q := by
  intro p R e s mi args below meth c H ls locs cells slots ad ad0 h0 Qf X E
  have hw := List.forall_mem_cons.mp X.2.2.2.2.1.2
  exact lv_lstore_n X.1.1 X.1.2.1 hc hi X.2.2.2.2.1.1.has hn rfl (fun ls' h' => kk.use (X.to (mLoc.store2 X.2.2.2.2.1.1 hn hw.1 hk h') hw.2) E)
theorem tr_astore_n {k : Fin 4} (i : Nat) {r : Option (Nat × Nat)} (hc : decode m.2.1 pc = .ok (.astore_n k, 1)) (hi : (k : Nat) = i) (hn : i < m.2.2.1) (hk : mOkS L i = true) (kk : mT g m d mc ms (pc + 1) (L.set i (some (vp r))) st h Q) : mT g m d mc ms pc L (vp r :: st) h Q := by
  intro p R e s mi args below meth c H ls locs cells slots ad ad0 h0 Qf X E
  have hw := List.forall_mem_cons.mp X.2.2.2.2.1.2
  have kk' : ∀ ls', mLoc ad h m.2.2.1 (L.set i (some (vp r))) ls' → W p g.1 e R s mi args below meth c H locs cells slots Qf (F0 mi (pc + 1) ls' (st.map (mco ad))) := fun ls' h' => kk.use (X.to h' hw.2) E
  cases r with
  | none => exact lv_astore_nN X.1.1 X.1.2.1 hc hi X.2.2.2.2.1.1.has hn rfl (fun ls' h' => kk' ls' (mLoc.store1 X.2.2.2.2.1.1 hn hw.1 hk h'))
  | some r => exact lv_astore_n X.1.1 X.1.2.1 hc hi X.2.2.2.2.1.1.has hn rfl (fun ls' h' => kk' ls' (mLoc.store1 X.2.2.2.2.1.1 hn hw.1 hk h'))
theorem tr_astore {i : Nat} {r : Option (Nat × Nat)} (hc : decode m.2.1 pc = .ok (.astore i, 2)) (hn : i < m.2.2.1) (hk : mOkS L i = true) (kk : mT g m d mc ms (pc + 2) (L.set i (some (vp r))) st h Q) : mT g m d mc ms pc L (vp r :: st) h Q := by
  intro p R e s mi args below meth c H ls locs cells slots ad ad0 h0 Qf X E
  have hw := List.forall_mem_cons.mp X.2.2.2.2.1.2
  have kk' : ∀ ls', mLoc ad h m.2.2.1 (L.set i (some (vp r))) ls' → W p g.1 e R s mi args below meth c H locs cells slots Qf (F0 mi (pc + 2) ls' (st.map (mco ad))) := fun ls' h' => kk.use (X.to h' hw.2) E
  cases r with
  | none => exact lv_astoreN X.1.1 X.1.2.1 hc X.2.2.2.2.1.1.has hn rfl (fun ls' h' => kk' ls' (mLoc.store1 X.2.2.2.2.1.1 hn hw.1 hk h'))
  | some r => exact lv_astore X.1.1 X.1.2.1 hc X.2.2.2.2.1.1.has hn rfl (fun ls' h' => kk' ls' (mLoc.store1 X.2.2.2.2.1.1 hn hw.1 hk h'))
theorem tr_iinc {i : Nat} {n : Int} {x v : Int32} (hc : decode m.2.1 pc = .ok (.iinc i n, 3)) (hl : L[i]? = some (some (vi x))) (hv : x + Int32.ofInt n = v) (hn : i < m.2.2.1) (hk : mOkS L i = true) (kk : mT g m d mc ms (pc + 3) (L.set i (some (vi v))) st h Q) : mT g m d mc ms pc L st h Q := by
  intro p R e s mi args below meth c H ls locs cells slots ad ad0 h0 Qf X E
  obtain ⟨k, hk1⟩ := List.getElem?_of_mem (mAs_mem (ad := ad).mpr ⟨_, hl, rfl⟩)
  exact lv_iinc (k := k) X.1.1 X.1.2.1 hc X.2.2.2.2.1.1.has hk1 hv hn rfl (fun ls' h' => kk.use (X.to (mLoc.store1 X.2.2.2.2.1.1 hn trivial hk h') X.2.2.2.2.1.2) E)
theorem tr_iadd {x y : Int32} (hc : decode m.2.1 pc = .ok (.iadd, 1))  (kk : mT g m d mc ms (pc + 1) L (vi (x + y) :: st) h Q) : mT g m d mc ms pc L (vi y :: vi x :: st) h Q := by
  intro p R e s mi args below meth c H ls locs cells slots ad ad0 h0 Qf X E
  exact lv_iadd X.1.1 X.1.2.1 hc (kk.use (X.to X.2.2.2.2.1.1 (List.forall_mem_cons.mpr ⟨trivial, (List.forall_mem_cons.mp (List.forall_mem_cons.mp X.2.2.2.2.1.2).2).2⟩)) E)
theorem tr_isub {x y : Int32} (hc : decode m.2.1 pc = .ok (.isub, 1))  (kk : mT g m d mc ms (pc + 1) L (vi (x - y) :: st) h Q) : mT g m d mc ms pc L (vi y :: vi x :: st) h Q := by
  intro p R e s mi args below meth c H ls locs cells slots ad ad0 h0 Qf X E
  exact lv_isub X.1.1 X.1.2.1 hc (kk.use (X.to X.2.2.2.2.1.1 (List.forall_mem_cons.mpr ⟨trivial, (List.forall_mem_cons.mp (List.forall_mem_cons.mp X.2.2.2.2.1.2).2).2⟩)) E)
theorem tr_imul {x y : Int32} (hc : decode m.2.1 pc = .ok (.imul, 1))  (kk : mT g m d mc ms (pc + 1) L (vi (x * y) :: st) h Q) : mT g m d mc ms pc L (vi y :: vi x :: st) h Q := by
  intro p R e s mi args below meth c H ls locs cells slots ad ad0 h0 Qf X E
  exact lv_imul X.1.1 X.1.2.1 hc (kk.use (X.to X.2.2.2.2.1.1 (List.forall_mem_cons.mpr ⟨trivial, (List.forall_mem_cons.mp (List.forall_mem_cons.mp X.2.2.2.2.1.2).2).2⟩)) E)
theorem tr_iand {x y : Int32} (hc : decode m.2.1 pc = .ok (.iand, 1))  (kk : mT g m d mc ms (pc + 1) L (vi (x &&& y) :: st) h Q) : mT g m d mc ms pc L (vi y :: vi x :: st) h Q := by
  intro p R e s mi args below meth c H ls locs cells slots ad ad0 h0 Qf X E
  exact lv_iand X.1.1 X.1.2.1 hc (kk.use (X.to X.2.2.2.2.1.1 (List.forall_mem_cons.mpr ⟨trivial, (List.forall_mem_cons.mp (List.forall_mem_cons.mp X.2.2.2.2.1.2).2).2⟩)) E)
theorem tr_ior {x y : Int32} (hc : decode m.2.1 pc = .ok (.ior, 1))  (kk : mT g m d mc ms (pc + 1) L (vi (x ||| y) :: st) h Q) : mT g m d mc ms pc L (vi y :: vi x :: st) h Q := by
  intro p R e s mi args below meth c H ls locs cells slots ad ad0 h0 Qf X E
  exact lv_ior X.1.1 X.1.2.1 hc (kk.use (X.to X.2.2.2.2.1.1 (List.forall_mem_cons.mpr ⟨trivial, (List.forall_mem_cons.mp (List.forall_mem_cons.mp X.2.2.2.2.1.2).2).2⟩)) E)
theorem tr_ixor {x y : Int32} (hc : decode m.2.1 pc = .ok (.ixor, 1))  (kk : mT g m d mc ms (pc + 1) L (vi (x ^^^ y) :: st) h Q) : mT g m d mc ms pc L (vi y :: vi x :: st) h Q := by
  intro p R e s mi args below meth c H ls locs cells slots ad ad0 h0 Qf X E
  exact lv_ixor X.1.1 X.1.2.1 hc (kk.use (X.to X.2.2.2.2.1.1 (List.forall_mem_cons.mpr ⟨trivial, (List.forall_mem_cons.mp (List.forall_mem_cons.mp X.2.2.2.2.1.2).2).2⟩)) E)
theorem tr_ishl {x y : Int32} (hc : decode m.2.1 pc = .ok (.ishl, 1))  (kk : mT g m d mc ms (pc + 1) L (vi (x <<< (y &&& 31)) :: st) h Q) : mT g m d mc ms pc L (vi y :: vi x :: st) h Q := by
  intro p R e s mi args below meth c H ls locs cells slots ad ad0 h0 Qf X E
  exact lv_ishl X.1.1 X.1.2.1 hc (kk.use (X.to X.2.2.2.2.1.1 (List.forall_mem_cons.mpr ⟨trivial, (List.forall_mem_cons.mp (List.forall_mem_cons.mp X.2.2.2.2.1.2).2).2⟩)) E)
theorem tr_ishr {x y : Int32} (hc : decode m.2.1 pc = .ok (.ishr, 1))  (kk : mT g m d mc ms (pc + 1) L (vi (x >>> (y &&& 31)) :: st) h Q) : mT g m d mc ms pc L (vi y :: vi x :: st) h Q := by
  intro p R e s mi args below meth c H ls locs cells slots ad ad0 h0 Qf X E
  exact lv_ishr X.1.1 X.1.2.1 hc (kk.use (X.to X.2.2.2.2.1.1 (List.forall_mem_cons.mpr ⟨trivial, (List.forall_mem_cons.mp (List.forall_mem_cons.mp X.2.2.2.2.1.2).2).2⟩)) E)
theorem tr_idiv {x y : Int32} (hc : decode m.2.1 pc = .ok (.idiv, 1)) (hne : ¬ y = 0) (kk : mT g m d mc ms (pc + 1) L (vi (x / y) :: st) h Q) : mT g m d mc ms pc L (vi y :: vi x :: st) h Q := by
  intro p R e s mi args below meth c H ls locs cells slots ad ad0 h0 Qf X E
  exact lv_idiv X.1.1 X.1.2.1 hc hne (kk.use (X.to X.2.2.2.2.1.1 (List.forall_mem_cons.mpr ⟨trivial, (List.forall_mem_cons.mp (List.forall_mem_cons.mp X.2.2.2.2.1.2).2).2⟩)) E)
theorem tr_ineg {x : Int32} (hc : decode m.2.1 pc = .ok (.ineg, 1))  (kk : mT g m d mc ms (pc + 1) L (vi (-x) :: st) h Q) : mT g m d mc ms pc L (vi x :: st) h Q := by
  intro p R e s mi args below meth c H ls locs cells slots ad ad0 h0 Qf X E
  exact lv_ineg X.1.1 X.1.2.1 hc (kk.use (X.to X.2.2.2.2.1.1 (List.forall_mem_cons.mpr ⟨trivial, (List.forall_mem_cons.mp X.2.2.2.2.1.2).2⟩)) E)
theorem tr_iushr {x y v : Int32} (hc : decode m.2.1 pc = .ok (.iushr, 1)) (hv : (x.toUInt32 >>> (y.toUInt32 &&& Int32.toUInt32 31)).toInt32 = v) (kk : mT g m d mc ms (pc + 1) L (vi v :: st) h Q) : mT g m d mc ms pc L (vi y :: vi x :: st) h Q := by
  intro p R e s mi args below meth c H ls locs cells slots ad ad0 h0 Qf X E
  exact lv_iushr X.1.1 X.1.2.1 hc hv (kk.use (X.to X.2.2.2.2.1.1 (List.forall_mem_cons.mpr ⟨trivial, (List.forall_mem_cons.mp (List.forall_mem_cons.mp X.2.2.2.2.1.2).2).2⟩)) E)
theorem tr_lmul {x y : Int64} (hc : decode m.2.1 pc = .ok (.lmul, 1))  (kk : mT g m d mc ms (pc + 1) L (vl (x * y) :: st) h Q) : mT g m d mc ms pc L (vl y :: vl x :: st) h Q := by
  intro p R e s mi args below meth c H ls locs cells slots ad ad0 h0 Qf X E
  exact lv_lmul X.1.1 X.1.2.1 hc (kk.use (X.to X.2.2.2.2.1.1 (List.forall_mem_cons.mpr ⟨trivial, (List.forall_mem_cons.mp (List.forall_mem_cons.mp X.2.2.2.2.1.2).2).2⟩)) E)
theorem tr_ldiv {x y : Int64} (hc : decode m.2.1 pc = .ok (.ldiv, 1)) (hne : ¬ y = 0) (kk : mT g m d mc ms (pc + 1) L (vl (x / y) :: st) h Q) : mT g m d mc ms pc L (vl y :: vl x :: st) h Q := by
  intro p R e s mi args below meth c H ls locs cells slots ad ad0 h0 Qf X E
  exact lv_ldiv X.1.1 X.1.2.1 hc hne (kk.use (X.to X.2.2.2.2.1.1 (List.forall_mem_cons.mpr ⟨trivial, (List.forall_mem_cons.mp (List.forall_mem_cons.mp X.2.2.2.2.1.2).2).2⟩)) E)
theorem tr_lcmp {x y : Int64} (hc : decode m.2.1 pc = .ok (.lcmp, 1))  (kk : mT g m d mc ms (pc + 1) L (vi (lg_cmp x y) :: st) h Q) : mT g m d mc ms pc L (vl y :: vl x :: st) h Q := by
  intro p R e s mi args below meth c H ls locs cells slots ad ad0 h0 Qf X E
  exact W.lcmp X.1.1 X.1.2.1 hc (kk.use (X.to X.2.2.2.2.1.1 (List.forall_mem_cons.mpr ⟨trivial, (List.forall_mem_cons.mp (List.forall_mem_cons.mp X.2.2.2.2.1.2).2).2⟩)) E)
theorem tr_i2l {x : Int32} (hc : decode m.2.1 pc = .ok (.i2l, 1))  (kk : mT g m d mc ms (pc + 1) L (vl x.toInt64 :: st) h Q) : mT g m d mc ms pc L (vi x :: st) h Q := by
  intro p R e s mi args below meth c H ls locs cells slots ad ad0 h0 Qf X E
  exact lv_i2l X.1.1 X.1.2.1 hc rfl (kk.use (X.to X.2.2.2.2.1.1 (List.forall_mem_cons.mpr ⟨trivial, (List.forall_mem_cons.mp X.2.2.2.2.1.2).2⟩)) E)
theorem tr_l2i {x : Int64} (hc : decode m.2.1 pc = .ok (.l2i, 1))  (kk : mT g m d mc ms (pc + 1) L (vi x.toInt32 :: st) h Q) : mT g m d mc ms pc L (vl x :: st) h Q := by
  intro p R e s mi args below meth c H ls locs cells slots ad ad0 h0 Qf X E
  exact lv_l2i X.1.1 X.1.2.1 hc rfl (kk.use (X.to X.2.2.2.2.1.1 (List.forall_mem_cons.mpr ⟨trivial, (List.forall_mem_cons.mp X.2.2.2.2.1.2).2⟩)) E)
def mc1 : mV → Bool
  | .inr (.inl _) => false
  | _ => true
theorem mc1_cat {ad : Nat → Nat → Nat} {v : mV} (h : mc1 v = true) : (mco ad v).category = 1 := by
  rcases v with x | x | r | r
  · rfl
  · cases h
  · rfl
  · rfl
theorem tr_dup {v : mV} (hc : decode m.2.1 pc = .ok (.dup, 1)) (hv : mc1 v = true) (kk : mT g m d mc ms (pc + 1) L (v :: v :: st) h Q) : mT g m d mc ms pc L (v :: st) h Q := by
  intro p R e s mi args below meth c H ls locs cells slots ad ad0 h0 Qf X E
  have hw := List.forall_mem_cons.mp X.2.2.2.2.1.2
  exact lv_dup X.1.1 X.1.2.1 hc (mc1_cat hv) (kk.use (X.to X.2.2.2.2.1.1 (List.forall_mem_cons.mpr ⟨hw.1, X.2.2.2.2.1.2⟩)) E)
theorem tr_pop {v : mV} (hc : decode m.2.1 pc = .ok (.pop, 1)) (hv : mc1 v = true) (kk : mT g m d mc ms (pc + 1) L (st) h Q) : mT g m d mc ms pc L (v :: st) h Q := by
  intro p R e s mi args below meth c H ls locs cells slots ad ad0 h0 Qf X E
  have hw := List.forall_mem_cons.mp X.2.2.2.2.1.2
  exact lv_pop X.1.1 X.1.2.1 hc (mc1_cat hv) (kk.use (X.to X.2.2.2.2.1.1 hw.2) E)
theorem tr_dup_x1 {v w : mV} (hc : decode m.2.1 pc = .ok (.dup_x1, 1)) (hv : mc1 v = true) (hw : mc1 w = true) (kk : mT g m d mc ms (pc + 1) L (v :: w :: v :: st) h Q) : mT g m d mc ms pc L (v :: w :: st) h Q := by
  intro p R e s mi args below meth c H ls locs cells slots ad ad0 h0 Qf X E
  have h1 := List.forall_mem_cons.mp X.2.2.2.2.1.2
  have h2 := List.forall_mem_cons.mp h1.2
  exact lv_dup_x1 X.1.1 X.1.2.1 hc (mc1_cat hv) (mc1_cat hw) (kk.use (X.to X.2.2.2.2.1.1 (List.forall_mem_cons.mpr ⟨h1.1, List.forall_mem_cons.mpr ⟨h2.1, List.forall_mem_cons.mpr ⟨h1.1, h2.2⟩⟩⟩)) E)
theorem tr_dup2 {v w : mV} (hc : decode m.2.1 pc = .ok (.dup2, 1)) (hv : mc1 v = true) (hw : mc1 w = true) (kk : mT g m d mc ms (pc + 1) L (v :: w :: v :: w :: st) h Q) : mT g m d mc ms pc L (v :: w :: st) h Q := by
  intro p R e s mi args below meth c H ls locs cells slots ad ad0 h0 Qf X E
  have h1 := List.forall_mem_cons.mp X.2.2.2.2.1.2
  have h2 := List.forall_mem_cons.mp h1.2
  exact lv_dup2_11 X.1.1 X.1.2.1 hc (mc1_cat hv) (mc1_cat hw) (kk.use (X.to X.2.2.2.2.1.1 (List.forall_mem_cons.mpr ⟨h1.1, List.forall_mem_cons.mpr ⟨h2.1, X.2.2.2.2.1.2⟩⟩)) E)
theorem tr_if_eq {x : Int32} {off : Int} (tgt : Nat) (hc : decode m.2.1 pc = .ok (.ifCond .eq off, 3)) (ht : (pc : Int) + off = (tgt : Int)) (kt : x = 0 → mT g m d mc ms tgt L st h Q) (kf : ¬ x = 0 → mT g m d mc ms (pc + 3) L st h Q) : mT g m d mc ms pc L (vi x :: st) h Q := by
  intro p R e s mi args below meth c H ls locs cells slots ad ad0 h0 Qf X E
  have hw := List.forall_mem_cons.mp X.2.2.2.2.1.2
  exact lv_if_eq X.1.1 X.1.2.1 hc ht (fun q => (kt q).use (X.to X.2.2.2.2.1.1 hw.2) E) (fun q => (kf q).use (X.to X.2.2.2.2.1.1 hw.2) E)
theorem tr_if_ne {x : Int32} {off : Int} (tgt : Nat) (hc : decode m.2.1 pc = .ok (.ifCond .ne off, 3)) (ht : (pc : Int) + off = (tgt : Int)) (kt : ¬ x = 0 → mT g m d mc ms tgt L st h Q) (kf : x = 0 → mT g m d mc ms (pc + 3) L st h Q) : mT g m d mc ms pc L (vi x :: st) h Q := by
  intro p R e s mi args below meth c H ls locs cells slots ad ad0 h0 Qf X E
  have hw := List.forall_mem_cons.mp X.2.2.2.2.1.2
  exact lv_if_ne X.1.1 X.1.2.1 hc ht (fun q => (kt q).use (X.to X.2.2.2.2.1.1 hw.2) E) (fun q => (kf q).use (X.to X.2.2.2.2.1.1 hw.2) E)
theorem tr_if_lt {x : Int32} {off : Int} (tgt : Nat) (hc : decode m.2.1 pc = .ok (.ifCond .lt off, 3)) (ht : (pc : Int) + off = (tgt : Int)) (kt : x < 0 → mT g m d mc ms tgt L st h Q) (kf : ¬ x < 0 → mT g m d mc ms (pc + 3) L st h Q) : mT g m d mc ms pc L (vi x :: st) h Q := by
  intro p R e s mi args below meth c H ls locs cells slots ad ad0 h0 Qf X E
  have hw := List.forall_mem_cons.mp X.2.2.2.2.1.2
  exact lv_if_lt X.1.1 X.1.2.1 hc ht (fun q => (kt q).use (X.to X.2.2.2.2.1.1 hw.2) E) (fun q => (kf q).use (X.to X.2.2.2.2.1.1 hw.2) E)
theorem tr_if_ge {x : Int32} {off : Int} (tgt : Nat) (hc : decode m.2.1 pc = .ok (.ifCond .ge off, 3)) (ht : (pc : Int) + off = (tgt : Int)) (kt : 0 ≤ x → mT g m d mc ms tgt L st h Q) (kf : ¬ 0 ≤ x → mT g m d mc ms (pc + 3) L st h Q) : mT g m d mc ms pc L (vi x :: st) h Q := by
  intro p R e s mi args below meth c H ls locs cells slots ad ad0 h0 Qf X E
  have hw := List.forall_mem_cons.mp X.2.2.2.2.1.2
  exact lv_if_ge X.1.1 X.1.2.1 hc ht (fun q => (kt q).use (X.to X.2.2.2.2.1.1 hw.2) E) (fun q => (kf q).use (X.to X.2.2.2.2.1.1 hw.2) E)
theorem tr_if_gt {x : Int32} {off : Int} (tgt : Nat) (hc : decode m.2.1 pc = .ok (.ifCond .gt off, 3)) (ht : (pc : Int) + off = (tgt : Int)) (kt : 0 < x → mT g m d mc ms tgt L st h Q) (kf : ¬ 0 < x → mT g m d mc ms (pc + 3) L st h Q) : mT g m d mc ms pc L (vi x :: st) h Q := by
  intro p R e s mi args below meth c H ls locs cells slots ad ad0 h0 Qf X E
  have hw := List.forall_mem_cons.mp X.2.2.2.2.1.2
  exact lv_if_gt X.1.1 X.1.2.1 hc ht (fun q => (kt q).use (X.to X.2.2.2.2.1.1 hw.2) E) (fun q => (kf q).use (X.to X.2.2.2.2.1.1 hw.2) E)
theorem tr_if_le {x : Int32} {off : Int} (tgt : Nat) (hc : decode m.2.1 pc = .ok (.ifCond .le off, 3)) (ht : (pc : Int) + off = (tgt : Int)) (kt : x ≤ 0 → mT g m d mc ms tgt L st h Q) (kf : ¬ x ≤ 0 → mT g m d mc ms (pc + 3) L st h Q) : mT g m d mc ms pc L (vi x :: st) h Q := by
  intro p R e s mi args below meth c H ls locs cells slots ad ad0 h0 Qf X E
  have hw := List.forall_mem_cons.mp X.2.2.2.2.1.2
  exact lv_if_le X.1.1 X.1.2.1 hc ht (fun q => (kt q).use (X.to X.2.2.2.2.1.1 hw.2) E) (fun q => (kf q).use (X.to X.2.2.2.2.1.1 hw.2) E)
theorem tr_icmp_eq {x y : Int32} {off : Int} (tgt : Nat) (hc : decode m.2.1 pc = .ok (.if_icmp .eq off, 3)) (ht : (pc : Int) + off = (tgt : Int)) (kt : x = y → mT g m d mc ms tgt L st h Q) (kf : ¬ x = y → mT g m d mc ms (pc + 3) L st h Q) : mT g m d mc ms pc L (vi y :: vi x :: st) h Q := by
  intro p R e s mi args below meth c H ls locs cells slots ad ad0 h0 Qf X E
  have hw := List.forall_mem_cons.mp (List.forall_mem_cons.mp X.2.2.2.2.1.2).2
  exact lv_icmp_eq X.1.1 X.1.2.1 hc ht (fun q => (kt q).use (X.to X.2.2.2.2.1.1 hw.2) E) (fun q => (kf q).use (X.to X.2.2.2.2.1.1 hw.2) E)
theorem tr_icmp_ne {x y : Int32} {off : Int} (tgt : Nat) (hc : decode m.2.1 pc = .ok (.if_icmp .ne off, 3)) (ht : (pc : Int) + off = (tgt : Int)) (kt : ¬ x = y → mT g m d mc ms tgt L st h Q) (kf : x = y → mT g m d mc ms (pc + 3) L st h Q) : mT g m d mc ms pc L (vi y :: vi x :: st) h Q := by
  intro p R e s mi args below meth c H ls locs cells slots ad ad0 h0 Qf X E
  have hw := List.forall_mem_cons.mp (List.forall_mem_cons.mp X.2.2.2.2.1.2).2
  exact lv_icmp_ne X.1.1 X.1.2.1 hc ht (fun q => (kt q).use (X.to X.2.2.2.2.1.1 hw.2) E) (fun q => (kf q).use (X.to X.2.2.2.2.1.1 hw.2) E)
theorem tr_icmp_lt {x y : Int32} {off : Int} (tgt : Nat) (hc : decode m.2.1 pc = .ok (.if_icmp .lt off, 3)) (ht : (pc : Int) + off = (tgt : Int)) (kt : x < y → mT g m d mc ms tgt L st h Q) (kf : ¬ x < y → mT g m d mc ms (pc + 3) L st h Q) : mT g m d mc ms pc L (vi y :: vi x :: st) h Q := by
  intro p R e s mi args below meth c H ls locs cells slots ad ad0 h0 Qf X E
  have hw := List.forall_mem_cons.mp (List.forall_mem_cons.mp X.2.2.2.2.1.2).2
  exact lv_icmp_lt X.1.1 X.1.2.1 hc ht (fun q => (kt q).use (X.to X.2.2.2.2.1.1 hw.2) E) (fun q => (kf q).use (X.to X.2.2.2.2.1.1 hw.2) E)
theorem tr_icmp_ge {x y : Int32} {off : Int} (tgt : Nat) (hc : decode m.2.1 pc = .ok (.if_icmp .ge off, 3)) (ht : (pc : Int) + off = (tgt : Int)) (kt : y ≤ x → mT g m d mc ms tgt L st h Q) (kf : ¬ y ≤ x → mT g m d mc ms (pc + 3) L st h Q) : mT g m d mc ms pc L (vi y :: vi x :: st) h Q := by
  intro p R e s mi args below meth c H ls locs cells slots ad ad0 h0 Qf X E
  have hw := List.forall_mem_cons.mp (List.forall_mem_cons.mp X.2.2.2.2.1.2).2
  exact lv_icmp_ge X.1.1 X.1.2.1 hc ht (fun q => (kt q).use (X.to X.2.2.2.2.1.1 hw.2) E) (fun q => (kf q).use (X.to X.2.2.2.2.1.1 hw.2) E)
theorem tr_icmp_gt {x y : Int32} {off : Int} (tgt : Nat) (hc : decode m.2.1 pc = .ok (.if_icmp .gt off, 3)) (ht : (pc : Int) + off = (tgt : Int)) (kt : y < x → mT g m d mc ms tgt L st h Q) (kf : ¬ y < x → mT g m d mc ms (pc + 3) L st h Q) : mT g m d mc ms pc L (vi y :: vi x :: st) h Q := by
  intro p R e s mi args below meth c H ls locs cells slots ad ad0 h0 Qf X E
  have hw := List.forall_mem_cons.mp (List.forall_mem_cons.mp X.2.2.2.2.1.2).2
  exact lv_icmp_gt X.1.1 X.1.2.1 hc ht (fun q => (kt q).use (X.to X.2.2.2.2.1.1 hw.2) E) (fun q => (kf q).use (X.to X.2.2.2.2.1.1 hw.2) E)
theorem tr_icmp_le {x y : Int32} {off : Int} (tgt : Nat) (hc : decode m.2.1 pc = .ok (.if_icmp .le off, 3)) (ht : (pc : Int) + off = (tgt : Int)) (kt : x ≤ y → mT g m d mc ms tgt L st h Q) (kf : ¬ x ≤ y → mT g m d mc ms (pc + 3) L st h Q) : mT g m d mc ms pc L (vi y :: vi x :: st) h Q := by
  intro p R e s mi args below meth c H ls locs cells slots ad ad0 h0 Qf X E
  have hw := List.forall_mem_cons.mp (List.forall_mem_cons.mp X.2.2.2.2.1.2).2
  exact lv_icmp_le X.1.1 X.1.2.1 hc ht (fun q => (kt q).use (X.to X.2.2.2.2.1.1 hw.2) E) (fun q => (kf q).use (X.to X.2.2.2.2.1.1 hw.2) E)
theorem tr_goto {off : Int} (tgt : Nat) (hc : decode m.2.1 pc = .ok (.goto off, 3)) (ht : (pc : Int) + off = (tgt : Int)) (kk : mT g m d mc ms tgt L st h Q) : mT g m d mc ms pc L st h Q := by
  intro p R e s mi args below meth c H ls locs cells slots ad ad0 h0 Qf X E
  exact lv_goto X.1.1 X.1.2.1 hc ht (kk.use (X.to X.2.2.2.2.1.1 X.2.2.2.2.1.2) E)
theorem tr_ifnull {r : Option (Nat × Nat)} {off : Int} (tgt : Nat) (hc : decode m.2.1 pc = .ok (.ifnull off, 3)) (ht : (pc : Int) + off = (tgt : Int)) (kN : r = none → mT g m d mc ms tgt L st h Q) (kS : ∀ k n, r = some (k, n) → mT g m d mc ms (pc + 3) L st h Q) : mT g m d mc ms pc L (vp r :: st) h Q := by
  intro p R e s mi args below meth c H ls locs cells slots ad ad0 h0 Qf X E
  have hw := List.forall_mem_cons.mp X.2.2.2.2.1.2
  cases r with
  | none => exact lv_ifnullN X.1.1 X.1.2.1 hc ht ((kN rfl).use (X.to X.2.2.2.2.1.1 hw.2) E)
  | some r => exact lv_ifnull X.1.1 X.1.2.1 hc ((kS r.1 r.2 rfl).use (X.to X.2.2.2.2.1.1 hw.2) E)
theorem tr_ifnonnull {r : Option (Nat × Nat)} {off : Int} (tgt : Nat) (hc : decode m.2.1 pc = .ok (.ifnonnull off, 3)) (ht : (pc : Int) + off = (tgt : Int)) (kN : r = none → mT g m d mc ms (pc + 3) L st h Q) (kS : ∀ k n, r = some (k, n) → mT g m d mc ms tgt L st h Q) : mT g m d mc ms pc L (vp r :: st) h Q := by
  intro p R e s mi args below meth c H ls locs cells slots ad ad0 h0 Qf X E
  have hw := List.forall_mem_cons.mp X.2.2.2.2.1.2
  cases r with
  | none => exact lv_ifnonnullN X.1.1 X.1.2.1 hc ((kN rfl).use (X.to X.2.2.2.2.1.1 hw.2) E)
  | some r => exact lv_ifnonnull X.1.1 X.1.2.1 hc ht ((kS r.1 r.2 rfl).use (X.to X.2.2.2.2.1.1 hw.2) E)
theorem tr_table {dflt lo hi : Int} {offs : Array Int} {len : Nat} {x : Int32} (tgs : List Nat) (dt : Nat) (hc : decode m.2.1 pc = .ok (.tableswitch dflt lo hi offs, len)) (hs : hi = lo + tgs.length - 1) (ht : offs.toList = tgs.map (fun t : Nat => ((t : Int) - (pc : Int)))) (hd : (pc : Int) + dflt = (dt : Int))
    (kin : ∀ (i t : Nat), tgs[i]? = some t → x.toInt = lo + i → mT g m d mc ms t L st h Q) (kout : (∀ i : Nat, i < tgs.length → x.toInt ≠ lo + i) → mT g m d mc ms dt L st h Q) : mT g m d mc ms pc L (vi x :: st) h Q := by
  intro p R e s mi args below meth c H ls locs cells slots ad ad0 h0 Qf X E
  have hw := List.forall_mem_cons.mp X.2.2.2.2.1.2
  by_cases h1 : x.toInt < lo
  · exact lv_tableOut X.1.1 X.1.2.1 hc (Or.inl h1) hd ((kout (fun i hi => by omega)).use (X.to X.2.2.2.2.1.1 hw.2) E)
  by_cases h2 : hi < x.toInt
  · exact lv_tableOut X.1.1 X.1.2.1 hc (Or.inr h2) hd ((kout (fun i hi => by omega)).use (X.to X.2.2.2.2.1.1 hw.2) E)
  have hlt : (x.toInt - lo).toNat < tgs.length := by omega
  have h3 : tgs[(x.toInt - lo).toNat]? = some tgs[(x.toInt - lo).toNat] := List.getElem?_eq_getElem hlt
  have h4 : offs[(x.toInt - lo).toNat]? = some ((tgs[(x.toInt - lo).toNat] : Int) - pc) := by
    rw [← Array.getElem?_toList, ht, List.getElem?_map, h3]
    rfl
  exact lv_tableIn X.1.1 X.1.2.1 hc h1 h2 h4 (tgt := tgs[(x.toInt - lo).toNat]) (by omega) ((kin (x.toInt - lo).toNat _ h3 (by omega)).use (X.to X.2.2.2.2.1.1 hw.2) E)
theorem tr_ireturn {x : Int32} (hc : decode m.2.1 pc = .ok (.ireturn, 1)) {ty : FieldType} (hr : m.2.2.2 = some ty) (hn : narrow ty (.int x) = .int x) (kk : Q (some (vi x)) h) : mT g m d mc ms pc L (vi x :: []) h Q := by
  intro p R e s mi args below meth c H ls locs cells slots ad ad0 h0 Qf X E
  exact E (v := some (vi x)) ⟨hc, ty, hr, hn⟩ kk X.2.2.2.1.1 X.2.2.2.1.2 (fun y hy => by cases hy; exact trivial) X.2.2.2.2.2 (Nat.le_trans (Nat.le_add_right _ _) X.2.1.2.2.1) (Nat.le_trans (Nat.le_add_right _ _) X.2.1.2.2.2)
theorem tr_return (hc : decode m.2.1 pc = .ok (.return_, 1)) (hr : m.2.2.2 = none) (kk : Q (none) h) : mT g m d mc ms pc L ([]) h Q := by
  intro p R e s mi args below meth c H ls locs cells slots ad ad0 h0 Qf X E
  exact E (v := none) ⟨hr, hc⟩ kk X.2.2.2.1.1 X.2.2.2.1.2 (fun y hy => by cases hy) X.2.2.2.2.2 (Nat.le_trans (Nat.le_add_right _ _) X.2.1.2.2.1) (Nat.le_trans (Nat.le_add_right _ _) X.2.1.2.2.2)
theorem tr_areturn {r : Option (Nat × Nat)} (hc : decode m.2.1 pc = .ok (.areturn, 1)) {ty : FieldType} (hr : m.2.2.2 = some ty) (ht : misR ty = true) (kk : Q (some (vp r)) h) : mT g m d mc ms pc L ([vp r]) h Q := by
  intro p R e s mi args below meth c H ls locs cells slots ad ad0 h0 Qf X E
  exact E (v := some (vp r)) ⟨hc, ty, hr, by cases ty <;> first | exact Or.inl ⟨_, rfl⟩ | exact Or.inr ⟨_, rfl⟩ | cases ht⟩ kk X.2.2.2.1.1 X.2.2.2.1.2 (fun y hy => by cases hy; exact (List.forall_mem_cons.mp X.2.2.2.2.1.2).1) X.2.2.2.2.2 (Nat.le_trans (Nat.le_add_right _ _) X.2.1.2.2.1) (Nat.le_trans (Nat.le_add_right _ _) X.2.1.2.2.2)
end TR
end
section
/-! rows that a program decides, of the classes' fields -/
theorem mcl_at {k : Nat} (hk : k < 11) : mcl[k]? = some (mkd k) := by
  unfold mcl
  rw [List.getElem?_map, List.getElem?_range hk]
  rfl
set_option maxRecDepth 100000 in
theorem mlays : ∀ k, k < 11 → ∀ w ∈ u_ws (mkd k).1 (mkd k).2.1 (mkd k).2.2, w ∈ mTb := by decide +kernel
set_option maxRecDepth 100000 in
theorem mtys_ok : ∀ k, k < 11 → ∀ f, f < (mkd k).2.2 → parseFieldDescriptor ((mkd k).2.1 f).2.2.1 = some (mty k f) := by decide +kernel
set_option maxRecDepth 100000 in
theorem mnames_ok : ∀ k, k < 11 → ∀ a, a < (mkd k).2.2 → ∀ b, b < (mkd k).2.2 → a ≠ b → ((mkd k).2.1 a).2.1 ≠ ((mkd k).2.1 b).2.1 := by decide +kernel
end
section
/-! rules: fields, arrays, new cells -/
theorem hI_setI (h : mH) (k n f : Nat) (v : Int32) (k' n' f' : Nat) : hI (setI h k n f v) k' n' f' = if k' = k ∧ n' = n ∧ f' = f then v else hI h k' n' f' := rfl
theorem hI_ne {h : mH} {k n f : Nat} {v : Int32} {k' n' : Nat} (q : ¬ (k' = k ∧ n' = n)) : hI (setI h k n f v) k' n' = hI h k' n' := by
  funext f'
  show (if k' = k ∧ n' = n ∧ f' = f then v else hI h k' n' f') = _
  rw [if_neg (fun z => q ⟨z.1, z.2.1⟩)]
theorem hP_ne {h : mH} {k n f : Nat} {v : Option (Nat × Nat)} {k' n' : Nat} (q : ¬ (k' = k ∧ n' = n)) : hP (setP h k n f v) k' n' = hP h k' n' := by
  funext f'
  show (if k' = k ∧ n' = n ∧ f' = f then v else hP h k' n' f') = _
  rw [if_neg (fun z => q ⟨z.1, z.2.1⟩)]
theorem ment_congr {g : mG} {ad : Nat → Nat → Nat} {h h' : mH} {k n : Nat} (h1 : hI h' k n = hI h k n) (h2 : hP h' k n = hP h k n) (h3 : hL h' k n = hL h k n) (hk : k < 14) : ment g ad h' k n = ment g ad h k n := by
  unfold ment
  split
  · congr 2
    unfold mfs mfv
    rw [h1, h2]
  · split
    · rename_i q; subst q; rw [h1, h3]
    · split
      · rename_i q; subst q; rw [h1, h3]
      · have q : k = 13 := by omega
        subst q
        unfold mpt
        rw [h2, h3]
theorem mco_ad {ad ad' : Nat → Nat → Nat} {r : Option (Nat × Nat)} (hr : ∀ q, r = some q → ad' q.1 q.2 = ad q.1 q.2) : mco ad' (vp r) = mco ad (vp r) := by
  cases r with
  | none => rfl
  | some q => show Value.ref (ad' q.1 q.2) = _; rw [hr q rfl]; rfl
theorem ment_ad {g : mG} {ad ad' : Nat → Nat → Nat} {h : mH} {k n : Nat} (hr : ∀ f q, hP h k n f = some q → ad' q.1 q.2 = ad q.1 q.2) (hk : k < 14) : ment g ad' h k n = ment g ad h k n := by
  unfold ment
  split
  · congr 2
    unfold mfs
    refine List.map_congr_left fun f _ => ?_
    unfold mfv
    split
    · exact mco_ad (hr f)
    · rfl
  · split
    · rfl
    · split
      · rfl
      · have q : k = 13 := by omega
        subst q
        have e : mpt ad' h n = mpt ad h n := by
          funext f
          unfold mpt
          cases hq : hP h 13 n f with
          | none => rfl
          | some q => show some (ad' q.1 q.2) = some (ad q.1 q.2); rw [hr f q hq]
        rw [e]
theorem mSm.set {g : mG} {ad : Nat → Nat → Nat} {h h' : mH} {H H' : Heap} {ws : va_W} {ix : Nat → Nat → Nat} {k n : Nat} {e : va_E} (S : mSm g ad h H ws ix) (hk : k < 14) (hn : n < hC h k) (he : e = ment g ad h' k n) (hc : ∀ k, hC h' k = hC h k)
    (ho : ∀ k' n', k' < 14 → ¬ (k' = k ∧ n' = n) → ment g ad h' k' n' = ment g ad h k' n') (hco : mCo g ad h') (P' : va_P g.2.1 mcl (ws.set (ix k n) (ad k n, e)) H') (D' : va_D (mA g) (ws.set (ix k n) (ad k n, e))) : mSim g ad h' H' := by
  refine ⟨ws.set (ix k n) (ad k n, e), ix, ?_, ?_, P', D', hco⟩
  · intro k' n' hk' hn'
    rw [hc] at hn'
    by_cases q : k' = k ∧ n' = n
    · obtain ⟨rfl, rfl⟩ := q
      rw [List.getElem?_set_self (List.getElem?_eq_some_iff.mp (S.1 _ _ hk' hn')).1, he]
    · rw [List.getElem?_set_ne (fun z => q (by obtain ⟨a, b⟩ := S.2.1 k n k' n' hk hn hk' hn' z; exact ⟨a.symm, b.symm⟩)), S.1 _ _ hk' hn', ho _ _ hk' q]
  · intro k1 n1 k2 n2 a1 a2 a3 a4
    rw [hc] at a2 a4
    exact S.2.1 k1 n1 k2 n2 a1 a2 a3 a4
/-- the ways to a field: own class, its number in the pool, kind and place of the field -/
def mFl (own : String) (idx k f : Nat) : Prop := k < 11 ∧ f < (mkd k).2.2 ∧ ∃ ref, Cond.fieldLink own idx ref ((mkd k).2.1 f).2.1 ((mkd k).2.1 f).2.2.1 ∈ mTb ∧ (ref = ((mkd k).2.1 f).1 ∨ Cond.sameField ref ((mkd k).2.1 f).1 ((mkd k).2.1 f).2.1 ((mkd k).2.1 f).2.2.1 ∈ mTb)
theorem mfs_at {ad : Nat → Nat → Nat} {h : mH} {k n f : Nat} (hf : f < (mkd k).2.2) : (mfs ad h k n)[f]? = some (mfv ad h k n f) := by
  unfold mfs
  rw [List.getElem?_map, List.getElem?_range hf]
  rfl
theorem ment_o {g : mG} {ad : Nat → Nat → Nat} {h : mH} {k n : Nat} (hk : k < 11) : ment g ad h k n = .inr (k, mfs ad h k n) := if_pos hk
theorem mFl.same {own : String} {s : State} {args : Array Value} {k f : Nat} {ref : String} (hts : ∀ w ∈ mTb, w.before args s = true) (hr : ref = ((mkd k).2.1 f).1 ∨ Cond.sameField ref ((mkd k).2.1 f).1 ((mkd k).2.1 f).2.1 ((mkd k).2.1 f).2.2.1 ∈ mTb) :
    ∀ x, s.fieldFound? ((mkd k).2.1 f).1 ((mkd k).2.1 f).2.1 ((mkd k).2.1 f).2.2.1 = some x → s.fieldFound? ref ((mkd k).2.1 f).2.1 ((mkd k).2.1 f).2.2.1 = some x := by
  intro x hx
  rcases hr with rfl | hr
  · exact hx
  · exact u_same (hts _ hr) x hx
section TR
variable {g : mG} {m : mMe} {d mc ms pc : Nat} {L : List (Option mV)} {st : List mV} {h : mH} {Q : Option mV → mH → Prop}
theorem tr_get {k n f idx : Nat} (hc : decode m.2.1 pc = .ok (.getfield idx, 3)) (hf : mFl m.1.cls idx k f) {v : mV} (hv : ∀ ad : Nat → Nat → Nat, mfv ad h k n f = mco ad v) (hw : (∀ (k n f : Nat) (r : Nat × Nat), hP h k n f = some r → r.2 < hC h r.1) → mwf h v) (kk : mT g m d mc ms (pc + 3) L (v :: st) h Q) : mT g m d mc ms pc L (vr k n :: st) h Q := by
  intro p R e s mi args below meth c H ls locs cells slots ad ad0 h0 Qf X E
  have hst := List.forall_mem_cons.mp X.2.2.2.2.1.2
  obtain ⟨ws, ix, S⟩ := X.2.2.2.1.2
  obtain ⟨hk, hfl, ref, hlink, hsame⟩ := hf
  have hin := S.1 k n (by omega) hst.1
  rw [ment_o hk] at hin
  refine va_get (T := (mkd k).2.1) (N := (mkd k).2.2) (C := (mkd k).1) X.1.1 X.1.2.1 X.1.2.2.2.2.1 (mlays k hk) X.1.2.2.2.1 X.2.2.1.2 S.2.2.1 (ix k n) hin (mcl_at hk) f hfl (X.1.2.2.2.2.1 _ hlink) (mFl.same (own := "") X.1.2.2.2.2.1 hsame) (v := mco ad v) (by rw [mfs_at hfl, hv]) hc (kk.use (X.to X.2.2.2.2.1.1 (List.forall_mem_cons.mpr ⟨hw S.2.2.2.2.2.1, hst.2⟩)) E)
theorem tr_getI {k n f idx : Nat} (hc : decode m.2.1 pc = .ok (.getfield idx, 3)) (hf : mFl m.1.cls idx k f) (ht : misR (mty k f) = false) (kk : mT g m d mc ms (pc + 3) L (vi (hI h k n f) :: st) h Q) : mT g m d mc ms pc L (vr k n :: st) h Q :=
  tr_get hc hf (v := vi (hI h k n f)) (fun ad => by unfold mfv; rw [ht]; rfl) (fun _ => trivial) kk
theorem tr_getP {k n f idx : Nat} {r : Option (Nat × Nat)} (hc : decode m.2.1 pc = .ok (.getfield idx, 3)) (hf : mFl m.1.cls idx k f) (ht : misR (mty k f) = true) (hr : hP h k n f = r) (kk : mT g m d mc ms (pc + 3) L (vp r :: st) h Q) : mT g m d mc ms pc L (vr k n :: st) h Q :=
  tr_get hc hf (v := vp r) (fun ad => by unfold mfv; rw [ht, ← hr]; rfl) (fun hw => by cases r with
    | none => exact trivial
    | some r => exact hw k n f r hr) kk
/-- what may be stored in a field -/
def mPut (m : mMe) (k f : Nat) : Prop := ((mkd k).2.1 f).2.2.2 = false ∨ (((mkd k).2.1 f).2.2.2 = true ∧ m.1.name = "<init>" ∧ ((mkd k).2.1 f).1 = m.1.cls)
theorem tr_put {k n f idx : Nat} (hc : decode m.2.1 pc = .ok (.putfield idx, 3)) (hf : mFl m.1.cls idx k f) (hp : mPut m k f) {v : mV} {h' : mH} (hn : ∀ ad : Nat → Nat → Nat, narrow (mty k f) (mco ad v) = mco ad v ∧ fits (mty k f) (mco ad v) = true) (hC' : ∀ k, hC h' k = hC h k)
    (hv : ∀ ad : Nat → Nat → Nat, mfs ad h' k n = (mfs ad h k n).set f (mco ad v)) (ho : ∀ k' n', ¬ (k' = k ∧ n' = n) → hI h' k' n' = hI h k' n' ∧ hP h' k' n' = hP h k' n') (hL' : ∀ k n, hL h' k n = hL h k n)
    (hw : mwf h v → (∀ (k n f : Nat) (r : Nat × Nat), hP h k n f = some r → r.2 < hC h r.1) → ∀ (k n f : Nat) (r : Nat × Nat), hP h' k n f = some r → r.2 < hC h r.1) (kk : mT g m d mc ms (pc + 3) L st h' Q) : mT g m d mc ms pc L (v :: vr k n :: st) h Q := by
  intro p R e s mi args below meth c H ls locs cells slots ad ad0 h0 Qf X E
  have hst := List.forall_mem_cons.mp X.2.2.2.2.1.2
  have hst2 := List.forall_mem_cons.mp hst.2
  obtain ⟨ws, ix, S⟩ := X.2.2.2.1.2
  obtain ⟨hk, hfl, ref, hlink, hsame⟩ := hf
  have hin := S.1 k n (by omega) hst2.1
  rw [ment_o hk] at hin
  have hwf : ∀ w, mwf h w → mwf h' w := by
    intro w
    rcases w with x | x | r | r
    · exact id
    · exact id
    · exact id
    · show r.2 < _ → r.2 < _
      rw [hC']
      exact id
  have hco : mCo g ad h' := by
    obtain ⟨⟨a1, a2, a3, a4, a5, a6, a7, a8, a9⟩, b, c⟩ := S.2.2.2.2
    refine ⟨⟨a1, a2, by rw [hC']; exact a3, by rw [hC']; exact a4, by rw [hL']; exact a5, by rw [hL']; exact a6, ?_, a8, by rw [hC']; exact a9⟩, fun k n f r hr => by rw [hC']; exact hw hst.1 b k n f r hr, fun k hk => by rw [hC']; exact c k hk⟩
    rw [(ho 14 0 (fun q => by omega)).1]
    exact a7
  have kk' : ∀ (H1 : Heap) (locs1 : List Loc), va_P g.2.1 mcl (ws.set (ix k n) (ad k n, .inr (k, (mfs ad h k n).set f (mco ad v)))) H1 → va_D (mA g) (ws.set (ix k n) (ad k n, .inr (k, (mfs ad h k n).set f (mco ad v)))) → va_S (mA g) s.heap H1 locs1 → W p g.1 e R s mi args below meth c H1 locs1 cells slots Qf (F0 mi (pc + 3) ls (st.map (mco ad))) := by
    intro H1 locs1 P1 D1 S1
    refine kk.use ⟨X.1, X.2.1, X.2.2.1, ⟨?_, S.set (h' := h') (by omega) hst2.1 (by rw [ment_o hk, hv]) hC' (fun k' n' hk' q => ment_congr (ho k' n' q).1 (ho k' n' q).2 (hL' k' n') hk') hco P1 D1⟩, ⟨⟨X.2.2.2.2.1.1.1, X.2.2.2.2.1.1.2.1, X.2.2.2.2.1.1.2.2.1, fun i w hi => ⟨(X.2.2.2.2.1.1.2.2.2 i w hi).1, hwf w (X.2.2.2.2.1.1.2.2.2 i w hi).2⟩⟩, fun w hw => hwf w (hst2.2 w hw)⟩, S1⟩ E
    intro k n hn
    rw [hC']
    exact X.2.2.2.1.1 k n hn
  rcases hp with hp | ⟨hp1, hp2, hp3⟩
  · exact va_put (T := (mkd k).2.1) (N := (mkd k).2.2) (C := (mkd k).1) X.1.1 X.1.2.1 X.1.2.2.2.2.1 (mlays k hk) (mty k) (mtys_ok k hk) (mnames_ok k hk) X.1.2.2.2.1 X.2.2.1.2 S.2.2.1 S.2.2.2.1 X.2.2.2.2.2 (ix k n) hin (mcl_at hk) f hfl (X.1.2.2.2.2.1 _ hlink) (mFl.same (own := "") X.1.2.2.2.2.1 hsame) hp (mtys_ok k hk f hfl) (hn ad).1 (hn ad).2 (by unfold mfs; rw [List.length_map, List.length_range]; exact hfl) hc kk'
  · exact va_putF (T := (mkd k).2.1) (N := (mkd k).2.2) (C := (mkd k).1) X.1.1 X.1.2.1 X.1.2.2.2.2.1 (mlays k hk) (mty k) (mtys_ok k hk) (mnames_ok k hk) X.1.2.2.2.1 X.2.2.1.2 S.2.2.1 S.2.2.2.1 X.2.2.2.2.2 (ix k n) hin (mcl_at hk) f hfl (X.1.2.2.2.2.1 _ hlink) (mFl.same (own := "") X.1.2.2.2.2.1 hsame) hp1 (X.1.2.2.2.2.2.2.2 hp2) hp3 (mtys_ok k hk f hfl) (hn ad).1 (hn ad).2 (by unfold mfs; rw [List.length_map, List.length_range]; exact hfl) hc kk'
theorem mfs_setI {ad : Nat → Nat → Nat} {h : mH} {k n f : Nat} {x : Int32} (ht : misR (mty k f) = false) : mfs ad (setI h k n f x) k n = (mfs ad h k n).set f (.int x) := by
  refine List.ext_getElem? fun j => ?_
  by_cases hj : j < (mkd k).2.2
  · rw [mfs_at hj]
    by_cases q : j = f
    · subst q
      rw [List.getElem?_set_self (by unfold mfs; rw [List.length_map, List.length_range]; exact hj)]
      unfold mfv
      rw [ht]
      show some (Value.int (hI (setI h k n j x) k n j)) = _
      rw [hI_setI, if_pos ⟨rfl, rfl, rfl⟩]
    · rw [List.getElem?_set_ne (fun z => q z.symm), mfs_at hj]
      unfold mfv
      have e : hI (setI h k n f x) k n j = hI h k n j := by rw [hI_setI, if_neg (fun z => q z.2.2)]
      rw [e]
      rfl
  · rw [List.getElem?_eq_none (by unfold mfs; rw [List.length_map, List.length_range]; omega), List.getElem?_eq_none (by rw [List.length_set]; unfold mfs; rw [List.length_map, List.length_range]; omega)]
theorem mfs_setP {ad : Nat → Nat → Nat} {h : mH} {k n f : Nat} {r : Option (Nat × Nat)} (ht : misR (mty k f) = true) : mfs ad (setP h k n f r) k n = (mfs ad h k n).set f (mco ad (vp r)) := by
  refine List.ext_getElem? fun j => ?_
  by_cases hj : j < (mkd k).2.2
  · rw [mfs_at hj]
    by_cases q : j = f
    · subst q
      rw [List.getElem?_set_self (by unfold mfs; rw [List.length_map, List.length_range]; exact hj)]
      unfold mfv
      rw [ht]
      have e : hP (setP h k n j r) k n j = r := by show (if k = k ∧ n = n ∧ j = j then r else _) = r; rw [if_pos ⟨rfl, rfl, rfl⟩]
      rw [e]
      rfl
    · rw [List.getElem?_set_ne (fun z => q z.symm), mfs_at hj]
      unfold mfv
      have e : hP (setP h k n f r) k n j = hP h k n j := by show (if k = k ∧ n = n ∧ j = f then r else _) = _; rw [if_neg (fun z => q z.2.2)]; rfl
      rw [e]
      rfl
  · rw [List.getElem?_eq_none (by unfold mfs; rw [List.length_map, List.length_range]; omega), List.getElem?_eq_none (by rw [List.length_set]; unfold mfs; rw [List.length_map, List.length_range]; omega)]
theorem tr_putI {k n f idx : Nat} {x : Int32} (hc : decode m.2.1 pc = .ok (.putfield idx, 3)) (hf : mFl m.1.cls idx k f) (hp : mPut m k f) (ht : misR (mty k f) = false) (hn : narrow (mty k f) (.int x) = .int x ∧ fits (mty k f) (.int x) = true) (kk : mT g m d mc ms (pc + 3) L st (setI h k n f x) Q) : mT g m d mc ms pc L (vi x :: vr k n :: st) h Q :=
  tr_put (v := vi x) (h' := setI h k n f x) hc hf hp (fun _ => hn) (fun _ => rfl) (fun ad => mfs_setI ht) (fun k' n' q => ⟨hI_ne q, rfl⟩) (fun _ _ => rfl) (fun _ hw => hw) kk
theorem mnar_r {t : FieldType} (ht : misR t = true) (ad : Nat → Nat → Nat) (r : Option (Nat × Nat)) : narrow t (mco ad (vp r)) = mco ad (vp r) ∧ fits t (mco ad (vp r)) = true := by
  cases t <;> first | (simp [misR] at ht; done) | (cases r <;> exact ⟨rfl, rfl⟩)
theorem tr_putP {k n f idx : Nat} {r : Option (Nat × Nat)} (hc : decode m.2.1 pc = .ok (.putfield idx, 3)) (hf : mFl m.1.cls idx k f) (hp : mPut m k f) (ht : misR (mty k f) = true) (kk : mT g m d mc ms (pc + 3) L st (setP h k n f r) Q) : mT g m d mc ms pc L (vp r :: vr k n :: st) h Q := by
  refine tr_put (v := vp r) (h' := setP h k n f r) hc hf hp (fun ad => mnar_r ht ad r) (fun _ => rfl) (fun ad => mfs_setP ht) (fun k' n' q => ⟨rfl, hP_ne q⟩) (fun _ _ => rfl) ?_ kk
  intro hv hw k' n' f' r' hr
  by_cases q : k' = k ∧ n' = n ∧ f' = f
  · have e : hP (setP h k n f r) k' n' f' = r := if_pos q
    rw [e] at hr
    subst hr
    exact hv
  · have e : hP (setP h k n f r) k' n' f' = hP h k' n' f' := if_neg q
    rw [e] at hr
    exact hw _ _ _ _ hr
end TR
end
section
/-! rules: rows, new cells, casts, statics -/
def cpyP (h : mH) (n0 n1 len : Nat) : mH := ((h.1.1, h.1.2.1, fun k n f => if k = 13 ∧ n = n1 ∧ f < len then h.1.2.2 13 n0 f else h.1.2.2 k n f), h.2)
theorem mwf_c {h h' : mH} (hc : ∀ k, hC h' k = hC h k) : ∀ v, mwf h v → mwf h' v := by
  intro w
  rcases w with x | x | r | r
  · exact id
  · exact id
  · exact id
  · show r.2 < _ → r.2 < _
    rw [hc]
    exact id
theorem mX.heap {g : mG} {m : mMe} {d mc ms : Nat} {L : List (Option mV)} {st st' : List mV} {h h' : mH} {p : Program} {R : Room} {s : State} {mi : MethodId} {args : Array Value} {meth : Method} {c : Code} {H H1 : Heap} {ls : Array Slot} {locs locs1 : List Loc} {cells slots : Nat} {ad ad0 : Nat → Nat → Nat} {h0 : mH}
    (X : mX g m d mc ms L st h p R s mi args meth c H ls locs cells slots ad ad0 h0) (hc : ∀ k, hC h' k = hC h k) (hS : mSim g ad h' H1) (h2 : ∀ v ∈ st', mwf h v) (S1 : va_S (mA g) s.heap H1 locs1) : mX g m d mc ms L st' h' p R s mi args meth c H1 ls locs1 cells slots ad ad0 h0 :=
  ⟨X.1, X.2.1, X.2.2.1, ⟨fun k n hn => by rw [hc]; exact X.2.2.2.1.1 k n hn, hS⟩, ⟨⟨X.2.2.2.2.1.1.1, X.2.2.2.2.1.1.2.1, X.2.2.2.2.1.1.2.2.1, fun i w hi => ⟨(X.2.2.2.2.1.1.2.2.2 i w hi).1, mwf_c hc w (X.2.2.2.2.1.1.2.2.2 i w hi).2⟩⟩, fun w hw => mwf_c hc w (h2 w hw)⟩, S1⟩
theorem ment_i {g : mG} {ad : Nat → Nat → Nat} {h : mH} {n : Nat} : ment g ad h 11 n = .inl (g.2.2.1.1, hL h 11 n, .inl (hI h 11 n)) := rfl
theorem ment_z {g : mG} {ad : Nat → Nat → Nat} {h : mH} {n : Nat} : ment g ad h 12 n = .inl (g.2.2.1.2.1, hL h 12 n, .inl (hI h 12 n)) := rfl
theorem ment_q {g : mG} {ad : Nat → Nat → Nat} {h : mH} {n : Nat} : ment g ad h 13 n = .inl (g.2.2.1.2.2, hL h 13 n, .inr (.inr (.inr (.inr (mpt ad h n))))) := rfl
theorem mCo.sI {g : mG} {ad : Nat → Nat → Nat} {h : mH} (k n f : Nat) (v : Int32) (hk : k < 14) (C : mCo g ad h) : mCo g ad (setI h k n f v) := by
  obtain ⟨⟨a1, a2, a3, a4, a5, a6, a7, a8, a9⟩, b, c⟩ := C
  refine ⟨⟨a1, a2, a3, a4, a5, a6, ?_, a8, a9⟩, b, c⟩
  rw [hI_ne (fun q => by omega)]
  exact a7
section TR
variable {g : mG} {m : mMe} {d mc ms pc : Nat} {L : List (Option mV)} {st : List mV} {h : mH} {Q : Option mV → mH → Prop}
theorem tr_iald {n : Nat} {i : Int32} (hc : decode m.2.1 pc = .ok (.iaload, 1)) (hin : vp_in i (hL h 11 n)) (kk : mT g m d mc ms (pc + 1) L (vi (hI h 11 n i.toNatClampNeg) :: st) h Q) : mT g m d mc ms pc L (vi i :: vr 11 n :: st) h Q := by
  intro p R e s mi args below meth c H ls locs cells slots ad ad0 h0 Qf X E
  have hst := List.forall_mem_cons.mp (List.forall_mem_cons.mp X.2.2.2.2.1.2).2
  obtain ⟨ws, ix, S⟩ := X.2.2.2.1.2
  exact va_iald X.1.1 X.1.2.1 X.2.2.1.2 S.2.2.1 (ix 11 n) 0 ((S.1 11 n (by omega) hst.1).trans (by rw [ment_i])) rfl hin hc (kk.use (X.to X.2.2.2.2.1.1 (List.forall_mem_cons.mpr ⟨trivial, hst.2⟩)) E)
theorem tr_zald {n : Nat} {i : Int32} (hc : decode m.2.1 pc = .ok (.baload, 1)) (hin : vp_in i (hL h 12 n)) (kk : mT g m d mc ms (pc + 1) L (vi (hI h 12 n i.toNatClampNeg) :: st) h Q) : mT g m d mc ms pc L (vi i :: vr 12 n :: st) h Q := by
  intro p R e s mi args below meth c H ls locs cells slots ad ad0 h0 Qf X E
  have hst := List.forall_mem_cons.mp (List.forall_mem_cons.mp X.2.2.2.2.1.2).2
  obtain ⟨ws, ix, S⟩ := X.2.2.2.1.2
  exact va_zald X.1.1 X.1.2.1 X.2.2.1.2 S.2.2.1 (ix 12 n) 1 ((S.1 12 n (by omega) hst.1).trans (by rw [ment_z])) rfl hin hc (kk.use (X.to X.2.2.2.2.1.1 (List.forall_mem_cons.mpr ⟨trivial, hst.2⟩)) E)
theorem tr_sald {i : Int32} (hc : decode m.2.1 pc = .ok (.iaload, 1)) (hin : vp_in i (hL h 14 0)) (kk : mT g m d mc ms (pc + 1) L (vi (hI h 14 0 i.toNatClampNeg) :: st) h Q) : mT g m d mc ms pc L (vi i :: vr 14 0 :: st) h Q := by
  intro p R e s mi args below meth c H ls locs cells slots ad ad0 h0 Qf X E
  have hst := List.forall_mem_cons.mp (List.forall_mem_cons.mp X.2.2.2.2.1.2).2
  obtain ⟨ws, ix, S⟩ := X.2.2.2.1.2
  obtain ⟨⟨a1, a2, a3, a4, a5, a6, a7, a8, a9⟩, b, c⟩ := S.2.2.2.2
  have kk' := kk.use (X.to X.2.2.2.2.1.1 (List.forall_mem_cons.mpr ⟨trivial, hst.2⟩)) E
  rw [a7] at kk'
  rw [a5] at hin
  have O := X.2.2.1.1
  show W p g.1 e R s mi args below meth _ H locs cells slots Qf (F0 mi pc ls (.int i :: .ref (ad 14 0) :: st.map (mco ad)))
  rw [a1]
  exact va_sld X.1.1 X.1.2.1 O.2.1 (Nat.lt_of_lt_of_le O.2.2.2.1 O.2.2.2.2.2.1) (Nat.not_le.mpr O.2.2.2.1) X.2.2.2.2.2 hin hc kk'
theorem tr_slen {v : Int32} (hc : decode m.2.1 pc = .ok (.arraylength, 1)) (hv : Int32.ofNat (hL h 14 0) = v) (kk : mT g m d mc ms (pc + 1) L (vi v :: st) h Q) : mT g m d mc ms pc L (vr 14 0 :: st) h Q := by
  intro p R e s mi args below meth c H ls locs cells slots ad ad0 h0 Qf X E
  have hst := List.forall_mem_cons.mp X.2.2.2.2.1.2
  obtain ⟨ws, ix, S⟩ := X.2.2.2.1.2
  obtain ⟨⟨a1, a2, a3, a4, a5, a6, a7, a8, a9⟩, b, c⟩ := S.2.2.2.2
  have kk' := kk.use (X.to X.2.2.2.2.1.1 (List.forall_mem_cons.mpr ⟨trivial, hst.2⟩)) E
  rw [← hv, a5] at kk'
  have O := X.2.2.1.1
  show W p g.1 e R s mi args below meth _ H locs cells slots Qf (F0 mi pc ls (.ref (ad 14 0) :: st.map (mco ad)))
  rw [a1]
  exact va_slen X.1.1 X.1.2.1 O.2.1 (Nat.lt_of_lt_of_le O.2.2.2.1 O.2.2.2.2.2.1) (Nat.not_le.mpr O.2.2.2.1) X.2.2.2.2.2 hc kk'
theorem tr_dlen (hc : decode m.2.1 pc = .ok (.arraylength, 1)) (kk : mT g m d mc ms (pc + 1) L (vi 0 :: st) h Q) : mT g m d mc ms pc L (vr 15 0 :: st) h Q := by
  intro p R e s mi args below meth c H ls locs cells slots ad ad0 h0 Qf X E
  have hst := List.forall_mem_cons.mp X.2.2.2.2.1.2
  obtain ⟨ws, ix, S⟩ := X.2.2.2.1.2
  obtain ⟨⟨a1, a2, a3, a4, a5, a6, a7, a8, a9⟩, b, c⟩ := S.2.2.2.2
  have kk' := kk.use (X.to X.2.2.2.2.1.1 (List.forall_mem_cons.mpr ⟨trivial, hst.2⟩)) E
  have O := X.2.2.1.1
  obtain ⟨cell, q1, q2, q3, q4⟩ := O.2.2.1
  show W p g.1 e R s mi args below meth _ H locs cells slots Qf (F0 mi pc ls (.ref (ad 15 0) :: st.map (mco ad)))
  rw [a2]
  exact W.alen (n := 0) X.1.1 X.1.2.1 (by rw [X.2.2.2.2.2.2.1 _ (Nat.lt_of_lt_of_le O.2.2.2.2.1 O.2.2.2.2.2.1) (Nat.not_le.mpr O.2.2.2.2.1)]; exact q1) q2 (by rw [q4]; rfl) rfl rfl hc kk'
theorem tr_alen {k n : Nat} {v : Int32} (hk : k = 11 ∨ k = 12 ∨ k = 13) (hc : decode m.2.1 pc = .ok (.arraylength, 1)) (hv : Int32.ofNat (hL h k n) = v) (kk : mT g m d mc ms (pc + 1) L (vi v :: st) h Q) : mT g m d mc ms pc L (vr k n :: st) h Q := by
  intro p R e s mi args below meth c H ls locs cells slots ad ad0 h0 Qf X E
  have hst := List.forall_mem_cons.mp X.2.2.2.2.1.2
  obtain ⟨ws, ix, S⟩ := X.2.2.2.1.2
  have kk' := kk.use (X.to X.2.2.2.2.1.1 (List.forall_mem_cons.mpr ⟨trivial, hst.2⟩)) E
  rcases hk with rfl | rfl | rfl
  · exact va_alen X.1.1 X.1.2.1 X.2.2.1.2 S.2.2.1 (ix 11 n) 0 (S.1 11 n (by omega) hst.1) rfl hv hc kk'
  · exact va_alen X.1.1 X.1.2.1 X.2.2.1.2 S.2.2.1 (ix 12 n) 1 (S.1 12 n (by omega) hst.1) rfl hv hc kk'
  · exact va_alen X.1.1 X.1.2.1 X.2.2.1.2 S.2.2.1 (ix 13 n) 2 (S.1 13 n (by omega) hst.1) rfl hv hc kk'
theorem tr_aald {n : Nat} {i : Int32} {r : Option (Nat × Nat)} (hc : decode m.2.1 pc = .ok (.aaload, 1)) (hin : vp_in i (hL h 13 n)) (hr : hP h 13 n i.toNatClampNeg = r) (kk : mT g m d mc ms (pc + 1) L (vp r :: st) h Q) : mT g m d mc ms pc L (vi i :: vr 13 n :: st) h Q := by
  intro p R e s mi args below meth c H ls locs cells slots ad ad0 h0 Qf X E
  have hst := List.forall_mem_cons.mp (List.forall_mem_cons.mp X.2.2.2.2.1.2).2
  obtain ⟨ws, ix, S⟩ := X.2.2.2.1.2
  have hw : mwf h (vp r) := by
    cases r with
    | none => exact trivial
    | some r => exact S.2.2.2.2.2.1 _ _ _ _ hr
  have kk' := kk.use (X.to X.2.2.2.2.1.1 (List.forall_mem_cons.mpr ⟨hw, hst.2⟩)) E
  have he : mco ad (vp r) = va_rf (mpt ad h n i.toNatClampNeg) := by
    unfold mpt
    rw [hr]
    cases r <;> rfl
  rw [List.map_cons, he] at kk'
  exact va_aldq (C := "java/lang/Object") X.1.1 X.1.2.1 X.2.2.1.2 S.2.2.1 (ix 13 n) 2 ((S.1 13 n (by omega) hst.1).trans (by rw [ment_q])) rfl hin hc kk'
theorem upd_hI (h : mH) (k n i : Nat) (x : Int32) : upd (hI h k n) i x = hI (setI h k n i x) k n := by
  funext j
  show (if j = i then x else hI h k n j) = if k = k ∧ n = n ∧ j = i then x else hI h k n j
  by_cases q : j = i
  · rw [if_pos q, if_pos ⟨rfl, rfl, q⟩]
  · rw [if_neg q, if_neg (fun z => q z.2.2)]
theorem tr_iast {n : Nat} {i x : Int32} (hc : decode m.2.1 pc = .ok (.iastore, 1)) (hin : vp_in i (hL h 11 n)) (kk : mT g m d mc ms (pc + 1) L st (setI h 11 n i.toNatClampNeg x) Q) : mT g m d mc ms pc L (vi x :: vi i :: vr 11 n :: st) h Q := by
  intro p R e s mi args below meth c H ls locs cells slots ad ad0 h0 Qf X E
  have hst := List.forall_mem_cons.mp (List.forall_mem_cons.mp (List.forall_mem_cons.mp X.2.2.2.2.1.2).2).2
  obtain ⟨ws, ix, S⟩ := X.2.2.2.1.2
  refine va_iast X.1.1 X.1.2.1 X.2.2.1.2 S.2.2.1 S.2.2.2.1 X.2.2.2.2.2 (ix 11 n) 0 ((S.1 11 n (by omega) hst.1).trans (by rw [ment_i])) rfl hin hc fun H1 locs1 P1 D1 S1 => ?_
  exact kk.use (X.heap (h' := setI h 11 n i.toNatClampNeg x) (fun _ => rfl) (S.set (by omega) hst.1 (by rw [ment_i, upd_hI]; rfl) (fun _ => rfl) (fun k' n' hk' q => ment_congr (hI_ne q) rfl rfl hk') (S.2.2.2.2.sI _ _ _ _ (by omega)) P1 D1) hst.2 S1) E
theorem tr_zast {n : Nat} {i x : Int32} (hc : decode m.2.1 pc = .ok (.bastore, 1)) (hin : vp_in i (hL h 12 n)) (hx : vp_nar .boolean x = x) (kk : mT g m d mc ms (pc + 1) L st (setI h 12 n i.toNatClampNeg x) Q) : mT g m d mc ms pc L (vi x :: vi i :: vr 12 n :: st) h Q := by
  intro p R e s mi args below meth c H ls locs cells slots ad ad0 h0 Qf X E
  have hst := List.forall_mem_cons.mp (List.forall_mem_cons.mp (List.forall_mem_cons.mp X.2.2.2.2.1.2).2).2
  obtain ⟨ws, ix, S⟩ := X.2.2.2.1.2
  refine va_zast X.1.1 X.1.2.1 X.2.2.1.2 S.2.2.1 S.2.2.2.1 X.2.2.2.2.2 (ix 12 n) 1 ((S.1 12 n (by omega) hst.1).trans (by rw [ment_z])) rfl hin hc fun H1 locs1 P1 D1 S1 => ?_
  exact kk.use (X.heap (h' := setI h 12 n i.toNatClampNeg x) (fun _ => rfl) (S.set (by omega) hst.1 (by rw [ment_z, hx, upd_hI]; rfl) (fun _ => rfl) (fun k' n' hk' q => ment_congr (hI_ne q) rfl rfl hk') (S.2.2.2.2.sI _ _ _ _ (by omega)) P1 D1) hst.2 S1) E
theorem up_mpt (ad : Nat → Nat → Nat) (h : mH) (n i : Nat) (r : Option (Nat × Nat)) : va_up (mpt ad h n) i (r.map fun r => ad r.1 r.2) = mpt ad (setP h 13 n i r) n := by
  funext j
  show (if j = i then (r.map fun r => ad r.1 r.2) else mpt ad h n j) = (if (13:Nat) = 13 ∧ n = n ∧ j = i then r else hP h 13 n j).map fun r => ad r.1 r.2
  by_cases q : j = i
  · rw [if_pos q, if_pos ⟨rfl, rfl, q⟩]
  · rw [if_neg q, if_neg (fun z => q z.2.2)]
    rfl
theorem mCo.sP {g : mG} {ad : Nat → Nat → Nat} {h : mH} (k n f : Nat) (v : Option (Nat × Nat)) (hv : mwf h (vp v)) (C : mCo g ad h) : mCo g ad (setP h k n f v) := by
  obtain ⟨a, b, c⟩ := C
  refine ⟨a, ?_, c⟩
  intro k' n' f' r' hr
  by_cases q : k' = k ∧ n' = n ∧ f' = f
  · have e : hP (setP h k n f v) k' n' f' = v := if_pos q
    rw [e] at hr
    subst hr
    exact hv
  · have e : hP (setP h k n f v) k' n' f' = hP h k' n' f' := if_neg q
    rw [e] at hr
    exact b _ _ _ _ hr
theorem mAny {s : State} {H : Heap} {ad : Nat → Nat → Nat} {ws : va_W} {ix : Nat → Nat → Nat} {k n : Nat} {H0 : Heap} (hO : mOld g s H0) (hK : va_K g.2.1 mcl (mtys g) s) (S : mSm g ad h H ws ix) (hk : k < 11) (hn : n < hC h k) : va_Any "java/lang/Object" s H (ad k n) := by
  have hin := S.1 k n (by omega) hn
  rw [ment_o hk] at hin
  refine va_rAny hK S.2.2.1 hin (mcl_at hk) fun comp c0 h1 h2 => ?_
  obtain ⟨c1, t1, f1, f2, f3⟩ := Cond.castable_spec (va_Nw.use (A := #[]) rfl (hO.2.2.2.2.2.2.2.1 k hk))
  cases h2.symm.trans f1
  cases h1.symm.trans f2
  exact f3
theorem tr_aast {n k n' : Nat} {i : Int32} (hc : decode m.2.1 pc = .ok (.aastore, 1)) (hin : vp_in i (hL h 13 n)) (hk : k < 11) (kk : mT g m d mc ms (pc + 1) L st (setP h 13 n i.toNatClampNeg (some (k, n'))) Q) : mT g m d mc ms pc L (vr k n' :: vi i :: vr 13 n :: st) h Q := by
  intro p R e s mi args below meth c H ls locs cells slots ad ad0 h0 Qf X E
  have hv := List.forall_mem_cons.mp X.2.2.2.2.1.2
  have hst := List.forall_mem_cons.mp (List.forall_mem_cons.mp hv.2).2
  obtain ⟨ws, ix, S⟩ := X.2.2.2.1.2
  refine va_astqM X.1.1 X.1.2.1 X.2.2.1.2 S.2.2.1 S.2.2.2.1 X.2.2.2.2.2 (ix 13 n) 2 (E := "java/lang/Object") ((S.1 13 n (by omega) hst.1).trans (by rw [ment_q])) rfl (mAny X.2.2.1.1 X.2.2.1.2 S hk hv.1) hin hc fun H1 locs1 P1 D1 S1 => ?_
  exact kk.use (X.heap (h' := setP h 13 n i.toNatClampNeg (some (k, n'))) (fun _ => rfl) (S.set (by omega) hst.1 (by rw [ment_q, ← up_mpt]; rfl) (fun _ => rfl) (fun k' n' hk' q => ment_congr rfl (hP_ne q) rfl hk') (S.2.2.2.2.sP _ _ _ _ hv.1) P1 D1) hst.2 S1) E
theorem tr_aastN {n : Nat} {i : Int32} (hc : decode m.2.1 pc = .ok (.aastore, 1)) (hin : vp_in i (hL h 13 n)) (kk : mT g m d mc ms (pc + 1) L st (setP h 13 n i.toNatClampNeg none) Q) : mT g m d mc ms pc L (vn :: vi i :: vr 13 n :: st) h Q := by
  intro p R e s mi args below meth c H ls locs cells slots ad ad0 h0 Qf X E
  have hv := List.forall_mem_cons.mp X.2.2.2.2.1.2
  have hst := List.forall_mem_cons.mp (List.forall_mem_cons.mp hv.2).2
  obtain ⟨ws, ix, S⟩ := X.2.2.2.1.2
  refine va_astqN (C := "java/lang/Object") X.1.1 X.1.2.1 X.2.2.1.2 S.2.2.1 S.2.2.2.1 X.2.2.2.2.2 (ix 13 n) 2 ((S.1 13 n (by omega) hst.1).trans (by rw [ment_q])) rfl hin hc fun H1 locs1 P1 D1 S1 => ?_
  exact kk.use (X.heap (h' := setP h 13 n i.toNatClampNeg none) (fun _ => rfl) (S.set (by omega) hst.1 (by rw [ment_q, ← up_mpt]; rfl) (fun _ => rfl) (fun k' n' hk' q => ment_congr rfl (hP_ne q) rfl hk') (S.2.2.2.2.sP _ _ _ _ trivial) P1 D1) hst.2 S1) E
end TR
end
section
/-! rules: new cells, casts, statics, constants, the numbers' own helpers -/
def newAd (ad : Nat → Nat → Nat) (k n q : Nat) : Nat → Nat → Nat := fun k' n' => if k' = k ∧ n' = n then q else ad k' n'
theorem hC_newC (h : mH) (k len k' : Nat) : hC (newC h k len) k' = if k' = k then hC h k + 1 else hC h k' := rfl
theorem hC_le (h : mH) (k len k' : Nat) : hC h k' ≤ hC (newC h k len) k' := by
  rw [hC_newC]
  split
  · rename_i q; subst q; omega
  · omega
theorem newC_I {h : mH} {k len k' n' : Nat} (q : ¬ (k' = k ∧ n' = hC h k)) : hI (newC h k len) k' n' = hI h k' n' := by
  funext f
  exact if_neg q
theorem newC_P {h : mH} {k len k' n' : Nat} (q : ¬ (k' = k ∧ n' = hC h k)) : hP (newC h k len) k' n' = hP h k' n' := by
  funext f
  exact if_neg q
theorem newC_L {h : mH} {k len k' n' : Nat} (q : ¬ (k' = k ∧ n' = hC h k)) : hL (newC h k len) k' n' = hL h k' n' := if_neg q
theorem newC_I0 (h : mH) (k len f : Nat) : hI (newC h k len) k (hC h k) f = 0 := if_pos ⟨rfl, rfl⟩
theorem newC_P0 (h : mH) (k len f : Nat) : hP (newC h k len) k (hC h k) f = none := if_pos ⟨rfl, rfl⟩
theorem newC_L0 (h : mH) (k len : Nat) : hL (newC h k len) k (hC h k) = len := if_pos ⟨rfl, rfl⟩
theorem newC_wf {h : mH} {k len : Nat} (hw : ∀ (k n f : Nat) (r : Nat × Nat), hP h k n f = some r → r.2 < hC h r.1) : ∀ (k' n f : Nat) (r : Nat × Nat), hP (newC h k len) k' n f = some r → r.2 < hC h r.1 := by
  intro k' n f r hr
  by_cases q : k' = k ∧ n = hC h k
  · have e : hP (newC h k len) k' n f = none := if_pos q
    rw [e] at hr
    cases hr
  · rw [newC_P q] at hr
    exact hw _ _ _ _ hr
theorem newAd_old {ad : Nat → Nat → Nat} {h : mH} {k q k' n' : Nat} (hn : n' < hC h k') : newAd ad k (hC h k) q k' n' = ad k' n' := by
  unfold newAd
  rw [if_neg]
  rintro ⟨rfl, rfl⟩
  omega
theorem mco_new {ad : Nat → Nat → Nat} {h : mH} {k q : Nat} {v : mV} (hw : mwf h v) : mco (newAd ad k (hC h k) q) v = mco ad v := by
  rcases v with x | x | r | r
  · rfl
  · rfl
  · rfl
  · show Value.ref _ = Value.ref _
    rw [newAd_old hw]
theorem mSm.push {g : mG} {ad : Nat → Nat → Nat} {h : mH} {H H' : Heap} {ws : va_W} {ix : Nat → Nat → Nat} {k len q : Nat} {e : va_E} (S : mSm g ad h H ws ix) (hk : k < 14) (he : e = ment g (newAd ad k (hC h k) q) (newC h k len) k (hC h k))
    (P' : va_P g.2.1 mcl (ws ++ [(q, e)]) H') (D' : va_D (mA g) (ws ++ [(q, e)])) : mSim g (newAd ad k (hC h k) q) (newC h k len) H' := by
  obtain ⟨⟨a1, a2, a3, a4, a5, a6, a7, a8, a9⟩, b, c⟩ := S.2.2.2.2
  have ho : ∀ k' n', k' < 14 → n' < hC h k' → ment g (newAd ad k (hC h k) q) (newC h k len) k' n' = ment g ad h k' n' := by
    intro k' n' hk' hn'
    have hne : ¬ (k' = k ∧ n' = hC h k) := by rintro ⟨rfl, rfl⟩; omega
    rw [ment_congr (newC_I hne) (newC_P hne) (newC_L hne) hk']
    exact ment_ad (fun f r hr => newAd_old (b _ _ _ _ hr)) hk'
  have hold : ∀ k' n', k' < 14 → n' < hC h k' → ix k' n' < ws.length := fun k' n' h1 h2 => (List.getElem?_eq_some_iff.mp (S.1 k' n' h1 h2)).1
  refine ⟨ws ++ [(q, e)], fun k' n' => if k' = k ∧ n' = hC h k then ws.length else ix k' n', ?_, ?_, P', D', ⟨?_, ?_, ?_⟩⟩
  · intro k' n' hk' hn'
    dsimp only
    by_cases z : k' = k ∧ n' = hC h k
    · obtain ⟨rfl, rfl⟩ := z
      rw [if_pos ⟨rfl, rfl⟩, List.getElem?_append_right (Nat.le_refl _), Nat.sub_self, he]
      show some (q, _) = some (newAd ad k' (hC h k') q k' (hC h k'), _)
      have e2 : newAd ad k' (hC h k') q k' (hC h k') = q := if_pos ⟨rfl, rfl⟩
      rw [e2]
    · have hn2 : n' < hC h k' := by
        rw [hC_newC] at hn'
        split at hn'
        · rename_i y; subst y
          have : n' ≠ hC h k' := fun w => z ⟨rfl, w⟩
          omega
        · exact hn'
      rw [if_neg z, List.getElem?_append_left (hold _ _ hk' hn2), S.1 _ _ hk' hn2, ho _ _ hk' hn2, newAd_old hn2]
  · intro k1 n1 k2 n2 x1 x2 x3 x4 hix
    have hlt : ∀ k' n', n' < hC (newC h k len) k' → ¬ (k' = k ∧ n' = hC h k) → n' < hC h k' := by
      intro k' n' hn' z
      rw [hC_newC] at hn'
      split at hn'
      · rename_i y; subst y
        have : n' ≠ hC h k' := fun w => z ⟨rfl, w⟩
        omega
      · exact hn'
    dsimp only at hix
    by_cases z1 : k1 = k ∧ n1 = hC h k <;> by_cases z2 : k2 = k ∧ n2 = hC h k
    · exact ⟨z1.1.trans z2.1.symm, z1.2.trans z2.2.symm⟩
    · rw [if_pos z1, if_neg z2] at hix
      have := hold _ _ x3 (hlt _ _ x4 z2)
      omega
    · rw [if_neg z1, if_pos z2] at hix
      have := hold _ _ x1 (hlt _ _ x2 z1)
      omega
    · rw [if_neg z1, if_neg z2] at hix
      exact S.2.1 _ _ _ _ x1 (hlt _ _ x2 z1) x3 (hlt _ _ x4 z2) hix
  · have n14 : ∀ k', 14 ≤ k' → ∀ n, newAd ad k (hC h k) q k' n = ad k' n := fun k' hk' n => if_neg (by omega)
    have c14 : ∀ k', 14 ≤ k' → hC (newC h k len) k' = hC h k' := fun k' hk' => if_neg (by omega)
    refine ⟨by rw [n14 _ (by omega)]; exact a1, by rw [n14 _ (by omega)]; exact a2, by rw [c14 _ (by omega)]; exact a3, by rw [c14 _ (by omega)]; exact a4, by rw [newC_L (by omega)]; exact a5, by rw [newC_L (by omega)]; exact a6, by rw [newC_I (by omega)]; exact a7, by rw [n14 _ (by omega)]; exact a8, by rw [c14 _ (by omega)]; exact a9⟩
  · intro k' n f r hr
    exact Nat.lt_of_lt_of_le (newC_wf b _ _ _ _ hr) (hC_le _ _ _ _)
  · intro k' hk'
    rw [hC_newC, if_neg (by omega)]
    exact c k' hk'
theorem mX.born {g : mG} {m : mMe} {d mc ms w : Nat} {L : List (Option mV)} {st st' : List mV} {h : mH} {p : Program} {R : Room} {s : State} {mi : MethodId} {args : Array Value} {meth : Method} {c : Code} {H H1 : Heap} {ls : Array Slot} {locs : List Loc} {cells slots : Nat} {ad ad0 : Nat → Nat → Nat} {h0 : mH} {k len q : Nat}
    (X : mX g m d (mc + 1) (ms + w) L st h p R s mi args meth c H ls locs cells slots ad ad0 h0) (hS : mSim g (newAd ad k (hC h k) q) (newC h k len) H1) (h2 : ∀ v ∈ st', mwf h v) (S1 : va_S (mA g) s.heap H1 locs) :
    mX g m d mc ms L (vr k (hC h k) :: st') (newC h k len) p R s mi args meth c H1 ls locs (cells + 1) (slots + w) (newAd ad k (hC h k) q) ad0 h0 := by
  have hw : ∀ v, mwf h v → mwf (newC h k len) v := by
    intro v
    rcases v with x | x | r | r
    · exact id
    · exact id
    · exact id
    · exact fun hr => Nat.lt_of_lt_of_le hr (hC_le _ _ _ _)
  refine ⟨X.1, ⟨X.2.1.1, X.2.1.2.1, by have := X.2.1.2.2.1; omega, by have := X.2.1.2.2.2; omega⟩, X.2.2.1, ⟨fun k' n' hn => ?_, hS⟩, ⟨⟨X.2.2.2.2.1.1.1, X.2.2.2.2.1.1.2.1, X.2.2.2.2.1.1.2.2.1, fun i v hi => ?_⟩, ?_⟩, S1⟩
  · obtain ⟨h1, h3⟩ := X.2.2.2.1.1 k' n' hn
    exact ⟨Nat.lt_of_lt_of_le h1 (hC_le _ _ _ _), by rw [newAd_old h1]; exact h3⟩
  · obtain ⟨h1, h3⟩ := X.2.2.2.2.1.1.2.2.2 i v hi
    exact ⟨by rw [mco_new h3]; exact h1, hw v h3⟩
  · refine List.forall_mem_cons.mpr ⟨?_, fun v hv => hw v (h2 v hv)⟩
    show hC h k < hC (newC h k len) k
    rw [hC_newC, if_pos rfl]
    omega
theorem mstk_new {ad : Nat → Nat → Nat} {h : mH} {k q : Nat} {st : List mV} (hw : ∀ v ∈ st, mwf h v) : st.map (mco (newAd ad k (hC h k) q)) = st.map (mco ad) := List.map_congr_left fun v hv => mco_new (hw v hv)
theorem newAd_self (ad : Nat → Nat → Nat) (k n q : Nat) : newAd ad k n q k n = q := if_pos ⟨rfl, rfl⟩
set_option maxRecDepth 100000 in
theorem mdef_ok : ∀ k, k < 11 → ∀ f, f < (mkd k).2.2 → defaultValue (mty k f) = if misR (mty k f) = true then Value.null else Value.int 0 := by decide +kernel
section TR
variable {g : mG} {m : mMe} {d mc ms pc : Nat} {L : List (Option mV)} {st : List mV} {h : mH} {Q : Option mV → mH → Prop}
theorem tr_new {k w idx : Nat} (hc : decode m.2.1 pc = .ok (.new idx, 3)) (hk : k < 11) (hw : (mkd k).2.2 = w) (hl : Cond.classLink m.1.cls idx (mkd k).1 ∈ mTb) (hi : Cond.instantiable (mkd k).1 (mkd k).2.2 ∈ mTb) (hn : Cond.initialized (mkd k).1 ∈ mTb)
    (kk : mT g m d mc ms (pc + 3) L (vr k (hC h k) :: st) (newC h k 0) Q) : mT g m d (mc + 1) (ms + w) pc L st h Q := by
  intro p R e s mi args below meth c H ls locs cells slots ad ad0 h0 Qf X E
  subst hw
  obtain ⟨ws, ix, S⟩ := X.2.2.2.1.2
  have hA : ∀ q, s.heap.size ≤ q → mA g q := fun q hq => Nat.le_trans X.2.2.1.1.2.2.2.2.2.1 hq
  refine va_new (T := (mkd k).2.1) (N := (mkd k).2.2) (C := (mkd k).1) X.1.1 X.1.2.1 X.1.2.2.2.2.1 (mlays k hk) (mty k) (mtys_ok k hk) X.1.2.2.2.1 (X.1.2.2.2.2.1 _ hl) (X.1.2.2.2.2.1 _ hi) (X.1.2.2.2.2.1 _ hn) X.2.2.1.2 S.2.2.1 S.2.2.2.1 X.2.2.2.2.2 hA (mcl_at hk) (fs := mfs ad (newC h k 0) k (hC h k)) ?_ (by have := X.2.1.2.2.1; omega) (by have := X.2.1.2.2.2; omega) hc fun q H1 P1 D1 S1 => ?_
  · intro j hj
    rw [mdef_ok k hk j hj]
    show _ = (mfs ad (newC h k 0) k (hC h k)).getD j .null
    rw [List.getD_eq_getElem?_getD, mfs_at hj]
    show _ = mfv _ _ _ _ _
    unfold mfv
    rw [newC_I0, newC_P0]
    rfl
  · have e : mfs (newAd ad k (hC h k) q) (newC h k 0) k (hC h k) = mfs ad (newC h k 0) k (hC h k) := by
      unfold mfs
      refine List.map_congr_left fun f _ => ?_
      unfold mfv
      rw [newC_P0]
      rfl
    have kk' := kk.use (X.born (S.push (len := 0) (by omega) (by rw [ment_o hk, e]) P1 D1) X.2.2.2.2.1.2 S1) E
    rw [List.map_cons, mstk_new X.2.2.2.2.1.2] at kk'
    have e3 : mco (newAd ad k (hC h k) q) (vr k (hC h k)) = .ref q := congrArg Value.ref (newAd_self _ _ _ _)
    rw [e3] at kk'
    exact kk'
theorem mRA_int {s : State} {cA cB : ClassId} {ty : FieldType} (hn : ∀ C, ty ≠ .object C) (h1 : va_RA s cA ty) (h2 : va_RA s cB ty) : cA = cB := by
  cases ty with
  | object C => exact absurd rfl (hn C)
  | _ => exact Option.some.inj (Eq.trans (Eq.symm h1) h2)
theorem tr_newI {n : Int32} {w : Nat} (hc : decode m.2.1 pc = .ok (.newarray .int, 2)) (h0 : ¬ n < 0) (hw : n.toNatClampNeg = w) (hb : w ≤ 1000000) (hl : Cond.arrayClass .int ∈ mTb) (kk : mT g m d mc ms (pc + 2) L (vr 11 (hC h 11) :: st) (newC h 11 w) Q) : mT g m d (mc + 1) (ms + w) pc L (vi n :: st) h Q := by
  intro p R e s mi args below meth c H ls locs cells slots ad ad0 h0' Qf X E
  obtain ⟨ws, ix, S⟩ := X.2.2.2.1.2
  have hst := (List.forall_mem_cons.mp X.2.2.2.2.1.2).2
  have hA : ∀ q, s.heap.size ≤ q → mA g q := fun q hq => Nat.le_trans X.2.2.1.1.2.2.2.2.2.1 hq
  refine va_newa (atype := .int) (ty := .int) (a0 := (w, .inl (fun _ => 0))) X.1.1 X.1.2.1 (X.1.2.2.2.2.1 _ hl) rfl X.2.2.1.2 S.2.2.1 S.2.2.2.1 X.2.2.2.2.2 hA (fun _ => rfl) h0 hw (by show w * 4 ≤ _; omega) (by have := X.2.1.2.2.1; omega) (by have := X.2.1.2.2.2; omega) hc fun q cA H1 K1 P1 D1 S1 => ?_
  have e : cA = g.2.2.1.1 := mRA_int (fun C hC => by cases hC) (K1.2 3 (cA, .int) rfl).2 (K1.2 0 _ rfl).2
  subst e
  have kk' := kk.use (X.born (S.push (len := w) (by omega) (by rw [ment_i, newC_L0, show hI (newC h 11 w) 11 (hC h 11) = (fun _ => 0) from funext fun f => newC_I0 _ _ _ _]) P1 D1) hst S1) E
  rw [List.map_cons, mstk_new hst] at kk'
  have e3 : mco (newAd ad 11 (hC h 11) q) (vr 11 (hC h 11)) = .ref q := congrArg Value.ref (newAd_self _ _ _ _)
  rw [e3] at kk'
  exact kk'
theorem tr_newZ {n : Int32} {w : Nat} (hc : decode m.2.1 pc = .ok (.newarray .boolean, 2)) (h0 : ¬ n < 0) (hw : n.toNatClampNeg = w) (hb : w ≤ 1000000) (hl : Cond.arrayClass .boolean ∈ mTb) (kk : mT g m d mc ms (pc + 2) L (vr 12 (hC h 12) :: st) (newC h 12 w) Q) : mT g m d (mc + 1) (ms + w) pc L (vi n :: st) h Q := by
  intro p R e s mi args below meth c H ls locs cells slots ad ad0 h0' Qf X E
  obtain ⟨ws, ix, S⟩ := X.2.2.2.1.2
  have hst := (List.forall_mem_cons.mp X.2.2.2.2.1.2).2
  have hA : ∀ q, s.heap.size ≤ q → mA g q := fun q hq => Nat.le_trans X.2.2.1.1.2.2.2.2.2.1 hq
  refine va_newa (atype := .boolean) (ty := .boolean) (a0 := (w, .inl (fun _ => 0))) X.1.1 X.1.2.1 (X.1.2.2.2.2.1 _ hl) rfl X.2.2.1.2 S.2.2.1 S.2.2.2.1 X.2.2.2.2.2 hA (fun _ => rfl) h0 hw (by show w * 1 ≤ _; omega) (by have := X.2.1.2.2.1; omega) (by have := X.2.1.2.2.2; omega) hc fun q cA H1 K1 P1 D1 S1 => ?_
  have e : cA = g.2.2.1.2.1 := mRA_int (fun C hC => by cases hC) (K1.2 3 (cA, .boolean) rfl).2 (K1.2 1 _ rfl).2
  subst e
  have kk' := kk.use (X.born (S.push (len := w) (by omega) (by rw [ment_z, newC_L0, show hI (newC h 12 w) 12 (hC h 12) = (fun _ => 0) from funext fun f => newC_I0 _ _ _ _]) P1 D1) hst S1) E
  rw [List.map_cons, mstk_new hst] at kk'
  have e3 : mco (newAd ad 12 (hC h 12) q) (vr 12 (hC h 12)) = .ref q := congrArg Value.ref (newAd_self _ _ _ _)
  rw [e3] at kk'
  exact kk'
theorem tr_newQ {n : Int32} {w idx : Nat} (hc : decode m.2.1 pc = .ok (.anewarray idx, 3)) (h0 : ¬ n < 0) (hw : n.toNatClampNeg = w) (hb : w ≤ 1000000) (hl : Cond.classLink m.1.cls idx "java/lang/Object" ∈ mTb) (kk : mT g m d mc ms (pc + 3) L (vr 13 (hC h 13) :: st) (newC h 13 w) Q) : mT g m d (mc + 1) (ms + w) pc L (vi n :: st) h Q := by
  intro p R e s mi args below meth c H ls locs cells slots ad ad0 h0' Qf X E
  obtain ⟨ws, ix, S⟩ := X.2.2.2.1.2
  have hst := (List.forall_mem_cons.mp X.2.2.2.2.1.2).2
  have hA : ∀ q, s.heap.size ≤ q → mA g q := fun q hq => Nat.le_trans X.2.2.1.1.2.2.2.2.2.1 hq
  refine va_newq (C := "java/lang/Object") X.1.1 X.1.2.1 X.1.2.2.2.1 (X.1.2.2.2.2.1 _ hl) X.2.2.1.1.2.2.2.2.2.2.2.2.1 X.2.2.1.2 S.2.2.1 S.2.2.2.1 X.2.2.2.2.2 hA h0 hw (by omega) (by have := X.2.1.2.2.1; omega) (by have := X.2.1.2.2.2; omega) hc fun q cA H1 K1 P1 D1 S1 => ?_
  have e : cA = g.2.2.1.2.2 := by
    obtain ⟨k1, c1, x1, x2, x3, x4⟩ := (K1.2 3 (cA, .object "java/lang/Object") rfl).2
    obtain ⟨k2, c2, y1, y2, y3, y4⟩ := (K1.2 2 _ rfl).2
    exact Option.some.inj (x4.symm.trans y4)
  subst e
  have kk' := kk.use (X.born (S.push (len := w) (by omega) (by rw [ment_q, newC_L0, show mpt (newAd ad 13 (hC h 13) q) (newC h 13 w) (hC h 13) = (fun _ => none) from funext fun f => by unfold mpt; rw [newC_P0]; rfl]) P1 D1) hst S1) E
  rw [List.map_cons, mstk_new hst] at kk'
  have e3 : mco (newAd ad 13 (hC h 13) q) (vr 13 (hC h 13)) = .ref q := congrArg Value.ref (newAd_self _ _ _ _)
  rw [e3] at kk'
  exact kk'
end TR
end
section
/-! rules: calls -/
abbrev mR (d mc ms : Nat) : Room := { frames := d, cells := mc, slots := ms, locals := 40 * d }
def mPU (g : mG) (ad : Nat → Nat → Nat) (h : mH) (U : State) : Prop := mOld g U U.heap ∧ va_K g.2.1 mcl (mtys g) U ∧ mSim g ad h U.heap
def mQc (g : mG) (ad0 : Nat → Nat → Nat) (h0 : mH) (Q : Option mV → mH → Prop) : Array Value → State → Outcome → State → Prop := fun _ st o t =>
  (∃ (v : Option mV) (h : mH) (ad : Nat → Nat → Nat), o = .returned (v.map (mco ad)) ∧ Q v h ∧ mExt h0 ad0 h ad ∧ mSim g ad h t.heap ∧ ∀ x, v = some x → mwf h x) ∧ va_F (mA g) st t
/-- the locals with which a method begins -/
def margs (vs : List mV) (n : Nat) : List (Option mV) := vs.map some ++ List.replicate (n - vs.length) none
theorem lv_args1 {ad : Nat → Nat → Nat} : ∀ (vs : List mV) (i : Nat), (∀ v ∈ vs, mc1 v = true) → ∀ (j : Nat) (v : mV), vs[j]? = some v → (i + j, mco ad v) ∈ lv_args i (vs.map (mco ad))
  | [], _, _, j, v, h => by simp at h
  | w :: vs, i, hv, j, v, h => by
    have hw := List.forall_mem_cons.mp hv
    rw [List.map_cons]
    unfold lv_args
    rw [if_neg (by rw [mc1_cat hw.1]; omega)]
    cases j with
    | zero =>
      cases h
      exact List.mem_cons_self
    | succ j =>
      have := lv_args1 (ad := ad) vs (i + 1) hw.2 j v (by simpa using h)
      rw [show i + 1 + j = i + (j + 1) by omega] at this
      exact List.mem_cons_of_mem _ this
theorem lg_len1 {ad : Nat → Nat → Nat} : ∀ (vs : List mV), (∀ v ∈ vs, mc1 v = true) → (lg_sl (vs.map (mco ad))).length = vs.length
  | [], _ => rfl
  | w :: vs, hv => by
    have hw := List.forall_mem_cons.mp hv
    have ih := lg_len1 (ad := ad) vs hw.2
    unfold lg_sl at ih ⊢
    rw [List.map_cons, List.flatMap_cons, List.length_append, ih, if_neg (by rw [mc1_cat hw.1]; omega)]
    simp
    omega
theorem mLoc.entry {ad : Nat → Nat → Nat} {h : mH} {vs : List mV} {n : Nat} (hv : ∀ v ∈ vs, mc1 v = true) (hn : vs.length ≤ n) (hw : ∀ v ∈ vs, mwf h v) : mLoc ad h n (margs vs n) ((lg_sl (vs.map (mco ad)) ++ List.replicate (n - (lg_sl (vs.map (mco ad))).length) Slot.unset).toArray) := by
  have hl := lv_entry (vs.map (mco ad)) (n := n) (by rw [lg_len1 vs hv]; exact hn)
  refine ⟨by unfold margs; simp; omega, hl.1, hl.2.1, ?_⟩
  intro i v hi
  have hi2 : vs[i]? = some v := by
    unfold margs at hi
    by_cases hlt : i < vs.length
    · rw [List.getElem?_append_left (by simpa using hlt), List.getElem?_map] at hi
      cases hq : vs[i]? with
      | none => rw [hq] at hi; cases hi
      | some w => rw [hq] at hi; cases hi; rfl
    · rw [List.getElem?_append_right (by simpa using hlt), List.getElem?_replicate] at hi
      split at hi
      · cases hi
      · cases hi
  have hm := lv_args1 (ad := ad) vs 0 hv i v hi2
  rw [Nat.zero_add] at hm
  exact ⟨hl.2.2 _ hm, hw v (List.mem_of_getElem? hi2)⟩
theorem mT.met {g : mG} {y : mMe} {d mc ms : Nat} {vs : List mV} {h : mH} {Q : Option mV → mH → Prop} (hy : plainFor y.1 = true) (hv : ∀ v ∈ vs, mc1 v = true) (hn : vs.length ≤ y.2.2.1) (B : mT g y d mc ms 0 (margs vs y.2.2.1) [] h Q) (ad : Nat → Nat → Nat) (hw : ∀ v ∈ vs, mwf h v) :
    Met g.1 y.1 (Cond.code y.1 y.2.1 y.2.2.1 y.2.2.2 :: mTb) (mR d mc ms) (va_Pc (vs.map (mco ad)) (mPU g ad h)) (mQc g ad h Q) mc ms (mA g) := by
  refine va_MetF (cc := y.2.1) (maxL := y.2.2.1) (ret := y.2.2.2) hy rfl ?_
  intro p e s m args below meth c s₁ B0 hml hv0
  obtain ⟨rfl, hO, hK, hS⟩ := hv0
  have hts := atoms_spec (ws := Cond.code y.1 y.2.1 y.2.2.1 y.2.2.2 :: mTb) B0.pre
  rw [lg_entry_eq]
  refine B.use (p := p) (R := mR d mc ms) (ad := ad) (ad0 := ad) (h0 := h) (cells := 0) (slots := 0) ⟨⟨B0.exec, B0.bytes, hml, findClass_of_methodNamed B0.named, fun w hw => hts w (List.mem_cons_of_mem _ hw), B0.returns, B0.notSynchronized, fun hi => (name_of_methodNamed B0.named B0.method).1.trans hi⟩, ⟨Nat.le_refl _, Nat.le_refl _, by show 0 + mc ≤ mc; omega, by show 0 + ms ≤ ms; omega⟩, ⟨hO, hK⟩, ⟨fun k n hn => ⟨hn, rfl⟩, hS⟩, ⟨mLoc.entry hv hn hw, fun v hv => absurd hv List.not_mem_nil⟩, va_S.rf⟩ ?_
  intro H ls locs pc h' ad' v cells slots hret hq hext hsim hwf hS1 hc hs
  refine W.widen (k := mc) (n := ms) hc hs ?_
  have hlocks := B0.notSynchronized
  have hQ : ∀ t : State, t.heap = H → s.WarmedH t.vm → mQc g ad h Q (vs.map (mco ad)).toArray s (.returned (v.map (mco ad'))) t := fun t ht hW => ⟨⟨v, h', ad', rfl, hq, hext, by rw [ht]; exact hsim, hwf⟩, hS1.F ht⟩
  rcases v with _ | (x | x | r)
  · exact W.vret B0.exec B0.bytes (B0.returns.trans hret.1) hQ hS1.2.2 hret.2
  · obtain ⟨h1, ty, h2, h3⟩ := hret
    exact W.zret B0.exec B0.bytes (B0.returns.trans h2) h3 hQ hS1.2.2 h1
  · exact hret.elim
  · obtain ⟨h1, ty, h2, h3⟩ := hret
    exact W.aret B0.exec B0.bytes (B0.returns.trans h2) h3 (by cases r with
      | none => exact Or.inl rfl
      | some r => exact Or.inr ⟨_, rfl⟩) hQ hS1.2.2 h1
theorem mgood : ∀ w ∈ mTb, goodWord w = true := fun w hw => (List.mem_filter.mp hw).2
theorem mgoodIn {ws : List Cond} (h : ∀ w ∈ ws, w ∈ mTb) : GoodIn mTb ws := fun w hw => ⟨h w hw, good_of_word (mgood w (h w hw))⟩
theorem mcat_sum (ad : Nat → Nat → Nat) : ∀ st : List mV, ((st.map (mco ad)).map fun v => v.category).sum ≤ 2 * st.length
  | [] => Nat.le_refl _
  | v :: st => by
    have := mcat_sum ad st
    have h2 := lv_cat (mco ad v)
    simp only [List.map_cons, List.sum_cons, List.length_cons]
    omega
theorem mOld.warm {g : mG} {s U : State} {H : Heap} {locs : List Loc} (h : mOld g s s.heap) (hS : va_S (mA g) s.heap H locs) (hvm : s.vm.Alike U.vm) : mOld g U H := by
  obtain ⟨a1, a2, ⟨cell, b1, b2, b3, b4⟩, a4, a5, a6, a7, a8, a9, a10⟩ := h
  have hk : ∀ q : Nat, q < g.2.2.2.1.2.2.1 → H[q]? = s.heap[q]? := fun q hq => hS.2.1 q (Nat.lt_of_lt_of_le hq a6) (Nat.not_le.mpr hq)
  exact ⟨(a1.kept fun q h1 h2 => hS.2.1 q h1 h2).moved hvm, (a2.kept (hk _ a4)).moved hvm, ⟨cell, by rw [hk _ a5]; exact b1, State.isArrayOf_alike hvm b2, b3, b4⟩, a4, a5, Nat.le_trans a6 hS.1, va_Mi.moved hvm a7, fun k hk => va_tabs rfl (rfl : (s.setVm U.vm).vm = U.vm) (by rw [Cond.castable_setVm hvm]; exact a8 k hk), a9.moved hvm, a10.moved hvm⟩
theorem mPU_blind (g : mG) (ad : Nat → Nat → Nat) (h : mH) (as : List Value) : FrameBlind (va_Pc as (mPU g ad h)) := by
  intro a U gg mk ⟨q1, q2, q3, q4⟩
  exact ⟨q1, mOld.warm (locs := []) q2 va_S.rf (U := U.calling gg mk a) (Vm.Alike.refl U.vm), va_K.moved (u := U) (U := U.calling gg mk a) (Vm.Alike.refl U.vm) q3, q4⟩
theorem mco_ext {h h' : mH} {ad ad' : Nat → Nat → Nat} (hx : mExt h ad h' ad') {v : mV} (hw : mwf h v) : mco ad' v = mco ad v ∧ mwf h' v := by
  rcases v with x | x | r | r
  · exact ⟨rfl, trivial⟩
  · exact ⟨rfl, trivial⟩
  · exact ⟨rfl, trivial⟩
  · obtain ⟨h1, h2⟩ := hx r.1 r.2 hw
    exact ⟨congrArg Value.ref h2, h1⟩
/-- behind a call -/
theorem mX.called {g : mG} {m : mMe} {d mc ms mc' ms' : Nat} {L : List (Option mV)} {st st0 : List mV} {h h' : mH} {p : Program} {R : Room} {s : State} {mi : MethodId} {args : Array Value} {meth : Method} {c : Code} {H H1 : Heap} {ls : Array Slot} {locs L1 : List Loc} {cells slots : Nat} {ad ad' ad0 : Nat → Nat → Nat} {h0 : mH}
    (X : mX g m d mc ms L st0 h p R s mi args meth c H ls locs cells slots ad ad0 h0) (h1 : mc' ≤ mc) (h2 : ms' ≤ ms) (hx : mExt h ad h' ad') (hS : mSim g ad' h' H1) (hst : ∀ v ∈ st, mwf h' v) (hz : H.size ≤ H1.size) (hk : ∀ q : Nat, q < H.size → ¬ mA g q → H1[q]? = H[q]?) (hL : ∀ q ∈ L1, mA g q.base) :
    mX g m d (mc - mc') (ms - ms') L st h' p R s mi args meth c H1 ls (locs ++ L1) (cells + mc') (slots + ms') ad' ad0 h0 := by
  refine ⟨X.1, ⟨X.2.1.1, X.2.1.2.1, by have := X.2.1.2.2.1; omega, by have := X.2.1.2.2.2; omega⟩, X.2.2.1, ⟨fun k n hn => ?_, hS⟩, ⟨⟨X.2.2.2.2.1.1.1, X.2.2.2.2.1.1.2.1, X.2.2.2.2.1.1.2.2.1, fun i v hi => ?_⟩, hst⟩, ⟨Nat.le_trans X.2.2.2.2.2.1 hz, fun q q1 q2 => ?_, fun q hq => ?_⟩⟩
  · obtain ⟨a1, a2⟩ := X.2.2.2.1.1 k n hn
    obtain ⟨b1, b2⟩ := hx k n a1
    exact ⟨b1, b2.trans a2⟩
  · obtain ⟨a1, a2⟩ := X.2.2.2.2.1.1.2.2.2 i v hi
    obtain ⟨b1, b2⟩ := mco_ext hx a2
    exact ⟨by rw [b1]; exact a1, b2⟩
  · rw [hk q (Nat.lt_of_lt_of_le q1 X.2.2.2.2.2.1) q2]
    exact X.2.2.2.2.2.2.1 q q1 q2
  · rcases List.mem_append.mp hq with a | a
    · exact X.2.2.2.2.2.2.2 q a
    · exact hL q a
section TR
variable {g : mG} {m : mMe} {d mc ms pc : Nat} {L : List (Option mV)} {st : List mV} {h : mH} {Q : Option mV → mH → Prop}
/-- from a run of the callee to the walk behind it -/
theorem tr_run {y : mMe} {mc' ms' : Nat} {st0 : List mV} {Qk : Option mV → mH → Prop} (h1 : mc' ≤ mc) (h2 : ms' ≤ ms)
    (kk : ∀ v h', Qk v h' → mT g m d (mc - mc') (ms - ms') (pc + 3) L (v.toList ++ st) h' Q)
    {p : Program} {R : Room} {e : Env} {s : State} {mi : MethodId} {args : Array Value} {below : List Frame} {meth : Method} {c : Code} {H : Heap} {ls : Array Slot} {locs : List Loc} {cells slots : Nat} {ad ad0 : Nat → Nat → Nat} {h0 : mH} {Qf : State → Prop}
    (X : mX g m d mc ms L st0 h p R s mi args meth c H ls locs cells slots ad ad0 h0) (E : mEnd g m Q p R e s mi args below meth c ad0 h0 Qf) (hst : ∀ v ∈ st, mwf h v) {a : Array Value}
    (hr : va_Run p g.1 e R s mi args below meth c H locs cells slots mc' ms' (F0 mi pc ls (st0.map (mco ad))) (st.map (mco ad)) (mQc g ad h Qk a) (mA g)) :
    W p g.1 e R s mi args below meth c H locs cells slots Qf (F0 mi pc ls (st0.map (mco ad))) := by
  intro T hT X'
  obtain ⟨v, st₀, t, T', L', hh, X2, hL, e1, e2, ⟨⟨v', h', ad', hv, hQ, hext, hsim, hwf⟩, hF⟩, hgo⟩ := hr T hT X'
  cases hv
  have hst' : ∀ w ∈ v'.toList ++ st, mwf h' w := by
    intro w hw
    rcases List.mem_append.mp hw with hw | hw
    · exact hwf w (Option.mem_toList.mp hw)
    · exact (mco_ext hext (hst w hw)).2
  have hst2 : (v'.toList ++ st).map (mco ad') = (v'.map (mco ad')).toList ++ st.map (mco ad) := by
    rw [List.map_append]
    congr 1
    · cases v' <;> rfl
    · exact List.map_congr_left fun w hw => (mco_ext hext (hst w hw)).1
  have k1 := (kk v' h' hQ).use (X.called h1 h2 hext (by rw [e1]; exact hsim : mSim g ad' h' T'.heap) hst' (by rw [← hh, e1]; exact hF.1) (fun q q1 q2 => by rw [e1, ← hh]; exact hF.2 q (by rw [hh]; exact q1) q2) hL) E
  rw [hst2] at k1
  obtain ⟨t2, a1, b1⟩ := k1 T' rfl X2
  exact ⟨t2, hgo t2 a1, b1⟩
/-- what the tables say of a callee -/
def mCal (y : mMe) : Prop := plainFor y.1 = true ∧ (y.1.cls ≠ "java/lang/invoke/MethodHandle" ∧ y.1.cls ≠ "java/lang/invoke/VarHandle") ∧ y.2.2.1 ≤ 20 ∧ Cond.code y.1 y.2.1 y.2.2.1 y.2.2.2 ∈ mTb ∧ Cond.initialized y.1.cls ∈ mTb
theorem tr_callV {y : mMe} {idx k b d' mc' ms' : Nat} (vs : List mV) {Qk : Option mV → mH → Prop} (hc : decode m.2.1 pc = .ok (.invokevirtual idx, 3)) (C : mCal y) (hl : Cond.methodLink m.1.cls idx y.1 ∈ mTb) (hi : Cond.instanceMethod y.1 ∈ mTb ∧ Cond.selects y.1.cls y.1 y.1 ∈ mTb) (hk : k < 11 ∧ (mkd k).1 = y.1.cls)
    (hp : (parseMethodDescriptor y.1.desc).map (fun d => d.parameters.length) = some vs.length) (hd : d' < d) (h1 : mc' ≤ mc) (h2 : ms' ≤ ms) (hv : vs.all mc1 = true) (hn : vs.length + 1 ≤ y.2.2.1) (hs : st.length ≤ 4)
    (B : mT g y d' mc' ms' 0 (margs (vr k b :: vs) y.2.2.1) [] h Qk) (kk : ∀ v h', Qk v h' → mT g m d (mc - mc') (ms - ms') (pc + 3) L (v.toList ++ st) h' Q) : mT g m d mc ms pc L (vs.reverse ++ vr k b :: st) h Q := by
  intro p R e s mi args below meth c H ls locs cells slots ad ad0 h0 Qf X E
  have hw := X.2.2.2.2.1.2
  have hst : ∀ v ∈ st, mwf h v := fun v q => hw v (List.mem_append_right _ (List.mem_cons_of_mem _ q))
  have hb : mwf h (vr k b) := hw _ (List.mem_append_right _ List.mem_cons_self)
  have hvs : ∀ v ∈ vs, mwf h v := fun v q => hw v (List.mem_append_left _ (List.mem_reverse.mpr q))
  have hall : ∀ v ∈ vr k b :: vs, mc1 v = true := List.forall_mem_cons.mpr ⟨rfl, List.all_eq_true.mp hv⟩
  have hM := B.met C.1 hall (by simpa using hn) ad (List.forall_mem_cons.mpr ⟨hb, hvs⟩)
  obtain ⟨ws, ix, S⟩ := X.2.2.2.1.2
  have hin := S.1 k b (by omega) hb
  rw [ment_o hk.1] at hin
  have hts := X.1.2.2.2.2.1
  refine tr_run (y := y) h1 h2 kk X E hst (va_runV (As := vs.map (mco ad)) (n := vs.length) (C := y.1.cls) ⟨X.1.1, X.1.2.1, X.1.2.2.1, X.1.2.2.2.1, hts⟩ hM (cwV vs.length hts (mgoodIn ?_) rfl rfl rfl ⟨rfl, C.2.1.1, C.2.1.2, hp⟩ ⟨?_, ?_⟩) ⟨mPU_blind _ _ _ _, ?_, fun U hU hW => ⟨rfl, ?_, va_K.moved hW.alike X.2.2.1.2, by rw [hU]; exact X.2.2.2.1.2⟩⟩ rfl (by rw [List.length_map]) X.2.2.2.2.1.1.2.1 ?_ (lv_room ?_) hc ⟨?_, ?_⟩)
  · intro w hw
    simp only [wsV, List.cons_append, List.nil_append, List.mem_cons] at hw
    rcases hw with rfl | rfl | rfl | rfl | rfl | hw
    · exact hl
    · exact hi.1
    · exact hi.2
    · exact C.2.2.2.2
    · exact C.2.2.2.1
    · exact hw
  · show d' + 1 ≤ R.frames
    have := X.2.1.1
    omega
  · show 8 + (y.2.2.1 + 11) + 40 * d' ≤ R.locals
    have := X.2.1.2.1
    have := C.2.2.1
    omega
  · have := va_recv X.2.2.1.2 S.2.2.1 (mcl_at hk.1) hin
    rw [hk.2] at this
    exact this
  · rw [hU]
    exact X.2.2.1.1.warm X.2.2.2.2.2 hW.alike
  · show (vs.reverse ++ vr k b :: st).map (mco ad) = _
    rw [List.map_append, List.map_reverse]
    rfl
  · have := mcat_sum ad st
    omega
  · have := X.2.1.2.2.1
    omega
  · have := X.2.1.2.2.2
    omega
theorem tr_callI {y : mMe} {idx k b d' mc' ms' : Nat} (vs : List mV) {Qk : Option mV → mH → Prop} (hc : decode m.2.1 pc = .ok (.invokespecial idx, 3)) (C : mCal y) (hl : Cond.methodLink m.1.cls idx y.1 ∈ mTb) (hi : Cond.instanceMethod y.1 ∈ mTb ∧ y.1.name = "<init>" ∧ y.2.2.2 = none)
    (hp : (parseMethodDescriptor y.1.desc).map (fun d => d.parameters.length) = some vs.length) (hd : d' < d) (h1 : mc' ≤ mc) (h2 : ms' ≤ ms) (hv : vs.all mc1 = true) (hn : vs.length + 1 ≤ y.2.2.1) (hs : st.length ≤ 4)
    (B : mT g y d' mc' ms' 0 (margs (vr k b :: vs) y.2.2.1) [] h Qk) (kk : ∀ v h', Qk v h' → mT g m d (mc - mc') (ms - ms') (pc + 3) L (v.toList ++ st) h' Q) : mT g m d mc ms pc L (vs.reverse ++ vr k b :: st) h Q := by
  intro p R e s mi args below meth c H ls locs cells slots ad ad0 h0 Qf X E
  have hw := X.2.2.2.2.1.2
  have hst : ∀ v ∈ st, mwf h v := fun v q => hw v (List.mem_append_right _ (List.mem_cons_of_mem _ q))
  have hb : mwf h (vr k b) := hw _ (List.mem_append_right _ List.mem_cons_self)
  have hvs : ∀ v ∈ vs, mwf h v := fun v q => hw v (List.mem_append_left _ (List.mem_reverse.mpr q))
  have hall : ∀ v ∈ vr k b :: vs, mc1 v = true := List.forall_mem_cons.mpr ⟨rfl, List.all_eq_true.mp hv⟩
  have hM := B.met C.1 hall (by simpa using hn) ad (List.forall_mem_cons.mpr ⟨hb, hvs⟩)
  have hts := X.1.2.2.2.2.1
  have hcode := C.2.2.2.1
  rw [hi.2.2] at hM hcode
  refine tr_run (y := y) h1 h2 kk X E hst (va_runI (As := vs.map (mco ad)) (n := vs.length) ⟨X.1.1, X.1.2.1, X.1.2.2.1, X.1.2.2.2.1, hts⟩ hM (cwI vs.length hts (mgoodIn ?_) rfl rfl rfl (hts _ C.2.2.2.2) (hts _ hl) (hts _ hi.1) hi.2.1 ⟨C.2.1.1, C.2.1.2, hp⟩ ⟨?_, ?_⟩) ⟨mPU_blind _ _ _ _, fun U hU hW => ⟨rfl, ?_, va_K.moved hW.alike X.2.2.1.2, by rw [hU]; exact X.2.2.2.1.2⟩⟩ rfl (by rw [List.length_map]) X.2.2.2.2.1.1.2.1 ?_ (lv_room ?_) hc ⟨?_, ?_⟩)
  · intro w hw
    rcases List.mem_cons.mp hw with rfl | hw
    · exact hcode
    · exact hw
  · show d' + 1 ≤ R.frames
    have := X.2.1.1
    omega
  · show 8 + (y.2.2.1 + 11) + 40 * d' ≤ R.locals
    have := X.2.1.2.1
    have := C.2.2.1
    omega
  · rw [hU]
    exact X.2.2.1.1.warm X.2.2.2.2.2 hW.alike
  · show (vs.reverse ++ vr k b :: st).map (mco ad) = _
    rw [List.map_append, List.map_reverse]
    rfl
  · have := mcat_sum ad st
    omega
  · have := X.2.1.2.2.1
    omega
  · have := X.2.1.2.2.2
    omega
theorem tr_callS {y : mMe} {idx d' mc' ms' : Nat} (vs : List mV) {Qk : Option mV → mH → Prop} (hc : decode m.2.1 pc = .ok (.invokestatic idx, 3)) (C : mCal y) (hl : Cond.methodLink m.1.cls idx y.1 ∈ mTb) (hi : Cond.static y.1 ∈ mTb)
    (hp : (parseMethodDescriptor y.1.desc).map (fun d => d.parameters.length) = some vs.length) (hd : d' < d) (h1 : mc' ≤ mc) (h2 : ms' ≤ ms) (hv : vs.all mc1 = true) (hn : vs.length ≤ y.2.2.1) (hs : st.length ≤ 4)
    (B : mT g y d' mc' ms' 0 (margs vs y.2.2.1) [] h Qk) (kk : ∀ v h', Qk v h' → mT g m d (mc - mc') (ms - ms') (pc + 3) L (v.toList ++ st) h' Q) : mT g m d mc ms pc L (vs.reverse ++ st) h Q := by
  intro p R e s mi args below meth c H ls locs cells slots ad ad0 h0 Qf X E
  have hw := X.2.2.2.2.1.2
  have hst : ∀ v ∈ st, mwf h v := fun v q => hw v (List.mem_append_right _ q)
  have hvs : ∀ v ∈ vs, mwf h v := fun v q => hw v (List.mem_append_left _ (List.mem_reverse.mpr q))
  have hM := B.met C.1 (List.all_eq_true.mp hv) hn ad hvs
  have hts := X.1.2.2.2.2.1
  refine tr_run (y := y) h1 h2 kk X E hst (va_runS (As := vs.map (mco ad)) (n := vs.length) ⟨X.1.1, X.1.2.1, X.1.2.2.1, X.1.2.2.2.1, hts⟩ hM (va_cwS vs.length hts (mgoodIn ?_) rfl rfl rfl ⟨C.2.1.1, C.2.1.2, hp⟩ ⟨?_, ?_⟩) ⟨mPU_blind _ _ _ _, fun U hU hW => ⟨rfl, ?_, va_K.moved hW.alike X.2.2.1.2, by rw [hU]; exact X.2.2.2.1.2⟩⟩ rfl (by rw [List.length_map]) X.2.2.2.2.1.1.2.1 ?_ (lv_room ?_) hc ⟨?_, ?_⟩)
  · intro w hw
    simp only [va_wsS, List.cons_append, List.nil_append, List.mem_cons] at hw
    rcases hw with rfl | rfl | rfl | rfl | hw
    · exact hl
    · exact hi
    · exact C.2.2.2.2
    · exact C.2.2.2.1
    · exact hw
  · show d' + 1 ≤ R.frames
    have := X.2.1.1
    omega
  · show 8 + (y.2.2.1 + 11) + 40 * d' ≤ R.locals
    have := X.2.1.2.1
    have := C.2.2.1
    omega
  · rw [hU]
    exact X.2.2.1.1.warm X.2.2.2.2.2 hW.alike
  · show (vs.reverse ++ st).map (mco ad) = _
    rw [List.map_append, List.map_reverse]
  · have := mcat_sum ad st
    omega
  · have := X.2.1.2.2.1
    omega
  · have := X.2.1.2.2.2
    omega
end TR
end
section
/-! rules: casts, statics, constants, Math, comparing pointers, Object's constructor, copying rows -/
/-- pointers whose addresses tell them apart -/
def mAp (a b : Nat × Nat) : Prop := (a.1 < 14 ∧ b.1 < 14) ∨ (a.1 < 14 ∧ b.1 = 15) ∨ (a.1 = 15 ∧ b.1 < 14) ∨ (a.1 = b.1 ∧ (a.1 = 15 ∨ a.1 = 16))
theorem mAp.inj {g : mG} {ad : Nat → Nat → Nat} {h : mH} {H : Heap} {ws : va_W} {ix : Nat → Nat → Nat} {s : State} {H0 : Heap} (S : mSm g ad h H ws ix) (O : mOld g s H0) {a b : Nat × Nat} (hp : mAp a b) (ha : a.2 < hC h a.1) (hb : b.2 < hC h b.1) (he : ad a.1 a.2 = ad b.1 b.2) : a = b := by
  obtain ⟨k, n⟩ := a
  obtain ⟨k', n'⟩ := b
  dsimp only at *
  obtain ⟨⟨a1, a2, a3, a4, a5, a6, a7, a8, a9⟩, b, c⟩ := S.2.2.2.2
  have hlow : ∀ k n, k < 14 → n < hC h k → g.2.2.2.1.2.2.1 ≤ ad k n := fun k n h1 h2 => S.2.2.2.1.2 _ _ (S.1 k n h1 h2)
  rcases hp with ⟨h1, h2⟩ | ⟨h1, h2⟩ | ⟨h1, h2⟩ | ⟨h1, h2⟩
  · have := S.2.2.2.1.1 _ _ _ _ (S.1 k n h1 ha) (S.1 k' n' h2 hb) he
    obtain ⟨e1, e2⟩ := S.2.1 k n k' n' h1 ha h2 hb this
    rw [e1, e2]
  · dsimp only at h1 h2
    subst h2
    have : n' = 0 := by omega
    subst this
    have := hlow k n h1 ha
    have := O.2.2.2.2.1
    omega
  · dsimp only at h1 h2
    subst h1
    have : n = 0 := by omega
    subst this
    have := hlow k' n' h2 hb
    have := O.2.2.2.2.1
    omega
  · dsimp only at h1 h2
    subst h1
    rcases h2 with rfl | rfl
    · have : n = n' := by omega
      rw [this]
    · have : n = n' := by omega
      rw [this]
theorem mco_vp (ad : Nat → Nat → Nat) (r : Option (Nat × Nat)) : mco ad (vp r) = va_rf (r.map fun r => ad r.1 r.2) := by cases r <;> rfl
theorem mAp.opt {g : mG} {ad : Nat → Nat → Nat} {h : mH} {H : Heap} {ws : va_W} {ix : Nat → Nat → Nat} {s : State} {H0 : Heap} (S : mSm g ad h H ws ix) (O : mOld g s H0) {r r' : Option (Nat × Nat)} (hp : ∀ a b, r = some a → r' = some b → mAp a b) (ha : mwf h (vp r)) (hb : mwf h (vp r')) : (r.map fun r => ad r.1 r.2) = (r'.map fun r => ad r.1 r.2) ↔ r = r' := by
  constructor
  · intro he
    cases r <;> cases r'
    · rfl
    · cases he
    · cases he
    · exact congrArg some ((hp _ _ rfl rfl).inj S O ha hb (Option.some.inj he))
  · rintro rfl
    rfl
set_option maxRecDepth 100000 in
theorem mMathW : Cond.static Lib.Math.max.name ∈ mTb ∧ Cond.static Lib.Math.min.name ∈ mTb ∧ Cond.static Lib.Math.abs.name ∈ mTb ∧ Cond.initialized "java/lang/Math" ∈ mTb ∧ Cond.code Lib.Math.max.name Lib.Math.max.code 2 (some .int) ∈ mTb ∧ Cond.code Lib.Math.min.name Lib.Math.min.code 2 (some .int) ∈ mTb ∧ Cond.code Lib.Math.abs.name Lib.Math.abs.code 1 (some .int) ∈ mTb := by decide +kernel
set_option maxRecDepth 100000 in
theorem mObjW : Cond.instanceMethod Lib.objectInit ∈ mTb ∧ Cond.code Lib.objectInit ⟨#[0xb1]⟩ 1 none ∈ mTb := by decide +kernel
set_option maxRecDepth 100000 in
theorem mCpyW : Cond.native arraycopyName ∈ mTb ∧ Cond.static arraycopyName ∈ mTb ∧ Cond.initialized "java/lang/System" ∈ mTb ∧ Cond.selects "[Ljava/lang/Object;" ⟨"java/lang/Object", "getClass", "()Ljava/lang/Class;"⟩ ⟨"java/lang/Object", "getClass", "()Ljava/lang/Class;"⟩ ∈ mTb ∧ Cond.instanceMethod ⟨"java/lang/Object", "getClass", "()Ljava/lang/Class;"⟩ ∈ mTb ∧ Cond.native ⟨"java/lang/Object", "getClass", "()Ljava/lang/Class;"⟩ ∈ mTb := by decide +kernel
section TR
variable {g : mG} {m : mMe} {d mc ms pc : Nat} {L : List (Option mV)} {st : List mV} {h : mH} {Q : Option mV → mH → Prop}
theorem tr_cast {k n idx : Nat} (hc : decode m.2.1 pc = .ok (.checkcast idx, 3)) (hk : k < 11) (hl : Cond.classLink m.1.cls idx (mkd k).1 ∈ mTb) (kk : mT g m d mc ms (pc + 3) L (vr k n :: st) h Q) : mT g m d mc ms pc L (vr k n :: st) h Q := by
  intro p R e s mi args below meth c H ls locs cells slots ad ad0 h0 Qf X E
  have hst := List.forall_mem_cons.mp X.2.2.2.2.1.2
  obtain ⟨ws, ix, S⟩ := X.2.2.2.1.2
  have hin := S.1 k n (by omega) hst.1
  rw [ment_o hk] at hin
  exact va_castS X.1.1 X.1.2.1 X.1.2.2.2.1 (X.1.2.2.2.2.1 _ hl) (X.2.2.1.2.1 k _ (mcl_at hk)).2 (va_recv X.2.2.1.2 S.2.2.1 (mcl_at hk) hin) hc (kk.use (X.to X.2.2.2.2.1.1 X.2.2.2.2.1.2) E)
theorem tr_gets {idx : Nat} (hc : decode m.2.1 pc = .ok (.getstatic idx, 3)) (hl : Cond.fieldLink m.1.cls idx "java/util/ArrayList" "DEFAULTCAPACITY_EMPTY_ELEMENTDATA" "[Ljava/lang/Object;" ∈ mTb) (kk : mT g m d mc ms (pc + 3) L (vr 15 0 :: st) h Q) : mT g m d mc ms pc L st h Q := by
  intro p R e s mi args below meth c H ls locs cells slots ad ad0 h0 Qf X E
  obtain ⟨ws, ix, S⟩ := X.2.2.2.1.2
  obtain ⟨⟨a1, a2, a3, a4, a5, a6, a7, a8, a9⟩, b, c⟩ := S.2.2.2.2
  have kk' := kk.use (X.to X.2.2.2.2.1.1 (List.forall_mem_cons.mpr ⟨(by rw [a4]; exact Nat.one_pos : 0 < hC h 15), X.2.2.2.2.1.2⟩)) E
  have e3 : mco ad (vr 15 0) = .ref g.2.2.2.1.2.1 := congrArg Value.ref a2
  rw [List.map_cons, e3] at kk'
  exact va_gets X.1.1 X.1.2.1 X.2.2.1.1.1 X.2.2.2.2.2 X.1.2.2.2.1 (X.1.2.2.2.2.1 _ hl) (fun x hx => hx) hc kk'
theorem tr_ldc {idx : Nat} {v : Int32} (hc : decode m.2.1 pc = .ok (.ldc idx, 2)) (hl : Cond.constant m.1.cls idx v ∈ mTb) (kk : mT g m d mc ms (pc + 2) L (vi v :: st) h Q) : mT g m d mc ms pc L st h Q := by
  intro p R e s mi args below meth c H ls locs cells slots ad ad0 h0 Qf X E
  exact lv_ldc X.1.1 X.1.2.1 X.1.2.2.2.1 (X.1.2.2.2.2.1 _ hl) hc (kk.use (X.to X.2.2.2.2.1.1 (List.forall_mem_cons.mpr ⟨trivial, X.2.2.2.2.1.2⟩)) E)
theorem tr_ldcw {idx : Nat} {v : Int32} (hc : decode m.2.1 pc = .ok (.ldc_w idx, 3)) (hl : Cond.constant m.1.cls idx v ∈ mTb) (kk : mT g m d mc ms (pc + 3) L (vi v :: st) h Q) : mT g m d mc ms pc L st h Q := by
  intro p R e s mi args below meth c H ls locs cells slots ad ad0 h0 Qf X E
  exact lv_ldcw X.1.1 X.1.2.1 X.1.2.2.2.1 (X.1.2.2.2.2.1 _ hl) hc (kk.use (X.to X.2.2.2.2.1.1 (List.forall_mem_cons.mpr ⟨trivial, X.2.2.2.2.1.2⟩)) E)
theorem tr_ldc2 {idx : Nat} {v : Int64} (hc : decode m.2.1 pc = .ok (.ldc2_w idx, 3)) (hl : Cond.constantLong m.1.cls idx v ∈ mTb) (kk : mT g m d mc ms (pc + 3) L (vl v :: st) h Q) : mT g m d mc ms pc L st h Q := by
  intro p R e s mi args below meth c H ls locs cells slots ad ad0 h0 Qf X E
  exact lv_ldc2 X.1.1 X.1.2.1 X.1.2.2.2.1 (X.1.2.2.2.2.1 _ hl) hc (kk.use (X.to X.2.2.2.2.1.1 (List.forall_mem_cons.mpr ⟨trivial, X.2.2.2.2.1.2⟩)) E)
theorem tr_max {idx : Nat} {x y : Int32} (hc : decode m.2.1 pc = .ok (.invokestatic idx, 3)) (hl : Cond.methodLink m.1.cls idx Lib.Math.max.name ∈ mTb) (hd : 1 ≤ d) (hs : st.length ≤ 6) (kk : mT g m d mc ms (pc + 3) L (vi (if x < y then y else x) :: st) h Q) : mT g m d mc ms pc L (vi y :: vi x :: st) h Q := by
  intro p R e s mi args below meth c H ls locs cells slots ad ad0 h0 Qf X E
  have hts := X.1.2.2.2.2.1
  have hst := (List.forall_mem_cons.mp (List.forall_mem_cons.mp X.2.2.2.2.1.2).2).2
  have := mcat_sum ad st
  have := X.2.1
  exact va_mmax X.1.1 X.1.2.1 (X.1.2.2.1.trans X.2.2.2.2.1.1.2.1.symm) X.1.2.2.2.1 (hts _ hl) (hts _ mMathW.1) (hts _ mMathW.2.2.2.1) (hts _ mMathW.2.2.2.2.1) (by omega) (by omega) (by omega) (by omega) hc (kk.use (X.to X.2.2.2.2.1.1 (List.forall_mem_cons.mpr ⟨trivial, hst⟩)) E)
theorem tr_min {idx : Nat} {x y : Int32} (hc : decode m.2.1 pc = .ok (.invokestatic idx, 3)) (hl : Cond.methodLink m.1.cls idx Lib.Math.min.name ∈ mTb) (hd : 1 ≤ d) (hs : st.length ≤ 6) (kk : mT g m d mc ms (pc + 3) L (vi (if y < x then y else x) :: st) h Q) : mT g m d mc ms pc L (vi y :: vi x :: st) h Q := by
  intro p R e s mi args below meth c H ls locs cells slots ad ad0 h0 Qf X E
  have hts := X.1.2.2.2.2.1
  have hst := (List.forall_mem_cons.mp (List.forall_mem_cons.mp X.2.2.2.2.1.2).2).2
  have := mcat_sum ad st
  have := X.2.1
  exact va_mmin X.1.1 X.1.2.1 (X.1.2.2.1.trans X.2.2.2.2.1.1.2.1.symm) X.1.2.2.2.1 (hts _ hl) (hts _ mMathW.2.1) (hts _ mMathW.2.2.2.1) (hts _ mMathW.2.2.2.2.2.1) (by omega) (by omega) (by omega) (by omega) hc (kk.use (X.to X.2.2.2.2.1.1 (List.forall_mem_cons.mpr ⟨trivial, hst⟩)) E)
theorem tr_abs {idx : Nat} {x : Int32} (hc : decode m.2.1 pc = .ok (.invokestatic idx, 3)) (hl : Cond.methodLink m.1.cls idx Lib.Math.abs.name ∈ mTb) (hd : 1 ≤ d) (hs : st.length ≤ 6) (kk : mT g m d mc ms (pc + 3) L (vi (if 0 ≤ x then x else 0 - x) :: st) h Q) : mT g m d mc ms pc L (vi x :: st) h Q := by
  intro p R e s mi args below meth c H ls locs cells slots ad ad0 h0 Qf X E
  have hts := X.1.2.2.2.2.1
  have hst := (List.forall_mem_cons.mp X.2.2.2.2.1.2).2
  have := mcat_sum ad st
  have := X.2.1
  exact va_mabs X.1.1 X.1.2.1 (X.1.2.2.1.trans X.2.2.2.2.1.1.2.1.symm) X.1.2.2.2.1 (hts _ hl) (hts _ mMathW.2.2.1) (hts _ mMathW.2.2.2.1) (hts _ mMathW.2.2.2.2.2.2) (by omega) (by omega) (by omega) (by omega) hc (kk.use (X.to X.2.2.2.2.1.1 (List.forall_mem_cons.mpr ⟨trivial, hst⟩)) E)
theorem tr_acmp_eq {r r' : Option (Nat × Nat)} {off : Int} (tgt : Nat) (hc : decode m.2.1 pc = .ok (.if_acmp .eq off, 3)) (ht : (pc : Int) + off = (tgt : Int)) (hp : ∀ a b, r = some a → r' = some b → mAp a b) (kt : r = r' → mT g m d mc ms tgt L st h Q) (kf : ¬ r = r' → mT g m d mc ms (pc + 3) L st h Q) : mT g m d mc ms pc L (vp r' :: vp r :: st) h Q := by
  intro p R e s mi args below meth c H ls locs cells slots ad ad0 h0 Qf X E
  have h1 := List.forall_mem_cons.mp X.2.2.2.2.1.2
  have h2 := List.forall_mem_cons.mp h1.2
  obtain ⟨ws, ix, S⟩ := X.2.2.2.1.2
  have hi := mAp.opt S X.2.2.1.1 hp h2.1 h1.1
  show W p g.1 e R s mi args below meth _ H locs cells slots Qf (F0 mi pc ls (mco ad (vp r') :: mco ad (vp r) :: st.map (mco ad)))
  rw [mco_vp, mco_vp]
  exact lv_acmp_eq X.1.1 X.1.2.1 hc ht (fun q => (kt (hi.mp q)).use (X.to X.2.2.2.2.1.1 h2.2) E) (fun q => (kf (fun z => q (hi.mpr z))).use (X.to X.2.2.2.2.1.1 h2.2) E)
theorem tr_acmp_ne {r r' : Option (Nat × Nat)} {off : Int} (tgt : Nat) (hc : decode m.2.1 pc = .ok (.if_acmp .ne off, 3)) (ht : (pc : Int) + off = (tgt : Int)) (hp : ∀ a b, r = some a → r' = some b → mAp a b) (kt : ¬ r = r' → mT g m d mc ms tgt L st h Q) (kf : r = r' → mT g m d mc ms (pc + 3) L st h Q) : mT g m d mc ms pc L (vp r' :: vp r :: st) h Q := by
  intro p R e s mi args below meth c H ls locs cells slots ad ad0 h0 Qf X E
  have h1 := List.forall_mem_cons.mp X.2.2.2.2.1.2
  have h2 := List.forall_mem_cons.mp h1.2
  obtain ⟨ws, ix, S⟩ := X.2.2.2.1.2
  have hi := mAp.opt S X.2.2.1.1 hp h2.1 h1.1
  show W p g.1 e R s mi args below meth _ H locs cells slots Qf (F0 mi pc ls (mco ad (vp r') :: mco ad (vp r) :: st.map (mco ad)))
  rw [mco_vp, mco_vp]
  exact lv_acmp_ne X.1.1 X.1.2.1 hc ht (fun q => (kt (fun z => q (hi.mpr z))).use (X.to X.2.2.2.2.1.1 h2.2) E) (fun q => (kf (hi.mp q)).use (X.to X.2.2.2.2.1.1 h2.2) E)
theorem tr_obj {k n idx : Nat} (hc : decode m.2.1 pc = .ok (.invokespecial idx, 3)) (hl : Cond.methodLink m.1.cls idx Lib.objectInit ∈ mTb) (hd : 1 ≤ d) (hs : st.length ≤ 4) (kk : mT g m d mc ms (pc + 3) L st h Q) : mT g m d mc ms pc L (vr k n :: st) h Q := by
  intro p R e s mi args below meth c H ls locs cells slots ad ad0 h0 Qf X E
  have hts := X.1.2.2.2.2.1
  have hst := (List.forall_mem_cons.mp X.2.2.2.2.1.2).2
  have h1 := mcat_sum ad st
  have h2 := X.2.1
  have h3 : 2 * (F0 mi pc ls (mco ad (vr k n) :: st.map (mco ad))).monitorRoom + ((st.map (mco ad)).map fun v => v.category).sum ≤ 8 := lv_room (by omega)
  exact W.objInit X.1.1 X.1.2.1 X.1.2.2.2.1 (hts _ hl) (hts _ mObjW.1) (hts _ mObjW.2) rfl (X.2.2.2.2.1.1.2.1.trans X.1.2.2.1.symm) rfl hc (by omega) (Nat.le_trans (Nat.add_le_add_right h3 12) (by omega)) (kk.use (X.to X.2.2.2.2.1.1 hst) E)
theorem tr_getC {n idx : Nat} (hc : decode m.2.1 pc = .ok (.invokevirtual idx, 3)) (hl : Cond.methodLink m.1.cls idx ⟨"java/lang/Object", "getClass", "()Ljava/lang/Class;"⟩ ∈ mTb) (hd : 1 ≤ d) (hs : st.length ≤ 4) (kk : mT g m d mc ms (pc + 3) L (vr 16 0 :: st) h Q) : mT g m d mc ms pc L (vr 13 n :: st) h Q := by
  intro p R e s mi args below meth c H ls locs cells slots ad ad0 h0 Qf X E
  have hts := X.1.2.2.2.2.1
  have hst := List.forall_mem_cons.mp X.2.2.2.2.1.2
  have h1 := mcat_sum ad st
  have h2 := X.2.1
  obtain ⟨ws, ix, S⟩ := X.2.2.2.1.2
  obtain ⟨⟨a1, a2, a3, a4, a5, a6, a7, a8, a9⟩, b, c⟩ := S.2.2.2.2
  have kk' := kk.use (X.to X.2.2.2.2.1.1 (List.forall_mem_cons.mpr ⟨(by rw [a9]; exact Nat.one_pos : 0 < hC h 16), hst.2⟩)) E
  have e3 : mco ad (vr 16 0) = .ref g.2.2.2.1.2.2.2 := congrArg Value.ref a8
  rw [List.map_cons, e3] at kk'
  have hin := S.1 13 n (by omega) hst.1
  have hcell := S.2.2.1 _ _ hin
  obtain ⟨kA, comp, k1, k2, k3, k4⟩ := (X.2.2.1.2.2 2 _ rfl).2
  have O := X.2.2.1.1
  exact va_getC (C := "[Ljava/lang/Object;") X.1.1 X.1.2.1 (X.1.2.2.1.trans X.2.2.2.2.1.1.2.1.symm) X.1.2.2.2.1 (hts _ hl) (va_Dc.use O.2.2.2.2.2.2.2.2.2) (hts _ mCpyW.2.2.2.1) (hts _ mCpyW.2.2.2.2.1) (hts _ mCpyW.2.2.2.2.2) O.2.2.2.2.2.2.1 ⟨_, hcell, rfl, k4⟩ (by omega) (by omega) hc kk'
theorem tr_ldcC {idx : Nat} (hc : decode m.2.1 pc = .ok (.ldc idx, 2)) (hl : Cond.classLink m.1.cls idx "[Ljava/lang/Object;" ∈ mTb) (kk : mT g m d mc ms (pc + 2) L (vr 16 0 :: st) h Q) : mT g m d mc ms pc L st h Q := by
  intro p R e s mi args below meth c H ls locs cells slots ad ad0 h0 Qf X E
  have hts := X.1.2.2.2.2.1
  obtain ⟨ws, ix, S⟩ := X.2.2.2.1.2
  obtain ⟨⟨a1, a2, a3, a4, a5, a6, a7, a8, a9⟩, b, c⟩ := S.2.2.2.2
  have kk' := kk.use (X.to X.2.2.2.2.1.1 (List.forall_mem_cons.mpr ⟨(by rw [a9]; exact Nat.one_pos : 0 < hC h 16), X.2.2.2.2.1.2⟩)) E
  have e3 : mco ad (vr 16 0) = .ref g.2.2.2.1.2.2.2 := congrArg Value.ref a8
  rw [List.map_cons, e3] at kk'
  exact va_ldcM X.1.1 X.1.2.1 X.1.2.2.2.1 (hts _ hl) X.2.2.1.1.2.2.2.2.2.2.1 hc kk'
theorem tr_copy {n0 n1 idx w : Nat} {n : Int32} (hc : decode m.2.1 pc = .ok (.invokestatic idx, 3)) (hl : Cond.methodLink m.1.cls idx arraycopyName ∈ mTb) (hd : 1 ≤ d) (hs : st.length ≤ 4) (hn : ¬ n < 0) (hw : n.toNatClampNeg = w) (h4 : w ≤ hL h 13 n0) (h5 : w ≤ hL h 13 n1) (hel : ∀ i, i < w → ∀ r, hP h 13 n0 i = some r → r.1 < 11)
    (kk : mT g m d mc ms (pc + 3) L st (cpyP h n0 n1 w) Q) : mT g m d mc ms pc L (vi n :: vi 0 :: vr 13 n1 :: vi 0 :: vr 13 n0 :: st) h Q := by
  intro p R e s mi args below meth c H ls locs cells slots ad ad0 h0 Qf X E
  subst hw
  have hts := X.1.2.2.2.2.1
  have w1 := List.forall_mem_cons.mp (List.forall_mem_cons.mp (List.forall_mem_cons.mp X.2.2.2.2.1.2).2).2
  have w2 := List.forall_mem_cons.mp (List.forall_mem_cons.mp w1.2).2
  have h1 := mcat_sum ad st
  have h2 := X.2.1
  obtain ⟨ws, ix, S⟩ := X.2.2.2.1.2
  have i0 := S.1 13 n0 (by omega) w2.1
  have i1 := S.1 13 n1 (by omega) w1.1
  have hcp : va_cpy (mpt ad h n0) (mpt ad h n1) 0 0 n.toNatClampNeg = mpt ad (cpyP h n0 n1 n.toNatClampNeg) n1 := by
    funext j
    show (if 0 ≤ j ∧ j < 0 + n.toNatClampNeg then mpt ad h n0 (0 + (j - 0)) else mpt ad h n1 j) = (if (13:Nat) = 13 ∧ n1 = n1 ∧ j < n.toNatClampNeg then hP h 13 n0 j else hP h 13 n1 j).map fun r => ad r.1 r.2
    by_cases q : j < n.toNatClampNeg
    · rw [if_pos ⟨by omega, by omega⟩, if_pos ⟨rfl, rfl, q⟩, show 0 + (j - 0) = j by omega]
      rfl
    · rw [if_neg (fun z => q (by omega)), if_neg (fun z => q z.2.2)]
      rfl
  refine va_copyM (E0 := "java/lang/Object") (E1 := "java/lang/Object") X.1.1 X.1.2.1 (X.1.2.2.1.trans X.2.2.2.2.1.1.2.1.symm) X.1.2.2.2.1 (hts _ hl) (hts _ mCpyW.1) (hts _ mCpyW.2.1) (hts _ mCpyW.2.2.1) X.2.2.1.2 S.2.2.1 S.2.2.2.1 X.2.2.2.2.2 (ix 13 n0) (ix 13 n1) 2 2 (i0.trans (by rw [ment_q])) (i1.trans (by rw [ment_q])) rfl rfl (by decide) (by decide) hn (by show 0 + _ ≤ _; omega) (by show 0 + _ ≤ _; omega) ?_ (by omega) (by have h9 : nativeFrameWords "java/lang/System" "arraycopy" 5 ≤ 10 := (by decide +kernel); omega) hc fun H1 locs1 P1 D1 S1 => ?_
  · intro i hi y hy
    have hy2 : (hP h 13 n0 i).map (fun r => ad r.1 r.2) = some y := by rw [← hy]; show _ = mpt ad h n0 (0 + i); rw [Nat.zero_add]; rfl
    cases hr : hP h 13 n0 i with
    | none => rw [hr] at hy2; cases hy2
    | some r =>
      rw [hr] at hy2
      cases hy2
      exact mAny X.2.2.1.1 X.2.2.1.2 S (hel i hi r hr) (S.2.2.2.2.2.1 _ _ _ _ hr)
  · have hco : mCo g ad (cpyP h n0 n1 n.toNatClampNeg) := by
      obtain ⟨a, b, c⟩ := S.2.2.2.2
      refine ⟨a, ?_, c⟩
      intro k' n' f' r' hr
      by_cases q : k' = 13 ∧ n' = n1 ∧ f' < n.toNatClampNeg
      · have e : hP (cpyP h n0 n1 n.toNatClampNeg) k' n' f' = hP h 13 n0 f' := if_pos q
        rw [e] at hr
        exact b _ _ _ _ hr
      · have e : hP (cpyP h n0 n1 n.toNatClampNeg) k' n' f' = hP h k' n' f' := if_neg q
        rw [e] at hr
        exact b _ _ _ _ hr
    refine kk.use (X.heap (h' := cpyP h n0 n1 n.toNatClampNeg) (fun _ => rfl) (S.set (by omega) w1.1 (by rw [ment_q, ← hcp]; rfl) (fun _ => rfl) (fun k' n' hk' q => ment_congr rfl ?_ rfl hk') hco P1 D1) w2.2 S1) E
    funext f
    exact if_neg (fun z => q ⟨z.1, z.2.1⟩)
end TR
end
