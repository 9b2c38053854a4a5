/-! printed by my own program: decode rows -/
theorem k_fn_init_0 : decode me_fn_init.2.1 0 = .ok (.aload_n 0, 1) := by decide +kernel
theorem k_fn_init_1 : decode me_fn_init.2.1 1 = .ok (.invokespecial 3, 3) := by decide +kernel
theorem k_fn_init_4 : decode me_fn_init.2.1 4 = .ok (.aload_n 0, 1) := by decide +kernel
theorem k_fn_init_5 : decode me_fn_init.2.1 5 = .ok (.new 9, 3) := by decide +kernel
theorem k_fn_init_8 : decode me_fn_init.2.1 8 = .ok (.dup, 1) := by decide +kernel
theorem k_fn_init_9 : decode me_fn_init.2.1 9 = .ok (.invokespecial 11, 3) := by decide +kernel
theorem k_fn_init_12 : decode me_fn_init.2.1 12 = .ok (.putfield 12, 3) := by decide +kernel
theorem k_fn_init_15 : decode me_fn_init.2.1 15 = .ok (.aload_n 0, 1) := by decide +kernel
theorem k_fn_init_16 : decode me_fn_init.2.1 16 = .ok (.new 16, 3) := by decide +kernel
theorem k_fn_init_19 : decode me_fn_init.2.1 19 = .ok (.dup, 1) := by decide +kernel
theorem k_fn_init_20 : decode me_fn_init.2.1 20 = .ok (.invokespecial 18, 3) := by decide +kernel
theorem k_fn_init_23 : decode me_fn_init.2.1 23 = .ok (.putfield 19, 3) := by decide +kernel
theorem k_fn_init_26 : decode me_fn_init.2.1 26 = .ok (.aload_n 0, 1) := by decide +kernel
theorem k_fn_init_27 : decode me_fn_init.2.1 27 = .ok (.new 23, 3) := by decide +kernel
theorem k_fn_init_30 : decode me_fn_init.2.1 30 = .ok (.dup, 1) := by decide +kernel
theorem k_fn_init_31 : decode me_fn_init.2.1 31 = .ok (.aload_n 0, 1) := by decide +kernel
theorem k_fn_init_32 : decode me_fn_init.2.1 32 = .ok (.getfield 12, 3) := by decide +kernel
theorem k_fn_init_35 : decode me_fn_init.2.1 35 = .ok (.aload_n 0, 1) := by decide +kernel
theorem k_fn_init_36 : decode me_fn_init.2.1 36 = .ok (.getfield 19, 3) := by decide +kernel
theorem k_fn_init_39 : decode me_fn_init.2.1 39 = .ok (.invokespecial 25, 3) := by decide +kernel
theorem k_fn_init_42 : decode me_fn_init.2.1 42 = .ok (.putfield 28, 3) := by decide +kernel
theorem k_fn_init_45 : decode me_fn_init.2.1 45 = .ok (.aload_n 0, 1) := by decide +kernel
theorem k_fn_init_46 : decode me_fn_init.2.1 46 = .ok (.new 32, 3) := by decide +kernel
theorem k_fn_init_49 : decode me_fn_init.2.1 49 = .ok (.dup, 1) := by decide +kernel
theorem k_fn_init_50 : decode me_fn_init.2.1 50 = .ok (.aload_n 0, 1) := by decide +kernel
theorem k_fn_init_51 : decode me_fn_init.2.1 51 = .ok (.getfield 12, 3) := by decide +kernel
theorem k_fn_init_54 : decode me_fn_init.2.1 54 = .ok (.aload_n 0, 1) := by decide +kernel
theorem k_fn_init_55 : decode me_fn_init.2.1 55 = .ok (.getfield 19, 3) := by decide +kernel
theorem k_fn_init_58 : decode me_fn_init.2.1 58 = .ok (.invokespecial 34, 3) := by decide +kernel
theorem k_fn_init_61 : decode me_fn_init.2.1 61 = .ok (.putfield 35, 3) := by decide +kernel
theorem k_fn_init_64 : decode me_fn_init.2.1 64 = .ok (.aload_n 0, 1) := by decide +kernel
theorem k_fn_init_65 : decode me_fn_init.2.1 65 = .ok (.new 39, 3) := by decide +kernel
theorem k_fn_init_68 : decode me_fn_init.2.1 68 = .ok (.dup, 1) := by decide +kernel
theorem k_fn_init_69 : decode me_fn_init.2.1 69 = .ok (.aload_n 0, 1) := by decide +kernel
theorem k_fn_init_70 : decode me_fn_init.2.1 70 = .ok (.getfield 12, 3) := by decide +kernel
theorem k_fn_init_73 : decode me_fn_init.2.1 73 = .ok (.invokespecial 41, 3) := by decide +kernel
theorem k_fn_init_76 : decode me_fn_init.2.1 76 = .ok (.putfield 44, 3) := by decide +kernel
theorem k_fn_init_79 : decode me_fn_init.2.1 79 = .ok (.aload_n 0, 1) := by decide +kernel
theorem k_fn_init_80 : decode me_fn_init.2.1 80 = .ok (.bipush 7, 2) := by decide +kernel
theorem k_fn_init_82 : decode me_fn_init.2.1 82 = .ok (.newarray .int, 2) := by decide +kernel
theorem k_fn_init_84 : decode me_fn_init.2.1 84 = .ok (.putfield 48, 3) := by decide +kernel
theorem k_fn_init_87 : decode me_fn_init.2.1 87 = .ok (.aload_n 0, 1) := by decide +kernel
theorem k_fn_init_88 : decode me_fn_init.2.1 88 = .ok (.iconst 1, 1) := by decide +kernel
theorem k_fn_init_89 : decode me_fn_init.2.1 89 = .ok (.putfield 52, 3) := by decide +kernel
theorem k_fn_init_92 : decode me_fn_init.2.1 92 = .ok (.return_, 1) := by decide +kernel
theorem k_ga_init_0 : decode me_ga_init.2.1 0 = .ok (.aload_n 0, 1) := by decide +kernel
theorem k_ga_init_1 : decode me_ga_init.2.1 1 = .ok (.invokespecial 3, 3) := by decide +kernel
theorem k_ga_init_4 : decode me_ga_init.2.1 4 = .ok (.aload_n 0, 1) := by decide +kernel
theorem k_ga_init_5 : decode me_ga_init.2.1 5 = .ok (.new 9, 3) := by decide +kernel
theorem k_ga_init_8 : decode me_ga_init.2.1 8 = .ok (.dup, 1) := by decide +kernel
theorem k_ga_init_9 : decode me_ga_init.2.1 9 = .ok (.invokespecial 11, 3) := by decide +kernel
theorem k_ga_init_12 : decode me_ga_init.2.1 12 = .ok (.putfield 12, 3) := by decide +kernel
theorem k_ga_init_15 : decode me_ga_init.2.1 15 = .ok (.aload_n 0, 1) := by decide +kernel
theorem k_ga_init_16 : decode me_ga_init.2.1 16 = .ok (.new 9, 3) := by decide +kernel
theorem k_ga_init_19 : decode me_ga_init.2.1 19 = .ok (.dup, 1) := by decide +kernel
theorem k_ga_init_20 : decode me_ga_init.2.1 20 = .ok (.invokespecial 11, 3) := by decide +kernel
theorem k_ga_init_23 : decode me_ga_init.2.1 23 = .ok (.putfield 18, 3) := by decide +kernel
theorem k_ga_init_26 : decode me_ga_init.2.1 26 = .ok (.aload_n 0, 1) := by decide +kernel
theorem k_ga_init_27 : decode me_ga_init.2.1 27 = .ok (.new 9, 3) := by decide +kernel
theorem k_ga_init_30 : decode me_ga_init.2.1 30 = .ok (.dup, 1) := by decide +kernel
theorem k_ga_init_31 : decode me_ga_init.2.1 31 = .ok (.invokespecial 11, 3) := by decide +kernel
theorem k_ga_init_34 : decode me_ga_init.2.1 34 = .ok (.putfield 21, 3) := by decide +kernel
theorem k_ga_init_37 : decode me_ga_init.2.1 37 = .ok (.return_, 1) := by decide +kernel
theorem k_al_init_0 : decode me_al_init.2.1 0 = .ok (.aload_n 0, 1) := by decide +kernel
theorem k_al_init_1 : decode me_al_init.2.1 1 = .ok (.invokespecial 1, 3) := by decide +kernel
theorem k_al_init_4 : decode me_al_init.2.1 4 = .ok (.aload_n 0, 1) := by decide +kernel
theorem k_al_init_5 : decode me_al_init.2.1 5 = .ok (.getstatic 39, 3) := by decide +kernel
theorem k_al_init_8 : decode me_al_init.2.1 8 = .ok (.putfield 9, 3) := by decide +kernel
theorem k_al_init_11 : decode me_al_init.2.1 11 = .ok (.return_, 1) := by decide +kernel
theorem k_ab_init_0 : decode me_ab_init.2.1 0 = .ok (.aload_n 0, 1) := by decide +kernel
theorem k_ab_init_1 : decode me_ab_init.2.1 1 = .ok (.invokespecial 1, 3) := by decide +kernel
theorem k_ab_init_4 : decode me_ab_init.2.1 4 = .ok (.aload_n 0, 1) := by decide +kernel
theorem k_ab_init_5 : decode me_ab_init.2.1 5 = .ok (.iconst 0, 1) := by decide +kernel
theorem k_ab_init_6 : decode me_ab_init.2.1 6 = .ok (.putfield 7, 3) := by decide +kernel
theorem k_ab_init_9 : decode me_ab_init.2.1 9 = .ok (.return_, 1) := by decide +kernel
theorem k_ac_init_0 : decode me_ac_init.2.1 0 = .ok (.aload_n 0, 1) := by decide +kernel
theorem k_ac_init_1 : decode me_ac_init.2.1 1 = .ok (.invokespecial 1, 3) := by decide +kernel
theorem k_ac_init_4 : decode me_ac_init.2.1 4 = .ok (.return_, 1) := by decide +kernel
theorem k_sr_init_0 : decode me_sr_init.2.1 0 = .ok (.aload_n 0, 1) := by decide +kernel
theorem k_sr_init_1 : decode me_sr_init.2.1 1 = .ok (.invokespecial 3, 3) := by decide +kernel
theorem k_sr_init_4 : decode me_sr_init.2.1 4 = .ok (.aload_n 0, 1) := by decide +kernel
theorem k_sr_init_5 : decode me_sr_init.2.1 5 = .ok (.aload_n 1, 1) := by decide +kernel
theorem k_sr_init_6 : decode me_sr_init.2.1 6 = .ok (.putfield 9, 3) := by decide +kernel
theorem k_sr_init_9 : decode me_sr_init.2.1 9 = .ok (.aload_n 0, 1) := by decide +kernel
theorem k_sr_init_10 : decode me_sr_init.2.1 10 = .ok (.aload_n 2, 1) := by decide +kernel
theorem k_sr_init_11 : decode me_sr_init.2.1 11 = .ok (.putfield 15, 3) := by decide +kernel
theorem k_sr_init_14 : decode me_sr_init.2.1 14 = .ok (.return_, 1) := by decide +kernel
theorem k_tl_init_0 : decode me_tl_init.2.1 0 = .ok (.aload_n 0, 1) := by decide +kernel
theorem k_tl_init_1 : decode me_tl_init.2.1 1 = .ok (.invokespecial 3, 3) := by decide +kernel
theorem k_tl_init_4 : decode me_tl_init.2.1 4 = .ok (.aload_n 0, 1) := by decide +kernel
theorem k_tl_init_5 : decode me_tl_init.2.1 5 = .ok (.aload_n 1, 1) := by decide +kernel
theorem k_tl_init_6 : decode me_tl_init.2.1 6 = .ok (.putfield 9, 3) := by decide +kernel
theorem k_tl_init_9 : decode me_tl_init.2.1 9 = .ok (.aload_n 0, 1) := by decide +kernel
theorem k_tl_init_10 : decode me_tl_init.2.1 10 = .ok (.aload_n 2, 1) := by decide +kernel
theorem k_tl_init_11 : decode me_tl_init.2.1 11 = .ok (.putfield 15, 3) := by decide +kernel
theorem k_tl_init_14 : decode me_tl_init.2.1 14 = .ok (.aload_n 0, 1) := by decide +kernel
theorem k_tl_init_15 : decode me_tl_init.2.1 15 = .ok (.sipush 576, 3) := by decide +kernel
theorem k_tl_init_18 : decode me_tl_init.2.1 18 = .ok (.newarray .int, 2) := by decide +kernel
theorem k_tl_init_20 : decode me_tl_init.2.1 20 = .ok (.putfield 19, 3) := by decide +kernel
theorem k_tl_init_23 : decode me_tl_init.2.1 23 = .ok (.aload_n 0, 1) := by decide +kernel
theorem k_tl_init_24 : decode me_tl_init.2.1 24 = .ok (.sipush 576, 3) := by decide +kernel
theorem k_tl_init_27 : decode me_tl_init.2.1 27 = .ok (.newarray .int, 2) := by decide +kernel
theorem k_tl_init_29 : decode me_tl_init.2.1 29 = .ok (.putfield 23, 3) := by decide +kernel
theorem k_tl_init_32 : decode me_tl_init.2.1 32 = .ok (.aload_n 0, 1) := by decide +kernel
theorem k_tl_init_33 : decode me_tl_init.2.1 33 = .ok (.sipush 576, 3) := by decide +kernel
theorem k_tl_init_36 : decode me_tl_init.2.1 36 = .ok (.newarray .int, 2) := by decide +kernel
theorem k_tl_init_38 : decode me_tl_init.2.1 38 = .ok (.putfield 26, 3) := by decide +kernel
theorem k_tl_init_41 : decode me_tl_init.2.1 41 = .ok (.aload_n 0, 1) := by decide +kernel
theorem k_tl_init_42 : decode me_tl_init.2.1 42 = .ok (.sipush 576, 3) := by decide +kernel
theorem k_tl_init_45 : decode me_tl_init.2.1 45 = .ok (.newarray .int, 2) := by decide +kernel
theorem k_tl_init_47 : decode me_tl_init.2.1 47 = .ok (.putfield 29, 3) := by decide +kernel
theorem k_tl_init_50 : decode me_tl_init.2.1 50 = .ok (.aload_n 0, 1) := by decide +kernel
theorem k_tl_init_51 : decode me_tl_init.2.1 51 = .ok (.sipush 576, 3) := by decide +kernel
theorem k_tl_init_54 : decode me_tl_init.2.1 54 = .ok (.newarray .int, 2) := by decide +kernel
theorem k_tl_init_56 : decode me_tl_init.2.1 56 = .ok (.putfield 32, 3) := by decide +kernel
theorem k_tl_init_59 : decode me_tl_init.2.1 59 = .ok (.return_, 1) := by decide +kernel
theorem k_lk_init_0 : decode me_lk_init.2.1 0 = .ok (.aload_n 0, 1) := by decide +kernel
theorem k_lk_init_1 : decode me_lk_init.2.1 1 = .ok (.invokespecial 3, 3) := by decide +kernel
theorem k_lk_init_4 : decode me_lk_init.2.1 4 = .ok (.aload_n 0, 1) := by decide +kernel
theorem k_lk_init_5 : decode me_lk_init.2.1 5 = .ok (.aload_n 1, 1) := by decide +kernel
theorem k_lk_init_6 : decode me_lk_init.2.1 6 = .ok (.putfield 9, 3) := by decide +kernel
theorem k_lk_init_9 : decode me_lk_init.2.1 9 = .ok (.return_, 1) := by decide +kernel
theorem k_fn_tank_0 : decode me_fn_tank.2.1 0 = .ok (.iload_n 1, 1) := by decide +kernel
theorem k_fn_tank_1 : decode me_fn_tank.2.1 1 = .ok (.ifCond .lt 18, 3) := by decide +kernel
theorem k_fn_tank_4 : decode me_fn_tank.2.1 4 = .ok (.iload_n 2, 1) := by decide +kernel
theorem k_fn_tank_5 : decode me_fn_tank.2.1 5 = .ok (.iconst 1, 1) := by decide +kernel
theorem k_fn_tank_6 : decode me_fn_tank.2.1 6 = .ok (.if_icmp .lt 13, 3) := by decide +kernel
theorem k_fn_tank_9 : decode me_fn_tank.2.1 9 = .ok (.iload_n 3, 1) := by decide +kernel
theorem k_fn_tank_10 : decode me_fn_tank.2.1 10 = .ok (.iconst 1, 1) := by decide +kernel
theorem k_fn_tank_11 : decode me_fn_tank.2.1 11 = .ok (.if_icmp .lt 8, 3) := by decide +kernel
theorem k_fn_tank_14 : decode me_fn_tank.2.1 14 = .ok (.iload 4, 2) := by decide +kernel
theorem k_fn_tank_16 : decode me_fn_tank.2.1 16 = .ok (.ifCond .ge 10, 3) := by decide +kernel
theorem k_fn_tank_19 : decode me_fn_tank.2.1 19 = .ok (.aload_n 0, 1) := by decide +kernel
theorem k_fn_tank_20 : decode me_fn_tank.2.1 20 = .ok (.bipush (-4), 2) := by decide +kernel
theorem k_fn_tank_22 : decode me_fn_tank.2.1 22 = .ok (.invokevirtual 56, 3) := by decide +kernel
theorem k_fn_tank_25 : decode me_fn_tank.2.1 25 = .ok (.ireturn, 1) := by decide +kernel
theorem k_fn_tank_26 : decode me_fn_tank.2.1 26 = .ok (.iload_n 1, 1) := by decide +kernel
theorem k_fn_tank_27 : decode me_fn_tank.2.1 27 = .ok (.sipush 500, 3) := by decide +kernel
theorem k_fn_tank_30 : decode me_fn_tank.2.1 30 = .ok (.if_icmp .gt 24, 3) := by decide +kernel
theorem k_fn_tank_33 : decode me_fn_tank.2.1 33 = .ok (.iload_n 2, 1) := by decide +kernel
theorem k_fn_tank_34 : decode me_fn_tank.2.1 34 = .ok (.sipush 1000, 3) := by decide +kernel
theorem k_fn_tank_37 : decode me_fn_tank.2.1 37 = .ok (.if_icmp .gt 17, 3) := by decide +kernel
theorem k_fn_tank_40 : decode me_fn_tank.2.1 40 = .ok (.iload_n 3, 1) := by decide +kernel
theorem k_fn_tank_41 : decode me_fn_tank.2.1 41 = .ok (.bipush 60, 2) := by decide +kernel
theorem k_fn_tank_43 : decode me_fn_tank.2.1 43 = .ok (.if_icmp .gt 11, 3) := by decide +kernel
theorem k_fn_tank_46 : decode me_fn_tank.2.1 46 = .ok (.iload 4, 2) := by decide +kernel
theorem k_fn_tank_48 : decode me_fn_tank.2.1 48 = .ok (.sipush 500, 3) := by decide +kernel
theorem k_fn_tank_51 : decode me_fn_tank.2.1 51 = .ok (.if_icmp .le 10, 3) := by decide +kernel
theorem k_fn_tank_54 : decode me_fn_tank.2.1 54 = .ok (.aload_n 0, 1) := by decide +kernel
theorem k_fn_tank_55 : decode me_fn_tank.2.1 55 = .ok (.bipush (-6), 2) := by decide +kernel
theorem k_fn_tank_57 : decode me_fn_tank.2.1 57 = .ok (.invokevirtual 56, 3) := by decide +kernel
theorem k_fn_tank_60 : decode me_fn_tank.2.1 60 = .ok (.ireturn, 1) := by decide +kernel
theorem k_fn_tank_61 : decode me_fn_tank.2.1 61 = .ok (.aload_n 0, 1) := by decide +kernel
theorem k_fn_tank_62 : decode me_fn_tank.2.1 62 = .ok (.getfield 12, 3) := by decide +kernel
theorem k_fn_tank_65 : decode me_fn_tank.2.1 65 = .ok (.getfield 60, 3) := by decide +kernel
theorem k_fn_tank_68 : decode me_fn_tank.2.1 68 = .ok (.invokevirtual 63, 3) := by decide +kernel
theorem k_fn_tank_71 : decode me_fn_tank.2.1 71 = .ok (.istore 5, 2) := by decide +kernel
theorem k_fn_tank_73 : decode me_fn_tank.2.1 73 = .ok (.iload 5, 2) := by decide +kernel
theorem k_fn_tank_75 : decode me_fn_tank.2.1 75 = .ok (.iconst 4, 1) := by decide +kernel
theorem k_fn_tank_76 : decode me_fn_tank.2.1 76 = .ok (.if_icmp .lt 10, 3) := by decide +kernel
theorem k_fn_tank_79 : decode me_fn_tank.2.1 79 = .ok (.aload_n 0, 1) := by decide +kernel
theorem k_fn_tank_80 : decode me_fn_tank.2.1 80 = .ok (.bipush (-6), 2) := by decide +kernel
theorem k_fn_tank_82 : decode me_fn_tank.2.1 82 = .ok (.invokevirtual 56, 3) := by decide +kernel
theorem k_fn_tank_85 : decode me_fn_tank.2.1 85 = .ok (.ireturn, 1) := by decide +kernel
theorem k_fn_tank_86 : decode me_fn_tank.2.1 86 = .ok (.aload_n 0, 1) := by decide +kernel
theorem k_fn_tank_87 : decode me_fn_tank.2.1 87 = .ok (.getfield 12, 3) := by decide +kernel
theorem k_fn_tank_90 : decode me_fn_tank.2.1 90 = .ok (.getfield 60, 3) := by decide +kernel
theorem k_fn_tank_93 : decode me_fn_tank.2.1 93 = .ok (.new 67, 3) := by decide +kernel
theorem k_fn_tank_96 : decode me_fn_tank.2.1 96 = .ok (.dup, 1) := by decide +kernel
theorem k_fn_tank_97 : decode me_fn_tank.2.1 97 = .ok (.iload 5, 2) := by decide +kernel
theorem k_fn_tank_99 : decode me_fn_tank.2.1 99 = .ok (.iload_n 1, 1) := by decide +kernel
theorem k_fn_tank_100 : decode me_fn_tank.2.1 100 = .ok (.iload_n 2, 1) := by decide +kernel
theorem k_fn_tank_101 : decode me_fn_tank.2.1 101 = .ok (.iload_n 3, 1) := by decide +kernel
theorem k_fn_tank_102 : decode me_fn_tank.2.1 102 = .ok (.iload 4, 2) := by decide +kernel
theorem k_fn_tank_104 : decode me_fn_tank.2.1 104 = .ok (.invokespecial 69, 3) := by decide +kernel
theorem k_fn_tank_107 : decode me_fn_tank.2.1 107 = .ok (.invokevirtual 72, 3) := by decide +kernel
theorem k_fn_tank_110 : decode me_fn_tank.2.1 110 = .ok (.pop, 1) := by decide +kernel
theorem k_fn_tank_111 : decode me_fn_tank.2.1 111 = .ok (.iload 5, 2) := by decide +kernel
theorem k_fn_tank_113 : decode me_fn_tank.2.1 113 = .ok (.ireturn, 1) := by decide +kernel
theorem k_fn_refuse_0 : decode me_fn_refuse.2.1 0 = .ok (.iload_n 1, 1) := by decide +kernel
theorem k_fn_refuse_1 : decode me_fn_refuse.2.1 1 = .ok (.ineg, 1) := by decide +kernel
theorem k_fn_refuse_2 : decode me_fn_refuse.2.1 2 = .ok (.istore_n 2, 1) := by decide +kernel
theorem k_fn_refuse_3 : decode me_fn_refuse.2.1 3 = .ok (.iload_n 2, 1) := by decide +kernel
theorem k_fn_refuse_4 : decode me_fn_refuse.2.1 4 = .ok (.ifCond .lt 22, 3) := by decide +kernel
theorem k_fn_refuse_7 : decode me_fn_refuse.2.1 7 = .ok (.iload_n 2, 1) := by decide +kernel
theorem k_fn_refuse_8 : decode me_fn_refuse.2.1 8 = .ok (.aload_n 0, 1) := by decide +kernel
theorem k_fn_refuse_9 : decode me_fn_refuse.2.1 9 = .ok (.getfield 48, 3) := by decide +kernel
theorem k_fn_refuse_12 : decode me_fn_refuse.2.1 12 = .ok (.arraylength, 1) := by decide +kernel
theorem k_fn_refuse_13 : decode me_fn_refuse.2.1 13 = .ok (.if_icmp .ge 13, 3) := by decide +kernel
theorem k_fn_refuse_16 : decode me_fn_refuse.2.1 16 = .ok (.aload_n 0, 1) := by decide +kernel
theorem k_fn_refuse_17 : decode me_fn_refuse.2.1 17 = .ok (.getfield 48, 3) := by decide +kernel
theorem k_fn_refuse_20 : decode me_fn_refuse.2.1 20 = .ok (.iload_n 2, 1) := by decide +kernel
theorem k_fn_refuse_21 : decode me_fn_refuse.2.1 21 = .ok (.dup2, 1) := by decide +kernel
theorem k_fn_refuse_22 : decode me_fn_refuse.2.1 22 = .ok (.iaload, 1) := by decide +kernel
theorem k_fn_refuse_23 : decode me_fn_refuse.2.1 23 = .ok (.iconst 1, 1) := by decide +kernel
theorem k_fn_refuse_24 : decode me_fn_refuse.2.1 24 = .ok (.iadd, 1) := by decide +kernel
theorem k_fn_refuse_25 : decode me_fn_refuse.2.1 25 = .ok (.iastore, 1) := by decide +kernel
theorem k_fn_refuse_26 : decode me_fn_refuse.2.1 26 = .ok (.iload_n 1, 1) := by decide +kernel
theorem k_fn_refuse_27 : decode me_fn_refuse.2.1 27 = .ok (.ireturn, 1) := by decide +kernel
theorem k_al_size_0 : decode me_al_size.2.1 0 = .ok (.aload_n 0, 1) := by decide +kernel
theorem k_al_size_1 : decode me_al_size.2.1 1 = .ok (.getfield 48, 3) := by decide +kernel
theorem k_al_size_4 : decode me_al_size.2.1 4 = .ok (.ireturn, 1) := by decide +kernel
theorem k_tk_init_0 : decode me_tk_init.2.1 0 = .ok (.aload_n 0, 1) := by decide +kernel
theorem k_tk_init_1 : decode me_tk_init.2.1 1 = .ok (.invokespecial 1, 3) := by decide +kernel
theorem k_tk_init_4 : decode me_tk_init.2.1 4 = .ok (.aload_n 0, 1) := by decide +kernel
theorem k_tk_init_5 : decode me_tk_init.2.1 5 = .ok (.iload_n 1, 1) := by decide +kernel
theorem k_tk_init_6 : decode me_tk_init.2.1 6 = .ok (.putfield 7, 3) := by decide +kernel
theorem k_tk_init_9 : decode me_tk_init.2.1 9 = .ok (.aload_n 0, 1) := by decide +kernel
theorem k_tk_init_10 : decode me_tk_init.2.1 10 = .ok (.iload_n 2, 1) := by decide +kernel
theorem k_tk_init_11 : decode me_tk_init.2.1 11 = .ok (.putfield 13, 3) := by decide +kernel
theorem k_tk_init_14 : decode me_tk_init.2.1 14 = .ok (.aload_n 0, 1) := by decide +kernel
theorem k_tk_init_15 : decode me_tk_init.2.1 15 = .ok (.iload_n 3, 1) := by decide +kernel
theorem k_tk_init_16 : decode me_tk_init.2.1 16 = .ok (.putfield 16, 3) := by decide +kernel
theorem k_tk_init_19 : decode me_tk_init.2.1 19 = .ok (.aload_n 0, 1) := by decide +kernel
theorem k_tk_init_20 : decode me_tk_init.2.1 20 = .ok (.iload 4, 2) := by decide +kernel
theorem k_tk_init_22 : decode me_tk_init.2.1 22 = .ok (.putfield 19, 3) := by decide +kernel
theorem k_tk_init_25 : decode me_tk_init.2.1 25 = .ok (.aload_n 0, 1) := by decide +kernel
theorem k_tk_init_26 : decode me_tk_init.2.1 26 = .ok (.iload 5, 2) := by decide +kernel
theorem k_tk_init_28 : decode me_tk_init.2.1 28 = .ok (.putfield 22, 3) := by decide +kernel
theorem k_tk_init_31 : decode me_tk_init.2.1 31 = .ok (.aload_n 0, 1) := by decide +kernel
theorem k_tk_init_32 : decode me_tk_init.2.1 32 = .ok (.iload_n 3, 1) := by decide +kernel
theorem k_tk_init_33 : decode me_tk_init.2.1 33 = .ok (.iload 4, 2) := by decide +kernel
theorem k_tk_init_35 : decode me_tk_init.2.1 35 = .ok (.imul, 1) := by decide +kernel
theorem k_tk_init_36 : decode me_tk_init.2.1 36 = .ok (.putfield 25, 3) := by decide +kernel
theorem k_tk_init_39 : decode me_tk_init.2.1 39 = .ok (.return_, 1) := by decide +kernel
theorem k_al_add_0 : decode me_al_add.2.1 0 = .ok (.aload_n 0, 1) := by decide +kernel
theorem k_al_add_1 : decode me_al_add.2.1 1 = .ok (.dup, 1) := by decide +kernel
theorem k_al_add_2 : decode me_al_add.2.1 2 = .ok (.getfield 63, 3) := by decide +kernel
theorem k_al_add_5 : decode me_al_add.2.1 5 = .ok (.iconst 1, 1) := by decide +kernel
theorem k_al_add_6 : decode me_al_add.2.1 6 = .ok (.iadd, 1) := by decide +kernel
theorem k_al_add_7 : decode me_al_add.2.1 7 = .ok (.putfield 63, 3) := by decide +kernel
theorem k_al_add_10 : decode me_al_add.2.1 10 = .ok (.aload_n 0, 1) := by decide +kernel
theorem k_al_add_11 : decode me_al_add.2.1 11 = .ok (.aload_n 1, 1) := by decide +kernel
theorem k_al_add_12 : decode me_al_add.2.1 12 = .ok (.aload_n 0, 1) := by decide +kernel
theorem k_al_add_13 : decode me_al_add.2.1 13 = .ok (.getfield 9, 3) := by decide +kernel
theorem k_al_add_16 : decode me_al_add.2.1 16 = .ok (.aload_n 0, 1) := by decide +kernel
theorem k_al_add_17 : decode me_al_add.2.1 17 = .ok (.getfield 48, 3) := by decide +kernel
theorem k_al_add_20 : decode me_al_add.2.1 20 = .ok (.invokevirtual 131, 3) := by decide +kernel
theorem k_al_add_23 : decode me_al_add.2.1 23 = .ok (.iconst 1, 1) := by decide +kernel
theorem k_al_add_24 : decode me_al_add.2.1 24 = .ok (.ireturn, 1) := by decide +kernel
theorem k_al_add2_0 : decode me_al_add2.2.1 0 = .ok (.iload_n 3, 1) := by decide +kernel
theorem k_al_add2_1 : decode me_al_add2.2.1 1 = .ok (.aload_n 2, 1) := by decide +kernel
theorem k_al_add2_2 : decode me_al_add2.2.1 2 = .ok (.arraylength, 1) := by decide +kernel
theorem k_al_add2_3 : decode me_al_add2.2.1 3 = .ok (.if_icmp .ne 8, 3) := by decide +kernel
theorem k_al_add2_6 : decode me_al_add2.2.1 6 = .ok (.aload_n 0, 1) := by decide +kernel
theorem k_al_add2_7 : decode me_al_add2.2.1 7 = .ok (.invokevirtual 129, 3) := by decide +kernel
theorem k_al_add2_10 : decode me_al_add2.2.1 10 = .ok (.astore_n 2, 1) := by decide +kernel
theorem k_al_add2_11 : decode me_al_add2.2.1 11 = .ok (.aload_n 2, 1) := by decide +kernel
theorem k_al_add2_12 : decode me_al_add2.2.1 12 = .ok (.iload_n 3, 1) := by decide +kernel
theorem k_al_add2_13 : decode me_al_add2.2.1 13 = .ok (.aload_n 1, 1) := by decide +kernel
theorem k_al_add2_14 : decode me_al_add2.2.1 14 = .ok (.aastore, 1) := by decide +kernel
theorem k_al_add2_15 : decode me_al_add2.2.1 15 = .ok (.aload_n 0, 1) := by decide +kernel
theorem k_al_add2_16 : decode me_al_add2.2.1 16 = .ok (.iload_n 3, 1) := by decide +kernel
theorem k_al_add2_17 : decode me_al_add2.2.1 17 = .ok (.iconst 1, 1) := by decide +kernel
theorem k_al_add2_18 : decode me_al_add2.2.1 18 = .ok (.iadd, 1) := by decide +kernel
theorem k_al_add2_19 : decode me_al_add2.2.1 19 = .ok (.putfield 48, 3) := by decide +kernel
theorem k_al_add2_22 : decode me_al_add2.2.1 22 = .ok (.return_, 1) := by decide +kernel
theorem k_al_grow_0 : decode me_al_grow.2.1 0 = .ok (.aload_n 0, 1) := by decide +kernel
theorem k_al_grow_1 : decode me_al_grow.2.1 1 = .ok (.aload_n 0, 1) := by decide +kernel
theorem k_al_grow_2 : decode me_al_grow.2.1 2 = .ok (.getfield 48, 3) := by decide +kernel
theorem k_al_grow_5 : decode me_al_grow.2.1 5 = .ok (.iconst 1, 1) := by decide +kernel
theorem k_al_grow_6 : decode me_al_grow.2.1 6 = .ok (.iadd, 1) := by decide +kernel
theorem k_al_grow_7 : decode me_al_grow.2.1 7 = .ok (.invokevirtual 69, 3) := by decide +kernel
theorem k_al_grow_10 : decode me_al_grow.2.1 10 = .ok (.areturn, 1) := by decide +kernel
theorem k_al_grow2_0 : decode me_al_grow2.2.1 0 = .ok (.aload_n 0, 1) := by decide +kernel
theorem k_al_grow2_1 : decode me_al_grow2.2.1 1 = .ok (.getfield 9, 3) := by decide +kernel
theorem k_al_grow2_4 : decode me_al_grow2.2.1 4 = .ok (.arraylength, 1) := by decide +kernel
theorem k_al_grow2_5 : decode me_al_grow2.2.1 5 = .ok (.istore_n 2, 1) := by decide +kernel
theorem k_al_grow2_6 : decode me_al_grow2.2.1 6 = .ok (.iload_n 2, 1) := by decide +kernel
theorem k_al_grow2_7 : decode me_al_grow2.2.1 7 = .ok (.ifCond .gt 13, 3) := by decide +kernel
theorem k_al_grow2_10 : decode me_al_grow2.2.1 10 = .ok (.aload_n 0, 1) := by decide +kernel
theorem k_al_grow2_11 : decode me_al_grow2.2.1 11 = .ok (.getfield 9, 3) := by decide +kernel
theorem k_al_grow2_14 : decode me_al_grow2.2.1 14 = .ok (.getstatic 39, 3) := by decide +kernel
theorem k_al_grow2_17 : decode me_al_grow2.2.1 17 = .ok (.if_acmp .eq 28, 3) := by decide +kernel
theorem k_al_grow2_20 : decode me_al_grow2.2.1 20 = .ok (.iload_n 2, 1) := by decide +kernel
theorem k_al_grow2_21 : decode me_al_grow2.2.1 21 = .ok (.iload_n 1, 1) := by decide +kernel
theorem k_al_grow2_22 : decode me_al_grow2.2.1 22 = .ok (.iload_n 2, 1) := by decide +kernel
theorem k_al_grow2_23 : decode me_al_grow2.2.1 23 = .ok (.isub, 1) := by decide +kernel
theorem k_al_grow2_24 : decode me_al_grow2.2.1 24 = .ok (.iload_n 2, 1) := by decide +kernel
theorem k_al_grow2_25 : decode me_al_grow2.2.1 25 = .ok (.iconst 1, 1) := by decide +kernel
theorem k_al_grow2_26 : decode me_al_grow2.2.1 26 = .ok (.ishr, 1) := by decide +kernel
theorem k_al_grow2_27 : decode me_al_grow2.2.1 27 = .ok (.invokestatic 73, 3) := by decide +kernel
theorem k_al_grow2_30 : decode me_al_grow2.2.1 30 = .ok (.istore_n 3, 1) := by decide +kernel
theorem k_al_grow2_31 : decode me_al_grow2.2.1 31 = .ok (.aload_n 0, 1) := by decide +kernel
theorem k_al_grow2_32 : decode me_al_grow2.2.1 32 = .ok (.aload_n 0, 1) := by decide +kernel
theorem k_al_grow2_33 : decode me_al_grow2.2.1 33 = .ok (.getfield 9, 3) := by decide +kernel
theorem k_al_grow2_36 : decode me_al_grow2.2.1 36 = .ok (.iload_n 3, 1) := by decide +kernel
theorem k_al_grow2_37 : decode me_al_grow2.2.1 37 = .ok (.invokestatic 66, 3) := by decide +kernel
theorem k_al_grow2_40 : decode me_al_grow2.2.1 40 = .ok (.dup_x1, 1) := by decide +kernel
theorem k_al_grow2_41 : decode me_al_grow2.2.1 41 = .ok (.putfield 9, 3) := by decide +kernel
theorem k_al_grow2_44 : decode me_al_grow2.2.1 44 = .ok (.areturn, 1) := by decide +kernel
theorem k_al_grow2_45 : decode me_al_grow2.2.1 45 = .ok (.aload_n 0, 1) := by decide +kernel
theorem k_al_grow2_46 : decode me_al_grow2.2.1 46 = .ok (.bipush 10, 2) := by decide +kernel
theorem k_al_grow2_48 : decode me_al_grow2.2.1 48 = .ok (.iload_n 1, 1) := by decide +kernel
theorem k_al_grow2_49 : decode me_al_grow2.2.1 49 = .ok (.invokestatic 79, 3) := by decide +kernel
theorem k_al_grow2_52 : decode me_al_grow2.2.1 52 = .ok (.anewarray 7, 3) := by decide +kernel
theorem k_al_grow2_55 : decode me_al_grow2.2.1 55 = .ok (.dup_x1, 1) := by decide +kernel
theorem k_al_grow2_56 : decode me_al_grow2.2.1 56 = .ok (.putfield 9, 3) := by decide +kernel
theorem k_al_grow2_59 : decode me_al_grow2.2.1 59 = .ok (.areturn, 1) := by decide +kernel
theorem k_as_newLength_0 : decode me_as_newLength.2.1 0 = .ok (.iload_n 0, 1) := by decide +kernel
theorem k_as_newLength_1 : decode me_as_newLength.2.1 1 = .ok (.iload_n 1, 1) := by decide +kernel
theorem k_as_newLength_2 : decode me_as_newLength.2.1 2 = .ok (.iload_n 2, 1) := by decide +kernel
theorem k_as_newLength_3 : decode me_as_newLength.2.1 3 = .ok (.invokestatic 194, 3) := by decide +kernel
theorem k_as_newLength_6 : decode me_as_newLength.2.1 6 = .ok (.iadd, 1) := by decide +kernel
theorem k_as_newLength_7 : decode me_as_newLength.2.1 7 = .ok (.istore_n 3, 1) := by decide +kernel
theorem k_as_newLength_8 : decode me_as_newLength.2.1 8 = .ok (.iconst 0, 1) := by decide +kernel
theorem k_as_newLength_9 : decode me_as_newLength.2.1 9 = .ok (.iload_n 3, 1) := by decide +kernel
theorem k_as_newLength_10 : decode me_as_newLength.2.1 10 = .ok (.if_icmp .ge 11, 3) := by decide +kernel
theorem k_as_newLength_13 : decode me_as_newLength.2.1 13 = .ok (.iload_n 3, 1) := by decide +kernel
theorem k_as_newLength_14 : decode me_as_newLength.2.1 14 = .ok (.ldc 200, 2) := by decide +kernel
theorem k_as_newLength_16 : decode me_as_newLength.2.1 16 = .ok (.if_icmp .gt 5, 3) := by decide +kernel
theorem k_as_newLength_19 : decode me_as_newLength.2.1 19 = .ok (.iload_n 3, 1) := by decide +kernel
theorem k_as_newLength_20 : decode me_as_newLength.2.1 20 = .ok (.ireturn, 1) := by decide +kernel
theorem k_as_newLength_21 : decode me_as_newLength.2.1 21 = .ok (.iload_n 0, 1) := by decide +kernel
theorem k_as_newLength_22 : decode me_as_newLength.2.1 22 = .ok (.iload_n 1, 1) := by decide +kernel
theorem k_as_newLength_23 : decode me_as_newLength.2.1 23 = .ok (.invokestatic 201, 3) := by decide +kernel
theorem k_as_newLength_26 : decode me_as_newLength.2.1 26 = .ok (.ireturn, 1) := by decide +kernel
theorem k_ar_copyOf_0 : decode me_ar_copyOf.2.1 0 = .ok (.aload_n 0, 1) := by decide +kernel
theorem k_ar_copyOf_1 : decode me_ar_copyOf.2.1 1 = .ok (.iload_n 1, 1) := by decide +kernel
theorem k_ar_copyOf_2 : decode me_ar_copyOf.2.1 2 = .ok (.aload_n 0, 1) := by decide +kernel
theorem k_ar_copyOf_3 : decode me_ar_copyOf.2.1 3 = .ok (.invokevirtual 86, 3) := by decide +kernel
theorem k_ar_copyOf_6 : decode me_ar_copyOf.2.1 6 = .ok (.invokestatic 300, 3) := by decide +kernel
theorem k_ar_copyOf_9 : decode me_ar_copyOf.2.1 9 = .ok (.areturn, 1) := by decide +kernel
theorem k_ar_copyOf2_0 : decode me_ar_copyOf2.2.1 0 = .ok (.aload_n 2, 1) := by decide +kernel
theorem k_ar_copyOf2_1 : decode me_ar_copyOf2.2.1 1 = .ok (.ldc 110, 2) := by decide +kernel
theorem k_ar_copyOf2_3 : decode me_ar_copyOf2.2.1 3 = .ok (.if_acmp .ne 10, 3) := by decide +kernel
theorem k_ar_copyOf2_6 : decode me_ar_copyOf2.2.1 6 = .ok (.iload_n 1, 1) := by decide +kernel
theorem k_ar_copyOf2_7 : decode me_ar_copyOf2.2.1 7 = .ok (.anewarray 2, 3) := by decide +kernel
theorem k_ar_copyOf2_10 : decode me_ar_copyOf2.2.1 10 = .ok (.goto 14, 3) := by decide +kernel
theorem k_ar_copyOf2_13 : decode me_ar_copyOf2.2.1 13 = .ok (.aload_n 2, 1) := by decide +kernel
theorem k_ar_copyOf2_14 : decode me_ar_copyOf2.2.1 14 = .ok (.invokevirtual 90, 3) := by decide +kernel
theorem k_ar_copyOf2_17 : decode me_ar_copyOf2.2.1 17 = .ok (.iload_n 1, 1) := by decide +kernel
theorem k_ar_copyOf2_18 : decode me_ar_copyOf2.2.1 18 = .ok (.invokestatic 95, 3) := by decide +kernel
theorem k_ar_copyOf2_21 : decode me_ar_copyOf2.2.1 21 = .ok (.checkcast 110, 3) := by decide +kernel
theorem k_ar_copyOf2_24 : decode me_ar_copyOf2.2.1 24 = .ok (.astore_n 3, 1) := by decide +kernel
theorem k_ar_copyOf2_25 : decode me_ar_copyOf2.2.1 25 = .ok (.aload_n 0, 1) := by decide +kernel
theorem k_ar_copyOf2_26 : decode me_ar_copyOf2.2.1 26 = .ok (.iconst 0, 1) := by decide +kernel
theorem k_ar_copyOf2_27 : decode me_ar_copyOf2.2.1 27 = .ok (.aload_n 3, 1) := by decide +kernel
theorem k_ar_copyOf2_28 : decode me_ar_copyOf2.2.1 28 = .ok (.iconst 0, 1) := by decide +kernel
theorem k_ar_copyOf2_29 : decode me_ar_copyOf2.2.1 29 = .ok (.aload_n 0, 1) := by decide +kernel
theorem k_ar_copyOf2_30 : decode me_ar_copyOf2.2.1 30 = .ok (.arraylength, 1) := by decide +kernel
theorem k_ar_copyOf2_31 : decode me_ar_copyOf2.2.1 31 = .ok (.iload_n 1, 1) := by decide +kernel
theorem k_ar_copyOf2_32 : decode me_ar_copyOf2.2.1 32 = .ok (.invokestatic 304, 3) := by decide +kernel
theorem k_ar_copyOf2_35 : decode me_ar_copyOf2.2.1 35 = .ok (.invokestatic 150, 3) := by decide +kernel
theorem k_ar_copyOf2_38 : decode me_ar_copyOf2.2.1 38 = .ok (.aload_n 3, 1) := by decide +kernel
theorem k_ar_copyOf2_39 : decode me_ar_copyOf2.2.1 39 = .ok (.areturn, 1) := by decide +kernel
theorem k_fn_set_0 : decode me_fn_set.2.1 0 = .ok (.aload_n 0, 1) := by decide +kernel
theorem k_fn_set_1 : decode me_fn_set.2.1 1 = .ok (.getfield 12, 3) := by decide +kernel
theorem k_fn_set_4 : decode me_fn_set.2.1 4 = .ok (.iload_n 1, 1) := by decide +kernel
theorem k_fn_set_5 : decode me_fn_set.2.1 5 = .ok (.invokevirtual 76, 3) := by decide +kernel
theorem k_fn_set_8 : decode me_fn_set.2.1 8 = .ok (.astore 4, 2) := by decide +kernel
theorem k_fn_set_10 : decode me_fn_set.2.1 10 = .ok (.aload 4, 2) := by decide +kernel
theorem k_fn_set_12 : decode me_fn_set.2.1 12 = .ok (.ifnonnull 9, 3) := by decide +kernel
theorem k_fn_set_15 : decode me_fn_set.2.1 15 = .ok (.aload_n 0, 1) := by decide +kernel
theorem k_fn_set_16 : decode me_fn_set.2.1 16 = .ok (.iconst (-1), 1) := by decide +kernel
theorem k_fn_set_17 : decode me_fn_set.2.1 17 = .ok (.invokevirtual 56, 3) := by decide +kernel
theorem k_fn_set_20 : decode me_fn_set.2.1 20 = .ok (.ireturn, 1) := by decide +kernel
theorem k_fn_set_21 : decode me_fn_set.2.1 21 = .ok (.iload_n 2, 1) := by decide +kernel
theorem k_fn_set_22 : decode me_fn_set.2.1 22 = .ok (.ifCond .lt 8, 3) := by decide +kernel
theorem k_fn_set_25 : decode me_fn_set.2.1 25 = .ok (.iload_n 2, 1) := by decide +kernel
theorem k_fn_set_26 : decode me_fn_set.2.1 26 = .ok (.iconst 1, 1) := by decide +kernel
theorem k_fn_set_27 : decode me_fn_set.2.1 27 = .ok (.if_icmp .le 10, 3) := by decide +kernel
theorem k_fn_set_30 : decode me_fn_set.2.1 30 = .ok (.aload_n 0, 1) := by decide +kernel
theorem k_fn_set_31 : decode me_fn_set.2.1 31 = .ok (.bipush (-2), 2) := by decide +kernel
theorem k_fn_set_33 : decode me_fn_set.2.1 33 = .ok (.invokevirtual 56, 3) := by decide +kernel
theorem k_fn_set_36 : decode me_fn_set.2.1 36 = .ok (.ireturn, 1) := by decide +kernel
theorem k_fn_set_37 : decode me_fn_set.2.1 37 = .ok (.iload_n 3, 1) := by decide +kernel
theorem k_fn_set_38 : decode me_fn_set.2.1 38 = .ok (.ifCond .ge 10, 3) := by decide +kernel
theorem k_fn_set_41 : decode me_fn_set.2.1 41 = .ok (.aload_n 0, 1) := by decide +kernel
theorem k_fn_set_42 : decode me_fn_set.2.1 42 = .ok (.bipush (-4), 2) := by decide +kernel
theorem k_fn_set_44 : decode me_fn_set.2.1 44 = .ok (.invokevirtual 56, 3) := by decide +kernel
theorem k_fn_set_47 : decode me_fn_set.2.1 47 = .ok (.ireturn, 1) := by decide +kernel
theorem k_fn_set_48 : decode me_fn_set.2.1 48 = .ok (.iload_n 3, 1) := by decide +kernel
theorem k_fn_set_49 : decode me_fn_set.2.1 49 = .ok (.iload_n 2, 1) := by decide +kernel
theorem k_fn_set_50 : decode me_fn_set.2.1 50 = .ok (.ifCond .ne 9, 3) := by decide +kernel
theorem k_fn_set_53 : decode me_fn_set.2.1 53 = .ok (.sipush 500, 3) := by decide +kernel
theorem k_fn_set_56 : decode me_fn_set.2.1 56 = .ok (.goto 8, 3) := by decide +kernel
theorem k_fn_set_59 : decode me_fn_set.2.1 59 = .ok (.aload 4, 2) := by decide +kernel
theorem k_fn_set_61 : decode me_fn_set.2.1 61 = .ok (.invokevirtual 80, 3) := by decide +kernel
theorem k_fn_set_64 : decode me_fn_set.2.1 64 = .ok (.if_icmp .le 10, 3) := by decide +kernel
theorem k_fn_set_67 : decode me_fn_set.2.1 67 = .ok (.aload_n 0, 1) := by decide +kernel
theorem k_fn_set_68 : decode me_fn_set.2.1 68 = .ok (.bipush (-6), 2) := by decide +kernel
theorem k_fn_set_70 : decode me_fn_set.2.1 70 = .ok (.invokevirtual 56, 3) := by decide +kernel
theorem k_fn_set_73 : decode me_fn_set.2.1 73 = .ok (.ireturn, 1) := by decide +kernel
theorem k_fn_set_74 : decode me_fn_set.2.1 74 = .ok (.iload_n 2, 1) := by decide +kernel
theorem k_fn_set_75 : decode me_fn_set.2.1 75 = .ok (.ifCond .ne 12, 3) := by decide +kernel
theorem k_fn_set_78 : decode me_fn_set.2.1 78 = .ok (.aload 4, 2) := by decide +kernel
theorem k_fn_set_80 : decode me_fn_set.2.1 80 = .ok (.iload_n 3, 1) := by decide +kernel
theorem k_fn_set_81 : decode me_fn_set.2.1 81 = .ok (.invokevirtual 83, 3) := by decide +kernel
theorem k_fn_set_84 : decode me_fn_set.2.1 84 = .ok (.goto 9, 3) := by decide +kernel
theorem k_fn_set_87 : decode me_fn_set.2.1 87 = .ok (.aload 4, 2) := by decide +kernel
theorem k_fn_set_89 : decode me_fn_set.2.1 89 = .ok (.iload_n 3, 1) := by decide +kernel
theorem k_fn_set_90 : decode me_fn_set.2.1 90 = .ok (.invokevirtual 86, 3) := by decide +kernel
theorem k_fn_set_93 : decode me_fn_set.2.1 93 = .ok (.ireturn, 1) := by decide +kernel
theorem k_ga_tankAt_0 : decode me_ga_tankAt.2.1 0 = .ok (.iload_n 1, 1) := by decide +kernel
theorem k_ga_tankAt_1 : decode me_ga_tankAt.2.1 1 = .ok (.ifCond .lt 28, 3) := by decide +kernel
theorem k_ga_tankAt_4 : decode me_ga_tankAt.2.1 4 = .ok (.iload_n 1, 1) := by decide +kernel
theorem k_ga_tankAt_5 : decode me_ga_tankAt.2.1 5 = .ok (.aload_n 0, 1) := by decide +kernel
theorem k_ga_tankAt_6 : decode me_ga_tankAt.2.1 6 = .ok (.getfield 12, 3) := by decide +kernel
theorem k_ga_tankAt_9 : decode me_ga_tankAt.2.1 9 = .ok (.invokevirtual 24, 3) := by decide +kernel
theorem k_ga_tankAt_12 : decode me_ga_tankAt.2.1 12 = .ok (.if_icmp .ge 17, 3) := by decide +kernel
theorem k_ga_tankAt_15 : decode me_ga_tankAt.2.1 15 = .ok (.aload_n 0, 1) := by decide +kernel
theorem k_ga_tankAt_16 : decode me_ga_tankAt.2.1 16 = .ok (.getfield 12, 3) := by decide +kernel
theorem k_ga_tankAt_19 : decode me_ga_tankAt.2.1 19 = .ok (.iload_n 1, 1) := by decide +kernel
theorem k_ga_tankAt_20 : decode me_ga_tankAt.2.1 20 = .ok (.invokevirtual 28, 3) := by decide +kernel
theorem k_ga_tankAt_23 : decode me_ga_tankAt.2.1 23 = .ok (.checkcast 32, 3) := by decide +kernel
theorem k_ga_tankAt_26 : decode me_ga_tankAt.2.1 26 = .ok (.goto 4, 3) := by decide +kernel
theorem k_ga_tankAt_29 : decode me_ga_tankAt.2.1 29 = .ok (.aconst_null, 1) := by decide +kernel
theorem k_ga_tankAt_30 : decode me_ga_tankAt.2.1 30 = .ok (.areturn, 1) := by decide +kernel
theorem k_al_get_0 : decode me_al_get.2.1 0 = .ok (.iload_n 1, 1) := by decide +kernel
theorem k_al_get_1 : decode me_al_get.2.1 1 = .ok (.aload_n 0, 1) := by decide +kernel
theorem k_al_get_2 : decode me_al_get.2.1 2 = .ok (.getfield 48, 3) := by decide +kernel
theorem k_al_get_5 : decode me_al_get.2.1 5 = .ok (.invokestatic 118, 3) := by decide +kernel
theorem k_al_get_8 : decode me_al_get.2.1 8 = .ok (.pop, 1) := by decide +kernel
theorem k_al_get_9 : decode me_al_get.2.1 9 = .ok (.aload_n 0, 1) := by decide +kernel
theorem k_al_get_10 : decode me_al_get.2.1 10 = .ok (.iload_n 1, 1) := by decide +kernel
theorem k_al_get_11 : decode me_al_get.2.1 11 = .ok (.invokevirtual 123, 3) := by decide +kernel
theorem k_al_get_14 : decode me_al_get.2.1 14 = .ok (.areturn, 1) := by decide +kernel
theorem k_os_checkIndex_0 : decode me_os_checkIndex.2.1 0 = .ok (.iload_n 0, 1) := by decide +kernel
theorem k_os_checkIndex_1 : decode me_os_checkIndex.2.1 1 = .ok (.iload_n 1, 1) := by decide +kernel
theorem k_os_checkIndex_2 : decode me_os_checkIndex.2.1 2 = .ok (.aconst_null, 1) := by decide +kernel
theorem k_os_checkIndex_3 : decode me_os_checkIndex.2.1 3 = .ok (.invokestatic 105, 3) := by decide +kernel
theorem k_os_checkIndex_6 : decode me_os_checkIndex.2.1 6 = .ok (.ireturn, 1) := by decide +kernel
theorem k_pr_checkIndex_0 : decode me_pr_checkIndex.2.1 0 = .ok (.iload_n 0, 1) := by decide +kernel
theorem k_pr_checkIndex_1 : decode me_pr_checkIndex.2.1 1 = .ok (.ifCond .lt 8, 3) := by decide +kernel
theorem k_pr_checkIndex_4 : decode me_pr_checkIndex.2.1 4 = .ok (.iload_n 0, 1) := by decide +kernel
theorem k_pr_checkIndex_5 : decode me_pr_checkIndex.2.1 5 = .ok (.iload_n 1, 1) := by decide +kernel
theorem k_pr_checkIndex_6 : decode me_pr_checkIndex.2.1 6 = .ok (.if_icmp .lt 10, 3) := by decide +kernel
theorem k_pr_checkIndex_9 : decode me_pr_checkIndex.2.1 9 = .ok (.aload_n 2, 1) := by decide +kernel
theorem k_pr_checkIndex_10 : decode me_pr_checkIndex.2.1 10 = .ok (.iload_n 0, 1) := by decide +kernel
theorem k_pr_checkIndex_11 : decode me_pr_checkIndex.2.1 11 = .ok (.iload_n 1, 1) := by decide +kernel
theorem k_pr_checkIndex_12 : decode me_pr_checkIndex.2.1 12 = .ok (.invokestatic 95, 3) := by decide +kernel
theorem k_pr_checkIndex_16 : decode me_pr_checkIndex.2.1 16 = .ok (.iload_n 0, 1) := by decide +kernel
theorem k_pr_checkIndex_17 : decode me_pr_checkIndex.2.1 17 = .ok (.ireturn, 1) := by decide +kernel
theorem k_al_elementData_0 : decode me_al_elementData.2.1 0 = .ok (.aload_n 0, 1) := by decide +kernel
theorem k_al_elementData_1 : decode me_al_elementData.2.1 1 = .ok (.getfield 9, 3) := by decide +kernel
theorem k_al_elementData_4 : decode me_al_elementData.2.1 4 = .ok (.iload_n 1, 1) := by decide +kernel
theorem k_al_elementData_5 : decode me_al_elementData.2.1 5 = .ok (.aaload, 1) := by decide +kernel
theorem k_al_elementData_6 : decode me_al_elementData.2.1 6 = .ok (.areturn, 1) := by decide +kernel
theorem k_tk_capacity_0 : decode me_tk_capacity.2.1 0 = .ok (.aload_n 0, 1) := by decide +kernel
theorem k_tk_capacity_1 : decode me_tk_capacity.2.1 1 = .ok (.getfield 16, 3) := by decide +kernel
theorem k_tk_capacity_4 : decode me_tk_capacity.2.1 4 = .ok (.aload_n 0, 1) := by decide +kernel
theorem k_tk_capacity_5 : decode me_tk_capacity.2.1 5 = .ok (.getfield 19, 3) := by decide +kernel
theorem k_tk_capacity_8 : decode me_tk_capacity.2.1 8 = .ok (.imul, 1) := by decide +kernel
theorem k_tk_capacity_9 : decode me_tk_capacity.2.1 9 = .ok (.ireturn, 1) := by decide +kernel
theorem k_tk_changeSpring_0 : decode me_tk_changeSpring.2.1 0 = .ok (.aload_n 0, 1) := by decide +kernel
theorem k_tk_changeSpring_1 : decode me_tk_changeSpring.2.1 1 = .ok (.getfield 22, 3) := by decide +kernel
theorem k_tk_changeSpring_4 : decode me_tk_changeSpring.2.1 4 = .ok (.istore_n 2, 1) := by decide +kernel
theorem k_tk_changeSpring_5 : decode me_tk_changeSpring.2.1 5 = .ok (.aload_n 0, 1) := by decide +kernel
theorem k_tk_changeSpring_6 : decode me_tk_changeSpring.2.1 6 = .ok (.iload_n 1, 1) := by decide +kernel
theorem k_tk_changeSpring_7 : decode me_tk_changeSpring.2.1 7 = .ok (.putfield 22, 3) := by decide +kernel
theorem k_tk_changeSpring_10 : decode me_tk_changeSpring.2.1 10 = .ok (.iload_n 2, 1) := by decide +kernel
theorem k_tk_changeSpring_11 : decode me_tk_changeSpring.2.1 11 = .ok (.ireturn, 1) := by decide +kernel
theorem k_tk_changeWater_0 : decode me_tk_changeWater.2.1 0 = .ok (.aload_n 0, 1) := by decide +kernel
theorem k_tk_changeWater_1 : decode me_tk_changeWater.2.1 1 = .ok (.getfield 25, 3) := by decide +kernel
theorem k_tk_changeWater_4 : decode me_tk_changeWater.2.1 4 = .ok (.istore_n 2, 1) := by decide +kernel
theorem k_tk_changeWater_5 : decode me_tk_changeWater.2.1 5 = .ok (.aload_n 0, 1) := by decide +kernel
theorem k_tk_changeWater_6 : decode me_tk_changeWater.2.1 6 = .ok (.iload_n 1, 1) := by decide +kernel
theorem k_tk_changeWater_7 : decode me_tk_changeWater.2.1 7 = .ok (.putfield 25, 3) := by decide +kernel
theorem k_tk_changeWater_10 : decode me_tk_changeWater.2.1 10 = .ok (.iload_n 2, 1) := by decide +kernel
theorem k_tk_changeWater_11 : decode me_tk_changeWater.2.1 11 = .ok (.ireturn, 1) := by decide +kernel
theorem k_fn_joint_0 : decode me_fn_joint.2.1 0 = .ok (.iload_n 1, 1) := by decide +kernel
theorem k_fn_joint_1 : decode me_fn_joint.2.1 1 = .ok (.ifCond .eq 7, 3) := by decide +kernel
theorem k_fn_joint_4 : decode me_fn_joint.2.1 4 = .ok (.aconst_null, 1) := by decide +kernel
theorem k_fn_joint_5 : decode me_fn_joint.2.1 5 = .ok (.goto 11, 3) := by decide +kernel
theorem k_fn_joint_8 : decode me_fn_joint.2.1 8 = .ok (.aload_n 0, 1) := by decide +kernel
theorem k_fn_joint_9 : decode me_fn_joint.2.1 9 = .ok (.getfield 12, 3) := by decide +kernel
theorem k_fn_joint_12 : decode me_fn_joint.2.1 12 = .ok (.iload_n 2, 1) := by decide +kernel
theorem k_fn_joint_13 : decode me_fn_joint.2.1 13 = .ok (.invokevirtual 89, 3) := by decide +kernel
theorem k_fn_joint_16 : decode me_fn_joint.2.1 16 = .ok (.astore 6, 2) := by decide +kernel
theorem k_fn_joint_18 : decode me_fn_joint.2.1 18 = .ok (.iload_n 1, 1) := by decide +kernel
theorem k_fn_joint_19 : decode me_fn_joint.2.1 19 = .ok (.ifCond .eq 14, 3) := by decide +kernel
theorem k_fn_joint_22 : decode me_fn_joint.2.1 22 = .ok (.aload_n 0, 1) := by decide +kernel
theorem k_fn_joint_23 : decode me_fn_joint.2.1 23 = .ok (.getfield 12, 3) := by decide +kernel
theorem k_fn_joint_26 : decode me_fn_joint.2.1 26 = .ok (.iload_n 2, 1) := by decide +kernel
theorem k_fn_joint_27 : decode me_fn_joint.2.1 27 = .ok (.invokevirtual 76, 3) := by decide +kernel
theorem k_fn_joint_30 : decode me_fn_joint.2.1 30 = .ok (.goto 8, 3) := by decide +kernel
theorem k_fn_joint_33 : decode me_fn_joint.2.1 33 = .ok (.aload 6, 2) := by decide +kernel
theorem k_fn_joint_35 : decode me_fn_joint.2.1 35 = .ok (.invokestatic 93, 3) := by decide +kernel
theorem k_fn_joint_38 : decode me_fn_joint.2.1 38 = .ok (.astore 7, 2) := by decide +kernel
theorem k_fn_joint_40 : decode me_fn_joint.2.1 40 = .ok (.aload 7, 2) := by decide +kernel
theorem k_fn_joint_42 : decode me_fn_joint.2.1 42 = .ok (.ifnonnull 9, 3) := by decide +kernel
theorem k_fn_joint_45 : decode me_fn_joint.2.1 45 = .ok (.aload_n 0, 1) := by decide +kernel
theorem k_fn_joint_46 : decode me_fn_joint.2.1 46 = .ok (.iconst (-1), 1) := by decide +kernel
theorem k_fn_joint_47 : decode me_fn_joint.2.1 47 = .ok (.invokevirtual 56, 3) := by decide +kernel
theorem k_fn_joint_50 : decode me_fn_joint.2.1 50 = .ok (.ireturn, 1) := by decide +kernel
theorem k_fn_joint_51 : decode me_fn_joint.2.1 51 = .ok (.iload_n 3, 1) := by decide +kernel
theorem k_fn_joint_52 : decode me_fn_joint.2.1 52 = .ok (.ifCond .lt 15, 3) := by decide +kernel
theorem k_fn_joint_55 : decode me_fn_joint.2.1 55 = .ok (.iload 4, 2) := by decide +kernel
theorem k_fn_joint_57 : decode me_fn_joint.2.1 57 = .ok (.iconst 1, 1) := by decide +kernel
theorem k_fn_joint_58 : decode me_fn_joint.2.1 58 = .ok (.if_icmp .lt 9, 3) := by decide +kernel
theorem k_fn_joint_61 : decode me_fn_joint.2.1 61 = .ok (.iload 5, 2) := by decide +kernel
theorem k_fn_joint_63 : decode me_fn_joint.2.1 63 = .ok (.iconst 1, 1) := by decide +kernel
theorem k_fn_joint_64 : decode me_fn_joint.2.1 64 = .ok (.if_icmp .ge 10, 3) := by decide +kernel
theorem k_fn_joint_67 : decode me_fn_joint.2.1 67 = .ok (.aload_n 0, 1) := by decide +kernel
theorem k_fn_joint_68 : decode me_fn_joint.2.1 68 = .ok (.bipush (-4), 2) := by decide +kernel
theorem k_fn_joint_70 : decode me_fn_joint.2.1 70 = .ok (.invokevirtual 56, 3) := by decide +kernel
theorem k_fn_joint_73 : decode me_fn_joint.2.1 73 = .ok (.ireturn, 1) := by decide +kernel
theorem k_fn_joint_74 : decode me_fn_joint.2.1 74 = .ok (.aload_n 0, 1) := by decide +kernel
theorem k_fn_joint_75 : decode me_fn_joint.2.1 75 = .ok (.getfield 12, 3) := by decide +kernel
theorem k_fn_joint_78 : decode me_fn_joint.2.1 78 = .ok (.getfield 97, 3) := by decide +kernel
theorem k_fn_joint_81 : decode me_fn_joint.2.1 81 = .ok (.invokevirtual 63, 3) := by decide +kernel
theorem k_fn_joint_84 : decode me_fn_joint.2.1 84 = .ok (.istore 8, 2) := by decide +kernel
theorem k_fn_joint_86 : decode me_fn_joint.2.1 86 = .ok (.iload_n 3, 1) := by decide +kernel
theorem k_fn_joint_87 : decode me_fn_joint.2.1 87 = .ok (.sipush 500, 3) := by decide +kernel
theorem k_fn_joint_90 : decode me_fn_joint.2.1 90 = .ok (.if_icmp .gt 25, 3) := by decide +kernel
theorem k_fn_joint_93 : decode me_fn_joint.2.1 93 = .ok (.iload 4, 2) := by decide +kernel
theorem k_fn_joint_95 : decode me_fn_joint.2.1 95 = .ok (.bipush 9, 2) := by decide +kernel
theorem k_fn_joint_97 : decode me_fn_joint.2.1 97 = .ok (.if_icmp .gt 18, 3) := by decide +kernel
theorem k_fn_joint_100 : decode me_fn_joint.2.1 100 = .ok (.iload 5, 2) := by decide +kernel
theorem k_fn_joint_102 : decode me_fn_joint.2.1 102 = .ok (.sipush 200, 3) := by decide +kernel
theorem k_fn_joint_105 : decode me_fn_joint.2.1 105 = .ok (.if_icmp .gt 10, 3) := by decide +kernel
theorem k_fn_joint_108 : decode me_fn_joint.2.1 108 = .ok (.iload 8, 2) := by decide +kernel
theorem k_fn_joint_110 : decode me_fn_joint.2.1 110 = .ok (.bipush 30, 2) := by decide +kernel
theorem k_fn_joint_112 : decode me_fn_joint.2.1 112 = .ok (.if_icmp .lt 10, 3) := by decide +kernel
theorem k_fn_joint_115 : decode me_fn_joint.2.1 115 = .ok (.aload_n 0, 1) := by decide +kernel
theorem k_fn_joint_116 : decode me_fn_joint.2.1 116 = .ok (.bipush (-6), 2) := by decide +kernel
theorem k_fn_joint_118 : decode me_fn_joint.2.1 118 = .ok (.invokevirtual 56, 3) := by decide +kernel
theorem k_fn_joint_121 : decode me_fn_joint.2.1 121 = .ok (.ireturn, 1) := by decide +kernel
theorem k_fn_joint_122 : decode me_fn_joint.2.1 122 = .ok (.aload 6, 2) := by decide +kernel
theorem k_fn_joint_124 : decode me_fn_joint.2.1 124 = .ok (.ifnull 18, 3) := by decide +kernel
theorem k_fn_joint_127 : decode me_fn_joint.2.1 127 = .ok (.aload 6, 2) := by decide +kernel
theorem k_fn_joint_129 : decode me_fn_joint.2.1 129 = .ok (.getfield 100, 3) := by decide +kernel
theorem k_fn_joint_132 : decode me_fn_joint.2.1 132 = .ok (.ifCond .eq 10, 3) := by decide +kernel
theorem k_fn_joint_135 : decode me_fn_joint.2.1 135 = .ok (.aload_n 0, 1) := by decide +kernel
theorem k_fn_joint_136 : decode me_fn_joint.2.1 136 = .ok (.bipush (-3), 2) := by decide +kernel
theorem k_fn_joint_138 : decode me_fn_joint.2.1 138 = .ok (.invokevirtual 56, 3) := by decide +kernel
theorem k_fn_joint_141 : decode me_fn_joint.2.1 141 = .ok (.ireturn, 1) := by decide +kernel
theorem k_fn_joint_142 : decode me_fn_joint.2.1 142 = .ok (.aload_n 0, 1) := by decide +kernel
theorem k_fn_joint_143 : decode me_fn_joint.2.1 143 = .ok (.getfield 12, 3) := by decide +kernel
theorem k_fn_joint_146 : decode me_fn_joint.2.1 146 = .ok (.getfield 97, 3) := by decide +kernel
theorem k_fn_joint_149 : decode me_fn_joint.2.1 149 = .ok (.new 101, 3) := by decide +kernel
theorem k_fn_joint_152 : decode me_fn_joint.2.1 152 = .ok (.dup, 1) := by decide +kernel
theorem k_fn_joint_153 : decode me_fn_joint.2.1 153 = .ok (.iload 8, 2) := by decide +kernel
theorem k_fn_joint_155 : decode me_fn_joint.2.1 155 = .ok (.aload 7, 2) := by decide +kernel
theorem k_fn_joint_157 : decode me_fn_joint.2.1 157 = .ok (.aload 6, 2) := by decide +kernel
theorem k_fn_joint_159 : decode me_fn_joint.2.1 159 = .ok (.iload_n 3, 1) := by decide +kernel
theorem k_fn_joint_160 : decode me_fn_joint.2.1 160 = .ok (.iload 4, 2) := by decide +kernel
theorem k_fn_joint_162 : decode me_fn_joint.2.1 162 = .ok (.iload 5, 2) := by decide +kernel
theorem k_fn_joint_164 : decode me_fn_joint.2.1 164 = .ok (.invokespecial 106, 3) := by decide +kernel
theorem k_fn_joint_167 : decode me_fn_joint.2.1 167 = .ok (.invokevirtual 72, 3) := by decide +kernel
theorem k_fn_joint_170 : decode me_fn_joint.2.1 170 = .ok (.pop, 1) := by decide +kernel
theorem k_fn_joint_171 : decode me_fn_joint.2.1 171 = .ok (.iload 8, 2) := by decide +kernel
theorem k_fn_joint_173 : decode me_fn_joint.2.1 173 = .ok (.ireturn, 1) := by decide +kernel
theorem k_ga_jointAt_0 : decode me_ga_jointAt.2.1 0 = .ok (.iload_n 1, 1) := by decide +kernel
theorem k_ga_jointAt_1 : decode me_ga_jointAt.2.1 1 = .ok (.ifCond .lt 28, 3) := by decide +kernel
theorem k_ga_jointAt_4 : decode me_ga_jointAt.2.1 4 = .ok (.iload_n 1, 1) := by decide +kernel
theorem k_ga_jointAt_5 : decode me_ga_jointAt.2.1 5 = .ok (.aload_n 0, 1) := by decide +kernel
theorem k_ga_jointAt_6 : decode me_ga_jointAt.2.1 6 = .ok (.getfield 18, 3) := by decide +kernel
theorem k_ga_jointAt_9 : decode me_ga_jointAt.2.1 9 = .ok (.invokevirtual 24, 3) := by decide +kernel
theorem k_ga_jointAt_12 : decode me_ga_jointAt.2.1 12 = .ok (.if_icmp .ge 17, 3) := by decide +kernel
theorem k_ga_jointAt_15 : decode me_ga_jointAt.2.1 15 = .ok (.aload_n 0, 1) := by decide +kernel
theorem k_ga_jointAt_16 : decode me_ga_jointAt.2.1 16 = .ok (.getfield 18, 3) := by decide +kernel
theorem k_ga_jointAt_19 : decode me_ga_jointAt.2.1 19 = .ok (.iload_n 1, 1) := by decide +kernel
theorem k_ga_jointAt_20 : decode me_ga_jointAt.2.1 20 = .ok (.invokevirtual 28, 3) := by decide +kernel
theorem k_ga_jointAt_23 : decode me_ga_jointAt.2.1 23 = .ok (.checkcast 34, 3) := by decide +kernel
theorem k_ga_jointAt_26 : decode me_ga_jointAt.2.1 26 = .ok (.goto 4, 3) := by decide +kernel
theorem k_ga_jointAt_29 : decode me_ga_jointAt.2.1 29 = .ok (.aconst_null, 1) := by decide +kernel
theorem k_ga_jointAt_30 : decode me_ga_jointAt.2.1 30 = .ok (.areturn, 1) := by decide +kernel
theorem k_fn_feederOf_0 : decode me_fn_feederOf.2.1 0 = .ok (.aload_n 0, 1) := by decide +kernel
theorem k_fn_feederOf_1 : decode me_fn_feederOf.2.1 1 = .ok (.ifnonnull 7, 3) := by decide +kernel
theorem k_fn_feederOf_4 : decode me_fn_feederOf.2.1 4 = .ok (.aconst_null, 1) := by decide +kernel
theorem k_fn_feederOf_5 : decode me_fn_feederOf.2.1 5 = .ok (.goto 7, 3) := by decide +kernel
theorem k_fn_feederOf_8 : decode me_fn_feederOf.2.1 8 = .ok (.aload_n 0, 1) := by decide +kernel
theorem k_fn_feederOf_9 : decode me_fn_feederOf.2.1 9 = .ok (.getfield 153, 3) := by decide +kernel
theorem k_fn_feederOf_12 : decode me_fn_feederOf.2.1 12 = .ok (.areturn, 1) := by decide +kernel
theorem k_jn_init_0 : decode me_jn_init.2.1 0 = .ok (.aload_n 0, 1) := by decide +kernel
theorem k_jn_init_1 : decode me_jn_init.2.1 1 = .ok (.invokespecial 1, 3) := by decide +kernel
theorem k_jn_init_4 : decode me_jn_init.2.1 4 = .ok (.aload_n 0, 1) := by decide +kernel
theorem k_jn_init_5 : decode me_jn_init.2.1 5 = .ok (.iload_n 1, 1) := by decide +kernel
theorem k_jn_init_6 : decode me_jn_init.2.1 6 = .ok (.putfield 7, 3) := by decide +kernel
theorem k_jn_init_9 : decode me_jn_init.2.1 9 = .ok (.aload_n 0, 1) := by decide +kernel
theorem k_jn_init_10 : decode me_jn_init.2.1 10 = .ok (.aload_n 2, 1) := by decide +kernel
theorem k_jn_init_11 : decode me_jn_init.2.1 11 = .ok (.putfield 13, 3) := by decide +kernel
theorem k_jn_init_14 : decode me_jn_init.2.1 14 = .ok (.aload_n 0, 1) := by decide +kernel
theorem k_jn_init_15 : decode me_jn_init.2.1 15 = .ok (.aload_n 3, 1) := by decide +kernel
theorem k_jn_init_16 : decode me_jn_init.2.1 16 = .ok (.putfield 17, 3) := by decide +kernel
theorem k_jn_init_19 : decode me_jn_init.2.1 19 = .ok (.aload_n 0, 1) := by decide +kernel
theorem k_jn_init_20 : decode me_jn_init.2.1 20 = .ok (.iload 4, 2) := by decide +kernel
theorem k_jn_init_22 : decode me_jn_init.2.1 22 = .ok (.putfield 21, 3) := by decide +kernel
theorem k_jn_init_25 : decode me_jn_init.2.1 25 = .ok (.aload_n 0, 1) := by decide +kernel
theorem k_jn_init_26 : decode me_jn_init.2.1 26 = .ok (.iload 5, 2) := by decide +kernel
theorem k_jn_init_28 : decode me_jn_init.2.1 28 = .ok (.putfield 24, 3) := by decide +kernel
theorem k_jn_init_31 : decode me_jn_init.2.1 31 = .ok (.aload_n 0, 1) := by decide +kernel
theorem k_jn_init_32 : decode me_jn_init.2.1 32 = .ok (.iload 6, 2) := by decide +kernel
theorem k_jn_init_34 : decode me_jn_init.2.1 34 = .ok (.putfield 27, 3) := by decide +kernel
theorem k_jn_init_37 : decode me_jn_init.2.1 37 = .ok (.return_, 1) := by decide +kernel
theorem k_fn_jet_0 : decode me_fn_jet.2.1 0 = .ok (.aload_n 0, 1) := by decide +kernel
theorem k_fn_jet_1 : decode me_fn_jet.2.1 1 = .ok (.getfield 12, 3) := by decide +kernel
theorem k_fn_jet_4 : decode me_fn_jet.2.1 4 = .ok (.iload_n 1, 1) := by decide +kernel
theorem k_fn_jet_5 : decode me_fn_jet.2.1 5 = .ok (.invokevirtual 89, 3) := by decide +kernel
theorem k_fn_jet_8 : decode me_fn_jet.2.1 8 = .ok (.astore_n 3, 1) := by decide +kernel
theorem k_fn_jet_9 : decode me_fn_jet.2.1 9 = .ok (.aload_n 3, 1) := by decide +kernel
theorem k_fn_jet_10 : decode me_fn_jet.2.1 10 = .ok (.ifnonnull 9, 3) := by decide +kernel
theorem k_fn_jet_13 : decode me_fn_jet.2.1 13 = .ok (.aload_n 0, 1) := by decide +kernel
theorem k_fn_jet_14 : decode me_fn_jet.2.1 14 = .ok (.iconst (-1), 1) := by decide +kernel
theorem k_fn_jet_15 : decode me_fn_jet.2.1 15 = .ok (.invokevirtual 56, 3) := by decide +kernel
theorem k_fn_jet_18 : decode me_fn_jet.2.1 18 = .ok (.ireturn, 1) := by decide +kernel
theorem k_fn_jet_19 : decode me_fn_jet.2.1 19 = .ok (.aload_n 3, 1) := by decide +kernel
theorem k_fn_jet_20 : decode me_fn_jet.2.1 20 = .ok (.getfield 109, 3) := by decide +kernel
theorem k_fn_jet_23 : decode me_fn_jet.2.1 23 = .ok (.ifnull 10, 3) := by decide +kernel
theorem k_fn_jet_26 : decode me_fn_jet.2.1 26 = .ok (.aload_n 0, 1) := by decide +kernel
theorem k_fn_jet_27 : decode me_fn_jet.2.1 27 = .ok (.bipush (-3), 2) := by decide +kernel
theorem k_fn_jet_29 : decode me_fn_jet.2.1 29 = .ok (.invokevirtual 56, 3) := by decide +kernel
theorem k_fn_jet_32 : decode me_fn_jet.2.1 32 = .ok (.ireturn, 1) := by decide +kernel
theorem k_fn_jet_33 : decode me_fn_jet.2.1 33 = .ok (.iload_n 2, 1) := by decide +kernel
theorem k_fn_jet_34 : decode me_fn_jet.2.1 34 = .ok (.iconst 1, 1) := by decide +kernel
theorem k_fn_jet_35 : decode me_fn_jet.2.1 35 = .ok (.if_icmp .ge 10, 3) := by decide +kernel
theorem k_fn_jet_38 : decode me_fn_jet.2.1 38 = .ok (.aload_n 0, 1) := by decide +kernel
theorem k_fn_jet_39 : decode me_fn_jet.2.1 39 = .ok (.bipush (-4), 2) := by decide +kernel
theorem k_fn_jet_41 : decode me_fn_jet.2.1 41 = .ok (.invokevirtual 56, 3) := by decide +kernel
theorem k_fn_jet_44 : decode me_fn_jet.2.1 44 = .ok (.ireturn, 1) := by decide +kernel
theorem k_fn_jet_45 : decode me_fn_jet.2.1 45 = .ok (.aload_n 0, 1) := by decide +kernel
theorem k_fn_jet_46 : decode me_fn_jet.2.1 46 = .ok (.getfield 12, 3) := by decide +kernel
theorem k_fn_jet_49 : decode me_fn_jet.2.1 49 = .ok (.getfield 113, 3) := by decide +kernel
theorem k_fn_jet_52 : decode me_fn_jet.2.1 52 = .ok (.invokevirtual 63, 3) := by decide +kernel
theorem k_fn_jet_55 : decode me_fn_jet.2.1 55 = .ok (.istore 4, 2) := by decide +kernel
theorem k_fn_jet_57 : decode me_fn_jet.2.1 57 = .ok (.iload_n 2, 1) := by decide +kernel
theorem k_fn_jet_58 : decode me_fn_jet.2.1 58 = .ok (.bipush 60, 2) := by decide +kernel
theorem k_fn_jet_60 : decode me_fn_jet.2.1 60 = .ok (.if_icmp .gt 10, 3) := by decide +kernel
theorem k_fn_jet_63 : decode me_fn_jet.2.1 63 = .ok (.iload 4, 2) := by decide +kernel
theorem k_fn_jet_65 : decode me_fn_jet.2.1 65 = .ok (.bipush 24, 2) := by decide +kernel
theorem k_fn_jet_67 : decode me_fn_jet.2.1 67 = .ok (.if_icmp .lt 10, 3) := by decide +kernel
theorem k_fn_jet_70 : decode me_fn_jet.2.1 70 = .ok (.aload_n 0, 1) := by decide +kernel
theorem k_fn_jet_71 : decode me_fn_jet.2.1 71 = .ok (.bipush (-6), 2) := by decide +kernel
theorem k_fn_jet_73 : decode me_fn_jet.2.1 73 = .ok (.invokevirtual 56, 3) := by decide +kernel
theorem k_fn_jet_76 : decode me_fn_jet.2.1 76 = .ok (.ireturn, 1) := by decide +kernel
theorem k_fn_jet_77 : decode me_fn_jet.2.1 77 = .ok (.new 116, 3) := by decide +kernel
theorem k_fn_jet_80 : decode me_fn_jet.2.1 80 = .ok (.dup, 1) := by decide +kernel
theorem k_fn_jet_81 : decode me_fn_jet.2.1 81 = .ok (.iload 4, 2) := by decide +kernel
theorem k_fn_jet_83 : decode me_fn_jet.2.1 83 = .ok (.aload_n 3, 1) := by decide +kernel
theorem k_fn_jet_84 : decode me_fn_jet.2.1 84 = .ok (.iload_n 2, 1) := by decide +kernel
theorem k_fn_jet_85 : decode me_fn_jet.2.1 85 = .ok (.invokespecial 118, 3) := by decide +kernel
theorem k_fn_jet_88 : decode me_fn_jet.2.1 88 = .ok (.astore 5, 2) := by decide +kernel
theorem k_fn_jet_90 : decode me_fn_jet.2.1 90 = .ok (.aload_n 3, 1) := by decide +kernel
theorem k_fn_jet_91 : decode me_fn_jet.2.1 91 = .ok (.aload 5, 2) := by decide +kernel
theorem k_fn_jet_93 : decode me_fn_jet.2.1 93 = .ok (.putfield 109, 3) := by decide +kernel
theorem k_fn_jet_96 : decode me_fn_jet.2.1 96 = .ok (.aload_n 0, 1) := by decide +kernel
theorem k_fn_jet_97 : decode me_fn_jet.2.1 97 = .ok (.getfield 12, 3) := by decide +kernel
theorem k_fn_jet_100 : decode me_fn_jet.2.1 100 = .ok (.getfield 113, 3) := by decide +kernel
theorem k_fn_jet_103 : decode me_fn_jet.2.1 103 = .ok (.aload 5, 2) := by decide +kernel
theorem k_fn_jet_105 : decode me_fn_jet.2.1 105 = .ok (.invokevirtual 72, 3) := by decide +kernel
theorem k_fn_jet_108 : decode me_fn_jet.2.1 108 = .ok (.pop, 1) := by decide +kernel
theorem k_fn_jet_109 : decode me_fn_jet.2.1 109 = .ok (.iload 4, 2) := by decide +kernel
theorem k_fn_jet_111 : decode me_fn_jet.2.1 111 = .ok (.ireturn, 1) := by decide +kernel
theorem k_je_init_0 : decode me_je_init.2.1 0 = .ok (.aload_n 0, 1) := by decide +kernel
theorem k_je_init_1 : decode me_je_init.2.1 1 = .ok (.invokespecial 1, 3) := by decide +kernel
theorem k_je_init_4 : decode me_je_init.2.1 4 = .ok (.aload_n 0, 1) := by decide +kernel
theorem k_je_init_5 : decode me_je_init.2.1 5 = .ok (.iload_n 1, 1) := by decide +kernel
theorem k_je_init_6 : decode me_je_init.2.1 6 = .ok (.putfield 7, 3) := by decide +kernel
theorem k_je_init_9 : decode me_je_init.2.1 9 = .ok (.aload_n 0, 1) := by decide +kernel
theorem k_je_init_10 : decode me_je_init.2.1 10 = .ok (.iconst 1, 1) := by decide +kernel
theorem k_je_init_11 : decode me_je_init.2.1 11 = .ok (.iload_n 1, 1) := by decide +kernel
theorem k_je_init_12 : decode me_je_init.2.1 12 = .ok (.ishl, 1) := by decide +kernel
theorem k_je_init_13 : decode me_je_init.2.1 13 = .ok (.putfield 13, 3) := by decide +kernel
theorem k_je_init_16 : decode me_je_init.2.1 16 = .ok (.aload_n 0, 1) := by decide +kernel
theorem k_je_init_17 : decode me_je_init.2.1 17 = .ok (.aload_n 2, 1) := by decide +kernel
theorem k_je_init_18 : decode me_je_init.2.1 18 = .ok (.putfield 16, 3) := by decide +kernel
theorem k_je_init_21 : decode me_je_init.2.1 21 = .ok (.aload_n 0, 1) := by decide +kernel
theorem k_je_init_22 : decode me_je_init.2.1 22 = .ok (.iload_n 3, 1) := by decide +kernel
theorem k_je_init_23 : decode me_je_init.2.1 23 = .ok (.putfield 20, 3) := by decide +kernel
theorem k_je_init_26 : decode me_je_init.2.1 26 = .ok (.aload_n 0, 1) := by decide +kernel
theorem k_je_init_27 : decode me_je_init.2.1 27 = .ok (.iconst (-1), 1) := by decide +kernel
theorem k_je_init_28 : decode me_je_init.2.1 28 = .ok (.putfield 23, 3) := by decide +kernel
theorem k_je_init_31 : decode me_je_init.2.1 31 = .ok (.return_, 1) := by decide +kernel
theorem k_fn_play_0 : decode me_fn_play.2.1 0 = .ok (.aload_n 0, 1) := by decide +kernel
theorem k_fn_play_1 : decode me_fn_play.2.1 1 = .ok (.getfield 12, 3) := by decide +kernel
theorem k_fn_play_4 : decode me_fn_play.2.1 4 = .ok (.iload_n 1, 1) := by decide +kernel
theorem k_fn_play_5 : decode me_fn_play.2.1 5 = .ok (.invokevirtual 121, 3) := by decide +kernel
theorem k_fn_play_8 : decode me_fn_play.2.1 8 = .ok (.astore_n 3, 1) := by decide +kernel
theorem k_fn_play_9 : decode me_fn_play.2.1 9 = .ok (.aload_n 3, 1) := by decide +kernel
theorem k_fn_play_10 : decode me_fn_play.2.1 10 = .ok (.ifnonnull 9, 3) := by decide +kernel
theorem k_fn_play_13 : decode me_fn_play.2.1 13 = .ok (.aload_n 0, 1) := by decide +kernel
theorem k_fn_play_14 : decode me_fn_play.2.1 14 = .ok (.iconst (-1), 1) := by decide +kernel
theorem k_fn_play_15 : decode me_fn_play.2.1 15 = .ok (.invokevirtual 56, 3) := by decide +kernel
theorem k_fn_play_18 : decode me_fn_play.2.1 18 = .ok (.ireturn, 1) := by decide +kernel
theorem k_fn_play_19 : decode me_fn_play.2.1 19 = .ok (.iload_n 2, 1) := by decide +kernel
theorem k_fn_play_20 : decode me_fn_play.2.1 20 = .ok (.ifCond .eq 20, 3) := by decide +kernel
theorem k_fn_play_23 : decode me_fn_play.2.1 23 = .ok (.aload_n 3, 1) := by decide +kernel
theorem k_fn_play_24 : decode me_fn_play.2.1 24 = .ok (.getfield 125, 3) := by decide +kernel
theorem k_fn_play_27 : decode me_fn_play.2.1 27 = .ok (.getfield 100, 3) := by decide +kernel
theorem k_fn_play_30 : decode me_fn_play.2.1 30 = .ok (.ifCond .eq 10, 3) := by decide +kernel
theorem k_fn_play_33 : decode me_fn_play.2.1 33 = .ok (.aload_n 0, 1) := by decide +kernel
theorem k_fn_play_34 : decode me_fn_play.2.1 34 = .ok (.bipush (-3), 2) := by decide +kernel
theorem k_fn_play_36 : decode me_fn_play.2.1 36 = .ok (.invokevirtual 56, 3) := by decide +kernel
theorem k_fn_play_39 : decode me_fn_play.2.1 39 = .ok (.ireturn, 1) := by decide +kernel
theorem k_fn_play_40 : decode me_fn_play.2.1 40 = .ok (.aload_n 3, 1) := by decide +kernel
theorem k_fn_play_41 : decode me_fn_play.2.1 41 = .ok (.aload_n 0, 1) := by decide +kernel
theorem k_fn_play_42 : decode me_fn_play.2.1 42 = .ok (.getfield 12, 3) := by decide +kernel
theorem k_fn_play_45 : decode me_fn_play.2.1 45 = .ok (.getfield 129, 3) := by decide +kernel
theorem k_fn_play_48 : decode me_fn_play.2.1 48 = .ok (.invokevirtual 132, 3) := by decide +kernel
theorem k_fn_play_51 : decode me_fn_play.2.1 51 = .ok (.iload_n 2, 1) := by decide +kernel
theorem k_fn_play_52 : decode me_fn_play.2.1 52 = .ok (.if_icmp .ne 5, 3) := by decide +kernel
theorem k_fn_play_55 : decode me_fn_play.2.1 55 = .ok (.iconst 0, 1) := by decide +kernel
theorem k_fn_play_56 : decode me_fn_play.2.1 56 = .ok (.ireturn, 1) := by decide +kernel
theorem k_fn_play_57 : decode me_fn_play.2.1 57 = .ok (.aload_n 0, 1) := by decide +kernel
theorem k_fn_play_58 : decode me_fn_play.2.1 58 = .ok (.getfield 12, 3) := by decide +kernel
theorem k_fn_play_61 : decode me_fn_play.2.1 61 = .ok (.dup, 1) := by decide +kernel
theorem k_fn_play_62 : decode me_fn_play.2.1 62 = .ok (.getfield 129, 3) := by decide +kernel
theorem k_fn_play_65 : decode me_fn_play.2.1 65 = .ok (.aload_n 3, 1) := by decide +kernel
theorem k_fn_play_66 : decode me_fn_play.2.1 66 = .ok (.getfield 136, 3) := by decide +kernel
theorem k_fn_play_69 : decode me_fn_play.2.1 69 = .ok (.ixor, 1) := by decide +kernel
theorem k_fn_play_70 : decode me_fn_play.2.1 70 = .ok (.putfield 129, 3) := by decide +kernel
theorem k_fn_play_73 : decode me_fn_play.2.1 73 = .ok (.iconst 1, 1) := by decide +kernel
theorem k_fn_play_74 : decode me_fn_play.2.1 74 = .ok (.ireturn, 1) := by decide +kernel
theorem k_ga_jetAt_0 : decode me_ga_jetAt.2.1 0 = .ok (.iload_n 1, 1) := by decide +kernel
theorem k_ga_jetAt_1 : decode me_ga_jetAt.2.1 1 = .ok (.ifCond .lt 28, 3) := by decide +kernel
theorem k_ga_jetAt_4 : decode me_ga_jetAt.2.1 4 = .ok (.iload_n 1, 1) := by decide +kernel
theorem k_ga_jetAt_5 : decode me_ga_jetAt.2.1 5 = .ok (.aload_n 0, 1) := by decide +kernel
theorem k_ga_jetAt_6 : decode me_ga_jetAt.2.1 6 = .ok (.getfield 21, 3) := by decide +kernel
theorem k_ga_jetAt_9 : decode me_ga_jetAt.2.1 9 = .ok (.invokevirtual 24, 3) := by decide +kernel
theorem k_ga_jetAt_12 : decode me_ga_jetAt.2.1 12 = .ok (.if_icmp .ge 17, 3) := by decide +kernel
theorem k_ga_jetAt_15 : decode me_ga_jetAt.2.1 15 = .ok (.aload_n 0, 1) := by decide +kernel
theorem k_ga_jetAt_16 : decode me_ga_jetAt.2.1 16 = .ok (.getfield 21, 3) := by decide +kernel
theorem k_ga_jetAt_19 : decode me_ga_jetAt.2.1 19 = .ok (.iload_n 1, 1) := by decide +kernel
theorem k_ga_jetAt_20 : decode me_ga_jetAt.2.1 20 = .ok (.invokevirtual 28, 3) := by decide +kernel
theorem k_ga_jetAt_23 : decode me_ga_jetAt.2.1 23 = .ok (.checkcast 36, 3) := by decide +kernel
theorem k_ga_jetAt_26 : decode me_ga_jetAt.2.1 26 = .ok (.goto 4, 3) := by decide +kernel
theorem k_ga_jetAt_29 : decode me_ga_jetAt.2.1 29 = .ok (.aconst_null, 1) := by decide +kernel
theorem k_ga_jetAt_30 : decode me_ga_jetAt.2.1 30 = .ok (.areturn, 1) := by decide +kernel
theorem k_je_isIn_0 : decode me_je_isIn.2.1 0 = .ok (.iload_n 1, 1) := by decide +kernel
theorem k_je_isIn_1 : decode me_je_isIn.2.1 1 = .ok (.aload_n 0, 1) := by decide +kernel
theorem k_je_isIn_2 : decode me_je_isIn.2.1 2 = .ok (.getfield 13, 3) := by decide +kernel
theorem k_je_isIn_5 : decode me_je_isIn.2.1 5 = .ok (.iand, 1) := by decide +kernel
theorem k_je_isIn_6 : decode me_je_isIn.2.1 6 = .ok (.ifCond .eq 7, 3) := by decide +kernel
theorem k_je_isIn_9 : decode me_je_isIn.2.1 9 = .ok (.iconst 1, 1) := by decide +kernel
theorem k_je_isIn_10 : decode me_je_isIn.2.1 10 = .ok (.goto 4, 3) := by decide +kernel
theorem k_je_isIn_13 : decode me_je_isIn.2.1 13 = .ok (.iconst 0, 1) := by decide +kernel
theorem k_je_isIn_14 : decode me_je_isIn.2.1 14 = .ok (.ireturn, 1) := by decide +kernel
theorem k_fn_pipe_0 : decode me_fn_pipe.2.1 0 = .ok (.aload_n 0, 1) := by decide +kernel
theorem k_fn_pipe_1 : decode me_fn_pipe.2.1 1 = .ok (.getfield 12, 3) := by decide +kernel
theorem k_fn_pipe_4 : decode me_fn_pipe.2.1 4 = .ok (.iload_n 1, 1) := by decide +kernel
theorem k_fn_pipe_5 : decode me_fn_pipe.2.1 5 = .ok (.invokevirtual 89, 3) := by decide +kernel
theorem k_fn_pipe_8 : decode me_fn_pipe.2.1 8 = .ok (.astore_n 3, 1) := by decide +kernel
theorem k_fn_pipe_9 : decode me_fn_pipe.2.1 9 = .ok (.aload_n 3, 1) := by decide +kernel
theorem k_fn_pipe_10 : decode me_fn_pipe.2.1 10 = .ok (.ifnonnull 9, 3) := by decide +kernel
theorem k_fn_pipe_13 : decode me_fn_pipe.2.1 13 = .ok (.aload_n 0, 1) := by decide +kernel
theorem k_fn_pipe_14 : decode me_fn_pipe.2.1 14 = .ok (.iconst (-1), 1) := by decide +kernel
theorem k_fn_pipe_15 : decode me_fn_pipe.2.1 15 = .ok (.invokevirtual 56, 3) := by decide +kernel
theorem k_fn_pipe_18 : decode me_fn_pipe.2.1 18 = .ok (.ireturn, 1) := by decide +kernel
theorem k_fn_pipe_19 : decode me_fn_pipe.2.1 19 = .ok (.iload_n 2, 1) := by decide +kernel
theorem k_fn_pipe_20 : decode me_fn_pipe.2.1 20 = .ok (.iconst 1, 1) := by decide +kernel
theorem k_fn_pipe_21 : decode me_fn_pipe.2.1 21 = .ok (.if_icmp .ge 10, 3) := by decide +kernel
theorem k_fn_pipe_24 : decode me_fn_pipe.2.1 24 = .ok (.aload_n 0, 1) := by decide +kernel
theorem k_fn_pipe_25 : decode me_fn_pipe.2.1 25 = .ok (.bipush (-4), 2) := by decide +kernel
theorem k_fn_pipe_27 : decode me_fn_pipe.2.1 27 = .ok (.invokevirtual 56, 3) := by decide +kernel
theorem k_fn_pipe_30 : decode me_fn_pipe.2.1 30 = .ok (.ireturn, 1) := by decide +kernel
theorem k_fn_pipe_31 : decode me_fn_pipe.2.1 31 = .ok (.iload_n 2, 1) := by decide +kernel
theorem k_fn_pipe_32 : decode me_fn_pipe.2.1 32 = .ok (.bipush 9, 2) := by decide +kernel
theorem k_fn_pipe_34 : decode me_fn_pipe.2.1 34 = .ok (.if_icmp .le 10, 3) := by decide +kernel
theorem k_fn_pipe_37 : decode me_fn_pipe.2.1 37 = .ok (.aload_n 0, 1) := by decide +kernel
theorem k_fn_pipe_38 : decode me_fn_pipe.2.1 38 = .ok (.bipush (-6), 2) := by decide +kernel
theorem k_fn_pipe_40 : decode me_fn_pipe.2.1 40 = .ok (.invokevirtual 56, 3) := by decide +kernel
theorem k_fn_pipe_43 : decode me_fn_pipe.2.1 43 = .ok (.ireturn, 1) := by decide +kernel
theorem k_fn_pipe_44 : decode me_fn_pipe.2.1 44 = .ok (.aload_n 3, 1) := by decide +kernel
theorem k_fn_pipe_45 : decode me_fn_pipe.2.1 45 = .ok (.getfield 139, 3) := by decide +kernel
theorem k_fn_pipe_48 : decode me_fn_pipe.2.1 48 = .ok (.istore 4, 2) := by decide +kernel
theorem k_fn_pipe_50 : decode me_fn_pipe.2.1 50 = .ok (.aload_n 3, 1) := by decide +kernel
theorem k_fn_pipe_51 : decode me_fn_pipe.2.1 51 = .ok (.iload_n 2, 1) := by decide +kernel
theorem k_fn_pipe_52 : decode me_fn_pipe.2.1 52 = .ok (.putfield 139, 3) := by decide +kernel
theorem k_fn_pipe_55 : decode me_fn_pipe.2.1 55 = .ok (.iload 4, 2) := by decide +kernel
theorem k_fn_pipe_57 : decode me_fn_pipe.2.1 57 = .ok (.ireturn, 1) := by decide +kernel
theorem k_fn_leak_0 : decode me_fn_leak.2.1 0 = .ok (.aload_n 0, 1) := by decide +kernel
theorem k_fn_leak_1 : decode me_fn_leak.2.1 1 = .ok (.getfield 12, 3) := by decide +kernel
theorem k_fn_leak_4 : decode me_fn_leak.2.1 4 = .ok (.iload_n 1, 1) := by decide +kernel
theorem k_fn_leak_5 : decode me_fn_leak.2.1 5 = .ok (.invokevirtual 89, 3) := by decide +kernel
theorem k_fn_leak_8 : decode me_fn_leak.2.1 8 = .ok (.astore_n 3, 1) := by decide +kernel
theorem k_fn_leak_9 : decode me_fn_leak.2.1 9 = .ok (.aload_n 3, 1) := by decide +kernel
theorem k_fn_leak_10 : decode me_fn_leak.2.1 10 = .ok (.ifnonnull 9, 3) := by decide +kernel
theorem k_fn_leak_13 : decode me_fn_leak.2.1 13 = .ok (.aload_n 0, 1) := by decide +kernel
theorem k_fn_leak_14 : decode me_fn_leak.2.1 14 = .ok (.iconst (-1), 1) := by decide +kernel
theorem k_fn_leak_15 : decode me_fn_leak.2.1 15 = .ok (.invokevirtual 56, 3) := by decide +kernel
theorem k_fn_leak_18 : decode me_fn_leak.2.1 18 = .ok (.ireturn, 1) := by decide +kernel
theorem k_fn_leak_19 : decode me_fn_leak.2.1 19 = .ok (.iload_n 2, 1) := by decide +kernel
theorem k_fn_leak_20 : decode me_fn_leak.2.1 20 = .ok (.ifCond .ge 10, 3) := by decide +kernel
theorem k_fn_leak_23 : decode me_fn_leak.2.1 23 = .ok (.aload_n 0, 1) := by decide +kernel
theorem k_fn_leak_24 : decode me_fn_leak.2.1 24 = .ok (.bipush (-4), 2) := by decide +kernel
theorem k_fn_leak_26 : decode me_fn_leak.2.1 26 = .ok (.invokevirtual 56, 3) := by decide +kernel
theorem k_fn_leak_29 : decode me_fn_leak.2.1 29 = .ok (.ireturn, 1) := by decide +kernel
theorem k_fn_leak_30 : decode me_fn_leak.2.1 30 = .ok (.iload_n 2, 1) := by decide +kernel
theorem k_fn_leak_31 : decode me_fn_leak.2.1 31 = .ok (.bipush 60, 2) := by decide +kernel
theorem k_fn_leak_33 : decode me_fn_leak.2.1 33 = .ok (.if_icmp .le 10, 3) := by decide +kernel
theorem k_fn_leak_36 : decode me_fn_leak.2.1 36 = .ok (.aload_n 0, 1) := by decide +kernel
theorem k_fn_leak_37 : decode me_fn_leak.2.1 37 = .ok (.bipush (-6), 2) := by decide +kernel
theorem k_fn_leak_39 : decode me_fn_leak.2.1 39 = .ok (.invokevirtual 56, 3) := by decide +kernel
theorem k_fn_leak_42 : decode me_fn_leak.2.1 42 = .ok (.ireturn, 1) := by decide +kernel
theorem k_fn_leak_43 : decode me_fn_leak.2.1 43 = .ok (.aload_n 3, 1) := by decide +kernel
theorem k_fn_leak_44 : decode me_fn_leak.2.1 44 = .ok (.getfield 141, 3) := by decide +kernel
theorem k_fn_leak_47 : decode me_fn_leak.2.1 47 = .ok (.istore 4, 2) := by decide +kernel
theorem k_fn_leak_49 : decode me_fn_leak.2.1 49 = .ok (.aload_n 3, 1) := by decide +kernel
theorem k_fn_leak_50 : decode me_fn_leak.2.1 50 = .ok (.iload_n 2, 1) := by decide +kernel
theorem k_fn_leak_51 : decode me_fn_leak.2.1 51 = .ok (.putfield 141, 3) := by decide +kernel
theorem k_fn_leak_54 : decode me_fn_leak.2.1 54 = .ok (.iload 4, 2) := by decide +kernel
theorem k_fn_leak_56 : decode me_fn_leak.2.1 56 = .ok (.ireturn, 1) := by decide +kernel
theorem k_fn_flow_0 : decode me_fn_flow.2.1 0 = .ok (.aload_n 0, 1) := by decide +kernel
theorem k_fn_flow_1 : decode me_fn_flow.2.1 1 = .ok (.getfield 12, 3) := by decide +kernel
theorem k_fn_flow_4 : decode me_fn_flow.2.1 4 = .ok (.iload_n 1, 1) := by decide +kernel
theorem k_fn_flow_5 : decode me_fn_flow.2.1 5 = .ok (.invokevirtual 89, 3) := by decide +kernel
theorem k_fn_flow_8 : decode me_fn_flow.2.1 8 = .ok (.astore_n 2, 1) := by decide +kernel
theorem k_fn_flow_9 : decode me_fn_flow.2.1 9 = .ok (.aload_n 2, 1) := by decide +kernel
theorem k_fn_flow_10 : decode me_fn_flow.2.1 10 = .ok (.ifnonnull 9, 3) := by decide +kernel
theorem k_fn_flow_13 : decode me_fn_flow.2.1 13 = .ok (.aload_n 0, 1) := by decide +kernel
theorem k_fn_flow_14 : decode me_fn_flow.2.1 14 = .ok (.iconst (-1), 1) := by decide +kernel
theorem k_fn_flow_15 : decode me_fn_flow.2.1 15 = .ok (.invokevirtual 56, 3) := by decide +kernel
theorem k_fn_flow_18 : decode me_fn_flow.2.1 18 = .ok (.ireturn, 1) := by decide +kernel
theorem k_fn_flow_19 : decode me_fn_flow.2.1 19 = .ok (.aload_n 0, 1) := by decide +kernel
theorem k_fn_flow_20 : decode me_fn_flow.2.1 20 = .ok (.getfield 12, 3) := by decide +kernel
theorem k_fn_flow_23 : decode me_fn_flow.2.1 23 = .ok (.invokevirtual 144, 3) := by decide +kernel
theorem k_fn_flow_26 : decode me_fn_flow.2.1 26 = .ok (.aload_n 2, 1) := by decide +kernel
theorem k_fn_flow_27 : decode me_fn_flow.2.1 27 = .ok (.getfield 147, 3) := by decide +kernel
theorem k_fn_flow_30 : decode me_fn_flow.2.1 30 = .ok (.ireturn, 1) := by decide +kernel
theorem k_ga_reckonAsItIs_0 : decode me_ga_reckonAsItIs.2.1 0 = .ok (.aload_n 0, 1) := by decide +kernel
theorem k_ga_reckonAsItIs_1 : decode me_ga_reckonAsItIs.2.1 1 = .ok (.aload_n 0, 1) := by decide +kernel
theorem k_ga_reckonAsItIs_2 : decode me_ga_reckonAsItIs.2.1 2 = .ok (.getfield 38, 3) := by decide +kernel
theorem k_ga_reckonAsItIs_5 : decode me_ga_reckonAsItIs.2.1 5 = .ok (.iconst 0, 1) := by decide +kernel
theorem k_ga_reckonAsItIs_6 : decode me_ga_reckonAsItIs.2.1 6 = .ok (.invokevirtual 42, 3) := by decide +kernel
theorem k_ga_reckonAsItIs_9 : decode me_ga_reckonAsItIs.2.1 9 = .ok (.return_, 1) := by decide +kernel
theorem k_ga_reckon_0 : decode me_ga_reckon.2.1 0 = .ok (.aload_n 0, 1) := by decide +kernel
theorem k_ga_reckon_1 : decode me_ga_reckon.2.1 1 = .ok (.invokevirtual 46, 3) := by decide +kernel
theorem k_ga_reckon_4 : decode me_ga_reckon.2.1 4 = .ok (.aload_n 0, 1) := by decide +kernel
theorem k_ga_reckon_5 : decode me_ga_reckon.2.1 5 = .ok (.getfield 18, 3) := by decide +kernel
theorem k_ga_reckon_8 : decode me_ga_reckon.2.1 8 = .ok (.invokevirtual 24, 3) := by decide +kernel
theorem k_ga_reckon_11 : decode me_ga_reckon.2.1 11 = .ok (.iconst 1, 1) := by decide +kernel
theorem k_ga_reckon_12 : decode me_ga_reckon.2.1 12 = .ok (.isub, 1) := by decide +kernel
theorem k_ga_reckon_13 : decode me_ga_reckon.2.1 13 = .ok (.istore_n 3, 1) := by decide +kernel
theorem k_ga_reckon_14 : decode me_ga_reckon.2.1 14 = .ok (.iload_n 3, 1) := by decide +kernel
theorem k_ga_reckon_15 : decode me_ga_reckon.2.1 15 = .ok (.ifCond .lt 70, 3) := by decide +kernel
theorem k_ga_reckon_18 : decode me_ga_reckon.2.1 18 = .ok (.aload_n 0, 1) := by decide +kernel
theorem k_ga_reckon_19 : decode me_ga_reckon.2.1 19 = .ok (.getfield 18, 3) := by decide +kernel
theorem k_ga_reckon_22 : decode me_ga_reckon.2.1 22 = .ok (.iload_n 3, 1) := by decide +kernel
theorem k_ga_reckon_23 : decode me_ga_reckon.2.1 23 = .ok (.invokevirtual 28, 3) := by decide +kernel
theorem k_ga_reckon_26 : decode me_ga_reckon.2.1 26 = .ok (.checkcast 34, 3) := by decide +kernel
theorem k_ga_reckon_29 : decode me_ga_reckon.2.1 29 = .ok (.astore 4, 2) := by decide +kernel
theorem k_ga_reckon_31 : decode me_ga_reckon.2.1 31 = .ok (.aload 4, 2) := by decide +kernel
theorem k_ga_reckon_33 : decode me_ga_reckon.2.1 33 = .ok (.getfield 49, 3) := by decide +kernel
theorem k_ga_reckon_36 : decode me_ga_reckon.2.1 36 = .ok (.ifCond .ne 43, 3) := by decide +kernel
theorem k_ga_reckon_39 : decode me_ga_reckon.2.1 39 = .ok (.aload 4, 2) := by decide +kernel
theorem k_ga_reckon_41 : decode me_ga_reckon.2.1 41 = .ok (.dup, 1) := by decide +kernel
theorem k_ga_reckon_42 : decode me_ga_reckon.2.1 42 = .ok (.getfield 53, 3) := by decide +kernel
theorem k_ga_reckon_45 : decode me_ga_reckon.2.1 45 = .ok (.aload 4, 2) := by decide +kernel
theorem k_ga_reckon_47 : decode me_ga_reckon.2.1 47 = .ok (.iload_n 1, 1) := by decide +kernel
theorem k_ga_reckon_48 : decode me_ga_reckon.2.1 48 = .ok (.invokevirtual 56, 3) := by decide +kernel
theorem k_ga_reckon_51 : decode me_ga_reckon.2.1 51 = .ok (.iload_n 2, 1) := by decide +kernel
theorem k_ga_reckon_52 : decode me_ga_reckon.2.1 52 = .ok (.ifCond .eq 11, 3) := by decide +kernel
theorem k_ga_reckon_55 : decode me_ga_reckon.2.1 55 = .ok (.aload 4, 2) := by decide +kernel
theorem k_ga_reckon_57 : decode me_ga_reckon.2.1 57 = .ok (.getfield 60, 3) := by decide +kernel
theorem k_ga_reckon_60 : decode me_ga_reckon.2.1 60 = .ok (.goto 8, 3) := by decide +kernel
theorem k_ga_reckon_63 : decode me_ga_reckon.2.1 63 = .ok (.aload 4, 2) := by decide +kernel
theorem k_ga_reckon_65 : decode me_ga_reckon.2.1 65 = .ok (.getfield 63, 3) := by decide +kernel
theorem k_ga_reckon_68 : decode me_ga_reckon.2.1 68 = .ok (.iadd, 1) := by decide +kernel
theorem k_ga_reckon_69 : decode me_ga_reckon.2.1 69 = .ok (.iadd, 1) := by decide +kernel
theorem k_ga_reckon_70 : decode me_ga_reckon.2.1 70 = .ok (.putfield 53, 3) := by decide +kernel
theorem k_ga_reckon_73 : decode me_ga_reckon.2.1 73 = .ok (.aload_n 0, 1) := by decide +kernel
theorem k_ga_reckon_74 : decode me_ga_reckon.2.1 74 = .ok (.aload 4, 2) := by decide +kernel
theorem k_ga_reckon_76 : decode me_ga_reckon.2.1 76 = .ok (.invokevirtual 66, 3) := by decide +kernel
theorem k_ga_reckon_79 : decode me_ga_reckon.2.1 79 = .ok (.iinc 3 (-1), 3) := by decide +kernel
theorem k_ga_reckon_82 : decode me_ga_reckon.2.1 82 = .ok (.goto (-68), 3) := by decide +kernel
theorem k_ga_reckon_85 : decode me_ga_reckon.2.1 85 = .ok (.iconst 0, 1) := by decide +kernel
theorem k_ga_reckon_86 : decode me_ga_reckon.2.1 86 = .ok (.istore_n 3, 1) := by decide +kernel
theorem k_ga_reckon_87 : decode me_ga_reckon.2.1 87 = .ok (.iload_n 3, 1) := by decide +kernel
theorem k_ga_reckon_88 : decode me_ga_reckon.2.1 88 = .ok (.aload_n 0, 1) := by decide +kernel
theorem k_ga_reckon_89 : decode me_ga_reckon.2.1 89 = .ok (.getfield 18, 3) := by decide +kernel
theorem k_ga_reckon_92 : decode me_ga_reckon.2.1 92 = .ok (.invokevirtual 24, 3) := by decide +kernel
theorem k_ga_reckon_95 : decode me_ga_reckon.2.1 95 = .ok (.if_icmp .ge 53, 3) := by decide +kernel
theorem k_ga_reckon_98 : decode me_ga_reckon.2.1 98 = .ok (.aload_n 0, 1) := by decide +kernel
theorem k_ga_reckon_99 : decode me_ga_reckon.2.1 99 = .ok (.getfield 18, 3) := by decide +kernel
theorem k_ga_reckon_102 : decode me_ga_reckon.2.1 102 = .ok (.iload_n 3, 1) := by decide +kernel
theorem k_ga_reckon_103 : decode me_ga_reckon.2.1 103 = .ok (.invokevirtual 28, 3) := by decide +kernel
theorem k_ga_reckon_106 : decode me_ga_reckon.2.1 106 = .ok (.checkcast 34, 3) := by decide +kernel
theorem k_ga_reckon_109 : decode me_ga_reckon.2.1 109 = .ok (.astore 4, 2) := by decide +kernel
theorem k_ga_reckon_111 : decode me_ga_reckon.2.1 111 = .ok (.aload 4, 2) := by decide +kernel
theorem k_ga_reckon_113 : decode me_ga_reckon.2.1 113 = .ok (.aload 4, 2) := by decide +kernel
theorem k_ga_reckon_115 : decode me_ga_reckon.2.1 115 = .ok (.invokevirtual 70, 3) := by decide +kernel
theorem k_ga_reckon_118 : decode me_ga_reckon.2.1 118 = .ok (.aload 4, 2) := by decide +kernel
theorem k_ga_reckon_120 : decode me_ga_reckon.2.1 120 = .ok (.getfield 73, 3) := by decide +kernel
theorem k_ga_reckon_123 : decode me_ga_reckon.2.1 123 = .ok (.ifnonnull 7, 3) := by decide +kernel
theorem k_ga_reckon_126 : decode me_ga_reckon.2.1 126 = .ok (.iconst 0, 1) := by decide +kernel
theorem k_ga_reckon_127 : decode me_ga_reckon.2.1 127 = .ok (.goto 11, 3) := by decide +kernel
theorem k_ga_reckon_130 : decode me_ga_reckon.2.1 130 = .ok (.aload 4, 2) := by decide +kernel
theorem k_ga_reckon_132 : decode me_ga_reckon.2.1 132 = .ok (.getfield 73, 3) := by decide +kernel
theorem k_ga_reckon_135 : decode me_ga_reckon.2.1 135 = .ok (.getfield 77, 3) := by decide +kernel
theorem k_ga_reckon_138 : decode me_ga_reckon.2.1 138 = .ok (.iadd, 1) := by decide +kernel
theorem k_ga_reckon_139 : decode me_ga_reckon.2.1 139 = .ok (.putfield 77, 3) := by decide +kernel
theorem k_ga_reckon_142 : decode me_ga_reckon.2.1 142 = .ok (.iinc 3 1, 3) := by decide +kernel
theorem k_ga_reckon_145 : decode me_ga_reckon.2.1 145 = .ok (.goto (-58), 3) := by decide +kernel
theorem k_ga_reckon_148 : decode me_ga_reckon.2.1 148 = .ok (.return_, 1) := by decide +kernel
theorem k_ga_forgetFlows_0 : decode me_ga_forgetFlows.2.1 0 = .ok (.iconst 0, 1) := by decide +kernel
theorem k_ga_forgetFlows_1 : decode me_ga_forgetFlows.2.1 1 = .ok (.istore_n 1, 1) := by decide +kernel
theorem k_ga_forgetFlows_2 : decode me_ga_forgetFlows.2.1 2 = .ok (.iload_n 1, 1) := by decide +kernel
theorem k_ga_forgetFlows_3 : decode me_ga_forgetFlows.2.1 3 = .ok (.aload_n 0, 1) := by decide +kernel
theorem k_ga_forgetFlows_4 : decode me_ga_forgetFlows.2.1 4 = .ok (.getfield 12, 3) := by decide +kernel
theorem k_ga_forgetFlows_7 : decode me_ga_forgetFlows.2.1 7 = .ok (.invokevirtual 24, 3) := by decide +kernel
theorem k_ga_forgetFlows_10 : decode me_ga_forgetFlows.2.1 10 = .ok (.if_icmp .ge 24, 3) := by decide +kernel
theorem k_ga_forgetFlows_13 : decode me_ga_forgetFlows.2.1 13 = .ok (.aload_n 0, 1) := by decide +kernel
theorem k_ga_forgetFlows_14 : decode me_ga_forgetFlows.2.1 14 = .ok (.getfield 12, 3) := by decide +kernel
theorem k_ga_forgetFlows_17 : decode me_ga_forgetFlows.2.1 17 = .ok (.iload_n 1, 1) := by decide +kernel
theorem k_ga_forgetFlows_18 : decode me_ga_forgetFlows.2.1 18 = .ok (.invokevirtual 28, 3) := by decide +kernel
theorem k_ga_forgetFlows_21 : decode me_ga_forgetFlows.2.1 21 = .ok (.checkcast 32, 3) := by decide +kernel
theorem k_ga_forgetFlows_24 : decode me_ga_forgetFlows.2.1 24 = .ok (.iconst 0, 1) := by decide +kernel
theorem k_ga_forgetFlows_25 : decode me_ga_forgetFlows.2.1 25 = .ok (.putfield 80, 3) := by decide +kernel
theorem k_ga_forgetFlows_28 : decode me_ga_forgetFlows.2.1 28 = .ok (.iinc 1 1, 3) := by decide +kernel
theorem k_ga_forgetFlows_31 : decode me_ga_forgetFlows.2.1 31 = .ok (.goto (-29), 3) := by decide +kernel
theorem k_ga_forgetFlows_34 : decode me_ga_forgetFlows.2.1 34 = .ok (.iconst 0, 1) := by decide +kernel
theorem k_ga_forgetFlows_35 : decode me_ga_forgetFlows.2.1 35 = .ok (.istore_n 1, 1) := by decide +kernel
theorem k_ga_forgetFlows_36 : decode me_ga_forgetFlows.2.1 36 = .ok (.iload_n 1, 1) := by decide +kernel
theorem k_ga_forgetFlows_37 : decode me_ga_forgetFlows.2.1 37 = .ok (.aload_n 0, 1) := by decide +kernel
theorem k_ga_forgetFlows_38 : decode me_ga_forgetFlows.2.1 38 = .ok (.getfield 18, 3) := by decide +kernel
theorem k_ga_forgetFlows_41 : decode me_ga_forgetFlows.2.1 41 = .ok (.invokevirtual 24, 3) := by decide +kernel
theorem k_ga_forgetFlows_44 : decode me_ga_forgetFlows.2.1 44 = .ok (.if_icmp .ge 24, 3) := by decide +kernel
theorem k_ga_forgetFlows_47 : decode me_ga_forgetFlows.2.1 47 = .ok (.aload_n 0, 1) := by decide +kernel
theorem k_ga_forgetFlows_48 : decode me_ga_forgetFlows.2.1 48 = .ok (.getfield 18, 3) := by decide +kernel
theorem k_ga_forgetFlows_51 : decode me_ga_forgetFlows.2.1 51 = .ok (.iload_n 1, 1) := by decide +kernel
theorem k_ga_forgetFlows_52 : decode me_ga_forgetFlows.2.1 52 = .ok (.invokevirtual 28, 3) := by decide +kernel
theorem k_ga_forgetFlows_55 : decode me_ga_forgetFlows.2.1 55 = .ok (.checkcast 34, 3) := by decide +kernel
theorem k_ga_forgetFlows_58 : decode me_ga_forgetFlows.2.1 58 = .ok (.iconst 0, 1) := by decide +kernel
theorem k_ga_forgetFlows_59 : decode me_ga_forgetFlows.2.1 59 = .ok (.putfield 53, 3) := by decide +kernel
theorem k_ga_forgetFlows_62 : decode me_ga_forgetFlows.2.1 62 = .ok (.iinc 1 1, 3) := by decide +kernel
theorem k_ga_forgetFlows_65 : decode me_ga_forgetFlows.2.1 65 = .ok (.goto (-29), 3) := by decide +kernel
theorem k_ga_forgetFlows_68 : decode me_ga_forgetFlows.2.1 68 = .ok (.return_, 1) := by decide +kernel
theorem k_jn_drawAmong_0 : decode me_jn_drawAmong.2.1 0 = .ok (.aload_n 0, 1) := by decide +kernel
theorem k_jn_drawAmong_1 : decode me_jn_drawAmong.2.1 1 = .ok (.getfield 48, 3) := by decide +kernel
theorem k_jn_drawAmong_4 : decode me_jn_drawAmong.2.1 4 = .ok (.ifnull 24, 3) := by decide +kernel
theorem k_jn_drawAmong_7 : decode me_jn_drawAmong.2.1 7 = .ok (.aload_n 0, 1) := by decide +kernel
theorem k_jn_drawAmong_8 : decode me_jn_drawAmong.2.1 8 = .ok (.getfield 48, 3) := by decide +kernel
theorem k_jn_drawAmong_11 : decode me_jn_drawAmong.2.1 11 = .ok (.iload_n 1, 1) := by decide +kernel
theorem k_jn_drawAmong_12 : decode me_jn_drawAmong.2.1 12 = .ok (.invokevirtual 52, 3) := by decide +kernel
theorem k_jn_drawAmong_15 : decode me_jn_drawAmong.2.1 15 = .ok (.ifCond .eq 13, 3) := by decide +kernel
theorem k_jn_drawAmong_18 : decode me_jn_drawAmong.2.1 18 = .ok (.aload_n 0, 1) := by decide +kernel
theorem k_jn_drawAmong_19 : decode me_jn_drawAmong.2.1 19 = .ok (.getfield 48, 3) := by decide +kernel
theorem k_jn_drawAmong_22 : decode me_jn_drawAmong.2.1 22 = .ok (.getfield 58, 3) := by decide +kernel
theorem k_jn_drawAmong_25 : decode me_jn_drawAmong.2.1 25 = .ok (.goto 4, 3) := by decide +kernel
theorem k_jn_drawAmong_28 : decode me_jn_drawAmong.2.1 28 = .ok (.iconst 0, 1) := by decide +kernel
theorem k_jn_drawAmong_29 : decode me_jn_drawAmong.2.1 29 = .ok (.ireturn, 1) := by decide +kernel
theorem k_ga_addFlowAhead_0 : decode me_ga_addFlowAhead.2.1 0 = .ok (.aload_n 1, 1) := by decide +kernel
theorem k_ga_addFlowAhead_1 : decode me_ga_addFlowAhead.2.1 1 = .ok (.getfield 73, 3) := by decide +kernel
theorem k_ga_addFlowAhead_4 : decode me_ga_addFlowAhead.2.1 4 = .ok (.ifnonnull 22, 3) := by decide +kernel
theorem k_ga_addFlowAhead_7 : decode me_ga_addFlowAhead.2.1 7 = .ok (.aload_n 1, 1) := by decide +kernel
theorem k_ga_addFlowAhead_8 : decode me_ga_addFlowAhead.2.1 8 = .ok (.getfield 81, 3) := by decide +kernel
theorem k_ga_addFlowAhead_11 : decode me_ga_addFlowAhead.2.1 11 = .ok (.dup, 1) := by decide +kernel
theorem k_ga_addFlowAhead_12 : decode me_ga_addFlowAhead.2.1 12 = .ok (.getfield 80, 3) := by decide +kernel
theorem k_ga_addFlowAhead_15 : decode me_ga_addFlowAhead.2.1 15 = .ok (.aload_n 1, 1) := by decide +kernel
theorem k_ga_addFlowAhead_16 : decode me_ga_addFlowAhead.2.1 16 = .ok (.getfield 53, 3) := by decide +kernel
theorem k_ga_addFlowAhead_19 : decode me_ga_addFlowAhead.2.1 19 = .ok (.iadd, 1) := by decide +kernel
theorem k_ga_addFlowAhead_20 : decode me_ga_addFlowAhead.2.1 20 = .ok (.putfield 80, 3) := by decide +kernel
theorem k_ga_addFlowAhead_23 : decode me_ga_addFlowAhead.2.1 23 = .ok (.goto 19, 3) := by decide +kernel
theorem k_ga_addFlowAhead_26 : decode me_ga_addFlowAhead.2.1 26 = .ok (.aload_n 1, 1) := by decide +kernel
theorem k_ga_addFlowAhead_27 : decode me_ga_addFlowAhead.2.1 27 = .ok (.getfield 73, 3) := by decide +kernel
theorem k_ga_addFlowAhead_30 : decode me_ga_addFlowAhead.2.1 30 = .ok (.dup, 1) := by decide +kernel
theorem k_ga_addFlowAhead_31 : decode me_ga_addFlowAhead.2.1 31 = .ok (.getfield 53, 3) := by decide +kernel
theorem k_ga_addFlowAhead_34 : decode me_ga_addFlowAhead.2.1 34 = .ok (.aload_n 1, 1) := by decide +kernel
theorem k_ga_addFlowAhead_35 : decode me_ga_addFlowAhead.2.1 35 = .ok (.getfield 53, 3) := by decide +kernel
theorem k_ga_addFlowAhead_38 : decode me_ga_addFlowAhead.2.1 38 = .ok (.iadd, 1) := by decide +kernel
theorem k_ga_addFlowAhead_39 : decode me_ga_addFlowAhead.2.1 39 = .ok (.putfield 53, 3) := by decide +kernel
theorem k_ga_addFlowAhead_42 : decode me_ga_addFlowAhead.2.1 42 = .ok (.return_, 1) := by decide +kernel
theorem k_jn_lossNow_0 : decode me_jn_lossNow.2.1 0 = .ok (.ldc2_w 30, 3) := by decide +kernel
theorem k_jn_lossNow_3 : decode me_jn_lossNow.2.1 3 = .ok (.aload_n 0, 1) := by decide +kernel
theorem k_jn_lossNow_4 : decode me_jn_lossNow.2.1 4 = .ok (.getfield 24, 3) := by decide +kernel
theorem k_jn_lossNow_7 : decode me_jn_lossNow.2.1 7 = .ok (.i2l, 1) := by decide +kernel
theorem k_jn_lossNow_8 : decode me_jn_lossNow.2.1 8 = .ok (.lmul, 1) := by decide +kernel
theorem k_jn_lossNow_9 : decode me_jn_lossNow.2.1 9 = .ok (.aload_n 0, 1) := by decide +kernel
theorem k_jn_lossNow_10 : decode me_jn_lossNow.2.1 10 = .ok (.getfield 24, 3) := by decide +kernel
theorem k_jn_lossNow_13 : decode me_jn_lossNow.2.1 13 = .ok (.i2l, 1) := by decide +kernel
theorem k_jn_lossNow_14 : decode me_jn_lossNow.2.1 14 = .ok (.lmul, 1) := by decide +kernel
theorem k_jn_lossNow_15 : decode me_jn_lossNow.2.1 15 = .ok (.lstore_n 1, 1) := by decide +kernel
theorem k_jn_lossNow_16 : decode me_jn_lossNow.2.1 16 = .ok (.lload_n 1, 1) := by decide +kernel
theorem k_jn_lossNow_17 : decode me_jn_lossNow.2.1 17 = .ok (.lconst 1, 1) := by decide +kernel
theorem k_jn_lossNow_18 : decode me_jn_lossNow.2.1 18 = .ok (.lcmp, 1) := by decide +kernel
theorem k_jn_lossNow_19 : decode me_jn_lossNow.2.1 19 = .ok (.ifCond .ge 7, 3) := by decide +kernel
theorem k_jn_lossNow_22 : decode me_jn_lossNow.2.1 22 = .ok (.iconst 0, 1) := by decide +kernel
theorem k_jn_lossNow_23 : decode me_jn_lossNow.2.1 23 = .ok (.goto 23, 3) := by decide +kernel
theorem k_jn_lossNow_26 : decode me_jn_lossNow.2.1 26 = .ok (.aload_n 0, 1) := by decide +kernel
theorem k_jn_lossNow_27 : decode me_jn_lossNow.2.1 27 = .ok (.getfield 32, 3) := by decide +kernel
theorem k_jn_lossNow_30 : decode me_jn_lossNow.2.1 30 = .ok (.i2l, 1) := by decide +kernel
theorem k_jn_lossNow_31 : decode me_jn_lossNow.2.1 31 = .ok (.aload_n 0, 1) := by decide +kernel
theorem k_jn_lossNow_32 : decode me_jn_lossNow.2.1 32 = .ok (.getfield 32, 3) := by decide +kernel
theorem k_jn_lossNow_35 : decode me_jn_lossNow.2.1 35 = .ok (.i2l, 1) := by decide +kernel
theorem k_jn_lossNow_36 : decode me_jn_lossNow.2.1 36 = .ok (.lmul, 1) := by decide +kernel
theorem k_jn_lossNow_37 : decode me_jn_lossNow.2.1 37 = .ok (.aload_n 0, 1) := by decide +kernel
theorem k_jn_lossNow_38 : decode me_jn_lossNow.2.1 38 = .ok (.getfield 27, 3) := by decide +kernel
theorem k_jn_lossNow_41 : decode me_jn_lossNow.2.1 41 = .ok (.i2l, 1) := by decide +kernel
theorem k_jn_lossNow_42 : decode me_jn_lossNow.2.1 42 = .ok (.lmul, 1) := by decide +kernel
theorem k_jn_lossNow_43 : decode me_jn_lossNow.2.1 43 = .ok (.lload_n 1, 1) := by decide +kernel
theorem k_jn_lossNow_44 : decode me_jn_lossNow.2.1 44 = .ok (.ldiv, 1) := by decide +kernel
theorem k_jn_lossNow_45 : decode me_jn_lossNow.2.1 45 = .ok (.l2i, 1) := by decide +kernel
theorem k_jn_lossNow_46 : decode me_jn_lossNow.2.1 46 = .ok (.ireturn, 1) := by decide +kernel
theorem k_fn_head_0 : decode me_fn_head.2.1 0 = .ok (.aload_n 0, 1) := by decide +kernel
theorem k_fn_head_1 : decode me_fn_head.2.1 1 = .ok (.getfield 12, 3) := by decide +kernel
theorem k_fn_head_4 : decode me_fn_head.2.1 4 = .ok (.iload_n 1, 1) := by decide +kernel
theorem k_fn_head_5 : decode me_fn_head.2.1 5 = .ok (.invokevirtual 89, 3) := by decide +kernel
theorem k_fn_head_8 : decode me_fn_head.2.1 8 = .ok (.astore_n 2, 1) := by decide +kernel
theorem k_fn_head_9 : decode me_fn_head.2.1 9 = .ok (.aload_n 2, 1) := by decide +kernel
theorem k_fn_head_10 : decode me_fn_head.2.1 10 = .ok (.ifnonnull 9, 3) := by decide +kernel
theorem k_fn_head_13 : decode me_fn_head.2.1 13 = .ok (.aload_n 0, 1) := by decide +kernel
theorem k_fn_head_14 : decode me_fn_head.2.1 14 = .ok (.iconst (-1), 1) := by decide +kernel
theorem k_fn_head_15 : decode me_fn_head.2.1 15 = .ok (.invokevirtual 150, 3) := by decide +kernel
theorem k_fn_head_18 : decode me_fn_head.2.1 18 = .ok (.ireturn, 1) := by decide +kernel
theorem k_fn_head_19 : decode me_fn_head.2.1 19 = .ok (.aload_n 0, 1) := by decide +kernel
theorem k_fn_head_20 : decode me_fn_head.2.1 20 = .ok (.getfield 12, 3) := by decide +kernel
theorem k_fn_head_23 : decode me_fn_head.2.1 23 = .ok (.invokevirtual 144, 3) := by decide +kernel
theorem k_fn_head_26 : decode me_fn_head.2.1 26 = .ok (.aload_n 2, 1) := by decide +kernel
theorem k_fn_head_27 : decode me_fn_head.2.1 27 = .ok (.aload_n 2, 1) := by decide +kernel
theorem k_fn_head_28 : decode me_fn_head.2.1 28 = .ok (.getfield 153, 3) := by decide +kernel
theorem k_fn_head_31 : decode me_fn_head.2.1 31 = .ok (.getfield 157, 3) := by decide +kernel
theorem k_fn_head_34 : decode me_fn_head.2.1 34 = .ok (.invokevirtual 160, 3) := by decide +kernel
theorem k_fn_head_37 : decode me_fn_head.2.1 37 = .ok (.ireturn, 1) := by decide +kernel
theorem k_fn_refuseAsTold_0 : decode me_fn_refuseAsTold.2.1 0 = .ok (.ldc_w 307, 3) := by decide +kernel
theorem k_fn_refuseAsTold_3 : decode me_fn_refuseAsTold.2.1 3 = .ok (.aload_n 0, 1) := by decide +kernel
theorem k_fn_refuseAsTold_4 : decode me_fn_refuseAsTold.2.1 4 = .ok (.iload_n 1, 1) := by decide +kernel
theorem k_fn_refuseAsTold_5 : decode me_fn_refuseAsTold.2.1 5 = .ok (.invokevirtual 56, 3) := by decide +kernel
theorem k_fn_refuseAsTold_8 : decode me_fn_refuseAsTold.2.1 8 = .ok (.isub, 1) := by decide +kernel
theorem k_fn_refuseAsTold_9 : decode me_fn_refuseAsTold.2.1 9 = .ok (.ireturn, 1) := by decide +kernel
theorem k_jn_headWith_0 : decode me_jn_headWith.2.1 0 = .ok (.aload_n 0, 1) := by decide +kernel
theorem k_jn_headWith_1 : decode me_jn_headWith.2.1 1 = .ok (.getfield 35, 3) := by decide +kernel
theorem k_jn_headWith_4 : decode me_jn_headWith.2.1 4 = .ok (.ifCond .ne 7, 3) := by decide +kernel
theorem k_jn_headWith_7 : decode me_jn_headWith.2.1 7 = .ok (.iload_n 1, 1) := by decide +kernel
theorem k_jn_headWith_8 : decode me_jn_headWith.2.1 8 = .ok (.ifCond .ne 7, 3) := by decide +kernel
theorem k_jn_headWith_11 : decode me_jn_headWith.2.1 11 = .ok (.iconst 1, 1) := by decide +kernel
theorem k_jn_headWith_12 : decode me_jn_headWith.2.1 12 = .ok (.goto 4, 3) := by decide +kernel
theorem k_jn_headWith_15 : decode me_jn_headWith.2.1 15 = .ok (.iconst 0, 1) := by decide +kernel
theorem k_jn_headWith_16 : decode me_jn_headWith.2.1 16 = .ok (.istore_n 2, 1) := by decide +kernel
theorem k_jn_headWith_17 : decode me_jn_headWith.2.1 17 = .ok (.iload_n 2, 1) := by decide +kernel
theorem k_jn_headWith_18 : decode me_jn_headWith.2.1 18 = .ok (.ifCond .eq 7, 3) := by decide +kernel
theorem k_jn_headWith_21 : decode me_jn_headWith.2.1 21 = .ok (.iconst 0, 1) := by decide +kernel
theorem k_jn_headWith_22 : decode me_jn_headWith.2.1 22 = .ok (.goto 21, 3) := by decide +kernel
theorem k_jn_headWith_25 : decode me_jn_headWith.2.1 25 = .ok (.aload_n 0, 1) := by decide +kernel
theorem k_jn_headWith_26 : decode me_jn_headWith.2.1 26 = .ok (.getfield 13, 3) := by decide +kernel
theorem k_jn_headWith_29 : decode me_jn_headWith.2.1 29 = .ok (.iload_n 1, 1) := by decide +kernel
theorem k_jn_headWith_30 : decode me_jn_headWith.2.1 30 = .ok (.invokevirtual 39, 3) := by decide +kernel
theorem k_jn_headWith_33 : decode me_jn_headWith.2.1 33 = .ok (.aload_n 0, 1) := by decide +kernel
theorem k_jn_headWith_34 : decode me_jn_headWith.2.1 34 = .ok (.getfield 45, 3) := by decide +kernel
theorem k_jn_headWith_37 : decode me_jn_headWith.2.1 37 = .ok (.isub, 1) := by decide +kernel
theorem k_jn_headWith_38 : decode me_jn_headWith.2.1 38 = .ok (.aload_n 0, 1) := by decide +kernel
theorem k_jn_headWith_39 : decode me_jn_headWith.2.1 39 = .ok (.getfield 21, 3) := by decide +kernel
theorem k_jn_headWith_42 : decode me_jn_headWith.2.1 42 = .ok (.isub, 1) := by decide +kernel
theorem k_jn_headWith_43 : decode me_jn_headWith.2.1 43 = .ok (.ireturn, 1) := by decide +kernel
theorem k_tk_levelWith_0 : decode me_tk_levelWith.2.1 0 = .ok (.aload_n 0, 1) := by decide +kernel
theorem k_tk_levelWith_1 : decode me_tk_levelWith.2.1 1 = .ok (.getfield 16, 3) := by decide +kernel
theorem k_tk_levelWith_4 : decode me_tk_levelWith.2.1 4 = .ok (.iconst 1, 1) := by decide +kernel
theorem k_tk_levelWith_5 : decode me_tk_levelWith.2.1 5 = .ok (.if_icmp .ge 10, 3) := by decide +kernel
theorem k_tk_levelWith_8 : decode me_tk_levelWith.2.1 8 = .ok (.aload_n 0, 1) := by decide +kernel
theorem k_tk_levelWith_9 : decode me_tk_levelWith.2.1 9 = .ok (.getfield 13, 3) := by decide +kernel
theorem k_tk_levelWith_12 : decode me_tk_levelWith.2.1 12 = .ok (.goto 14, 3) := by decide +kernel
theorem k_tk_levelWith_15 : decode me_tk_levelWith.2.1 15 = .ok (.aload_n 0, 1) := by decide +kernel
theorem k_tk_levelWith_16 : decode me_tk_levelWith.2.1 16 = .ok (.getfield 13, 3) := by decide +kernel
theorem k_tk_levelWith_19 : decode me_tk_levelWith.2.1 19 = .ok (.iload_n 1, 1) := by decide +kernel
theorem k_tk_levelWith_20 : decode me_tk_levelWith.2.1 20 = .ok (.aload_n 0, 1) := by decide +kernel
theorem k_tk_levelWith_21 : decode me_tk_levelWith.2.1 21 = .ok (.getfield 16, 3) := by decide +kernel
theorem k_tk_levelWith_24 : decode me_tk_levelWith.2.1 24 = .ok (.idiv, 1) := by decide +kernel
theorem k_tk_levelWith_25 : decode me_tk_levelWith.2.1 25 = .ok (.iadd, 1) := by decide +kernel
theorem k_tk_levelWith_26 : decode me_tk_levelWith.2.1 26 = .ok (.ireturn, 1) := by decide +kernel
theorem k_fn_rise_0 : decode me_fn_rise.2.1 0 = .ok (.aload_n 0, 1) := by decide +kernel
theorem k_fn_rise_1 : decode me_fn_rise.2.1 1 = .ok (.getfield 12, 3) := by decide +kernel
theorem k_fn_rise_4 : decode me_fn_rise.2.1 4 = .ok (.iload_n 1, 1) := by decide +kernel
theorem k_fn_rise_5 : decode me_fn_rise.2.1 5 = .ok (.invokevirtual 121, 3) := by decide +kernel
theorem k_fn_rise_8 : decode me_fn_rise.2.1 8 = .ok (.astore_n 2, 1) := by decide +kernel
theorem k_fn_rise_9 : decode me_fn_rise.2.1 9 = .ok (.aload_n 2, 1) := by decide +kernel
theorem k_fn_rise_10 : decode me_fn_rise.2.1 10 = .ok (.ifnonnull 9, 3) := by decide +kernel
theorem k_fn_rise_13 : decode me_fn_rise.2.1 13 = .ok (.aload_n 0, 1) := by decide +kernel
theorem k_fn_rise_14 : decode me_fn_rise.2.1 14 = .ok (.iconst (-1), 1) := by decide +kernel
theorem k_fn_rise_15 : decode me_fn_rise.2.1 15 = .ok (.invokevirtual 56, 3) := by decide +kernel
theorem k_fn_rise_18 : decode me_fn_rise.2.1 18 = .ok (.ireturn, 1) := by decide +kernel
theorem k_fn_rise_19 : decode me_fn_rise.2.1 19 = .ok (.aload_n 0, 1) := by decide +kernel
theorem k_fn_rise_20 : decode me_fn_rise.2.1 20 = .ok (.getfield 12, 3) := by decide +kernel
theorem k_fn_rise_23 : decode me_fn_rise.2.1 23 = .ok (.invokevirtual 144, 3) := by decide +kernel
theorem k_fn_rise_26 : decode me_fn_rise.2.1 26 = .ok (.aload_n 2, 1) := by decide +kernel
theorem k_fn_rise_27 : decode me_fn_rise.2.1 27 = .ok (.aload_n 0, 1) := by decide +kernel
theorem k_fn_rise_28 : decode me_fn_rise.2.1 28 = .ok (.getfield 12, 3) := by decide +kernel
theorem k_fn_rise_31 : decode me_fn_rise.2.1 31 = .ok (.getfield 129, 3) := by decide +kernel
theorem k_fn_rise_34 : decode me_fn_rise.2.1 34 = .ok (.aload_n 2, 1) := by decide +kernel
theorem k_fn_rise_35 : decode me_fn_rise.2.1 35 = .ok (.getfield 125, 3) := by decide +kernel
theorem k_fn_rise_38 : decode me_fn_rise.2.1 38 = .ok (.getfield 153, 3) := by decide +kernel
theorem k_fn_rise_41 : decode me_fn_rise.2.1 41 = .ok (.getfield 157, 3) := by decide +kernel
theorem k_fn_rise_44 : decode me_fn_rise.2.1 44 = .ok (.invokevirtual 163, 3) := by decide +kernel
theorem k_fn_rise_47 : decode me_fn_rise.2.1 47 = .ok (.ireturn, 1) := by decide +kernel
theorem k_je_riseAmong_0 : decode me_je_riseAmong.2.1 0 = .ok (.aload_n 0, 1) := by decide +kernel
theorem k_je_riseAmong_1 : decode me_je_riseAmong.2.1 1 = .ok (.iload_n 1, 1) := by decide +kernel
theorem k_je_riseAmong_2 : decode me_je_riseAmong.2.1 2 = .ok (.invokevirtual 26, 3) := by decide +kernel
theorem k_je_riseAmong_5 : decode me_je_riseAmong.2.1 5 = .ok (.ifCond .eq 24, 3) := by decide +kernel
theorem k_je_riseAmong_8 : decode me_je_riseAmong.2.1 8 = .ok (.aload_n 0, 1) := by decide +kernel
theorem k_je_riseAmong_9 : decode me_je_riseAmong.2.1 9 = .ok (.getfield 16, 3) := by decide +kernel
theorem k_je_riseAmong_12 : decode me_je_riseAmong.2.1 12 = .ok (.iload_n 2, 1) := by decide +kernel
theorem k_je_riseAmong_13 : decode me_je_riseAmong.2.1 13 = .ok (.invokevirtual 30, 3) := by decide +kernel
theorem k_je_riseAmong_16 : decode me_je_riseAmong.2.1 16 = .ok (.iconst 0, 1) := by decide +kernel
theorem k_je_riseAmong_17 : decode me_je_riseAmong.2.1 17 = .ok (.invokestatic 36, 3) := by decide +kernel
theorem k_je_riseAmong_20 : decode me_je_riseAmong.2.1 20 = .ok (.bipush 9, 2) := by decide +kernel
theorem k_je_riseAmong_22 : decode me_je_riseAmong.2.1 22 = .ok (.imul, 1) := by decide +kernel
theorem k_je_riseAmong_23 : decode me_je_riseAmong.2.1 23 = .ok (.bipush 10, 2) := by decide +kernel
theorem k_je_riseAmong_25 : decode me_je_riseAmong.2.1 25 = .ok (.idiv, 1) := by decide +kernel
theorem k_je_riseAmong_26 : decode me_je_riseAmong.2.1 26 = .ok (.goto 4, 3) := by decide +kernel
theorem k_je_riseAmong_29 : decode me_je_riseAmong.2.1 29 = .ok (.iconst 0, 1) := by decide +kernel
theorem k_je_riseAmong_30 : decode me_je_riseAmong.2.1 30 = .ok (.ireturn, 1) := by decide +kernel
theorem k_fn_share_0 : decode me_fn_share.2.1 0 = .ok (.aload_n 0, 1) := by decide +kernel
theorem k_fn_share_1 : decode me_fn_share.2.1 1 = .ok (.getfield 12, 3) := by decide +kernel
theorem k_fn_share_4 : decode me_fn_share.2.1 4 = .ok (.iload_n 1, 1) := by decide +kernel
theorem k_fn_share_5 : decode me_fn_share.2.1 5 = .ok (.invokevirtual 121, 3) := by decide +kernel
theorem k_fn_share_8 : decode me_fn_share.2.1 8 = .ok (.astore_n 3, 1) := by decide +kernel
theorem k_fn_share_9 : decode me_fn_share.2.1 9 = .ok (.aload_n 0, 1) := by decide +kernel
theorem k_fn_share_10 : decode me_fn_share.2.1 10 = .ok (.getfield 12, 3) := by decide +kernel
theorem k_fn_share_13 : decode me_fn_share.2.1 13 = .ok (.iload_n 2, 1) := by decide +kernel
theorem k_fn_share_14 : decode me_fn_share.2.1 14 = .ok (.invokevirtual 121, 3) := by decide +kernel
theorem k_fn_share_17 : decode me_fn_share.2.1 17 = .ok (.astore 4, 2) := by decide +kernel
theorem k_fn_share_19 : decode me_fn_share.2.1 19 = .ok (.aload_n 3, 1) := by decide +kernel
theorem k_fn_share_20 : decode me_fn_share.2.1 20 = .ok (.ifnull 14, 3) := by decide +kernel
theorem k_fn_share_23 : decode me_fn_share.2.1 23 = .ok (.aload 4, 2) := by decide +kernel
theorem k_fn_share_25 : decode me_fn_share.2.1 25 = .ok (.ifnull 9, 3) := by decide +kernel
theorem k_fn_share_28 : decode me_fn_share.2.1 28 = .ok (.aload_n 3, 1) := by decide +kernel
theorem k_fn_share_29 : decode me_fn_share.2.1 29 = .ok (.aload 4, 2) := by decide +kernel
theorem k_fn_share_31 : decode me_fn_share.2.1 31 = .ok (.if_acmp .ne 9, 3) := by decide +kernel
theorem k_fn_share_34 : decode me_fn_share.2.1 34 = .ok (.aload_n 0, 1) := by decide +kernel
theorem k_fn_share_35 : decode me_fn_share.2.1 35 = .ok (.iconst (-1), 1) := by decide +kernel
theorem k_fn_share_36 : decode me_fn_share.2.1 36 = .ok (.invokevirtual 56, 3) := by decide +kernel
theorem k_fn_share_39 : decode me_fn_share.2.1 39 = .ok (.ireturn, 1) := by decide +kernel
theorem k_fn_share_40 : decode me_fn_share.2.1 40 = .ok (.aload_n 3, 1) := by decide +kernel
theorem k_fn_share_41 : decode me_fn_share.2.1 41 = .ok (.aload_n 0, 1) := by decide +kernel
theorem k_fn_share_42 : decode me_fn_share.2.1 42 = .ok (.getfield 12, 3) := by decide +kernel
theorem k_fn_share_45 : decode me_fn_share.2.1 45 = .ok (.getfield 129, 3) := by decide +kernel
theorem k_fn_share_48 : decode me_fn_share.2.1 48 = .ok (.invokevirtual 132, 3) := by decide +kernel
theorem k_fn_share_51 : decode me_fn_share.2.1 51 = .ok (.ifCond .eq 18, 3) := by decide +kernel
theorem k_fn_share_54 : decode me_fn_share.2.1 54 = .ok (.aload 4, 2) := by decide +kernel
theorem k_fn_share_56 : decode me_fn_share.2.1 56 = .ok (.aload_n 0, 1) := by decide +kernel
theorem k_fn_share_57 : decode me_fn_share.2.1 57 = .ok (.getfield 12, 3) := by decide +kernel
theorem k_fn_share_60 : decode me_fn_share.2.1 60 = .ok (.getfield 129, 3) := by decide +kernel
theorem k_fn_share_63 : decode me_fn_share.2.1 63 = .ok (.invokevirtual 132, 3) := by decide +kernel
theorem k_fn_share_66 : decode me_fn_share.2.1 66 = .ok (.ifCond .ne 10, 3) := by decide +kernel
theorem k_fn_share_69 : decode me_fn_share.2.1 69 = .ok (.aload_n 0, 1) := by decide +kernel
theorem k_fn_share_70 : decode me_fn_share.2.1 70 = .ok (.bipush (-3), 2) := by decide +kernel
theorem k_fn_share_72 : decode me_fn_share.2.1 72 = .ok (.invokevirtual 56, 3) := by decide +kernel
theorem k_fn_share_75 : decode me_fn_share.2.1 75 = .ok (.ireturn, 1) := by decide +kernel
theorem k_fn_share_76 : decode me_fn_share.2.1 76 = .ok (.aload_n 3, 1) := by decide +kernel
theorem k_fn_share_77 : decode me_fn_share.2.1 77 = .ok (.getfield 125, 3) := by decide +kernel
theorem k_fn_share_80 : decode me_fn_share.2.1 80 = .ok (.getfield 153, 3) := by decide +kernel
theorem k_fn_share_83 : decode me_fn_share.2.1 83 = .ok (.getfield 157, 3) := by decide +kernel
theorem k_fn_share_86 : decode me_fn_share.2.1 86 = .ok (.istore 5, 2) := by decide +kernel
theorem k_fn_share_88 : decode me_fn_share.2.1 88 = .ok (.aload_n 0, 1) := by decide +kernel
theorem k_fn_share_89 : decode me_fn_share.2.1 89 = .ok (.getfield 12, 3) := by decide +kernel
theorem k_fn_share_92 : decode me_fn_share.2.1 92 = .ok (.invokevirtual 144, 3) := by decide +kernel
theorem k_fn_share_95 : decode me_fn_share.2.1 95 = .ok (.aload_n 3, 1) := by decide +kernel
theorem k_fn_share_96 : decode me_fn_share.2.1 96 = .ok (.aload_n 0, 1) := by decide +kernel
theorem k_fn_share_97 : decode me_fn_share.2.1 97 = .ok (.getfield 12, 3) := by decide +kernel
theorem k_fn_share_100 : decode me_fn_share.2.1 100 = .ok (.getfield 129, 3) := by decide +kernel
theorem k_fn_share_103 : decode me_fn_share.2.1 103 = .ok (.iload 5, 2) := by decide +kernel
theorem k_fn_share_105 : decode me_fn_share.2.1 105 = .ok (.invokevirtual 163, 3) := by decide +kernel
theorem k_fn_share_108 : decode me_fn_share.2.1 108 = .ok (.istore 6, 2) := by decide +kernel
theorem k_fn_share_110 : decode me_fn_share.2.1 110 = .ok (.aload_n 0, 1) := by decide +kernel
theorem k_fn_share_111 : decode me_fn_share.2.1 111 = .ok (.getfield 12, 3) := by decide +kernel
theorem k_fn_share_114 : decode me_fn_share.2.1 114 = .ok (.getfield 129, 3) := by decide +kernel
theorem k_fn_share_117 : decode me_fn_share.2.1 117 = .ok (.aload 4, 2) := by decide +kernel
theorem k_fn_share_119 : decode me_fn_share.2.1 119 = .ok (.getfield 136, 3) := by decide +kernel
theorem k_fn_share_122 : decode me_fn_share.2.1 122 = .ok (.iconst (-1), 1) := by decide +kernel
theorem k_fn_share_123 : decode me_fn_share.2.1 123 = .ok (.ixor, 1) := by decide +kernel
theorem k_fn_share_124 : decode me_fn_share.2.1 124 = .ok (.iand, 1) := by decide +kernel
theorem k_fn_share_125 : decode me_fn_share.2.1 125 = .ok (.istore 7, 2) := by decide +kernel
theorem k_fn_share_127 : decode me_fn_share.2.1 127 = .ok (.aload_n 0, 1) := by decide +kernel
theorem k_fn_share_128 : decode me_fn_share.2.1 128 = .ok (.getfield 12, 3) := by decide +kernel
theorem k_fn_share_131 : decode me_fn_share.2.1 131 = .ok (.iload 7, 2) := by decide +kernel
theorem k_fn_share_133 : decode me_fn_share.2.1 133 = .ok (.iconst 0, 1) := by decide +kernel
theorem k_fn_share_134 : decode me_fn_share.2.1 134 = .ok (.invokevirtual 167, 3) := by decide +kernel
theorem k_fn_share_137 : decode me_fn_share.2.1 137 = .ok (.aload_n 3, 1) := by decide +kernel
theorem k_fn_share_138 : decode me_fn_share.2.1 138 = .ok (.iload 7, 2) := by decide +kernel
theorem k_fn_share_140 : decode me_fn_share.2.1 140 = .ok (.iload 5, 2) := by decide +kernel
theorem k_fn_share_142 : decode me_fn_share.2.1 142 = .ok (.invokevirtual 163, 3) := by decide +kernel
theorem k_fn_share_145 : decode me_fn_share.2.1 145 = .ok (.iload 6, 2) := by decide +kernel
theorem k_fn_share_147 : decode me_fn_share.2.1 147 = .ok (.isub, 1) := by decide +kernel
theorem k_fn_share_148 : decode me_fn_share.2.1 148 = .ok (.ireturn, 1) := by decide +kernel
theorem k_fn_minutes_0 : decode me_fn_minutes.2.1 0 = .ok (.iload_n 1, 1) := by decide +kernel
theorem k_fn_minutes_1 : decode me_fn_minutes.2.1 1 = .ok (.iconst 1, 1) := by decide +kernel
theorem k_fn_minutes_2 : decode me_fn_minutes.2.1 2 = .ok (.if_icmp .ge 10, 3) := by decide +kernel
theorem k_fn_minutes_5 : decode me_fn_minutes.2.1 5 = .ok (.aload_n 0, 1) := by decide +kernel
theorem k_fn_minutes_6 : decode me_fn_minutes.2.1 6 = .ok (.bipush (-4), 2) := by decide +kernel
theorem k_fn_minutes_8 : decode me_fn_minutes.2.1 8 = .ok (.invokevirtual 56, 3) := by decide +kernel
theorem k_fn_minutes_11 : decode me_fn_minutes.2.1 11 = .ok (.ireturn, 1) := by decide +kernel
theorem k_fn_minutes_12 : decode me_fn_minutes.2.1 12 = .ok (.iload_n 1, 1) := by decide +kernel
theorem k_fn_minutes_13 : decode me_fn_minutes.2.1 13 = .ok (.sipush 1440, 3) := by decide +kernel
theorem k_fn_minutes_16 : decode me_fn_minutes.2.1 16 = .ok (.aload_n 0, 1) := by decide +kernel
theorem k_fn_minutes_17 : decode me_fn_minutes.2.1 17 = .ok (.getfield 12, 3) := by decide +kernel
theorem k_fn_minutes_20 : decode me_fn_minutes.2.1 20 = .ok (.getfield 171, 3) := by decide +kernel
theorem k_fn_minutes_23 : decode me_fn_minutes.2.1 23 = .ok (.isub, 1) := by decide +kernel
theorem k_fn_minutes_24 : decode me_fn_minutes.2.1 24 = .ok (.if_icmp .le 10, 3) := by decide +kernel
theorem k_fn_minutes_27 : decode me_fn_minutes.2.1 27 = .ok (.aload_n 0, 1) := by decide +kernel
theorem k_fn_minutes_28 : decode me_fn_minutes.2.1 28 = .ok (.bipush (-6), 2) := by decide +kernel
theorem k_fn_minutes_30 : decode me_fn_minutes.2.1 30 = .ok (.invokevirtual 56, 3) := by decide +kernel
theorem k_fn_minutes_33 : decode me_fn_minutes.2.1 33 = .ok (.ireturn, 1) := by decide +kernel
theorem k_fn_minutes_34 : decode me_fn_minutes.2.1 34 = .ok (.aload_n 0, 1) := by decide +kernel
theorem k_fn_minutes_35 : decode me_fn_minutes.2.1 35 = .ok (.getfield 12, 3) := by decide +kernel
theorem k_fn_minutes_38 : decode me_fn_minutes.2.1 38 = .ok (.invokevirtual 144, 3) := by decide +kernel
theorem k_fn_minutes_41 : decode me_fn_minutes.2.1 41 = .ok (.iconst 0, 1) := by decide +kernel
theorem k_fn_minutes_42 : decode me_fn_minutes.2.1 42 = .ok (.istore_n 2, 1) := by decide +kernel
theorem k_fn_minutes_43 : decode me_fn_minutes.2.1 43 = .ok (.iload_n 2, 1) := by decide +kernel
theorem k_fn_minutes_44 : decode me_fn_minutes.2.1 44 = .ok (.aload_n 0, 1) := by decide +kernel
theorem k_fn_minutes_45 : decode me_fn_minutes.2.1 45 = .ok (.getfield 12, 3) := by decide +kernel
theorem k_fn_minutes_48 : decode me_fn_minutes.2.1 48 = .ok (.getfield 60, 3) := by decide +kernel
theorem k_fn_minutes_51 : decode me_fn_minutes.2.1 51 = .ok (.invokevirtual 63, 3) := by decide +kernel
theorem k_fn_minutes_54 : decode me_fn_minutes.2.1 54 = .ok (.if_icmp .ge 27, 3) := by decide +kernel
theorem k_fn_minutes_57 : decode me_fn_minutes.2.1 57 = .ok (.aload_n 0, 1) := by decide +kernel
theorem k_fn_minutes_58 : decode me_fn_minutes.2.1 58 = .ok (.getfield 12, 3) := by decide +kernel
theorem k_fn_minutes_61 : decode me_fn_minutes.2.1 61 = .ok (.getfield 60, 3) := by decide +kernel
theorem k_fn_minutes_64 : decode me_fn_minutes.2.1 64 = .ok (.iload_n 2, 1) := by decide +kernel
theorem k_fn_minutes_65 : decode me_fn_minutes.2.1 65 = .ok (.invokevirtual 174, 3) := by decide +kernel
theorem k_fn_minutes_68 : decode me_fn_minutes.2.1 68 = .ok (.checkcast 67, 3) := by decide +kernel
theorem k_fn_minutes_71 : decode me_fn_minutes.2.1 71 = .ok (.iload_n 1, 1) := by decide +kernel
theorem k_fn_minutes_72 : decode me_fn_minutes.2.1 72 = .ok (.invokevirtual 178, 3) := by decide +kernel
theorem k_fn_minutes_75 : decode me_fn_minutes.2.1 75 = .ok (.iinc 2 1, 3) := by decide +kernel
theorem k_fn_minutes_78 : decode me_fn_minutes.2.1 78 = .ok (.goto (-35), 3) := by decide +kernel
theorem k_fn_minutes_81 : decode me_fn_minutes.2.1 81 = .ok (.aload_n 0, 1) := by decide +kernel
theorem k_fn_minutes_82 : decode me_fn_minutes.2.1 82 = .ok (.getfield 12, 3) := by decide +kernel
theorem k_fn_minutes_85 : decode me_fn_minutes.2.1 85 = .ok (.dup, 1) := by decide +kernel
theorem k_fn_minutes_86 : decode me_fn_minutes.2.1 86 = .ok (.getfield 171, 3) := by decide +kernel
theorem k_fn_minutes_89 : decode me_fn_minutes.2.1 89 = .ok (.iload_n 1, 1) := by decide +kernel
theorem k_fn_minutes_90 : decode me_fn_minutes.2.1 90 = .ok (.iadd, 1) := by decide +kernel
theorem k_fn_minutes_91 : decode me_fn_minutes.2.1 91 = .ok (.putfield 171, 3) := by decide +kernel
theorem k_fn_minutes_94 : decode me_fn_minutes.2.1 94 = .ok (.aload_n 0, 1) := by decide +kernel
theorem k_fn_minutes_95 : decode me_fn_minutes.2.1 95 = .ok (.getfield 12, 3) := by decide +kernel
theorem k_fn_minutes_98 : decode me_fn_minutes.2.1 98 = .ok (.getfield 171, 3) := by decide +kernel
theorem k_fn_minutes_101 : decode me_fn_minutes.2.1 101 = .ok (.ireturn, 1) := by decide +kernel
theorem k_tk_passMinutes_0 : decode me_tk_passMinutes.2.1 0 = .ok (.iconst 0, 1) := by decide +kernel
theorem k_tk_passMinutes_1 : decode me_tk_passMinutes.2.1 1 = .ok (.istore_n 2, 1) := by decide +kernel
theorem k_tk_passMinutes_2 : decode me_tk_passMinutes.2.1 2 = .ok (.iload_n 2, 1) := by decide +kernel
theorem k_tk_passMinutes_3 : decode me_tk_passMinutes.2.1 3 = .ok (.iload_n 1, 1) := by decide +kernel
theorem k_tk_passMinutes_4 : decode me_tk_passMinutes.2.1 4 = .ok (.if_icmp .ge 69, 3) := by decide +kernel
theorem k_tk_passMinutes_7 : decode me_tk_passMinutes.2.1 7 = .ok (.aload_n 0, 1) := by decide +kernel
theorem k_tk_passMinutes_8 : decode me_tk_passMinutes.2.1 8 = .ok (.aload_n 0, 1) := by decide +kernel
theorem k_tk_passMinutes_9 : decode me_tk_passMinutes.2.1 9 = .ok (.getfield 25, 3) := by decide +kernel
theorem k_tk_passMinutes_12 : decode me_tk_passMinutes.2.1 12 = .ok (.invokevirtual 38, 3) := by decide +kernel
theorem k_tk_passMinutes_15 : decode me_tk_passMinutes.2.1 15 = .ok (.istore_n 3, 1) := by decide +kernel
theorem k_tk_passMinutes_16 : decode me_tk_passMinutes.2.1 16 = .ok (.aload_n 0, 1) := by decide +kernel
theorem k_tk_passMinutes_17 : decode me_tk_passMinutes.2.1 17 = .ok (.dup, 1) := by decide +kernel
theorem k_tk_passMinutes_18 : decode me_tk_passMinutes.2.1 18 = .ok (.getfield 48, 3) := by decide +kernel
theorem k_tk_passMinutes_21 : decode me_tk_passMinutes.2.1 21 = .ok (.aload_n 0, 1) := by decide +kernel
theorem k_tk_passMinutes_22 : decode me_tk_passMinutes.2.1 22 = .ok (.getfield 25, 3) := by decide +kernel
theorem k_tk_passMinutes_25 : decode me_tk_passMinutes.2.1 25 = .ok (.aload_n 0, 1) := by decide +kernel
theorem k_tk_passMinutes_26 : decode me_tk_passMinutes.2.1 26 = .ok (.getfield 22, 3) := by decide +kernel
theorem k_tk_passMinutes_29 : decode me_tk_passMinutes.2.1 29 = .ok (.iadd, 1) := by decide +kernel
theorem k_tk_passMinutes_30 : decode me_tk_passMinutes.2.1 30 = .ok (.iload_n 3, 1) := by decide +kernel
theorem k_tk_passMinutes_31 : decode me_tk_passMinutes.2.1 31 = .ok (.isub, 1) := by decide +kernel
theorem k_tk_passMinutes_32 : decode me_tk_passMinutes.2.1 32 = .ok (.iadd, 1) := by decide +kernel
theorem k_tk_passMinutes_33 : decode me_tk_passMinutes.2.1 33 = .ok (.putfield 48, 3) := by decide +kernel
theorem k_tk_passMinutes_36 : decode me_tk_passMinutes.2.1 36 = .ok (.aload_n 0, 1) := by decide +kernel
theorem k_tk_passMinutes_37 : decode me_tk_passMinutes.2.1 37 = .ok (.dup, 1) := by decide +kernel
theorem k_tk_passMinutes_38 : decode me_tk_passMinutes.2.1 38 = .ok (.getfield 51, 3) := by decide +kernel
theorem k_tk_passMinutes_41 : decode me_tk_passMinutes.2.1 41 = .ok (.aload_n 0, 1) := by decide +kernel
theorem k_tk_passMinutes_42 : decode me_tk_passMinutes.2.1 42 = .ok (.getfield 42, 3) := by decide +kernel
theorem k_tk_passMinutes_45 : decode me_tk_passMinutes.2.1 45 = .ok (.iload_n 3, 1) := by decide +kernel
theorem k_tk_passMinutes_46 : decode me_tk_passMinutes.2.1 46 = .ok (.isub, 1) := by decide +kernel
theorem k_tk_passMinutes_47 : decode me_tk_passMinutes.2.1 47 = .ok (.iconst 0, 1) := by decide +kernel
theorem k_tk_passMinutes_48 : decode me_tk_passMinutes.2.1 48 = .ok (.invokestatic 45, 3) := by decide +kernel
theorem k_tk_passMinutes_51 : decode me_tk_passMinutes.2.1 51 = .ok (.iadd, 1) := by decide +kernel
theorem k_tk_passMinutes_52 : decode me_tk_passMinutes.2.1 52 = .ok (.putfield 51, 3) := by decide +kernel
theorem k_tk_passMinutes_55 : decode me_tk_passMinutes.2.1 55 = .ok (.aload_n 0, 1) := by decide +kernel
theorem k_tk_passMinutes_56 : decode me_tk_passMinutes.2.1 56 = .ok (.aload_n 0, 1) := by decide +kernel
theorem k_tk_passMinutes_57 : decode me_tk_passMinutes.2.1 57 = .ok (.aload_n 0, 1) := by decide +kernel
theorem k_tk_passMinutes_58 : decode me_tk_passMinutes.2.1 58 = .ok (.getfield 25, 3) := by decide +kernel
theorem k_tk_passMinutes_61 : decode me_tk_passMinutes.2.1 61 = .ok (.invokevirtual 54, 3) := by decide +kernel
theorem k_tk_passMinutes_64 : decode me_tk_passMinutes.2.1 64 = .ok (.putfield 25, 3) := by decide +kernel
theorem k_tk_passMinutes_67 : decode me_tk_passMinutes.2.1 67 = .ok (.iinc 2 1, 3) := by decide +kernel
theorem k_tk_passMinutes_70 : decode me_tk_passMinutes.2.1 70 = .ok (.goto (-68), 3) := by decide +kernel
theorem k_tk_passMinutes_73 : decode me_tk_passMinutes.2.1 73 = .ok (.return_, 1) := by decide +kernel
theorem k_tk_withSpring_0 : decode me_tk_withSpring.2.1 0 = .ok (.iload_n 1, 1) := by decide +kernel
theorem k_tk_withSpring_1 : decode me_tk_withSpring.2.1 1 = .ok (.aload_n 0, 1) := by decide +kernel
theorem k_tk_withSpring_2 : decode me_tk_withSpring.2.1 2 = .ok (.getfield 22, 3) := by decide +kernel
theorem k_tk_withSpring_5 : decode me_tk_withSpring.2.1 5 = .ok (.iadd, 1) := by decide +kernel
theorem k_tk_withSpring_6 : decode me_tk_withSpring.2.1 6 = .ok (.aload_n 0, 1) := by decide +kernel
theorem k_tk_withSpring_7 : decode me_tk_withSpring.2.1 7 = .ok (.invokevirtual 28, 3) := by decide +kernel
theorem k_tk_withSpring_10 : decode me_tk_withSpring.2.1 10 = .ok (.invokestatic 32, 3) := by decide +kernel
theorem k_tk_withSpring_13 : decode me_tk_withSpring.2.1 13 = .ok (.ireturn, 1) := by decide +kernel
theorem k_tk_waterAfterMinute_0 : decode me_tk_waterAfterMinute.2.1 0 = .ok (.aload_n 0, 1) := by decide +kernel
theorem k_tk_waterAfterMinute_1 : decode me_tk_waterAfterMinute.2.1 1 = .ok (.iload_n 1, 1) := by decide +kernel
theorem k_tk_waterAfterMinute_2 : decode me_tk_waterAfterMinute.2.1 2 = .ok (.invokevirtual 38, 3) := by decide +kernel
theorem k_tk_waterAfterMinute_5 : decode me_tk_waterAfterMinute.2.1 5 = .ok (.aload_n 0, 1) := by decide +kernel
theorem k_tk_waterAfterMinute_6 : decode me_tk_waterAfterMinute.2.1 6 = .ok (.getfield 42, 3) := by decide +kernel
theorem k_tk_waterAfterMinute_9 : decode me_tk_waterAfterMinute.2.1 9 = .ok (.isub, 1) := by decide +kernel
theorem k_tk_waterAfterMinute_10 : decode me_tk_waterAfterMinute.2.1 10 = .ok (.iconst 0, 1) := by decide +kernel
theorem k_tk_waterAfterMinute_11 : decode me_tk_waterAfterMinute.2.1 11 = .ok (.invokestatic 45, 3) := by decide +kernel
theorem k_tk_waterAfterMinute_14 : decode me_tk_waterAfterMinute.2.1 14 = .ok (.ireturn, 1) := by decide +kernel
theorem k_fn_lasts_0 : decode me_fn_lasts.2.1 0 = .ok (.aload_n 0, 1) := by decide +kernel
theorem k_fn_lasts_1 : decode me_fn_lasts.2.1 1 = .ok (.getfield 12, 3) := by decide +kernel
theorem k_fn_lasts_4 : decode me_fn_lasts.2.1 4 = .ok (.iload_n 1, 1) := by decide +kernel
theorem k_fn_lasts_5 : decode me_fn_lasts.2.1 5 = .ok (.invokevirtual 76, 3) := by decide +kernel
theorem k_fn_lasts_8 : decode me_fn_lasts.2.1 8 = .ok (.astore_n 2, 1) := by decide +kernel
theorem k_fn_lasts_9 : decode me_fn_lasts.2.1 9 = .ok (.aload_n 2, 1) := by decide +kernel
theorem k_fn_lasts_10 : decode me_fn_lasts.2.1 10 = .ok (.ifnonnull 9, 3) := by decide +kernel
theorem k_fn_lasts_13 : decode me_fn_lasts.2.1 13 = .ok (.aload_n 0, 1) := by decide +kernel
theorem k_fn_lasts_14 : decode me_fn_lasts.2.1 14 = .ok (.iconst (-1), 1) := by decide +kernel
theorem k_fn_lasts_15 : decode me_fn_lasts.2.1 15 = .ok (.invokevirtual 56, 3) := by decide +kernel
theorem k_fn_lasts_18 : decode me_fn_lasts.2.1 18 = .ok (.ireturn, 1) := by decide +kernel
theorem k_fn_lasts_19 : decode me_fn_lasts.2.1 19 = .ok (.aload_n 0, 1) := by decide +kernel
theorem k_fn_lasts_20 : decode me_fn_lasts.2.1 20 = .ok (.getfield 12, 3) := by decide +kernel
theorem k_fn_lasts_23 : decode me_fn_lasts.2.1 23 = .ok (.invokevirtual 144, 3) := by decide +kernel
theorem k_fn_lasts_26 : decode me_fn_lasts.2.1 26 = .ok (.aload_n 2, 1) := by decide +kernel
theorem k_fn_lasts_27 : decode me_fn_lasts.2.1 27 = .ok (.getfield 157, 3) := by decide +kernel
theorem k_fn_lasts_30 : decode me_fn_lasts.2.1 30 = .ok (.istore_n 3, 1) := by decide +kernel
theorem k_fn_lasts_31 : decode me_fn_lasts.2.1 31 = .ok (.iconst 0, 1) := by decide +kernel
theorem k_fn_lasts_32 : decode me_fn_lasts.2.1 32 = .ok (.istore 4, 2) := by decide +kernel
theorem k_fn_lasts_34 : decode me_fn_lasts.2.1 34 = .ok (.iload 4, 2) := by decide +kernel
theorem k_fn_lasts_36 : decode me_fn_lasts.2.1 36 = .ok (.sipush 1440, 3) := by decide +kernel
theorem k_fn_lasts_39 : decode me_fn_lasts.2.1 39 = .ok (.if_icmp .gt 22, 3) := by decide +kernel
theorem k_fn_lasts_42 : decode me_fn_lasts.2.1 42 = .ok (.iload_n 3, 1) := by decide +kernel
theorem k_fn_lasts_43 : decode me_fn_lasts.2.1 43 = .ok (.ifCond .ne 6, 3) := by decide +kernel
theorem k_fn_lasts_46 : decode me_fn_lasts.2.1 46 = .ok (.iload 4, 2) := by decide +kernel
theorem k_fn_lasts_48 : decode me_fn_lasts.2.1 48 = .ok (.ireturn, 1) := by decide +kernel
theorem k_fn_lasts_49 : decode me_fn_lasts.2.1 49 = .ok (.aload_n 2, 1) := by decide +kernel
theorem k_fn_lasts_50 : decode me_fn_lasts.2.1 50 = .ok (.iload_n 3, 1) := by decide +kernel
theorem k_fn_lasts_51 : decode me_fn_lasts.2.1 51 = .ok (.invokevirtual 182, 3) := by decide +kernel
theorem k_fn_lasts_54 : decode me_fn_lasts.2.1 54 = .ok (.istore_n 3, 1) := by decide +kernel
theorem k_fn_lasts_55 : decode me_fn_lasts.2.1 55 = .ok (.iinc 4 1, 3) := by decide +kernel
theorem k_fn_lasts_58 : decode me_fn_lasts.2.1 58 = .ok (.goto (-24), 3) := by decide +kernel
theorem k_fn_lasts_61 : decode me_fn_lasts.2.1 61 = .ok (.bipush (-9), 2) := by decide +kernel
theorem k_fn_lasts_63 : decode me_fn_lasts.2.1 63 = .ok (.ireturn, 1) := by decide +kernel
theorem k_fn_view_0 : decode me_fn_view.2.1 0 = .ok (.iload_n 1, 1) := by decide +kernel
theorem k_fn_view_1 : decode me_fn_view.2.1 1 = .ok (.ifCond .eq 17, 3) := by decide +kernel
theorem k_fn_view_4 : decode me_fn_view.2.1 4 = .ok (.iload_n 1, 1) := by decide +kernel
theorem k_fn_view_5 : decode me_fn_view.2.1 5 = .ok (.aload_n 0, 1) := by decide +kernel
theorem k_fn_view_6 : decode me_fn_view.2.1 6 = .ok (.getfield 12, 3) := by decide +kernel
theorem k_fn_view_9 : decode me_fn_view.2.1 9 = .ok (.invokevirtual 185, 3) := by decide +kernel
theorem k_fn_view_12 : decode me_fn_view.2.1 12 = .ok (.iconst (-1), 1) := by decide +kernel
theorem k_fn_view_13 : decode me_fn_view.2.1 13 = .ok (.ixor, 1) := by decide +kernel
theorem k_fn_view_14 : decode me_fn_view.2.1 14 = .ok (.iand, 1) := by decide +kernel
theorem k_fn_view_15 : decode me_fn_view.2.1 15 = .ok (.ifCond .eq 9, 3) := by decide +kernel
theorem k_fn_view_18 : decode me_fn_view.2.1 18 = .ok (.aload_n 0, 1) := by decide +kernel
theorem k_fn_view_19 : decode me_fn_view.2.1 19 = .ok (.iconst (-1), 1) := by decide +kernel
theorem k_fn_view_20 : decode me_fn_view.2.1 20 = .ok (.invokevirtual 56, 3) := by decide +kernel
theorem k_fn_view_23 : decode me_fn_view.2.1 23 = .ok (.ireturn, 1) := by decide +kernel
theorem k_fn_view_24 : decode me_fn_view.2.1 24 = .ok (.aload_n 0, 1) := by decide +kernel
theorem k_fn_view_25 : decode me_fn_view.2.1 25 = .ok (.getfield 19, 3) := by decide +kernel
theorem k_fn_view_28 : decode me_fn_view.2.1 28 = .ok (.invokevirtual 63, 3) := by decide +kernel
theorem k_fn_view_31 : decode me_fn_view.2.1 31 = .ok (.istore 5, 2) := by decide +kernel
theorem k_fn_view_33 : decode me_fn_view.2.1 33 = .ok (.iload 5, 2) := by decide +kernel
theorem k_fn_view_35 : decode me_fn_view.2.1 35 = .ok (.ifCond .ne 7, 3) := by decide +kernel
theorem k_fn_view_38 : decode me_fn_view.2.1 38 = .ok (.iconst (-1), 1) := by decide +kernel
theorem k_fn_view_39 : decode me_fn_view.2.1 39 = .ok (.goto 20, 3) := by decide +kernel
theorem k_fn_view_42 : decode me_fn_view.2.1 42 = .ok (.aload_n 0, 1) := by decide +kernel
theorem k_fn_view_43 : decode me_fn_view.2.1 43 = .ok (.getfield 19, 3) := by decide +kernel
theorem k_fn_view_46 : decode me_fn_view.2.1 46 = .ok (.iload 5, 2) := by decide +kernel
theorem k_fn_view_48 : decode me_fn_view.2.1 48 = .ok (.iconst 1, 1) := by decide +kernel
theorem k_fn_view_49 : decode me_fn_view.2.1 49 = .ok (.isub, 1) := by decide +kernel
theorem k_fn_view_50 : decode me_fn_view.2.1 50 = .ok (.invokevirtual 174, 3) := by decide +kernel
theorem k_fn_view_53 : decode me_fn_view.2.1 53 = .ok (.checkcast 188, 3) := by decide +kernel
theorem k_fn_view_56 : decode me_fn_view.2.1 56 = .ok (.getfield 190, 3) := by decide +kernel
theorem k_fn_view_59 : decode me_fn_view.2.1 59 = .ok (.istore 6, 2) := by decide +kernel
theorem k_fn_view_61 : decode me_fn_view.2.1 61 = .ok (.iload_n 2, 1) := by decide +kernel
theorem k_fn_view_62 : decode me_fn_view.2.1 62 = .ok (.iload 6, 2) := by decide +kernel
theorem k_fn_view_64 : decode me_fn_view.2.1 64 = .ok (.if_icmp .le 13, 3) := by decide +kernel
theorem k_fn_view_67 : decode me_fn_view.2.1 67 = .ok (.iload_n 3, 1) := by decide +kernel
theorem k_fn_view_68 : decode me_fn_view.2.1 68 = .ok (.iload_n 2, 1) := by decide +kernel
theorem k_fn_view_69 : decode me_fn_view.2.1 69 = .ok (.if_icmp .lt 8, 3) := by decide +kernel
theorem k_fn_view_72 : decode me_fn_view.2.1 72 = .ok (.iload 4, 2) := by decide +kernel
theorem k_fn_view_74 : decode me_fn_view.2.1 74 = .ok (.ifCond .ge 10, 3) := by decide +kernel
theorem k_fn_view_77 : decode me_fn_view.2.1 77 = .ok (.aload_n 0, 1) := by decide +kernel
theorem k_fn_view_78 : decode me_fn_view.2.1 78 = .ok (.bipush (-4), 2) := by decide +kernel
theorem k_fn_view_80 : decode me_fn_view.2.1 80 = .ok (.invokevirtual 56, 3) := by decide +kernel
theorem k_fn_view_83 : decode me_fn_view.2.1 83 = .ok (.ireturn, 1) := by decide +kernel
theorem k_fn_view_84 : decode me_fn_view.2.1 84 = .ok (.iload_n 3, 1) := by decide +kernel
theorem k_fn_view_85 : decode me_fn_view.2.1 85 = .ok (.sipush 1440, 3) := by decide +kernel
theorem k_fn_view_88 : decode me_fn_view.2.1 88 = .ok (.if_icmp .gt 18, 3) := by decide +kernel
theorem k_fn_view_91 : decode me_fn_view.2.1 91 = .ok (.iload 4, 2) := by decide +kernel
theorem k_fn_view_93 : decode me_fn_view.2.1 93 = .ok (.sipush 500, 3) := by decide +kernel
theorem k_fn_view_96 : decode me_fn_view.2.1 96 = .ok (.if_icmp .gt 10, 3) := by decide +kernel
theorem k_fn_view_99 : decode me_fn_view.2.1 99 = .ok (.iload 5, 2) := by decide +kernel
theorem k_fn_view_101 : decode me_fn_view.2.1 101 = .ok (.bipush 12, 2) := by decide +kernel
theorem k_fn_view_103 : decode me_fn_view.2.1 103 = .ok (.if_icmp .lt 10, 3) := by decide +kernel
theorem k_fn_view_106 : decode me_fn_view.2.1 106 = .ok (.aload_n 0, 1) := by decide +kernel
theorem k_fn_view_107 : decode me_fn_view.2.1 107 = .ok (.bipush (-6), 2) := by decide +kernel
theorem k_fn_view_109 : decode me_fn_view.2.1 109 = .ok (.invokevirtual 56, 3) := by decide +kernel
theorem k_fn_view_112 : decode me_fn_view.2.1 112 = .ok (.ireturn, 1) := by decide +kernel
theorem k_fn_view_113 : decode me_fn_view.2.1 113 = .ok (.aload_n 0, 1) := by decide +kernel
theorem k_fn_view_114 : decode me_fn_view.2.1 114 = .ok (.getfield 19, 3) := by decide +kernel
theorem k_fn_view_117 : decode me_fn_view.2.1 117 = .ok (.new 188, 3) := by decide +kernel
theorem k_fn_view_120 : decode me_fn_view.2.1 120 = .ok (.dup, 1) := by decide +kernel
theorem k_fn_view_121 : decode me_fn_view.2.1 121 = .ok (.iload_n 1, 1) := by decide +kernel
theorem k_fn_view_122 : decode me_fn_view.2.1 122 = .ok (.iload_n 2, 1) := by decide +kernel
theorem k_fn_view_123 : decode me_fn_view.2.1 123 = .ok (.iload_n 3, 1) := by decide +kernel
theorem k_fn_view_124 : decode me_fn_view.2.1 124 = .ok (.iload 4, 2) := by decide +kernel
theorem k_fn_view_126 : decode me_fn_view.2.1 126 = .ok (.invokespecial 193, 3) := by decide +kernel
theorem k_fn_view_129 : decode me_fn_view.2.1 129 = .ok (.invokevirtual 72, 3) := by decide +kernel
theorem k_fn_view_132 : decode me_fn_view.2.1 132 = .ok (.pop, 1) := by decide +kernel
theorem k_fn_view_133 : decode me_fn_view.2.1 133 = .ok (.iload 5, 2) := by decide +kernel
theorem k_fn_view_135 : decode me_fn_view.2.1 135 = .ok (.ireturn, 1) := by decide +kernel
theorem k_ga_allJets_0 : decode me_ga_allJets.2.1 0 = .ok (.iconst 1, 1) := by decide +kernel
theorem k_ga_allJets_1 : decode me_ga_allJets.2.1 1 = .ok (.aload_n 0, 1) := by decide +kernel
theorem k_ga_allJets_2 : decode me_ga_allJets.2.1 2 = .ok (.getfield 21, 3) := by decide +kernel
theorem k_ga_allJets_5 : decode me_ga_allJets.2.1 5 = .ok (.invokevirtual 24, 3) := by decide +kernel
theorem k_ga_allJets_8 : decode me_ga_allJets.2.1 8 = .ok (.ishl, 1) := by decide +kernel
theorem k_ga_allJets_9 : decode me_ga_allJets.2.1 9 = .ok (.iconst 1, 1) := by decide +kernel
theorem k_ga_allJets_10 : decode me_ga_allJets.2.1 10 = .ok (.isub, 1) := by decide +kernel
theorem k_ga_allJets_11 : decode me_ga_allJets.2.1 11 = .ok (.ireturn, 1) := by decide +kernel
theorem k_vw_init_0 : decode me_vw_init.2.1 0 = .ok (.aload_n 0, 1) := by decide +kernel
theorem k_vw_init_1 : decode me_vw_init.2.1 1 = .ok (.invokespecial 1, 3) := by decide +kernel
theorem k_vw_init_4 : decode me_vw_init.2.1 4 = .ok (.aload_n 0, 1) := by decide +kernel
theorem k_vw_init_5 : decode me_vw_init.2.1 5 = .ok (.iload_n 1, 1) := by decide +kernel
theorem k_vw_init_6 : decode me_vw_init.2.1 6 = .ok (.putfield 7, 3) := by decide +kernel
theorem k_vw_init_9 : decode me_vw_init.2.1 9 = .ok (.aload_n 0, 1) := by decide +kernel
theorem k_vw_init_10 : decode me_vw_init.2.1 10 = .ok (.iload_n 2, 1) := by decide +kernel
theorem k_vw_init_11 : decode me_vw_init.2.1 11 = .ok (.putfield 13, 3) := by decide +kernel
theorem k_vw_init_14 : decode me_vw_init.2.1 14 = .ok (.aload_n 0, 1) := by decide +kernel
theorem k_vw_init_15 : decode me_vw_init.2.1 15 = .ok (.iload_n 3, 1) := by decide +kernel
theorem k_vw_init_16 : decode me_vw_init.2.1 16 = .ok (.putfield 16, 3) := by decide +kernel
theorem k_vw_init_19 : decode me_vw_init.2.1 19 = .ok (.aload_n 0, 1) := by decide +kernel
theorem k_vw_init_20 : decode me_vw_init.2.1 20 = .ok (.iload 4, 2) := by decide +kernel
theorem k_vw_init_22 : decode me_vw_init.2.1 22 = .ok (.putfield 19, 3) := by decide +kernel
theorem k_vw_init_25 : decode me_vw_init.2.1 25 = .ok (.return_, 1) := by decide +kernel
theorem k_fn_unview_0 : decode me_fn_unview.2.1 0 = .ok (.aload_n 0, 1) := by decide +kernel
theorem k_fn_unview_1 : decode me_fn_unview.2.1 1 = .ok (.getfield 19, 3) := by decide +kernel
theorem k_fn_unview_4 : decode me_fn_unview.2.1 4 = .ok (.invokevirtual 63, 3) := by decide +kernel
theorem k_fn_unview_7 : decode me_fn_unview.2.1 7 = .ok (.istore_n 1, 1) := by decide +kernel
theorem k_fn_unview_8 : decode me_fn_unview.2.1 8 = .ok (.iload_n 1, 1) := by decide +kernel
theorem k_fn_unview_9 : decode me_fn_unview.2.1 9 = .ok (.ifCond .ne 10, 3) := by decide +kernel
theorem k_fn_unview_12 : decode me_fn_unview.2.1 12 = .ok (.aload_n 0, 1) := by decide +kernel
theorem k_fn_unview_13 : decode me_fn_unview.2.1 13 = .ok (.bipush (-3), 2) := by decide +kernel
theorem k_fn_unview_15 : decode me_fn_unview.2.1 15 = .ok (.invokevirtual 56, 3) := by decide +kernel
theorem k_fn_unview_18 : decode me_fn_unview.2.1 18 = .ok (.ireturn, 1) := by decide +kernel
theorem k_fn_unview_19 : decode me_fn_unview.2.1 19 = .ok (.aload_n 0, 1) := by decide +kernel
theorem k_fn_unview_20 : decode me_fn_unview.2.1 20 = .ok (.getfield 19, 3) := by decide +kernel
theorem k_fn_unview_23 : decode me_fn_unview.2.1 23 = .ok (.iload_n 1, 1) := by decide +kernel
theorem k_fn_unview_24 : decode me_fn_unview.2.1 24 = .ok (.iconst 1, 1) := by decide +kernel
theorem k_fn_unview_25 : decode me_fn_unview.2.1 25 = .ok (.isub, 1) := by decide +kernel
theorem k_fn_unview_26 : decode me_fn_unview.2.1 26 = .ok (.invokevirtual 196, 3) := by decide +kernel
theorem k_fn_unview_29 : decode me_fn_unview.2.1 29 = .ok (.pop, 1) := by decide +kernel
theorem k_fn_unview_30 : decode me_fn_unview.2.1 30 = .ok (.iload_n 1, 1) := by decide +kernel
theorem k_fn_unview_31 : decode me_fn_unview.2.1 31 = .ok (.iconst 1, 1) := by decide +kernel
theorem k_fn_unview_32 : decode me_fn_unview.2.1 32 = .ok (.isub, 1) := by decide +kernel
theorem k_fn_unview_33 : decode me_fn_unview.2.1 33 = .ok (.ireturn, 1) := by decide +kernel
theorem k_al_remove_0 : decode me_al_remove.2.1 0 = .ok (.iload_n 1, 1) := by decide +kernel
theorem k_al_remove_1 : decode me_al_remove.2.1 1 = .ok (.aload_n 0, 1) := by decide +kernel
theorem k_al_remove_2 : decode me_al_remove.2.1 2 = .ok (.getfield 48, 3) := by decide +kernel
theorem k_al_remove_5 : decode me_al_remove.2.1 5 = .ok (.invokestatic 118, 3) := by decide +kernel
theorem k_al_remove_8 : decode me_al_remove.2.1 8 = .ok (.pop, 1) := by decide +kernel
theorem k_al_remove_9 : decode me_al_remove.2.1 9 = .ok (.aload_n 0, 1) := by decide +kernel
theorem k_al_remove_10 : decode me_al_remove.2.1 10 = .ok (.getfield 9, 3) := by decide +kernel
theorem k_al_remove_13 : decode me_al_remove.2.1 13 = .ok (.astore_n 2, 1) := by decide +kernel
theorem k_al_remove_14 : decode me_al_remove.2.1 14 = .ok (.aload_n 2, 1) := by decide +kernel
theorem k_al_remove_15 : decode me_al_remove.2.1 15 = .ok (.iload_n 1, 1) := by decide +kernel
theorem k_al_remove_16 : decode me_al_remove.2.1 16 = .ok (.aaload, 1) := by decide +kernel
theorem k_al_remove_17 : decode me_al_remove.2.1 17 = .ok (.astore_n 3, 1) := by decide +kernel
theorem k_al_remove_18 : decode me_al_remove.2.1 18 = .ok (.aload_n 0, 1) := by decide +kernel
theorem k_al_remove_19 : decode me_al_remove.2.1 19 = .ok (.aload_n 2, 1) := by decide +kernel
theorem k_al_remove_20 : decode me_al_remove.2.1 20 = .ok (.iload_n 1, 1) := by decide +kernel
theorem k_al_remove_21 : decode me_al_remove.2.1 21 = .ok (.invokevirtual 144, 3) := by decide +kernel
theorem k_al_remove_24 : decode me_al_remove.2.1 24 = .ok (.aload_n 3, 1) := by decide +kernel
theorem k_al_remove_25 : decode me_al_remove.2.1 25 = .ok (.areturn, 1) := by decide +kernel
theorem k_al_fastRemove_0 : decode me_al_fastRemove.2.1 0 = .ok (.aload_n 0, 1) := by decide +kernel
theorem k_al_fastRemove_1 : decode me_al_fastRemove.2.1 1 = .ok (.dup, 1) := by decide +kernel
theorem k_al_fastRemove_2 : decode me_al_fastRemove.2.1 2 = .ok (.getfield 63, 3) := by decide +kernel
theorem k_al_fastRemove_5 : decode me_al_fastRemove.2.1 5 = .ok (.iconst 1, 1) := by decide +kernel
theorem k_al_fastRemove_6 : decode me_al_fastRemove.2.1 6 = .ok (.iadd, 1) := by decide +kernel
theorem k_al_fastRemove_7 : decode me_al_fastRemove.2.1 7 = .ok (.putfield 63, 3) := by decide +kernel
theorem k_al_fastRemove_10 : decode me_al_fastRemove.2.1 10 = .ok (.aload_n 0, 1) := by decide +kernel
theorem k_al_fastRemove_11 : decode me_al_fastRemove.2.1 11 = .ok (.getfield 48, 3) := by decide +kernel
theorem k_al_fastRemove_14 : decode me_al_fastRemove.2.1 14 = .ok (.iconst 1, 1) := by decide +kernel
theorem k_al_fastRemove_15 : decode me_al_fastRemove.2.1 15 = .ok (.isub, 1) := by decide +kernel
theorem k_al_fastRemove_16 : decode me_al_fastRemove.2.1 16 = .ok (.dup, 1) := by decide +kernel
theorem k_al_fastRemove_17 : decode me_al_fastRemove.2.1 17 = .ok (.istore_n 3, 1) := by decide +kernel
theorem k_al_fastRemove_18 : decode me_al_fastRemove.2.1 18 = .ok (.iload_n 2, 1) := by decide +kernel
theorem k_al_fastRemove_19 : decode me_al_fastRemove.2.1 19 = .ok (.if_icmp .le 15, 3) := by decide +kernel
theorem k_al_fastRemove_22 : decode me_al_fastRemove.2.1 22 = .ok (.aload_n 1, 1) := by decide +kernel
theorem k_al_fastRemove_23 : decode me_al_fastRemove.2.1 23 = .ok (.iload_n 2, 1) := by decide +kernel
theorem k_al_fastRemove_24 : decode me_al_fastRemove.2.1 24 = .ok (.iconst 1, 1) := by decide +kernel
theorem k_al_fastRemove_25 : decode me_al_fastRemove.2.1 25 = .ok (.iadd, 1) := by decide +kernel
theorem k_al_fastRemove_26 : decode me_al_fastRemove.2.1 26 = .ok (.aload_n 1, 1) := by decide +kernel
theorem k_al_fastRemove_27 : decode me_al_fastRemove.2.1 27 = .ok (.iload_n 2, 1) := by decide +kernel
theorem k_al_fastRemove_28 : decode me_al_fastRemove.2.1 28 = .ok (.iload_n 3, 1) := by decide +kernel
theorem k_al_fastRemove_29 : decode me_al_fastRemove.2.1 29 = .ok (.iload_n 2, 1) := by decide +kernel
theorem k_al_fastRemove_30 : decode me_al_fastRemove.2.1 30 = .ok (.isub, 1) := by decide +kernel
theorem k_al_fastRemove_31 : decode me_al_fastRemove.2.1 31 = .ok (.invokestatic 112, 3) := by decide +kernel
theorem k_al_fastRemove_34 : decode me_al_fastRemove.2.1 34 = .ok (.aload_n 1, 1) := by decide +kernel
theorem k_al_fastRemove_35 : decode me_al_fastRemove.2.1 35 = .ok (.aload_n 0, 1) := by decide +kernel
theorem k_al_fastRemove_36 : decode me_al_fastRemove.2.1 36 = .ok (.iload_n 3, 1) := by decide +kernel
theorem k_al_fastRemove_37 : decode me_al_fastRemove.2.1 37 = .ok (.dup_x1, 1) := by decide +kernel
theorem k_al_fastRemove_38 : decode me_al_fastRemove.2.1 38 = .ok (.putfield 48, 3) := by decide +kernel
theorem k_al_fastRemove_41 : decode me_al_fastRemove.2.1 41 = .ok (.aconst_null, 1) := by decide +kernel
theorem k_al_fastRemove_42 : decode me_al_fastRemove.2.1 42 = .ok (.aastore, 1) := by decide +kernel
theorem k_al_fastRemove_43 : decode me_al_fastRemove.2.1 43 = .ok (.return_, 1) := by decide +kernel
theorem k_fn_walk_0 : decode me_fn_walk.2.1 0 = .ok (.iload_n 1, 1) := by decide +kernel
theorem k_fn_walk_1 : decode me_fn_walk.2.1 1 = .ok (.ifCond .lt 8, 3) := by decide +kernel
theorem k_fn_walk_4 : decode me_fn_walk.2.1 4 = .ok (.iload_n 1, 1) := by decide +kernel
theorem k_fn_walk_5 : decode me_fn_walk.2.1 5 = .ok (.iconst 4, 1) := by decide +kernel
theorem k_fn_walk_6 : decode me_fn_walk.2.1 6 = .ok (.if_icmp .le 10, 3) := by decide +kernel
theorem k_fn_walk_9 : decode me_fn_walk.2.1 9 = .ok (.aload_n 0, 1) := by decide +kernel
theorem k_fn_walk_10 : decode me_fn_walk.2.1 10 = .ok (.bipush (-2), 2) := by decide +kernel
theorem k_fn_walk_12 : decode me_fn_walk.2.1 12 = .ok (.invokevirtual 56, 3) := by decide +kernel
theorem k_fn_walk_15 : decode me_fn_walk.2.1 15 = .ok (.ireturn, 1) := by decide +kernel
theorem k_fn_walk_16 : decode me_fn_walk.2.1 16 = .ok (.aload_n 0, 1) := by decide +kernel
theorem k_fn_walk_17 : decode me_fn_walk.2.1 17 = .ok (.getfield 28, 3) := by decide +kernel
theorem k_fn_walk_20 : decode me_fn_walk.2.1 20 = .ok (.invokevirtual 199, 3) := by decide +kernel
theorem k_fn_walk_23 : decode me_fn_walk.2.1 23 = .ok (.ifCond .ne 10, 3) := by decide +kernel
theorem k_fn_walk_26 : decode me_fn_walk.2.1 26 = .ok (.aload_n 0, 1) := by decide +kernel
theorem k_fn_walk_27 : decode me_fn_walk.2.1 27 = .ok (.bipush (-3), 2) := by decide +kernel
theorem k_fn_walk_29 : decode me_fn_walk.2.1 29 = .ok (.invokevirtual 56, 3) := by decide +kernel
theorem k_fn_walk_32 : decode me_fn_walk.2.1 32 = .ok (.ireturn, 1) := by decide +kernel
theorem k_fn_walk_33 : decode me_fn_walk.2.1 33 = .ok (.aload_n 0, 1) := by decide +kernel
theorem k_fn_walk_34 : decode me_fn_walk.2.1 34 = .ok (.getfield 28, 3) := by decide +kernel
theorem k_fn_walk_37 : decode me_fn_walk.2.1 37 = .ok (.iconst 1, 1) := by decide +kernel
theorem k_fn_walk_38 : decode me_fn_walk.2.1 38 = .ok (.invokevirtual 203, 3) := by decide +kernel
theorem k_fn_walk_41 : decode me_fn_walk.2.1 41 = .ok (.iload_n 1, 1) := by decide +kernel
theorem k_fn_walk_42 : decode me_fn_walk.2.1 42 = .ok (.tableswitch 62 0 3 #[30, 38, 46, 54], 30) := by decide +kernel
theorem k_fn_walk_72 : decode me_fn_walk.2.1 72 = .ok (.aload_n 0, 1) := by decide +kernel
theorem k_fn_walk_73 : decode me_fn_walk.2.1 73 = .ok (.getfield 28, 3) := by decide +kernel
theorem k_fn_walk_76 : decode me_fn_walk.2.1 76 = .ok (.getfield 207, 3) := by decide +kernel
theorem k_fn_walk_79 : decode me_fn_walk.2.1 79 = .ok (.ireturn, 1) := by decide +kernel
theorem k_fn_walk_80 : decode me_fn_walk.2.1 80 = .ok (.aload_n 0, 1) := by decide +kernel
theorem k_fn_walk_81 : decode me_fn_walk.2.1 81 = .ok (.getfield 28, 3) := by decide +kernel
theorem k_fn_walk_84 : decode me_fn_walk.2.1 84 = .ok (.getfield 210, 3) := by decide +kernel
theorem k_fn_walk_87 : decode me_fn_walk.2.1 87 = .ok (.ireturn, 1) := by decide +kernel
theorem k_fn_walk_88 : decode me_fn_walk.2.1 88 = .ok (.aload_n 0, 1) := by decide +kernel
theorem k_fn_walk_89 : decode me_fn_walk.2.1 89 = .ok (.getfield 28, 3) := by decide +kernel
theorem k_fn_walk_92 : decode me_fn_walk.2.1 92 = .ok (.getfield 213, 3) := by decide +kernel
theorem k_fn_walk_95 : decode me_fn_walk.2.1 95 = .ok (.ireturn, 1) := by decide +kernel
theorem k_fn_walk_96 : decode me_fn_walk.2.1 96 = .ok (.aload_n 0, 1) := by decide +kernel
theorem k_fn_walk_97 : decode me_fn_walk.2.1 97 = .ok (.getfield 28, 3) := by decide +kernel
theorem k_fn_walk_100 : decode me_fn_walk.2.1 100 = .ok (.getfield 216, 3) := by decide +kernel
theorem k_fn_walk_103 : decode me_fn_walk.2.1 103 = .ok (.ireturn, 1) := by decide +kernel
theorem k_fn_walk_104 : decode me_fn_walk.2.1 104 = .ok (.aload_n 0, 1) := by decide +kernel
theorem k_fn_walk_105 : decode me_fn_walk.2.1 105 = .ok (.getfield 28, 3) := by decide +kernel
theorem k_fn_walk_108 : decode me_fn_walk.2.1 108 = .ok (.getfield 219, 3) := by decide +kernel
theorem k_fn_walk_111 : decode me_fn_walk.2.1 111 = .ok (.ireturn, 1) := by decide +kernel
theorem k_sr_isAhead_0 : decode me_sr_isAhead.2.1 0 = .ok (.aload_n 0, 1) := by decide +kernel
theorem k_sr_isAhead_1 : decode me_sr_isAhead.2.1 1 = .ok (.invokevirtual 19, 3) := by decide +kernel
theorem k_sr_isAhead_4 : decode me_sr_isAhead.2.1 4 = .ok (.aload_n 0, 1) := by decide +kernel
theorem k_sr_isAhead_5 : decode me_sr_isAhead.2.1 5 = .ok (.getfield 9, 3) := by decide +kernel
theorem k_sr_isAhead_8 : decode me_sr_isAhead.2.1 8 = .ok (.getfield 23, 3) := by decide +kernel
theorem k_sr_isAhead_11 : decode me_sr_isAhead.2.1 11 = .ok (.if_icmp .lt 7, 3) := by decide +kernel
theorem k_sr_isAhead_14 : decode me_sr_isAhead.2.1 14 = .ok (.iconst 1, 1) := by decide +kernel
theorem k_sr_isAhead_15 : decode me_sr_isAhead.2.1 15 = .ok (.goto 4, 3) := by decide +kernel
theorem k_sr_isAhead_18 : decode me_sr_isAhead.2.1 18 = .ok (.iconst 0, 1) := by decide +kernel
theorem k_sr_isAhead_19 : decode me_sr_isAhead.2.1 19 = .ok (.ireturn, 1) := by decide +kernel
theorem k_sr_lastMinute_0 : decode me_sr_lastMinute.2.1 0 = .ok (.aload_n 0, 1) := by decide +kernel
theorem k_sr_lastMinute_1 : decode me_sr_lastMinute.2.1 1 = .ok (.getfield 15, 3) := by decide +kernel
theorem k_sr_lastMinute_4 : decode me_sr_lastMinute.2.1 4 = .ok (.invokevirtual 29, 3) := by decide +kernel
theorem k_sr_lastMinute_7 : decode me_sr_lastMinute.2.1 7 = .ok (.ifCond .eq 7, 3) := by decide +kernel
theorem k_sr_lastMinute_10 : decode me_sr_lastMinute.2.1 10 = .ok (.iconst (-1), 1) := by decide +kernel
theorem k_sr_lastMinute_11 : decode me_sr_lastMinute.2.1 11 = .ok (.goto 25, 3) := by decide +kernel
theorem k_sr_lastMinute_14 : decode me_sr_lastMinute.2.1 14 = .ok (.aload_n 0, 1) := by decide +kernel
theorem k_sr_lastMinute_15 : decode me_sr_lastMinute.2.1 15 = .ok (.getfield 15, 3) := by decide +kernel
theorem k_sr_lastMinute_18 : decode me_sr_lastMinute.2.1 18 = .ok (.aload_n 0, 1) := by decide +kernel
theorem k_sr_lastMinute_19 : decode me_sr_lastMinute.2.1 19 = .ok (.getfield 15, 3) := by decide +kernel
theorem k_sr_lastMinute_22 : decode me_sr_lastMinute.2.1 22 = .ok (.invokevirtual 35, 3) := by decide +kernel
theorem k_sr_lastMinute_25 : decode me_sr_lastMinute.2.1 25 = .ok (.iconst 1, 1) := by decide +kernel
theorem k_sr_lastMinute_26 : decode me_sr_lastMinute.2.1 26 = .ok (.isub, 1) := by decide +kernel
theorem k_sr_lastMinute_27 : decode me_sr_lastMinute.2.1 27 = .ok (.invokevirtual 38, 3) := by decide +kernel
theorem k_sr_lastMinute_30 : decode me_sr_lastMinute.2.1 30 = .ok (.checkcast 42, 3) := by decide +kernel
theorem k_sr_lastMinute_33 : decode me_sr_lastMinute.2.1 33 = .ok (.getfield 44, 3) := by decide +kernel
theorem k_sr_lastMinute_36 : decode me_sr_lastMinute.2.1 36 = .ok (.ireturn, 1) := by decide +kernel
theorem k_al_isEmpty_0 : decode me_al_isEmpty.2.1 0 = .ok (.aload_n 0, 1) := by decide +kernel
theorem k_al_isEmpty_1 : decode me_al_isEmpty.2.1 1 = .ok (.getfield 48, 3) := by decide +kernel
theorem k_al_isEmpty_4 : decode me_al_isEmpty.2.1 4 = .ok (.ifCond .ne 7, 3) := by decide +kernel
theorem k_al_isEmpty_7 : decode me_al_isEmpty.2.1 7 = .ok (.iconst 1, 1) := by decide +kernel
theorem k_al_isEmpty_8 : decode me_al_isEmpty.2.1 8 = .ok (.goto 4, 3) := by decide +kernel
theorem k_al_isEmpty_11 : decode me_al_isEmpty.2.1 11 = .ok (.iconst 0, 1) := by decide +kernel
theorem k_al_isEmpty_12 : decode me_al_isEmpty.2.1 12 = .ok (.ireturn, 1) := by decide +kernel
theorem k_sr_go_0 : decode me_sr_go.2.1 0 = .ok (.aload_n 0, 1) := by decide +kernel
theorem k_sr_go_1 : decode me_sr_go.2.1 1 = .ok (.invokevirtual 47, 3) := by decide +kernel
theorem k_sr_go_4 : decode me_sr_go.2.1 4 = .ok (.aload_n 0, 1) := by decide +kernel
theorem k_sr_go_5 : decode me_sr_go.2.1 5 = .ok (.invokevirtual 19, 3) := by decide +kernel
theorem k_sr_go_8 : decode me_sr_go.2.1 8 = .ok (.istore_n 2, 1) := by decide +kernel
theorem k_sr_go_9 : decode me_sr_go.2.1 9 = .ok (.iconst 0, 1) := by decide +kernel
theorem k_sr_go_10 : decode me_sr_go.2.1 10 = .ok (.istore_n 3, 1) := by decide +kernel
theorem k_sr_go_11 : decode me_sr_go.2.1 11 = .ok (.iconst (-1), 1) := by decide +kernel
theorem k_sr_go_12 : decode me_sr_go.2.1 12 = .ok (.istore 4, 2) := by decide +kernel
theorem k_sr_go_14 : decode me_sr_go.2.1 14 = .ok (.aload_n 0, 1) := by decide +kernel
theorem k_sr_go_15 : decode me_sr_go.2.1 15 = .ok (.getfield 9, 3) := by decide +kernel
theorem k_sr_go_18 : decode me_sr_go.2.1 18 = .ok (.getfield 23, 3) := by decide +kernel
theorem k_sr_go_21 : decode me_sr_go.2.1 21 = .ok (.istore 5, 2) := by decide +kernel
theorem k_sr_go_23 : decode me_sr_go.2.1 23 = .ok (.iload 5, 2) := by decide +kernel
theorem k_sr_go_25 : decode me_sr_go.2.1 25 = .ok (.iload_n 2, 1) := by decide +kernel
theorem k_sr_go_26 : decode me_sr_go.2.1 26 = .ok (.if_icmp .gt 177, 3) := by decide +kernel
theorem k_sr_go_29 : decode me_sr_go.2.1 29 = .ok (.iload_n 3, 1) := by decide +kernel
theorem k_sr_go_30 : decode me_sr_go.2.1 30 = .ok (.aload_n 0, 1) := by decide +kernel
theorem k_sr_go_31 : decode me_sr_go.2.1 31 = .ok (.getfield 15, 3) := by decide +kernel
theorem k_sr_go_34 : decode me_sr_go.2.1 34 = .ok (.invokevirtual 35, 3) := by decide +kernel
theorem k_sr_go_37 : decode me_sr_go.2.1 37 = .ok (.if_icmp .ge 28, 3) := by decide +kernel
theorem k_sr_go_40 : decode me_sr_go.2.1 40 = .ok (.aload_n 0, 1) := by decide +kernel
theorem k_sr_go_41 : decode me_sr_go.2.1 41 = .ok (.getfield 15, 3) := by decide +kernel
theorem k_sr_go_44 : decode me_sr_go.2.1 44 = .ok (.iload_n 3, 1) := by decide +kernel
theorem k_sr_go_45 : decode me_sr_go.2.1 45 = .ok (.invokevirtual 38, 3) := by decide +kernel
theorem k_sr_go_48 : decode me_sr_go.2.1 48 = .ok (.checkcast 42, 3) := by decide +kernel
theorem k_sr_go_51 : decode me_sr_go.2.1 51 = .ok (.getfield 44, 3) := by decide +kernel
theorem k_sr_go_54 : decode me_sr_go.2.1 54 = .ok (.iload 5, 2) := by decide +kernel
theorem k_sr_go_56 : decode me_sr_go.2.1 56 = .ok (.if_icmp .ge 9, 3) := by decide +kernel
theorem k_sr_go_59 : decode me_sr_go.2.1 59 = .ok (.iinc 3 1, 3) := by decide +kernel
theorem k_sr_go_62 : decode me_sr_go.2.1 62 = .ok (.goto (-33), 3) := by decide +kernel
theorem k_sr_go_65 : decode me_sr_go.2.1 65 = .ok (.iload_n 3, 1) := by decide +kernel
theorem k_sr_go_66 : decode me_sr_go.2.1 66 = .ok (.aload_n 0, 1) := by decide +kernel
theorem k_sr_go_67 : decode me_sr_go.2.1 67 = .ok (.getfield 15, 3) := by decide +kernel
theorem k_sr_go_70 : decode me_sr_go.2.1 70 = .ok (.invokevirtual 35, 3) := by decide +kernel
theorem k_sr_go_73 : decode me_sr_go.2.1 73 = .ok (.if_icmp .ge 36, 3) := by decide +kernel
theorem k_sr_go_76 : decode me_sr_go.2.1 76 = .ok (.aload_n 0, 1) := by decide +kernel
theorem k_sr_go_77 : decode me_sr_go.2.1 77 = .ok (.getfield 15, 3) := by decide +kernel
theorem k_sr_go_80 : decode me_sr_go.2.1 80 = .ok (.iload_n 3, 1) := by decide +kernel
theorem k_sr_go_81 : decode me_sr_go.2.1 81 = .ok (.invokevirtual 38, 3) := by decide +kernel
theorem k_sr_go_84 : decode me_sr_go.2.1 84 = .ok (.checkcast 42, 3) := by decide +kernel
theorem k_sr_go_87 : decode me_sr_go.2.1 87 = .ok (.getfield 50, 3) := by decide +kernel
theorem k_sr_go_90 : decode me_sr_go.2.1 90 = .ok (.iload 5, 2) := by decide +kernel
theorem k_sr_go_92 : decode me_sr_go.2.1 92 = .ok (.if_icmp .gt 17, 3) := by decide +kernel
theorem k_sr_go_95 : decode me_sr_go.2.1 95 = .ok (.aload_n 0, 1) := by decide +kernel
theorem k_sr_go_96 : decode me_sr_go.2.1 96 = .ok (.getfield 15, 3) := by decide +kernel
theorem k_sr_go_99 : decode me_sr_go.2.1 99 = .ok (.iload_n 3, 1) := by decide +kernel
theorem k_sr_go_100 : decode me_sr_go.2.1 100 = .ok (.invokevirtual 38, 3) := by decide +kernel
theorem k_sr_go_103 : decode me_sr_go.2.1 103 = .ok (.checkcast 42, 3) := by decide +kernel
theorem k_sr_go_106 : decode me_sr_go.2.1 106 = .ok (.goto 4, 3) := by decide +kernel
theorem k_sr_go_109 : decode me_sr_go.2.1 109 = .ok (.aconst_null, 1) := by decide +kernel
theorem k_sr_go_110 : decode me_sr_go.2.1 110 = .ok (.astore 6, 2) := by decide +kernel
theorem k_sr_go_112 : decode me_sr_go.2.1 112 = .ok (.aload 6, 2) := by decide +kernel
theorem k_sr_go_114 : decode me_sr_go.2.1 114 = .ok (.ifnonnull 7, 3) := by decide +kernel
theorem k_sr_go_117 : decode me_sr_go.2.1 117 = .ok (.iconst 0, 1) := by decide +kernel
theorem k_sr_go_118 : decode me_sr_go.2.1 118 = .ok (.goto 8, 3) := by decide +kernel
theorem k_sr_go_121 : decode me_sr_go.2.1 121 = .ok (.aload 6, 2) := by decide +kernel
theorem k_sr_go_123 : decode me_sr_go.2.1 123 = .ok (.getfield 53, 3) := by decide +kernel
theorem k_sr_go_126 : decode me_sr_go.2.1 126 = .ok (.istore 7, 2) := by decide +kernel
theorem k_sr_go_128 : decode me_sr_go.2.1 128 = .ok (.iload 7, 2) := by decide +kernel
theorem k_sr_go_130 : decode me_sr_go.2.1 130 = .ok (.iload 4, 2) := by decide +kernel
theorem k_sr_go_132 : decode me_sr_go.2.1 132 = .ok (.if_icmp .eq 17, 3) := by decide +kernel
theorem k_sr_go_135 : decode me_sr_go.2.1 135 = .ok (.aload_n 0, 1) := by decide +kernel
theorem k_sr_go_136 : decode me_sr_go.2.1 136 = .ok (.getfield 9, 3) := by decide +kernel
theorem k_sr_go_139 : decode me_sr_go.2.1 139 = .ok (.iload 7, 2) := by decide +kernel
theorem k_sr_go_141 : decode me_sr_go.2.1 141 = .ok (.iconst 0, 1) := by decide +kernel
theorem k_sr_go_142 : decode me_sr_go.2.1 142 = .ok (.invokevirtual 56, 3) := by decide +kernel
theorem k_sr_go_145 : decode me_sr_go.2.1 145 = .ok (.iload 7, 2) := by decide +kernel
theorem k_sr_go_147 : decode me_sr_go.2.1 147 = .ok (.istore 4, 2) := by decide +kernel
theorem k_sr_go_149 : decode me_sr_go.2.1 149 = .ok (.aload 6, 2) := by decide +kernel
theorem k_sr_go_151 : decode me_sr_go.2.1 151 = .ok (.ifnonnull 7, 3) := by decide +kernel
theorem k_sr_go_154 : decode me_sr_go.2.1 154 = .ok (.aconst_null, 1) := by decide +kernel
theorem k_sr_go_155 : decode me_sr_go.2.1 155 = .ok (.goto 10, 3) := by decide +kernel
theorem k_sr_go_158 : decode me_sr_go.2.1 158 = .ok (.aload_n 0, 1) := by decide +kernel
theorem k_sr_go_159 : decode me_sr_go.2.1 159 = .ok (.aload 6, 2) := by decide +kernel
theorem k_sr_go_161 : decode me_sr_go.2.1 161 = .ok (.iload_n 1, 1) := by decide +kernel
theorem k_sr_go_162 : decode me_sr_go.2.1 162 = .ok (.invokevirtual 60, 3) := by decide +kernel
theorem k_sr_go_165 : decode me_sr_go.2.1 165 = .ok (.astore 8, 2) := by decide +kernel
theorem k_sr_go_167 : decode me_sr_go.2.1 167 = .ok (.aload 8, 2) := by decide +kernel
theorem k_sr_go_169 : decode me_sr_go.2.1 169 = .ok (.ifnull 24, 3) := by decide +kernel
theorem k_sr_go_172 : decode me_sr_go.2.1 172 = .ok (.aload_n 0, 1) := by decide +kernel
theorem k_sr_go_173 : decode me_sr_go.2.1 173 = .ok (.iload 5, 2) := by decide +kernel
theorem k_sr_go_175 : decode me_sr_go.2.1 175 = .ok (.putfield 64, 3) := by decide +kernel
theorem k_sr_go_178 : decode me_sr_go.2.1 178 = .ok (.aload_n 0, 1) := by decide +kernel
theorem k_sr_go_179 : decode me_sr_go.2.1 179 = .ok (.iload_n 3, 1) := by decide +kernel
theorem k_sr_go_180 : decode me_sr_go.2.1 180 = .ok (.putfield 67, 3) := by decide +kernel
theorem k_sr_go_183 : decode me_sr_go.2.1 183 = .ok (.aload_n 0, 1) := by decide +kernel
theorem k_sr_go_184 : decode me_sr_go.2.1 184 = .ok (.aload 8, 2) := by decide +kernel
theorem k_sr_go_186 : decode me_sr_go.2.1 186 = .ok (.getfield 70, 3) := by decide +kernel
theorem k_sr_go_189 : decode me_sr_go.2.1 189 = .ok (.putfield 75, 3) := by decide +kernel
theorem k_sr_go_192 : decode me_sr_go.2.1 192 = .ok (.return_, 1) := by decide +kernel
theorem k_sr_go_193 : decode me_sr_go.2.1 193 = .ok (.aload_n 0, 1) := by decide +kernel
theorem k_sr_go_194 : decode me_sr_go.2.1 194 = .ok (.invokevirtual 78, 3) := by decide +kernel
theorem k_sr_go_197 : decode me_sr_go.2.1 197 = .ok (.iinc 5 1, 3) := by decide +kernel
theorem k_sr_go_200 : decode me_sr_go.2.1 200 = .ok (.goto (-177), 3) := by decide +kernel
theorem k_sr_go_203 : decode me_sr_go.2.1 203 = .ok (.return_, 1) := by decide +kernel
theorem k_sr_begin_0 : decode me_sr_begin.2.1 0 = .ok (.aload_n 0, 1) := by decide +kernel
theorem k_sr_begin_1 : decode me_sr_begin.2.1 1 = .ok (.bipush (-9), 2) := by decide +kernel
theorem k_sr_begin_3 : decode me_sr_begin.2.1 3 = .ok (.putfield 64, 3) := by decide +kernel
theorem k_sr_begin_6 : decode me_sr_begin.2.1 6 = .ok (.aload_n 0, 1) := by decide +kernel
theorem k_sr_begin_7 : decode me_sr_begin.2.1 7 = .ok (.bipush (-9), 2) := by decide +kernel
theorem k_sr_begin_9 : decode me_sr_begin.2.1 9 = .ok (.putfield 67, 3) := by decide +kernel
theorem k_sr_begin_12 : decode me_sr_begin.2.1 12 = .ok (.aload_n 0, 1) := by decide +kernel
theorem k_sr_begin_13 : decode me_sr_begin.2.1 13 = .ok (.bipush (-9), 2) := by decide +kernel
theorem k_sr_begin_15 : decode me_sr_begin.2.1 15 = .ok (.putfield 75, 3) := by decide +kernel
theorem k_sr_begin_18 : decode me_sr_begin.2.1 18 = .ok (.aload_n 0, 1) := by decide +kernel
theorem k_sr_begin_19 : decode me_sr_begin.2.1 19 = .ok (.iconst 0, 1) := by decide +kernel
theorem k_sr_begin_20 : decode me_sr_begin.2.1 20 = .ok (.putfield 81, 3) := by decide +kernel
theorem k_sr_begin_23 : decode me_sr_begin.2.1 23 = .ok (.aload_n 0, 1) := by decide +kernel
theorem k_sr_begin_24 : decode me_sr_begin.2.1 24 = .ok (.ldc 84, 2) := by decide +kernel
theorem k_sr_begin_26 : decode me_sr_begin.2.1 26 = .ok (.putfield 85, 3) := by decide +kernel
theorem k_sr_begin_29 : decode me_sr_begin.2.1 29 = .ok (.aload_n 0, 1) := by decide +kernel
theorem k_sr_begin_30 : decode me_sr_begin.2.1 30 = .ok (.sipush 500, 3) := by decide +kernel
theorem k_sr_begin_33 : decode me_sr_begin.2.1 33 = .ok (.putfield 88, 3) := by decide +kernel
theorem k_sr_begin_36 : decode me_sr_begin.2.1 36 = .ok (.iconst 0, 1) := by decide +kernel
theorem k_sr_begin_37 : decode me_sr_begin.2.1 37 = .ok (.istore_n 1, 1) := by decide +kernel
theorem k_sr_begin_38 : decode me_sr_begin.2.1 38 = .ok (.iload_n 1, 1) := by decide +kernel
theorem k_sr_begin_39 : decode me_sr_begin.2.1 39 = .ok (.aload_n 0, 1) := by decide +kernel
theorem k_sr_begin_40 : decode me_sr_begin.2.1 40 = .ok (.getfield 9, 3) := by decide +kernel
theorem k_sr_begin_43 : decode me_sr_begin.2.1 43 = .ok (.getfield 91, 3) := by decide +kernel
theorem k_sr_begin_46 : decode me_sr_begin.2.1 46 = .ok (.invokevirtual 35, 3) := by decide +kernel
theorem k_sr_begin_49 : decode me_sr_begin.2.1 49 = .ok (.if_icmp .ge 47, 3) := by decide +kernel
theorem k_sr_begin_52 : decode me_sr_begin.2.1 52 = .ok (.aload_n 0, 1) := by decide +kernel
theorem k_sr_begin_53 : decode me_sr_begin.2.1 53 = .ok (.getfield 9, 3) := by decide +kernel
theorem k_sr_begin_56 : decode me_sr_begin.2.1 56 = .ok (.getfield 91, 3) := by decide +kernel
theorem k_sr_begin_59 : decode me_sr_begin.2.1 59 = .ok (.iload_n 1, 1) := by decide +kernel
theorem k_sr_begin_60 : decode me_sr_begin.2.1 60 = .ok (.invokevirtual 38, 3) := by decide +kernel
theorem k_sr_begin_63 : decode me_sr_begin.2.1 63 = .ok (.checkcast 94, 3) := by decide +kernel
theorem k_sr_begin_66 : decode me_sr_begin.2.1 66 = .ok (.astore_n 2, 1) := by decide +kernel
theorem k_sr_begin_67 : decode me_sr_begin.2.1 67 = .ok (.aload_n 2, 1) := by decide +kernel
theorem k_sr_begin_68 : decode me_sr_begin.2.1 68 = .ok (.aload_n 2, 1) := by decide +kernel
theorem k_sr_begin_69 : decode me_sr_begin.2.1 69 = .ok (.getfield 96, 3) := by decide +kernel
theorem k_sr_begin_72 : decode me_sr_begin.2.1 72 = .ok (.putfield 99, 3) := by decide +kernel
theorem k_sr_begin_75 : decode me_sr_begin.2.1 75 = .ok (.aload_n 0, 1) := by decide +kernel
theorem k_sr_begin_76 : decode me_sr_begin.2.1 76 = .ok (.aload_n 0, 1) := by decide +kernel
theorem k_sr_begin_77 : decode me_sr_begin.2.1 77 = .ok (.getfield 85, 3) := by decide +kernel
theorem k_sr_begin_80 : decode me_sr_begin.2.1 80 = .ok (.aload_n 2, 1) := by decide +kernel
theorem k_sr_begin_81 : decode me_sr_begin.2.1 81 = .ok (.getfield 96, 3) := by decide +kernel
theorem k_sr_begin_84 : decode me_sr_begin.2.1 84 = .ok (.invokestatic 102, 3) := by decide +kernel
theorem k_sr_begin_87 : decode me_sr_begin.2.1 87 = .ok (.putfield 85, 3) := by decide +kernel
theorem k_sr_begin_90 : decode me_sr_begin.2.1 90 = .ok (.iinc 1 1, 3) := by decide +kernel
theorem k_sr_begin_93 : decode me_sr_begin.2.1 93 = .ok (.goto (-55), 3) := by decide +kernel
theorem k_sr_begin_96 : decode me_sr_begin.2.1 96 = .ok (.return_, 1) := by decide +kernel
theorem k_sr_lookAtRises_0 : decode me_sr_lookAtRises.2.1 0 = .ok (.iconst 0, 1) := by decide +kernel
theorem k_sr_lookAtRises_1 : decode me_sr_lookAtRises.2.1 1 = .ok (.istore_n 3, 1) := by decide +kernel
theorem k_sr_lookAtRises_2 : decode me_sr_lookAtRises.2.1 2 = .ok (.iload_n 3, 1) := by decide +kernel
theorem k_sr_lookAtRises_3 : decode me_sr_lookAtRises.2.1 3 = .ok (.aload_n 0, 1) := by decide +kernel
theorem k_sr_lookAtRises_4 : decode me_sr_lookAtRises.2.1 4 = .ok (.getfield 9, 3) := by decide +kernel
theorem k_sr_lookAtRises_7 : decode me_sr_lookAtRises.2.1 7 = .ok (.getfield 108, 3) := by decide +kernel
theorem k_sr_lookAtRises_10 : decode me_sr_lookAtRises.2.1 10 = .ok (.invokevirtual 35, 3) := by decide +kernel
theorem k_sr_lookAtRises_13 : decode me_sr_lookAtRises.2.1 13 = .ok (.if_icmp .ge 88, 3) := by decide +kernel
theorem k_sr_lookAtRises_16 : decode me_sr_lookAtRises.2.1 16 = .ok (.aload_n 0, 1) := by decide +kernel
theorem k_sr_lookAtRises_17 : decode me_sr_lookAtRises.2.1 17 = .ok (.getfield 9, 3) := by decide +kernel
