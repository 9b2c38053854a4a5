/-! printed by my own program: decode rows -/
theorem k_sr_lookAtRises_20 : decode me_sr_lookAtRises.2.1 20 = .ok (.getfield 108, 3) := by decide +kernel
theorem k_sr_lookAtRises_23 : decode me_sr_lookAtRises.2.1 23 = .ok (.iload_n 3, 1) := by decide +kernel
theorem k_sr_lookAtRises_24 : decode me_sr_lookAtRises.2.1 24 = .ok (.invokevirtual 38, 3) := by decide +kernel
theorem k_sr_lookAtRises_27 : decode me_sr_lookAtRises.2.1 27 = .ok (.checkcast 71, 3) := by decide +kernel
theorem k_sr_lookAtRises_30 : decode me_sr_lookAtRises.2.1 30 = .ok (.astore 4, 2) := by decide +kernel
theorem k_sr_lookAtRises_32 : decode me_sr_lookAtRises.2.1 32 = .ok (.aload 4, 2) := by decide +kernel
theorem k_sr_lookAtRises_34 : decode me_sr_lookAtRises.2.1 34 = .ok (.aload_n 1, 1) := by decide +kernel
theorem k_sr_lookAtRises_35 : decode me_sr_lookAtRises.2.1 35 = .ok (.getfield 53, 3) := by decide +kernel
theorem k_sr_lookAtRises_38 : decode me_sr_lookAtRises.2.1 38 = .ok (.invokevirtual 111, 3) := by decide +kernel
theorem k_sr_lookAtRises_41 : decode me_sr_lookAtRises.2.1 41 = .ok (.ifCond .eq 54, 3) := by decide +kernel
theorem k_sr_lookAtRises_44 : decode me_sr_lookAtRises.2.1 44 = .ok (.aload 4, 2) := by decide +kernel
theorem k_sr_lookAtRises_46 : decode me_sr_lookAtRises.2.1 46 = .ok (.aload_n 1, 1) := by decide +kernel
theorem k_sr_lookAtRises_47 : decode me_sr_lookAtRises.2.1 47 = .ok (.getfield 53, 3) := by decide +kernel
theorem k_sr_lookAtRises_50 : decode me_sr_lookAtRises.2.1 50 = .ok (.aload 4, 2) := by decide +kernel
theorem k_sr_lookAtRises_52 : decode me_sr_lookAtRises.2.1 52 = .ok (.getfield 115, 3) := by decide +kernel
theorem k_sr_lookAtRises_55 : decode me_sr_lookAtRises.2.1 55 = .ok (.getfield 119, 3) := by decide +kernel
theorem k_sr_lookAtRises_58 : decode me_sr_lookAtRises.2.1 58 = .ok (.getfield 99, 3) := by decide +kernel
theorem k_sr_lookAtRises_61 : decode me_sr_lookAtRises.2.1 61 = .ok (.invokevirtual 125, 3) := by decide +kernel
theorem k_sr_lookAtRises_64 : decode me_sr_lookAtRises.2.1 64 = .ok (.istore 5, 2) := by decide +kernel
theorem k_sr_lookAtRises_66 : decode me_sr_lookAtRises.2.1 66 = .ok (.aload_n 0, 1) := by decide +kernel
theorem k_sr_lookAtRises_67 : decode me_sr_lookAtRises.2.1 67 = .ok (.aload_n 0, 1) := by decide +kernel
theorem k_sr_lookAtRises_68 : decode me_sr_lookAtRises.2.1 68 = .ok (.getfield 88, 3) := by decide +kernel
theorem k_sr_lookAtRises_71 : decode me_sr_lookAtRises.2.1 71 = .ok (.iload 5, 2) := by decide +kernel
theorem k_sr_lookAtRises_73 : decode me_sr_lookAtRises.2.1 73 = .ok (.invokestatic 102, 3) := by decide +kernel
theorem k_sr_lookAtRises_76 : decode me_sr_lookAtRises.2.1 76 = .ok (.putfield 88, 3) := by decide +kernel
theorem k_sr_lookAtRises_79 : decode me_sr_lookAtRises.2.1 79 = .ok (.iload_n 2, 1) := by decide +kernel
theorem k_sr_lookAtRises_80 : decode me_sr_lookAtRises.2.1 80 = .ok (.ifCond .eq 15, 3) := by decide +kernel
theorem k_sr_lookAtRises_83 : decode me_sr_lookAtRises.2.1 83 = .ok (.iload 5, 2) := by decide +kernel
theorem k_sr_lookAtRises_85 : decode me_sr_lookAtRises.2.1 85 = .ok (.aload_n 1, 1) := by decide +kernel
theorem k_sr_lookAtRises_86 : decode me_sr_lookAtRises.2.1 86 = .ok (.getfield 128, 3) := by decide +kernel
theorem k_sr_lookAtRises_89 : decode me_sr_lookAtRises.2.1 89 = .ok (.if_icmp .ge 6, 3) := by decide +kernel
theorem k_sr_lookAtRises_92 : decode me_sr_lookAtRises.2.1 92 = .ok (.aload 4, 2) := by decide +kernel
theorem k_sr_lookAtRises_94 : decode me_sr_lookAtRises.2.1 94 = .ok (.areturn, 1) := by decide +kernel
theorem k_sr_lookAtRises_95 : decode me_sr_lookAtRises.2.1 95 = .ok (.iinc 3 1, 3) := by decide +kernel
theorem k_sr_lookAtRises_98 : decode me_sr_lookAtRises.2.1 98 = .ok (.goto (-96), 3) := by decide +kernel
theorem k_sr_lookAtRises_101 : decode me_sr_lookAtRises.2.1 101 = .ok (.aconst_null, 1) := by decide +kernel
theorem k_sr_lookAtRises_102 : decode me_sr_lookAtRises.2.1 102 = .ok (.areturn, 1) := by decide +kernel
theorem k_sr_passMinute_0 : decode me_sr_passMinute.2.1 0 = .ok (.iconst 0, 1) := by decide +kernel
theorem k_sr_passMinute_1 : decode me_sr_passMinute.2.1 1 = .ok (.istore_n 1, 1) := by decide +kernel
theorem k_sr_passMinute_2 : decode me_sr_passMinute.2.1 2 = .ok (.iload_n 1, 1) := by decide +kernel
theorem k_sr_passMinute_3 : decode me_sr_passMinute.2.1 3 = .ok (.aload_n 0, 1) := by decide +kernel
theorem k_sr_passMinute_4 : decode me_sr_passMinute.2.1 4 = .ok (.getfield 9, 3) := by decide +kernel
theorem k_sr_passMinute_7 : decode me_sr_passMinute.2.1 7 = .ok (.getfield 91, 3) := by decide +kernel
theorem k_sr_passMinute_10 : decode me_sr_passMinute.2.1 10 = .ok (.invokevirtual 35, 3) := by decide +kernel
theorem k_sr_passMinute_13 : decode me_sr_passMinute.2.1 13 = .ok (.if_icmp .ge 75, 3) := by decide +kernel
theorem k_sr_passMinute_16 : decode me_sr_passMinute.2.1 16 = .ok (.aload_n 0, 1) := by decide +kernel
theorem k_sr_passMinute_17 : decode me_sr_passMinute.2.1 17 = .ok (.getfield 9, 3) := by decide +kernel
theorem k_sr_passMinute_20 : decode me_sr_passMinute.2.1 20 = .ok (.getfield 91, 3) := by decide +kernel
theorem k_sr_passMinute_23 : decode me_sr_passMinute.2.1 23 = .ok (.iload_n 1, 1) := by decide +kernel
theorem k_sr_passMinute_24 : decode me_sr_passMinute.2.1 24 = .ok (.invokevirtual 38, 3) := by decide +kernel
theorem k_sr_passMinute_27 : decode me_sr_passMinute.2.1 27 = .ok (.checkcast 94, 3) := by decide +kernel
theorem k_sr_passMinute_30 : decode me_sr_passMinute.2.1 30 = .ok (.astore_n 2, 1) := by decide +kernel
theorem k_sr_passMinute_31 : decode me_sr_passMinute.2.1 31 = .ok (.aload_n 2, 1) := by decide +kernel
theorem k_sr_passMinute_32 : decode me_sr_passMinute.2.1 32 = .ok (.aload_n 2, 1) := by decide +kernel
theorem k_sr_passMinute_33 : decode me_sr_passMinute.2.1 33 = .ok (.getfield 99, 3) := by decide +kernel
theorem k_sr_passMinute_36 : decode me_sr_passMinute.2.1 36 = .ok (.invokevirtual 131, 3) := by decide +kernel
theorem k_sr_passMinute_39 : decode me_sr_passMinute.2.1 39 = .ok (.istore_n 3, 1) := by decide +kernel
theorem k_sr_passMinute_40 : decode me_sr_passMinute.2.1 40 = .ok (.aload_n 2, 1) := by decide +kernel
theorem k_sr_passMinute_41 : decode me_sr_passMinute.2.1 41 = .ok (.aload_n 2, 1) := by decide +kernel
theorem k_sr_passMinute_42 : decode me_sr_passMinute.2.1 42 = .ok (.aload_n 2, 1) := by decide +kernel
theorem k_sr_passMinute_43 : decode me_sr_passMinute.2.1 43 = .ok (.getfield 99, 3) := by decide +kernel
theorem k_sr_passMinute_46 : decode me_sr_passMinute.2.1 46 = .ok (.invokevirtual 135, 3) := by decide +kernel
theorem k_sr_passMinute_49 : decode me_sr_passMinute.2.1 49 = .ok (.putfield 99, 3) := by decide +kernel
theorem k_sr_passMinute_52 : decode me_sr_passMinute.2.1 52 = .ok (.aload_n 0, 1) := by decide +kernel
theorem k_sr_passMinute_53 : decode me_sr_passMinute.2.1 53 = .ok (.dup, 1) := by decide +kernel
theorem k_sr_passMinute_54 : decode me_sr_passMinute.2.1 54 = .ok (.getfield 81, 3) := by decide +kernel
theorem k_sr_passMinute_57 : decode me_sr_passMinute.2.1 57 = .ok (.iload_n 3, 1) := by decide +kernel
theorem k_sr_passMinute_58 : decode me_sr_passMinute.2.1 58 = .ok (.aload_n 2, 1) := by decide +kernel
theorem k_sr_passMinute_59 : decode me_sr_passMinute.2.1 59 = .ok (.getfield 99, 3) := by decide +kernel
theorem k_sr_passMinute_62 : decode me_sr_passMinute.2.1 62 = .ok (.isub, 1) := by decide +kernel
theorem k_sr_passMinute_63 : decode me_sr_passMinute.2.1 63 = .ok (.iadd, 1) := by decide +kernel
theorem k_sr_passMinute_64 : decode me_sr_passMinute.2.1 64 = .ok (.putfield 81, 3) := by decide +kernel
theorem k_sr_passMinute_67 : decode me_sr_passMinute.2.1 67 = .ok (.aload_n 0, 1) := by decide +kernel
theorem k_sr_passMinute_68 : decode me_sr_passMinute.2.1 68 = .ok (.aload_n 0, 1) := by decide +kernel
theorem k_sr_passMinute_69 : decode me_sr_passMinute.2.1 69 = .ok (.getfield 85, 3) := by decide +kernel
theorem k_sr_passMinute_72 : decode me_sr_passMinute.2.1 72 = .ok (.aload_n 2, 1) := by decide +kernel
theorem k_sr_passMinute_73 : decode me_sr_passMinute.2.1 73 = .ok (.getfield 99, 3) := by decide +kernel
theorem k_sr_passMinute_76 : decode me_sr_passMinute.2.1 76 = .ok (.invokestatic 102, 3) := by decide +kernel
theorem k_sr_passMinute_79 : decode me_sr_passMinute.2.1 79 = .ok (.putfield 85, 3) := by decide +kernel
theorem k_sr_passMinute_82 : decode me_sr_passMinute.2.1 82 = .ok (.iinc 1 1, 3) := by decide +kernel
theorem k_sr_passMinute_85 : decode me_sr_passMinute.2.1 85 = .ok (.goto (-83), 3) := by decide +kernel
theorem k_sr_passMinute_88 : decode me_sr_passMinute.2.1 88 = .ok (.return_, 1) := by decide +kernel
theorem k_fn_most_0 : decode me_fn_most.2.1 0 = .ok (.aload_n 0, 1) := by decide +kernel
theorem k_fn_most_1 : decode me_fn_most.2.1 1 = .ok (.getfield 28, 3) := by decide +kernel
theorem k_fn_most_4 : decode me_fn_most.2.1 4 = .ok (.invokevirtual 199, 3) := by decide +kernel
theorem k_fn_most_7 : decode me_fn_most.2.1 7 = .ok (.ifCond .ne 10, 3) := by decide +kernel
theorem k_fn_most_10 : decode me_fn_most.2.1 10 = .ok (.aload_n 0, 1) := by decide +kernel
theorem k_fn_most_11 : decode me_fn_most.2.1 11 = .ok (.bipush (-3), 2) := by decide +kernel
theorem k_fn_most_13 : decode me_fn_most.2.1 13 = .ok (.invokevirtual 56, 3) := by decide +kernel
theorem k_fn_most_16 : decode me_fn_most.2.1 16 = .ok (.ireturn, 1) := by decide +kernel
theorem k_fn_most_17 : decode me_fn_most.2.1 17 = .ok (.aload_n 0, 1) := by decide +kernel
theorem k_fn_most_18 : decode me_fn_most.2.1 18 = .ok (.getfield 28, 3) := by decide +kernel
theorem k_fn_most_21 : decode me_fn_most.2.1 21 = .ok (.iconst 0, 1) := by decide +kernel
theorem k_fn_most_22 : decode me_fn_most.2.1 22 = .ok (.invokevirtual 203, 3) := by decide +kernel
theorem k_fn_most_25 : decode me_fn_most.2.1 25 = .ok (.aload_n 0, 1) := by decide +kernel
theorem k_fn_most_26 : decode me_fn_most.2.1 26 = .ok (.getfield 28, 3) := by decide +kernel
theorem k_fn_most_29 : decode me_fn_most.2.1 29 = .ok (.getfield 222, 3) := by decide +kernel
theorem k_fn_most_32 : decode me_fn_most.2.1 32 = .ok (.ireturn, 1) := by decide +kernel
theorem k_fn_pace_0 : decode me_fn_pace.2.1 0 = .ok (.iload_n 1, 1) := by decide +kernel
theorem k_fn_pace_1 : decode me_fn_pace.2.1 1 = .ok (.ifCond .ge 10, 3) := by decide +kernel
theorem k_fn_pace_4 : decode me_fn_pace.2.1 4 = .ok (.aload_n 0, 1) := by decide +kernel
theorem k_fn_pace_5 : decode me_fn_pace.2.1 5 = .ok (.bipush (-4), 2) := by decide +kernel
theorem k_fn_pace_7 : decode me_fn_pace.2.1 7 = .ok (.invokevirtual 56, 3) := by decide +kernel
theorem k_fn_pace_10 : decode me_fn_pace.2.1 10 = .ok (.ireturn, 1) := by decide +kernel
theorem k_fn_pace_11 : decode me_fn_pace.2.1 11 = .ok (.iload_n 1, 1) := by decide +kernel
theorem k_fn_pace_12 : decode me_fn_pace.2.1 12 = .ok (.bipush 30, 2) := by decide +kernel
theorem k_fn_pace_14 : decode me_fn_pace.2.1 14 = .ok (.if_icmp .le 10, 3) := by decide +kernel
theorem k_fn_pace_17 : decode me_fn_pace.2.1 17 = .ok (.aload_n 0, 1) := by decide +kernel
theorem k_fn_pace_18 : decode me_fn_pace.2.1 18 = .ok (.bipush (-6), 2) := by decide +kernel
theorem k_fn_pace_20 : decode me_fn_pace.2.1 20 = .ok (.invokevirtual 56, 3) := by decide +kernel
theorem k_fn_pace_23 : decode me_fn_pace.2.1 23 = .ok (.ireturn, 1) := by decide +kernel
theorem k_fn_pace_24 : decode me_fn_pace.2.1 24 = .ok (.aload_n 0, 1) := by decide +kernel
theorem k_fn_pace_25 : decode me_fn_pace.2.1 25 = .ok (.getfield 52, 3) := by decide +kernel
theorem k_fn_pace_28 : decode me_fn_pace.2.1 28 = .ok (.istore_n 2, 1) := by decide +kernel
theorem k_fn_pace_29 : decode me_fn_pace.2.1 29 = .ok (.aload_n 0, 1) := by decide +kernel
theorem k_fn_pace_30 : decode me_fn_pace.2.1 30 = .ok (.iload_n 1, 1) := by decide +kernel
theorem k_fn_pace_31 : decode me_fn_pace.2.1 31 = .ok (.putfield 52, 3) := by decide +kernel
theorem k_fn_pace_34 : decode me_fn_pace.2.1 34 = .ok (.iload_n 2, 1) := by decide +kernel
theorem k_fn_pace_35 : decode me_fn_pace.2.1 35 = .ok (.ireturn, 1) := by decide +kernel
theorem k_fn_tasks_0 : decode me_fn_tasks.2.1 0 = .ok (.aload_n 0, 1) := by decide +kernel
theorem k_fn_tasks_1 : decode me_fn_tasks.2.1 1 = .ok (.getfield 35, 3) := by decide +kernel
theorem k_fn_tasks_4 : decode me_fn_tasks.2.1 4 = .ok (.invokevirtual 225, 3) := by decide +kernel
theorem k_fn_tasks_7 : decode me_fn_tasks.2.1 7 = .ok (.aload_n 0, 1) := by decide +kernel
theorem k_fn_tasks_8 : decode me_fn_tasks.2.1 8 = .ok (.getfield 35, 3) := by decide +kernel
theorem k_fn_tasks_11 : decode me_fn_tasks.2.1 11 = .ok (.getfield 228, 3) := by decide +kernel
theorem k_fn_tasks_14 : decode me_fn_tasks.2.1 14 = .ok (.ireturn, 1) := by decide +kernel
theorem k_tl_build_0 : decode me_tl_build.2.1 0 = .ok (.aload_n 0, 1) := by decide +kernel
theorem k_tl_build_1 : decode me_tl_build.2.1 1 = .ok (.iconst 0, 1) := by decide +kernel
theorem k_tl_build_2 : decode me_tl_build.2.1 2 = .ok (.putfield 35, 3) := by decide +kernel
theorem k_tl_build_5 : decode me_tl_build.2.1 5 = .ok (.iconst 0, 1) := by decide +kernel
theorem k_tl_build_6 : decode me_tl_build.2.1 6 = .ok (.istore_n 1, 1) := by decide +kernel
theorem k_tl_build_7 : decode me_tl_build.2.1 7 = .ok (.iconst (-1), 1) := by decide +kernel
theorem k_tl_build_8 : decode me_tl_build.2.1 8 = .ok (.istore_n 2, 1) := by decide +kernel
theorem k_tl_build_9 : decode me_tl_build.2.1 9 = .ok (.iconst 0, 1) := by decide +kernel
theorem k_tl_build_10 : decode me_tl_build.2.1 10 = .ok (.istore_n 3, 1) := by decide +kernel
theorem k_tl_build_11 : decode me_tl_build.2.1 11 = .ok (.iload_n 3, 1) := by decide +kernel
theorem k_tl_build_12 : decode me_tl_build.2.1 12 = .ok (.aload_n 0, 1) := by decide +kernel
theorem k_tl_build_13 : decode me_tl_build.2.1 13 = .ok (.getfield 15, 3) := by decide +kernel
theorem k_tl_build_16 : decode me_tl_build.2.1 16 = .ok (.invokevirtual 39, 3) := by decide +kernel
theorem k_tl_build_19 : decode me_tl_build.2.1 19 = .ok (.if_icmp .ge 71, 3) := by decide +kernel
theorem k_tl_build_22 : decode me_tl_build.2.1 22 = .ok (.aload_n 0, 1) := by decide +kernel
theorem k_tl_build_23 : decode me_tl_build.2.1 23 = .ok (.getfield 15, 3) := by decide +kernel
theorem k_tl_build_26 : decode me_tl_build.2.1 26 = .ok (.iload_n 3, 1) := by decide +kernel
theorem k_tl_build_27 : decode me_tl_build.2.1 27 = .ok (.invokevirtual 44, 3) := by decide +kernel
theorem k_tl_build_30 : decode me_tl_build.2.1 30 = .ok (.checkcast 48, 3) := by decide +kernel
theorem k_tl_build_33 : decode me_tl_build.2.1 33 = .ok (.astore 4, 2) := by decide +kernel
theorem k_tl_build_35 : decode me_tl_build.2.1 35 = .ok (.iload_n 2, 1) := by decide +kernel
theorem k_tl_build_36 : decode me_tl_build.2.1 36 = .ok (.iconst 1, 1) := by decide +kernel
theorem k_tl_build_37 : decode me_tl_build.2.1 37 = .ok (.iadd, 1) := by decide +kernel
theorem k_tl_build_38 : decode me_tl_build.2.1 38 = .ok (.aload 4, 2) := by decide +kernel
theorem k_tl_build_40 : decode me_tl_build.2.1 40 = .ok (.getfield 50, 3) := by decide +kernel
theorem k_tl_build_43 : decode me_tl_build.2.1 43 = .ok (.if_icmp .eq 14, 3) := by decide +kernel
theorem k_tl_build_46 : decode me_tl_build.2.1 46 = .ok (.aload_n 0, 1) := by decide +kernel
theorem k_tl_build_47 : decode me_tl_build.2.1 47 = .ok (.iload_n 2, 1) := by decide +kernel
theorem k_tl_build_48 : decode me_tl_build.2.1 48 = .ok (.iconst 1, 1) := by decide +kernel
theorem k_tl_build_49 : decode me_tl_build.2.1 49 = .ok (.iadd, 1) := by decide +kernel
theorem k_tl_build_50 : decode me_tl_build.2.1 50 = .ok (.iload_n 1, 1) := by decide +kernel
theorem k_tl_build_51 : decode me_tl_build.2.1 51 = .ok (.iconst 0, 1) := by decide +kernel
theorem k_tl_build_52 : decode me_tl_build.2.1 52 = .ok (.invokevirtual 53, 3) := by decide +kernel
theorem k_tl_build_55 : decode me_tl_build.2.1 55 = .ok (.iconst 0, 1) := by decide +kernel
theorem k_tl_build_56 : decode me_tl_build.2.1 56 = .ok (.istore_n 1, 1) := by decide +kernel
theorem k_tl_build_57 : decode me_tl_build.2.1 57 = .ok (.aload_n 0, 1) := by decide +kernel
theorem k_tl_build_58 : decode me_tl_build.2.1 58 = .ok (.aload 4, 2) := by decide +kernel
theorem k_tl_build_60 : decode me_tl_build.2.1 60 = .ok (.getfield 50, 3) := by decide +kernel
theorem k_tl_build_63 : decode me_tl_build.2.1 63 = .ok (.iload_n 1, 1) := by decide +kernel
theorem k_tl_build_64 : decode me_tl_build.2.1 64 = .ok (.aload 4, 2) := by decide +kernel
theorem k_tl_build_66 : decode me_tl_build.2.1 66 = .ok (.getfield 57, 3) := by decide +kernel
theorem k_tl_build_69 : decode me_tl_build.2.1 69 = .ok (.invokevirtual 53, 3) := by decide +kernel
theorem k_tl_build_72 : decode me_tl_build.2.1 72 = .ok (.aload 4, 2) := by decide +kernel
theorem k_tl_build_74 : decode me_tl_build.2.1 74 = .ok (.getfield 57, 3) := by decide +kernel
theorem k_tl_build_77 : decode me_tl_build.2.1 77 = .ok (.istore_n 1, 1) := by decide +kernel
theorem k_tl_build_78 : decode me_tl_build.2.1 78 = .ok (.aload 4, 2) := by decide +kernel
theorem k_tl_build_80 : decode me_tl_build.2.1 80 = .ok (.getfield 60, 3) := by decide +kernel
theorem k_tl_build_83 : decode me_tl_build.2.1 83 = .ok (.istore_n 2, 1) := by decide +kernel
theorem k_tl_build_84 : decode me_tl_build.2.1 84 = .ok (.iinc 3 1, 3) := by decide +kernel
theorem k_tl_build_87 : decode me_tl_build.2.1 87 = .ok (.goto (-76), 3) := by decide +kernel
theorem k_tl_build_90 : decode me_tl_build.2.1 90 = .ok (.aload_n 0, 1) := by decide +kernel
theorem k_tl_build_91 : decode me_tl_build.2.1 91 = .ok (.iload_n 2, 1) := by decide +kernel
theorem k_tl_build_92 : decode me_tl_build.2.1 92 = .ok (.iconst 1, 1) := by decide +kernel
theorem k_tl_build_93 : decode me_tl_build.2.1 93 = .ok (.iadd, 1) := by decide +kernel
theorem k_tl_build_94 : decode me_tl_build.2.1 94 = .ok (.iload_n 1, 1) := by decide +kernel
theorem k_tl_build_95 : decode me_tl_build.2.1 95 = .ok (.iconst 0, 1) := by decide +kernel
theorem k_tl_build_96 : decode me_tl_build.2.1 96 = .ok (.invokevirtual 53, 3) := by decide +kernel
theorem k_tl_build_99 : decode me_tl_build.2.1 99 = .ok (.return_, 1) := by decide +kernel
theorem k_tl_addChange_0 : decode me_tl_addChange.2.1 0 = .ok (.iconst 0, 1) := by decide +kernel
theorem k_tl_addChange_1 : decode me_tl_addChange.2.1 1 = .ok (.istore 4, 2) := by decide +kernel
theorem k_tl_addChange_3 : decode me_tl_addChange.2.1 3 = .ok (.iload 4, 2) := by decide +kernel
theorem k_tl_addChange_5 : decode me_tl_addChange.2.1 5 = .ok (.aload_n 0, 1) := by decide +kernel
theorem k_tl_addChange_6 : decode me_tl_addChange.2.1 6 = .ok (.getfield 9, 3) := by decide +kernel
theorem k_tl_addChange_9 : decode me_tl_addChange.2.1 9 = .ok (.getfield 63, 3) := by decide +kernel
theorem k_tl_addChange_12 : decode me_tl_addChange.2.1 12 = .ok (.invokevirtual 39, 3) := by decide +kernel
theorem k_tl_addChange_15 : decode me_tl_addChange.2.1 15 = .ok (.if_icmp .ge 122, 3) := by decide +kernel
theorem k_tl_addChange_18 : decode me_tl_addChange.2.1 18 = .ok (.aload_n 0, 1) := by decide +kernel
theorem k_tl_addChange_19 : decode me_tl_addChange.2.1 19 = .ok (.getfield 9, 3) := by decide +kernel
theorem k_tl_addChange_22 : decode me_tl_addChange.2.1 22 = .ok (.getfield 63, 3) := by decide +kernel
theorem k_tl_addChange_25 : decode me_tl_addChange.2.1 25 = .ok (.iload 4, 2) := by decide +kernel
theorem k_tl_addChange_27 : decode me_tl_addChange.2.1 27 = .ok (.invokevirtual 44, 3) := by decide +kernel
theorem k_tl_addChange_30 : decode me_tl_addChange.2.1 30 = .ok (.checkcast 68, 3) := by decide +kernel
theorem k_tl_addChange_33 : decode me_tl_addChange.2.1 33 = .ok (.astore 5, 2) := by decide +kernel
theorem k_tl_addChange_35 : decode me_tl_addChange.2.1 35 = .ok (.aload 5, 2) := by decide +kernel
theorem k_tl_addChange_37 : decode me_tl_addChange.2.1 37 = .ok (.iload_n 2, 1) := by decide +kernel
theorem k_tl_addChange_38 : decode me_tl_addChange.2.1 38 = .ok (.invokevirtual 70, 3) := by decide +kernel
theorem k_tl_addChange_41 : decode me_tl_addChange.2.1 41 = .ok (.aload 5, 2) := by decide +kernel
theorem k_tl_addChange_43 : decode me_tl_addChange.2.1 43 = .ok (.iload_n 3, 1) := by decide +kernel
theorem k_tl_addChange_44 : decode me_tl_addChange.2.1 44 = .ok (.invokevirtual 70, 3) := by decide +kernel
theorem k_tl_addChange_47 : decode me_tl_addChange.2.1 47 = .ok (.if_icmp .eq 84, 3) := by decide +kernel
theorem k_tl_addChange_50 : decode me_tl_addChange.2.1 50 = .ok (.aload_n 0, 1) := by decide +kernel
theorem k_tl_addChange_51 : decode me_tl_addChange.2.1 51 = .ok (.getfield 35, 3) := by decide +kernel
theorem k_tl_addChange_54 : decode me_tl_addChange.2.1 54 = .ok (.sipush 576, 3) := by decide +kernel
theorem k_tl_addChange_57 : decode me_tl_addChange.2.1 57 = .ok (.if_icmp .ge 74, 3) := by decide +kernel
theorem k_tl_addChange_60 : decode me_tl_addChange.2.1 60 = .ok (.aload_n 0, 1) := by decide +kernel
theorem k_tl_addChange_61 : decode me_tl_addChange.2.1 61 = .ok (.getfield 19, 3) := by decide +kernel
theorem k_tl_addChange_64 : decode me_tl_addChange.2.1 64 = .ok (.aload_n 0, 1) := by decide +kernel
theorem k_tl_addChange_65 : decode me_tl_addChange.2.1 65 = .ok (.getfield 35, 3) := by decide +kernel
theorem k_tl_addChange_68 : decode me_tl_addChange.2.1 68 = .ok (.iload_n 1, 1) := by decide +kernel
theorem k_tl_addChange_69 : decode me_tl_addChange.2.1 69 = .ok (.iastore, 1) := by decide +kernel
theorem k_tl_addChange_70 : decode me_tl_addChange.2.1 70 = .ok (.aload_n 0, 1) := by decide +kernel
theorem k_tl_addChange_71 : decode me_tl_addChange.2.1 71 = .ok (.getfield 23, 3) := by decide +kernel
theorem k_tl_addChange_74 : decode me_tl_addChange.2.1 74 = .ok (.aload_n 0, 1) := by decide +kernel
theorem k_tl_addChange_75 : decode me_tl_addChange.2.1 75 = .ok (.getfield 35, 3) := by decide +kernel
theorem k_tl_addChange_78 : decode me_tl_addChange.2.1 78 = .ok (.iload 4, 2) := by decide +kernel
theorem k_tl_addChange_80 : decode me_tl_addChange.2.1 80 = .ok (.iastore, 1) := by decide +kernel
theorem k_tl_addChange_81 : decode me_tl_addChange.2.1 81 = .ok (.aload_n 0, 1) := by decide +kernel
theorem k_tl_addChange_82 : decode me_tl_addChange.2.1 82 = .ok (.getfield 26, 3) := by decide +kernel
theorem k_tl_addChange_85 : decode me_tl_addChange.2.1 85 = .ok (.aload_n 0, 1) := by decide +kernel
theorem k_tl_addChange_86 : decode me_tl_addChange.2.1 86 = .ok (.getfield 35, 3) := by decide +kernel
theorem k_tl_addChange_89 : decode me_tl_addChange.2.1 89 = .ok (.aload 5, 2) := by decide +kernel
theorem k_tl_addChange_91 : decode me_tl_addChange.2.1 91 = .ok (.iload_n 3, 1) := by decide +kernel
theorem k_tl_addChange_92 : decode me_tl_addChange.2.1 92 = .ok (.invokevirtual 70, 3) := by decide +kernel
theorem k_tl_addChange_95 : decode me_tl_addChange.2.1 95 = .ok (.ifCond .eq 7, 3) := by decide +kernel
theorem k_tl_addChange_98 : decode me_tl_addChange.2.1 98 = .ok (.iconst 1, 1) := by decide +kernel
theorem k_tl_addChange_99 : decode me_tl_addChange.2.1 99 = .ok (.goto 4, 3) := by decide +kernel
theorem k_tl_addChange_102 : decode me_tl_addChange.2.1 102 = .ok (.iconst 0, 1) := by decide +kernel
theorem k_tl_addChange_103 : decode me_tl_addChange.2.1 103 = .ok (.iastore, 1) := by decide +kernel
theorem k_tl_addChange_104 : decode me_tl_addChange.2.1 104 = .ok (.aload_n 0, 1) := by decide +kernel
theorem k_tl_addChange_105 : decode me_tl_addChange.2.1 105 = .ok (.getfield 29, 3) := by decide +kernel
theorem k_tl_addChange_108 : decode me_tl_addChange.2.1 108 = .ok (.aload_n 0, 1) := by decide +kernel
theorem k_tl_addChange_109 : decode me_tl_addChange.2.1 109 = .ok (.getfield 35, 3) := by decide +kernel
theorem k_tl_addChange_112 : decode me_tl_addChange.2.1 112 = .ok (.aload 5, 2) := by decide +kernel
theorem k_tl_addChange_114 : decode me_tl_addChange.2.1 114 = .ok (.getfield 74, 3) := by decide +kernel
theorem k_tl_addChange_117 : decode me_tl_addChange.2.1 117 = .ok (.getfield 78, 3) := by decide +kernel
theorem k_tl_addChange_120 : decode me_tl_addChange.2.1 120 = .ok (.iastore, 1) := by decide +kernel
theorem k_tl_addChange_121 : decode me_tl_addChange.2.1 121 = .ok (.aload_n 0, 1) := by decide +kernel
theorem k_tl_addChange_122 : decode me_tl_addChange.2.1 122 = .ok (.dup, 1) := by decide +kernel
theorem k_tl_addChange_123 : decode me_tl_addChange.2.1 123 = .ok (.getfield 35, 3) := by decide +kernel
theorem k_tl_addChange_126 : decode me_tl_addChange.2.1 126 = .ok (.iconst 1, 1) := by decide +kernel
theorem k_tl_addChange_127 : decode me_tl_addChange.2.1 127 = .ok (.iadd, 1) := by decide +kernel
theorem k_tl_addChange_128 : decode me_tl_addChange.2.1 128 = .ok (.putfield 35, 3) := by decide +kernel
theorem k_tl_addChange_131 : decode me_tl_addChange.2.1 131 = .ok (.iinc 4 1, 3) := by decide +kernel
theorem k_tl_addChange_134 : decode me_tl_addChange.2.1 134 = .ok (.goto (-131), 3) := by decide +kernel
theorem k_tl_addChange_137 : decode me_tl_addChange.2.1 137 = .ok (.return_, 1) := by decide +kernel
theorem k_fn_task_0 : decode me_fn_task.2.1 0 = .ok (.aload_n 0, 1) := by decide +kernel
theorem k_fn_task_1 : decode me_fn_task.2.1 1 = .ok (.getfield 35, 3) := by decide +kernel
theorem k_fn_task_4 : decode me_fn_task.2.1 4 = .ok (.invokevirtual 225, 3) := by decide +kernel
theorem k_fn_task_7 : decode me_fn_task.2.1 7 = .ok (.iload_n 1, 1) := by decide +kernel
theorem k_fn_task_8 : decode me_fn_task.2.1 8 = .ok (.ifCond .lt 14, 3) := by decide +kernel
theorem k_fn_task_11 : decode me_fn_task.2.1 11 = .ok (.iload_n 1, 1) := by decide +kernel
theorem k_fn_task_12 : decode me_fn_task.2.1 12 = .ok (.aload_n 0, 1) := by decide +kernel
theorem k_fn_task_13 : decode me_fn_task.2.1 13 = .ok (.getfield 35, 3) := by decide +kernel
theorem k_fn_task_16 : decode me_fn_task.2.1 16 = .ok (.getfield 228, 3) := by decide +kernel
theorem k_fn_task_19 : decode me_fn_task.2.1 19 = .ok (.if_icmp .lt 9, 3) := by decide +kernel
theorem k_fn_task_22 : decode me_fn_task.2.1 22 = .ok (.aload_n 0, 1) := by decide +kernel
theorem k_fn_task_23 : decode me_fn_task.2.1 23 = .ok (.iconst (-1), 1) := by decide +kernel
theorem k_fn_task_24 : decode me_fn_task.2.1 24 = .ok (.invokevirtual 56, 3) := by decide +kernel
theorem k_fn_task_27 : decode me_fn_task.2.1 27 = .ok (.ireturn, 1) := by decide +kernel
theorem k_fn_task_28 : decode me_fn_task.2.1 28 = .ok (.iload_n 2, 1) := by decide +kernel
theorem k_fn_task_29 : decode me_fn_task.2.1 29 = .ok (.ifCond .lt 8, 3) := by decide +kernel
theorem k_fn_task_32 : decode me_fn_task.2.1 32 = .ok (.iload_n 2, 1) := by decide +kernel
theorem k_fn_task_33 : decode me_fn_task.2.1 33 = .ok (.iconst 2, 1) := by decide +kernel
theorem k_fn_task_34 : decode me_fn_task.2.1 34 = .ok (.if_icmp .le 10, 3) := by decide +kernel
theorem k_fn_task_37 : decode me_fn_task.2.1 37 = .ok (.aload_n 0, 1) := by decide +kernel
theorem k_fn_task_38 : decode me_fn_task.2.1 38 = .ok (.bipush (-2), 2) := by decide +kernel
theorem k_fn_task_40 : decode me_fn_task.2.1 40 = .ok (.invokevirtual 56, 3) := by decide +kernel
theorem k_fn_task_43 : decode me_fn_task.2.1 43 = .ok (.ireturn, 1) := by decide +kernel
theorem k_fn_task_44 : decode me_fn_task.2.1 44 = .ok (.aload_n 0, 1) := by decide +kernel
theorem k_fn_task_45 : decode me_fn_task.2.1 45 = .ok (.getfield 35, 3) := by decide +kernel
theorem k_fn_task_48 : decode me_fn_task.2.1 48 = .ok (.iload_n 1, 1) := by decide +kernel
theorem k_fn_task_49 : decode me_fn_task.2.1 49 = .ok (.iload_n 2, 1) := by decide +kernel
theorem k_fn_task_50 : decode me_fn_task.2.1 50 = .ok (.invokevirtual 229, 3) := by decide +kernel
theorem k_fn_task_53 : decode me_fn_task.2.1 53 = .ok (.ireturn, 1) := by decide +kernel
theorem k_tl_tell_0 : decode me_tl_tell.2.1 0 = .ok (.iload_n 1, 1) := by decide +kernel
theorem k_tl_tell_1 : decode me_tl_tell.2.1 1 = .ok (.ifCond .lt 20, 3) := by decide +kernel
theorem k_tl_tell_4 : decode me_tl_tell.2.1 4 = .ok (.iload_n 1, 1) := by decide +kernel
theorem k_tl_tell_5 : decode me_tl_tell.2.1 5 = .ok (.aload_n 0, 1) := by decide +kernel
theorem k_tl_tell_6 : decode me_tl_tell.2.1 6 = .ok (.getfield 35, 3) := by decide +kernel
theorem k_tl_tell_9 : decode me_tl_tell.2.1 9 = .ok (.if_icmp .ge 12, 3) := by decide +kernel
theorem k_tl_tell_12 : decode me_tl_tell.2.1 12 = .ok (.iload_n 1, 1) := by decide +kernel
theorem k_tl_tell_13 : decode me_tl_tell.2.1 13 = .ok (.aload_n 0, 1) := by decide +kernel
theorem k_tl_tell_14 : decode me_tl_tell.2.1 14 = .ok (.getfield 19, 3) := by decide +kernel
theorem k_tl_tell_17 : decode me_tl_tell.2.1 17 = .ok (.arraylength, 1) := by decide +kernel
theorem k_tl_tell_18 : decode me_tl_tell.2.1 18 = .ok (.if_icmp .lt 6, 3) := by decide +kernel
theorem k_tl_tell_21 : decode me_tl_tell.2.1 21 = .ok (.bipush (-9), 2) := by decide +kernel
theorem k_tl_tell_23 : decode me_tl_tell.2.1 23 = .ok (.ireturn, 1) := by decide +kernel
theorem k_tl_tell_24 : decode me_tl_tell.2.1 24 = .ok (.iload_n 2, 1) := by decide +kernel
theorem k_tl_tell_25 : decode me_tl_tell.2.1 25 = .ok (.ifCond .ne 12, 3) := by decide +kernel
theorem k_tl_tell_28 : decode me_tl_tell.2.1 28 = .ok (.aload_n 0, 1) := by decide +kernel
theorem k_tl_tell_29 : decode me_tl_tell.2.1 29 = .ok (.getfield 19, 3) := by decide +kernel
theorem k_tl_tell_32 : decode me_tl_tell.2.1 32 = .ok (.iload_n 1, 1) := by decide +kernel
theorem k_tl_tell_33 : decode me_tl_tell.2.1 33 = .ok (.iaload, 1) := by decide +kernel
theorem k_tl_tell_34 : decode me_tl_tell.2.1 34 = .ok (.goto 23, 3) := by decide +kernel
theorem k_tl_tell_37 : decode me_tl_tell.2.1 37 = .ok (.iload_n 2, 1) := by decide +kernel
theorem k_tl_tell_38 : decode me_tl_tell.2.1 38 = .ok (.iconst 1, 1) := by decide +kernel
theorem k_tl_tell_39 : decode me_tl_tell.2.1 39 = .ok (.if_icmp .ne 12, 3) := by decide +kernel
theorem k_tl_tell_42 : decode me_tl_tell.2.1 42 = .ok (.aload_n 0, 1) := by decide +kernel
theorem k_tl_tell_43 : decode me_tl_tell.2.1 43 = .ok (.getfield 23, 3) := by decide +kernel
theorem k_tl_tell_46 : decode me_tl_tell.2.1 46 = .ok (.iload_n 1, 1) := by decide +kernel
theorem k_tl_tell_47 : decode me_tl_tell.2.1 47 = .ok (.iaload, 1) := by decide +kernel
theorem k_tl_tell_48 : decode me_tl_tell.2.1 48 = .ok (.goto 9, 3) := by decide +kernel
theorem k_tl_tell_51 : decode me_tl_tell.2.1 51 = .ok (.aload_n 0, 1) := by decide +kernel
theorem k_tl_tell_52 : decode me_tl_tell.2.1 52 = .ok (.getfield 26, 3) := by decide +kernel
theorem k_tl_tell_55 : decode me_tl_tell.2.1 55 = .ok (.iload_n 1, 1) := by decide +kernel
theorem k_tl_tell_56 : decode me_tl_tell.2.1 56 = .ok (.iaload, 1) := by decide +kernel
theorem k_tl_tell_57 : decode me_tl_tell.2.1 57 = .ok (.ireturn, 1) := by decide +kernel
theorem k_fn_boys_0 : decode me_fn_boys.2.1 0 = .ok (.aload_n 0, 1) := by decide +kernel
theorem k_fn_boys_1 : decode me_fn_boys.2.1 1 = .ok (.getfield 35, 3) := by decide +kernel
theorem k_fn_boys_4 : decode me_fn_boys.2.1 4 = .ok (.invokevirtual 225, 3) := by decide +kernel
theorem k_fn_boys_7 : decode me_fn_boys.2.1 7 = .ok (.aload_n 0, 1) := by decide +kernel
theorem k_fn_boys_8 : decode me_fn_boys.2.1 8 = .ok (.getfield 35, 3) := by decide +kernel
theorem k_fn_boys_11 : decode me_fn_boys.2.1 11 = .ok (.getfield 228, 3) := by decide +kernel
theorem k_fn_boys_14 : decode me_fn_boys.2.1 14 = .ok (.bipush 60, 2) := by decide +kernel
theorem k_fn_boys_16 : decode me_fn_boys.2.1 16 = .ok (.if_icmp .le 10, 3) := by decide +kernel
theorem k_fn_boys_19 : decode me_fn_boys.2.1 19 = .ok (.aload_n 0, 1) := by decide +kernel
theorem k_fn_boys_20 : decode me_fn_boys.2.1 20 = .ok (.bipush (-6), 2) := by decide +kernel
theorem k_fn_boys_22 : decode me_fn_boys.2.1 22 = .ok (.invokevirtual 56, 3) := by decide +kernel
theorem k_fn_boys_25 : decode me_fn_boys.2.1 25 = .ok (.ireturn, 1) := by decide +kernel
theorem k_fn_boys_26 : decode me_fn_boys.2.1 26 = .ok (.aload_n 0, 1) := by decide +kernel
theorem k_fn_boys_27 : decode me_fn_boys.2.1 27 = .ok (.getfield 35, 3) := by decide +kernel
theorem k_fn_boys_30 : decode me_fn_boys.2.1 30 = .ok (.aload_n 0, 1) := by decide +kernel
theorem k_fn_boys_31 : decode me_fn_boys.2.1 31 = .ok (.getfield 52, 3) := by decide +kernel
theorem k_fn_boys_34 : decode me_fn_boys.2.1 34 = .ok (.invokevirtual 232, 3) := by decide +kernel
theorem k_fn_boys_37 : decode me_fn_boys.2.1 37 = .ok (.ireturn, 1) := by decide +kernel
theorem k_tl_fewestBoys_0 : decode me_tl_fewestBoys.2.1 0 = .ok (.iconst 0, 1) := by decide +kernel
theorem k_tl_fewestBoys_1 : decode me_tl_fewestBoys.2.1 1 = .ok (.istore_n 2, 1) := by decide +kernel
theorem k_tl_fewestBoys_2 : decode me_tl_fewestBoys.2.1 2 = .ok (.iconst 0, 1) := by decide +kernel
theorem k_tl_fewestBoys_3 : decode me_tl_fewestBoys.2.1 3 = .ok (.istore_n 3, 1) := by decide +kernel
theorem k_tl_fewestBoys_4 : decode me_tl_fewestBoys.2.1 4 = .ok (.iload_n 3, 1) := by decide +kernel
theorem k_tl_fewestBoys_5 : decode me_tl_fewestBoys.2.1 5 = .ok (.bipush 30, 2) := by decide +kernel
theorem k_tl_fewestBoys_7 : decode me_tl_fewestBoys.2.1 7 = .ok (.if_icmp .ge 76, 3) := by decide +kernel
theorem k_tl_fewestBoys_10 : decode me_tl_fewestBoys.2.1 10 = .ok (.iconst 0, 1) := by decide +kernel
theorem k_tl_fewestBoys_11 : decode me_tl_fewestBoys.2.1 11 = .ok (.istore 4, 2) := by decide +kernel
theorem k_tl_fewestBoys_13 : decode me_tl_fewestBoys.2.1 13 = .ok (.iload 4, 2) := by decide +kernel
theorem k_tl_fewestBoys_15 : decode me_tl_fewestBoys.2.1 15 = .ok (.aload_n 0, 1) := by decide +kernel
theorem k_tl_fewestBoys_16 : decode me_tl_fewestBoys.2.1 16 = .ok (.getfield 35, 3) := by decide +kernel
theorem k_tl_fewestBoys_19 : decode me_tl_fewestBoys.2.1 19 = .ok (.if_icmp .ge 58, 3) := by decide +kernel
theorem k_tl_fewestBoys_22 : decode me_tl_fewestBoys.2.1 22 = .ok (.iload 4, 2) := by decide +kernel
theorem k_tl_fewestBoys_24 : decode me_tl_fewestBoys.2.1 24 = .ok (.aload_n 0, 1) := by decide +kernel
theorem k_tl_fewestBoys_25 : decode me_tl_fewestBoys.2.1 25 = .ok (.getfield 32, 3) := by decide +kernel
theorem k_tl_fewestBoys_28 : decode me_tl_fewestBoys.2.1 28 = .ok (.arraylength, 1) := by decide +kernel
theorem k_tl_fewestBoys_29 : decode me_tl_fewestBoys.2.1 29 = .ok (.if_icmp .ge 48, 3) := by decide +kernel
theorem k_tl_fewestBoys_32 : decode me_tl_fewestBoys.2.1 32 = .ok (.aload_n 0, 1) := by decide +kernel
theorem k_tl_fewestBoys_33 : decode me_tl_fewestBoys.2.1 33 = .ok (.getfield 29, 3) := by decide +kernel
theorem k_tl_fewestBoys_36 : decode me_tl_fewestBoys.2.1 36 = .ok (.iload 4, 2) := by decide +kernel
theorem k_tl_fewestBoys_38 : decode me_tl_fewestBoys.2.1 38 = .ok (.iaload, 1) := by decide +kernel
theorem k_tl_fewestBoys_39 : decode me_tl_fewestBoys.2.1 39 = .ok (.iload_n 3, 1) := by decide +kernel
theorem k_tl_fewestBoys_40 : decode me_tl_fewestBoys.2.1 40 = .ok (.if_icmp .ne 31, 3) := by decide +kernel
theorem k_tl_fewestBoys_43 : decode me_tl_fewestBoys.2.1 43 = .ok (.aload_n 0, 1) := by decide +kernel
theorem k_tl_fewestBoys_44 : decode me_tl_fewestBoys.2.1 44 = .ok (.getfield 32, 3) := by decide +kernel
theorem k_tl_fewestBoys_47 : decode me_tl_fewestBoys.2.1 47 = .ok (.iload 4, 2) := by decide +kernel
theorem k_tl_fewestBoys_49 : decode me_tl_fewestBoys.2.1 49 = .ok (.iconst 1, 1) := by decide +kernel
theorem k_tl_fewestBoys_50 : decode me_tl_fewestBoys.2.1 50 = .ok (.aload_n 0, 1) := by decide +kernel
theorem k_tl_fewestBoys_51 : decode me_tl_fewestBoys.2.1 51 = .ok (.iload 4, 2) := by decide +kernel
theorem k_tl_fewestBoys_53 : decode me_tl_fewestBoys.2.1 53 = .ok (.iload_n 1, 1) := by decide +kernel
theorem k_tl_fewestBoys_54 : decode me_tl_fewestBoys.2.1 54 = .ok (.invokevirtual 83, 3) := by decide +kernel
theorem k_tl_fewestBoys_57 : decode me_tl_fewestBoys.2.1 57 = .ok (.iadd, 1) := by decide +kernel
theorem k_tl_fewestBoys_58 : decode me_tl_fewestBoys.2.1 58 = .ok (.iastore, 1) := by decide +kernel
theorem k_tl_fewestBoys_59 : decode me_tl_fewestBoys.2.1 59 = .ok (.iload_n 2, 1) := by decide +kernel
theorem k_tl_fewestBoys_60 : decode me_tl_fewestBoys.2.1 60 = .ok (.aload_n 0, 1) := by decide +kernel
theorem k_tl_fewestBoys_61 : decode me_tl_fewestBoys.2.1 61 = .ok (.getfield 32, 3) := by decide +kernel
theorem k_tl_fewestBoys_64 : decode me_tl_fewestBoys.2.1 64 = .ok (.iload 4, 2) := by decide +kernel
theorem k_tl_fewestBoys_66 : decode me_tl_fewestBoys.2.1 66 = .ok (.iaload, 1) := by decide +kernel
theorem k_tl_fewestBoys_67 : decode me_tl_fewestBoys.2.1 67 = .ok (.invokestatic 87, 3) := by decide +kernel
theorem k_tl_fewestBoys_70 : decode me_tl_fewestBoys.2.1 70 = .ok (.istore_n 2, 1) := by decide +kernel
theorem k_tl_fewestBoys_71 : decode me_tl_fewestBoys.2.1 71 = .ok (.iinc 4 1, 3) := by decide +kernel
theorem k_tl_fewestBoys_74 : decode me_tl_fewestBoys.2.1 74 = .ok (.goto (-61), 3) := by decide +kernel
theorem k_tl_fewestBoys_77 : decode me_tl_fewestBoys.2.1 77 = .ok (.iinc 3 1, 3) := by decide +kernel
theorem k_tl_fewestBoys_80 : decode me_tl_fewestBoys.2.1 80 = .ok (.goto (-76), 3) := by decide +kernel
theorem k_tl_fewestBoys_83 : decode me_tl_fewestBoys.2.1 83 = .ok (.iload_n 2, 1) := by decide +kernel
theorem k_tl_fewestBoys_84 : decode me_tl_fewestBoys.2.1 84 = .ok (.ireturn, 1) := by decide +kernel
theorem k_tl_mostApartAhead_0 : decode me_tl_mostApartAhead.2.1 0 = .ok (.iload_n 1, 1) := by decide +kernel
theorem k_tl_mostApartAhead_1 : decode me_tl_mostApartAhead.2.1 1 = .ok (.ifCond .lt 12, 3) := by decide +kernel
theorem k_tl_mostApartAhead_4 : decode me_tl_mostApartAhead.2.1 4 = .ok (.iload_n 1, 1) := by decide +kernel
theorem k_tl_mostApartAhead_5 : decode me_tl_mostApartAhead.2.1 5 = .ok (.aload_n 0, 1) := by decide +kernel
theorem k_tl_mostApartAhead_6 : decode me_tl_mostApartAhead.2.1 6 = .ok (.getfield 32, 3) := by decide +kernel
theorem k_tl_mostApartAhead_9 : decode me_tl_mostApartAhead.2.1 9 = .ok (.arraylength, 1) := by decide +kernel
theorem k_tl_mostApartAhead_10 : decode me_tl_mostApartAhead.2.1 10 = .ok (.if_icmp .lt 5, 3) := by decide +kernel
theorem k_tl_mostApartAhead_13 : decode me_tl_mostApartAhead.2.1 13 = .ok (.iconst 0, 1) := by decide +kernel
theorem k_tl_mostApartAhead_14 : decode me_tl_mostApartAhead.2.1 14 = .ok (.ireturn, 1) := by decide +kernel
theorem k_tl_mostApartAhead_15 : decode me_tl_mostApartAhead.2.1 15 = .ok (.iconst 0, 1) := by decide +kernel
theorem k_tl_mostApartAhead_16 : decode me_tl_mostApartAhead.2.1 16 = .ok (.istore_n 3, 1) := by decide +kernel
theorem k_tl_mostApartAhead_17 : decode me_tl_mostApartAhead.2.1 17 = .ok (.iconst 0, 1) := by decide +kernel
theorem k_tl_mostApartAhead_18 : decode me_tl_mostApartAhead.2.1 18 = .ok (.istore 4, 2) := by decide +kernel
theorem k_tl_mostApartAhead_20 : decode me_tl_mostApartAhead.2.1 20 = .ok (.iload 4, 2) := by decide +kernel
theorem k_tl_mostApartAhead_22 : decode me_tl_mostApartAhead.2.1 22 = .ok (.aload_n 0, 1) := by decide +kernel
theorem k_tl_mostApartAhead_23 : decode me_tl_mostApartAhead.2.1 23 = .ok (.getfield 35, 3) := by decide +kernel
theorem k_tl_mostApartAhead_26 : decode me_tl_mostApartAhead.2.1 26 = .ok (.if_icmp .ge 71, 3) := by decide +kernel
theorem k_tl_mostApartAhead_29 : decode me_tl_mostApartAhead.2.1 29 = .ok (.iload 4, 2) := by decide +kernel
theorem k_tl_mostApartAhead_31 : decode me_tl_mostApartAhead.2.1 31 = .ok (.aload_n 0, 1) := by decide +kernel
theorem k_tl_mostApartAhead_32 : decode me_tl_mostApartAhead.2.1 32 = .ok (.getfield 32, 3) := by decide +kernel
theorem k_tl_mostApartAhead_35 : decode me_tl_mostApartAhead.2.1 35 = .ok (.arraylength, 1) := by decide +kernel
theorem k_tl_mostApartAhead_36 : decode me_tl_mostApartAhead.2.1 36 = .ok (.if_icmp .ge 61, 3) := by decide +kernel
theorem k_tl_mostApartAhead_39 : decode me_tl_mostApartAhead.2.1 39 = .ok (.aload_n 0, 1) := by decide +kernel
theorem k_tl_mostApartAhead_40 : decode me_tl_mostApartAhead.2.1 40 = .ok (.getfield 29, 3) := by decide +kernel
theorem k_tl_mostApartAhead_43 : decode me_tl_mostApartAhead.2.1 43 = .ok (.iload_n 1, 1) := by decide +kernel
theorem k_tl_mostApartAhead_44 : decode me_tl_mostApartAhead.2.1 44 = .ok (.iaload, 1) := by decide +kernel
theorem k_tl_mostApartAhead_45 : decode me_tl_mostApartAhead.2.1 45 = .ok (.aload_n 0, 1) := by decide +kernel
theorem k_tl_mostApartAhead_46 : decode me_tl_mostApartAhead.2.1 46 = .ok (.getfield 29, 3) := by decide +kernel
theorem k_tl_mostApartAhead_49 : decode me_tl_mostApartAhead.2.1 49 = .ok (.iload 4, 2) := by decide +kernel
theorem k_tl_mostApartAhead_51 : decode me_tl_mostApartAhead.2.1 51 = .ok (.iaload, 1) := by decide +kernel
theorem k_tl_mostApartAhead_52 : decode me_tl_mostApartAhead.2.1 52 = .ok (.isub, 1) := by decide +kernel
theorem k_tl_mostApartAhead_53 : decode me_tl_mostApartAhead.2.1 53 = .ok (.iload_n 2, 1) := by decide +kernel
theorem k_tl_mostApartAhead_54 : decode me_tl_mostApartAhead.2.1 54 = .ok (.imul, 1) := by decide +kernel
theorem k_tl_mostApartAhead_55 : decode me_tl_mostApartAhead.2.1 55 = .ok (.istore 5, 2) := by decide +kernel
theorem k_tl_mostApartAhead_57 : decode me_tl_mostApartAhead.2.1 57 = .ok (.aload_n 0, 1) := by decide +kernel
theorem k_tl_mostApartAhead_58 : decode me_tl_mostApartAhead.2.1 58 = .ok (.getfield 19, 3) := by decide +kernel
theorem k_tl_mostApartAhead_61 : decode me_tl_mostApartAhead.2.1 61 = .ok (.iload_n 1, 1) := by decide +kernel
theorem k_tl_mostApartAhead_62 : decode me_tl_mostApartAhead.2.1 62 = .ok (.iaload, 1) := by decide +kernel
theorem k_tl_mostApartAhead_63 : decode me_tl_mostApartAhead.2.1 63 = .ok (.aload_n 0, 1) := by decide +kernel
theorem k_tl_mostApartAhead_64 : decode me_tl_mostApartAhead.2.1 64 = .ok (.getfield 19, 3) := by decide +kernel
theorem k_tl_mostApartAhead_67 : decode me_tl_mostApartAhead.2.1 67 = .ok (.iload 4, 2) := by decide +kernel
theorem k_tl_mostApartAhead_69 : decode me_tl_mostApartAhead.2.1 69 = .ok (.iaload, 1) := by decide +kernel
theorem k_tl_mostApartAhead_70 : decode me_tl_mostApartAhead.2.1 70 = .ok (.isub, 1) := by decide +kernel
theorem k_tl_mostApartAhead_71 : decode me_tl_mostApartAhead.2.1 71 = .ok (.invokestatic 92, 3) := by decide +kernel
theorem k_tl_mostApartAhead_74 : decode me_tl_mostApartAhead.2.1 74 = .ok (.iload 5, 2) := by decide +kernel
theorem k_tl_mostApartAhead_76 : decode me_tl_mostApartAhead.2.1 76 = .ok (.if_icmp .ge 15, 3) := by decide +kernel
theorem k_tl_mostApartAhead_79 : decode me_tl_mostApartAhead.2.1 79 = .ok (.iload_n 3, 1) := by decide +kernel
theorem k_tl_mostApartAhead_80 : decode me_tl_mostApartAhead.2.1 80 = .ok (.aload_n 0, 1) := by decide +kernel
theorem k_tl_mostApartAhead_81 : decode me_tl_mostApartAhead.2.1 81 = .ok (.getfield 32, 3) := by decide +kernel
theorem k_tl_mostApartAhead_84 : decode me_tl_mostApartAhead.2.1 84 = .ok (.iload 4, 2) := by decide +kernel
theorem k_tl_mostApartAhead_86 : decode me_tl_mostApartAhead.2.1 86 = .ok (.iaload, 1) := by decide +kernel
theorem k_tl_mostApartAhead_87 : decode me_tl_mostApartAhead.2.1 87 = .ok (.invokestatic 87, 3) := by decide +kernel
theorem k_tl_mostApartAhead_90 : decode me_tl_mostApartAhead.2.1 90 = .ok (.istore_n 3, 1) := by decide +kernel
theorem k_tl_mostApartAhead_91 : decode me_tl_mostApartAhead.2.1 91 = .ok (.iinc 4 1, 3) := by decide +kernel
theorem k_tl_mostApartAhead_94 : decode me_tl_mostApartAhead.2.1 94 = .ok (.goto (-74), 3) := by decide +kernel
theorem k_tl_mostApartAhead_97 : decode me_tl_mostApartAhead.2.1 97 = .ok (.iload_n 3, 1) := by decide +kernel
theorem k_tl_mostApartAhead_98 : decode me_tl_mostApartAhead.2.1 98 = .ok (.ireturn, 1) := by decide +kernel
theorem k_fn_gauge_0 : decode me_fn_gauge.2.1 0 = .ok (.aload_n 0, 1) := by decide +kernel
theorem k_fn_gauge_1 : decode me_fn_gauge.2.1 1 = .ok (.getfield 12, 3) := by decide +kernel
theorem k_fn_gauge_4 : decode me_fn_gauge.2.1 4 = .ok (.iload_n 1, 1) := by decide +kernel
theorem k_fn_gauge_5 : decode me_fn_gauge.2.1 5 = .ok (.invokevirtual 121, 3) := by decide +kernel
theorem k_fn_gauge_8 : decode me_fn_gauge.2.1 8 = .ok (.astore_n 3, 1) := by decide +kernel
theorem k_fn_gauge_9 : decode me_fn_gauge.2.1 9 = .ok (.aload_n 3, 1) := by decide +kernel
theorem k_fn_gauge_10 : decode me_fn_gauge.2.1 10 = .ok (.ifnonnull 9, 3) := by decide +kernel
theorem k_fn_gauge_13 : decode me_fn_gauge.2.1 13 = .ok (.aload_n 0, 1) := by decide +kernel
theorem k_fn_gauge_14 : decode me_fn_gauge.2.1 14 = .ok (.iconst (-1), 1) := by decide +kernel
theorem k_fn_gauge_15 : decode me_fn_gauge.2.1 15 = .ok (.invokevirtual 150, 3) := by decide +kernel
theorem k_fn_gauge_18 : decode me_fn_gauge.2.1 18 = .ok (.ireturn, 1) := by decide +kernel
theorem k_fn_gauge_19 : decode me_fn_gauge.2.1 19 = .ok (.iload_n 2, 1) := by decide +kernel
theorem k_fn_gauge_20 : decode me_fn_gauge.2.1 20 = .ok (.iconst (-1), 1) := by decide +kernel
theorem k_fn_gauge_21 : decode me_fn_gauge.2.1 21 = .ok (.if_icmp .ge 10, 3) := by decide +kernel
theorem k_fn_gauge_24 : decode me_fn_gauge.2.1 24 = .ok (.aload_n 0, 1) := by decide +kernel
theorem k_fn_gauge_25 : decode me_fn_gauge.2.1 25 = .ok (.bipush (-4), 2) := by decide +kernel
theorem k_fn_gauge_27 : decode me_fn_gauge.2.1 27 = .ok (.invokevirtual 150, 3) := by decide +kernel
theorem k_fn_gauge_30 : decode me_fn_gauge.2.1 30 = .ok (.ireturn, 1) := by decide +kernel
theorem k_fn_gauge_31 : decode me_fn_gauge.2.1 31 = .ok (.iload_n 2, 1) := by decide +kernel
theorem k_fn_gauge_32 : decode me_fn_gauge.2.1 32 = .ok (.sipush 500, 3) := by decide +kernel
theorem k_fn_gauge_35 : decode me_fn_gauge.2.1 35 = .ok (.if_icmp .le 10, 3) := by decide +kernel
theorem k_fn_gauge_38 : decode me_fn_gauge.2.1 38 = .ok (.aload_n 0, 1) := by decide +kernel
theorem k_fn_gauge_39 : decode me_fn_gauge.2.1 39 = .ok (.bipush (-6), 2) := by decide +kernel
theorem k_fn_gauge_41 : decode me_fn_gauge.2.1 41 = .ok (.invokevirtual 150, 3) := by decide +kernel
theorem k_fn_gauge_44 : decode me_fn_gauge.2.1 44 = .ok (.ireturn, 1) := by decide +kernel
theorem k_fn_gauge_45 : decode me_fn_gauge.2.1 45 = .ok (.aload_n 3, 1) := by decide +kernel
theorem k_fn_gauge_46 : decode me_fn_gauge.2.1 46 = .ok (.getfield 235, 3) := by decide +kernel
theorem k_fn_gauge_49 : decode me_fn_gauge.2.1 49 = .ok (.istore 4, 2) := by decide +kernel
theorem k_fn_gauge_51 : decode me_fn_gauge.2.1 51 = .ok (.aload_n 3, 1) := by decide +kernel
theorem k_fn_gauge_52 : decode me_fn_gauge.2.1 52 = .ok (.iload_n 2, 1) := by decide +kernel
theorem k_fn_gauge_53 : decode me_fn_gauge.2.1 53 = .ok (.putfield 235, 3) := by decide +kernel
theorem k_fn_gauge_56 : decode me_fn_gauge.2.1 56 = .ok (.iload 4, 2) := by decide +kernel
theorem k_fn_gauge_58 : decode me_fn_gauge.2.1 58 = .ok (.ireturn, 1) := by decide +kernel
theorem k_fn_tol_0 : decode me_fn_tol.2.1 0 = .ok (.iload_n 1, 1) := by decide +kernel
theorem k_fn_tol_1 : decode me_fn_tol.2.1 1 = .ok (.ifCond .ge 10, 3) := by decide +kernel
theorem k_fn_tol_4 : decode me_fn_tol.2.1 4 = .ok (.aload_n 0, 1) := by decide +kernel
theorem k_fn_tol_5 : decode me_fn_tol.2.1 5 = .ok (.bipush (-4), 2) := by decide +kernel
theorem k_fn_tol_7 : decode me_fn_tol.2.1 7 = .ok (.invokevirtual 56, 3) := by decide +kernel
theorem k_fn_tol_10 : decode me_fn_tol.2.1 10 = .ok (.ireturn, 1) := by decide +kernel
theorem k_fn_tol_11 : decode me_fn_tol.2.1 11 = .ok (.iload_n 1, 1) := by decide +kernel
theorem k_fn_tol_12 : decode me_fn_tol.2.1 12 = .ok (.bipush 50, 2) := by decide +kernel
theorem k_fn_tol_14 : decode me_fn_tol.2.1 14 = .ok (.if_icmp .le 10, 3) := by decide +kernel
theorem k_fn_tol_17 : decode me_fn_tol.2.1 17 = .ok (.aload_n 0, 1) := by decide +kernel
theorem k_fn_tol_18 : decode me_fn_tol.2.1 18 = .ok (.bipush (-6), 2) := by decide +kernel
theorem k_fn_tol_20 : decode me_fn_tol.2.1 20 = .ok (.invokevirtual 56, 3) := by decide +kernel
theorem k_fn_tol_23 : decode me_fn_tol.2.1 23 = .ok (.ireturn, 1) := by decide +kernel
theorem k_fn_tol_24 : decode me_fn_tol.2.1 24 = .ok (.aload_n 0, 1) := by decide +kernel
theorem k_fn_tol_25 : decode me_fn_tol.2.1 25 = .ok (.getfield 44, 3) := by decide +kernel
theorem k_fn_tol_28 : decode me_fn_tol.2.1 28 = .ok (.getfield 238, 3) := by decide +kernel
theorem k_fn_tol_31 : decode me_fn_tol.2.1 31 = .ok (.istore_n 2, 1) := by decide +kernel
theorem k_fn_tol_32 : decode me_fn_tol.2.1 32 = .ok (.aload_n 0, 1) := by decide +kernel
theorem k_fn_tol_33 : decode me_fn_tol.2.1 33 = .ok (.getfield 44, 3) := by decide +kernel
theorem k_fn_tol_36 : decode me_fn_tol.2.1 36 = .ok (.iload_n 1, 1) := by decide +kernel
theorem k_fn_tol_37 : decode me_fn_tol.2.1 37 = .ok (.putfield 238, 3) := by decide +kernel
theorem k_fn_tol_40 : decode me_fn_tol.2.1 40 = .ok (.iload_n 2, 1) := by decide +kernel
theorem k_fn_tol_41 : decode me_fn_tol.2.1 41 = .ok (.ireturn, 1) := by decide +kernel
theorem k_fn_explain_0 : decode me_fn_explain.2.1 0 = .ok (.aload_n 0, 1) := by decide +kernel
theorem k_fn_explain_1 : decode me_fn_explain.2.1 1 = .ok (.getfield 44, 3) := by decide +kernel
theorem k_fn_explain_4 : decode me_fn_explain.2.1 4 = .ok (.invokevirtual 241, 3) := by decide +kernel
theorem k_fn_explain_7 : decode me_fn_explain.2.1 7 = .ok (.ireturn, 1) := by decide +kernel
theorem k_lk_seek_0 : decode me_lk_seek.2.1 0 = .ok (.aload_n 0, 1) := by decide +kernel
theorem k_lk_seek_1 : decode me_lk_seek.2.1 1 = .ok (.invokevirtual 15, 3) := by decide +kernel
theorem k_lk_seek_4 : decode me_lk_seek.2.1 4 = .ok (.aload_n 0, 1) := by decide +kernel
theorem k_lk_seek_5 : decode me_lk_seek.2.1 5 = .ok (.invokevirtual 18, 3) := by decide +kernel
theorem k_lk_seek_8 : decode me_lk_seek.2.1 8 = .ok (.ifCond .ne 5, 3) := by decide +kernel
theorem k_lk_seek_11 : decode me_lk_seek.2.1 11 = .ok (.iconst 4, 1) := by decide +kernel
theorem k_lk_seek_12 : decode me_lk_seek.2.1 12 = .ok (.ireturn, 1) := by decide +kernel
theorem k_lk_seek_13 : decode me_lk_seek.2.1 13 = .ok (.aload_n 0, 1) := by decide +kernel
theorem k_lk_seek_14 : decode me_lk_seek.2.1 14 = .ok (.invokevirtual 22, 3) := by decide +kernel
theorem k_lk_seek_17 : decode me_lk_seek.2.1 17 = .ok (.ifCond .ne 5, 3) := by decide +kernel
theorem k_lk_seek_20 : decode me_lk_seek.2.1 20 = .ok (.iconst 0, 1) := by decide +kernel
theorem k_lk_seek_21 : decode me_lk_seek.2.1 21 = .ok (.ireturn, 1) := by decide +kernel
theorem k_lk_seek_22 : decode me_lk_seek.2.1 22 = .ok (.aload_n 0, 1) := by decide +kernel
theorem k_lk_seek_23 : decode me_lk_seek.2.1 23 = .ok (.getfield 9, 3) := by decide +kernel
theorem k_lk_seek_26 : decode me_lk_seek.2.1 26 = .ok (.getfield 26, 3) := by decide +kernel
theorem k_lk_seek_29 : decode me_lk_seek.2.1 29 = .ok (.invokevirtual 32, 3) := by decide +kernel
theorem k_lk_seek_32 : decode me_lk_seek.2.1 32 = .ok (.istore_n 1, 1) := by decide +kernel
theorem k_lk_seek_33 : decode me_lk_seek.2.1 33 = .ok (.iconst 0, 1) := by decide +kernel
theorem k_lk_seek_34 : decode me_lk_seek.2.1 34 = .ok (.istore_n 2, 1) := by decide +kernel
theorem k_lk_seek_35 : decode me_lk_seek.2.1 35 = .ok (.iload_n 2, 1) := by decide +kernel
theorem k_lk_seek_36 : decode me_lk_seek.2.1 36 = .ok (.iload_n 1, 1) := by decide +kernel
theorem k_lk_seek_37 : decode me_lk_seek.2.1 37 = .ok (.if_icmp .ge 32, 3) := by decide +kernel
theorem k_lk_seek_40 : decode me_lk_seek.2.1 40 = .ok (.aload_n 0, 1) := by decide +kernel
theorem k_lk_seek_41 : decode me_lk_seek.2.1 41 = .ok (.aload_n 0, 1) := by decide +kernel
theorem k_lk_seek_42 : decode me_lk_seek.2.1 42 = .ok (.getfield 9, 3) := by decide +kernel
theorem k_lk_seek_45 : decode me_lk_seek.2.1 45 = .ok (.getfield 26, 3) := by decide +kernel
theorem k_lk_seek_48 : decode me_lk_seek.2.1 48 = .ok (.iload_n 2, 1) := by decide +kernel
theorem k_lk_seek_49 : decode me_lk_seek.2.1 49 = .ok (.invokevirtual 37, 3) := by decide +kernel
theorem k_lk_seek_52 : decode me_lk_seek.2.1 52 = .ok (.checkcast 41, 3) := by decide +kernel
theorem k_lk_seek_55 : decode me_lk_seek.2.1 55 = .ok (.invokevirtual 43, 3) := by decide +kernel
theorem k_lk_seek_58 : decode me_lk_seek.2.1 58 = .ok (.ifCond .eq 5, 3) := by decide +kernel
theorem k_lk_seek_61 : decode me_lk_seek.2.1 61 = .ok (.iconst 1, 1) := by decide +kernel
theorem k_lk_seek_62 : decode me_lk_seek.2.1 62 = .ok (.ireturn, 1) := by decide +kernel
theorem k_lk_seek_63 : decode me_lk_seek.2.1 63 = .ok (.iinc 2 1, 3) := by decide +kernel
theorem k_lk_seek_66 : decode me_lk_seek.2.1 66 = .ok (.goto (-31), 3) := by decide +kernel
theorem k_lk_seek_69 : decode me_lk_seek.2.1 69 = .ok (.iconst 0, 1) := by decide +kernel
theorem k_lk_seek_70 : decode me_lk_seek.2.1 70 = .ok (.istore_n 2, 1) := by decide +kernel
theorem k_lk_seek_71 : decode me_lk_seek.2.1 71 = .ok (.iload_n 2, 1) := by decide +kernel
theorem k_lk_seek_72 : decode me_lk_seek.2.1 72 = .ok (.iload_n 1, 1) := by decide +kernel
theorem k_lk_seek_73 : decode me_lk_seek.2.1 73 = .ok (.if_icmp .ge 61, 3) := by decide +kernel
theorem k_lk_seek_76 : decode me_lk_seek.2.1 76 = .ok (.iload_n 2, 1) := by decide +kernel
theorem k_lk_seek_77 : decode me_lk_seek.2.1 77 = .ok (.iconst 1, 1) := by decide +kernel
theorem k_lk_seek_78 : decode me_lk_seek.2.1 78 = .ok (.iadd, 1) := by decide +kernel
theorem k_lk_seek_79 : decode me_lk_seek.2.1 79 = .ok (.istore_n 3, 1) := by decide +kernel
theorem k_lk_seek_80 : decode me_lk_seek.2.1 80 = .ok (.iload_n 3, 1) := by decide +kernel
theorem k_lk_seek_81 : decode me_lk_seek.2.1 81 = .ok (.iload_n 1, 1) := by decide +kernel
theorem k_lk_seek_82 : decode me_lk_seek.2.1 82 = .ok (.if_icmp .ge 46, 3) := by decide +kernel
theorem k_lk_seek_85 : decode me_lk_seek.2.1 85 = .ok (.aload_n 0, 1) := by decide +kernel
theorem k_lk_seek_86 : decode me_lk_seek.2.1 86 = .ok (.aload_n 0, 1) := by decide +kernel
theorem k_lk_seek_87 : decode me_lk_seek.2.1 87 = .ok (.getfield 9, 3) := by decide +kernel
theorem k_lk_seek_90 : decode me_lk_seek.2.1 90 = .ok (.getfield 26, 3) := by decide +kernel
theorem k_lk_seek_93 : decode me_lk_seek.2.1 93 = .ok (.iload_n 2, 1) := by decide +kernel
theorem k_lk_seek_94 : decode me_lk_seek.2.1 94 = .ok (.invokevirtual 37, 3) := by decide +kernel
theorem k_lk_seek_97 : decode me_lk_seek.2.1 97 = .ok (.checkcast 41, 3) := by decide +kernel
theorem k_lk_seek_100 : decode me_lk_seek.2.1 100 = .ok (.aload_n 0, 1) := by decide +kernel
theorem k_lk_seek_101 : decode me_lk_seek.2.1 101 = .ok (.getfield 9, 3) := by decide +kernel
theorem k_lk_seek_104 : decode me_lk_seek.2.1 104 = .ok (.getfield 26, 3) := by decide +kernel
theorem k_lk_seek_107 : decode me_lk_seek.2.1 107 = .ok (.iload_n 3, 1) := by decide +kernel
theorem k_lk_seek_108 : decode me_lk_seek.2.1 108 = .ok (.invokevirtual 37, 3) := by decide +kernel
theorem k_lk_seek_111 : decode me_lk_seek.2.1 111 = .ok (.checkcast 41, 3) := by decide +kernel
theorem k_lk_seek_114 : decode me_lk_seek.2.1 114 = .ok (.invokevirtual 47, 3) := by decide +kernel
theorem k_lk_seek_117 : decode me_lk_seek.2.1 117 = .ok (.ifCond .eq 5, 3) := by decide +kernel
theorem k_lk_seek_120 : decode me_lk_seek.2.1 120 = .ok (.iconst 2, 1) := by decide +kernel
theorem k_lk_seek_121 : decode me_lk_seek.2.1 121 = .ok (.ireturn, 1) := by decide +kernel
theorem k_lk_seek_122 : decode me_lk_seek.2.1 122 = .ok (.iinc 3 1, 3) := by decide +kernel
theorem k_lk_seek_125 : decode me_lk_seek.2.1 125 = .ok (.goto (-45), 3) := by decide +kernel
theorem k_lk_seek_128 : decode me_lk_seek.2.1 128 = .ok (.iinc 2 1, 3) := by decide +kernel
theorem k_lk_seek_131 : decode me_lk_seek.2.1 131 = .ok (.goto (-60), 3) := by decide +kernel
theorem k_lk_seek_134 : decode me_lk_seek.2.1 134 = .ok (.iconst 3, 1) := by decide +kernel
theorem k_lk_seek_135 : decode me_lk_seek.2.1 135 = .ok (.ireturn, 1) := by decide +kernel
theorem k_lk_forgetFound_0 : decode me_lk_forgetFound.2.1 0 = .ok (.aload_n 0, 1) := by decide +kernel
theorem k_lk_forgetFound_1 : decode me_lk_forgetFound.2.1 1 = .ok (.bipush (-9), 2) := by decide +kernel
theorem k_lk_forgetFound_3 : decode me_lk_forgetFound.2.1 3 = .ok (.putfield 51, 3) := by decide +kernel
theorem k_lk_forgetFound_6 : decode me_lk_forgetFound.2.1 6 = .ok (.aload_n 0, 1) := by decide +kernel
theorem k_lk_forgetFound_7 : decode me_lk_forgetFound.2.1 7 = .ok (.bipush (-9), 2) := by decide +kernel
theorem k_lk_forgetFound_9 : decode me_lk_forgetFound.2.1 9 = .ok (.putfield 55, 3) := by decide +kernel
theorem k_lk_forgetFound_12 : decode me_lk_forgetFound.2.1 12 = .ok (.aload_n 0, 1) := by decide +kernel
theorem k_lk_forgetFound_13 : decode me_lk_forgetFound.2.1 13 = .ok (.bipush (-9), 2) := by decide +kernel
theorem k_lk_forgetFound_15 : decode me_lk_forgetFound.2.1 15 = .ok (.putfield 58, 3) := by decide +kernel
theorem k_lk_forgetFound_18 : decode me_lk_forgetFound.2.1 18 = .ok (.aload_n 0, 1) := by decide +kernel
theorem k_lk_forgetFound_19 : decode me_lk_forgetFound.2.1 19 = .ok (.bipush (-9), 2) := by decide +kernel
theorem k_lk_forgetFound_21 : decode me_lk_forgetFound.2.1 21 = .ok (.putfield 61, 3) := by decide +kernel
theorem k_lk_forgetFound_24 : decode me_lk_forgetFound.2.1 24 = .ok (.return_, 1) := by decide +kernel
theorem k_lk_isAnyRead_0 : decode me_lk_isAnyRead.2.1 0 = .ok (.iconst 0, 1) := by decide +kernel
theorem k_lk_isAnyRead_1 : decode me_lk_isAnyRead.2.1 1 = .ok (.istore_n 1, 1) := by decide +kernel
theorem k_lk_isAnyRead_2 : decode me_lk_isAnyRead.2.1 2 = .ok (.iload_n 1, 1) := by decide +kernel
theorem k_lk_isAnyRead_3 : decode me_lk_isAnyRead.2.1 3 = .ok (.aload_n 0, 1) := by decide +kernel
theorem k_lk_isAnyRead_4 : decode me_lk_isAnyRead.2.1 4 = .ok (.getfield 9, 3) := by decide +kernel
theorem k_lk_isAnyRead_7 : decode me_lk_isAnyRead.2.1 7 = .ok (.getfield 64, 3) := by decide +kernel
theorem k_lk_isAnyRead_10 : decode me_lk_isAnyRead.2.1 10 = .ok (.invokevirtual 32, 3) := by decide +kernel
theorem k_lk_isAnyRead_13 : decode me_lk_isAnyRead.2.1 13 = .ok (.if_icmp .ge 31, 3) := by decide +kernel
theorem k_lk_isAnyRead_16 : decode me_lk_isAnyRead.2.1 16 = .ok (.aload_n 0, 1) := by decide +kernel
theorem k_lk_isAnyRead_17 : decode me_lk_isAnyRead.2.1 17 = .ok (.getfield 9, 3) := by decide +kernel
theorem k_lk_isAnyRead_20 : decode me_lk_isAnyRead.2.1 20 = .ok (.getfield 64, 3) := by decide +kernel
theorem k_lk_isAnyRead_23 : decode me_lk_isAnyRead.2.1 23 = .ok (.iload_n 1, 1) := by decide +kernel
theorem k_lk_isAnyRead_24 : decode me_lk_isAnyRead.2.1 24 = .ok (.invokevirtual 37, 3) := by decide +kernel
theorem k_lk_isAnyRead_27 : decode me_lk_isAnyRead.2.1 27 = .ok (.checkcast 67, 3) := by decide +kernel
theorem k_lk_isAnyRead_30 : decode me_lk_isAnyRead.2.1 30 = .ok (.getfield 69, 3) := by decide +kernel
theorem k_lk_isAnyRead_33 : decode me_lk_isAnyRead.2.1 33 = .ok (.ifCond .lt 5, 3) := by decide +kernel
theorem k_lk_isAnyRead_36 : decode me_lk_isAnyRead.2.1 36 = .ok (.iconst 1, 1) := by decide +kernel
theorem k_lk_isAnyRead_37 : decode me_lk_isAnyRead.2.1 37 = .ok (.ireturn, 1) := by decide +kernel
theorem k_lk_isAnyRead_38 : decode me_lk_isAnyRead.2.1 38 = .ok (.iinc 1 1, 3) := by decide +kernel
theorem k_lk_isAnyRead_41 : decode me_lk_isAnyRead.2.1 41 = .ok (.goto (-39), 3) := by decide +kernel
theorem k_lk_isAnyRead_44 : decode me_lk_isAnyRead.2.1 44 = .ok (.iconst 0, 1) := by decide +kernel
theorem k_lk_isAnyRead_45 : decode me_lk_isAnyRead.2.1 45 = .ok (.ireturn, 1) := by decide +kernel
theorem k_lk_misses_0 : decode me_lk_misses.2.1 0 = .ok (.aload_n 0, 1) := by decide +kernel
theorem k_lk_misses_1 : decode me_lk_misses.2.1 1 = .ok (.getfield 9, 3) := by decide +kernel
theorem k_lk_misses_4 : decode me_lk_misses.2.1 4 = .ok (.aload_n 0, 1) := by decide +kernel
theorem k_lk_misses_5 : decode me_lk_misses.2.1 5 = .ok (.getfield 9, 3) := by decide +kernel
theorem k_lk_misses_8 : decode me_lk_misses.2.1 8 = .ok (.getfield 82, 3) := by decide +kernel
theorem k_lk_misses_11 : decode me_lk_misses.2.1 11 = .ok (.iconst 1, 1) := by decide +kernel
theorem k_lk_misses_12 : decode me_lk_misses.2.1 12 = .ok (.invokevirtual 85, 3) := by decide +kernel
theorem k_lk_misses_15 : decode me_lk_misses.2.1 15 = .ok (.iconst 0, 1) := by decide +kernel
theorem k_lk_misses_16 : decode me_lk_misses.2.1 16 = .ok (.istore_n 1, 1) := by decide +kernel
theorem k_lk_misses_17 : decode me_lk_misses.2.1 17 = .ok (.iconst 0, 1) := by decide +kernel
theorem k_lk_misses_18 : decode me_lk_misses.2.1 18 = .ok (.istore_n 2, 1) := by decide +kernel
theorem k_lk_misses_19 : decode me_lk_misses.2.1 19 = .ok (.iload_n 2, 1) := by decide +kernel
theorem k_lk_misses_20 : decode me_lk_misses.2.1 20 = .ok (.aload_n 0, 1) := by decide +kernel
theorem k_lk_misses_21 : decode me_lk_misses.2.1 21 = .ok (.getfield 9, 3) := by decide +kernel
theorem k_lk_misses_24 : decode me_lk_misses.2.1 24 = .ok (.getfield 64, 3) := by decide +kernel
theorem k_lk_misses_27 : decode me_lk_misses.2.1 27 = .ok (.invokevirtual 32, 3) := by decide +kernel
theorem k_lk_misses_30 : decode me_lk_misses.2.1 30 = .ok (.if_icmp .ge 90, 3) := by decide +kernel
theorem k_lk_misses_33 : decode me_lk_misses.2.1 33 = .ok (.aload_n 0, 1) := by decide +kernel
theorem k_lk_misses_34 : decode me_lk_misses.2.1 34 = .ok (.getfield 9, 3) := by decide +kernel
theorem k_lk_misses_37 : decode me_lk_misses.2.1 37 = .ok (.getfield 64, 3) := by decide +kernel
theorem k_lk_misses_40 : decode me_lk_misses.2.1 40 = .ok (.iload_n 2, 1) := by decide +kernel
theorem k_lk_misses_41 : decode me_lk_misses.2.1 41 = .ok (.invokevirtual 37, 3) := by decide +kernel
theorem k_lk_misses_44 : decode me_lk_misses.2.1 44 = .ok (.checkcast 67, 3) := by decide +kernel
theorem k_lk_misses_47 : decode me_lk_misses.2.1 47 = .ok (.astore_n 3, 1) := by decide +kernel
theorem k_lk_misses_48 : decode me_lk_misses.2.1 48 = .ok (.aload_n 3, 1) := by decide +kernel
theorem k_lk_misses_49 : decode me_lk_misses.2.1 49 = .ok (.getfield 69, 3) := by decide +kernel
theorem k_lk_misses_52 : decode me_lk_misses.2.1 52 = .ok (.ifCond .lt 62, 3) := by decide +kernel
theorem k_lk_misses_55 : decode me_lk_misses.2.1 55 = .ok (.aload_n 3, 1) := by decide +kernel
theorem k_lk_misses_56 : decode me_lk_misses.2.1 56 = .ok (.aload_n 0, 1) := by decide +kernel
theorem k_lk_misses_57 : decode me_lk_misses.2.1 57 = .ok (.getfield 9, 3) := by decide +kernel
theorem k_lk_misses_60 : decode me_lk_misses.2.1 60 = .ok (.getfield 82, 3) := by decide +kernel
theorem k_lk_misses_63 : decode me_lk_misses.2.1 63 = .ok (.aload_n 3, 1) := by decide +kernel
theorem k_lk_misses_64 : decode me_lk_misses.2.1 64 = .ok (.getfield 89, 3) := by decide +kernel
theorem k_lk_misses_67 : decode me_lk_misses.2.1 67 = .ok (.getfield 93, 3) := by decide +kernel
theorem k_lk_misses_70 : decode me_lk_misses.2.1 70 = .ok (.getfield 97, 3) := by decide +kernel
theorem k_lk_misses_73 : decode me_lk_misses.2.1 73 = .ok (.invokevirtual 102, 3) := by decide +kernel
theorem k_lk_misses_76 : decode me_lk_misses.2.1 76 = .ok (.aload_n 3, 1) := by decide +kernel
theorem k_lk_misses_77 : decode me_lk_misses.2.1 77 = .ok (.getfield 69, 3) := by decide +kernel
theorem k_lk_misses_80 : decode me_lk_misses.2.1 80 = .ok (.isub, 1) := by decide +kernel
theorem k_lk_misses_81 : decode me_lk_misses.2.1 81 = .ok (.istore 4, 2) := by decide +kernel
theorem k_lk_misses_83 : decode me_lk_misses.2.1 83 = .ok (.iload_n 1, 1) := by decide +kernel
theorem k_lk_misses_84 : decode me_lk_misses.2.1 84 = .ok (.iload 4, 2) := by decide +kernel
theorem k_lk_misses_86 : decode me_lk_misses.2.1 86 = .ok (.aload_n 0, 1) := by decide +kernel
theorem k_lk_misses_87 : decode me_lk_misses.2.1 87 = .ok (.getfield 106, 3) := by decide +kernel
theorem k_lk_misses_90 : decode me_lk_misses.2.1 90 = .ok (.if_icmp .le 7, 3) := by decide +kernel
theorem k_lk_misses_93 : decode me_lk_misses.2.1 93 = .ok (.iconst 2, 1) := by decide +kernel
theorem k_lk_misses_94 : decode me_lk_misses.2.1 94 = .ok (.goto 18, 3) := by decide +kernel
theorem k_lk_misses_97 : decode me_lk_misses.2.1 97 = .ok (.iload 4, 2) := by decide +kernel
theorem k_lk_misses_99 : decode me_lk_misses.2.1 99 = .ok (.aload_n 0, 1) := by decide +kernel
theorem k_lk_misses_100 : decode me_lk_misses.2.1 100 = .ok (.getfield 106, 3) := by decide +kernel
theorem k_lk_misses_103 : decode me_lk_misses.2.1 103 = .ok (.ineg, 1) := by decide +kernel
theorem k_lk_misses_104 : decode me_lk_misses.2.1 104 = .ok (.if_icmp .ge 7, 3) := by decide +kernel
theorem k_lk_misses_107 : decode me_lk_misses.2.1 107 = .ok (.iconst 1, 1) := by decide +kernel
theorem k_lk_misses_108 : decode me_lk_misses.2.1 108 = .ok (.goto 4, 3) := by decide +kernel
theorem k_lk_misses_111 : decode me_lk_misses.2.1 111 = .ok (.iconst 0, 1) := by decide +kernel
theorem k_lk_misses_112 : decode me_lk_misses.2.1 112 = .ok (.ior, 1) := by decide +kernel
theorem k_lk_misses_113 : decode me_lk_misses.2.1 113 = .ok (.istore_n 1, 1) := by decide +kernel
theorem k_lk_misses_114 : decode me_lk_misses.2.1 114 = .ok (.iinc 2 1, 3) := by decide +kernel
theorem k_lk_misses_117 : decode me_lk_misses.2.1 117 = .ok (.goto (-98), 3) := by decide +kernel
theorem k_lk_misses_120 : decode me_lk_misses.2.1 120 = .ok (.iload_n 1, 1) := by decide +kernel
theorem k_lk_misses_121 : decode me_lk_misses.2.1 121 = .ok (.ireturn, 1) := by decide +kernel
theorem k_lk_explainsAlone_0 : decode me_lk_explainsAlone.2.1 0 = .ok (.iconst 0, 1) := by decide +kernel
theorem k_lk_explainsAlone_1 : decode me_lk_explainsAlone.2.1 1 = .ok (.istore_n 2, 1) := by decide +kernel
theorem k_lk_explainsAlone_2 : decode me_lk_explainsAlone.2.1 2 = .ok (.iconst 0, 1) := by decide +kernel
theorem k_lk_explainsAlone_3 : decode me_lk_explainsAlone.2.1 3 = .ok (.istore_n 3, 1) := by decide +kernel
theorem k_lk_explainsAlone_4 : decode me_lk_explainsAlone.2.1 4 = .ok (.iconst 1, 1) := by decide +kernel
theorem k_lk_explainsAlone_5 : decode me_lk_explainsAlone.2.1 5 = .ok (.istore 4, 2) := by decide +kernel
theorem k_lk_explainsAlone_7 : decode me_lk_explainsAlone.2.1 7 = .ok (.iload 4, 2) := by decide +kernel
theorem k_lk_explainsAlone_9 : decode me_lk_explainsAlone.2.1 9 = .ok (.bipush 60, 2) := by decide +kernel
theorem k_lk_explainsAlone_11 : decode me_lk_explainsAlone.2.1 11 = .ok (.if_icmp .gt 53, 3) := by decide +kernel
theorem k_lk_explainsAlone_14 : decode me_lk_explainsAlone.2.1 14 = .ok (.iload_n 2, 1) := by decide +kernel
theorem k_lk_explainsAlone_15 : decode me_lk_explainsAlone.2.1 15 = .ok (.ifCond .ne 49, 3) := by decide +kernel
theorem k_lk_explainsAlone_18 : decode me_lk_explainsAlone.2.1 18 = .ok (.iload_n 3, 1) := by decide +kernel
theorem k_lk_explainsAlone_19 : decode me_lk_explainsAlone.2.1 19 = .ok (.ifCond .ne 45, 3) := by decide +kernel
theorem k_lk_explainsAlone_22 : decode me_lk_explainsAlone.2.1 22 = .ok (.aload_n 1, 1) := by decide +kernel
theorem k_lk_explainsAlone_23 : decode me_lk_explainsAlone.2.1 23 = .ok (.iload 4, 2) := by decide +kernel
theorem k_lk_explainsAlone_25 : decode me_lk_explainsAlone.2.1 25 = .ok (.putfield 72, 3) := by decide +kernel
theorem k_lk_explainsAlone_28 : decode me_lk_explainsAlone.2.1 28 = .ok (.aload_n 0, 1) := by decide +kernel
theorem k_lk_explainsAlone_29 : decode me_lk_explainsAlone.2.1 29 = .ok (.invokevirtual 22, 3) := by decide +kernel
theorem k_lk_explainsAlone_32 : decode me_lk_explainsAlone.2.1 32 = .ok (.istore 5, 2) := by decide +kernel
theorem k_lk_explainsAlone_34 : decode me_lk_explainsAlone.2.1 34 = .ok (.iload 5, 2) := by decide +kernel
theorem k_lk_explainsAlone_36 : decode me_lk_explainsAlone.2.1 36 = .ok (.iconst 1, 1) := by decide +kernel
theorem k_lk_explainsAlone_37 : decode me_lk_explainsAlone.2.1 37 = .ok (.iand, 1) := by decide +kernel
theorem k_lk_explainsAlone_38 : decode me_lk_explainsAlone.2.1 38 = .ok (.ifCond .eq 7, 3) := by decide +kernel
theorem k_lk_explainsAlone_41 : decode me_lk_explainsAlone.2.1 41 = .ok (.iconst 1, 1) := by decide +kernel
theorem k_lk_explainsAlone_42 : decode me_lk_explainsAlone.2.1 42 = .ok (.goto 4, 3) := by decide +kernel
theorem k_lk_explainsAlone_45 : decode me_lk_explainsAlone.2.1 45 = .ok (.iconst 0, 1) := by decide +kernel
theorem k_lk_explainsAlone_46 : decode me_lk_explainsAlone.2.1 46 = .ok (.istore_n 3, 1) := by decide +kernel
theorem k_lk_explainsAlone_47 : decode me_lk_explainsAlone.2.1 47 = .ok (.iload 5, 2) := by decide +kernel
theorem k_lk_explainsAlone_49 : decode me_lk_explainsAlone.2.1 49 = .ok (.ifCond .ne 7, 3) := by decide +kernel
theorem k_lk_explainsAlone_52 : decode me_lk_explainsAlone.2.1 52 = .ok (.iconst 1, 1) := by decide +kernel
theorem k_lk_explainsAlone_53 : decode me_lk_explainsAlone.2.1 53 = .ok (.goto 4, 3) := by decide +kernel
theorem k_lk_explainsAlone_56 : decode me_lk_explainsAlone.2.1 56 = .ok (.iconst 0, 1) := by decide +kernel
theorem k_lk_explainsAlone_57 : decode me_lk_explainsAlone.2.1 57 = .ok (.istore_n 2, 1) := by decide +kernel
theorem k_lk_explainsAlone_58 : decode me_lk_explainsAlone.2.1 58 = .ok (.iinc 4 1, 3) := by decide +kernel
theorem k_lk_explainsAlone_61 : decode me_lk_explainsAlone.2.1 61 = .ok (.goto (-54), 3) := by decide +kernel
theorem k_lk_explainsAlone_64 : decode me_lk_explainsAlone.2.1 64 = .ok (.iload_n 2, 1) := by decide +kernel
theorem k_lk_explainsAlone_65 : decode me_lk_explainsAlone.2.1 65 = .ok (.ifCond .eq 19, 3) := by decide +kernel
theorem k_lk_explainsAlone_68 : decode me_lk_explainsAlone.2.1 68 = .ok (.aload_n 0, 1) := by decide +kernel
theorem k_lk_explainsAlone_69 : decode me_lk_explainsAlone.2.1 69 = .ok (.aload_n 1, 1) := by decide +kernel
theorem k_lk_explainsAlone_70 : decode me_lk_explainsAlone.2.1 70 = .ok (.getfield 75, 3) := by decide +kernel
theorem k_lk_explainsAlone_73 : decode me_lk_explainsAlone.2.1 73 = .ok (.putfield 51, 3) := by decide +kernel
theorem k_lk_explainsAlone_76 : decode me_lk_explainsAlone.2.1 76 = .ok (.aload_n 0, 1) := by decide +kernel
theorem k_lk_explainsAlone_77 : decode me_lk_explainsAlone.2.1 77 = .ok (.aload_n 1, 1) := by decide +kernel
theorem k_lk_explainsAlone_78 : decode me_lk_explainsAlone.2.1 78 = .ok (.getfield 72, 3) := by decide +kernel
theorem k_lk_explainsAlone_81 : decode me_lk_explainsAlone.2.1 81 = .ok (.putfield 55, 3) := by decide +kernel
theorem k_lk_explainsAlone_84 : decode me_lk_explainsAlone.2.1 84 = .ok (.aload_n 1, 1) := by decide +kernel
theorem k_lk_explainsAlone_85 : decode me_lk_explainsAlone.2.1 85 = .ok (.iconst 0, 1) := by decide +kernel
theorem k_lk_explainsAlone_86 : decode me_lk_explainsAlone.2.1 86 = .ok (.putfield 72, 3) := by decide +kernel
theorem k_lk_explainsAlone_89 : decode me_lk_explainsAlone.2.1 89 = .ok (.iload_n 2, 1) := by decide +kernel
theorem k_lk_explainsAlone_90 : decode me_lk_explainsAlone.2.1 90 = .ok (.ireturn, 1) := by decide +kernel
theorem k_lk_explainTogether_0 : decode me_lk_explainTogether.2.1 0 = .ok (.aload_n 1, 1) := by decide +kernel
theorem k_lk_explainTogether_1 : decode me_lk_explainTogether.2.1 1 = .ok (.bipush 12, 2) := by decide +kernel
theorem k_lk_explainTogether_3 : decode me_lk_explainTogether.2.1 3 = .ok (.putfield 72, 3) := by decide +kernel
theorem k_lk_explainTogether_6 : decode me_lk_explainTogether.2.1 6 = .ok (.aload_n 2, 1) := by decide +kernel
theorem k_lk_explainTogether_7 : decode me_lk_explainTogether.2.1 7 = .ok (.bipush 12, 2) := by decide +kernel
theorem k_lk_explainTogether_9 : decode me_lk_explainTogether.2.1 9 = .ok (.putfield 72, 3) := by decide +kernel
theorem k_lk_explainTogether_12 : decode me_lk_explainTogether.2.1 12 = .ok (.aload_n 0, 1) := by decide +kernel
theorem k_lk_explainTogether_13 : decode me_lk_explainTogether.2.1 13 = .ok (.invokevirtual 22, 3) := by decide +kernel
theorem k_lk_explainTogether_16 : decode me_lk_explainTogether.2.1 16 = .ok (.iconst 2, 1) := by decide +kernel
theorem k_lk_explainTogether_17 : decode me_lk_explainTogether.2.1 17 = .ok (.iand, 1) := by decide +kernel
theorem k_lk_explainTogether_18 : decode me_lk_explainTogether.2.1 18 = .ok (.ifCond .eq 7, 3) := by decide +kernel
theorem k_lk_explainTogether_21 : decode me_lk_explainTogether.2.1 21 = .ok (.iconst 1, 1) := by decide +kernel
theorem k_lk_explainTogether_22 : decode me_lk_explainTogether.2.1 22 = .ok (.goto 4, 3) := by decide +kernel
theorem k_lk_explainTogether_25 : decode me_lk_explainTogether.2.1 25 = .ok (.iconst 0, 1) := by decide +kernel
theorem k_lk_explainTogether_26 : decode me_lk_explainTogether.2.1 26 = .ok (.istore_n 3, 1) := by decide +kernel
theorem k_lk_explainTogether_27 : decode me_lk_explainTogether.2.1 27 = .ok (.iconst 0, 1) := by decide +kernel
theorem k_lk_explainTogether_28 : decode me_lk_explainTogether.2.1 28 = .ok (.istore 4, 2) := by decide +kernel
theorem k_lk_explainTogether_30 : decode me_lk_explainTogether.2.1 30 = .ok (.iconst 1, 1) := by decide +kernel
theorem k_lk_explainTogether_31 : decode me_lk_explainTogether.2.1 31 = .ok (.istore 5, 2) := by decide +kernel
theorem k_lk_explainTogether_33 : decode me_lk_explainTogether.2.1 33 = .ok (.iload 5, 2) := by decide +kernel
theorem k_lk_explainTogether_35 : decode me_lk_explainTogether.2.1 35 = .ok (.bipush 12, 2) := by decide +kernel
theorem k_lk_explainTogether_37 : decode me_lk_explainTogether.2.1 37 = .ok (.if_icmp .gt 91, 3) := by decide +kernel
theorem k_lk_explainTogether_40 : decode me_lk_explainTogether.2.1 40 = .ok (.iload 4, 2) := by decide +kernel
theorem k_lk_explainTogether_42 : decode me_lk_explainTogether.2.1 42 = .ok (.ifCond .ne 86, 3) := by decide +kernel
theorem k_lk_explainTogether_45 : decode me_lk_explainTogether.2.1 45 = .ok (.iload_n 3, 1) := by decide +kernel
theorem k_lk_explainTogether_46 : decode me_lk_explainTogether.2.1 46 = .ok (.ifCond .ne 82, 3) := by decide +kernel
theorem k_lk_explainTogether_49 : decode me_lk_explainTogether.2.1 49 = .ok (.aload_n 1, 1) := by decide +kernel
theorem k_lk_explainTogether_50 : decode me_lk_explainTogether.2.1 50 = .ok (.iload 5, 2) := by decide +kernel
theorem k_lk_explainTogether_52 : decode me_lk_explainTogether.2.1 52 = .ok (.putfield 72, 3) := by decide +kernel
theorem k_lk_explainTogether_55 : decode me_lk_explainTogether.2.1 55 = .ok (.iconst 0, 1) := by decide +kernel
theorem k_lk_explainTogether_56 : decode me_lk_explainTogether.2.1 56 = .ok (.istore 6, 2) := by decide +kernel
theorem k_lk_explainTogether_58 : decode me_lk_explainTogether.2.1 58 = .ok (.iconst 1, 1) := by decide +kernel
theorem k_lk_explainTogether_59 : decode me_lk_explainTogether.2.1 59 = .ok (.istore 7, 2) := by decide +kernel
theorem k_lk_explainTogether_61 : decode me_lk_explainTogether.2.1 61 = .ok (.iload 7, 2) := by decide +kernel
theorem k_lk_explainTogether_63 : decode me_lk_explainTogether.2.1 63 = .ok (.bipush 12, 2) := by decide +kernel
theorem k_lk_explainTogether_65 : decode me_lk_explainTogether.2.1 65 = .ok (.if_icmp .gt 57, 3) := by decide +kernel
theorem k_lk_explainTogether_68 : decode me_lk_explainTogether.2.1 68 = .ok (.iload 4, 2) := by decide +kernel
theorem k_lk_explainTogether_70 : decode me_lk_explainTogether.2.1 70 = .ok (.ifCond .ne 52, 3) := by decide +kernel
theorem k_lk_explainTogether_73 : decode me_lk_explainTogether.2.1 73 = .ok (.iload 6, 2) := by decide +kernel
theorem k_lk_explainTogether_75 : decode me_lk_explainTogether.2.1 75 = .ok (.ifCond .ne 47, 3) := by decide +kernel
theorem k_lk_explainTogether_78 : decode me_lk_explainTogether.2.1 78 = .ok (.aload_n 2, 1) := by decide +kernel
theorem k_lk_explainTogether_79 : decode me_lk_explainTogether.2.1 79 = .ok (.iload 7, 2) := by decide +kernel
theorem k_lk_explainTogether_81 : decode me_lk_explainTogether.2.1 81 = .ok (.putfield 72, 3) := by decide +kernel
theorem k_lk_explainTogether_84 : decode me_lk_explainTogether.2.1 84 = .ok (.aload_n 0, 1) := by decide +kernel
theorem k_lk_explainTogether_85 : decode me_lk_explainTogether.2.1 85 = .ok (.invokevirtual 22, 3) := by decide +kernel
theorem k_lk_explainTogether_88 : decode me_lk_explainTogether.2.1 88 = .ok (.istore 8, 2) := by decide +kernel
theorem k_lk_explainTogether_90 : decode me_lk_explainTogether.2.1 90 = .ok (.iload 8, 2) := by decide +kernel
theorem k_lk_explainTogether_92 : decode me_lk_explainTogether.2.1 92 = .ok (.iconst 1, 1) := by decide +kernel
theorem k_lk_explainTogether_93 : decode me_lk_explainTogether.2.1 93 = .ok (.iand, 1) := by decide +kernel
theorem k_lk_explainTogether_94 : decode me_lk_explainTogether.2.1 94 = .ok (.ifCond .eq 7, 3) := by decide +kernel
theorem k_lk_explainTogether_97 : decode me_lk_explainTogether.2.1 97 = .ok (.iconst 1, 1) := by decide +kernel
theorem k_lk_explainTogether_98 : decode me_lk_explainTogether.2.1 98 = .ok (.goto 4, 3) := by decide +kernel
theorem k_lk_explainTogether_101 : decode me_lk_explainTogether.2.1 101 = .ok (.iconst 0, 1) := by decide +kernel
theorem k_lk_explainTogether_102 : decode me_lk_explainTogether.2.1 102 = .ok (.istore 6, 2) := by decide +kernel
theorem k_lk_explainTogether_104 : decode me_lk_explainTogether.2.1 104 = .ok (.iload 8, 2) := by decide +kernel
theorem k_lk_explainTogether_106 : decode me_lk_explainTogether.2.1 106 = .ok (.ifCond .ne 7, 3) := by decide +kernel
theorem k_lk_explainTogether_109 : decode me_lk_explainTogether.2.1 109 = .ok (.iconst 1, 1) := by decide +kernel
theorem k_lk_explainTogether_110 : decode me_lk_explainTogether.2.1 110 = .ok (.goto 4, 3) := by decide +kernel
theorem k_lk_explainTogether_113 : decode me_lk_explainTogether.2.1 113 = .ok (.iconst 0, 1) := by decide +kernel
theorem k_lk_explainTogether_114 : decode me_lk_explainTogether.2.1 114 = .ok (.istore 4, 2) := by decide +kernel
theorem k_lk_explainTogether_116 : decode me_lk_explainTogether.2.1 116 = .ok (.iinc 7 1, 3) := by decide +kernel
theorem k_lk_explainTogether_119 : decode me_lk_explainTogether.2.1 119 = .ok (.goto (-58), 3) := by decide +kernel
theorem k_lk_explainTogether_122 : decode me_lk_explainTogether.2.1 122 = .ok (.iinc 5 1, 3) := by decide +kernel
theorem k_lk_explainTogether_125 : decode me_lk_explainTogether.2.1 125 = .ok (.goto (-92), 3) := by decide +kernel
theorem k_lk_explainTogether_128 : decode me_lk_explainTogether.2.1 128 = .ok (.iload 4, 2) := by decide +kernel
theorem k_lk_explainTogether_130 : decode me_lk_explainTogether.2.1 130 = .ok (.ifCond .eq 9, 3) := by decide +kernel
theorem k_lk_explainTogether_133 : decode me_lk_explainTogether.2.1 133 = .ok (.aload_n 0, 1) := by decide +kernel
theorem k_lk_explainTogether_134 : decode me_lk_explainTogether.2.1 134 = .ok (.aload_n 1, 1) := by decide +kernel
theorem k_lk_explainTogether_135 : decode me_lk_explainTogether.2.1 135 = .ok (.aload_n 2, 1) := by decide +kernel
theorem k_lk_explainTogether_136 : decode me_lk_explainTogether.2.1 136 = .ok (.invokevirtual 78, 3) := by decide +kernel
theorem k_lk_explainTogether_139 : decode me_lk_explainTogether.2.1 139 = .ok (.aload_n 1, 1) := by decide +kernel
theorem k_lk_explainTogether_140 : decode me_lk_explainTogether.2.1 140 = .ok (.iconst 0, 1) := by decide +kernel
theorem k_lk_explainTogether_141 : decode me_lk_explainTogether.2.1 141 = .ok (.putfield 72, 3) := by decide +kernel
theorem k_lk_explainTogether_144 : decode me_lk_explainTogether.2.1 144 = .ok (.aload_n 2, 1) := by decide +kernel
theorem k_lk_explainTogether_145 : decode me_lk_explainTogether.2.1 145 = .ok (.iconst 0, 1) := by decide +kernel
theorem k_lk_explainTogether_146 : decode me_lk_explainTogether.2.1 146 = .ok (.putfield 72, 3) := by decide +kernel
theorem k_lk_explainTogether_149 : decode me_lk_explainTogether.2.1 149 = .ok (.iload 4, 2) := by decide +kernel
theorem k_lk_explainTogether_151 : decode me_lk_explainTogether.2.1 151 = .ok (.ireturn, 1) := by decide +kernel
theorem k_lk_keepTwo_0 : decode me_lk_keepTwo.2.1 0 = .ok (.aload_n 0, 1) := by decide +kernel
theorem k_lk_keepTwo_1 : decode me_lk_keepTwo.2.1 1 = .ok (.aload_n 1, 1) := by decide +kernel
theorem k_lk_keepTwo_2 : decode me_lk_keepTwo.2.1 2 = .ok (.getfield 75, 3) := by decide +kernel
theorem k_lk_keepTwo_5 : decode me_lk_keepTwo.2.1 5 = .ok (.putfield 51, 3) := by decide +kernel
theorem k_lk_keepTwo_8 : decode me_lk_keepTwo.2.1 8 = .ok (.aload_n 0, 1) := by decide +kernel
theorem k_lk_keepTwo_9 : decode me_lk_keepTwo.2.1 9 = .ok (.aload_n 1, 1) := by decide +kernel
theorem k_lk_keepTwo_10 : decode me_lk_keepTwo.2.1 10 = .ok (.getfield 72, 3) := by decide +kernel
theorem k_lk_keepTwo_13 : decode me_lk_keepTwo.2.1 13 = .ok (.putfield 55, 3) := by decide +kernel
theorem k_lk_keepTwo_16 : decode me_lk_keepTwo.2.1 16 = .ok (.aload_n 0, 1) := by decide +kernel
theorem k_lk_keepTwo_17 : decode me_lk_keepTwo.2.1 17 = .ok (.aload_n 2, 1) := by decide +kernel
theorem k_lk_keepTwo_18 : decode me_lk_keepTwo.2.1 18 = .ok (.getfield 75, 3) := by decide +kernel
theorem k_lk_keepTwo_21 : decode me_lk_keepTwo.2.1 21 = .ok (.putfield 58, 3) := by decide +kernel
theorem k_lk_keepTwo_24 : decode me_lk_keepTwo.2.1 24 = .ok (.aload_n 0, 1) := by decide +kernel
theorem k_lk_keepTwo_25 : decode me_lk_keepTwo.2.1 25 = .ok (.aload_n 2, 1) := by decide +kernel
theorem k_lk_keepTwo_26 : decode me_lk_keepTwo.2.1 26 = .ok (.getfield 72, 3) := by decide +kernel
theorem k_lk_keepTwo_29 : decode me_lk_keepTwo.2.1 29 = .ok (.putfield 61, 3) := by decide +kernel
theorem k_lk_keepTwo_32 : decode me_lk_keepTwo.2.1 32 = .ok (.return_, 1) := by decide +kernel
theorem k_fn_explained_0 : decode me_fn_explained.2.1 0 = .ok (.iload_n 1, 1) := by decide +kernel
theorem k_fn_explained_1 : decode me_fn_explained.2.1 1 = .ok (.ifCond .lt 8, 3) := by decide +kernel
theorem k_fn_explained_4 : decode me_fn_explained.2.1 4 = .ok (.iload_n 1, 1) := by decide +kernel
theorem k_fn_explained_5 : decode me_fn_explained.2.1 5 = .ok (.iconst 3, 1) := by decide +kernel
theorem k_fn_explained_6 : decode me_fn_explained.2.1 6 = .ok (.if_icmp .le 10, 3) := by decide +kernel
theorem k_fn_explained_9 : decode me_fn_explained.2.1 9 = .ok (.aload_n 0, 1) := by decide +kernel
theorem k_fn_explained_10 : decode me_fn_explained.2.1 10 = .ok (.bipush (-2), 2) := by decide +kernel
theorem k_fn_explained_12 : decode me_fn_explained.2.1 12 = .ok (.invokevirtual 56, 3) := by decide +kernel
theorem k_fn_explained_15 : decode me_fn_explained.2.1 15 = .ok (.ireturn, 1) := by decide +kernel
theorem k_fn_explained_16 : decode me_fn_explained.2.1 16 = .ok (.aload_n 0, 1) := by decide +kernel
theorem k_fn_explained_17 : decode me_fn_explained.2.1 17 = .ok (.getfield 44, 3) := by decide +kernel
theorem k_fn_explained_20 : decode me_fn_explained.2.1 20 = .ok (.invokevirtual 241, 3) := by decide +kernel
theorem k_fn_explained_23 : decode me_fn_explained.2.1 23 = .ok (.pop, 1) := by decide +kernel
theorem k_fn_explained_24 : decode me_fn_explained.2.1 24 = .ok (.iload_n 1, 1) := by decide +kernel
theorem k_fn_explained_25 : decode me_fn_explained.2.1 25 = .ok (.tableswitch 51 0 2 #[27, 35, 43], 27) := by decide +kernel
theorem k_fn_explained_52 : decode me_fn_explained.2.1 52 = .ok (.aload_n 0, 1) := by decide +kernel
theorem k_fn_explained_53 : decode me_fn_explained.2.1 53 = .ok (.getfield 44, 3) := by decide +kernel
theorem k_fn_explained_56 : decode me_fn_explained.2.1 56 = .ok (.getfield 244, 3) := by decide +kernel
theorem k_fn_explained_59 : decode me_fn_explained.2.1 59 = .ok (.ireturn, 1) := by decide +kernel
theorem k_fn_explained_60 : decode me_fn_explained.2.1 60 = .ok (.aload_n 0, 1) := by decide +kernel
theorem k_fn_explained_61 : decode me_fn_explained.2.1 61 = .ok (.getfield 44, 3) := by decide +kernel
theorem k_fn_explained_64 : decode me_fn_explained.2.1 64 = .ok (.getfield 247, 3) := by decide +kernel
theorem k_fn_explained_67 : decode me_fn_explained.2.1 67 = .ok (.ireturn, 1) := by decide +kernel
theorem k_fn_explained_68 : decode me_fn_explained.2.1 68 = .ok (.aload_n 0, 1) := by decide +kernel
theorem k_fn_explained_69 : decode me_fn_explained.2.1 69 = .ok (.getfield 44, 3) := by decide +kernel
theorem k_fn_explained_72 : decode me_fn_explained.2.1 72 = .ok (.getfield 250, 3) := by decide +kernel
theorem k_fn_explained_75 : decode me_fn_explained.2.1 75 = .ok (.ireturn, 1) := by decide +kernel
theorem k_fn_explained_76 : decode me_fn_explained.2.1 76 = .ok (.aload_n 0, 1) := by decide +kernel
theorem k_fn_explained_77 : decode me_fn_explained.2.1 77 = .ok (.getfield 44, 3) := by decide +kernel
theorem k_fn_explained_80 : decode me_fn_explained.2.1 80 = .ok (.getfield 253, 3) := by decide +kernel
theorem k_fn_explained_83 : decode me_fn_explained.2.1 83 = .ok (.ireturn, 1) := by decide +kernel
theorem k_fn_rivals_0 : decode me_fn_rivals.2.1 0 = .ok (.aload_n 0, 1) := by decide +kernel
theorem k_fn_rivals_1 : decode me_fn_rivals.2.1 1 = .ok (.getfield 44, 3) := by decide +kernel
theorem k_fn_rivals_4 : decode me_fn_rivals.2.1 4 = .ok (.invokevirtual 256, 3) := by decide +kernel
theorem k_fn_rivals_7 : decode me_fn_rivals.2.1 7 = .ok (.ireturn, 1) := by decide +kernel
theorem k_lk_howManyAlone_0 : decode me_lk_howManyAlone.2.1 0 = .ok (.aload_n 0, 1) := by decide +kernel
theorem k_lk_howManyAlone_1 : decode me_lk_howManyAlone.2.1 1 = .ok (.invokevirtual 18, 3) := by decide +kernel
theorem k_lk_howManyAlone_4 : decode me_lk_howManyAlone.2.1 4 = .ok (.ifCond .ne 5, 3) := by decide +kernel
theorem k_lk_howManyAlone_7 : decode me_lk_howManyAlone.2.1 7 = .ok (.iconst 0, 1) := by decide +kernel
theorem k_lk_howManyAlone_8 : decode me_lk_howManyAlone.2.1 8 = .ok (.ireturn, 1) := by decide +kernel
theorem k_lk_howManyAlone_9 : decode me_lk_howManyAlone.2.1 9 = .ok (.iconst 0, 1) := by decide +kernel
theorem k_lk_howManyAlone_10 : decode me_lk_howManyAlone.2.1 10 = .ok (.istore_n 1, 1) := by decide +kernel
theorem k_lk_howManyAlone_11 : decode me_lk_howManyAlone.2.1 11 = .ok (.iconst 0, 1) := by decide +kernel
theorem k_lk_howManyAlone_12 : decode me_lk_howManyAlone.2.1 12 = .ok (.istore_n 2, 1) := by decide +kernel
theorem k_lk_howManyAlone_13 : decode me_lk_howManyAlone.2.1 13 = .ok (.iload_n 2, 1) := by decide +kernel
theorem k_lk_howManyAlone_14 : decode me_lk_howManyAlone.2.1 14 = .ok (.aload_n 0, 1) := by decide +kernel
theorem k_lk_howManyAlone_15 : decode me_lk_howManyAlone.2.1 15 = .ok (.getfield 9, 3) := by decide +kernel
theorem k_lk_howManyAlone_18 : decode me_lk_howManyAlone.2.1 18 = .ok (.getfield 26, 3) := by decide +kernel
theorem k_lk_howManyAlone_21 : decode me_lk_howManyAlone.2.1 21 = .ok (.invokevirtual 32, 3) := by decide +kernel
theorem k_lk_howManyAlone_24 : decode me_lk_howManyAlone.2.1 24 = .ok (.if_icmp .ge 38, 3) := by decide +kernel
theorem k_lk_howManyAlone_27 : decode me_lk_howManyAlone.2.1 27 = .ok (.iload_n 1, 1) := by decide +kernel
theorem k_lk_howManyAlone_28 : decode me_lk_howManyAlone.2.1 28 = .ok (.aload_n 0, 1) := by decide +kernel
theorem k_lk_howManyAlone_29 : decode me_lk_howManyAlone.2.1 29 = .ok (.aload_n 0, 1) := by decide +kernel
theorem k_lk_howManyAlone_30 : decode me_lk_howManyAlone.2.1 30 = .ok (.getfield 9, 3) := by decide +kernel
theorem k_lk_howManyAlone_33 : decode me_lk_howManyAlone.2.1 33 = .ok (.getfield 26, 3) := by decide +kernel
theorem k_lk_howManyAlone_36 : decode me_lk_howManyAlone.2.1 36 = .ok (.iload_n 2, 1) := by decide +kernel
theorem k_lk_howManyAlone_37 : decode me_lk_howManyAlone.2.1 37 = .ok (.invokevirtual 37, 3) := by decide +kernel
theorem k_lk_howManyAlone_40 : decode me_lk_howManyAlone.2.1 40 = .ok (.checkcast 41, 3) := by decide +kernel
theorem k_lk_howManyAlone_43 : decode me_lk_howManyAlone.2.1 43 = .ok (.invokevirtual 43, 3) := by decide +kernel
theorem k_lk_howManyAlone_46 : decode me_lk_howManyAlone.2.1 46 = .ok (.ifCond .eq 7, 3) := by decide +kernel
theorem k_lk_howManyAlone_49 : decode me_lk_howManyAlone.2.1 49 = .ok (.iconst 1, 1) := by decide +kernel
theorem k_lk_howManyAlone_50 : decode me_lk_howManyAlone.2.1 50 = .ok (.goto 4, 3) := by decide +kernel
theorem k_lk_howManyAlone_53 : decode me_lk_howManyAlone.2.1 53 = .ok (.iconst 0, 1) := by decide +kernel
theorem k_lk_howManyAlone_54 : decode me_lk_howManyAlone.2.1 54 = .ok (.iadd, 1) := by decide +kernel
theorem k_lk_howManyAlone_55 : decode me_lk_howManyAlone.2.1 55 = .ok (.istore_n 1, 1) := by decide +kernel
theorem k_lk_howManyAlone_56 : decode me_lk_howManyAlone.2.1 56 = .ok (.iinc 2 1, 3) := by decide +kernel
theorem k_lk_howManyAlone_59 : decode me_lk_howManyAlone.2.1 59 = .ok (.goto (-46), 3) := by decide +kernel
theorem k_lk_howManyAlone_62 : decode me_lk_howManyAlone.2.1 62 = .ok (.iload_n 1, 1) := by decide +kernel
theorem k_lk_howManyAlone_63 : decode me_lk_howManyAlone.2.1 63 = .ok (.ireturn, 1) := by decide +kernel
theorem k_fn_empty_0 : decode me_fn_empty.2.1 0 = .ok (.aload_n 0, 1) := by decide +kernel
theorem k_fn_empty_1 : decode me_fn_empty.2.1 1 = .ok (.getfield 12, 3) := by decide +kernel
theorem k_fn_empty_4 : decode me_fn_empty.2.1 4 = .ok (.iload_n 1, 1) := by decide +kernel
theorem k_fn_empty_5 : decode me_fn_empty.2.1 5 = .ok (.invokevirtual 89, 3) := by decide +kernel
theorem k_fn_empty_8 : decode me_fn_empty.2.1 8 = .ok (.astore_n 2, 1) := by decide +kernel
theorem k_fn_empty_9 : decode me_fn_empty.2.1 9 = .ok (.aload_n 2, 1) := by decide +kernel
theorem k_fn_empty_10 : decode me_fn_empty.2.1 10 = .ok (.ifnonnull 9, 3) := by decide +kernel
theorem k_fn_empty_13 : decode me_fn_empty.2.1 13 = .ok (.aload_n 0, 1) := by decide +kernel
theorem k_fn_empty_14 : decode me_fn_empty.2.1 14 = .ok (.iconst (-1), 1) := by decide +kernel
theorem k_fn_empty_15 : decode me_fn_empty.2.1 15 = .ok (.invokevirtual 56, 3) := by decide +kernel
theorem k_fn_empty_18 : decode me_fn_empty.2.1 18 = .ok (.ireturn, 1) := by decide +kernel
theorem k_fn_empty_19 : decode me_fn_empty.2.1 19 = .ok (.aload_n 2, 1) := by decide +kernel
theorem k_fn_empty_20 : decode me_fn_empty.2.1 20 = .ok (.getfield 100, 3) := by decide +kernel
theorem k_fn_empty_23 : decode me_fn_empty.2.1 23 = .ok (.ifCond .ne 14, 3) := by decide +kernel
theorem k_fn_empty_26 : decode me_fn_empty.2.1 26 = .ok (.aload_n 0, 1) := by decide +kernel
theorem k_fn_empty_27 : decode me_fn_empty.2.1 27 = .ok (.getfield 12, 3) := by decide +kernel
theorem k_fn_empty_30 : decode me_fn_empty.2.1 30 = .ok (.aload_n 2, 1) := by decide +kernel
theorem k_fn_empty_31 : decode me_fn_empty.2.1 31 = .ok (.invokevirtual 259, 3) := by decide +kernel
theorem k_fn_empty_34 : decode me_fn_empty.2.1 34 = .ok (.ifCond .ne 10, 3) := by decide +kernel
theorem k_fn_empty_37 : decode me_fn_empty.2.1 37 = .ok (.aload_n 0, 1) := by decide +kernel
theorem k_fn_empty_38 : decode me_fn_empty.2.1 38 = .ok (.bipush (-3), 2) := by decide +kernel
theorem k_fn_empty_40 : decode me_fn_empty.2.1 40 = .ok (.invokevirtual 56, 3) := by decide +kernel
theorem k_fn_empty_43 : decode me_fn_empty.2.1 43 = .ok (.ireturn, 1) := by decide +kernel
theorem k_fn_empty_44 : decode me_fn_empty.2.1 44 = .ok (.aload_n 2, 1) := by decide +kernel
theorem k_fn_empty_45 : decode me_fn_empty.2.1 45 = .ok (.iconst 1, 1) := by decide +kernel
theorem k_fn_empty_46 : decode me_fn_empty.2.1 46 = .ok (.putfield 100, 3) := by decide +kernel
theorem k_fn_empty_49 : decode me_fn_empty.2.1 49 = .ok (.iconst 1, 1) := by decide +kernel
theorem k_fn_empty_50 : decode me_fn_empty.2.1 50 = .ok (.ireturn, 1) := by decide +kernel
theorem k_ga_mayBeEmptied_0 : decode me_ga_mayBeEmptied.2.1 0 = .ok (.iconst 0, 1) := by decide +kernel
theorem k_ga_mayBeEmptied_1 : decode me_ga_mayBeEmptied.2.1 1 = .ok (.istore_n 2, 1) := by decide +kernel
theorem k_ga_mayBeEmptied_2 : decode me_ga_mayBeEmptied.2.1 2 = .ok (.iload_n 2, 1) := by decide +kernel
theorem k_ga_mayBeEmptied_3 : decode me_ga_mayBeEmptied.2.1 3 = .ok (.aload_n 0, 1) := by decide +kernel
theorem k_ga_mayBeEmptied_4 : decode me_ga_mayBeEmptied.2.1 4 = .ok (.getfield 18, 3) := by decide +kernel
theorem k_ga_mayBeEmptied_7 : decode me_ga_mayBeEmptied.2.1 7 = .ok (.invokevirtual 24, 3) := by decide +kernel
theorem k_ga_mayBeEmptied_10 : decode me_ga_mayBeEmptied.2.1 10 = .ok (.if_icmp .ge 38, 3) := by decide +kernel
theorem k_ga_mayBeEmptied_13 : decode me_ga_mayBeEmptied.2.1 13 = .ok (.aload_n 0, 1) := by decide +kernel
theorem k_ga_mayBeEmptied_14 : decode me_ga_mayBeEmptied.2.1 14 = .ok (.getfield 18, 3) := by decide +kernel
theorem k_ga_mayBeEmptied_17 : decode me_ga_mayBeEmptied.2.1 17 = .ok (.iload_n 2, 1) := by decide +kernel
theorem k_ga_mayBeEmptied_18 : decode me_ga_mayBeEmptied.2.1 18 = .ok (.invokevirtual 28, 3) := by decide +kernel
theorem k_ga_mayBeEmptied_21 : decode me_ga_mayBeEmptied.2.1 21 = .ok (.checkcast 34, 3) := by decide +kernel
theorem k_ga_mayBeEmptied_24 : decode me_ga_mayBeEmptied.2.1 24 = .ok (.astore_n 3, 1) := by decide +kernel
theorem k_ga_mayBeEmptied_25 : decode me_ga_mayBeEmptied.2.1 25 = .ok (.aload_n 3, 1) := by decide +kernel
theorem k_ga_mayBeEmptied_26 : decode me_ga_mayBeEmptied.2.1 26 = .ok (.getfield 73, 3) := by decide +kernel
theorem k_ga_mayBeEmptied_29 : decode me_ga_mayBeEmptied.2.1 29 = .ok (.aload_n 1, 1) := by decide +kernel
theorem k_ga_mayBeEmptied_30 : decode me_ga_mayBeEmptied.2.1 30 = .ok (.if_acmp .ne 12, 3) := by decide +kernel
theorem k_ga_mayBeEmptied_33 : decode me_ga_mayBeEmptied.2.1 33 = .ok (.aload_n 3, 1) := by decide +kernel
theorem k_ga_mayBeEmptied_34 : decode me_ga_mayBeEmptied.2.1 34 = .ok (.getfield 49, 3) := by decide +kernel
theorem k_ga_mayBeEmptied_37 : decode me_ga_mayBeEmptied.2.1 37 = .ok (.ifCond .ne 5, 3) := by decide +kernel
theorem k_ga_mayBeEmptied_40 : decode me_ga_mayBeEmptied.2.1 40 = .ok (.iconst 0, 1) := by decide +kernel
theorem k_ga_mayBeEmptied_41 : decode me_ga_mayBeEmptied.2.1 41 = .ok (.ireturn, 1) := by decide +kernel
theorem k_ga_mayBeEmptied_42 : decode me_ga_mayBeEmptied.2.1 42 = .ok (.iinc 2 1, 3) := by decide +kernel
theorem k_ga_mayBeEmptied_45 : decode me_ga_mayBeEmptied.2.1 45 = .ok (.goto (-43), 3) := by decide +kernel
theorem k_ga_mayBeEmptied_48 : decode me_ga_mayBeEmptied.2.1 48 = .ok (.aload_n 1, 1) := by decide +kernel
theorem k_ga_mayBeEmptied_49 : decode me_ga_mayBeEmptied.2.1 49 = .ok (.aload_n 0, 1) := by decide +kernel
theorem k_ga_mayBeEmptied_50 : decode me_ga_mayBeEmptied.2.1 50 = .ok (.getfield 38, 3) := by decide +kernel
theorem k_ga_mayBeEmptied_53 : decode me_ga_mayBeEmptied.2.1 53 = .ok (.invokevirtual 56, 3) := by decide +kernel
theorem k_ga_mayBeEmptied_56 : decode me_ga_mayBeEmptied.2.1 56 = .ok (.ifCond .ne 7, 3) := by decide +kernel
theorem k_ga_mayBeEmptied_59 : decode me_ga_mayBeEmptied.2.1 59 = .ok (.iconst 1, 1) := by decide +kernel
theorem k_ga_mayBeEmptied_60 : decode me_ga_mayBeEmptied.2.1 60 = .ok (.goto 4, 3) := by decide +kernel
theorem k_ga_mayBeEmptied_63 : decode me_ga_mayBeEmptied.2.1 63 = .ok (.iconst 0, 1) := by decide +kernel
theorem k_ga_mayBeEmptied_64 : decode me_ga_mayBeEmptied.2.1 64 = .ok (.ireturn, 1) := by decide +kernel
theorem k_fn_fill_0 : decode me_fn_fill.2.1 0 = .ok (.aload_n 0, 1) := by decide +kernel
theorem k_fn_fill_1 : decode me_fn_fill.2.1 1 = .ok (.getfield 12, 3) := by decide +kernel
theorem k_fn_fill_4 : decode me_fn_fill.2.1 4 = .ok (.iload_n 1, 1) := by decide +kernel
theorem k_fn_fill_5 : decode me_fn_fill.2.1 5 = .ok (.invokevirtual 89, 3) := by decide +kernel
theorem k_fn_fill_8 : decode me_fn_fill.2.1 8 = .ok (.astore_n 2, 1) := by decide +kernel
theorem k_fn_fill_9 : decode me_fn_fill.2.1 9 = .ok (.aload_n 2, 1) := by decide +kernel
theorem k_fn_fill_10 : decode me_fn_fill.2.1 10 = .ok (.ifnonnull 9, 3) := by decide +kernel
theorem k_fn_fill_13 : decode me_fn_fill.2.1 13 = .ok (.aload_n 0, 1) := by decide +kernel
theorem k_fn_fill_14 : decode me_fn_fill.2.1 14 = .ok (.iconst (-1), 1) := by decide +kernel
theorem k_fn_fill_15 : decode me_fn_fill.2.1 15 = .ok (.invokevirtual 56, 3) := by decide +kernel
theorem k_fn_fill_18 : decode me_fn_fill.2.1 18 = .ok (.ireturn, 1) := by decide +kernel
theorem k_fn_fill_19 : decode me_fn_fill.2.1 19 = .ok (.aload_n 2, 1) := by decide +kernel
theorem k_fn_fill_20 : decode me_fn_fill.2.1 20 = .ok (.getfield 100, 3) := by decide +kernel
theorem k_fn_fill_23 : decode me_fn_fill.2.1 23 = .ok (.ifCond .eq 20, 3) := by decide +kernel
theorem k_fn_fill_26 : decode me_fn_fill.2.1 26 = .ok (.aload_n 2, 1) := by decide +kernel
theorem k_fn_fill_27 : decode me_fn_fill.2.1 27 = .ok (.getfield 263, 3) := by decide +kernel
theorem k_fn_fill_30 : decode me_fn_fill.2.1 30 = .ok (.ifnull 20, 3) := by decide +kernel
theorem k_fn_fill_33 : decode me_fn_fill.2.1 33 = .ok (.aload_n 2, 1) := by decide +kernel
theorem k_fn_fill_34 : decode me_fn_fill.2.1 34 = .ok (.getfield 263, 3) := by decide +kernel
theorem k_fn_fill_37 : decode me_fn_fill.2.1 37 = .ok (.getfield 100, 3) := by decide +kernel
theorem k_fn_fill_40 : decode me_fn_fill.2.1 40 = .ok (.ifCond .eq 10, 3) := by decide +kernel
theorem k_fn_fill_43 : decode me_fn_fill.2.1 43 = .ok (.aload_n 0, 1) := by decide +kernel
theorem k_fn_fill_44 : decode me_fn_fill.2.1 44 = .ok (.bipush (-3), 2) := by decide +kernel
theorem k_fn_fill_46 : decode me_fn_fill.2.1 46 = .ok (.invokevirtual 56, 3) := by decide +kernel
theorem k_fn_fill_49 : decode me_fn_fill.2.1 49 = .ok (.ireturn, 1) := by decide +kernel
theorem k_fn_fill_50 : decode me_fn_fill.2.1 50 = .ok (.aload_n 2, 1) := by decide +kernel
theorem k_fn_fill_51 : decode me_fn_fill.2.1 51 = .ok (.iconst 0, 1) := by decide +kernel
theorem k_fn_fill_52 : decode me_fn_fill.2.1 52 = .ok (.putfield 100, 3) := by decide +kernel
theorem k_fn_fill_55 : decode me_fn_fill.2.1 55 = .ok (.iconst 1, 1) := by decide +kernel
theorem k_fn_fill_56 : decode me_fn_fill.2.1 56 = .ok (.ireturn, 1) := by decide +kernel
theorem k_fn_order_0 : decode me_fn_order.2.1 0 = .ok (.aload_n 0, 1) := by decide +kernel
theorem k_fn_order_1 : decode me_fn_order.2.1 1 = .ok (.getfield 12, 3) := by decide +kernel
theorem k_fn_order_4 : decode me_fn_order.2.1 4 = .ok (.iload_n 1, 1) := by decide +kernel
theorem k_fn_order_5 : decode me_fn_order.2.1 5 = .ok (.invokevirtual 266, 3) := by decide +kernel
theorem k_fn_order_8 : decode me_fn_order.2.1 8 = .ok (.ireturn, 1) := by decide +kernel
theorem k_ga_jointInOrder_0 : decode me_ga_jointInOrder.2.1 0 = .ok (.aload_n 0, 1) := by decide +kernel
theorem k_ga_jointInOrder_1 : decode me_ga_jointInOrder.2.1 1 = .ok (.invokevirtual 85, 3) := by decide +kernel
theorem k_ga_jointInOrder_4 : decode me_ga_jointInOrder.2.1 4 = .ok (.iconst 0, 1) := by decide +kernel
theorem k_ga_jointInOrder_5 : decode me_ga_jointInOrder.2.1 5 = .ok (.istore_n 2, 1) := by decide +kernel
theorem k_ga_jointInOrder_6 : decode me_ga_jointInOrder.2.1 6 = .ok (.iload_n 2, 1) := by decide +kernel
theorem k_ga_jointInOrder_7 : decode me_ga_jointInOrder.2.1 7 = .ok (.aload_n 0, 1) := by decide +kernel
theorem k_ga_jointInOrder_8 : decode me_ga_jointInOrder.2.1 8 = .ok (.getfield 18, 3) := by decide +kernel
theorem k_ga_jointInOrder_11 : decode me_ga_jointInOrder.2.1 11 = .ok (.invokevirtual 24, 3) := by decide +kernel
theorem k_ga_jointInOrder_14 : decode me_ga_jointInOrder.2.1 14 = .ok (.if_icmp .ge 56, 3) := by decide +kernel
theorem k_ga_jointInOrder_17 : decode me_ga_jointInOrder.2.1 17 = .ok (.aload_n 0, 1) := by decide +kernel
theorem k_ga_jointInOrder_18 : decode me_ga_jointInOrder.2.1 18 = .ok (.invokevirtual 88, 3) := by decide +kernel
theorem k_ga_jointInOrder_21 : decode me_ga_jointInOrder.2.1 21 = .ok (.astore_n 3, 1) := by decide +kernel
theorem k_ga_jointInOrder_22 : decode me_ga_jointInOrder.2.1 22 = .ok (.aload_n 3, 1) := by decide +kernel
theorem k_ga_jointInOrder_23 : decode me_ga_jointInOrder.2.1 23 = .ok (.ifnonnull 6, 3) := by decide +kernel
theorem k_ga_jointInOrder_26 : decode me_ga_jointInOrder.2.1 26 = .ok (.bipush (-9), 2) := by decide +kernel
theorem k_ga_jointInOrder_28 : decode me_ga_jointInOrder.2.1 28 = .ok (.ireturn, 1) := by decide +kernel
theorem k_ga_jointInOrder_29 : decode me_ga_jointInOrder.2.1 29 = .ok (.iload_n 2, 1) := by decide +kernel
theorem k_ga_jointInOrder_30 : decode me_ga_jointInOrder.2.1 30 = .ok (.iload_n 1, 1) := by decide +kernel
theorem k_ga_jointInOrder_31 : decode me_ga_jointInOrder.2.1 31 = .ok (.if_icmp .ne 8, 3) := by decide +kernel
theorem k_ga_jointInOrder_34 : decode me_ga_jointInOrder.2.1 34 = .ok (.aload_n 3, 1) := by decide +kernel
theorem k_ga_jointInOrder_35 : decode me_ga_jointInOrder.2.1 35 = .ok (.getfield 92, 3) := by decide +kernel
theorem k_ga_jointInOrder_38 : decode me_ga_jointInOrder.2.1 38 = .ok (.ireturn, 1) := by decide +kernel
theorem k_ga_jointInOrder_39 : decode me_ga_jointInOrder.2.1 39 = .ok (.aload_n 3, 1) := by decide +kernel
theorem k_ga_jointInOrder_40 : decode me_ga_jointInOrder.2.1 40 = .ok (.iconst 1, 1) := by decide +kernel
theorem k_ga_jointInOrder_41 : decode me_ga_jointInOrder.2.1 41 = .ok (.putfield 95, 3) := by decide +kernel
theorem k_ga_jointInOrder_44 : decode me_ga_jointInOrder.2.1 44 = .ok (.aload_n 3, 1) := by decide +kernel
theorem k_ga_jointInOrder_45 : decode me_ga_jointInOrder.2.1 45 = .ok (.getfield 73, 3) := by decide +kernel
theorem k_ga_jointInOrder_48 : decode me_ga_jointInOrder.2.1 48 = .ok (.ifnull 16, 3) := by decide +kernel
theorem k_ga_jointInOrder_51 : decode me_ga_jointInOrder.2.1 51 = .ok (.aload_n 3, 1) := by decide +kernel
theorem k_ga_jointInOrder_52 : decode me_ga_jointInOrder.2.1 52 = .ok (.getfield 73, 3) := by decide +kernel
theorem k_ga_jointInOrder_55 : decode me_ga_jointInOrder.2.1 55 = .ok (.dup, 1) := by decide +kernel
theorem k_ga_jointInOrder_56 : decode me_ga_jointInOrder.2.1 56 = .ok (.getfield 98, 3) := by decide +kernel
theorem k_ga_jointInOrder_59 : decode me_ga_jointInOrder.2.1 59 = .ok (.iconst 1, 1) := by decide +kernel
theorem k_ga_jointInOrder_60 : decode me_ga_jointInOrder.2.1 60 = .ok (.isub, 1) := by decide +kernel
theorem k_ga_jointInOrder_61 : decode me_ga_jointInOrder.2.1 61 = .ok (.putfield 98, 3) := by decide +kernel
theorem k_ga_jointInOrder_64 : decode me_ga_jointInOrder.2.1 64 = .ok (.iinc 2 1, 3) := by decide +kernel
theorem k_ga_jointInOrder_67 : decode me_ga_jointInOrder.2.1 67 = .ok (.goto (-61), 3) := by decide +kernel
theorem k_ga_jointInOrder_70 : decode me_ga_jointInOrder.2.1 70 = .ok (.bipush (-9), 2) := by decide +kernel
theorem k_ga_jointInOrder_72 : decode me_ga_jointInOrder.2.1 72 = .ok (.ireturn, 1) := by decide +kernel
theorem k_ga_beginOrder_0 : decode me_ga_beginOrder.2.1 0 = .ok (.aload_n 0, 1) := by decide +kernel
theorem k_ga_beginOrder_1 : decode me_ga_beginOrder.2.1 1 = .ok (.getfield 18, 3) := by decide +kernel
theorem k_ga_beginOrder_4 : decode me_ga_beginOrder.2.1 4 = .ok (.invokevirtual 24, 3) := by decide +kernel
theorem k_ga_beginOrder_7 : decode me_ga_beginOrder.2.1 7 = .ok (.iconst 1, 1) := by decide +kernel
theorem k_ga_beginOrder_8 : decode me_ga_beginOrder.2.1 8 = .ok (.isub, 1) := by decide +kernel
theorem k_ga_beginOrder_9 : decode me_ga_beginOrder.2.1 9 = .ok (.istore_n 1, 1) := by decide +kernel
theorem k_ga_beginOrder_10 : decode me_ga_beginOrder.2.1 10 = .ok (.iload_n 1, 1) := by decide +kernel
theorem k_ga_beginOrder_11 : decode me_ga_beginOrder.2.1 11 = .ok (.ifCond .lt 52, 3) := by decide +kernel
theorem k_ga_beginOrder_14 : decode me_ga_beginOrder.2.1 14 = .ok (.aload_n 0, 1) := by decide +kernel
theorem k_ga_beginOrder_15 : decode me_ga_beginOrder.2.1 15 = .ok (.getfield 18, 3) := by decide +kernel
theorem k_ga_beginOrder_18 : decode me_ga_beginOrder.2.1 18 = .ok (.iload_n 1, 1) := by decide +kernel
theorem k_ga_beginOrder_19 : decode me_ga_beginOrder.2.1 19 = .ok (.invokevirtual 28, 3) := by decide +kernel
theorem k_ga_beginOrder_22 : decode me_ga_beginOrder.2.1 22 = .ok (.checkcast 34, 3) := by decide +kernel
theorem k_ga_beginOrder_25 : decode me_ga_beginOrder.2.1 25 = .ok (.aload_n 0, 1) := by decide +kernel
theorem k_ga_beginOrder_26 : decode me_ga_beginOrder.2.1 26 = .ok (.getfield 18, 3) := by decide +kernel
theorem k_ga_beginOrder_29 : decode me_ga_beginOrder.2.1 29 = .ok (.iload_n 1, 1) := by decide +kernel
theorem k_ga_beginOrder_30 : decode me_ga_beginOrder.2.1 30 = .ok (.invokevirtual 28, 3) := by decide +kernel
theorem k_ga_beginOrder_33 : decode me_ga_beginOrder.2.1 33 = .ok (.checkcast 34, 3) := by decide +kernel
theorem k_ga_beginOrder_36 : decode me_ga_beginOrder.2.1 36 = .ok (.getfield 49, 3) := by decide +kernel
theorem k_ga_beginOrder_39 : decode me_ga_beginOrder.2.1 39 = .ok (.putfield 95, 3) := by decide +kernel
theorem k_ga_beginOrder_42 : decode me_ga_beginOrder.2.1 42 = .ok (.aload_n 0, 1) := by decide +kernel
theorem k_ga_beginOrder_43 : decode me_ga_beginOrder.2.1 43 = .ok (.getfield 18, 3) := by decide +kernel
theorem k_ga_beginOrder_46 : decode me_ga_beginOrder.2.1 46 = .ok (.iload_n 1, 1) := by decide +kernel
theorem k_ga_beginOrder_47 : decode me_ga_beginOrder.2.1 47 = .ok (.invokevirtual 28, 3) := by decide +kernel
theorem k_ga_beginOrder_50 : decode me_ga_beginOrder.2.1 50 = .ok (.checkcast 34, 3) := by decide +kernel
theorem k_ga_beginOrder_53 : decode me_ga_beginOrder.2.1 53 = .ok (.iconst 0, 1) := by decide +kernel
theorem k_ga_beginOrder_54 : decode me_ga_beginOrder.2.1 54 = .ok (.putfield 98, 3) := by decide +kernel
theorem k_ga_beginOrder_57 : decode me_ga_beginOrder.2.1 57 = .ok (.iinc 1 (-1), 3) := by decide +kernel
theorem k_ga_beginOrder_60 : decode me_ga_beginOrder.2.1 60 = .ok (.goto (-50), 3) := by decide +kernel
theorem k_ga_beginOrder_63 : decode me_ga_beginOrder.2.1 63 = .ok (.aload_n 0, 1) := by decide +kernel
theorem k_ga_beginOrder_64 : decode me_ga_beginOrder.2.1 64 = .ok (.getfield 18, 3) := by decide +kernel
theorem k_ga_beginOrder_67 : decode me_ga_beginOrder.2.1 67 = .ok (.invokevirtual 24, 3) := by decide +kernel
theorem k_ga_beginOrder_70 : decode me_ga_beginOrder.2.1 70 = .ok (.iconst 1, 1) := by decide +kernel
theorem k_ga_beginOrder_71 : decode me_ga_beginOrder.2.1 71 = .ok (.isub, 1) := by decide +kernel
theorem k_ga_beginOrder_72 : decode me_ga_beginOrder.2.1 72 = .ok (.istore_n 1, 1) := by decide +kernel
theorem k_ga_beginOrder_73 : decode me_ga_beginOrder.2.1 73 = .ok (.iload_n 1, 1) := by decide +kernel
theorem k_ga_beginOrder_74 : decode me_ga_beginOrder.2.1 74 = .ok (.ifCond .lt 48, 3) := by decide +kernel
theorem k_ga_beginOrder_77 : decode me_ga_beginOrder.2.1 77 = .ok (.aload_n 0, 1) := by decide +kernel
theorem k_ga_beginOrder_78 : decode me_ga_beginOrder.2.1 78 = .ok (.getfield 18, 3) := by decide +kernel
theorem k_ga_beginOrder_81 : decode me_ga_beginOrder.2.1 81 = .ok (.iload_n 1, 1) := by decide +kernel
theorem k_ga_beginOrder_82 : decode me_ga_beginOrder.2.1 82 = .ok (.invokevirtual 28, 3) := by decide +kernel
theorem k_ga_beginOrder_85 : decode me_ga_beginOrder.2.1 85 = .ok (.checkcast 34, 3) := by decide +kernel
theorem k_ga_beginOrder_88 : decode me_ga_beginOrder.2.1 88 = .ok (.astore_n 2, 1) := by decide +kernel
theorem k_ga_beginOrder_89 : decode me_ga_beginOrder.2.1 89 = .ok (.aload_n 2, 1) := by decide +kernel
theorem k_ga_beginOrder_90 : decode me_ga_beginOrder.2.1 90 = .ok (.getfield 95, 3) := by decide +kernel
theorem k_ga_beginOrder_93 : decode me_ga_beginOrder.2.1 93 = .ok (.ifCond .ne 23, 3) := by decide +kernel
theorem k_ga_beginOrder_96 : decode me_ga_beginOrder.2.1 96 = .ok (.aload_n 2, 1) := by decide +kernel
theorem k_ga_beginOrder_97 : decode me_ga_beginOrder.2.1 97 = .ok (.getfield 73, 3) := by decide +kernel
theorem k_ga_beginOrder_100 : decode me_ga_beginOrder.2.1 100 = .ok (.ifnull 16, 3) := by decide +kernel
theorem k_ga_beginOrder_103 : decode me_ga_beginOrder.2.1 103 = .ok (.aload_n 2, 1) := by decide +kernel
theorem k_ga_beginOrder_104 : decode me_ga_beginOrder.2.1 104 = .ok (.getfield 73, 3) := by decide +kernel
theorem k_ga_beginOrder_107 : decode me_ga_beginOrder.2.1 107 = .ok (.dup, 1) := by decide +kernel
theorem k_ga_beginOrder_108 : decode me_ga_beginOrder.2.1 108 = .ok (.getfield 98, 3) := by decide +kernel
theorem k_ga_beginOrder_111 : decode me_ga_beginOrder.2.1 111 = .ok (.iconst 1, 1) := by decide +kernel
theorem k_ga_beginOrder_112 : decode me_ga_beginOrder.2.1 112 = .ok (.iadd, 1) := by decide +kernel
theorem k_ga_beginOrder_113 : decode me_ga_beginOrder.2.1 113 = .ok (.putfield 98, 3) := by decide +kernel
theorem k_ga_beginOrder_116 : decode me_ga_beginOrder.2.1 116 = .ok (.iinc 1 (-1), 3) := by decide +kernel
theorem k_ga_beginOrder_119 : decode me_ga_beginOrder.2.1 119 = .ok (.goto (-46), 3) := by decide +kernel
theorem k_ga_beginOrder_122 : decode me_ga_beginOrder.2.1 122 = .ok (.return_, 1) := by decide +kernel
theorem k_ga_nextInOrder_0 : decode me_ga_nextInOrder.2.1 0 = .ok (.aconst_null, 1) := by decide +kernel
theorem k_ga_nextInOrder_1 : decode me_ga_nextInOrder.2.1 1 = .ok (.astore_n 1, 1) := by decide +kernel
theorem k_ga_nextInOrder_2 : decode me_ga_nextInOrder.2.1 2 = .ok (.iconst 0, 1) := by decide +kernel
theorem k_ga_nextInOrder_3 : decode me_ga_nextInOrder.2.1 3 = .ok (.istore_n 2, 1) := by decide +kernel
theorem k_ga_nextInOrder_4 : decode me_ga_nextInOrder.2.1 4 = .ok (.iload_n 2, 1) := by decide +kernel
theorem k_ga_nextInOrder_5 : decode me_ga_nextInOrder.2.1 5 = .ok (.aload_n 0, 1) := by decide +kernel
theorem k_ga_nextInOrder_6 : decode me_ga_nextInOrder.2.1 6 = .ok (.getfield 18, 3) := by decide +kernel
theorem k_ga_nextInOrder_9 : decode me_ga_nextInOrder.2.1 9 = .ok (.invokevirtual 24, 3) := by decide +kernel
theorem k_ga_nextInOrder_12 : decode me_ga_nextInOrder.2.1 12 = .ok (.if_icmp .ge 64, 3) := by decide +kernel
theorem k_ga_nextInOrder_15 : decode me_ga_nextInOrder.2.1 15 = .ok (.aload_n 0, 1) := by decide +kernel
theorem k_ga_nextInOrder_16 : decode me_ga_nextInOrder.2.1 16 = .ok (.getfield 18, 3) := by decide +kernel
theorem k_ga_nextInOrder_19 : decode me_ga_nextInOrder.2.1 19 = .ok (.iload_n 2, 1) := by decide +kernel
theorem k_ga_nextInOrder_20 : decode me_ga_nextInOrder.2.1 20 = .ok (.invokevirtual 28, 3) := by decide +kernel
theorem k_ga_nextInOrder_23 : decode me_ga_nextInOrder.2.1 23 = .ok (.checkcast 34, 3) := by decide +kernel
theorem k_ga_nextInOrder_26 : decode me_ga_nextInOrder.2.1 26 = .ok (.astore_n 3, 1) := by decide +kernel
theorem k_ga_nextInOrder_27 : decode me_ga_nextInOrder.2.1 27 = .ok (.aload_n 3, 1) := by decide +kernel
theorem k_ga_nextInOrder_28 : decode me_ga_nextInOrder.2.1 28 = .ok (.getfield 95, 3) := by decide +kernel
theorem k_ga_nextInOrder_31 : decode me_ga_nextInOrder.2.1 31 = .ok (.ifCond .ne 14, 3) := by decide +kernel
theorem k_ga_nextInOrder_34 : decode me_ga_nextInOrder.2.1 34 = .ok (.aload_n 3, 1) := by decide +kernel
theorem k_ga_nextInOrder_35 : decode me_ga_nextInOrder.2.1 35 = .ok (.getfield 98, 3) := by decide +kernel
theorem k_ga_nextInOrder_38 : decode me_ga_nextInOrder.2.1 38 = .ok (.ifCond .ne 7, 3) := by decide +kernel
theorem k_ga_nextInOrder_41 : decode me_ga_nextInOrder.2.1 41 = .ok (.iconst 1, 1) := by decide +kernel
theorem k_ga_nextInOrder_42 : decode me_ga_nextInOrder.2.1 42 = .ok (.goto 4, 3) := by decide +kernel
theorem k_ga_nextInOrder_45 : decode me_ga_nextInOrder.2.1 45 = .ok (.iconst 0, 1) := by decide +kernel
theorem k_ga_nextInOrder_46 : decode me_ga_nextInOrder.2.1 46 = .ok (.istore 4, 2) := by decide +kernel
theorem k_ga_nextInOrder_48 : decode me_ga_nextInOrder.2.1 48 = .ok (.iload 4, 2) := by decide +kernel
theorem k_ga_nextInOrder_50 : decode me_ga_nextInOrder.2.1 50 = .ok (.ifCond .eq 20, 3) := by decide +kernel
theorem k_ga_nextInOrder_53 : decode me_ga_nextInOrder.2.1 53 = .ok (.aload_n 1, 1) := by decide +kernel
theorem k_ga_nextInOrder_54 : decode me_ga_nextInOrder.2.1 54 = .ok (.ifnull 14, 3) := by decide +kernel
theorem k_ga_nextInOrder_57 : decode me_ga_nextInOrder.2.1 57 = .ok (.aload_n 3, 1) := by decide +kernel
theorem k_ga_nextInOrder_58 : decode me_ga_nextInOrder.2.1 58 = .ok (.getfield 101, 3) := by decide +kernel
theorem k_ga_nextInOrder_61 : decode me_ga_nextInOrder.2.1 61 = .ok (.aload_n 1, 1) := by decide +kernel
theorem k_ga_nextInOrder_62 : decode me_ga_nextInOrder.2.1 62 = .ok (.getfield 101, 3) := by decide +kernel
theorem k_ga_nextInOrder_65 : decode me_ga_nextInOrder.2.1 65 = .ok (.if_icmp .le 5, 3) := by decide +kernel
theorem k_ga_nextInOrder_68 : decode me_ga_nextInOrder.2.1 68 = .ok (.aload_n 3, 1) := by decide +kernel
theorem k_ga_nextInOrder_69 : decode me_ga_nextInOrder.2.1 69 = .ok (.astore_n 1, 1) := by decide +kernel
theorem k_ga_nextInOrder_70 : decode me_ga_nextInOrder.2.1 70 = .ok (.iinc 2 1, 3) := by decide +kernel
theorem k_ga_nextInOrder_73 : decode me_ga_nextInOrder.2.1 73 = .ok (.goto (-69), 3) := by decide +kernel
theorem k_ga_nextInOrder_76 : decode me_ga_nextInOrder.2.1 76 = .ok (.aload_n 1, 1) := by decide +kernel
theorem k_ga_nextInOrder_77 : decode me_ga_nextInOrder.2.1 77 = .ok (.areturn, 1) := by decide +kernel
theorem k_fn_tankOf_0 : decode me_fn_tankOf.2.1 0 = .ok (.aload_n 0, 1) := by decide +kernel
theorem k_fn_tankOf_1 : decode me_fn_tankOf.2.1 1 = .ok (.getfield 12, 3) := by decide +kernel
theorem k_fn_tankOf_4 : decode me_fn_tankOf.2.1 4 = .ok (.iload_n 1, 1) := by decide +kernel
theorem k_fn_tankOf_5 : decode me_fn_tankOf.2.1 5 = .ok (.invokevirtual 76, 3) := by decide +kernel
theorem k_fn_tankOf_8 : decode me_fn_tankOf.2.1 8 = .ok (.astore_n 3, 1) := by decide +kernel
theorem k_fn_tankOf_9 : decode me_fn_tankOf.2.1 9 = .ok (.aload_n 3, 1) := by decide +kernel
theorem k_fn_tankOf_10 : decode me_fn_tankOf.2.1 10 = .ok (.ifnonnull 9, 3) := by decide +kernel
theorem k_fn_tankOf_13 : decode me_fn_tankOf.2.1 13 = .ok (.aload_n 0, 1) := by decide +kernel
theorem k_fn_tankOf_14 : decode me_fn_tankOf.2.1 14 = .ok (.iconst (-1), 1) := by decide +kernel
theorem k_fn_tankOf_15 : decode me_fn_tankOf.2.1 15 = .ok (.invokevirtual 56, 3) := by decide +kernel
theorem k_fn_tankOf_18 : decode me_fn_tankOf.2.1 18 = .ok (.ireturn, 1) := by decide +kernel
theorem k_fn_tankOf_19 : decode me_fn_tankOf.2.1 19 = .ok (.iload_n 2, 1) := by decide +kernel
theorem k_fn_tankOf_20 : decode me_fn_tankOf.2.1 20 = .ok (.tableswitch 81 0 5 #[40, 49, 54, 59, 64, 69], 40) := by decide +kernel
theorem k_fn_tankOf_60 : decode me_fn_tankOf.2.1 60 = .ok (.aload_n 3, 1) := by decide +kernel
theorem k_fn_tankOf_61 : decode me_fn_tankOf.2.1 61 = .ok (.aload_n 3, 1) := by decide +kernel
theorem k_fn_tankOf_62 : decode me_fn_tankOf.2.1 62 = .ok (.getfield 157, 3) := by decide +kernel
theorem k_fn_tankOf_65 : decode me_fn_tankOf.2.1 65 = .ok (.invokevirtual 269, 3) := by decide +kernel
theorem k_fn_tankOf_68 : decode me_fn_tankOf.2.1 68 = .ok (.ireturn, 1) := by decide +kernel
theorem k_fn_tankOf_69 : decode me_fn_tankOf.2.1 69 = .ok (.aload_n 3, 1) := by decide +kernel
theorem k_fn_tankOf_70 : decode me_fn_tankOf.2.1 70 = .ok (.getfield 157, 3) := by decide +kernel
theorem k_fn_tankOf_73 : decode me_fn_tankOf.2.1 73 = .ok (.ireturn, 1) := by decide +kernel
theorem k_fn_tankOf_74 : decode me_fn_tankOf.2.1 74 = .ok (.aload_n 3, 1) := by decide +kernel
theorem k_fn_tankOf_75 : decode me_fn_tankOf.2.1 75 = .ok (.getfield 272, 3) := by decide +kernel
theorem k_fn_tankOf_78 : decode me_fn_tankOf.2.1 78 = .ok (.ireturn, 1) := by decide +kernel
theorem k_fn_tankOf_79 : decode me_fn_tankOf.2.1 79 = .ok (.aload_n 3, 1) := by decide +kernel
theorem k_fn_tankOf_80 : decode me_fn_tankOf.2.1 80 = .ok (.getfield 275, 3) := by decide +kernel
theorem k_fn_tankOf_83 : decode me_fn_tankOf.2.1 83 = .ok (.ireturn, 1) := by decide +kernel
theorem k_fn_tankOf_84 : decode me_fn_tankOf.2.1 84 = .ok (.aload_n 3, 1) := by decide +kernel
theorem k_fn_tankOf_85 : decode me_fn_tankOf.2.1 85 = .ok (.getfield 278, 3) := by decide +kernel
theorem k_fn_tankOf_88 : decode me_fn_tankOf.2.1 88 = .ok (.ireturn, 1) := by decide +kernel
theorem k_fn_tankOf_89 : decode me_fn_tankOf.2.1 89 = .ok (.aload_n 0, 1) := by decide +kernel
theorem k_fn_tankOf_90 : decode me_fn_tankOf.2.1 90 = .ok (.getfield 12, 3) := by decide +kernel
theorem k_fn_tankOf_93 : decode me_fn_tankOf.2.1 93 = .ok (.invokevirtual 144, 3) := by decide +kernel
theorem k_fn_tankOf_96 : decode me_fn_tankOf.2.1 96 = .ok (.aload_n 3, 1) := by decide +kernel
theorem k_fn_tankOf_97 : decode me_fn_tankOf.2.1 97 = .ok (.getfield 281, 3) := by decide +kernel
theorem k_fn_tankOf_100 : decode me_fn_tankOf.2.1 100 = .ok (.ireturn, 1) := by decide +kernel
theorem k_fn_tankOf_101 : decode me_fn_tankOf.2.1 101 = .ok (.aload_n 0, 1) := by decide +kernel
theorem k_fn_tankOf_102 : decode me_fn_tankOf.2.1 102 = .ok (.bipush (-2), 2) := by decide +kernel
theorem k_fn_tankOf_104 : decode me_fn_tankOf.2.1 104 = .ok (.invokevirtual 56, 3) := by decide +kernel
theorem k_fn_tankOf_107 : decode me_fn_tankOf.2.1 107 = .ok (.ireturn, 1) := by decide +kernel
theorem k_fn_jointOf_0 : decode me_fn_jointOf.2.1 0 = .ok (.aload_n 0, 1) := by decide +kernel
theorem k_fn_jointOf_1 : decode me_fn_jointOf.2.1 1 = .ok (.getfield 12, 3) := by decide +kernel
theorem k_fn_jointOf_4 : decode me_fn_jointOf.2.1 4 = .ok (.iload_n 1, 1) := by decide +kernel
theorem k_fn_jointOf_5 : decode me_fn_jointOf.2.1 5 = .ok (.invokevirtual 89, 3) := by decide +kernel
theorem k_fn_jointOf_8 : decode me_fn_jointOf.2.1 8 = .ok (.astore_n 3, 1) := by decide +kernel
theorem k_fn_jointOf_9 : decode me_fn_jointOf.2.1 9 = .ok (.aload_n 3, 1) := by decide +kernel
theorem k_fn_jointOf_10 : decode me_fn_jointOf.2.1 10 = .ok (.ifnonnull 9, 3) := by decide +kernel
theorem k_fn_jointOf_13 : decode me_fn_jointOf.2.1 13 = .ok (.aload_n 0, 1) := by decide +kernel
theorem k_fn_jointOf_14 : decode me_fn_jointOf.2.1 14 = .ok (.iconst (-1), 1) := by decide +kernel
theorem k_fn_jointOf_15 : decode me_fn_jointOf.2.1 15 = .ok (.invokevirtual 56, 3) := by decide +kernel
theorem k_fn_jointOf_18 : decode me_fn_jointOf.2.1 18 = .ok (.ireturn, 1) := by decide +kernel
theorem k_fn_jointOf_19 : decode me_fn_jointOf.2.1 19 = .ok (.iload_n 2, 1) := by decide +kernel
theorem k_fn_jointOf_20 : decode me_fn_jointOf.2.1 20 = .ok (.tableswitch 145 0 8 #[52, 57, 62, 67, 75, 95, 115, 128, 133], 52) := by decide +kernel
theorem k_fn_jointOf_72 : decode me_fn_jointOf.2.1 72 = .ok (.aload_n 3, 1) := by decide +kernel
theorem k_fn_jointOf_73 : decode me_fn_jointOf.2.1 73 = .ok (.getfield 282, 3) := by decide +kernel
theorem k_fn_jointOf_76 : decode me_fn_jointOf.2.1 76 = .ok (.ireturn, 1) := by decide +kernel
theorem k_fn_jointOf_77 : decode me_fn_jointOf.2.1 77 = .ok (.aload_n 3, 1) := by decide +kernel
theorem k_fn_jointOf_78 : decode me_fn_jointOf.2.1 78 = .ok (.getfield 139, 3) := by decide +kernel
theorem k_fn_jointOf_81 : decode me_fn_jointOf.2.1 81 = .ok (.ireturn, 1) := by decide +kernel
theorem k_fn_jointOf_82 : decode me_fn_jointOf.2.1 82 = .ok (.aload_n 3, 1) := by decide +kernel
theorem k_fn_jointOf_83 : decode me_fn_jointOf.2.1 83 = .ok (.getfield 285, 3) := by decide +kernel
theorem k_fn_jointOf_86 : decode me_fn_jointOf.2.1 86 = .ok (.ireturn, 1) := by decide +kernel
theorem k_fn_jointOf_87 : decode me_fn_jointOf.2.1 87 = .ok (.aload_n 3, 1) := by decide +kernel
theorem k_fn_jointOf_88 : decode me_fn_jointOf.2.1 88 = .ok (.getfield 153, 3) := by decide +kernel
theorem k_fn_jointOf_91 : decode me_fn_jointOf.2.1 91 = .ok (.getfield 288, 3) := by decide +kernel
theorem k_fn_jointOf_94 : decode me_fn_jointOf.2.1 94 = .ok (.ireturn, 1) := by decide +kernel
theorem k_fn_jointOf_95 : decode me_fn_jointOf.2.1 95 = .ok (.aload_n 3, 1) := by decide +kernel
theorem k_fn_jointOf_96 : decode me_fn_jointOf.2.1 96 = .ok (.getfield 263, 3) := by decide +kernel
theorem k_fn_jointOf_99 : decode me_fn_jointOf.2.1 99 = .ok (.ifnonnull 8, 3) := by decide +kernel
theorem k_fn_jointOf_102 : decode me_fn_jointOf.2.1 102 = .ok (.bipush (-9), 2) := by decide +kernel
theorem k_fn_jointOf_104 : decode me_fn_jointOf.2.1 104 = .ok (.goto 10, 3) := by decide +kernel
theorem k_fn_jointOf_107 : decode me_fn_jointOf.2.1 107 = .ok (.aload_n 3, 1) := by decide +kernel
theorem k_fn_jointOf_108 : decode me_fn_jointOf.2.1 108 = .ok (.getfield 263, 3) := by decide +kernel
theorem k_fn_jointOf_111 : decode me_fn_jointOf.2.1 111 = .ok (.getfield 291, 3) := by decide +kernel
theorem k_fn_jointOf_114 : decode me_fn_jointOf.2.1 114 = .ok (.ireturn, 1) := by decide +kernel
theorem k_fn_jointOf_115 : decode me_fn_jointOf.2.1 115 = .ok (.aload_n 3, 1) := by decide +kernel
theorem k_fn_jointOf_116 : decode me_fn_jointOf.2.1 116 = .ok (.getfield 109, 3) := by decide +kernel
theorem k_fn_jointOf_119 : decode me_fn_jointOf.2.1 119 = .ok (.ifnonnull 8, 3) := by decide +kernel
theorem k_fn_jointOf_122 : decode me_fn_jointOf.2.1 122 = .ok (.bipush (-9), 2) := by decide +kernel
theorem k_fn_jointOf_124 : decode me_fn_jointOf.2.1 124 = .ok (.goto 10, 3) := by decide +kernel
theorem k_fn_jointOf_127 : decode me_fn_jointOf.2.1 127 = .ok (.aload_n 3, 1) := by decide +kernel
theorem k_fn_jointOf_128 : decode me_fn_jointOf.2.1 128 = .ok (.getfield 109, 3) := by decide +kernel
theorem k_fn_jointOf_131 : decode me_fn_jointOf.2.1 131 = .ok (.getfield 292, 3) := by decide +kernel
theorem k_fn_jointOf_134 : decode me_fn_jointOf.2.1 134 = .ok (.ireturn, 1) := by decide +kernel
theorem k_fn_jointOf_135 : decode me_fn_jointOf.2.1 135 = .ok (.aload_n 3, 1) := by decide +kernel
theorem k_fn_jointOf_136 : decode me_fn_jointOf.2.1 136 = .ok (.getfield 100, 3) := by decide +kernel
theorem k_fn_jointOf_139 : decode me_fn_jointOf.2.1 139 = .ok (.ifCond .eq 7, 3) := by decide +kernel
theorem k_fn_jointOf_142 : decode me_fn_jointOf.2.1 142 = .ok (.iconst 1, 1) := by decide +kernel
theorem k_fn_jointOf_143 : decode me_fn_jointOf.2.1 143 = .ok (.goto 4, 3) := by decide +kernel
theorem k_fn_jointOf_146 : decode me_fn_jointOf.2.1 146 = .ok (.iconst 0, 1) := by decide +kernel
theorem k_fn_jointOf_147 : decode me_fn_jointOf.2.1 147 = .ok (.ireturn, 1) := by decide +kernel
theorem k_fn_jointOf_148 : decode me_fn_jointOf.2.1 148 = .ok (.aload_n 3, 1) := by decide +kernel
theorem k_fn_jointOf_149 : decode me_fn_jointOf.2.1 149 = .ok (.getfield 141, 3) := by decide +kernel
theorem k_fn_jointOf_152 : decode me_fn_jointOf.2.1 152 = .ok (.ireturn, 1) := by decide +kernel
theorem k_fn_jointOf_153 : decode me_fn_jointOf.2.1 153 = .ok (.aload_n 0, 1) := by decide +kernel
theorem k_fn_jointOf_154 : decode me_fn_jointOf.2.1 154 = .ok (.getfield 12, 3) := by decide +kernel
theorem k_fn_jointOf_157 : decode me_fn_jointOf.2.1 157 = .ok (.invokevirtual 144, 3) := by decide +kernel
theorem k_fn_jointOf_160 : decode me_fn_jointOf.2.1 160 = .ok (.aload_n 3, 1) := by decide +kernel
theorem k_fn_jointOf_161 : decode me_fn_jointOf.2.1 161 = .ok (.invokevirtual 293, 3) := by decide +kernel
theorem k_fn_jointOf_164 : decode me_fn_jointOf.2.1 164 = .ok (.ireturn, 1) := by decide +kernel
theorem k_fn_jointOf_165 : decode me_fn_jointOf.2.1 165 = .ok (.aload_n 0, 1) := by decide +kernel
theorem k_fn_jointOf_166 : decode me_fn_jointOf.2.1 166 = .ok (.bipush (-2), 2) := by decide +kernel
theorem k_fn_jointOf_168 : decode me_fn_jointOf.2.1 168 = .ok (.invokevirtual 56, 3) := by decide +kernel
theorem k_fn_jointOf_171 : decode me_fn_jointOf.2.1 171 = .ok (.ireturn, 1) := by decide +kernel
theorem k_fn_count_0 : decode me_fn_count.2.1 0 = .ok (.iload_n 1, 1) := by decide +kernel
theorem k_fn_count_1 : decode me_fn_count.2.1 1 = .ok (.tableswitch 111 0 6 #[43, 51, 62, 73, 84, 95, 103], 43) := by decide +kernel
theorem k_fn_count_44 : decode me_fn_count.2.1 44 = .ok (.aload_n 0, 1) := by decide +kernel
theorem k_fn_count_45 : decode me_fn_count.2.1 45 = .ok (.getfield 12, 3) := by decide +kernel
theorem k_fn_count_48 : decode me_fn_count.2.1 48 = .ok (.getfield 171, 3) := by decide +kernel
theorem k_fn_count_51 : decode me_fn_count.2.1 51 = .ok (.ireturn, 1) := by decide +kernel
theorem k_fn_count_52 : decode me_fn_count.2.1 52 = .ok (.aload_n 0, 1) := by decide +kernel
theorem k_fn_count_53 : decode me_fn_count.2.1 53 = .ok (.getfield 12, 3) := by decide +kernel
theorem k_fn_count_56 : decode me_fn_count.2.1 56 = .ok (.getfield 60, 3) := by decide +kernel
theorem k_fn_count_59 : decode me_fn_count.2.1 59 = .ok (.invokevirtual 63, 3) := by decide +kernel
theorem k_fn_count_62 : decode me_fn_count.2.1 62 = .ok (.ireturn, 1) := by decide +kernel
theorem k_fn_count_63 : decode me_fn_count.2.1 63 = .ok (.aload_n 0, 1) := by decide +kernel
theorem k_fn_count_64 : decode me_fn_count.2.1 64 = .ok (.getfield 12, 3) := by decide +kernel
theorem k_fn_count_67 : decode me_fn_count.2.1 67 = .ok (.getfield 97, 3) := by decide +kernel
theorem k_fn_count_70 : decode me_fn_count.2.1 70 = .ok (.invokevirtual 63, 3) := by decide +kernel
theorem k_fn_count_73 : decode me_fn_count.2.1 73 = .ok (.ireturn, 1) := by decide +kernel
theorem k_fn_count_74 : decode me_fn_count.2.1 74 = .ok (.aload_n 0, 1) := by decide +kernel
theorem k_fn_count_75 : decode me_fn_count.2.1 75 = .ok (.getfield 12, 3) := by decide +kernel
theorem k_fn_count_78 : decode me_fn_count.2.1 78 = .ok (.getfield 113, 3) := by decide +kernel
theorem k_fn_count_81 : decode me_fn_count.2.1 81 = .ok (.invokevirtual 63, 3) := by decide +kernel
theorem k_fn_count_84 : decode me_fn_count.2.1 84 = .ok (.ireturn, 1) := by decide +kernel
theorem k_fn_count_85 : decode me_fn_count.2.1 85 = .ok (.aload_n 0, 1) := by decide +kernel
theorem k_fn_count_86 : decode me_fn_count.2.1 86 = .ok (.getfield 12, 3) := by decide +kernel
theorem k_fn_count_89 : decode me_fn_count.2.1 89 = .ok (.getfield 129, 3) := by decide +kernel
theorem k_fn_count_92 : decode me_fn_count.2.1 92 = .ok (.invokestatic 296, 3) := by decide +kernel
theorem k_fn_count_95 : decode me_fn_count.2.1 95 = .ok (.ireturn, 1) := by decide +kernel
theorem k_fn_count_96 : decode me_fn_count.2.1 96 = .ok (.aload_n 0, 1) := by decide +kernel
theorem k_fn_count_97 : decode me_fn_count.2.1 97 = .ok (.getfield 19, 3) := by decide +kernel
theorem k_fn_count_100 : decode me_fn_count.2.1 100 = .ok (.invokevirtual 63, 3) := by decide +kernel
theorem k_fn_count_103 : decode me_fn_count.2.1 103 = .ok (.ireturn, 1) := by decide +kernel
theorem k_fn_count_104 : decode me_fn_count.2.1 104 = .ok (.aload_n 0, 1) := by decide +kernel
theorem k_fn_count_105 : decode me_fn_count.2.1 105 = .ok (.getfield 12, 3) := by decide +kernel
theorem k_fn_count_108 : decode me_fn_count.2.1 108 = .ok (.invokevirtual 301, 3) := by decide +kernel
theorem k_fn_count_111 : decode me_fn_count.2.1 111 = .ok (.ireturn, 1) := by decide +kernel
theorem k_fn_count_112 : decode me_fn_count.2.1 112 = .ok (.aload_n 0, 1) := by decide +kernel
theorem k_fn_count_113 : decode me_fn_count.2.1 113 = .ok (.iload_n 1, 1) := by decide +kernel
theorem k_fn_count_114 : decode me_fn_count.2.1 114 = .ok (.bipush 10, 2) := by decide +kernel
theorem k_fn_count_116 : decode me_fn_count.2.1 116 = .ok (.isub, 1) := by decide +kernel
theorem k_fn_count_117 : decode me_fn_count.2.1 117 = .ok (.invokevirtual 304, 3) := by decide +kernel
theorem k_fn_count_120 : decode me_fn_count.2.1 120 = .ok (.ireturn, 1) := by decide +kernel
theorem k_it_bitCount_0 : decode me_it_bitCount.2.1 0 = .ok (.iload_n 0, 1) := by decide +kernel
theorem k_it_bitCount_1 : decode me_it_bitCount.2.1 1 = .ok (.iload_n 0, 1) := by decide +kernel
theorem k_it_bitCount_2 : decode me_it_bitCount.2.1 2 = .ok (.iconst 1, 1) := by decide +kernel
theorem k_it_bitCount_3 : decode me_it_bitCount.2.1 3 = .ok (.iushr, 1) := by decide +kernel
theorem k_it_bitCount_4 : decode me_it_bitCount.2.1 4 = .ok (.ldc_w 265, 3) := by decide +kernel
theorem k_it_bitCount_7 : decode me_it_bitCount.2.1 7 = .ok (.iand, 1) := by decide +kernel
theorem k_it_bitCount_8 : decode me_it_bitCount.2.1 8 = .ok (.isub, 1) := by decide +kernel
theorem k_it_bitCount_9 : decode me_it_bitCount.2.1 9 = .ok (.istore_n 0, 1) := by decide +kernel
theorem k_it_bitCount_10 : decode me_it_bitCount.2.1 10 = .ok (.iload_n 0, 1) := by decide +kernel
theorem k_it_bitCount_11 : decode me_it_bitCount.2.1 11 = .ok (.ldc_w 266, 3) := by decide +kernel
theorem k_it_bitCount_14 : decode me_it_bitCount.2.1 14 = .ok (.iand, 1) := by decide +kernel
theorem k_it_bitCount_15 : decode me_it_bitCount.2.1 15 = .ok (.iload_n 0, 1) := by decide +kernel
theorem k_it_bitCount_16 : decode me_it_bitCount.2.1 16 = .ok (.iconst 2, 1) := by decide +kernel
theorem k_it_bitCount_17 : decode me_it_bitCount.2.1 17 = .ok (.iushr, 1) := by decide +kernel
theorem k_it_bitCount_18 : decode me_it_bitCount.2.1 18 = .ok (.ldc_w 266, 3) := by decide +kernel
theorem k_it_bitCount_21 : decode me_it_bitCount.2.1 21 = .ok (.iand, 1) := by decide +kernel
theorem k_it_bitCount_22 : decode me_it_bitCount.2.1 22 = .ok (.iadd, 1) := by decide +kernel
theorem k_it_bitCount_23 : decode me_it_bitCount.2.1 23 = .ok (.istore_n 0, 1) := by decide +kernel
theorem k_it_bitCount_24 : decode me_it_bitCount.2.1 24 = .ok (.iload_n 0, 1) := by decide +kernel
theorem k_it_bitCount_25 : decode me_it_bitCount.2.1 25 = .ok (.iload_n 0, 1) := by decide +kernel
theorem k_it_bitCount_26 : decode me_it_bitCount.2.1 26 = .ok (.iconst 4, 1) := by decide +kernel
theorem k_it_bitCount_27 : decode me_it_bitCount.2.1 27 = .ok (.iushr, 1) := by decide +kernel
theorem k_it_bitCount_28 : decode me_it_bitCount.2.1 28 = .ok (.iadd, 1) := by decide +kernel
theorem k_it_bitCount_29 : decode me_it_bitCount.2.1 29 = .ok (.ldc_w 267, 3) := by decide +kernel
theorem k_it_bitCount_32 : decode me_it_bitCount.2.1 32 = .ok (.iand, 1) := by decide +kernel
theorem k_it_bitCount_33 : decode me_it_bitCount.2.1 33 = .ok (.istore_n 0, 1) := by decide +kernel
theorem k_it_bitCount_34 : decode me_it_bitCount.2.1 34 = .ok (.iload_n 0, 1) := by decide +kernel
theorem k_it_bitCount_35 : decode me_it_bitCount.2.1 35 = .ok (.iload_n 0, 1) := by decide +kernel
theorem k_it_bitCount_36 : decode me_it_bitCount.2.1 36 = .ok (.bipush 8, 2) := by decide +kernel
theorem k_it_bitCount_38 : decode me_it_bitCount.2.1 38 = .ok (.iushr, 1) := by decide +kernel
theorem k_it_bitCount_39 : decode me_it_bitCount.2.1 39 = .ok (.iadd, 1) := by decide +kernel
theorem k_it_bitCount_40 : decode me_it_bitCount.2.1 40 = .ok (.istore_n 0, 1) := by decide +kernel
theorem k_it_bitCount_41 : decode me_it_bitCount.2.1 41 = .ok (.iload_n 0, 1) := by decide +kernel
theorem k_it_bitCount_42 : decode me_it_bitCount.2.1 42 = .ok (.iload_n 0, 1) := by decide +kernel
theorem k_it_bitCount_43 : decode me_it_bitCount.2.1 43 = .ok (.bipush 16, 2) := by decide +kernel
theorem k_it_bitCount_45 : decode me_it_bitCount.2.1 45 = .ok (.iushr, 1) := by decide +kernel
theorem k_it_bitCount_46 : decode me_it_bitCount.2.1 46 = .ok (.iadd, 1) := by decide +kernel
theorem k_it_bitCount_47 : decode me_it_bitCount.2.1 47 = .ok (.istore_n 0, 1) := by decide +kernel
theorem k_it_bitCount_48 : decode me_it_bitCount.2.1 48 = .ok (.iload_n 0, 1) := by decide +kernel
theorem k_it_bitCount_49 : decode me_it_bitCount.2.1 49 = .ok (.bipush 63, 2) := by decide +kernel
theorem k_it_bitCount_51 : decode me_it_bitCount.2.1 51 = .ok (.iand, 1) := by decide +kernel
theorem k_it_bitCount_52 : decode me_it_bitCount.2.1 52 = .ok (.ireturn, 1) := by decide +kernel
theorem k_ga_emptyPipes_0 : decode me_ga_emptyPipes.2.1 0 = .ok (.iconst 0, 1) := by decide +kernel
theorem k_ga_emptyPipes_1 : decode me_ga_emptyPipes.2.1 1 = .ok (.istore_n 1, 1) := by decide +kernel
theorem k_ga_emptyPipes_2 : decode me_ga_emptyPipes.2.1 2 = .ok (.iconst 0, 1) := by decide +kernel
theorem k_ga_emptyPipes_3 : decode me_ga_emptyPipes.2.1 3 = .ok (.istore_n 2, 1) := by decide +kernel
theorem k_ga_emptyPipes_4 : decode me_ga_emptyPipes.2.1 4 = .ok (.iload_n 2, 1) := by decide +kernel
theorem k_ga_emptyPipes_5 : decode me_ga_emptyPipes.2.1 5 = .ok (.aload_n 0, 1) := by decide +kernel
theorem k_ga_emptyPipes_6 : decode me_ga_emptyPipes.2.1 6 = .ok (.getfield 18, 3) := by decide +kernel
theorem k_ga_emptyPipes_9 : decode me_ga_emptyPipes.2.1 9 = .ok (.invokevirtual 24, 3) := by decide +kernel
theorem k_ga_emptyPipes_12 : decode me_ga_emptyPipes.2.1 12 = .ok (.if_icmp .ge 34, 3) := by decide +kernel
theorem k_ga_emptyPipes_15 : decode me_ga_emptyPipes.2.1 15 = .ok (.iload_n 1, 1) := by decide +kernel
theorem k_ga_emptyPipes_16 : decode me_ga_emptyPipes.2.1 16 = .ok (.aload_n 0, 1) := by decide +kernel
theorem k_ga_emptyPipes_17 : decode me_ga_emptyPipes.2.1 17 = .ok (.getfield 18, 3) := by decide +kernel
theorem k_ga_emptyPipes_20 : decode me_ga_emptyPipes.2.1 20 = .ok (.iload_n 2, 1) := by decide +kernel
theorem k_ga_emptyPipes_21 : decode me_ga_emptyPipes.2.1 21 = .ok (.invokevirtual 28, 3) := by decide +kernel
theorem k_ga_emptyPipes_24 : decode me_ga_emptyPipes.2.1 24 = .ok (.checkcast 34, 3) := by decide +kernel
theorem k_ga_emptyPipes_27 : decode me_ga_emptyPipes.2.1 27 = .ok (.getfield 49, 3) := by decide +kernel
theorem k_ga_emptyPipes_30 : decode me_ga_emptyPipes.2.1 30 = .ok (.ifCond .eq 7, 3) := by decide +kernel
theorem k_ga_emptyPipes_33 : decode me_ga_emptyPipes.2.1 33 = .ok (.iconst 1, 1) := by decide +kernel
theorem k_ga_emptyPipes_34 : decode me_ga_emptyPipes.2.1 34 = .ok (.goto 4, 3) := by decide +kernel
theorem k_ga_emptyPipes_37 : decode me_ga_emptyPipes.2.1 37 = .ok (.iconst 0, 1) := by decide +kernel
theorem k_ga_emptyPipes_38 : decode me_ga_emptyPipes.2.1 38 = .ok (.iadd, 1) := by decide +kernel
theorem k_ga_emptyPipes_39 : decode me_ga_emptyPipes.2.1 39 = .ok (.istore_n 1, 1) := by decide +kernel
theorem k_ga_emptyPipes_40 : decode me_ga_emptyPipes.2.1 40 = .ok (.iinc 2 1, 3) := by decide +kernel
theorem k_ga_emptyPipes_43 : decode me_ga_emptyPipes.2.1 43 = .ok (.goto (-39), 3) := by decide +kernel
theorem k_ga_emptyPipes_46 : decode me_ga_emptyPipes.2.1 46 = .ok (.iload_n 1, 1) := by decide +kernel
theorem k_ga_emptyPipes_47 : decode me_ga_emptyPipes.2.1 47 = .ok (.ireturn, 1) := by decide +kernel
theorem k_fn_refusalsOf_0 : decode me_fn_refusalsOf.2.1 0 = .ok (.iload_n 1, 1) := by decide +kernel
theorem k_fn_refusalsOf_1 : decode me_fn_refusalsOf.2.1 1 = .ok (.iconst 1, 1) := by decide +kernel
theorem k_fn_refusalsOf_2 : decode me_fn_refusalsOf.2.1 2 = .ok (.if_icmp .lt 27, 3) := by decide +kernel
theorem k_fn_refusalsOf_5 : decode me_fn_refusalsOf.2.1 5 = .ok (.iload_n 1, 1) := by decide +kernel
theorem k_fn_refusalsOf_6 : decode me_fn_refusalsOf.2.1 6 = .ok (.bipush 6, 2) := by decide +kernel
theorem k_fn_refusalsOf_8 : decode me_fn_refusalsOf.2.1 8 = .ok (.if_icmp .gt 21, 3) := by decide +kernel
theorem k_fn_refusalsOf_11 : decode me_fn_refusalsOf.2.1 11 = .ok (.iload_n 1, 1) := by decide +kernel
theorem k_fn_refusalsOf_12 : decode me_fn_refusalsOf.2.1 12 = .ok (.aload_n 0, 1) := by decide +kernel
theorem k_fn_refusalsOf_13 : decode me_fn_refusalsOf.2.1 13 = .ok (.getfield 48, 3) := by decide +kernel
theorem k_fn_refusalsOf_16 : decode me_fn_refusalsOf.2.1 16 = .ok (.arraylength, 1) := by decide +kernel
theorem k_fn_refusalsOf_17 : decode me_fn_refusalsOf.2.1 17 = .ok (.if_icmp .ge 12, 3) := by decide +kernel
theorem k_fn_refusalsOf_20 : decode me_fn_refusalsOf.2.1 20 = .ok (.aload_n 0, 1) := by decide +kernel
theorem k_fn_refusalsOf_21 : decode me_fn_refusalsOf.2.1 21 = .ok (.getfield 48, 3) := by decide +kernel
theorem k_fn_refusalsOf_24 : decode me_fn_refusalsOf.2.1 24 = .ok (.iload_n 1, 1) := by decide +kernel
theorem k_fn_refusalsOf_25 : decode me_fn_refusalsOf.2.1 25 = .ok (.iaload, 1) := by decide +kernel
theorem k_fn_refusalsOf_26 : decode me_fn_refusalsOf.2.1 26 = .ok (.goto 5, 3) := by decide +kernel
theorem k_fn_refusalsOf_29 : decode me_fn_refusalsOf.2.1 29 = .ok (.bipush (-9), 2) := by decide +kernel
theorem k_fn_refusalsOf_31 : decode me_fn_refusalsOf.2.1 31 = .ok (.ireturn, 1) := by decide +kernel
theorem k_fm_init_0 : decode me_fm_init.2.1 0 = .ok (.aload_n 0, 1) := by decide +kernel
theorem k_fm_init_1 : decode me_fm_init.2.1 1 = .ok (.invokespecial 3, 3) := by decide +kernel
theorem k_fm_init_4 : decode me_fm_init.2.1 4 = .ok (.aload_n 0, 1) := by decide +kernel
theorem k_fm_init_5 : decode me_fm_init.2.1 5 = .ok (.bipush 7, 2) := by decide +kernel
theorem k_fm_init_7 : decode me_fm_init.2.1 7 = .ok (.newarray .int, 2) := by decide +kernel
theorem k_fm_init_9 : decode me_fm_init.2.1 9 = .ok (.putfield 9, 3) := by decide +kernel
theorem k_fm_init_12 : decode me_fm_init.2.1 12 = .ok (.aload_n 0, 1) := by decide +kernel
theorem k_fm_init_13 : decode me_fm_init.2.1 13 = .ok (.iconst 1, 1) := by decide +kernel
theorem k_fm_init_14 : decode me_fm_init.2.1 14 = .ok (.putfield 13, 3) := by decide +kernel
theorem k_fm_init_17 : decode me_fm_init.2.1 17 = .ok (.aload_n 0, 1) := by decide +kernel
theorem k_fm_init_18 : decode me_fm_init.2.1 18 = .ok (.iconst 4, 1) := by decide +kernel
theorem k_fm_init_19 : decode me_fm_init.2.1 19 = .ok (.newarray .int, 2) := by decide +kernel
theorem k_fm_init_21 : decode me_fm_init.2.1 21 = .ok (.putfield 17, 3) := by decide +kernel
theorem k_fm_init_24 : decode me_fm_init.2.1 24 = .ok (.aload_n 0, 1) := by decide +kernel
theorem k_fm_init_25 : decode me_fm_init.2.1 25 = .ok (.iconst 4, 1) := by decide +kernel
theorem k_fm_init_26 : decode me_fm_init.2.1 26 = .ok (.newarray .int, 2) := by decide +kernel
theorem k_fm_init_28 : decode me_fm_init.2.1 28 = .ok (.putfield 20, 3) := by decide +kernel
theorem k_fm_init_31 : decode me_fm_init.2.1 31 = .ok (.aload_n 0, 1) := by decide +kernel
theorem k_fm_init_32 : decode me_fm_init.2.1 32 = .ok (.iconst 4, 1) := by decide +kernel
theorem k_fm_init_33 : decode me_fm_init.2.1 33 = .ok (.newarray .int, 2) := by decide +kernel
theorem k_fm_init_35 : decode me_fm_init.2.1 35 = .ok (.putfield 23, 3) := by decide +kernel
theorem k_fm_init_38 : decode me_fm_init.2.1 38 = .ok (.aload_n 0, 1) := by decide +kernel
theorem k_fm_init_39 : decode me_fm_init.2.1 39 = .ok (.iconst 4, 1) := by decide +kernel
theorem k_fm_init_40 : decode me_fm_init.2.1 40 = .ok (.newarray .int, 2) := by decide +kernel
theorem k_fm_init_42 : decode me_fm_init.2.1 42 = .ok (.putfield 26, 3) := by decide +kernel
theorem k_fm_init_45 : decode me_fm_init.2.1 45 = .ok (.aload_n 0, 1) := by decide +kernel
theorem k_fm_init_46 : decode me_fm_init.2.1 46 = .ok (.iconst 4, 1) := by decide +kernel
theorem k_fm_init_47 : decode me_fm_init.2.1 47 = .ok (.newarray .int, 2) := by decide +kernel
theorem k_fm_init_49 : decode me_fm_init.2.1 49 = .ok (.putfield 29, 3) := by decide +kernel
theorem k_fm_init_52 : decode me_fm_init.2.1 52 = .ok (.aload_n 0, 1) := by decide +kernel
theorem k_fm_init_53 : decode me_fm_init.2.1 53 = .ok (.iconst 4, 1) := by decide +kernel
theorem k_fm_init_54 : decode me_fm_init.2.1 54 = .ok (.newarray .int, 2) := by decide +kernel
theorem k_fm_init_56 : decode me_fm_init.2.1 56 = .ok (.putfield 32, 3) := by decide +kernel
theorem k_fm_init_59 : decode me_fm_init.2.1 59 = .ok (.aload_n 0, 1) := by decide +kernel
theorem k_fm_init_60 : decode me_fm_init.2.1 60 = .ok (.iconst 4, 1) := by decide +kernel
theorem k_fm_init_61 : decode me_fm_init.2.1 61 = .ok (.newarray .int, 2) := by decide +kernel
theorem k_fm_init_63 : decode me_fm_init.2.1 63 = .ok (.putfield 35, 3) := by decide +kernel
theorem k_fm_init_66 : decode me_fm_init.2.1 66 = .ok (.aload_n 0, 1) := by decide +kernel
theorem k_fm_init_67 : decode me_fm_init.2.1 67 = .ok (.bipush 30, 2) := by decide +kernel
theorem k_fm_init_69 : decode me_fm_init.2.1 69 = .ok (.newarray .int, 2) := by decide +kernel
theorem k_fm_init_71 : decode me_fm_init.2.1 71 = .ok (.putfield 38, 3) := by decide +kernel
theorem k_fm_init_74 : decode me_fm_init.2.1 74 = .ok (.aload_n 0, 1) := by decide +kernel
theorem k_fm_init_75 : decode me_fm_init.2.1 75 = .ok (.bipush 30, 2) := by decide +kernel
theorem k_fm_init_77 : decode me_fm_init.2.1 77 = .ok (.newarray .int, 2) := by decide +kernel
theorem k_fm_init_79 : decode me_fm_init.2.1 79 = .ok (.putfield 41, 3) := by decide +kernel
theorem k_fm_init_82 : decode me_fm_init.2.1 82 = .ok (.aload_n 0, 1) := by decide +kernel
theorem k_fm_init_83 : decode me_fm_init.2.1 83 = .ok (.bipush 30, 2) := by decide +kernel
theorem k_fm_init_85 : decode me_fm_init.2.1 85 = .ok (.newarray .int, 2) := by decide +kernel
theorem k_fm_init_87 : decode me_fm_init.2.1 87 = .ok (.putfield 44, 3) := by decide +kernel
theorem k_fm_init_90 : decode me_fm_init.2.1 90 = .ok (.aload_n 0, 1) := by decide +kernel
theorem k_fm_init_91 : decode me_fm_init.2.1 91 = .ok (.bipush 30, 2) := by decide +kernel
theorem k_fm_init_93 : decode me_fm_init.2.1 93 = .ok (.newarray .int, 2) := by decide +kernel
theorem k_fm_init_95 : decode me_fm_init.2.1 95 = .ok (.putfield 47, 3) := by decide +kernel
theorem k_fm_init_98 : decode me_fm_init.2.1 98 = .ok (.aload_n 0, 1) := by decide +kernel
theorem k_fm_init_99 : decode me_fm_init.2.1 99 = .ok (.bipush 30, 2) := by decide +kernel
theorem k_fm_init_101 : decode me_fm_init.2.1 101 = .ok (.newarray .int, 2) := by decide +kernel
theorem k_fm_init_103 : decode me_fm_init.2.1 103 = .ok (.putfield 50, 3) := by decide +kernel
theorem k_fm_init_106 : decode me_fm_init.2.1 106 = .ok (.aload_n 0, 1) := by decide +kernel
theorem k_fm_init_107 : decode me_fm_init.2.1 107 = .ok (.bipush 30, 2) := by decide +kernel
theorem k_fm_init_109 : decode me_fm_init.2.1 109 = .ok (.newarray .int, 2) := by decide +kernel
theorem k_fm_init_111 : decode me_fm_init.2.1 111 = .ok (.putfield 53, 3) := by decide +kernel
theorem k_fm_init_114 : decode me_fm_init.2.1 114 = .ok (.aload_n 0, 1) := by decide +kernel
theorem k_fm_init_115 : decode me_fm_init.2.1 115 = .ok (.bipush 30, 2) := by decide +kernel
theorem k_fm_init_117 : decode me_fm_init.2.1 117 = .ok (.newarray .int, 2) := by decide +kernel
theorem k_fm_init_119 : decode me_fm_init.2.1 119 = .ok (.putfield 56, 3) := by decide +kernel
theorem k_fm_init_122 : decode me_fm_init.2.1 122 = .ok (.aload_n 0, 1) := by decide +kernel
theorem k_fm_init_123 : decode me_fm_init.2.1 123 = .ok (.bipush 30, 2) := by decide +kernel
theorem k_fm_init_125 : decode me_fm_init.2.1 125 = .ok (.newarray .boolean, 2) := by decide +kernel
theorem k_fm_init_127 : decode me_fm_init.2.1 127 = .ok (.putfield 59, 3) := by decide +kernel
theorem k_fm_init_130 : decode me_fm_init.2.1 130 = .ok (.aload_n 0, 1) := by decide +kernel
theorem k_fm_init_131 : decode me_fm_init.2.1 131 = .ok (.bipush 24, 2) := by decide +kernel
theorem k_fm_init_133 : decode me_fm_init.2.1 133 = .ok (.newarray .int, 2) := by decide +kernel
theorem k_fm_init_135 : decode me_fm_init.2.1 135 = .ok (.putfield 63, 3) := by decide +kernel
theorem k_fm_init_138 : decode me_fm_init.2.1 138 = .ok (.aload_n 0, 1) := by decide +kernel
theorem k_fm_init_139 : decode me_fm_init.2.1 139 = .ok (.bipush 24, 2) := by decide +kernel
theorem k_fm_init_141 : decode me_fm_init.2.1 141 = .ok (.newarray .int, 2) := by decide +kernel
theorem k_fm_init_143 : decode me_fm_init.2.1 143 = .ok (.putfield 66, 3) := by decide +kernel
theorem k_fm_init_146 : decode me_fm_init.2.1 146 = .ok (.aload_n 0, 1) := by decide +kernel
theorem k_fm_init_147 : decode me_fm_init.2.1 147 = .ok (.bipush 24, 2) := by decide +kernel
theorem k_fm_init_149 : decode me_fm_init.2.1 149 = .ok (.newarray .int, 2) := by decide +kernel
theorem k_fm_init_151 : decode me_fm_init.2.1 151 = .ok (.putfield 69, 3) := by decide +kernel
theorem k_fm_init_154 : decode me_fm_init.2.1 154 = .ok (.aload_n 0, 1) := by decide +kernel
theorem k_fm_init_155 : decode me_fm_init.2.1 155 = .ok (.bipush 24, 2) := by decide +kernel
theorem k_fm_init_157 : decode me_fm_init.2.1 157 = .ok (.newarray .boolean, 2) := by decide +kernel
theorem k_fm_init_159 : decode me_fm_init.2.1 159 = .ok (.putfield 72, 3) := by decide +kernel
theorem k_fm_init_162 : decode me_fm_init.2.1 162 = .ok (.aload_n 0, 1) := by decide +kernel
theorem k_fm_init_163 : decode me_fm_init.2.1 163 = .ok (.bipush 12, 2) := by decide +kernel
theorem k_fm_init_165 : decode me_fm_init.2.1 165 = .ok (.newarray .int, 2) := by decide +kernel
theorem k_fm_init_167 : decode me_fm_init.2.1 167 = .ok (.putfield 75, 3) := by decide +kernel
theorem k_fm_init_170 : decode me_fm_init.2.1 170 = .ok (.aload_n 0, 1) := by decide +kernel
theorem k_fm_init_171 : decode me_fm_init.2.1 171 = .ok (.bipush 12, 2) := by decide +kernel
theorem k_fm_init_173 : decode me_fm_init.2.1 173 = .ok (.newarray .int, 2) := by decide +kernel
theorem k_fm_init_175 : decode me_fm_init.2.1 175 = .ok (.putfield 78, 3) := by decide +kernel
theorem k_fm_init_178 : decode me_fm_init.2.1 178 = .ok (.aload_n 0, 1) := by decide +kernel
theorem k_fm_init_179 : decode me_fm_init.2.1 179 = .ok (.bipush 12, 2) := by decide +kernel
theorem k_fm_init_181 : decode me_fm_init.2.1 181 = .ok (.newarray .int, 2) := by decide +kernel
theorem k_fm_init_183 : decode me_fm_init.2.1 183 = .ok (.putfield 81, 3) := by decide +kernel
theorem k_fm_init_186 : decode me_fm_init.2.1 186 = .ok (.aload_n 0, 1) := by decide +kernel
theorem k_fm_init_187 : decode me_fm_init.2.1 187 = .ok (.bipush 12, 2) := by decide +kernel
theorem k_fm_init_189 : decode me_fm_init.2.1 189 = .ok (.newarray .int, 2) := by decide +kernel
theorem k_fm_init_191 : decode me_fm_init.2.1 191 = .ok (.putfield 84, 3) := by decide +kernel
theorem k_fm_init_194 : decode me_fm_init.2.1 194 = .ok (.aload_n 0, 1) := by decide +kernel
theorem k_fm_init_195 : decode me_fm_init.2.1 195 = .ok (.bipush 30, 2) := by decide +kernel
theorem k_fm_init_197 : decode me_fm_init.2.1 197 = .ok (.newarray .int, 2) := by decide +kernel
theorem k_fm_init_199 : decode me_fm_init.2.1 199 = .ok (.putfield 87, 3) := by decide +kernel
theorem k_fm_init_202 : decode me_fm_init.2.1 202 = .ok (.aload_n 0, 1) := by decide +kernel
theorem k_fm_init_203 : decode me_fm_init.2.1 203 = .ok (.bipush 30, 2) := by decide +kernel
theorem k_fm_init_205 : decode me_fm_init.2.1 205 = .ok (.newarray .int, 2) := by decide +kernel
theorem k_fm_init_207 : decode me_fm_init.2.1 207 = .ok (.putfield 90, 3) := by decide +kernel
theorem k_fm_init_210 : decode me_fm_init.2.1 210 = .ok (.aload_n 0, 1) := by decide +kernel
theorem k_fm_init_211 : decode me_fm_init.2.1 211 = .ok (.bipush 30, 2) := by decide +kernel
theorem k_fm_init_213 : decode me_fm_init.2.1 213 = .ok (.newarray .int, 2) := by decide +kernel
theorem k_fm_init_215 : decode me_fm_init.2.1 215 = .ok (.putfield 93, 3) := by decide +kernel
theorem k_fm_init_218 : decode me_fm_init.2.1 218 = .ok (.aload_n 0, 1) := by decide +kernel
theorem k_fm_init_219 : decode me_fm_init.2.1 219 = .ok (.bipush 30, 2) := by decide +kernel
theorem k_fm_init_221 : decode me_fm_init.2.1 221 = .ok (.newarray .int, 2) := by decide +kernel
theorem k_fm_init_223 : decode me_fm_init.2.1 223 = .ok (.putfield 96, 3) := by decide +kernel
theorem k_fm_init_226 : decode me_fm_init.2.1 226 = .ok (.aload_n 0, 1) := by decide +kernel
theorem k_fm_init_227 : decode me_fm_init.2.1 227 = .ok (.iconst 4, 1) := by decide +kernel
theorem k_fm_init_228 : decode me_fm_init.2.1 228 = .ok (.newarray .int, 2) := by decide +kernel
theorem k_fm_init_230 : decode me_fm_init.2.1 230 = .ok (.putfield 99, 3) := by decide +kernel
theorem k_fm_init_233 : decode me_fm_init.2.1 233 = .ok (.aload_n 0, 1) := by decide +kernel
theorem k_fm_init_234 : decode me_fm_init.2.1 234 = .ok (.iconst 4, 1) := by decide +kernel
theorem k_fm_init_235 : decode me_fm_init.2.1 235 = .ok (.newarray .int, 2) := by decide +kernel
theorem k_fm_init_237 : decode me_fm_init.2.1 237 = .ok (.putfield 102, 3) := by decide +kernel
theorem k_fm_init_240 : decode me_fm_init.2.1 240 = .ok (.aload_n 0, 1) := by decide +kernel
theorem k_fm_init_241 : decode me_fm_init.2.1 241 = .ok (.iconst 4, 1) := by decide +kernel
theorem k_fm_init_242 : decode me_fm_init.2.1 242 = .ok (.newarray .int, 2) := by decide +kernel
theorem k_fm_init_244 : decode me_fm_init.2.1 244 = .ok (.putfield 105, 3) := by decide +kernel
theorem k_fm_init_247 : decode me_fm_init.2.1 247 = .ok (.aload_n 0, 1) := by decide +kernel
theorem k_fm_init_248 : decode me_fm_init.2.1 248 = .ok (.bipush 24, 2) := by decide +kernel
theorem k_fm_init_250 : decode me_fm_init.2.1 250 = .ok (.newarray .boolean, 2) := by decide +kernel
theorem k_fm_init_252 : decode me_fm_init.2.1 252 = .ok (.putfield 108, 3) := by decide +kernel
theorem k_fm_init_255 : decode me_fm_init.2.1 255 = .ok (.aload_n 0, 1) := by decide +kernel
theorem k_fm_init_256 : decode me_fm_init.2.1 256 = .ok (.bipush 30, 2) := by decide +kernel
theorem k_fm_init_258 : decode me_fm_init.2.1 258 = .ok (.newarray .int, 2) := by decide +kernel
theorem k_fm_init_260 : decode me_fm_init.2.1 260 = .ok (.putfield 111, 3) := by decide +kernel
theorem k_fm_init_263 : decode me_fm_init.2.1 263 = .ok (.aload_n 0, 1) := by decide +kernel
theorem k_fm_init_264 : decode me_fm_init.2.1 264 = .ok (.sipush 576, 3) := by decide +kernel
theorem k_fm_init_267 : decode me_fm_init.2.1 267 = .ok (.newarray .int, 2) := by decide +kernel
theorem k_fm_init_269 : decode me_fm_init.2.1 269 = .ok (.putfield 114, 3) := by decide +kernel
theorem k_fm_init_272 : decode me_fm_init.2.1 272 = .ok (.aload_n 0, 1) := by decide +kernel
theorem k_fm_init_273 : decode me_fm_init.2.1 273 = .ok (.sipush 576, 3) := by decide +kernel
theorem k_fm_init_276 : decode me_fm_init.2.1 276 = .ok (.newarray .int, 2) := by decide +kernel
theorem k_fm_init_278 : decode me_fm_init.2.1 278 = .ok (.putfield 117, 3) := by decide +kernel
theorem k_fm_init_281 : decode me_fm_init.2.1 281 = .ok (.aload_n 0, 1) := by decide +kernel
theorem k_fm_init_282 : decode me_fm_init.2.1 282 = .ok (.sipush 576, 3) := by decide +kernel
theorem k_fm_init_285 : decode me_fm_init.2.1 285 = .ok (.newarray .int, 2) := by decide +kernel
theorem k_fm_init_287 : decode me_fm_init.2.1 287 = .ok (.putfield 120, 3) := by decide +kernel
theorem k_fm_init_290 : decode me_fm_init.2.1 290 = .ok (.aload_n 0, 1) := by decide +kernel
theorem k_fm_init_291 : decode me_fm_init.2.1 291 = .ok (.bipush 60, 2) := by decide +kernel
theorem k_fm_init_293 : decode me_fm_init.2.1 293 = .ok (.newarray .int, 2) := by decide +kernel
theorem k_fm_init_295 : decode me_fm_init.2.1 295 = .ok (.putfield 123, 3) := by decide +kernel
theorem k_fm_init_298 : decode me_fm_init.2.1 298 = .ok (.aload_n 0, 1) := by decide +kernel
theorem k_fm_init_299 : decode me_fm_init.2.1 299 = .ok (.bipush 60, 2) := by decide +kernel
theorem k_fm_init_301 : decode me_fm_init.2.1 301 = .ok (.newarray .boolean, 2) := by decide +kernel
theorem k_fm_init_303 : decode me_fm_init.2.1 303 = .ok (.putfield 126, 3) := by decide +kernel
theorem k_fm_init_306 : decode me_fm_init.2.1 306 = .ok (.aload_n 0, 1) := by decide +kernel
theorem k_fm_init_307 : decode me_fm_init.2.1 307 = .ok (.bipush 30, 2) := by decide +kernel
theorem k_fm_init_309 : decode me_fm_init.2.1 309 = .ok (.newarray .boolean, 2) := by decide +kernel
theorem k_fm_init_311 : decode me_fm_init.2.1 311 = .ok (.putfield 129, 3) := by decide +kernel
theorem k_fm_init_314 : decode me_fm_init.2.1 314 = .ok (.return_, 1) := by decide +kernel
theorem k_fm_tank_0 : decode me_fm_tank.2.1 0 = .ok (.iload_n 1, 1) := by decide +kernel
theorem k_fm_tank_1 : decode me_fm_tank.2.1 1 = .ok (.ifCond .lt 18, 3) := by decide +kernel
theorem k_fm_tank_4 : decode me_fm_tank.2.1 4 = .ok (.iload_n 2, 1) := by decide +kernel
theorem k_fm_tank_5 : decode me_fm_tank.2.1 5 = .ok (.iconst 1, 1) := by decide +kernel
theorem k_fm_tank_6 : decode me_fm_tank.2.1 6 = .ok (.if_icmp .lt 13, 3) := by decide +kernel
theorem k_fm_tank_9 : decode me_fm_tank.2.1 9 = .ok (.iload_n 3, 1) := by decide +kernel
theorem k_fm_tank_10 : decode me_fm_tank.2.1 10 = .ok (.iconst 1, 1) := by decide +kernel
theorem k_fm_tank_11 : decode me_fm_tank.2.1 11 = .ok (.if_icmp .lt 8, 3) := by decide +kernel
theorem k_fm_tank_14 : decode me_fm_tank.2.1 14 = .ok (.iload 4, 2) := by decide +kernel
theorem k_fm_tank_16 : decode me_fm_tank.2.1 16 = .ok (.ifCond .ge 10, 3) := by decide +kernel
theorem k_fm_tank_19 : decode me_fm_tank.2.1 19 = .ok (.aload_n 0, 1) := by decide +kernel
theorem k_fm_tank_20 : decode me_fm_tank.2.1 20 = .ok (.bipush (-4), 2) := by decide +kernel
theorem k_fm_tank_22 : decode me_fm_tank.2.1 22 = .ok (.invokevirtual 133, 3) := by decide +kernel
theorem k_fm_tank_25 : decode me_fm_tank.2.1 25 = .ok (.ireturn, 1) := by decide +kernel
theorem k_fm_tank_26 : decode me_fm_tank.2.1 26 = .ok (.iload_n 1, 1) := by decide +kernel
theorem k_fm_tank_27 : decode me_fm_tank.2.1 27 = .ok (.sipush 500, 3) := by decide +kernel
theorem k_fm_tank_30 : decode me_fm_tank.2.1 30 = .ok (.if_icmp .gt 32, 3) := by decide +kernel
theorem k_fm_tank_33 : decode me_fm_tank.2.1 33 = .ok (.iload_n 2, 1) := by decide +kernel
theorem k_fm_tank_34 : decode me_fm_tank.2.1 34 = .ok (.sipush 1000, 3) := by decide +kernel
theorem k_fm_tank_37 : decode me_fm_tank.2.1 37 = .ok (.if_icmp .gt 25, 3) := by decide +kernel
theorem k_fm_tank_40 : decode me_fm_tank.2.1 40 = .ok (.iload_n 3, 1) := by decide +kernel
theorem k_fm_tank_41 : decode me_fm_tank.2.1 41 = .ok (.bipush 60, 2) := by decide +kernel
theorem k_fm_tank_43 : decode me_fm_tank.2.1 43 = .ok (.if_icmp .gt 19, 3) := by decide +kernel
theorem k_fm_tank_46 : decode me_fm_tank.2.1 46 = .ok (.iload 4, 2) := by decide +kernel
theorem k_fm_tank_48 : decode me_fm_tank.2.1 48 = .ok (.sipush 500, 3) := by decide +kernel
theorem k_fm_tank_51 : decode me_fm_tank.2.1 51 = .ok (.if_icmp .gt 11, 3) := by decide +kernel
theorem k_fm_tank_54 : decode me_fm_tank.2.1 54 = .ok (.aload_n 0, 1) := by decide +kernel
theorem k_fm_tank_55 : decode me_fm_tank.2.1 55 = .ok (.getfield 141, 3) := by decide +kernel
theorem k_fm_tank_58 : decode me_fm_tank.2.1 58 = .ok (.iconst 4, 1) := by decide +kernel
theorem k_fm_tank_59 : decode me_fm_tank.2.1 59 = .ok (.if_icmp .ne 10, 3) := by decide +kernel
theorem k_fm_tank_62 : decode me_fm_tank.2.1 62 = .ok (.aload_n 0, 1) := by decide +kernel
theorem k_fm_tank_63 : decode me_fm_tank.2.1 63 = .ok (.bipush (-6), 2) := by decide +kernel
theorem k_fm_tank_65 : decode me_fm_tank.2.1 65 = .ok (.invokevirtual 133, 3) := by decide +kernel
theorem k_fm_tank_68 : decode me_fm_tank.2.1 68 = .ok (.ireturn, 1) := by decide +kernel
theorem k_fm_tank_69 : decode me_fm_tank.2.1 69 = .ok (.aload_n 0, 1) := by decide +kernel
theorem k_fm_tank_70 : decode me_fm_tank.2.1 70 = .ok (.getfield 17, 3) := by decide +kernel
theorem k_fm_tank_73 : decode me_fm_tank.2.1 73 = .ok (.aload_n 0, 1) := by decide +kernel
theorem k_fm_tank_74 : decode me_fm_tank.2.1 74 = .ok (.getfield 141, 3) := by decide +kernel
theorem k_fm_tank_77 : decode me_fm_tank.2.1 77 = .ok (.iload_n 1, 1) := by decide +kernel
theorem k_fm_tank_78 : decode me_fm_tank.2.1 78 = .ok (.iastore, 1) := by decide +kernel
theorem k_fm_tank_79 : decode me_fm_tank.2.1 79 = .ok (.aload_n 0, 1) := by decide +kernel
theorem k_fm_tank_80 : decode me_fm_tank.2.1 80 = .ok (.getfield 20, 3) := by decide +kernel
theorem k_fm_tank_83 : decode me_fm_tank.2.1 83 = .ok (.aload_n 0, 1) := by decide +kernel
theorem k_fm_tank_84 : decode me_fm_tank.2.1 84 = .ok (.getfield 141, 3) := by decide +kernel
theorem k_fm_tank_87 : decode me_fm_tank.2.1 87 = .ok (.iload_n 2, 1) := by decide +kernel
theorem k_fm_tank_88 : decode me_fm_tank.2.1 88 = .ok (.iastore, 1) := by decide +kernel
theorem k_fm_tank_89 : decode me_fm_tank.2.1 89 = .ok (.aload_n 0, 1) := by decide +kernel
theorem k_fm_tank_90 : decode me_fm_tank.2.1 90 = .ok (.getfield 23, 3) := by decide +kernel
theorem k_fm_tank_93 : decode me_fm_tank.2.1 93 = .ok (.aload_n 0, 1) := by decide +kernel
theorem k_fm_tank_94 : decode me_fm_tank.2.1 94 = .ok (.getfield 141, 3) := by decide +kernel
theorem k_fm_tank_97 : decode me_fm_tank.2.1 97 = .ok (.iload_n 3, 1) := by decide +kernel
theorem k_fm_tank_98 : decode me_fm_tank.2.1 98 = .ok (.iastore, 1) := by decide +kernel
theorem k_fm_tank_99 : decode me_fm_tank.2.1 99 = .ok (.aload_n 0, 1) := by decide +kernel
theorem k_fm_tank_100 : decode me_fm_tank.2.1 100 = .ok (.getfield 26, 3) := by decide +kernel
theorem k_fm_tank_103 : decode me_fm_tank.2.1 103 = .ok (.aload_n 0, 1) := by decide +kernel
theorem k_fm_tank_104 : decode me_fm_tank.2.1 104 = .ok (.getfield 141, 3) := by decide +kernel
theorem k_fm_tank_107 : decode me_fm_tank.2.1 107 = .ok (.iload 4, 2) := by decide +kernel
theorem k_fm_tank_109 : decode me_fm_tank.2.1 109 = .ok (.iastore, 1) := by decide +kernel
theorem k_fm_tank_110 : decode me_fm_tank.2.1 110 = .ok (.aload_n 0, 1) := by decide +kernel
theorem k_fm_tank_111 : decode me_fm_tank.2.1 111 = .ok (.getfield 29, 3) := by decide +kernel
theorem k_fm_tank_114 : decode me_fm_tank.2.1 114 = .ok (.aload_n 0, 1) := by decide +kernel
theorem k_fm_tank_115 : decode me_fm_tank.2.1 115 = .ok (.getfield 141, 3) := by decide +kernel
theorem k_fm_tank_118 : decode me_fm_tank.2.1 118 = .ok (.iload_n 2, 1) := by decide +kernel
theorem k_fm_tank_119 : decode me_fm_tank.2.1 119 = .ok (.iload_n 3, 1) := by decide +kernel
theorem k_fm_tank_120 : decode me_fm_tank.2.1 120 = .ok (.imul, 1) := by decide +kernel
theorem k_fm_tank_121 : decode me_fm_tank.2.1 121 = .ok (.iastore, 1) := by decide +kernel
theorem k_fm_tank_122 : decode me_fm_tank.2.1 122 = .ok (.aload_n 0, 1) := by decide +kernel
theorem k_fm_tank_123 : decode me_fm_tank.2.1 123 = .ok (.dup, 1) := by decide +kernel
theorem k_fm_tank_124 : decode me_fm_tank.2.1 124 = .ok (.getfield 141, 3) := by decide +kernel
theorem k_fm_tank_127 : decode me_fm_tank.2.1 127 = .ok (.iconst 1, 1) := by decide +kernel
theorem k_fm_tank_128 : decode me_fm_tank.2.1 128 = .ok (.iadd, 1) := by decide +kernel
theorem k_fm_tank_129 : decode me_fm_tank.2.1 129 = .ok (.putfield 141, 3) := by decide +kernel
theorem k_fm_tank_132 : decode me_fm_tank.2.1 132 = .ok (.aload_n 0, 1) := by decide +kernel
theorem k_fm_tank_133 : decode me_fm_tank.2.1 133 = .ok (.getfield 141, 3) := by decide +kernel
theorem k_fm_tank_136 : decode me_fm_tank.2.1 136 = .ok (.iconst 1, 1) := by decide +kernel
theorem k_fm_tank_137 : decode me_fm_tank.2.1 137 = .ok (.isub, 1) := by decide +kernel
theorem k_fm_tank_138 : decode me_fm_tank.2.1 138 = .ok (.ireturn, 1) := by decide +kernel
theorem k_fm_refuse_0 : decode me_fm_refuse.2.1 0 = .ok (.aload_n 0, 1) := by decide +kernel
theorem k_fm_refuse_1 : decode me_fm_refuse.2.1 1 = .ok (.getfield 9, 3) := by decide +kernel
theorem k_fm_refuse_4 : decode me_fm_refuse.2.1 4 = .ok (.iload_n 1, 1) := by decide +kernel
theorem k_fm_refuse_5 : decode me_fm_refuse.2.1 5 = .ok (.ineg, 1) := by decide +kernel
theorem k_fm_refuse_6 : decode me_fm_refuse.2.1 6 = .ok (.dup2, 1) := by decide +kernel
theorem k_fm_refuse_7 : decode me_fm_refuse.2.1 7 = .ok (.iaload, 1) := by decide +kernel
theorem k_fm_refuse_8 : decode me_fm_refuse.2.1 8 = .ok (.iconst 1, 1) := by decide +kernel
theorem k_fm_refuse_9 : decode me_fm_refuse.2.1 9 = .ok (.iadd, 1) := by decide +kernel
theorem k_fm_refuse_10 : decode me_fm_refuse.2.1 10 = .ok (.iastore, 1) := by decide +kernel
theorem k_fm_refuse_11 : decode me_fm_refuse.2.1 11 = .ok (.iload_n 1, 1) := by decide +kernel
theorem k_fm_refuse_12 : decode me_fm_refuse.2.1 12 = .ok (.ireturn, 1) := by decide +kernel
theorem k_fm_set_0 : decode me_fm_set.2.1 0 = .ok (.iload_n 1, 1) := by decide +kernel
theorem k_fm_set_1 : decode me_fm_set.2.1 1 = .ok (.aload_n 0, 1) := by decide +kernel
theorem k_fm_set_2 : decode me_fm_set.2.1 2 = .ok (.getfield 141, 3) := by decide +kernel
theorem k_fm_set_5 : decode me_fm_set.2.1 5 = .ok (.invokestatic 144, 3) := by decide +kernel
theorem k_fm_set_8 : decode me_fm_set.2.1 8 = .ok (.ifCond .ne 9, 3) := by decide +kernel
theorem k_fm_set_11 : decode me_fm_set.2.1 11 = .ok (.aload_n 0, 1) := by decide +kernel
theorem k_fm_set_12 : decode me_fm_set.2.1 12 = .ok (.iconst (-1), 1) := by decide +kernel
theorem k_fm_set_13 : decode me_fm_set.2.1 13 = .ok (.invokevirtual 133, 3) := by decide +kernel
theorem k_fm_set_16 : decode me_fm_set.2.1 16 = .ok (.ireturn, 1) := by decide +kernel
theorem k_fm_set_17 : decode me_fm_set.2.1 17 = .ok (.iload_n 2, 1) := by decide +kernel
theorem k_fm_set_18 : decode me_fm_set.2.1 18 = .ok (.iconst 2, 1) := by decide +kernel
theorem k_fm_set_19 : decode me_fm_set.2.1 19 = .ok (.invokestatic 144, 3) := by decide +kernel
theorem k_fm_set_22 : decode me_fm_set.2.1 22 = .ok (.ifCond .ne 10, 3) := by decide +kernel
theorem k_fm_set_25 : decode me_fm_set.2.1 25 = .ok (.aload_n 0, 1) := by decide +kernel
theorem k_fm_set_26 : decode me_fm_set.2.1 26 = .ok (.bipush (-2), 2) := by decide +kernel
theorem k_fm_set_28 : decode me_fm_set.2.1 28 = .ok (.invokevirtual 133, 3) := by decide +kernel
theorem k_fm_set_31 : decode me_fm_set.2.1 31 = .ok (.ireturn, 1) := by decide +kernel
theorem k_fm_set_32 : decode me_fm_set.2.1 32 = .ok (.iload_n 3, 1) := by decide +kernel
theorem k_fm_set_33 : decode me_fm_set.2.1 33 = .ok (.iconst 0, 1) := by decide +kernel
theorem k_fm_set_34 : decode me_fm_set.2.1 34 = .ok (.iload_n 2, 1) := by decide +kernel
theorem k_fm_set_35 : decode me_fm_set.2.1 35 = .ok (.ifCond .ne 9, 3) := by decide +kernel
theorem k_fm_set_38 : decode me_fm_set.2.1 38 = .ok (.sipush 500, 3) := by decide +kernel
theorem k_fm_set_41 : decode me_fm_set.2.1 41 = .ok (.goto 16, 3) := by decide +kernel
theorem k_fm_set_44 : decode me_fm_set.2.1 44 = .ok (.aload_n 0, 1) := by decide +kernel
theorem k_fm_set_45 : decode me_fm_set.2.1 45 = .ok (.getfield 20, 3) := by decide +kernel
theorem k_fm_set_48 : decode me_fm_set.2.1 48 = .ok (.iload_n 1, 1) := by decide +kernel
theorem k_fm_set_49 : decode me_fm_set.2.1 49 = .ok (.iaload, 1) := by decide +kernel
theorem k_fm_set_50 : decode me_fm_set.2.1 50 = .ok (.aload_n 0, 1) := by decide +kernel
theorem k_fm_set_51 : decode me_fm_set.2.1 51 = .ok (.getfield 23, 3) := by decide +kernel
theorem k_fm_set_54 : decode me_fm_set.2.1 54 = .ok (.iload_n 1, 1) := by decide +kernel
theorem k_fm_set_55 : decode me_fm_set.2.1 55 = .ok (.iaload, 1) := by decide +kernel
theorem k_fm_set_56 : decode me_fm_set.2.1 56 = .ok (.imul, 1) := by decide +kernel
theorem k_fm_set_57 : decode me_fm_set.2.1 57 = .ok (.invokestatic 148, 3) := by decide +kernel
theorem k_fm_set_60 : decode me_fm_set.2.1 60 = .ok (.istore 4, 2) := by decide +kernel
theorem k_fm_set_62 : decode me_fm_set.2.1 62 = .ok (.iload 4, 2) := by decide +kernel
theorem k_fm_set_64 : decode me_fm_set.2.1 64 = .ok (.ifCond .eq 10, 3) := by decide +kernel
theorem k_fm_set_67 : decode me_fm_set.2.1 67 = .ok (.aload_n 0, 1) := by decide +kernel
theorem k_fm_set_68 : decode me_fm_set.2.1 68 = .ok (.iload 4, 2) := by decide +kernel
theorem k_fm_set_70 : decode me_fm_set.2.1 70 = .ok (.invokevirtual 133, 3) := by decide +kernel
theorem k_fm_set_73 : decode me_fm_set.2.1 73 = .ok (.ireturn, 1) := by decide +kernel
theorem k_fm_set_74 : decode me_fm_set.2.1 74 = .ok (.iload_n 2, 1) := by decide +kernel
theorem k_fm_set_75 : decode me_fm_set.2.1 75 = .ok (.ifCond .ne 12, 3) := by decide +kernel
theorem k_fm_set_78 : decode me_fm_set.2.1 78 = .ok (.aload_n 0, 1) := by decide +kernel
theorem k_fm_set_79 : decode me_fm_set.2.1 79 = .ok (.getfield 26, 3) := by decide +kernel
theorem k_fm_set_82 : decode me_fm_set.2.1 82 = .ok (.iload_n 1, 1) := by decide +kernel
theorem k_fm_set_83 : decode me_fm_set.2.1 83 = .ok (.iaload, 1) := by decide +kernel
theorem k_fm_set_84 : decode me_fm_set.2.1 84 = .ok (.goto 9, 3) := by decide +kernel
theorem k_fm_set_87 : decode me_fm_set.2.1 87 = .ok (.aload_n 0, 1) := by decide +kernel
theorem k_fm_set_88 : decode me_fm_set.2.1 88 = .ok (.getfield 29, 3) := by decide +kernel
theorem k_fm_set_91 : decode me_fm_set.2.1 91 = .ok (.iload_n 1, 1) := by decide +kernel
theorem k_fm_set_92 : decode me_fm_set.2.1 92 = .ok (.iaload, 1) := by decide +kernel
theorem k_fm_set_93 : decode me_fm_set.2.1 93 = .ok (.istore 5, 2) := by decide +kernel
theorem k_fm_set_95 : decode me_fm_set.2.1 95 = .ok (.iload_n 2, 1) := by decide +kernel
theorem k_fm_set_96 : decode me_fm_set.2.1 96 = .ok (.ifCond .ne 13, 3) := by decide +kernel
theorem k_fm_set_99 : decode me_fm_set.2.1 99 = .ok (.aload_n 0, 1) := by decide +kernel
theorem k_fm_set_100 : decode me_fm_set.2.1 100 = .ok (.getfield 26, 3) := by decide +kernel
theorem k_fm_set_103 : decode me_fm_set.2.1 103 = .ok (.iload_n 1, 1) := by decide +kernel
theorem k_fm_set_104 : decode me_fm_set.2.1 104 = .ok (.iload_n 3, 1) := by decide +kernel
theorem k_fm_set_105 : decode me_fm_set.2.1 105 = .ok (.iastore, 1) := by decide +kernel
theorem k_fm_set_106 : decode me_fm_set.2.1 106 = .ok (.goto 10, 3) := by decide +kernel
theorem k_fm_set_109 : decode me_fm_set.2.1 109 = .ok (.aload_n 0, 1) := by decide +kernel
theorem k_fm_set_110 : decode me_fm_set.2.1 110 = .ok (.getfield 29, 3) := by decide +kernel
theorem k_fm_set_113 : decode me_fm_set.2.1 113 = .ok (.iload_n 1, 1) := by decide +kernel
theorem k_fm_set_114 : decode me_fm_set.2.1 114 = .ok (.iload_n 3, 1) := by decide +kernel
theorem k_fm_set_115 : decode me_fm_set.2.1 115 = .ok (.iastore, 1) := by decide +kernel
theorem k_fm_set_116 : decode me_fm_set.2.1 116 = .ok (.aload_n 0, 1) := by decide +kernel
theorem k_fm_set_117 : decode me_fm_set.2.1 117 = .ok (.invokevirtual 152, 3) := by decide +kernel
theorem k_fm_set_120 : decode me_fm_set.2.1 120 = .ok (.iload 5, 2) := by decide +kernel
theorem k_fm_set_122 : decode me_fm_set.2.1 122 = .ok (.ireturn, 1) := by decide +kernel
theorem k_fm_isIn_0 : decode me_fm_isIn.2.1 0 = .ok (.iload_n 0, 1) := by decide +kernel
theorem k_fm_isIn_1 : decode me_fm_isIn.2.1 1 = .ok (.ifCond .lt 12, 3) := by decide +kernel
theorem k_fm_isIn_4 : decode me_fm_isIn.2.1 4 = .ok (.iload_n 0, 1) := by decide +kernel
theorem k_fm_isIn_5 : decode me_fm_isIn.2.1 5 = .ok (.iload_n 1, 1) := by decide +kernel
theorem k_fm_isIn_6 : decode me_fm_isIn.2.1 6 = .ok (.if_icmp .ge 7, 3) := by decide +kernel
theorem k_fm_isIn_9 : decode me_fm_isIn.2.1 9 = .ok (.iconst 1, 1) := by decide +kernel
theorem k_fm_isIn_10 : decode me_fm_isIn.2.1 10 = .ok (.goto 4, 3) := by decide +kernel
theorem k_fm_isIn_13 : decode me_fm_isIn.2.1 13 = .ok (.iconst 0, 1) := by decide +kernel
theorem k_fm_isIn_14 : decode me_fm_isIn.2.1 14 = .ok (.ireturn, 1) := by decide +kernel
theorem k_fm_wrong_0 : decode me_fm_wrong.2.1 0 = .ok (.iload_n 0, 1) := by decide +kernel
theorem k_fm_wrong_1 : decode me_fm_wrong.2.1 1 = .ok (.iload_n 1, 1) := by decide +kernel
theorem k_fm_wrong_2 : decode me_fm_wrong.2.1 2 = .ok (.if_icmp .ge 8, 3) := by decide +kernel
theorem k_fm_wrong_5 : decode me_fm_wrong.2.1 5 = .ok (.bipush (-4), 2) := by decide +kernel
theorem k_fm_wrong_7 : decode me_fm_wrong.2.1 7 = .ok (.goto 14, 3) := by decide +kernel
theorem k_fm_wrong_10 : decode me_fm_wrong.2.1 10 = .ok (.iload_n 0, 1) := by decide +kernel
theorem k_fm_wrong_11 : decode me_fm_wrong.2.1 11 = .ok (.iload_n 2, 1) := by decide +kernel
theorem k_fm_wrong_12 : decode me_fm_wrong.2.1 12 = .ok (.if_icmp .le 8, 3) := by decide +kernel
theorem k_fm_wrong_15 : decode me_fm_wrong.2.1 15 = .ok (.bipush (-6), 2) := by decide +kernel
theorem k_fm_wrong_17 : decode me_fm_wrong.2.1 17 = .ok (.goto 4, 3) := by decide +kernel
theorem k_fm_wrong_20 : decode me_fm_wrong.2.1 20 = .ok (.iconst 0, 1) := by decide +kernel
theorem k_fm_wrong_21 : decode me_fm_wrong.2.1 21 = .ok (.ireturn, 1) := by decide +kernel
theorem k_fm_changes_0 : decode me_fm_changes.2.1 0 = .ok (.aload_n 0, 1) := by decide +kernel
theorem k_fm_changes_1 : decode me_fm_changes.2.1 1 = .ok (.iconst 0, 1) := by decide +kernel
theorem k_fm_changes_2 : decode me_fm_changes.2.1 2 = .ok (.putfield 137, 3) := by decide +kernel
theorem k_fm_changes_5 : decode me_fm_changes.2.1 5 = .ok (.return_, 1) := by decide +kernel
theorem k_fm_joint_0 : decode me_fm_joint.2.1 0 = .ok (.iload_n 2, 1) := by decide +kernel
theorem k_fm_joint_1 : decode me_fm_joint.2.1 1 = .ok (.iload_n 1, 1) := by decide +kernel
theorem k_fm_joint_2 : decode me_fm_joint.2.1 2 = .ok (.ifCond .eq 10, 3) := by decide +kernel
theorem k_fm_joint_5 : decode me_fm_joint.2.1 5 = .ok (.aload_n 0, 1) := by decide +kernel
theorem k_fm_joint_6 : decode me_fm_joint.2.1 6 = .ok (.getfield 141, 3) := by decide +kernel
theorem k_fm_joint_9 : decode me_fm_joint.2.1 9 = .ok (.goto 7, 3) := by decide +kernel
theorem k_fm_joint_12 : decode me_fm_joint.2.1 12 = .ok (.aload_n 0, 1) := by decide +kernel
theorem k_fm_joint_13 : decode me_fm_joint.2.1 13 = .ok (.getfield 155, 3) := by decide +kernel
theorem k_fm_joint_16 : decode me_fm_joint.2.1 16 = .ok (.invokestatic 144, 3) := by decide +kernel
theorem k_fm_joint_19 : decode me_fm_joint.2.1 19 = .ok (.ifCond .ne 9, 3) := by decide +kernel
theorem k_fm_joint_22 : decode me_fm_joint.2.1 22 = .ok (.aload_n 0, 1) := by decide +kernel
theorem k_fm_joint_23 : decode me_fm_joint.2.1 23 = .ok (.iconst (-1), 1) := by decide +kernel
theorem k_fm_joint_24 : decode me_fm_joint.2.1 24 = .ok (.invokevirtual 133, 3) := by decide +kernel
theorem k_fm_joint_27 : decode me_fm_joint.2.1 27 = .ok (.ireturn, 1) := by decide +kernel
theorem k_fm_joint_28 : decode me_fm_joint.2.1 28 = .ok (.iload_n 3, 1) := by decide +kernel
theorem k_fm_joint_29 : decode me_fm_joint.2.1 29 = .ok (.ifCond .lt 15, 3) := by decide +kernel
theorem k_fm_joint_32 : decode me_fm_joint.2.1 32 = .ok (.iload 4, 2) := by decide +kernel
