/-! printed by my own program: decode rows -/
theorem k_fm_joint_34 : decode me_fm_joint.2.1 34 = .ok (.iconst 1, 1) := by decide +kernel
theorem k_fm_joint_35 : decode me_fm_joint.2.1 35 = .ok (.if_icmp .lt 9, 3) := by decide +kernel
theorem k_fm_joint_38 : decode me_fm_joint.2.1 38 = .ok (.iload 5, 2) := by decide +kernel
theorem k_fm_joint_40 : decode me_fm_joint.2.1 40 = .ok (.iconst 1, 1) := by decide +kernel
theorem k_fm_joint_41 : decode me_fm_joint.2.1 41 = .ok (.if_icmp .ge 10, 3) := by decide +kernel
theorem k_fm_joint_44 : decode me_fm_joint.2.1 44 = .ok (.aload_n 0, 1) := by decide +kernel
theorem k_fm_joint_45 : decode me_fm_joint.2.1 45 = .ok (.bipush (-4), 2) := by decide +kernel
theorem k_fm_joint_47 : decode me_fm_joint.2.1 47 = .ok (.invokevirtual 133, 3) := by decide +kernel
theorem k_fm_joint_50 : decode me_fm_joint.2.1 50 = .ok (.ireturn, 1) := by decide +kernel
theorem k_fm_joint_51 : decode me_fm_joint.2.1 51 = .ok (.iload_n 3, 1) := by decide +kernel
theorem k_fm_joint_52 : decode me_fm_joint.2.1 52 = .ok (.sipush 500, 3) := by decide +kernel
theorem k_fm_joint_55 : decode me_fm_joint.2.1 55 = .ok (.if_icmp .gt 27, 3) := by decide +kernel
theorem k_fm_joint_58 : decode me_fm_joint.2.1 58 = .ok (.iload 4, 2) := by decide +kernel
theorem k_fm_joint_60 : decode me_fm_joint.2.1 60 = .ok (.bipush 9, 2) := by decide +kernel
theorem k_fm_joint_62 : decode me_fm_joint.2.1 62 = .ok (.if_icmp .gt 20, 3) := by decide +kernel
theorem k_fm_joint_65 : decode me_fm_joint.2.1 65 = .ok (.iload 5, 2) := by decide +kernel
theorem k_fm_joint_67 : decode me_fm_joint.2.1 67 = .ok (.sipush 200, 3) := by decide +kernel
theorem k_fm_joint_70 : decode me_fm_joint.2.1 70 = .ok (.if_icmp .gt 12, 3) := by decide +kernel
theorem k_fm_joint_73 : decode me_fm_joint.2.1 73 = .ok (.aload_n 0, 1) := by decide +kernel
theorem k_fm_joint_74 : decode me_fm_joint.2.1 74 = .ok (.getfield 155, 3) := by decide +kernel
theorem k_fm_joint_77 : decode me_fm_joint.2.1 77 = .ok (.bipush 30, 2) := by decide +kernel
theorem k_fm_joint_79 : decode me_fm_joint.2.1 79 = .ok (.if_icmp .ne 10, 3) := by decide +kernel
theorem k_fm_joint_82 : decode me_fm_joint.2.1 82 = .ok (.aload_n 0, 1) := by decide +kernel
theorem k_fm_joint_83 : decode me_fm_joint.2.1 83 = .ok (.bipush (-6), 2) := by decide +kernel
theorem k_fm_joint_85 : decode me_fm_joint.2.1 85 = .ok (.invokevirtual 133, 3) := by decide +kernel
theorem k_fm_joint_88 : decode me_fm_joint.2.1 88 = .ok (.ireturn, 1) := by decide +kernel
theorem k_fm_joint_89 : decode me_fm_joint.2.1 89 = .ok (.iload_n 1, 1) := by decide +kernel
theorem k_fm_joint_90 : decode me_fm_joint.2.1 90 = .ok (.ifCond .ne 19, 3) := by decide +kernel
theorem k_fm_joint_93 : decode me_fm_joint.2.1 93 = .ok (.aload_n 0, 1) := by decide +kernel
theorem k_fm_joint_94 : decode me_fm_joint.2.1 94 = .ok (.getfield 59, 3) := by decide +kernel
theorem k_fm_joint_97 : decode me_fm_joint.2.1 97 = .ok (.iload_n 2, 1) := by decide +kernel
theorem k_fm_joint_98 : decode me_fm_joint.2.1 98 = .ok (.baload, 1) := by decide +kernel
theorem k_fm_joint_99 : decode me_fm_joint.2.1 99 = .ok (.ifCond .eq 10, 3) := by decide +kernel
theorem k_fm_joint_102 : decode me_fm_joint.2.1 102 = .ok (.aload_n 0, 1) := by decide +kernel
theorem k_fm_joint_103 : decode me_fm_joint.2.1 103 = .ok (.bipush (-3), 2) := by decide +kernel
theorem k_fm_joint_105 : decode me_fm_joint.2.1 105 = .ok (.invokevirtual 133, 3) := by decide +kernel
theorem k_fm_joint_108 : decode me_fm_joint.2.1 108 = .ok (.ireturn, 1) := by decide +kernel
theorem k_fm_joint_109 : decode me_fm_joint.2.1 109 = .ok (.aload_n 0, 1) := by decide +kernel
theorem k_fm_joint_110 : decode me_fm_joint.2.1 110 = .ok (.getfield 38, 3) := by decide +kernel
theorem k_fm_joint_113 : decode me_fm_joint.2.1 113 = .ok (.aload_n 0, 1) := by decide +kernel
theorem k_fm_joint_114 : decode me_fm_joint.2.1 114 = .ok (.getfield 155, 3) := by decide +kernel
theorem k_fm_joint_117 : decode me_fm_joint.2.1 117 = .ok (.iload_n 1, 1) := by decide +kernel
theorem k_fm_joint_118 : decode me_fm_joint.2.1 118 = .ok (.ifCond .eq 8, 3) := by decide +kernel
theorem k_fm_joint_121 : decode me_fm_joint.2.1 121 = .ok (.bipush (-9), 2) := by decide +kernel
theorem k_fm_joint_123 : decode me_fm_joint.2.1 123 = .ok (.goto 4, 3) := by decide +kernel
theorem k_fm_joint_126 : decode me_fm_joint.2.1 126 = .ok (.iload_n 2, 1) := by decide +kernel
theorem k_fm_joint_127 : decode me_fm_joint.2.1 127 = .ok (.iastore, 1) := by decide +kernel
theorem k_fm_joint_128 : decode me_fm_joint.2.1 128 = .ok (.aload_n 0, 1) := by decide +kernel
theorem k_fm_joint_129 : decode me_fm_joint.2.1 129 = .ok (.getfield 41, 3) := by decide +kernel
theorem k_fm_joint_132 : decode me_fm_joint.2.1 132 = .ok (.aload_n 0, 1) := by decide +kernel
theorem k_fm_joint_133 : decode me_fm_joint.2.1 133 = .ok (.getfield 155, 3) := by decide +kernel
theorem k_fm_joint_136 : decode me_fm_joint.2.1 136 = .ok (.iload_n 1, 1) := by decide +kernel
theorem k_fm_joint_137 : decode me_fm_joint.2.1 137 = .ok (.ifCond .eq 7, 3) := by decide +kernel
theorem k_fm_joint_140 : decode me_fm_joint.2.1 140 = .ok (.iload_n 2, 1) := by decide +kernel
theorem k_fm_joint_141 : decode me_fm_joint.2.1 141 = .ok (.goto 9, 3) := by decide +kernel
theorem k_fm_joint_144 : decode me_fm_joint.2.1 144 = .ok (.aload_n 0, 1) := by decide +kernel
theorem k_fm_joint_145 : decode me_fm_joint.2.1 145 = .ok (.getfield 41, 3) := by decide +kernel
theorem k_fm_joint_148 : decode me_fm_joint.2.1 148 = .ok (.iload_n 2, 1) := by decide +kernel
theorem k_fm_joint_149 : decode me_fm_joint.2.1 149 = .ok (.iaload, 1) := by decide +kernel
theorem k_fm_joint_150 : decode me_fm_joint.2.1 150 = .ok (.iastore, 1) := by decide +kernel
theorem k_fm_joint_151 : decode me_fm_joint.2.1 151 = .ok (.aload_n 0, 1) := by decide +kernel
theorem k_fm_joint_152 : decode me_fm_joint.2.1 152 = .ok (.getfield 44, 3) := by decide +kernel
theorem k_fm_joint_155 : decode me_fm_joint.2.1 155 = .ok (.aload_n 0, 1) := by decide +kernel
theorem k_fm_joint_156 : decode me_fm_joint.2.1 156 = .ok (.getfield 155, 3) := by decide +kernel
theorem k_fm_joint_159 : decode me_fm_joint.2.1 159 = .ok (.iload_n 3, 1) := by decide +kernel
theorem k_fm_joint_160 : decode me_fm_joint.2.1 160 = .ok (.iastore, 1) := by decide +kernel
theorem k_fm_joint_161 : decode me_fm_joint.2.1 161 = .ok (.aload_n 0, 1) := by decide +kernel
theorem k_fm_joint_162 : decode me_fm_joint.2.1 162 = .ok (.getfield 47, 3) := by decide +kernel
theorem k_fm_joint_165 : decode me_fm_joint.2.1 165 = .ok (.aload_n 0, 1) := by decide +kernel
theorem k_fm_joint_166 : decode me_fm_joint.2.1 166 = .ok (.getfield 155, 3) := by decide +kernel
theorem k_fm_joint_169 : decode me_fm_joint.2.1 169 = .ok (.iload 4, 2) := by decide +kernel
theorem k_fm_joint_171 : decode me_fm_joint.2.1 171 = .ok (.iastore, 1) := by decide +kernel
theorem k_fm_joint_172 : decode me_fm_joint.2.1 172 = .ok (.aload_n 0, 1) := by decide +kernel
theorem k_fm_joint_173 : decode me_fm_joint.2.1 173 = .ok (.getfield 50, 3) := by decide +kernel
theorem k_fm_joint_176 : decode me_fm_joint.2.1 176 = .ok (.aload_n 0, 1) := by decide +kernel
theorem k_fm_joint_177 : decode me_fm_joint.2.1 177 = .ok (.getfield 155, 3) := by decide +kernel
theorem k_fm_joint_180 : decode me_fm_joint.2.1 180 = .ok (.iload 5, 2) := by decide +kernel
theorem k_fm_joint_182 : decode me_fm_joint.2.1 182 = .ok (.iastore, 1) := by decide +kernel
theorem k_fm_joint_183 : decode me_fm_joint.2.1 183 = .ok (.aload_n 0, 1) := by decide +kernel
theorem k_fm_joint_184 : decode me_fm_joint.2.1 184 = .ok (.getfield 56, 3) := by decide +kernel
theorem k_fm_joint_187 : decode me_fm_joint.2.1 187 = .ok (.aload_n 0, 1) := by decide +kernel
theorem k_fm_joint_188 : decode me_fm_joint.2.1 188 = .ok (.getfield 155, 3) := by decide +kernel
theorem k_fm_joint_191 : decode me_fm_joint.2.1 191 = .ok (.bipush (-9), 2) := by decide +kernel
theorem k_fm_joint_193 : decode me_fm_joint.2.1 193 = .ok (.iastore, 1) := by decide +kernel
theorem k_fm_joint_194 : decode me_fm_joint.2.1 194 = .ok (.aload_n 0, 1) := by decide +kernel
theorem k_fm_joint_195 : decode me_fm_joint.2.1 195 = .ok (.dup, 1) := by decide +kernel
theorem k_fm_joint_196 : decode me_fm_joint.2.1 196 = .ok (.getfield 155, 3) := by decide +kernel
theorem k_fm_joint_199 : decode me_fm_joint.2.1 199 = .ok (.iconst 1, 1) := by decide +kernel
theorem k_fm_joint_200 : decode me_fm_joint.2.1 200 = .ok (.iadd, 1) := by decide +kernel
theorem k_fm_joint_201 : decode me_fm_joint.2.1 201 = .ok (.putfield 155, 3) := by decide +kernel
theorem k_fm_joint_204 : decode me_fm_joint.2.1 204 = .ok (.aload_n 0, 1) := by decide +kernel
theorem k_fm_joint_205 : decode me_fm_joint.2.1 205 = .ok (.invokevirtual 152, 3) := by decide +kernel
theorem k_fm_joint_208 : decode me_fm_joint.2.1 208 = .ok (.aload_n 0, 1) := by decide +kernel
theorem k_fm_joint_209 : decode me_fm_joint.2.1 209 = .ok (.getfield 155, 3) := by decide +kernel
theorem k_fm_joint_212 : decode me_fm_joint.2.1 212 = .ok (.iconst 1, 1) := by decide +kernel
theorem k_fm_joint_213 : decode me_fm_joint.2.1 213 = .ok (.isub, 1) := by decide +kernel
theorem k_fm_joint_214 : decode me_fm_joint.2.1 214 = .ok (.ireturn, 1) := by decide +kernel
theorem k_fm_jet_0 : decode me_fm_jet.2.1 0 = .ok (.aload_n 0, 1) := by decide +kernel
theorem k_fm_jet_1 : decode me_fm_jet.2.1 1 = .ok (.iload_n 1, 1) := by decide +kernel
theorem k_fm_jet_2 : decode me_fm_jet.2.1 2 = .ok (.invokevirtual 161, 3) := by decide +kernel
theorem k_fm_jet_5 : decode me_fm_jet.2.1 5 = .ok (.ifCond .ne 9, 3) := by decide +kernel
theorem k_fm_jet_8 : decode me_fm_jet.2.1 8 = .ok (.aload_n 0, 1) := by decide +kernel
theorem k_fm_jet_9 : decode me_fm_jet.2.1 9 = .ok (.iconst (-1), 1) := by decide +kernel
theorem k_fm_jet_10 : decode me_fm_jet.2.1 10 = .ok (.invokevirtual 133, 3) := by decide +kernel
theorem k_fm_jet_13 : decode me_fm_jet.2.1 13 = .ok (.ireturn, 1) := by decide +kernel
theorem k_fm_jet_14 : decode me_fm_jet.2.1 14 = .ok (.aload_n 0, 1) := by decide +kernel
theorem k_fm_jet_15 : decode me_fm_jet.2.1 15 = .ok (.getfield 56, 3) := by decide +kernel
theorem k_fm_jet_18 : decode me_fm_jet.2.1 18 = .ok (.iload_n 1, 1) := by decide +kernel
theorem k_fm_jet_19 : decode me_fm_jet.2.1 19 = .ok (.iaload, 1) := by decide +kernel
theorem k_fm_jet_20 : decode me_fm_jet.2.1 20 = .ok (.ifCond .lt 10, 3) := by decide +kernel
theorem k_fm_jet_23 : decode me_fm_jet.2.1 23 = .ok (.aload_n 0, 1) := by decide +kernel
theorem k_fm_jet_24 : decode me_fm_jet.2.1 24 = .ok (.bipush (-3), 2) := by decide +kernel
theorem k_fm_jet_26 : decode me_fm_jet.2.1 26 = .ok (.invokevirtual 133, 3) := by decide +kernel
theorem k_fm_jet_29 : decode me_fm_jet.2.1 29 = .ok (.ireturn, 1) := by decide +kernel
theorem k_fm_jet_30 : decode me_fm_jet.2.1 30 = .ok (.iload_n 2, 1) := by decide +kernel
theorem k_fm_jet_31 : decode me_fm_jet.2.1 31 = .ok (.iconst 1, 1) := by decide +kernel
theorem k_fm_jet_32 : decode me_fm_jet.2.1 32 = .ok (.if_icmp .ge 10, 3) := by decide +kernel
theorem k_fm_jet_35 : decode me_fm_jet.2.1 35 = .ok (.aload_n 0, 1) := by decide +kernel
theorem k_fm_jet_36 : decode me_fm_jet.2.1 36 = .ok (.bipush (-4), 2) := by decide +kernel
theorem k_fm_jet_38 : decode me_fm_jet.2.1 38 = .ok (.invokevirtual 133, 3) := by decide +kernel
theorem k_fm_jet_41 : decode me_fm_jet.2.1 41 = .ok (.ireturn, 1) := by decide +kernel
theorem k_fm_jet_42 : decode me_fm_jet.2.1 42 = .ok (.iload_n 2, 1) := by decide +kernel
theorem k_fm_jet_43 : decode me_fm_jet.2.1 43 = .ok (.bipush 60, 2) := by decide +kernel
theorem k_fm_jet_45 : decode me_fm_jet.2.1 45 = .ok (.if_icmp .gt 12, 3) := by decide +kernel
theorem k_fm_jet_48 : decode me_fm_jet.2.1 48 = .ok (.aload_n 0, 1) := by decide +kernel
theorem k_fm_jet_49 : decode me_fm_jet.2.1 49 = .ok (.getfield 158, 3) := by decide +kernel
theorem k_fm_jet_52 : decode me_fm_jet.2.1 52 = .ok (.bipush 24, 2) := by decide +kernel
theorem k_fm_jet_54 : decode me_fm_jet.2.1 54 = .ok (.if_icmp .ne 10, 3) := by decide +kernel
theorem k_fm_jet_57 : decode me_fm_jet.2.1 57 = .ok (.aload_n 0, 1) := by decide +kernel
theorem k_fm_jet_58 : decode me_fm_jet.2.1 58 = .ok (.bipush (-6), 2) := by decide +kernel
theorem k_fm_jet_60 : decode me_fm_jet.2.1 60 = .ok (.invokevirtual 133, 3) := by decide +kernel
theorem k_fm_jet_63 : decode me_fm_jet.2.1 63 = .ok (.ireturn, 1) := by decide +kernel
theorem k_fm_jet_64 : decode me_fm_jet.2.1 64 = .ok (.aload_n 0, 1) := by decide +kernel
theorem k_fm_jet_65 : decode me_fm_jet.2.1 65 = .ok (.getfield 63, 3) := by decide +kernel
theorem k_fm_jet_68 : decode me_fm_jet.2.1 68 = .ok (.aload_n 0, 1) := by decide +kernel
theorem k_fm_jet_69 : decode me_fm_jet.2.1 69 = .ok (.getfield 158, 3) := by decide +kernel
theorem k_fm_jet_72 : decode me_fm_jet.2.1 72 = .ok (.iload_n 1, 1) := by decide +kernel
theorem k_fm_jet_73 : decode me_fm_jet.2.1 73 = .ok (.iastore, 1) := by decide +kernel
theorem k_fm_jet_74 : decode me_fm_jet.2.1 74 = .ok (.aload_n 0, 1) := by decide +kernel
theorem k_fm_jet_75 : decode me_fm_jet.2.1 75 = .ok (.getfield 66, 3) := by decide +kernel
theorem k_fm_jet_78 : decode me_fm_jet.2.1 78 = .ok (.aload_n 0, 1) := by decide +kernel
theorem k_fm_jet_79 : decode me_fm_jet.2.1 79 = .ok (.getfield 158, 3) := by decide +kernel
theorem k_fm_jet_82 : decode me_fm_jet.2.1 82 = .ok (.iload_n 2, 1) := by decide +kernel
theorem k_fm_jet_83 : decode me_fm_jet.2.1 83 = .ok (.iastore, 1) := by decide +kernel
theorem k_fm_jet_84 : decode me_fm_jet.2.1 84 = .ok (.aload_n 0, 1) := by decide +kernel
theorem k_fm_jet_85 : decode me_fm_jet.2.1 85 = .ok (.getfield 69, 3) := by decide +kernel
theorem k_fm_jet_88 : decode me_fm_jet.2.1 88 = .ok (.aload_n 0, 1) := by decide +kernel
theorem k_fm_jet_89 : decode me_fm_jet.2.1 89 = .ok (.getfield 158, 3) := by decide +kernel
theorem k_fm_jet_92 : decode me_fm_jet.2.1 92 = .ok (.iconst (-1), 1) := by decide +kernel
theorem k_fm_jet_93 : decode me_fm_jet.2.1 93 = .ok (.iastore, 1) := by decide +kernel
theorem k_fm_jet_94 : decode me_fm_jet.2.1 94 = .ok (.aload_n 0, 1) := by decide +kernel
theorem k_fm_jet_95 : decode me_fm_jet.2.1 95 = .ok (.getfield 56, 3) := by decide +kernel
theorem k_fm_jet_98 : decode me_fm_jet.2.1 98 = .ok (.iload_n 1, 1) := by decide +kernel
theorem k_fm_jet_99 : decode me_fm_jet.2.1 99 = .ok (.aload_n 0, 1) := by decide +kernel
theorem k_fm_jet_100 : decode me_fm_jet.2.1 100 = .ok (.getfield 158, 3) := by decide +kernel
theorem k_fm_jet_103 : decode me_fm_jet.2.1 103 = .ok (.iastore, 1) := by decide +kernel
theorem k_fm_jet_104 : decode me_fm_jet.2.1 104 = .ok (.aload_n 0, 1) := by decide +kernel
theorem k_fm_jet_105 : decode me_fm_jet.2.1 105 = .ok (.dup, 1) := by decide +kernel
theorem k_fm_jet_106 : decode me_fm_jet.2.1 106 = .ok (.getfield 158, 3) := by decide +kernel
theorem k_fm_jet_109 : decode me_fm_jet.2.1 109 = .ok (.iconst 1, 1) := by decide +kernel
theorem k_fm_jet_110 : decode me_fm_jet.2.1 110 = .ok (.iadd, 1) := by decide +kernel
theorem k_fm_jet_111 : decode me_fm_jet.2.1 111 = .ok (.putfield 158, 3) := by decide +kernel
theorem k_fm_jet_114 : decode me_fm_jet.2.1 114 = .ok (.aload_n 0, 1) := by decide +kernel
theorem k_fm_jet_115 : decode me_fm_jet.2.1 115 = .ok (.getfield 158, 3) := by decide +kernel
theorem k_fm_jet_118 : decode me_fm_jet.2.1 118 = .ok (.iconst 1, 1) := by decide +kernel
theorem k_fm_jet_119 : decode me_fm_jet.2.1 119 = .ok (.isub, 1) := by decide +kernel
theorem k_fm_jet_120 : decode me_fm_jet.2.1 120 = .ok (.ireturn, 1) := by decide +kernel
theorem k_fm_isJoint_0 : decode me_fm_isJoint.2.1 0 = .ok (.iload_n 1, 1) := by decide +kernel
theorem k_fm_isJoint_1 : decode me_fm_isJoint.2.1 1 = .ok (.aload_n 0, 1) := by decide +kernel
theorem k_fm_isJoint_2 : decode me_fm_isJoint.2.1 2 = .ok (.getfield 155, 3) := by decide +kernel
theorem k_fm_isJoint_5 : decode me_fm_isJoint.2.1 5 = .ok (.invokestatic 144, 3) := by decide +kernel
theorem k_fm_isJoint_8 : decode me_fm_isJoint.2.1 8 = .ok (.ireturn, 1) := by decide +kernel
theorem k_fm_play_0 : decode me_fm_play.2.1 0 = .ok (.aload_n 0, 1) := by decide +kernel
theorem k_fm_play_1 : decode me_fm_play.2.1 1 = .ok (.iload_n 1, 1) := by decide +kernel
theorem k_fm_play_2 : decode me_fm_play.2.1 2 = .ok (.invokevirtual 165, 3) := by decide +kernel
theorem k_fm_play_5 : decode me_fm_play.2.1 5 = .ok (.ifCond .ne 9, 3) := by decide +kernel
theorem k_fm_play_8 : decode me_fm_play.2.1 8 = .ok (.aload_n 0, 1) := by decide +kernel
theorem k_fm_play_9 : decode me_fm_play.2.1 9 = .ok (.iconst (-1), 1) := by decide +kernel
theorem k_fm_play_10 : decode me_fm_play.2.1 10 = .ok (.invokevirtual 133, 3) := by decide +kernel
theorem k_fm_play_13 : decode me_fm_play.2.1 13 = .ok (.ireturn, 1) := by decide +kernel
theorem k_fm_play_14 : decode me_fm_play.2.1 14 = .ok (.iload_n 2, 1) := by decide +kernel
theorem k_fm_play_15 : decode me_fm_play.2.1 15 = .ok (.ifCond .eq 23, 3) := by decide +kernel
theorem k_fm_play_18 : decode me_fm_play.2.1 18 = .ok (.aload_n 0, 1) := by decide +kernel
theorem k_fm_play_19 : decode me_fm_play.2.1 19 = .ok (.aload_n 0, 1) := by decide +kernel
theorem k_fm_play_20 : decode me_fm_play.2.1 20 = .ok (.getfield 63, 3) := by decide +kernel
theorem k_fm_play_23 : decode me_fm_play.2.1 23 = .ok (.iload_n 1, 1) := by decide +kernel
theorem k_fm_play_24 : decode me_fm_play.2.1 24 = .ok (.iaload, 1) := by decide +kernel
theorem k_fm_play_25 : decode me_fm_play.2.1 25 = .ok (.invokevirtual 168, 3) := by decide +kernel
theorem k_fm_play_28 : decode me_fm_play.2.1 28 = .ok (.ifCond .eq 10, 3) := by decide +kernel
theorem k_fm_play_31 : decode me_fm_play.2.1 31 = .ok (.aload_n 0, 1) := by decide +kernel
theorem k_fm_play_32 : decode me_fm_play.2.1 32 = .ok (.bipush (-3), 2) := by decide +kernel
theorem k_fm_play_34 : decode me_fm_play.2.1 34 = .ok (.invokevirtual 133, 3) := by decide +kernel
theorem k_fm_play_37 : decode me_fm_play.2.1 37 = .ok (.ireturn, 1) := by decide +kernel
theorem k_fm_play_38 : decode me_fm_play.2.1 38 = .ok (.aload_n 0, 1) := by decide +kernel
theorem k_fm_play_39 : decode me_fm_play.2.1 39 = .ok (.getfield 72, 3) := by decide +kernel
theorem k_fm_play_42 : decode me_fm_play.2.1 42 = .ok (.iload_n 1, 1) := by decide +kernel
theorem k_fm_play_43 : decode me_fm_play.2.1 43 = .ok (.baload, 1) := by decide +kernel
theorem k_fm_play_44 : decode me_fm_play.2.1 44 = .ok (.iload_n 2, 1) := by decide +kernel
theorem k_fm_play_45 : decode me_fm_play.2.1 45 = .ok (.if_icmp .ne 5, 3) := by decide +kernel
theorem k_fm_play_48 : decode me_fm_play.2.1 48 = .ok (.iconst 0, 1) := by decide +kernel
theorem k_fm_play_49 : decode me_fm_play.2.1 49 = .ok (.ireturn, 1) := by decide +kernel
theorem k_fm_play_50 : decode me_fm_play.2.1 50 = .ok (.aload_n 0, 1) := by decide +kernel
theorem k_fm_play_51 : decode me_fm_play.2.1 51 = .ok (.getfield 72, 3) := by decide +kernel
theorem k_fm_play_54 : decode me_fm_play.2.1 54 = .ok (.iload_n 1, 1) := by decide +kernel
theorem k_fm_play_55 : decode me_fm_play.2.1 55 = .ok (.iload_n 2, 1) := by decide +kernel
theorem k_fm_play_56 : decode me_fm_play.2.1 56 = .ok (.bastore, 1) := by decide +kernel
theorem k_fm_play_57 : decode me_fm_play.2.1 57 = .ok (.aload_n 0, 1) := by decide +kernel
theorem k_fm_play_58 : decode me_fm_play.2.1 58 = .ok (.invokevirtual 152, 3) := by decide +kernel
theorem k_fm_play_61 : decode me_fm_play.2.1 61 = .ok (.iconst 1, 1) := by decide +kernel
theorem k_fm_play_62 : decode me_fm_play.2.1 62 = .ok (.ireturn, 1) := by decide +kernel
theorem k_fm_isJet_0 : decode me_fm_isJet.2.1 0 = .ok (.iload_n 1, 1) := by decide +kernel
theorem k_fm_isJet_1 : decode me_fm_isJet.2.1 1 = .ok (.aload_n 0, 1) := by decide +kernel
theorem k_fm_isJet_2 : decode me_fm_isJet.2.1 2 = .ok (.getfield 158, 3) := by decide +kernel
theorem k_fm_isJet_5 : decode me_fm_isJet.2.1 5 = .ok (.invokestatic 144, 3) := by decide +kernel
theorem k_fm_isJet_8 : decode me_fm_isJet.2.1 8 = .ok (.ireturn, 1) := by decide +kernel
theorem k_fm_isCut_0 : decode me_fm_isCut.2.1 0 = .ok (.iconst 0, 1) := by decide +kernel
theorem k_fm_isCut_1 : decode me_fm_isCut.2.1 1 = .ok (.istore_n 2, 1) := by decide +kernel
theorem k_fm_isCut_2 : decode me_fm_isCut.2.1 2 = .ok (.iload_n 1, 1) := by decide +kernel
theorem k_fm_isCut_3 : decode me_fm_isCut.2.1 3 = .ok (.istore_n 3, 1) := by decide +kernel
theorem k_fm_isCut_4 : decode me_fm_isCut.2.1 4 = .ok (.iload_n 3, 1) := by decide +kernel
theorem k_fm_isCut_5 : decode me_fm_isCut.2.1 5 = .ok (.ifCond .lt 32, 3) := by decide +kernel
theorem k_fm_isCut_8 : decode me_fm_isCut.2.1 8 = .ok (.iload_n 2, 1) := by decide +kernel
theorem k_fm_isCut_9 : decode me_fm_isCut.2.1 9 = .ok (.ifCond .ne 12, 3) := by decide +kernel
theorem k_fm_isCut_12 : decode me_fm_isCut.2.1 12 = .ok (.aload_n 0, 1) := by decide +kernel
theorem k_fm_isCut_13 : decode me_fm_isCut.2.1 13 = .ok (.getfield 59, 3) := by decide +kernel
theorem k_fm_isCut_16 : decode me_fm_isCut.2.1 16 = .ok (.iload_n 3, 1) := by decide +kernel
theorem k_fm_isCut_17 : decode me_fm_isCut.2.1 17 = .ok (.baload, 1) := by decide +kernel
theorem k_fm_isCut_18 : decode me_fm_isCut.2.1 18 = .ok (.ifCond .eq 7, 3) := by decide +kernel
theorem k_fm_isCut_21 : decode me_fm_isCut.2.1 21 = .ok (.iconst 1, 1) := by decide +kernel
theorem k_fm_isCut_22 : decode me_fm_isCut.2.1 22 = .ok (.goto 4, 3) := by decide +kernel
theorem k_fm_isCut_25 : decode me_fm_isCut.2.1 25 = .ok (.iconst 0, 1) := by decide +kernel
theorem k_fm_isCut_26 : decode me_fm_isCut.2.1 26 = .ok (.istore_n 2, 1) := by decide +kernel
theorem k_fm_isCut_27 : decode me_fm_isCut.2.1 27 = .ok (.aload_n 0, 1) := by decide +kernel
theorem k_fm_isCut_28 : decode me_fm_isCut.2.1 28 = .ok (.getfield 38, 3) := by decide +kernel
theorem k_fm_isCut_31 : decode me_fm_isCut.2.1 31 = .ok (.iload_n 3, 1) := by decide +kernel
theorem k_fm_isCut_32 : decode me_fm_isCut.2.1 32 = .ok (.iaload, 1) := by decide +kernel
theorem k_fm_isCut_33 : decode me_fm_isCut.2.1 33 = .ok (.istore_n 3, 1) := by decide +kernel
theorem k_fm_isCut_34 : decode me_fm_isCut.2.1 34 = .ok (.goto (-30), 3) := by decide +kernel
theorem k_fm_isCut_37 : decode me_fm_isCut.2.1 37 = .ok (.iload_n 2, 1) := by decide +kernel
theorem k_fm_isCut_38 : decode me_fm_isCut.2.1 38 = .ok (.ireturn, 1) := by decide +kernel
theorem k_fm_pipe_0 : decode me_fm_pipe.2.1 0 = .ok (.aload_n 0, 1) := by decide +kernel
theorem k_fm_pipe_1 : decode me_fm_pipe.2.1 1 = .ok (.iload_n 1, 1) := by decide +kernel
theorem k_fm_pipe_2 : decode me_fm_pipe.2.1 2 = .ok (.invokevirtual 161, 3) := by decide +kernel
theorem k_fm_pipe_5 : decode me_fm_pipe.2.1 5 = .ok (.ifCond .eq 13, 3) := by decide +kernel
theorem k_fm_pipe_8 : decode me_fm_pipe.2.1 8 = .ok (.iload_n 2, 1) := by decide +kernel
theorem k_fm_pipe_9 : decode me_fm_pipe.2.1 9 = .ok (.iconst 1, 1) := by decide +kernel
theorem k_fm_pipe_10 : decode me_fm_pipe.2.1 10 = .ok (.bipush 9, 2) := by decide +kernel
theorem k_fm_pipe_12 : decode me_fm_pipe.2.1 12 = .ok (.invokestatic 148, 3) := by decide +kernel
theorem k_fm_pipe_15 : decode me_fm_pipe.2.1 15 = .ok (.goto 4, 3) := by decide +kernel
theorem k_fm_pipe_18 : decode me_fm_pipe.2.1 18 = .ok (.iconst (-1), 1) := by decide +kernel
theorem k_fm_pipe_19 : decode me_fm_pipe.2.1 19 = .ok (.istore_n 3, 1) := by decide +kernel
theorem k_fm_pipe_20 : decode me_fm_pipe.2.1 20 = .ok (.iload_n 3, 1) := by decide +kernel
theorem k_fm_pipe_21 : decode me_fm_pipe.2.1 21 = .ok (.ifCond .eq 9, 3) := by decide +kernel
theorem k_fm_pipe_24 : decode me_fm_pipe.2.1 24 = .ok (.aload_n 0, 1) := by decide +kernel
theorem k_fm_pipe_25 : decode me_fm_pipe.2.1 25 = .ok (.iload_n 3, 1) := by decide +kernel
theorem k_fm_pipe_26 : decode me_fm_pipe.2.1 26 = .ok (.invokevirtual 133, 3) := by decide +kernel
theorem k_fm_pipe_29 : decode me_fm_pipe.2.1 29 = .ok (.ireturn, 1) := by decide +kernel
theorem k_fm_pipe_30 : decode me_fm_pipe.2.1 30 = .ok (.aload_n 0, 1) := by decide +kernel
theorem k_fm_pipe_31 : decode me_fm_pipe.2.1 31 = .ok (.getfield 47, 3) := by decide +kernel
theorem k_fm_pipe_34 : decode me_fm_pipe.2.1 34 = .ok (.iload_n 1, 1) := by decide +kernel
theorem k_fm_pipe_35 : decode me_fm_pipe.2.1 35 = .ok (.iaload, 1) := by decide +kernel
theorem k_fm_pipe_36 : decode me_fm_pipe.2.1 36 = .ok (.istore 4, 2) := by decide +kernel
theorem k_fm_pipe_38 : decode me_fm_pipe.2.1 38 = .ok (.aload_n 0, 1) := by decide +kernel
theorem k_fm_pipe_39 : decode me_fm_pipe.2.1 39 = .ok (.getfield 47, 3) := by decide +kernel
theorem k_fm_pipe_42 : decode me_fm_pipe.2.1 42 = .ok (.iload_n 1, 1) := by decide +kernel
theorem k_fm_pipe_43 : decode me_fm_pipe.2.1 43 = .ok (.iload_n 2, 1) := by decide +kernel
theorem k_fm_pipe_44 : decode me_fm_pipe.2.1 44 = .ok (.iastore, 1) := by decide +kernel
theorem k_fm_pipe_45 : decode me_fm_pipe.2.1 45 = .ok (.aload_n 0, 1) := by decide +kernel
theorem k_fm_pipe_46 : decode me_fm_pipe.2.1 46 = .ok (.invokevirtual 152, 3) := by decide +kernel
theorem k_fm_pipe_49 : decode me_fm_pipe.2.1 49 = .ok (.iload 4, 2) := by decide +kernel
theorem k_fm_pipe_51 : decode me_fm_pipe.2.1 51 = .ok (.ireturn, 1) := by decide +kernel
theorem k_fm_leak_0 : decode me_fm_leak.2.1 0 = .ok (.aload_n 0, 1) := by decide +kernel
theorem k_fm_leak_1 : decode me_fm_leak.2.1 1 = .ok (.iload_n 1, 1) := by decide +kernel
theorem k_fm_leak_2 : decode me_fm_leak.2.1 2 = .ok (.invokevirtual 161, 3) := by decide +kernel
theorem k_fm_leak_5 : decode me_fm_leak.2.1 5 = .ok (.ifCond .eq 13, 3) := by decide +kernel
theorem k_fm_leak_8 : decode me_fm_leak.2.1 8 = .ok (.iload_n 2, 1) := by decide +kernel
theorem k_fm_leak_9 : decode me_fm_leak.2.1 9 = .ok (.iconst 0, 1) := by decide +kernel
theorem k_fm_leak_10 : decode me_fm_leak.2.1 10 = .ok (.bipush 60, 2) := by decide +kernel
theorem k_fm_leak_12 : decode me_fm_leak.2.1 12 = .ok (.invokestatic 148, 3) := by decide +kernel
theorem k_fm_leak_15 : decode me_fm_leak.2.1 15 = .ok (.goto 4, 3) := by decide +kernel
theorem k_fm_leak_18 : decode me_fm_leak.2.1 18 = .ok (.iconst (-1), 1) := by decide +kernel
theorem k_fm_leak_19 : decode me_fm_leak.2.1 19 = .ok (.istore_n 3, 1) := by decide +kernel
theorem k_fm_leak_20 : decode me_fm_leak.2.1 20 = .ok (.iload_n 3, 1) := by decide +kernel
theorem k_fm_leak_21 : decode me_fm_leak.2.1 21 = .ok (.ifCond .eq 9, 3) := by decide +kernel
theorem k_fm_leak_24 : decode me_fm_leak.2.1 24 = .ok (.aload_n 0, 1) := by decide +kernel
theorem k_fm_leak_25 : decode me_fm_leak.2.1 25 = .ok (.iload_n 3, 1) := by decide +kernel
theorem k_fm_leak_26 : decode me_fm_leak.2.1 26 = .ok (.invokevirtual 133, 3) := by decide +kernel
theorem k_fm_leak_29 : decode me_fm_leak.2.1 29 = .ok (.ireturn, 1) := by decide +kernel
theorem k_fm_leak_30 : decode me_fm_leak.2.1 30 = .ok (.aload_n 0, 1) := by decide +kernel
theorem k_fm_leak_31 : decode me_fm_leak.2.1 31 = .ok (.getfield 53, 3) := by decide +kernel
theorem k_fm_leak_34 : decode me_fm_leak.2.1 34 = .ok (.iload_n 1, 1) := by decide +kernel
theorem k_fm_leak_35 : decode me_fm_leak.2.1 35 = .ok (.iaload, 1) := by decide +kernel
theorem k_fm_leak_36 : decode me_fm_leak.2.1 36 = .ok (.istore 4, 2) := by decide +kernel
theorem k_fm_leak_38 : decode me_fm_leak.2.1 38 = .ok (.aload_n 0, 1) := by decide +kernel
theorem k_fm_leak_39 : decode me_fm_leak.2.1 39 = .ok (.getfield 53, 3) := by decide +kernel
theorem k_fm_leak_42 : decode me_fm_leak.2.1 42 = .ok (.iload_n 1, 1) := by decide +kernel
theorem k_fm_leak_43 : decode me_fm_leak.2.1 43 = .ok (.iload_n 2, 1) := by decide +kernel
theorem k_fm_leak_44 : decode me_fm_leak.2.1 44 = .ok (.iastore, 1) := by decide +kernel
theorem k_fm_leak_45 : decode me_fm_leak.2.1 45 = .ok (.iload 4, 2) := by decide +kernel
theorem k_fm_leak_47 : decode me_fm_leak.2.1 47 = .ok (.ireturn, 1) := by decide +kernel
theorem k_fm_flow_0 : decode me_fm_flow.2.1 0 = .ok (.aload_n 0, 1) := by decide +kernel
theorem k_fm_flow_1 : decode me_fm_flow.2.1 1 = .ok (.iload_n 1, 1) := by decide +kernel
theorem k_fm_flow_2 : decode me_fm_flow.2.1 2 = .ok (.invokevirtual 161, 3) := by decide +kernel
theorem k_fm_flow_5 : decode me_fm_flow.2.1 5 = .ok (.ifCond .ne 9, 3) := by decide +kernel
theorem k_fm_flow_8 : decode me_fm_flow.2.1 8 = .ok (.aload_n 0, 1) := by decide +kernel
theorem k_fm_flow_9 : decode me_fm_flow.2.1 9 = .ok (.iconst (-1), 1) := by decide +kernel
theorem k_fm_flow_10 : decode me_fm_flow.2.1 10 = .ok (.invokevirtual 133, 3) := by decide +kernel
theorem k_fm_flow_13 : decode me_fm_flow.2.1 13 = .ok (.ireturn, 1) := by decide +kernel
theorem k_fm_flow_14 : decode me_fm_flow.2.1 14 = .ok (.aload_n 0, 1) := by decide +kernel
theorem k_fm_flow_15 : decode me_fm_flow.2.1 15 = .ok (.invokevirtual 179, 3) := by decide +kernel
theorem k_fm_flow_18 : decode me_fm_flow.2.1 18 = .ok (.aload_n 0, 1) := by decide +kernel
theorem k_fm_flow_19 : decode me_fm_flow.2.1 19 = .ok (.getfield 90, 3) := by decide +kernel
theorem k_fm_flow_22 : decode me_fm_flow.2.1 22 = .ok (.iload_n 1, 1) := by decide +kernel
theorem k_fm_flow_23 : decode me_fm_flow.2.1 23 = .ok (.iaload, 1) := by decide +kernel
theorem k_fm_flow_24 : decode me_fm_flow.2.1 24 = .ok (.ireturn, 1) := by decide +kernel
theorem k_fm_sees_0 : decode me_fm_sees.2.1 0 = .ok (.aload_n 0, 1) := by decide +kernel
theorem k_fm_sees_1 : decode me_fm_sees.2.1 1 = .ok (.invokevirtual 173, 3) := by decide +kernel
theorem k_fm_sees_4 : decode me_fm_sees.2.1 4 = .ok (.aload_n 0, 1) := by decide +kernel
theorem k_fm_sees_5 : decode me_fm_sees.2.1 5 = .ok (.invokevirtual 176, 3) := by decide +kernel
theorem k_fm_sees_8 : decode me_fm_sees.2.1 8 = .ok (.return_, 1) := by decide +kernel
theorem k_fm_asItIs_0 : decode me_fm_asItIs.2.1 0 = .ok (.iconst 0, 1) := by decide +kernel
theorem k_fm_asItIs_1 : decode me_fm_asItIs.2.1 1 = .ok (.istore_n 1, 1) := by decide +kernel
theorem k_fm_asItIs_2 : decode me_fm_asItIs.2.1 2 = .ok (.iload_n 1, 1) := by decide +kernel
theorem k_fm_asItIs_3 : decode me_fm_asItIs.2.1 3 = .ok (.aload_n 0, 1) := by decide +kernel
theorem k_fm_asItIs_4 : decode me_fm_asItIs.2.1 4 = .ok (.getfield 155, 3) := by decide +kernel
theorem k_fm_asItIs_7 : decode me_fm_asItIs.2.1 7 = .ok (.if_icmp .ge 21, 3) := by decide +kernel
theorem k_fm_asItIs_10 : decode me_fm_asItIs.2.1 10 = .ok (.aload_n 0, 1) := by decide +kernel
theorem k_fm_asItIs_11 : decode me_fm_asItIs.2.1 11 = .ok (.getfield 87, 3) := by decide +kernel
theorem k_fm_asItIs_14 : decode me_fm_asItIs.2.1 14 = .ok (.iload_n 1, 1) := by decide +kernel
theorem k_fm_asItIs_15 : decode me_fm_asItIs.2.1 15 = .ok (.aload_n 0, 1) := by decide +kernel
theorem k_fm_asItIs_16 : decode me_fm_asItIs.2.1 16 = .ok (.getfield 53, 3) := by decide +kernel
theorem k_fm_asItIs_19 : decode me_fm_asItIs.2.1 19 = .ok (.iload_n 1, 1) := by decide +kernel
theorem k_fm_asItIs_20 : decode me_fm_asItIs.2.1 20 = .ok (.iaload, 1) := by decide +kernel
theorem k_fm_asItIs_21 : decode me_fm_asItIs.2.1 21 = .ok (.iastore, 1) := by decide +kernel
theorem k_fm_asItIs_22 : decode me_fm_asItIs.2.1 22 = .ok (.iinc 1 1, 3) := by decide +kernel
theorem k_fm_asItIs_25 : decode me_fm_asItIs.2.1 25 = .ok (.goto (-23), 3) := by decide +kernel
theorem k_fm_asItIs_28 : decode me_fm_asItIs.2.1 28 = .ok (.iconst 0, 1) := by decide +kernel
theorem k_fm_asItIs_29 : decode me_fm_asItIs.2.1 29 = .ok (.istore_n 1, 1) := by decide +kernel
theorem k_fm_asItIs_30 : decode me_fm_asItIs.2.1 30 = .ok (.iload_n 1, 1) := by decide +kernel
theorem k_fm_asItIs_31 : decode me_fm_asItIs.2.1 31 = .ok (.aload_n 0, 1) := by decide +kernel
theorem k_fm_asItIs_32 : decode me_fm_asItIs.2.1 32 = .ok (.getfield 158, 3) := by decide +kernel
theorem k_fm_asItIs_35 : decode me_fm_asItIs.2.1 35 = .ok (.if_icmp .ge 21, 3) := by decide +kernel
theorem k_fm_asItIs_38 : decode me_fm_asItIs.2.1 38 = .ok (.aload_n 0, 1) := by decide +kernel
theorem k_fm_asItIs_39 : decode me_fm_asItIs.2.1 39 = .ok (.getfield 108, 3) := by decide +kernel
theorem k_fm_asItIs_42 : decode me_fm_asItIs.2.1 42 = .ok (.iload_n 1, 1) := by decide +kernel
theorem k_fm_asItIs_43 : decode me_fm_asItIs.2.1 43 = .ok (.aload_n 0, 1) := by decide +kernel
theorem k_fm_asItIs_44 : decode me_fm_asItIs.2.1 44 = .ok (.getfield 72, 3) := by decide +kernel
theorem k_fm_asItIs_47 : decode me_fm_asItIs.2.1 47 = .ok (.iload_n 1, 1) := by decide +kernel
theorem k_fm_asItIs_48 : decode me_fm_asItIs.2.1 48 = .ok (.baload, 1) := by decide +kernel
theorem k_fm_asItIs_49 : decode me_fm_asItIs.2.1 49 = .ok (.bastore, 1) := by decide +kernel
theorem k_fm_asItIs_50 : decode me_fm_asItIs.2.1 50 = .ok (.iinc 1 1, 3) := by decide +kernel
theorem k_fm_asItIs_53 : decode me_fm_asItIs.2.1 53 = .ok (.goto (-23), 3) := by decide +kernel
theorem k_fm_asItIs_56 : decode me_fm_asItIs.2.1 56 = .ok (.iconst 0, 1) := by decide +kernel
theorem k_fm_asItIs_57 : decode me_fm_asItIs.2.1 57 = .ok (.istore_n 1, 1) := by decide +kernel
theorem k_fm_asItIs_58 : decode me_fm_asItIs.2.1 58 = .ok (.iload_n 1, 1) := by decide +kernel
theorem k_fm_asItIs_59 : decode me_fm_asItIs.2.1 59 = .ok (.aload_n 0, 1) := by decide +kernel
theorem k_fm_asItIs_60 : decode me_fm_asItIs.2.1 60 = .ok (.getfield 141, 3) := by decide +kernel
theorem k_fm_asItIs_63 : decode me_fm_asItIs.2.1 63 = .ok (.if_icmp .ge 21, 3) := by decide +kernel
theorem k_fm_asItIs_66 : decode me_fm_asItIs.2.1 66 = .ok (.aload_n 0, 1) := by decide +kernel
theorem k_fm_asItIs_67 : decode me_fm_asItIs.2.1 67 = .ok (.getfield 102, 3) := by decide +kernel
theorem k_fm_asItIs_70 : decode me_fm_asItIs.2.1 70 = .ok (.iload_n 1, 1) := by decide +kernel
theorem k_fm_asItIs_71 : decode me_fm_asItIs.2.1 71 = .ok (.aload_n 0, 1) := by decide +kernel
theorem k_fm_asItIs_72 : decode me_fm_asItIs.2.1 72 = .ok (.getfield 29, 3) := by decide +kernel
theorem k_fm_asItIs_75 : decode me_fm_asItIs.2.1 75 = .ok (.iload_n 1, 1) := by decide +kernel
theorem k_fm_asItIs_76 : decode me_fm_asItIs.2.1 76 = .ok (.iaload, 1) := by decide +kernel
theorem k_fm_asItIs_77 : decode me_fm_asItIs.2.1 77 = .ok (.iastore, 1) := by decide +kernel
theorem k_fm_asItIs_78 : decode me_fm_asItIs.2.1 78 = .ok (.iinc 1 1, 3) := by decide +kernel
theorem k_fm_asItIs_81 : decode me_fm_asItIs.2.1 81 = .ok (.goto (-23), 3) := by decide +kernel
theorem k_fm_asItIs_84 : decode me_fm_asItIs.2.1 84 = .ok (.return_, 1) := by decide +kernel
theorem k_fm_runs_0 : decode me_fm_runs.2.1 0 = .ok (.iconst 0, 1) := by decide +kernel
theorem k_fm_runs_1 : decode me_fm_runs.2.1 1 = .ok (.istore_n 1, 1) := by decide +kernel
theorem k_fm_runs_2 : decode me_fm_runs.2.1 2 = .ok (.iload_n 1, 1) := by decide +kernel
theorem k_fm_runs_3 : decode me_fm_runs.2.1 3 = .ok (.aload_n 0, 1) := by decide +kernel
theorem k_fm_runs_4 : decode me_fm_runs.2.1 4 = .ok (.getfield 141, 3) := by decide +kernel
theorem k_fm_runs_7 : decode me_fm_runs.2.1 7 = .ok (.if_icmp .ge 16, 3) := by decide +kernel
theorem k_fm_runs_10 : decode me_fm_runs.2.1 10 = .ok (.aload_n 0, 1) := by decide +kernel
theorem k_fm_runs_11 : decode me_fm_runs.2.1 11 = .ok (.getfield 105, 3) := by decide +kernel
theorem k_fm_runs_14 : decode me_fm_runs.2.1 14 = .ok (.iload_n 1, 1) := by decide +kernel
theorem k_fm_runs_15 : decode me_fm_runs.2.1 15 = .ok (.iconst 0, 1) := by decide +kernel
theorem k_fm_runs_16 : decode me_fm_runs.2.1 16 = .ok (.iastore, 1) := by decide +kernel
theorem k_fm_runs_17 : decode me_fm_runs.2.1 17 = .ok (.iinc 1 1, 3) := by decide +kernel
theorem k_fm_runs_20 : decode me_fm_runs.2.1 20 = .ok (.goto (-18), 3) := by decide +kernel
theorem k_fm_runs_23 : decode me_fm_runs.2.1 23 = .ok (.iconst 0, 1) := by decide +kernel
theorem k_fm_runs_24 : decode me_fm_runs.2.1 24 = .ok (.istore_n 1, 1) := by decide +kernel
theorem k_fm_runs_25 : decode me_fm_runs.2.1 25 = .ok (.iload_n 1, 1) := by decide +kernel
theorem k_fm_runs_26 : decode me_fm_runs.2.1 26 = .ok (.aload_n 0, 1) := by decide +kernel
theorem k_fm_runs_27 : decode me_fm_runs.2.1 27 = .ok (.getfield 155, 3) := by decide +kernel
theorem k_fm_runs_30 : decode me_fm_runs.2.1 30 = .ok (.if_icmp .ge 16, 3) := by decide +kernel
theorem k_fm_runs_33 : decode me_fm_runs.2.1 33 = .ok (.aload_n 0, 1) := by decide +kernel
theorem k_fm_runs_34 : decode me_fm_runs.2.1 34 = .ok (.getfield 90, 3) := by decide +kernel
theorem k_fm_runs_37 : decode me_fm_runs.2.1 37 = .ok (.iload_n 1, 1) := by decide +kernel
theorem k_fm_runs_38 : decode me_fm_runs.2.1 38 = .ok (.iconst 0, 1) := by decide +kernel
theorem k_fm_runs_39 : decode me_fm_runs.2.1 39 = .ok (.iastore, 1) := by decide +kernel
theorem k_fm_runs_40 : decode me_fm_runs.2.1 40 = .ok (.iinc 1 1, 3) := by decide +kernel
theorem k_fm_runs_43 : decode me_fm_runs.2.1 43 = .ok (.goto (-18), 3) := by decide +kernel
theorem k_fm_runs_46 : decode me_fm_runs.2.1 46 = .ok (.aload_n 0, 1) := by decide +kernel
theorem k_fm_runs_47 : decode me_fm_runs.2.1 47 = .ok (.getfield 155, 3) := by decide +kernel
theorem k_fm_runs_50 : decode me_fm_runs.2.1 50 = .ok (.iconst 1, 1) := by decide +kernel
theorem k_fm_runs_51 : decode me_fm_runs.2.1 51 = .ok (.isub, 1) := by decide +kernel
theorem k_fm_runs_52 : decode me_fm_runs.2.1 52 = .ok (.istore_n 1, 1) := by decide +kernel
theorem k_fm_runs_53 : decode me_fm_runs.2.1 53 = .ok (.iload_n 1, 1) := by decide +kernel
theorem k_fm_runs_54 : decode me_fm_runs.2.1 54 = .ok (.ifCond .lt 134, 3) := by decide +kernel
theorem k_fm_runs_57 : decode me_fm_runs.2.1 57 = .ok (.aload_n 0, 1) := by decide +kernel
theorem k_fm_runs_58 : decode me_fm_runs.2.1 58 = .ok (.getfield 59, 3) := by decide +kernel
theorem k_fm_runs_61 : decode me_fm_runs.2.1 61 = .ok (.iload_n 1, 1) := by decide +kernel
theorem k_fm_runs_62 : decode me_fm_runs.2.1 62 = .ok (.baload, 1) := by decide +kernel
theorem k_fm_runs_63 : decode me_fm_runs.2.1 63 = .ok (.ifCond .eq 13, 3) := by decide +kernel
theorem k_fm_runs_66 : decode me_fm_runs.2.1 66 = .ok (.aload_n 0, 1) := by decide +kernel
theorem k_fm_runs_67 : decode me_fm_runs.2.1 67 = .ok (.getfield 90, 3) := by decide +kernel
theorem k_fm_runs_70 : decode me_fm_runs.2.1 70 = .ok (.iload_n 1, 1) := by decide +kernel
theorem k_fm_runs_71 : decode me_fm_runs.2.1 71 = .ok (.iconst 0, 1) := by decide +kernel
theorem k_fm_runs_72 : decode me_fm_runs.2.1 72 = .ok (.iastore, 1) := by decide +kernel
theorem k_fm_runs_73 : decode me_fm_runs.2.1 73 = .ok (.goto 57, 3) := by decide +kernel
theorem k_fm_runs_76 : decode me_fm_runs.2.1 76 = .ok (.aload_n 0, 1) := by decide +kernel
theorem k_fm_runs_77 : decode me_fm_runs.2.1 77 = .ok (.getfield 90, 3) := by decide +kernel
theorem k_fm_runs_80 : decode me_fm_runs.2.1 80 = .ok (.iload_n 1, 1) := by decide +kernel
theorem k_fm_runs_81 : decode me_fm_runs.2.1 81 = .ok (.dup2, 1) := by decide +kernel
theorem k_fm_runs_82 : decode me_fm_runs.2.1 82 = .ok (.iaload, 1) := by decide +kernel
theorem k_fm_runs_83 : decode me_fm_runs.2.1 83 = .ok (.aload_n 0, 1) := by decide +kernel
theorem k_fm_runs_84 : decode me_fm_runs.2.1 84 = .ok (.getfield 87, 3) := by decide +kernel
theorem k_fm_runs_87 : decode me_fm_runs.2.1 87 = .ok (.iload_n 1, 1) := by decide +kernel
theorem k_fm_runs_88 : decode me_fm_runs.2.1 88 = .ok (.iaload, 1) := by decide +kernel
theorem k_fm_runs_89 : decode me_fm_runs.2.1 89 = .ok (.aload_n 0, 1) := by decide +kernel
theorem k_fm_runs_90 : decode me_fm_runs.2.1 90 = .ok (.getfield 56, 3) := by decide +kernel
theorem k_fm_runs_93 : decode me_fm_runs.2.1 93 = .ok (.iload_n 1, 1) := by decide +kernel
theorem k_fm_runs_94 : decode me_fm_runs.2.1 94 = .ok (.iaload, 1) := by decide +kernel
theorem k_fm_runs_95 : decode me_fm_runs.2.1 95 = .ok (.ifCond .lt 31, 3) := by decide +kernel
theorem k_fm_runs_98 : decode me_fm_runs.2.1 98 = .ok (.aload_n 0, 1) := by decide +kernel
theorem k_fm_runs_99 : decode me_fm_runs.2.1 99 = .ok (.getfield 108, 3) := by decide +kernel
theorem k_fm_runs_102 : decode me_fm_runs.2.1 102 = .ok (.aload_n 0, 1) := by decide +kernel
theorem k_fm_runs_103 : decode me_fm_runs.2.1 103 = .ok (.getfield 56, 3) := by decide +kernel
theorem k_fm_runs_106 : decode me_fm_runs.2.1 106 = .ok (.iload_n 1, 1) := by decide +kernel
theorem k_fm_runs_107 : decode me_fm_runs.2.1 107 = .ok (.iaload, 1) := by decide +kernel
theorem k_fm_runs_108 : decode me_fm_runs.2.1 108 = .ok (.baload, 1) := by decide +kernel
theorem k_fm_runs_109 : decode me_fm_runs.2.1 109 = .ok (.ifCond .eq 17, 3) := by decide +kernel
theorem k_fm_runs_112 : decode me_fm_runs.2.1 112 = .ok (.aload_n 0, 1) := by decide +kernel
theorem k_fm_runs_113 : decode me_fm_runs.2.1 113 = .ok (.getfield 66, 3) := by decide +kernel
theorem k_fm_runs_116 : decode me_fm_runs.2.1 116 = .ok (.aload_n 0, 1) := by decide +kernel
theorem k_fm_runs_117 : decode me_fm_runs.2.1 117 = .ok (.getfield 56, 3) := by decide +kernel
theorem k_fm_runs_120 : decode me_fm_runs.2.1 120 = .ok (.iload_n 1, 1) := by decide +kernel
theorem k_fm_runs_121 : decode me_fm_runs.2.1 121 = .ok (.iaload, 1) := by decide +kernel
theorem k_fm_runs_122 : decode me_fm_runs.2.1 122 = .ok (.iaload, 1) := by decide +kernel
theorem k_fm_runs_123 : decode me_fm_runs.2.1 123 = .ok (.goto 4, 3) := by decide +kernel
theorem k_fm_runs_126 : decode me_fm_runs.2.1 126 = .ok (.iconst 0, 1) := by decide +kernel
theorem k_fm_runs_127 : decode me_fm_runs.2.1 127 = .ok (.iadd, 1) := by decide +kernel
theorem k_fm_runs_128 : decode me_fm_runs.2.1 128 = .ok (.iadd, 1) := by decide +kernel
theorem k_fm_runs_129 : decode me_fm_runs.2.1 129 = .ok (.iastore, 1) := by decide +kernel
theorem k_fm_runs_130 : decode me_fm_runs.2.1 130 = .ok (.aload_n 0, 1) := by decide +kernel
theorem k_fm_runs_131 : decode me_fm_runs.2.1 131 = .ok (.getfield 38, 3) := by decide +kernel
theorem k_fm_runs_134 : decode me_fm_runs.2.1 134 = .ok (.iload_n 1, 1) := by decide +kernel
theorem k_fm_runs_135 : decode me_fm_runs.2.1 135 = .ok (.iaload, 1) := by decide +kernel
theorem k_fm_runs_136 : decode me_fm_runs.2.1 136 = .ok (.ifCond .lt 26, 3) := by decide +kernel
theorem k_fm_runs_139 : decode me_fm_runs.2.1 139 = .ok (.aload_n 0, 1) := by decide +kernel
theorem k_fm_runs_140 : decode me_fm_runs.2.1 140 = .ok (.getfield 90, 3) := by decide +kernel
theorem k_fm_runs_143 : decode me_fm_runs.2.1 143 = .ok (.aload_n 0, 1) := by decide +kernel
theorem k_fm_runs_144 : decode me_fm_runs.2.1 144 = .ok (.getfield 38, 3) := by decide +kernel
theorem k_fm_runs_147 : decode me_fm_runs.2.1 147 = .ok (.iload_n 1, 1) := by decide +kernel
theorem k_fm_runs_148 : decode me_fm_runs.2.1 148 = .ok (.iaload, 1) := by decide +kernel
theorem k_fm_runs_149 : decode me_fm_runs.2.1 149 = .ok (.dup2, 1) := by decide +kernel
theorem k_fm_runs_150 : decode me_fm_runs.2.1 150 = .ok (.iaload, 1) := by decide +kernel
theorem k_fm_runs_151 : decode me_fm_runs.2.1 151 = .ok (.aload_n 0, 1) := by decide +kernel
theorem k_fm_runs_152 : decode me_fm_runs.2.1 152 = .ok (.getfield 90, 3) := by decide +kernel
theorem k_fm_runs_155 : decode me_fm_runs.2.1 155 = .ok (.iload_n 1, 1) := by decide +kernel
theorem k_fm_runs_156 : decode me_fm_runs.2.1 156 = .ok (.iaload, 1) := by decide +kernel
theorem k_fm_runs_157 : decode me_fm_runs.2.1 157 = .ok (.iadd, 1) := by decide +kernel
theorem k_fm_runs_158 : decode me_fm_runs.2.1 158 = .ok (.iastore, 1) := by decide +kernel
theorem k_fm_runs_159 : decode me_fm_runs.2.1 159 = .ok (.goto 23, 3) := by decide +kernel
theorem k_fm_runs_162 : decode me_fm_runs.2.1 162 = .ok (.aload_n 0, 1) := by decide +kernel
theorem k_fm_runs_163 : decode me_fm_runs.2.1 163 = .ok (.getfield 105, 3) := by decide +kernel
theorem k_fm_runs_166 : decode me_fm_runs.2.1 166 = .ok (.aload_n 0, 1) := by decide +kernel
theorem k_fm_runs_167 : decode me_fm_runs.2.1 167 = .ok (.getfield 41, 3) := by decide +kernel
theorem k_fm_runs_170 : decode me_fm_runs.2.1 170 = .ok (.iload_n 1, 1) := by decide +kernel
theorem k_fm_runs_171 : decode me_fm_runs.2.1 171 = .ok (.iaload, 1) := by decide +kernel
theorem k_fm_runs_172 : decode me_fm_runs.2.1 172 = .ok (.dup2, 1) := by decide +kernel
theorem k_fm_runs_173 : decode me_fm_runs.2.1 173 = .ok (.iaload, 1) := by decide +kernel
theorem k_fm_runs_174 : decode me_fm_runs.2.1 174 = .ok (.aload_n 0, 1) := by decide +kernel
theorem k_fm_runs_175 : decode me_fm_runs.2.1 175 = .ok (.getfield 90, 3) := by decide +kernel
theorem k_fm_runs_178 : decode me_fm_runs.2.1 178 = .ok (.iload_n 1, 1) := by decide +kernel
theorem k_fm_runs_179 : decode me_fm_runs.2.1 179 = .ok (.iaload, 1) := by decide +kernel
theorem k_fm_runs_180 : decode me_fm_runs.2.1 180 = .ok (.iadd, 1) := by decide +kernel
theorem k_fm_runs_181 : decode me_fm_runs.2.1 181 = .ok (.iastore, 1) := by decide +kernel
theorem k_fm_runs_182 : decode me_fm_runs.2.1 182 = .ok (.iinc 1 (-1), 3) := by decide +kernel
theorem k_fm_runs_185 : decode me_fm_runs.2.1 185 = .ok (.goto (-132), 3) := by decide +kernel
theorem k_fm_runs_188 : decode me_fm_runs.2.1 188 = .ok (.iconst 0, 1) := by decide +kernel
theorem k_fm_runs_189 : decode me_fm_runs.2.1 189 = .ok (.istore_n 1, 1) := by decide +kernel
theorem k_fm_runs_190 : decode me_fm_runs.2.1 190 = .ok (.iload_n 1, 1) := by decide +kernel
theorem k_fm_runs_191 : decode me_fm_runs.2.1 191 = .ok (.aload_n 0, 1) := by decide +kernel
theorem k_fm_runs_192 : decode me_fm_runs.2.1 192 = .ok (.getfield 155, 3) := by decide +kernel
theorem k_fm_runs_195 : decode me_fm_runs.2.1 195 = .ok (.if_icmp .ge 217, 3) := by decide +kernel
theorem k_fm_runs_198 : decode me_fm_runs.2.1 198 = .ok (.aload_n 0, 1) := by decide +kernel
theorem k_fm_runs_199 : decode me_fm_runs.2.1 199 = .ok (.getfield 59, 3) := by decide +kernel
theorem k_fm_runs_202 : decode me_fm_runs.2.1 202 = .ok (.iload_n 1, 1) := by decide +kernel
theorem k_fm_runs_203 : decode me_fm_runs.2.1 203 = .ok (.baload, 1) := by decide +kernel
theorem k_fm_runs_204 : decode me_fm_runs.2.1 204 = .ok (.ifCond .ne 26, 3) := by decide +kernel
theorem k_fm_runs_207 : decode me_fm_runs.2.1 207 = .ok (.aload_n 0, 1) := by decide +kernel
theorem k_fm_runs_208 : decode me_fm_runs.2.1 208 = .ok (.getfield 38, 3) := by decide +kernel
theorem k_fm_runs_211 : decode me_fm_runs.2.1 211 = .ok (.iload_n 1, 1) := by decide +kernel
theorem k_fm_runs_212 : decode me_fm_runs.2.1 212 = .ok (.iaload, 1) := by decide +kernel
theorem k_fm_runs_213 : decode me_fm_runs.2.1 213 = .ok (.ifCond .lt 21, 3) := by decide +kernel
theorem k_fm_runs_216 : decode me_fm_runs.2.1 216 = .ok (.aload_n 0, 1) := by decide +kernel
theorem k_fm_runs_217 : decode me_fm_runs.2.1 217 = .ok (.getfield 111, 3) := by decide +kernel
theorem k_fm_runs_220 : decode me_fm_runs.2.1 220 = .ok (.aload_n 0, 1) := by decide +kernel
theorem k_fm_runs_221 : decode me_fm_runs.2.1 221 = .ok (.getfield 38, 3) := by decide +kernel
theorem k_fm_runs_224 : decode me_fm_runs.2.1 224 = .ok (.iload_n 1, 1) := by decide +kernel
theorem k_fm_runs_225 : decode me_fm_runs.2.1 225 = .ok (.iaload, 1) := by decide +kernel
theorem k_fm_runs_226 : decode me_fm_runs.2.1 226 = .ok (.iaload, 1) := by decide +kernel
theorem k_fm_runs_227 : decode me_fm_runs.2.1 227 = .ok (.ifCond .ge 7, 3) := by decide +kernel
theorem k_fm_runs_230 : decode me_fm_runs.2.1 230 = .ok (.iconst 1, 1) := by decide +kernel
theorem k_fm_runs_231 : decode me_fm_runs.2.1 231 = .ok (.goto 4, 3) := by decide +kernel
theorem k_fm_runs_234 : decode me_fm_runs.2.1 234 = .ok (.iconst 0, 1) := by decide +kernel
theorem k_fm_runs_235 : decode me_fm_runs.2.1 235 = .ok (.istore_n 2, 1) := by decide +kernel
theorem k_fm_runs_236 : decode me_fm_runs.2.1 236 = .ok (.iload_n 2, 1) := by decide +kernel
theorem k_fm_runs_237 : decode me_fm_runs.2.1 237 = .ok (.ifCond .eq 10, 3) := by decide +kernel
theorem k_fm_runs_240 : decode me_fm_runs.2.1 240 = .ok (.aload_n 0, 1) := by decide +kernel
theorem k_fm_runs_241 : decode me_fm_runs.2.1 241 = .ok (.getfield 90, 3) := by decide +kernel
theorem k_fm_runs_244 : decode me_fm_runs.2.1 244 = .ok (.iload_n 1, 1) := by decide +kernel
theorem k_fm_runs_245 : decode me_fm_runs.2.1 245 = .ok (.iconst 0, 1) := by decide +kernel
theorem k_fm_runs_246 : decode me_fm_runs.2.1 246 = .ok (.iastore, 1) := by decide +kernel
theorem k_fm_runs_247 : decode me_fm_runs.2.1 247 = .ok (.aload_n 0, 1) := by decide +kernel
theorem k_fm_runs_248 : decode me_fm_runs.2.1 248 = .ok (.getfield 93, 3) := by decide +kernel
theorem k_fm_runs_251 : decode me_fm_runs.2.1 251 = .ok (.iload_n 1, 1) := by decide +kernel
theorem k_fm_runs_252 : decode me_fm_runs.2.1 252 = .ok (.aload_n 0, 1) := by decide +kernel
theorem k_fm_runs_253 : decode me_fm_runs.2.1 253 = .ok (.getfield 90, 3) := by decide +kernel
theorem k_fm_runs_256 : decode me_fm_runs.2.1 256 = .ok (.iload_n 1, 1) := by decide +kernel
theorem k_fm_runs_257 : decode me_fm_runs.2.1 257 = .ok (.iaload, 1) := by decide +kernel
theorem k_fm_runs_258 : decode me_fm_runs.2.1 258 = .ok (.i2l, 1) := by decide +kernel
theorem k_fm_runs_259 : decode me_fm_runs.2.1 259 = .ok (.aload_n 0, 1) := by decide +kernel
theorem k_fm_runs_260 : decode me_fm_runs.2.1 260 = .ok (.getfield 90, 3) := by decide +kernel
theorem k_fm_runs_263 : decode me_fm_runs.2.1 263 = .ok (.iload_n 1, 1) := by decide +kernel
theorem k_fm_runs_264 : decode me_fm_runs.2.1 264 = .ok (.iaload, 1) := by decide +kernel
theorem k_fm_runs_265 : decode me_fm_runs.2.1 265 = .ok (.i2l, 1) := by decide +kernel
theorem k_fm_runs_266 : decode me_fm_runs.2.1 266 = .ok (.lmul, 1) := by decide +kernel
theorem k_fm_runs_267 : decode me_fm_runs.2.1 267 = .ok (.aload_n 0, 1) := by decide +kernel
theorem k_fm_runs_268 : decode me_fm_runs.2.1 268 = .ok (.getfield 50, 3) := by decide +kernel
theorem k_fm_runs_271 : decode me_fm_runs.2.1 271 = .ok (.iload_n 1, 1) := by decide +kernel
theorem k_fm_runs_272 : decode me_fm_runs.2.1 272 = .ok (.iaload, 1) := by decide +kernel
theorem k_fm_runs_273 : decode me_fm_runs.2.1 273 = .ok (.i2l, 1) := by decide +kernel
theorem k_fm_runs_274 : decode me_fm_runs.2.1 274 = .ok (.lmul, 1) := by decide +kernel
theorem k_fm_runs_275 : decode me_fm_runs.2.1 275 = .ok (.ldc2_w 171, 3) := by decide +kernel
theorem k_fm_runs_278 : decode me_fm_runs.2.1 278 = .ok (.aload_n 0, 1) := by decide +kernel
theorem k_fm_runs_279 : decode me_fm_runs.2.1 279 = .ok (.getfield 47, 3) := by decide +kernel
theorem k_fm_runs_282 : decode me_fm_runs.2.1 282 = .ok (.iload_n 1, 1) := by decide +kernel
theorem k_fm_runs_283 : decode me_fm_runs.2.1 283 = .ok (.iaload, 1) := by decide +kernel
theorem k_fm_runs_284 : decode me_fm_runs.2.1 284 = .ok (.i2l, 1) := by decide +kernel
theorem k_fm_runs_285 : decode me_fm_runs.2.1 285 = .ok (.lmul, 1) := by decide +kernel
theorem k_fm_runs_286 : decode me_fm_runs.2.1 286 = .ok (.aload_n 0, 1) := by decide +kernel
theorem k_fm_runs_287 : decode me_fm_runs.2.1 287 = .ok (.getfield 47, 3) := by decide +kernel
theorem k_fm_runs_290 : decode me_fm_runs.2.1 290 = .ok (.iload_n 1, 1) := by decide +kernel
theorem k_fm_runs_291 : decode me_fm_runs.2.1 291 = .ok (.iaload, 1) := by decide +kernel
theorem k_fm_runs_292 : decode me_fm_runs.2.1 292 = .ok (.i2l, 1) := by decide +kernel
theorem k_fm_runs_293 : decode me_fm_runs.2.1 293 = .ok (.lmul, 1) := by decide +kernel
theorem k_fm_runs_294 : decode me_fm_runs.2.1 294 = .ok (.ldiv, 1) := by decide +kernel
theorem k_fm_runs_295 : decode me_fm_runs.2.1 295 = .ok (.l2i, 1) := by decide +kernel
theorem k_fm_runs_296 : decode me_fm_runs.2.1 296 = .ok (.iastore, 1) := by decide +kernel
theorem k_fm_runs_297 : decode me_fm_runs.2.1 297 = .ok (.aload_n 0, 1) := by decide +kernel
theorem k_fm_runs_298 : decode me_fm_runs.2.1 298 = .ok (.getfield 111, 3) := by decide +kernel
theorem k_fm_runs_301 : decode me_fm_runs.2.1 301 = .ok (.iload_n 1, 1) := by decide +kernel
theorem k_fm_runs_302 : decode me_fm_runs.2.1 302 = .ok (.iload_n 2, 1) := by decide +kernel
theorem k_fm_runs_303 : decode me_fm_runs.2.1 303 = .ok (.ifCond .eq 7, 3) := by decide +kernel
theorem k_fm_runs_306 : decode me_fm_runs.2.1 306 = .ok (.iconst (-1), 1) := by decide +kernel
theorem k_fm_runs_307 : decode me_fm_runs.2.1 307 = .ok (.goto 34, 3) := by decide +kernel
theorem k_fm_runs_310 : decode me_fm_runs.2.1 310 = .ok (.aload_n 0, 1) := by decide +kernel
theorem k_fm_runs_311 : decode me_fm_runs.2.1 311 = .ok (.getfield 93, 3) := by decide +kernel
theorem k_fm_runs_314 : decode me_fm_runs.2.1 314 = .ok (.iload_n 1, 1) := by decide +kernel
theorem k_fm_runs_315 : decode me_fm_runs.2.1 315 = .ok (.iaload, 1) := by decide +kernel
theorem k_fm_runs_316 : decode me_fm_runs.2.1 316 = .ok (.aload_n 0, 1) := by decide +kernel
theorem k_fm_runs_317 : decode me_fm_runs.2.1 317 = .ok (.getfield 38, 3) := by decide +kernel
theorem k_fm_runs_320 : decode me_fm_runs.2.1 320 = .ok (.iload_n 1, 1) := by decide +kernel
theorem k_fm_runs_321 : decode me_fm_runs.2.1 321 = .ok (.iaload, 1) := by decide +kernel
theorem k_fm_runs_322 : decode me_fm_runs.2.1 322 = .ok (.ifCond .lt 17, 3) := by decide +kernel
theorem k_fm_runs_325 : decode me_fm_runs.2.1 325 = .ok (.aload_n 0, 1) := by decide +kernel
theorem k_fm_runs_326 : decode me_fm_runs.2.1 326 = .ok (.getfield 111, 3) := by decide +kernel
theorem k_fm_runs_329 : decode me_fm_runs.2.1 329 = .ok (.aload_n 0, 1) := by decide +kernel
theorem k_fm_runs_330 : decode me_fm_runs.2.1 330 = .ok (.getfield 38, 3) := by decide +kernel
theorem k_fm_runs_333 : decode me_fm_runs.2.1 333 = .ok (.iload_n 1, 1) := by decide +kernel
theorem k_fm_runs_334 : decode me_fm_runs.2.1 334 = .ok (.iaload, 1) := by decide +kernel
theorem k_fm_runs_335 : decode me_fm_runs.2.1 335 = .ok (.iaload, 1) := by decide +kernel
theorem k_fm_runs_336 : decode me_fm_runs.2.1 336 = .ok (.goto 4, 3) := by decide +kernel
theorem k_fm_runs_339 : decode me_fm_runs.2.1 339 = .ok (.iconst 0, 1) := by decide +kernel
theorem k_fm_runs_340 : decode me_fm_runs.2.1 340 = .ok (.iadd, 1) := by decide +kernel
theorem k_fm_runs_341 : decode me_fm_runs.2.1 341 = .ok (.iastore, 1) := by decide +kernel
theorem k_fm_runs_342 : decode me_fm_runs.2.1 342 = .ok (.aload_n 0, 1) := by decide +kernel
theorem k_fm_runs_343 : decode me_fm_runs.2.1 343 = .ok (.getfield 41, 3) := by decide +kernel
theorem k_fm_runs_346 : decode me_fm_runs.2.1 346 = .ok (.iload_n 1, 1) := by decide +kernel
theorem k_fm_runs_347 : decode me_fm_runs.2.1 347 = .ok (.iaload, 1) := by decide +kernel
theorem k_fm_runs_348 : decode me_fm_runs.2.1 348 = .ok (.istore_n 3, 1) := by decide +kernel
theorem k_fm_runs_349 : decode me_fm_runs.2.1 349 = .ok (.aload_n 0, 1) := by decide +kernel
theorem k_fm_runs_350 : decode me_fm_runs.2.1 350 = .ok (.getfield 96, 3) := by decide +kernel
theorem k_fm_runs_353 : decode me_fm_runs.2.1 353 = .ok (.iload_n 1, 1) := by decide +kernel
theorem k_fm_runs_354 : decode me_fm_runs.2.1 354 = .ok (.iload_n 2, 1) := by decide +kernel
theorem k_fm_runs_355 : decode me_fm_runs.2.1 355 = .ok (.ifCond .ne 12, 3) := by decide +kernel
theorem k_fm_runs_358 : decode me_fm_runs.2.1 358 = .ok (.aload_n 0, 1) := by decide +kernel
theorem k_fm_runs_359 : decode me_fm_runs.2.1 359 = .ok (.getfield 102, 3) := by decide +kernel
theorem k_fm_runs_362 : decode me_fm_runs.2.1 362 = .ok (.iload_n 3, 1) := by decide +kernel
theorem k_fm_runs_363 : decode me_fm_runs.2.1 363 = .ok (.iaload, 1) := by decide +kernel
theorem k_fm_runs_364 : decode me_fm_runs.2.1 364 = .ok (.ifCond .ne 7, 3) := by decide +kernel
theorem k_fm_runs_367 : decode me_fm_runs.2.1 367 = .ok (.iconst 0, 1) := by decide +kernel
theorem k_fm_runs_368 : decode me_fm_runs.2.1 368 = .ok (.goto 37, 3) := by decide +kernel
theorem k_fm_runs_371 : decode me_fm_runs.2.1 371 = .ok (.aload_n 0, 1) := by decide +kernel
theorem k_fm_runs_372 : decode me_fm_runs.2.1 372 = .ok (.getfield 17, 3) := by decide +kernel
theorem k_fm_runs_375 : decode me_fm_runs.2.1 375 = .ok (.iload_n 3, 1) := by decide +kernel
theorem k_fm_runs_376 : decode me_fm_runs.2.1 376 = .ok (.iaload, 1) := by decide +kernel
theorem k_fm_runs_377 : decode me_fm_runs.2.1 377 = .ok (.aload_n 0, 1) := by decide +kernel
theorem k_fm_runs_378 : decode me_fm_runs.2.1 378 = .ok (.getfield 102, 3) := by decide +kernel
theorem k_fm_runs_381 : decode me_fm_runs.2.1 381 = .ok (.iload_n 3, 1) := by decide +kernel
theorem k_fm_runs_382 : decode me_fm_runs.2.1 382 = .ok (.iaload, 1) := by decide +kernel
theorem k_fm_runs_383 : decode me_fm_runs.2.1 383 = .ok (.aload_n 0, 1) := by decide +kernel
theorem k_fm_runs_384 : decode me_fm_runs.2.1 384 = .ok (.getfield 20, 3) := by decide +kernel
theorem k_fm_runs_387 : decode me_fm_runs.2.1 387 = .ok (.iload_n 3, 1) := by decide +kernel
theorem k_fm_runs_388 : decode me_fm_runs.2.1 388 = .ok (.iaload, 1) := by decide +kernel
theorem k_fm_runs_389 : decode me_fm_runs.2.1 389 = .ok (.idiv, 1) := by decide +kernel
theorem k_fm_runs_390 : decode me_fm_runs.2.1 390 = .ok (.iadd, 1) := by decide +kernel
theorem k_fm_runs_391 : decode me_fm_runs.2.1 391 = .ok (.aload_n 0, 1) := by decide +kernel
theorem k_fm_runs_392 : decode me_fm_runs.2.1 392 = .ok (.getfield 111, 3) := by decide +kernel
theorem k_fm_runs_395 : decode me_fm_runs.2.1 395 = .ok (.iload_n 1, 1) := by decide +kernel
theorem k_fm_runs_396 : decode me_fm_runs.2.1 396 = .ok (.iaload, 1) := by decide +kernel
theorem k_fm_runs_397 : decode me_fm_runs.2.1 397 = .ok (.isub, 1) := by decide +kernel
theorem k_fm_runs_398 : decode me_fm_runs.2.1 398 = .ok (.aload_n 0, 1) := by decide +kernel
theorem k_fm_runs_399 : decode me_fm_runs.2.1 399 = .ok (.getfield 44, 3) := by decide +kernel
theorem k_fm_runs_402 : decode me_fm_runs.2.1 402 = .ok (.iload_n 1, 1) := by decide +kernel
theorem k_fm_runs_403 : decode me_fm_runs.2.1 403 = .ok (.iaload, 1) := by decide +kernel
theorem k_fm_runs_404 : decode me_fm_runs.2.1 404 = .ok (.isub, 1) := by decide +kernel
theorem k_fm_runs_405 : decode me_fm_runs.2.1 405 = .ok (.iastore, 1) := by decide +kernel
theorem k_fm_runs_406 : decode me_fm_runs.2.1 406 = .ok (.iinc 1 1, 3) := by decide +kernel
theorem k_fm_runs_409 : decode me_fm_runs.2.1 409 = .ok (.goto (-219), 3) := by decide +kernel
theorem k_fm_runs_412 : decode me_fm_runs.2.1 412 = .ok (.return_, 1) := by decide +kernel
theorem k_fm_head_0 : decode me_fm_head.2.1 0 = .ok (.aload_n 0, 1) := by decide +kernel
theorem k_fm_head_1 : decode me_fm_head.2.1 1 = .ok (.iload_n 1, 1) := by decide +kernel
theorem k_fm_head_2 : decode me_fm_head.2.1 2 = .ok (.invokevirtual 161, 3) := by decide +kernel
theorem k_fm_head_5 : decode me_fm_head.2.1 5 = .ok (.ifCond .ne 9, 3) := by decide +kernel
theorem k_fm_head_8 : decode me_fm_head.2.1 8 = .ok (.aload_n 0, 1) := by decide +kernel
theorem k_fm_head_9 : decode me_fm_head.2.1 9 = .ok (.iconst (-1), 1) := by decide +kernel
theorem k_fm_head_10 : decode me_fm_head.2.1 10 = .ok (.invokevirtual 182, 3) := by decide +kernel
theorem k_fm_head_13 : decode me_fm_head.2.1 13 = .ok (.ireturn, 1) := by decide +kernel
theorem k_fm_head_14 : decode me_fm_head.2.1 14 = .ok (.aload_n 0, 1) := by decide +kernel
theorem k_fm_head_15 : decode me_fm_head.2.1 15 = .ok (.invokevirtual 179, 3) := by decide +kernel
theorem k_fm_head_18 : decode me_fm_head.2.1 18 = .ok (.aload_n 0, 1) := by decide +kernel
theorem k_fm_head_19 : decode me_fm_head.2.1 19 = .ok (.getfield 96, 3) := by decide +kernel
theorem k_fm_head_22 : decode me_fm_head.2.1 22 = .ok (.iload_n 1, 1) := by decide +kernel
theorem k_fm_head_23 : decode me_fm_head.2.1 23 = .ok (.iaload, 1) := by decide +kernel
theorem k_fm_head_24 : decode me_fm_head.2.1 24 = .ok (.ireturn, 1) := by decide +kernel
theorem k_fm_refuseFar_0 : decode me_fm_refuseFar.2.1 0 = .ok (.ldc 132, 2) := by decide +kernel
theorem k_fm_refuseFar_2 : decode me_fm_refuseFar.2.1 2 = .ok (.aload_n 0, 1) := by decide +kernel
theorem k_fm_refuseFar_3 : decode me_fm_refuseFar.2.1 3 = .ok (.iload_n 1, 1) := by decide +kernel
theorem k_fm_refuseFar_4 : decode me_fm_refuseFar.2.1 4 = .ok (.invokevirtual 133, 3) := by decide +kernel
theorem k_fm_refuseFar_7 : decode me_fm_refuseFar.2.1 7 = .ok (.isub, 1) := by decide +kernel
theorem k_fm_refuseFar_8 : decode me_fm_refuseFar.2.1 8 = .ok (.ireturn, 1) := by decide +kernel
theorem k_fm_rise_0 : decode me_fm_rise.2.1 0 = .ok (.aload_n 0, 1) := by decide +kernel
theorem k_fm_rise_1 : decode me_fm_rise.2.1 1 = .ok (.iload_n 1, 1) := by decide +kernel
theorem k_fm_rise_2 : decode me_fm_rise.2.1 2 = .ok (.invokevirtual 165, 3) := by decide +kernel
theorem k_fm_rise_5 : decode me_fm_rise.2.1 5 = .ok (.ifCond .ne 9, 3) := by decide +kernel
theorem k_fm_rise_8 : decode me_fm_rise.2.1 8 = .ok (.aload_n 0, 1) := by decide +kernel
theorem k_fm_rise_9 : decode me_fm_rise.2.1 9 = .ok (.iconst (-1), 1) := by decide +kernel
theorem k_fm_rise_10 : decode me_fm_rise.2.1 10 = .ok (.invokevirtual 133, 3) := by decide +kernel
theorem k_fm_rise_13 : decode me_fm_rise.2.1 13 = .ok (.ireturn, 1) := by decide +kernel
theorem k_fm_rise_14 : decode me_fm_rise.2.1 14 = .ok (.aload_n 0, 1) := by decide +kernel
theorem k_fm_rise_15 : decode me_fm_rise.2.1 15 = .ok (.invokevirtual 179, 3) := by decide +kernel
theorem k_fm_rise_18 : decode me_fm_rise.2.1 18 = .ok (.aload_n 0, 1) := by decide +kernel
theorem k_fm_rise_19 : decode me_fm_rise.2.1 19 = .ok (.iload_n 1, 1) := by decide +kernel
theorem k_fm_rise_20 : decode me_fm_rise.2.1 20 = .ok (.invokevirtual 185, 3) := by decide +kernel
theorem k_fm_rise_23 : decode me_fm_rise.2.1 23 = .ok (.ireturn, 1) := by decide +kernel
theorem k_fm_riseOf_0 : decode me_fm_riseOf.2.1 0 = .ok (.aload_n 0, 1) := by decide +kernel
theorem k_fm_riseOf_1 : decode me_fm_riseOf.2.1 1 = .ok (.getfield 108, 3) := by decide +kernel
theorem k_fm_riseOf_4 : decode me_fm_riseOf.2.1 4 = .ok (.iload_n 1, 1) := by decide +kernel
theorem k_fm_riseOf_5 : decode me_fm_riseOf.2.1 5 = .ok (.baload, 1) := by decide +kernel
theorem k_fm_riseOf_6 : decode me_fm_riseOf.2.1 6 = .ok (.ifCond .eq 37, 3) := by decide +kernel
theorem k_fm_riseOf_9 : decode me_fm_riseOf.2.1 9 = .ok (.aload_n 0, 1) := by decide +kernel
theorem k_fm_riseOf_10 : decode me_fm_riseOf.2.1 10 = .ok (.getfield 96, 3) := by decide +kernel
theorem k_fm_riseOf_13 : decode me_fm_riseOf.2.1 13 = .ok (.aload_n 0, 1) := by decide +kernel
theorem k_fm_riseOf_14 : decode me_fm_riseOf.2.1 14 = .ok (.getfield 63, 3) := by decide +kernel
theorem k_fm_riseOf_17 : decode me_fm_riseOf.2.1 17 = .ok (.iload_n 1, 1) := by decide +kernel
theorem k_fm_riseOf_18 : decode me_fm_riseOf.2.1 18 = .ok (.iaload, 1) := by decide +kernel
theorem k_fm_riseOf_19 : decode me_fm_riseOf.2.1 19 = .ok (.iaload, 1) := by decide +kernel
theorem k_fm_riseOf_20 : decode me_fm_riseOf.2.1 20 = .ok (.ifCond .le 23, 3) := by decide +kernel
theorem k_fm_riseOf_23 : decode me_fm_riseOf.2.1 23 = .ok (.bipush 9, 2) := by decide +kernel
theorem k_fm_riseOf_25 : decode me_fm_riseOf.2.1 25 = .ok (.aload_n 0, 1) := by decide +kernel
theorem k_fm_riseOf_26 : decode me_fm_riseOf.2.1 26 = .ok (.getfield 96, 3) := by decide +kernel
theorem k_fm_riseOf_29 : decode me_fm_riseOf.2.1 29 = .ok (.aload_n 0, 1) := by decide +kernel
theorem k_fm_riseOf_30 : decode me_fm_riseOf.2.1 30 = .ok (.getfield 63, 3) := by decide +kernel
theorem k_fm_riseOf_33 : decode me_fm_riseOf.2.1 33 = .ok (.iload_n 1, 1) := by decide +kernel
theorem k_fm_riseOf_34 : decode me_fm_riseOf.2.1 34 = .ok (.iaload, 1) := by decide +kernel
theorem k_fm_riseOf_35 : decode me_fm_riseOf.2.1 35 = .ok (.iaload, 1) := by decide +kernel
theorem k_fm_riseOf_36 : decode me_fm_riseOf.2.1 36 = .ok (.imul, 1) := by decide +kernel
theorem k_fm_riseOf_37 : decode me_fm_riseOf.2.1 37 = .ok (.bipush 10, 2) := by decide +kernel
theorem k_fm_riseOf_39 : decode me_fm_riseOf.2.1 39 = .ok (.idiv, 1) := by decide +kernel
theorem k_fm_riseOf_40 : decode me_fm_riseOf.2.1 40 = .ok (.goto 4, 3) := by decide +kernel
theorem k_fm_riseOf_43 : decode me_fm_riseOf.2.1 43 = .ok (.iconst 0, 1) := by decide +kernel
theorem k_fm_riseOf_44 : decode me_fm_riseOf.2.1 44 = .ok (.ireturn, 1) := by decide +kernel
theorem k_fm_share_0 : decode me_fm_share.2.1 0 = .ok (.aload_n 0, 1) := by decide +kernel
theorem k_fm_share_1 : decode me_fm_share.2.1 1 = .ok (.iload_n 1, 1) := by decide +kernel
theorem k_fm_share_2 : decode me_fm_share.2.1 2 = .ok (.invokevirtual 165, 3) := by decide +kernel
theorem k_fm_share_5 : decode me_fm_share.2.1 5 = .ok (.ifCond .eq 16, 3) := by decide +kernel
theorem k_fm_share_8 : decode me_fm_share.2.1 8 = .ok (.aload_n 0, 1) := by decide +kernel
theorem k_fm_share_9 : decode me_fm_share.2.1 9 = .ok (.iload_n 2, 1) := by decide +kernel
theorem k_fm_share_10 : decode me_fm_share.2.1 10 = .ok (.invokevirtual 165, 3) := by decide +kernel
theorem k_fm_share_13 : decode me_fm_share.2.1 13 = .ok (.ifCond .eq 8, 3) := by decide +kernel
theorem k_fm_share_16 : decode me_fm_share.2.1 16 = .ok (.iload_n 1, 1) := by decide +kernel
theorem k_fm_share_17 : decode me_fm_share.2.1 17 = .ok (.iload_n 2, 1) := by decide +kernel
theorem k_fm_share_18 : decode me_fm_share.2.1 18 = .ok (.if_icmp .ne 9, 3) := by decide +kernel
theorem k_fm_share_21 : decode me_fm_share.2.1 21 = .ok (.aload_n 0, 1) := by decide +kernel
theorem k_fm_share_22 : decode me_fm_share.2.1 22 = .ok (.iconst (-1), 1) := by decide +kernel
theorem k_fm_share_23 : decode me_fm_share.2.1 23 = .ok (.invokevirtual 133, 3) := by decide +kernel
theorem k_fm_share_26 : decode me_fm_share.2.1 26 = .ok (.ireturn, 1) := by decide +kernel
theorem k_fm_share_27 : decode me_fm_share.2.1 27 = .ok (.aload_n 0, 1) := by decide +kernel
theorem k_fm_share_28 : decode me_fm_share.2.1 28 = .ok (.getfield 72, 3) := by decide +kernel
theorem k_fm_share_31 : decode me_fm_share.2.1 31 = .ok (.iload_n 1, 1) := by decide +kernel
theorem k_fm_share_32 : decode me_fm_share.2.1 32 = .ok (.baload, 1) := by decide +kernel
theorem k_fm_share_33 : decode me_fm_share.2.1 33 = .ok (.ifCond .eq 12, 3) := by decide +kernel
theorem k_fm_share_36 : decode me_fm_share.2.1 36 = .ok (.aload_n 0, 1) := by decide +kernel
theorem k_fm_share_37 : decode me_fm_share.2.1 37 = .ok (.getfield 72, 3) := by decide +kernel
theorem k_fm_share_40 : decode me_fm_share.2.1 40 = .ok (.iload_n 2, 1) := by decide +kernel
theorem k_fm_share_41 : decode me_fm_share.2.1 41 = .ok (.baload, 1) := by decide +kernel
theorem k_fm_share_42 : decode me_fm_share.2.1 42 = .ok (.ifCond .ne 10, 3) := by decide +kernel
theorem k_fm_share_45 : decode me_fm_share.2.1 45 = .ok (.aload_n 0, 1) := by decide +kernel
theorem k_fm_share_46 : decode me_fm_share.2.1 46 = .ok (.bipush (-3), 2) := by decide +kernel
theorem k_fm_share_48 : decode me_fm_share.2.1 48 = .ok (.invokevirtual 133, 3) := by decide +kernel
theorem k_fm_share_51 : decode me_fm_share.2.1 51 = .ok (.ireturn, 1) := by decide +kernel
theorem k_fm_share_52 : decode me_fm_share.2.1 52 = .ok (.aload_n 0, 1) := by decide +kernel
theorem k_fm_share_53 : decode me_fm_share.2.1 53 = .ok (.invokevirtual 179, 3) := by decide +kernel
theorem k_fm_share_56 : decode me_fm_share.2.1 56 = .ok (.aload_n 0, 1) := by decide +kernel
theorem k_fm_share_57 : decode me_fm_share.2.1 57 = .ok (.iload_n 1, 1) := by decide +kernel
theorem k_fm_share_58 : decode me_fm_share.2.1 58 = .ok (.invokevirtual 185, 3) := by decide +kernel
theorem k_fm_share_61 : decode me_fm_share.2.1 61 = .ok (.istore_n 3, 1) := by decide +kernel
theorem k_fm_share_62 : decode me_fm_share.2.1 62 = .ok (.aload_n 0, 1) := by decide +kernel
theorem k_fm_share_63 : decode me_fm_share.2.1 63 = .ok (.getfield 108, 3) := by decide +kernel
theorem k_fm_share_66 : decode me_fm_share.2.1 66 = .ok (.iload_n 2, 1) := by decide +kernel
theorem k_fm_share_67 : decode me_fm_share.2.1 67 = .ok (.iconst 0, 1) := by decide +kernel
theorem k_fm_share_68 : decode me_fm_share.2.1 68 = .ok (.bastore, 1) := by decide +kernel
theorem k_fm_share_69 : decode me_fm_share.2.1 69 = .ok (.aload_n 0, 1) := by decide +kernel
theorem k_fm_share_70 : decode me_fm_share.2.1 70 = .ok (.invokevirtual 176, 3) := by decide +kernel
theorem k_fm_share_73 : decode me_fm_share.2.1 73 = .ok (.aload_n 0, 1) := by decide +kernel
theorem k_fm_share_74 : decode me_fm_share.2.1 74 = .ok (.iload_n 1, 1) := by decide +kernel
theorem k_fm_share_75 : decode me_fm_share.2.1 75 = .ok (.invokevirtual 185, 3) := by decide +kernel
theorem k_fm_share_78 : decode me_fm_share.2.1 78 = .ok (.iload_n 3, 1) := by decide +kernel
theorem k_fm_share_79 : decode me_fm_share.2.1 79 = .ok (.isub, 1) := by decide +kernel
theorem k_fm_share_80 : decode me_fm_share.2.1 80 = .ok (.ireturn, 1) := by decide +kernel
theorem k_fm_minutes_0 : decode me_fm_minutes.2.1 0 = .ok (.iload_n 1, 1) := by decide +kernel
theorem k_fm_minutes_1 : decode me_fm_minutes.2.1 1 = .ok (.iconst 1, 1) := by decide +kernel
theorem k_fm_minutes_2 : decode me_fm_minutes.2.1 2 = .ok (.sipush 1440, 3) := by decide +kernel
theorem k_fm_minutes_5 : decode me_fm_minutes.2.1 5 = .ok (.aload_n 0, 1) := by decide +kernel
theorem k_fm_minutes_6 : decode me_fm_minutes.2.1 6 = .ok (.getfield 206, 3) := by decide +kernel
theorem k_fm_minutes_9 : decode me_fm_minutes.2.1 9 = .ok (.isub, 1) := by decide +kernel
theorem k_fm_minutes_10 : decode me_fm_minutes.2.1 10 = .ok (.invokestatic 148, 3) := by decide +kernel
theorem k_fm_minutes_13 : decode me_fm_minutes.2.1 13 = .ok (.istore_n 2, 1) := by decide +kernel
theorem k_fm_minutes_14 : decode me_fm_minutes.2.1 14 = .ok (.iload_n 2, 1) := by decide +kernel
theorem k_fm_minutes_15 : decode me_fm_minutes.2.1 15 = .ok (.ifCond .eq 9, 3) := by decide +kernel
theorem k_fm_minutes_18 : decode me_fm_minutes.2.1 18 = .ok (.aload_n 0, 1) := by decide +kernel
theorem k_fm_minutes_19 : decode me_fm_minutes.2.1 19 = .ok (.iload_n 2, 1) := by decide +kernel
theorem k_fm_minutes_20 : decode me_fm_minutes.2.1 20 = .ok (.invokevirtual 133, 3) := by decide +kernel
theorem k_fm_minutes_23 : decode me_fm_minutes.2.1 23 = .ok (.ireturn, 1) := by decide +kernel
theorem k_fm_minutes_24 : decode me_fm_minutes.2.1 24 = .ok (.aload_n 0, 1) := by decide +kernel
theorem k_fm_minutes_25 : decode me_fm_minutes.2.1 25 = .ok (.invokevirtual 179, 3) := by decide +kernel
theorem k_fm_minutes_28 : decode me_fm_minutes.2.1 28 = .ok (.iconst 0, 1) := by decide +kernel
theorem k_fm_minutes_29 : decode me_fm_minutes.2.1 29 = .ok (.istore_n 3, 1) := by decide +kernel
theorem k_fm_minutes_30 : decode me_fm_minutes.2.1 30 = .ok (.iload_n 3, 1) := by decide +kernel
theorem k_fm_minutes_31 : decode me_fm_minutes.2.1 31 = .ok (.iload_n 1, 1) := by decide +kernel
theorem k_fm_minutes_32 : decode me_fm_minutes.2.1 32 = .ok (.if_icmp .ge 71, 3) := by decide +kernel
theorem k_fm_minutes_35 : decode me_fm_minutes.2.1 35 = .ok (.iconst 0, 1) := by decide +kernel
theorem k_fm_minutes_36 : decode me_fm_minutes.2.1 36 = .ok (.istore 4, 2) := by decide +kernel
theorem k_fm_minutes_38 : decode me_fm_minutes.2.1 38 = .ok (.iload 4, 2) := by decide +kernel
theorem k_fm_minutes_40 : decode me_fm_minutes.2.1 40 = .ok (.aload_n 0, 1) := by decide +kernel
theorem k_fm_minutes_41 : decode me_fm_minutes.2.1 41 = .ok (.getfield 141, 3) := by decide +kernel
theorem k_fm_minutes_44 : decode me_fm_minutes.2.1 44 = .ok (.if_icmp .ge 43, 3) := by decide +kernel
theorem k_fm_minutes_47 : decode me_fm_minutes.2.1 47 = .ok (.aload_n 0, 1) := by decide +kernel
theorem k_fm_minutes_48 : decode me_fm_minutes.2.1 48 = .ok (.iload 4, 2) := by decide +kernel
theorem k_fm_minutes_50 : decode me_fm_minutes.2.1 50 = .ok (.invokevirtual 209, 3) := by decide +kernel
theorem k_fm_minutes_53 : decode me_fm_minutes.2.1 53 = .ok (.aload_n 0, 1) := by decide +kernel
theorem k_fm_minutes_54 : decode me_fm_minutes.2.1 54 = .ok (.getfield 32, 3) := by decide +kernel
theorem k_fm_minutes_57 : decode me_fm_minutes.2.1 57 = .ok (.iload 4, 2) := by decide +kernel
theorem k_fm_minutes_59 : decode me_fm_minutes.2.1 59 = .ok (.dup2, 1) := by decide +kernel
theorem k_fm_minutes_60 : decode me_fm_minutes.2.1 60 = .ok (.iaload, 1) := by decide +kernel
theorem k_fm_minutes_61 : decode me_fm_minutes.2.1 61 = .ok (.aload_n 0, 1) := by decide +kernel
theorem k_fm_minutes_62 : decode me_fm_minutes.2.1 62 = .ok (.getfield 194, 3) := by decide +kernel
theorem k_fm_minutes_65 : decode me_fm_minutes.2.1 65 = .ok (.iadd, 1) := by decide +kernel
theorem k_fm_minutes_66 : decode me_fm_minutes.2.1 66 = .ok (.iastore, 1) := by decide +kernel
theorem k_fm_minutes_67 : decode me_fm_minutes.2.1 67 = .ok (.aload_n 0, 1) := by decide +kernel
theorem k_fm_minutes_68 : decode me_fm_minutes.2.1 68 = .ok (.getfield 35, 3) := by decide +kernel
theorem k_fm_minutes_71 : decode me_fm_minutes.2.1 71 = .ok (.iload 4, 2) := by decide +kernel
theorem k_fm_minutes_73 : decode me_fm_minutes.2.1 73 = .ok (.dup2, 1) := by decide +kernel
theorem k_fm_minutes_74 : decode me_fm_minutes.2.1 74 = .ok (.iaload, 1) := by decide +kernel
theorem k_fm_minutes_75 : decode me_fm_minutes.2.1 75 = .ok (.aload_n 0, 1) := by decide +kernel
theorem k_fm_minutes_76 : decode me_fm_minutes.2.1 76 = .ok (.getfield 203, 3) := by decide +kernel
theorem k_fm_minutes_79 : decode me_fm_minutes.2.1 79 = .ok (.iadd, 1) := by decide +kernel
theorem k_fm_minutes_80 : decode me_fm_minutes.2.1 80 = .ok (.iastore, 1) := by decide +kernel
theorem k_fm_minutes_81 : decode me_fm_minutes.2.1 81 = .ok (.iinc 4 1, 3) := by decide +kernel
theorem k_fm_minutes_84 : decode me_fm_minutes.2.1 84 = .ok (.goto (-46), 3) := by decide +kernel
theorem k_fm_minutes_87 : decode me_fm_minutes.2.1 87 = .ok (.aload_n 0, 1) := by decide +kernel
theorem k_fm_minutes_88 : decode me_fm_minutes.2.1 88 = .ok (.dup, 1) := by decide +kernel
theorem k_fm_minutes_89 : decode me_fm_minutes.2.1 89 = .ok (.getfield 206, 3) := by decide +kernel
theorem k_fm_minutes_92 : decode me_fm_minutes.2.1 92 = .ok (.iconst 1, 1) := by decide +kernel
theorem k_fm_minutes_93 : decode me_fm_minutes.2.1 93 = .ok (.iadd, 1) := by decide +kernel
theorem k_fm_minutes_94 : decode me_fm_minutes.2.1 94 = .ok (.putfield 206, 3) := by decide +kernel
theorem k_fm_minutes_97 : decode me_fm_minutes.2.1 97 = .ok (.iinc 3 1, 3) := by decide +kernel
theorem k_fm_minutes_100 : decode me_fm_minutes.2.1 100 = .ok (.goto (-70), 3) := by decide +kernel
theorem k_fm_minutes_103 : decode me_fm_minutes.2.1 103 = .ok (.iconst 0, 1) := by decide +kernel
theorem k_fm_minutes_104 : decode me_fm_minutes.2.1 104 = .ok (.istore_n 3, 1) := by decide +kernel
theorem k_fm_minutes_105 : decode me_fm_minutes.2.1 105 = .ok (.iload_n 3, 1) := by decide +kernel
theorem k_fm_minutes_106 : decode me_fm_minutes.2.1 106 = .ok (.aload_n 0, 1) := by decide +kernel
theorem k_fm_minutes_107 : decode me_fm_minutes.2.1 107 = .ok (.getfield 141, 3) := by decide +kernel
theorem k_fm_minutes_110 : decode me_fm_minutes.2.1 110 = .ok (.if_icmp .ge 21, 3) := by decide +kernel
theorem k_fm_minutes_113 : decode me_fm_minutes.2.1 113 = .ok (.aload_n 0, 1) := by decide +kernel
theorem k_fm_minutes_114 : decode me_fm_minutes.2.1 114 = .ok (.getfield 29, 3) := by decide +kernel
theorem k_fm_minutes_117 : decode me_fm_minutes.2.1 117 = .ok (.iload_n 3, 1) := by decide +kernel
theorem k_fm_minutes_118 : decode me_fm_minutes.2.1 118 = .ok (.aload_n 0, 1) := by decide +kernel
theorem k_fm_minutes_119 : decode me_fm_minutes.2.1 119 = .ok (.getfield 102, 3) := by decide +kernel
theorem k_fm_minutes_122 : decode me_fm_minutes.2.1 122 = .ok (.iload_n 3, 1) := by decide +kernel
theorem k_fm_minutes_123 : decode me_fm_minutes.2.1 123 = .ok (.iaload, 1) := by decide +kernel
theorem k_fm_minutes_124 : decode me_fm_minutes.2.1 124 = .ok (.iastore, 1) := by decide +kernel
theorem k_fm_minutes_125 : decode me_fm_minutes.2.1 125 = .ok (.iinc 3 1, 3) := by decide +kernel
theorem k_fm_minutes_128 : decode me_fm_minutes.2.1 128 = .ok (.goto (-23), 3) := by decide +kernel
theorem k_fm_minutes_131 : decode me_fm_minutes.2.1 131 = .ok (.aload_n 0, 1) := by decide +kernel
theorem k_fm_minutes_132 : decode me_fm_minutes.2.1 132 = .ok (.invokevirtual 152, 3) := by decide +kernel
theorem k_fm_minutes_135 : decode me_fm_minutes.2.1 135 = .ok (.aload_n 0, 1) := by decide +kernel
theorem k_fm_minutes_136 : decode me_fm_minutes.2.1 136 = .ok (.getfield 206, 3) := by decide +kernel
theorem k_fm_minutes_139 : decode me_fm_minutes.2.1 139 = .ok (.ireturn, 1) := by decide +kernel
theorem k_fm_passes_0 : decode me_fm_passes.2.1 0 = .ok (.aload_n 0, 1) := by decide +kernel
theorem k_fm_passes_1 : decode me_fm_passes.2.1 1 = .ok (.getfield 20, 3) := by decide +kernel
theorem k_fm_passes_4 : decode me_fm_passes.2.1 4 = .ok (.iload_n 1, 1) := by decide +kernel
theorem k_fm_passes_5 : decode me_fm_passes.2.1 5 = .ok (.iaload, 1) := by decide +kernel
theorem k_fm_passes_6 : decode me_fm_passes.2.1 6 = .ok (.aload_n 0, 1) := by decide +kernel
theorem k_fm_passes_7 : decode me_fm_passes.2.1 7 = .ok (.getfield 23, 3) := by decide +kernel
theorem k_fm_passes_10 : decode me_fm_passes.2.1 10 = .ok (.iload_n 1, 1) := by decide +kernel
theorem k_fm_passes_11 : decode me_fm_passes.2.1 11 = .ok (.iaload, 1) := by decide +kernel
theorem k_fm_passes_12 : decode me_fm_passes.2.1 12 = .ok (.imul, 1) := by decide +kernel
theorem k_fm_passes_13 : decode me_fm_passes.2.1 13 = .ok (.istore_n 2, 1) := by decide +kernel
theorem k_fm_passes_14 : decode me_fm_passes.2.1 14 = .ok (.aload_n 0, 1) := by decide +kernel
theorem k_fm_passes_15 : decode me_fm_passes.2.1 15 = .ok (.getfield 102, 3) := by decide +kernel
theorem k_fm_passes_18 : decode me_fm_passes.2.1 18 = .ok (.iload_n 1, 1) := by decide +kernel
theorem k_fm_passes_19 : decode me_fm_passes.2.1 19 = .ok (.iaload, 1) := by decide +kernel
theorem k_fm_passes_20 : decode me_fm_passes.2.1 20 = .ok (.aload_n 0, 1) := by decide +kernel
theorem k_fm_passes_21 : decode me_fm_passes.2.1 21 = .ok (.getfield 26, 3) := by decide +kernel
theorem k_fm_passes_24 : decode me_fm_passes.2.1 24 = .ok (.iload_n 1, 1) := by decide +kernel
theorem k_fm_passes_25 : decode me_fm_passes.2.1 25 = .ok (.iaload, 1) := by decide +kernel
theorem k_fm_passes_26 : decode me_fm_passes.2.1 26 = .ok (.iadd, 1) := by decide +kernel
theorem k_fm_passes_27 : decode me_fm_passes.2.1 27 = .ok (.istore_n 3, 1) := by decide +kernel
theorem k_fm_passes_28 : decode me_fm_passes.2.1 28 = .ok (.aload_n 0, 1) := by decide +kernel
theorem k_fm_passes_29 : decode me_fm_passes.2.1 29 = .ok (.iconst 0, 1) := by decide +kernel
theorem k_fm_passes_30 : decode me_fm_passes.2.1 30 = .ok (.iload_n 3, 1) := by decide +kernel
theorem k_fm_passes_31 : decode me_fm_passes.2.1 31 = .ok (.iload_n 2, 1) := by decide +kernel
theorem k_fm_passes_32 : decode me_fm_passes.2.1 32 = .ok (.isub, 1) := by decide +kernel
theorem k_fm_passes_33 : decode me_fm_passes.2.1 33 = .ok (.invokestatic 188, 3) := by decide +kernel
theorem k_fm_passes_36 : decode me_fm_passes.2.1 36 = .ok (.putfield 194, 3) := by decide +kernel
theorem k_fm_passes_39 : decode me_fm_passes.2.1 39 = .ok (.iload_n 3, 1) := by decide +kernel
theorem k_fm_passes_40 : decode me_fm_passes.2.1 40 = .ok (.iload_n 2, 1) := by decide +kernel
theorem k_fm_passes_41 : decode me_fm_passes.2.1 41 = .ok (.invokestatic 197, 3) := by decide +kernel
theorem k_fm_passes_44 : decode me_fm_passes.2.1 44 = .ok (.istore_n 3, 1) := by decide +kernel
theorem k_fm_passes_45 : decode me_fm_passes.2.1 45 = .ok (.aload_n 0, 1) := by decide +kernel
theorem k_fm_passes_46 : decode me_fm_passes.2.1 46 = .ok (.iload_n 3, 1) := by decide +kernel
theorem k_fm_passes_47 : decode me_fm_passes.2.1 47 = .ok (.aload_n 0, 1) := by decide +kernel
theorem k_fm_passes_48 : decode me_fm_passes.2.1 48 = .ok (.getfield 105, 3) := by decide +kernel
theorem k_fm_passes_51 : decode me_fm_passes.2.1 51 = .ok (.iload_n 1, 1) := by decide +kernel
theorem k_fm_passes_52 : decode me_fm_passes.2.1 52 = .ok (.iaload, 1) := by decide +kernel
theorem k_fm_passes_53 : decode me_fm_passes.2.1 53 = .ok (.invokestatic 197, 3) := by decide +kernel
theorem k_fm_passes_56 : decode me_fm_passes.2.1 56 = .ok (.putfield 200, 3) := by decide +kernel
theorem k_fm_passes_59 : decode me_fm_passes.2.1 59 = .ok (.aload_n 0, 1) := by decide +kernel
theorem k_fm_passes_60 : decode me_fm_passes.2.1 60 = .ok (.aload_n 0, 1) := by decide +kernel
theorem k_fm_passes_61 : decode me_fm_passes.2.1 61 = .ok (.getfield 105, 3) := by decide +kernel
theorem k_fm_passes_64 : decode me_fm_passes.2.1 64 = .ok (.iload_n 1, 1) := by decide +kernel
theorem k_fm_passes_65 : decode me_fm_passes.2.1 65 = .ok (.iaload, 1) := by decide +kernel
theorem k_fm_passes_66 : decode me_fm_passes.2.1 66 = .ok (.aload_n 0, 1) := by decide +kernel
theorem k_fm_passes_67 : decode me_fm_passes.2.1 67 = .ok (.getfield 200, 3) := by decide +kernel
theorem k_fm_passes_70 : decode me_fm_passes.2.1 70 = .ok (.isub, 1) := by decide +kernel
theorem k_fm_passes_71 : decode me_fm_passes.2.1 71 = .ok (.putfield 203, 3) := by decide +kernel
theorem k_fm_passes_74 : decode me_fm_passes.2.1 74 = .ok (.aload_n 0, 1) := by decide +kernel
theorem k_fm_passes_75 : decode me_fm_passes.2.1 75 = .ok (.getfield 102, 3) := by decide +kernel
theorem k_fm_passes_78 : decode me_fm_passes.2.1 78 = .ok (.iload_n 1, 1) := by decide +kernel
theorem k_fm_passes_79 : decode me_fm_passes.2.1 79 = .ok (.iload_n 3, 1) := by decide +kernel
theorem k_fm_passes_80 : decode me_fm_passes.2.1 80 = .ok (.aload_n 0, 1) := by decide +kernel
theorem k_fm_passes_81 : decode me_fm_passes.2.1 81 = .ok (.getfield 200, 3) := by decide +kernel
theorem k_fm_passes_84 : decode me_fm_passes.2.1 84 = .ok (.isub, 1) := by decide +kernel
theorem k_fm_passes_85 : decode me_fm_passes.2.1 85 = .ok (.iastore, 1) := by decide +kernel
theorem k_fm_passes_86 : decode me_fm_passes.2.1 86 = .ok (.return_, 1) := by decide +kernel
theorem k_fm_lasts_0 : decode me_fm_lasts.2.1 0 = .ok (.iload_n 1, 1) := by decide +kernel
theorem k_fm_lasts_1 : decode me_fm_lasts.2.1 1 = .ok (.aload_n 0, 1) := by decide +kernel
theorem k_fm_lasts_2 : decode me_fm_lasts.2.1 2 = .ok (.getfield 141, 3) := by decide +kernel
theorem k_fm_lasts_5 : decode me_fm_lasts.2.1 5 = .ok (.invokestatic 144, 3) := by decide +kernel
theorem k_fm_lasts_8 : decode me_fm_lasts.2.1 8 = .ok (.ifCond .ne 9, 3) := by decide +kernel
theorem k_fm_lasts_11 : decode me_fm_lasts.2.1 11 = .ok (.aload_n 0, 1) := by decide +kernel
theorem k_fm_lasts_12 : decode me_fm_lasts.2.1 12 = .ok (.iconst (-1), 1) := by decide +kernel
theorem k_fm_lasts_13 : decode me_fm_lasts.2.1 13 = .ok (.invokevirtual 133, 3) := by decide +kernel
theorem k_fm_lasts_16 : decode me_fm_lasts.2.1 16 = .ok (.ireturn, 1) := by decide +kernel
theorem k_fm_lasts_17 : decode me_fm_lasts.2.1 17 = .ok (.aload_n 0, 1) := by decide +kernel
theorem k_fm_lasts_18 : decode me_fm_lasts.2.1 18 = .ok (.invokevirtual 179, 3) := by decide +kernel
theorem k_fm_lasts_21 : decode me_fm_lasts.2.1 21 = .ok (.iconst 0, 1) := by decide +kernel
theorem k_fm_lasts_22 : decode me_fm_lasts.2.1 22 = .ok (.istore_n 2, 1) := by decide +kernel
theorem k_fm_lasts_23 : decode me_fm_lasts.2.1 23 = .ok (.iload_n 2, 1) := by decide +kernel
theorem k_fm_lasts_24 : decode me_fm_lasts.2.1 24 = .ok (.sipush 1440, 3) := by decide +kernel
theorem k_fm_lasts_27 : decode me_fm_lasts.2.1 27 = .ok (.if_icmp .gt 25, 3) := by decide +kernel
theorem k_fm_lasts_30 : decode me_fm_lasts.2.1 30 = .ok (.aload_n 0, 1) := by decide +kernel
theorem k_fm_lasts_31 : decode me_fm_lasts.2.1 31 = .ok (.getfield 102, 3) := by decide +kernel
theorem k_fm_lasts_34 : decode me_fm_lasts.2.1 34 = .ok (.iload_n 1, 1) := by decide +kernel
theorem k_fm_lasts_35 : decode me_fm_lasts.2.1 35 = .ok (.iaload, 1) := by decide +kernel
theorem k_fm_lasts_36 : decode me_fm_lasts.2.1 36 = .ok (.ifCond .ne 5, 3) := by decide +kernel
theorem k_fm_lasts_39 : decode me_fm_lasts.2.1 39 = .ok (.iload_n 2, 1) := by decide +kernel
theorem k_fm_lasts_40 : decode me_fm_lasts.2.1 40 = .ok (.ireturn, 1) := by decide +kernel
theorem k_fm_lasts_41 : decode me_fm_lasts.2.1 41 = .ok (.aload_n 0, 1) := by decide +kernel
theorem k_fm_lasts_42 : decode me_fm_lasts.2.1 42 = .ok (.iload_n 1, 1) := by decide +kernel
theorem k_fm_lasts_43 : decode me_fm_lasts.2.1 43 = .ok (.invokevirtual 209, 3) := by decide +kernel
theorem k_fm_lasts_46 : decode me_fm_lasts.2.1 46 = .ok (.iinc 2 1, 3) := by decide +kernel
theorem k_fm_lasts_49 : decode me_fm_lasts.2.1 49 = .ok (.goto (-26), 3) := by decide +kernel
theorem k_fm_lasts_52 : decode me_fm_lasts.2.1 52 = .ok (.bipush (-9), 2) := by decide +kernel
theorem k_fm_lasts_54 : decode me_fm_lasts.2.1 54 = .ok (.ireturn, 1) := by decide +kernel
theorem k_fm_view_0 : decode me_fm_view.2.1 0 = .ok (.iload_n 1, 1) := by decide +kernel
theorem k_fm_view_1 : decode me_fm_view.2.1 1 = .ok (.ifCond .le 13, 3) := by decide +kernel
theorem k_fm_view_4 : decode me_fm_view.2.1 4 = .ok (.iload_n 1, 1) := by decide +kernel
theorem k_fm_view_5 : decode me_fm_view.2.1 5 = .ok (.iconst 1, 1) := by decide +kernel
theorem k_fm_view_6 : decode me_fm_view.2.1 6 = .ok (.aload_n 0, 1) := by decide +kernel
theorem k_fm_view_7 : decode me_fm_view.2.1 7 = .ok (.getfield 158, 3) := by decide +kernel
theorem k_fm_view_10 : decode me_fm_view.2.1 10 = .ok (.ishl, 1) := by decide +kernel
theorem k_fm_view_11 : decode me_fm_view.2.1 11 = .ok (.if_icmp .lt 9, 3) := by decide +kernel
theorem k_fm_view_14 : decode me_fm_view.2.1 14 = .ok (.aload_n 0, 1) := by decide +kernel
theorem k_fm_view_15 : decode me_fm_view.2.1 15 = .ok (.iconst (-1), 1) := by decide +kernel
theorem k_fm_view_16 : decode me_fm_view.2.1 16 = .ok (.invokevirtual 133, 3) := by decide +kernel
theorem k_fm_view_19 : decode me_fm_view.2.1 19 = .ok (.ireturn, 1) := by decide +kernel
theorem k_fm_view_20 : decode me_fm_view.2.1 20 = .ok (.aload_n 0, 1) := by decide +kernel
theorem k_fm_view_21 : decode me_fm_view.2.1 21 = .ok (.getfield 213, 3) := by decide +kernel
theorem k_fm_view_24 : decode me_fm_view.2.1 24 = .ok (.ifCond .ne 7, 3) := by decide +kernel
theorem k_fm_view_27 : decode me_fm_view.2.1 27 = .ok (.iconst 0, 1) := by decide +kernel
theorem k_fm_view_28 : decode me_fm_view.2.1 28 = .ok (.goto 16, 3) := by decide +kernel
theorem k_fm_view_31 : decode me_fm_view.2.1 31 = .ok (.aload_n 0, 1) := by decide +kernel
theorem k_fm_view_32 : decode me_fm_view.2.1 32 = .ok (.getfield 81, 3) := by decide +kernel
theorem k_fm_view_35 : decode me_fm_view.2.1 35 = .ok (.aload_n 0, 1) := by decide +kernel
theorem k_fm_view_36 : decode me_fm_view.2.1 36 = .ok (.getfield 213, 3) := by decide +kernel
theorem k_fm_view_39 : decode me_fm_view.2.1 39 = .ok (.iconst 1, 1) := by decide +kernel
theorem k_fm_view_40 : decode me_fm_view.2.1 40 = .ok (.isub, 1) := by decide +kernel
theorem k_fm_view_41 : decode me_fm_view.2.1 41 = .ok (.iaload, 1) := by decide +kernel
theorem k_fm_view_42 : decode me_fm_view.2.1 42 = .ok (.iconst 1, 1) := by decide +kernel
theorem k_fm_view_43 : decode me_fm_view.2.1 43 = .ok (.iadd, 1) := by decide +kernel
theorem k_fm_view_44 : decode me_fm_view.2.1 44 = .ok (.istore 5, 2) := by decide +kernel
theorem k_fm_view_46 : decode me_fm_view.2.1 46 = .ok (.iload_n 2, 1) := by decide +kernel
theorem k_fm_view_47 : decode me_fm_view.2.1 47 = .ok (.iload 5, 2) := by decide +kernel
theorem k_fm_view_49 : decode me_fm_view.2.1 49 = .ok (.if_icmp .lt 13, 3) := by decide +kernel
theorem k_fm_view_52 : decode me_fm_view.2.1 52 = .ok (.iload_n 3, 1) := by decide +kernel
theorem k_fm_view_53 : decode me_fm_view.2.1 53 = .ok (.iload_n 2, 1) := by decide +kernel
theorem k_fm_view_54 : decode me_fm_view.2.1 54 = .ok (.if_icmp .lt 8, 3) := by decide +kernel
theorem k_fm_view_57 : decode me_fm_view.2.1 57 = .ok (.iload 4, 2) := by decide +kernel
theorem k_fm_view_59 : decode me_fm_view.2.1 59 = .ok (.ifCond .ge 10, 3) := by decide +kernel
theorem k_fm_view_62 : decode me_fm_view.2.1 62 = .ok (.aload_n 0, 1) := by decide +kernel
theorem k_fm_view_63 : decode me_fm_view.2.1 63 = .ok (.bipush (-4), 2) := by decide +kernel
theorem k_fm_view_65 : decode me_fm_view.2.1 65 = .ok (.invokevirtual 133, 3) := by decide +kernel
theorem k_fm_view_68 : decode me_fm_view.2.1 68 = .ok (.ireturn, 1) := by decide +kernel
theorem k_fm_view_69 : decode me_fm_view.2.1 69 = .ok (.iload_n 3, 1) := by decide +kernel
theorem k_fm_view_70 : decode me_fm_view.2.1 70 = .ok (.sipush 1440, 3) := by decide +kernel
theorem k_fm_view_73 : decode me_fm_view.2.1 73 = .ok (.if_icmp .gt 20, 3) := by decide +kernel
theorem k_fm_view_76 : decode me_fm_view.2.1 76 = .ok (.iload 4, 2) := by decide +kernel
theorem k_fm_view_78 : decode me_fm_view.2.1 78 = .ok (.sipush 500, 3) := by decide +kernel
theorem k_fm_view_81 : decode me_fm_view.2.1 81 = .ok (.if_icmp .gt 12, 3) := by decide +kernel
theorem k_fm_view_84 : decode me_fm_view.2.1 84 = .ok (.aload_n 0, 1) := by decide +kernel
theorem k_fm_view_85 : decode me_fm_view.2.1 85 = .ok (.getfield 213, 3) := by decide +kernel
theorem k_fm_view_88 : decode me_fm_view.2.1 88 = .ok (.bipush 12, 2) := by decide +kernel
theorem k_fm_view_90 : decode me_fm_view.2.1 90 = .ok (.if_icmp .ne 10, 3) := by decide +kernel
theorem k_fm_view_93 : decode me_fm_view.2.1 93 = .ok (.aload_n 0, 1) := by decide +kernel
theorem k_fm_view_94 : decode me_fm_view.2.1 94 = .ok (.bipush (-6), 2) := by decide +kernel
theorem k_fm_view_96 : decode me_fm_view.2.1 96 = .ok (.invokevirtual 133, 3) := by decide +kernel
theorem k_fm_view_99 : decode me_fm_view.2.1 99 = .ok (.ireturn, 1) := by decide +kernel
theorem k_fm_view_100 : decode me_fm_view.2.1 100 = .ok (.aload_n 0, 1) := by decide +kernel
theorem k_fm_view_101 : decode me_fm_view.2.1 101 = .ok (.getfield 75, 3) := by decide +kernel
theorem k_fm_view_104 : decode me_fm_view.2.1 104 = .ok (.aload_n 0, 1) := by decide +kernel
theorem k_fm_view_105 : decode me_fm_view.2.1 105 = .ok (.getfield 213, 3) := by decide +kernel
theorem k_fm_view_108 : decode me_fm_view.2.1 108 = .ok (.iload_n 1, 1) := by decide +kernel
theorem k_fm_view_109 : decode me_fm_view.2.1 109 = .ok (.iastore, 1) := by decide +kernel
theorem k_fm_view_110 : decode me_fm_view.2.1 110 = .ok (.aload_n 0, 1) := by decide +kernel
theorem k_fm_view_111 : decode me_fm_view.2.1 111 = .ok (.getfield 78, 3) := by decide +kernel
theorem k_fm_view_114 : decode me_fm_view.2.1 114 = .ok (.aload_n 0, 1) := by decide +kernel
theorem k_fm_view_115 : decode me_fm_view.2.1 115 = .ok (.getfield 213, 3) := by decide +kernel
theorem k_fm_view_118 : decode me_fm_view.2.1 118 = .ok (.iload_n 2, 1) := by decide +kernel
theorem k_fm_view_119 : decode me_fm_view.2.1 119 = .ok (.iastore, 1) := by decide +kernel
theorem k_fm_view_120 : decode me_fm_view.2.1 120 = .ok (.aload_n 0, 1) := by decide +kernel
theorem k_fm_view_121 : decode me_fm_view.2.1 121 = .ok (.getfield 81, 3) := by decide +kernel
theorem k_fm_view_124 : decode me_fm_view.2.1 124 = .ok (.aload_n 0, 1) := by decide +kernel
theorem k_fm_view_125 : decode me_fm_view.2.1 125 = .ok (.getfield 213, 3) := by decide +kernel
theorem k_fm_view_128 : decode me_fm_view.2.1 128 = .ok (.iload_n 3, 1) := by decide +kernel
theorem k_fm_view_129 : decode me_fm_view.2.1 129 = .ok (.iastore, 1) := by decide +kernel
theorem k_fm_view_130 : decode me_fm_view.2.1 130 = .ok (.aload_n 0, 1) := by decide +kernel
theorem k_fm_view_131 : decode me_fm_view.2.1 131 = .ok (.getfield 84, 3) := by decide +kernel
theorem k_fm_view_134 : decode me_fm_view.2.1 134 = .ok (.aload_n 0, 1) := by decide +kernel
theorem k_fm_view_135 : decode me_fm_view.2.1 135 = .ok (.getfield 213, 3) := by decide +kernel
theorem k_fm_view_138 : decode me_fm_view.2.1 138 = .ok (.iload 4, 2) := by decide +kernel
theorem k_fm_view_140 : decode me_fm_view.2.1 140 = .ok (.iastore, 1) := by decide +kernel
theorem k_fm_view_141 : decode me_fm_view.2.1 141 = .ok (.aload_n 0, 1) := by decide +kernel
theorem k_fm_view_142 : decode me_fm_view.2.1 142 = .ok (.dup, 1) := by decide +kernel
theorem k_fm_view_143 : decode me_fm_view.2.1 143 = .ok (.getfield 213, 3) := by decide +kernel
theorem k_fm_view_146 : decode me_fm_view.2.1 146 = .ok (.iconst 1, 1) := by decide +kernel
theorem k_fm_view_147 : decode me_fm_view.2.1 147 = .ok (.iadd, 1) := by decide +kernel
theorem k_fm_view_148 : decode me_fm_view.2.1 148 = .ok (.putfield 213, 3) := by decide +kernel
theorem k_fm_view_151 : decode me_fm_view.2.1 151 = .ok (.aload_n 0, 1) := by decide +kernel
theorem k_fm_view_152 : decode me_fm_view.2.1 152 = .ok (.getfield 213, 3) := by decide +kernel
theorem k_fm_view_155 : decode me_fm_view.2.1 155 = .ok (.iconst 1, 1) := by decide +kernel
theorem k_fm_view_156 : decode me_fm_view.2.1 156 = .ok (.isub, 1) := by decide +kernel
theorem k_fm_view_157 : decode me_fm_view.2.1 157 = .ok (.ireturn, 1) := by decide +kernel
theorem k_fm_unview_0 : decode me_fm_unview.2.1 0 = .ok (.aload_n 0, 1) := by decide +kernel
theorem k_fm_unview_1 : decode me_fm_unview.2.1 1 = .ok (.getfield 213, 3) := by decide +kernel
theorem k_fm_unview_4 : decode me_fm_unview.2.1 4 = .ok (.ifCond .ne 10, 3) := by decide +kernel
theorem k_fm_unview_7 : decode me_fm_unview.2.1 7 = .ok (.aload_n 0, 1) := by decide +kernel
theorem k_fm_unview_8 : decode me_fm_unview.2.1 8 = .ok (.bipush (-3), 2) := by decide +kernel
theorem k_fm_unview_10 : decode me_fm_unview.2.1 10 = .ok (.invokevirtual 133, 3) := by decide +kernel
theorem k_fm_unview_13 : decode me_fm_unview.2.1 13 = .ok (.ireturn, 1) := by decide +kernel
theorem k_fm_unview_14 : decode me_fm_unview.2.1 14 = .ok (.aload_n 0, 1) := by decide +kernel
theorem k_fm_unview_15 : decode me_fm_unview.2.1 15 = .ok (.dup, 1) := by decide +kernel
theorem k_fm_unview_16 : decode me_fm_unview.2.1 16 = .ok (.getfield 213, 3) := by decide +kernel
theorem k_fm_unview_19 : decode me_fm_unview.2.1 19 = .ok (.iconst 1, 1) := by decide +kernel
theorem k_fm_unview_20 : decode me_fm_unview.2.1 20 = .ok (.isub, 1) := by decide +kernel
theorem k_fm_unview_21 : decode me_fm_unview.2.1 21 = .ok (.putfield 213, 3) := by decide +kernel
theorem k_fm_unview_24 : decode me_fm_unview.2.1 24 = .ok (.aload_n 0, 1) := by decide +kernel
theorem k_fm_unview_25 : decode me_fm_unview.2.1 25 = .ok (.getfield 213, 3) := by decide +kernel
theorem k_fm_unview_28 : decode me_fm_unview.2.1 28 = .ok (.ireturn, 1) := by decide +kernel
theorem k_fm_walk_0 : decode me_fm_walk.2.1 0 = .ok (.iload_n 1, 1) := by decide +kernel
theorem k_fm_walk_1 : decode me_fm_walk.2.1 1 = .ok (.iconst 5, 1) := by decide +kernel
theorem k_fm_walk_2 : decode me_fm_walk.2.1 2 = .ok (.invokestatic 144, 3) := by decide +kernel
theorem k_fm_walk_5 : decode me_fm_walk.2.1 5 = .ok (.ifCond .ne 10, 3) := by decide +kernel
theorem k_fm_walk_8 : decode me_fm_walk.2.1 8 = .ok (.aload_n 0, 1) := by decide +kernel
theorem k_fm_walk_9 : decode me_fm_walk.2.1 9 = .ok (.bipush (-2), 2) := by decide +kernel
theorem k_fm_walk_11 : decode me_fm_walk.2.1 11 = .ok (.invokevirtual 133, 3) := by decide +kernel
theorem k_fm_walk_14 : decode me_fm_walk.2.1 14 = .ok (.ireturn, 1) := by decide +kernel
theorem k_fm_walk_15 : decode me_fm_walk.2.1 15 = .ok (.aload_n 0, 1) := by decide +kernel
theorem k_fm_walk_16 : decode me_fm_walk.2.1 16 = .ok (.invokevirtual 240, 3) := by decide +kernel
theorem k_fm_walk_19 : decode me_fm_walk.2.1 19 = .ok (.ifCond .ne 10, 3) := by decide +kernel
theorem k_fm_walk_22 : decode me_fm_walk.2.1 22 = .ok (.aload_n 0, 1) := by decide +kernel
theorem k_fm_walk_23 : decode me_fm_walk.2.1 23 = .ok (.bipush (-3), 2) := by decide +kernel
theorem k_fm_walk_25 : decode me_fm_walk.2.1 25 = .ok (.invokevirtual 133, 3) := by decide +kernel
theorem k_fm_walk_28 : decode me_fm_walk.2.1 28 = .ok (.ireturn, 1) := by decide +kernel
theorem k_fm_walk_29 : decode me_fm_walk.2.1 29 = .ok (.aload_n 0, 1) := by decide +kernel
theorem k_fm_walk_30 : decode me_fm_walk.2.1 30 = .ok (.iconst 1, 1) := by decide +kernel
theorem k_fm_walk_31 : decode me_fm_walk.2.1 31 = .ok (.invokevirtual 244, 3) := by decide +kernel
theorem k_fm_walk_34 : decode me_fm_walk.2.1 34 = .ok (.iload_n 1, 1) := by decide +kernel
theorem k_fm_walk_35 : decode me_fm_walk.2.1 35 = .ok (.ifCond .ne 10, 3) := by decide +kernel
theorem k_fm_walk_38 : decode me_fm_walk.2.1 38 = .ok (.aload_n 0, 1) := by decide +kernel
theorem k_fm_walk_39 : decode me_fm_walk.2.1 39 = .ok (.getfield 216, 3) := by decide +kernel
theorem k_fm_walk_42 : decode me_fm_walk.2.1 42 = .ok (.goto 43, 3) := by decide +kernel
theorem k_fm_walk_45 : decode me_fm_walk.2.1 45 = .ok (.iload_n 1, 1) := by decide +kernel
theorem k_fm_walk_46 : decode me_fm_walk.2.1 46 = .ok (.iconst 1, 1) := by decide +kernel
theorem k_fm_walk_47 : decode me_fm_walk.2.1 47 = .ok (.if_icmp .ne 10, 3) := by decide +kernel
theorem k_fm_walk_50 : decode me_fm_walk.2.1 50 = .ok (.aload_n 0, 1) := by decide +kernel
theorem k_fm_walk_51 : decode me_fm_walk.2.1 51 = .ok (.getfield 219, 3) := by decide +kernel
theorem k_fm_walk_54 : decode me_fm_walk.2.1 54 = .ok (.goto 31, 3) := by decide +kernel
theorem k_fm_walk_57 : decode me_fm_walk.2.1 57 = .ok (.iload_n 1, 1) := by decide +kernel
theorem k_fm_walk_58 : decode me_fm_walk.2.1 58 = .ok (.iconst 2, 1) := by decide +kernel
theorem k_fm_walk_59 : decode me_fm_walk.2.1 59 = .ok (.if_icmp .ne 10, 3) := by decide +kernel
theorem k_fm_walk_62 : decode me_fm_walk.2.1 62 = .ok (.aload_n 0, 1) := by decide +kernel
theorem k_fm_walk_63 : decode me_fm_walk.2.1 63 = .ok (.getfield 222, 3) := by decide +kernel
theorem k_fm_walk_66 : decode me_fm_walk.2.1 66 = .ok (.goto 19, 3) := by decide +kernel
theorem k_fm_walk_69 : decode me_fm_walk.2.1 69 = .ok (.iload_n 1, 1) := by decide +kernel
theorem k_fm_walk_70 : decode me_fm_walk.2.1 70 = .ok (.iconst 3, 1) := by decide +kernel
theorem k_fm_walk_71 : decode me_fm_walk.2.1 71 = .ok (.if_icmp .ne 10, 3) := by decide +kernel
theorem k_fm_walk_74 : decode me_fm_walk.2.1 74 = .ok (.aload_n 0, 1) := by decide +kernel
theorem k_fm_walk_75 : decode me_fm_walk.2.1 75 = .ok (.getfield 225, 3) := by decide +kernel
theorem k_fm_walk_78 : decode me_fm_walk.2.1 78 = .ok (.goto 7, 3) := by decide +kernel
theorem k_fm_walk_81 : decode me_fm_walk.2.1 81 = .ok (.aload_n 0, 1) := by decide +kernel
theorem k_fm_walk_82 : decode me_fm_walk.2.1 82 = .ok (.getfield 228, 3) := by decide +kernel
theorem k_fm_walk_85 : decode me_fm_walk.2.1 85 = .ok (.ireturn, 1) := by decide +kernel
theorem k_fm_hasWalk_0 : decode me_fm_hasWalk.2.1 0 = .ok (.aload_n 0, 1) := by decide +kernel
theorem k_fm_hasWalk_1 : decode me_fm_hasWalk.2.1 1 = .ok (.getfield 213, 3) := by decide +kernel
theorem k_fm_hasWalk_4 : decode me_fm_hasWalk.2.1 4 = .ok (.ifCond .le 25, 3) := by decide +kernel
theorem k_fm_hasWalk_7 : decode me_fm_hasWalk.2.1 7 = .ok (.aload_n 0, 1) := by decide +kernel
theorem k_fm_hasWalk_8 : decode me_fm_hasWalk.2.1 8 = .ok (.getfield 81, 3) := by decide +kernel
theorem k_fm_hasWalk_11 : decode me_fm_hasWalk.2.1 11 = .ok (.aload_n 0, 1) := by decide +kernel
theorem k_fm_hasWalk_12 : decode me_fm_hasWalk.2.1 12 = .ok (.getfield 213, 3) := by decide +kernel
theorem k_fm_hasWalk_15 : decode me_fm_hasWalk.2.1 15 = .ok (.iconst 1, 1) := by decide +kernel
theorem k_fm_hasWalk_16 : decode me_fm_hasWalk.2.1 16 = .ok (.isub, 1) := by decide +kernel
theorem k_fm_hasWalk_17 : decode me_fm_hasWalk.2.1 17 = .ok (.iaload, 1) := by decide +kernel
theorem k_fm_hasWalk_18 : decode me_fm_hasWalk.2.1 18 = .ok (.aload_n 0, 1) := by decide +kernel
theorem k_fm_hasWalk_19 : decode me_fm_hasWalk.2.1 19 = .ok (.getfield 206, 3) := by decide +kernel
theorem k_fm_hasWalk_22 : decode me_fm_hasWalk.2.1 22 = .ok (.if_icmp .lt 7, 3) := by decide +kernel
theorem k_fm_hasWalk_25 : decode me_fm_hasWalk.2.1 25 = .ok (.iconst 1, 1) := by decide +kernel
theorem k_fm_hasWalk_26 : decode me_fm_hasWalk.2.1 26 = .ok (.goto 4, 3) := by decide +kernel
theorem k_fm_hasWalk_29 : decode me_fm_hasWalk.2.1 29 = .ok (.iconst 0, 1) := by decide +kernel
theorem k_fm_hasWalk_30 : decode me_fm_hasWalk.2.1 30 = .ok (.ireturn, 1) := by decide +kernel
theorem k_fm_walks_0 : decode me_fm_walks.2.1 0 = .ok (.aload_n 0, 1) := by decide +kernel
theorem k_fm_walks_1 : decode me_fm_walks.2.1 1 = .ok (.invokevirtual 179, 3) := by decide +kernel
theorem k_fm_walks_4 : decode me_fm_walks.2.1 4 = .ok (.aload_n 0, 1) := by decide +kernel
theorem k_fm_walks_5 : decode me_fm_walks.2.1 5 = .ok (.bipush (-9), 2) := by decide +kernel
theorem k_fm_walks_7 : decode me_fm_walks.2.1 7 = .ok (.putfield 216, 3) := by decide +kernel
theorem k_fm_walks_10 : decode me_fm_walks.2.1 10 = .ok (.aload_n 0, 1) := by decide +kernel
theorem k_fm_walks_11 : decode me_fm_walks.2.1 11 = .ok (.bipush (-9), 2) := by decide +kernel
theorem k_fm_walks_13 : decode me_fm_walks.2.1 13 = .ok (.putfield 219, 3) := by decide +kernel
theorem k_fm_walks_16 : decode me_fm_walks.2.1 16 = .ok (.aload_n 0, 1) := by decide +kernel
theorem k_fm_walks_17 : decode me_fm_walks.2.1 17 = .ok (.bipush (-9), 2) := by decide +kernel
theorem k_fm_walks_19 : decode me_fm_walks.2.1 19 = .ok (.putfield 222, 3) := by decide +kernel
theorem k_fm_walks_22 : decode me_fm_walks.2.1 22 = .ok (.aload_n 0, 1) := by decide +kernel
theorem k_fm_walks_23 : decode me_fm_walks.2.1 23 = .ok (.iconst 0, 1) := by decide +kernel
theorem k_fm_walks_24 : decode me_fm_walks.2.1 24 = .ok (.putfield 225, 3) := by decide +kernel
theorem k_fm_walks_27 : decode me_fm_walks.2.1 27 = .ok (.aload_n 0, 1) := by decide +kernel
theorem k_fm_walks_28 : decode me_fm_walks.2.1 28 = .ok (.iconst (-1), 1) := by decide +kernel
theorem k_fm_walks_29 : decode me_fm_walks.2.1 29 = .ok (.putfield 228, 3) := by decide +kernel
theorem k_fm_walks_32 : decode me_fm_walks.2.1 32 = .ok (.aload_n 0, 1) := by decide +kernel
theorem k_fm_walks_33 : decode me_fm_walks.2.1 33 = .ok (.sipush 500, 3) := by decide +kernel
theorem k_fm_walks_36 : decode me_fm_walks.2.1 36 = .ok (.putfield 231, 3) := by decide +kernel
theorem k_fm_walks_39 : decode me_fm_walks.2.1 39 = .ok (.aload_n 0, 1) := by decide +kernel
theorem k_fm_walks_40 : decode me_fm_walks.2.1 40 = .ok (.invokevirtual 234, 3) := by decide +kernel
theorem k_fm_walks_43 : decode me_fm_walks.2.1 43 = .ok (.aload_n 0, 1) := by decide +kernel
theorem k_fm_walks_44 : decode me_fm_walks.2.1 44 = .ok (.getfield 206, 3) := by decide +kernel
theorem k_fm_walks_47 : decode me_fm_walks.2.1 47 = .ok (.istore_n 2, 1) := by decide +kernel
theorem k_fm_walks_48 : decode me_fm_walks.2.1 48 = .ok (.iload_n 2, 1) := by decide +kernel
theorem k_fm_walks_49 : decode me_fm_walks.2.1 49 = .ok (.aload_n 0, 1) := by decide +kernel
theorem k_fm_walks_50 : decode me_fm_walks.2.1 50 = .ok (.getfield 81, 3) := by decide +kernel
theorem k_fm_walks_53 : decode me_fm_walks.2.1 53 = .ok (.aload_n 0, 1) := by decide +kernel
theorem k_fm_walks_54 : decode me_fm_walks.2.1 54 = .ok (.getfield 213, 3) := by decide +kernel
theorem k_fm_walks_57 : decode me_fm_walks.2.1 57 = .ok (.iconst 1, 1) := by decide +kernel
theorem k_fm_walks_58 : decode me_fm_walks.2.1 58 = .ok (.isub, 1) := by decide +kernel
theorem k_fm_walks_59 : decode me_fm_walks.2.1 59 = .ok (.iaload, 1) := by decide +kernel
theorem k_fm_walks_60 : decode me_fm_walks.2.1 60 = .ok (.if_icmp .gt 200, 3) := by decide +kernel
theorem k_fm_walks_63 : decode me_fm_walks.2.1 63 = .ok (.aload_n 0, 1) := by decide +kernel
theorem k_fm_walks_64 : decode me_fm_walks.2.1 64 = .ok (.iload_n 2, 1) := by decide +kernel
theorem k_fm_walks_65 : decode me_fm_walks.2.1 65 = .ok (.invokevirtual 237, 3) := by decide +kernel
theorem k_fm_walks_68 : decode me_fm_walks.2.1 68 = .ok (.istore_n 3, 1) := by decide +kernel
theorem k_fm_walks_69 : decode me_fm_walks.2.1 69 = .ok (.iconst 0, 1) := by decide +kernel
theorem k_fm_walks_70 : decode me_fm_walks.2.1 70 = .ok (.istore 4, 2) := by decide +kernel
theorem k_fm_walks_72 : decode me_fm_walks.2.1 72 = .ok (.iload 4, 2) := by decide +kernel
theorem k_fm_walks_74 : decode me_fm_walks.2.1 74 = .ok (.aload_n 0, 1) := by decide +kernel
theorem k_fm_walks_75 : decode me_fm_walks.2.1 75 = .ok (.getfield 158, 3) := by decide +kernel
theorem k_fm_walks_78 : decode me_fm_walks.2.1 78 = .ok (.if_icmp .ge 40, 3) := by decide +kernel
theorem k_fm_walks_81 : decode me_fm_walks.2.1 81 = .ok (.aload_n 0, 1) := by decide +kernel
theorem k_fm_walks_82 : decode me_fm_walks.2.1 82 = .ok (.getfield 108, 3) := by decide +kernel
theorem k_fm_walks_85 : decode me_fm_walks.2.1 85 = .ok (.iload 4, 2) := by decide +kernel
theorem k_fm_walks_87 : decode me_fm_walks.2.1 87 = .ok (.iload_n 3, 1) := by decide +kernel
theorem k_fm_walks_88 : decode me_fm_walks.2.1 88 = .ok (.ifCond .lt 22, 3) := by decide +kernel
theorem k_fm_walks_91 : decode me_fm_walks.2.1 91 = .ok (.aload_n 0, 1) := by decide +kernel
theorem k_fm_walks_92 : decode me_fm_walks.2.1 92 = .ok (.getfield 75, 3) := by decide +kernel
theorem k_fm_walks_95 : decode me_fm_walks.2.1 95 = .ok (.iload_n 3, 1) := by decide +kernel
theorem k_fm_walks_96 : decode me_fm_walks.2.1 96 = .ok (.iaload, 1) := by decide +kernel
theorem k_fm_walks_97 : decode me_fm_walks.2.1 97 = .ok (.iload 4, 2) := by decide +kernel
theorem k_fm_walks_99 : decode me_fm_walks.2.1 99 = .ok (.ishr, 1) := by decide +kernel
theorem k_fm_walks_100 : decode me_fm_walks.2.1 100 = .ok (.iconst 1, 1) := by decide +kernel
theorem k_fm_walks_101 : decode me_fm_walks.2.1 101 = .ok (.iand, 1) := by decide +kernel
theorem k_fm_walks_102 : decode me_fm_walks.2.1 102 = .ok (.iconst 1, 1) := by decide +kernel
theorem k_fm_walks_103 : decode me_fm_walks.2.1 103 = .ok (.if_icmp .ne 7, 3) := by decide +kernel
theorem k_fm_walks_106 : decode me_fm_walks.2.1 106 = .ok (.iconst 1, 1) := by decide +kernel
theorem k_fm_walks_107 : decode me_fm_walks.2.1 107 = .ok (.goto 4, 3) := by decide +kernel
theorem k_fm_walks_110 : decode me_fm_walks.2.1 110 = .ok (.iconst 0, 1) := by decide +kernel
theorem k_fm_walks_111 : decode me_fm_walks.2.1 111 = .ok (.bastore, 1) := by decide +kernel
theorem k_fm_walks_112 : decode me_fm_walks.2.1 112 = .ok (.iinc 4 1, 3) := by decide +kernel
theorem k_fm_walks_115 : decode me_fm_walks.2.1 115 = .ok (.goto (-43), 3) := by decide +kernel
theorem k_fm_walks_118 : decode me_fm_walks.2.1 118 = .ok (.aload_n 0, 1) := by decide +kernel
theorem k_fm_walks_119 : decode me_fm_walks.2.1 119 = .ok (.invokevirtual 176, 3) := by decide +kernel
theorem k_fm_walks_122 : decode me_fm_walks.2.1 122 = .ok (.iconst 0, 1) := by decide +kernel
theorem k_fm_walks_123 : decode me_fm_walks.2.1 123 = .ok (.istore 4, 2) := by decide +kernel
theorem k_fm_walks_125 : decode me_fm_walks.2.1 125 = .ok (.iload 4, 2) := by decide +kernel
theorem k_fm_walks_127 : decode me_fm_walks.2.1 127 = .ok (.aload_n 0, 1) := by decide +kernel
theorem k_fm_walks_128 : decode me_fm_walks.2.1 128 = .ok (.getfield 158, 3) := by decide +kernel
theorem k_fm_walks_131 : decode me_fm_walks.2.1 131 = .ok (.if_icmp .ge 82, 3) := by decide +kernel
theorem k_fm_walks_134 : decode me_fm_walks.2.1 134 = .ok (.iload_n 3, 1) := by decide +kernel
theorem k_fm_walks_135 : decode me_fm_walks.2.1 135 = .ok (.ifCond .lt 78, 3) := by decide +kernel
theorem k_fm_walks_138 : decode me_fm_walks.2.1 138 = .ok (.aload_n 0, 1) := by decide +kernel
theorem k_fm_walks_139 : decode me_fm_walks.2.1 139 = .ok (.getfield 108, 3) := by decide +kernel
theorem k_fm_walks_142 : decode me_fm_walks.2.1 142 = .ok (.iload 4, 2) := by decide +kernel
theorem k_fm_walks_144 : decode me_fm_walks.2.1 144 = .ok (.baload, 1) := by decide +kernel
theorem k_fm_walks_145 : decode me_fm_walks.2.1 145 = .ok (.ifCond .ne 6, 3) := by decide +kernel
theorem k_fm_walks_148 : decode me_fm_walks.2.1 148 = .ok (.goto 59, 3) := by decide +kernel
theorem k_fm_walks_151 : decode me_fm_walks.2.1 151 = .ok (.aload_n 0, 1) := by decide +kernel
theorem k_fm_walks_152 : decode me_fm_walks.2.1 152 = .ok (.iload 4, 2) := by decide +kernel
theorem k_fm_walks_154 : decode me_fm_walks.2.1 154 = .ok (.invokevirtual 185, 3) := by decide +kernel
theorem k_fm_walks_157 : decode me_fm_walks.2.1 157 = .ok (.istore 5, 2) := by decide +kernel
theorem k_fm_walks_159 : decode me_fm_walks.2.1 159 = .ok (.aload_n 0, 1) := by decide +kernel
theorem k_fm_walks_160 : decode me_fm_walks.2.1 160 = .ok (.aload_n 0, 1) := by decide +kernel
theorem k_fm_walks_161 : decode me_fm_walks.2.1 161 = .ok (.getfield 231, 3) := by decide +kernel
theorem k_fm_walks_164 : decode me_fm_walks.2.1 164 = .ok (.iload 5, 2) := by decide +kernel
theorem k_fm_walks_166 : decode me_fm_walks.2.1 166 = .ok (.invokestatic 197, 3) := by decide +kernel
theorem k_fm_walks_169 : decode me_fm_walks.2.1 169 = .ok (.putfield 231, 3) := by decide +kernel
theorem k_fm_walks_172 : decode me_fm_walks.2.1 172 = .ok (.iload_n 1, 1) := by decide +kernel
theorem k_fm_walks_173 : decode me_fm_walks.2.1 173 = .ok (.ifCond .eq 34, 3) := by decide +kernel
theorem k_fm_walks_176 : decode me_fm_walks.2.1 176 = .ok (.iload 5, 2) := by decide +kernel
theorem k_fm_walks_178 : decode me_fm_walks.2.1 178 = .ok (.aload_n 0, 1) := by decide +kernel
theorem k_fm_walks_179 : decode me_fm_walks.2.1 179 = .ok (.getfield 84, 3) := by decide +kernel
theorem k_fm_walks_182 : decode me_fm_walks.2.1 182 = .ok (.iload_n 3, 1) := by decide +kernel
theorem k_fm_walks_183 : decode me_fm_walks.2.1 183 = .ok (.iaload, 1) := by decide +kernel
theorem k_fm_walks_184 : decode me_fm_walks.2.1 184 = .ok (.if_icmp .lt 6, 3) := by decide +kernel
theorem k_fm_walks_187 : decode me_fm_walks.2.1 187 = .ok (.goto 20, 3) := by decide +kernel
theorem k_fm_walks_190 : decode me_fm_walks.2.1 190 = .ok (.aload_n 0, 1) := by decide +kernel
theorem k_fm_walks_191 : decode me_fm_walks.2.1 191 = .ok (.iload_n 2, 1) := by decide +kernel
theorem k_fm_walks_192 : decode me_fm_walks.2.1 192 = .ok (.putfield 216, 3) := by decide +kernel
theorem k_fm_walks_195 : decode me_fm_walks.2.1 195 = .ok (.aload_n 0, 1) := by decide +kernel
theorem k_fm_walks_196 : decode me_fm_walks.2.1 196 = .ok (.iload_n 3, 1) := by decide +kernel
theorem k_fm_walks_197 : decode me_fm_walks.2.1 197 = .ok (.putfield 219, 3) := by decide +kernel
theorem k_fm_walks_200 : decode me_fm_walks.2.1 200 = .ok (.aload_n 0, 1) := by decide +kernel
theorem k_fm_walks_201 : decode me_fm_walks.2.1 201 = .ok (.iload 4, 2) := by decide +kernel
theorem k_fm_walks_203 : decode me_fm_walks.2.1 203 = .ok (.putfield 222, 3) := by decide +kernel
theorem k_fm_walks_206 : decode me_fm_walks.2.1 206 = .ok (.return_, 1) := by decide +kernel
theorem k_fm_walks_207 : decode me_fm_walks.2.1 207 = .ok (.iinc 4 1, 3) := by decide +kernel
theorem k_fm_walks_210 : decode me_fm_walks.2.1 210 = .ok (.goto (-85), 3) := by decide +kernel
theorem k_fm_walks_213 : decode me_fm_walks.2.1 213 = .ok (.iconst 0, 1) := by decide +kernel
theorem k_fm_walks_214 : decode me_fm_walks.2.1 214 = .ok (.istore 4, 2) := by decide +kernel
theorem k_fm_walks_216 : decode me_fm_walks.2.1 216 = .ok (.iload 4, 2) := by decide +kernel
theorem k_fm_walks_218 : decode me_fm_walks.2.1 218 = .ok (.aload_n 0, 1) := by decide +kernel
theorem k_fm_walks_219 : decode me_fm_walks.2.1 219 = .ok (.getfield 141, 3) := by decide +kernel
theorem k_fm_walks_222 : decode me_fm_walks.2.1 222 = .ok (.if_icmp .ge 28, 3) := by decide +kernel
theorem k_fm_walks_225 : decode me_fm_walks.2.1 225 = .ok (.aload_n 0, 1) := by decide +kernel
theorem k_fm_walks_226 : decode me_fm_walks.2.1 226 = .ok (.iload 4, 2) := by decide +kernel
theorem k_fm_walks_228 : decode me_fm_walks.2.1 228 = .ok (.invokevirtual 209, 3) := by decide +kernel
theorem k_fm_walks_231 : decode me_fm_walks.2.1 231 = .ok (.aload_n 0, 1) := by decide +kernel
theorem k_fm_walks_232 : decode me_fm_walks.2.1 232 = .ok (.dup, 1) := by decide +kernel
theorem k_fm_walks_233 : decode me_fm_walks.2.1 233 = .ok (.getfield 225, 3) := by decide +kernel
theorem k_fm_walks_236 : decode me_fm_walks.2.1 236 = .ok (.aload_n 0, 1) := by decide +kernel
theorem k_fm_walks_237 : decode me_fm_walks.2.1 237 = .ok (.getfield 200, 3) := by decide +kernel
theorem k_fm_walks_240 : decode me_fm_walks.2.1 240 = .ok (.iadd, 1) := by decide +kernel
theorem k_fm_walks_241 : decode me_fm_walks.2.1 241 = .ok (.putfield 225, 3) := by decide +kernel
theorem k_fm_walks_244 : decode me_fm_walks.2.1 244 = .ok (.iinc 4 1, 3) := by decide +kernel
theorem k_fm_walks_247 : decode me_fm_walks.2.1 247 = .ok (.goto (-31), 3) := by decide +kernel
theorem k_fm_walks_250 : decode me_fm_walks.2.1 250 = .ok (.aload_n 0, 1) := by decide +kernel
theorem k_fm_walks_251 : decode me_fm_walks.2.1 251 = .ok (.invokevirtual 234, 3) := by decide +kernel
theorem k_fm_walks_254 : decode me_fm_walks.2.1 254 = .ok (.iinc 2 1, 3) := by decide +kernel
theorem k_fm_walks_257 : decode me_fm_walks.2.1 257 = .ok (.goto (-209), 3) := by decide +kernel
theorem k_fm_walks_260 : decode me_fm_walks.2.1 260 = .ok (.return_, 1) := by decide +kernel
theorem k_fm_looksAt_0 : decode me_fm_looksAt.2.1 0 = .ok (.iconst 0, 1) := by decide +kernel
theorem k_fm_looksAt_1 : decode me_fm_looksAt.2.1 1 = .ok (.istore_n 1, 1) := by decide +kernel
theorem k_fm_looksAt_2 : decode me_fm_looksAt.2.1 2 = .ok (.iload_n 1, 1) := by decide +kernel
theorem k_fm_looksAt_3 : decode me_fm_looksAt.2.1 3 = .ok (.aload_n 0, 1) := by decide +kernel
theorem k_fm_looksAt_4 : decode me_fm_looksAt.2.1 4 = .ok (.getfield 141, 3) := by decide +kernel
theorem k_fm_looksAt_7 : decode me_fm_looksAt.2.1 7 = .ok (.if_icmp .ge 42, 3) := by decide +kernel
theorem k_fm_looksAt_10 : decode me_fm_looksAt.2.1 10 = .ok (.aload_n 0, 1) := by decide +kernel
theorem k_fm_looksAt_11 : decode me_fm_looksAt.2.1 11 = .ok (.aload_n 0, 1) := by decide +kernel
theorem k_fm_looksAt_12 : decode me_fm_looksAt.2.1 12 = .ok (.getfield 228, 3) := by decide +kernel
theorem k_fm_looksAt_15 : decode me_fm_looksAt.2.1 15 = .ok (.ifCond .ge 12, 3) := by decide +kernel
theorem k_fm_looksAt_18 : decode me_fm_looksAt.2.1 18 = .ok (.aload_n 0, 1) := by decide +kernel
theorem k_fm_looksAt_19 : decode me_fm_looksAt.2.1 19 = .ok (.getfield 102, 3) := by decide +kernel
theorem k_fm_looksAt_22 : decode me_fm_looksAt.2.1 22 = .ok (.iload_n 1, 1) := by decide +kernel
theorem k_fm_looksAt_23 : decode me_fm_looksAt.2.1 23 = .ok (.iaload, 1) := by decide +kernel
theorem k_fm_looksAt_24 : decode me_fm_looksAt.2.1 24 = .ok (.goto 16, 3) := by decide +kernel
theorem k_fm_looksAt_27 : decode me_fm_looksAt.2.1 27 = .ok (.aload_n 0, 1) := by decide +kernel
theorem k_fm_looksAt_28 : decode me_fm_looksAt.2.1 28 = .ok (.getfield 228, 3) := by decide +kernel
theorem k_fm_looksAt_31 : decode me_fm_looksAt.2.1 31 = .ok (.aload_n 0, 1) := by decide +kernel
theorem k_fm_looksAt_32 : decode me_fm_looksAt.2.1 32 = .ok (.getfield 102, 3) := by decide +kernel
theorem k_fm_looksAt_35 : decode me_fm_looksAt.2.1 35 = .ok (.iload_n 1, 1) := by decide +kernel
theorem k_fm_looksAt_36 : decode me_fm_looksAt.2.1 36 = .ok (.iaload, 1) := by decide +kernel
theorem k_fm_looksAt_37 : decode me_fm_looksAt.2.1 37 = .ok (.invokestatic 197, 3) := by decide +kernel
theorem k_fm_looksAt_40 : decode me_fm_looksAt.2.1 40 = .ok (.putfield 228, 3) := by decide +kernel
theorem k_fm_looksAt_43 : decode me_fm_looksAt.2.1 43 = .ok (.iinc 1 1, 3) := by decide +kernel
theorem k_fm_looksAt_46 : decode me_fm_looksAt.2.1 46 = .ok (.goto (-44), 3) := by decide +kernel
theorem k_fm_looksAt_49 : decode me_fm_looksAt.2.1 49 = .ok (.return_, 1) := by decide +kernel
theorem k_fm_viewAt_0 : decode me_fm_viewAt.2.1 0 = .ok (.iconst 0, 1) := by decide +kernel
theorem k_fm_viewAt_1 : decode me_fm_viewAt.2.1 1 = .ok (.istore_n 2, 1) := by decide +kernel
theorem k_fm_viewAt_2 : decode me_fm_viewAt.2.1 2 = .ok (.iload_n 2, 1) := by decide +kernel
theorem k_fm_viewAt_3 : decode me_fm_viewAt.2.1 3 = .ok (.aload_n 0, 1) := by decide +kernel
theorem k_fm_viewAt_4 : decode me_fm_viewAt.2.1 4 = .ok (.getfield 213, 3) := by decide +kernel
theorem k_fm_viewAt_7 : decode me_fm_viewAt.2.1 7 = .ok (.if_icmp .ge 31, 3) := by decide +kernel
theorem k_fm_viewAt_10 : decode me_fm_viewAt.2.1 10 = .ok (.aload_n 0, 1) := by decide +kernel
theorem k_fm_viewAt_11 : decode me_fm_viewAt.2.1 11 = .ok (.getfield 78, 3) := by decide +kernel
theorem k_fm_viewAt_14 : decode me_fm_viewAt.2.1 14 = .ok (.iload_n 2, 1) := by decide +kernel
theorem k_fm_viewAt_15 : decode me_fm_viewAt.2.1 15 = .ok (.iaload, 1) := by decide +kernel
theorem k_fm_viewAt_16 : decode me_fm_viewAt.2.1 16 = .ok (.iload_n 1, 1) := by decide +kernel
theorem k_fm_viewAt_17 : decode me_fm_viewAt.2.1 17 = .ok (.if_icmp .gt 15, 3) := by decide +kernel
theorem k_fm_viewAt_20 : decode me_fm_viewAt.2.1 20 = .ok (.iload_n 1, 1) := by decide +kernel
theorem k_fm_viewAt_21 : decode me_fm_viewAt.2.1 21 = .ok (.aload_n 0, 1) := by decide +kernel
theorem k_fm_viewAt_22 : decode me_fm_viewAt.2.1 22 = .ok (.getfield 81, 3) := by decide +kernel
theorem k_fm_viewAt_25 : decode me_fm_viewAt.2.1 25 = .ok (.iload_n 2, 1) := by decide +kernel
theorem k_fm_viewAt_26 : decode me_fm_viewAt.2.1 26 = .ok (.iaload, 1) := by decide +kernel
theorem k_fm_viewAt_27 : decode me_fm_viewAt.2.1 27 = .ok (.if_icmp .gt 5, 3) := by decide +kernel
theorem k_fm_viewAt_30 : decode me_fm_viewAt.2.1 30 = .ok (.iload_n 2, 1) := by decide +kernel
theorem k_fm_viewAt_31 : decode me_fm_viewAt.2.1 31 = .ok (.ireturn, 1) := by decide +kernel
theorem k_fm_viewAt_32 : decode me_fm_viewAt.2.1 32 = .ok (.iinc 2 1, 3) := by decide +kernel
theorem k_fm_viewAt_35 : decode me_fm_viewAt.2.1 35 = .ok (.goto (-33), 3) := by decide +kernel
theorem k_fm_viewAt_38 : decode me_fm_viewAt.2.1 38 = .ok (.bipush (-9), 2) := by decide +kernel
theorem k_fm_viewAt_40 : decode me_fm_viewAt.2.1 40 = .ok (.ireturn, 1) := by decide +kernel
theorem k_fm_most_0 : decode me_fm_most.2.1 0 = .ok (.aload_n 0, 1) := by decide +kernel
theorem k_fm_most_1 : decode me_fm_most.2.1 1 = .ok (.invokevirtual 240, 3) := by decide +kernel
theorem k_fm_most_4 : decode me_fm_most.2.1 4 = .ok (.ifCond .ne 10, 3) := by decide +kernel
theorem k_fm_most_7 : decode me_fm_most.2.1 7 = .ok (.aload_n 0, 1) := by decide +kernel
theorem k_fm_most_8 : decode me_fm_most.2.1 8 = .ok (.bipush (-3), 2) := by decide +kernel
theorem k_fm_most_10 : decode me_fm_most.2.1 10 = .ok (.invokevirtual 133, 3) := by decide +kernel
theorem k_fm_most_13 : decode me_fm_most.2.1 13 = .ok (.ireturn, 1) := by decide +kernel
theorem k_fm_most_14 : decode me_fm_most.2.1 14 = .ok (.aload_n 0, 1) := by decide +kernel
theorem k_fm_most_15 : decode me_fm_most.2.1 15 = .ok (.iconst 0, 1) := by decide +kernel
theorem k_fm_most_16 : decode me_fm_most.2.1 16 = .ok (.invokevirtual 244, 3) := by decide +kernel
theorem k_fm_most_19 : decode me_fm_most.2.1 19 = .ok (.aload_n 0, 1) := by decide +kernel
theorem k_fm_most_20 : decode me_fm_most.2.1 20 = .ok (.getfield 231, 3) := by decide +kernel
theorem k_fm_most_23 : decode me_fm_most.2.1 23 = .ok (.ireturn, 1) := by decide +kernel
theorem k_fm_pace_0 : decode me_fm_pace.2.1 0 = .ok (.iload_n 1, 1) := by decide +kernel
theorem k_fm_pace_1 : decode me_fm_pace.2.1 1 = .ok (.iconst 0, 1) := by decide +kernel
theorem k_fm_pace_2 : decode me_fm_pace.2.1 2 = .ok (.bipush 30, 2) := by decide +kernel
theorem k_fm_pace_4 : decode me_fm_pace.2.1 4 = .ok (.invokestatic 148, 3) := by decide +kernel
theorem k_fm_pace_7 : decode me_fm_pace.2.1 7 = .ok (.istore_n 2, 1) := by decide +kernel
theorem k_fm_pace_8 : decode me_fm_pace.2.1 8 = .ok (.iload_n 2, 1) := by decide +kernel
theorem k_fm_pace_9 : decode me_fm_pace.2.1 9 = .ok (.ifCond .eq 9, 3) := by decide +kernel
theorem k_fm_pace_12 : decode me_fm_pace.2.1 12 = .ok (.aload_n 0, 1) := by decide +kernel
theorem k_fm_pace_13 : decode me_fm_pace.2.1 13 = .ok (.iload_n 2, 1) := by decide +kernel
theorem k_fm_pace_14 : decode me_fm_pace.2.1 14 = .ok (.invokevirtual 133, 3) := by decide +kernel
theorem k_fm_pace_17 : decode me_fm_pace.2.1 17 = .ok (.ireturn, 1) := by decide +kernel
theorem k_fm_pace_18 : decode me_fm_pace.2.1 18 = .ok (.aload_n 0, 1) := by decide +kernel
theorem k_fm_pace_19 : decode me_fm_pace.2.1 19 = .ok (.getfield 13, 3) := by decide +kernel
theorem k_fm_pace_22 : decode me_fm_pace.2.1 22 = .ok (.istore_n 3, 1) := by decide +kernel
theorem k_fm_pace_23 : decode me_fm_pace.2.1 23 = .ok (.aload_n 0, 1) := by decide +kernel
theorem k_fm_pace_24 : decode me_fm_pace.2.1 24 = .ok (.iload_n 1, 1) := by decide +kernel
theorem k_fm_pace_25 : decode me_fm_pace.2.1 25 = .ok (.putfield 13, 3) := by decide +kernel
theorem k_fm_pace_28 : decode me_fm_pace.2.1 28 = .ok (.iload_n 3, 1) := by decide +kernel
theorem k_fm_pace_29 : decode me_fm_pace.2.1 29 = .ok (.ireturn, 1) := by decide +kernel
theorem k_fm_tasks_0 : decode me_fm_tasks.2.1 0 = .ok (.aload_n 0, 1) := by decide +kernel
theorem k_fm_tasks_1 : decode me_fm_tasks.2.1 1 = .ok (.invokevirtual 255, 3) := by decide +kernel
theorem k_fm_tasks_4 : decode me_fm_tasks.2.1 4 = .ok (.aload_n 0, 1) := by decide +kernel
theorem k_fm_tasks_5 : decode me_fm_tasks.2.1 5 = .ok (.getfield 248, 3) := by decide +kernel
theorem k_fm_tasks_8 : decode me_fm_tasks.2.1 8 = .ok (.ireturn, 1) := by decide +kernel
theorem k_fm_findTasks_0 : decode me_fm_findTasks.2.1 0 = .ok (.aload_n 0, 1) := by decide +kernel
theorem k_fm_findTasks_1 : decode me_fm_findTasks.2.1 1 = .ok (.iconst 0, 1) := by decide +kernel
theorem k_fm_findTasks_2 : decode me_fm_findTasks.2.1 2 = .ok (.putfield 248, 3) := by decide +kernel
theorem k_fm_findTasks_5 : decode me_fm_findTasks.2.1 5 = .ok (.iconst 0, 1) := by decide +kernel
theorem k_fm_findTasks_6 : decode me_fm_findTasks.2.1 6 = .ok (.istore_n 1, 1) := by decide +kernel
theorem k_fm_findTasks_7 : decode me_fm_findTasks.2.1 7 = .ok (.iconst 0, 1) := by decide +kernel
theorem k_fm_findTasks_8 : decode me_fm_findTasks.2.1 8 = .ok (.istore_n 2, 1) := by decide +kernel
theorem k_fm_findTasks_9 : decode me_fm_findTasks.2.1 9 = .ok (.iload_n 2, 1) := by decide +kernel
theorem k_fm_findTasks_10 : decode me_fm_findTasks.2.1 10 = .ok (.aload_n 0, 1) := by decide +kernel
theorem k_fm_findTasks_11 : decode me_fm_findTasks.2.1 11 = .ok (.getfield 213, 3) := by decide +kernel
theorem k_fm_findTasks_14 : decode me_fm_findTasks.2.1 14 = .ok (.if_icmp .ge 101, 3) := by decide +kernel
theorem k_fm_findTasks_17 : decode me_fm_findTasks.2.1 17 = .ok (.iload_n 2, 1) := by decide +kernel
theorem k_fm_findTasks_18 : decode me_fm_findTasks.2.1 18 = .ok (.ifCond .le 26, 3) := by decide +kernel
theorem k_fm_findTasks_21 : decode me_fm_findTasks.2.1 21 = .ok (.aload_n 0, 1) := by decide +kernel
theorem k_fm_findTasks_22 : decode me_fm_findTasks.2.1 22 = .ok (.getfield 81, 3) := by decide +kernel
theorem k_fm_findTasks_25 : decode me_fm_findTasks.2.1 25 = .ok (.iload_n 2, 1) := by decide +kernel
theorem k_fm_findTasks_26 : decode me_fm_findTasks.2.1 26 = .ok (.iconst 1, 1) := by decide +kernel
theorem k_fm_findTasks_27 : decode me_fm_findTasks.2.1 27 = .ok (.isub, 1) := by decide +kernel
theorem k_fm_findTasks_28 : decode me_fm_findTasks.2.1 28 = .ok (.iaload, 1) := by decide +kernel
theorem k_fm_findTasks_29 : decode me_fm_findTasks.2.1 29 = .ok (.iconst 1, 1) := by decide +kernel
theorem k_fm_findTasks_30 : decode me_fm_findTasks.2.1 30 = .ok (.iadd, 1) := by decide +kernel
theorem k_fm_findTasks_31 : decode me_fm_findTasks.2.1 31 = .ok (.aload_n 0, 1) := by decide +kernel
theorem k_fm_findTasks_32 : decode me_fm_findTasks.2.1 32 = .ok (.getfield 78, 3) := by decide +kernel
theorem k_fm_findTasks_35 : decode me_fm_findTasks.2.1 35 = .ok (.iload_n 2, 1) := by decide +kernel
theorem k_fm_findTasks_36 : decode me_fm_findTasks.2.1 36 = .ok (.iaload, 1) := by decide +kernel
theorem k_fm_findTasks_37 : decode me_fm_findTasks.2.1 37 = .ok (.if_icmp .ne 7, 3) := by decide +kernel
theorem k_fm_findTasks_40 : decode me_fm_findTasks.2.1 40 = .ok (.iconst 1, 1) := by decide +kernel
theorem k_fm_findTasks_41 : decode me_fm_findTasks.2.1 41 = .ok (.goto 4, 3) := by decide +kernel
theorem k_fm_findTasks_44 : decode me_fm_findTasks.2.1 44 = .ok (.iconst 0, 1) := by decide +kernel
theorem k_fm_findTasks_45 : decode me_fm_findTasks.2.1 45 = .ok (.istore_n 3, 1) := by decide +kernel
theorem k_fm_findTasks_46 : decode me_fm_findTasks.2.1 46 = .ok (.iload_n 2, 1) := by decide +kernel
theorem k_fm_findTasks_47 : decode me_fm_findTasks.2.1 47 = .ok (.ifCond .le 25, 3) := by decide +kernel
theorem k_fm_findTasks_50 : decode me_fm_findTasks.2.1 50 = .ok (.iload_n 3, 1) := by decide +kernel
theorem k_fm_findTasks_51 : decode me_fm_findTasks.2.1 51 = .ok (.ifCond .ne 21, 3) := by decide +kernel
theorem k_fm_findTasks_54 : decode me_fm_findTasks.2.1 54 = .ok (.aload_n 0, 1) := by decide +kernel
theorem k_fm_findTasks_55 : decode me_fm_findTasks.2.1 55 = .ok (.aload_n 0, 1) := by decide +kernel
theorem k_fm_findTasks_56 : decode me_fm_findTasks.2.1 56 = .ok (.getfield 81, 3) := by decide +kernel
theorem k_fm_findTasks_59 : decode me_fm_findTasks.2.1 59 = .ok (.iload_n 2, 1) := by decide +kernel
theorem k_fm_findTasks_60 : decode me_fm_findTasks.2.1 60 = .ok (.iconst 1, 1) := by decide +kernel
theorem k_fm_findTasks_61 : decode me_fm_findTasks.2.1 61 = .ok (.isub, 1) := by decide +kernel
theorem k_fm_findTasks_62 : decode me_fm_findTasks.2.1 62 = .ok (.iaload, 1) := by decide +kernel
theorem k_fm_findTasks_63 : decode me_fm_findTasks.2.1 63 = .ok (.iconst 1, 1) := by decide +kernel
theorem k_fm_findTasks_64 : decode me_fm_findTasks.2.1 64 = .ok (.iadd, 1) := by decide +kernel
theorem k_fm_findTasks_65 : decode me_fm_findTasks.2.1 65 = .ok (.iconst 0, 1) := by decide +kernel
theorem k_fm_findTasks_66 : decode me_fm_findTasks.2.1 66 = .ok (.iload_n 1, 1) := by decide +kernel
theorem k_fm_findTasks_67 : decode me_fm_findTasks.2.1 67 = .ok (.invokevirtual 251, 3) := by decide +kernel
theorem k_fm_findTasks_70 : decode me_fm_findTasks.2.1 70 = .ok (.iconst 0, 1) := by decide +kernel
theorem k_fm_findTasks_71 : decode me_fm_findTasks.2.1 71 = .ok (.istore_n 1, 1) := by decide +kernel
theorem k_fm_findTasks_72 : decode me_fm_findTasks.2.1 72 = .ok (.aload_n 0, 1) := by decide +kernel
theorem k_fm_findTasks_73 : decode me_fm_findTasks.2.1 73 = .ok (.aload_n 0, 1) := by decide +kernel
theorem k_fm_findTasks_74 : decode me_fm_findTasks.2.1 74 = .ok (.getfield 78, 3) := by decide +kernel
theorem k_fm_findTasks_77 : decode me_fm_findTasks.2.1 77 = .ok (.iload_n 2, 1) := by decide +kernel
theorem k_fm_findTasks_78 : decode me_fm_findTasks.2.1 78 = .ok (.iaload, 1) := by decide +kernel
theorem k_fm_findTasks_79 : decode me_fm_findTasks.2.1 79 = .ok (.aload_n 0, 1) := by decide +kernel
theorem k_fm_findTasks_80 : decode me_fm_findTasks.2.1 80 = .ok (.getfield 75, 3) := by decide +kernel
theorem k_fm_findTasks_83 : decode me_fm_findTasks.2.1 83 = .ok (.iload_n 2, 1) := by decide +kernel
theorem k_fm_findTasks_84 : decode me_fm_findTasks.2.1 84 = .ok (.iaload, 1) := by decide +kernel
theorem k_fm_findTasks_85 : decode me_fm_findTasks.2.1 85 = .ok (.iload_n 1, 1) := by decide +kernel
theorem k_fm_findTasks_86 : decode me_fm_findTasks.2.1 86 = .ok (.iconst (-1), 1) := by decide +kernel
theorem k_fm_findTasks_87 : decode me_fm_findTasks.2.1 87 = .ok (.ixor, 1) := by decide +kernel
theorem k_fm_findTasks_88 : decode me_fm_findTasks.2.1 88 = .ok (.iand, 1) := by decide +kernel
theorem k_fm_findTasks_89 : decode me_fm_findTasks.2.1 89 = .ok (.iload_n 1, 1) := by decide +kernel
theorem k_fm_findTasks_90 : decode me_fm_findTasks.2.1 90 = .ok (.aload_n 0, 1) := by decide +kernel
theorem k_fm_findTasks_91 : decode me_fm_findTasks.2.1 91 = .ok (.getfield 75, 3) := by decide +kernel
theorem k_fm_findTasks_94 : decode me_fm_findTasks.2.1 94 = .ok (.iload_n 2, 1) := by decide +kernel
theorem k_fm_findTasks_95 : decode me_fm_findTasks.2.1 95 = .ok (.iaload, 1) := by decide +kernel
theorem k_fm_findTasks_96 : decode me_fm_findTasks.2.1 96 = .ok (.iconst (-1), 1) := by decide +kernel
theorem k_fm_findTasks_97 : decode me_fm_findTasks.2.1 97 = .ok (.ixor, 1) := by decide +kernel
theorem k_fm_findTasks_98 : decode me_fm_findTasks.2.1 98 = .ok (.iand, 1) := by decide +kernel
theorem k_fm_findTasks_99 : decode me_fm_findTasks.2.1 99 = .ok (.invokevirtual 251, 3) := by decide +kernel
theorem k_fm_findTasks_102 : decode me_fm_findTasks.2.1 102 = .ok (.aload_n 0, 1) := by decide +kernel
theorem k_fm_findTasks_103 : decode me_fm_findTasks.2.1 103 = .ok (.getfield 75, 3) := by decide +kernel
theorem k_fm_findTasks_106 : decode me_fm_findTasks.2.1 106 = .ok (.iload_n 2, 1) := by decide +kernel
theorem k_fm_findTasks_107 : decode me_fm_findTasks.2.1 107 = .ok (.iaload, 1) := by decide +kernel
theorem k_fm_findTasks_108 : decode me_fm_findTasks.2.1 108 = .ok (.istore_n 1, 1) := by decide +kernel
theorem k_fm_findTasks_109 : decode me_fm_findTasks.2.1 109 = .ok (.iinc 2 1, 3) := by decide +kernel
theorem k_fm_findTasks_112 : decode me_fm_findTasks.2.1 112 = .ok (.goto (-103), 3) := by decide +kernel
theorem k_fm_findTasks_115 : decode me_fm_findTasks.2.1 115 = .ok (.aload_n 0, 1) := by decide +kernel
theorem k_fm_findTasks_116 : decode me_fm_findTasks.2.1 116 = .ok (.getfield 213, 3) := by decide +kernel
theorem k_fm_findTasks_119 : decode me_fm_findTasks.2.1 119 = .ok (.ifCond .le 22, 3) := by decide +kernel
theorem k_fm_findTasks_122 : decode me_fm_findTasks.2.1 122 = .ok (.aload_n 0, 1) := by decide +kernel
theorem k_fm_findTasks_123 : decode me_fm_findTasks.2.1 123 = .ok (.aload_n 0, 1) := by decide +kernel
theorem k_fm_findTasks_124 : decode me_fm_findTasks.2.1 124 = .ok (.getfield 81, 3) := by decide +kernel
theorem k_fm_findTasks_127 : decode me_fm_findTasks.2.1 127 = .ok (.aload_n 0, 1) := by decide +kernel
theorem k_fm_findTasks_128 : decode me_fm_findTasks.2.1 128 = .ok (.getfield 213, 3) := by decide +kernel
theorem k_fm_findTasks_131 : decode me_fm_findTasks.2.1 131 = .ok (.iconst 1, 1) := by decide +kernel
theorem k_fm_findTasks_132 : decode me_fm_findTasks.2.1 132 = .ok (.isub, 1) := by decide +kernel
theorem k_fm_findTasks_133 : decode me_fm_findTasks.2.1 133 = .ok (.iaload, 1) := by decide +kernel
theorem k_fm_findTasks_134 : decode me_fm_findTasks.2.1 134 = .ok (.iconst 1, 1) := by decide +kernel
theorem k_fm_findTasks_135 : decode me_fm_findTasks.2.1 135 = .ok (.iadd, 1) := by decide +kernel
theorem k_fm_findTasks_136 : decode me_fm_findTasks.2.1 136 = .ok (.iconst 0, 1) := by decide +kernel
theorem k_fm_findTasks_137 : decode me_fm_findTasks.2.1 137 = .ok (.iload_n 1, 1) := by decide +kernel
theorem k_fm_findTasks_138 : decode me_fm_findTasks.2.1 138 = .ok (.invokevirtual 251, 3) := by decide +kernel
theorem k_fm_findTasks_141 : decode me_fm_findTasks.2.1 141 = .ok (.return_, 1) := by decide +kernel
theorem k_fm_adds_0 : decode me_fm_adds.2.1 0 = .ok (.iconst 0, 1) := by decide +kernel
theorem k_fm_adds_1 : decode me_fm_adds.2.1 1 = .ok (.istore 4, 2) := by decide +kernel
theorem k_fm_adds_3 : decode me_fm_adds.2.1 3 = .ok (.iload 4, 2) := by decide +kernel
theorem k_fm_adds_5 : decode me_fm_adds.2.1 5 = .ok (.aload_n 0, 1) := by decide +kernel
theorem k_fm_adds_6 : decode me_fm_adds.2.1 6 = .ok (.getfield 158, 3) := by decide +kernel
theorem k_fm_adds_9 : decode me_fm_adds.2.1 9 = .ok (.if_icmp .ge 69, 3) := by decide +kernel
theorem k_fm_adds_12 : decode me_fm_adds.2.1 12 = .ok (.iload_n 2, 1) := by decide +kernel
theorem k_fm_adds_13 : decode me_fm_adds.2.1 13 = .ok (.iload_n 3, 1) := by decide +kernel
theorem k_fm_adds_14 : decode me_fm_adds.2.1 14 = .ok (.ior, 1) := by decide +kernel
theorem k_fm_adds_15 : decode me_fm_adds.2.1 15 = .ok (.iload 4, 2) := by decide +kernel
theorem k_fm_adds_17 : decode me_fm_adds.2.1 17 = .ok (.ishr, 1) := by decide +kernel
theorem k_fm_adds_18 : decode me_fm_adds.2.1 18 = .ok (.iconst 1, 1) := by decide +kernel
theorem k_fm_adds_19 : decode me_fm_adds.2.1 19 = .ok (.iand, 1) := by decide +kernel
theorem k_fm_adds_20 : decode me_fm_adds.2.1 20 = .ok (.ifCond .ne 6, 3) := by decide +kernel
theorem k_fm_adds_23 : decode me_fm_adds.2.1 23 = .ok (.goto 49, 3) := by decide +kernel
theorem k_fm_adds_26 : decode me_fm_adds.2.1 26 = .ok (.aload_n 0, 1) := by decide +kernel
theorem k_fm_adds_27 : decode me_fm_adds.2.1 27 = .ok (.getfield 114, 3) := by decide +kernel
theorem k_fm_adds_30 : decode me_fm_adds.2.1 30 = .ok (.aload_n 0, 1) := by decide +kernel
theorem k_fm_adds_31 : decode me_fm_adds.2.1 31 = .ok (.getfield 248, 3) := by decide +kernel
theorem k_fm_adds_34 : decode me_fm_adds.2.1 34 = .ok (.iload_n 1, 1) := by decide +kernel
theorem k_fm_adds_35 : decode me_fm_adds.2.1 35 = .ok (.iastore, 1) := by decide +kernel
theorem k_fm_adds_36 : decode me_fm_adds.2.1 36 = .ok (.aload_n 0, 1) := by decide +kernel
theorem k_fm_adds_37 : decode me_fm_adds.2.1 37 = .ok (.getfield 117, 3) := by decide +kernel
theorem k_fm_adds_40 : decode me_fm_adds.2.1 40 = .ok (.aload_n 0, 1) := by decide +kernel
theorem k_fm_adds_41 : decode me_fm_adds.2.1 41 = .ok (.getfield 248, 3) := by decide +kernel
theorem k_fm_adds_44 : decode me_fm_adds.2.1 44 = .ok (.iload 4, 2) := by decide +kernel
theorem k_fm_adds_46 : decode me_fm_adds.2.1 46 = .ok (.iastore, 1) := by decide +kernel
theorem k_fm_adds_47 : decode me_fm_adds.2.1 47 = .ok (.aload_n 0, 1) := by decide +kernel
theorem k_fm_adds_48 : decode me_fm_adds.2.1 48 = .ok (.getfield 120, 3) := by decide +kernel
theorem k_fm_adds_51 : decode me_fm_adds.2.1 51 = .ok (.aload_n 0, 1) := by decide +kernel
theorem k_fm_adds_52 : decode me_fm_adds.2.1 52 = .ok (.getfield 248, 3) := by decide +kernel
theorem k_fm_adds_55 : decode me_fm_adds.2.1 55 = .ok (.iload_n 2, 1) := by decide +kernel
theorem k_fm_adds_56 : decode me_fm_adds.2.1 56 = .ok (.iload 4, 2) := by decide +kernel
theorem k_fm_adds_58 : decode me_fm_adds.2.1 58 = .ok (.ishr, 1) := by decide +kernel
theorem k_fm_adds_59 : decode me_fm_adds.2.1 59 = .ok (.iconst 1, 1) := by decide +kernel
theorem k_fm_adds_60 : decode me_fm_adds.2.1 60 = .ok (.iand, 1) := by decide +kernel
theorem k_fm_adds_61 : decode me_fm_adds.2.1 61 = .ok (.iastore, 1) := by decide +kernel
theorem k_fm_adds_62 : decode me_fm_adds.2.1 62 = .ok (.aload_n 0, 1) := by decide +kernel
theorem k_fm_adds_63 : decode me_fm_adds.2.1 63 = .ok (.dup, 1) := by decide +kernel
theorem k_fm_adds_64 : decode me_fm_adds.2.1 64 = .ok (.getfield 248, 3) := by decide +kernel
theorem k_fm_adds_67 : decode me_fm_adds.2.1 67 = .ok (.iconst 1, 1) := by decide +kernel
theorem k_fm_adds_68 : decode me_fm_adds.2.1 68 = .ok (.iadd, 1) := by decide +kernel
theorem k_fm_adds_69 : decode me_fm_adds.2.1 69 = .ok (.putfield 248, 3) := by decide +kernel
theorem k_fm_adds_72 : decode me_fm_adds.2.1 72 = .ok (.iinc 4 1, 3) := by decide +kernel
theorem k_fm_adds_75 : decode me_fm_adds.2.1 75 = .ok (.goto (-72), 3) := by decide +kernel
theorem k_fm_adds_78 : decode me_fm_adds.2.1 78 = .ok (.return_, 1) := by decide +kernel
theorem k_fm_task_0 : decode me_fm_task.2.1 0 = .ok (.aload_n 0, 1) := by decide +kernel
theorem k_fm_task_1 : decode me_fm_task.2.1 1 = .ok (.invokevirtual 255, 3) := by decide +kernel
theorem k_fm_task_4 : decode me_fm_task.2.1 4 = .ok (.iload_n 1, 1) := by decide +kernel
theorem k_fm_task_5 : decode me_fm_task.2.1 5 = .ok (.aload_n 0, 1) := by decide +kernel
theorem k_fm_task_6 : decode me_fm_task.2.1 6 = .ok (.getfield 248, 3) := by decide +kernel
theorem k_fm_task_9 : decode me_fm_task.2.1 9 = .ok (.invokestatic 144, 3) := by decide +kernel
theorem k_fm_task_12 : decode me_fm_task.2.1 12 = .ok (.ifCond .ne 9, 3) := by decide +kernel
theorem k_fm_task_15 : decode me_fm_task.2.1 15 = .ok (.aload_n 0, 1) := by decide +kernel
theorem k_fm_task_16 : decode me_fm_task.2.1 16 = .ok (.iconst (-1), 1) := by decide +kernel
theorem k_fm_task_17 : decode me_fm_task.2.1 17 = .ok (.invokevirtual 133, 3) := by decide +kernel
theorem k_fm_task_20 : decode me_fm_task.2.1 20 = .ok (.ireturn, 1) := by decide +kernel
theorem k_fm_task_21 : decode me_fm_task.2.1 21 = .ok (.iload_n 2, 1) := by decide +kernel
theorem k_fm_task_22 : decode me_fm_task.2.1 22 = .ok (.ifCond .ne 12, 3) := by decide +kernel
theorem k_fm_task_25 : decode me_fm_task.2.1 25 = .ok (.aload_n 0, 1) := by decide +kernel
theorem k_fm_task_26 : decode me_fm_task.2.1 26 = .ok (.getfield 114, 3) := by decide +kernel
theorem k_fm_task_29 : decode me_fm_task.2.1 29 = .ok (.iload_n 1, 1) := by decide +kernel
theorem k_fm_task_30 : decode me_fm_task.2.1 30 = .ok (.iaload, 1) := by decide +kernel
theorem k_fm_task_31 : decode me_fm_task.2.1 31 = .ok (.goto 37, 3) := by decide +kernel
theorem k_fm_task_34 : decode me_fm_task.2.1 34 = .ok (.iload_n 2, 1) := by decide +kernel
theorem k_fm_task_35 : decode me_fm_task.2.1 35 = .ok (.iconst 1, 1) := by decide +kernel
theorem k_fm_task_36 : decode me_fm_task.2.1 36 = .ok (.if_icmp .ne 12, 3) := by decide +kernel
theorem k_fm_task_39 : decode me_fm_task.2.1 39 = .ok (.aload_n 0, 1) := by decide +kernel
theorem k_fm_task_40 : decode me_fm_task.2.1 40 = .ok (.getfield 117, 3) := by decide +kernel
theorem k_fm_task_43 : decode me_fm_task.2.1 43 = .ok (.iload_n 1, 1) := by decide +kernel
theorem k_fm_task_44 : decode me_fm_task.2.1 44 = .ok (.iaload, 1) := by decide +kernel
theorem k_fm_task_45 : decode me_fm_task.2.1 45 = .ok (.goto 23, 3) := by decide +kernel
theorem k_fm_task_48 : decode me_fm_task.2.1 48 = .ok (.iload_n 2, 1) := by decide +kernel
theorem k_fm_task_49 : decode me_fm_task.2.1 49 = .ok (.iconst 2, 1) := by decide +kernel
theorem k_fm_task_50 : decode me_fm_task.2.1 50 = .ok (.if_icmp .ne 12, 3) := by decide +kernel
theorem k_fm_task_53 : decode me_fm_task.2.1 53 = .ok (.aload_n 0, 1) := by decide +kernel
theorem k_fm_task_54 : decode me_fm_task.2.1 54 = .ok (.getfield 120, 3) := by decide +kernel
theorem k_fm_task_57 : decode me_fm_task.2.1 57 = .ok (.iload_n 1, 1) := by decide +kernel
theorem k_fm_task_58 : decode me_fm_task.2.1 58 = .ok (.iaload, 1) := by decide +kernel
theorem k_fm_task_59 : decode me_fm_task.2.1 59 = .ok (.goto 9, 3) := by decide +kernel
theorem k_fm_task_62 : decode me_fm_task.2.1 62 = .ok (.aload_n 0, 1) := by decide +kernel
theorem k_fm_task_63 : decode me_fm_task.2.1 63 = .ok (.bipush (-2), 2) := by decide +kernel
theorem k_fm_task_65 : decode me_fm_task.2.1 65 = .ok (.invokevirtual 133, 3) := by decide +kernel
theorem k_fm_task_68 : decode me_fm_task.2.1 68 = .ok (.ireturn, 1) := by decide +kernel
theorem k_fm_boys_0 : decode me_fm_boys.2.1 0 = .ok (.aload_n 0, 1) := by decide +kernel
theorem k_fm_boys_1 : decode me_fm_boys.2.1 1 = .ok (.invokevirtual 255, 3) := by decide +kernel
theorem k_fm_boys_4 : decode me_fm_boys.2.1 4 = .ok (.aload_n 0, 1) := by decide +kernel
theorem k_fm_boys_5 : decode me_fm_boys.2.1 5 = .ok (.getfield 248, 3) := by decide +kernel
theorem k_fm_boys_8 : decode me_fm_boys.2.1 8 = .ok (.bipush 60, 2) := by decide +kernel
theorem k_fm_boys_10 : decode me_fm_boys.2.1 10 = .ok (.if_icmp .le 10, 3) := by decide +kernel
theorem k_fm_boys_13 : decode me_fm_boys.2.1 13 = .ok (.aload_n 0, 1) := by decide +kernel
theorem k_fm_boys_14 : decode me_fm_boys.2.1 14 = .ok (.bipush (-6), 2) := by decide +kernel
theorem k_fm_boys_16 : decode me_fm_boys.2.1 16 = .ok (.invokevirtual 133, 3) := by decide +kernel
theorem k_fm_boys_19 : decode me_fm_boys.2.1 19 = .ok (.ireturn, 1) := by decide +kernel
theorem k_fm_boys_20 : decode me_fm_boys.2.1 20 = .ok (.iconst 0, 1) := by decide +kernel
theorem k_fm_boys_21 : decode me_fm_boys.2.1 21 = .ok (.istore_n 1, 1) := by decide +kernel
theorem k_fm_boys_22 : decode me_fm_boys.2.1 22 = .ok (.iload_n 1, 1) := by decide +kernel
theorem k_fm_boys_23 : decode me_fm_boys.2.1 23 = .ok (.aload_n 0, 1) := by decide +kernel
theorem k_fm_boys_24 : decode me_fm_boys.2.1 24 = .ok (.getfield 248, 3) := by decide +kernel
theorem k_fm_boys_27 : decode me_fm_boys.2.1 27 = .ok (.if_icmp .ge 16, 3) := by decide +kernel
theorem k_fm_boys_30 : decode me_fm_boys.2.1 30 = .ok (.aload_n 0, 1) := by decide +kernel
theorem k_fm_boys_31 : decode me_fm_boys.2.1 31 = .ok (.getfield 123, 3) := by decide +kernel
theorem k_fm_boys_34 : decode me_fm_boys.2.1 34 = .ok (.iload_n 1, 1) := by decide +kernel
theorem k_fm_boys_35 : decode me_fm_boys.2.1 35 = .ok (.iconst (-1), 1) := by decide +kernel
theorem k_fm_boys_36 : decode me_fm_boys.2.1 36 = .ok (.iastore, 1) := by decide +kernel
theorem k_fm_boys_37 : decode me_fm_boys.2.1 37 = .ok (.iinc 1 1, 3) := by decide +kernel
theorem k_fm_boys_40 : decode me_fm_boys.2.1 40 = .ok (.goto (-18), 3) := by decide +kernel
theorem k_fm_boys_43 : decode me_fm_boys.2.1 43 = .ok (.aload_n 0, 1) := by decide +kernel
theorem k_fm_boys_44 : decode me_fm_boys.2.1 44 = .ok (.getfield 248, 3) := by decide +kernel
theorem k_fm_boys_47 : decode me_fm_boys.2.1 47 = .ok (.istore_n 1, 1) := by decide +kernel
theorem k_fm_boys_48 : decode me_fm_boys.2.1 48 = .ok (.iconst 0, 1) := by decide +kernel
theorem k_fm_boys_49 : decode me_fm_boys.2.1 49 = .ok (.istore_n 2, 1) := by decide +kernel
theorem k_fm_boys_50 : decode me_fm_boys.2.1 50 = .ok (.iload_n 2, 1) := by decide +kernel
theorem k_fm_boys_51 : decode me_fm_boys.2.1 51 = .ok (.aload_n 0, 1) := by decide +kernel
theorem k_fm_boys_52 : decode me_fm_boys.2.1 52 = .ok (.getfield 248, 3) := by decide +kernel
theorem k_fm_boys_55 : decode me_fm_boys.2.1 55 = .ok (.if_icmp .ge 48, 3) := by decide +kernel
theorem k_fm_boys_58 : decode me_fm_boys.2.1 58 = .ok (.iconst 0, 1) := by decide +kernel
theorem k_fm_boys_59 : decode me_fm_boys.2.1 59 = .ok (.istore_n 3, 1) := by decide +kernel
theorem k_fm_boys_60 : decode me_fm_boys.2.1 60 = .ok (.iload_n 3, 1) := by decide +kernel
theorem k_fm_boys_61 : decode me_fm_boys.2.1 61 = .ok (.aload_n 0, 1) := by decide +kernel
theorem k_fm_boys_62 : decode me_fm_boys.2.1 62 = .ok (.getfield 248, 3) := by decide +kernel
theorem k_fm_boys_65 : decode me_fm_boys.2.1 65 = .ok (.if_icmp .ge 16, 3) := by decide +kernel
theorem k_fm_boys_68 : decode me_fm_boys.2.1 68 = .ok (.aload_n 0, 1) := by decide +kernel
theorem k_fm_boys_69 : decode me_fm_boys.2.1 69 = .ok (.getfield 126, 3) := by decide +kernel
theorem k_fm_boys_72 : decode me_fm_boys.2.1 72 = .ok (.iload_n 3, 1) := by decide +kernel
theorem k_fm_boys_73 : decode me_fm_boys.2.1 73 = .ok (.iconst 0, 1) := by decide +kernel
theorem k_fm_boys_74 : decode me_fm_boys.2.1 74 = .ok (.bastore, 1) := by decide +kernel
theorem k_fm_boys_75 : decode me_fm_boys.2.1 75 = .ok (.iinc 3 1, 3) := by decide +kernel
theorem k_fm_boys_78 : decode me_fm_boys.2.1 78 = .ok (.goto (-18), 3) := by decide +kernel
theorem k_fm_boys_81 : decode me_fm_boys.2.1 81 = .ok (.iload_n 1, 1) := by decide +kernel
theorem k_fm_boys_82 : decode me_fm_boys.2.1 82 = .ok (.aload_n 0, 1) := by decide +kernel
theorem k_fm_boys_83 : decode me_fm_boys.2.1 83 = .ok (.iload_n 2, 1) := by decide +kernel
theorem k_fm_boys_84 : decode me_fm_boys.2.1 84 = .ok (.invokevirtual 264, 3) := by decide +kernel
theorem k_fm_boys_87 : decode me_fm_boys.2.1 87 = .ok (.ifCond .eq 7, 3) := by decide +kernel
theorem k_fm_boys_90 : decode me_fm_boys.2.1 90 = .ok (.iconst 1, 1) := by decide +kernel
theorem k_fm_boys_91 : decode me_fm_boys.2.1 91 = .ok (.goto 4, 3) := by decide +kernel
theorem k_fm_boys_94 : decode me_fm_boys.2.1 94 = .ok (.iconst 0, 1) := by decide +kernel
theorem k_fm_boys_95 : decode me_fm_boys.2.1 95 = .ok (.isub, 1) := by decide +kernel
theorem k_fm_boys_96 : decode me_fm_boys.2.1 96 = .ok (.istore_n 1, 1) := by decide +kernel
theorem k_fm_boys_97 : decode me_fm_boys.2.1 97 = .ok (.iinc 2 1, 3) := by decide +kernel
theorem k_fm_boys_100 : decode me_fm_boys.2.1 100 = .ok (.goto (-50), 3) := by decide +kernel
theorem k_fm_boys_103 : decode me_fm_boys.2.1 103 = .ok (.iload_n 1, 1) := by decide +kernel
theorem k_fm_boys_104 : decode me_fm_boys.2.1 104 = .ok (.ireturn, 1) := by decide +kernel
theorem k_fm_leads_0 : decode me_fm_leads.2.1 0 = .ok (.iconst 0, 1) := by decide +kernel
theorem k_fm_leads_1 : decode me_fm_leads.2.1 1 = .ok (.istore_n 2, 1) := by decide +kernel
theorem k_fm_leads_2 : decode me_fm_leads.2.1 2 = .ok (.iload_n 2, 1) := by decide +kernel
theorem k_fm_leads_3 : decode me_fm_leads.2.1 3 = .ok (.aload_n 0, 1) := by decide +kernel
theorem k_fm_leads_4 : decode me_fm_leads.2.1 4 = .ok (.getfield 248, 3) := by decide +kernel
theorem k_fm_leads_7 : decode me_fm_leads.2.1 7 = .ok (.if_icmp .ge 68, 3) := by decide +kernel
theorem k_fm_leads_10 : decode me_fm_leads.2.1 10 = .ok (.aload_n 0, 1) := by decide +kernel
theorem k_fm_leads_11 : decode me_fm_leads.2.1 11 = .ok (.getfield 126, 3) := by decide +kernel
theorem k_fm_leads_14 : decode me_fm_leads.2.1 14 = .ok (.iload_n 2, 1) := by decide +kernel
theorem k_fm_leads_15 : decode me_fm_leads.2.1 15 = .ok (.baload, 1) := by decide +kernel
theorem k_fm_leads_16 : decode me_fm_leads.2.1 16 = .ok (.ifCond .ne 53, 3) := by decide +kernel
theorem k_fm_leads_19 : decode me_fm_leads.2.1 19 = .ok (.aload_n 0, 1) := by decide +kernel
theorem k_fm_leads_20 : decode me_fm_leads.2.1 20 = .ok (.iload_n 1, 1) := by decide +kernel
theorem k_fm_leads_21 : decode me_fm_leads.2.1 21 = .ok (.iload_n 2, 1) := by decide +kernel
theorem k_fm_leads_22 : decode me_fm_leads.2.1 22 = .ok (.invokevirtual 261, 3) := by decide +kernel
theorem k_fm_leads_25 : decode me_fm_leads.2.1 25 = .ok (.ifCond .ne 6, 3) := by decide +kernel
theorem k_fm_leads_28 : decode me_fm_leads.2.1 28 = .ok (.goto 41, 3) := by decide +kernel
theorem k_fm_leads_31 : decode me_fm_leads.2.1 31 = .ok (.aload_n 0, 1) := by decide +kernel
theorem k_fm_leads_32 : decode me_fm_leads.2.1 32 = .ok (.getfield 126, 3) := by decide +kernel
theorem k_fm_leads_35 : decode me_fm_leads.2.1 35 = .ok (.iload_n 2, 1) := by decide +kernel
theorem k_fm_leads_36 : decode me_fm_leads.2.1 36 = .ok (.iconst 1, 1) := by decide +kernel
theorem k_fm_leads_37 : decode me_fm_leads.2.1 37 = .ok (.bastore, 1) := by decide +kernel
theorem k_fm_leads_38 : decode me_fm_leads.2.1 38 = .ok (.aload_n 0, 1) := by decide +kernel
theorem k_fm_leads_39 : decode me_fm_leads.2.1 39 = .ok (.getfield 123, 3) := by decide +kernel
theorem k_fm_leads_42 : decode me_fm_leads.2.1 42 = .ok (.iload_n 2, 1) := by decide +kernel
theorem k_fm_leads_43 : decode me_fm_leads.2.1 43 = .ok (.iaload, 1) := by decide +kernel
theorem k_fm_leads_44 : decode me_fm_leads.2.1 44 = .ok (.ifCond .lt 16, 3) := by decide +kernel
theorem k_fm_leads_47 : decode me_fm_leads.2.1 47 = .ok (.aload_n 0, 1) := by decide +kernel
theorem k_fm_leads_48 : decode me_fm_leads.2.1 48 = .ok (.aload_n 0, 1) := by decide +kernel
theorem k_fm_leads_49 : decode me_fm_leads.2.1 49 = .ok (.getfield 123, 3) := by decide +kernel
theorem k_fm_leads_52 : decode me_fm_leads.2.1 52 = .ok (.iload_n 2, 1) := by decide +kernel
theorem k_fm_leads_53 : decode me_fm_leads.2.1 53 = .ok (.iaload, 1) := by decide +kernel
theorem k_fm_leads_54 : decode me_fm_leads.2.1 54 = .ok (.invokevirtual 264, 3) := by decide +kernel
theorem k_fm_leads_57 : decode me_fm_leads.2.1 57 = .ok (.ifCond .eq 12, 3) := by decide +kernel
theorem k_fm_leads_60 : decode me_fm_leads.2.1 60 = .ok (.aload_n 0, 1) := by decide +kernel
theorem k_fm_leads_61 : decode me_fm_leads.2.1 61 = .ok (.getfield 123, 3) := by decide +kernel
theorem k_fm_leads_64 : decode me_fm_leads.2.1 64 = .ok (.iload_n 2, 1) := by decide +kernel
theorem k_fm_leads_65 : decode me_fm_leads.2.1 65 = .ok (.iload_n 1, 1) := by decide +kernel
theorem k_fm_leads_66 : decode me_fm_leads.2.1 66 = .ok (.iastore, 1) := by decide +kernel
theorem k_fm_leads_67 : decode me_fm_leads.2.1 67 = .ok (.iconst 1, 1) := by decide +kernel
theorem k_fm_leads_68 : decode me_fm_leads.2.1 68 = .ok (.ireturn, 1) := by decide +kernel
theorem k_fm_leads_69 : decode me_fm_leads.2.1 69 = .ok (.iinc 2 1, 3) := by decide +kernel
theorem k_fm_leads_72 : decode me_fm_leads.2.1 72 = .ok (.goto (-70), 3) := by decide +kernel
theorem k_fm_leads_75 : decode me_fm_leads.2.1 75 = .ok (.iconst 0, 1) := by decide +kernel
theorem k_fm_leads_76 : decode me_fm_leads.2.1 76 = .ok (.ireturn, 1) := by decide +kernel
theorem k_fm_canFollow_0 : decode me_fm_canFollow.2.1 0 = .ok (.iload_n 1, 1) := by decide +kernel
theorem k_fm_canFollow_1 : decode me_fm_canFollow.2.1 1 = .ok (.iload_n 2, 1) := by decide +kernel
theorem k_fm_canFollow_2 : decode me_fm_canFollow.2.1 2 = .ok (.if_icmp .ge 54, 3) := by decide +kernel
theorem k_fm_canFollow_5 : decode me_fm_canFollow.2.1 5 = .ok (.aload_n 0, 1) := by decide +kernel
theorem k_fm_canFollow_6 : decode me_fm_canFollow.2.1 6 = .ok (.getfield 114, 3) := by decide +kernel
theorem k_fm_canFollow_9 : decode me_fm_canFollow.2.1 9 = .ok (.iload_n 2, 1) := by decide +kernel
theorem k_fm_canFollow_10 : decode me_fm_canFollow.2.1 10 = .ok (.iaload, 1) := by decide +kernel
theorem k_fm_canFollow_11 : decode me_fm_canFollow.2.1 11 = .ok (.aload_n 0, 1) := by decide +kernel
theorem k_fm_canFollow_12 : decode me_fm_canFollow.2.1 12 = .ok (.getfield 114, 3) := by decide +kernel
theorem k_fm_canFollow_15 : decode me_fm_canFollow.2.1 15 = .ok (.iload_n 1, 1) := by decide +kernel
theorem k_fm_canFollow_16 : decode me_fm_canFollow.2.1 16 = .ok (.iaload, 1) := by decide +kernel
theorem k_fm_canFollow_17 : decode me_fm_canFollow.2.1 17 = .ok (.aload_n 0, 1) := by decide +kernel
theorem k_fm_canFollow_18 : decode me_fm_canFollow.2.1 18 = .ok (.getfield 13, 3) := by decide +kernel
theorem k_fm_canFollow_21 : decode me_fm_canFollow.2.1 21 = .ok (.aload_n 0, 1) := by decide +kernel
theorem k_fm_canFollow_22 : decode me_fm_canFollow.2.1 22 = .ok (.getfield 63, 3) := by decide +kernel
theorem k_fm_canFollow_25 : decode me_fm_canFollow.2.1 25 = .ok (.aload_n 0, 1) := by decide +kernel
theorem k_fm_canFollow_26 : decode me_fm_canFollow.2.1 26 = .ok (.getfield 117, 3) := by decide +kernel
theorem k_fm_canFollow_29 : decode me_fm_canFollow.2.1 29 = .ok (.iload_n 1, 1) := by decide +kernel
theorem k_fm_canFollow_30 : decode me_fm_canFollow.2.1 30 = .ok (.iaload, 1) := by decide +kernel
theorem k_fm_canFollow_31 : decode me_fm_canFollow.2.1 31 = .ok (.iaload, 1) := by decide +kernel
theorem k_fm_canFollow_32 : decode me_fm_canFollow.2.1 32 = .ok (.aload_n 0, 1) := by decide +kernel
theorem k_fm_canFollow_33 : decode me_fm_canFollow.2.1 33 = .ok (.getfield 63, 3) := by decide +kernel
theorem k_fm_canFollow_36 : decode me_fm_canFollow.2.1 36 = .ok (.aload_n 0, 1) := by decide +kernel
theorem k_fm_canFollow_37 : decode me_fm_canFollow.2.1 37 = .ok (.getfield 117, 3) := by decide +kernel
theorem k_fm_canFollow_40 : decode me_fm_canFollow.2.1 40 = .ok (.iload_n 2, 1) := by decide +kernel
theorem k_fm_canFollow_41 : decode me_fm_canFollow.2.1 41 = .ok (.iaload, 1) := by decide +kernel
theorem k_fm_canFollow_42 : decode me_fm_canFollow.2.1 42 = .ok (.iaload, 1) := by decide +kernel
theorem k_fm_canFollow_43 : decode me_fm_canFollow.2.1 43 = .ok (.isub, 1) := by decide +kernel
theorem k_fm_canFollow_44 : decode me_fm_canFollow.2.1 44 = .ok (.invokestatic 258, 3) := by decide +kernel
theorem k_fm_canFollow_47 : decode me_fm_canFollow.2.1 47 = .ok (.imul, 1) := by decide +kernel
theorem k_fm_canFollow_48 : decode me_fm_canFollow.2.1 48 = .ok (.iadd, 1) := by decide +kernel
theorem k_fm_canFollow_49 : decode me_fm_canFollow.2.1 49 = .ok (.if_icmp .lt 7, 3) := by decide +kernel
theorem k_fm_canFollow_52 : decode me_fm_canFollow.2.1 52 = .ok (.iconst 1, 1) := by decide +kernel
theorem k_fm_canFollow_53 : decode me_fm_canFollow.2.1 53 = .ok (.goto 4, 3) := by decide +kernel
theorem k_fm_canFollow_56 : decode me_fm_canFollow.2.1 56 = .ok (.iconst 0, 1) := by decide +kernel
theorem k_fm_canFollow_57 : decode me_fm_canFollow.2.1 57 = .ok (.ireturn, 1) := by decide +kernel
theorem k_fm_gauge_0 : decode me_fm_gauge.2.1 0 = .ok (.aload_n 0, 1) := by decide +kernel
theorem k_fm_gauge_1 : decode me_fm_gauge.2.1 1 = .ok (.iload_n 1, 1) := by decide +kernel
theorem k_fm_gauge_2 : decode me_fm_gauge.2.1 2 = .ok (.invokevirtual 165, 3) := by decide +kernel
theorem k_fm_gauge_5 : decode me_fm_gauge.2.1 5 = .ok (.ifCond .eq 14, 3) := by decide +kernel
theorem k_fm_gauge_8 : decode me_fm_gauge.2.1 8 = .ok (.iload_n 2, 1) := by decide +kernel
theorem k_fm_gauge_9 : decode me_fm_gauge.2.1 9 = .ok (.iconst (-1), 1) := by decide +kernel
theorem k_fm_gauge_10 : decode me_fm_gauge.2.1 10 = .ok (.sipush 500, 3) := by decide +kernel
theorem k_fm_gauge_13 : decode me_fm_gauge.2.1 13 = .ok (.invokestatic 148, 3) := by decide +kernel
theorem k_fm_gauge_16 : decode me_fm_gauge.2.1 16 = .ok (.goto 4, 3) := by decide +kernel
theorem k_fm_gauge_19 : decode me_fm_gauge.2.1 19 = .ok (.iconst (-1), 1) := by decide +kernel
theorem k_fm_gauge_20 : decode me_fm_gauge.2.1 20 = .ok (.istore_n 3, 1) := by decide +kernel
theorem k_fm_gauge_21 : decode me_fm_gauge.2.1 21 = .ok (.iload_n 3, 1) := by decide +kernel
theorem k_fm_gauge_22 : decode me_fm_gauge.2.1 22 = .ok (.ifCond .eq 9, 3) := by decide +kernel
theorem k_fm_gauge_25 : decode me_fm_gauge.2.1 25 = .ok (.aload_n 0, 1) := by decide +kernel
theorem k_fm_gauge_26 : decode me_fm_gauge.2.1 26 = .ok (.iload_n 3, 1) := by decide +kernel
theorem k_fm_gauge_27 : decode me_fm_gauge.2.1 27 = .ok (.invokevirtual 182, 3) := by decide +kernel
theorem k_fm_gauge_30 : decode me_fm_gauge.2.1 30 = .ok (.ireturn, 1) := by decide +kernel
theorem k_fm_gauge_31 : decode me_fm_gauge.2.1 31 = .ok (.aload_n 0, 1) := by decide +kernel
theorem k_fm_gauge_32 : decode me_fm_gauge.2.1 32 = .ok (.getfield 69, 3) := by decide +kernel
theorem k_fm_gauge_35 : decode me_fm_gauge.2.1 35 = .ok (.iload_n 1, 1) := by decide +kernel
theorem k_fm_gauge_36 : decode me_fm_gauge.2.1 36 = .ok (.iaload, 1) := by decide +kernel
theorem k_fm_gauge_37 : decode me_fm_gauge.2.1 37 = .ok (.istore 4, 2) := by decide +kernel
theorem k_fm_gauge_39 : decode me_fm_gauge.2.1 39 = .ok (.aload_n 0, 1) := by decide +kernel
theorem k_fm_gauge_40 : decode me_fm_gauge.2.1 40 = .ok (.getfield 69, 3) := by decide +kernel
theorem k_fm_gauge_43 : decode me_fm_gauge.2.1 43 = .ok (.iload_n 1, 1) := by decide +kernel
theorem k_fm_gauge_44 : decode me_fm_gauge.2.1 44 = .ok (.iload_n 2, 1) := by decide +kernel
theorem k_fm_gauge_45 : decode me_fm_gauge.2.1 45 = .ok (.iastore, 1) := by decide +kernel
theorem k_fm_gauge_46 : decode me_fm_gauge.2.1 46 = .ok (.aload_n 0, 1) := by decide +kernel
theorem k_fm_gauge_47 : decode me_fm_gauge.2.1 47 = .ok (.invokevirtual 152, 3) := by decide +kernel
theorem k_fm_gauge_50 : decode me_fm_gauge.2.1 50 = .ok (.iload 4, 2) := by decide +kernel
theorem k_fm_gauge_52 : decode me_fm_gauge.2.1 52 = .ok (.ireturn, 1) := by decide +kernel
theorem k_fm_tol_0 : decode me_fm_tol.2.1 0 = .ok (.iload_n 1, 1) := by decide +kernel
theorem k_fm_tol_1 : decode me_fm_tol.2.1 1 = .ok (.iconst 0, 1) := by decide +kernel
theorem k_fm_tol_2 : decode me_fm_tol.2.1 2 = .ok (.bipush 50, 2) := by decide +kernel
theorem k_fm_tol_4 : decode me_fm_tol.2.1 4 = .ok (.invokestatic 148, 3) := by decide +kernel
theorem k_fm_tol_7 : decode me_fm_tol.2.1 7 = .ok (.istore_n 2, 1) := by decide +kernel
theorem k_fm_tol_8 : decode me_fm_tol.2.1 8 = .ok (.iload_n 2, 1) := by decide +kernel
theorem k_fm_tol_9 : decode me_fm_tol.2.1 9 = .ok (.ifCond .eq 9, 3) := by decide +kernel
theorem k_fm_tol_12 : decode me_fm_tol.2.1 12 = .ok (.aload_n 0, 1) := by decide +kernel
theorem k_fm_tol_13 : decode me_fm_tol.2.1 13 = .ok (.iload_n 2, 1) := by decide +kernel
theorem k_fm_tol_14 : decode me_fm_tol.2.1 14 = .ok (.invokevirtual 133, 3) := by decide +kernel
theorem k_fm_tol_17 : decode me_fm_tol.2.1 17 = .ok (.ireturn, 1) := by decide +kernel
theorem k_fm_tol_18 : decode me_fm_tol.2.1 18 = .ok (.aload_n 0, 1) := by decide +kernel
theorem k_fm_tol_19 : decode me_fm_tol.2.1 19 = .ok (.getfield 267, 3) := by decide +kernel
theorem k_fm_tol_22 : decode me_fm_tol.2.1 22 = .ok (.istore_n 3, 1) := by decide +kernel
theorem k_fm_tol_23 : decode me_fm_tol.2.1 23 = .ok (.aload_n 0, 1) := by decide +kernel
theorem k_fm_tol_24 : decode me_fm_tol.2.1 24 = .ok (.iload_n 1, 1) := by decide +kernel
theorem k_fm_tol_25 : decode me_fm_tol.2.1 25 = .ok (.putfield 267, 3) := by decide +kernel
theorem k_fm_tol_28 : decode me_fm_tol.2.1 28 = .ok (.aload_n 0, 1) := by decide +kernel
theorem k_fm_tol_29 : decode me_fm_tol.2.1 29 = .ok (.invokevirtual 152, 3) := by decide +kernel
theorem k_fm_tol_32 : decode me_fm_tol.2.1 32 = .ok (.iload_n 3, 1) := by decide +kernel
theorem k_fm_tol_33 : decode me_fm_tol.2.1 33 = .ok (.ireturn, 1) := by decide +kernel
theorem k_fm_explain_0 : decode me_fm_explain.2.1 0 = .ok (.aload_n 0, 1) := by decide +kernel
theorem k_fm_explain_1 : decode me_fm_explain.2.1 1 = .ok (.invokevirtual 295, 3) := by decide +kernel
theorem k_fm_explain_4 : decode me_fm_explain.2.1 4 = .ok (.aload_n 0, 1) := by decide +kernel
theorem k_fm_explain_5 : decode me_fm_explain.2.1 5 = .ok (.getfield 270, 3) := by decide +kernel
theorem k_fm_explain_8 : decode me_fm_explain.2.1 8 = .ok (.ireturn, 1) := by decide +kernel
theorem k_fm_look_0 : decode me_fm_look.2.1 0 = .ok (.aload_n 0, 1) := by decide +kernel
theorem k_fm_look_1 : decode me_fm_look.2.1 1 = .ok (.getfield 137, 3) := by decide +kernel
theorem k_fm_look_4 : decode me_fm_look.2.1 4 = .ok (.ifCond .eq 4, 3) := by decide +kernel
theorem k_fm_look_7 : decode me_fm_look.2.1 7 = .ok (.return_, 1) := by decide +kernel
theorem k_fm_look_8 : decode me_fm_look.2.1 8 = .ok (.aload_n 0, 1) := by decide +kernel
theorem k_fm_look_9 : decode me_fm_look.2.1 9 = .ok (.iconst 1, 1) := by decide +kernel
theorem k_fm_look_10 : decode me_fm_look.2.1 10 = .ok (.putfield 137, 3) := by decide +kernel
theorem k_fm_look_13 : decode me_fm_look.2.1 13 = .ok (.aload_n 0, 1) := by decide +kernel
theorem k_fm_look_14 : decode me_fm_look.2.1 14 = .ok (.iconst 4, 1) := by decide +kernel
theorem k_fm_look_15 : decode me_fm_look.2.1 15 = .ok (.putfield 270, 3) := by decide +kernel
theorem k_fm_look_18 : decode me_fm_look.2.1 18 = .ok (.aload_n 0, 1) := by decide +kernel
theorem k_fm_look_19 : decode me_fm_look.2.1 19 = .ok (.bipush (-9), 2) := by decide +kernel
theorem k_fm_look_21 : decode me_fm_look.2.1 21 = .ok (.putfield 273, 3) := by decide +kernel
theorem k_fm_look_24 : decode me_fm_look.2.1 24 = .ok (.aload_n 0, 1) := by decide +kernel
theorem k_fm_look_25 : decode me_fm_look.2.1 25 = .ok (.bipush (-9), 2) := by decide +kernel
theorem k_fm_look_27 : decode me_fm_look.2.1 27 = .ok (.putfield 276, 3) := by decide +kernel
theorem k_fm_look_30 : decode me_fm_look.2.1 30 = .ok (.aload_n 0, 1) := by decide +kernel
theorem k_fm_look_31 : decode me_fm_look.2.1 31 = .ok (.bipush (-9), 2) := by decide +kernel
theorem k_fm_look_33 : decode me_fm_look.2.1 33 = .ok (.putfield 279, 3) := by decide +kernel
theorem k_fm_look_36 : decode me_fm_look.2.1 36 = .ok (.aload_n 0, 1) := by decide +kernel
theorem k_fm_look_37 : decode me_fm_look.2.1 37 = .ok (.bipush (-9), 2) := by decide +kernel
theorem k_fm_look_39 : decode me_fm_look.2.1 39 = .ok (.putfield 282, 3) := by decide +kernel
theorem k_fm_look_42 : decode me_fm_look.2.1 42 = .ok (.aload_n 0, 1) := by decide +kernel
theorem k_fm_look_43 : decode me_fm_look.2.1 43 = .ok (.iconst 0, 1) := by decide +kernel
theorem k_fm_look_44 : decode me_fm_look.2.1 44 = .ok (.putfield 285, 3) := by decide +kernel
theorem k_fm_look_47 : decode me_fm_look.2.1 47 = .ok (.iconst 0, 1) := by decide +kernel
theorem k_fm_look_48 : decode me_fm_look.2.1 48 = .ok (.istore_n 1, 1) := by decide +kernel
theorem k_fm_look_49 : decode me_fm_look.2.1 49 = .ok (.iconst 0, 1) := by decide +kernel
theorem k_fm_look_50 : decode me_fm_look.2.1 50 = .ok (.istore_n 2, 1) := by decide +kernel
theorem k_fm_look_51 : decode me_fm_look.2.1 51 = .ok (.iload_n 2, 1) := by decide +kernel
theorem k_fm_look_52 : decode me_fm_look.2.1 52 = .ok (.aload_n 0, 1) := by decide +kernel
theorem k_fm_look_53 : decode me_fm_look.2.1 53 = .ok (.getfield 158, 3) := by decide +kernel
theorem k_fm_look_56 : decode me_fm_look.2.1 56 = .ok (.if_icmp .ge 28, 3) := by decide +kernel
theorem k_fm_look_59 : decode me_fm_look.2.1 59 = .ok (.iload_n 1, 1) := by decide +kernel
theorem k_fm_look_60 : decode me_fm_look.2.1 60 = .ok (.ifCond .ne 12, 3) := by decide +kernel
theorem k_fm_look_63 : decode me_fm_look.2.1 63 = .ok (.aload_n 0, 1) := by decide +kernel
