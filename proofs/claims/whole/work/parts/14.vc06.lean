/-! printed by my own program: walks between loop heads -/
theorem v_fm_runs_53 {g : mG} {d : Nat} (x1 : Int32) (o2 : Option mV) (o3 : Option mV) {h : mH} {Q : Option mV → mH → Prop} (hsk : mSK h) (hv : ((x1 < 0 → mT g me_fm_runs (d + 1) 0 0 190 [some (vr 10 0), some (vi (0 : Int32)), o2, o3] [] h Q) ∧ (¬ x1 < 0 → (vp_in x1 30 ∧ (((hI h 12 0 x1.toNatClampNeg) = 0 → (vp_in x1 30 ∧ (vp_in x1 30 ∧ (vp_in x1 30 ∧ (((hI h 11 20 x1.toNatClampNeg) < 0 → (vp_in x1 30 ∧ (vp_in x1 30 ∧ (((hI h 11 14 x1.toNatClampNeg) < 0 → (vp_in x1 30 ∧ (vp_in (hI h 11 15 x1.toNatClampNeg) 4 ∧ (vp_in x1 30 ∧ (vp_in (hI h 11 15 x1.toNatClampNeg) 4 ∧ mT g me_fm_runs (d + 1) 0 0 53 [some (vr 10 0), some (vi (x1 + (-1))), o2, o3] [] (setI (setI h 11 29 x1.toNatClampNeg ((hI h 11 29 x1.toNatClampNeg) + ((hI h 11 28 x1.toNatClampNeg) + (0 : Int32)))) 11 34 ((hI h 11 15 x1.toNatClampNeg).toNatClampNeg) ((hI h 11 34 ((hI h 11 15 x1.toNatClampNeg).toNatClampNeg)) + ((hI h 11 29 x1.toNatClampNeg) + ((hI h 11 28 x1.toNatClampNeg) + (0 : Int32))))) Q))))) ∧ (¬ (hI h 11 14 x1.toNatClampNeg) < 0 → (vp_in x1 30 ∧ (vp_in (hI h 11 14 x1.toNatClampNeg) 30 ∧ (vp_in x1 30 ∧ (vp_in (hI h 11 14 x1.toNatClampNeg) 30 ∧ mT g me_fm_runs (d + 1) 0 0 53 [some (vr 10 0), some (vi (x1 + (-1))), o2, o3] [] (setI (setI h 11 29 x1.toNatClampNeg ((hI h 11 29 x1.toNatClampNeg) + ((hI h 11 28 x1.toNatClampNeg) + (0 : Int32)))) 11 29 ((hI h 11 14 x1.toNatClampNeg).toNatClampNeg) ((hI (setI h 11 29 x1.toNatClampNeg ((hI h 11 29 x1.toNatClampNeg) + ((hI h 11 28 x1.toNatClampNeg) + (0 : Int32)))) 11 29 ((hI h 11 14 x1.toNatClampNeg).toNatClampNeg)) + ((hI h 11 29 x1.toNatClampNeg) + ((hI h 11 28 x1.toNatClampNeg) + (0 : Int32))))) Q))))))))) ∧ (¬ (hI h 11 20 x1.toNatClampNeg) < 0 → (vp_in x1 30 ∧ (vp_in (hI h 11 20 x1.toNatClampNeg) 24 ∧ (((hI h 12 2 ((hI h 11 20 x1.toNatClampNeg).toNatClampNeg)) = 0 → (vp_in x1 30 ∧ (vp_in x1 30 ∧ (((hI h 11 14 x1.toNatClampNeg) < 0 → (vp_in x1 30 ∧ (vp_in (hI h 11 15 x1.toNatClampNeg) 4 ∧ (vp_in x1 30 ∧ (vp_in (hI h 11 15 x1.toNatClampNeg) 4 ∧ mT g me_fm_runs (d + 1) 0 0 53 [some (vr 10 0), some (vi (x1 + (-1))), o2, o3] [] (setI (setI h 11 29 x1.toNatClampNeg ((hI h 11 29 x1.toNatClampNeg) + ((hI h 11 28 x1.toNatClampNeg) + (0 : Int32)))) 11 34 ((hI h 11 15 x1.toNatClampNeg).toNatClampNeg) ((hI h 11 34 ((hI h 11 15 x1.toNatClampNeg).toNatClampNeg)) + ((hI h 11 29 x1.toNatClampNeg) + ((hI h 11 28 x1.toNatClampNeg) + (0 : Int32))))) Q))))) ∧ (¬ (hI h 11 14 x1.toNatClampNeg) < 0 → (vp_in x1 30 ∧ (vp_in (hI h 11 14 x1.toNatClampNeg) 30 ∧ (vp_in x1 30 ∧ (vp_in (hI h 11 14 x1.toNatClampNeg) 30 ∧ mT g me_fm_runs (d + 1) 0 0 53 [some (vr 10 0), some (vi (x1 + (-1))), o2, o3] [] (setI (setI h 11 29 x1.toNatClampNeg ((hI h 11 29 x1.toNatClampNeg) + ((hI h 11 28 x1.toNatClampNeg) + (0 : Int32)))) 11 29 ((hI h 11 14 x1.toNatClampNeg).toNatClampNeg) ((hI (setI h 11 29 x1.toNatClampNeg ((hI h 11 29 x1.toNatClampNeg) + ((hI h 11 28 x1.toNatClampNeg) + (0 : Int32)))) 11 29 ((hI h 11 14 x1.toNatClampNeg).toNatClampNeg)) + ((hI h 11 29 x1.toNatClampNeg) + ((hI h 11 28 x1.toNatClampNeg) + (0 : Int32))))) Q))))))))) ∧ (¬ (hI h 12 2 ((hI h 11 20 x1.toNatClampNeg).toNatClampNeg)) = 0 → (vp_in x1 30 ∧ (vp_in (hI h 11 20 x1.toNatClampNeg) 24 ∧ (vp_in x1 30 ∧ (vp_in x1 30 ∧ (((hI h 11 14 x1.toNatClampNeg) < 0 → (vp_in x1 30 ∧ (vp_in (hI h 11 15 x1.toNatClampNeg) 4 ∧ (vp_in x1 30 ∧ (vp_in (hI h 11 15 x1.toNatClampNeg) 4 ∧ mT g me_fm_runs (d + 1) 0 0 53 [some (vr 10 0), some (vi (x1 + (-1))), o2, o3] [] (setI (setI h 11 29 x1.toNatClampNeg ((hI h 11 29 x1.toNatClampNeg) + ((hI h 11 28 x1.toNatClampNeg) + (hI h 11 22 ((hI h 11 20 x1.toNatClampNeg).toNatClampNeg))))) 11 34 ((hI h 11 15 x1.toNatClampNeg).toNatClampNeg) ((hI h 11 34 ((hI h 11 15 x1.toNatClampNeg).toNatClampNeg)) + ((hI h 11 29 x1.toNatClampNeg) + ((hI h 11 28 x1.toNatClampNeg) + (hI h 11 22 ((hI h 11 20 x1.toNatClampNeg).toNatClampNeg)))))) Q))))) ∧ (¬ (hI h 11 14 x1.toNatClampNeg) < 0 → (vp_in x1 30 ∧ (vp_in (hI h 11 14 x1.toNatClampNeg) 30 ∧ (vp_in x1 30 ∧ (vp_in (hI h 11 14 x1.toNatClampNeg) 30 ∧ mT g me_fm_runs (d + 1) 0 0 53 [some (vr 10 0), some (vi (x1 + (-1))), o2, o3] [] (setI (setI h 11 29 x1.toNatClampNeg ((hI h 11 29 x1.toNatClampNeg) + ((hI h 11 28 x1.toNatClampNeg) + (hI h 11 22 ((hI h 11 20 x1.toNatClampNeg).toNatClampNeg))))) 11 29 ((hI h 11 14 x1.toNatClampNeg).toNatClampNeg) ((hI (setI h 11 29 x1.toNatClampNeg ((hI h 11 29 x1.toNatClampNeg) + ((hI h 11 28 x1.toNatClampNeg) + (hI h 11 22 ((hI h 11 20 x1.toNatClampNeg).toNatClampNeg))))) 11 29 ((hI h 11 14 x1.toNatClampNeg).toNatClampNeg)) + ((hI h 11 29 x1.toNatClampNeg) + ((hI h 11 28 x1.toNatClampNeg) + (hI h 11 22 ((hI h 11 20 x1.toNatClampNeg).toNatClampNeg)))))) Q)))))))))))))))))))) ∧ (¬ (hI h 12 0 x1.toNatClampNeg) = 0 → (vp_in x1 30 ∧ (vp_in x1 30 ∧ (((hI h 11 14 x1.toNatClampNeg) < 0 → (vp_in x1 30 ∧ (vp_in (hI h 11 15 x1.toNatClampNeg) 4 ∧ (vp_in x1 30 ∧ (vp_in (hI h 11 15 x1.toNatClampNeg) 4 ∧ mT g me_fm_runs (d + 1) 0 0 53 [some (vr 10 0), some (vi (x1 + (-1))), o2, o3] [] (setI (setI h 11 29 x1.toNatClampNeg (0 : Int32)) 11 34 ((hI h 11 15 x1.toNatClampNeg).toNatClampNeg) ((hI h 11 34 ((hI h 11 15 x1.toNatClampNeg).toNatClampNeg)) + (0 : Int32))) Q))))) ∧ (¬ (hI h 11 14 x1.toNatClampNeg) < 0 → (vp_in x1 30 ∧ (vp_in (hI h 11 14 x1.toNatClampNeg) 30 ∧ (vp_in x1 30 ∧ (vp_in (hI h 11 14 x1.toNatClampNeg) 30 ∧ mT g me_fm_runs (d + 1) 0 0 53 [some (vr 10 0), some (vi (x1 + (-1))), o2, o3] [] (setI (setI h 11 29 x1.toNatClampNeg (0 : Int32)) 11 29 ((hI h 11 14 x1.toNatClampNeg).toNatClampNeg) ((hI (setI h 11 29 x1.toNatClampNeg (0 : Int32)) 11 29 ((hI h 11 14 x1.toNatClampNeg).toNatClampNeg)) + (0 : Int32))) Q)))))))))))))) : mT g me_fm_runs (d + 1) 0 0 53 [some (vr 10 0), some (vi x1), o2, o3] [] h Q := by
  refine tr_iload_n (pc := 53) 1 k_fm_runs_53 rfl rfl ?_
  refine tr_if_lt (pc := 54) 188 k_fm_runs_54 (by decide) (fun q => ?_) (fun q => ?_)
  · replace hv := hv.1 q
    refine tr_iconst (pc := 188) (v := 0) k_fm_runs_188 (by decide) ?_
    refine tr_istore_n (pc := 189) 1 k_fm_runs_189 rfl (by decide) rfl ?_
    show mT g me_fm_runs (d + 1) 0 0 190 [some (vr 10 0), some (vi (0 : Int32)), o2, o3] [] h _
    exact hv
  · replace hv := hv.2 q
    refine tr_aload_n (pc := 57) 0 k_fm_runs_57 rfl rfl ?_
    refine tr_getP (pc := 58) k_fm_runs_58 fl_fm_59 rfl (Eq.trans rfl (hsk.1 10 22 _ rfl)) ?_
    refine tr_iload_n (pc := 61) 1 k_fm_runs_61 rfl rfl ?_
    refine tr_zaldx (pc := 62) k_fm_runs_62 (mvin (hsk.2.1 12 0 _ rfl) hv.1) rfl ?_
    replace hv := hv.2
    refine tr_if_eq (pc := 63) 76 k_fm_runs_63 (by decide) (fun q => ?_) (fun q => ?_)
    · replace hv := hv.1 q
      refine tr_aload_n (pc := 76) 0 k_fm_runs_76 rfl rfl ?_
      refine tr_getP (pc := 77) k_fm_runs_77 fl_fm_90 rfl (Eq.trans rfl (hsk.1 10 32 _ rfl)) ?_
      refine tr_iload_n (pc := 80) 1 k_fm_runs_80 rfl rfl ?_
      refine tr_dup2 (pc := 81) k_fm_runs_81 rfl rfl ?_
      refine tr_ialdx (pc := 82) k_fm_runs_82 (mvin (hsk.2.1 11 29 _ rfl) hv.1) rfl ?_
      replace hv := hv.2
      refine tr_aload_n (pc := 83) 0 k_fm_runs_83 rfl rfl ?_
      refine tr_getP (pc := 84) k_fm_runs_84 fl_fm_87 rfl (Eq.trans rfl (hsk.1 10 31 _ rfl)) ?_
      refine tr_iload_n (pc := 87) 1 k_fm_runs_87 rfl rfl ?_
      refine tr_ialdx (pc := 88) k_fm_runs_88 (mvin (hsk.2.1 11 28 _ rfl) hv.1) rfl ?_
      replace hv := hv.2
      refine tr_aload_n (pc := 89) 0 k_fm_runs_89 rfl rfl ?_
      refine tr_getP (pc := 90) k_fm_runs_90 fl_fm_56 rfl (Eq.trans rfl (hsk.1 10 21 _ rfl)) ?_
      refine tr_iload_n (pc := 93) 1 k_fm_runs_93 rfl rfl ?_
      refine tr_ialdx (pc := 94) k_fm_runs_94 (mvin (hsk.2.1 11 20 _ rfl) hv.1) rfl ?_
      replace hv := hv.2
      refine tr_if_lt (pc := 95) 126 k_fm_runs_95 (by decide) (fun q => ?_) (fun q => ?_)
      · replace hv := hv.1 q
        refine tr_iconst (pc := 126) (v := 0) k_fm_runs_126 (by decide) ?_
        refine tr_iadd (pc := 127) k_fm_runs_127 ?_
        refine tr_iadd (pc := 128) k_fm_runs_128 ?_
        refine tr_iast (pc := 129) k_fm_runs_129 (mvin (hsk.2.1 11 29 _ rfl) hv.1) ?_
        replace hv := hv.2
        refine tr_aload_n (pc := 130) 0 k_fm_runs_130 rfl rfl ?_
        refine tr_getP (pc := 131) k_fm_runs_131 fl_fm_38 rfl (Eq.trans (hP_setI) (hsk.1 10 15 _ rfl)) ?_
        refine tr_iload_n (pc := 134) 1 k_fm_runs_134 rfl rfl ?_
        refine tr_ialdx (pc := 135) k_fm_runs_135 (mvin (hsk.2.1 11 14 _ rfl) hv.1) (hI_nn (by decide)) ?_
        replace hv := hv.2
        refine tr_if_lt (pc := 136) 162 k_fm_runs_136 (by decide) (fun q => ?_) (fun q => ?_)
        · replace hv := hv.1 q
          refine tr_aload_n (pc := 162) 0 k_fm_runs_162 rfl rfl ?_
          refine tr_getP (pc := 163) k_fm_runs_163 fl_fm_105 rfl (Eq.trans (hP_setI) (hsk.1 10 37 _ rfl)) ?_
          refine tr_aload_n (pc := 166) 0 k_fm_runs_166 rfl rfl ?_
          refine tr_getP (pc := 167) k_fm_runs_167 fl_fm_41 rfl (Eq.trans (hP_setI) (hsk.1 10 16 _ rfl)) ?_
          refine tr_iload_n (pc := 170) 1 k_fm_runs_170 rfl rfl ?_
          refine tr_ialdx (pc := 171) k_fm_runs_171 (mvin (hsk.2.1 11 15 _ rfl) hv.1) (hI_nn (by decide)) ?_
          replace hv := hv.2
          refine tr_dup2 (pc := 172) k_fm_runs_172 rfl rfl ?_
          refine tr_ialdx (pc := 173) k_fm_runs_173 (mvin (hsk.2.1 11 34 _ rfl) hv.1) (hI_nn (by decide)) ?_
          replace hv := hv.2
          refine tr_aload_n (pc := 174) 0 k_fm_runs_174 rfl rfl ?_
          refine tr_getP (pc := 175) k_fm_runs_175 fl_fm_90 rfl (Eq.trans (hP_setI) (hsk.1 10 32 _ rfl)) ?_
          refine tr_iload_n (pc := 178) 1 k_fm_runs_178 rfl rfl ?_
          refine tr_ialdx (pc := 179) k_fm_runs_179 (mvin (hsk.2.1 11 29 _ rfl) hv.1) (hI_eq) ?_
          replace hv := hv.2
          refine tr_iadd (pc := 180) k_fm_runs_180 ?_
          refine tr_iast (pc := 181) k_fm_runs_181 (mvin (hsk.2.1 11 34 _ rfl) hv.1) ?_
          replace hv := hv.2
          refine tr_iinc (pc := 182) (v := (x1 + (-1))) k_fm_runs_182 rfl rfl (by decide) rfl ?_
          show mT g me_fm_runs (d + 1) 0 0 185 [some (vr 10 0), some (vi (x1 + (-1))), o2, o3] [] (setI (setI h 11 29 x1.toNatClampNeg ((hI h 11 29 x1.toNatClampNeg) + ((hI h 11 28 x1.toNatClampNeg) + (0 : Int32)))) 11 34 ((hI h 11 15 x1.toNatClampNeg).toNatClampNeg) ((hI h 11 34 ((hI h 11 15 x1.toNatClampNeg).toNatClampNeg)) + ((hI h 11 29 x1.toNatClampNeg) + ((hI h 11 28 x1.toNatClampNeg) + (0 : Int32))))) _
          refine tr_goto (pc := 185) 53 k_fm_runs_185 (by decide) ?_
          exact hv
        · replace hv := hv.2 q
          refine tr_aload_n (pc := 139) 0 k_fm_runs_139 rfl rfl ?_
          refine tr_getP (pc := 140) k_fm_runs_140 fl_fm_90 rfl (Eq.trans (hP_setI) (hsk.1 10 32 _ rfl)) ?_
          refine tr_aload_n (pc := 143) 0 k_fm_runs_143 rfl rfl ?_
          refine tr_getP (pc := 144) k_fm_runs_144 fl_fm_38 rfl (Eq.trans (hP_setI) (hsk.1 10 15 _ rfl)) ?_
          refine tr_iload_n (pc := 147) 1 k_fm_runs_147 rfl rfl ?_
          refine tr_ialdx (pc := 148) k_fm_runs_148 (mvin (hsk.2.1 11 14 _ rfl) hv.1) (hI_nn (by decide)) ?_
          replace hv := hv.2
          refine tr_dup2 (pc := 149) k_fm_runs_149 rfl rfl ?_
          refine tr_ialdx (pc := 150) k_fm_runs_150 (mvin (hsk.2.1 11 29 _ rfl) hv.1) rfl ?_
          replace hv := hv.2
          refine tr_aload_n (pc := 151) 0 k_fm_runs_151 rfl rfl ?_
          refine tr_getP (pc := 152) k_fm_runs_152 fl_fm_90 rfl (Eq.trans (hP_setI) (hsk.1 10 32 _ rfl)) ?_
          refine tr_iload_n (pc := 155) 1 k_fm_runs_155 rfl rfl ?_
          refine tr_ialdx (pc := 156) k_fm_runs_156 (mvin (hsk.2.1 11 29 _ rfl) hv.1) (hI_eq) ?_
          replace hv := hv.2
          refine tr_iadd (pc := 157) k_fm_runs_157 ?_
          refine tr_iast (pc := 158) k_fm_runs_158 (mvin (hsk.2.1 11 29 _ rfl) hv.1) ?_
          replace hv := hv.2
          refine tr_goto (pc := 159) 182 k_fm_runs_159 (by decide) ?_
          refine tr_iinc (pc := 182) (v := (x1 + (-1))) k_fm_runs_182 rfl rfl (by decide) rfl ?_
          show mT g me_fm_runs (d + 1) 0 0 185 [some (vr 10 0), some (vi (x1 + (-1))), o2, o3] [] (setI (setI h 11 29 x1.toNatClampNeg ((hI h 11 29 x1.toNatClampNeg) + ((hI h 11 28 x1.toNatClampNeg) + (0 : Int32)))) 11 29 ((hI h 11 14 x1.toNatClampNeg).toNatClampNeg) ((hI (setI h 11 29 x1.toNatClampNeg ((hI h 11 29 x1.toNatClampNeg) + ((hI h 11 28 x1.toNatClampNeg) + (0 : Int32)))) 11 29 ((hI h 11 14 x1.toNatClampNeg).toNatClampNeg)) + ((hI h 11 29 x1.toNatClampNeg) + ((hI h 11 28 x1.toNatClampNeg) + (0 : Int32))))) _
          refine tr_goto (pc := 185) 53 k_fm_runs_185 (by decide) ?_
          exact hv
      · replace hv := hv.2 q
        refine tr_aload_n (pc := 98) 0 k_fm_runs_98 rfl rfl ?_
        refine tr_getP (pc := 99) k_fm_runs_99 fl_fm_108 rfl (Eq.trans rfl (hsk.1 10 38 _ rfl)) ?_
        refine tr_aload_n (pc := 102) 0 k_fm_runs_102 rfl rfl ?_
        refine tr_getP (pc := 103) k_fm_runs_103 fl_fm_56 rfl (Eq.trans rfl (hsk.1 10 21 _ rfl)) ?_
        refine tr_iload_n (pc := 106) 1 k_fm_runs_106 rfl rfl ?_
        refine tr_ialdx (pc := 107) k_fm_runs_107 (mvin (hsk.2.1 11 20 _ rfl) hv.1) rfl ?_
        replace hv := hv.2
        refine tr_zaldx (pc := 108) k_fm_runs_108 (mvin (hsk.2.1 12 2 _ rfl) hv.1) rfl ?_
        replace hv := hv.2
        refine tr_if_eq (pc := 109) 126 k_fm_runs_109 (by decide) (fun q => ?_) (fun q => ?_)
        · replace hv := hv.1 q
          refine tr_iconst (pc := 126) (v := 0) k_fm_runs_126 (by decide) ?_
          refine tr_iadd (pc := 127) k_fm_runs_127 ?_
          refine tr_iadd (pc := 128) k_fm_runs_128 ?_
          refine tr_iast (pc := 129) k_fm_runs_129 (mvin (hsk.2.1 11 29 _ rfl) hv.1) ?_
          replace hv := hv.2
          refine tr_aload_n (pc := 130) 0 k_fm_runs_130 rfl rfl ?_
          refine tr_getP (pc := 131) k_fm_runs_131 fl_fm_38 rfl (Eq.trans (hP_setI) (hsk.1 10 15 _ rfl)) ?_
          refine tr_iload_n (pc := 134) 1 k_fm_runs_134 rfl rfl ?_
          refine tr_ialdx (pc := 135) k_fm_runs_135 (mvin (hsk.2.1 11 14 _ rfl) hv.1) (hI_nn (by decide)) ?_
          replace hv := hv.2
          refine tr_if_lt (pc := 136) 162 k_fm_runs_136 (by decide) (fun q => ?_) (fun q => ?_)
          · replace hv := hv.1 q
            refine tr_aload_n (pc := 162) 0 k_fm_runs_162 rfl rfl ?_
            refine tr_getP (pc := 163) k_fm_runs_163 fl_fm_105 rfl (Eq.trans (hP_setI) (hsk.1 10 37 _ rfl)) ?_
            refine tr_aload_n (pc := 166) 0 k_fm_runs_166 rfl rfl ?_
            refine tr_getP (pc := 167) k_fm_runs_167 fl_fm_41 rfl (Eq.trans (hP_setI) (hsk.1 10 16 _ rfl)) ?_
            refine tr_iload_n (pc := 170) 1 k_fm_runs_170 rfl rfl ?_
            refine tr_ialdx (pc := 171) k_fm_runs_171 (mvin (hsk.2.1 11 15 _ rfl) hv.1) (hI_nn (by decide)) ?_
            replace hv := hv.2
            refine tr_dup2 (pc := 172) k_fm_runs_172 rfl rfl ?_
            refine tr_ialdx (pc := 173) k_fm_runs_173 (mvin (hsk.2.1 11 34 _ rfl) hv.1) (hI_nn (by decide)) ?_
            replace hv := hv.2
            refine tr_aload_n (pc := 174) 0 k_fm_runs_174 rfl rfl ?_
            refine tr_getP (pc := 175) k_fm_runs_175 fl_fm_90 rfl (Eq.trans (hP_setI) (hsk.1 10 32 _ rfl)) ?_
            refine tr_iload_n (pc := 178) 1 k_fm_runs_178 rfl rfl ?_
            refine tr_ialdx (pc := 179) k_fm_runs_179 (mvin (hsk.2.1 11 29 _ rfl) hv.1) (hI_eq) ?_
            replace hv := hv.2
            refine tr_iadd (pc := 180) k_fm_runs_180 ?_
            refine tr_iast (pc := 181) k_fm_runs_181 (mvin (hsk.2.1 11 34 _ rfl) hv.1) ?_
            replace hv := hv.2
            refine tr_iinc (pc := 182) (v := (x1 + (-1))) k_fm_runs_182 rfl rfl (by decide) rfl ?_
            show mT g me_fm_runs (d + 1) 0 0 185 [some (vr 10 0), some (vi (x1 + (-1))), o2, o3] [] (setI (setI h 11 29 x1.toNatClampNeg ((hI h 11 29 x1.toNatClampNeg) + ((hI h 11 28 x1.toNatClampNeg) + (0 : Int32)))) 11 34 ((hI h 11 15 x1.toNatClampNeg).toNatClampNeg) ((hI h 11 34 ((hI h 11 15 x1.toNatClampNeg).toNatClampNeg)) + ((hI h 11 29 x1.toNatClampNeg) + ((hI h 11 28 x1.toNatClampNeg) + (0 : Int32))))) _
            refine tr_goto (pc := 185) 53 k_fm_runs_185 (by decide) ?_
            exact hv
          · replace hv := hv.2 q
            refine tr_aload_n (pc := 139) 0 k_fm_runs_139 rfl rfl ?_
            refine tr_getP (pc := 140) k_fm_runs_140 fl_fm_90 rfl (Eq.trans (hP_setI) (hsk.1 10 32 _ rfl)) ?_
            refine tr_aload_n (pc := 143) 0 k_fm_runs_143 rfl rfl ?_
            refine tr_getP (pc := 144) k_fm_runs_144 fl_fm_38 rfl (Eq.trans (hP_setI) (hsk.1 10 15 _ rfl)) ?_
            refine tr_iload_n (pc := 147) 1 k_fm_runs_147 rfl rfl ?_
            refine tr_ialdx (pc := 148) k_fm_runs_148 (mvin (hsk.2.1 11 14 _ rfl) hv.1) (hI_nn (by decide)) ?_
            replace hv := hv.2
            refine tr_dup2 (pc := 149) k_fm_runs_149 rfl rfl ?_
            refine tr_ialdx (pc := 150) k_fm_runs_150 (mvin (hsk.2.1 11 29 _ rfl) hv.1) rfl ?_
            replace hv := hv.2
            refine tr_aload_n (pc := 151) 0 k_fm_runs_151 rfl rfl ?_
            refine tr_getP (pc := 152) k_fm_runs_152 fl_fm_90 rfl (Eq.trans (hP_setI) (hsk.1 10 32 _ rfl)) ?_
            refine tr_iload_n (pc := 155) 1 k_fm_runs_155 rfl rfl ?_
            refine tr_ialdx (pc := 156) k_fm_runs_156 (mvin (hsk.2.1 11 29 _ rfl) hv.1) (hI_eq) ?_
            replace hv := hv.2
            refine tr_iadd (pc := 157) k_fm_runs_157 ?_
            refine tr_iast (pc := 158) k_fm_runs_158 (mvin (hsk.2.1 11 29 _ rfl) hv.1) ?_
            replace hv := hv.2
            refine tr_goto (pc := 159) 182 k_fm_runs_159 (by decide) ?_
            refine tr_iinc (pc := 182) (v := (x1 + (-1))) k_fm_runs_182 rfl rfl (by decide) rfl ?_
            show mT g me_fm_runs (d + 1) 0 0 185 [some (vr 10 0), some (vi (x1 + (-1))), o2, o3] [] (setI (setI h 11 29 x1.toNatClampNeg ((hI h 11 29 x1.toNatClampNeg) + ((hI h 11 28 x1.toNatClampNeg) + (0 : Int32)))) 11 29 ((hI h 11 14 x1.toNatClampNeg).toNatClampNeg) ((hI (setI h 11 29 x1.toNatClampNeg ((hI h 11 29 x1.toNatClampNeg) + ((hI h 11 28 x1.toNatClampNeg) + (0 : Int32)))) 11 29 ((hI h 11 14 x1.toNatClampNeg).toNatClampNeg)) + ((hI h 11 29 x1.toNatClampNeg) + ((hI h 11 28 x1.toNatClampNeg) + (0 : Int32))))) _
            refine tr_goto (pc := 185) 53 k_fm_runs_185 (by decide) ?_
            exact hv
        · replace hv := hv.2 q
          refine tr_aload_n (pc := 112) 0 k_fm_runs_112 rfl rfl ?_
          refine tr_getP (pc := 113) k_fm_runs_113 fl_fm_66 rfl (Eq.trans rfl (hsk.1 10 24 _ rfl)) ?_
          refine tr_aload_n (pc := 116) 0 k_fm_runs_116 rfl rfl ?_
          refine tr_getP (pc := 117) k_fm_runs_117 fl_fm_56 rfl (Eq.trans rfl (hsk.1 10 21 _ rfl)) ?_
          refine tr_iload_n (pc := 120) 1 k_fm_runs_120 rfl rfl ?_
          refine tr_ialdx (pc := 121) k_fm_runs_121 (mvin (hsk.2.1 11 20 _ rfl) hv.1) rfl ?_
          replace hv := hv.2
          refine tr_ialdx (pc := 122) k_fm_runs_122 (mvin (hsk.2.1 11 22 _ rfl) hv.1) rfl ?_
          replace hv := hv.2
          refine tr_goto (pc := 123) 127 k_fm_runs_123 (by decide) ?_
          refine tr_iadd (pc := 127) k_fm_runs_127 ?_
          refine tr_iadd (pc := 128) k_fm_runs_128 ?_
          refine tr_iast (pc := 129) k_fm_runs_129 (mvin (hsk.2.1 11 29 _ rfl) hv.1) ?_
          replace hv := hv.2
          refine tr_aload_n (pc := 130) 0 k_fm_runs_130 rfl rfl ?_
          refine tr_getP (pc := 131) k_fm_runs_131 fl_fm_38 rfl (Eq.trans (hP_setI) (hsk.1 10 15 _ rfl)) ?_
          refine tr_iload_n (pc := 134) 1 k_fm_runs_134 rfl rfl ?_
          refine tr_ialdx (pc := 135) k_fm_runs_135 (mvin (hsk.2.1 11 14 _ rfl) hv.1) (hI_nn (by decide)) ?_
          replace hv := hv.2
          refine tr_if_lt (pc := 136) 162 k_fm_runs_136 (by decide) (fun q => ?_) (fun q => ?_)
          · replace hv := hv.1 q
            refine tr_aload_n (pc := 162) 0 k_fm_runs_162 rfl rfl ?_
            refine tr_getP (pc := 163) k_fm_runs_163 fl_fm_105 rfl (Eq.trans (hP_setI) (hsk.1 10 37 _ rfl)) ?_
            refine tr_aload_n (pc := 166) 0 k_fm_runs_166 rfl rfl ?_
            refine tr_getP (pc := 167) k_fm_runs_167 fl_fm_41 rfl (Eq.trans (hP_setI) (hsk.1 10 16 _ rfl)) ?_
            refine tr_iload_n (pc := 170) 1 k_fm_runs_170 rfl rfl ?_
            refine tr_ialdx (pc := 171) k_fm_runs_171 (mvin (hsk.2.1 11 15 _ rfl) hv.1) (hI_nn (by decide)) ?_
            replace hv := hv.2
            refine tr_dup2 (pc := 172) k_fm_runs_172 rfl rfl ?_
            refine tr_ialdx (pc := 173) k_fm_runs_173 (mvin (hsk.2.1 11 34 _ rfl) hv.1) (hI_nn (by decide)) ?_
            replace hv := hv.2
            refine tr_aload_n (pc := 174) 0 k_fm_runs_174 rfl rfl ?_
            refine tr_getP (pc := 175) k_fm_runs_175 fl_fm_90 rfl (Eq.trans (hP_setI) (hsk.1 10 32 _ rfl)) ?_
            refine tr_iload_n (pc := 178) 1 k_fm_runs_178 rfl rfl ?_
            refine tr_ialdx (pc := 179) k_fm_runs_179 (mvin (hsk.2.1 11 29 _ rfl) hv.1) (hI_eq) ?_
            replace hv := hv.2
            refine tr_iadd (pc := 180) k_fm_runs_180 ?_
            refine tr_iast (pc := 181) k_fm_runs_181 (mvin (hsk.2.1 11 34 _ rfl) hv.1) ?_
            replace hv := hv.2
            refine tr_iinc (pc := 182) (v := (x1 + (-1))) k_fm_runs_182 rfl rfl (by decide) rfl ?_
            show mT g me_fm_runs (d + 1) 0 0 185 [some (vr 10 0), some (vi (x1 + (-1))), o2, o3] [] (setI (setI h 11 29 x1.toNatClampNeg ((hI h 11 29 x1.toNatClampNeg) + ((hI h 11 28 x1.toNatClampNeg) + (hI h 11 22 ((hI h 11 20 x1.toNatClampNeg).toNatClampNeg))))) 11 34 ((hI h 11 15 x1.toNatClampNeg).toNatClampNeg) ((hI h 11 34 ((hI h 11 15 x1.toNatClampNeg).toNatClampNeg)) + ((hI h 11 29 x1.toNatClampNeg) + ((hI h 11 28 x1.toNatClampNeg) + (hI h 11 22 ((hI h 11 20 x1.toNatClampNeg).toNatClampNeg)))))) _
            refine tr_goto (pc := 185) 53 k_fm_runs_185 (by decide) ?_
            exact hv
          · replace hv := hv.2 q
            refine tr_aload_n (pc := 139) 0 k_fm_runs_139 rfl rfl ?_
            refine tr_getP (pc := 140) k_fm_runs_140 fl_fm_90 rfl (Eq.trans (hP_setI) (hsk.1 10 32 _ rfl)) ?_
            refine tr_aload_n (pc := 143) 0 k_fm_runs_143 rfl rfl ?_
            refine tr_getP (pc := 144) k_fm_runs_144 fl_fm_38 rfl (Eq.trans (hP_setI) (hsk.1 10 15 _ rfl)) ?_
            refine tr_iload_n (pc := 147) 1 k_fm_runs_147 rfl rfl ?_
            refine tr_ialdx (pc := 148) k_fm_runs_148 (mvin (hsk.2.1 11 14 _ rfl) hv.1) (hI_nn (by decide)) ?_
            replace hv := hv.2
            refine tr_dup2 (pc := 149) k_fm_runs_149 rfl rfl ?_
            refine tr_ialdx (pc := 150) k_fm_runs_150 (mvin (hsk.2.1 11 29 _ rfl) hv.1) rfl ?_
            replace hv := hv.2
            refine tr_aload_n (pc := 151) 0 k_fm_runs_151 rfl rfl ?_
            refine tr_getP (pc := 152) k_fm_runs_152 fl_fm_90 rfl (Eq.trans (hP_setI) (hsk.1 10 32 _ rfl)) ?_
            refine tr_iload_n (pc := 155) 1 k_fm_runs_155 rfl rfl ?_
            refine tr_ialdx (pc := 156) k_fm_runs_156 (mvin (hsk.2.1 11 29 _ rfl) hv.1) (hI_eq) ?_
            replace hv := hv.2
            refine tr_iadd (pc := 157) k_fm_runs_157 ?_
            refine tr_iast (pc := 158) k_fm_runs_158 (mvin (hsk.2.1 11 29 _ rfl) hv.1) ?_
            replace hv := hv.2
            refine tr_goto (pc := 159) 182 k_fm_runs_159 (by decide) ?_
            refine tr_iinc (pc := 182) (v := (x1 + (-1))) k_fm_runs_182 rfl rfl (by decide) rfl ?_
            show mT g me_fm_runs (d + 1) 0 0 185 [some (vr 10 0), some (vi (x1 + (-1))), o2, o3] [] (setI (setI h 11 29 x1.toNatClampNeg ((hI h 11 29 x1.toNatClampNeg) + ((hI h 11 28 x1.toNatClampNeg) + (hI h 11 22 ((hI h 11 20 x1.toNatClampNeg).toNatClampNeg))))) 11 29 ((hI h 11 14 x1.toNatClampNeg).toNatClampNeg) ((hI (setI h 11 29 x1.toNatClampNeg ((hI h 11 29 x1.toNatClampNeg) + ((hI h 11 28 x1.toNatClampNeg) + (hI h 11 22 ((hI h 11 20 x1.toNatClampNeg).toNatClampNeg))))) 11 29 ((hI h 11 14 x1.toNatClampNeg).toNatClampNeg)) + ((hI h 11 29 x1.toNatClampNeg) + ((hI h 11 28 x1.toNatClampNeg) + (hI h 11 22 ((hI h 11 20 x1.toNatClampNeg).toNatClampNeg)))))) _
            refine tr_goto (pc := 185) 53 k_fm_runs_185 (by decide) ?_
            exact hv
    · replace hv := hv.2 q
      refine tr_aload_n (pc := 66) 0 k_fm_runs_66 rfl rfl ?_
      refine tr_getP (pc := 67) k_fm_runs_67 fl_fm_90 rfl (Eq.trans rfl (hsk.1 10 32 _ rfl)) ?_
      refine tr_iload_n (pc := 70) 1 k_fm_runs_70 rfl rfl ?_
      refine tr_iconst (pc := 71) (v := 0) k_fm_runs_71 (by decide) ?_
      refine tr_iast (pc := 72) k_fm_runs_72 (mvin (hsk.2.1 11 29 _ rfl) hv.1) ?_
      replace hv := hv.2
      refine tr_goto (pc := 73) 130 k_fm_runs_73 (by decide) ?_
      refine tr_aload_n (pc := 130) 0 k_fm_runs_130 rfl rfl ?_
      refine tr_getP (pc := 131) k_fm_runs_131 fl_fm_38 rfl (Eq.trans (hP_setI) (hsk.1 10 15 _ rfl)) ?_
      refine tr_iload_n (pc := 134) 1 k_fm_runs_134 rfl rfl ?_
      refine tr_ialdx (pc := 135) k_fm_runs_135 (mvin (hsk.2.1 11 14 _ rfl) hv.1) (hI_nn (by decide)) ?_
      replace hv := hv.2
      refine tr_if_lt (pc := 136) 162 k_fm_runs_136 (by decide) (fun q => ?_) (fun q => ?_)
      · replace hv := hv.1 q
        refine tr_aload_n (pc := 162) 0 k_fm_runs_162 rfl rfl ?_
        refine tr_getP (pc := 163) k_fm_runs_163 fl_fm_105 rfl (Eq.trans (hP_setI) (hsk.1 10 37 _ rfl)) ?_
        refine tr_aload_n (pc := 166) 0 k_fm_runs_166 rfl rfl ?_
        refine tr_getP (pc := 167) k_fm_runs_167 fl_fm_41 rfl (Eq.trans (hP_setI) (hsk.1 10 16 _ rfl)) ?_
        refine tr_iload_n (pc := 170) 1 k_fm_runs_170 rfl rfl ?_
        refine tr_ialdx (pc := 171) k_fm_runs_171 (mvin (hsk.2.1 11 15 _ rfl) hv.1) (hI_nn (by decide)) ?_
        replace hv := hv.2
        refine tr_dup2 (pc := 172) k_fm_runs_172 rfl rfl ?_
        refine tr_ialdx (pc := 173) k_fm_runs_173 (mvin (hsk.2.1 11 34 _ rfl) hv.1) (hI_nn (by decide)) ?_
        replace hv := hv.2
        refine tr_aload_n (pc := 174) 0 k_fm_runs_174 rfl rfl ?_
        refine tr_getP (pc := 175) k_fm_runs_175 fl_fm_90 rfl (Eq.trans (hP_setI) (hsk.1 10 32 _ rfl)) ?_
        refine tr_iload_n (pc := 178) 1 k_fm_runs_178 rfl rfl ?_
        refine tr_ialdx (pc := 179) k_fm_runs_179 (mvin (hsk.2.1 11 29 _ rfl) hv.1) (hI_eq) ?_
        replace hv := hv.2
        refine tr_iadd (pc := 180) k_fm_runs_180 ?_
        refine tr_iast (pc := 181) k_fm_runs_181 (mvin (hsk.2.1 11 34 _ rfl) hv.1) ?_
        replace hv := hv.2
        refine tr_iinc (pc := 182) (v := (x1 + (-1))) k_fm_runs_182 rfl rfl (by decide) rfl ?_
        show mT g me_fm_runs (d + 1) 0 0 185 [some (vr 10 0), some (vi (x1 + (-1))), o2, o3] [] (setI (setI h 11 29 x1.toNatClampNeg (0 : Int32)) 11 34 ((hI h 11 15 x1.toNatClampNeg).toNatClampNeg) ((hI h 11 34 ((hI h 11 15 x1.toNatClampNeg).toNatClampNeg)) + (0 : Int32))) _
        refine tr_goto (pc := 185) 53 k_fm_runs_185 (by decide) ?_
        exact hv
      · replace hv := hv.2 q
        refine tr_aload_n (pc := 139) 0 k_fm_runs_139 rfl rfl ?_
        refine tr_getP (pc := 140) k_fm_runs_140 fl_fm_90 rfl (Eq.trans (hP_setI) (hsk.1 10 32 _ rfl)) ?_
        refine tr_aload_n (pc := 143) 0 k_fm_runs_143 rfl rfl ?_
        refine tr_getP (pc := 144) k_fm_runs_144 fl_fm_38 rfl (Eq.trans (hP_setI) (hsk.1 10 15 _ rfl)) ?_
        refine tr_iload_n (pc := 147) 1 k_fm_runs_147 rfl rfl ?_
        refine tr_ialdx (pc := 148) k_fm_runs_148 (mvin (hsk.2.1 11 14 _ rfl) hv.1) (hI_nn (by decide)) ?_
        replace hv := hv.2
        refine tr_dup2 (pc := 149) k_fm_runs_149 rfl rfl ?_
        refine tr_ialdx (pc := 150) k_fm_runs_150 (mvin (hsk.2.1 11 29 _ rfl) hv.1) rfl ?_
        replace hv := hv.2
        refine tr_aload_n (pc := 151) 0 k_fm_runs_151 rfl rfl ?_
        refine tr_getP (pc := 152) k_fm_runs_152 fl_fm_90 rfl (Eq.trans (hP_setI) (hsk.1 10 32 _ rfl)) ?_
        refine tr_iload_n (pc := 155) 1 k_fm_runs_155 rfl rfl ?_
        refine tr_ialdx (pc := 156) k_fm_runs_156 (mvin (hsk.2.1 11 29 _ rfl) hv.1) (hI_eq) ?_
        replace hv := hv.2
        refine tr_iadd (pc := 157) k_fm_runs_157 ?_
        refine tr_iast (pc := 158) k_fm_runs_158 (mvin (hsk.2.1 11 29 _ rfl) hv.1) ?_
        replace hv := hv.2
        refine tr_goto (pc := 159) 182 k_fm_runs_159 (by decide) ?_
        refine tr_iinc (pc := 182) (v := (x1 + (-1))) k_fm_runs_182 rfl rfl (by decide) rfl ?_
        show mT g me_fm_runs (d + 1) 0 0 185 [some (vr 10 0), some (vi (x1 + (-1))), o2, o3] [] (setI (setI h 11 29 x1.toNatClampNeg (0 : Int32)) 11 29 ((hI h 11 14 x1.toNatClampNeg).toNatClampNeg) ((hI (setI h 11 29 x1.toNatClampNeg (0 : Int32)) 11 29 ((hI h 11 14 x1.toNatClampNeg).toNatClampNeg)) + (0 : Int32))) _
        refine tr_goto (pc := 185) 53 k_fm_runs_185 (by decide) ?_
        exact hv
theorem v_fm_runs_190 {g : mG} {d : Nat} (x1 : Int32) (o2 : Option mV) (o3 : Option mV) {h : mH} {Q : Option mV → mH → Prop} (hsk : mSK h) (hv : (((hI h 10 0 3) ≤ x1 → Q none h) ∧ (¬ (hI h 10 0 3) ≤ x1 → (vp_in x1 30 ∧ ((¬ (hI h 12 0 x1.toNatClampNeg) = 0 → (vp_in x1 30 ∧ (vp_in x1 30 ∧ (vp_in x1 30 ∧ (vp_in x1 30 ∧ (vp_in x1 30 ∧ (vp_in x1 30 ∧ (¬ (((100 : Int64) * (Int32.toInt64 (hI h 11 17 x1.toNatClampNeg))) * (Int32.toInt64 (hI h 11 17 x1.toNatClampNeg))) = 0 ∧ (vp_in x1 30 ∧ (vp_in x1 30 ∧ (vp_in x1 30 ∧ (vp_in x1 30 ∧ mT g me_fm_runs (d + 1) 0 0 190 [some (vr 10 0), some (vi (x1 + 1)), some (vi (1 : Int32)), some (vi (hI h 11 15 x1.toNatClampNeg))] [] (setI (setI (setI (setI h 11 29 x1.toNatClampNeg (0 : Int32)) 11 30 x1.toNatClampNeg (Int64.toInt32 ((((Int32.toInt64 (0 : Int32)) * (Int32.toInt64 (0 : Int32))) * (Int32.toInt64 (hI h 11 18 x1.toNatClampNeg))) / (((100 : Int64) * (Int32.toInt64 (hI h 11 17 x1.toNatClampNeg))) * (Int32.toInt64 (hI h 11 17 x1.toNatClampNeg)))))) 11 35 x1.toNatClampNeg (-1 : Int32)) 11 31 x1.toNatClampNeg (0 : Int32)) Q)))))))))))) ∧ ((hI h 12 0 x1.toNatClampNeg) = 0 → (vp_in x1 30 ∧ (((hI h 11 14 x1.toNatClampNeg) < 0 → (vp_in x1 30 ∧ (vp_in x1 30 ∧ (vp_in x1 30 ∧ (vp_in x1 30 ∧ (vp_in x1 30 ∧ (¬ (((100 : Int64) * (Int32.toInt64 (hI h 11 17 x1.toNatClampNeg))) * (Int32.toInt64 (hI h 11 17 x1.toNatClampNeg))) = 0 ∧ (vp_in x1 30 ∧ (vp_in x1 30 ∧ (vp_in x1 30 ∧ (((hI h 11 14 x1.toNatClampNeg) < 0 → (vp_in x1 30 ∧ (vp_in x1 30 ∧ (vp_in (hI h 11 15 x1.toNatClampNeg) 4 ∧ ((¬ (hI h 11 33 ((hI h 11 15 x1.toNatClampNeg).toNatClampNeg)) = 0 → (vp_in (hI h 11 15 x1.toNatClampNeg) 4 ∧ (vp_in (hI h 11 15 x1.toNatClampNeg) 4 ∧ (vp_in (hI h 11 15 x1.toNatClampNeg) 4 ∧ (¬ (hI h 11 8 ((hI h 11 15 x1.toNatClampNeg).toNatClampNeg)) = 0 ∧ (vp_in x1 30 ∧ (vp_in x1 30 ∧ (vp_in x1 30 ∧ mT g me_fm_runs (d + 1) 0 0 190 [some (vr 10 0), some (vi (x1 + 1)), some (vi (0 : Int32)), some (vi (hI h 11 15 x1.toNatClampNeg))] [] (setI (setI (setI h 11 30 x1.toNatClampNeg (Int64.toInt32 ((((Int32.toInt64 (hI h 11 29 x1.toNatClampNeg)) * (Int32.toInt64 (hI h 11 29 x1.toNatClampNeg))) * (Int32.toInt64 (hI h 11 18 x1.toNatClampNeg))) / (((100 : Int64) * (Int32.toInt64 (hI h 11 17 x1.toNatClampNeg))) * (Int32.toInt64 (hI h 11 17 x1.toNatClampNeg)))))) 11 35 x1.toNatClampNeg ((Int64.toInt32 ((((Int32.toInt64 (hI h 11 29 x1.toNatClampNeg)) * (Int32.toInt64 (hI h 11 29 x1.toNatClampNeg))) * (Int32.toInt64 (hI h 11 18 x1.toNatClampNeg))) / (((100 : Int64) * (Int32.toInt64 (hI h 11 17 x1.toNatClampNeg))) * (Int32.toInt64 (hI h 11 17 x1.toNatClampNeg))))) + (0 : Int32))) 11 31 x1.toNatClampNeg ((((hI h 11 7 ((hI h 11 15 x1.toNatClampNeg).toNatClampNeg)) + ((hI h 11 33 ((hI h 11 15 x1.toNatClampNeg).toNatClampNeg)) / (hI h 11 8 ((hI h 11 15 x1.toNatClampNeg).toNatClampNeg)))) - ((Int64.toInt32 ((((Int32.toInt64 (hI h 11 29 x1.toNatClampNeg)) * (Int32.toInt64 (hI h 11 29 x1.toNatClampNeg))) * (Int32.toInt64 (hI h 11 18 x1.toNatClampNeg))) / (((100 : Int64) * (Int32.toInt64 (hI h 11 17 x1.toNatClampNeg))) * (Int32.toInt64 (hI h 11 17 x1.toNatClampNeg))))) + (0 : Int32))) - (hI h 11 16 x1.toNatClampNeg))) Q)))))))) ∧ ((hI h 11 33 ((hI h 11 15 x1.toNatClampNeg).toNatClampNeg)) = 0 → (vp_in x1 30 ∧ mT g me_fm_runs (d + 1) 0 0 190 [some (vr 10 0), some (vi (x1 + 1)), some (vi (0 : Int32)), some (vi (hI h 11 15 x1.toNatClampNeg))] [] (setI (setI (setI h 11 30 x1.toNatClampNeg (Int64.toInt32 ((((Int32.toInt64 (hI h 11 29 x1.toNatClampNeg)) * (Int32.toInt64 (hI h 11 29 x1.toNatClampNeg))) * (Int32.toInt64 (hI h 11 18 x1.toNatClampNeg))) / (((100 : Int64) * (Int32.toInt64 (hI h 11 17 x1.toNatClampNeg))) * (Int32.toInt64 (hI h 11 17 x1.toNatClampNeg)))))) 11 35 x1.toNatClampNeg ((Int64.toInt32 ((((Int32.toInt64 (hI h 11 29 x1.toNatClampNeg)) * (Int32.toInt64 (hI h 11 29 x1.toNatClampNeg))) * (Int32.toInt64 (hI h 11 18 x1.toNatClampNeg))) / (((100 : Int64) * (Int32.toInt64 (hI h 11 17 x1.toNatClampNeg))) * (Int32.toInt64 (hI h 11 17 x1.toNatClampNeg))))) + (0 : Int32))) 11 31 x1.toNatClampNeg (0 : Int32)) Q))))))) ∧ (¬ (hI h 11 14 x1.toNatClampNeg) < 0 → (vp_in x1 30 ∧ (vp_in (hI h 11 14 x1.toNatClampNeg) 30 ∧ (vp_in x1 30 ∧ (vp_in x1 30 ∧ (vp_in (hI h 11 15 x1.toNatClampNeg) 4 ∧ ((¬ (hI h 11 33 ((hI h 11 15 x1.toNatClampNeg).toNatClampNeg)) = 0 → (vp_in (hI h 11 15 x1.toNatClampNeg) 4 ∧ (vp_in (hI h 11 15 x1.toNatClampNeg) 4 ∧ (vp_in (hI h 11 15 x1.toNatClampNeg) 4 ∧ (¬ (hI h 11 8 ((hI h 11 15 x1.toNatClampNeg).toNatClampNeg)) = 0 ∧ (vp_in x1 30 ∧ (vp_in x1 30 ∧ (vp_in x1 30 ∧ mT g me_fm_runs (d + 1) 0 0 190 [some (vr 10 0), some (vi (x1 + 1)), some (vi (0 : Int32)), some (vi (hI h 11 15 x1.toNatClampNeg))] [] (setI (setI (setI h 11 30 x1.toNatClampNeg (Int64.toInt32 ((((Int32.toInt64 (hI h 11 29 x1.toNatClampNeg)) * (Int32.toInt64 (hI h 11 29 x1.toNatClampNeg))) * (Int32.toInt64 (hI h 11 18 x1.toNatClampNeg))) / (((100 : Int64) * (Int32.toInt64 (hI h 11 17 x1.toNatClampNeg))) * (Int32.toInt64 (hI h 11 17 x1.toNatClampNeg)))))) 11 35 x1.toNatClampNeg ((Int64.toInt32 ((((Int32.toInt64 (hI h 11 29 x1.toNatClampNeg)) * (Int32.toInt64 (hI h 11 29 x1.toNatClampNeg))) * (Int32.toInt64 (hI h 11 18 x1.toNatClampNeg))) / (((100 : Int64) * (Int32.toInt64 (hI h 11 17 x1.toNatClampNeg))) * (Int32.toInt64 (hI h 11 17 x1.toNatClampNeg))))) + (hI h 11 35 ((hI h 11 14 x1.toNatClampNeg).toNatClampNeg)))) 11 31 x1.toNatClampNeg ((((hI h 11 7 ((hI h 11 15 x1.toNatClampNeg).toNatClampNeg)) + ((hI h 11 33 ((hI h 11 15 x1.toNatClampNeg).toNatClampNeg)) / (hI h 11 8 ((hI h 11 15 x1.toNatClampNeg).toNatClampNeg)))) - ((Int64.toInt32 ((((Int32.toInt64 (hI h 11 29 x1.toNatClampNeg)) * (Int32.toInt64 (hI h 11 29 x1.toNatClampNeg))) * (Int32.toInt64 (hI h 11 18 x1.toNatClampNeg))) / (((100 : Int64) * (Int32.toInt64 (hI h 11 17 x1.toNatClampNeg))) * (Int32.toInt64 (hI h 11 17 x1.toNatClampNeg))))) + (hI h 11 35 ((hI h 11 14 x1.toNatClampNeg).toNatClampNeg)))) - (hI h 11 16 x1.toNatClampNeg))) Q)))))))) ∧ ((hI h 11 33 ((hI h 11 15 x1.toNatClampNeg).toNatClampNeg)) = 0 → (vp_in x1 30 ∧ mT g me_fm_runs (d + 1) 0 0 190 [some (vr 10 0), some (vi (x1 + 1)), some (vi (0 : Int32)), some (vi (hI h 11 15 x1.toNatClampNeg))] [] (setI (setI (setI h 11 30 x1.toNatClampNeg (Int64.toInt32 ((((Int32.toInt64 (hI h 11 29 x1.toNatClampNeg)) * (Int32.toInt64 (hI h 11 29 x1.toNatClampNeg))) * (Int32.toInt64 (hI h 11 18 x1.toNatClampNeg))) / (((100 : Int64) * (Int32.toInt64 (hI h 11 17 x1.toNatClampNeg))) * (Int32.toInt64 (hI h 11 17 x1.toNatClampNeg)))))) 11 35 x1.toNatClampNeg ((Int64.toInt32 ((((Int32.toInt64 (hI h 11 29 x1.toNatClampNeg)) * (Int32.toInt64 (hI h 11 29 x1.toNatClampNeg))) * (Int32.toInt64 (hI h 11 18 x1.toNatClampNeg))) / (((100 : Int64) * (Int32.toInt64 (hI h 11 17 x1.toNatClampNeg))) * (Int32.toInt64 (hI h 11 17 x1.toNatClampNeg))))) + (hI h 11 35 ((hI h 11 14 x1.toNatClampNeg).toNatClampNeg)))) 11 31 x1.toNatClampNeg (0 : Int32)) Q)))))))))))))))))))) ∧ (¬ (hI h 11 14 x1.toNatClampNeg) < 0 → (vp_in x1 30 ∧ (vp_in (hI h 11 14 x1.toNatClampNeg) 30 ∧ ((0 ≤ (hI h 11 35 ((hI h 11 14 x1.toNatClampNeg).toNatClampNeg)) → (vp_in x1 30 ∧ (vp_in x1 30 ∧ (vp_in x1 30 ∧ (vp_in x1 30 ∧ (vp_in x1 30 ∧ (¬ (((100 : Int64) * (Int32.toInt64 (hI h 11 17 x1.toNatClampNeg))) * (Int32.toInt64 (hI h 11 17 x1.toNatClampNeg))) = 0 ∧ (vp_in x1 30 ∧ (vp_in x1 30 ∧ (vp_in x1 30 ∧ (((hI h 11 14 x1.toNatClampNeg) < 0 → (vp_in x1 30 ∧ (vp_in x1 30 ∧ (vp_in (hI h 11 15 x1.toNatClampNeg) 4 ∧ ((¬ (hI h 11 33 ((hI h 11 15 x1.toNatClampNeg).toNatClampNeg)) = 0 → (vp_in (hI h 11 15 x1.toNatClampNeg) 4 ∧ (vp_in (hI h 11 15 x1.toNatClampNeg) 4 ∧ (vp_in (hI h 11 15 x1.toNatClampNeg) 4 ∧ (¬ (hI h 11 8 ((hI h 11 15 x1.toNatClampNeg).toNatClampNeg)) = 0 ∧ (vp_in x1 30 ∧ (vp_in x1 30 ∧ (vp_in x1 30 ∧ mT g me_fm_runs (d + 1) 0 0 190 [some (vr 10 0), some (vi (x1 + 1)), some (vi (0 : Int32)), some (vi (hI h 11 15 x1.toNatClampNeg))] [] (setI (setI (setI h 11 30 x1.toNatClampNeg (Int64.toInt32 ((((Int32.toInt64 (hI h 11 29 x1.toNatClampNeg)) * (Int32.toInt64 (hI h 11 29 x1.toNatClampNeg))) * (Int32.toInt64 (hI h 11 18 x1.toNatClampNeg))) / (((100 : Int64) * (Int32.toInt64 (hI h 11 17 x1.toNatClampNeg))) * (Int32.toInt64 (hI h 11 17 x1.toNatClampNeg)))))) 11 35 x1.toNatClampNeg ((Int64.toInt32 ((((Int32.toInt64 (hI h 11 29 x1.toNatClampNeg)) * (Int32.toInt64 (hI h 11 29 x1.toNatClampNeg))) * (Int32.toInt64 (hI h 11 18 x1.toNatClampNeg))) / (((100 : Int64) * (Int32.toInt64 (hI h 11 17 x1.toNatClampNeg))) * (Int32.toInt64 (hI h 11 17 x1.toNatClampNeg))))) + (0 : Int32))) 11 31 x1.toNatClampNeg ((((hI h 11 7 ((hI h 11 15 x1.toNatClampNeg).toNatClampNeg)) + ((hI h 11 33 ((hI h 11 15 x1.toNatClampNeg).toNatClampNeg)) / (hI h 11 8 ((hI h 11 15 x1.toNatClampNeg).toNatClampNeg)))) - ((Int64.toInt32 ((((Int32.toInt64 (hI h 11 29 x1.toNatClampNeg)) * (Int32.toInt64 (hI h 11 29 x1.toNatClampNeg))) * (Int32.toInt64 (hI h 11 18 x1.toNatClampNeg))) / (((100 : Int64) * (Int32.toInt64 (hI h 11 17 x1.toNatClampNeg))) * (Int32.toInt64 (hI h 11 17 x1.toNatClampNeg))))) + (0 : Int32))) - (hI h 11 16 x1.toNatClampNeg))) Q)))))))) ∧ ((hI h 11 33 ((hI h 11 15 x1.toNatClampNeg).toNatClampNeg)) = 0 → (vp_in x1 30 ∧ mT g me_fm_runs (d + 1) 0 0 190 [some (vr 10 0), some (vi (x1 + 1)), some (vi (0 : Int32)), some (vi (hI h 11 15 x1.toNatClampNeg))] [] (setI (setI (setI h 11 30 x1.toNatClampNeg (Int64.toInt32 ((((Int32.toInt64 (hI h 11 29 x1.toNatClampNeg)) * (Int32.toInt64 (hI h 11 29 x1.toNatClampNeg))) * (Int32.toInt64 (hI h 11 18 x1.toNatClampNeg))) / (((100 : Int64) * (Int32.toInt64 (hI h 11 17 x1.toNatClampNeg))) * (Int32.toInt64 (hI h 11 17 x1.toNatClampNeg)))))) 11 35 x1.toNatClampNeg ((Int64.toInt32 ((((Int32.toInt64 (hI h 11 29 x1.toNatClampNeg)) * (Int32.toInt64 (hI h 11 29 x1.toNatClampNeg))) * (Int32.toInt64 (hI h 11 18 x1.toNatClampNeg))) / (((100 : Int64) * (Int32.toInt64 (hI h 11 17 x1.toNatClampNeg))) * (Int32.toInt64 (hI h 11 17 x1.toNatClampNeg))))) + (0 : Int32))) 11 31 x1.toNatClampNeg (0 : Int32)) Q))))))) ∧ (¬ (hI h 11 14 x1.toNatClampNeg) < 0 → (vp_in x1 30 ∧ (vp_in (hI h 11 14 x1.toNatClampNeg) 30 ∧ (vp_in x1 30 ∧ (vp_in x1 30 ∧ (vp_in (hI h 11 15 x1.toNatClampNeg) 4 ∧ ((¬ (hI h 11 33 ((hI h 11 15 x1.toNatClampNeg).toNatClampNeg)) = 0 → (vp_in (hI h 11 15 x1.toNatClampNeg) 4 ∧ (vp_in (hI h 11 15 x1.toNatClampNeg) 4 ∧ (vp_in (hI h 11 15 x1.toNatClampNeg) 4 ∧ (¬ (hI h 11 8 ((hI h 11 15 x1.toNatClampNeg).toNatClampNeg)) = 0 ∧ (vp_in x1 30 ∧ (vp_in x1 30 ∧ (vp_in x1 30 ∧ mT g me_fm_runs (d + 1) 0 0 190 [some (vr 10 0), some (vi (x1 + 1)), some (vi (0 : Int32)), some (vi (hI h 11 15 x1.toNatClampNeg))] [] (setI (setI (setI h 11 30 x1.toNatClampNeg (Int64.toInt32 ((((Int32.toInt64 (hI h 11 29 x1.toNatClampNeg)) * (Int32.toInt64 (hI h 11 29 x1.toNatClampNeg))) * (Int32.toInt64 (hI h 11 18 x1.toNatClampNeg))) / (((100 : Int64) * (Int32.toInt64 (hI h 11 17 x1.toNatClampNeg))) * (Int32.toInt64 (hI h 11 17 x1.toNatClampNeg)))))) 11 35 x1.toNatClampNeg ((Int64.toInt32 ((((Int32.toInt64 (hI h 11 29 x1.toNatClampNeg)) * (Int32.toInt64 (hI h 11 29 x1.toNatClampNeg))) * (Int32.toInt64 (hI h 11 18 x1.toNatClampNeg))) / (((100 : Int64) * (Int32.toInt64 (hI h 11 17 x1.toNatClampNeg))) * (Int32.toInt64 (hI h 11 17 x1.toNatClampNeg))))) + (hI h 11 35 ((hI h 11 14 x1.toNatClampNeg).toNatClampNeg)))) 11 31 x1.toNatClampNeg ((((hI h 11 7 ((hI h 11 15 x1.toNatClampNeg).toNatClampNeg)) + ((hI h 11 33 ((hI h 11 15 x1.toNatClampNeg).toNatClampNeg)) / (hI h 11 8 ((hI h 11 15 x1.toNatClampNeg).toNatClampNeg)))) - ((Int64.toInt32 ((((Int32.toInt64 (hI h 11 29 x1.toNatClampNeg)) * (Int32.toInt64 (hI h 11 29 x1.toNatClampNeg))) * (Int32.toInt64 (hI h 11 18 x1.toNatClampNeg))) / (((100 : Int64) * (Int32.toInt64 (hI h 11 17 x1.toNatClampNeg))) * (Int32.toInt64 (hI h 11 17 x1.toNatClampNeg))))) + (hI h 11 35 ((hI h 11 14 x1.toNatClampNeg).toNatClampNeg)))) - (hI h 11 16 x1.toNatClampNeg))) Q)))))))) ∧ ((hI h 11 33 ((hI h 11 15 x1.toNatClampNeg).toNatClampNeg)) = 0 → (vp_in x1 30 ∧ mT g me_fm_runs (d + 1) 0 0 190 [some (vr 10 0), some (vi (x1 + 1)), some (vi (0 : Int32)), some (vi (hI h 11 15 x1.toNatClampNeg))] [] (setI (setI (setI h 11 30 x1.toNatClampNeg (Int64.toInt32 ((((Int32.toInt64 (hI h 11 29 x1.toNatClampNeg)) * (Int32.toInt64 (hI h 11 29 x1.toNatClampNeg))) * (Int32.toInt64 (hI h 11 18 x1.toNatClampNeg))) / (((100 : Int64) * (Int32.toInt64 (hI h 11 17 x1.toNatClampNeg))) * (Int32.toInt64 (hI h 11 17 x1.toNatClampNeg)))))) 11 35 x1.toNatClampNeg ((Int64.toInt32 ((((Int32.toInt64 (hI h 11 29 x1.toNatClampNeg)) * (Int32.toInt64 (hI h 11 29 x1.toNatClampNeg))) * (Int32.toInt64 (hI h 11 18 x1.toNatClampNeg))) / (((100 : Int64) * (Int32.toInt64 (hI h 11 17 x1.toNatClampNeg))) * (Int32.toInt64 (hI h 11 17 x1.toNatClampNeg))))) + (hI h 11 35 ((hI h 11 14 x1.toNatClampNeg).toNatClampNeg)))) 11 31 x1.toNatClampNeg (0 : Int32)) Q)))))))))))))))))))) ∧ (¬ 0 ≤ (hI h 11 35 ((hI h 11 14 x1.toNatClampNeg).toNatClampNeg)) → (vp_in x1 30 ∧ (vp_in x1 30 ∧ (vp_in x1 30 ∧ (vp_in x1 30 ∧ (vp_in x1 30 ∧ (vp_in x1 30 ∧ (¬ (((100 : Int64) * (Int32.toInt64 (hI h 11 17 x1.toNatClampNeg))) * (Int32.toInt64 (hI h 11 17 x1.toNatClampNeg))) = 0 ∧ (vp_in x1 30 ∧ (vp_in x1 30 ∧ (vp_in x1 30 ∧ (vp_in x1 30 ∧ mT g me_fm_runs (d + 1) 0 0 190 [some (vr 10 0), some (vi (x1 + 1)), some (vi (1 : Int32)), some (vi (hI h 11 15 x1.toNatClampNeg))] [] (setI (setI (setI (setI h 11 29 x1.toNatClampNeg (0 : Int32)) 11 30 x1.toNatClampNeg (Int64.toInt32 ((((Int32.toInt64 (0 : Int32)) * (Int32.toInt64 (0 : Int32))) * (Int32.toInt64 (hI h 11 18 x1.toNatClampNeg))) / (((100 : Int64) * (Int32.toInt64 (hI h 11 17 x1.toNatClampNeg))) * (Int32.toInt64 (hI h 11 17 x1.toNatClampNeg)))))) 11 35 x1.toNatClampNeg (-1 : Int32)) 11 31 x1.toNatClampNeg (0 : Int32)) Q)))))))))))))))))))))))) : mT g me_fm_runs (d + 1) 0 0 190 [some (vr 10 0), some (vi x1), o2, o3] [] h Q := by
  refine tr_iload_n (pc := 190) 1 k_fm_runs_190 rfl rfl ?_
  refine tr_aload_n (pc := 191) 0 k_fm_runs_191 rfl rfl ?_
  refine tr_getIx (pc := 192) k_fm_runs_192 fl_fm_155 rfl rfl ?_
  refine tr_icmp_ge (pc := 195) 412 k_fm_runs_195 (by decide) (fun q => ?_) (fun q => ?_)
  · replace hv := hv.1 q
    refine tr_return (pc := 412) k_fm_runs_412 rfl ?_
    exact hv
  · replace hv := hv.2 q
    refine tr_aload_n (pc := 198) 0 k_fm_runs_198 rfl rfl ?_
    refine tr_getP (pc := 199) k_fm_runs_199 fl_fm_59 rfl (Eq.trans rfl (hsk.1 10 22 _ rfl)) ?_
    refine tr_iload_n (pc := 202) 1 k_fm_runs_202 rfl rfl ?_
    refine tr_zaldx (pc := 203) k_fm_runs_203 (mvin (hsk.2.1 12 0 _ rfl) hv.1) rfl ?_
    replace hv := hv.2
    refine tr_if_ne (pc := 204) 230 k_fm_runs_204 (by decide) (fun q => ?_) (fun q => ?_)
    · replace hv := hv.1 q
      refine tr_iconst (pc := 230) (v := 1) k_fm_runs_230 (by decide) ?_
      refine tr_goto (pc := 231) 235 k_fm_runs_231 (by decide) ?_
      refine tr_istore_n (pc := 235) 2 k_fm_runs_235 rfl (by decide) rfl ?_
      show mT g me_fm_runs (d + 1) 0 0 236 [some (vr 10 0), some (vi x1), some (vi (1 : Int32)), o3] [] h _
      refine tr_iload_n (pc := 236) 2 k_fm_runs_236 rfl rfl ?_
      refine tr_if_eq (pc := 237) 247 k_fm_runs_237 (by decide) (fun q => absurd q (by decide)) (fun _ => ?_)
      refine tr_aload_n (pc := 240) 0 k_fm_runs_240 rfl rfl ?_
      refine tr_getP (pc := 241) k_fm_runs_241 fl_fm_90 rfl (Eq.trans rfl (hsk.1 10 32 _ rfl)) ?_
      refine tr_iload_n (pc := 244) 1 k_fm_runs_244 rfl rfl ?_
      refine tr_iconst (pc := 245) (v := 0) k_fm_runs_245 (by decide) ?_
      refine tr_iast (pc := 246) k_fm_runs_246 (mvin (hsk.2.1 11 29 _ rfl) hv.1) ?_
      replace hv := hv.2
      refine tr_aload_n (pc := 247) 0 k_fm_runs_247 rfl rfl ?_
      refine tr_getP (pc := 248) k_fm_runs_248 fl_fm_93 rfl (Eq.trans (hP_setI) (hsk.1 10 33 _ rfl)) ?_
      refine tr_iload_n (pc := 251) 1 k_fm_runs_251 rfl rfl ?_
      refine tr_aload_n (pc := 252) 0 k_fm_runs_252 rfl rfl ?_
      refine tr_getP (pc := 253) k_fm_runs_253 fl_fm_90 rfl (Eq.trans (hP_setI) (hsk.1 10 32 _ rfl)) ?_
      refine tr_iload_n (pc := 256) 1 k_fm_runs_256 rfl rfl ?_
      refine tr_ialdx (pc := 257) k_fm_runs_257 (mvin (hsk.2.1 11 29 _ rfl) hv.1) (hI_eq) ?_
      replace hv := hv.2
      refine tr_i2l (pc := 258) k_fm_runs_258 ?_
      refine tr_aload_n (pc := 259) 0 k_fm_runs_259 rfl rfl ?_
      refine tr_getP (pc := 260) k_fm_runs_260 fl_fm_90 rfl (Eq.trans (hP_setI) (hsk.1 10 32 _ rfl)) ?_
      refine tr_iload_n (pc := 263) 1 k_fm_runs_263 rfl rfl ?_
      refine tr_ialdx (pc := 264) k_fm_runs_264 (mvin (hsk.2.1 11 29 _ rfl) hv.1) (hI_eq) ?_
      replace hv := hv.2
      refine tr_i2l (pc := 265) k_fm_runs_265 ?_
      refine tr_lmul (pc := 266) k_fm_runs_266 ?_
      refine tr_aload_n (pc := 267) 0 k_fm_runs_267 rfl rfl ?_
      refine tr_getP (pc := 268) k_fm_runs_268 fl_fm_50 rfl (Eq.trans (hP_setI) (hsk.1 10 19 _ rfl)) ?_
      refine tr_iload_n (pc := 271) 1 k_fm_runs_271 rfl rfl ?_
      refine tr_ialdx (pc := 272) k_fm_runs_272 (mvin (hsk.2.1 11 18 _ rfl) hv.1) (hI_nn (by decide)) ?_
      replace hv := hv.2
      refine tr_i2l (pc := 273) k_fm_runs_273 ?_
      refine tr_lmul (pc := 274) k_fm_runs_274 ?_
      refine tr_ldc2 (pc := 275) (v := 100) k_fm_runs_275 co_fm_171 ?_
      refine tr_aload_n (pc := 278) 0 k_fm_runs_278 rfl rfl ?_
      refine tr_getP (pc := 279) k_fm_runs_279 fl_fm_47 rfl (Eq.trans (hP_setI) (hsk.1 10 18 _ rfl)) ?_
      refine tr_iload_n (pc := 282) 1 k_fm_runs_282 rfl rfl ?_
      refine tr_ialdx (pc := 283) k_fm_runs_283 (mvin (hsk.2.1 11 17 _ rfl) hv.1) (hI_nn (by decide)) ?_
      replace hv := hv.2
      refine tr_i2l (pc := 284) k_fm_runs_284 ?_
      refine tr_lmul (pc := 285) k_fm_runs_285 ?_
      refine tr_aload_n (pc := 286) 0 k_fm_runs_286 rfl rfl ?_
      refine tr_getP (pc := 287) k_fm_runs_287 fl_fm_47 rfl (Eq.trans (hP_setI) (hsk.1 10 18 _ rfl)) ?_
      refine tr_iload_n (pc := 290) 1 k_fm_runs_290 rfl rfl ?_
      refine tr_ialdx (pc := 291) k_fm_runs_291 (mvin (hsk.2.1 11 17 _ rfl) hv.1) (hI_nn (by decide)) ?_
      replace hv := hv.2
      refine tr_i2l (pc := 292) k_fm_runs_292 ?_
      refine tr_lmul (pc := 293) k_fm_runs_293 ?_
      refine tr_ldiv (pc := 294) k_fm_runs_294 hv.1 ?_
      replace hv := hv.2
      refine tr_l2i (pc := 295) k_fm_runs_295 ?_
      refine tr_iast (pc := 296) k_fm_runs_296 (mvin (hsk.2.1 11 30 _ rfl) hv.1) ?_
      replace hv := hv.2
      refine tr_aload_n (pc := 297) 0 k_fm_runs_297 rfl rfl ?_
      refine tr_getP (pc := 298) k_fm_runs_298 fl_fm_111 rfl (Eq.trans (Eq.trans (hP_setI) (hP_setI)) (hsk.1 10 39 _ rfl)) ?_
      refine tr_iload_n (pc := 301) 1 k_fm_runs_301 rfl rfl ?_
      refine tr_iload_n (pc := 302) 2 k_fm_runs_302 rfl rfl ?_
      refine tr_if_eq (pc := 303) 310 k_fm_runs_303 (by decide) (fun q => absurd q (by decide)) (fun _ => ?_)
      refine tr_iconst (pc := 306) (v := -1) k_fm_runs_306 (by decide) ?_
      refine tr_goto (pc := 307) 341 k_fm_runs_307 (by decide) ?_
      refine tr_iast (pc := 341) k_fm_runs_341 (mvin (hsk.2.1 11 35 _ rfl) hv.1) ?_
      replace hv := hv.2
      refine tr_aload_n (pc := 342) 0 k_fm_runs_342 rfl rfl ?_
      refine tr_getP (pc := 343) k_fm_runs_343 fl_fm_41 rfl (Eq.trans (Eq.trans (hP_setI) (Eq.trans (hP_setI) (hP_setI))) (hsk.1 10 16 _ rfl)) ?_
      refine tr_iload_n (pc := 346) 1 k_fm_runs_346 rfl rfl ?_
      refine tr_ialdx (pc := 347) k_fm_runs_347 (mvin (hsk.2.1 11 15 _ rfl) hv.1) (Eq.trans (hI_nn (by decide)) (Eq.trans (hI_nn (by decide)) (hI_nn (by decide)))) ?_
      replace hv := hv.2
      refine tr_istore_n (pc := 348) 3 k_fm_runs_348 rfl (by decide) rfl ?_
      show mT g me_fm_runs (d + 1) 0 0 349 [some (vr 10 0), some (vi x1), some (vi (1 : Int32)), some (vi (hI h 11 15 x1.toNatClampNeg))] [] (setI (setI (setI h 11 29 x1.toNatClampNeg (0 : Int32)) 11 30 x1.toNatClampNeg (Int64.toInt32 ((((Int32.toInt64 (0 : Int32)) * (Int32.toInt64 (0 : Int32))) * (Int32.toInt64 (hI h 11 18 x1.toNatClampNeg))) / (((100 : Int64) * (Int32.toInt64 (hI h 11 17 x1.toNatClampNeg))) * (Int32.toInt64 (hI h 11 17 x1.toNatClampNeg)))))) 11 35 x1.toNatClampNeg (-1 : Int32)) _
      refine tr_aload_n (pc := 349) 0 k_fm_runs_349 rfl rfl ?_
      refine tr_getP (pc := 350) k_fm_runs_350 fl_fm_96 rfl (Eq.trans (Eq.trans (hP_setI) (Eq.trans (hP_setI) (hP_setI))) (hsk.1 10 34 _ rfl)) ?_
      refine tr_iload_n (pc := 353) 1 k_fm_runs_353 rfl rfl ?_
      refine tr_iload_n (pc := 354) 2 k_fm_runs_354 rfl rfl ?_
      refine tr_if_ne (pc := 355) 367 k_fm_runs_355 (by decide) (fun _ => ?_) (fun q => absurd q (by decide))
      refine tr_iconst (pc := 367) (v := 0) k_fm_runs_367 (by decide) ?_
      refine tr_goto (pc := 368) 405 k_fm_runs_368 (by decide) ?_
      refine tr_iast (pc := 405) k_fm_runs_405 (mvin (hsk.2.1 11 31 _ rfl) hv.1) ?_
      replace hv := hv.2
      refine tr_iinc (pc := 406) (v := (x1 + 1)) k_fm_runs_406 rfl rfl (by decide) rfl ?_
      show mT g me_fm_runs (d + 1) 0 0 409 [some (vr 10 0), some (vi (x1 + 1)), some (vi (1 : Int32)), some (vi (hI h 11 15 x1.toNatClampNeg))] [] (setI (setI (setI (setI h 11 29 x1.toNatClampNeg (0 : Int32)) 11 30 x1.toNatClampNeg (Int64.toInt32 ((((Int32.toInt64 (0 : Int32)) * (Int32.toInt64 (0 : Int32))) * (Int32.toInt64 (hI h 11 18 x1.toNatClampNeg))) / (((100 : Int64) * (Int32.toInt64 (hI h 11 17 x1.toNatClampNeg))) * (Int32.toInt64 (hI h 11 17 x1.toNatClampNeg)))))) 11 35 x1.toNatClampNeg (-1 : Int32)) 11 31 x1.toNatClampNeg (0 : Int32)) _
      refine tr_goto (pc := 409) 190 k_fm_runs_409 (by decide) ?_
      exact hv
    · replace hv := hv.2 q
      refine tr_aload_n (pc := 207) 0 k_fm_runs_207 rfl rfl ?_
      refine tr_getP (pc := 208) k_fm_runs_208 fl_fm_38 rfl (Eq.trans rfl (hsk.1 10 15 _ rfl)) ?_
      refine tr_iload_n (pc := 211) 1 k_fm_runs_211 rfl rfl ?_
      refine tr_ialdx (pc := 212) k_fm_runs_212 (mvin (hsk.2.1 11 14 _ rfl) hv.1) rfl ?_
      replace hv := hv.2
      refine tr_if_lt (pc := 213) 234 k_fm_runs_213 (by decide) (fun q => ?_) (fun q => ?_)
      · replace hv := hv.1 q
        refine tr_iconst (pc := 234) (v := 0) k_fm_runs_234 (by decide) ?_
        refine tr_istore_n (pc := 235) 2 k_fm_runs_235 rfl (by decide) rfl ?_
        show mT g me_fm_runs (d + 1) 0 0 236 [some (vr 10 0), some (vi x1), some (vi (0 : Int32)), o3] [] h _
        refine tr_iload_n (pc := 236) 2 k_fm_runs_236 rfl rfl ?_
        refine tr_if_eq (pc := 237) 247 k_fm_runs_237 (by decide) (fun _ => ?_) (fun q => absurd q (by decide))
        refine tr_aload_n (pc := 247) 0 k_fm_runs_247 rfl rfl ?_
        refine tr_getP (pc := 248) k_fm_runs_248 fl_fm_93 rfl (Eq.trans rfl (hsk.1 10 33 _ rfl)) ?_
        refine tr_iload_n (pc := 251) 1 k_fm_runs_251 rfl rfl ?_
        refine tr_aload_n (pc := 252) 0 k_fm_runs_252 rfl rfl ?_
        refine tr_getP (pc := 253) k_fm_runs_253 fl_fm_90 rfl (Eq.trans rfl (hsk.1 10 32 _ rfl)) ?_
        refine tr_iload_n (pc := 256) 1 k_fm_runs_256 rfl rfl ?_
        refine tr_ialdx (pc := 257) k_fm_runs_257 (mvin (hsk.2.1 11 29 _ rfl) hv.1) rfl ?_
        replace hv := hv.2
        refine tr_i2l (pc := 258) k_fm_runs_258 ?_
        refine tr_aload_n (pc := 259) 0 k_fm_runs_259 rfl rfl ?_
        refine tr_getP (pc := 260) k_fm_runs_260 fl_fm_90 rfl (Eq.trans rfl (hsk.1 10 32 _ rfl)) ?_
        refine tr_iload_n (pc := 263) 1 k_fm_runs_263 rfl rfl ?_
        refine tr_ialdx (pc := 264) k_fm_runs_264 (mvin (hsk.2.1 11 29 _ rfl) hv.1) rfl ?_
        replace hv := hv.2
        refine tr_i2l (pc := 265) k_fm_runs_265 ?_
        refine tr_lmul (pc := 266) k_fm_runs_266 ?_
        refine tr_aload_n (pc := 267) 0 k_fm_runs_267 rfl rfl ?_
        refine tr_getP (pc := 268) k_fm_runs_268 fl_fm_50 rfl (Eq.trans rfl (hsk.1 10 19 _ rfl)) ?_
        refine tr_iload_n (pc := 271) 1 k_fm_runs_271 rfl rfl ?_
        refine tr_ialdx (pc := 272) k_fm_runs_272 (mvin (hsk.2.1 11 18 _ rfl) hv.1) rfl ?_
        replace hv := hv.2
        refine tr_i2l (pc := 273) k_fm_runs_273 ?_
        refine tr_lmul (pc := 274) k_fm_runs_274 ?_
        refine tr_ldc2 (pc := 275) (v := 100) k_fm_runs_275 co_fm_171 ?_
        refine tr_aload_n (pc := 278) 0 k_fm_runs_278 rfl rfl ?_
        refine tr_getP (pc := 279) k_fm_runs_279 fl_fm_47 rfl (Eq.trans rfl (hsk.1 10 18 _ rfl)) ?_
        refine tr_iload_n (pc := 282) 1 k_fm_runs_282 rfl rfl ?_
        refine tr_ialdx (pc := 283) k_fm_runs_283 (mvin (hsk.2.1 11 17 _ rfl) hv.1) rfl ?_
        replace hv := hv.2
        refine tr_i2l (pc := 284) k_fm_runs_284 ?_
        refine tr_lmul (pc := 285) k_fm_runs_285 ?_
        refine tr_aload_n (pc := 286) 0 k_fm_runs_286 rfl rfl ?_
        refine tr_getP (pc := 287) k_fm_runs_287 fl_fm_47 rfl (Eq.trans rfl (hsk.1 10 18 _ rfl)) ?_
        refine tr_iload_n (pc := 290) 1 k_fm_runs_290 rfl rfl ?_
        refine tr_ialdx (pc := 291) k_fm_runs_291 (mvin (hsk.2.1 11 17 _ rfl) hv.1) rfl ?_
        replace hv := hv.2
        refine tr_i2l (pc := 292) k_fm_runs_292 ?_
        refine tr_lmul (pc := 293) k_fm_runs_293 ?_
        refine tr_ldiv (pc := 294) k_fm_runs_294 hv.1 ?_
        replace hv := hv.2
        refine tr_l2i (pc := 295) k_fm_runs_295 ?_
        refine tr_iast (pc := 296) k_fm_runs_296 (mvin (hsk.2.1 11 30 _ rfl) hv.1) ?_
        replace hv := hv.2
        refine tr_aload_n (pc := 297) 0 k_fm_runs_297 rfl rfl ?_
        refine tr_getP (pc := 298) k_fm_runs_298 fl_fm_111 rfl (Eq.trans (hP_setI) (hsk.1 10 39 _ rfl)) ?_
        refine tr_iload_n (pc := 301) 1 k_fm_runs_301 rfl rfl ?_
        refine tr_iload_n (pc := 302) 2 k_fm_runs_302 rfl rfl ?_
        refine tr_if_eq (pc := 303) 310 k_fm_runs_303 (by decide) (fun _ => ?_) (fun q => absurd q (by decide))
        refine tr_aload_n (pc := 310) 0 k_fm_runs_310 rfl rfl ?_
        refine tr_getP (pc := 311) k_fm_runs_311 fl_fm_93 rfl (Eq.trans (hP_setI) (hsk.1 10 33 _ rfl)) ?_
        refine tr_iload_n (pc := 314) 1 k_fm_runs_314 rfl rfl ?_
        refine tr_ialdx (pc := 315) k_fm_runs_315 (mvin (hsk.2.1 11 30 _ rfl) hv.1) (hI_eq) ?_
        replace hv := hv.2
        refine tr_aload_n (pc := 316) 0 k_fm_runs_316 rfl rfl ?_
        refine tr_getP (pc := 317) k_fm_runs_317 fl_fm_38 rfl (Eq.trans (hP_setI) (hsk.1 10 15 _ rfl)) ?_
        refine tr_iload_n (pc := 320) 1 k_fm_runs_320 rfl rfl ?_
        refine tr_ialdx (pc := 321) k_fm_runs_321 (mvin (hsk.2.1 11 14 _ rfl) hv.1) (hI_nn (by decide)) ?_
        replace hv := hv.2
        refine tr_if_lt (pc := 322) 339 k_fm_runs_322 (by decide) (fun q => ?_) (fun q => ?_)
        · replace hv := hv.1 q
          refine tr_iconst (pc := 339) (v := 0) k_fm_runs_339 (by decide) ?_
          refine tr_iadd (pc := 340) k_fm_runs_340 ?_
          refine tr_iast (pc := 341) k_fm_runs_341 (mvin (hsk.2.1 11 35 _ rfl) hv.1) ?_
          replace hv := hv.2
          refine tr_aload_n (pc := 342) 0 k_fm_runs_342 rfl rfl ?_
          refine tr_getP (pc := 343) k_fm_runs_343 fl_fm_41 rfl (Eq.trans (Eq.trans (hP_setI) (hP_setI)) (hsk.1 10 16 _ rfl)) ?_
          refine tr_iload_n (pc := 346) 1 k_fm_runs_346 rfl rfl ?_
          refine tr_ialdx (pc := 347) k_fm_runs_347 (mvin (hsk.2.1 11 15 _ rfl) hv.1) (Eq.trans (hI_nn (by decide)) (hI_nn (by decide))) ?_
          replace hv := hv.2
          refine tr_istore_n (pc := 348) 3 k_fm_runs_348 rfl (by decide) rfl ?_
          show mT g me_fm_runs (d + 1) 0 0 349 [some (vr 10 0), some (vi x1), some (vi (0 : Int32)), some (vi (hI h 11 15 x1.toNatClampNeg))] [] (setI (setI h 11 30 x1.toNatClampNeg (Int64.toInt32 ((((Int32.toInt64 (hI h 11 29 x1.toNatClampNeg)) * (Int32.toInt64 (hI h 11 29 x1.toNatClampNeg))) * (Int32.toInt64 (hI h 11 18 x1.toNatClampNeg))) / (((100 : Int64) * (Int32.toInt64 (hI h 11 17 x1.toNatClampNeg))) * (Int32.toInt64 (hI h 11 17 x1.toNatClampNeg)))))) 11 35 x1.toNatClampNeg ((Int64.toInt32 ((((Int32.toInt64 (hI h 11 29 x1.toNatClampNeg)) * (Int32.toInt64 (hI h 11 29 x1.toNatClampNeg))) * (Int32.toInt64 (hI h 11 18 x1.toNatClampNeg))) / (((100 : Int64) * (Int32.toInt64 (hI h 11 17 x1.toNatClampNeg))) * (Int32.toInt64 (hI h 11 17 x1.toNatClampNeg))))) + (0 : Int32))) _
          refine tr_aload_n (pc := 349) 0 k_fm_runs_349 rfl rfl ?_
          refine tr_getP (pc := 350) k_fm_runs_350 fl_fm_96 rfl (Eq.trans (Eq.trans (hP_setI) (hP_setI)) (hsk.1 10 34 _ rfl)) ?_
          refine tr_iload_n (pc := 353) 1 k_fm_runs_353 rfl rfl ?_
          refine tr_iload_n (pc := 354) 2 k_fm_runs_354 rfl rfl ?_
          refine tr_if_ne (pc := 355) 367 k_fm_runs_355 (by decide) (fun q => absurd q (by decide)) (fun _ => ?_)
          refine tr_aload_n (pc := 358) 0 k_fm_runs_358 rfl rfl ?_
          refine tr_getP (pc := 359) k_fm_runs_359 fl_fm_102 rfl (Eq.trans (Eq.trans (hP_setI) (hP_setI)) (hsk.1 10 36 _ rfl)) ?_
          refine tr_iload_n (pc := 362) 3 k_fm_runs_362 rfl rfl ?_
          refine tr_ialdx (pc := 363) k_fm_runs_363 (mvin (hsk.2.1 11 33 _ rfl) hv.1) (Eq.trans (hI_nn (by decide)) (hI_nn (by decide))) ?_
          replace hv := hv.2
          refine tr_if_ne (pc := 364) 371 k_fm_runs_364 (by decide) (fun q => ?_) (fun q => ?_)
          · replace hv := hv.1 q
            refine tr_aload_n (pc := 371) 0 k_fm_runs_371 rfl rfl ?_
            refine tr_getP (pc := 372) k_fm_runs_372 fl_fm_17 rfl (Eq.trans (Eq.trans (hP_setI) (hP_setI)) (hsk.1 10 8 _ rfl)) ?_
            refine tr_iload_n (pc := 375) 3 k_fm_runs_375 rfl rfl ?_
            refine tr_ialdx (pc := 376) k_fm_runs_376 (mvin (hsk.2.1 11 7 _ rfl) hv.1) (Eq.trans (hI_nn (by decide)) (hI_nn (by decide))) ?_
            replace hv := hv.2
            refine tr_aload_n (pc := 377) 0 k_fm_runs_377 rfl rfl ?_
            refine tr_getP (pc := 378) k_fm_runs_378 fl_fm_102 rfl (Eq.trans (Eq.trans (hP_setI) (hP_setI)) (hsk.1 10 36 _ rfl)) ?_
            refine tr_iload_n (pc := 381) 3 k_fm_runs_381 rfl rfl ?_
            refine tr_ialdx (pc := 382) k_fm_runs_382 (mvin (hsk.2.1 11 33 _ rfl) hv.1) (Eq.trans (hI_nn (by decide)) (hI_nn (by decide))) ?_
            replace hv := hv.2
            refine tr_aload_n (pc := 383) 0 k_fm_runs_383 rfl rfl ?_
            refine tr_getP (pc := 384) k_fm_runs_384 fl_fm_20 rfl (Eq.trans (Eq.trans (hP_setI) (hP_setI)) (hsk.1 10 9 _ rfl)) ?_
            refine tr_iload_n (pc := 387) 3 k_fm_runs_387 rfl rfl ?_
            refine tr_ialdx (pc := 388) k_fm_runs_388 (mvin (hsk.2.1 11 8 _ rfl) hv.1) (Eq.trans (hI_nn (by decide)) (hI_nn (by decide))) ?_
            replace hv := hv.2
            refine tr_idiv (pc := 389) k_fm_runs_389 hv.1 ?_
            replace hv := hv.2
            refine tr_iadd (pc := 390) k_fm_runs_390 ?_
            refine tr_aload_n (pc := 391) 0 k_fm_runs_391 rfl rfl ?_
            refine tr_getP (pc := 392) k_fm_runs_392 fl_fm_111 rfl (Eq.trans (Eq.trans (hP_setI) (hP_setI)) (hsk.1 10 39 _ rfl)) ?_
            refine tr_iload_n (pc := 395) 1 k_fm_runs_395 rfl rfl ?_
            refine tr_ialdx (pc := 396) k_fm_runs_396 (mvin (hsk.2.1 11 35 _ rfl) hv.1) (hI_eq) ?_
            replace hv := hv.2
            refine tr_isub (pc := 397) k_fm_runs_397 ?_
            refine tr_aload_n (pc := 398) 0 k_fm_runs_398 rfl rfl ?_
            refine tr_getP (pc := 399) k_fm_runs_399 fl_fm_44 rfl (Eq.trans (Eq.trans (hP_setI) (hP_setI)) (hsk.1 10 17 _ rfl)) ?_
            refine tr_iload_n (pc := 402) 1 k_fm_runs_402 rfl rfl ?_
            refine tr_ialdx (pc := 403) k_fm_runs_403 (mvin (hsk.2.1 11 16 _ rfl) hv.1) (Eq.trans (hI_nn (by decide)) (hI_nn (by decide))) ?_
            replace hv := hv.2
            refine tr_isub (pc := 404) k_fm_runs_404 ?_
            refine tr_iast (pc := 405) k_fm_runs_405 (mvin (hsk.2.1 11 31 _ rfl) hv.1) ?_
            replace hv := hv.2
            refine tr_iinc (pc := 406) (v := (x1 + 1)) k_fm_runs_406 rfl rfl (by decide) rfl ?_
            show mT g me_fm_runs (d + 1) 0 0 409 [some (vr 10 0), some (vi (x1 + 1)), some (vi (0 : Int32)), some (vi (hI h 11 15 x1.toNatClampNeg))] [] (setI (setI (setI h 11 30 x1.toNatClampNeg (Int64.toInt32 ((((Int32.toInt64 (hI h 11 29 x1.toNatClampNeg)) * (Int32.toInt64 (hI h 11 29 x1.toNatClampNeg))) * (Int32.toInt64 (hI h 11 18 x1.toNatClampNeg))) / (((100 : Int64) * (Int32.toInt64 (hI h 11 17 x1.toNatClampNeg))) * (Int32.toInt64 (hI h 11 17 x1.toNatClampNeg)))))) 11 35 x1.toNatClampNeg ((Int64.toInt32 ((((Int32.toInt64 (hI h 11 29 x1.toNatClampNeg)) * (Int32.toInt64 (hI h 11 29 x1.toNatClampNeg))) * (Int32.toInt64 (hI h 11 18 x1.toNatClampNeg))) / (((100 : Int64) * (Int32.toInt64 (hI h 11 17 x1.toNatClampNeg))) * (Int32.toInt64 (hI h 11 17 x1.toNatClampNeg))))) + (0 : Int32))) 11 31 x1.toNatClampNeg ((((hI h 11 7 ((hI h 11 15 x1.toNatClampNeg).toNatClampNeg)) + ((hI h 11 33 ((hI h 11 15 x1.toNatClampNeg).toNatClampNeg)) / (hI h 11 8 ((hI h 11 15 x1.toNatClampNeg).toNatClampNeg)))) - ((Int64.toInt32 ((((Int32.toInt64 (hI h 11 29 x1.toNatClampNeg)) * (Int32.toInt64 (hI h 11 29 x1.toNatClampNeg))) * (Int32.toInt64 (hI h 11 18 x1.toNatClampNeg))) / (((100 : Int64) * (Int32.toInt64 (hI h 11 17 x1.toNatClampNeg))) * (Int32.toInt64 (hI h 11 17 x1.toNatClampNeg))))) + (0 : Int32))) - (hI h 11 16 x1.toNatClampNeg))) _
            refine tr_goto (pc := 409) 190 k_fm_runs_409 (by decide) ?_
            exact hv
          · replace hv := hv.2 q
            refine tr_iconst (pc := 367) (v := 0) k_fm_runs_367 (by decide) ?_
            refine tr_goto (pc := 368) 405 k_fm_runs_368 (by decide) ?_
            refine tr_iast (pc := 405) k_fm_runs_405 (mvin (hsk.2.1 11 31 _ rfl) hv.1) ?_
            replace hv := hv.2
            refine tr_iinc (pc := 406) (v := (x1 + 1)) k_fm_runs_406 rfl rfl (by decide) rfl ?_
            show mT g me_fm_runs (d + 1) 0 0 409 [some (vr 10 0), some (vi (x1 + 1)), some (vi (0 : Int32)), some (vi (hI h 11 15 x1.toNatClampNeg))] [] (setI (setI (setI h 11 30 x1.toNatClampNeg (Int64.toInt32 ((((Int32.toInt64 (hI h 11 29 x1.toNatClampNeg)) * (Int32.toInt64 (hI h 11 29 x1.toNatClampNeg))) * (Int32.toInt64 (hI h 11 18 x1.toNatClampNeg))) / (((100 : Int64) * (Int32.toInt64 (hI h 11 17 x1.toNatClampNeg))) * (Int32.toInt64 (hI h 11 17 x1.toNatClampNeg)))))) 11 35 x1.toNatClampNeg ((Int64.toInt32 ((((Int32.toInt64 (hI h 11 29 x1.toNatClampNeg)) * (Int32.toInt64 (hI h 11 29 x1.toNatClampNeg))) * (Int32.toInt64 (hI h 11 18 x1.toNatClampNeg))) / (((100 : Int64) * (Int32.toInt64 (hI h 11 17 x1.toNatClampNeg))) * (Int32.toInt64 (hI h 11 17 x1.toNatClampNeg))))) + (0 : Int32))) 11 31 x1.toNatClampNeg (0 : Int32)) _
            refine tr_goto (pc := 409) 190 k_fm_runs_409 (by decide) ?_
            exact hv
        · replace hv := hv.2 q
          refine tr_aload_n (pc := 325) 0 k_fm_runs_325 rfl rfl ?_
          refine tr_getP (pc := 326) k_fm_runs_326 fl_fm_111 rfl (Eq.trans (hP_setI) (hsk.1 10 39 _ rfl)) ?_
          refine tr_aload_n (pc := 329) 0 k_fm_runs_329 rfl rfl ?_
          refine tr_getP (pc := 330) k_fm_runs_330 fl_fm_38 rfl (Eq.trans (hP_setI) (hsk.1 10 15 _ rfl)) ?_
          refine tr_iload_n (pc := 333) 1 k_fm_runs_333 rfl rfl ?_
          refine tr_ialdx (pc := 334) k_fm_runs_334 (mvin (hsk.2.1 11 14 _ rfl) hv.1) (hI_nn (by decide)) ?_
          replace hv := hv.2
          refine tr_ialdx (pc := 335) k_fm_runs_335 (mvin (hsk.2.1 11 35 _ rfl) hv.1) (hI_nn (by decide)) ?_
          replace hv := hv.2
          refine tr_goto (pc := 336) 340 k_fm_runs_336 (by decide) ?_
          refine tr_iadd (pc := 340) k_fm_runs_340 ?_
          refine tr_iast (pc := 341) k_fm_runs_341 (mvin (hsk.2.1 11 35 _ rfl) hv.1) ?_
          replace hv := hv.2
          refine tr_aload_n (pc := 342) 0 k_fm_runs_342 rfl rfl ?_
          refine tr_getP (pc := 343) k_fm_runs_343 fl_fm_41 rfl (Eq.trans (Eq.trans (hP_setI) (hP_setI)) (hsk.1 10 16 _ rfl)) ?_
          refine tr_iload_n (pc := 346) 1 k_fm_runs_346 rfl rfl ?_
          refine tr_ialdx (pc := 347) k_fm_runs_347 (mvin (hsk.2.1 11 15 _ rfl) hv.1) (Eq.trans (hI_nn (by decide)) (hI_nn (by decide))) ?_
          replace hv := hv.2
          refine tr_istore_n (pc := 348) 3 k_fm_runs_348 rfl (by decide) rfl ?_
          show mT g me_fm_runs (d + 1) 0 0 349 [some (vr 10 0), some (vi x1), some (vi (0 : Int32)), some (vi (hI h 11 15 x1.toNatClampNeg))] [] (setI (setI h 11 30 x1.toNatClampNeg (Int64.toInt32 ((((Int32.toInt64 (hI h 11 29 x1.toNatClampNeg)) * (Int32.toInt64 (hI h 11 29 x1.toNatClampNeg))) * (Int32.toInt64 (hI h 11 18 x1.toNatClampNeg))) / (((100 : Int64) * (Int32.toInt64 (hI h 11 17 x1.toNatClampNeg))) * (Int32.toInt64 (hI h 11 17 x1.toNatClampNeg)))))) 11 35 x1.toNatClampNeg ((Int64.toInt32 ((((Int32.toInt64 (hI h 11 29 x1.toNatClampNeg)) * (Int32.toInt64 (hI h 11 29 x1.toNatClampNeg))) * (Int32.toInt64 (hI h 11 18 x1.toNatClampNeg))) / (((100 : Int64) * (Int32.toInt64 (hI h 11 17 x1.toNatClampNeg))) * (Int32.toInt64 (hI h 11 17 x1.toNatClampNeg))))) + (hI h 11 35 ((hI h 11 14 x1.toNatClampNeg).toNatClampNeg)))) _
          refine tr_aload_n (pc := 349) 0 k_fm_runs_349 rfl rfl ?_
          refine tr_getP (pc := 350) k_fm_runs_350 fl_fm_96 rfl (Eq.trans (Eq.trans (hP_setI) (hP_setI)) (hsk.1 10 34 _ rfl)) ?_
          refine tr_iload_n (pc := 353) 1 k_fm_runs_353 rfl rfl ?_
          refine tr_iload_n (pc := 354) 2 k_fm_runs_354 rfl rfl ?_
          refine tr_if_ne (pc := 355) 367 k_fm_runs_355 (by decide) (fun q => absurd q (by decide)) (fun _ => ?_)
          refine tr_aload_n (pc := 358) 0 k_fm_runs_358 rfl rfl ?_
          refine tr_getP (pc := 359) k_fm_runs_359 fl_fm_102 rfl (Eq.trans (Eq.trans (hP_setI) (hP_setI)) (hsk.1 10 36 _ rfl)) ?_
          refine tr_iload_n (pc := 362) 3 k_fm_runs_362 rfl rfl ?_
          refine tr_ialdx (pc := 363) k_fm_runs_363 (mvin (hsk.2.1 11 33 _ rfl) hv.1) (Eq.trans (hI_nn (by decide)) (hI_nn (by decide))) ?_
          replace hv := hv.2
          refine tr_if_ne (pc := 364) 371 k_fm_runs_364 (by decide) (fun q => ?_) (fun q => ?_)
          · replace hv := hv.1 q
            refine tr_aload_n (pc := 371) 0 k_fm_runs_371 rfl rfl ?_
            refine tr_getP (pc := 372) k_fm_runs_372 fl_fm_17 rfl (Eq.trans (Eq.trans (hP_setI) (hP_setI)) (hsk.1 10 8 _ rfl)) ?_
            refine tr_iload_n (pc := 375) 3 k_fm_runs_375 rfl rfl ?_
            refine tr_ialdx (pc := 376) k_fm_runs_376 (mvin (hsk.2.1 11 7 _ rfl) hv.1) (Eq.trans (hI_nn (by decide)) (hI_nn (by decide))) ?_
            replace hv := hv.2
            refine tr_aload_n (pc := 377) 0 k_fm_runs_377 rfl rfl ?_
            refine tr_getP (pc := 378) k_fm_runs_378 fl_fm_102 rfl (Eq.trans (Eq.trans (hP_setI) (hP_setI)) (hsk.1 10 36 _ rfl)) ?_
            refine tr_iload_n (pc := 381) 3 k_fm_runs_381 rfl rfl ?_
            refine tr_ialdx (pc := 382) k_fm_runs_382 (mvin (hsk.2.1 11 33 _ rfl) hv.1) (Eq.trans (hI_nn (by decide)) (hI_nn (by decide))) ?_
            replace hv := hv.2
            refine tr_aload_n (pc := 383) 0 k_fm_runs_383 rfl rfl ?_
            refine tr_getP (pc := 384) k_fm_runs_384 fl_fm_20 rfl (Eq.trans (Eq.trans (hP_setI) (hP_setI)) (hsk.1 10 9 _ rfl)) ?_
            refine tr_iload_n (pc := 387) 3 k_fm_runs_387 rfl rfl ?_
            refine tr_ialdx (pc := 388) k_fm_runs_388 (mvin (hsk.2.1 11 8 _ rfl) hv.1) (Eq.trans (hI_nn (by decide)) (hI_nn (by decide))) ?_
            replace hv := hv.2
            refine tr_idiv (pc := 389) k_fm_runs_389 hv.1 ?_
            replace hv := hv.2
            refine tr_iadd (pc := 390) k_fm_runs_390 ?_
            refine tr_aload_n (pc := 391) 0 k_fm_runs_391 rfl rfl ?_
            refine tr_getP (pc := 392) k_fm_runs_392 fl_fm_111 rfl (Eq.trans (Eq.trans (hP_setI) (hP_setI)) (hsk.1 10 39 _ rfl)) ?_
            refine tr_iload_n (pc := 395) 1 k_fm_runs_395 rfl rfl ?_
            refine tr_ialdx (pc := 396) k_fm_runs_396 (mvin (hsk.2.1 11 35 _ rfl) hv.1) (hI_eq) ?_
            replace hv := hv.2
            refine tr_isub (pc := 397) k_fm_runs_397 ?_
            refine tr_aload_n (pc := 398) 0 k_fm_runs_398 rfl rfl ?_
            refine tr_getP (pc := 399) k_fm_runs_399 fl_fm_44 rfl (Eq.trans (Eq.trans (hP_setI) (hP_setI)) (hsk.1 10 17 _ rfl)) ?_
            refine tr_iload_n (pc := 402) 1 k_fm_runs_402 rfl rfl ?_
            refine tr_ialdx (pc := 403) k_fm_runs_403 (mvin (hsk.2.1 11 16 _ rfl) hv.1) (Eq.trans (hI_nn (by decide)) (hI_nn (by decide))) ?_
            replace hv := hv.2
            refine tr_isub (pc := 404) k_fm_runs_404 ?_
            refine tr_iast (pc := 405) k_fm_runs_405 (mvin (hsk.2.1 11 31 _ rfl) hv.1) ?_
            replace hv := hv.2
            refine tr_iinc (pc := 406) (v := (x1 + 1)) k_fm_runs_406 rfl rfl (by decide) rfl ?_
            show mT g me_fm_runs (d + 1) 0 0 409 [some (vr 10 0), some (vi (x1 + 1)), some (vi (0 : Int32)), some (vi (hI h 11 15 x1.toNatClampNeg))] [] (setI (setI (setI h 11 30 x1.toNatClampNeg (Int64.toInt32 ((((Int32.toInt64 (hI h 11 29 x1.toNatClampNeg)) * (Int32.toInt64 (hI h 11 29 x1.toNatClampNeg))) * (Int32.toInt64 (hI h 11 18 x1.toNatClampNeg))) / (((100 : Int64) * (Int32.toInt64 (hI h 11 17 x1.toNatClampNeg))) * (Int32.toInt64 (hI h 11 17 x1.toNatClampNeg)))))) 11 35 x1.toNatClampNeg ((Int64.toInt32 ((((Int32.toInt64 (hI h 11 29 x1.toNatClampNeg)) * (Int32.toInt64 (hI h 11 29 x1.toNatClampNeg))) * (Int32.toInt64 (hI h 11 18 x1.toNatClampNeg))) / (((100 : Int64) * (Int32.toInt64 (hI h 11 17 x1.toNatClampNeg))) * (Int32.toInt64 (hI h 11 17 x1.toNatClampNeg))))) + (hI h 11 35 ((hI h 11 14 x1.toNatClampNeg).toNatClampNeg)))) 11 31 x1.toNatClampNeg ((((hI h 11 7 ((hI h 11 15 x1.toNatClampNeg).toNatClampNeg)) + ((hI h 11 33 ((hI h 11 15 x1.toNatClampNeg).toNatClampNeg)) / (hI h 11 8 ((hI h 11 15 x1.toNatClampNeg).toNatClampNeg)))) - ((Int64.toInt32 ((((Int32.toInt64 (hI h 11 29 x1.toNatClampNeg)) * (Int32.toInt64 (hI h 11 29 x1.toNatClampNeg))) * (Int32.toInt64 (hI h 11 18 x1.toNatClampNeg))) / (((100 : Int64) * (Int32.toInt64 (hI h 11 17 x1.toNatClampNeg))) * (Int32.toInt64 (hI h 11 17 x1.toNatClampNeg))))) + (hI h 11 35 ((hI h 11 14 x1.toNatClampNeg).toNatClampNeg)))) - (hI h 11 16 x1.toNatClampNeg))) _
            refine tr_goto (pc := 409) 190 k_fm_runs_409 (by decide) ?_
            exact hv
          · replace hv := hv.2 q
            refine tr_iconst (pc := 367) (v := 0) k_fm_runs_367 (by decide) ?_
            refine tr_goto (pc := 368) 405 k_fm_runs_368 (by decide) ?_
            refine tr_iast (pc := 405) k_fm_runs_405 (mvin (hsk.2.1 11 31 _ rfl) hv.1) ?_
            replace hv := hv.2
            refine tr_iinc (pc := 406) (v := (x1 + 1)) k_fm_runs_406 rfl rfl (by decide) rfl ?_
            show mT g me_fm_runs (d + 1) 0 0 409 [some (vr 10 0), some (vi (x1 + 1)), some (vi (0 : Int32)), some (vi (hI h 11 15 x1.toNatClampNeg))] [] (setI (setI (setI h 11 30 x1.toNatClampNeg (Int64.toInt32 ((((Int32.toInt64 (hI h 11 29 x1.toNatClampNeg)) * (Int32.toInt64 (hI h 11 29 x1.toNatClampNeg))) * (Int32.toInt64 (hI h 11 18 x1.toNatClampNeg))) / (((100 : Int64) * (Int32.toInt64 (hI h 11 17 x1.toNatClampNeg))) * (Int32.toInt64 (hI h 11 17 x1.toNatClampNeg)))))) 11 35 x1.toNatClampNeg ((Int64.toInt32 ((((Int32.toInt64 (hI h 11 29 x1.toNatClampNeg)) * (Int32.toInt64 (hI h 11 29 x1.toNatClampNeg))) * (Int32.toInt64 (hI h 11 18 x1.toNatClampNeg))) / (((100 : Int64) * (Int32.toInt64 (hI h 11 17 x1.toNatClampNeg))) * (Int32.toInt64 (hI h 11 17 x1.toNatClampNeg))))) + (hI h 11 35 ((hI h 11 14 x1.toNatClampNeg).toNatClampNeg)))) 11 31 x1.toNatClampNeg (0 : Int32)) _
            refine tr_goto (pc := 409) 190 k_fm_runs_409 (by decide) ?_
            exact hv
      · replace hv := hv.2 q
        refine tr_aload_n (pc := 216) 0 k_fm_runs_216 rfl rfl ?_
        refine tr_getP (pc := 217) k_fm_runs_217 fl_fm_111 rfl (Eq.trans rfl (hsk.1 10 39 _ rfl)) ?_
        refine tr_aload_n (pc := 220) 0 k_fm_runs_220 rfl rfl ?_
        refine tr_getP (pc := 221) k_fm_runs_221 fl_fm_38 rfl (Eq.trans rfl (hsk.1 10 15 _ rfl)) ?_
        refine tr_iload_n (pc := 224) 1 k_fm_runs_224 rfl rfl ?_
        refine tr_ialdx (pc := 225) k_fm_runs_225 (mvin (hsk.2.1 11 14 _ rfl) hv.1) rfl ?_
        replace hv := hv.2
        refine tr_ialdx (pc := 226) k_fm_runs_226 (mvin (hsk.2.1 11 35 _ rfl) hv.1) rfl ?_
        replace hv := hv.2
        refine tr_if_ge (pc := 227) 234 k_fm_runs_227 (by decide) (fun q => ?_) (fun q => ?_)
        · replace hv := hv.1 q
          refine tr_iconst (pc := 234) (v := 0) k_fm_runs_234 (by decide) ?_
          refine tr_istore_n (pc := 235) 2 k_fm_runs_235 rfl (by decide) rfl ?_
          show mT g me_fm_runs (d + 1) 0 0 236 [some (vr 10 0), some (vi x1), some (vi (0 : Int32)), o3] [] h _
          refine tr_iload_n (pc := 236) 2 k_fm_runs_236 rfl rfl ?_
          refine tr_if_eq (pc := 237) 247 k_fm_runs_237 (by decide) (fun _ => ?_) (fun q => absurd q (by decide))
          refine tr_aload_n (pc := 247) 0 k_fm_runs_247 rfl rfl ?_
          refine tr_getP (pc := 248) k_fm_runs_248 fl_fm_93 rfl (Eq.trans rfl (hsk.1 10 33 _ rfl)) ?_
          refine tr_iload_n (pc := 251) 1 k_fm_runs_251 rfl rfl ?_
          refine tr_aload_n (pc := 252) 0 k_fm_runs_252 rfl rfl ?_
          refine tr_getP (pc := 253) k_fm_runs_253 fl_fm_90 rfl (Eq.trans rfl (hsk.1 10 32 _ rfl)) ?_
          refine tr_iload_n (pc := 256) 1 k_fm_runs_256 rfl rfl ?_
          refine tr_ialdx (pc := 257) k_fm_runs_257 (mvin (hsk.2.1 11 29 _ rfl) hv.1) rfl ?_
          replace hv := hv.2
          refine tr_i2l (pc := 258) k_fm_runs_258 ?_
          refine tr_aload_n (pc := 259) 0 k_fm_runs_259 rfl rfl ?_
          refine tr_getP (pc := 260) k_fm_runs_260 fl_fm_90 rfl (Eq.trans rfl (hsk.1 10 32 _ rfl)) ?_
          refine tr_iload_n (pc := 263) 1 k_fm_runs_263 rfl rfl ?_
          refine tr_ialdx (pc := 264) k_fm_runs_264 (mvin (hsk.2.1 11 29 _ rfl) hv.1) rfl ?_
          replace hv := hv.2
          refine tr_i2l (pc := 265) k_fm_runs_265 ?_
          refine tr_lmul (pc := 266) k_fm_runs_266 ?_
          refine tr_aload_n (pc := 267) 0 k_fm_runs_267 rfl rfl ?_
          refine tr_getP (pc := 268) k_fm_runs_268 fl_fm_50 rfl (Eq.trans rfl (hsk.1 10 19 _ rfl)) ?_
          refine tr_iload_n (pc := 271) 1 k_fm_runs_271 rfl rfl ?_
          refine tr_ialdx (pc := 272) k_fm_runs_272 (mvin (hsk.2.1 11 18 _ rfl) hv.1) rfl ?_
          replace hv := hv.2
          refine tr_i2l (pc := 273) k_fm_runs_273 ?_
          refine tr_lmul (pc := 274) k_fm_runs_274 ?_
          refine tr_ldc2 (pc := 275) (v := 100) k_fm_runs_275 co_fm_171 ?_
          refine tr_aload_n (pc := 278) 0 k_fm_runs_278 rfl rfl ?_
          refine tr_getP (pc := 279) k_fm_runs_279 fl_fm_47 rfl (Eq.trans rfl (hsk.1 10 18 _ rfl)) ?_
          refine tr_iload_n (pc := 282) 1 k_fm_runs_282 rfl rfl ?_
          refine tr_ialdx (pc := 283) k_fm_runs_283 (mvin (hsk.2.1 11 17 _ rfl) hv.1) rfl ?_
          replace hv := hv.2
          refine tr_i2l (pc := 284) k_fm_runs_284 ?_
          refine tr_lmul (pc := 285) k_fm_runs_285 ?_
          refine tr_aload_n (pc := 286) 0 k_fm_runs_286 rfl rfl ?_
          refine tr_getP (pc := 287) k_fm_runs_287 fl_fm_47 rfl (Eq.trans rfl (hsk.1 10 18 _ rfl)) ?_
          refine tr_iload_n (pc := 290) 1 k_fm_runs_290 rfl rfl ?_
          refine tr_ialdx (pc := 291) k_fm_runs_291 (mvin (hsk.2.1 11 17 _ rfl) hv.1) rfl ?_
          replace hv := hv.2
          refine tr_i2l (pc := 292) k_fm_runs_292 ?_
          refine tr_lmul (pc := 293) k_fm_runs_293 ?_
          refine tr_ldiv (pc := 294) k_fm_runs_294 hv.1 ?_
          replace hv := hv.2
          refine tr_l2i (pc := 295) k_fm_runs_295 ?_
          refine tr_iast (pc := 296) k_fm_runs_296 (mvin (hsk.2.1 11 30 _ rfl) hv.1) ?_
          replace hv := hv.2
          refine tr_aload_n (pc := 297) 0 k_fm_runs_297 rfl rfl ?_
          refine tr_getP (pc := 298) k_fm_runs_298 fl_fm_111 rfl (Eq.trans (hP_setI) (hsk.1 10 39 _ rfl)) ?_
          refine tr_iload_n (pc := 301) 1 k_fm_runs_301 rfl rfl ?_
          refine tr_iload_n (pc := 302) 2 k_fm_runs_302 rfl rfl ?_
          refine tr_if_eq (pc := 303) 310 k_fm_runs_303 (by decide) (fun _ => ?_) (fun q => absurd q (by decide))
          refine tr_aload_n (pc := 310) 0 k_fm_runs_310 rfl rfl ?_
          refine tr_getP (pc := 311) k_fm_runs_311 fl_fm_93 rfl (Eq.trans (hP_setI) (hsk.1 10 33 _ rfl)) ?_
          refine tr_iload_n (pc := 314) 1 k_fm_runs_314 rfl rfl ?_
          refine tr_ialdx (pc := 315) k_fm_runs_315 (mvin (hsk.2.1 11 30 _ rfl) hv.1) (hI_eq) ?_
          replace hv := hv.2
          refine tr_aload_n (pc := 316) 0 k_fm_runs_316 rfl rfl ?_
          refine tr_getP (pc := 317) k_fm_runs_317 fl_fm_38 rfl (Eq.trans (hP_setI) (hsk.1 10 15 _ rfl)) ?_
          refine tr_iload_n (pc := 320) 1 k_fm_runs_320 rfl rfl ?_
          refine tr_ialdx (pc := 321) k_fm_runs_321 (mvin (hsk.2.1 11 14 _ rfl) hv.1) (hI_nn (by decide)) ?_
          replace hv := hv.2
          refine tr_if_lt (pc := 322) 339 k_fm_runs_322 (by decide) (fun q => ?_) (fun q => ?_)
          · replace hv := hv.1 q
            refine tr_iconst (pc := 339) (v := 0) k_fm_runs_339 (by decide) ?_
            refine tr_iadd (pc := 340) k_fm_runs_340 ?_
            refine tr_iast (pc := 341) k_fm_runs_341 (mvin (hsk.2.1 11 35 _ rfl) hv.1) ?_
            replace hv := hv.2
            refine tr_aload_n (pc := 342) 0 k_fm_runs_342 rfl rfl ?_
            refine tr_getP (pc := 343) k_fm_runs_343 fl_fm_41 rfl (Eq.trans (Eq.trans (hP_setI) (hP_setI)) (hsk.1 10 16 _ rfl)) ?_
            refine tr_iload_n (pc := 346) 1 k_fm_runs_346 rfl rfl ?_
            refine tr_ialdx (pc := 347) k_fm_runs_347 (mvin (hsk.2.1 11 15 _ rfl) hv.1) (Eq.trans (hI_nn (by decide)) (hI_nn (by decide))) ?_
            replace hv := hv.2
            refine tr_istore_n (pc := 348) 3 k_fm_runs_348 rfl (by decide) rfl ?_
            show mT g me_fm_runs (d + 1) 0 0 349 [some (vr 10 0), some (vi x1), some (vi (0 : Int32)), some (vi (hI h 11 15 x1.toNatClampNeg))] [] (setI (setI h 11 30 x1.toNatClampNeg (Int64.toInt32 ((((Int32.toInt64 (hI h 11 29 x1.toNatClampNeg)) * (Int32.toInt64 (hI h 11 29 x1.toNatClampNeg))) * (Int32.toInt64 (hI h 11 18 x1.toNatClampNeg))) / (((100 : Int64) * (Int32.toInt64 (hI h 11 17 x1.toNatClampNeg))) * (Int32.toInt64 (hI h 11 17 x1.toNatClampNeg)))))) 11 35 x1.toNatClampNeg ((Int64.toInt32 ((((Int32.toInt64 (hI h 11 29 x1.toNatClampNeg)) * (Int32.toInt64 (hI h 11 29 x1.toNatClampNeg))) * (Int32.toInt64 (hI h 11 18 x1.toNatClampNeg))) / (((100 : Int64) * (Int32.toInt64 (hI h 11 17 x1.toNatClampNeg))) * (Int32.toInt64 (hI h 11 17 x1.toNatClampNeg))))) + (0 : Int32))) _
            refine tr_aload_n (pc := 349) 0 k_fm_runs_349 rfl rfl ?_
            refine tr_getP (pc := 350) k_fm_runs_350 fl_fm_96 rfl (Eq.trans (Eq.trans (hP_setI) (hP_setI)) (hsk.1 10 34 _ rfl)) ?_
            refine tr_iload_n (pc := 353) 1 k_fm_runs_353 rfl rfl ?_
            refine tr_iload_n (pc := 354) 2 k_fm_runs_354 rfl rfl ?_
            refine tr_if_ne (pc := 355) 367 k_fm_runs_355 (by decide) (fun q => absurd q (by decide)) (fun _ => ?_)
            refine tr_aload_n (pc := 358) 0 k_fm_runs_358 rfl rfl ?_
            refine tr_getP (pc := 359) k_fm_runs_359 fl_fm_102 rfl (Eq.trans (Eq.trans (hP_setI) (hP_setI)) (hsk.1 10 36 _ rfl)) ?_
            refine tr_iload_n (pc := 362) 3 k_fm_runs_362 rfl rfl ?_
            refine tr_ialdx (pc := 363) k_fm_runs_363 (mvin (hsk.2.1 11 33 _ rfl) hv.1) (Eq.trans (hI_nn (by decide)) (hI_nn (by decide))) ?_
            replace hv := hv.2
            refine tr_if_ne (pc := 364) 371 k_fm_runs_364 (by decide) (fun q => ?_) (fun q => ?_)
            · replace hv := hv.1 q
              refine tr_aload_n (pc := 371) 0 k_fm_runs_371 rfl rfl ?_
              refine tr_getP (pc := 372) k_fm_runs_372 fl_fm_17 rfl (Eq.trans (Eq.trans (hP_setI) (hP_setI)) (hsk.1 10 8 _ rfl)) ?_
              refine tr_iload_n (pc := 375) 3 k_fm_runs_375 rfl rfl ?_
              refine tr_ialdx (pc := 376) k_fm_runs_376 (mvin (hsk.2.1 11 7 _ rfl) hv.1) (Eq.trans (hI_nn (by decide)) (hI_nn (by decide))) ?_
              replace hv := hv.2
              refine tr_aload_n (pc := 377) 0 k_fm_runs_377 rfl rfl ?_
              refine tr_getP (pc := 378) k_fm_runs_378 fl_fm_102 rfl (Eq.trans (Eq.trans (hP_setI) (hP_setI)) (hsk.1 10 36 _ rfl)) ?_
              refine tr_iload_n (pc := 381) 3 k_fm_runs_381 rfl rfl ?_
              refine tr_ialdx (pc := 382) k_fm_runs_382 (mvin (hsk.2.1 11 33 _ rfl) hv.1) (Eq.trans (hI_nn (by decide)) (hI_nn (by decide))) ?_
              replace hv := hv.2
              refine tr_aload_n (pc := 383) 0 k_fm_runs_383 rfl rfl ?_
              refine tr_getP (pc := 384) k_fm_runs_384 fl_fm_20 rfl (Eq.trans (Eq.trans (hP_setI) (hP_setI)) (hsk.1 10 9 _ rfl)) ?_
              refine tr_iload_n (pc := 387) 3 k_fm_runs_387 rfl rfl ?_
              refine tr_ialdx (pc := 388) k_fm_runs_388 (mvin (hsk.2.1 11 8 _ rfl) hv.1) (Eq.trans (hI_nn (by decide)) (hI_nn (by decide))) ?_
              replace hv := hv.2
              refine tr_idiv (pc := 389) k_fm_runs_389 hv.1 ?_
              replace hv := hv.2
              refine tr_iadd (pc := 390) k_fm_runs_390 ?_
              refine tr_aload_n (pc := 391) 0 k_fm_runs_391 rfl rfl ?_
              refine tr_getP (pc := 392) k_fm_runs_392 fl_fm_111 rfl (Eq.trans (Eq.trans (hP_setI) (hP_setI)) (hsk.1 10 39 _ rfl)) ?_
              refine tr_iload_n (pc := 395) 1 k_fm_runs_395 rfl rfl ?_
              refine tr_ialdx (pc := 396) k_fm_runs_396 (mvin (hsk.2.1 11 35 _ rfl) hv.1) (hI_eq) ?_
              replace hv := hv.2
              refine tr_isub (pc := 397) k_fm_runs_397 ?_
              refine tr_aload_n (pc := 398) 0 k_fm_runs_398 rfl rfl ?_
              refine tr_getP (pc := 399) k_fm_runs_399 fl_fm_44 rfl (Eq.trans (Eq.trans (hP_setI) (hP_setI)) (hsk.1 10 17 _ rfl)) ?_
              refine tr_iload_n (pc := 402) 1 k_fm_runs_402 rfl rfl ?_
              refine tr_ialdx (pc := 403) k_fm_runs_403 (mvin (hsk.2.1 11 16 _ rfl) hv.1) (Eq.trans (hI_nn (by decide)) (hI_nn (by decide))) ?_
              replace hv := hv.2
              refine tr_isub (pc := 404) k_fm_runs_404 ?_
              refine tr_iast (pc := 405) k_fm_runs_405 (mvin (hsk.2.1 11 31 _ rfl) hv.1) ?_
              replace hv := hv.2
              refine tr_iinc (pc := 406) (v := (x1 + 1)) k_fm_runs_406 rfl rfl (by decide) rfl ?_
              show mT g me_fm_runs (d + 1) 0 0 409 [some (vr 10 0), some (vi (x1 + 1)), some (vi (0 : Int32)), some (vi (hI h 11 15 x1.toNatClampNeg))] [] (setI (setI (setI h 11 30 x1.toNatClampNeg (Int64.toInt32 ((((Int32.toInt64 (hI h 11 29 x1.toNatClampNeg)) * (Int32.toInt64 (hI h 11 29 x1.toNatClampNeg))) * (Int32.toInt64 (hI h 11 18 x1.toNatClampNeg))) / (((100 : Int64) * (Int32.toInt64 (hI h 11 17 x1.toNatClampNeg))) * (Int32.toInt64 (hI h 11 17 x1.toNatClampNeg)))))) 11 35 x1.toNatClampNeg ((Int64.toInt32 ((((Int32.toInt64 (hI h 11 29 x1.toNatClampNeg)) * (Int32.toInt64 (hI h 11 29 x1.toNatClampNeg))) * (Int32.toInt64 (hI h 11 18 x1.toNatClampNeg))) / (((100 : Int64) * (Int32.toInt64 (hI h 11 17 x1.toNatClampNeg))) * (Int32.toInt64 (hI h 11 17 x1.toNatClampNeg))))) + (0 : Int32))) 11 31 x1.toNatClampNeg ((((hI h 11 7 ((hI h 11 15 x1.toNatClampNeg).toNatClampNeg)) + ((hI h 11 33 ((hI h 11 15 x1.toNatClampNeg).toNatClampNeg)) / (hI h 11 8 ((hI h 11 15 x1.toNatClampNeg).toNatClampNeg)))) - ((Int64.toInt32 ((((Int32.toInt64 (hI h 11 29 x1.toNatClampNeg)) * (Int32.toInt64 (hI h 11 29 x1.toNatClampNeg))) * (Int32.toInt64 (hI h 11 18 x1.toNatClampNeg))) / (((100 : Int64) * (Int32.toInt64 (hI h 11 17 x1.toNatClampNeg))) * (Int32.toInt64 (hI h 11 17 x1.toNatClampNeg))))) + (0 : Int32))) - (hI h 11 16 x1.toNatClampNeg))) _
              refine tr_goto (pc := 409) 190 k_fm_runs_409 (by decide) ?_
              exact hv
            · replace hv := hv.2 q
              refine tr_iconst (pc := 367) (v := 0) k_fm_runs_367 (by decide) ?_
              refine tr_goto (pc := 368) 405 k_fm_runs_368 (by decide) ?_
              refine tr_iast (pc := 405) k_fm_runs_405 (mvin (hsk.2.1 11 31 _ rfl) hv.1) ?_
              replace hv := hv.2
              refine tr_iinc (pc := 406) (v := (x1 + 1)) k_fm_runs_406 rfl rfl (by decide) rfl ?_
              show mT g me_fm_runs (d + 1) 0 0 409 [some (vr 10 0), some (vi (x1 + 1)), some (vi (0 : Int32)), some (vi (hI h 11 15 x1.toNatClampNeg))] [] (setI (setI (setI h 11 30 x1.toNatClampNeg (Int64.toInt32 ((((Int32.toInt64 (hI h 11 29 x1.toNatClampNeg)) * (Int32.toInt64 (hI h 11 29 x1.toNatClampNeg))) * (Int32.toInt64 (hI h 11 18 x1.toNatClampNeg))) / (((100 : Int64) * (Int32.toInt64 (hI h 11 17 x1.toNatClampNeg))) * (Int32.toInt64 (hI h 11 17 x1.toNatClampNeg)))))) 11 35 x1.toNatClampNeg ((Int64.toInt32 ((((Int32.toInt64 (hI h 11 29 x1.toNatClampNeg)) * (Int32.toInt64 (hI h 11 29 x1.toNatClampNeg))) * (Int32.toInt64 (hI h 11 18 x1.toNatClampNeg))) / (((100 : Int64) * (Int32.toInt64 (hI h 11 17 x1.toNatClampNeg))) * (Int32.toInt64 (hI h 11 17 x1.toNatClampNeg))))) + (0 : Int32))) 11 31 x1.toNatClampNeg (0 : Int32)) _
              refine tr_goto (pc := 409) 190 k_fm_runs_409 (by decide) ?_
              exact hv
          · replace hv := hv.2 q
            refine tr_aload_n (pc := 325) 0 k_fm_runs_325 rfl rfl ?_
            refine tr_getP (pc := 326) k_fm_runs_326 fl_fm_111 rfl (Eq.trans (hP_setI) (hsk.1 10 39 _ rfl)) ?_
            refine tr_aload_n (pc := 329) 0 k_fm_runs_329 rfl rfl ?_
            refine tr_getP (pc := 330) k_fm_runs_330 fl_fm_38 rfl (Eq.trans (hP_setI) (hsk.1 10 15 _ rfl)) ?_
            refine tr_iload_n (pc := 333) 1 k_fm_runs_333 rfl rfl ?_
            refine tr_ialdx (pc := 334) k_fm_runs_334 (mvin (hsk.2.1 11 14 _ rfl) hv.1) (hI_nn (by decide)) ?_
            replace hv := hv.2
            refine tr_ialdx (pc := 335) k_fm_runs_335 (mvin (hsk.2.1 11 35 _ rfl) hv.1) (hI_nn (by decide)) ?_
            replace hv := hv.2
            refine tr_goto (pc := 336) 340 k_fm_runs_336 (by decide) ?_
            refine tr_iadd (pc := 340) k_fm_runs_340 ?_
            refine tr_iast (pc := 341) k_fm_runs_341 (mvin (hsk.2.1 11 35 _ rfl) hv.1) ?_
            replace hv := hv.2
            refine tr_aload_n (pc := 342) 0 k_fm_runs_342 rfl rfl ?_
            refine tr_getP (pc := 343) k_fm_runs_343 fl_fm_41 rfl (Eq.trans (Eq.trans (hP_setI) (hP_setI)) (hsk.1 10 16 _ rfl)) ?_
            refine tr_iload_n (pc := 346) 1 k_fm_runs_346 rfl rfl ?_
            refine tr_ialdx (pc := 347) k_fm_runs_347 (mvin (hsk.2.1 11 15 _ rfl) hv.1) (Eq.trans (hI_nn (by decide)) (hI_nn (by decide))) ?_
            replace hv := hv.2
            refine tr_istore_n (pc := 348) 3 k_fm_runs_348 rfl (by decide) rfl ?_
            show mT g me_fm_runs (d + 1) 0 0 349 [some (vr 10 0), some (vi x1), some (vi (0 : Int32)), some (vi (hI h 11 15 x1.toNatClampNeg))] [] (setI (setI h 11 30 x1.toNatClampNeg (Int64.toInt32 ((((Int32.toInt64 (hI h 11 29 x1.toNatClampNeg)) * (Int32.toInt64 (hI h 11 29 x1.toNatClampNeg))) * (Int32.toInt64 (hI h 11 18 x1.toNatClampNeg))) / (((100 : Int64) * (Int32.toInt64 (hI h 11 17 x1.toNatClampNeg))) * (Int32.toInt64 (hI h 11 17 x1.toNatClampNeg)))))) 11 35 x1.toNatClampNeg ((Int64.toInt32 ((((Int32.toInt64 (hI h 11 29 x1.toNatClampNeg)) * (Int32.toInt64 (hI h 11 29 x1.toNatClampNeg))) * (Int32.toInt64 (hI h 11 18 x1.toNatClampNeg))) / (((100 : Int64) * (Int32.toInt64 (hI h 11 17 x1.toNatClampNeg))) * (Int32.toInt64 (hI h 11 17 x1.toNatClampNeg))))) + (hI h 11 35 ((hI h 11 14 x1.toNatClampNeg).toNatClampNeg)))) _
            refine tr_aload_n (pc := 349) 0 k_fm_runs_349 rfl rfl ?_
            refine tr_getP (pc := 350) k_fm_runs_350 fl_fm_96 rfl (Eq.trans (Eq.trans (hP_setI) (hP_setI)) (hsk.1 10 34 _ rfl)) ?_
            refine tr_iload_n (pc := 353) 1 k_fm_runs_353 rfl rfl ?_
            refine tr_iload_n (pc := 354) 2 k_fm_runs_354 rfl rfl ?_
            refine tr_if_ne (pc := 355) 367 k_fm_runs_355 (by decide) (fun q => absurd q (by decide)) (fun _ => ?_)
            refine tr_aload_n (pc := 358) 0 k_fm_runs_358 rfl rfl ?_
            refine tr_getP (pc := 359) k_fm_runs_359 fl_fm_102 rfl (Eq.trans (Eq.trans (hP_setI) (hP_setI)) (hsk.1 10 36 _ rfl)) ?_
            refine tr_iload_n (pc := 362) 3 k_fm_runs_362 rfl rfl ?_
            refine tr_ialdx (pc := 363) k_fm_runs_363 (mvin (hsk.2.1 11 33 _ rfl) hv.1) (Eq.trans (hI_nn (by decide)) (hI_nn (by decide))) ?_
            replace hv := hv.2
            refine tr_if_ne (pc := 364) 371 k_fm_runs_364 (by decide) (fun q => ?_) (fun q => ?_)
            · replace hv := hv.1 q
              refine tr_aload_n (pc := 371) 0 k_fm_runs_371 rfl rfl ?_
              refine tr_getP (pc := 372) k_fm_runs_372 fl_fm_17 rfl (Eq.trans (Eq.trans (hP_setI) (hP_setI)) (hsk.1 10 8 _ rfl)) ?_
              refine tr_iload_n (pc := 375) 3 k_fm_runs_375 rfl rfl ?_
              refine tr_ialdx (pc := 376) k_fm_runs_376 (mvin (hsk.2.1 11 7 _ rfl) hv.1) (Eq.trans (hI_nn (by decide)) (hI_nn (by decide))) ?_
              replace hv := hv.2
              refine tr_aload_n (pc := 377) 0 k_fm_runs_377 rfl rfl ?_
              refine tr_getP (pc := 378) k_fm_runs_378 fl_fm_102 rfl (Eq.trans (Eq.trans (hP_setI) (hP_setI)) (hsk.1 10 36 _ rfl)) ?_
              refine tr_iload_n (pc := 381) 3 k_fm_runs_381 rfl rfl ?_
              refine tr_ialdx (pc := 382) k_fm_runs_382 (mvin (hsk.2.1 11 33 _ rfl) hv.1) (Eq.trans (hI_nn (by decide)) (hI_nn (by decide))) ?_
              replace hv := hv.2
              refine tr_aload_n (pc := 383) 0 k_fm_runs_383 rfl rfl ?_
              refine tr_getP (pc := 384) k_fm_runs_384 fl_fm_20 rfl (Eq.trans (Eq.trans (hP_setI) (hP_setI)) (hsk.1 10 9 _ rfl)) ?_
              refine tr_iload_n (pc := 387) 3 k_fm_runs_387 rfl rfl ?_
              refine tr_ialdx (pc := 388) k_fm_runs_388 (mvin (hsk.2.1 11 8 _ rfl) hv.1) (Eq.trans (hI_nn (by decide)) (hI_nn (by decide))) ?_
              replace hv := hv.2
              refine tr_idiv (pc := 389) k_fm_runs_389 hv.1 ?_
              replace hv := hv.2
              refine tr_iadd (pc := 390) k_fm_runs_390 ?_
              refine tr_aload_n (pc := 391) 0 k_fm_runs_391 rfl rfl ?_
              refine tr_getP (pc := 392) k_fm_runs_392 fl_fm_111 rfl (Eq.trans (Eq.trans (hP_setI) (hP_setI)) (hsk.1 10 39 _ rfl)) ?_
              refine tr_iload_n (pc := 395) 1 k_fm_runs_395 rfl rfl ?_
              refine tr_ialdx (pc := 396) k_fm_runs_396 (mvin (hsk.2.1 11 35 _ rfl) hv.1) (hI_eq) ?_
              replace hv := hv.2
              refine tr_isub (pc := 397) k_fm_runs_397 ?_
              refine tr_aload_n (pc := 398) 0 k_fm_runs_398 rfl rfl ?_
              refine tr_getP (pc := 399) k_fm_runs_399 fl_fm_44 rfl (Eq.trans (Eq.trans (hP_setI) (hP_setI)) (hsk.1 10 17 _ rfl)) ?_
              refine tr_iload_n (pc := 402) 1 k_fm_runs_402 rfl rfl ?_
              refine tr_ialdx (pc := 403) k_fm_runs_403 (mvin (hsk.2.1 11 16 _ rfl) hv.1) (Eq.trans (hI_nn (by decide)) (hI_nn (by decide))) ?_
              replace hv := hv.2
              refine tr_isub (pc := 404) k_fm_runs_404 ?_
              refine tr_iast (pc := 405) k_fm_runs_405 (mvin (hsk.2.1 11 31 _ rfl) hv.1) ?_
              replace hv := hv.2
              refine tr_iinc (pc := 406) (v := (x1 + 1)) k_fm_runs_406 rfl rfl (by decide) rfl ?_
              show mT g me_fm_runs (d + 1) 0 0 409 [some (vr 10 0), some (vi (x1 + 1)), some (vi (0 : Int32)), some (vi (hI h 11 15 x1.toNatClampNeg))] [] (setI (setI (setI h 11 30 x1.toNatClampNeg (Int64.toInt32 ((((Int32.toInt64 (hI h 11 29 x1.toNatClampNeg)) * (Int32.toInt64 (hI h 11 29 x1.toNatClampNeg))) * (Int32.toInt64 (hI h 11 18 x1.toNatClampNeg))) / (((100 : Int64) * (Int32.toInt64 (hI h 11 17 x1.toNatClampNeg))) * (Int32.toInt64 (hI h 11 17 x1.toNatClampNeg)))))) 11 35 x1.toNatClampNeg ((Int64.toInt32 ((((Int32.toInt64 (hI h 11 29 x1.toNatClampNeg)) * (Int32.toInt64 (hI h 11 29 x1.toNatClampNeg))) * (Int32.toInt64 (hI h 11 18 x1.toNatClampNeg))) / (((100 : Int64) * (Int32.toInt64 (hI h 11 17 x1.toNatClampNeg))) * (Int32.toInt64 (hI h 11 17 x1.toNatClampNeg))))) + (hI h 11 35 ((hI h 11 14 x1.toNatClampNeg).toNatClampNeg)))) 11 31 x1.toNatClampNeg ((((hI h 11 7 ((hI h 11 15 x1.toNatClampNeg).toNatClampNeg)) + ((hI h 11 33 ((hI h 11 15 x1.toNatClampNeg).toNatClampNeg)) / (hI h 11 8 ((hI h 11 15 x1.toNatClampNeg).toNatClampNeg)))) - ((Int64.toInt32 ((((Int32.toInt64 (hI h 11 29 x1.toNatClampNeg)) * (Int32.toInt64 (hI h 11 29 x1.toNatClampNeg))) * (Int32.toInt64 (hI h 11 18 x1.toNatClampNeg))) / (((100 : Int64) * (Int32.toInt64 (hI h 11 17 x1.toNatClampNeg))) * (Int32.toInt64 (hI h 11 17 x1.toNatClampNeg))))) + (hI h 11 35 ((hI h 11 14 x1.toNatClampNeg).toNatClampNeg)))) - (hI h 11 16 x1.toNatClampNeg))) _
              refine tr_goto (pc := 409) 190 k_fm_runs_409 (by decide) ?_
              exact hv
            · replace hv := hv.2 q
              refine tr_iconst (pc := 367) (v := 0) k_fm_runs_367 (by decide) ?_
              refine tr_goto (pc := 368) 405 k_fm_runs_368 (by decide) ?_
              refine tr_iast (pc := 405) k_fm_runs_405 (mvin (hsk.2.1 11 31 _ rfl) hv.1) ?_
              replace hv := hv.2
              refine tr_iinc (pc := 406) (v := (x1 + 1)) k_fm_runs_406 rfl rfl (by decide) rfl ?_
              show mT g me_fm_runs (d + 1) 0 0 409 [some (vr 10 0), some (vi (x1 + 1)), some (vi (0 : Int32)), some (vi (hI h 11 15 x1.toNatClampNeg))] [] (setI (setI (setI h 11 30 x1.toNatClampNeg (Int64.toInt32 ((((Int32.toInt64 (hI h 11 29 x1.toNatClampNeg)) * (Int32.toInt64 (hI h 11 29 x1.toNatClampNeg))) * (Int32.toInt64 (hI h 11 18 x1.toNatClampNeg))) / (((100 : Int64) * (Int32.toInt64 (hI h 11 17 x1.toNatClampNeg))) * (Int32.toInt64 (hI h 11 17 x1.toNatClampNeg)))))) 11 35 x1.toNatClampNeg ((Int64.toInt32 ((((Int32.toInt64 (hI h 11 29 x1.toNatClampNeg)) * (Int32.toInt64 (hI h 11 29 x1.toNatClampNeg))) * (Int32.toInt64 (hI h 11 18 x1.toNatClampNeg))) / (((100 : Int64) * (Int32.toInt64 (hI h 11 17 x1.toNatClampNeg))) * (Int32.toInt64 (hI h 11 17 x1.toNatClampNeg))))) + (hI h 11 35 ((hI h 11 14 x1.toNatClampNeg).toNatClampNeg)))) 11 31 x1.toNatClampNeg (0 : Int32)) _
              refine tr_goto (pc := 409) 190 k_fm_runs_409 (by decide) ?_
              exact hv
        · replace hv := hv.2 q
          refine tr_iconst (pc := 230) (v := 1) k_fm_runs_230 (by decide) ?_
          refine tr_goto (pc := 231) 235 k_fm_runs_231 (by decide) ?_
          refine tr_istore_n (pc := 235) 2 k_fm_runs_235 rfl (by decide) rfl ?_
          show mT g me_fm_runs (d + 1) 0 0 236 [some (vr 10 0), some (vi x1), some (vi (1 : Int32)), o3] [] h _
          refine tr_iload_n (pc := 236) 2 k_fm_runs_236 rfl rfl ?_
          refine tr_if_eq (pc := 237) 247 k_fm_runs_237 (by decide) (fun q => absurd q (by decide)) (fun _ => ?_)
          refine tr_aload_n (pc := 240) 0 k_fm_runs_240 rfl rfl ?_
          refine tr_getP (pc := 241) k_fm_runs_241 fl_fm_90 rfl (Eq.trans rfl (hsk.1 10 32 _ rfl)) ?_
          refine tr_iload_n (pc := 244) 1 k_fm_runs_244 rfl rfl ?_
          refine tr_iconst (pc := 245) (v := 0) k_fm_runs_245 (by decide) ?_
          refine tr_iast (pc := 246) k_fm_runs_246 (mvin (hsk.2.1 11 29 _ rfl) hv.1) ?_
          replace hv := hv.2
          refine tr_aload_n (pc := 247) 0 k_fm_runs_247 rfl rfl ?_
          refine tr_getP (pc := 248) k_fm_runs_248 fl_fm_93 rfl (Eq.trans (hP_setI) (hsk.1 10 33 _ rfl)) ?_
          refine tr_iload_n (pc := 251) 1 k_fm_runs_251 rfl rfl ?_
          refine tr_aload_n (pc := 252) 0 k_fm_runs_252 rfl rfl ?_
          refine tr_getP (pc := 253) k_fm_runs_253 fl_fm_90 rfl (Eq.trans (hP_setI) (hsk.1 10 32 _ rfl)) ?_
          refine tr_iload_n (pc := 256) 1 k_fm_runs_256 rfl rfl ?_
          refine tr_ialdx (pc := 257) k_fm_runs_257 (mvin (hsk.2.1 11 29 _ rfl) hv.1) (hI_eq) ?_
          replace hv := hv.2
          refine tr_i2l (pc := 258) k_fm_runs_258 ?_
          refine tr_aload_n (pc := 259) 0 k_fm_runs_259 rfl rfl ?_
          refine tr_getP (pc := 260) k_fm_runs_260 fl_fm_90 rfl (Eq.trans (hP_setI) (hsk.1 10 32 _ rfl)) ?_
          refine tr_iload_n (pc := 263) 1 k_fm_runs_263 rfl rfl ?_
          refine tr_ialdx (pc := 264) k_fm_runs_264 (mvin (hsk.2.1 11 29 _ rfl) hv.1) (hI_eq) ?_
          replace hv := hv.2
          refine tr_i2l (pc := 265) k_fm_runs_265 ?_
          refine tr_lmul (pc := 266) k_fm_runs_266 ?_
          refine tr_aload_n (pc := 267) 0 k_fm_runs_267 rfl rfl ?_
          refine tr_getP (pc := 268) k_fm_runs_268 fl_fm_50 rfl (Eq.trans (hP_setI) (hsk.1 10 19 _ rfl)) ?_
          refine tr_iload_n (pc := 271) 1 k_fm_runs_271 rfl rfl ?_
          refine tr_ialdx (pc := 272) k_fm_runs_272 (mvin (hsk.2.1 11 18 _ rfl) hv.1) (hI_nn (by decide)) ?_
          replace hv := hv.2
          refine tr_i2l (pc := 273) k_fm_runs_273 ?_
          refine tr_lmul (pc := 274) k_fm_runs_274 ?_
          refine tr_ldc2 (pc := 275) (v := 100) k_fm_runs_275 co_fm_171 ?_
          refine tr_aload_n (pc := 278) 0 k_fm_runs_278 rfl rfl ?_
          refine tr_getP (pc := 279) k_fm_runs_279 fl_fm_47 rfl (Eq.trans (hP_setI) (hsk.1 10 18 _ rfl)) ?_
          refine tr_iload_n (pc := 282) 1 k_fm_runs_282 rfl rfl ?_
          refine tr_ialdx (pc := 283) k_fm_runs_283 (mvin (hsk.2.1 11 17 _ rfl) hv.1) (hI_nn (by decide)) ?_
          replace hv := hv.2
          refine tr_i2l (pc := 284) k_fm_runs_284 ?_
          refine tr_lmul (pc := 285) k_fm_runs_285 ?_
          refine tr_aload_n (pc := 286) 0 k_fm_runs_286 rfl rfl ?_
          refine tr_getP (pc := 287) k_fm_runs_287 fl_fm_47 rfl (Eq.trans (hP_setI) (hsk.1 10 18 _ rfl)) ?_
          refine tr_iload_n (pc := 290) 1 k_fm_runs_290 rfl rfl ?_
          refine tr_ialdx (pc := 291) k_fm_runs_291 (mvin (hsk.2.1 11 17 _ rfl) hv.1) (hI_nn (by decide)) ?_
          replace hv := hv.2
          refine tr_i2l (pc := 292) k_fm_runs_292 ?_
          refine tr_lmul (pc := 293) k_fm_runs_293 ?_
          refine tr_ldiv (pc := 294) k_fm_runs_294 hv.1 ?_
          replace hv := hv.2
          refine tr_l2i (pc := 295) k_fm_runs_295 ?_
          refine tr_iast (pc := 296) k_fm_runs_296 (mvin (hsk.2.1 11 30 _ rfl) hv.1) ?_
          replace hv := hv.2
          refine tr_aload_n (pc := 297) 0 k_fm_runs_297 rfl rfl ?_
          refine tr_getP (pc := 298) k_fm_runs_298 fl_fm_111 rfl (Eq.trans (Eq.trans (hP_setI) (hP_setI)) (hsk.1 10 39 _ rfl)) ?_
          refine tr_iload_n (pc := 301) 1 k_fm_runs_301 rfl rfl ?_
          refine tr_iload_n (pc := 302) 2 k_fm_runs_302 rfl rfl ?_
          refine tr_if_eq (pc := 303) 310 k_fm_runs_303 (by decide) (fun q => absurd q (by decide)) (fun _ => ?_)
          refine tr_iconst (pc := 306) (v := -1) k_fm_runs_306 (by decide) ?_
          refine tr_goto (pc := 307) 341 k_fm_runs_307 (by decide) ?_
          refine tr_iast (pc := 341) k_fm_runs_341 (mvin (hsk.2.1 11 35 _ rfl) hv.1) ?_
          replace hv := hv.2
          refine tr_aload_n (pc := 342) 0 k_fm_runs_342 rfl rfl ?_
          refine tr_getP (pc := 343) k_fm_runs_343 fl_fm_41 rfl (Eq.trans (Eq.trans (hP_setI) (Eq.trans (hP_setI) (hP_setI))) (hsk.1 10 16 _ rfl)) ?_
          refine tr_iload_n (pc := 346) 1 k_fm_runs_346 rfl rfl ?_
          refine tr_ialdx (pc := 347) k_fm_runs_347 (mvin (hsk.2.1 11 15 _ rfl) hv.1) (Eq.trans (hI_nn (by decide)) (Eq.trans (hI_nn (by decide)) (hI_nn (by decide)))) ?_
          replace hv := hv.2
          refine tr_istore_n (pc := 348) 3 k_fm_runs_348 rfl (by decide) rfl ?_
          show mT g me_fm_runs (d + 1) 0 0 349 [some (vr 10 0), some (vi x1), some (vi (1 : Int32)), some (vi (hI h 11 15 x1.toNatClampNeg))] [] (setI (setI (setI h 11 29 x1.toNatClampNeg (0 : Int32)) 11 30 x1.toNatClampNeg (Int64.toInt32 ((((Int32.toInt64 (0 : Int32)) * (Int32.toInt64 (0 : Int32))) * (Int32.toInt64 (hI h 11 18 x1.toNatClampNeg))) / (((100 : Int64) * (Int32.toInt64 (hI h 11 17 x1.toNatClampNeg))) * (Int32.toInt64 (hI h 11 17 x1.toNatClampNeg)))))) 11 35 x1.toNatClampNeg (-1 : Int32)) _
          refine tr_aload_n (pc := 349) 0 k_fm_runs_349 rfl rfl ?_
          refine tr_getP (pc := 350) k_fm_runs_350 fl_fm_96 rfl (Eq.trans (Eq.trans (hP_setI) (Eq.trans (hP_setI) (hP_setI))) (hsk.1 10 34 _ rfl)) ?_
          refine tr_iload_n (pc := 353) 1 k_fm_runs_353 rfl rfl ?_
          refine tr_iload_n (pc := 354) 2 k_fm_runs_354 rfl rfl ?_
          refine tr_if_ne (pc := 355) 367 k_fm_runs_355 (by decide) (fun _ => ?_) (fun q => absurd q (by decide))
          refine tr_iconst (pc := 367) (v := 0) k_fm_runs_367 (by decide) ?_
          refine tr_goto (pc := 368) 405 k_fm_runs_368 (by decide) ?_
          refine tr_iast (pc := 405) k_fm_runs_405 (mvin (hsk.2.1 11 31 _ rfl) hv.1) ?_
          replace hv := hv.2
          refine tr_iinc (pc := 406) (v := (x1 + 1)) k_fm_runs_406 rfl rfl (by decide) rfl ?_
          show mT g me_fm_runs (d + 1) 0 0 409 [some (vr 10 0), some (vi (x1 + 1)), some (vi (1 : Int32)), some (vi (hI h 11 15 x1.toNatClampNeg))] [] (setI (setI (setI (setI h 11 29 x1.toNatClampNeg (0 : Int32)) 11 30 x1.toNatClampNeg (Int64.toInt32 ((((Int32.toInt64 (0 : Int32)) * (Int32.toInt64 (0 : Int32))) * (Int32.toInt64 (hI h 11 18 x1.toNatClampNeg))) / (((100 : Int64) * (Int32.toInt64 (hI h 11 17 x1.toNatClampNeg))) * (Int32.toInt64 (hI h 11 17 x1.toNatClampNeg)))))) 11 35 x1.toNatClampNeg (-1 : Int32)) 11 31 x1.toNatClampNeg (0 : Int32)) _
          refine tr_goto (pc := 409) 190 k_fm_runs_409 (by decide) ?_
          exact hv
theorem v_fm_head_0 {g : mG} {d : Nat} (x1 : Int32) {h : mH} {Q : Option mV → mH → Prop} (hsk : mSK h) (hv : ((x1 < 0 → mT g me_fm_refuse (d + 1) 0 0 0 [some (vr 10 0), some (vi (-1 : Int32))] [] h (fun v h1 => ∃ y2, v = some (vi y2) ∧ mSK h1 ∧ Q (some (vi ((1000000000 : Int32) - y2))) h1)) ∧ (¬ x1 < 0 → (((hI h 10 0 3) ≤ x1 → mT g me_fm_refuse (d + 1) 0 0 0 [some (vr 10 0), some (vi (-1 : Int32))] [] h (fun v h3 => ∃ y4, v = some (vi y4) ∧ mSK h3 ∧ Q (some (vi ((1000000000 : Int32) - y4))) h3)) ∧ (¬ (hI h 10 0 3) ≤ x1 → mT g me_fm_sees (d + 2) 0 0 0 [some (vr 10 0)] [] h (fun v h5 => v = none ∧ mSK h5 ∧ (vp_in x1 30 ∧ Q (some (vi (hI h5 11 31 x1.toNatClampNeg))) h5))))))) : mT g me_fm_head (d + 3) 0 0 0 [some (vr 10 0), some (vi x1)] [] h Q := by
  refine tr_aload_n (pc := 0) 0 k_fm_head_0 rfl rfl ?_
  refine tr_iload_n (pc := 1) 1 k_fm_head_1 rfl rfl ?_
  refine tr_callV (pc := 2) (d' := d + 2) (mc' := 0) (ms' := 0) [vi x1] k_fm_head_2 ca_fm_isJoint ml_fm_161 ii_fm_isJoint ⟨by decide, rfl⟩ pa_fm_isJoint (by omega) (by omega) (by omega) rfl (Nat.le_of_ble_eq_true rfl) (Nat.le_of_ble_eq_true rfl) (Qk := fun v h9 => mT g me_fm_head (d + 3) 0 0 5 [some (vr 10 0), some (vi x1)] (v.toList ++ []) h9 _) ?_ (fun _ _ z => z)
  show mT g me_fm_isJoint (d + 2) 0 0 0 [some (vr 10 0), some (vi x1)] [] h _
  refine tr_iload_n (pc := 0) 1 k_fm_isJoint_0 rfl rfl ?_
  refine tr_aload_n (pc := 1) 0 k_fm_isJoint_1 rfl rfl ?_
  refine tr_getIx (pc := 2) k_fm_isJoint_2 fl_fm_155 rfl rfl ?_
  refine tr_callS (pc := 5) (d' := d + 1) (mc' := 0) (ms' := 0) [vi x1, vi (hI h 10 0 3)] k_fm_isJoint_5 ca_fm_isIn ml_fm_144 is_fm_isIn pa_fm_isIn (by omega) (by omega) (by omega) rfl (Nat.le_of_ble_eq_true rfl) (Nat.le_of_ble_eq_true rfl) (Qk := fun v h9 => mT g me_fm_isJoint (d + 2) 0 0 8 [some (vr 10 0), some (vi x1)] (v.toList ++ []) h9 _) ?_ (fun _ _ z => z)
  show mT g me_fm_isIn (d + 1) 0 0 0 [some (vi x1), some (vi (hI h 10 0 3))] [] h _
  refine tr_iload_n (pc := 0) 0 k_fm_isIn_0 rfl rfl ?_
  refine tr_if_lt (pc := 1) 13 k_fm_isIn_1 (by decide) (fun q => ?_) (fun q => ?_)
  · replace hv := hv.1 q
    refine tr_iconst (pc := 13) (v := 0) k_fm_isIn_13 (by decide) ?_
    refine tr_ireturn (pc := 14) k_fm_isIn_14 rfl rfl ?_
    show mT g me_fm_isJoint (d + 2) 0 0 8 [some (vr 10 0), some (vi x1)] [vi (0 : Int32)] h _
    refine tr_ireturn (pc := 8) k_fm_isJoint_8 rfl rfl ?_
    show mT g me_fm_head (d + 3) 0 0 5 [some (vr 10 0), some (vi x1)] [vi (0 : Int32)] h _
    refine tr_if_ne (pc := 5) 14 k_fm_head_5 (by decide) (fun q => absurd q (by decide)) (fun _ => ?_)
    refine tr_aload_n (pc := 8) 0 k_fm_head_8 rfl rfl ?_
    refine tr_iconst (pc := 9) (v := -1) k_fm_head_9 (by decide) ?_
    refine tr_callV (pc := 10) (d' := d + 2) (mc' := 0) (ms' := 0) [vi (-1 : Int32)] k_fm_head_10 ca_fm_refuseFar ml_fm_182 ii_fm_refuseFar ⟨by decide, rfl⟩ pa_fm_refuseFar (by omega) (by omega) (by omega) rfl (Nat.le_of_ble_eq_true rfl) (Nat.le_of_ble_eq_true rfl) (Qk := fun v h9 => mT g me_fm_head (d + 3) 0 0 13 [some (vr 10 0), some (vi x1)] (v.toList ++ []) h9 _) ?_ (fun _ _ z => z)
    show mT g me_fm_refuseFar (d + 2) 0 0 0 [some (vr 10 0), some (vi (-1 : Int32))] [] h _
    refine tr_ldc (pc := 0) (v := 1000000000) k_fm_refuseFar_0 co_fm_132 ?_
    refine tr_aload_n (pc := 2) 0 k_fm_refuseFar_2 rfl rfl ?_
    refine tr_iload_n (pc := 3) 1 k_fm_refuseFar_3 rfl rfl ?_
    have hT := hv
    clear hv
    refine tr_callV (pc := 4) (d' := d + 1) (mc' := 0) (ms' := 0) [vi (-1 : Int32)] k_fm_refuseFar_4 ca_fm_refuse ml_fm_133 ii_fm_refuse ⟨by decide, rfl⟩ pa_fm_refuse (by omega) (by omega) (by omega) rfl (Nat.le_of_ble_eq_true rfl) (Nat.le_of_ble_eq_true rfl) hT (fun v h9 hv => ?_)
    clear hT
    obtain ⟨y2, rfl, hv⟩ := hv
    obtain ⟨h1, eh⟩ : ∃ z, z = h9 := ⟨_, rfl⟩
    subst eh
    obtain ⟨hskh1, hv⟩ := hv
    show mT g me_fm_refuseFar (d + 2) 0 0 7 [some (vr 10 0), some (vi (-1 : Int32))] [vi y2, vi (1000000000 : Int32)] h1 _
    refine tr_isub (pc := 7) k_fm_refuseFar_7 ?_
    refine tr_ireturn (pc := 8) k_fm_refuseFar_8 rfl rfl ?_
    show mT g me_fm_head (d + 3) 0 0 13 [some (vr 10 0), some (vi x1)] [vi ((1000000000 : Int32) - y2)] h1 _
    refine tr_ireturn (pc := 13) k_fm_head_13 rfl rfl ?_
    exact hv
  · replace hv := hv.2 q
    refine tr_iload_n (pc := 4) 0 k_fm_isIn_4 rfl rfl ?_
    refine tr_iload_n (pc := 5) 1 k_fm_isIn_5 rfl rfl ?_
    refine tr_icmp_ge (pc := 6) 13 k_fm_isIn_6 (by decide) (fun q => ?_) (fun q => ?_)
    · replace hv := hv.1 q
      refine tr_iconst (pc := 13) (v := 0) k_fm_isIn_13 (by decide) ?_
      refine tr_ireturn (pc := 14) k_fm_isIn_14 rfl rfl ?_
      show mT g me_fm_isJoint (d + 2) 0 0 8 [some (vr 10 0), some (vi x1)] [vi (0 : Int32)] h _
      refine tr_ireturn (pc := 8) k_fm_isJoint_8 rfl rfl ?_
      show mT g me_fm_head (d + 3) 0 0 5 [some (vr 10 0), some (vi x1)] [vi (0 : Int32)] h _
      refine tr_if_ne (pc := 5) 14 k_fm_head_5 (by decide) (fun q => absurd q (by decide)) (fun _ => ?_)
      refine tr_aload_n (pc := 8) 0 k_fm_head_8 rfl rfl ?_
      refine tr_iconst (pc := 9) (v := -1) k_fm_head_9 (by decide) ?_
      refine tr_callV (pc := 10) (d' := d + 2) (mc' := 0) (ms' := 0) [vi (-1 : Int32)] k_fm_head_10 ca_fm_refuseFar ml_fm_182 ii_fm_refuseFar ⟨by decide, rfl⟩ pa_fm_refuseFar (by omega) (by omega) (by omega) rfl (Nat.le_of_ble_eq_true rfl) (Nat.le_of_ble_eq_true rfl) (Qk := fun v h9 => mT g me_fm_head (d + 3) 0 0 13 [some (vr 10 0), some (vi x1)] (v.toList ++ []) h9 _) ?_ (fun _ _ z => z)
      show mT g me_fm_refuseFar (d + 2) 0 0 0 [some (vr 10 0), some (vi (-1 : Int32))] [] h _
      refine tr_ldc (pc := 0) (v := 1000000000) k_fm_refuseFar_0 co_fm_132 ?_
      refine tr_aload_n (pc := 2) 0 k_fm_refuseFar_2 rfl rfl ?_
      refine tr_iload_n (pc := 3) 1 k_fm_refuseFar_3 rfl rfl ?_
      have hT := hv
      clear hv
      refine tr_callV (pc := 4) (d' := d + 1) (mc' := 0) (ms' := 0) [vi (-1 : Int32)] k_fm_refuseFar_4 ca_fm_refuse ml_fm_133 ii_fm_refuse ⟨by decide, rfl⟩ pa_fm_refuse (by omega) (by omega) (by omega) rfl (Nat.le_of_ble_eq_true rfl) (Nat.le_of_ble_eq_true rfl) hT (fun v h9 hv => ?_)
      clear hT
      obtain ⟨y4, rfl, hv⟩ := hv
      obtain ⟨h3, eh⟩ : ∃ z, z = h9 := ⟨_, rfl⟩
      subst eh
      obtain ⟨hskh3, hv⟩ := hv
      show mT g me_fm_refuseFar (d + 2) 0 0 7 [some (vr 10 0), some (vi (-1 : Int32))] [vi y4, vi (1000000000 : Int32)] h3 _
      refine tr_isub (pc := 7) k_fm_refuseFar_7 ?_
      refine tr_ireturn (pc := 8) k_fm_refuseFar_8 rfl rfl ?_
      show mT g me_fm_head (d + 3) 0 0 13 [some (vr 10 0), some (vi x1)] [vi ((1000000000 : Int32) - y4)] h3 _
      refine tr_ireturn (pc := 13) k_fm_head_13 rfl rfl ?_
      exact hv
    · replace hv := hv.2 q
      refine tr_iconst (pc := 9) (v := 1) k_fm_isIn_9 (by decide) ?_
      refine tr_goto (pc := 10) 14 k_fm_isIn_10 (by decide) ?_
      refine tr_ireturn (pc := 14) k_fm_isIn_14 rfl rfl ?_
      show mT g me_fm_isJoint (d + 2) 0 0 8 [some (vr 10 0), some (vi x1)] [vi (1 : Int32)] h _
      refine tr_ireturn (pc := 8) k_fm_isJoint_8 rfl rfl ?_
      show mT g me_fm_head (d + 3) 0 0 5 [some (vr 10 0), some (vi x1)] [vi (1 : Int32)] h _
      refine tr_if_ne (pc := 5) 14 k_fm_head_5 (by decide) (fun _ => ?_) (fun q => absurd q (by decide))
      refine tr_aload_n (pc := 14) 0 k_fm_head_14 rfl rfl ?_
      have hT := hv
      clear hv
      refine tr_callV (pc := 15) (d' := d + 2) (mc' := 0) (ms' := 0) [] k_fm_head_15 ca_fm_sees ml_fm_179 ii_fm_sees ⟨by decide, rfl⟩ pa_fm_sees (by omega) (by omega) (by omega) rfl (Nat.le_of_ble_eq_true rfl) (Nat.le_of_ble_eq_true rfl) hT (fun v h9 hv => ?_)
      clear hT
      obtain ⟨rfl, hv⟩ := hv
      obtain ⟨h5, eh⟩ : ∃ z, z = h9 := ⟨_, rfl⟩
      subst eh
      obtain ⟨hskh5, hv⟩ := hv
      show mT g me_fm_head (d + 3) 0 0 18 [some (vr 10 0), some (vi x1)] [] h5 _
      refine tr_aload_n (pc := 18) 0 k_fm_head_18 rfl rfl ?_
      refine tr_getP (pc := 19) k_fm_head_19 fl_fm_96 rfl (Eq.trans rfl (hskh5.1 10 34 _ rfl)) ?_
      refine tr_iload_n (pc := 22) 1 k_fm_head_22 rfl rfl ?_
      refine tr_ialdx (pc := 23) k_fm_head_23 (mvin (hskh5.2.1 11 31 _ rfl) hv.1) rfl ?_
      replace hv := hv.2
      refine tr_ireturn (pc := 24) k_fm_head_24 rfl rfl ?_
      exact hv
theorem v_fm_rise_0 {g : mG} {d : Nat} (x1 : Int32) {h : mH} {Q : Option mV → mH → Prop} (hsk : mSK h) (hv : ((x1 < 0 → mT g me_fm_refuse (d + 2) 0 0 0 [some (vr 10 0), some (vi (-1 : Int32))] [] h (fun v h1 => ∃ y2, v = some (vi y2) ∧ mSK h1 ∧ Q (some (vi y2)) h1)) ∧ (¬ x1 < 0 → (((hI h 10 0 4) ≤ x1 → mT g me_fm_refuse (d + 2) 0 0 0 [some (vr 10 0), some (vi (-1 : Int32))] [] h (fun v h3 => ∃ y4, v = some (vi y4) ∧ mSK h3 ∧ Q (some (vi y4)) h3)) ∧ (¬ (hI h 10 0 4) ≤ x1 → mT g me_fm_sees (d + 2) 0 0 0 [some (vr 10 0)] [] h (fun v h5 => v = none ∧ mSK h5 ∧ mT g me_fm_riseOf (d + 2) 0 0 0 [some (vr 10 0), some (vi x1)] [] h5 (fun v h6 => ∃ y7, v = some (vi y7) ∧ mSK h6 ∧ Q (some (vi y7)) h6))))))) : mT g me_fm_rise (d + 3) 0 0 0 [some (vr 10 0), some (vi x1)] [] h Q := by
  refine tr_aload_n (pc := 0) 0 k_fm_rise_0 rfl rfl ?_
  refine tr_iload_n (pc := 1) 1 k_fm_rise_1 rfl rfl ?_
  refine tr_callV (pc := 2) (d' := d + 2) (mc' := 0) (ms' := 0) [vi x1] k_fm_rise_2 ca_fm_isJet ml_fm_165 ii_fm_isJet ⟨by decide, rfl⟩ pa_fm_isJet (by omega) (by omega) (by omega) rfl (Nat.le_of_ble_eq_true rfl) (Nat.le_of_ble_eq_true rfl) (Qk := fun v h9 => mT g me_fm_rise (d + 3) 0 0 5 [some (vr 10 0), some (vi x1)] (v.toList ++ []) h9 _) ?_ (fun _ _ z => z)
  show mT g me_fm_isJet (d + 2) 0 0 0 [some (vr 10 0), some (vi x1)] [] h _
  refine tr_iload_n (pc := 0) 1 k_fm_isJet_0 rfl rfl ?_
  refine tr_aload_n (pc := 1) 0 k_fm_isJet_1 rfl rfl ?_
  refine tr_getIx (pc := 2) k_fm_isJet_2 fl_fm_158 rfl rfl ?_
  refine tr_callS (pc := 5) (d' := d + 1) (mc' := 0) (ms' := 0) [vi x1, vi (hI h 10 0 4)] k_fm_isJet_5 ca_fm_isIn ml_fm_144 is_fm_isIn pa_fm_isIn (by omega) (by omega) (by omega) rfl (Nat.le_of_ble_eq_true rfl) (Nat.le_of_ble_eq_true rfl) (Qk := fun v h9 => mT g me_fm_isJet (d + 2) 0 0 8 [some (vr 10 0), some (vi x1)] (v.toList ++ []) h9 _) ?_ (fun _ _ z => z)
  show mT g me_fm_isIn (d + 1) 0 0 0 [some (vi x1), some (vi (hI h 10 0 4))] [] h _
  refine tr_iload_n (pc := 0) 0 k_fm_isIn_0 rfl rfl ?_
  refine tr_if_lt (pc := 1) 13 k_fm_isIn_1 (by decide) (fun q => ?_) (fun q => ?_)
  · replace hv := hv.1 q
    refine tr_iconst (pc := 13) (v := 0) k_fm_isIn_13 (by decide) ?_
    refine tr_ireturn (pc := 14) k_fm_isIn_14 rfl rfl ?_
    show mT g me_fm_isJet (d + 2) 0 0 8 [some (vr 10 0), some (vi x1)] [vi (0 : Int32)] h _
    refine tr_ireturn (pc := 8) k_fm_isJet_8 rfl rfl ?_
    show mT g me_fm_rise (d + 3) 0 0 5 [some (vr 10 0), some (vi x1)] [vi (0 : Int32)] h _
    refine tr_if_ne (pc := 5) 14 k_fm_rise_5 (by decide) (fun q => absurd q (by decide)) (fun _ => ?_)
    refine tr_aload_n (pc := 8) 0 k_fm_rise_8 rfl rfl ?_
    refine tr_iconst (pc := 9) (v := -1) k_fm_rise_9 (by decide) ?_
    have hT := hv
    clear hv
    refine tr_callV (pc := 10) (d' := d + 2) (mc' := 0) (ms' := 0) [vi (-1 : Int32)] k_fm_rise_10 ca_fm_refuse ml_fm_133 ii_fm_refuse ⟨by decide, rfl⟩ pa_fm_refuse (by omega) (by omega) (by omega) rfl (Nat.le_of_ble_eq_true rfl) (Nat.le_of_ble_eq_true rfl) hT (fun v h9 hv => ?_)
    clear hT
    obtain ⟨y2, rfl, hv⟩ := hv
    obtain ⟨h1, eh⟩ : ∃ z, z = h9 := ⟨_, rfl⟩
    subst eh
    obtain ⟨hskh1, hv⟩ := hv
    show mT g me_fm_rise (d + 3) 0 0 13 [some (vr 10 0), some (vi x1)] [vi y2] h1 _
    refine tr_ireturn (pc := 13) k_fm_rise_13 rfl rfl ?_
    exact hv
  · replace hv := hv.2 q
    refine tr_iload_n (pc := 4) 0 k_fm_isIn_4 rfl rfl ?_
    refine tr_iload_n (pc := 5) 1 k_fm_isIn_5 rfl rfl ?_
    refine tr_icmp_ge (pc := 6) 13 k_fm_isIn_6 (by decide) (fun q => ?_) (fun q => ?_)
    · replace hv := hv.1 q
      refine tr_iconst (pc := 13) (v := 0) k_fm_isIn_13 (by decide) ?_
      refine tr_ireturn (pc := 14) k_fm_isIn_14 rfl rfl ?_
      show mT g me_fm_isJet (d + 2) 0 0 8 [some (vr 10 0), some (vi x1)] [vi (0 : Int32)] h _
      refine tr_ireturn (pc := 8) k_fm_isJet_8 rfl rfl ?_
      show mT g me_fm_rise (d + 3) 0 0 5 [some (vr 10 0), some (vi x1)] [vi (0 : Int32)] h _
      refine tr_if_ne (pc := 5) 14 k_fm_rise_5 (by decide) (fun q => absurd q (by decide)) (fun _ => ?_)
      refine tr_aload_n (pc := 8) 0 k_fm_rise_8 rfl rfl ?_
      refine tr_iconst (pc := 9) (v := -1) k_fm_rise_9 (by decide) ?_
      have hT := hv
      clear hv
      refine tr_callV (pc := 10) (d' := d + 2) (mc' := 0) (ms' := 0) [vi (-1 : Int32)] k_fm_rise_10 ca_fm_refuse ml_fm_133 ii_fm_refuse ⟨by decide, rfl⟩ pa_fm_refuse (by omega) (by omega) (by omega) rfl (Nat.le_of_ble_eq_true rfl) (Nat.le_of_ble_eq_true rfl) hT (fun v h9 hv => ?_)
      clear hT
      obtain ⟨y4, rfl, hv⟩ := hv
      obtain ⟨h3, eh⟩ : ∃ z, z = h9 := ⟨_, rfl⟩
      subst eh
      obtain ⟨hskh3, hv⟩ := hv
      show mT g me_fm_rise (d + 3) 0 0 13 [some (vr 10 0), some (vi x1)] [vi y4] h3 _
      refine tr_ireturn (pc := 13) k_fm_rise_13 rfl rfl ?_
      exact hv
    · replace hv := hv.2 q
      refine tr_iconst (pc := 9) (v := 1) k_fm_isIn_9 (by decide) ?_
      refine tr_goto (pc := 10) 14 k_fm_isIn_10 (by decide) ?_
      refine tr_ireturn (pc := 14) k_fm_isIn_14 rfl rfl ?_
      show mT g me_fm_isJet (d + 2) 0 0 8 [some (vr 10 0), some (vi x1)] [vi (1 : Int32)] h _
      refine tr_ireturn (pc := 8) k_fm_isJet_8 rfl rfl ?_
      show mT g me_fm_rise (d + 3) 0 0 5 [some (vr 10 0), some (vi x1)] [vi (1 : Int32)] h _
      refine tr_if_ne (pc := 5) 14 k_fm_rise_5 (by decide) (fun _ => ?_) (fun q => absurd q (by decide))
      refine tr_aload_n (pc := 14) 0 k_fm_rise_14 rfl rfl ?_
      have hT := hv
      clear hv
      refine tr_callV (pc := 15) (d' := d + 2) (mc' := 0) (ms' := 0) [] k_fm_rise_15 ca_fm_sees ml_fm_179 ii_fm_sees ⟨by decide, rfl⟩ pa_fm_sees (by omega) (by omega) (by omega) rfl (Nat.le_of_ble_eq_true rfl) (Nat.le_of_ble_eq_true rfl) hT (fun v h9 hv => ?_)
      clear hT
      obtain ⟨rfl, hv⟩ := hv
      obtain ⟨h5, eh⟩ : ∃ z, z = h9 := ⟨_, rfl⟩
      subst eh
      obtain ⟨hskh5, hv⟩ := hv
      show mT g me_fm_rise (d + 3) 0 0 18 [some (vr 10 0), some (vi x1)] [] h5 _
      refine tr_aload_n (pc := 18) 0 k_fm_rise_18 rfl rfl ?_
      refine tr_iload_n (pc := 19) 1 k_fm_rise_19 rfl rfl ?_
      have hT := hv
      clear hv
      refine tr_callV (pc := 20) (d' := d + 2) (mc' := 0) (ms' := 0) [vi x1] k_fm_rise_20 ca_fm_riseOf ml_fm_185 ii_fm_riseOf ⟨by decide, rfl⟩ pa_fm_riseOf (by omega) (by omega) (by omega) rfl (Nat.le_of_ble_eq_true rfl) (Nat.le_of_ble_eq_true rfl) hT (fun v h9 hv => ?_)
      clear hT
      obtain ⟨y7, rfl, hv⟩ := hv
      obtain ⟨h6, eh⟩ : ∃ z, z = h9 := ⟨_, rfl⟩
      subst eh
      obtain ⟨hskh6, hv⟩ := hv
      show mT g me_fm_rise (d + 3) 0 0 23 [some (vr 10 0), some (vi x1)] [vi y7] h6 _
      refine tr_ireturn (pc := 23) k_fm_rise_23 rfl rfl ?_
      exact hv
theorem v_fm_riseOf_0 {g : mG} {d : Nat} (x1 : Int32) {h : mH} {Q : Option mV → mH → Prop} (hsk : mSK h) (hv : (vp_in x1 24 ∧ (((hI h 12 2 x1.toNatClampNeg) = 0 → Q (some (vi (0 : Int32))) h) ∧ (¬ (hI h 12 2 x1.toNatClampNeg) = 0 → (vp_in x1 24 ∧ (vp_in (hI h 11 21 x1.toNatClampNeg) 30 ∧ (((hI h 11 31 ((hI h 11 21 x1.toNatClampNeg).toNatClampNeg)) ≤ 0 → Q (some (vi (0 : Int32))) h) ∧ (¬ (hI h 11 31 ((hI h 11 21 x1.toNatClampNeg).toNatClampNeg)) ≤ 0 → (vp_in x1 24 ∧ (vp_in (hI h 11 21 x1.toNatClampNeg) 30 ∧ Q (some (vi (((9 : Int32) * (hI h 11 31 ((hI h 11 21 x1.toNatClampNeg).toNatClampNeg))) / (10 : Int32)))) h)))))))))) : mT g me_fm_riseOf (d + 1) 0 0 0 [some (vr 10 0), some (vi x1)] [] h Q := by
  refine tr_aload_n (pc := 0) 0 k_fm_riseOf_0 rfl rfl ?_
  refine tr_getP (pc := 1) k_fm_riseOf_1 fl_fm_108 rfl (Eq.trans rfl (hsk.1 10 38 _ rfl)) ?_
  refine tr_iload_n (pc := 4) 1 k_fm_riseOf_4 rfl rfl ?_
  refine tr_zaldx (pc := 5) k_fm_riseOf_5 (mvin (hsk.2.1 12 2 _ rfl) hv.1) rfl ?_
  replace hv := hv.2
  refine tr_if_eq (pc := 6) 43 k_fm_riseOf_6 (by decide) (fun q => ?_) (fun q => ?_)
  · replace hv := hv.1 q
    refine tr_iconst (pc := 43) (v := 0) k_fm_riseOf_43 (by decide) ?_
    refine tr_ireturn (pc := 44) k_fm_riseOf_44 rfl rfl ?_
    exact hv
  · replace hv := hv.2 q
    refine tr_aload_n (pc := 9) 0 k_fm_riseOf_9 rfl rfl ?_
    refine tr_getP (pc := 10) k_fm_riseOf_10 fl_fm_96 rfl (Eq.trans rfl (hsk.1 10 34 _ rfl)) ?_
    refine tr_aload_n (pc := 13) 0 k_fm_riseOf_13 rfl rfl ?_
    refine tr_getP (pc := 14) k_fm_riseOf_14 fl_fm_63 rfl (Eq.trans rfl (hsk.1 10 23 _ rfl)) ?_
    refine tr_iload_n (pc := 17) 1 k_fm_riseOf_17 rfl rfl ?_
    refine tr_ialdx (pc := 18) k_fm_riseOf_18 (mvin (hsk.2.1 11 21 _ rfl) hv.1) rfl ?_
    replace hv := hv.2
    refine tr_ialdx (pc := 19) k_fm_riseOf_19 (mvin (hsk.2.1 11 31 _ rfl) hv.1) rfl ?_
    replace hv := hv.2
    refine tr_if_le (pc := 20) 43 k_fm_riseOf_20 (by decide) (fun q => ?_) (fun q => ?_)
    · replace hv := hv.1 q
      refine tr_iconst (pc := 43) (v := 0) k_fm_riseOf_43 (by decide) ?_
      refine tr_ireturn (pc := 44) k_fm_riseOf_44 rfl rfl ?_
      exact hv
    · replace hv := hv.2 q
      refine tr_bipush (pc := 23) (v := 9) k_fm_riseOf_23 (by decide) ?_
      refine tr_aload_n (pc := 25) 0 k_fm_riseOf_25 rfl rfl ?_
      refine tr_getP (pc := 26) k_fm_riseOf_26 fl_fm_96 rfl (Eq.trans rfl (hsk.1 10 34 _ rfl)) ?_
      refine tr_aload_n (pc := 29) 0 k_fm_riseOf_29 rfl rfl ?_
      refine tr_getP (pc := 30) k_fm_riseOf_30 fl_fm_63 rfl (Eq.trans rfl (hsk.1 10 23 _ rfl)) ?_
      refine tr_iload_n (pc := 33) 1 k_fm_riseOf_33 rfl rfl ?_
      refine tr_ialdx (pc := 34) k_fm_riseOf_34 (mvin (hsk.2.1 11 21 _ rfl) hv.1) rfl ?_
      replace hv := hv.2
      refine tr_ialdx (pc := 35) k_fm_riseOf_35 (mvin (hsk.2.1 11 31 _ rfl) hv.1) rfl ?_
      replace hv := hv.2
      refine tr_imul (pc := 36) k_fm_riseOf_36 ?_
      refine tr_bipush (pc := 37) (v := 10) k_fm_riseOf_37 (by decide) ?_
      refine tr_idiv (pc := 39) k_fm_riseOf_39 (by decide) ?_
      refine tr_goto (pc := 40) 44 k_fm_riseOf_40 (by decide) ?_
      refine tr_ireturn (pc := 44) k_fm_riseOf_44 rfl rfl ?_
      exact hv
theorem v_fm_share_0 {g : mG} {d : Nat} (x1 : Int32) (x2 : Int32) {h : mH} {Q : Option mV → mH → Prop} (hsk : mSK h) (hv : ((x1 < 0 → mT g me_fm_refuse (d + 2) 0 0 0 [some (vr 10 0), some (vi (-1 : Int32))] [] h (fun v h1 => ∃ y2, v = some (vi y2) ∧ mSK h1 ∧ Q (some (vi y2)) h1)) ∧ (¬ x1 < 0 → (((hI h 10 0 4) ≤ x1 → mT g me_fm_refuse (d + 2) 0 0 0 [some (vr 10 0), some (vi (-1 : Int32))] [] h (fun v h3 => ∃ y4, v = some (vi y4) ∧ mSK h3 ∧ Q (some (vi y4)) h3)) ∧ (¬ (hI h 10 0 4) ≤ x1 → ((x2 < 0 → mT g me_fm_refuse (d + 2) 0 0 0 [some (vr 10 0), some (vi (-1 : Int32))] [] h (fun v h5 => ∃ y6, v = some (vi y6) ∧ mSK h5 ∧ Q (some (vi y6)) h5)) ∧ (¬ x2 < 0 → (((hI h 10 0 4) ≤ x2 → mT g me_fm_refuse (d + 2) 0 0 0 [some (vr 10 0), some (vi (-1 : Int32))] [] h (fun v h7 => ∃ y8, v = some (vi y8) ∧ mSK h7 ∧ Q (some (vi y8)) h7)) ∧ (¬ (hI h 10 0 4) ≤ x2 → ((¬ x1 = x2 → (vp_in x1 24 ∧ (((hI h 12 1 x1.toNatClampNeg) = 0 → mT g me_fm_refuse (d + 2) 0 0 0 [some (vr 10 0), some (vi (-3 : Int32))] [] h (fun v h9 => ∃ y10, v = some (vi y10) ∧ mSK h9 ∧ Q (some (vi y10)) h9)) ∧ (¬ (hI h 12 1 x1.toNatClampNeg) = 0 → (vp_in x2 24 ∧ ((¬ (hI h 12 1 x2.toNatClampNeg) = 0 → mT g me_fm_sees (d + 2) 0 0 0 [some (vr 10 0)] [] h (fun v h11 => v = none ∧ mSK h11 ∧ mT g me_fm_riseOf (d + 2) 0 0 0 [some (vr 10 0), some (vi x1)] [] h11 (fun v h12 => ∃ y13, v = some (vi y13) ∧ mSK h12 ∧ (vp_in x2 24 ∧ mT g me_fm_runs (d + 2) 0 0 0 [some (vr 10 0), none, none, none] [] (setI h12 12 2 x2.toNatClampNeg (0 : Int32)) (fun v h14 => v = none ∧ mSK h14 ∧ mT g me_fm_riseOf (d + 2) 0 0 0 [some (vr 10 0), some (vi x1)] [] h14 (fun v h15 => ∃ y16, v = some (vi y16) ∧ mSK h15 ∧ Q (some (vi (y16 - y13))) h15)))))) ∧ ((hI h 12 1 x2.toNatClampNeg) = 0 → mT g me_fm_refuse (d + 2) 0 0 0 [some (vr 10 0), some (vi (-3 : Int32))] [] h (fun v h17 => ∃ y18, v = some (vi y18) ∧ mSK h17 ∧ Q (some (vi y18)) h17)))))))) ∧ (x1 = x2 → mT g me_fm_refuse (d + 2) 0 0 0 [some (vr 10 0), some (vi (-1 : Int32))] [] h (fun v h19 => ∃ y20, v = some (vi y20) ∧ mSK h19 ∧ Q (some (vi y20)) h19)))))))))))) : mT g me_fm_share (d + 3) 0 0 0 [some (vr 10 0), some (vi x1), some (vi x2), none] [] h Q := by
  refine tr_aload_n (pc := 0) 0 k_fm_share_0 rfl rfl ?_
  refine tr_iload_n (pc := 1) 1 k_fm_share_1 rfl rfl ?_
  refine tr_callV (pc := 2) (d' := d + 2) (mc' := 0) (ms' := 0) [vi x1] k_fm_share_2 ca_fm_isJet ml_fm_165 ii_fm_isJet ⟨by decide, rfl⟩ pa_fm_isJet (by omega) (by omega) (by omega) rfl (Nat.le_of_ble_eq_true rfl) (Nat.le_of_ble_eq_true rfl) (Qk := fun v h9 => mT g me_fm_share (d + 3) 0 0 5 [some (vr 10 0), some (vi x1), some (vi x2), none] (v.toList ++ []) h9 _) ?_ (fun _ _ z => z)
  show mT g me_fm_isJet (d + 2) 0 0 0 [some (vr 10 0), some (vi x1)] [] h _
  refine tr_iload_n (pc := 0) 1 k_fm_isJet_0 rfl rfl ?_
  refine tr_aload_n (pc := 1) 0 k_fm_isJet_1 rfl rfl ?_
  refine tr_getIx (pc := 2) k_fm_isJet_2 fl_fm_158 rfl rfl ?_
  refine tr_callS (pc := 5) (d' := d + 1) (mc' := 0) (ms' := 0) [vi x1, vi (hI h 10 0 4)] k_fm_isJet_5 ca_fm_isIn ml_fm_144 is_fm_isIn pa_fm_isIn (by omega) (by omega) (by omega) rfl (Nat.le_of_ble_eq_true rfl) (Nat.le_of_ble_eq_true rfl) (Qk := fun v h9 => mT g me_fm_isJet (d + 2) 0 0 8 [some (vr 10 0), some (vi x1)] (v.toList ++ []) h9 _) ?_ (fun _ _ z => z)
  show mT g me_fm_isIn (d + 1) 0 0 0 [some (vi x1), some (vi (hI h 10 0 4))] [] h _
  refine tr_iload_n (pc := 0) 0 k_fm_isIn_0 rfl rfl ?_
  refine tr_if_lt (pc := 1) 13 k_fm_isIn_1 (by decide) (fun q => ?_) (fun q => ?_)
  · replace hv := hv.1 q
    refine tr_iconst (pc := 13) (v := 0) k_fm_isIn_13 (by decide) ?_
    refine tr_ireturn (pc := 14) k_fm_isIn_14 rfl rfl ?_
    show mT g me_fm_isJet (d + 2) 0 0 8 [some (vr 10 0), some (vi x1)] [vi (0 : Int32)] h _
    refine tr_ireturn (pc := 8) k_fm_isJet_8 rfl rfl ?_
    show mT g me_fm_share (d + 3) 0 0 5 [some (vr 10 0), some (vi x1), some (vi x2), none] [vi (0 : Int32)] h _
    refine tr_if_eq (pc := 5) 21 k_fm_share_5 (by decide) (fun _ => ?_) (fun q => absurd q (by decide))
    refine tr_aload_n (pc := 21) 0 k_fm_share_21 rfl rfl ?_
    refine tr_iconst (pc := 22) (v := -1) k_fm_share_22 (by decide) ?_
    have hT := hv
    clear hv
    refine tr_callV (pc := 23) (d' := d + 2) (mc' := 0) (ms' := 0) [vi (-1 : Int32)] k_fm_share_23 ca_fm_refuse ml_fm_133 ii_fm_refuse ⟨by decide, rfl⟩ pa_fm_refuse (by omega) (by omega) (by omega) rfl (Nat.le_of_ble_eq_true rfl) (Nat.le_of_ble_eq_true rfl) hT (fun v h9 hv => ?_)
    clear hT
    obtain ⟨y2, rfl, hv⟩ := hv
    obtain ⟨h1, eh⟩ : ∃ z, z = h9 := ⟨_, rfl⟩
    subst eh
    obtain ⟨hskh1, hv⟩ := hv
    show mT g me_fm_share (d + 3) 0 0 26 [some (vr 10 0), some (vi x1), some (vi x2), none] [vi y2] h1 _
    refine tr_ireturn (pc := 26) k_fm_share_26 rfl rfl ?_
    exact hv
  · replace hv := hv.2 q
    refine tr_iload_n (pc := 4) 0 k_fm_isIn_4 rfl rfl ?_
    refine tr_iload_n (pc := 5) 1 k_fm_isIn_5 rfl rfl ?_
    refine tr_icmp_ge (pc := 6) 13 k_fm_isIn_6 (by decide) (fun q => ?_) (fun q => ?_)
    · replace hv := hv.1 q
      refine tr_iconst (pc := 13) (v := 0) k_fm_isIn_13 (by decide) ?_
      refine tr_ireturn (pc := 14) k_fm_isIn_14 rfl rfl ?_
      show mT g me_fm_isJet (d + 2) 0 0 8 [some (vr 10 0), some (vi x1)] [vi (0 : Int32)] h _
      refine tr_ireturn (pc := 8) k_fm_isJet_8 rfl rfl ?_
      show mT g me_fm_share (d + 3) 0 0 5 [some (vr 10 0), some (vi x1), some (vi x2), none] [vi (0 : Int32)] h _
      refine tr_if_eq (pc := 5) 21 k_fm_share_5 (by decide) (fun _ => ?_) (fun q => absurd q (by decide))
      refine tr_aload_n (pc := 21) 0 k_fm_share_21 rfl rfl ?_
      refine tr_iconst (pc := 22) (v := -1) k_fm_share_22 (by decide) ?_
      have hT := hv
      clear hv
      refine tr_callV (pc := 23) (d' := d + 2) (mc' := 0) (ms' := 0) [vi (-1 : Int32)] k_fm_share_23 ca_fm_refuse ml_fm_133 ii_fm_refuse ⟨by decide, rfl⟩ pa_fm_refuse (by omega) (by omega) (by omega) rfl (Nat.le_of_ble_eq_true rfl) (Nat.le_of_ble_eq_true rfl) hT (fun v h9 hv => ?_)
      clear hT
      obtain ⟨y4, rfl, hv⟩ := hv
      obtain ⟨h3, eh⟩ : ∃ z, z = h9 := ⟨_, rfl⟩
      subst eh
      obtain ⟨hskh3, hv⟩ := hv
      show mT g me_fm_share (d + 3) 0 0 26 [some (vr 10 0), some (vi x1), some (vi x2), none] [vi y4] h3 _
      refine tr_ireturn (pc := 26) k_fm_share_26 rfl rfl ?_
      exact hv
    · replace hv := hv.2 q
      refine tr_iconst (pc := 9) (v := 1) k_fm_isIn_9 (by decide) ?_
      refine tr_goto (pc := 10) 14 k_fm_isIn_10 (by decide) ?_
      refine tr_ireturn (pc := 14) k_fm_isIn_14 rfl rfl ?_
      show mT g me_fm_isJet (d + 2) 0 0 8 [some (vr 10 0), some (vi x1)] [vi (1 : Int32)] h _
      refine tr_ireturn (pc := 8) k_fm_isJet_8 rfl rfl ?_
      show mT g me_fm_share (d + 3) 0 0 5 [some (vr 10 0), some (vi x1), some (vi x2), none] [vi (1 : Int32)] h _
      refine tr_if_eq (pc := 5) 21 k_fm_share_5 (by decide) (fun q => absurd q (by decide)) (fun _ => ?_)
      refine tr_aload_n (pc := 8) 0 k_fm_share_8 rfl rfl ?_
      refine tr_iload_n (pc := 9) 2 k_fm_share_9 rfl rfl ?_
      refine tr_callV (pc := 10) (d' := d + 2) (mc' := 0) (ms' := 0) [vi x2] k_fm_share_10 ca_fm_isJet ml_fm_165 ii_fm_isJet ⟨by decide, rfl⟩ pa_fm_isJet (by omega) (by omega) (by omega) rfl (Nat.le_of_ble_eq_true rfl) (Nat.le_of_ble_eq_true rfl) (Qk := fun v h9 => mT g me_fm_share (d + 3) 0 0 13 [some (vr 10 0), some (vi x1), some (vi x2), none] (v.toList ++ []) h9 _) ?_ (fun _ _ z => z)
      show mT g me_fm_isJet (d + 2) 0 0 0 [some (vr 10 0), some (vi x2)] [] h _
      refine tr_iload_n (pc := 0) 1 k_fm_isJet_0 rfl rfl ?_
      refine tr_aload_n (pc := 1) 0 k_fm_isJet_1 rfl rfl ?_
      refine tr_getIx (pc := 2) k_fm_isJet_2 fl_fm_158 rfl rfl ?_
      refine tr_callS (pc := 5) (d' := d + 1) (mc' := 0) (ms' := 0) [vi x2, vi (hI h 10 0 4)] k_fm_isJet_5 ca_fm_isIn ml_fm_144 is_fm_isIn pa_fm_isIn (by omega) (by omega) (by omega) rfl (Nat.le_of_ble_eq_true rfl) (Nat.le_of_ble_eq_true rfl) (Qk := fun v h9 => mT g me_fm_isJet (d + 2) 0 0 8 [some (vr 10 0), some (vi x2)] (v.toList ++ []) h9 _) ?_ (fun _ _ z => z)
      show mT g me_fm_isIn (d + 1) 0 0 0 [some (vi x2), some (vi (hI h 10 0 4))] [] h _
      refine tr_iload_n (pc := 0) 0 k_fm_isIn_0 rfl rfl ?_
      refine tr_if_lt (pc := 1) 13 k_fm_isIn_1 (by decide) (fun q => ?_) (fun q => ?_)
      · replace hv := hv.1 q
        refine tr_iconst (pc := 13) (v := 0) k_fm_isIn_13 (by decide) ?_
        refine tr_ireturn (pc := 14) k_fm_isIn_14 rfl rfl ?_
        show mT g me_fm_isJet (d + 2) 0 0 8 [some (vr 10 0), some (vi x2)] [vi (0 : Int32)] h _
        refine tr_ireturn (pc := 8) k_fm_isJet_8 rfl rfl ?_
        show mT g me_fm_share (d + 3) 0 0 13 [some (vr 10 0), some (vi x1), some (vi x2), none] [vi (0 : Int32)] h _
        refine tr_if_eq (pc := 13) 21 k_fm_share_13 (by decide) (fun _ => ?_) (fun q => absurd q (by decide))
        refine tr_aload_n (pc := 21) 0 k_fm_share_21 rfl rfl ?_
        refine tr_iconst (pc := 22) (v := -1) k_fm_share_22 (by decide) ?_
        have hT := hv
        clear hv
        refine tr_callV (pc := 23) (d' := d + 2) (mc' := 0) (ms' := 0) [vi (-1 : Int32)] k_fm_share_23 ca_fm_refuse ml_fm_133 ii_fm_refuse ⟨by decide, rfl⟩ pa_fm_refuse (by omega) (by omega) (by omega) rfl (Nat.le_of_ble_eq_true rfl) (Nat.le_of_ble_eq_true rfl) hT (fun v h9 hv => ?_)
        clear hT
        obtain ⟨y6, rfl, hv⟩ := hv
        obtain ⟨h5, eh⟩ : ∃ z, z = h9 := ⟨_, rfl⟩
        subst eh
        obtain ⟨hskh5, hv⟩ := hv
        show mT g me_fm_share (d + 3) 0 0 26 [some (vr 10 0), some (vi x1), some (vi x2), none] [vi y6] h5 _
        refine tr_ireturn (pc := 26) k_fm_share_26 rfl rfl ?_
        exact hv
      · replace hv := hv.2 q
        refine tr_iload_n (pc := 4) 0 k_fm_isIn_4 rfl rfl ?_
        refine tr_iload_n (pc := 5) 1 k_fm_isIn_5 rfl rfl ?_
        refine tr_icmp_ge (pc := 6) 13 k_fm_isIn_6 (by decide) (fun q => ?_) (fun q => ?_)
        · replace hv := hv.1 q
          refine tr_iconst (pc := 13) (v := 0) k_fm_isIn_13 (by decide) ?_
          refine tr_ireturn (pc := 14) k_fm_isIn_14 rfl rfl ?_
          show mT g me_fm_isJet (d + 2) 0 0 8 [some (vr 10 0), some (vi x2)] [vi (0 : Int32)] h _
          refine tr_ireturn (pc := 8) k_fm_isJet_8 rfl rfl ?_
          show mT g me_fm_share (d + 3) 0 0 13 [some (vr 10 0), some (vi x1), some (vi x2), none] [vi (0 : Int32)] h _
          refine tr_if_eq (pc := 13) 21 k_fm_share_13 (by decide) (fun _ => ?_) (fun q => absurd q (by decide))
          refine tr_aload_n (pc := 21) 0 k_fm_share_21 rfl rfl ?_
          refine tr_iconst (pc := 22) (v := -1) k_fm_share_22 (by decide) ?_
          have hT := hv
          clear hv
          refine tr_callV (pc := 23) (d' := d + 2) (mc' := 0) (ms' := 0) [vi (-1 : Int32)] k_fm_share_23 ca_fm_refuse ml_fm_133 ii_fm_refuse ⟨by decide, rfl⟩ pa_fm_refuse (by omega) (by omega) (by omega) rfl (Nat.le_of_ble_eq_true rfl) (Nat.le_of_ble_eq_true rfl) hT (fun v h9 hv => ?_)
          clear hT
          obtain ⟨y8, rfl, hv⟩ := hv
          obtain ⟨h7, eh⟩ : ∃ z, z = h9 := ⟨_, rfl⟩
          subst eh
          obtain ⟨hskh7, hv⟩ := hv
          show mT g me_fm_share (d + 3) 0 0 26 [some (vr 10 0), some (vi x1), some (vi x2), none] [vi y8] h7 _
          refine tr_ireturn (pc := 26) k_fm_share_26 rfl rfl ?_
          exact hv
        · replace hv := hv.2 q
          refine tr_iconst (pc := 9) (v := 1) k_fm_isIn_9 (by decide) ?_
          refine tr_goto (pc := 10) 14 k_fm_isIn_10 (by decide) ?_
          refine tr_ireturn (pc := 14) k_fm_isIn_14 rfl rfl ?_
          show mT g me_fm_isJet (d + 2) 0 0 8 [some (vr 10 0), some (vi x2)] [vi (1 : Int32)] h _
          refine tr_ireturn (pc := 8) k_fm_isJet_8 rfl rfl ?_
          show mT g me_fm_share (d + 3) 0 0 13 [some (vr 10 0), some (vi x1), some (vi x2), none] [vi (1 : Int32)] h _
          refine tr_if_eq (pc := 13) 21 k_fm_share_13 (by decide) (fun q => absurd q (by decide)) (fun _ => ?_)
          refine tr_iload_n (pc := 16) 1 k_fm_share_16 rfl rfl ?_
          refine tr_iload_n (pc := 17) 2 k_fm_share_17 rfl rfl ?_
          refine tr_icmp_ne (pc := 18) 27 k_fm_share_18 (by decide) (fun q => ?_) (fun q => ?_)
          · replace hv := hv.1 q
            refine tr_aload_n (pc := 27) 0 k_fm_share_27 rfl rfl ?_
            refine tr_getP (pc := 28) k_fm_share_28 fl_fm_72 rfl (Eq.trans rfl (hsk.1 10 26 _ rfl)) ?_
            refine tr_iload_n (pc := 31) 1 k_fm_share_31 rfl rfl ?_
            refine tr_zaldx (pc := 32) k_fm_share_32 (mvin (hsk.2.1 12 1 _ rfl) hv.1) rfl ?_
            replace hv := hv.2
            refine tr_if_eq (pc := 33) 45 k_fm_share_33 (by decide) (fun q => ?_) (fun q => ?_)
            · replace hv := hv.1 q
              refine tr_aload_n (pc := 45) 0 k_fm_share_45 rfl rfl ?_
              refine tr_bipush (pc := 46) (v := -3) k_fm_share_46 (by decide) ?_
              have hT := hv
              clear hv
              refine tr_callV (pc := 48) (d' := d + 2) (mc' := 0) (ms' := 0) [vi (-3 : Int32)] k_fm_share_48 ca_fm_refuse ml_fm_133 ii_fm_refuse ⟨by decide, rfl⟩ pa_fm_refuse (by omega) (by omega) (by omega) rfl (Nat.le_of_ble_eq_true rfl) (Nat.le_of_ble_eq_true rfl) hT (fun v h9 hv => ?_)
              clear hT
              obtain ⟨y10, rfl, hv⟩ := hv
              obtain ⟨h9, eh⟩ : ∃ z, z = h9 := ⟨_, rfl⟩
              subst eh
              obtain ⟨hskh9, hv⟩ := hv
              show mT g me_fm_share (d + 3) 0 0 51 [some (vr 10 0), some (vi x1), some (vi x2), none] [vi y10] h9 _
              refine tr_ireturn (pc := 51) k_fm_share_51 rfl rfl ?_
              exact hv
            · replace hv := hv.2 q
              refine tr_aload_n (pc := 36) 0 k_fm_share_36 rfl rfl ?_
              refine tr_getP (pc := 37) k_fm_share_37 fl_fm_72 rfl (Eq.trans rfl (hsk.1 10 26 _ rfl)) ?_
              refine tr_iload_n (pc := 40) 2 k_fm_share_40 rfl rfl ?_
              refine tr_zaldx (pc := 41) k_fm_share_41 (mvin (hsk.2.1 12 1 _ rfl) hv.1) rfl ?_
              replace hv := hv.2
              refine tr_if_ne (pc := 42) 52 k_fm_share_42 (by decide) (fun q => ?_) (fun q => ?_)
              · replace hv := hv.1 q
                refine tr_aload_n (pc := 52) 0 k_fm_share_52 rfl rfl ?_
                have hT := hv
                clear hv
                refine tr_callV (pc := 53) (d' := d + 2) (mc' := 0) (ms' := 0) [] k_fm_share_53 ca_fm_sees ml_fm_179 ii_fm_sees ⟨by decide, rfl⟩ pa_fm_sees (by omega) (by omega) (by omega) rfl (Nat.le_of_ble_eq_true rfl) (Nat.le_of_ble_eq_true rfl) hT (fun v h9 hv => ?_)
                clear hT
                obtain ⟨rfl, hv⟩ := hv
                obtain ⟨h11, eh⟩ : ∃ z, z = h9 := ⟨_, rfl⟩
                subst eh
                obtain ⟨hskh11, hv⟩ := hv
                show mT g me_fm_share (d + 3) 0 0 56 [some (vr 10 0), some (vi x1), some (vi x2), none] [] h11 _
                refine tr_aload_n (pc := 56) 0 k_fm_share_56 rfl rfl ?_
                refine tr_iload_n (pc := 57) 1 k_fm_share_57 rfl rfl ?_
                have hT := hv
                clear hv
                refine tr_callV (pc := 58) (d' := d + 2) (mc' := 0) (ms' := 0) [vi x1] k_fm_share_58 ca_fm_riseOf ml_fm_185 ii_fm_riseOf ⟨by decide, rfl⟩ pa_fm_riseOf (by omega) (by omega) (by omega) rfl (Nat.le_of_ble_eq_true rfl) (Nat.le_of_ble_eq_true rfl) hT (fun v h9 hv => ?_)
                clear hT
                obtain ⟨y13, rfl, hv⟩ := hv
                obtain ⟨h12, eh⟩ : ∃ z, z = h9 := ⟨_, rfl⟩
                subst eh
                obtain ⟨hskh12, hv⟩ := hv
                show mT g me_fm_share (d + 3) 0 0 61 [some (vr 10 0), some (vi x1), some (vi x2), none] [vi y13] h12 _
                refine tr_istore_n (pc := 61) 3 k_fm_share_61 rfl (by decide) rfl ?_
                show mT g me_fm_share (d + 3) 0 0 62 [some (vr 10 0), some (vi x1), some (vi x2), some (vi y13)] [] h12 _
                refine tr_aload_n (pc := 62) 0 k_fm_share_62 rfl rfl ?_
                refine tr_getP (pc := 63) k_fm_share_63 fl_fm_108 rfl (Eq.trans rfl (hskh12.1 10 38 _ rfl)) ?_
                refine tr_iload_n (pc := 66) 2 k_fm_share_66 rfl rfl ?_
                refine tr_iconst (pc := 67) (v := 0) k_fm_share_67 (by decide) ?_
                refine tr_zast (pc := 68) k_fm_share_68 (mvin (hskh12.2.1 12 2 _ rfl) hv.1) rfl ?_
                replace hv := hv.2
                refine tr_aload_n (pc := 69) 0 k_fm_share_69 rfl rfl ?_
                have hT := hv
                clear hv
                refine tr_callV (pc := 70) (d' := d + 2) (mc' := 0) (ms' := 0) [] k_fm_share_70 ca_fm_runs ml_fm_176 ii_fm_runs ⟨by decide, rfl⟩ pa_fm_runs (by omega) (by omega) (by omega) rfl (Nat.le_of_ble_eq_true rfl) (Nat.le_of_ble_eq_true rfl) hT (fun v h9 hv => ?_)
                clear hT
                obtain ⟨rfl, hv⟩ := hv
                obtain ⟨h14, eh⟩ : ∃ z, z = h9 := ⟨_, rfl⟩
                subst eh
                obtain ⟨hskh14, hv⟩ := hv
                show mT g me_fm_share (d + 3) 0 0 73 [some (vr 10 0), some (vi x1), some (vi x2), some (vi y13)] [] h14 _
                refine tr_aload_n (pc := 73) 0 k_fm_share_73 rfl rfl ?_
                refine tr_iload_n (pc := 74) 1 k_fm_share_74 rfl rfl ?_
                have hT := hv
                clear hv
                refine tr_callV (pc := 75) (d' := d + 2) (mc' := 0) (ms' := 0) [vi x1] k_fm_share_75 ca_fm_riseOf ml_fm_185 ii_fm_riseOf ⟨by decide, rfl⟩ pa_fm_riseOf (by omega) (by omega) (by omega) rfl (Nat.le_of_ble_eq_true rfl) (Nat.le_of_ble_eq_true rfl) hT (fun v h9 hv => ?_)
                clear hT
                obtain ⟨y16, rfl, hv⟩ := hv
                obtain ⟨h15, eh⟩ : ∃ z, z = h9 := ⟨_, rfl⟩
                subst eh
                obtain ⟨hskh15, hv⟩ := hv
                show mT g me_fm_share (d + 3) 0 0 78 [some (vr 10 0), some (vi x1), some (vi x2), some (vi y13)] [vi y16] h15 _
                refine tr_iload_n (pc := 78) 3 k_fm_share_78 rfl rfl ?_
                refine tr_isub (pc := 79) k_fm_share_79 ?_
                refine tr_ireturn (pc := 80) k_fm_share_80 rfl rfl ?_
                exact hv
              · replace hv := hv.2 q
                refine tr_aload_n (pc := 45) 0 k_fm_share_45 rfl rfl ?_
                refine tr_bipush (pc := 46) (v := -3) k_fm_share_46 (by decide) ?_
                have hT := hv
                clear hv
                refine tr_callV (pc := 48) (d' := d + 2) (mc' := 0) (ms' := 0) [vi (-3 : Int32)] k_fm_share_48 ca_fm_refuse ml_fm_133 ii_fm_refuse ⟨by decide, rfl⟩ pa_fm_refuse (by omega) (by omega) (by omega) rfl (Nat.le_of_ble_eq_true rfl) (Nat.le_of_ble_eq_true rfl) hT (fun v h9 hv => ?_)
                clear hT
                obtain ⟨y18, rfl, hv⟩ := hv
                obtain ⟨h17, eh⟩ : ∃ z, z = h9 := ⟨_, rfl⟩
                subst eh
                obtain ⟨hskh17, hv⟩ := hv
                show mT g me_fm_share (d + 3) 0 0 51 [some (vr 10 0), some (vi x1), some (vi x2), none] [vi y18] h17 _
                refine tr_ireturn (pc := 51) k_fm_share_51 rfl rfl ?_
                exact hv
          · replace hv := hv.2 q
            refine tr_aload_n (pc := 21) 0 k_fm_share_21 rfl rfl ?_
            refine tr_iconst (pc := 22) (v := -1) k_fm_share_22 (by decide) ?_
            have hT := hv
            clear hv
            refine tr_callV (pc := 23) (d' := d + 2) (mc' := 0) (ms' := 0) [vi (-1 : Int32)] k_fm_share_23 ca_fm_refuse ml_fm_133 ii_fm_refuse ⟨by decide, rfl⟩ pa_fm_refuse (by omega) (by omega) (by omega) rfl (Nat.le_of_ble_eq_true rfl) (Nat.le_of_ble_eq_true rfl) hT (fun v h9 hv => ?_)
            clear hT
            obtain ⟨y20, rfl, hv⟩ := hv
            obtain ⟨h19, eh⟩ : ∃ z, z = h9 := ⟨_, rfl⟩
            subst eh
            obtain ⟨hskh19, hv⟩ := hv
            show mT g me_fm_share (d + 3) 0 0 26 [some (vr 10 0), some (vi x1), some (vi x2), none] [vi y20] h19 _
            refine tr_ireturn (pc := 26) k_fm_share_26 rfl rfl ?_
            exact hv
theorem v_fm_minutes_0 {g : mG} {d : Nat} (x1 : Int32) {h : mH} {Q : Option mV → mH → Prop} (hsk : mSK h) (hv : (((1 : Int32) ≤ x1 → ((x1 ≤ ((1440 : Int32) - (hI h 10 0 1)) → mT g me_fm_sees (d + 2) 0 0 0 [some (vr 10 0)] [] h (fun v h1 => v = none ∧ mSK h1 ∧ mT g me_fm_minutes (d + 3) 0 0 30 [some (vr 10 0), some (vi x1), some (vi (0 : Int32)), some (vi (0 : Int32)), none] [] h1 Q)) ∧ (¬ x1 ≤ ((1440 : Int32) - (hI h 10 0 1)) → mT g me_fm_refuse (d + 2) 0 0 0 [some (vr 10 0), some (vi (-6 : Int32))] [] h (fun v h2 => ∃ y3, v = some (vi y3) ∧ mSK h2 ∧ Q (some (vi y3)) h2)))) ∧ (¬ (1 : Int32) ≤ x1 → mT g me_fm_refuse (d + 2) 0 0 0 [some (vr 10 0), some (vi (-4 : Int32))] [] h (fun v h4 => ∃ y5, v = some (vi y5) ∧ mSK h4 ∧ Q (some (vi y5)) h4)))) : mT g me_fm_minutes (d + 3) 0 0 0 [some (vr 10 0), some (vi x1), none, none, none] [] h Q := by
  refine tr_iload_n (pc := 0) 1 k_fm_minutes_0 rfl rfl ?_
  refine tr_iconst (pc := 1) (v := 1) k_fm_minutes_1 (by decide) ?_
  refine tr_sipush (pc := 2) (v := 1440) k_fm_minutes_2 (by decide) ?_
  refine tr_aload_n (pc := 5) 0 k_fm_minutes_5 rfl rfl ?_
  refine tr_getIx (pc := 6) k_fm_minutes_6 fl_fm_206 rfl rfl ?_
  refine tr_isub (pc := 9) k_fm_minutes_9 ?_
  refine tr_callS (pc := 10) (d' := d + 2) (mc' := 0) (ms' := 0) [vi x1, vi (1 : Int32), vi ((1440 : Int32) - (hI h 10 0 1))] k_fm_minutes_10 ca_fm_wrong ml_fm_148 is_fm_wrong pa_fm_wrong (by omega) (by omega) (by omega) rfl (Nat.le_of_ble_eq_true rfl) (Nat.le_of_ble_eq_true rfl) (Qk := fun v h9 => mT g me_fm_minutes (d + 3) 0 0 13 [some (vr 10 0), some (vi x1), none, none, none] (v.toList ++ []) h9 _) ?_ (fun _ _ z => z)
  show mT g me_fm_wrong (d + 2) 0 0 0 [some (vi x1), some (vi (1 : Int32)), some (vi ((1440 : Int32) - (hI h 10 0 1)))] [] h _
  refine tr_iload_n (pc := 0) 0 k_fm_wrong_0 rfl rfl ?_
  refine tr_iload_n (pc := 1) 1 k_fm_wrong_1 rfl rfl ?_
  refine tr_icmp_ge (pc := 2) 10 k_fm_wrong_2 (by decide) (fun q => ?_) (fun q => ?_)
  · replace hv := hv.1 q
    refine tr_iload_n (pc := 10) 0 k_fm_wrong_10 rfl rfl ?_
    refine tr_iload_n (pc := 11) 2 k_fm_wrong_11 rfl rfl ?_
    refine tr_icmp_le (pc := 12) 20 k_fm_wrong_12 (by decide) (fun q => ?_) (fun q => ?_)
    · replace hv := hv.1 q
      refine tr_iconst (pc := 20) (v := 0) k_fm_wrong_20 (by decide) ?_
      refine tr_ireturn (pc := 21) k_fm_wrong_21 rfl rfl ?_
      show mT g me_fm_minutes (d + 3) 0 0 13 [some (vr 10 0), some (vi x1), none, none, none] [vi (0 : Int32)] h _
      refine tr_istore_n (pc := 13) 2 k_fm_minutes_13 rfl (by decide) rfl ?_
      show mT g me_fm_minutes (d + 3) 0 0 14 [some (vr 10 0), some (vi x1), some (vi (0 : Int32)), none, none] [] h _
      refine tr_iload_n (pc := 14) 2 k_fm_minutes_14 rfl rfl ?_
      refine tr_if_eq (pc := 15) 24 k_fm_minutes_15 (by decide) (fun _ => ?_) (fun q => absurd q (by decide))
      refine tr_aload_n (pc := 24) 0 k_fm_minutes_24 rfl rfl ?_
      have hT := hv
      clear hv
      refine tr_callV (pc := 25) (d' := d + 2) (mc' := 0) (ms' := 0) [] k_fm_minutes_25 ca_fm_sees ml_fm_179 ii_fm_sees ⟨by decide, rfl⟩ pa_fm_sees (by omega) (by omega) (by omega) rfl (Nat.le_of_ble_eq_true rfl) (Nat.le_of_ble_eq_true rfl) hT (fun v h9 hv => ?_)
      clear hT
      obtain ⟨rfl, hv⟩ := hv
      obtain ⟨h1, eh⟩ : ∃ z, z = h9 := ⟨_, rfl⟩
      subst eh
      obtain ⟨hskh1, hv⟩ := hv
      show mT g me_fm_minutes (d + 3) 0 0 28 [some (vr 10 0), some (vi x1), some (vi (0 : Int32)), none, none] [] h1 _
      refine tr_iconst (pc := 28) (v := 0) k_fm_minutes_28 (by decide) ?_
      refine tr_istore_n (pc := 29) 3 k_fm_minutes_29 rfl (by decide) rfl ?_
      show mT g me_fm_minutes (d + 3) 0 0 30 [some (vr 10 0), some (vi x1), some (vi (0 : Int32)), some (vi (0 : Int32)), none] [] h1 _
      exact hv
    · replace hv := hv.2 q
      refine tr_bipush (pc := 15) (v := -6) k_fm_wrong_15 (by decide) ?_
      refine tr_goto (pc := 17) 21 k_fm_wrong_17 (by decide) ?_
      refine tr_ireturn (pc := 21) k_fm_wrong_21 rfl rfl ?_
      show mT g me_fm_minutes (d + 3) 0 0 13 [some (vr 10 0), some (vi x1), none, none, none] [vi (-6 : Int32)] h _
      refine tr_istore_n (pc := 13) 2 k_fm_minutes_13 rfl (by decide) rfl ?_
      show mT g me_fm_minutes (d + 3) 0 0 14 [some (vr 10 0), some (vi x1), some (vi (-6 : Int32)), none, none] [] h _
      refine tr_iload_n (pc := 14) 2 k_fm_minutes_14 rfl rfl ?_
      refine tr_if_eq (pc := 15) 24 k_fm_minutes_15 (by decide) (fun q => absurd q (by decide)) (fun _ => ?_)
      refine tr_aload_n (pc := 18) 0 k_fm_minutes_18 rfl rfl ?_
      refine tr_iload_n (pc := 19) 2 k_fm_minutes_19 rfl rfl ?_
      have hT := hv
      clear hv
      refine tr_callV (pc := 20) (d' := d + 2) (mc' := 0) (ms' := 0) [vi (-6 : Int32)] k_fm_minutes_20 ca_fm_refuse ml_fm_133 ii_fm_refuse ⟨by decide, rfl⟩ pa_fm_refuse (by omega) (by omega) (by omega) rfl (Nat.le_of_ble_eq_true rfl) (Nat.le_of_ble_eq_true rfl) hT (fun v h9 hv => ?_)
      clear hT
      obtain ⟨y3, rfl, hv⟩ := hv
      obtain ⟨h2, eh⟩ : ∃ z, z = h9 := ⟨_, rfl⟩
      subst eh
      obtain ⟨hskh2, hv⟩ := hv
      show mT g me_fm_minutes (d + 3) 0 0 23 [some (vr 10 0), some (vi x1), some (vi (-6 : Int32)), none, none] [vi y3] h2 _
      refine tr_ireturn (pc := 23) k_fm_minutes_23 rfl rfl ?_
      exact hv
  · replace hv := hv.2 q
    refine tr_bipush (pc := 5) (v := -4) k_fm_wrong_5 (by decide) ?_
    refine tr_goto (pc := 7) 21 k_fm_wrong_7 (by decide) ?_
    refine tr_ireturn (pc := 21) k_fm_wrong_21 rfl rfl ?_
    show mT g me_fm_minutes (d + 3) 0 0 13 [some (vr 10 0), some (vi x1), none, none, none] [vi (-4 : Int32)] h _
    refine tr_istore_n (pc := 13) 2 k_fm_minutes_13 rfl (by decide) rfl ?_
    show mT g me_fm_minutes (d + 3) 0 0 14 [some (vr 10 0), some (vi x1), some (vi (-4 : Int32)), none, none] [] h _
    refine tr_iload_n (pc := 14) 2 k_fm_minutes_14 rfl rfl ?_
    refine tr_if_eq (pc := 15) 24 k_fm_minutes_15 (by decide) (fun q => absurd q (by decide)) (fun _ => ?_)
    refine tr_aload_n (pc := 18) 0 k_fm_minutes_18 rfl rfl ?_
    refine tr_iload_n (pc := 19) 2 k_fm_minutes_19 rfl rfl ?_
    have hT := hv
    clear hv
    refine tr_callV (pc := 20) (d' := d + 2) (mc' := 0) (ms' := 0) [vi (-4 : Int32)] k_fm_minutes_20 ca_fm_refuse ml_fm_133 ii_fm_refuse ⟨by decide, rfl⟩ pa_fm_refuse (by omega) (by omega) (by omega) rfl (Nat.le_of_ble_eq_true rfl) (Nat.le_of_ble_eq_true rfl) hT (fun v h9 hv => ?_)
    clear hT
    obtain ⟨y5, rfl, hv⟩ := hv
    obtain ⟨h4, eh⟩ : ∃ z, z = h9 := ⟨_, rfl⟩
    subst eh
    obtain ⟨hskh4, hv⟩ := hv
    show mT g me_fm_minutes (d + 3) 0 0 23 [some (vr 10 0), some (vi x1), some (vi (-4 : Int32)), none, none] [vi y5] h4 _
    refine tr_ireturn (pc := 23) k_fm_minutes_23 rfl rfl ?_
    exact hv
theorem v_fm_minutes_30 {g : mG} {d : Nat} (x1 : Int32) (x2 : Int32) (x3 : Int32) (o4 : Option mV) {h : mH} {Q : Option mV → mH → Prop} (hsk : mSK h) (hv : ((x1 ≤ x3 → mT g me_fm_minutes (d + 3) 0 0 105 [some (vr 10 0), some (vi x1), some (vi x2), some (vi (0 : Int32)), o4] [] h Q) ∧ (¬ x1 ≤ x3 → mT g me_fm_minutes (d + 3) 0 0 38 [some (vr 10 0), some (vi x1), some (vi x2), some (vi x3), some (vi (0 : Int32))] [] h Q))) : mT g me_fm_minutes (d + 3) 0 0 30 [some (vr 10 0), some (vi x1), some (vi x2), some (vi x3), o4] [] h Q := by
  refine tr_iload_n (pc := 30) 3 k_fm_minutes_30 rfl rfl ?_
  refine tr_iload_n (pc := 31) 1 k_fm_minutes_31 rfl rfl ?_
  refine tr_icmp_ge (pc := 32) 103 k_fm_minutes_32 (by decide) (fun q => ?_) (fun q => ?_)
  · replace hv := hv.1 q
    refine tr_iconst (pc := 103) (v := 0) k_fm_minutes_103 (by decide) ?_
    refine tr_istore_n (pc := 104) 3 k_fm_minutes_104 rfl (by decide) rfl ?_
    show mT g me_fm_minutes (d + 3) 0 0 105 [some (vr 10 0), some (vi x1), some (vi x2), some (vi (0 : Int32)), o4] [] h _
    exact hv
  · replace hv := hv.2 q
    refine tr_iconst (pc := 35) (v := 0) k_fm_minutes_35 (by decide) ?_
    refine tr_istore (pc := 36) k_fm_minutes_36 (by decide) rfl ?_
    show mT g me_fm_minutes (d + 3) 0 0 38 [some (vr 10 0), some (vi x1), some (vi x2), some (vi x3), some (vi (0 : Int32))] [] h _
    exact hv
theorem v_fm_minutes_38 {g : mG} {d : Nat} (x1 : Int32) (x2 : Int32) (x3 : Int32) (x4 : Int32) {h : mH} {Q : Option mV → mH → Prop} (hsk : mSK h) (hv : (((hI h 10 0 2) ≤ x4 → mT g me_fm_minutes (d + 3) 0 0 30 [some (vr 10 0), some (vi x1), some (vi x2), some (vi (x3 + 1)), some (vi x4)] [] (setI h 10 0 1 ((hI h 10 0 1) + (1 : Int32))) Q) ∧ (¬ (hI h 10 0 2) ≤ x4 → mT g me_fm_passes (d + 2) 0 0 0 [some (vr 10 0), some (vi x4), none, none] [] h (fun v h1 => v = none ∧ mSK h1 ∧ (vp_in x4 4 ∧ (vp_in x4 4 ∧ (vp_in x4 4 ∧ (vp_in x4 4 ∧ mT g me_fm_minutes (d + 3) 0 0 38 [some (vr 10 0), some (vi x1), some (vi x2), some (vi x3), some (vi (x4 + 1))] [] (setI (setI h1 11 12 x4.toNatClampNeg ((hI h1 11 12 x4.toNatClampNeg) + (hI h1 10 0 40))) 11 13 x4.toNatClampNeg ((hI h1 11 13 x4.toNatClampNeg) + (hI h1 10 0 42))) Q)))))))) : mT g me_fm_minutes (d + 3) 0 0 38 [some (vr 10 0), some (vi x1), some (vi x2), some (vi x3), some (vi x4)] [] h Q := by
  refine tr_iload (pc := 38) k_fm_minutes_38 rfl ?_
  refine tr_aload_n (pc := 40) 0 k_fm_minutes_40 rfl rfl ?_
  refine tr_getIx (pc := 41) k_fm_minutes_41 fl_fm_141 rfl rfl ?_
  refine tr_icmp_ge (pc := 44) 87 k_fm_minutes_44 (by decide) (fun q => ?_) (fun q => ?_)
  · replace hv := hv.1 q
    refine tr_aload_n (pc := 87) 0 k_fm_minutes_87 rfl rfl ?_
    refine tr_dup (pc := 88) k_fm_minutes_88 rfl ?_
    refine tr_getIx (pc := 89) k_fm_minutes_89 fl_fm_206 rfl rfl ?_
    refine tr_iconst (pc := 92) (v := 1) k_fm_minutes_92 (by decide) ?_
    refine tr_iadd (pc := 93) k_fm_minutes_93 ?_
    refine tr_putI (pc := 94) k_fm_minutes_94 fl_fm_206 (Or.inl rfl) rfl ⟨rfl, rfl⟩ ?_
    refine tr_iinc (pc := 97) (v := (x3 + 1)) k_fm_minutes_97 rfl rfl (by decide) rfl ?_
    show mT g me_fm_minutes (d + 3) 0 0 100 [some (vr 10 0), some (vi x1), some (vi x2), some (vi (x3 + 1)), some (vi x4)] [] (setI h 10 0 1 ((hI h 10 0 1) + (1 : Int32))) _
    refine tr_goto (pc := 100) 30 k_fm_minutes_100 (by decide) ?_
    exact hv
  · replace hv := hv.2 q
    refine tr_aload_n (pc := 47) 0 k_fm_minutes_47 rfl rfl ?_
    refine tr_iload (pc := 48) k_fm_minutes_48 rfl ?_
    have hT := hv
    clear hv
    refine tr_callV (pc := 50) (d' := d + 2) (mc' := 0) (ms' := 0) [vi x4] k_fm_minutes_50 ca_fm_passes ml_fm_209 ii_fm_passes ⟨by decide, rfl⟩ pa_fm_passes (by omega) (by omega) (by omega) rfl (Nat.le_of_ble_eq_true rfl) (Nat.le_of_ble_eq_true rfl) hT (fun v h9 hv => ?_)
    clear hT
    obtain ⟨rfl, hv⟩ := hv
    obtain ⟨h1, eh⟩ : ∃ z, z = h9 := ⟨_, rfl⟩
    subst eh
    obtain ⟨hskh1, hv⟩ := hv
    show mT g me_fm_minutes (d + 3) 0 0 53 [some (vr 10 0), some (vi x1), some (vi x2), some (vi x3), some (vi x4)] [] h1 _
    refine tr_aload_n (pc := 53) 0 k_fm_minutes_53 rfl rfl ?_
    refine tr_getP (pc := 54) k_fm_minutes_54 fl_fm_32 rfl (Eq.trans rfl (hskh1.1 10 13 _ rfl)) ?_
    refine tr_iload (pc := 57) k_fm_minutes_57 rfl ?_
    refine tr_dup2 (pc := 59) k_fm_minutes_59 rfl rfl ?_
    refine tr_ialdx (pc := 60) k_fm_minutes_60 (mvin (hskh1.2.1 11 12 _ rfl) hv.1) rfl ?_
    replace hv := hv.2
    refine tr_aload_n (pc := 61) 0 k_fm_minutes_61 rfl rfl ?_
    refine tr_getIx (pc := 62) k_fm_minutes_62 fl_fm_194 rfl rfl ?_
    refine tr_iadd (pc := 65) k_fm_minutes_65 ?_
    refine tr_iast (pc := 66) k_fm_minutes_66 (mvin (hskh1.2.1 11 12 _ rfl) hv.1) ?_
    replace hv := hv.2
    refine tr_aload_n (pc := 67) 0 k_fm_minutes_67 rfl rfl ?_
    refine tr_getP (pc := 68) k_fm_minutes_68 fl_fm_35 rfl (Eq.trans (hP_setI) (hskh1.1 10 14 _ rfl)) ?_
    refine tr_iload (pc := 71) k_fm_minutes_71 rfl ?_
    refine tr_dup2 (pc := 73) k_fm_minutes_73 rfl rfl ?_
    refine tr_ialdx (pc := 74) k_fm_minutes_74 (mvin (hskh1.2.1 11 13 _ rfl) hv.1) (hI_nn (by decide)) ?_
    replace hv := hv.2
    refine tr_aload_n (pc := 75) 0 k_fm_minutes_75 rfl rfl ?_
    refine tr_getIx (pc := 76) k_fm_minutes_76 fl_fm_203 rfl (hI_nk (by decide)) ?_
    refine tr_iadd (pc := 79) k_fm_minutes_79 ?_
    refine tr_iast (pc := 80) k_fm_minutes_80 (mvin (hskh1.2.1 11 13 _ rfl) hv.1) ?_
    replace hv := hv.2
    refine tr_iinc (pc := 81) (v := (x4 + 1)) k_fm_minutes_81 rfl rfl (by decide) rfl ?_
    show mT g me_fm_minutes (d + 3) 0 0 84 [some (vr 10 0), some (vi x1), some (vi x2), some (vi x3), some (vi (x4 + 1))] [] (setI (setI h1 11 12 x4.toNatClampNeg ((hI h1 11 12 x4.toNatClampNeg) + (hI h1 10 0 40))) 11 13 x4.toNatClampNeg ((hI h1 11 13 x4.toNatClampNeg) + (hI h1 10 0 42))) _
    refine tr_goto (pc := 84) 38 k_fm_minutes_84 (by decide) ?_
    exact hv
theorem v_fm_minutes_105 {g : mG} {d : Nat} (x1 : Int32) (x2 : Int32) (x3 : Int32) (o4 : Option mV) {h : mH} {Q : Option mV → mH → Prop} (hsk : mSK h) (hv : (((hI h 10 0 2) ≤ x3 → Q (some (vi (hI h 10 0 1))) (setI h 10 0 55 (0 : Int32))) ∧ (¬ (hI h 10 0 2) ≤ x3 → (vp_in x3 4 ∧ (vp_in x3 4 ∧ mT g me_fm_minutes (d + 3) 0 0 105 [some (vr 10 0), some (vi x1), some (vi x2), some (vi (x3 + 1)), o4] [] (setI h 11 11 x3.toNatClampNeg (hI h 11 33 x3.toNatClampNeg)) Q))))) : mT g me_fm_minutes (d + 3) 0 0 105 [some (vr 10 0), some (vi x1), some (vi x2), some (vi x3), o4] [] h Q := by
  refine tr_iload_n (pc := 105) 3 k_fm_minutes_105 rfl rfl ?_
  refine tr_aload_n (pc := 106) 0 k_fm_minutes_106 rfl rfl ?_
  refine tr_getIx (pc := 107) k_fm_minutes_107 fl_fm_141 rfl rfl ?_
  refine tr_icmp_ge (pc := 110) 131 k_fm_minutes_110 (by decide) (fun q => ?_) (fun q => ?_)
  · replace hv := hv.1 q
    refine tr_aload_n (pc := 131) 0 k_fm_minutes_131 rfl rfl ?_
    refine tr_callV (pc := 132) (d' := d + 2) (mc' := 0) (ms' := 0) [] k_fm_minutes_132 ca_fm_changes ml_fm_152 ii_fm_changes ⟨by decide, rfl⟩ pa_fm_changes (by omega) (by omega) (by omega) rfl (Nat.le_of_ble_eq_true rfl) (Nat.le_of_ble_eq_true rfl) (Qk := fun v h9 => mT g me_fm_minutes (d + 3) 0 0 135 [some (vr 10 0), some (vi x1), some (vi x2), some (vi x3), o4] (v.toList ++ []) h9 _) ?_ (fun _ _ z => z)
    show mT g me_fm_changes (d + 2) 0 0 0 [some (vr 10 0)] [] h _
    refine tr_aload_n (pc := 0) 0 k_fm_changes_0 rfl rfl ?_
    refine tr_iconst (pc := 1) (v := 0) k_fm_changes_1 (by decide) ?_
    refine tr_putI (pc := 2) k_fm_changes_2 fl_fm_137 (Or.inl rfl) rfl ⟨rfl, rfl⟩ ?_
    refine tr_return (pc := 5) k_fm_changes_5 rfl ?_
    show mT g me_fm_minutes (d + 3) 0 0 135 [some (vr 10 0), some (vi x1), some (vi x2), some (vi x3), o4] [] (setI h 10 0 55 (0 : Int32)) _
    refine tr_aload_n (pc := 135) 0 k_fm_minutes_135 rfl rfl ?_
    refine tr_getIx (pc := 136) k_fm_minutes_136 fl_fm_206 rfl (hI_nf (by decide)) ?_
    refine tr_ireturn (pc := 139) k_fm_minutes_139 rfl rfl ?_
    exact hv
  · replace hv := hv.2 q
    refine tr_aload_n (pc := 113) 0 k_fm_minutes_113 rfl rfl ?_
    refine tr_getP (pc := 114) k_fm_minutes_114 fl_fm_29 rfl (Eq.trans rfl (hsk.1 10 12 _ rfl)) ?_
    refine tr_iload_n (pc := 117) 3 k_fm_minutes_117 rfl rfl ?_
    refine tr_aload_n (pc := 118) 0 k_fm_minutes_118 rfl rfl ?_
    refine tr_getP (pc := 119) k_fm_minutes_119 fl_fm_102 rfl (Eq.trans rfl (hsk.1 10 36 _ rfl)) ?_
    refine tr_iload_n (pc := 122) 3 k_fm_minutes_122 rfl rfl ?_
    refine tr_ialdx (pc := 123) k_fm_minutes_123 (mvin (hsk.2.1 11 33 _ rfl) hv.1) rfl ?_
    replace hv := hv.2
    refine tr_iast (pc := 124) k_fm_minutes_124 (mvin (hsk.2.1 11 11 _ rfl) hv.1) ?_
    replace hv := hv.2
    refine tr_iinc (pc := 125) (v := (x3 + 1)) k_fm_minutes_125 rfl rfl (by decide) rfl ?_
    show mT g me_fm_minutes (d + 3) 0 0 128 [some (vr 10 0), some (vi x1), some (vi x2), some (vi (x3 + 1)), o4] [] (setI h 11 11 x3.toNatClampNeg (hI h 11 33 x3.toNatClampNeg)) _
    refine tr_goto (pc := 128) 105 k_fm_minutes_128 (by decide) ?_
    exact hv
theorem v_fm_passes_0 {g : mG} {d : Nat} (x1 : Int32) {h : mH} {Q : Option mV → mH → Prop} (hsk : mSK h) (hv : (vp_in x1 4 ∧ (vp_in x1 4 ∧ (vp_in x1 4 ∧ (vp_in x1 4 ∧ (vp_in x1 4 ∧ (vp_in x1 4 ∧ (vp_in x1 4 ∧ Q none (setI (setI (setI (setI h 10 0 40 (if (0 : Int32) < (((hI h 11 33 x1.toNatClampNeg) + (hI h 11 10 x1.toNatClampNeg)) - ((hI h 11 8 x1.toNatClampNeg) * (hI h 11 9 x1.toNatClampNeg))) then (((hI h 11 33 x1.toNatClampNeg) + (hI h 11 10 x1.toNatClampNeg)) - ((hI h 11 8 x1.toNatClampNeg) * (hI h 11 9 x1.toNatClampNeg))) else (0 : Int32))) 10 0 41 (if (hI h 11 34 x1.toNatClampNeg) < (if ((hI h 11 8 x1.toNatClampNeg) * (hI h 11 9 x1.toNatClampNeg)) < ((hI h 11 33 x1.toNatClampNeg) + (hI h 11 10 x1.toNatClampNeg)) then ((hI h 11 8 x1.toNatClampNeg) * (hI h 11 9 x1.toNatClampNeg)) else ((hI h 11 33 x1.toNatClampNeg) + (hI h 11 10 x1.toNatClampNeg))) then (hI h 11 34 x1.toNatClampNeg) else (if ((hI h 11 8 x1.toNatClampNeg) * (hI h 11 9 x1.toNatClampNeg)) < ((hI h 11 33 x1.toNatClampNeg) + (hI h 11 10 x1.toNatClampNeg)) then ((hI h 11 8 x1.toNatClampNeg) * (hI h 11 9 x1.toNatClampNeg)) else ((hI h 11 33 x1.toNatClampNeg) + (hI h 11 10 x1.toNatClampNeg))))) 10 0 42 ((hI h 11 34 x1.toNatClampNeg) - (if (hI h 11 34 x1.toNatClampNeg) < (if ((hI h 11 8 x1.toNatClampNeg) * (hI h 11 9 x1.toNatClampNeg)) < ((hI h 11 33 x1.toNatClampNeg) + (hI h 11 10 x1.toNatClampNeg)) then ((hI h 11 8 x1.toNatClampNeg) * (hI h 11 9 x1.toNatClampNeg)) else ((hI h 11 33 x1.toNatClampNeg) + (hI h 11 10 x1.toNatClampNeg))) then (hI h 11 34 x1.toNatClampNeg) else (if ((hI h 11 8 x1.toNatClampNeg) * (hI h 11 9 x1.toNatClampNeg)) < ((hI h 11 33 x1.toNatClampNeg) + (hI h 11 10 x1.toNatClampNeg)) then ((hI h 11 8 x1.toNatClampNeg) * (hI h 11 9 x1.toNatClampNeg)) else ((hI h 11 33 x1.toNatClampNeg) + (hI h 11 10 x1.toNatClampNeg)))))) 11 33 x1.toNatClampNeg ((if ((hI h 11 8 x1.toNatClampNeg) * (hI h 11 9 x1.toNatClampNeg)) < ((hI h 11 33 x1.toNatClampNeg) + (hI h 11 10 x1.toNatClampNeg)) then ((hI h 11 8 x1.toNatClampNeg) * (hI h 11 9 x1.toNatClampNeg)) else ((hI h 11 33 x1.toNatClampNeg) + (hI h 11 10 x1.toNatClampNeg))) - (if (hI h 11 34 x1.toNatClampNeg) < (if ((hI h 11 8 x1.toNatClampNeg) * (hI h 11 9 x1.toNatClampNeg)) < ((hI h 11 33 x1.toNatClampNeg) + (hI h 11 10 x1.toNatClampNeg)) then ((hI h 11 8 x1.toNatClampNeg) * (hI h 11 9 x1.toNatClampNeg)) else ((hI h 11 33 x1.toNatClampNeg) + (hI h 11 10 x1.toNatClampNeg))) then (hI h 11 34 x1.toNatClampNeg) else (if ((hI h 11 8 x1.toNatClampNeg) * (hI h 11 9 x1.toNatClampNeg)) < ((hI h 11 33 x1.toNatClampNeg) + (hI h 11 10 x1.toNatClampNeg)) then ((hI h 11 8 x1.toNatClampNeg) * (hI h 11 9 x1.toNatClampNeg)) else ((hI h 11 33 x1.toNatClampNeg) + (hI h 11 10 x1.toNatClampNeg)))))))))))))) : mT g me_fm_passes (d + 1) 0 0 0 [some (vr 10 0), some (vi x1), none, none] [] h Q := by
  refine tr_aload_n (pc := 0) 0 k_fm_passes_0 rfl rfl ?_
  refine tr_getP (pc := 1) k_fm_passes_1 fl_fm_20 rfl (Eq.trans rfl (hsk.1 10 9 _ rfl)) ?_
  refine tr_iload_n (pc := 4) 1 k_fm_passes_4 rfl rfl ?_
  refine tr_ialdx (pc := 5) k_fm_passes_5 (mvin (hsk.2.1 11 8 _ rfl) hv.1) rfl ?_
  replace hv := hv.2
  refine tr_aload_n (pc := 6) 0 k_fm_passes_6 rfl rfl ?_
  refine tr_getP (pc := 7) k_fm_passes_7 fl_fm_23 rfl (Eq.trans rfl (hsk.1 10 10 _ rfl)) ?_
  refine tr_iload_n (pc := 10) 1 k_fm_passes_10 rfl rfl ?_
  refine tr_ialdx (pc := 11) k_fm_passes_11 (mvin (hsk.2.1 11 9 _ rfl) hv.1) rfl ?_
  replace hv := hv.2
  refine tr_imul (pc := 12) k_fm_passes_12 ?_
  refine tr_istore_n (pc := 13) 2 k_fm_passes_13 rfl (by decide) rfl ?_
  show mT g me_fm_passes (d + 1) 0 0 14 [some (vr 10 0), some (vi x1), some (vi ((hI h 11 8 x1.toNatClampNeg) * (hI h 11 9 x1.toNatClampNeg))), none] [] h _
  refine tr_aload_n (pc := 14) 0 k_fm_passes_14 rfl rfl ?_
  refine tr_getP (pc := 15) k_fm_passes_15 fl_fm_102 rfl (Eq.trans rfl (hsk.1 10 36 _ rfl)) ?_
  refine tr_iload_n (pc := 18) 1 k_fm_passes_18 rfl rfl ?_
  refine tr_ialdx (pc := 19) k_fm_passes_19 (mvin (hsk.2.1 11 33 _ rfl) hv.1) rfl ?_
  replace hv := hv.2
  refine tr_aload_n (pc := 20) 0 k_fm_passes_20 rfl rfl ?_
  refine tr_getP (pc := 21) k_fm_passes_21 fl_fm_26 rfl (Eq.trans rfl (hsk.1 10 11 _ rfl)) ?_
  refine tr_iload_n (pc := 24) 1 k_fm_passes_24 rfl rfl ?_
  refine tr_ialdx (pc := 25) k_fm_passes_25 (mvin (hsk.2.1 11 10 _ rfl) hv.1) rfl ?_
  replace hv := hv.2
  refine tr_iadd (pc := 26) k_fm_passes_26 ?_
  refine tr_istore_n (pc := 27) 3 k_fm_passes_27 rfl (by decide) rfl ?_
  show mT g me_fm_passes (d + 1) 0 0 28 [some (vr 10 0), some (vi x1), some (vi ((hI h 11 8 x1.toNatClampNeg) * (hI h 11 9 x1.toNatClampNeg))), some (vi ((hI h 11 33 x1.toNatClampNeg) + (hI h 11 10 x1.toNatClampNeg)))] [] h _
  refine tr_aload_n (pc := 28) 0 k_fm_passes_28 rfl rfl ?_
  refine tr_iconst (pc := 29) (v := 0) k_fm_passes_29 (by decide) ?_
  refine tr_iload_n (pc := 30) 3 k_fm_passes_30 rfl rfl ?_
  refine tr_iload_n (pc := 31) 2 k_fm_passes_31 rfl rfl ?_
  refine tr_isub (pc := 32) k_fm_passes_32 ?_
  refine tr_max (pc := 33) k_fm_passes_33 ml_fm_188 (by omega) (Nat.le_of_ble_eq_true rfl) ?_
  refine tr_putI (pc := 36) k_fm_passes_36 fl_fm_194 (Or.inl rfl) rfl ⟨rfl, rfl⟩ ?_
  refine tr_iload_n (pc := 39) 3 k_fm_passes_39 rfl rfl ?_
  refine tr_iload_n (pc := 40) 2 k_fm_passes_40 rfl rfl ?_
  refine tr_min (pc := 41) k_fm_passes_41 ml_fm_197 (by omega) (Nat.le_of_ble_eq_true rfl) ?_
  refine tr_istore_n (pc := 44) 3 k_fm_passes_44 rfl (by decide) rfl ?_
  show mT g me_fm_passes (d + 1) 0 0 45 [some (vr 10 0), some (vi x1), some (vi ((hI h 11 8 x1.toNatClampNeg) * (hI h 11 9 x1.toNatClampNeg))), some (vi (if ((hI h 11 8 x1.toNatClampNeg) * (hI h 11 9 x1.toNatClampNeg)) < ((hI h 11 33 x1.toNatClampNeg) + (hI h 11 10 x1.toNatClampNeg)) then ((hI h 11 8 x1.toNatClampNeg) * (hI h 11 9 x1.toNatClampNeg)) else ((hI h 11 33 x1.toNatClampNeg) + (hI h 11 10 x1.toNatClampNeg))))] [] (setI h 10 0 40 (if (0 : Int32) < (((hI h 11 33 x1.toNatClampNeg) + (hI h 11 10 x1.toNatClampNeg)) - ((hI h 11 8 x1.toNatClampNeg) * (hI h 11 9 x1.toNatClampNeg))) then (((hI h 11 33 x1.toNatClampNeg) + (hI h 11 10 x1.toNatClampNeg)) - ((hI h 11 8 x1.toNatClampNeg) * (hI h 11 9 x1.toNatClampNeg))) else (0 : Int32))) _
  refine tr_aload_n (pc := 45) 0 k_fm_passes_45 rfl rfl ?_
  refine tr_iload_n (pc := 46) 3 k_fm_passes_46 rfl rfl ?_
  refine tr_aload_n (pc := 47) 0 k_fm_passes_47 rfl rfl ?_
  refine tr_getP (pc := 48) k_fm_passes_48 fl_fm_105 rfl (Eq.trans (hP_setI) (hsk.1 10 37 _ rfl)) ?_
  refine tr_iload_n (pc := 51) 1 k_fm_passes_51 rfl rfl ?_
  refine tr_ialdx (pc := 52) k_fm_passes_52 (mvin (hsk.2.1 11 34 _ rfl) hv.1) (hI_nk (by decide)) ?_
  replace hv := hv.2
  refine tr_min (pc := 53) k_fm_passes_53 ml_fm_197 (by omega) (Nat.le_of_ble_eq_true rfl) ?_
  refine tr_putI (pc := 56) k_fm_passes_56 fl_fm_200 (Or.inl rfl) rfl ⟨rfl, rfl⟩ ?_
  refine tr_aload_n (pc := 59) 0 k_fm_passes_59 rfl rfl ?_
  refine tr_aload_n (pc := 60) 0 k_fm_passes_60 rfl rfl ?_
  refine tr_getP (pc := 61) k_fm_passes_61 fl_fm_105 rfl (Eq.trans (Eq.trans (hP_setI) (hP_setI)) (hsk.1 10 37 _ rfl)) ?_
  refine tr_iload_n (pc := 64) 1 k_fm_passes_64 rfl rfl ?_
  refine tr_ialdx (pc := 65) k_fm_passes_65 (mvin (hsk.2.1 11 34 _ rfl) hv.1) (Eq.trans (hI_nk (by decide)) (hI_nk (by decide))) ?_
  replace hv := hv.2
  refine tr_aload_n (pc := 66) 0 k_fm_passes_66 rfl rfl ?_
  refine tr_getIx (pc := 67) k_fm_passes_67 fl_fm_200 rfl (hI_eq) ?_
  refine tr_isub (pc := 70) k_fm_passes_70 ?_
  refine tr_putI (pc := 71) k_fm_passes_71 fl_fm_203 (Or.inl rfl) rfl ⟨rfl, rfl⟩ ?_
  refine tr_aload_n (pc := 74) 0 k_fm_passes_74 rfl rfl ?_
  refine tr_getP (pc := 75) k_fm_passes_75 fl_fm_102 rfl (Eq.trans (Eq.trans (hP_setI) (Eq.trans (hP_setI) (hP_setI))) (hsk.1 10 36 _ rfl)) ?_
  refine tr_iload_n (pc := 78) 1 k_fm_passes_78 rfl rfl ?_
  refine tr_iload_n (pc := 79) 3 k_fm_passes_79 rfl rfl ?_
  refine tr_aload_n (pc := 80) 0 k_fm_passes_80 rfl rfl ?_
  refine tr_getIx (pc := 81) k_fm_passes_81 fl_fm_200 rfl (Eq.trans (hI_nf (by decide)) (hI_eq)) ?_
  refine tr_isub (pc := 84) k_fm_passes_84 ?_
  refine tr_iast (pc := 85) k_fm_passes_85 (mvin (hsk.2.1 11 33 _ rfl) hv.1) ?_
  replace hv := hv.2
  refine tr_return (pc := 86) k_fm_passes_86 rfl ?_
  exact hv
theorem v_fm_lasts_0 {g : mG} {d : Nat} (x1 : Int32) {h : mH} {Q : Option mV → mH → Prop} (hsk : mSK h) (hv : ((x1 < 0 → mT g me_fm_refuse (d + 2) 0 0 0 [some (vr 10 0), some (vi (-1 : Int32))] [] h (fun v h1 => ∃ y2, v = some (vi y2) ∧ mSK h1 ∧ Q (some (vi y2)) h1)) ∧ (¬ x1 < 0 → (((hI h 10 0 2) ≤ x1 → mT g me_fm_refuse (d + 2) 0 0 0 [some (vr 10 0), some (vi (-1 : Int32))] [] h (fun v h3 => ∃ y4, v = some (vi y4) ∧ mSK h3 ∧ Q (some (vi y4)) h3)) ∧ (¬ (hI h 10 0 2) ≤ x1 → mT g me_fm_sees (d + 2) 0 0 0 [some (vr 10 0)] [] h (fun v h5 => v = none ∧ mSK h5 ∧ mT g me_fm_lasts (d + 3) 0 0 23 [some (vr 10 0), some (vi x1), some (vi (0 : Int32))] [] h5 Q)))))) : mT g me_fm_lasts (d + 3) 0 0 0 [some (vr 10 0), some (vi x1), none] [] h Q := by
  refine tr_iload_n (pc := 0) 1 k_fm_lasts_0 rfl rfl ?_
  refine tr_aload_n (pc := 1) 0 k_fm_lasts_1 rfl rfl ?_
  refine tr_getIx (pc := 2) k_fm_lasts_2 fl_fm_141 rfl rfl ?_
  refine tr_callS (pc := 5) (d' := d + 2) (mc' := 0) (ms' := 0) [vi x1, vi (hI h 10 0 2)] k_fm_lasts_5 ca_fm_isIn ml_fm_144 is_fm_isIn pa_fm_isIn (by omega) (by omega) (by omega) rfl (Nat.le_of_ble_eq_true rfl) (Nat.le_of_ble_eq_true rfl) (Qk := fun v h9 => mT g me_fm_lasts (d + 3) 0 0 8 [some (vr 10 0), some (vi x1), none] (v.toList ++ []) h9 _) ?_ (fun _ _ z => z)
  show mT g me_fm_isIn (d + 2) 0 0 0 [some (vi x1), some (vi (hI h 10 0 2))] [] h _
  refine tr_iload_n (pc := 0) 0 k_fm_isIn_0 rfl rfl ?_
  refine tr_if_lt (pc := 1) 13 k_fm_isIn_1 (by decide) (fun q => ?_) (fun q => ?_)
  · replace hv := hv.1 q
    refine tr_iconst (pc := 13) (v := 0) k_fm_isIn_13 (by decide) ?_
    refine tr_ireturn (pc := 14) k_fm_isIn_14 rfl rfl ?_
    show mT g me_fm_lasts (d + 3) 0 0 8 [some (vr 10 0), some (vi x1), none] [vi (0 : Int32)] h _
    refine tr_if_ne (pc := 8) 17 k_fm_lasts_8 (by decide) (fun q => absurd q (by decide)) (fun _ => ?_)
    refine tr_aload_n (pc := 11) 0 k_fm_lasts_11 rfl rfl ?_
    refine tr_iconst (pc := 12) (v := -1) k_fm_lasts_12 (by decide) ?_
    have hT := hv
    clear hv
    refine tr_callV (pc := 13) (d' := d + 2) (mc' := 0) (ms' := 0) [vi (-1 : Int32)] k_fm_lasts_13 ca_fm_refuse ml_fm_133 ii_fm_refuse ⟨by decide, rfl⟩ pa_fm_refuse (by omega) (by omega) (by omega) rfl (Nat.le_of_ble_eq_true rfl) (Nat.le_of_ble_eq_true rfl) hT (fun v h9 hv => ?_)
    clear hT
    obtain ⟨y2, rfl, hv⟩ := hv
    obtain ⟨h1, eh⟩ : ∃ z, z = h9 := ⟨_, rfl⟩
    subst eh
    obtain ⟨hskh1, hv⟩ := hv
    show mT g me_fm_lasts (d + 3) 0 0 16 [some (vr 10 0), some (vi x1), none] [vi y2] h1 _
    refine tr_ireturn (pc := 16) k_fm_lasts_16 rfl rfl ?_
    exact hv
  · replace hv := hv.2 q
    refine tr_iload_n (pc := 4) 0 k_fm_isIn_4 rfl rfl ?_
    refine tr_iload_n (pc := 5) 1 k_fm_isIn_5 rfl rfl ?_
    refine tr_icmp_ge (pc := 6) 13 k_fm_isIn_6 (by decide) (fun q => ?_) (fun q => ?_)
    · replace hv := hv.1 q
      refine tr_iconst (pc := 13) (v := 0) k_fm_isIn_13 (by decide) ?_
      refine tr_ireturn (pc := 14) k_fm_isIn_14 rfl rfl ?_
      show mT g me_fm_lasts (d + 3) 0 0 8 [some (vr 10 0), some (vi x1), none] [vi (0 : Int32)] h _
      refine tr_if_ne (pc := 8) 17 k_fm_lasts_8 (by decide) (fun q => absurd q (by decide)) (fun _ => ?_)
      refine tr_aload_n (pc := 11) 0 k_fm_lasts_11 rfl rfl ?_
      refine tr_iconst (pc := 12) (v := -1) k_fm_lasts_12 (by decide) ?_
      have hT := hv
      clear hv
      refine tr_callV (pc := 13) (d' := d + 2) (mc' := 0) (ms' := 0) [vi (-1 : Int32)] k_fm_lasts_13 ca_fm_refuse ml_fm_133 ii_fm_refuse ⟨by decide, rfl⟩ pa_fm_refuse (by omega) (by omega) (by omega) rfl (Nat.le_of_ble_eq_true rfl) (Nat.le_of_ble_eq_true rfl) hT (fun v h9 hv => ?_)
      clear hT
      obtain ⟨y4, rfl, hv⟩ := hv
      obtain ⟨h3, eh⟩ : ∃ z, z = h9 := ⟨_, rfl⟩
      subst eh
      obtain ⟨hskh3, hv⟩ := hv
      show mT g me_fm_lasts (d + 3) 0 0 16 [some (vr 10 0), some (vi x1), none] [vi y4] h3 _
      refine tr_ireturn (pc := 16) k_fm_lasts_16 rfl rfl ?_
      exact hv
    · replace hv := hv.2 q
      refine tr_iconst (pc := 9) (v := 1) k_fm_isIn_9 (by decide) ?_
      refine tr_goto (pc := 10) 14 k_fm_isIn_10 (by decide) ?_
      refine tr_ireturn (pc := 14) k_fm_isIn_14 rfl rfl ?_
      show mT g me_fm_lasts (d + 3) 0 0 8 [some (vr 10 0), some (vi x1), none] [vi (1 : Int32)] h _
      refine tr_if_ne (pc := 8) 17 k_fm_lasts_8 (by decide) (fun _ => ?_) (fun q => absurd q (by decide))
      refine tr_aload_n (pc := 17) 0 k_fm_lasts_17 rfl rfl ?_
      have hT := hv
      clear hv
      refine tr_callV (pc := 18) (d' := d + 2) (mc' := 0) (ms' := 0) [] k_fm_lasts_18 ca_fm_sees ml_fm_179 ii_fm_sees ⟨by decide, rfl⟩ pa_fm_sees (by omega) (by omega) (by omega) rfl (Nat.le_of_ble_eq_true rfl) (Nat.le_of_ble_eq_true rfl) hT (fun v h9 hv => ?_)
      clear hT
      obtain ⟨rfl, hv⟩ := hv
      obtain ⟨h5, eh⟩ : ∃ z, z = h9 := ⟨_, rfl⟩
      subst eh
      obtain ⟨hskh5, hv⟩ := hv
      show mT g me_fm_lasts (d + 3) 0 0 21 [some (vr 10 0), some (vi x1), none] [] h5 _
      refine tr_iconst (pc := 21) (v := 0) k_fm_lasts_21 (by decide) ?_
      refine tr_istore_n (pc := 22) 2 k_fm_lasts_22 rfl (by decide) rfl ?_
      show mT g me_fm_lasts (d + 3) 0 0 23 [some (vr 10 0), some (vi x1), some (vi (0 : Int32))] [] h5 _
      exact hv
theorem v_fm_lasts_23 {g : mG} {d : Nat} (x1 : Int32) (x2 : Int32) {h : mH} {Q : Option mV → mH → Prop} (hsk : mSK h) (hv : (((1440 : Int32) < x2 → Q (some (vi (-9 : Int32))) h) ∧ (¬ (1440 : Int32) < x2 → (vp_in x1 4 ∧ ((¬ (hI h 11 33 x1.toNatClampNeg) = 0 → mT g me_fm_passes (d + 2) 0 0 0 [some (vr 10 0), some (vi x1), none, none] [] h (fun v h1 => v = none ∧ mSK h1 ∧ mT g me_fm_lasts (d + 3) 0 0 23 [some (vr 10 0), some (vi x1), some (vi (x2 + 1))] [] h1 Q)) ∧ ((hI h 11 33 x1.toNatClampNeg) = 0 → Q (some (vi x2)) h)))))) : mT g me_fm_lasts (d + 3) 0 0 23 [some (vr 10 0), some (vi x1), some (vi x2)] [] h Q := by
  refine tr_iload_n (pc := 23) 2 k_fm_lasts_23 rfl rfl ?_
  refine tr_sipush (pc := 24) (v := 1440) k_fm_lasts_24 (by decide) ?_
  refine tr_icmp_gt (pc := 27) 52 k_fm_lasts_27 (by decide) (fun q => ?_) (fun q => ?_)
  · replace hv := hv.1 q
    refine tr_bipush (pc := 52) (v := -9) k_fm_lasts_52 (by decide) ?_
    refine tr_ireturn (pc := 54) k_fm_lasts_54 rfl rfl ?_
    exact hv
  · replace hv := hv.2 q
    refine tr_aload_n (pc := 30) 0 k_fm_lasts_30 rfl rfl ?_
    refine tr_getP (pc := 31) k_fm_lasts_31 fl_fm_102 rfl (Eq.trans rfl (hsk.1 10 36 _ rfl)) ?_
    refine tr_iload_n (pc := 34) 1 k_fm_lasts_34 rfl rfl ?_
    refine tr_ialdx (pc := 35) k_fm_lasts_35 (mvin (hsk.2.1 11 33 _ rfl) hv.1) rfl ?_
    replace hv := hv.2
    refine tr_if_ne (pc := 36) 41 k_fm_lasts_36 (by decide) (fun q => ?_) (fun q => ?_)
    · replace hv := hv.1 q
      refine tr_aload_n (pc := 41) 0 k_fm_lasts_41 rfl rfl ?_
      refine tr_iload_n (pc := 42) 1 k_fm_lasts_42 rfl rfl ?_
      have hT := hv
      clear hv
      refine tr_callV (pc := 43) (d' := d + 2) (mc' := 0) (ms' := 0) [vi x1] k_fm_lasts_43 ca_fm_passes ml_fm_209 ii_fm_passes ⟨by decide, rfl⟩ pa_fm_passes (by omega) (by omega) (by omega) rfl (Nat.le_of_ble_eq_true rfl) (Nat.le_of_ble_eq_true rfl) hT (fun v h9 hv => ?_)
      clear hT
      obtain ⟨rfl, hv⟩ := hv
      obtain ⟨h1, eh⟩ : ∃ z, z = h9 := ⟨_, rfl⟩
      subst eh
      obtain ⟨hskh1, hv⟩ := hv
      show mT g me_fm_lasts (d + 3) 0 0 46 [some (vr 10 0), some (vi x1), some (vi x2)] [] h1 _
      refine tr_iinc (pc := 46) (v := (x2 + 1)) k_fm_lasts_46 rfl rfl (by decide) rfl ?_
      show mT g me_fm_lasts (d + 3) 0 0 49 [some (vr 10 0), some (vi x1), some (vi (x2 + 1))] [] h1 _
      refine tr_goto (pc := 49) 23 k_fm_lasts_49 (by decide) ?_
      exact hv
    · replace hv := hv.2 q
      refine tr_iload_n (pc := 39) 2 k_fm_lasts_39 rfl rfl ?_
      refine tr_ireturn (pc := 40) k_fm_lasts_40 rfl rfl ?_
      exact hv
theorem v_fm_view_0 {g : mG} {d : Nat} (x1 : Int32) (x2 : Int32) (x3 : Int32) (x4 : Int32) {h : mH} {Q : Option mV → mH → Prop} (hsk : mSK h) (hv : ((x1 ≤ 0 → mT g me_fm_refuse (d + 1) 0 0 0 [some (vr 10 0), some (vi (-1 : Int32))] [] h (fun v h1 => ∃ y2, v = some (vi y2) ∧ mSK h1 ∧ Q (some (vi y2)) h1)) ∧ (¬ x1 ≤ 0 → ((x1 < ((1 : Int32) <<< ((hI h 10 0 4) &&& 31)) → ((¬ (hI h 10 0 5) = 0 → (vp_in ((hI h 10 0 5) - (1 : Int32)) 12 ∧ ((x2 < ((hI h 11 26 (((hI h 10 0 5) - (1 : Int32)).toNatClampNeg)) + (1 : Int32)) → mT g me_fm_refuse (d + 1) 0 0 0 [some (vr 10 0), some (vi (-4 : Int32))] [] h (fun v h3 => ∃ y4, v = some (vi y4) ∧ mSK h3 ∧ Q (some (vi y4)) h3)) ∧ (¬ x2 < ((hI h 11 26 (((hI h 10 0 5) - (1 : Int32)).toNatClampNeg)) + (1 : Int32)) → ((x3 < x2 → mT g me_fm_refuse (d + 1) 0 0 0 [some (vr 10 0), some (vi (-4 : Int32))] [] h (fun v h5 => ∃ y6, v = some (vi y6) ∧ mSK h5 ∧ Q (some (vi y6)) h5)) ∧ (¬ x3 < x2 → ((0 ≤ x4 → (((1440 : Int32) < x3 → mT g me_fm_refuse (d + 1) 0 0 0 [some (vr 10 0), some (vi (-6 : Int32))] [] h (fun v h7 => ∃ y8, v = some (vi y8) ∧ mSK h7 ∧ Q (some (vi y8)) h7)) ∧ (¬ (1440 : Int32) < x3 → (((500 : Int32) < x4 → mT g me_fm_refuse (d + 1) 0 0 0 [some (vr 10 0), some (vi (-6 : Int32))] [] h (fun v h9 => ∃ y10, v = some (vi y10) ∧ mSK h9 ∧ Q (some (vi y10)) h9)) ∧ (¬ (500 : Int32) < x4 → ((¬ (hI h 10 0 5) = (12 : Int32) → (vp_in (hI h 10 0 5) 12 ∧ (vp_in (hI h 10 0 5) 12 ∧ (vp_in (hI h 10 0 5) 12 ∧ (vp_in (hI h 10 0 5) 12 ∧ Q (some (vi (((hI h 10 0 5) + (1 : Int32)) - (1 : Int32)))) (setI (setI (setI (setI (setI h 11 24 ((hI h 10 0 5).toNatClampNeg) x1) 11 25 ((hI h 10 0 5).toNatClampNeg) x2) 11 26 ((hI h 10 0 5).toNatClampNeg) x3) 11 27 ((hI h 10 0 5).toNatClampNeg) x4) 10 0 5 ((hI h 10 0 5) + (1 : Int32)))))))) ∧ ((hI h 10 0 5) = (12 : Int32) → mT g me_fm_refuse (d + 1) 0 0 0 [some (vr 10 0), some (vi (-6 : Int32))] [] h (fun v h11 => ∃ y12, v = some (vi y12) ∧ mSK h11 ∧ Q (some (vi y12)) h11)))))))) ∧ (¬ 0 ≤ x4 → mT g me_fm_refuse (d + 1) 0 0 0 [some (vr 10 0), some (vi (-4 : Int32))] [] h (fun v h13 => ∃ y14, v = some (vi y14) ∧ mSK h13 ∧ Q (some (vi y14)) h13))))))))) ∧ ((hI h 10 0 5) = 0 → ((x2 < (0 : Int32) → mT g me_fm_refuse (d + 1) 0 0 0 [some (vr 10 0), some (vi (-4 : Int32))] [] h (fun v h15 => ∃ y16, v = some (vi y16) ∧ mSK h15 ∧ Q (some (vi y16)) h15)) ∧ (¬ x2 < (0 : Int32) → ((x3 < x2 → mT g me_fm_refuse (d + 1) 0 0 0 [some (vr 10 0), some (vi (-4 : Int32))] [] h (fun v h17 => ∃ y18, v = some (vi y18) ∧ mSK h17 ∧ Q (some (vi y18)) h17)) ∧ (¬ x3 < x2 → ((0 ≤ x4 → (((1440 : Int32) < x3 → mT g me_fm_refuse (d + 1) 0 0 0 [some (vr 10 0), some (vi (-6 : Int32))] [] h (fun v h19 => ∃ y20, v = some (vi y20) ∧ mSK h19 ∧ Q (some (vi y20)) h19)) ∧ (¬ (1440 : Int32) < x3 → (((500 : Int32) < x4 → mT g me_fm_refuse (d + 1) 0 0 0 [some (vr 10 0), some (vi (-6 : Int32))] [] h (fun v h21 => ∃ y22, v = some (vi y22) ∧ mSK h21 ∧ Q (some (vi y22)) h21)) ∧ (¬ (500 : Int32) < x4 → ((¬ (hI h 10 0 5) = (12 : Int32) → (vp_in (hI h 10 0 5) 12 ∧ (vp_in (hI h 10 0 5) 12 ∧ (vp_in (hI h 10 0 5) 12 ∧ (vp_in (hI h 10 0 5) 12 ∧ Q (some (vi (((hI h 10 0 5) + (1 : Int32)) - (1 : Int32)))) (setI (setI (setI (setI (setI h 11 24 ((hI h 10 0 5).toNatClampNeg) x1) 11 25 ((hI h 10 0 5).toNatClampNeg) x2) 11 26 ((hI h 10 0 5).toNatClampNeg) x3) 11 27 ((hI h 10 0 5).toNatClampNeg) x4) 10 0 5 ((hI h 10 0 5) + (1 : Int32)))))))) ∧ ((hI h 10 0 5) = (12 : Int32) → mT g me_fm_refuse (d + 1) 0 0 0 [some (vr 10 0), some (vi (-6 : Int32))] [] h (fun v h23 => ∃ y24, v = some (vi y24) ∧ mSK h23 ∧ Q (some (vi y24)) h23)))))))) ∧ (¬ 0 ≤ x4 → mT g me_fm_refuse (d + 1) 0 0 0 [some (vr 10 0), some (vi (-4 : Int32))] [] h (fun v h25 => ∃ y26, v = some (vi y26) ∧ mSK h25 ∧ Q (some (vi y26)) h25)))))))))) ∧ (¬ x1 < ((1 : Int32) <<< ((hI h 10 0 4) &&& 31)) → mT g me_fm_refuse (d + 1) 0 0 0 [some (vr 10 0), some (vi (-1 : Int32))] [] h (fun v h27 => ∃ y28, v = some (vi y28) ∧ mSK h27 ∧ Q (some (vi y28)) h27)))))) : mT g me_fm_view (d + 2) 0 0 0 [some (vr 10 0), some (vi x1), some (vi x2), some (vi x3), some (vi x4), none] [] h Q := by
  refine tr_iload_n (pc := 0) 1 k_fm_view_0 rfl rfl ?_
  refine tr_if_le (pc := 1) 14 k_fm_view_1 (by decide) (fun q => ?_) (fun q => ?_)
  · replace hv := hv.1 q
    refine tr_aload_n (pc := 14) 0 k_fm_view_14 rfl rfl ?_
    refine tr_iconst (pc := 15) (v := -1) k_fm_view_15 (by decide) ?_
    have hT := hv
    clear hv
    refine tr_callV (pc := 16) (d' := d + 1) (mc' := 0) (ms' := 0) [vi (-1 : Int32)] k_fm_view_16 ca_fm_refuse ml_fm_133 ii_fm_refuse ⟨by decide, rfl⟩ pa_fm_refuse (by omega) (by omega) (by omega) rfl (Nat.le_of_ble_eq_true rfl) (Nat.le_of_ble_eq_true rfl) hT (fun v h9 hv => ?_)
    clear hT
    obtain ⟨y2, rfl, hv⟩ := hv
    obtain ⟨h1, eh⟩ : ∃ z, z = h9 := ⟨_, rfl⟩
    subst eh
    obtain ⟨hskh1, hv⟩ := hv
    show mT g me_fm_view (d + 2) 0 0 19 [some (vr 10 0), some (vi x1), some (vi x2), some (vi x3), some (vi x4), none] [vi y2] h1 _
    refine tr_ireturn (pc := 19) k_fm_view_19 rfl rfl ?_
    exact hv
  · replace hv := hv.2 q
    refine tr_iload_n (pc := 4) 1 k_fm_view_4 rfl rfl ?_
    refine tr_iconst (pc := 5) (v := 1) k_fm_view_5 (by decide) ?_
    refine tr_aload_n (pc := 6) 0 k_fm_view_6 rfl rfl ?_
    refine tr_getIx (pc := 7) k_fm_view_7 fl_fm_158 rfl rfl ?_
    refine tr_ishl (pc := 10) k_fm_view_10 ?_
    refine tr_icmp_lt (pc := 11) 20 k_fm_view_11 (by decide) (fun q => ?_) (fun q => ?_)
    · replace hv := hv.1 q
      refine tr_aload_n (pc := 20) 0 k_fm_view_20 rfl rfl ?_
      refine tr_getIx (pc := 21) k_fm_view_21 fl_fm_213 rfl rfl ?_
      refine tr_if_ne (pc := 24) 31 k_fm_view_24 (by decide) (fun q => ?_) (fun q => ?_)
      · replace hv := hv.1 q
        refine tr_aload_n (pc := 31) 0 k_fm_view_31 rfl rfl ?_
        refine tr_getP (pc := 32) k_fm_view_32 fl_fm_81 rfl (Eq.trans rfl (hsk.1 10 29 _ rfl)) ?_
        refine tr_aload_n (pc := 35) 0 k_fm_view_35 rfl rfl ?_
        refine tr_getIx (pc := 36) k_fm_view_36 fl_fm_213 rfl rfl ?_
        refine tr_iconst (pc := 39) (v := 1) k_fm_view_39 (by decide) ?_
        refine tr_isub (pc := 40) k_fm_view_40 ?_
        refine tr_ialdx (pc := 41) k_fm_view_41 (mvin (hsk.2.1 11 26 _ rfl) hv.1) rfl ?_
        replace hv := hv.2
        refine tr_iconst (pc := 42) (v := 1) k_fm_view_42 (by decide) ?_
        refine tr_iadd (pc := 43) k_fm_view_43 ?_
        refine tr_istore (pc := 44) k_fm_view_44 (by decide) rfl ?_
        show mT g me_fm_view (d + 2) 0 0 46 [some (vr 10 0), some (vi x1), some (vi x2), some (vi x3), some (vi x4), some (vi ((hI h 11 26 (((hI h 10 0 5) - (1 : Int32)).toNatClampNeg)) + (1 : Int32)))] [] h _
        refine tr_iload_n (pc := 46) 2 k_fm_view_46 rfl rfl ?_
        refine tr_iload (pc := 47) k_fm_view_47 rfl ?_
        refine tr_icmp_lt (pc := 49) 62 k_fm_view_49 (by decide) (fun q => ?_) (fun q => ?_)
        · replace hv := hv.1 q
          refine tr_aload_n (pc := 62) 0 k_fm_view_62 rfl rfl ?_
          refine tr_bipush (pc := 63) (v := -4) k_fm_view_63 (by decide) ?_
          have hT := hv
          clear hv
          refine tr_callV (pc := 65) (d' := d + 1) (mc' := 0) (ms' := 0) [vi (-4 : Int32)] k_fm_view_65 ca_fm_refuse ml_fm_133 ii_fm_refuse ⟨by decide, rfl⟩ pa_fm_refuse (by omega) (by omega) (by omega) rfl (Nat.le_of_ble_eq_true rfl) (Nat.le_of_ble_eq_true rfl) hT (fun v h9 hv => ?_)
          clear hT
          obtain ⟨y4, rfl, hv⟩ := hv
          obtain ⟨h3, eh⟩ : ∃ z, z = h9 := ⟨_, rfl⟩
          subst eh
          obtain ⟨hskh3, hv⟩ := hv
          show mT g me_fm_view (d + 2) 0 0 68 [some (vr 10 0), some (vi x1), some (vi x2), some (vi x3), some (vi x4), some (vi ((hI h 11 26 (((hI h 10 0 5) - (1 : Int32)).toNatClampNeg)) + (1 : Int32)))] [vi y4] h3 _
          refine tr_ireturn (pc := 68) k_fm_view_68 rfl rfl ?_
          exact hv
        · replace hv := hv.2 q
          refine tr_iload_n (pc := 52) 3 k_fm_view_52 rfl rfl ?_
          refine tr_iload_n (pc := 53) 2 k_fm_view_53 rfl rfl ?_
          refine tr_icmp_lt (pc := 54) 62 k_fm_view_54 (by decide) (fun q => ?_) (fun q => ?_)
          · replace hv := hv.1 q
            refine tr_aload_n (pc := 62) 0 k_fm_view_62 rfl rfl ?_
            refine tr_bipush (pc := 63) (v := -4) k_fm_view_63 (by decide) ?_
            have hT := hv
            clear hv
            refine tr_callV (pc := 65) (d' := d + 1) (mc' := 0) (ms' := 0) [vi (-4 : Int32)] k_fm_view_65 ca_fm_refuse ml_fm_133 ii_fm_refuse ⟨by decide, rfl⟩ pa_fm_refuse (by omega) (by omega) (by omega) rfl (Nat.le_of_ble_eq_true rfl) (Nat.le_of_ble_eq_true rfl) hT (fun v h9 hv => ?_)
            clear hT
            obtain ⟨y6, rfl, hv⟩ := hv
            obtain ⟨h5, eh⟩ : ∃ z, z = h9 := ⟨_, rfl⟩
            subst eh
            obtain ⟨hskh5, hv⟩ := hv
            show mT g me_fm_view (d + 2) 0 0 68 [some (vr 10 0), some (vi x1), some (vi x2), some (vi x3), some (vi x4), some (vi ((hI h 11 26 (((hI h 10 0 5) - (1 : Int32)).toNatClampNeg)) + (1 : Int32)))] [vi y6] h5 _
            refine tr_ireturn (pc := 68) k_fm_view_68 rfl rfl ?_
            exact hv
          · replace hv := hv.2 q
            refine tr_iload (pc := 57) k_fm_view_57 rfl ?_
            refine tr_if_ge (pc := 59) 69 k_fm_view_59 (by decide) (fun q => ?_) (fun q => ?_)
            · replace hv := hv.1 q
              refine tr_iload_n (pc := 69) 3 k_fm_view_69 rfl rfl ?_
              refine tr_sipush (pc := 70) (v := 1440) k_fm_view_70 (by decide) ?_
              refine tr_icmp_gt (pc := 73) 93 k_fm_view_73 (by decide) (fun q => ?_) (fun q => ?_)
              · replace hv := hv.1 q
                refine tr_aload_n (pc := 93) 0 k_fm_view_93 rfl rfl ?_
                refine tr_bipush (pc := 94) (v := -6) k_fm_view_94 (by decide) ?_
                have hT := hv
                clear hv
                refine tr_callV (pc := 96) (d' := d + 1) (mc' := 0) (ms' := 0) [vi (-6 : Int32)] k_fm_view_96 ca_fm_refuse ml_fm_133 ii_fm_refuse ⟨by decide, rfl⟩ pa_fm_refuse (by omega) (by omega) (by omega) rfl (Nat.le_of_ble_eq_true rfl) (Nat.le_of_ble_eq_true rfl) hT (fun v h9 hv => ?_)
                clear hT
                obtain ⟨y8, rfl, hv⟩ := hv
                obtain ⟨h7, eh⟩ : ∃ z, z = h9 := ⟨_, rfl⟩
                subst eh
                obtain ⟨hskh7, hv⟩ := hv
                show mT g me_fm_view (d + 2) 0 0 99 [some (vr 10 0), some (vi x1), some (vi x2), some (vi x3), some (vi x4), some (vi ((hI h 11 26 (((hI h 10 0 5) - (1 : Int32)).toNatClampNeg)) + (1 : Int32)))] [vi y8] h7 _
                refine tr_ireturn (pc := 99) k_fm_view_99 rfl rfl ?_
                exact hv
              · replace hv := hv.2 q
                refine tr_iload (pc := 76) k_fm_view_76 rfl ?_
                refine tr_sipush (pc := 78) (v := 500) k_fm_view_78 (by decide) ?_
                refine tr_icmp_gt (pc := 81) 93 k_fm_view_81 (by decide) (fun q => ?_) (fun q => ?_)
                · replace hv := hv.1 q
                  refine tr_aload_n (pc := 93) 0 k_fm_view_93 rfl rfl ?_
                  refine tr_bipush (pc := 94) (v := -6) k_fm_view_94 (by decide) ?_
                  have hT := hv
                  clear hv
                  refine tr_callV (pc := 96) (d' := d + 1) (mc' := 0) (ms' := 0) [vi (-6 : Int32)] k_fm_view_96 ca_fm_refuse ml_fm_133 ii_fm_refuse ⟨by decide, rfl⟩ pa_fm_refuse (by omega) (by omega) (by omega) rfl (Nat.le_of_ble_eq_true rfl) (Nat.le_of_ble_eq_true rfl) hT (fun v h9 hv => ?_)
                  clear hT
                  obtain ⟨y10, rfl, hv⟩ := hv
                  obtain ⟨h9, eh⟩ : ∃ z, z = h9 := ⟨_, rfl⟩
                  subst eh
                  obtain ⟨hskh9, hv⟩ := hv
                  show mT g me_fm_view (d + 2) 0 0 99 [some (vr 10 0), some (vi x1), some (vi x2), some (vi x3), some (vi x4), some (vi ((hI h 11 26 (((hI h 10 0 5) - (1 : Int32)).toNatClampNeg)) + (1 : Int32)))] [vi y10] h9 _
                  refine tr_ireturn (pc := 99) k_fm_view_99 rfl rfl ?_
                  exact hv
                · replace hv := hv.2 q
                  refine tr_aload_n (pc := 84) 0 k_fm_view_84 rfl rfl ?_
                  refine tr_getIx (pc := 85) k_fm_view_85 fl_fm_213 rfl rfl ?_
                  refine tr_bipush (pc := 88) (v := 12) k_fm_view_88 (by decide) ?_
                  refine tr_icmp_ne (pc := 90) 100 k_fm_view_90 (by decide) (fun q => ?_) (fun q => ?_)
                  · replace hv := hv.1 q
                    refine tr_aload_n (pc := 100) 0 k_fm_view_100 rfl rfl ?_
                    refine tr_getP (pc := 101) k_fm_view_101 fl_fm_75 rfl (Eq.trans rfl (hsk.1 10 27 _ rfl)) ?_
                    refine tr_aload_n (pc := 104) 0 k_fm_view_104 rfl rfl ?_
                    refine tr_getIx (pc := 105) k_fm_view_105 fl_fm_213 rfl rfl ?_
                    refine tr_iload_n (pc := 108) 1 k_fm_view_108 rfl rfl ?_
                    refine tr_iast (pc := 109) k_fm_view_109 (mvin (hsk.2.1 11 24 _ rfl) hv.1) ?_
                    replace hv := hv.2
                    refine tr_aload_n (pc := 110) 0 k_fm_view_110 rfl rfl ?_
                    refine tr_getP (pc := 111) k_fm_view_111 fl_fm_78 rfl (Eq.trans (hP_setI) (hsk.1 10 28 _ rfl)) ?_
                    refine tr_aload_n (pc := 114) 0 k_fm_view_114 rfl rfl ?_
                    refine tr_getIx (pc := 115) k_fm_view_115 fl_fm_213 rfl (hI_nk (by decide)) ?_
                    refine tr_iload_n (pc := 118) 2 k_fm_view_118 rfl rfl ?_
                    refine tr_iast (pc := 119) k_fm_view_119 (mvin (hsk.2.1 11 25 _ rfl) hv.1) ?_
                    replace hv := hv.2
                    refine tr_aload_n (pc := 120) 0 k_fm_view_120 rfl rfl ?_
                    refine tr_getP (pc := 121) k_fm_view_121 fl_fm_81 rfl (Eq.trans (Eq.trans (hP_setI) (hP_setI)) (hsk.1 10 29 _ rfl)) ?_
                    refine tr_aload_n (pc := 124) 0 k_fm_view_124 rfl rfl ?_
                    refine tr_getIx (pc := 125) k_fm_view_125 fl_fm_213 rfl (Eq.trans (hI_nk (by decide)) (hI_nk (by decide))) ?_
                    refine tr_iload_n (pc := 128) 3 k_fm_view_128 rfl rfl ?_
                    refine tr_iast (pc := 129) k_fm_view_129 (mvin (hsk.2.1 11 26 _ rfl) hv.1) ?_
                    replace hv := hv.2
                    refine tr_aload_n (pc := 130) 0 k_fm_view_130 rfl rfl ?_
                    refine tr_getP (pc := 131) k_fm_view_131 fl_fm_84 rfl (Eq.trans (Eq.trans (hP_setI) (Eq.trans (hP_setI) (hP_setI))) (hsk.1 10 30 _ rfl)) ?_
                    refine tr_aload_n (pc := 134) 0 k_fm_view_134 rfl rfl ?_
                    refine tr_getIx (pc := 135) k_fm_view_135 fl_fm_213 rfl (Eq.trans (hI_nk (by decide)) (Eq.trans (hI_nk (by decide)) (hI_nk (by decide)))) ?_
                    refine tr_iload (pc := 138) k_fm_view_138 rfl ?_
                    refine tr_iast (pc := 140) k_fm_view_140 (mvin (hsk.2.1 11 27 _ rfl) hv.1) ?_
                    replace hv := hv.2
                    refine tr_aload_n (pc := 141) 0 k_fm_view_141 rfl rfl ?_
                    refine tr_dup (pc := 142) k_fm_view_142 rfl ?_
                    refine tr_getIx (pc := 143) k_fm_view_143 fl_fm_213 rfl (Eq.trans (hI_nk (by decide)) (Eq.trans (hI_nk (by decide)) (Eq.trans (hI_nk (by decide)) (hI_nk (by decide))))) ?_
                    refine tr_iconst (pc := 146) (v := 1) k_fm_view_146 (by decide) ?_
                    refine tr_iadd (pc := 147) k_fm_view_147 ?_
                    refine tr_putI (pc := 148) k_fm_view_148 fl_fm_213 (Or.inl rfl) rfl ⟨rfl, rfl⟩ ?_
                    refine tr_aload_n (pc := 151) 0 k_fm_view_151 rfl rfl ?_
                    refine tr_getIx (pc := 152) k_fm_view_152 fl_fm_213 rfl (hI_eq) ?_
                    refine tr_iconst (pc := 155) (v := 1) k_fm_view_155 (by decide) ?_
                    refine tr_isub (pc := 156) k_fm_view_156 ?_
                    refine tr_ireturn (pc := 157) k_fm_view_157 rfl rfl ?_
                    exact hv
                  · replace hv := hv.2 q
                    refine tr_aload_n (pc := 93) 0 k_fm_view_93 rfl rfl ?_
                    refine tr_bipush (pc := 94) (v := -6) k_fm_view_94 (by decide) ?_
                    have hT := hv
                    clear hv
                    refine tr_callV (pc := 96) (d' := d + 1) (mc' := 0) (ms' := 0) [vi (-6 : Int32)] k_fm_view_96 ca_fm_refuse ml_fm_133 ii_fm_refuse ⟨by decide, rfl⟩ pa_fm_refuse (by omega) (by omega) (by omega) rfl (Nat.le_of_ble_eq_true rfl) (Nat.le_of_ble_eq_true rfl) hT (fun v h9 hv => ?_)
                    clear hT
                    obtain ⟨y12, rfl, hv⟩ := hv
                    obtain ⟨h11, eh⟩ : ∃ z, z = h9 := ⟨_, rfl⟩
                    subst eh
                    obtain ⟨hskh11, hv⟩ := hv
                    show mT g me_fm_view (d + 2) 0 0 99 [some (vr 10 0), some (vi x1), some (vi x2), some (vi x3), some (vi x4), some (vi ((hI h 11 26 (((hI h 10 0 5) - (1 : Int32)).toNatClampNeg)) + (1 : Int32)))] [vi y12] h11 _
                    refine tr_ireturn (pc := 99) k_fm_view_99 rfl rfl ?_
                    exact hv
            · replace hv := hv.2 q
              refine tr_aload_n (pc := 62) 0 k_fm_view_62 rfl rfl ?_
              refine tr_bipush (pc := 63) (v := -4) k_fm_view_63 (by decide) ?_
              have hT := hv
              clear hv
              refine tr_callV (pc := 65) (d' := d + 1) (mc' := 0) (ms' := 0) [vi (-4 : Int32)] k_fm_view_65 ca_fm_refuse ml_fm_133 ii_fm_refuse ⟨by decide, rfl⟩ pa_fm_refuse (by omega) (by omega) (by omega) rfl (Nat.le_of_ble_eq_true rfl) (Nat.le_of_ble_eq_true rfl) hT (fun v h9 hv => ?_)
              clear hT
              obtain ⟨y14, rfl, hv⟩ := hv
              obtain ⟨h13, eh⟩ : ∃ z, z = h9 := ⟨_, rfl⟩
              subst eh
              obtain ⟨hskh13, hv⟩ := hv
              show mT g me_fm_view (d + 2) 0 0 68 [some (vr 10 0), some (vi x1), some (vi x2), some (vi x3), some (vi x4), some (vi ((hI h 11 26 (((hI h 10 0 5) - (1 : Int32)).toNatClampNeg)) + (1 : Int32)))] [vi y14] h13 _
              refine tr_ireturn (pc := 68) k_fm_view_68 rfl rfl ?_
              exact hv
      · replace hv := hv.2 q
        refine tr_iconst (pc := 27) (v := 0) k_fm_view_27 (by decide) ?_
        refine tr_goto (pc := 28) 44 k_fm_view_28 (by decide) ?_
        refine tr_istore (pc := 44) k_fm_view_44 (by decide) rfl ?_
        show mT g me_fm_view (d + 2) 0 0 46 [some (vr 10 0), some (vi x1), some (vi x2), some (vi x3), some (vi x4), some (vi (0 : Int32))] [] h _
        refine tr_iload_n (pc := 46) 2 k_fm_view_46 rfl rfl ?_
        refine tr_iload (pc := 47) k_fm_view_47 rfl ?_
        refine tr_icmp_lt (pc := 49) 62 k_fm_view_49 (by decide) (fun q => ?_) (fun q => ?_)
        · replace hv := hv.1 q
          refine tr_aload_n (pc := 62) 0 k_fm_view_62 rfl rfl ?_
          refine tr_bipush (pc := 63) (v := -4) k_fm_view_63 (by decide) ?_
          have hT := hv
          clear hv
          refine tr_callV (pc := 65) (d' := d + 1) (mc' := 0) (ms' := 0) [vi (-4 : Int32)] k_fm_view_65 ca_fm_refuse ml_fm_133 ii_fm_refuse ⟨by decide, rfl⟩ pa_fm_refuse (by omega) (by omega) (by omega) rfl (Nat.le_of_ble_eq_true rfl) (Nat.le_of_ble_eq_true rfl) hT (fun v h9 hv => ?_)
          clear hT
          obtain ⟨y16, rfl, hv⟩ := hv
          obtain ⟨h15, eh⟩ : ∃ z, z = h9 := ⟨_, rfl⟩
          subst eh
          obtain ⟨hskh15, hv⟩ := hv
          show mT g me_fm_view (d + 2) 0 0 68 [some (vr 10 0), some (vi x1), some (vi x2), some (vi x3), some (vi x4), some (vi (0 : Int32))] [vi y16] h15 _
          refine tr_ireturn (pc := 68) k_fm_view_68 rfl rfl ?_
          exact hv
        · replace hv := hv.2 q
          refine tr_iload_n (pc := 52) 3 k_fm_view_52 rfl rfl ?_
          refine tr_iload_n (pc := 53) 2 k_fm_view_53 rfl rfl ?_
          refine tr_icmp_lt (pc := 54) 62 k_fm_view_54 (by decide) (fun q => ?_) (fun q => ?_)
          · replace hv := hv.1 q
            refine tr_aload_n (pc := 62) 0 k_fm_view_62 rfl rfl ?_
            refine tr_bipush (pc := 63) (v := -4) k_fm_view_63 (by decide) ?_
            have hT := hv
            clear hv
            refine tr_callV (pc := 65) (d' := d + 1) (mc' := 0) (ms' := 0) [vi (-4 : Int32)] k_fm_view_65 ca_fm_refuse ml_fm_133 ii_fm_refuse ⟨by decide, rfl⟩ pa_fm_refuse (by omega) (by omega) (by omega) rfl (Nat.le_of_ble_eq_true rfl) (Nat.le_of_ble_eq_true rfl) hT (fun v h9 hv => ?_)
            clear hT
            obtain ⟨y18, rfl, hv⟩ := hv
            obtain ⟨h17, eh⟩ : ∃ z, z = h9 := ⟨_, rfl⟩
            subst eh
            obtain ⟨hskh17, hv⟩ := hv
            show mT g me_fm_view (d + 2) 0 0 68 [some (vr 10 0), some (vi x1), some (vi x2), some (vi x3), some (vi x4), some (vi (0 : Int32))] [vi y18] h17 _
            refine tr_ireturn (pc := 68) k_fm_view_68 rfl rfl ?_
            exact hv
          · replace hv := hv.2 q
            refine tr_iload (pc := 57) k_fm_view_57 rfl ?_
            refine tr_if_ge (pc := 59) 69 k_fm_view_59 (by decide) (fun q => ?_) (fun q => ?_)
            · replace hv := hv.1 q
              refine tr_iload_n (pc := 69) 3 k_fm_view_69 rfl rfl ?_
              refine tr_sipush (pc := 70) (v := 1440) k_fm_view_70 (by decide) ?_
              refine tr_icmp_gt (pc := 73) 93 k_fm_view_73 (by decide) (fun q => ?_) (fun q => ?_)
              · replace hv := hv.1 q
                refine tr_aload_n (pc := 93) 0 k_fm_view_93 rfl rfl ?_
                refine tr_bipush (pc := 94) (v := -6) k_fm_view_94 (by decide) ?_
                have hT := hv
                clear hv
                refine tr_callV (pc := 96) (d' := d + 1) (mc' := 0) (ms' := 0) [vi (-6 : Int32)] k_fm_view_96 ca_fm_refuse ml_fm_133 ii_fm_refuse ⟨by decide, rfl⟩ pa_fm_refuse (by omega) (by omega) (by omega) rfl (Nat.le_of_ble_eq_true rfl) (Nat.le_of_ble_eq_true rfl) hT (fun v h9 hv => ?_)
                clear hT
                obtain ⟨y20, rfl, hv⟩ := hv
                obtain ⟨h19, eh⟩ : ∃ z, z = h9 := ⟨_, rfl⟩
                subst eh
                obtain ⟨hskh19, hv⟩ := hv
                show mT g me_fm_view (d + 2) 0 0 99 [some (vr 10 0), some (vi x1), some (vi x2), some (vi x3), some (vi x4), some (vi (0 : Int32))] [vi y20] h19 _
                refine tr_ireturn (pc := 99) k_fm_view_99 rfl rfl ?_
                exact hv
              · replace hv := hv.2 q
                refine tr_iload (pc := 76) k_fm_view_76 rfl ?_
                refine tr_sipush (pc := 78) (v := 500) k_fm_view_78 (by decide) ?_
                refine tr_icmp_gt (pc := 81) 93 k_fm_view_81 (by decide) (fun q => ?_) (fun q => ?_)
                · replace hv := hv.1 q
                  refine tr_aload_n (pc := 93) 0 k_fm_view_93 rfl rfl ?_
                  refine tr_bipush (pc := 94) (v := -6) k_fm_view_94 (by decide) ?_
                  have hT := hv
                  clear hv
                  refine tr_callV (pc := 96) (d' := d + 1) (mc' := 0) (ms' := 0) [vi (-6 : Int32)] k_fm_view_96 ca_fm_refuse ml_fm_133 ii_fm_refuse ⟨by decide, rfl⟩ pa_fm_refuse (by omega) (by omega) (by omega) rfl (Nat.le_of_ble_eq_true rfl) (Nat.le_of_ble_eq_true rfl) hT (fun v h9 hv => ?_)
                  clear hT
                  obtain ⟨y22, rfl, hv⟩ := hv
                  obtain ⟨h21, eh⟩ : ∃ z, z = h9 := ⟨_, rfl⟩
                  subst eh
                  obtain ⟨hskh21, hv⟩ := hv
                  show mT g me_fm_view (d + 2) 0 0 99 [some (vr 10 0), some (vi x1), some (vi x2), some (vi x3), some (vi x4), some (vi (0 : Int32))] [vi y22] h21 _
                  refine tr_ireturn (pc := 99) k_fm_view_99 rfl rfl ?_
                  exact hv
                · replace hv := hv.2 q
                  refine tr_aload_n (pc := 84) 0 k_fm_view_84 rfl rfl ?_
                  refine tr_getIx (pc := 85) k_fm_view_85 fl_fm_213 rfl rfl ?_
                  refine tr_bipush (pc := 88) (v := 12) k_fm_view_88 (by decide) ?_
                  refine tr_icmp_ne (pc := 90) 100 k_fm_view_90 (by decide) (fun q => ?_) (fun q => ?_)
                  · replace hv := hv.1 q
                    refine tr_aload_n (pc := 100) 0 k_fm_view_100 rfl rfl ?_
                    refine tr_getP (pc := 101) k_fm_view_101 fl_fm_75 rfl (Eq.trans rfl (hsk.1 10 27 _ rfl)) ?_
                    refine tr_aload_n (pc := 104) 0 k_fm_view_104 rfl rfl ?_
                    refine tr_getIx (pc := 105) k_fm_view_105 fl_fm_213 rfl rfl ?_
                    refine tr_iload_n (pc := 108) 1 k_fm_view_108 rfl rfl ?_
                    refine tr_iast (pc := 109) k_fm_view_109 (mvin (hsk.2.1 11 24 _ rfl) hv.1) ?_
                    replace hv := hv.2
                    refine tr_aload_n (pc := 110) 0 k_fm_view_110 rfl rfl ?_
                    refine tr_getP (pc := 111) k_fm_view_111 fl_fm_78 rfl (Eq.trans (hP_setI) (hsk.1 10 28 _ rfl)) ?_
                    refine tr_aload_n (pc := 114) 0 k_fm_view_114 rfl rfl ?_
                    refine tr_getIx (pc := 115) k_fm_view_115 fl_fm_213 rfl (hI_nk (by decide)) ?_
                    refine tr_iload_n (pc := 118) 2 k_fm_view_118 rfl rfl ?_
                    refine tr_iast (pc := 119) k_fm_view_119 (mvin (hsk.2.1 11 25 _ rfl) hv.1) ?_
                    replace hv := hv.2
                    refine tr_aload_n (pc := 120) 0 k_fm_view_120 rfl rfl ?_
                    refine tr_getP (pc := 121) k_fm_view_121 fl_fm_81 rfl (Eq.trans (Eq.trans (hP_setI) (hP_setI)) (hsk.1 10 29 _ rfl)) ?_
                    refine tr_aload_n (pc := 124) 0 k_fm_view_124 rfl rfl ?_
                    refine tr_getIx (pc := 125) k_fm_view_125 fl_fm_213 rfl (Eq.trans (hI_nk (by decide)) (hI_nk (by decide))) ?_
                    refine tr_iload_n (pc := 128) 3 k_fm_view_128 rfl rfl ?_
                    refine tr_iast (pc := 129) k_fm_view_129 (mvin (hsk.2.1 11 26 _ rfl) hv.1) ?_
                    replace hv := hv.2
                    refine tr_aload_n (pc := 130) 0 k_fm_view_130 rfl rfl ?_
                    refine tr_getP (pc := 131) k_fm_view_131 fl_fm_84 rfl (Eq.trans (Eq.trans (hP_setI) (Eq.trans (hP_setI) (hP_setI))) (hsk.1 10 30 _ rfl)) ?_
                    refine tr_aload_n (pc := 134) 0 k_fm_view_134 rfl rfl ?_
                    refine tr_getIx (pc := 135) k_fm_view_135 fl_fm_213 rfl (Eq.trans (hI_nk (by decide)) (Eq.trans (hI_nk (by decide)) (hI_nk (by decide)))) ?_
                    refine tr_iload (pc := 138) k_fm_view_138 rfl ?_
                    refine tr_iast (pc := 140) k_fm_view_140 (mvin (hsk.2.1 11 27 _ rfl) hv.1) ?_
                    replace hv := hv.2
                    refine tr_aload_n (pc := 141) 0 k_fm_view_141 rfl rfl ?_
                    refine tr_dup (pc := 142) k_fm_view_142 rfl ?_
                    refine tr_getIx (pc := 143) k_fm_view_143 fl_fm_213 rfl (Eq.trans (hI_nk (by decide)) (Eq.trans (hI_nk (by decide)) (Eq.trans (hI_nk (by decide)) (hI_nk (by decide))))) ?_
                    refine tr_iconst (pc := 146) (v := 1) k_fm_view_146 (by decide) ?_
                    refine tr_iadd (pc := 147) k_fm_view_147 ?_
                    refine tr_putI (pc := 148) k_fm_view_148 fl_fm_213 (Or.inl rfl) rfl ⟨rfl, rfl⟩ ?_
                    refine tr_aload_n (pc := 151) 0 k_fm_view_151 rfl rfl ?_
                    refine tr_getIx (pc := 152) k_fm_view_152 fl_fm_213 rfl (hI_eq) ?_
                    refine tr_iconst (pc := 155) (v := 1) k_fm_view_155 (by decide) ?_
                    refine tr_isub (pc := 156) k_fm_view_156 ?_
                    refine tr_ireturn (pc := 157) k_fm_view_157 rfl rfl ?_
                    exact hv
                  · replace hv := hv.2 q
                    refine tr_aload_n (pc := 93) 0 k_fm_view_93 rfl rfl ?_
                    refine tr_bipush (pc := 94) (v := -6) k_fm_view_94 (by decide) ?_
                    have hT := hv
                    clear hv
                    refine tr_callV (pc := 96) (d' := d + 1) (mc' := 0) (ms' := 0) [vi (-6 : Int32)] k_fm_view_96 ca_fm_refuse ml_fm_133 ii_fm_refuse ⟨by decide, rfl⟩ pa_fm_refuse (by omega) (by omega) (by omega) rfl (Nat.le_of_ble_eq_true rfl) (Nat.le_of_ble_eq_true rfl) hT (fun v h9 hv => ?_)
                    clear hT
                    obtain ⟨y24, rfl, hv⟩ := hv
                    obtain ⟨h23, eh⟩ : ∃ z, z = h9 := ⟨_, rfl⟩
                    subst eh
                    obtain ⟨hskh23, hv⟩ := hv
                    show mT g me_fm_view (d + 2) 0 0 99 [some (vr 10 0), some (vi x1), some (vi x2), some (vi x3), some (vi x4), some (vi (0 : Int32))] [vi y24] h23 _
                    refine tr_ireturn (pc := 99) k_fm_view_99 rfl rfl ?_
                    exact hv
            · replace hv := hv.2 q
              refine tr_aload_n (pc := 62) 0 k_fm_view_62 rfl rfl ?_
              refine tr_bipush (pc := 63) (v := -4) k_fm_view_63 (by decide) ?_
              have hT := hv
              clear hv
              refine tr_callV (pc := 65) (d' := d + 1) (mc' := 0) (ms' := 0) [vi (-4 : Int32)] k_fm_view_65 ca_fm_refuse ml_fm_133 ii_fm_refuse ⟨by decide, rfl⟩ pa_fm_refuse (by omega) (by omega) (by omega) rfl (Nat.le_of_ble_eq_true rfl) (Nat.le_of_ble_eq_true rfl) hT (fun v h9 hv => ?_)
              clear hT
              obtain ⟨y26, rfl, hv⟩ := hv
              obtain ⟨h25, eh⟩ : ∃ z, z = h9 := ⟨_, rfl⟩
              subst eh
              obtain ⟨hskh25, hv⟩ := hv
              show mT g me_fm_view (d + 2) 0 0 68 [some (vr 10 0), some (vi x1), some (vi x2), some (vi x3), some (vi x4), some (vi (0 : Int32))] [vi y26] h25 _
              refine tr_ireturn (pc := 68) k_fm_view_68 rfl rfl ?_
              exact hv
    · replace hv := hv.2 q
      refine tr_aload_n (pc := 14) 0 k_fm_view_14 rfl rfl ?_
      refine tr_iconst (pc := 15) (v := -1) k_fm_view_15 (by decide) ?_
      have hT := hv
      clear hv
      refine tr_callV (pc := 16) (d' := d + 1) (mc' := 0) (ms' := 0) [vi (-1 : Int32)] k_fm_view_16 ca_fm_refuse ml_fm_133 ii_fm_refuse ⟨by decide, rfl⟩ pa_fm_refuse (by omega) (by omega) (by omega) rfl (Nat.le_of_ble_eq_true rfl) (Nat.le_of_ble_eq_true rfl) hT (fun v h9 hv => ?_)
      clear hT
      obtain ⟨y28, rfl, hv⟩ := hv
      obtain ⟨h27, eh⟩ : ∃ z, z = h9 := ⟨_, rfl⟩
      subst eh
      obtain ⟨hskh27, hv⟩ := hv
      show mT g me_fm_view (d + 2) 0 0 19 [some (vr 10 0), some (vi x1), some (vi x2), some (vi x3), some (vi x4), none] [vi y28] h27 _
      refine tr_ireturn (pc := 19) k_fm_view_19 rfl rfl ?_
      exact hv
theorem v_fm_unview_0 {g : mG} {d : Nat}  {h : mH} {Q : Option mV → mH → Prop} (hsk : mSK h) (hv : ((¬ (hI h 10 0 5) = 0 → Q (some (vi ((hI h 10 0 5) - (1 : Int32)))) (setI h 10 0 5 ((hI h 10 0 5) - (1 : Int32)))) ∧ ((hI h 10 0 5) = 0 → mT g me_fm_refuse (d + 1) 0 0 0 [some (vr 10 0), some (vi (-3 : Int32))] [] h (fun v h1 => ∃ y2, v = some (vi y2) ∧ mSK h1 ∧ Q (some (vi y2)) h1)))) : mT g me_fm_unview (d + 2) 0 0 0 [some (vr 10 0)] [] h Q := by
  refine tr_aload_n (pc := 0) 0 k_fm_unview_0 rfl rfl ?_
  refine tr_getIx (pc := 1) k_fm_unview_1 fl_fm_213 rfl rfl ?_
  refine tr_if_ne (pc := 4) 14 k_fm_unview_4 (by decide) (fun q => ?_) (fun q => ?_)
  · replace hv := hv.1 q
    refine tr_aload_n (pc := 14) 0 k_fm_unview_14 rfl rfl ?_
    refine tr_dup (pc := 15) k_fm_unview_15 rfl ?_
    refine tr_getIx (pc := 16) k_fm_unview_16 fl_fm_213 rfl rfl ?_
    refine tr_iconst (pc := 19) (v := 1) k_fm_unview_19 (by decide) ?_
    refine tr_isub (pc := 20) k_fm_unview_20 ?_
    refine tr_putI (pc := 21) k_fm_unview_21 fl_fm_213 (Or.inl rfl) rfl ⟨rfl, rfl⟩ ?_
    refine tr_aload_n (pc := 24) 0 k_fm_unview_24 rfl rfl ?_
    refine tr_getIx (pc := 25) k_fm_unview_25 fl_fm_213 rfl (hI_eq) ?_
    refine tr_ireturn (pc := 28) k_fm_unview_28 rfl rfl ?_
    exact hv
  · replace hv := hv.2 q
    refine tr_aload_n (pc := 7) 0 k_fm_unview_7 rfl rfl ?_
    refine tr_bipush (pc := 8) (v := -3) k_fm_unview_8 (by decide) ?_
    have hT := hv
    clear hv
    refine tr_callV (pc := 10) (d' := d + 1) (mc' := 0) (ms' := 0) [vi (-3 : Int32)] k_fm_unview_10 ca_fm_refuse ml_fm_133 ii_fm_refuse ⟨by decide, rfl⟩ pa_fm_refuse (by omega) (by omega) (by omega) rfl (Nat.le_of_ble_eq_true rfl) (Nat.le_of_ble_eq_true rfl) hT (fun v h9 hv => ?_)
    clear hT
    obtain ⟨y2, rfl, hv⟩ := hv
    obtain ⟨h1, eh⟩ : ∃ z, z = h9 := ⟨_, rfl⟩
    subst eh
    obtain ⟨hskh1, hv⟩ := hv
    show mT g me_fm_unview (d + 2) 0 0 13 [some (vr 10 0)] [vi y2] h1 _
    refine tr_ireturn (pc := 13) k_fm_unview_13 rfl rfl ?_
    exact hv
theorem v_fm_walk_0 {g : mG} {d : Nat} (x1 : Int32) {h : mH} {Q : Option mV → mH → Prop} (hsk : mSK h) (hv : ((x1 < 0 → mT g me_fm_refuse (d + 3) 0 0 0 [some (vr 10 0), some (vi (-2 : Int32))] [] h (fun v h1 => ∃ y2, v = some (vi y2) ∧ mSK h1 ∧ Q (some (vi y2)) h1)) ∧ (¬ x1 < 0 → (((5 : Int32) ≤ x1 → mT g me_fm_refuse (d + 3) 0 0 0 [some (vr 10 0), some (vi (-2 : Int32))] [] h (fun v h3 => ∃ y4, v = some (vi y4) ∧ mSK h3 ∧ Q (some (vi y4)) h3)) ∧ (¬ (5 : Int32) ≤ x1 → mT g me_fm_hasWalk (d + 3) 0 0 0 [some (vr 10 0)] [] h (fun v h5 => ∃ y6, v = some (vi y6) ∧ mSK h5 ∧ ((¬ y6 = 0 → mT g me_fm_walks (d + 3) 0 0 0 [some (vr 10 0), some (vi (1 : Int32)), none, none, none, none] [] h5 (fun v h7 => v = none ∧ mSK h7 ∧ ((¬ x1 = 0 → ((¬ x1 = (1 : Int32) → ((¬ x1 = (2 : Int32) → ((¬ x1 = (3 : Int32) → Q (some (vi (hI h7 10 0 47))) h7) ∧ (x1 = (3 : Int32) → Q (some (vi (hI h7 10 0 46))) h7))) ∧ (x1 = (2 : Int32) → Q (some (vi (hI h7 10 0 45))) h7))) ∧ (x1 = (1 : Int32) → Q (some (vi (hI h7 10 0 44))) h7))) ∧ (x1 = 0 → Q (some (vi (hI h7 10 0 43))) h7)))) ∧ (y6 = 0 → mT g me_fm_refuse (d + 3) 0 0 0 [some (vr 10 0), some (vi (-3 : Int32))] [] h5 (fun v h8 => ∃ y9, v = some (vi y9) ∧ mSK h8 ∧ Q (some (vi y9)) h8))))))))) : mT g me_fm_walk (d + 4) 0 0 0 [some (vr 10 0), some (vi x1)] [] h Q := by
  refine tr_iload_n (pc := 0) 1 k_fm_walk_0 rfl rfl ?_
  refine tr_iconst (pc := 1) (v := 5) k_fm_walk_1 (by decide) ?_
  refine tr_callS (pc := 2) (d' := d + 3) (mc' := 0) (ms' := 0) [vi x1, vi (5 : Int32)] k_fm_walk_2 ca_fm_isIn ml_fm_144 is_fm_isIn pa_fm_isIn (by omega) (by omega) (by omega) rfl (Nat.le_of_ble_eq_true rfl) (Nat.le_of_ble_eq_true rfl) (Qk := fun v h9 => mT g me_fm_walk (d + 4) 0 0 5 [some (vr 10 0), some (vi x1)] (v.toList ++ []) h9 _) ?_ (fun _ _ z => z)
  show mT g me_fm_isIn (d + 3) 0 0 0 [some (vi x1), some (vi (5 : Int32))] [] h _
  refine tr_iload_n (pc := 0) 0 k_fm_isIn_0 rfl rfl ?_
  refine tr_if_lt (pc := 1) 13 k_fm_isIn_1 (by decide) (fun q => ?_) (fun q => ?_)
  · replace hv := hv.1 q
    refine tr_iconst (pc := 13) (v := 0) k_fm_isIn_13 (by decide) ?_
    refine tr_ireturn (pc := 14) k_fm_isIn_14 rfl rfl ?_
    show mT g me_fm_walk (d + 4) 0 0 5 [some (vr 10 0), some (vi x1)] [vi (0 : Int32)] h _
    refine tr_if_ne (pc := 5) 15 k_fm_walk_5 (by decide) (fun q => absurd q (by decide)) (fun _ => ?_)
    refine tr_aload_n (pc := 8) 0 k_fm_walk_8 rfl rfl ?_
    refine tr_bipush (pc := 9) (v := -2) k_fm_walk_9 (by decide) ?_
    have hT := hv
    clear hv
    refine tr_callV (pc := 11) (d' := d + 3) (mc' := 0) (ms' := 0) [vi (-2 : Int32)] k_fm_walk_11 ca_fm_refuse ml_fm_133 ii_fm_refuse ⟨by decide, rfl⟩ pa_fm_refuse (by omega) (by omega) (by omega) rfl (Nat.le_of_ble_eq_true rfl) (Nat.le_of_ble_eq_true rfl) hT (fun v h9 hv => ?_)
    clear hT
    obtain ⟨y2, rfl, hv⟩ := hv
    obtain ⟨h1, eh⟩ : ∃ z, z = h9 := ⟨_, rfl⟩
    subst eh
    obtain ⟨hskh1, hv⟩ := hv
    show mT g me_fm_walk (d + 4) 0 0 14 [some (vr 10 0), some (vi x1)] [vi y2] h1 _
    refine tr_ireturn (pc := 14) k_fm_walk_14 rfl rfl ?_
    exact hv
  · replace hv := hv.2 q
    refine tr_iload_n (pc := 4) 0 k_fm_isIn_4 rfl rfl ?_
    refine tr_iload_n (pc := 5) 1 k_fm_isIn_5 rfl rfl ?_
    refine tr_icmp_ge (pc := 6) 13 k_fm_isIn_6 (by decide) (fun q => ?_) (fun q => ?_)
    · replace hv := hv.1 q
      refine tr_iconst (pc := 13) (v := 0) k_fm_isIn_13 (by decide) ?_
      refine tr_ireturn (pc := 14) k_fm_isIn_14 rfl rfl ?_
      show mT g me_fm_walk (d + 4) 0 0 5 [some (vr 10 0), some (vi x1)] [vi (0 : Int32)] h _
      refine tr_if_ne (pc := 5) 15 k_fm_walk_5 (by decide) (fun q => absurd q (by decide)) (fun _ => ?_)
      refine tr_aload_n (pc := 8) 0 k_fm_walk_8 rfl rfl ?_
      refine tr_bipush (pc := 9) (v := -2) k_fm_walk_9 (by decide) ?_
      have hT := hv
      clear hv
      refine tr_callV (pc := 11) (d' := d + 3) (mc' := 0) (ms' := 0) [vi (-2 : Int32)] k_fm_walk_11 ca_fm_refuse ml_fm_133 ii_fm_refuse ⟨by decide, rfl⟩ pa_fm_refuse (by omega) (by omega) (by omega) rfl (Nat.le_of_ble_eq_true rfl) (Nat.le_of_ble_eq_true rfl) hT (fun v h9 hv => ?_)
      clear hT
      obtain ⟨y4, rfl, hv⟩ := hv
      obtain ⟨h3, eh⟩ : ∃ z, z = h9 := ⟨_, rfl⟩
      subst eh
      obtain ⟨hskh3, hv⟩ := hv
      show mT g me_fm_walk (d + 4) 0 0 14 [some (vr 10 0), some (vi x1)] [vi y4] h3 _
      refine tr_ireturn (pc := 14) k_fm_walk_14 rfl rfl ?_
      exact hv
    · replace hv := hv.2 q
      refine tr_iconst (pc := 9) (v := 1) k_fm_isIn_9 (by decide) ?_
      refine tr_goto (pc := 10) 14 k_fm_isIn_10 (by decide) ?_
      refine tr_ireturn (pc := 14) k_fm_isIn_14 rfl rfl ?_
      show mT g me_fm_walk (d + 4) 0 0 5 [some (vr 10 0), some (vi x1)] [vi (1 : Int32)] h _
      refine tr_if_ne (pc := 5) 15 k_fm_walk_5 (by decide) (fun _ => ?_) (fun q => absurd q (by decide))
      refine tr_aload_n (pc := 15) 0 k_fm_walk_15 rfl rfl ?_
      have hT := hv
      clear hv
      refine tr_callV (pc := 16) (d' := d + 3) (mc' := 0) (ms' := 0) [] k_fm_walk_16 ca_fm_hasWalk ml_fm_240 ii_fm_hasWalk ⟨by decide, rfl⟩ pa_fm_hasWalk (by omega) (by omega) (by omega) rfl (Nat.le_of_ble_eq_true rfl) (Nat.le_of_ble_eq_true rfl) hT (fun v h9 hv => ?_)
      clear hT
      obtain ⟨y6, rfl, hv⟩ := hv
      obtain ⟨h5, eh⟩ : ∃ z, z = h9 := ⟨_, rfl⟩
      subst eh
      obtain ⟨hskh5, hv⟩ := hv
      show mT g me_fm_walk (d + 4) 0 0 19 [some (vr 10 0), some (vi x1)] [vi y6] h5 _
      refine tr_if_ne (pc := 19) 29 k_fm_walk_19 (by decide) (fun q => ?_) (fun q => ?_)
      · replace hv := hv.1 q
        refine tr_aload_n (pc := 29) 0 k_fm_walk_29 rfl rfl ?_
        refine tr_iconst (pc := 30) (v := 1) k_fm_walk_30 (by decide) ?_
        have hT := hv
        clear hv
        refine tr_callV (pc := 31) (d' := d + 3) (mc' := 0) (ms' := 0) [vi (1 : Int32)] k_fm_walk_31 ca_fm_walks ml_fm_244 ii_fm_walks ⟨by decide, rfl⟩ pa_fm_walks (by omega) (by omega) (by omega) rfl (Nat.le_of_ble_eq_true rfl) (Nat.le_of_ble_eq_true rfl) hT (fun v h9 hv => ?_)
        clear hT
        obtain ⟨rfl, hv⟩ := hv
        obtain ⟨h7, eh⟩ : ∃ z, z = h9 := ⟨_, rfl⟩
        subst eh
        obtain ⟨hskh7, hv⟩ := hv
        show mT g me_fm_walk (d + 4) 0 0 34 [some (vr 10 0), some (vi x1)] [] h7 _
        refine tr_iload_n (pc := 34) 1 k_fm_walk_34 rfl rfl ?_
        refine tr_if_ne (pc := 35) 45 k_fm_walk_35 (by decide) (fun q => ?_) (fun q => ?_)
        · replace hv := hv.1 q
          refine tr_iload_n (pc := 45) 1 k_fm_walk_45 rfl rfl ?_
          refine tr_iconst (pc := 46) (v := 1) k_fm_walk_46 (by decide) ?_
          refine tr_icmp_ne (pc := 47) 57 k_fm_walk_47 (by decide) (fun q => ?_) (fun q => ?_)
          · replace hv := hv.1 q
            refine tr_iload_n (pc := 57) 1 k_fm_walk_57 rfl rfl ?_
            refine tr_iconst (pc := 58) (v := 2) k_fm_walk_58 (by decide) ?_
            refine tr_icmp_ne (pc := 59) 69 k_fm_walk_59 (by decide) (fun q => ?_) (fun q => ?_)
            · replace hv := hv.1 q
              refine tr_iload_n (pc := 69) 1 k_fm_walk_69 rfl rfl ?_
              refine tr_iconst (pc := 70) (v := 3) k_fm_walk_70 (by decide) ?_
              refine tr_icmp_ne (pc := 71) 81 k_fm_walk_71 (by decide) (fun q => ?_) (fun q => ?_)
              · replace hv := hv.1 q
                refine tr_aload_n (pc := 81) 0 k_fm_walk_81 rfl rfl ?_
                refine tr_getIx (pc := 82) k_fm_walk_82 fl_fm_228 rfl rfl ?_
                refine tr_ireturn (pc := 85) k_fm_walk_85 rfl rfl ?_
                exact hv
              · replace hv := hv.2 q
                refine tr_aload_n (pc := 74) 0 k_fm_walk_74 rfl rfl ?_
                refine tr_getIx (pc := 75) k_fm_walk_75 fl_fm_225 rfl rfl ?_
                refine tr_goto (pc := 78) 85 k_fm_walk_78 (by decide) ?_
                refine tr_ireturn (pc := 85) k_fm_walk_85 rfl rfl ?_
                exact hv
            · replace hv := hv.2 q
              refine tr_aload_n (pc := 62) 0 k_fm_walk_62 rfl rfl ?_
              refine tr_getIx (pc := 63) k_fm_walk_63 fl_fm_222 rfl rfl ?_
              refine tr_goto (pc := 66) 85 k_fm_walk_66 (by decide) ?_
              refine tr_ireturn (pc := 85) k_fm_walk_85 rfl rfl ?_
              exact hv
          · replace hv := hv.2 q
            refine tr_aload_n (pc := 50) 0 k_fm_walk_50 rfl rfl ?_
            refine tr_getIx (pc := 51) k_fm_walk_51 fl_fm_219 rfl rfl ?_
            refine tr_goto (pc := 54) 85 k_fm_walk_54 (by decide) ?_
            refine tr_ireturn (pc := 85) k_fm_walk_85 rfl rfl ?_
            exact hv
        · replace hv := hv.2 q
          refine tr_aload_n (pc := 38) 0 k_fm_walk_38 rfl rfl ?_
          refine tr_getIx (pc := 39) k_fm_walk_39 fl_fm_216 rfl rfl ?_
          refine tr_goto (pc := 42) 85 k_fm_walk_42 (by decide) ?_
          refine tr_ireturn (pc := 85) k_fm_walk_85 rfl rfl ?_
          exact hv
      · replace hv := hv.2 q
        refine tr_aload_n (pc := 22) 0 k_fm_walk_22 rfl rfl ?_
        refine tr_bipush (pc := 23) (v := -3) k_fm_walk_23 (by decide) ?_
        have hT := hv
        clear hv
        refine tr_callV (pc := 25) (d' := d + 3) (mc' := 0) (ms' := 0) [vi (-3 : Int32)] k_fm_walk_25 ca_fm_refuse ml_fm_133 ii_fm_refuse ⟨by decide, rfl⟩ pa_fm_refuse (by omega) (by omega) (by omega) rfl (Nat.le_of_ble_eq_true rfl) (Nat.le_of_ble_eq_true rfl) hT (fun v h9 hv => ?_)
        clear hT
        obtain ⟨y9, rfl, hv⟩ := hv
        obtain ⟨h8, eh⟩ : ∃ z, z = h9 := ⟨_, rfl⟩
        subst eh
        obtain ⟨hskh8, hv⟩ := hv
        show mT g me_fm_walk (d + 4) 0 0 28 [some (vr 10 0), some (vi x1)] [vi y9] h8 _
        refine tr_ireturn (pc := 28) k_fm_walk_28 rfl rfl ?_
        exact hv
theorem v_fm_hasWalk_0 {g : mG} {d : Nat}  {h : mH} {Q : Option mV → mH → Prop} (hsk : mSK h) (hv : (((hI h 10 0 5) ≤ 0 → Q (some (vi (0 : Int32))) h) ∧ (¬ (hI h 10 0 5) ≤ 0 → (vp_in ((hI h 10 0 5) - (1 : Int32)) 12 ∧ (((hI h 11 26 (((hI h 10 0 5) - (1 : Int32)).toNatClampNeg)) < (hI h 10 0 1) → Q (some (vi (0 : Int32))) h) ∧ (¬ (hI h 11 26 (((hI h 10 0 5) - (1 : Int32)).toNatClampNeg)) < (hI h 10 0 1) → Q (some (vi (1 : Int32))) h)))))) : mT g me_fm_hasWalk (d + 1) 0 0 0 [some (vr 10 0)] [] h Q := by
  refine tr_aload_n (pc := 0) 0 k_fm_hasWalk_0 rfl rfl ?_
  refine tr_getIx (pc := 1) k_fm_hasWalk_1 fl_fm_213 rfl rfl ?_
  refine tr_if_le (pc := 4) 29 k_fm_hasWalk_4 (by decide) (fun q => ?_) (fun q => ?_)
  · replace hv := hv.1 q
    refine tr_iconst (pc := 29) (v := 0) k_fm_hasWalk_29 (by decide) ?_
    refine tr_ireturn (pc := 30) k_fm_hasWalk_30 rfl rfl ?_
    exact hv
  · replace hv := hv.2 q
    refine tr_aload_n (pc := 7) 0 k_fm_hasWalk_7 rfl rfl ?_
    refine tr_getP (pc := 8) k_fm_hasWalk_8 fl_fm_81 rfl (Eq.trans rfl (hsk.1 10 29 _ rfl)) ?_
    refine tr_aload_n (pc := 11) 0 k_fm_hasWalk_11 rfl rfl ?_
    refine tr_getIx (pc := 12) k_fm_hasWalk_12 fl_fm_213 rfl rfl ?_
    refine tr_iconst (pc := 15) (v := 1) k_fm_hasWalk_15 (by decide) ?_
    refine tr_isub (pc := 16) k_fm_hasWalk_16 ?_
    refine tr_ialdx (pc := 17) k_fm_hasWalk_17 (mvin (hsk.2.1 11 26 _ rfl) hv.1) rfl ?_
    replace hv := hv.2
    refine tr_aload_n (pc := 18) 0 k_fm_hasWalk_18 rfl rfl ?_
    refine tr_getIx (pc := 19) k_fm_hasWalk_19 fl_fm_206 rfl rfl ?_
    refine tr_icmp_lt (pc := 22) 29 k_fm_hasWalk_22 (by decide) (fun q => ?_) (fun q => ?_)
    · replace hv := hv.1 q
      refine tr_iconst (pc := 29) (v := 0) k_fm_hasWalk_29 (by decide) ?_
      refine tr_ireturn (pc := 30) k_fm_hasWalk_30 rfl rfl ?_
      exact hv
    · replace hv := hv.2 q
      refine tr_iconst (pc := 25) (v := 1) k_fm_hasWalk_25 (by decide) ?_
      refine tr_goto (pc := 26) 30 k_fm_hasWalk_26 (by decide) ?_
      refine tr_ireturn (pc := 30) k_fm_hasWalk_30 rfl rfl ?_
      exact hv
theorem v_fm_walks_0 {g : mG} {d : Nat} (x1 : Int32) {h : mH} {Q : Option mV → mH → Prop} (hsk : mSK h) (hv : mT g me_fm_sees (d + 2) 0 0 0 [some (vr 10 0)] [] h (fun v h1 => v = none ∧ mSK h1 ∧ mT g me_fm_looksAt (d + 2) 0 0 0 [some (vr 10 0), none] [] (setI (setI (setI (setI (setI (setI h1 10 0 43 (-9 : Int32)) 10 0 44 (-9 : Int32)) 10 0 45 (-9 : Int32)) 10 0 46 (0 : Int32)) 10 0 47 (-1 : Int32)) 10 0 48 (500 : Int32)) (fun v h2 => v = none ∧ mSK h2 ∧ mT g me_fm_walks (d + 3) 0 0 48 [some (vr 10 0), some (vi x1), some (vi (hI h2 10 0 1)), none, none, none] [] h2 Q))) : mT g me_fm_walks (d + 3) 0 0 0 [some (vr 10 0), some (vi x1), none, none, none, none] [] h Q := by
  refine tr_aload_n (pc := 0) 0 k_fm_walks_0 rfl rfl ?_
  have hT := hv
  clear hv
  refine tr_callV (pc := 1) (d' := d + 2) (mc' := 0) (ms' := 0) [] k_fm_walks_1 ca_fm_sees ml_fm_179 ii_fm_sees ⟨by decide, rfl⟩ pa_fm_sees (by omega) (by omega) (by omega) rfl (Nat.le_of_ble_eq_true rfl) (Nat.le_of_ble_eq_true rfl) hT (fun v h9 hv => ?_)
  clear hT
  obtain ⟨rfl, hv⟩ := hv
  obtain ⟨h1, eh⟩ : ∃ z, z = h9 := ⟨_, rfl⟩
  subst eh
  obtain ⟨hskh1, hv⟩ := hv
  show mT g me_fm_walks (d + 3) 0 0 4 [some (vr 10 0), some (vi x1), none, none, none, none] [] h1 _
  refine tr_aload_n (pc := 4) 0 k_fm_walks_4 rfl rfl ?_
  refine tr_bipush (pc := 5) (v := -9) k_fm_walks_5 (by decide) ?_
  refine tr_putI (pc := 7) k_fm_walks_7 fl_fm_216 (Or.inl rfl) rfl ⟨rfl, rfl⟩ ?_
  refine tr_aload_n (pc := 10) 0 k_fm_walks_10 rfl rfl ?_
  refine tr_bipush (pc := 11) (v := -9) k_fm_walks_11 (by decide) ?_
  refine tr_putI (pc := 13) k_fm_walks_13 fl_fm_219 (Or.inl rfl) rfl ⟨rfl, rfl⟩ ?_
  refine tr_aload_n (pc := 16) 0 k_fm_walks_16 rfl rfl ?_
  refine tr_bipush (pc := 17) (v := -9) k_fm_walks_17 (by decide) ?_
  refine tr_putI (pc := 19) k_fm_walks_19 fl_fm_222 (Or.inl rfl) rfl ⟨rfl, rfl⟩ ?_
  refine tr_aload_n (pc := 22) 0 k_fm_walks_22 rfl rfl ?_
  refine tr_iconst (pc := 23) (v := 0) k_fm_walks_23 (by decide) ?_
  refine tr_putI (pc := 24) k_fm_walks_24 fl_fm_225 (Or.inl rfl) rfl ⟨rfl, rfl⟩ ?_
  refine tr_aload_n (pc := 27) 0 k_fm_walks_27 rfl rfl ?_
  refine tr_iconst (pc := 28) (v := -1) k_fm_walks_28 (by decide) ?_
  refine tr_putI (pc := 29) k_fm_walks_29 fl_fm_228 (Or.inl rfl) rfl ⟨rfl, rfl⟩ ?_
  refine tr_aload_n (pc := 32) 0 k_fm_walks_32 rfl rfl ?_
  refine tr_sipush (pc := 33) (v := 500) k_fm_walks_33 (by decide) ?_
  refine tr_putI (pc := 36) k_fm_walks_36 fl_fm_231 (Or.inl rfl) rfl ⟨rfl, rfl⟩ ?_
  refine tr_aload_n (pc := 39) 0 k_fm_walks_39 rfl rfl ?_
  have hT := hv
  clear hv
  refine tr_callV (pc := 40) (d' := d + 2) (mc' := 0) (ms' := 0) [] k_fm_walks_40 ca_fm_looksAt ml_fm_234 ii_fm_looksAt ⟨by decide, rfl⟩ pa_fm_looksAt (by omega) (by omega) (by omega) rfl (Nat.le_of_ble_eq_true rfl) (Nat.le_of_ble_eq_true rfl) hT (fun v h9 hv => ?_)
  clear hT
  obtain ⟨rfl, hv⟩ := hv
  obtain ⟨h2, eh⟩ : ∃ z, z = h9 := ⟨_, rfl⟩
  subst eh
  obtain ⟨hskh2, hv⟩ := hv
  show mT g me_fm_walks (d + 3) 0 0 43 [some (vr 10 0), some (vi x1), none, none, none, none] [] h2 _
  refine tr_aload_n (pc := 43) 0 k_fm_walks_43 rfl rfl ?_
  refine tr_getIx (pc := 44) k_fm_walks_44 fl_fm_206 rfl rfl ?_
  refine tr_istore_n (pc := 47) 2 k_fm_walks_47 rfl (by decide) rfl ?_
  show mT g me_fm_walks (d + 3) 0 0 48 [some (vr 10 0), some (vi x1), some (vi (hI h2 10 0 1)), none, none, none] [] h2 _
  exact hv
theorem v_fm_walks_48 {g : mG} {d : Nat} (x1 : Int32) (x2 : Int32) (o3 : Option mV) (o4 : Option mV) (o5 : Option mV) {h : mH} {Q : Option mV → mH → Prop} (hsk : mSK h) (hv : (vp_in ((hI h 10 0 5) - (1 : Int32)) 12 ∧ (((hI h 11 26 (((hI h 10 0 5) - (1 : Int32)).toNatClampNeg)) < x2 → Q none h) ∧ (¬ (hI h 11 26 (((hI h 10 0 5) - (1 : Int32)).toNatClampNeg)) < x2 → mT g me_fm_viewAt (d + 2) 0 0 0 [some (vr 10 0), some (vi x2), none] [] h (fun v h1 => ∃ y2, v = some (vi y2) ∧ mSK h1 ∧ mT g me_fm_walks (d + 3) 0 0 72 [some (vr 10 0), some (vi x1), some (vi x2), some (vi y2), some (vi (0 : Int32)), o5] [] h1 Q))))) : mT g me_fm_walks (d + 3) 0 0 48 [some (vr 10 0), some (vi x1), some (vi x2), o3, o4, o5] [] h Q := by
  refine tr_iload_n (pc := 48) 2 k_fm_walks_48 rfl rfl ?_
  refine tr_aload_n (pc := 49) 0 k_fm_walks_49 rfl rfl ?_
  refine tr_getP (pc := 50) k_fm_walks_50 fl_fm_81 rfl (Eq.trans rfl (hsk.1 10 29 _ rfl)) ?_
  refine tr_aload_n (pc := 53) 0 k_fm_walks_53 rfl rfl ?_
  refine tr_getIx (pc := 54) k_fm_walks_54 fl_fm_213 rfl rfl ?_
  refine tr_iconst (pc := 57) (v := 1) k_fm_walks_57 (by decide) ?_
  refine tr_isub (pc := 58) k_fm_walks_58 ?_
  refine tr_ialdx (pc := 59) k_fm_walks_59 (mvin (hsk.2.1 11 26 _ rfl) hv.1) rfl ?_
  replace hv := hv.2
  refine tr_icmp_gt (pc := 60) 260 k_fm_walks_60 (by decide) (fun q => ?_) (fun q => ?_)
  · replace hv := hv.1 q
    refine tr_return (pc := 260) k_fm_walks_260 rfl ?_
    exact hv
  · replace hv := hv.2 q
    refine tr_aload_n (pc := 63) 0 k_fm_walks_63 rfl rfl ?_
    refine tr_iload_n (pc := 64) 2 k_fm_walks_64 rfl rfl ?_
    have hT := hv
    clear hv
    refine tr_callV (pc := 65) (d' := d + 2) (mc' := 0) (ms' := 0) [vi x2] k_fm_walks_65 ca_fm_viewAt ml_fm_237 ii_fm_viewAt ⟨by decide, rfl⟩ pa_fm_viewAt (by omega) (by omega) (by omega) rfl (Nat.le_of_ble_eq_true rfl) (Nat.le_of_ble_eq_true rfl) hT (fun v h9 hv => ?_)
    clear hT
    obtain ⟨y2, rfl, hv⟩ := hv
    obtain ⟨h1, eh⟩ : ∃ z, z = h9 := ⟨_, rfl⟩
    subst eh
    obtain ⟨hskh1, hv⟩ := hv
    show mT g me_fm_walks (d + 3) 0 0 68 [some (vr 10 0), some (vi x1), some (vi x2), o3, o4, o5] [vi y2] h1 _
    refine tr_istore_n (pc := 68) 3 k_fm_walks_68 rfl (by decide) rfl ?_
    show mT g me_fm_walks (d + 3) 0 0 69 [some (vr 10 0), some (vi x1), some (vi x2), some (vi y2), o4, o5] [] h1 _
    refine tr_iconst (pc := 69) (v := 0) k_fm_walks_69 (by decide) ?_
    refine tr_istore (pc := 70) k_fm_walks_70 (by decide) rfl ?_
    show mT g me_fm_walks (d + 3) 0 0 72 [some (vr 10 0), some (vi x1), some (vi x2), some (vi y2), some (vi (0 : Int32)), o5] [] h1 _
    exact hv
theorem v_fm_walks_72 {g : mG} {d : Nat} (x1 : Int32) (x2 : Int32) (x3 : Int32) (x4 : Int32) (o5 : Option mV) {h : mH} {Q : Option mV → mH → Prop} (hsk : mSK h) (hv : (((hI h 10 0 4) ≤ x4 → mT g me_fm_runs (d + 2) 0 0 0 [some (vr 10 0), none, none, none] [] h (fun v h1 => v = none ∧ mSK h1 ∧ mT g me_fm_walks (d + 3) 0 0 125 [some (vr 10 0), some (vi x1), some (vi x2), some (vi x3), some (vi (0 : Int32)), o5] [] h1 Q)) ∧ (¬ (hI h 10 0 4) ≤ x4 → ((x3 < 0 → (vp_in x4 24 ∧ mT g me_fm_walks (d + 3) 0 0 72 [some (vr 10 0), some (vi x1), some (vi x2), some (vi x3), some (vi (x4 + 1)), o5] [] (setI h 12 2 x4.toNatClampNeg (0 : Int32)) Q)) ∧ (¬ x3 < 0 → (vp_in x3 12 ∧ ((¬ (((hI h 11 24 x3.toNatClampNeg) >>> (x4 &&& 31)) &&& (1 : Int32)) = (1 : Int32) → (vp_in x4 24 ∧ mT g me_fm_walks (d + 3) 0 0 72 [some (vr 10 0), some (vi x1), some (vi x2), some (vi x3), some (vi (x4 + 1)), o5] [] (setI h 12 2 x4.toNatClampNeg (0 : Int32)) Q)) ∧ ((((hI h 11 24 x3.toNatClampNeg) >>> (x4 &&& 31)) &&& (1 : Int32)) = (1 : Int32) → (vp_in x4 24 ∧ mT g me_fm_walks (d + 3) 0 0 72 [some (vr 10 0), some (vi x1), some (vi x2), some (vi x3), some (vi (x4 + 1)), o5] [] (setI h 12 2 x4.toNatClampNeg (1 : Int32)) Q))))))))) : mT g me_fm_walks (d + 3) 0 0 72 [some (vr 10 0), some (vi x1), some (vi x2), some (vi x3), some (vi x4), o5] [] h Q := by
  refine tr_iload (pc := 72) k_fm_walks_72 rfl ?_
  refine tr_aload_n (pc := 74) 0 k_fm_walks_74 rfl rfl ?_
  refine tr_getIx (pc := 75) k_fm_walks_75 fl_fm_158 rfl rfl ?_
  refine tr_icmp_ge (pc := 78) 118 k_fm_walks_78 (by decide) (fun q => ?_) (fun q => ?_)
  · replace hv := hv.1 q
    refine tr_aload_n (pc := 118) 0 k_fm_walks_118 rfl rfl ?_
    have hT := hv
    clear hv
    refine tr_callV (pc := 119) (d' := d + 2) (mc' := 0) (ms' := 0) [] k_fm_walks_119 ca_fm_runs ml_fm_176 ii_fm_runs ⟨by decide, rfl⟩ pa_fm_runs (by omega) (by omega) (by omega) rfl (Nat.le_of_ble_eq_true rfl) (Nat.le_of_ble_eq_true rfl) hT (fun v h9 hv => ?_)
    clear hT
    obtain ⟨rfl, hv⟩ := hv
    obtain ⟨h1, eh⟩ : ∃ z, z = h9 := ⟨_, rfl⟩
    subst eh
    obtain ⟨hskh1, hv⟩ := hv
    show mT g me_fm_walks (d + 3) 0 0 122 [some (vr 10 0), some (vi x1), some (vi x2), some (vi x3), some (vi x4), o5] [] h1 _
    refine tr_iconst (pc := 122) (v := 0) k_fm_walks_122 (by decide) ?_
    refine tr_istore (pc := 123) k_fm_walks_123 (by decide) rfl ?_
    show mT g me_fm_walks (d + 3) 0 0 125 [some (vr 10 0), some (vi x1), some (vi x2), some (vi x3), some (vi (0 : Int32)), o5] [] h1 _
    exact hv
  · replace hv := hv.2 q
    refine tr_aload_n (pc := 81) 0 k_fm_walks_81 rfl rfl ?_
    refine tr_getP (pc := 82) k_fm_walks_82 fl_fm_108 rfl (Eq.trans rfl (hsk.1 10 38 _ rfl)) ?_
    refine tr_iload (pc := 85) k_fm_walks_85 rfl ?_
    refine tr_iload_n (pc := 87) 3 k_fm_walks_87 rfl rfl ?_
    refine tr_if_lt (pc := 88) 110 k_fm_walks_88 (by decide) (fun q => ?_) (fun q => ?_)
    · replace hv := hv.1 q
      refine tr_iconst (pc := 110) (v := 0) k_fm_walks_110 (by decide) ?_
      refine tr_zast (pc := 111) k_fm_walks_111 (mvin (hsk.2.1 12 2 _ rfl) hv.1) rfl ?_
      replace hv := hv.2
      refine tr_iinc (pc := 112) (v := (x4 + 1)) k_fm_walks_112 rfl rfl (by decide) rfl ?_
      show mT g me_fm_walks (d + 3) 0 0 115 [some (vr 10 0), some (vi x1), some (vi x2), some (vi x3), some (vi (x4 + 1)), o5] [] (setI h 12 2 x4.toNatClampNeg (0 : Int32)) _
      refine tr_goto (pc := 115) 72 k_fm_walks_115 (by decide) ?_
      exact hv
    · replace hv := hv.2 q
      refine tr_aload_n (pc := 91) 0 k_fm_walks_91 rfl rfl ?_
      refine tr_getP (pc := 92) k_fm_walks_92 fl_fm_75 rfl (Eq.trans rfl (hsk.1 10 27 _ rfl)) ?_
      refine tr_iload_n (pc := 95) 3 k_fm_walks_95 rfl rfl ?_
      refine tr_ialdx (pc := 96) k_fm_walks_96 (mvin (hsk.2.1 11 24 _ rfl) hv.1) rfl ?_
      replace hv := hv.2
      refine tr_iload (pc := 97) k_fm_walks_97 rfl ?_
      refine tr_ishr (pc := 99) k_fm_walks_99 ?_
      refine tr_iconst (pc := 100) (v := 1) k_fm_walks_100 (by decide) ?_
      refine tr_iand (pc := 101) k_fm_walks_101 ?_
      refine tr_iconst (pc := 102) (v := 1) k_fm_walks_102 (by decide) ?_
      refine tr_icmp_ne (pc := 103) 110 k_fm_walks_103 (by decide) (fun q => ?_) (fun q => ?_)
      · replace hv := hv.1 q
        refine tr_iconst (pc := 110) (v := 0) k_fm_walks_110 (by decide) ?_
        refine tr_zast (pc := 111) k_fm_walks_111 (mvin (hsk.2.1 12 2 _ rfl) hv.1) rfl ?_
        replace hv := hv.2
        refine tr_iinc (pc := 112) (v := (x4 + 1)) k_fm_walks_112 rfl rfl (by decide) rfl ?_
        show mT g me_fm_walks (d + 3) 0 0 115 [some (vr 10 0), some (vi x1), some (vi x2), some (vi x3), some (vi (x4 + 1)), o5] [] (setI h 12 2 x4.toNatClampNeg (0 : Int32)) _
        refine tr_goto (pc := 115) 72 k_fm_walks_115 (by decide) ?_
        exact hv
      · replace hv := hv.2 q
        refine tr_iconst (pc := 106) (v := 1) k_fm_walks_106 (by decide) ?_
        refine tr_goto (pc := 107) 111 k_fm_walks_107 (by decide) ?_
        refine tr_zast (pc := 111) k_fm_walks_111 (mvin (hsk.2.1 12 2 _ rfl) hv.1) rfl ?_
        replace hv := hv.2
        refine tr_iinc (pc := 112) (v := (x4 + 1)) k_fm_walks_112 rfl rfl (by decide) rfl ?_
        show mT g me_fm_walks (d + 3) 0 0 115 [some (vr 10 0), some (vi x1), some (vi x2), some (vi x3), some (vi (x4 + 1)), o5] [] (setI h 12 2 x4.toNatClampNeg (1 : Int32)) _
        refine tr_goto (pc := 115) 72 k_fm_walks_115 (by decide) ?_
        exact hv
theorem v_fm_walks_125 {g : mG} {d : Nat} (x1 : Int32) (x2 : Int32) (x3 : Int32) (x4 : Int32) (o5 : Option mV) {h : mH} {Q : Option mV → mH → Prop} (hsk : mSK h) (hv : (((hI h 10 0 4) ≤ x4 → mT g me_fm_walks (d + 3) 0 0 216 [some (vr 10 0), some (vi x1), some (vi x2), some (vi x3), some (vi (0 : Int32)), o5] [] h Q) ∧ (¬ (hI h 10 0 4) ≤ x4 → ((x3 < 0 → mT g me_fm_walks (d + 3) 0 0 216 [some (vr 10 0), some (vi x1), some (vi x2), some (vi x3), some (vi (0 : Int32)), o5] [] h Q) ∧ (¬ x3 < 0 → (vp_in x4 24 ∧ ((¬ (hI h 12 2 x4.toNatClampNeg) = 0 → mT g me_fm_riseOf (d + 2) 0 0 0 [some (vr 10 0), some (vi x4)] [] h (fun v h1 => ∃ y2, v = some (vi y2) ∧ mSK h1 ∧ ((x1 = 0 → mT g me_fm_walks (d + 3) 0 0 125 [some (vr 10 0), some (vi x1), some (vi x2), some (vi x3), some (vi (x4 + 1)), some (vi y2)] [] (setI h1 10 0 48 (if y2 < (hI h1 10 0 48) then y2 else (hI h1 10 0 48))) Q) ∧ (¬ x1 = 0 → (vp_in x3 12 ∧ ((y2 < (hI h1 11 27 x3.toNatClampNeg) → Q none (setI (setI (setI (setI h1 10 0 48 (if y2 < (hI h1 10 0 48) then y2 else (hI h1 10 0 48))) 10 0 43 x2) 10 0 44 x3) 10 0 45 x4)) ∧ (¬ y2 < (hI h1 11 27 x3.toNatClampNeg) → mT g me_fm_walks (d + 3) 0 0 125 [some (vr 10 0), some (vi x1), some (vi x2), some (vi x3), some (vi (x4 + 1)), some (vi y2)] [] (setI h1 10 0 48 (if y2 < (hI h1 10 0 48) then y2 else (hI h1 10 0 48))) Q))))))) ∧ ((hI h 12 2 x4.toNatClampNeg) = 0 → mT g me_fm_walks (d + 3) 0 0 125 [some (vr 10 0), some (vi x1), some (vi x2), some (vi x3), some (vi (x4 + 1)), o5] [] h Q)))))))) : mT g me_fm_walks (d + 3) 0 0 125 [some (vr 10 0), some (vi x1), some (vi x2), some (vi x3), some (vi x4), o5] [] h Q := by
  refine tr_iload (pc := 125) k_fm_walks_125 rfl ?_
  refine tr_aload_n (pc := 127) 0 k_fm_walks_127 rfl rfl ?_
  refine tr_getIx (pc := 128) k_fm_walks_128 fl_fm_158 rfl rfl ?_
  refine tr_icmp_ge (pc := 131) 213 k_fm_walks_131 (by decide) (fun q => ?_) (fun q => ?_)
  · replace hv := hv.1 q
    refine tr_iconst (pc := 213) (v := 0) k_fm_walks_213 (by decide) ?_
    refine tr_istore (pc := 214) k_fm_walks_214 (by decide) rfl ?_
    show mT g me_fm_walks (d + 3) 0 0 216 [some (vr 10 0), some (vi x1), some (vi x2), some (vi x3), some (vi (0 : Int32)), o5] [] h _
    exact hv
  · replace hv := hv.2 q
    refine tr_iload_n (pc := 134) 3 k_fm_walks_134 rfl rfl ?_
    refine tr_if_lt (pc := 135) 213 k_fm_walks_135 (by decide) (fun q => ?_) (fun q => ?_)
    · replace hv := hv.1 q
      refine tr_iconst (pc := 213) (v := 0) k_fm_walks_213 (by decide) ?_
      refine tr_istore (pc := 214) k_fm_walks_214 (by decide) rfl ?_
      show mT g me_fm_walks (d + 3) 0 0 216 [some (vr 10 0), some (vi x1), some (vi x2), some (vi x3), some (vi (0 : Int32)), o5] [] h _
      exact hv
    · replace hv := hv.2 q
      refine tr_aload_n (pc := 138) 0 k_fm_walks_138 rfl rfl ?_
      refine tr_getP (pc := 139) k_fm_walks_139 fl_fm_108 rfl (Eq.trans rfl (hsk.1 10 38 _ rfl)) ?_
      refine tr_iload (pc := 142) k_fm_walks_142 rfl ?_
      refine tr_zaldx (pc := 144) k_fm_walks_144 (mvin (hsk.2.1 12 2 _ rfl) hv.1) rfl ?_
      replace hv := hv.2
      refine tr_if_ne (pc := 145) 151 k_fm_walks_145 (by decide) (fun q => ?_) (fun q => ?_)
      · replace hv := hv.1 q
        refine tr_aload_n (pc := 151) 0 k_fm_walks_151 rfl rfl ?_
        refine tr_iload (pc := 152) k_fm_walks_152 rfl ?_
        have hT := hv
        clear hv
        refine tr_callV (pc := 154) (d' := d + 2) (mc' := 0) (ms' := 0) [vi x4] k_fm_walks_154 ca_fm_riseOf ml_fm_185 ii_fm_riseOf ⟨by decide, rfl⟩ pa_fm_riseOf (by omega) (by omega) (by omega) rfl (Nat.le_of_ble_eq_true rfl) (Nat.le_of_ble_eq_true rfl) hT (fun v h9 hv => ?_)
        clear hT
        obtain ⟨y2, rfl, hv⟩ := hv
        obtain ⟨h1, eh⟩ : ∃ z, z = h9 := ⟨_, rfl⟩
        subst eh
        obtain ⟨hskh1, hv⟩ := hv
        show mT g me_fm_walks (d + 3) 0 0 157 [some (vr 10 0), some (vi x1), some (vi x2), some (vi x3), some (vi x4), o5] [vi y2] h1 _
        refine tr_istore (pc := 157) k_fm_walks_157 (by decide) rfl ?_
        show mT g me_fm_walks (d + 3) 0 0 159 [some (vr 10 0), some (vi x1), some (vi x2), some (vi x3), some (vi x4), some (vi y2)] [] h1 _
        refine tr_aload_n (pc := 159) 0 k_fm_walks_159 rfl rfl ?_
        refine tr_aload_n (pc := 160) 0 k_fm_walks_160 rfl rfl ?_
        refine tr_getIx (pc := 161) k_fm_walks_161 fl_fm_231 rfl rfl ?_
        refine tr_iload (pc := 164) k_fm_walks_164 rfl ?_
        refine tr_min (pc := 166) k_fm_walks_166 ml_fm_197 (by omega) (Nat.le_of_ble_eq_true rfl) ?_
        refine tr_putI (pc := 169) k_fm_walks_169 fl_fm_231 (Or.inl rfl) rfl ⟨rfl, rfl⟩ ?_
        refine tr_iload_n (pc := 172) 1 k_fm_walks_172 rfl rfl ?_
        refine tr_if_eq (pc := 173) 207 k_fm_walks_173 (by decide) (fun q => ?_) (fun q => ?_)
        · replace hv := hv.1 q
          refine tr_iinc (pc := 207) (v := (x4 + 1)) k_fm_walks_207 rfl rfl (by decide) rfl ?_
          show mT g me_fm_walks (d + 3) 0 0 210 [some (vr 10 0), some (vi x1), some (vi x2), some (vi x3), some (vi (x4 + 1)), some (vi y2)] [] (setI h1 10 0 48 (if y2 < (hI h1 10 0 48) then y2 else (hI h1 10 0 48))) _
          refine tr_goto (pc := 210) 125 k_fm_walks_210 (by decide) ?_
          exact hv
        · replace hv := hv.2 q
          refine tr_iload (pc := 176) k_fm_walks_176 rfl ?_
          refine tr_aload_n (pc := 178) 0 k_fm_walks_178 rfl rfl ?_
          refine tr_getP (pc := 179) k_fm_walks_179 fl_fm_84 rfl (Eq.trans (hP_setI) (hskh1.1 10 30 _ rfl)) ?_
          refine tr_iload_n (pc := 182) 3 k_fm_walks_182 rfl rfl ?_
          refine tr_ialdx (pc := 183) k_fm_walks_183 (mvin (hskh1.2.1 11 27 _ rfl) hv.1) (hI_nk (by decide)) ?_
          replace hv := hv.2
          refine tr_icmp_lt (pc := 184) 190 k_fm_walks_184 (by decide) (fun q => ?_) (fun q => ?_)
          · replace hv := hv.1 q
            refine tr_aload_n (pc := 190) 0 k_fm_walks_190 rfl rfl ?_
            refine tr_iload_n (pc := 191) 2 k_fm_walks_191 rfl rfl ?_
            refine tr_putI (pc := 192) k_fm_walks_192 fl_fm_216 (Or.inl rfl) rfl ⟨rfl, rfl⟩ ?_
            refine tr_aload_n (pc := 195) 0 k_fm_walks_195 rfl rfl ?_
            refine tr_iload_n (pc := 196) 3 k_fm_walks_196 rfl rfl ?_
            refine tr_putI (pc := 197) k_fm_walks_197 fl_fm_219 (Or.inl rfl) rfl ⟨rfl, rfl⟩ ?_
            refine tr_aload_n (pc := 200) 0 k_fm_walks_200 rfl rfl ?_
            refine tr_iload (pc := 201) k_fm_walks_201 rfl ?_
            refine tr_putI (pc := 203) k_fm_walks_203 fl_fm_222 (Or.inl rfl) rfl ⟨rfl, rfl⟩ ?_
            refine tr_return (pc := 206) k_fm_walks_206 rfl ?_
            exact hv
          · replace hv := hv.2 q
            refine tr_goto (pc := 187) 207 k_fm_walks_187 (by decide) ?_
            refine tr_iinc (pc := 207) (v := (x4 + 1)) k_fm_walks_207 rfl rfl (by decide) rfl ?_
            show mT g me_fm_walks (d + 3) 0 0 210 [some (vr 10 0), some (vi x1), some (vi x2), some (vi x3), some (vi (x4 + 1)), some (vi y2)] [] (setI h1 10 0 48 (if y2 < (hI h1 10 0 48) then y2 else (hI h1 10 0 48))) _
            refine tr_goto (pc := 210) 125 k_fm_walks_210 (by decide) ?_
            exact hv
      · replace hv := hv.2 q
        refine tr_goto (pc := 148) 207 k_fm_walks_148 (by decide) ?_
        refine tr_iinc (pc := 207) (v := (x4 + 1)) k_fm_walks_207 rfl rfl (by decide) rfl ?_
        show mT g me_fm_walks (d + 3) 0 0 210 [some (vr 10 0), some (vi x1), some (vi x2), some (vi x3), some (vi (x4 + 1)), o5] [] h _
        refine tr_goto (pc := 210) 125 k_fm_walks_210 (by decide) ?_
        exact hv
