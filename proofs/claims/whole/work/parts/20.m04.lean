/-! LastWalkerModel.goOne(III)V -/
theorem dX9_goOne_0 : decode cX9_goOne 0 = .ok (.aload_n 0, 1) := by decide +kernel
theorem dX9_goOne_1 : decode cX9_goOne 1 = .ok (.getfield 84, 3) := by decide +kernel
theorem dX9_goOne_4 : decode cX9_goOne 4 = .ok (.iload_n 1, 1) := by decide +kernel
theorem dX9_goOne_5 : decode cX9_goOne 5 = .ok (.iaload, 1) := by decide +kernel
theorem dX9_goOne_6 : decode cX9_goOne 6 = .ok (.istore 4, 2) := by decide +kernel
theorem dX9_goOne_8 : decode cX9_goOne 8 = .ok (.aload_n 0, 1) := by decide +kernel
theorem dX9_goOne_9 : decode cX9_goOne 9 = .ok (.getfield 87, 3) := by decide +kernel
theorem dX9_goOne_12 : decode cX9_goOne 12 = .ok (.iload_n 1, 1) := by decide +kernel
theorem dX9_goOne_13 : decode cX9_goOne 13 = .ok (.iaload, 1) := by decide +kernel
theorem dX9_goOne_14 : decode cX9_goOne 14 = .ok (.iload_n 3, 1) := by decide +kernel
theorem dX9_goOne_15 : decode cX9_goOne 15 = .ok (.if_icmp .le 12, 3) := by decide +kernel
theorem dX9_goOne_18 : decode cX9_goOne 18 = .ok (.aload_n 0, 1) := by decide +kernel
theorem dX9_goOne_19 : decode cX9_goOne 19 = .ok (.getfield 87, 3) := by decide +kernel
theorem dX9_goOne_22 : decode cX9_goOne 22 = .ok (.iload_n 1, 1) := by decide +kernel
theorem dX9_goOne_23 : decode cX9_goOne 23 = .ok (.iaload, 1) := by decide +kernel
theorem dX9_goOne_24 : decode cX9_goOne 24 = .ok (.goto 4, 3) := by decide +kernel
theorem dX9_goOne_27 : decode cX9_goOne 27 = .ok (.iload_n 3, 1) := by decide +kernel
theorem dX9_goOne_28 : decode cX9_goOne 28 = .ok (.istore 5, 2) := by decide +kernel
theorem dX9_goOne_30 : decode cX9_goOne 30 = .ok (.iload 4, 2) := by decide +kernel
theorem dX9_goOne_32 : decode cX9_goOne 32 = .ok (.iload_n 2, 1) := by decide +kernel
theorem dX9_goOne_33 : decode cX9_goOne 33 = .ok (.if_icmp .eq 22, 3) := by decide +kernel
theorem dX9_goOne_36 : decode cX9_goOne 36 = .ok (.aload_n 0, 1) := by decide +kernel
theorem dX9_goOne_37 : decode cX9_goOne 37 = .ok (.iload_n 1, 1) := by decide +kernel
theorem dX9_goOne_38 : decode cX9_goOne 38 = .ok (.aload_n 0, 1) := by decide +kernel
theorem dX9_goOne_39 : decode cX9_goOne 39 = .ok (.getfield 41, 3) := by decide +kernel
theorem dX9_goOne_42 : decode cX9_goOne 42 = .ok (.iload_n 1, 1) := by decide +kernel
theorem dX9_goOne_43 : decode cX9_goOne 43 = .ok (.iaload, 1) := by decide +kernel
theorem dX9_goOne_44 : decode cX9_goOne 44 = .ok (.iload 5, 2) := by decide +kernel
theorem dX9_goOne_46 : decode cX9_goOne 46 = .ok (.iload 4, 2) := by decide +kernel
theorem dX9_goOne_48 : decode cX9_goOne 48 = .ok (.iload_n 2, 1) := by decide +kernel
theorem dX9_goOne_49 : decode cX9_goOne 49 = .ok (.invokevirtual 376, 3) := by decide +kernel
theorem dX9_goOne_52 : decode cX9_goOne 52 = .ok (.ifCond .ne 4, 3) := by decide +kernel
theorem dX9_goOne_55 : decode cX9_goOne 55 = .ok (.return_, 1) := by decide +kernel
theorem dX9_goOne_56 : decode cX9_goOne 56 = .ok (.aload_n 0, 1) := by decide +kernel
theorem dX9_goOne_57 : decode cX9_goOne 57 = .ok (.invokevirtual 384, 3) := by decide +kernel
theorem dX9_goOne_60 : decode cX9_goOne 60 = .ok (.istore 6, 2) := by decide +kernel
theorem dX9_goOne_62 : decode cX9_goOne 62 = .ok (.aload_n 0, 1) := by decide +kernel
theorem dX9_goOne_63 : decode cX9_goOne 63 = .ok (.iload_n 1, 1) := by decide +kernel
theorem dX9_goOne_64 : decode cX9_goOne 64 = .ok (.iload 5, 2) := by decide +kernel
theorem dX9_goOne_66 : decode cX9_goOne 66 = .ok (.invokevirtual 389, 3) := by decide +kernel
theorem dX9_goOne_69 : decode cX9_goOne 69 = .ok (.aload_n 0, 1) := by decide +kernel
theorem dX9_goOne_70 : decode cX9_goOne 70 = .ok (.getfield 84, 3) := by decide +kernel
theorem dX9_goOne_73 : decode cX9_goOne 73 = .ok (.iload_n 1, 1) := by decide +kernel
theorem dX9_goOne_74 : decode cX9_goOne 74 = .ok (.iload_n 2, 1) := by decide +kernel
theorem dX9_goOne_75 : decode cX9_goOne 75 = .ok (.iastore, 1) := by decide +kernel
theorem dX9_goOne_76 : decode cX9_goOne 76 = .ok (.aload_n 0, 1) := by decide +kernel
theorem dX9_goOne_77 : decode cX9_goOne 77 = .ok (.getfield 87, 3) := by decide +kernel
theorem dX9_goOne_80 : decode cX9_goOne 80 = .ok (.iload_n 1, 1) := by decide +kernel
theorem dX9_goOne_81 : decode cX9_goOne 81 = .ok (.iload 5, 2) := by decide +kernel
theorem dX9_goOne_83 : decode cX9_goOne 83 = .ok (.iload 6, 2) := by decide +kernel
theorem dX9_goOne_85 : decode cX9_goOne 85 = .ok (.iadd, 1) := by decide +kernel
theorem dX9_goOne_86 : decode cX9_goOne 86 = .ok (.iastore, 1) := by decide +kernel
theorem dX9_goOne_87 : decode cX9_goOne 87 = .ok (.aload_n 0, 1) := by decide +kernel
theorem dX9_goOne_88 : decode cX9_goOne 88 = .ok (.getfield 99, 3) := by decide +kernel
theorem dX9_goOne_91 : decode cX9_goOne 91 = .ok (.iload_n 1, 1) := by decide +kernel
theorem dX9_goOne_92 : decode cX9_goOne 92 = .ok (.dup2, 1) := by decide +kernel
theorem dX9_goOne_93 : decode cX9_goOne 93 = .ok (.iaload, 1) := by decide +kernel
theorem dX9_goOne_94 : decode cX9_goOne 94 = .ok (.iload 6, 2) := by decide +kernel
theorem dX9_goOne_96 : decode cX9_goOne 96 = .ok (.aload_n 0, 1) := by decide +kernel
theorem dX9_goOne_97 : decode cX9_goOne 97 = .ok (.getfield 75, 3) := by decide +kernel
theorem dX9_goOne_100 : decode cX9_goOne 100 = .ok (.bipush 9, 2) := by decide +kernel
theorem dX9_goOne_102 : decode cX9_goOne 102 = .ok (.iload 4, 2) := by decide +kernel
theorem dX9_goOne_104 : decode cX9_goOne 104 = .ok (.imul, 1) := by decide +kernel
theorem dX9_goOne_105 : decode cX9_goOne 105 = .ok (.iload_n 2, 1) := by decide +kernel
theorem dX9_goOne_106 : decode cX9_goOne 106 = .ok (.iadd, 1) := by decide +kernel
theorem dX9_goOne_107 : decode cX9_goOne 107 = .ok (.iaload, 1) := by decide +kernel
theorem dX9_goOne_108 : decode cX9_goOne 108 = .ok (.isub, 1) := by decide +kernel
theorem dX9_goOne_109 : decode cX9_goOne 109 = .ok (.iadd, 1) := by decide +kernel
theorem dX9_goOne_110 : decode cX9_goOne 110 = .ok (.iastore, 1) := by decide +kernel
theorem dX9_goOne_111 : decode cX9_goOne 111 = .ok (.aload_n 0, 1) := by decide +kernel
theorem dX9_goOne_112 : decode cX9_goOne 112 = .ok (.dup, 1) := by decide +kernel
theorem dX9_goOne_113 : decode cX9_goOne 113 = .ok (.getfield 404, 3) := by decide +kernel
theorem dX9_goOne_116 : decode cX9_goOne 116 = .ok (.iload 5, 2) := by decide +kernel
theorem dX9_goOne_118 : decode cX9_goOne 118 = .ok (.iload_n 3, 1) := by decide +kernel
theorem dX9_goOne_119 : decode cX9_goOne 119 = .ok (.isub, 1) := by decide +kernel
theorem dX9_goOne_120 : decode cX9_goOne 120 = .ok (.iadd, 1) := by decide +kernel
theorem dX9_goOne_121 : decode cX9_goOne 121 = .ok (.putfield 404, 3) := by decide +kernel
theorem dX9_goOne_124 : decode cX9_goOne 124 = .ok (.aload_n 0, 1) := by decide +kernel
theorem dX9_goOne_125 : decode cX9_goOne 125 = .ok (.aload_n 0, 1) := by decide +kernel
theorem dX9_goOne_126 : decode cX9_goOne 126 = .ok (.getfield 87, 3) := by decide +kernel
theorem dX9_goOne_129 : decode cX9_goOne 129 = .ok (.iload_n 1, 1) := by decide +kernel
theorem dX9_goOne_130 : decode cX9_goOne 130 = .ok (.iaload, 1) := by decide +kernel
theorem dX9_goOne_131 : decode cX9_goOne 131 = .ok (.aload_n 0, 1) := by decide +kernel
theorem dX9_goOne_132 : decode cX9_goOne 132 = .ok (.getfield 401, 3) := by decide +kernel
theorem dX9_goOne_135 : decode cX9_goOne 135 = .ok (.if_icmp .le 12, 3) := by decide +kernel
theorem dX9_goOne_138 : decode cX9_goOne 138 = .ok (.aload_n 0, 1) := by decide +kernel
theorem dX9_goOne_139 : decode cX9_goOne 139 = .ok (.getfield 87, 3) := by decide +kernel
theorem dX9_goOne_142 : decode cX9_goOne 142 = .ok (.iload_n 1, 1) := by decide +kernel
theorem dX9_goOne_143 : decode cX9_goOne 143 = .ok (.iaload, 1) := by decide +kernel
theorem dX9_goOne_144 : decode cX9_goOne 144 = .ok (.goto 7, 3) := by decide +kernel
theorem dX9_goOne_147 : decode cX9_goOne 147 = .ok (.aload_n 0, 1) := by decide +kernel
theorem dX9_goOne_148 : decode cX9_goOne 148 = .ok (.getfield 401, 3) := by decide +kernel
theorem dX9_goOne_151 : decode cX9_goOne 151 = .ok (.putfield 401, 3) := by decide +kernel
theorem dX9_goOne_154 : decode cX9_goOne 154 = .ok (.return_, 1) := by decide +kernel
noncomputable def k_X9_goOne_28 (F : Nat) : AK := ak_istore 5 (ak_iload 4 (ak_iload 2 (ak_cmpeq (ak_return) (ak_aload 0 (ak_iload 1 (ak_aload 0 (ak_getf 9 32 (ak_iload 1 (ak_iald (ak_iload 5 (ak_iload 4 (ak_iload 2 (ak_callv 9 5 (m_X9_finds F) (ak_ifeq (ak_return) (ak_aload 0 (ak_callv 9 0 (m_X9_minutesOfBest F) (ak_istore 6 (ak_aload 0 (ak_iload 1 (ak_iload 5 (ak_callv 9 2 (m_X9_walk F) (ak_aload 0 (ak_getf 9 52 (ak_iload 1 (ak_iload 2 (ak_iast (ak_aload 0 (ak_getf 9 53 (ak_iload 1 (ak_iload 5 (ak_iload 6 (ak_iadd (ak_iast (ak_aload 0 (ak_getf 9 57 (ak_iload 1 (ak_dup2 (ak_iald (ak_iload 6 (ak_aload 0 (ak_getf 9 49 (ak_push (vI 9) (ak_iload 4 (ak_imul (ak_iload 2 (ak_iadd (ak_iald (ak_isub (ak_iadd (ak_iast (ak_aload 0 (ak_dup (ak_getf 9 61 (ak_iload 5 (ak_iload 3 (ak_isub (ak_iadd (ak_putf 9 61 (ak_aload 0 (ak_aload 0 (ak_getf 9 53 (ak_iload 1 (ak_iald (ak_aload 0 (ak_getf 9 60 (ak_cmpgt (ak_aload 0 (ak_getf 9 53 (ak_iload 1 (ak_iald (ak_putf 9 60 ak_return))))) (ak_aload 0 (ak_getf 9 60 (ak_putf 9 60 ak_return)))))))))))))))))))))))))))))))))))))))))))))))))))))))))))))))))))))
set_option maxRecDepth 20000 in
theorem sk_X9_goOne_28 (F : Nat) : Snd X0 RX9 cX9_goOne 7 5 28 (k_X9_goOne_28 F) := by
  unfold k_X9_goOne_28
  exact snd_istore (pc := 28) (i := 5) (by decide) dX9_goOne_28 (snd_iload (pc := 30) (i := 4) dX9_goOne_30 (snd_iload_n (pc := 32) (i := 2) dX9_goOne_32 (snd_icmpeq (pc := 33) (off := 22) (tgt := 55) (by decide) dX9_goOne_33 (snd_return dX9_goOne_55) (snd_aload_n (pc := 36) (i := 0) dX9_goOne_36 (snd_iload_n (pc := 37) (i := 1) dX9_goOne_37 (snd_aload_n (pc := 38) (i := 0) dX9_goOne_38 (snd_getf (pc := 39) cls9 (f := 32) (by decide) wd_1335 dX9_goOne_39 (snd_iload_n (pc := 42) (i := 1) dX9_goOne_42 (snd_iald (pc := 43) dX9_goOne_43 (snd_iload (pc := 44) (i := 5) dX9_goOne_44 (snd_iload (pc := 46) (i := 4) dX9_goOne_46 (snd_iload_n (pc := 48) (i := 2) dX9_goOne_48 (snd_callV (pc := 49) (n := 5) cls9 (s_X9_finds F) (by decide) (by decide) wd_1732 wd_1729 wd_1731 wd_90 wd_129 hy_X9_finds dX9_goOne_49 (snd_ifne (pc := 52) (off := 4) (tgt := 56) (by decide) dX9_goOne_52 (snd_aload_n (pc := 56) (i := 0) dX9_goOne_56 (snd_callV (pc := 57) (n := 0) cls9 (s_X9_minutesOfBest F) (by decide) (by decide) wd_1748 wd_1745 wd_1747 wd_94 wd_129 hy_X9_minutesOfBest dX9_goOne_57 (snd_istore (pc := 60) (i := 6) (by decide) dX9_goOne_60 (snd_aload_n (pc := 62) (i := 0) dX9_goOne_62 (snd_iload_n (pc := 63) (i := 1) dX9_goOne_63 (snd_iload (pc := 64) (i := 5) dX9_goOne_64 (snd_callV (pc := 66) (n := 2) cls9 (s_X9_walk F) (by decide) (by decide) wd_1757 wd_1754 wd_1756 wd_95 wd_129 hy_X9_walk dX9_goOne_66 (snd_aload_n (pc := 69) (i := 0) dX9_goOne_69 (snd_getf (pc := 70) cls9 (f := 52) (by decide) wd_1355 dX9_goOne_70 (snd_iload_n (pc := 73) (i := 1) dX9_goOne_73 (snd_iload_n (pc := 74) (i := 2) dX9_goOne_74 (snd_iast (pc := 75) dX9_goOne_75 (snd_aload_n (pc := 76) (i := 0) dX9_goOne_76 (snd_getf (pc := 77) cls9 (f := 53) (by decide) wd_1356 dX9_goOne_77 (snd_iload_n (pc := 80) (i := 1) dX9_goOne_80 (snd_iload (pc := 81) (i := 5) dX9_goOne_81 (snd_iload (pc := 83) (i := 6) dX9_goOne_83 (snd_iadd (pc := 85) dX9_goOne_85 (snd_iast (pc := 86) dX9_goOne_86 (snd_aload_n (pc := 87) (i := 0) dX9_goOne_87 (snd_getf (pc := 88) cls9 (f := 57) (by decide) wd_1360 dX9_goOne_88 (snd_iload_n (pc := 91) (i := 1) dX9_goOne_91 (snd_dup2 (pc := 92) dX9_goOne_92 (snd_iald (pc := 93) dX9_goOne_93 (snd_iload (pc := 94) (i := 6) dX9_goOne_94 (snd_aload_n (pc := 96) (i := 0) dX9_goOne_96 (snd_getf (pc := 97) cls9 (f := 49) (by decide) wd_1352 dX9_goOne_97 (snd_bipush (pc := 100) (by decide) dX9_goOne_100 (snd_iload (pc := 102) (i := 4) dX9_goOne_102 (snd_imul (pc := 104) dX9_goOne_104 (snd_iload_n (pc := 105) (i := 2) dX9_goOne_105 (snd_iadd (pc := 106) dX9_goOne_106 (snd_iald (pc := 107) dX9_goOne_107 (snd_isub (pc := 108) dX9_goOne_108 (snd_iadd (pc := 109) dX9_goOne_109 (snd_iast (pc := 110) dX9_goOne_110 (snd_aload_n (pc := 111) (i := 0) dX9_goOne_111 (snd_dup (pc := 112) dX9_goOne_112 (snd_getf (pc := 113) cls9 (f := 61) (by decide) wd_1364 dX9_goOne_113 (snd_iload (pc := 116) (i := 5) dX9_goOne_116 (snd_iload_n (pc := 118) (i := 3) dX9_goOne_118 (snd_isub (pc := 119) dX9_goOne_119 (snd_iadd (pc := 120) dX9_goOne_120 (snd_putf (pc := 121) cls9 (f := 61) (by decide) rfl rfl rfl wd_1364 dX9_goOne_121 (snd_aload_n (pc := 124) (i := 0) dX9_goOne_124 (snd_aload_n (pc := 125) (i := 0) dX9_goOne_125 (snd_getf (pc := 126) cls9 (f := 53) (by decide) wd_1356 dX9_goOne_126 (snd_iload_n (pc := 129) (i := 1) dX9_goOne_129 (snd_iald (pc := 130) dX9_goOne_130 (snd_aload_n (pc := 131) (i := 0) dX9_goOne_131 (snd_getf (pc := 132) cls9 (f := 60) (by decide) wd_1363 dX9_goOne_132 (snd_icmple (pc := 135) (off := 12) (tgt := 147) (by decide) dX9_goOne_135 (snd_aload_n (pc := 147) (i := 0) dX9_goOne_147 (snd_getf (pc := 148) cls9 (f := 60) (by decide) wd_1363 dX9_goOne_148 (snd_putf (pc := 151) cls9 (f := 60) (by decide) rfl rfl rfl wd_1363 dX9_goOne_151 (snd_return dX9_goOne_154)))) (snd_aload_n (pc := 138) (i := 0) dX9_goOne_138 (snd_getf (pc := 139) cls9 (f := 53) (by decide) wd_1356 dX9_goOne_139 (snd_iload_n (pc := 142) (i := 1) dX9_goOne_142 (snd_iald (pc := 143) dX9_goOne_143 (snd_goto (pc := 144) (off := 7) (tgt := 151) (by decide) dX9_goOne_144 (snd_putf (pc := 151) cls9 (f := 60) (by decide) rfl rfl rfl wd_1363 dX9_goOne_151 (snd_return dX9_goOne_154))))))))))))))))))))))))))))))))))))))))))))))))))))))))))) (snd_return dX9_goOne_55)))))))))))))))
noncomputable def k_X9_goOne (F : Nat) : AK := ak_aload 0 (ak_getf 9 52 (ak_iload 1 (ak_iald (ak_istore 4 (ak_aload 0 (ak_getf 9 53 (ak_iload 1 (ak_iald (ak_iload 3 (ak_cmpgt (ak_aload 0 (ak_getf 9 53 (ak_iload 1 (ak_iald ((k_X9_goOne_28 F)))))) (ak_iload 3 ((k_X9_goOne_28 F)))))))))))))
noncomputable def m_X9_goOne (F : Nat) : AF := mkF 0 7 (k_X9_goOne F)
set_option maxRecDepth 20000 in
theorem s_X9_goOne (F : Nat) : MA yX9_goOne cX9_goOne 7 none 5 (m_X9_goOne F) := met_of (Or.inl ⟨rfl, rfl⟩) (by decide) (by
  unfold k_X9_goOne
  exact snd_aload_n (pc := 0) (i := 0) dX9_goOne_0 (snd_getf (pc := 1) cls9 (f := 52) (by decide) wd_1355 dX9_goOne_1 (snd_iload_n (pc := 4) (i := 1) dX9_goOne_4 (snd_iald (pc := 5) dX9_goOne_5 (snd_istore (pc := 6) (i := 4) (by decide) dX9_goOne_6 (snd_aload_n (pc := 8) (i := 0) dX9_goOne_8 (snd_getf (pc := 9) cls9 (f := 53) (by decide) wd_1356 dX9_goOne_9 (snd_iload_n (pc := 12) (i := 1) dX9_goOne_12 (snd_iald (pc := 13) dX9_goOne_13 (snd_iload_n (pc := 14) (i := 3) dX9_goOne_14 (snd_icmple (pc := 15) (off := 12) (tgt := 27) (by decide) dX9_goOne_15 (snd_iload_n (pc := 27) (i := 3) dX9_goOne_27 ((sk_X9_goOne_28 F))) (snd_aload_n (pc := 18) (i := 0) dX9_goOne_18 (snd_getf (pc := 19) cls9 (f := 53) (by decide) wd_1356 dX9_goOne_19 (snd_iload_n (pc := 22) (i := 1) dX9_goOne_22 (snd_iald (pc := 23) dX9_goOne_23 (snd_goto (pc := 24) (off := 4) (tgt := 28) (by decide) dX9_goOne_24 ((sk_X9_goOne_28 F))))))))))))))))))

/-! LastWalkerModel.goAll(I)V -/
theorem dX9_goAll_0 : decode cX9_goAll 0 = .ok (.iconst 0, 1) := by decide +kernel
theorem dX9_goAll_1 : decode cX9_goAll 1 = .ok (.istore_n 2, 1) := by decide +kernel
theorem dX9_goAll_2 : decode cX9_goAll 2 = .ok (.iload_n 2, 1) := by decide +kernel
theorem dX9_goAll_3 : decode cX9_goAll 3 = .ok (.aload_n 0, 1) := by decide +kernel
theorem dX9_goAll_4 : decode cX9_goAll 4 = .ok (.getfield 264, 3) := by decide +kernel
theorem dX9_goAll_7 : decode cX9_goAll 7 = .ok (.if_icmp .ge 28, 3) := by decide +kernel
theorem dX9_goAll_10 : decode cX9_goAll 10 = .ok (.aload_n 0, 1) := by decide +kernel
theorem dX9_goAll_11 : decode cX9_goAll 11 = .ok (.getfield 84, 3) := by decide +kernel
theorem dX9_goAll_14 : decode cX9_goAll 14 = .ok (.iload_n 2, 1) := by decide +kernel
theorem dX9_goAll_15 : decode cX9_goAll 15 = .ok (.aload_n 0, 1) := by decide +kernel
theorem dX9_goAll_16 : decode cX9_goAll 16 = .ok (.getfield 78, 3) := by decide +kernel
theorem dX9_goAll_19 : decode cX9_goAll 19 = .ok (.iload_n 2, 1) := by decide +kernel
theorem dX9_goAll_20 : decode cX9_goAll 20 = .ok (.iaload, 1) := by decide +kernel
theorem dX9_goAll_21 : decode cX9_goAll 21 = .ok (.iastore, 1) := by decide +kernel
theorem dX9_goAll_22 : decode cX9_goAll 22 = .ok (.aload_n 0, 1) := by decide +kernel
theorem dX9_goAll_23 : decode cX9_goAll 23 = .ok (.getfield 87, 3) := by decide +kernel
theorem dX9_goAll_26 : decode cX9_goAll 26 = .ok (.iload_n 2, 1) := by decide +kernel
theorem dX9_goAll_27 : decode cX9_goAll 27 = .ok (.iconst 0, 1) := by decide +kernel
theorem dX9_goAll_28 : decode cX9_goAll 28 = .ok (.iastore, 1) := by decide +kernel
theorem dX9_goAll_29 : decode cX9_goAll 29 = .ok (.iinc 2 1, 3) := by decide +kernel
theorem dX9_goAll_32 : decode cX9_goAll 32 = .ok (.goto (-30), 3) := by decide +kernel
theorem dX9_goAll_35 : decode cX9_goAll 35 = .ok (.iload_n 1, 1) := by decide +kernel
theorem dX9_goAll_36 : decode cX9_goAll 36 = .ok (.istore_n 2, 1) := by decide +kernel
theorem dX9_goAll_37 : decode cX9_goAll 37 = .ok (.iload_n 2, 1) := by decide +kernel
theorem dX9_goAll_38 : decode cX9_goAll 38 = .ok (.ifCond .eq 42, 3) := by decide +kernel
theorem dX9_goAll_41 : decode cX9_goAll 41 = .ok (.aload_n 0, 1) := by decide +kernel
theorem dX9_goAll_42 : decode cX9_goAll 42 = .ok (.iload_n 2, 1) := by decide +kernel
theorem dX9_goAll_43 : decode cX9_goAll 43 = .ok (.invokevirtual 410, 3) := by decide +kernel
theorem dX9_goAll_46 : decode cX9_goAll 46 = .ok (.istore_n 3, 1) := by decide +kernel
theorem dX9_goAll_47 : decode cX9_goAll 47 = .ok (.iload_n 2, 1) := by decide +kernel
theorem dX9_goAll_48 : decode cX9_goAll 48 = .ok (.iconst 1, 1) := by decide +kernel
theorem dX9_goAll_49 : decode cX9_goAll 49 = .ok (.iload_n 3, 1) := by decide +kernel
theorem dX9_goAll_50 : decode cX9_goAll 50 = .ok (.ishl, 1) := by decide +kernel
theorem dX9_goAll_51 : decode cX9_goAll 51 = .ok (.iconst (-1), 1) := by decide +kernel
theorem dX9_goAll_52 : decode cX9_goAll 52 = .ok (.ixor, 1) := by decide +kernel
theorem dX9_goAll_53 : decode cX9_goAll 53 = .ok (.iand, 1) := by decide +kernel
theorem dX9_goAll_54 : decode cX9_goAll 54 = .ok (.istore_n 2, 1) := by decide +kernel
theorem dX9_goAll_55 : decode cX9_goAll 55 = .ok (.aload_n 0, 1) := by decide +kernel
theorem dX9_goAll_56 : decode cX9_goAll 56 = .ok (.aload_n 0, 1) := by decide +kernel
theorem dX9_goAll_57 : decode cX9_goAll 57 = .ok (.iload_n 3, 1) := by decide +kernel
theorem dX9_goAll_58 : decode cX9_goAll 58 = .ok (.iconst 0, 1) := by decide +kernel
theorem dX9_goAll_59 : decode cX9_goAll 59 = .ok (.invokevirtual 285, 3) := by decide +kernel
theorem dX9_goAll_62 : decode cX9_goAll 62 = .ok (.aload_n 0, 1) := by decide +kernel
theorem dX9_goAll_63 : decode cX9_goAll 63 = .ok (.iload_n 3, 1) := by decide +kernel
theorem dX9_goAll_64 : decode cX9_goAll 64 = .ok (.iconst 1, 1) := by decide +kernel
theorem dX9_goAll_65 : decode cX9_goAll 65 = .ok (.invokevirtual 285, 3) := by decide +kernel
theorem dX9_goAll_68 : decode cX9_goAll 68 = .ok (.aload_n 0, 1) := by decide +kernel
theorem dX9_goAll_69 : decode cX9_goAll 69 = .ok (.getfield 81, 3) := by decide +kernel
theorem dX9_goAll_72 : decode cX9_goAll 72 = .ok (.iload_n 3, 1) := by decide +kernel
theorem dX9_goAll_73 : decode cX9_goAll 73 = .ok (.iaload, 1) := by decide +kernel
theorem dX9_goAll_74 : decode cX9_goAll 74 = .ok (.invokevirtual 413, 3) := by decide +kernel
theorem dX9_goAll_77 : decode cX9_goAll 77 = .ok (.goto (-40), 3) := by decide +kernel
theorem dX9_goAll_80 : decode cX9_goAll 80 = .ok (.return_, 1) := by decide +kernel
noncomputable def kb_X9_goAll_37 (F : Nat) (self : AK) : AK := ak_iload 2 (ak_ifeq (ak_return) (ak_aload 0 (ak_iload 2 (ak_callv 9 1 (m_X9_nextErrand F) (ak_istore 3 (ak_iload 2 (ak_push (vI 1) (ak_iload 3 (ak_ishl (ak_push (vI (-1)) (ak_ixor (ak_iand (ak_istore 2 (ak_aload 0 (ak_aload 0 (ak_iload 3 (ak_push (vI 0) (ak_callv 9 2 (m_X9_errandOf F) (ak_aload 0 (ak_iload 3 (ak_push (vI 1) (ak_callv 9 2 (m_X9_errandOf F) (ak_aload 0 (ak_getf 9 51 (ak_iload 3 (ak_iald (ak_callv 9 3 (m_X9_goOne F) self)))))))))))))))))))))))))))
noncomputable def k_X9_goAll_37 (F : Nat) (n : Nat) : AK := Nat.rec (motive := fun _ => AK) ak_none (fun _ self => kb_X9_goAll_37 F self) n
set_option maxRecDepth 20000 in
theorem sk_X9_goAll_37 (F : Nat) : ∀ n, Snd X0 RX9 cX9_goAll 4 6 37 (k_X9_goAll_37 F n) := by
  intro n
  induction n with
  | zero => exact snd_none
  | succ n ih =>
    show Snd X0 RX9 cX9_goAll 4 6 37 (kb_X9_goAll_37 F (k_X9_goAll_37 F n))
    unfold kb_X9_goAll_37
    exact snd_iload_n (pc := 37) (i := 2) dX9_goAll_37 (snd_ifeq (pc := 38) (off := 42) (tgt := 80) (by decide) dX9_goAll_38 (snd_return dX9_goAll_80) (snd_aload_n (pc := 41) (i := 0) dX9_goAll_41 (snd_iload_n (pc := 42) (i := 2) dX9_goAll_42 (snd_callV (pc := 43) (n := 1) cls9 (s_X9_nextErrand F) (by decide) (by decide) wd_1803 wd_1800 wd_1802 wd_103 wd_129 hy_X9_nextErrand dX9_goAll_43 (snd_istore_n (pc := 46) (i := 3) (by decide) dX9_goAll_46 (snd_iload_n (pc := 47) (i := 2) dX9_goAll_47 (snd_iconst (pc := 48) dX9_goAll_48 (snd_iload_n (pc := 49) (i := 3) dX9_goAll_49 (snd_ishl (pc := 50) dX9_goAll_50 (snd_iconst (pc := 51) dX9_goAll_51 (snd_ixor (pc := 52) dX9_goAll_52 (snd_iand (pc := 53) dX9_goAll_53 (snd_istore_n (pc := 54) (i := 2) (by decide) dX9_goAll_54 (snd_aload_n (pc := 55) (i := 0) dX9_goAll_55 (snd_aload_n (pc := 56) (i := 0) dX9_goAll_56 (snd_iload_n (pc := 57) (i := 3) dX9_goAll_57 (snd_iconst (pc := 58) dX9_goAll_58 (snd_callV (pc := 59) (n := 2) cls9 (s_X9_errandOf F) (by decide) (by decide) wd_1649 wd_1646 wd_1648 wd_75 wd_129 hy_X9_errandOf dX9_goAll_59 (snd_aload_n (pc := 62) (i := 0) dX9_goAll_62 (snd_iload_n (pc := 63) (i := 3) dX9_goAll_63 (snd_iconst (pc := 64) dX9_goAll_64 (snd_callV (pc := 65) (n := 2) cls9 (s_X9_errandOf F) (by decide) (by decide) wd_1649 wd_1646 wd_1648 wd_75 wd_129 hy_X9_errandOf dX9_goAll_65 (snd_aload_n (pc := 68) (i := 0) dX9_goAll_68 (snd_getf (pc := 69) cls9 (f := 51) (by decide) wd_1354 dX9_goAll_69 (snd_iload_n (pc := 72) (i := 3) dX9_goAll_72 (snd_iald (pc := 73) dX9_goAll_73 (snd_callV (pc := 74) (n := 3) cls9 (s_X9_goOne F) (by decide) (by decide) wd_1810 wd_1807 wd_1809 wd_104 wd_129 hy_X9_goOne dX9_goAll_74 (snd_goto (pc := 77) (off := (-40)) (tgt := 37) (by decide) dX9_goAll_77 (ih)))))))))))))))))))))))))))))
noncomputable def kb_X9_goAll_2 (F : Nat) (self : AK) : AK := ak_iload 2 (ak_aload 0 (ak_getf 9 24 (ak_cmplt (ak_aload 0 (ak_getf 9 52 (ak_iload 2 (ak_aload 0 (ak_getf 9 50 (ak_iload 2 (ak_iald (ak_iast (ak_aload 0 (ak_getf 9 53 (ak_iload 2 (ak_push (vI 0) (ak_iast (ak_iinc 2 1 self)))))))))))))) (ak_iload 1 (ak_istore 2 ((k_X9_goAll_37 F F)))))))
noncomputable def k_X9_goAll_2 (F : Nat) (n : Nat) : AK := Nat.rec (motive := fun _ => AK) ak_none (fun _ self => kb_X9_goAll_2 F self) n
set_option maxRecDepth 20000 in
theorem sk_X9_goAll_2 (F : Nat) : ∀ n, Snd X0 RX9 cX9_goAll 4 6 2 (k_X9_goAll_2 F n) := by
  intro n
  induction n with
  | zero => exact snd_none
  | succ n ih =>
    show Snd X0 RX9 cX9_goAll 4 6 2 (kb_X9_goAll_2 F (k_X9_goAll_2 F n))
    unfold kb_X9_goAll_2
    exact snd_iload_n (pc := 2) (i := 2) dX9_goAll_2 (snd_aload_n (pc := 3) (i := 0) dX9_goAll_3 (snd_getf (pc := 4) cls9 (f := 24) (by decide) wd_1327 dX9_goAll_4 (snd_icmpge (pc := 7) (off := 28) (tgt := 35) (by decide) dX9_goAll_7 (snd_iload_n (pc := 35) (i := 1) dX9_goAll_35 (snd_istore_n (pc := 36) (i := 2) (by decide) dX9_goAll_36 ((sk_X9_goAll_37 F F)))) (snd_aload_n (pc := 10) (i := 0) dX9_goAll_10 (snd_getf (pc := 11) cls9 (f := 52) (by decide) wd_1355 dX9_goAll_11 (snd_iload_n (pc := 14) (i := 2) dX9_goAll_14 (snd_aload_n (pc := 15) (i := 0) dX9_goAll_15 (snd_getf (pc := 16) cls9 (f := 50) (by decide) wd_1353 dX9_goAll_16 (snd_iload_n (pc := 19) (i := 2) dX9_goAll_19 (snd_iald (pc := 20) dX9_goAll_20 (snd_iast (pc := 21) dX9_goAll_21 (snd_aload_n (pc := 22) (i := 0) dX9_goAll_22 (snd_getf (pc := 23) cls9 (f := 53) (by decide) wd_1356 dX9_goAll_23 (snd_iload_n (pc := 26) (i := 2) dX9_goAll_26 (snd_iconst (pc := 27) dX9_goAll_27 (snd_iast (pc := 28) dX9_goAll_28 (snd_iinc (pc := 29) (i := 2) (n := 1) (by decide) dX9_goAll_29 (snd_goto (pc := 32) (off := (-30)) (tgt := 2) (by decide) dX9_goAll_32 (ih)))))))))))))))))))
noncomputable def k_X9_goAll (F : Nat) : AK := ak_push (vI 0) (ak_istore 2 ((k_X9_goAll_2 F F)))
noncomputable def m_X9_goAll (F : Nat) : AF := mkF 0 4 (k_X9_goAll F)
set_option maxRecDepth 20000 in
theorem s_X9_goAll (F : Nat) : MA yX9_goAll cX9_goAll 4 none 6 (m_X9_goAll F) := met_of (Or.inl ⟨rfl, rfl⟩) (by decide) (by
  unfold k_X9_goAll
  exact snd_iconst (pc := 0) dX9_goAll_0 (snd_istore_n (pc := 1) (i := 2) (by decide) dX9_goAll_1 ((sk_X9_goAll_2 F F))))

/-! LastWalkerModel.day(I)V -/
theorem dX9_day_0 : decode cX9_day 0 = .ok (.aload_n 0, 1) := by decide +kernel
theorem dX9_day_1 : decode cX9_day 1 = .ok (.invokevirtual 288, 3) := by decide +kernel
theorem dX9_day_4 : decode cX9_day 4 = .ok (.aload_n 0, 1) := by decide +kernel
theorem dX9_day_5 : decode cX9_day 5 = .ok (.invokevirtual 417, 3) := by decide +kernel
theorem dX9_day_8 : decode cX9_day 8 = .ok (.aload_n 0, 1) := by decide +kernel
theorem dX9_day_9 : decode cX9_day 9 = .ok (.iload_n 1, 1) := by decide +kernel
theorem dX9_day_10 : decode cX9_day 10 = .ok (.invokevirtual 420, 3) := by decide +kernel
theorem dX9_day_13 : decode cX9_day 13 = .ok (.return_, 1) := by decide +kernel
noncomputable def k_X9_day (F : Nat) : AK := ak_aload 0 (ak_callv 9 0 (m_X9_own F) (ak_aload 0 (ak_callv 9 0 (m_X9_clearSums F) (ak_aload 0 (ak_iload 1 (ak_callv 9 1 (m_X9_goAll F) ak_return))))))
noncomputable def m_X9_day (F : Nat) : AF := mkF 0 2 (k_X9_day F)
set_option maxRecDepth 20000 in
theorem s_X9_day (F : Nat) : MA yX9_day cX9_day 2 none 7 (m_X9_day F) := met_of (Or.inl ⟨rfl, rfl⟩) (by decide) (by
  unfold k_X9_day
  exact snd_aload_n (pc := 0) (i := 0) dX9_day_0 (snd_callV (pc := 1) (n := 0) cls9 (s_X9_own F) (by decide) (by decide) wd_1653 wd_1650 wd_1652 wd_76 wd_129 hy_X9_own dX9_day_1 (snd_aload_n (pc := 4) (i := 0) dX9_day_4 (snd_callV (pc := 5) (n := 0) cls9 (s_X9_clearSums F) (by decide) (by decide) wd_1795 wd_1792 wd_1794 wd_101 wd_129 hy_X9_clearSums dX9_day_5 (snd_aload_n (pc := 8) (i := 0) dX9_day_8 (snd_iload_n (pc := 9) (i := 1) dX9_day_9 (snd_callV (pc := 10) (n := 1) cls9 (s_X9_goAll F) (by decide) (by decide) wd_1799 wd_1796 wd_1798 wd_102 wd_129 hy_X9_goAll dX9_day_10 (snd_return dX9_day_13))))))))

/-! LastWalkerModel.net(I)I -/
theorem dX9_net_0 : decode cX9_net 0 = .ok (.aload_n 0, 1) := by decide +kernel
theorem dX9_net_1 : decode cX9_net 1 = .ok (.getfield 90, 3) := by decide +kernel
theorem dX9_net_4 : decode cX9_net 4 = .ok (.iload_n 1, 1) := by decide +kernel
theorem dX9_net_5 : decode cX9_net 5 = .ok (.iaload, 1) := by decide +kernel
theorem dX9_net_6 : decode cX9_net 6 = .ok (.aload_n 0, 1) := by decide +kernel
theorem dX9_net_7 : decode cX9_net 7 = .ok (.iload_n 1, 1) := by decide +kernel
theorem dX9_net_8 : decode cX9_net 8 = .ok (.iconst 1, 1) := by decide +kernel
theorem dX9_net_9 : decode cX9_net 9 = .ok (.invokevirtual 282, 3) := by decide +kernel
theorem dX9_net_12 : decode cX9_net 12 = .ok (.imul, 1) := by decide +kernel
theorem dX9_net_13 : decode cX9_net 13 = .ok (.aload_n 0, 1) := by decide +kernel
theorem dX9_net_14 : decode cX9_net 14 = .ok (.getfield 93, 3) := by decide +kernel
theorem dX9_net_17 : decode cX9_net 17 = .ok (.iload_n 1, 1) := by decide +kernel
theorem dX9_net_18 : decode cX9_net 18 = .ok (.iaload, 1) := by decide +kernel
theorem dX9_net_19 : decode cX9_net 19 = .ok (.iadd, 1) := by decide +kernel
theorem dX9_net_20 : decode cX9_net 20 = .ok (.aload_n 0, 1) := by decide +kernel
theorem dX9_net_21 : decode cX9_net 21 = .ok (.getfield 96, 3) := by decide +kernel
theorem dX9_net_24 : decode cX9_net 24 = .ok (.iload_n 1, 1) := by decide +kernel
theorem dX9_net_25 : decode cX9_net 25 = .ok (.iaload, 1) := by decide +kernel
theorem dX9_net_26 : decode cX9_net 26 = .ok (.isub, 1) := by decide +kernel
theorem dX9_net_27 : decode cX9_net 27 = .ok (.ireturn, 1) := by decide +kernel
noncomputable def k_X9_net (F : Nat) : AK := ak_aload 0 (ak_getf 9 54 (ak_iload 1 (ak_iald (ak_aload 0 (ak_iload 1 (ak_push (vI 1) (ak_callv 9 2 (m_X9_personOf F) (ak_imul (ak_aload 0 (ak_getf 9 55 (ak_iload 1 (ak_iald (ak_iadd (ak_aload 0 (ak_getf 9 56 (ak_iload 1 (ak_iald (ak_isub ak_ireturn))))))))))))))))))
noncomputable def m_X9_net (F : Nat) : AF := mkF 1 2 (k_X9_net F)
set_option maxRecDepth 20000 in
theorem s_X9_net (F : Nat) : MA yX9_net cX9_net 2 (some .int) 1 (m_X9_net F) := met_of (Or.inr (Or.inl ⟨rfl, rfl⟩)) (by decide) (by
  unfold k_X9_net
  exact snd_aload_n (pc := 0) (i := 0) dX9_net_0 (snd_getf (pc := 1) cls9 (f := 54) (by decide) wd_1357 dX9_net_1 (snd_iload_n (pc := 4) (i := 1) dX9_net_4 (snd_iald (pc := 5) dX9_net_5 (snd_aload_n (pc := 6) (i := 0) dX9_net_6 (snd_iload_n (pc := 7) (i := 1) dX9_net_7 (snd_iconst (pc := 8) dX9_net_8 (snd_callV (pc := 9) (n := 2) cls9 (s_X9_personOf F) (by decide) (by decide) wd_1645 wd_1642 wd_1644 wd_74 wd_129 hy_X9_personOf dX9_net_9 (snd_imul (pc := 12) dX9_net_12 (snd_aload_n (pc := 13) (i := 0) dX9_net_13 (snd_getf (pc := 14) cls9 (f := 55) (by decide) wd_1358 dX9_net_14 (snd_iload_n (pc := 17) (i := 1) dX9_net_17 (snd_iald (pc := 18) dX9_net_18 (snd_iadd (pc := 19) dX9_net_19 (snd_aload_n (pc := 20) (i := 0) dX9_net_20 (snd_getf (pc := 21) cls9 (f := 56) (by decide) wd_1359 dX9_net_21 (snd_iload_n (pc := 24) (i := 1) dX9_net_24 (snd_iald (pc := 25) dX9_net_25 (snd_isub (pc := 26) dX9_net_26 (snd_ireturn dX9_net_27))))))))))))))))))))

/-! LastWalkerModel.sumOf(II)I -/
theorem dX9_sumOf_0 : decode cX9_sumOf 0 = .ok (.iload_n 2, 1) := by decide +kernel
theorem dX9_sumOf_1 : decode cX9_sumOf 1 = .ok (.tableswitch 59 0 3 #[31, 38, 45, 52], 31) := by decide +kernel
theorem dX9_sumOf_32 : decode cX9_sumOf 32 = .ok (.aload_n 0, 1) := by decide +kernel
theorem dX9_sumOf_33 : decode cX9_sumOf 33 = .ok (.getfield 90, 3) := by decide +kernel
theorem dX9_sumOf_36 : decode cX9_sumOf 36 = .ok (.iload_n 1, 1) := by decide +kernel
theorem dX9_sumOf_37 : decode cX9_sumOf 37 = .ok (.iaload, 1) := by decide +kernel
theorem dX9_sumOf_38 : decode cX9_sumOf 38 = .ok (.ireturn, 1) := by decide +kernel
theorem dX9_sumOf_39 : decode cX9_sumOf 39 = .ok (.aload_n 0, 1) := by decide +kernel
theorem dX9_sumOf_40 : decode cX9_sumOf 40 = .ok (.getfield 93, 3) := by decide +kernel
theorem dX9_sumOf_43 : decode cX9_sumOf 43 = .ok (.iload_n 1, 1) := by decide +kernel
theorem dX9_sumOf_44 : decode cX9_sumOf 44 = .ok (.iaload, 1) := by decide +kernel
theorem dX9_sumOf_45 : decode cX9_sumOf 45 = .ok (.ireturn, 1) := by decide +kernel
theorem dX9_sumOf_46 : decode cX9_sumOf 46 = .ok (.aload_n 0, 1) := by decide +kernel
theorem dX9_sumOf_47 : decode cX9_sumOf 47 = .ok (.getfield 96, 3) := by decide +kernel
theorem dX9_sumOf_50 : decode cX9_sumOf 50 = .ok (.iload_n 1, 1) := by decide +kernel
theorem dX9_sumOf_51 : decode cX9_sumOf 51 = .ok (.iaload, 1) := by decide +kernel
theorem dX9_sumOf_52 : decode cX9_sumOf 52 = .ok (.ireturn, 1) := by decide +kernel
theorem dX9_sumOf_53 : decode cX9_sumOf 53 = .ok (.aload_n 0, 1) := by decide +kernel
theorem dX9_sumOf_54 : decode cX9_sumOf 54 = .ok (.getfield 99, 3) := by decide +kernel
theorem dX9_sumOf_57 : decode cX9_sumOf 57 = .ok (.iload_n 1, 1) := by decide +kernel
theorem dX9_sumOf_58 : decode cX9_sumOf 58 = .ok (.iaload, 1) := by decide +kernel
theorem dX9_sumOf_59 : decode cX9_sumOf 59 = .ok (.ireturn, 1) := by decide +kernel
theorem dX9_sumOf_60 : decode cX9_sumOf 60 = .ok (.aload_n 0, 1) := by decide +kernel
theorem dX9_sumOf_61 : decode cX9_sumOf 61 = .ok (.iload_n 1, 1) := by decide +kernel
theorem dX9_sumOf_62 : decode cX9_sumOf 62 = .ok (.invokevirtual 423, 3) := by decide +kernel
theorem dX9_sumOf_65 : decode cX9_sumOf 65 = .ok (.ireturn, 1) := by decide +kernel
noncomputable def k_X9_sumOf (F : Nat) : AK := ak_iload 2 (ak_switch 0 [ak_aload 0 (ak_getf 9 54 (ak_iload 1 (ak_iald ak_ireturn))), ak_aload 0 (ak_getf 9 55 (ak_iload 1 (ak_iald ak_ireturn))), ak_aload 0 (ak_getf 9 56 (ak_iload 1 (ak_iald ak_ireturn))), ak_aload 0 (ak_getf 9 57 (ak_iload 1 (ak_iald ak_ireturn)))] (ak_aload 0 (ak_iload 1 (ak_callv 9 1 (m_X9_net F) ak_ireturn))))
noncomputable def m_X9_sumOf (F : Nat) : AF := mkF 1 3 (k_X9_sumOf F)
set_option maxRecDepth 20000 in
theorem s_X9_sumOf (F : Nat) : MA yX9_sumOf cX9_sumOf 3 (some .int) 2 (m_X9_sumOf F) := met_of (Or.inr (Or.inl ⟨rfl, rfl⟩)) (by decide) (by
  unfold k_X9_sumOf
  exact snd_iload_n (pc := 0) (i := 2) dX9_sumOf_0 (snd_switchL (pc := 1) (ol := [31, 38, 45, 52]) (tgd := 60) dX9_sumOf_1 rfl (by decide) (snd_aload_n (pc := 60) (i := 0) dX9_sumOf_60 (snd_iload_n (pc := 61) (i := 1) dX9_sumOf_61 (snd_callV (pc := 62) (n := 1) cls9 (s_X9_net F) (by decide) (by decide) wd_1822 wd_1819 wd_1821 wd_107 wd_129 hy_X9_net dX9_sumOf_62 (snd_ireturn dX9_sumOf_65)))) (sw_cons (o := 31) (tgt := 32) (by decide) (snd_aload_n (pc := 32) (i := 0) dX9_sumOf_32 (snd_getf (pc := 33) cls9 (f := 54) (by decide) wd_1357 dX9_sumOf_33 (snd_iload_n (pc := 36) (i := 1) dX9_sumOf_36 (snd_iald (pc := 37) dX9_sumOf_37 (snd_ireturn dX9_sumOf_38))))) (sw_cons (o := 38) (tgt := 39) (by decide) (snd_aload_n (pc := 39) (i := 0) dX9_sumOf_39 (snd_getf (pc := 40) cls9 (f := 55) (by decide) wd_1358 dX9_sumOf_40 (snd_iload_n (pc := 43) (i := 1) dX9_sumOf_43 (snd_iald (pc := 44) dX9_sumOf_44 (snd_ireturn dX9_sumOf_45))))) (sw_cons (o := 45) (tgt := 46) (by decide) (snd_aload_n (pc := 46) (i := 0) dX9_sumOf_46 (snd_getf (pc := 47) cls9 (f := 56) (by decide) wd_1359 dX9_sumOf_47 (snd_iload_n (pc := 50) (i := 1) dX9_sumOf_50 (snd_iald (pc := 51) dX9_sumOf_51 (snd_ireturn dX9_sumOf_52))))) (sw_cons (o := 52) (tgt := 53) (by decide) (snd_aload_n (pc := 53) (i := 0) dX9_sumOf_53 (snd_getf (pc := 54) cls9 (f := 57) (by decide) wd_1360 dX9_sumOf_54 (snd_iload_n (pc := 57) (i := 1) dX9_sumOf_57 (snd_iald (pc := 58) dX9_sumOf_58 (snd_ireturn dX9_sumOf_59))))) (sw_nil)))))))

/-! LastWalkerModel.sums(II)I -/
theorem dX9_sums_0 : decode cX9_sums 0 = .ok (.iconst 0, 1) := by decide +kernel
theorem dX9_sums_1 : decode cX9_sums 1 = .ok (.istore_n 3, 1) := by decide +kernel
theorem dX9_sums_2 : decode cX9_sums 2 = .ok (.iconst 0, 1) := by decide +kernel
theorem dX9_sums_3 : decode cX9_sums 3 = .ok (.istore 4, 2) := by decide +kernel
theorem dX9_sums_5 : decode cX9_sums 5 = .ok (.iload 4, 2) := by decide +kernel
theorem dX9_sums_7 : decode cX9_sums 7 = .ok (.aload_n 0, 1) := by decide +kernel
theorem dX9_sums_8 : decode cX9_sums 8 = .ok (.getfield 264, 3) := by decide +kernel
theorem dX9_sums_11 : decode cX9_sums 11 = .ok (.if_icmp .ge 34, 3) := by decide +kernel
theorem dX9_sums_14 : decode cX9_sums 14 = .ok (.iload_n 3, 1) := by decide +kernel
theorem dX9_sums_15 : decode cX9_sums 15 = .ok (.iload_n 1, 1) := by decide +kernel
theorem dX9_sums_16 : decode cX9_sums 16 = .ok (.iconst (-1), 1) := by decide +kernel
theorem dX9_sums_17 : decode cX9_sums 17 = .ok (.if_icmp .eq 9, 3) := by decide +kernel
theorem dX9_sums_20 : decode cX9_sums 20 = .ok (.iload 4, 2) := by decide +kernel
theorem dX9_sums_22 : decode cX9_sums 22 = .ok (.iload_n 1, 1) := by decide +kernel
theorem dX9_sums_23 : decode cX9_sums 23 = .ok (.if_icmp .ne 13, 3) := by decide +kernel
theorem dX9_sums_26 : decode cX9_sums 26 = .ok (.aload_n 0, 1) := by decide +kernel
theorem dX9_sums_27 : decode cX9_sums 27 = .ok (.iload 4, 2) := by decide +kernel
theorem dX9_sums_29 : decode cX9_sums 29 = .ok (.iload_n 2, 1) := by decide +kernel
theorem dX9_sums_30 : decode cX9_sums 30 = .ok (.invokevirtual 426, 3) := by decide +kernel
theorem dX9_sums_33 : decode cX9_sums 33 = .ok (.goto 4, 3) := by decide +kernel
theorem dX9_sums_36 : decode cX9_sums 36 = .ok (.iconst 0, 1) := by decide +kernel
theorem dX9_sums_37 : decode cX9_sums 37 = .ok (.iadd, 1) := by decide +kernel
theorem dX9_sums_38 : decode cX9_sums 38 = .ok (.istore_n 3, 1) := by decide +kernel
theorem dX9_sums_39 : decode cX9_sums 39 = .ok (.iinc 4 1, 3) := by decide +kernel
theorem dX9_sums_42 : decode cX9_sums 42 = .ok (.goto (-37), 3) := by decide +kernel
theorem dX9_sums_45 : decode cX9_sums 45 = .ok (.iload_n 3, 1) := by decide +kernel
theorem dX9_sums_46 : decode cX9_sums 46 = .ok (.ireturn, 1) := by decide +kernel
noncomputable def k_X9_sums_37 (F : Nat) (h5 : AK) : AK := ak_iadd (ak_istore 3 (ak_iinc 4 1 h5))
set_option maxRecDepth 20000 in
theorem sk_X9_sums_37 (F : Nat) {h5 : AK} (hh5 : Snd X0 RX9 cX9_sums 5 3 5 h5) : Snd X0 RX9 cX9_sums 5 3 37 (k_X9_sums_37 F h5) := by
  unfold k_X9_sums_37
  exact snd_iadd (pc := 37) dX9_sums_37 (snd_istore_n (pc := 38) (i := 3) (by decide) dX9_sums_38 (snd_iinc (pc := 39) (i := 4) (n := 1) (by decide) dX9_sums_39 (snd_goto (pc := 42) (off := (-37)) (tgt := 5) (by decide) dX9_sums_42 (hh5))))
noncomputable def k_X9_sums_26 (F : Nat) (h5 : AK) : AK := ak_aload 0 (ak_iload 4 (ak_iload 2 (ak_callv 9 2 (m_X9_sumOf F) ((k_X9_sums_37 F h5)))))
set_option maxRecDepth 20000 in
theorem sk_X9_sums_26 (F : Nat) {h5 : AK} (hh5 : Snd X0 RX9 cX9_sums 5 3 5 h5) : Snd X0 RX9 cX9_sums 5 3 26 (k_X9_sums_26 F h5) := by
  unfold k_X9_sums_26
  exact snd_aload_n (pc := 26) (i := 0) dX9_sums_26 (snd_iload (pc := 27) (i := 4) dX9_sums_27 (snd_iload_n (pc := 29) (i := 2) dX9_sums_29 (snd_callV (pc := 30) (n := 2) cls9 (s_X9_sumOf F) (by decide) (by decide) wd_1818 wd_1815 wd_1817 wd_106 wd_129 hy_X9_sumOf dX9_sums_30 (snd_goto (pc := 33) (off := 4) (tgt := 37) (by decide) dX9_sums_33 ((sk_X9_sums_37 F hh5))))))
noncomputable def kb_X9_sums_5 (F : Nat) (self : AK) : AK := ak_iload 4 (ak_aload 0 (ak_getf 9 24 (ak_cmplt (ak_iload 3 (ak_iload 1 (ak_push (vI (-1)) (ak_cmpeq ((k_X9_sums_26 F self)) (ak_iload 4 (ak_iload 1 (ak_cmpeq ((k_X9_sums_26 F self)) (ak_push (vI 0) ((k_X9_sums_37 F self)))))))))) (ak_iload 3 ak_ireturn))))
noncomputable def k_X9_sums_5 (F : Nat) (n : Nat) : AK := Nat.rec (motive := fun _ => AK) ak_none (fun _ self => kb_X9_sums_5 F self) n
set_option maxRecDepth 20000 in
theorem sk_X9_sums_5 (F : Nat) : ∀ n, Snd X0 RX9 cX9_sums 5 3 5 (k_X9_sums_5 F n) := by
  intro n
  induction n with
  | zero => exact snd_none
  | succ n ih =>
    show Snd X0 RX9 cX9_sums 5 3 5 (kb_X9_sums_5 F (k_X9_sums_5 F n))
    unfold kb_X9_sums_5
    exact snd_iload (pc := 5) (i := 4) dX9_sums_5 (snd_aload_n (pc := 7) (i := 0) dX9_sums_7 (snd_getf (pc := 8) cls9 (f := 24) (by decide) wd_1327 dX9_sums_8 (snd_icmpge (pc := 11) (off := 34) (tgt := 45) (by decide) dX9_sums_11 (snd_iload_n (pc := 45) (i := 3) dX9_sums_45 (snd_ireturn dX9_sums_46)) (snd_iload_n (pc := 14) (i := 3) dX9_sums_14 (snd_iload_n (pc := 15) (i := 1) dX9_sums_15 (snd_iconst (pc := 16) dX9_sums_16 (snd_icmpeq (pc := 17) (off := 9) (tgt := 26) (by decide) dX9_sums_17 ((sk_X9_sums_26 F ih)) (snd_iload (pc := 20) (i := 4) dX9_sums_20 (snd_iload_n (pc := 22) (i := 1) dX9_sums_22 (snd_icmpne (pc := 23) (off := 13) (tgt := 36) (by decide) dX9_sums_23 (snd_iconst (pc := 36) dX9_sums_36 ((sk_X9_sums_37 F ih))) ((sk_X9_sums_26 F ih))))))))))))
noncomputable def k_X9_sums (F : Nat) : AK := ak_push (vI 0) (ak_istore 3 (ak_push (vI 0) (ak_istore 4 ((k_X9_sums_5 F F)))))
noncomputable def m_X9_sums (F : Nat) : AF := mkF 1 5 (k_X9_sums F)
set_option maxRecDepth 20000 in
theorem s_X9_sums (F : Nat) : MA yX9_sums cX9_sums 5 (some .int) 3 (m_X9_sums F) := met_of (Or.inr (Or.inl ⟨rfl, rfl⟩)) (by decide) (by
  unfold k_X9_sums
  exact snd_iconst (pc := 0) dX9_sums_0 (snd_istore_n (pc := 1) (i := 3) (by decide) dX9_sums_1 (snd_iconst (pc := 2) dX9_sums_2 (snd_istore (pc := 3) (i := 4) (by decide) dX9_sums_3 ((sk_X9_sums_5 F F))))))

/-! LastWalkerModel.layErrands(II)Z -/
theorem dX9_layErrands_0 : decode cX9_layErrands 0 = .ok (.aload_n 0, 1) := by decide +kernel
theorem dX9_layErrands_1 : decode cX9_layErrands 1 = .ok (.iload_n 1, 1) := by decide +kernel
theorem dX9_layErrands_2 : decode cX9_layErrands 2 = .ok (.invokevirtual 237, 3) := by decide +kernel
theorem dX9_layErrands_5 : decode cX9_layErrands 5 = .ok (.ifCond .ne 5, 3) := by decide +kernel
theorem dX9_layErrands_8 : decode cX9_layErrands 8 = .ok (.iconst 0, 1) := by decide +kernel
theorem dX9_layErrands_9 : decode cX9_layErrands 9 = .ok (.ireturn, 1) := by decide +kernel
theorem dX9_layErrands_10 : decode cX9_layErrands 10 = .ok (.aload_n 0, 1) := by decide +kernel
theorem dX9_layErrands_11 : decode cX9_layErrands 11 = .ok (.iload_n 1, 1) := by decide +kernel
theorem dX9_layErrands_12 : decode cX9_layErrands 12 = .ok (.invokevirtual 304, 3) := by decide +kernel
theorem dX9_layErrands_15 : decode cX9_layErrands 15 = .ok (.aload_n 0, 1) := by decide +kernel
theorem dX9_layErrands_16 : decode cX9_layErrands 16 = .ok (.iconst (-1), 1) := by decide +kernel
theorem dX9_layErrands_17 : decode cX9_layErrands 17 = .ok (.invokevirtual 429, 3) := by decide +kernel
theorem dX9_layErrands_20 : decode cX9_layErrands 20 = .ok (.iload_n 2, 1) := by decide +kernel
theorem dX9_layErrands_21 : decode cX9_layErrands 21 = .ok (.ifCond .lt 16, 3) := by decide +kernel
theorem dX9_layErrands_24 : decode cX9_layErrands 24 = .ok (.iload_n 2, 1) := by decide +kernel
theorem dX9_layErrands_25 : decode cX9_layErrands 25 = .ok (.aload_n 0, 1) := by decide +kernel
theorem dX9_layErrands_26 : decode cX9_layErrands 26 = .ok (.getfield 267, 3) := by decide +kernel
theorem dX9_layErrands_29 : decode cX9_layErrands 29 = .ok (.ishr, 1) := by decide +kernel
theorem dX9_layErrands_30 : decode cX9_layErrands 30 = .ok (.ifCond .ne 7, 3) := by decide +kernel
theorem dX9_layErrands_33 : decode cX9_layErrands 33 = .ok (.iconst 1, 1) := by decide +kernel
theorem dX9_layErrands_34 : decode cX9_layErrands 34 = .ok (.goto 4, 3) := by decide +kernel
theorem dX9_layErrands_37 : decode cX9_layErrands 37 = .ok (.iconst 0, 1) := by decide +kernel
theorem dX9_layErrands_38 : decode cX9_layErrands 38 = .ok (.ireturn, 1) := by decide +kernel
noncomputable def k_X9_layErrands (F : Nat) : AK := ak_aload 0 (ak_iload 1 (ak_callv 9 1 (m_X9_isTown F) (ak_ifeq (ak_push (vI 0) ak_ireturn) (ak_aload 0 (ak_iload 1 (ak_callv 9 1 (m_X9_hand F) (ak_aload 0 (ak_push (vI (-1)) (ak_callv 9 1 (m_X9_findFar F) (ak_iload 2 (ak_iflt (ak_push (vI 0) ak_ireturn) (ak_iload 2 (ak_aload 0 (ak_getf 9 25 (ak_ishr (ak_ifeq (ak_push (vI 1) ak_ireturn) (ak_push (vI 0) ak_ireturn)))))))))))))))))
noncomputable def m_X9_layErrands (F : Nat) : AF := mkF 2 3 (k_X9_layErrands F)
set_option maxRecDepth 20000 in
theorem s_X9_layErrands (F : Nat) : MA yX9_layErrands cX9_layErrands 3 (some .boolean) 3 (m_X9_layErrands F) := met_of (Or.inr (Or.inr (Or.inl ⟨rfl, rfl⟩))) (by decide) (by
  unfold k_X9_layErrands
  exact snd_aload_n (pc := 0) (i := 0) dX9_layErrands_0 (snd_iload_n (pc := 1) (i := 1) dX9_layErrands_1 (snd_callV (pc := 2) (n := 1) cls9 (s_X9_isTown F) (by decide) (by decide) wd_1593 wd_1590 wd_1592 wd_66 wd_129 hy_X9_isTown dX9_layErrands_2 (snd_ifne (pc := 5) (off := 5) (tgt := 10) (by decide) dX9_layErrands_5 (snd_aload_n (pc := 10) (i := 0) dX9_layErrands_10 (snd_iload_n (pc := 11) (i := 1) dX9_layErrands_11 (snd_callV (pc := 12) (n := 1) cls9 (s_X9_hand F) (by decide) (by decide) wd_1641 wd_1638 wd_1640 wd_73 wd_129 hy_X9_hand dX9_layErrands_12 (snd_aload_n (pc := 15) (i := 0) dX9_layErrands_15 (snd_iconst (pc := 16) dX9_layErrands_16 (snd_callV (pc := 17) (n := 1) cls9 (s_X9_findFar F) (by decide) (by decide) wd_1781 wd_1778 wd_1780 wd_98 wd_129 hy_X9_findFar dX9_layErrands_17 (snd_iload_n (pc := 20) (i := 2) dX9_layErrands_20 (snd_iflt (pc := 21) (off := 16) (tgt := 37) (by decide) dX9_layErrands_21 (snd_iconst (pc := 37) dX9_layErrands_37 (snd_ireturn dX9_layErrands_38)) (snd_iload_n (pc := 24) (i := 2) dX9_layErrands_24 (snd_aload_n (pc := 25) (i := 0) dX9_layErrands_25 (snd_getf (pc := 26) cls9 (f := 25) (by decide) wd_1328 dX9_layErrands_26 (snd_ishr (pc := 29) dX9_layErrands_29 (snd_ifne (pc := 30) (off := 7) (tgt := 37) (by decide) dX9_layErrands_30 (snd_iconst (pc := 37) dX9_layErrands_37 (snd_ireturn dX9_layErrands_38)) (snd_iconst (pc := 33) dX9_layErrands_33 (snd_goto (pc := 34) (off := 4) (tgt := 38) (by decide) dX9_layErrands_34 (snd_ireturn dX9_layErrands_38)))))))))))))))) (snd_iconst (pc := 8) dX9_layErrands_8 (snd_ireturn dX9_layErrands_9))))))

/-! LastWalkerModel.all(IIII)I -/
theorem dX9_all_0 : decode cX9_all 0 = .ok (.aload_n 0, 1) := by decide +kernel
theorem dX9_all_1 : decode cX9_all 1 = .ok (.iconst 0, 1) := by decide +kernel
theorem dX9_all_2 : decode cX9_all 2 = .ok (.putfield 112, 3) := by decide +kernel
theorem dX9_all_5 : decode cX9_all 5 = .ok (.aload_n 0, 1) := by decide +kernel
theorem dX9_all_6 : decode cX9_all 6 = .ok (.iload_n 1, 1) := by decide +kernel
theorem dX9_all_7 : decode cX9_all 7 = .ok (.iload_n 2, 1) := by decide +kernel
theorem dX9_all_8 : decode cX9_all 8 = .ok (.invokevirtual 432, 3) := by decide +kernel
theorem dX9_all_11 : decode cX9_all 11 = .ok (.ifCond .eq 26, 3) := by decide +kernel
theorem dX9_all_14 : decode cX9_all 14 = .ok (.iload_n 3, 1) := by decide +kernel
theorem dX9_all_15 : decode cX9_all 15 = .ok (.iconst (-1), 1) := by decide +kernel
theorem dX9_all_16 : decode cX9_all 16 = .ok (.if_icmp .eq 11, 3) := by decide +kernel
theorem dX9_all_19 : decode cX9_all 19 = .ok (.aload_n 0, 1) := by decide +kernel
theorem dX9_all_20 : decode cX9_all 20 = .ok (.iload_n 3, 1) := by decide +kernel
theorem dX9_all_21 : decode cX9_all 21 = .ok (.invokevirtual 316, 3) := by decide +kernel
theorem dX9_all_24 : decode cX9_all 24 = .ok (.ifCond .eq 13, 3) := by decide +kernel
theorem dX9_all_27 : decode cX9_all 27 = .ok (.iload 4, 2) := by decide +kernel
theorem dX9_all_29 : decode cX9_all 29 = .ok (.iconst 0, 1) := by decide +kernel
theorem dX9_all_30 : decode cX9_all 30 = .ok (.iconst 4, 1) := by decide +kernel
theorem dX9_all_31 : decode cX9_all 31 = .ok (.invokestatic 120, 3) := by decide +kernel
theorem dX9_all_34 : decode cX9_all 34 = .ok (.ifCond .ne 7, 3) := by decide +kernel
theorem dX9_all_37 : decode cX9_all 37 = .ok (.ldc_w 435, 3) := by decide +kernel
theorem dX9_all_40 : decode cX9_all 40 = .ok (.ireturn, 1) := by decide +kernel
theorem dX9_all_41 : decode cX9_all 41 = .ok (.aload_n 0, 1) := by decide +kernel
theorem dX9_all_42 : decode cX9_all 42 = .ok (.iload_n 2, 1) := by decide +kernel
theorem dX9_all_43 : decode cX9_all 43 = .ok (.invokevirtual 436, 3) := by decide +kernel
theorem dX9_all_46 : decode cX9_all 46 = .ok (.aload_n 0, 1) := by decide +kernel
theorem dX9_all_47 : decode cX9_all 47 = .ok (.iload_n 3, 1) := by decide +kernel
theorem dX9_all_48 : decode cX9_all 48 = .ok (.iload 4, 2) := by decide +kernel
theorem dX9_all_50 : decode cX9_all 50 = .ok (.invokevirtual 439, 3) := by decide +kernel
theorem dX9_all_53 : decode cX9_all 53 = .ok (.ireturn, 1) := by decide +kernel
noncomputable def k_X9_all_27 (F : Nat) : AK := ak_iload 4 (ak_push (vI 0) (ak_push (vI 4) (ak_call 3 (m_X9_in F) (ak_ifeq (ak_push (vI (-100000)) ak_ireturn) (ak_aload 0 (ak_iload 2 (ak_callv 9 1 (m_X9_day F) (ak_aload 0 (ak_iload 3 (ak_iload 4 (ak_callv 9 2 (m_X9_sums F) ak_ireturn)))))))))))
set_option maxRecDepth 20000 in
theorem sk_X9_all_27 (F : Nat) : Snd X0 RX9 cX9_all 5 8 27 (k_X9_all_27 F) := by
  unfold k_X9_all_27
  exact snd_iload (pc := 27) (i := 4) dX9_all_27 (snd_iconst (pc := 29) dX9_all_29 (snd_iconst (pc := 30) dX9_all_30 (snd_callS (pc := 31) (n := 3) (s_X9_in F) (by decide) (by decide) wd_1511 wd_1509 wd_1510 wd_129 hy_X9_in dX9_all_31 (snd_ifne (pc := 34) (off := 7) (tgt := 41) (by decide) dX9_all_34 (snd_aload_n (pc := 41) (i := 0) dX9_all_41 (snd_iload_n (pc := 42) (i := 2) dX9_all_42 (snd_callV (pc := 43) (n := 1) cls9 (s_X9_day F) (by decide) (by decide) wd_1791 wd_1788 wd_1790 wd_100 wd_129 hy_X9_day dX9_all_43 (snd_aload_n (pc := 46) (i := 0) dX9_all_46 (snd_iload_n (pc := 47) (i := 3) dX9_all_47 (snd_iload (pc := 48) (i := 4) dX9_all_48 (snd_callV (pc := 50) (n := 2) cls9 (s_X9_sums F) (by decide) (by decide) wd_1814 wd_1811 wd_1813 wd_105 wd_129 hy_X9_sums dX9_all_50 (snd_ireturn dX9_all_53)))))))) (snd_ldcw (pc := 37) (z := (-100000)) (by decide) wd_1787 dX9_all_37 (snd_ireturn dX9_all_40))))))
noncomputable def k_X9_all (F : Nat) : AK := ak_aload 0 (ak_push (vI 0) (ak_putf 9 0 (ak_aload 0 (ak_iload 1 (ak_iload 2 (ak_callv 9 2 (m_X9_layErrands F) (ak_ifeq (ak_push (vI (-100000)) ak_ireturn) (ak_iload 3 (ak_push (vI (-1)) (ak_cmpeq ((k_X9_all_27 F)) (ak_aload 0 (ak_iload 3 (ak_callv 9 1 (m_X9_isPerson F) (ak_ifeq (ak_push (vI (-100000)) ak_ireturn) ((k_X9_all_27 F))))))))))))))))
noncomputable def m_X9_all (F : Nat) : AF := mkF 1 5 (k_X9_all F)
set_option maxRecDepth 20000 in
theorem s_X9_all (F : Nat) : MA yX9_all cX9_all 5 (some .int) 8 (m_X9_all F) := met_of (Or.inr (Or.inl ⟨rfl, rfl⟩)) (by decide) (by
  unfold k_X9_all
  exact snd_aload_n (pc := 0) (i := 0) dX9_all_0 (snd_iconst (pc := 1) dX9_all_1 (snd_putf (pc := 2) cls9 (f := 0) (by decide) rfl rfl rfl wd_1303 dX9_all_2 (snd_aload_n (pc := 5) (i := 0) dX9_all_5 (snd_iload_n (pc := 6) (i := 1) dX9_all_6 (snd_iload_n (pc := 7) (i := 2) dX9_all_7 (snd_callV (pc := 8) (n := 2) cls9 (s_X9_layErrands F) (by decide) (by decide) wd_1777 wd_1774 wd_1776 wd_97 wd_129 hy_X9_layErrands dX9_all_8 (snd_ifeq (pc := 11) (off := 26) (tgt := 37) (by decide) dX9_all_11 (snd_ldcw (pc := 37) (z := (-100000)) (by decide) wd_1787 dX9_all_37 (snd_ireturn dX9_all_40)) (snd_iload_n (pc := 14) (i := 3) dX9_all_14 (snd_iconst (pc := 15) dX9_all_15 (snd_icmpeq (pc := 16) (off := 11) (tgt := 27) (by decide) dX9_all_16 ((sk_X9_all_27 F)) (snd_aload_n (pc := 19) (i := 0) dX9_all_19 (snd_iload_n (pc := 20) (i := 3) dX9_all_20 (snd_callV (pc := 21) (n := 1) cls9 (s_X9_isPerson F) (by decide) (by decide) wd_1665 wd_1662 wd_1664 wd_79 wd_129 hy_X9_isPerson dX9_all_21 (snd_ifeq (pc := 24) (off := 13) (tgt := 37) (by decide) dX9_all_24 (snd_ldcw (pc := 37) (z := (-100000)) (by decide) wd_1787 dX9_all_37 (snd_ireturn dX9_all_40)) ((sk_X9_all_27 F)))))))))))))))))

/-! LastWalkerModel.night(IIII)I -/
theorem dX9_night_0 : decode cX9_night 0 = .ok (.aload_n 0, 1) := by decide +kernel
theorem dX9_night_1 : decode cX9_night 1 = .ok (.iconst 0, 1) := by decide +kernel
theorem dX9_night_2 : decode cX9_night 2 = .ok (.putfield 112, 3) := by decide +kernel
theorem dX9_night_5 : decode cX9_night 5 = .ok (.aload_n 0, 1) := by decide +kernel
theorem dX9_night_6 : decode cX9_night 6 = .ok (.iload_n 1, 1) := by decide +kernel
theorem dX9_night_7 : decode cX9_night 7 = .ok (.iload_n 2, 1) := by decide +kernel
theorem dX9_night_8 : decode cX9_night 8 = .ok (.invokevirtual 432, 3) := by decide +kernel
theorem dX9_night_11 : decode cX9_night 11 = .ok (.ifCond .eq 32, 3) := by decide +kernel
theorem dX9_night_14 : decode cX9_night 14 = .ok (.iload_n 3, 1) := by decide +kernel
theorem dX9_night_15 : decode cX9_night 15 = .ok (.iconst (-1), 1) := by decide +kernel
theorem dX9_night_16 : decode cX9_night 16 = .ok (.if_icmp .eq 11, 3) := by decide +kernel
theorem dX9_night_19 : decode cX9_night 19 = .ok (.aload_n 0, 1) := by decide +kernel
theorem dX9_night_20 : decode cX9_night 20 = .ok (.iload_n 3, 1) := by decide +kernel
theorem dX9_night_21 : decode cX9_night 21 = .ok (.invokevirtual 319, 3) := by decide +kernel
theorem dX9_night_24 : decode cX9_night 24 = .ok (.ifCond .eq 19, 3) := by decide +kernel
theorem dX9_night_27 : decode cX9_night 27 = .ok (.iload_n 3, 1) := by decide +kernel
theorem dX9_night_28 : decode cX9_night 28 = .ok (.iconst (-1), 1) := by decide +kernel
theorem dX9_night_29 : decode cX9_night 29 = .ok (.if_icmp .ne 17, 3) := by decide +kernel
theorem dX9_night_32 : decode cX9_night 32 = .ok (.iload 4, 2) := by decide +kernel
theorem dX9_night_34 : decode cX9_night 34 = .ok (.iconst (-1), 1) := by decide +kernel
theorem dX9_night_35 : decode cX9_night 35 = .ok (.bipush 7, 2) := by decide +kernel
theorem dX9_night_37 : decode cX9_night 37 = .ok (.invokestatic 120, 3) := by decide +kernel
theorem dX9_night_40 : decode cX9_night 40 = .ok (.ifCond .ne 6, 3) := by decide +kernel
theorem dX9_night_43 : decode cX9_night 43 = .ok (.bipush (-2), 2) := by decide +kernel
theorem dX9_night_45 : decode cX9_night 45 = .ok (.ireturn, 1) := by decide +kernel
theorem dX9_night_46 : decode cX9_night 46 = .ok (.aload_n 0, 1) := by decide +kernel
theorem dX9_night_47 : decode cX9_night 47 = .ok (.iload_n 2, 1) := by decide +kernel
theorem dX9_night_48 : decode cX9_night 48 = .ok (.invokevirtual 436, 3) := by decide +kernel
theorem dX9_night_51 : decode cX9_night 51 = .ok (.iload_n 3, 1) := by decide +kernel
theorem dX9_night_52 : decode cX9_night 52 = .ok (.iconst (-1), 1) := by decide +kernel
theorem dX9_night_53 : decode cX9_night 53 = .ok (.if_icmp .eq 10, 3) := by decide +kernel
theorem dX9_night_56 : decode cX9_night 56 = .ok (.aload_n 0, 1) := by decide +kernel
theorem dX9_night_57 : decode cX9_night 57 = .ok (.getfield 38, 3) := by decide +kernel
theorem dX9_night_60 : decode cX9_night 60 = .ok (.iload_n 3, 1) := by decide +kernel
theorem dX9_night_61 : decode cX9_night 61 = .ok (.iaload, 1) := by decide +kernel
theorem dX9_night_62 : decode cX9_night 62 = .ok (.ireturn, 1) := by decide +kernel
theorem dX9_night_63 : decode cX9_night 63 = .ok (.iconst 0, 1) := by decide +kernel
theorem dX9_night_64 : decode cX9_night 64 = .ok (.istore 5, 2) := by decide +kernel
theorem dX9_night_66 : decode cX9_night 66 = .ok (.iconst 0, 1) := by decide +kernel
theorem dX9_night_67 : decode cX9_night 67 = .ok (.istore 6, 2) := by decide +kernel
theorem dX9_night_69 : decode cX9_night 69 = .ok (.iload 6, 2) := by decide +kernel
theorem dX9_night_71 : decode cX9_night 71 = .ok (.aload_n 0, 1) := by decide +kernel
theorem dX9_night_72 : decode cX9_night 72 = .ok (.getfield 261, 3) := by decide +kernel
theorem dX9_night_75 : decode cX9_night 75 = .ok (.if_icmp .ge 31, 3) := by decide +kernel
theorem dX9_night_78 : decode cX9_night 78 = .ok (.iload 5, 2) := by decide +kernel
theorem dX9_night_80 : decode cX9_night 80 = .ok (.aload_n 0, 1) := by decide +kernel
theorem dX9_night_81 : decode cX9_night 81 = .ok (.getfield 38, 3) := by decide +kernel
theorem dX9_night_84 : decode cX9_night 84 = .ok (.iload 6, 2) := by decide +kernel
theorem dX9_night_86 : decode cX9_night 86 = .ok (.iaload, 1) := by decide +kernel
theorem dX9_night_87 : decode cX9_night 87 = .ok (.iload 4, 2) := by decide +kernel
theorem dX9_night_89 : decode cX9_night 89 = .ok (.if_icmp .ne 7, 3) := by decide +kernel
theorem dX9_night_92 : decode cX9_night 92 = .ok (.iconst 1, 1) := by decide +kernel
theorem dX9_night_93 : decode cX9_night 93 = .ok (.goto 4, 3) := by decide +kernel
theorem dX9_night_96 : decode cX9_night 96 = .ok (.iconst 0, 1) := by decide +kernel
theorem dX9_night_97 : decode cX9_night 97 = .ok (.iadd, 1) := by decide +kernel
theorem dX9_night_98 : decode cX9_night 98 = .ok (.istore 5, 2) := by decide +kernel
theorem dX9_night_100 : decode cX9_night 100 = .ok (.iinc 6 1, 3) := by decide +kernel
theorem dX9_night_103 : decode cX9_night 103 = .ok (.goto (-34), 3) := by decide +kernel
theorem dX9_night_106 : decode cX9_night 106 = .ok (.iload 5, 2) := by decide +kernel
theorem dX9_night_108 : decode cX9_night 108 = .ok (.ireturn, 1) := by decide +kernel
noncomputable def k_X9_night_97 (F : Nat) (h69 : AK) : AK := ak_iadd (ak_istore 5 (ak_iinc 6 1 h69))
set_option maxRecDepth 20000 in
theorem sk_X9_night_97 (F : Nat) {h69 : AK} (hh69 : Snd X0 RX9 cX9_night 7 8 69 h69) : Snd X0 RX9 cX9_night 7 8 97 (k_X9_night_97 F h69) := by
  unfold k_X9_night_97
  exact snd_iadd (pc := 97) dX9_night_97 (snd_istore (pc := 98) (i := 5) (by decide) dX9_night_98 (snd_iinc (pc := 100) (i := 6) (n := 1) (by decide) dX9_night_100 (snd_goto (pc := 103) (off := (-34)) (tgt := 69) (by decide) dX9_night_103 (hh69))))
noncomputable def kb_X9_night_69 (F : Nat) (self : AK) : AK := ak_iload 6 (ak_aload 0 (ak_getf 9 23 (ak_cmplt (ak_iload 5 (ak_aload 0 (ak_getf 9 31 (ak_iload 6 (ak_iald (ak_iload 4 (ak_cmpeq (ak_push (vI 1) ((k_X9_night_97 F self))) (ak_push (vI 0) ((k_X9_night_97 F self)))))))))) (ak_iload 5 ak_ireturn))))
noncomputable def k_X9_night_69 (F : Nat) (n : Nat) : AK := Nat.rec (motive := fun _ => AK) ak_none (fun _ self => kb_X9_night_69 F self) n
set_option maxRecDepth 20000 in
theorem sk_X9_night_69 (F : Nat) : ∀ n, Snd X0 RX9 cX9_night 7 8 69 (k_X9_night_69 F n) := by
  intro n
  induction n with
  | zero => exact snd_none
  | succ n ih =>
    show Snd X0 RX9 cX9_night 7 8 69 (kb_X9_night_69 F (k_X9_night_69 F n))
    unfold kb_X9_night_69
    exact snd_iload (pc := 69) (i := 6) dX9_night_69 (snd_aload_n (pc := 71) (i := 0) dX9_night_71 (snd_getf (pc := 72) cls9 (f := 23) (by decide) wd_1326 dX9_night_72 (snd_icmpge (pc := 75) (off := 31) (tgt := 106) (by decide) dX9_night_75 (snd_iload (pc := 106) (i := 5) dX9_night_106 (snd_ireturn dX9_night_108)) (snd_iload (pc := 78) (i := 5) dX9_night_78 (snd_aload_n (pc := 80) (i := 0) dX9_night_80 (snd_getf (pc := 81) cls9 (f := 31) (by decide) wd_1334 dX9_night_81 (snd_iload (pc := 84) (i := 6) dX9_night_84 (snd_iald (pc := 86) dX9_night_86 (snd_iload (pc := 87) (i := 4) dX9_night_87 (snd_icmpne (pc := 89) (off := 7) (tgt := 96) (by decide) dX9_night_89 (snd_iconst (pc := 96) dX9_night_96 ((sk_X9_night_97 F ih))) (snd_iconst (pc := 92) dX9_night_92 (snd_goto (pc := 93) (off := 4) (tgt := 97) (by decide) dX9_night_93 ((sk_X9_night_97 F ih))))))))))))))
noncomputable def k_X9_night_46 (F : Nat) : AK := ak_aload 0 (ak_iload 2 (ak_callv 9 1 (m_X9_day F) (ak_iload 3 (ak_push (vI (-1)) (ak_cmpeq (ak_push (vI 0) (ak_istore 5 (ak_push (vI 0) (ak_istore 6 ((k_X9_night_69 F F)))))) (ak_aload 0 (ak_getf 9 31 (ak_iload 3 (ak_iald ak_ireturn)))))))))
set_option maxRecDepth 20000 in
theorem sk_X9_night_46 (F : Nat) : Snd X0 RX9 cX9_night 7 8 46 (k_X9_night_46 F) := by
  unfold k_X9_night_46
  exact snd_aload_n (pc := 46) (i := 0) dX9_night_46 (snd_iload_n (pc := 47) (i := 2) dX9_night_47 (snd_callV (pc := 48) (n := 1) cls9 (s_X9_day F) (by decide) (by decide) wd_1791 wd_1788 wd_1790 wd_100 wd_129 hy_X9_day dX9_night_48 (snd_iload_n (pc := 51) (i := 3) dX9_night_51 (snd_iconst (pc := 52) dX9_night_52 (snd_icmpeq (pc := 53) (off := 10) (tgt := 63) (by decide) dX9_night_53 (snd_iconst (pc := 63) dX9_night_63 (snd_istore (pc := 64) (i := 5) (by decide) dX9_night_64 (snd_iconst (pc := 66) dX9_night_66 (snd_istore (pc := 67) (i := 6) (by decide) dX9_night_67 ((sk_X9_night_69 F F)))))) (snd_aload_n (pc := 56) (i := 0) dX9_night_56 (snd_getf (pc := 57) cls9 (f := 31) (by decide) wd_1334 dX9_night_57 (snd_iload_n (pc := 60) (i := 3) dX9_night_60 (snd_iald (pc := 61) dX9_night_61 (snd_ireturn dX9_night_62))))))))))
noncomputable def k_X9_night_27 (F : Nat) : AK := ak_iload 3 (ak_push (vI (-1)) (ak_cmpeq (ak_iload 4 (ak_push (vI (-1)) (ak_push (vI 7) (ak_call 3 (m_X9_in F) (ak_ifeq (ak_push (vI (-2)) ak_ireturn) ((k_X9_night_46 F))))))) ((k_X9_night_46 F))))
set_option maxRecDepth 20000 in
theorem sk_X9_night_27 (F : Nat) : Snd X0 RX9 cX9_night 7 8 27 (k_X9_night_27 F) := by
  unfold k_X9_night_27
  exact snd_iload_n (pc := 27) (i := 3) dX9_night_27 (snd_iconst (pc := 28) dX9_night_28 (snd_icmpne (pc := 29) (off := 17) (tgt := 46) (by decide) dX9_night_29 ((sk_X9_night_46 F)) (snd_iload (pc := 32) (i := 4) dX9_night_32 (snd_iconst (pc := 34) dX9_night_34 (snd_bipush (pc := 35) (by decide) dX9_night_35 (snd_callS (pc := 37) (n := 3) (s_X9_in F) (by decide) (by decide) wd_1511 wd_1509 wd_1510 wd_129 hy_X9_in dX9_night_37 (snd_ifne (pc := 40) (off := 6) (tgt := 46) (by decide) dX9_night_40 ((sk_X9_night_46 F)) (snd_bipush (pc := 43) (by decide) dX9_night_43 (snd_ireturn dX9_night_45)))))))))
noncomputable def k_X9_night (F : Nat) : AK := ak_aload 0 (ak_push (vI 0) (ak_putf 9 0 (ak_aload 0 (ak_iload 1 (ak_iload 2 (ak_callv 9 2 (m_X9_layErrands F) (ak_ifeq (ak_push (vI (-2)) ak_ireturn) (ak_iload 3 (ak_push (vI (-1)) (ak_cmpeq ((k_X9_night_27 F)) (ak_aload 0 (ak_iload 3 (ak_callv 9 1 (m_X9_isRoad F) (ak_ifeq (ak_push (vI (-2)) ak_ireturn) ((k_X9_night_27 F))))))))))))))))
noncomputable def m_X9_night (F : Nat) : AF := mkF 1 7 (k_X9_night F)
set_option maxRecDepth 20000 in
theorem s_X9_night (F : Nat) : MA yX9_night cX9_night 7 (some .int) 8 (m_X9_night F) := met_of (Or.inr (Or.inl ⟨rfl, rfl⟩)) (by decide) (by
  unfold k_X9_night
  exact snd_aload_n (pc := 0) (i := 0) dX9_night_0 (snd_iconst (pc := 1) dX9_night_1 (snd_putf (pc := 2) cls9 (f := 0) (by decide) rfl rfl rfl wd_1303 dX9_night_2 (snd_aload_n (pc := 5) (i := 0) dX9_night_5 (snd_iload_n (pc := 6) (i := 1) dX9_night_6 (snd_iload_n (pc := 7) (i := 2) dX9_night_7 (snd_callV (pc := 8) (n := 2) cls9 (s_X9_layErrands F) (by decide) (by decide) wd_1777 wd_1774 wd_1776 wd_97 wd_129 hy_X9_layErrands dX9_night_8 (snd_ifeq (pc := 11) (off := 32) (tgt := 43) (by decide) dX9_night_11 (snd_bipush (pc := 43) (by decide) dX9_night_43 (snd_ireturn dX9_night_45)) (snd_iload_n (pc := 14) (i := 3) dX9_night_14 (snd_iconst (pc := 15) dX9_night_15 (snd_icmpeq (pc := 16) (off := 11) (tgt := 27) (by decide) dX9_night_16 ((sk_X9_night_27 F)) (snd_aload_n (pc := 19) (i := 0) dX9_night_19 (snd_iload_n (pc := 20) (i := 3) dX9_night_20 (snd_callV (pc := 21) (n := 1) cls9 (s_X9_isRoad F) (by decide) (by decide) wd_1669 wd_1666 wd_1668 wd_80 wd_129 hy_X9_isRoad dX9_night_21 (snd_ifeq (pc := 24) (off := 19) (tgt := 43) (by decide) dX9_night_24 (snd_bipush (pc := 43) (by decide) dX9_night_43 (snd_ireturn dX9_night_45)) ((sk_X9_night_27 F)))))))))))))))))

/-! LastWalkerModel.other(IIII)I -/
theorem dX9_other_0 : decode cX9_other 0 = .ok (.aload_n 0, 1) := by decide +kernel
theorem dX9_other_1 : decode cX9_other 1 = .ok (.iconst 0, 1) := by decide +kernel
theorem dX9_other_2 : decode cX9_other 2 = .ok (.putfield 112, 3) := by decide +kernel
theorem dX9_other_5 : decode cX9_other 5 = .ok (.aload_n 0, 1) := by decide +kernel
theorem dX9_other_6 : decode cX9_other 6 = .ok (.iload_n 1, 1) := by decide +kernel
theorem dX9_other_7 : decode cX9_other 7 = .ok (.iload_n 2, 1) := by decide +kernel
theorem dX9_other_8 : decode cX9_other 8 = .ok (.invokevirtual 432, 3) := by decide +kernel
theorem dX9_other_11 : decode cX9_other 11 = .ok (.ifCond .eq 22, 3) := by decide +kernel
theorem dX9_other_14 : decode cX9_other 14 = .ok (.iload_n 3, 1) := by decide +kernel
theorem dX9_other_15 : decode cX9_other 15 = .ok (.iconst 0, 1) := by decide +kernel
theorem dX9_other_16 : decode cX9_other 16 = .ok (.iconst 3, 1) := by decide +kernel
theorem dX9_other_17 : decode cX9_other 17 = .ok (.invokestatic 120, 3) := by decide +kernel
theorem dX9_other_20 : decode cX9_other 20 = .ok (.ifCond .eq 13, 3) := by decide +kernel
theorem dX9_other_23 : decode cX9_other 23 = .ok (.iload 4, 2) := by decide +kernel
theorem dX9_other_25 : decode cX9_other 25 = .ok (.iconst 0, 1) := by decide +kernel
theorem dX9_other_26 : decode cX9_other 26 = .ok (.iconst 4, 1) := by decide +kernel
theorem dX9_other_27 : decode cX9_other 27 = .ok (.invokestatic 120, 3) := by decide +kernel
theorem dX9_other_30 : decode cX9_other 30 = .ok (.ifCond .ne 7, 3) := by decide +kernel
theorem dX9_other_33 : decode cX9_other 33 = .ok (.ldc_w 435, 3) := by decide +kernel
theorem dX9_other_36 : decode cX9_other 36 = .ok (.ireturn, 1) := by decide +kernel
theorem dX9_other_37 : decode cX9_other 37 = .ok (.aload_n 0, 1) := by decide +kernel
theorem dX9_other_38 : decode cX9_other 38 = .ok (.iload_n 3, 1) := by decide +kernel
theorem dX9_other_39 : decode cX9_other 39 = .ok (.putfield 270, 3) := by decide +kernel
theorem dX9_other_42 : decode cX9_other 42 = .ok (.aload_n 0, 1) := by decide +kernel
theorem dX9_other_43 : decode cX9_other 43 = .ok (.iload_n 2, 1) := by decide +kernel
theorem dX9_other_44 : decode cX9_other 44 = .ok (.invokevirtual 436, 3) := by decide +kernel
theorem dX9_other_47 : decode cX9_other 47 = .ok (.aload_n 0, 1) := by decide +kernel
theorem dX9_other_48 : decode cX9_other 48 = .ok (.iconst (-1), 1) := by decide +kernel
theorem dX9_other_49 : decode cX9_other 49 = .ok (.iload 4, 2) := by decide +kernel
theorem dX9_other_51 : decode cX9_other 51 = .ok (.invokevirtual 439, 3) := by decide +kernel
theorem dX9_other_54 : decode cX9_other 54 = .ok (.ireturn, 1) := by decide +kernel
noncomputable def k_X9_other (F : Nat) : AK := ak_aload 0 (ak_push (vI 0) (ak_putf 9 0 (ak_aload 0 (ak_iload 1 (ak_iload 2 (ak_callv 9 2 (m_X9_layErrands F) (ak_ifeq (ak_push (vI (-100000)) ak_ireturn) (ak_iload 3 (ak_push (vI 0) (ak_push (vI 3) (ak_call 3 (m_X9_in F) (ak_ifeq (ak_push (vI (-100000)) ak_ireturn) (ak_iload 4 (ak_push (vI 0) (ak_push (vI 4) (ak_call 3 (m_X9_in F) (ak_ifeq (ak_push (vI (-100000)) ak_ireturn) (ak_aload 0 (ak_iload 3 (ak_putf 9 26 (ak_aload 0 (ak_iload 2 (ak_callv 9 1 (m_X9_day F) (ak_aload 0 (ak_push (vI (-1)) (ak_iload 4 (ak_callv 9 2 (m_X9_sums F) ak_ireturn)))))))))))))))))))))))))))
noncomputable def m_X9_other (F : Nat) : AF := mkF 1 5 (k_X9_other F)
set_option maxRecDepth 20000 in
theorem s_X9_other (F : Nat) : MA yX9_other cX9_other 5 (some .int) 8 (m_X9_other F) := met_of (Or.inr (Or.inl ⟨rfl, rfl⟩)) (by decide) (by
  unfold k_X9_other
  exact snd_aload_n (pc := 0) (i := 0) dX9_other_0 (snd_iconst (pc := 1) dX9_other_1 (snd_putf (pc := 2) cls9 (f := 0) (by decide) rfl rfl rfl wd_1303 dX9_other_2 (snd_aload_n (pc := 5) (i := 0) dX9_other_5 (snd_iload_n (pc := 6) (i := 1) dX9_other_6 (snd_iload_n (pc := 7) (i := 2) dX9_other_7 (snd_callV (pc := 8) (n := 2) cls9 (s_X9_layErrands F) (by decide) (by decide) wd_1777 wd_1774 wd_1776 wd_97 wd_129 hy_X9_layErrands dX9_other_8 (snd_ifeq (pc := 11) (off := 22) (tgt := 33) (by decide) dX9_other_11 (snd_ldcw (pc := 33) (z := (-100000)) (by decide) wd_1787 dX9_other_33 (snd_ireturn dX9_other_36)) (snd_iload_n (pc := 14) (i := 3) dX9_other_14 (snd_iconst (pc := 15) dX9_other_15 (snd_iconst (pc := 16) dX9_other_16 (snd_callS (pc := 17) (n := 3) (s_X9_in F) (by decide) (by decide) wd_1511 wd_1509 wd_1510 wd_129 hy_X9_in dX9_other_17 (snd_ifeq (pc := 20) (off := 13) (tgt := 33) (by decide) dX9_other_20 (snd_ldcw (pc := 33) (z := (-100000)) (by decide) wd_1787 dX9_other_33 (snd_ireturn dX9_other_36)) (snd_iload (pc := 23) (i := 4) dX9_other_23 (snd_iconst (pc := 25) dX9_other_25 (snd_iconst (pc := 26) dX9_other_26 (snd_callS (pc := 27) (n := 3) (s_X9_in F) (by decide) (by decide) wd_1511 wd_1509 wd_1510 wd_129 hy_X9_in dX9_other_27 (snd_ifne (pc := 30) (off := 7) (tgt := 37) (by decide) dX9_other_30 (snd_aload_n (pc := 37) (i := 0) dX9_other_37 (snd_iload_n (pc := 38) (i := 3) dX9_other_38 (snd_putf (pc := 39) cls9 (f := 26) (by decide) rfl rfl rfl wd_1329 dX9_other_39 (snd_aload_n (pc := 42) (i := 0) dX9_other_42 (snd_iload_n (pc := 43) (i := 2) dX9_other_43 (snd_callV (pc := 44) (n := 1) cls9 (s_X9_day F) (by decide) (by decide) wd_1791 wd_1788 wd_1790 wd_100 wd_129 hy_X9_day dX9_other_44 (snd_aload_n (pc := 47) (i := 0) dX9_other_47 (snd_iconst (pc := 48) dX9_other_48 (snd_iload (pc := 49) (i := 4) dX9_other_49 (snd_callV (pc := 51) (n := 2) cls9 (s_X9_sums F) (by decide) (by decide) wd_1814 wd_1811 wd_1813 wd_105 wd_129 hy_X9_sums dX9_other_51 (snd_ireturn dX9_other_54))))))))))) (snd_ldcw (pc := 33) (z := (-100000)) (by decide) wd_1787 dX9_other_33 (snd_ireturn dX9_other_36))))))))))))))))))))

/-! LastWalkerModel.netAs(III)I -/
theorem dX9_netAs_0 : decode cX9_netAs 0 = .ok (.aload_n 0, 1) := by decide +kernel
theorem dX9_netAs_1 : decode cX9_netAs 1 = .ok (.getfield 41, 3) := by decide +kernel
theorem dX9_netAs_4 : decode cX9_netAs 4 = .ok (.iload_n 2, 1) := by decide +kernel
theorem dX9_netAs_5 : decode cX9_netAs 5 = .ok (.iaload, 1) := by decide +kernel
theorem dX9_netAs_6 : decode cX9_netAs 6 = .ok (.istore 4, 2) := by decide +kernel
theorem dX9_netAs_8 : decode cX9_netAs 8 = .ok (.aload_n 0, 1) := by decide +kernel
theorem dX9_netAs_9 : decode cX9_netAs 9 = .ok (.getfield 41, 3) := by decide +kernel
theorem dX9_netAs_12 : decode cX9_netAs 12 = .ok (.iload_n 2, 1) := by decide +kernel
theorem dX9_netAs_13 : decode cX9_netAs 13 = .ok (.iload_n 3, 1) := by decide +kernel
theorem dX9_netAs_14 : decode cX9_netAs 14 = .ok (.iastore, 1) := by decide +kernel
theorem dX9_netAs_15 : decode cX9_netAs 15 = .ok (.aload_n 0, 1) := by decide +kernel
theorem dX9_netAs_16 : decode cX9_netAs 16 = .ok (.iload_n 1, 1) := by decide +kernel
theorem dX9_netAs_17 : decode cX9_netAs 17 = .ok (.invokevirtual 436, 3) := by decide +kernel
theorem dX9_netAs_20 : decode cX9_netAs 20 = .ok (.aload_n 0, 1) := by decide +kernel
theorem dX9_netAs_21 : decode cX9_netAs 21 = .ok (.getfield 41, 3) := by decide +kernel
theorem dX9_netAs_24 : decode cX9_netAs 24 = .ok (.iload_n 2, 1) := by decide +kernel
theorem dX9_netAs_25 : decode cX9_netAs 25 = .ok (.iload 4, 2) := by decide +kernel
theorem dX9_netAs_27 : decode cX9_netAs 27 = .ok (.iastore, 1) := by decide +kernel
theorem dX9_netAs_28 : decode cX9_netAs 28 = .ok (.aload_n 0, 1) := by decide +kernel
theorem dX9_netAs_29 : decode cX9_netAs 29 = .ok (.iload_n 2, 1) := by decide +kernel
theorem dX9_netAs_30 : decode cX9_netAs 30 = .ok (.invokevirtual 423, 3) := by decide +kernel
theorem dX9_netAs_33 : decode cX9_netAs 33 = .ok (.ireturn, 1) := by decide +kernel
noncomputable def k_X9_netAs (F : Nat) : AK := ak_aload 0 (ak_getf 9 32 (ak_iload 2 (ak_iald (ak_istore 4 (ak_aload 0 (ak_getf 9 32 (ak_iload 2 (ak_iload 3 (ak_iast (ak_aload 0 (ak_iload 1 (ak_callv 9 1 (m_X9_day F) (ak_aload 0 (ak_getf 9 32 (ak_iload 2 (ak_iload 4 (ak_iast (ak_aload 0 (ak_iload 2 (ak_callv 9 1 (m_X9_net F) ak_ireturn))))))))))))))))))))
noncomputable def m_X9_netAs (F : Nat) : AF := mkF 1 5 (k_X9_netAs F)
set_option maxRecDepth 20000 in
theorem s_X9_netAs (F : Nat) : MA yX9_netAs cX9_netAs 5 (some .int) 8 (m_X9_netAs F) := met_of (Or.inr (Or.inl ⟨rfl, rfl⟩)) (by decide) (by
  unfold k_X9_netAs
  exact snd_aload_n (pc := 0) (i := 0) dX9_netAs_0 (snd_getf (pc := 1) cls9 (f := 32) (by decide) wd_1335 dX9_netAs_1 (snd_iload_n (pc := 4) (i := 2) dX9_netAs_4 (snd_iald (pc := 5) dX9_netAs_5 (snd_istore (pc := 6) (i := 4) (by decide) dX9_netAs_6 (snd_aload_n (pc := 8) (i := 0) dX9_netAs_8 (snd_getf (pc := 9) cls9 (f := 32) (by decide) wd_1335 dX9_netAs_9 (snd_iload_n (pc := 12) (i := 2) dX9_netAs_12 (snd_iload_n (pc := 13) (i := 3) dX9_netAs_13 (snd_iast (pc := 14) dX9_netAs_14 (snd_aload_n (pc := 15) (i := 0) dX9_netAs_15 (snd_iload_n (pc := 16) (i := 1) dX9_netAs_16 (snd_callV (pc := 17) (n := 1) cls9 (s_X9_day F) (by decide) (by decide) wd_1791 wd_1788 wd_1790 wd_100 wd_129 hy_X9_day dX9_netAs_17 (snd_aload_n (pc := 20) (i := 0) dX9_netAs_20 (snd_getf (pc := 21) cls9 (f := 32) (by decide) wd_1335 dX9_netAs_21 (snd_iload_n (pc := 24) (i := 2) dX9_netAs_24 (snd_iload (pc := 25) (i := 4) dX9_netAs_25 (snd_iast (pc := 27) dX9_netAs_27 (snd_aload_n (pc := 28) (i := 0) dX9_netAs_28 (snd_iload_n (pc := 29) (i := 2) dX9_netAs_29 (snd_callV (pc := 30) (n := 1) cls9 (s_X9_net F) (by decide) (by decide) wd_1822 wd_1819 wd_1821 wd_107 wd_129 hy_X9_net dX9_netAs_30 (snd_ireturn dX9_netAs_33))))))))))))))))))))))

/-! LastWalkerModel.regretOf(II)I -/
theorem dX9_regretOf_0 : decode cX9_regretOf 0 = .ok (.iconst 0, 1) := by decide +kernel
theorem dX9_regretOf_1 : decode cX9_regretOf 1 = .ok (.istore_n 3, 1) := by decide +kernel
theorem dX9_regretOf_2 : decode cX9_regretOf 2 = .ok (.aload_n 0, 1) := by decide +kernel
theorem dX9_regretOf_3 : decode cX9_regretOf 3 = .ok (.iload_n 1, 1) := by decide +kernel
theorem dX9_regretOf_4 : decode cX9_regretOf 4 = .ok (.iload_n 2, 1) := by decide +kernel
theorem dX9_regretOf_5 : decode cX9_regretOf 5 = .ok (.iconst 0, 1) := by decide +kernel
theorem dX9_regretOf_6 : decode cX9_regretOf 6 = .ok (.invokevirtual 442, 3) := by decide +kernel
theorem dX9_regretOf_9 : decode cX9_regretOf 9 = .ok (.istore 4, 2) := by decide +kernel
theorem dX9_regretOf_11 : decode cX9_regretOf 11 = .ok (.iconst 1, 1) := by decide +kernel
theorem dX9_regretOf_12 : decode cX9_regretOf 12 = .ok (.istore 5, 2) := by decide +kernel
theorem dX9_regretOf_14 : decode cX9_regretOf 14 = .ok (.iload 5, 2) := by decide +kernel
theorem dX9_regretOf_16 : decode cX9_regretOf 16 = .ok (.iconst 2, 1) := by decide +kernel
theorem dX9_regretOf_17 : decode cX9_regretOf 17 = .ok (.if_icmp .gt 49, 3) := by decide +kernel
theorem dX9_regretOf_20 : decode cX9_regretOf 20 = .ok (.aload_n 0, 1) := by decide +kernel
theorem dX9_regretOf_21 : decode cX9_regretOf 21 = .ok (.iload_n 1, 1) := by decide +kernel
theorem dX9_regretOf_22 : decode cX9_regretOf 22 = .ok (.iload_n 2, 1) := by decide +kernel
theorem dX9_regretOf_23 : decode cX9_regretOf 23 = .ok (.iload 5, 2) := by decide +kernel
theorem dX9_regretOf_25 : decode cX9_regretOf 25 = .ok (.invokevirtual 442, 3) := by decide +kernel
theorem dX9_regretOf_28 : decode cX9_regretOf 28 = .ok (.istore 6, 2) := by decide +kernel
theorem dX9_regretOf_30 : decode cX9_regretOf 30 = .ok (.iload 6, 2) := by decide +kernel
theorem dX9_regretOf_32 : decode cX9_regretOf 32 = .ok (.iload 4, 2) := by decide +kernel
theorem dX9_regretOf_34 : decode cX9_regretOf 34 = .ok (.if_icmp .ge 8, 3) := by decide +kernel
theorem dX9_regretOf_37 : decode cX9_regretOf 37 = .ok (.iload 5, 2) := by decide +kernel
theorem dX9_regretOf_39 : decode cX9_regretOf 39 = .ok (.goto 4, 3) := by decide +kernel
theorem dX9_regretOf_42 : decode cX9_regretOf 42 = .ok (.iload_n 3, 1) := by decide +kernel
theorem dX9_regretOf_43 : decode cX9_regretOf 43 = .ok (.istore_n 3, 1) := by decide +kernel
theorem dX9_regretOf_44 : decode cX9_regretOf 44 = .ok (.iload 6, 2) := by decide +kernel
theorem dX9_regretOf_46 : decode cX9_regretOf 46 = .ok (.iload 4, 2) := by decide +kernel
theorem dX9_regretOf_48 : decode cX9_regretOf 48 = .ok (.if_icmp .ge 8, 3) := by decide +kernel
theorem dX9_regretOf_51 : decode cX9_regretOf 51 = .ok (.iload 6, 2) := by decide +kernel
theorem dX9_regretOf_53 : decode cX9_regretOf 53 = .ok (.goto 5, 3) := by decide +kernel
theorem dX9_regretOf_56 : decode cX9_regretOf 56 = .ok (.iload 4, 2) := by decide +kernel
theorem dX9_regretOf_58 : decode cX9_regretOf 58 = .ok (.istore 4, 2) := by decide +kernel
theorem dX9_regretOf_60 : decode cX9_regretOf 60 = .ok (.iinc 5 1, 3) := by decide +kernel
theorem dX9_regretOf_63 : decode cX9_regretOf 63 = .ok (.goto (-49), 3) := by decide +kernel
theorem dX9_regretOf_66 : decode cX9_regretOf 66 = .ok (.iload_n 3, 1) := by decide +kernel
theorem dX9_regretOf_67 : decode cX9_regretOf 67 = .ok (.ireturn, 1) := by decide +kernel
noncomputable def k_X9_regretOf_58 (F : Nat) (h14 : AK) : AK := ak_istore 4 (ak_iinc 5 1 h14)
set_option maxRecDepth 20000 in
theorem sk_X9_regretOf_58 (F : Nat) {h14 : AK} (hh14 : Snd X0 RX9 cX9_regretOf 7 9 14 h14) : Snd X0 RX9 cX9_regretOf 7 9 58 (k_X9_regretOf_58 F h14) := by
  unfold k_X9_regretOf_58
  exact snd_istore (pc := 58) (i := 4) (by decide) dX9_regretOf_58 (snd_iinc (pc := 60) (i := 5) (n := 1) (by decide) dX9_regretOf_60 (snd_goto (pc := 63) (off := (-49)) (tgt := 14) (by decide) dX9_regretOf_63 (hh14)))
noncomputable def k_X9_regretOf_43 (F : Nat) (h14 : AK) : AK := ak_istore 3 (ak_iload 6 (ak_iload 4 (ak_cmplt (ak_iload 6 ((k_X9_regretOf_58 F h14))) (ak_iload 4 ((k_X9_regretOf_58 F h14))))))
set_option maxRecDepth 20000 in
theorem sk_X9_regretOf_43 (F : Nat) {h14 : AK} (hh14 : Snd X0 RX9 cX9_regretOf 7 9 14 h14) : Snd X0 RX9 cX9_regretOf 7 9 43 (k_X9_regretOf_43 F h14) := by
  unfold k_X9_regretOf_43
  exact snd_istore_n (pc := 43) (i := 3) (by decide) dX9_regretOf_43 (snd_iload (pc := 44) (i := 6) dX9_regretOf_44 (snd_iload (pc := 46) (i := 4) dX9_regretOf_46 (snd_icmpge (pc := 48) (off := 8) (tgt := 56) (by decide) dX9_regretOf_48 (snd_iload (pc := 56) (i := 4) dX9_regretOf_56 ((sk_X9_regretOf_58 F hh14))) (snd_iload (pc := 51) (i := 6) dX9_regretOf_51 (snd_goto (pc := 53) (off := 5) (tgt := 58) (by decide) dX9_regretOf_53 ((sk_X9_regretOf_58 F hh14)))))))
noncomputable def kb_X9_regretOf_14 (F : Nat) (self : AK) : AK := ak_iload 5 (ak_push (vI 2) (ak_cmpgt (ak_iload 3 ak_ireturn) (ak_aload 0 (ak_iload 1 (ak_iload 2 (ak_iload 5 (ak_callv 9 3 (m_X9_netAs F) (ak_istore 6 (ak_iload 6 (ak_iload 4 (ak_cmplt (ak_iload 5 ((k_X9_regretOf_43 F self))) (ak_iload 3 ((k_X9_regretOf_43 F self))))))))))))))
noncomputable def k_X9_regretOf_14 (F : Nat) (n : Nat) : AK := Nat.rec (motive := fun _ => AK) ak_none (fun _ self => kb_X9_regretOf_14 F self) n
set_option maxRecDepth 20000 in
theorem sk_X9_regretOf_14 (F : Nat) : ∀ n, Snd X0 RX9 cX9_regretOf 7 9 14 (k_X9_regretOf_14 F n) := by
  intro n
  induction n with
  | zero => exact snd_none
  | succ n ih =>
    show Snd X0 RX9 cX9_regretOf 7 9 14 (kb_X9_regretOf_14 F (k_X9_regretOf_14 F n))
    unfold kb_X9_regretOf_14
    exact snd_iload (pc := 14) (i := 5) dX9_regretOf_14 (snd_iconst (pc := 16) dX9_regretOf_16 (snd_icmpgt (pc := 17) (off := 49) (tgt := 66) (by decide) dX9_regretOf_17 (snd_iload_n (pc := 66) (i := 3) dX9_regretOf_66 (snd_ireturn dX9_regretOf_67)) (snd_aload_n (pc := 20) (i := 0) dX9_regretOf_20 (snd_iload_n (pc := 21) (i := 1) dX9_regretOf_21 (snd_iload_n (pc := 22) (i := 2) dX9_regretOf_22 (snd_iload (pc := 23) (i := 5) dX9_regretOf_23 (snd_callV (pc := 25) (n := 3) cls9 (s_X9_netAs F) (by decide) (by decide) wd_1838 wd_1835 wd_1837 wd_108 wd_129 hy_X9_netAs dX9_regretOf_25 (snd_istore (pc := 28) (i := 6) (by decide) dX9_regretOf_28 (snd_iload (pc := 30) (i := 6) dX9_regretOf_30 (snd_iload (pc := 32) (i := 4) dX9_regretOf_32 (snd_icmpge (pc := 34) (off := 8) (tgt := 42) (by decide) dX9_regretOf_34 (snd_iload_n (pc := 42) (i := 3) dX9_regretOf_42 ((sk_X9_regretOf_43 F ih))) (snd_iload (pc := 37) (i := 5) dX9_regretOf_37 (snd_goto (pc := 39) (off := 4) (tgt := 43) (by decide) dX9_regretOf_39 ((sk_X9_regretOf_43 F ih)))))))))))))))
noncomputable def k_X9_regretOf (F : Nat) : AK := ak_push (vI 0) (ak_istore 3 (ak_aload 0 (ak_iload 1 (ak_iload 2 (ak_push (vI 0) (ak_callv 9 3 (m_X9_netAs F) (ak_istore 4 (ak_push (vI 1) (ak_istore 5 ((k_X9_regretOf_14 F F)))))))))))
noncomputable def m_X9_regretOf (F : Nat) : AF := mkF 1 7 (k_X9_regretOf F)
set_option maxRecDepth 20000 in
theorem s_X9_regretOf (F : Nat) : MA yX9_regretOf cX9_regretOf 7 (some .int) 9 (m_X9_regretOf F) := met_of (Or.inr (Or.inl ⟨rfl, rfl⟩)) (by decide) (by
  unfold k_X9_regretOf
  exact snd_iconst (pc := 0) dX9_regretOf_0 (snd_istore_n (pc := 1) (i := 3) (by decide) dX9_regretOf_1 (snd_aload_n (pc := 2) (i := 0) dX9_regretOf_2 (snd_iload_n (pc := 3) (i := 1) dX9_regretOf_3 (snd_iload_n (pc := 4) (i := 2) dX9_regretOf_4 (snd_iconst (pc := 5) dX9_regretOf_5 (snd_callV (pc := 6) (n := 3) cls9 (s_X9_netAs F) (by decide) (by decide) wd_1838 wd_1835 wd_1837 wd_108 wd_129 hy_X9_netAs dX9_regretOf_6 (snd_istore (pc := 9) (i := 4) (by decide) dX9_regretOf_9 (snd_iconst (pc := 11) dX9_regretOf_11 (snd_istore (pc := 12) (i := 5) (by decide) dX9_regretOf_12 ((sk_X9_regretOf_14 F F))))))))))))

/-! LastWalkerModel.isSooner(II)Z -/
theorem dX9_isSooner_0 : decode cX9_isSooner 0 = .ok (.aload_n 0, 1) := by decide +kernel
theorem dX9_isSooner_1 : decode cX9_isSooner 1 = .ok (.iload_n 1, 1) := by decide +kernel
theorem dX9_isSooner_2 : decode cX9_isSooner 2 = .ok (.iload_n 2, 1) := by decide +kernel
theorem dX9_isSooner_3 : decode cX9_isSooner 3 = .ok (.aload_n 0, 1) := by decide +kernel
theorem dX9_isSooner_4 : decode cX9_isSooner 4 = .ok (.getfield 41, 3) := by decide +kernel
theorem dX9_isSooner_7 : decode cX9_isSooner 7 = .ok (.iload_n 2, 1) := by decide +kernel
theorem dX9_isSooner_8 : decode cX9_isSooner 8 = .ok (.iaload, 1) := by decide +kernel
theorem dX9_isSooner_9 : decode cX9_isSooner 9 = .ok (.invokevirtual 442, 3) := by decide +kernel
theorem dX9_isSooner_12 : decode cX9_isSooner 12 = .ok (.istore_n 3, 1) := by decide +kernel
theorem dX9_isSooner_13 : decode cX9_isSooner 13 = .ok (.aload_n 0, 1) := by decide +kernel
theorem dX9_isSooner_14 : decode cX9_isSooner 14 = .ok (.iload_n 1, 1) := by decide +kernel
theorem dX9_isSooner_15 : decode cX9_isSooner 15 = .ok (.iload_n 2, 1) := by decide +kernel
theorem dX9_isSooner_16 : decode cX9_isSooner 16 = .ok (.aload_n 0, 1) := by decide +kernel
theorem dX9_isSooner_17 : decode cX9_isSooner 17 = .ok (.iload_n 1, 1) := by decide +kernel
theorem dX9_isSooner_18 : decode cX9_isSooner 18 = .ok (.iload_n 2, 1) := by decide +kernel
theorem dX9_isSooner_19 : decode cX9_isSooner 19 = .ok (.invokevirtual 445, 3) := by decide +kernel
theorem dX9_isSooner_22 : decode cX9_isSooner 22 = .ok (.invokevirtual 442, 3) := by decide +kernel
theorem dX9_isSooner_25 : decode cX9_isSooner 25 = .ok (.iload_n 3, 1) := by decide +kernel
theorem dX9_isSooner_26 : decode cX9_isSooner 26 = .ok (.if_icmp .ge 7, 3) := by decide +kernel
theorem dX9_isSooner_29 : decode cX9_isSooner 29 = .ok (.iconst 1, 1) := by decide +kernel
theorem dX9_isSooner_30 : decode cX9_isSooner 30 = .ok (.goto 4, 3) := by decide +kernel
theorem dX9_isSooner_33 : decode cX9_isSooner 33 = .ok (.iconst 0, 1) := by decide +kernel
theorem dX9_isSooner_34 : decode cX9_isSooner 34 = .ok (.ireturn, 1) := by decide +kernel
noncomputable def k_X9_isSooner (F : Nat) : AK := ak_aload 0 (ak_iload 1 (ak_iload 2 (ak_aload 0 (ak_getf 9 32 (ak_iload 2 (ak_iald (ak_callv 9 3 (m_X9_netAs F) (ak_istore 3 (ak_aload 0 (ak_iload 1 (ak_iload 2 (ak_aload 0 (ak_iload 1 (ak_iload 2 (ak_callv 9 2 (m_X9_regretOf F) (ak_callv 9 3 (m_X9_netAs F) (ak_iload 3 (ak_cmplt (ak_push (vI 1) ak_ireturn) (ak_push (vI 0) ak_ireturn)))))))))))))))))))
noncomputable def m_X9_isSooner (F : Nat) : AF := mkF 2 4 (k_X9_isSooner F)
set_option maxRecDepth 20000 in
theorem s_X9_isSooner (F : Nat) : MA yX9_isSooner cX9_isSooner 4 (some .boolean) 10 (m_X9_isSooner F) := met_of (Or.inr (Or.inr (Or.inl ⟨rfl, rfl⟩))) (by decide) (by
  unfold k_X9_isSooner
  exact snd_aload_n (pc := 0) (i := 0) dX9_isSooner_0 (snd_iload_n (pc := 1) (i := 1) dX9_isSooner_1 (snd_iload_n (pc := 2) (i := 2) dX9_isSooner_2 (snd_aload_n (pc := 3) (i := 0) dX9_isSooner_3 (snd_getf (pc := 4) cls9 (f := 32) (by decide) wd_1335 dX9_isSooner_4 (snd_iload_n (pc := 7) (i := 2) dX9_isSooner_7 (snd_iald (pc := 8) dX9_isSooner_8 (snd_callV (pc := 9) (n := 3) cls9 (s_X9_netAs F) (by decide) (by decide) wd_1838 wd_1835 wd_1837 wd_108 wd_129 hy_X9_netAs dX9_isSooner_9 (snd_istore_n (pc := 12) (i := 3) (by decide) dX9_isSooner_12 (snd_aload_n (pc := 13) (i := 0) dX9_isSooner_13 (snd_iload_n (pc := 14) (i := 1) dX9_isSooner_14 (snd_iload_n (pc := 15) (i := 2) dX9_isSooner_15 (snd_aload_n (pc := 16) (i := 0) dX9_isSooner_16 (snd_iload_n (pc := 17) (i := 1) dX9_isSooner_17 (snd_iload_n (pc := 18) (i := 2) dX9_isSooner_18 (snd_callV (pc := 19) (n := 2) cls9 (s_X9_regretOf F) (by decide) (by decide) wd_1846 wd_1843 wd_1845 wd_109 wd_129 hy_X9_regretOf dX9_isSooner_19 (snd_callV (pc := 22) (n := 3) cls9 (s_X9_netAs F) (by decide) (by decide) wd_1838 wd_1835 wd_1837 wd_108 wd_129 hy_X9_netAs dX9_isSooner_22 (snd_iload_n (pc := 25) (i := 3) dX9_isSooner_25 (snd_icmpge (pc := 26) (off := 7) (tgt := 33) (by decide) dX9_isSooner_26 (snd_iconst (pc := 33) dX9_isSooner_33 (snd_ireturn dX9_isSooner_34)) (snd_iconst (pc := 29) dX9_isSooner_29 (snd_goto (pc := 30) (off := 4) (tgt := 34) (by decide) dX9_isSooner_30 (snd_ireturn dX9_isSooner_34))))))))))))))))))))))

/-! LastWalkerModel.turned(IIII)I -/
theorem dX9_turned_0 : decode cX9_turned 0 = .ok (.aload_n 0, 1) := by decide +kernel
theorem dX9_turned_1 : decode cX9_turned 1 = .ok (.iconst 0, 1) := by decide +kernel
theorem dX9_turned_2 : decode cX9_turned 2 = .ok (.putfield 112, 3) := by decide +kernel
theorem dX9_turned_5 : decode cX9_turned 5 = .ok (.aload_n 0, 1) := by decide +kernel
theorem dX9_turned_6 : decode cX9_turned 6 = .ok (.iload_n 1, 1) := by decide +kernel
theorem dX9_turned_7 : decode cX9_turned 7 = .ok (.iload_n 2, 1) := by decide +kernel
theorem dX9_turned_8 : decode cX9_turned 8 = .ok (.invokevirtual 432, 3) := by decide +kernel
theorem dX9_turned_11 : decode cX9_turned 11 = .ok (.ifCond .eq 32, 3) := by decide +kernel
theorem dX9_turned_14 : decode cX9_turned 14 = .ok (.aload_n 0, 1) := by decide +kernel
theorem dX9_turned_15 : decode cX9_turned 15 = .ok (.iload_n 3, 1) := by decide +kernel
theorem dX9_turned_16 : decode cX9_turned 16 = .ok (.invokevirtual 316, 3) := by decide +kernel
theorem dX9_turned_19 : decode cX9_turned 19 = .ok (.ifCond .eq 24, 3) := by decide +kernel
theorem dX9_turned_22 : decode cX9_turned 22 = .ok (.iload 4, 2) := by decide +kernel
theorem dX9_turned_24 : decode cX9_turned 24 = .ok (.iconst 0, 1) := by decide +kernel
theorem dX9_turned_25 : decode cX9_turned 25 = .ok (.iconst 2, 1) := by decide +kernel
theorem dX9_turned_26 : decode cX9_turned 26 = .ok (.invokestatic 120, 3) := by decide +kernel
theorem dX9_turned_29 : decode cX9_turned 29 = .ok (.ifCond .eq 14, 3) := by decide +kernel
theorem dX9_turned_32 : decode cX9_turned 32 = .ok (.aload_n 0, 1) := by decide +kernel
theorem dX9_turned_33 : decode cX9_turned 33 = .ok (.iload_n 2, 1) := by decide +kernel
theorem dX9_turned_34 : decode cX9_turned 34 = .ok (.iload_n 3, 1) := by decide +kernel
theorem dX9_turned_35 : decode cX9_turned 35 = .ok (.iload 4, 2) := by decide +kernel
theorem dX9_turned_37 : decode cX9_turned 37 = .ok (.invokevirtual 442, 3) := by decide +kernel
theorem dX9_turned_40 : decode cX9_turned 40 = .ok (.goto 6, 3) := by decide +kernel
theorem dX9_turned_43 : decode cX9_turned 43 = .ok (.ldc_w 435, 3) := by decide +kernel
theorem dX9_turned_46 : decode cX9_turned 46 = .ok (.ireturn, 1) := by decide +kernel
noncomputable def k_X9_turned (F : Nat) : AK := ak_aload 0 (ak_push (vI 0) (ak_putf 9 0 (ak_aload 0 (ak_iload 1 (ak_iload 2 (ak_callv 9 2 (m_X9_layErrands F) (ak_ifeq (ak_push (vI (-100000)) ak_ireturn) (ak_aload 0 (ak_iload 3 (ak_callv 9 1 (m_X9_isPerson F) (ak_ifeq (ak_push (vI (-100000)) ak_ireturn) (ak_iload 4 (ak_push (vI 0) (ak_push (vI 2) (ak_call 3 (m_X9_in F) (ak_ifeq (ak_push (vI (-100000)) ak_ireturn) (ak_aload 0 (ak_iload 2 (ak_iload 3 (ak_iload 4 (ak_callv 9 3 (m_X9_netAs F) ak_ireturn)))))))))))))))))))))
noncomputable def m_X9_turned (F : Nat) : AF := mkF 1 5 (k_X9_turned F)
set_option maxRecDepth 20000 in
theorem s_X9_turned (F : Nat) : MA yX9_turned cX9_turned 5 (some .int) 9 (m_X9_turned F) := met_of (Or.inr (Or.inl ⟨rfl, rfl⟩)) (by decide) (by
  unfold k_X9_turned
  exact snd_aload_n (pc := 0) (i := 0) dX9_turned_0 (snd_iconst (pc := 1) dX9_turned_1 (snd_putf (pc := 2) cls9 (f := 0) (by decide) rfl rfl rfl wd_1303 dX9_turned_2 (snd_aload_n (pc := 5) (i := 0) dX9_turned_5 (snd_iload_n (pc := 6) (i := 1) dX9_turned_6 (snd_iload_n (pc := 7) (i := 2) dX9_turned_7 (snd_callV (pc := 8) (n := 2) cls9 (s_X9_layErrands F) (by decide) (by decide) wd_1777 wd_1774 wd_1776 wd_97 wd_129 hy_X9_layErrands dX9_turned_8 (snd_ifeq (pc := 11) (off := 32) (tgt := 43) (by decide) dX9_turned_11 (snd_ldcw (pc := 43) (z := (-100000)) (by decide) wd_1787 dX9_turned_43 (snd_ireturn dX9_turned_46)) (snd_aload_n (pc := 14) (i := 0) dX9_turned_14 (snd_iload_n (pc := 15) (i := 3) dX9_turned_15 (snd_callV (pc := 16) (n := 1) cls9 (s_X9_isPerson F) (by decide) (by decide) wd_1665 wd_1662 wd_1664 wd_79 wd_129 hy_X9_isPerson dX9_turned_16 (snd_ifeq (pc := 19) (off := 24) (tgt := 43) (by decide) dX9_turned_19 (snd_ldcw (pc := 43) (z := (-100000)) (by decide) wd_1787 dX9_turned_43 (snd_ireturn dX9_turned_46)) (snd_iload (pc := 22) (i := 4) dX9_turned_22 (snd_iconst (pc := 24) dX9_turned_24 (snd_iconst (pc := 25) dX9_turned_25 (snd_callS (pc := 26) (n := 3) (s_X9_in F) (by decide) (by decide) wd_1511 wd_1509 wd_1510 wd_129 hy_X9_in dX9_turned_26 (snd_ifeq (pc := 29) (off := 14) (tgt := 43) (by decide) dX9_turned_29 (snd_ldcw (pc := 43) (z := (-100000)) (by decide) wd_1787 dX9_turned_43 (snd_ireturn dX9_turned_46)) (snd_aload_n (pc := 32) (i := 0) dX9_turned_32 (snd_iload_n (pc := 33) (i := 2) dX9_turned_33 (snd_iload_n (pc := 34) (i := 3) dX9_turned_34 (snd_iload (pc := 35) (i := 4) dX9_turned_35 (snd_callV (pc := 37) (n := 3) cls9 (s_X9_netAs F) (by decide) (by decide) wd_1838 wd_1835 wd_1837 wd_108 wd_129 hy_X9_netAs dX9_turned_37 (snd_goto (pc := 40) (off := 6) (tgt := 46) (by decide) dX9_turned_40 (snd_ireturn dX9_turned_46))))))))))))))))))))))))

/-! LastWalkerModel.regret(III)I -/
theorem dX9_regret_0 : decode cX9_regret 0 = .ok (.aload_n 0, 1) := by decide +kernel
theorem dX9_regret_1 : decode cX9_regret 1 = .ok (.iconst 0, 1) := by decide +kernel
theorem dX9_regret_2 : decode cX9_regret 2 = .ok (.putfield 112, 3) := by decide +kernel
theorem dX9_regret_5 : decode cX9_regret 5 = .ok (.aload_n 0, 1) := by decide +kernel
theorem dX9_regret_6 : decode cX9_regret 6 = .ok (.iload_n 1, 1) := by decide +kernel
theorem dX9_regret_7 : decode cX9_regret 7 = .ok (.iload_n 2, 1) := by decide +kernel
theorem dX9_regret_8 : decode cX9_regret 8 = .ok (.invokevirtual 432, 3) := by decide +kernel
theorem dX9_regret_11 : decode cX9_regret 11 = .ok (.ifCond .eq 20, 3) := by decide +kernel
theorem dX9_regret_14 : decode cX9_regret 14 = .ok (.aload_n 0, 1) := by decide +kernel
theorem dX9_regret_15 : decode cX9_regret 15 = .ok (.iload_n 3, 1) := by decide +kernel
theorem dX9_regret_16 : decode cX9_regret 16 = .ok (.invokevirtual 316, 3) := by decide +kernel
theorem dX9_regret_19 : decode cX9_regret 19 = .ok (.ifCond .eq 12, 3) := by decide +kernel
theorem dX9_regret_22 : decode cX9_regret 22 = .ok (.aload_n 0, 1) := by decide +kernel
theorem dX9_regret_23 : decode cX9_regret 23 = .ok (.iload_n 2, 1) := by decide +kernel
theorem dX9_regret_24 : decode cX9_regret 24 = .ok (.iload_n 3, 1) := by decide +kernel
theorem dX9_regret_25 : decode cX9_regret 25 = .ok (.invokevirtual 445, 3) := by decide +kernel
theorem dX9_regret_28 : decode cX9_regret 28 = .ok (.goto 4, 3) := by decide +kernel
theorem dX9_regret_31 : decode cX9_regret 31 = .ok (.iconst (-1), 1) := by decide +kernel
theorem dX9_regret_32 : decode cX9_regret 32 = .ok (.ireturn, 1) := by decide +kernel
noncomputable def k_X9_regret (F : Nat) : AK := ak_aload 0 (ak_push (vI 0) (ak_putf 9 0 (ak_aload 0 (ak_iload 1 (ak_iload 2 (ak_callv 9 2 (m_X9_layErrands F) (ak_ifeq (ak_push (vI (-1)) ak_ireturn) (ak_aload 0 (ak_iload 3 (ak_callv 9 1 (m_X9_isPerson F) (ak_ifeq (ak_push (vI (-1)) ak_ireturn) (ak_aload 0 (ak_iload 2 (ak_iload 3 (ak_callv 9 2 (m_X9_regretOf F) ak_ireturn)))))))))))))))
noncomputable def m_X9_regret (F : Nat) : AF := mkF 1 4 (k_X9_regret F)
set_option maxRecDepth 20000 in
theorem s_X9_regret (F : Nat) : MA yX9_regret cX9_regret 4 (some .int) 10 (m_X9_regret F) := met_of (Or.inr (Or.inl ⟨rfl, rfl⟩)) (by decide) (by
  unfold k_X9_regret
  exact snd_aload_n (pc := 0) (i := 0) dX9_regret_0 (snd_iconst (pc := 1) dX9_regret_1 (snd_putf (pc := 2) cls9 (f := 0) (by decide) rfl rfl rfl wd_1303 dX9_regret_2 (snd_aload_n (pc := 5) (i := 0) dX9_regret_5 (snd_iload_n (pc := 6) (i := 1) dX9_regret_6 (snd_iload_n (pc := 7) (i := 2) dX9_regret_7 (snd_callV (pc := 8) (n := 2) cls9 (s_X9_layErrands F) (by decide) (by decide) wd_1777 wd_1774 wd_1776 wd_97 wd_129 hy_X9_layErrands dX9_regret_8 (snd_ifeq (pc := 11) (off := 20) (tgt := 31) (by decide) dX9_regret_11 (snd_iconst (pc := 31) dX9_regret_31 (snd_ireturn dX9_regret_32)) (snd_aload_n (pc := 14) (i := 0) dX9_regret_14 (snd_iload_n (pc := 15) (i := 3) dX9_regret_15 (snd_callV (pc := 16) (n := 1) cls9 (s_X9_isPerson F) (by decide) (by decide) wd_1665 wd_1662 wd_1664 wd_79 wd_129 hy_X9_isPerson dX9_regret_16 (snd_ifeq (pc := 19) (off := 12) (tgt := 31) (by decide) dX9_regret_19 (snd_iconst (pc := 31) dX9_regret_31 (snd_ireturn dX9_regret_32)) (snd_aload_n (pc := 22) (i := 0) dX9_regret_22 (snd_iload_n (pc := 23) (i := 2) dX9_regret_23 (snd_iload_n (pc := 24) (i := 3) dX9_regret_24 (snd_callV (pc := 25) (n := 2) cls9 (s_X9_regretOf F) (by decide) (by decide) wd_1846 wd_1843 wd_1845 wd_109 wd_129 hy_X9_regretOf dX9_regret_25 (snd_goto (pc := 28) (off := 4) (tgt := 32) (by decide) dX9_regret_28 (snd_ireturn dX9_regret_32))))))))))))))))))

/-! LastWalkerModel.sooner(II)I -/
theorem dX9_sooner_0 : decode cX9_sooner 0 = .ok (.aload_n 0, 1) := by decide +kernel
theorem dX9_sooner_1 : decode cX9_sooner 1 = .ok (.iconst 0, 1) := by decide +kernel
theorem dX9_sooner_2 : decode cX9_sooner 2 = .ok (.putfield 112, 3) := by decide +kernel
theorem dX9_sooner_5 : decode cX9_sooner 5 = .ok (.aload_n 0, 1) := by decide +kernel
theorem dX9_sooner_6 : decode cX9_sooner 6 = .ok (.iload_n 1, 1) := by decide +kernel
theorem dX9_sooner_7 : decode cX9_sooner 7 = .ok (.iload_n 2, 1) := by decide +kernel
theorem dX9_sooner_8 : decode cX9_sooner 8 = .ok (.invokevirtual 432, 3) := by decide +kernel
theorem dX9_sooner_11 : decode cX9_sooner 11 = .ok (.ifCond .ne 5, 3) := by decide +kernel
theorem dX9_sooner_14 : decode cX9_sooner 14 = .ok (.iconst (-1), 1) := by decide +kernel
theorem dX9_sooner_15 : decode cX9_sooner 15 = .ok (.ireturn, 1) := by decide +kernel
theorem dX9_sooner_16 : decode cX9_sooner 16 = .ok (.iconst 0, 1) := by decide +kernel
theorem dX9_sooner_17 : decode cX9_sooner 17 = .ok (.istore_n 3, 1) := by decide +kernel
theorem dX9_sooner_18 : decode cX9_sooner 18 = .ok (.iconst 0, 1) := by decide +kernel
theorem dX9_sooner_19 : decode cX9_sooner 19 = .ok (.istore 4, 2) := by decide +kernel
theorem dX9_sooner_21 : decode cX9_sooner 21 = .ok (.iload 4, 2) := by decide +kernel
theorem dX9_sooner_23 : decode cX9_sooner 23 = .ok (.aload_n 0, 1) := by decide +kernel
theorem dX9_sooner_24 : decode cX9_sooner 24 = .ok (.getfield 264, 3) := by decide +kernel
theorem dX9_sooner_27 : decode cX9_sooner 27 = .ok (.if_icmp .ge 30, 3) := by decide +kernel
theorem dX9_sooner_30 : decode cX9_sooner 30 = .ok (.iload_n 3, 1) := by decide +kernel
theorem dX9_sooner_31 : decode cX9_sooner 31 = .ok (.aload_n 0, 1) := by decide +kernel
theorem dX9_sooner_32 : decode cX9_sooner 32 = .ok (.iload_n 2, 1) := by decide +kernel
theorem dX9_sooner_33 : decode cX9_sooner 33 = .ok (.iload 4, 2) := by decide +kernel
theorem dX9_sooner_35 : decode cX9_sooner 35 = .ok (.invokevirtual 448, 3) := by decide +kernel
theorem dX9_sooner_38 : decode cX9_sooner 38 = .ok (.ifCond .eq 10, 3) := by decide +kernel
theorem dX9_sooner_41 : decode cX9_sooner 41 = .ok (.iconst 1, 1) := by decide +kernel
theorem dX9_sooner_42 : decode cX9_sooner 42 = .ok (.iload 4, 2) := by decide +kernel
theorem dX9_sooner_44 : decode cX9_sooner 44 = .ok (.ishl, 1) := by decide +kernel
theorem dX9_sooner_45 : decode cX9_sooner 45 = .ok (.goto 4, 3) := by decide +kernel
theorem dX9_sooner_48 : decode cX9_sooner 48 = .ok (.iconst 0, 1) := by decide +kernel
theorem dX9_sooner_49 : decode cX9_sooner 49 = .ok (.ior, 1) := by decide +kernel
theorem dX9_sooner_50 : decode cX9_sooner 50 = .ok (.istore_n 3, 1) := by decide +kernel
theorem dX9_sooner_51 : decode cX9_sooner 51 = .ok (.iinc 4 1, 3) := by decide +kernel
theorem dX9_sooner_54 : decode cX9_sooner 54 = .ok (.goto (-33), 3) := by decide +kernel
theorem dX9_sooner_57 : decode cX9_sooner 57 = .ok (.iload_n 3, 1) := by decide +kernel
theorem dX9_sooner_58 : decode cX9_sooner 58 = .ok (.ireturn, 1) := by decide +kernel
noncomputable def k_X9_sooner_49 (F : Nat) (h21 : AK) : AK := ak_ior (ak_istore 3 (ak_iinc 4 1 h21))
set_option maxRecDepth 20000 in
theorem sk_X9_sooner_49 (F : Nat) {h21 : AK} (hh21 : Snd X0 RX9 cX9_sooner 5 11 21 h21) : Snd X0 RX9 cX9_sooner 5 11 49 (k_X9_sooner_49 F h21) := by
  unfold k_X9_sooner_49
  exact snd_ior (pc := 49) dX9_sooner_49 (snd_istore_n (pc := 50) (i := 3) (by decide) dX9_sooner_50 (snd_iinc (pc := 51) (i := 4) (n := 1) (by decide) dX9_sooner_51 (snd_goto (pc := 54) (off := (-33)) (tgt := 21) (by decide) dX9_sooner_54 (hh21))))
noncomputable def kb_X9_sooner_21 (F : Nat) (self : AK) : AK := ak_iload 4 (ak_aload 0 (ak_getf 9 24 (ak_cmplt (ak_iload 3 (ak_aload 0 (ak_iload 2 (ak_iload 4 (ak_callv 9 2 (m_X9_isSooner F) (ak_ifeq (ak_push (vI 0) ((k_X9_sooner_49 F self))) (ak_push (vI 1) (ak_iload 4 (ak_ishl ((k_X9_sooner_49 F self))))))))))) (ak_iload 3 ak_ireturn))))
noncomputable def k_X9_sooner_21 (F : Nat) (n : Nat) : AK := Nat.rec (motive := fun _ => AK) ak_none (fun _ self => kb_X9_sooner_21 F self) n
set_option maxRecDepth 20000 in
theorem sk_X9_sooner_21 (F : Nat) : ∀ n, Snd X0 RX9 cX9_sooner 5 11 21 (k_X9_sooner_21 F n) := by
  intro n
  induction n with
  | zero => exact snd_none
  | succ n ih =>
    show Snd X0 RX9 cX9_sooner 5 11 21 (kb_X9_sooner_21 F (k_X9_sooner_21 F n))
    unfold kb_X9_sooner_21
    exact snd_iload (pc := 21) (i := 4) dX9_sooner_21 (snd_aload_n (pc := 23) (i := 0) dX9_sooner_23 (snd_getf (pc := 24) cls9 (f := 24) (by decide) wd_1327 dX9_sooner_24 (snd_icmpge (pc := 27) (off := 30) (tgt := 57) (by decide) dX9_sooner_27 (snd_iload_n (pc := 57) (i := 3) dX9_sooner_57 (snd_ireturn dX9_sooner_58)) (snd_iload_n (pc := 30) (i := 3) dX9_sooner_30 (snd_aload_n (pc := 31) (i := 0) dX9_sooner_31 (snd_iload_n (pc := 32) (i := 2) dX9_sooner_32 (snd_iload (pc := 33) (i := 4) dX9_sooner_33 (snd_callV (pc := 35) (n := 2) cls9 (s_X9_isSooner F) (by decide) (by decide) wd_1854 wd_1851 wd_1853 wd_110 wd_129 hy_X9_isSooner dX9_sooner_35 (snd_ifeq (pc := 38) (off := 10) (tgt := 48) (by decide) dX9_sooner_38 (snd_iconst (pc := 48) dX9_sooner_48 ((sk_X9_sooner_49 F ih))) (snd_iconst (pc := 41) dX9_sooner_41 (snd_iload (pc := 42) (i := 4) dX9_sooner_42 (snd_ishl (pc := 44) dX9_sooner_44 (snd_goto (pc := 45) (off := 4) (tgt := 49) (by decide) dX9_sooner_45 ((sk_X9_sooner_49 F ih)))))))))))))))
noncomputable def k_X9_sooner (F : Nat) : AK := ak_aload 0 (ak_push (vI 0) (ak_putf 9 0 (ak_aload 0 (ak_iload 1 (ak_iload 2 (ak_callv 9 2 (m_X9_layErrands F) (ak_ifeq (ak_push (vI (-1)) ak_ireturn) (ak_push (vI 0) (ak_istore 3 (ak_push (vI 0) (ak_istore 4 ((k_X9_sooner_21 F F)))))))))))))
noncomputable def m_X9_sooner (F : Nat) : AF := mkF 1 5 (k_X9_sooner F)
set_option maxRecDepth 20000 in
theorem s_X9_sooner (F : Nat) : MA yX9_sooner cX9_sooner 5 (some .int) 11 (m_X9_sooner F) := met_of (Or.inr (Or.inl ⟨rfl, rfl⟩)) (by decide) (by
  unfold k_X9_sooner
  exact snd_aload_n (pc := 0) (i := 0) dX9_sooner_0 (snd_iconst (pc := 1) dX9_sooner_1 (snd_putf (pc := 2) cls9 (f := 0) (by decide) rfl rfl rfl wd_1303 dX9_sooner_2 (snd_aload_n (pc := 5) (i := 0) dX9_sooner_5 (snd_iload_n (pc := 6) (i := 1) dX9_sooner_6 (snd_iload_n (pc := 7) (i := 2) dX9_sooner_7 (snd_callV (pc := 8) (n := 2) cls9 (s_X9_layErrands F) (by decide) (by decide) wd_1777 wd_1774 wd_1776 wd_97 wd_129 hy_X9_layErrands dX9_sooner_8 (snd_ifne (pc := 11) (off := 5) (tgt := 16) (by decide) dX9_sooner_11 (snd_iconst (pc := 16) dX9_sooner_16 (snd_istore_n (pc := 17) (i := 3) (by decide) dX9_sooner_17 (snd_iconst (pc := 18) dX9_sooner_18 (snd_istore (pc := 19) (i := 4) (by decide) dX9_sooner_19 ((sk_X9_sooner_21 F F)))))) (snd_iconst (pc := 14) dX9_sooner_14 (snd_ireturn dX9_sooner_15))))))))))

/-! LastWalkerModel.firstSooner(I)I -/
theorem dX9_firstSooner_0 : decode cX9_firstSooner 0 = .ok (.iconst 0, 1) := by decide +kernel
theorem dX9_firstSooner_1 : decode cX9_firstSooner 1 = .ok (.istore_n 2, 1) := by decide +kernel
theorem dX9_firstSooner_2 : decode cX9_firstSooner 2 = .ok (.iload_n 2, 1) := by decide +kernel
theorem dX9_firstSooner_3 : decode cX9_firstSooner 3 = .ok (.aload_n 0, 1) := by decide +kernel
theorem dX9_firstSooner_4 : decode cX9_firstSooner 4 = .ok (.getfield 264, 3) := by decide +kernel
theorem dX9_firstSooner_7 : decode cX9_firstSooner 7 = .ok (.if_icmp .ge 20, 3) := by decide +kernel
theorem dX9_firstSooner_10 : decode cX9_firstSooner 10 = .ok (.aload_n 0, 1) := by decide +kernel
theorem dX9_firstSooner_11 : decode cX9_firstSooner 11 = .ok (.iload_n 1, 1) := by decide +kernel
theorem dX9_firstSooner_12 : decode cX9_firstSooner 12 = .ok (.iload_n 2, 1) := by decide +kernel
theorem dX9_firstSooner_13 : decode cX9_firstSooner 13 = .ok (.invokevirtual 448, 3) := by decide +kernel
theorem dX9_firstSooner_16 : decode cX9_firstSooner 16 = .ok (.ifCond .eq 5, 3) := by decide +kernel
theorem dX9_firstSooner_19 : decode cX9_firstSooner 19 = .ok (.iload_n 2, 1) := by decide +kernel
theorem dX9_firstSooner_20 : decode cX9_firstSooner 20 = .ok (.ireturn, 1) := by decide +kernel
theorem dX9_firstSooner_21 : decode cX9_firstSooner 21 = .ok (.iinc 2 1, 3) := by decide +kernel
theorem dX9_firstSooner_24 : decode cX9_firstSooner 24 = .ok (.goto (-22), 3) := by decide +kernel
theorem dX9_firstSooner_27 : decode cX9_firstSooner 27 = .ok (.iconst (-1), 1) := by decide +kernel
theorem dX9_firstSooner_28 : decode cX9_firstSooner 28 = .ok (.ireturn, 1) := by decide +kernel
noncomputable def kb_X9_firstSooner_2 (F : Nat) (self : AK) : AK := ak_iload 2 (ak_aload 0 (ak_getf 9 24 (ak_cmplt (ak_aload 0 (ak_iload 1 (ak_iload 2 (ak_callv 9 2 (m_X9_isSooner F) (ak_ifeq (ak_iinc 2 1 self) (ak_iload 2 ak_ireturn)))))) (ak_push (vI (-1)) ak_ireturn))))
noncomputable def k_X9_firstSooner_2 (F : Nat) (n : Nat) : AK := Nat.rec (motive := fun _ => AK) ak_none (fun _ self => kb_X9_firstSooner_2 F self) n
set_option maxRecDepth 20000 in
theorem sk_X9_firstSooner_2 (F : Nat) : ∀ n, Snd X0 RX9 cX9_firstSooner 3 11 2 (k_X9_firstSooner_2 F n) := by
  intro n
  induction n with
  | zero => exact snd_none
  | succ n ih =>
    show Snd X0 RX9 cX9_firstSooner 3 11 2 (kb_X9_firstSooner_2 F (k_X9_firstSooner_2 F n))
    unfold kb_X9_firstSooner_2
    exact snd_iload_n (pc := 2) (i := 2) dX9_firstSooner_2 (snd_aload_n (pc := 3) (i := 0) dX9_firstSooner_3 (snd_getf (pc := 4) cls9 (f := 24) (by decide) wd_1327 dX9_firstSooner_4 (snd_icmpge (pc := 7) (off := 20) (tgt := 27) (by decide) dX9_firstSooner_7 (snd_iconst (pc := 27) dX9_firstSooner_27 (snd_ireturn dX9_firstSooner_28)) (snd_aload_n (pc := 10) (i := 0) dX9_firstSooner_10 (snd_iload_n (pc := 11) (i := 1) dX9_firstSooner_11 (snd_iload_n (pc := 12) (i := 2) dX9_firstSooner_12 (snd_callV (pc := 13) (n := 2) cls9 (s_X9_isSooner F) (by decide) (by decide) wd_1854 wd_1851 wd_1853 wd_110 wd_129 hy_X9_isSooner dX9_firstSooner_13 (snd_ifeq (pc := 16) (off := 5) (tgt := 21) (by decide) dX9_firstSooner_16 (snd_iinc (pc := 21) (i := 2) (n := 1) (by decide) dX9_firstSooner_21 (snd_goto (pc := 24) (off := (-22)) (tgt := 2) (by decide) dX9_firstSooner_24 (ih))) (snd_iload_n (pc := 19) (i := 2) dX9_firstSooner_19 (snd_ireturn dX9_firstSooner_20))))))))))
noncomputable def k_X9_firstSooner (F : Nat) : AK := ak_push (vI 0) (ak_istore 2 ((k_X9_firstSooner_2 F F)))
noncomputable def m_X9_firstSooner (F : Nat) : AF := mkF 1 3 (k_X9_firstSooner F)
set_option maxRecDepth 20000 in
theorem s_X9_firstSooner (F : Nat) : MA yX9_firstSooner cX9_firstSooner 3 (some .int) 11 (m_X9_firstSooner F) := met_of (Or.inr (Or.inl ⟨rfl, rfl⟩)) (by decide) (by
  unfold k_X9_firstSooner
  exact snd_iconst (pc := 0) dX9_firstSooner_0 (snd_istore_n (pc := 1) (i := 2) (by decide) dX9_firstSooner_1 ((sk_X9_firstSooner_2 F F))))

/-! LastWalkerModel.rests(IIZ)I -/
theorem dX9_rests_0 : decode cX9_rests 0 = .ok (.aload_n 0, 1) := by decide +kernel
theorem dX9_rests_1 : decode cX9_rests 1 = .ok (.iconst 0, 1) := by decide +kernel
theorem dX9_rests_2 : decode cX9_rests 2 = .ok (.putfield 112, 3) := by decide +kernel
theorem dX9_rests_5 : decode cX9_rests 5 = .ok (.aload_n 0, 1) := by decide +kernel
theorem dX9_rests_6 : decode cX9_rests 6 = .ok (.iload_n 1, 1) := by decide +kernel
theorem dX9_rests_7 : decode cX9_rests 7 = .ok (.iload_n 2, 1) := by decide +kernel
theorem dX9_rests_8 : decode cX9_rests 8 = .ok (.invokevirtual 432, 3) := by decide +kernel
theorem dX9_rests_11 : decode cX9_rests 11 = .ok (.ifCond .ne 5, 3) := by decide +kernel
theorem dX9_rests_14 : decode cX9_rests 14 = .ok (.iconst (-1), 1) := by decide +kernel
theorem dX9_rests_15 : decode cX9_rests 15 = .ok (.ireturn, 1) := by decide +kernel
theorem dX9_rests_16 : decode cX9_rests 16 = .ok (.iconst 0, 1) := by decide +kernel
theorem dX9_rests_17 : decode cX9_rests 17 = .ok (.istore 4, 2) := by decide +kernel
theorem dX9_rests_19 : decode cX9_rests 19 = .ok (.aload_n 0, 1) := by decide +kernel
theorem dX9_rests_20 : decode cX9_rests 20 = .ok (.iload_n 2, 1) := by decide +kernel
theorem dX9_rests_21 : decode cX9_rests 21 = .ok (.invokevirtual 451, 3) := by decide +kernel
theorem dX9_rests_24 : decode cX9_rests 24 = .ok (.istore 5, 2) := by decide +kernel
theorem dX9_rests_26 : decode cX9_rests 26 = .ok (.iload 5, 2) := by decide +kernel
theorem dX9_rests_28 : decode cX9_rests 28 = .ok (.iconst (-1), 1) := by decide +kernel
theorem dX9_rests_29 : decode cX9_rests 29 = .ok (.if_icmp .eq 37, 3) := by decide +kernel
theorem dX9_rests_32 : decode cX9_rests 32 = .ok (.iload 4, 2) := by decide +kernel
theorem dX9_rests_34 : decode cX9_rests 34 = .ok (.bipush 20, 2) := by decide +kernel
theorem dX9_rests_36 : decode cX9_rests 36 = .ok (.if_icmp .ge 30, 3) := by decide +kernel
theorem dX9_rests_39 : decode cX9_rests 39 = .ok (.aload_n 0, 1) := by decide +kernel
theorem dX9_rests_40 : decode cX9_rests 40 = .ok (.getfield 41, 3) := by decide +kernel
theorem dX9_rests_43 : decode cX9_rests 43 = .ok (.iload 5, 2) := by decide +kernel
theorem dX9_rests_45 : decode cX9_rests 45 = .ok (.aload_n 0, 1) := by decide +kernel
theorem dX9_rests_46 : decode cX9_rests 46 = .ok (.iload_n 2, 1) := by decide +kernel
theorem dX9_rests_47 : decode cX9_rests 47 = .ok (.iload 5, 2) := by decide +kernel
theorem dX9_rests_49 : decode cX9_rests 49 = .ok (.invokevirtual 445, 3) := by decide +kernel
theorem dX9_rests_52 : decode cX9_rests 52 = .ok (.iastore, 1) := by decide +kernel
theorem dX9_rests_53 : decode cX9_rests 53 = .ok (.iinc 4 1, 3) := by decide +kernel
theorem dX9_rests_56 : decode cX9_rests 56 = .ok (.aload_n 0, 1) := by decide +kernel
theorem dX9_rests_57 : decode cX9_rests 57 = .ok (.iload_n 2, 1) := by decide +kernel
theorem dX9_rests_58 : decode cX9_rests 58 = .ok (.invokevirtual 451, 3) := by decide +kernel
theorem dX9_rests_61 : decode cX9_rests 61 = .ok (.istore 5, 2) := by decide +kernel
theorem dX9_rests_63 : decode cX9_rests 63 = .ok (.goto (-37), 3) := by decide +kernel
theorem dX9_rests_66 : decode cX9_rests 66 = .ok (.iconst 0, 1) := by decide +kernel
theorem dX9_rests_67 : decode cX9_rests 67 = .ok (.istore 6, 2) := by decide +kernel
theorem dX9_rests_69 : decode cX9_rests 69 = .ok (.aload_n 0, 1) := by decide +kernel
theorem dX9_rests_70 : decode cX9_rests 70 = .ok (.getfield 264, 3) := by decide +kernel
theorem dX9_rests_73 : decode cX9_rests 73 = .ok (.iconst 1, 1) := by decide +kernel
theorem dX9_rests_74 : decode cX9_rests 74 = .ok (.isub, 1) := by decide +kernel
theorem dX9_rests_75 : decode cX9_rests 75 = .ok (.istore 7, 2) := by decide +kernel
theorem dX9_rests_77 : decode cX9_rests 77 = .ok (.iload 7, 2) := by decide +kernel
theorem dX9_rests_79 : decode cX9_rests 79 = .ok (.ifCond .lt 23, 3) := by decide +kernel
theorem dX9_rests_82 : decode cX9_rests 82 = .ok (.iconst 3, 1) := by decide +kernel
theorem dX9_rests_83 : decode cX9_rests 83 = .ok (.iload 6, 2) := by decide +kernel
theorem dX9_rests_85 : decode cX9_rests 85 = .ok (.imul, 1) := by decide +kernel
theorem dX9_rests_86 : decode cX9_rests 86 = .ok (.aload_n 0, 1) := by decide +kernel
theorem dX9_rests_87 : decode cX9_rests 87 = .ok (.getfield 41, 3) := by decide +kernel
theorem dX9_rests_90 : decode cX9_rests 90 = .ok (.iload 7, 2) := by decide +kernel
theorem dX9_rests_92 : decode cX9_rests 92 = .ok (.iaload, 1) := by decide +kernel
theorem dX9_rests_93 : decode cX9_rests 93 = .ok (.iadd, 1) := by decide +kernel
theorem dX9_rests_94 : decode cX9_rests 94 = .ok (.istore 6, 2) := by decide +kernel
theorem dX9_rests_96 : decode cX9_rests 96 = .ok (.iinc 7 (-1), 3) := by decide +kernel
theorem dX9_rests_99 : decode cX9_rests 99 = .ok (.goto (-22), 3) := by decide +kernel
theorem dX9_rests_102 : decode cX9_rests 102 = .ok (.iload_n 3, 1) := by decide +kernel
theorem dX9_rests_103 : decode cX9_rests 103 = .ok (.ifCond .eq 8, 3) := by decide +kernel
theorem dX9_rests_106 : decode cX9_rests 106 = .ok (.iload 6, 2) := by decide +kernel
theorem dX9_rests_108 : decode cX9_rests 108 = .ok (.goto 15, 3) := by decide +kernel
theorem dX9_rests_111 : decode cX9_rests 111 = .ok (.iload 5, 2) := by decide +kernel
theorem dX9_rests_113 : decode cX9_rests 113 = .ok (.iconst (-1), 1) := by decide +kernel
theorem dX9_rests_114 : decode cX9_rests 114 = .ok (.if_icmp .eq 7, 3) := by decide +kernel
theorem dX9_rests_117 : decode cX9_rests 117 = .ok (.iconst (-1), 1) := by decide +kernel
theorem dX9_rests_118 : decode cX9_rests 118 = .ok (.goto 5, 3) := by decide +kernel
theorem dX9_rests_121 : decode cX9_rests 121 = .ok (.iload 4, 2) := by decide +kernel
theorem dX9_rests_123 : decode cX9_rests 123 = .ok (.ireturn, 1) := by decide +kernel
noncomputable def kb_X9_rests_77 (F : Nat) (self : AK) : AK := ak_iload 7 (ak_iflt (ak_iload 3 (ak_ifeq (ak_iload 5 (ak_push (vI (-1)) (ak_cmpeq (ak_iload 4 ak_ireturn) (ak_push (vI (-1)) ak_ireturn)))) (ak_iload 6 ak_ireturn))) (ak_push (vI 3) (ak_iload 6 (ak_imul (ak_aload 0 (ak_getf 9 32 (ak_iload 7 (ak_iald (ak_iadd (ak_istore 6 (ak_iinc 7 (-1) self)))))))))))
noncomputable def k_X9_rests_77 (F : Nat) (n : Nat) : AK := Nat.rec (motive := fun _ => AK) ak_none (fun _ self => kb_X9_rests_77 F self) n
set_option maxRecDepth 20000 in
theorem sk_X9_rests_77 (F : Nat) : ∀ n, Snd X0 RX9 cX9_rests 8 12 77 (k_X9_rests_77 F n) := by
  intro n
  induction n with
  | zero => exact snd_none
  | succ n ih =>
    show Snd X0 RX9 cX9_rests 8 12 77 (kb_X9_rests_77 F (k_X9_rests_77 F n))
    unfold kb_X9_rests_77
    exact snd_iload (pc := 77) (i := 7) dX9_rests_77 (snd_iflt (pc := 79) (off := 23) (tgt := 102) (by decide) dX9_rests_79 (snd_iload_n (pc := 102) (i := 3) dX9_rests_102 (snd_ifeq (pc := 103) (off := 8) (tgt := 111) (by decide) dX9_rests_103 (snd_iload (pc := 111) (i := 5) dX9_rests_111 (snd_iconst (pc := 113) dX9_rests_113 (snd_icmpeq (pc := 114) (off := 7) (tgt := 121) (by decide) dX9_rests_114 (snd_iload (pc := 121) (i := 4) dX9_rests_121 (snd_ireturn dX9_rests_123)) (snd_iconst (pc := 117) dX9_rests_117 (snd_goto (pc := 118) (off := 5) (tgt := 123) (by decide) dX9_rests_118 (snd_ireturn dX9_rests_123)))))) (snd_iload (pc := 106) (i := 6) dX9_rests_106 (snd_goto (pc := 108) (off := 15) (tgt := 123) (by decide) dX9_rests_108 (snd_ireturn dX9_rests_123))))) (snd_iconst (pc := 82) dX9_rests_82 (snd_iload (pc := 83) (i := 6) dX9_rests_83 (snd_imul (pc := 85) dX9_rests_85 (snd_aload_n (pc := 86) (i := 0) dX9_rests_86 (snd_getf (pc := 87) cls9 (f := 32) (by decide) wd_1335 dX9_rests_87 (snd_iload (pc := 90) (i := 7) dX9_rests_90 (snd_iald (pc := 92) dX9_rests_92 (snd_iadd (pc := 93) dX9_rests_93 (snd_istore (pc := 94) (i := 6) (by decide) dX9_rests_94 (snd_iinc (pc := 96) (i := 7) (n := (-1)) (by decide) dX9_rests_96 (snd_goto (pc := 99) (off := (-22)) (tgt := 77) (by decide) dX9_rests_99 (ih)))))))))))))
noncomputable def k_X9_rests_66 (F : Nat) : AK := ak_push (vI 0) (ak_istore 6 (ak_aload 0 (ak_getf 9 24 (ak_push (vI 1) (ak_isub (ak_istore 7 ((k_X9_rests_77 F F))))))))
set_option maxRecDepth 20000 in
theorem sk_X9_rests_66 (F : Nat) : Snd X0 RX9 cX9_rests 8 12 66 (k_X9_rests_66 F) := by
  unfold k_X9_rests_66
  exact snd_iconst (pc := 66) dX9_rests_66 (snd_istore (pc := 67) (i := 6) (by decide) dX9_rests_67 (snd_aload_n (pc := 69) (i := 0) dX9_rests_69 (snd_getf (pc := 70) cls9 (f := 24) (by decide) wd_1327 dX9_rests_70 (snd_iconst (pc := 73) dX9_rests_73 (snd_isub (pc := 74) dX9_rests_74 (snd_istore (pc := 75) (i := 7) (by decide) dX9_rests_75 ((sk_X9_rests_77 F F))))))))
noncomputable def kb_X9_rests_26 (F : Nat) (self : AK) : AK := ak_iload 5 (ak_push (vI (-1)) (ak_cmpeq ((k_X9_rests_66 F)) (ak_iload 4 (ak_push (vI 20) (ak_cmplt (ak_aload 0 (ak_getf 9 32 (ak_iload 5 (ak_aload 0 (ak_iload 2 (ak_iload 5 (ak_callv 9 2 (m_X9_regretOf F) (ak_iast (ak_iinc 4 1 (ak_aload 0 (ak_iload 2 (ak_callv 9 1 (m_X9_firstSooner F) (ak_istore 5 self))))))))))))) ((k_X9_rests_66 F)))))))
noncomputable def k_X9_rests_26 (F : Nat) (n : Nat) : AK := Nat.rec (motive := fun _ => AK) ak_none (fun _ self => kb_X9_rests_26 F self) n
set_option maxRecDepth 20000 in
theorem sk_X9_rests_26 (F : Nat) : ∀ n, Snd X0 RX9 cX9_rests 8 12 26 (k_X9_rests_26 F n) := by
  intro n
  induction n with
  | zero => exact snd_none
  | succ n ih =>
    show Snd X0 RX9 cX9_rests 8 12 26 (kb_X9_rests_26 F (k_X9_rests_26 F n))
    unfold kb_X9_rests_26
    exact snd_iload (pc := 26) (i := 5) dX9_rests_26 (snd_iconst (pc := 28) dX9_rests_28 (snd_icmpeq (pc := 29) (off := 37) (tgt := 66) (by decide) dX9_rests_29 ((sk_X9_rests_66 F)) (snd_iload (pc := 32) (i := 4) dX9_rests_32 (snd_bipush (pc := 34) (by decide) dX9_rests_34 (snd_icmpge (pc := 36) (off := 30) (tgt := 66) (by decide) dX9_rests_36 ((sk_X9_rests_66 F)) (snd_aload_n (pc := 39) (i := 0) dX9_rests_39 (snd_getf (pc := 40) cls9 (f := 32) (by decide) wd_1335 dX9_rests_40 (snd_iload (pc := 43) (i := 5) dX9_rests_43 (snd_aload_n (pc := 45) (i := 0) dX9_rests_45 (snd_iload_n (pc := 46) (i := 2) dX9_rests_46 (snd_iload (pc := 47) (i := 5) dX9_rests_47 (snd_callV (pc := 49) (n := 2) cls9 (s_X9_regretOf F) (by decide) (by decide) wd_1846 wd_1843 wd_1845 wd_109 wd_129 hy_X9_regretOf dX9_rests_49 (snd_iast (pc := 52) dX9_rests_52 (snd_iinc (pc := 53) (i := 4) (n := 1) (by decide) dX9_rests_53 (snd_aload_n (pc := 56) (i := 0) dX9_rests_56 (snd_iload_n (pc := 57) (i := 2) dX9_rests_57 (snd_callV (pc := 58) (n := 1) cls9 (s_X9_firstSooner F) (by decide) (by decide) wd_1862 wd_1859 wd_1861 wd_111 wd_129 hy_X9_firstSooner dX9_rests_58 (snd_istore (pc := 61) (i := 5) (by decide) dX9_rests_61 (snd_goto (pc := 63) (off := (-37)) (tgt := 26) (by decide) dX9_rests_63 (ih))))))))))))))))))))
noncomputable def k_X9_rests (F : Nat) : AK := ak_aload 0 (ak_push (vI 0) (ak_putf 9 0 (ak_aload 0 (ak_iload 1 (ak_iload 2 (ak_callv 9 2 (m_X9_layErrands F) (ak_ifeq (ak_push (vI (-1)) ak_ireturn) (ak_push (vI 0) (ak_istore 4 (ak_aload 0 (ak_iload 2 (ak_callv 9 1 (m_X9_firstSooner F) (ak_istore 5 ((k_X9_rests_26 F F)))))))))))))))
noncomputable def m_X9_rests (F : Nat) : AF := mkF 1 8 (k_X9_rests F)
set_option maxRecDepth 20000 in
theorem s_X9_rests (F : Nat) : MA yX9_rests cX9_rests 8 (some .int) 12 (m_X9_rests F) := met_of (Or.inr (Or.inl ⟨rfl, rfl⟩)) (by decide) (by
  unfold k_X9_rests
  exact snd_aload_n (pc := 0) (i := 0) dX9_rests_0 (snd_iconst (pc := 1) dX9_rests_1 (snd_putf (pc := 2) cls9 (f := 0) (by decide) rfl rfl rfl wd_1303 dX9_rests_2 (snd_aload_n (pc := 5) (i := 0) dX9_rests_5 (snd_iload_n (pc := 6) (i := 1) dX9_rests_6 (snd_iload_n (pc := 7) (i := 2) dX9_rests_7 (snd_callV (pc := 8) (n := 2) cls9 (s_X9_layErrands F) (by decide) (by decide) wd_1777 wd_1774 wd_1776 wd_97 wd_129 hy_X9_layErrands dX9_rests_8 (snd_ifne (pc := 11) (off := 5) (tgt := 16) (by decide) dX9_rests_11 (snd_iconst (pc := 16) dX9_rests_16 (snd_istore (pc := 17) (i := 4) (by decide) dX9_rests_17 (snd_aload_n (pc := 19) (i := 0) dX9_rests_19 (snd_iload_n (pc := 20) (i := 2) dX9_rests_20 (snd_callV (pc := 21) (n := 1) cls9 (s_X9_firstSooner F) (by decide) (by decide) wd_1862 wd_1859 wd_1861 wd_111 wd_129 hy_X9_firstSooner dX9_rests_21 (snd_istore (pc := 24) (i := 5) (by decide) dX9_rests_24 ((sk_X9_rests_26 F F)))))))) (snd_iconst (pc := 14) dX9_rests_14 (snd_ireturn dX9_rests_15))))))))))

/-! LastWalkerModel.free(II)I -/
theorem dX9_free_0 : decode cX9_free 0 = .ok (.aload_n 0, 1) := by decide +kernel
theorem dX9_free_1 : decode cX9_free 1 = .ok (.iconst 0, 1) := by decide +kernel
theorem dX9_free_2 : decode cX9_free 2 = .ok (.putfield 112, 3) := by decide +kernel
theorem dX9_free_5 : decode cX9_free 5 = .ok (.aload_n 0, 1) := by decide +kernel
theorem dX9_free_6 : decode cX9_free 6 = .ok (.iload_n 1, 1) := by decide +kernel
theorem dX9_free_7 : decode cX9_free 7 = .ok (.iload_n 2, 1) := by decide +kernel
theorem dX9_free_8 : decode cX9_free 8 = .ok (.invokevirtual 432, 3) := by decide +kernel
theorem dX9_free_11 : decode cX9_free 11 = .ok (.ifCond .ne 5, 3) := by decide +kernel
theorem dX9_free_14 : decode cX9_free 14 = .ok (.iconst (-1), 1) := by decide +kernel
theorem dX9_free_15 : decode cX9_free 15 = .ok (.ireturn, 1) := by decide +kernel
theorem dX9_free_16 : decode cX9_free 16 = .ok (.aload_n 0, 1) := by decide +kernel
theorem dX9_free_17 : decode cX9_free 17 = .ok (.iload_n 2, 1) := by decide +kernel
theorem dX9_free_18 : decode cX9_free 18 = .ok (.invokevirtual 436, 3) := by decide +kernel
theorem dX9_free_21 : decode cX9_free 21 = .ok (.aload_n 0, 1) := by decide +kernel
theorem dX9_free_22 : decode cX9_free 22 = .ok (.iconst (-1), 1) := by decide +kernel
theorem dX9_free_23 : decode cX9_free 23 = .ok (.iconst 0, 1) := by decide +kernel
theorem dX9_free_24 : decode cX9_free 24 = .ok (.invokevirtual 439, 3) := by decide +kernel
theorem dX9_free_27 : decode cX9_free 27 = .ok (.istore_n 3, 1) := by decide +kernel
theorem dX9_free_28 : decode cX9_free 28 = .ok (.iconst (-1), 1) := by decide +kernel
theorem dX9_free_29 : decode cX9_free 29 = .ok (.istore 4, 2) := by decide +kernel
theorem dX9_free_31 : decode cX9_free 31 = .ok (.iconst 0, 1) := by decide +kernel
theorem dX9_free_32 : decode cX9_free 32 = .ok (.istore 5, 2) := by decide +kernel
theorem dX9_free_34 : decode cX9_free 34 = .ok (.iload 5, 2) := by decide +kernel
theorem dX9_free_36 : decode cX9_free 36 = .ok (.aload_n 0, 1) := by decide +kernel
theorem dX9_free_37 : decode cX9_free 37 = .ok (.getfield 261, 3) := by decide +kernel
theorem dX9_free_40 : decode cX9_free 40 = .ok (.if_icmp .ge 60, 3) := by decide +kernel
theorem dX9_free_43 : decode cX9_free 43 = .ok (.aload_n 0, 1) := by decide +kernel
theorem dX9_free_44 : decode cX9_free 44 = .ok (.iload 5, 2) := by decide +kernel
theorem dX9_free_46 : decode cX9_free 46 = .ok (.putfield 276, 3) := by decide +kernel
theorem dX9_free_49 : decode cX9_free 49 = .ok (.aload_n 0, 1) := by decide +kernel
theorem dX9_free_50 : decode cX9_free 50 = .ok (.iload_n 2, 1) := by decide +kernel
theorem dX9_free_51 : decode cX9_free 51 = .ok (.invokevirtual 436, 3) := by decide +kernel
theorem dX9_free_54 : decode cX9_free 54 = .ok (.aload_n 0, 1) := by decide +kernel
theorem dX9_free_55 : decode cX9_free 55 = .ok (.iconst (-1), 1) := by decide +kernel
theorem dX9_free_56 : decode cX9_free 56 = .ok (.iconst 0, 1) := by decide +kernel
theorem dX9_free_57 : decode cX9_free 57 = .ok (.invokevirtual 439, 3) := by decide +kernel
theorem dX9_free_60 : decode cX9_free 60 = .ok (.iload_n 3, 1) := by decide +kernel
theorem dX9_free_61 : decode cX9_free 61 = .ok (.if_icmp .ge 8, 3) := by decide +kernel
theorem dX9_free_64 : decode cX9_free 64 = .ok (.iload 5, 2) := by decide +kernel
theorem dX9_free_66 : decode cX9_free 66 = .ok (.goto 5, 3) := by decide +kernel
theorem dX9_free_69 : decode cX9_free 69 = .ok (.iload 4, 2) := by decide +kernel
theorem dX9_free_71 : decode cX9_free 71 = .ok (.istore 4, 2) := by decide +kernel
theorem dX9_free_73 : decode cX9_free 73 = .ok (.aload_n 0, 1) := by decide +kernel
theorem dX9_free_74 : decode cX9_free 74 = .ok (.iconst (-1), 1) := by decide +kernel
theorem dX9_free_75 : decode cX9_free 75 = .ok (.iconst 0, 1) := by decide +kernel
theorem dX9_free_76 : decode cX9_free 76 = .ok (.invokevirtual 439, 3) := by decide +kernel
theorem dX9_free_79 : decode cX9_free 79 = .ok (.iload_n 3, 1) := by decide +kernel
theorem dX9_free_80 : decode cX9_free 80 = .ok (.if_icmp .ge 12, 3) := by decide +kernel
theorem dX9_free_83 : decode cX9_free 83 = .ok (.aload_n 0, 1) := by decide +kernel
theorem dX9_free_84 : decode cX9_free 84 = .ok (.iconst (-1), 1) := by decide +kernel
theorem dX9_free_85 : decode cX9_free 85 = .ok (.iconst 0, 1) := by decide +kernel
theorem dX9_free_86 : decode cX9_free 86 = .ok (.invokevirtual 439, 3) := by decide +kernel
theorem dX9_free_89 : decode cX9_free 89 = .ok (.goto 4, 3) := by decide +kernel
theorem dX9_free_92 : decode cX9_free 92 = .ok (.iload_n 3, 1) := by decide +kernel
theorem dX9_free_93 : decode cX9_free 93 = .ok (.istore_n 3, 1) := by decide +kernel
theorem dX9_free_94 : decode cX9_free 94 = .ok (.iinc 5 1, 3) := by decide +kernel
theorem dX9_free_97 : decode cX9_free 97 = .ok (.goto (-63), 3) := by decide +kernel
theorem dX9_free_100 : decode cX9_free 100 = .ok (.iload 4, 2) := by decide +kernel
theorem dX9_free_102 : decode cX9_free 102 = .ok (.ireturn, 1) := by decide +kernel
noncomputable def k_X9_free_93 (F : Nat) (h34 : AK) : AK := ak_istore 3 (ak_iinc 5 1 h34)
set_option maxRecDepth 20000 in
theorem sk_X9_free_93 (F : Nat) {h34 : AK} (hh34 : Snd X0 RX9 cX9_free 6 8 34 h34) : Snd X0 RX9 cX9_free 6 8 93 (k_X9_free_93 F h34) := by
  unfold k_X9_free_93
  exact snd_istore_n (pc := 93) (i := 3) (by decide) dX9_free_93 (snd_iinc (pc := 94) (i := 5) (n := 1) (by decide) dX9_free_94 (snd_goto (pc := 97) (off := (-63)) (tgt := 34) (by decide) dX9_free_97 (hh34)))
noncomputable def k_X9_free_71 (F : Nat) (h34 : AK) : AK := ak_istore 4 (ak_aload 0 (ak_push (vI (-1)) (ak_push (vI 0) (ak_callv 9 2 (m_X9_sums F) (ak_iload 3 (ak_cmplt (ak_aload 0 (ak_push (vI (-1)) (ak_push (vI 0) (ak_callv 9 2 (m_X9_sums F) ((k_X9_free_93 F h34)))))) (ak_iload 3 ((k_X9_free_93 F h34)))))))))
set_option maxRecDepth 20000 in
theorem sk_X9_free_71 (F : Nat) {h34 : AK} (hh34 : Snd X0 RX9 cX9_free 6 8 34 h34) : Snd X0 RX9 cX9_free 6 8 71 (k_X9_free_71 F h34) := by
  unfold k_X9_free_71
  exact snd_istore (pc := 71) (i := 4) (by decide) dX9_free_71 (snd_aload_n (pc := 73) (i := 0) dX9_free_73 (snd_iconst (pc := 74) dX9_free_74 (snd_iconst (pc := 75) dX9_free_75 (snd_callV (pc := 76) (n := 2) cls9 (s_X9_sums F) (by decide) (by decide) wd_1814 wd_1811 wd_1813 wd_105 wd_129 hy_X9_sums dX9_free_76 (snd_iload_n (pc := 79) (i := 3) dX9_free_79 (snd_icmpge (pc := 80) (off := 12) (tgt := 92) (by decide) dX9_free_80 (snd_iload_n (pc := 92) (i := 3) dX9_free_92 ((sk_X9_free_93 F hh34))) (snd_aload_n (pc := 83) (i := 0) dX9_free_83 (snd_iconst (pc := 84) dX9_free_84 (snd_iconst (pc := 85) dX9_free_85 (snd_callV (pc := 86) (n := 2) cls9 (s_X9_sums F) (by decide) (by decide) wd_1814 wd_1811 wd_1813 wd_105 wd_129 hy_X9_sums dX9_free_86 (snd_goto (pc := 89) (off := 4) (tgt := 93) (by decide) dX9_free_89 ((sk_X9_free_93 F hh34)))))))))))))
noncomputable def kb_X9_free_34 (F : Nat) (self : AK) : AK := ak_iload 5 (ak_aload 0 (ak_getf 9 23 (ak_cmplt (ak_aload 0 (ak_iload 5 (ak_putf 9 28 (ak_aload 0 (ak_iload 2 (ak_callv 9 1 (m_X9_day F) (ak_aload 0 (ak_push (vI (-1)) (ak_push (vI 0) (ak_callv 9 2 (m_X9_sums F) (ak_iload 3 (ak_cmplt (ak_iload 5 ((k_X9_free_71 F self))) (ak_iload 4 ((k_X9_free_71 F self))))))))))))))) (ak_iload 4 ak_ireturn))))
noncomputable def k_X9_free_34 (F : Nat) (n : Nat) : AK := Nat.rec (motive := fun _ => AK) ak_none (fun _ self => kb_X9_free_34 F self) n
set_option maxRecDepth 20000 in
theorem sk_X9_free_34 (F : Nat) : ∀ n, Snd X0 RX9 cX9_free 6 8 34 (k_X9_free_34 F n) := by
  intro n
  induction n with
  | zero => exact snd_none
  | succ n ih =>
    show Snd X0 RX9 cX9_free 6 8 34 (kb_X9_free_34 F (k_X9_free_34 F n))
    unfold kb_X9_free_34
    exact snd_iload (pc := 34) (i := 5) dX9_free_34 (snd_aload_n (pc := 36) (i := 0) dX9_free_36 (snd_getf (pc := 37) cls9 (f := 23) (by decide) wd_1326 dX9_free_37 (snd_icmpge (pc := 40) (off := 60) (tgt := 100) (by decide) dX9_free_40 (snd_iload (pc := 100) (i := 4) dX9_free_100 (snd_ireturn dX9_free_102)) (snd_aload_n (pc := 43) (i := 0) dX9_free_43 (snd_iload (pc := 44) (i := 5) dX9_free_44 (snd_putf (pc := 46) cls9 (f := 28) (by decide) rfl rfl rfl wd_1331 dX9_free_46 (snd_aload_n (pc := 49) (i := 0) dX9_free_49 (snd_iload_n (pc := 50) (i := 2) dX9_free_50 (snd_callV (pc := 51) (n := 1) cls9 (s_X9_day F) (by decide) (by decide) wd_1791 wd_1788 wd_1790 wd_100 wd_129 hy_X9_day dX9_free_51 (snd_aload_n (pc := 54) (i := 0) dX9_free_54 (snd_iconst (pc := 55) dX9_free_55 (snd_iconst (pc := 56) dX9_free_56 (snd_callV (pc := 57) (n := 2) cls9 (s_X9_sums F) (by decide) (by decide) wd_1814 wd_1811 wd_1813 wd_105 wd_129 hy_X9_sums dX9_free_57 (snd_iload_n (pc := 60) (i := 3) dX9_free_60 (snd_icmpge (pc := 61) (off := 8) (tgt := 69) (by decide) dX9_free_61 (snd_iload (pc := 69) (i := 4) dX9_free_69 ((sk_X9_free_71 F ih))) (snd_iload (pc := 64) (i := 5) dX9_free_64 (snd_goto (pc := 66) (off := 5) (tgt := 71) (by decide) dX9_free_66 ((sk_X9_free_71 F ih)))))))))))))))))))
noncomputable def k_X9_free (F : Nat) : AK := ak_aload 0 (ak_push (vI 0) (ak_putf 9 0 (ak_aload 0 (ak_iload 1 (ak_iload 2 (ak_callv 9 2 (m_X9_layErrands F) (ak_ifeq (ak_push (vI (-1)) ak_ireturn) (ak_aload 0 (ak_iload 2 (ak_callv 9 1 (m_X9_day F) (ak_aload 0 (ak_push (vI (-1)) (ak_push (vI 0) (ak_callv 9 2 (m_X9_sums F) (ak_istore 3 (ak_push (vI (-1)) (ak_istore 4 (ak_push (vI 0) (ak_istore 5 ((k_X9_free_34 F F)))))))))))))))))))))
noncomputable def m_X9_free (F : Nat) : AF := mkF 1 6 (k_X9_free F)
set_option maxRecDepth 20000 in
theorem s_X9_free (F : Nat) : MA yX9_free cX9_free 6 (some .int) 8 (m_X9_free F) := met_of (Or.inr (Or.inl ⟨rfl, rfl⟩)) (by decide) (by
  unfold k_X9_free
  exact snd_aload_n (pc := 0) (i := 0) dX9_free_0 (snd_iconst (pc := 1) dX9_free_1 (snd_putf (pc := 2) cls9 (f := 0) (by decide) rfl rfl rfl wd_1303 dX9_free_2 (snd_aload_n (pc := 5) (i := 0) dX9_free_5 (snd_iload_n (pc := 6) (i := 1) dX9_free_6 (snd_iload_n (pc := 7) (i := 2) dX9_free_7 (snd_callV (pc := 8) (n := 2) cls9 (s_X9_layErrands F) (by decide) (by decide) wd_1777 wd_1774 wd_1776 wd_97 wd_129 hy_X9_layErrands dX9_free_8 (snd_ifne (pc := 11) (off := 5) (tgt := 16) (by decide) dX9_free_11 (snd_aload_n (pc := 16) (i := 0) dX9_free_16 (snd_iload_n (pc := 17) (i := 2) dX9_free_17 (snd_callV (pc := 18) (n := 1) cls9 (s_X9_day F) (by decide) (by decide) wd_1791 wd_1788 wd_1790 wd_100 wd_129 hy_X9_day dX9_free_18 (snd_aload_n (pc := 21) (i := 0) dX9_free_21 (snd_iconst (pc := 22) dX9_free_22 (snd_iconst (pc := 23) dX9_free_23 (snd_callV (pc := 24) (n := 2) cls9 (s_X9_sums F) (by decide) (by decide) wd_1814 wd_1811 wd_1813 wd_105 wd_129 hy_X9_sums dX9_free_24 (snd_istore_n (pc := 27) (i := 3) (by decide) dX9_free_27 (snd_iconst (pc := 28) dX9_free_28 (snd_istore (pc := 29) (i := 4) (by decide) dX9_free_29 (snd_iconst (pc := 31) dX9_free_31 (snd_istore (pc := 32) (i := 5) (by decide) dX9_free_32 ((sk_X9_free_34 F F)))))))))))))) (snd_iconst (pc := 14) dX9_free_14 (snd_ireturn dX9_free_15))))))))))

/-! LastWalkerModel.reached(I)I -/
theorem dX9_reached_0 : decode cX9_reached 0 = .ok (.aload_n 0, 1) := by decide +kernel
theorem dX9_reached_1 : decode cX9_reached 1 = .ok (.iload_n 1, 1) := by decide +kernel
theorem dX9_reached_2 : decode cX9_reached 2 = .ok (.invokevirtual 429, 3) := by decide +kernel
theorem dX9_reached_5 : decode cX9_reached 5 = .ok (.iconst 0, 1) := by decide +kernel
theorem dX9_reached_6 : decode cX9_reached 6 = .ok (.istore_n 2, 1) := by decide +kernel
theorem dX9_reached_7 : decode cX9_reached 7 = .ok (.iconst 0, 1) := by decide +kernel
theorem dX9_reached_8 : decode cX9_reached 8 = .ok (.istore_n 3, 1) := by decide +kernel
theorem dX9_reached_9 : decode cX9_reached 9 = .ok (.iload_n 3, 1) := by decide +kernel
theorem dX9_reached_10 : decode cX9_reached 10 = .ok (.aload_n 0, 1) := by decide +kernel
theorem dX9_reached_11 : decode cX9_reached 11 = .ok (.getfield 267, 3) := by decide +kernel
theorem dX9_reached_14 : decode cX9_reached 14 = .ok (.if_icmp .ge 51, 3) := by decide +kernel
theorem dX9_reached_17 : decode cX9_reached 17 = .ok (.iload_n 2, 1) := by decide +kernel
theorem dX9_reached_18 : decode cX9_reached 18 = .ok (.aload_n 0, 1) := by decide +kernel
theorem dX9_reached_19 : decode cX9_reached 19 = .ok (.getfield 75, 3) := by decide +kernel
theorem dX9_reached_22 : decode cX9_reached 22 = .ok (.bipush 9, 2) := by decide +kernel
theorem dX9_reached_24 : decode cX9_reached 24 = .ok (.aload_n 0, 1) := by decide +kernel
theorem dX9_reached_25 : decode cX9_reached 25 = .ok (.getfield 78, 3) := by decide +kernel
theorem dX9_reached_28 : decode cX9_reached 28 = .ok (.aload_n 0, 1) := by decide +kernel
theorem dX9_reached_29 : decode cX9_reached 29 = .ok (.iload_n 3, 1) := by decide +kernel
theorem dX9_reached_30 : decode cX9_reached 30 = .ok (.iconst 0, 1) := by decide +kernel
theorem dX9_reached_31 : decode cX9_reached 31 = .ok (.invokevirtual 285, 3) := by decide +kernel
theorem dX9_reached_34 : decode cX9_reached 34 = .ok (.iaload, 1) := by decide +kernel
theorem dX9_reached_35 : decode cX9_reached 35 = .ok (.imul, 1) := by decide +kernel
theorem dX9_reached_36 : decode cX9_reached 36 = .ok (.aload_n 0, 1) := by decide +kernel
theorem dX9_reached_37 : decode cX9_reached 37 = .ok (.iload_n 3, 1) := by decide +kernel
theorem dX9_reached_38 : decode cX9_reached 38 = .ok (.iconst 1, 1) := by decide +kernel
theorem dX9_reached_39 : decode cX9_reached 39 = .ok (.invokevirtual 285, 3) := by decide +kernel
theorem dX9_reached_42 : decode cX9_reached 42 = .ok (.iadd, 1) := by decide +kernel
theorem dX9_reached_43 : decode cX9_reached 43 = .ok (.iaload, 1) := by decide +kernel
theorem dX9_reached_44 : decode cX9_reached 44 = .ok (.ldc_w 396, 3) := by decide +kernel
theorem dX9_reached_47 : decode cX9_reached 47 = .ok (.if_icmp .ge 9, 3) := by decide +kernel
theorem dX9_reached_50 : decode cX9_reached 50 = .ok (.iconst 1, 1) := by decide +kernel
theorem dX9_reached_51 : decode cX9_reached 51 = .ok (.iload_n 3, 1) := by decide +kernel
theorem dX9_reached_52 : decode cX9_reached 52 = .ok (.ishl, 1) := by decide +kernel
theorem dX9_reached_53 : decode cX9_reached 53 = .ok (.goto 4, 3) := by decide +kernel
theorem dX9_reached_56 : decode cX9_reached 56 = .ok (.iconst 0, 1) := by decide +kernel
theorem dX9_reached_57 : decode cX9_reached 57 = .ok (.ior, 1) := by decide +kernel
theorem dX9_reached_58 : decode cX9_reached 58 = .ok (.istore_n 2, 1) := by decide +kernel
theorem dX9_reached_59 : decode cX9_reached 59 = .ok (.iinc 3 1, 3) := by decide +kernel
theorem dX9_reached_62 : decode cX9_reached 62 = .ok (.goto (-53), 3) := by decide +kernel
theorem dX9_reached_65 : decode cX9_reached 65 = .ok (.iload_n 2, 1) := by decide +kernel
theorem dX9_reached_66 : decode cX9_reached 66 = .ok (.ireturn, 1) := by decide +kernel
noncomputable def k_X9_reached_57 (F : Nat) (h9 : AK) : AK := ak_ior (ak_istore 2 (ak_iinc 3 1 h9))
set_option maxRecDepth 20000 in
theorem sk_X9_reached_57 (F : Nat) {h9 : AK} (hh9 : Snd X0 RX9 cX9_reached 4 2 9 h9) : Snd X0 RX9 cX9_reached 4 2 57 (k_X9_reached_57 F h9) := by
  unfold k_X9_reached_57
  exact snd_ior (pc := 57) dX9_reached_57 (snd_istore_n (pc := 58) (i := 2) (by decide) dX9_reached_58 (snd_iinc (pc := 59) (i := 3) (n := 1) (by decide) dX9_reached_59 (snd_goto (pc := 62) (off := (-53)) (tgt := 9) (by decide) dX9_reached_62 (hh9))))
noncomputable def kb_X9_reached_9 (F : Nat) (self : AK) : AK := ak_iload 3 (ak_aload 0 (ak_getf 9 25 (ak_cmplt (ak_iload 2 (ak_aload 0 (ak_getf 9 49 (ak_push (vI 9) (ak_aload 0 (ak_getf 9 50 (ak_aload 0 (ak_iload 3 (ak_push (vI 0) (ak_callv 9 2 (m_X9_errandOf F) (ak_iald (ak_imul (ak_aload 0 (ak_iload 3 (ak_push (vI 1) (ak_callv 9 2 (m_X9_errandOf F) (ak_iadd (ak_iald (ak_push (vI 100000) (ak_cmplt (ak_push (vI 1) (ak_iload 3 (ak_ishl ((k_X9_reached_57 F self))))) (ak_push (vI 0) ((k_X9_reached_57 F self))))))))))))))))))))))) (ak_iload 2 ak_ireturn))))
noncomputable def k_X9_reached_9 (F : Nat) (n : Nat) : AK := Nat.rec (motive := fun _ => AK) ak_none (fun _ self => kb_X9_reached_9 F self) n
set_option maxRecDepth 20000 in
theorem sk_X9_reached_9 (F : Nat) : ∀ n, Snd X0 RX9 cX9_reached 4 2 9 (k_X9_reached_9 F n) := by
  intro n
  induction n with
  | zero => exact snd_none
  | succ n ih =>
    show Snd X0 RX9 cX9_reached 4 2 9 (kb_X9_reached_9 F (k_X9_reached_9 F n))
    unfold kb_X9_reached_9
    exact snd_iload_n (pc := 9) (i := 3) dX9_reached_9 (snd_aload_n (pc := 10) (i := 0) dX9_reached_10 (snd_getf (pc := 11) cls9 (f := 25) (by decide) wd_1328 dX9_reached_11 (snd_icmpge (pc := 14) (off := 51) (tgt := 65) (by decide) dX9_reached_14 (snd_iload_n (pc := 65) (i := 2) dX9_reached_65 (snd_ireturn dX9_reached_66)) (snd_iload_n (pc := 17) (i := 2) dX9_reached_17 (snd_aload_n (pc := 18) (i := 0) dX9_reached_18 (snd_getf (pc := 19) cls9 (f := 49) (by decide) wd_1352 dX9_reached_19 (snd_bipush (pc := 22) (by decide) dX9_reached_22 (snd_aload_n (pc := 24) (i := 0) dX9_reached_24 (snd_getf (pc := 25) cls9 (f := 50) (by decide) wd_1353 dX9_reached_25 (snd_aload_n (pc := 28) (i := 0) dX9_reached_28 (snd_iload_n (pc := 29) (i := 3) dX9_reached_29 (snd_iconst (pc := 30) dX9_reached_30 (snd_callV (pc := 31) (n := 2) cls9 (s_X9_errandOf F) (by decide) (by decide) wd_1649 wd_1646 wd_1648 wd_75 wd_129 hy_X9_errandOf dX9_reached_31 (snd_iald (pc := 34) dX9_reached_34 (snd_imul (pc := 35) dX9_reached_35 (snd_aload_n (pc := 36) (i := 0) dX9_reached_36 (snd_iload_n (pc := 37) (i := 3) dX9_reached_37 (snd_iconst (pc := 38) dX9_reached_38 (snd_callV (pc := 39) (n := 2) cls9 (s_X9_errandOf F) (by decide) (by decide) wd_1649 wd_1646 wd_1648 wd_75 wd_129 hy_X9_errandOf dX9_reached_39 (snd_iadd (pc := 42) dX9_reached_42 (snd_iald (pc := 43) dX9_reached_43 (snd_ldcw (pc := 44) (z := (100000)) (by decide) wd_1782 dX9_reached_44 (snd_icmpge (pc := 47) (off := 9) (tgt := 56) (by decide) dX9_reached_47 (snd_iconst (pc := 56) dX9_reached_56 ((sk_X9_reached_57 F ih))) (snd_iconst (pc := 50) dX9_reached_50 (snd_iload_n (pc := 51) (i := 3) dX9_reached_51 (snd_ishl (pc := 52) dX9_reached_52 (snd_goto (pc := 53) (off := 4) (tgt := 57) (by decide) dX9_reached_53 ((sk_X9_reached_57 F ih)))))))))))))))))))))))))))))
noncomputable def k_X9_reached (F : Nat) : AK := ak_aload 0 (ak_iload 1 (ak_callv 9 1 (m_X9_findFar F) (ak_push (vI 0) (ak_istore 2 (ak_push (vI 0) (ak_istore 3 ((k_X9_reached_9 F F))))))))
noncomputable def m_X9_reached (F : Nat) : AF := mkF 1 4 (k_X9_reached F)
set_option maxRecDepth 20000 in
theorem s_X9_reached (F : Nat) : MA yX9_reached cX9_reached 4 (some .int) 2 (m_X9_reached F) := met_of (Or.inr (Or.inl ⟨rfl, rfl⟩)) (by decide) (by
  unfold k_X9_reached
  exact snd_aload_n (pc := 0) (i := 0) dX9_reached_0 (snd_iload_n (pc := 1) (i := 1) dX9_reached_1 (snd_callV (pc := 2) (n := 1) cls9 (s_X9_findFar F) (by decide) (by decide) wd_1781 wd_1778 wd_1780 wd_98 wd_129 hy_X9_findFar dX9_reached_2 (snd_iconst (pc := 5) dX9_reached_5 (snd_istore_n (pc := 6) (i := 2) (by decide) dX9_reached_6 (snd_iconst (pc := 7) dX9_reached_7 (snd_istore_n (pc := 8) (i := 3) (by decide) dX9_reached_8 ((sk_X9_reached_9 F F)))))))))

/-! LastWalkerModel.needs(II)I -/
theorem dX9_needs_0 : decode cX9_needs 0 = .ok (.aload_n 0, 1) := by decide +kernel
theorem dX9_needs_1 : decode cX9_needs 1 = .ok (.iconst 0, 1) := by decide +kernel
theorem dX9_needs_2 : decode cX9_needs 2 = .ok (.putfield 112, 3) := by decide +kernel
theorem dX9_needs_5 : decode cX9_needs 5 = .ok (.aload_n 0, 1) := by decide +kernel
theorem dX9_needs_6 : decode cX9_needs 6 = .ok (.iload_n 1, 1) := by decide +kernel
theorem dX9_needs_7 : decode cX9_needs 7 = .ok (.invokevirtual 237, 3) := by decide +kernel
theorem dX9_needs_10 : decode cX9_needs 10 = .ok (.ifCond .ne 5, 3) := by decide +kernel
theorem dX9_needs_13 : decode cX9_needs 13 = .ok (.iconst (-1), 1) := by decide +kernel
theorem dX9_needs_14 : decode cX9_needs 14 = .ok (.ireturn, 1) := by decide +kernel
theorem dX9_needs_15 : decode cX9_needs 15 = .ok (.aload_n 0, 1) := by decide +kernel
theorem dX9_needs_16 : decode cX9_needs 16 = .ok (.iload_n 1, 1) := by decide +kernel
theorem dX9_needs_17 : decode cX9_needs 17 = .ok (.invokevirtual 304, 3) := by decide +kernel
theorem dX9_needs_20 : decode cX9_needs 20 = .ok (.iload_n 2, 1) := by decide +kernel
theorem dX9_needs_21 : decode cX9_needs 21 = .ok (.iconst (-1), 1) := by decide +kernel
theorem dX9_needs_22 : decode cX9_needs 22 = .ok (.if_icmp .eq 13, 3) := by decide +kernel
theorem dX9_needs_25 : decode cX9_needs 25 = .ok (.aload_n 0, 1) := by decide +kernel
theorem dX9_needs_26 : decode cX9_needs 26 = .ok (.iload_n 2, 1) := by decide +kernel
theorem dX9_needs_27 : decode cX9_needs 27 = .ok (.invokevirtual 319, 3) := by decide +kernel
theorem dX9_needs_30 : decode cX9_needs 30 = .ok (.ifCond .ne 5, 3) := by decide +kernel
theorem dX9_needs_33 : decode cX9_needs 33 = .ok (.iconst (-1), 1) := by decide +kernel
theorem dX9_needs_34 : decode cX9_needs 34 = .ok (.ireturn, 1) := by decide +kernel
theorem dX9_needs_35 : decode cX9_needs 35 = .ok (.aload_n 0, 1) := by decide +kernel
theorem dX9_needs_36 : decode cX9_needs 36 = .ok (.iconst (-1), 1) := by decide +kernel
theorem dX9_needs_37 : decode cX9_needs 37 = .ok (.invokevirtual 454, 3) := by decide +kernel
theorem dX9_needs_40 : decode cX9_needs 40 = .ok (.istore_n 3, 1) := by decide +kernel
theorem dX9_needs_41 : decode cX9_needs 41 = .ok (.iload_n 2, 1) := by decide +kernel
theorem dX9_needs_42 : decode cX9_needs 42 = .ok (.iconst (-1), 1) := by decide +kernel
theorem dX9_needs_43 : decode cX9_needs 43 = .ok (.if_icmp .eq 13, 3) := by decide +kernel
theorem dX9_needs_46 : decode cX9_needs 46 = .ok (.iload_n 3, 1) := by decide +kernel
theorem dX9_needs_47 : decode cX9_needs 47 = .ok (.aload_n 0, 1) := by decide +kernel
theorem dX9_needs_48 : decode cX9_needs 48 = .ok (.iload_n 2, 1) := by decide +kernel
theorem dX9_needs_49 : decode cX9_needs 49 = .ok (.invokevirtual 454, 3) := by decide +kernel
theorem dX9_needs_52 : decode cX9_needs 52 = .ok (.iconst (-1), 1) := by decide +kernel
theorem dX9_needs_53 : decode cX9_needs 53 = .ok (.ixor, 1) := by decide +kernel
theorem dX9_needs_54 : decode cX9_needs 54 = .ok (.iand, 1) := by decide +kernel
theorem dX9_needs_55 : decode cX9_needs 55 = .ok (.ireturn, 1) := by decide +kernel
theorem dX9_needs_56 : decode cX9_needs 56 = .ok (.iconst 0, 1) := by decide +kernel
theorem dX9_needs_57 : decode cX9_needs 57 = .ok (.istore 4, 2) := by decide +kernel
theorem dX9_needs_59 : decode cX9_needs 59 = .ok (.iconst 0, 1) := by decide +kernel
theorem dX9_needs_60 : decode cX9_needs 60 = .ok (.istore 5, 2) := by decide +kernel
theorem dX9_needs_62 : decode cX9_needs 62 = .ok (.iload 5, 2) := by decide +kernel
theorem dX9_needs_64 : decode cX9_needs 64 = .ok (.aload_n 0, 1) := by decide +kernel
theorem dX9_needs_65 : decode cX9_needs 65 = .ok (.getfield 261, 3) := by decide +kernel
theorem dX9_needs_68 : decode cX9_needs 68 = .ok (.if_icmp .ge 32, 3) := by decide +kernel
theorem dX9_needs_71 : decode cX9_needs 71 = .ok (.iload 4, 2) := by decide +kernel
theorem dX9_needs_73 : decode cX9_needs 73 = .ok (.aload_n 0, 1) := by decide +kernel
theorem dX9_needs_74 : decode cX9_needs 74 = .ok (.iload 5, 2) := by decide +kernel
theorem dX9_needs_76 : decode cX9_needs 76 = .ok (.invokevirtual 454, 3) := by decide +kernel
theorem dX9_needs_79 : decode cX9_needs 79 = .ok (.iload_n 3, 1) := by decide +kernel
theorem dX9_needs_80 : decode cX9_needs 80 = .ok (.if_icmp .eq 10, 3) := by decide +kernel
theorem dX9_needs_83 : decode cX9_needs 83 = .ok (.iconst 1, 1) := by decide +kernel
theorem dX9_needs_84 : decode cX9_needs 84 = .ok (.iload 5, 2) := by decide +kernel
theorem dX9_needs_86 : decode cX9_needs 86 = .ok (.ishl, 1) := by decide +kernel
theorem dX9_needs_87 : decode cX9_needs 87 = .ok (.goto 4, 3) := by decide +kernel
theorem dX9_needs_90 : decode cX9_needs 90 = .ok (.iconst 0, 1) := by decide +kernel
theorem dX9_needs_91 : decode cX9_needs 91 = .ok (.ior, 1) := by decide +kernel
theorem dX9_needs_92 : decode cX9_needs 92 = .ok (.istore 4, 2) := by decide +kernel
theorem dX9_needs_94 : decode cX9_needs 94 = .ok (.iinc 5 1, 3) := by decide +kernel
theorem dX9_needs_97 : decode cX9_needs 97 = .ok (.goto (-35), 3) := by decide +kernel
theorem dX9_needs_100 : decode cX9_needs 100 = .ok (.iload 4, 2) := by decide +kernel
theorem dX9_needs_102 : decode cX9_needs 102 = .ok (.ireturn, 1) := by decide +kernel
noncomputable def k_X9_needs_91 (F : Nat) (h62 : AK) : AK := ak_ior (ak_istore 4 (ak_iinc 5 1 h62))
set_option maxRecDepth 20000 in
theorem sk_X9_needs_91 (F : Nat) {h62 : AK} (hh62 : Snd X0 RX9 cX9_needs 6 3 62 h62) : Snd X0 RX9 cX9_needs 6 3 91 (k_X9_needs_91 F h62) := by
  unfold k_X9_needs_91
  exact snd_ior (pc := 91) dX9_needs_91 (snd_istore (pc := 92) (i := 4) (by decide) dX9_needs_92 (snd_iinc (pc := 94) (i := 5) (n := 1) (by decide) dX9_needs_94 (snd_goto (pc := 97) (off := (-35)) (tgt := 62) (by decide) dX9_needs_97 (hh62))))
noncomputable def kb_X9_needs_62 (F : Nat) (self : AK) : AK := ak_iload 5 (ak_aload 0 (ak_getf 9 23 (ak_cmplt (ak_iload 4 (ak_aload 0 (ak_iload 5 (ak_callv 9 1 (m_X9_reached F) (ak_iload 3 (ak_cmpeq (ak_push (vI 0) ((k_X9_needs_91 F self))) (ak_push (vI 1) (ak_iload 5 (ak_ishl ((k_X9_needs_91 F self))))))))))) (ak_iload 4 ak_ireturn))))
noncomputable def k_X9_needs_62 (F : Nat) (n : Nat) : AK := Nat.rec (motive := fun _ => AK) ak_none (fun _ self => kb_X9_needs_62 F self) n
set_option maxRecDepth 20000 in
theorem sk_X9_needs_62 (F : Nat) : ∀ n, Snd X0 RX9 cX9_needs 6 3 62 (k_X9_needs_62 F n) := by
  intro n
  induction n with
  | zero => exact snd_none
  | succ n ih =>
    show Snd X0 RX9 cX9_needs 6 3 62 (kb_X9_needs_62 F (k_X9_needs_62 F n))
    unfold kb_X9_needs_62
    exact snd_iload (pc := 62) (i := 5) dX9_needs_62 (snd_aload_n (pc := 64) (i := 0) dX9_needs_64 (snd_getf (pc := 65) cls9 (f := 23) (by decide) wd_1326 dX9_needs_65 (snd_icmpge (pc := 68) (off := 32) (tgt := 100) (by decide) dX9_needs_68 (snd_iload (pc := 100) (i := 4) dX9_needs_100 (snd_ireturn dX9_needs_102)) (snd_iload (pc := 71) (i := 4) dX9_needs_71 (snd_aload_n (pc := 73) (i := 0) dX9_needs_73 (snd_iload (pc := 74) (i := 5) dX9_needs_74 (snd_callV (pc := 76) (n := 1) cls9 (s_X9_reached F) (by decide) (by decide) wd_1874 wd_1871 wd_1873 wd_112 wd_129 hy_X9_reached dX9_needs_76 (snd_iload_n (pc := 79) (i := 3) dX9_needs_79 (snd_icmpeq (pc := 80) (off := 10) (tgt := 90) (by decide) dX9_needs_80 (snd_iconst (pc := 90) dX9_needs_90 ((sk_X9_needs_91 F ih))) (snd_iconst (pc := 83) dX9_needs_83 (snd_iload (pc := 84) (i := 5) dX9_needs_84 (snd_ishl (pc := 86) dX9_needs_86 (snd_goto (pc := 87) (off := 4) (tgt := 91) (by decide) dX9_needs_87 ((sk_X9_needs_91 F ih)))))))))))))))
noncomputable def k_X9_needs_35 (F : Nat) : AK := ak_aload 0 (ak_push (vI (-1)) (ak_callv 9 1 (m_X9_reached F) (ak_istore 3 (ak_iload 2 (ak_push (vI (-1)) (ak_cmpeq (ak_push (vI 0) (ak_istore 4 (ak_push (vI 0) (ak_istore 5 ((k_X9_needs_62 F F)))))) (ak_iload 3 (ak_aload 0 (ak_iload 2 (ak_callv 9 1 (m_X9_reached F) (ak_push (vI (-1)) (ak_ixor (ak_iand ak_ireturn)))))))))))))
set_option maxRecDepth 20000 in
theorem sk_X9_needs_35 (F : Nat) : Snd X0 RX9 cX9_needs 6 3 35 (k_X9_needs_35 F) := by
  unfold k_X9_needs_35
  exact snd_aload_n (pc := 35) (i := 0) dX9_needs_35 (snd_iconst (pc := 36) dX9_needs_36 (snd_callV (pc := 37) (n := 1) cls9 (s_X9_reached F) (by decide) (by decide) wd_1874 wd_1871 wd_1873 wd_112 wd_129 hy_X9_reached dX9_needs_37 (snd_istore_n (pc := 40) (i := 3) (by decide) dX9_needs_40 (snd_iload_n (pc := 41) (i := 2) dX9_needs_41 (snd_iconst (pc := 42) dX9_needs_42 (snd_icmpeq (pc := 43) (off := 13) (tgt := 56) (by decide) dX9_needs_43 (snd_iconst (pc := 56) dX9_needs_56 (snd_istore (pc := 57) (i := 4) (by decide) dX9_needs_57 (snd_iconst (pc := 59) dX9_needs_59 (snd_istore (pc := 60) (i := 5) (by decide) dX9_needs_60 ((sk_X9_needs_62 F F)))))) (snd_iload_n (pc := 46) (i := 3) dX9_needs_46 (snd_aload_n (pc := 47) (i := 0) dX9_needs_47 (snd_iload_n (pc := 48) (i := 2) dX9_needs_48 (snd_callV (pc := 49) (n := 1) cls9 (s_X9_reached F) (by decide) (by decide) wd_1874 wd_1871 wd_1873 wd_112 wd_129 hy_X9_reached dX9_needs_49 (snd_iconst (pc := 52) dX9_needs_52 (snd_ixor (pc := 53) dX9_needs_53 (snd_iand (pc := 54) dX9_needs_54 (snd_ireturn dX9_needs_55))))))))))))))
noncomputable def k_X9_needs (F : Nat) : AK := ak_aload 0 (ak_push (vI 0) (ak_putf 9 0 (ak_aload 0 (ak_iload 1 (ak_callv 9 1 (m_X9_isTown F) (ak_ifeq (ak_push (vI (-1)) ak_ireturn) (ak_aload 0 (ak_iload 1 (ak_callv 9 1 (m_X9_hand F) (ak_iload 2 (ak_push (vI (-1)) (ak_cmpeq ((k_X9_needs_35 F)) (ak_aload 0 (ak_iload 2 (ak_callv 9 1 (m_X9_isRoad F) (ak_ifeq (ak_push (vI (-1)) ak_ireturn) ((k_X9_needs_35 F))))))))))))))))))
noncomputable def m_X9_needs (F : Nat) : AF := mkF 1 6 (k_X9_needs F)
set_option maxRecDepth 20000 in
theorem s_X9_needs (F : Nat) : MA yX9_needs cX9_needs 6 (some .int) 3 (m_X9_needs F) := met_of (Or.inr (Or.inl ⟨rfl, rfl⟩)) (by decide) (by
  unfold k_X9_needs
  exact snd_aload_n (pc := 0) (i := 0) dX9_needs_0 (snd_iconst (pc := 1) dX9_needs_1 (snd_putf (pc := 2) cls9 (f := 0) (by decide) rfl rfl rfl wd_1303 dX9_needs_2 (snd_aload_n (pc := 5) (i := 0) dX9_needs_5 (snd_iload_n (pc := 6) (i := 1) dX9_needs_6 (snd_callV (pc := 7) (n := 1) cls9 (s_X9_isTown F) (by decide) (by decide) wd_1593 wd_1590 wd_1592 wd_66 wd_129 hy_X9_isTown dX9_needs_7 (snd_ifne (pc := 10) (off := 5) (tgt := 15) (by decide) dX9_needs_10 (snd_aload_n (pc := 15) (i := 0) dX9_needs_15 (snd_iload_n (pc := 16) (i := 1) dX9_needs_16 (snd_callV (pc := 17) (n := 1) cls9 (s_X9_hand F) (by decide) (by decide) wd_1641 wd_1638 wd_1640 wd_73 wd_129 hy_X9_hand dX9_needs_17 (snd_iload_n (pc := 20) (i := 2) dX9_needs_20 (snd_iconst (pc := 21) dX9_needs_21 (snd_icmpeq (pc := 22) (off := 13) (tgt := 35) (by decide) dX9_needs_22 ((sk_X9_needs_35 F)) (snd_aload_n (pc := 25) (i := 0) dX9_needs_25 (snd_iload_n (pc := 26) (i := 2) dX9_needs_26 (snd_callV (pc := 27) (n := 1) cls9 (s_X9_isRoad F) (by decide) (by decide) wd_1669 wd_1666 wd_1668 wd_80 wd_129 hy_X9_isRoad dX9_needs_27 (snd_ifne (pc := 30) (off := 5) (tgt := 35) (by decide) dX9_needs_30 ((sk_X9_needs_35 F)) (snd_iconst (pc := 33) dX9_needs_33 (snd_ireturn dX9_needs_34)))))))))))) (snd_iconst (pc := 13) dX9_needs_13 (snd_ireturn dX9_needs_14)))))))))

/-! LastWalkerModel.live(IIZ)I -/
theorem dX9_live_0 : decode cX9_live 0 = .ok (.aload_n 0, 1) := by decide +kernel
theorem dX9_live_1 : decode cX9_live 1 = .ok (.iconst 0, 1) := by decide +kernel
theorem dX9_live_2 : decode cX9_live 2 = .ok (.putfield 112, 3) := by decide +kernel
theorem dX9_live_5 : decode cX9_live 5 = .ok (.aload_n 0, 1) := by decide +kernel
theorem dX9_live_6 : decode cX9_live 6 = .ok (.iload_n 1, 1) := by decide +kernel
theorem dX9_live_7 : decode cX9_live 7 = .ok (.iconst 0, 1) := by decide +kernel
theorem dX9_live_8 : decode cX9_live 8 = .ok (.invokevirtual 432, 3) := by decide +kernel
theorem dX9_live_11 : decode cX9_live 11 = .ok (.ifCond .eq 11, 3) := by decide +kernel
theorem dX9_live_14 : decode cX9_live 14 = .ok (.aload_n 0, 1) := by decide +kernel
theorem dX9_live_15 : decode cX9_live 15 = .ok (.iload_n 2, 1) := by decide +kernel
theorem dX9_live_16 : decode cX9_live 16 = .ok (.invokevirtual 316, 3) := by decide +kernel
theorem dX9_live_19 : decode cX9_live 19 = .ok (.ifCond .ne 5, 3) := by decide +kernel
theorem dX9_live_22 : decode cX9_live 22 = .ok (.iconst (-1), 1) := by decide +kernel
theorem dX9_live_23 : decode cX9_live 23 = .ok (.ireturn, 1) := by decide +kernel
theorem dX9_live_24 : decode cX9_live 24 = .ok (.iconst (-1), 1) := by decide +kernel
theorem dX9_live_25 : decode cX9_live 25 = .ok (.istore 4, 2) := by decide +kernel
theorem dX9_live_27 : decode cX9_live 27 = .ok (.ldc_w 396, 3) := by decide +kernel
theorem dX9_live_30 : decode cX9_live 30 = .ok (.istore 5, 2) := by decide +kernel
theorem dX9_live_32 : decode cX9_live 32 = .ok (.iconst 0, 1) := by decide +kernel
theorem dX9_live_33 : decode cX9_live 33 = .ok (.istore 6, 2) := by decide +kernel
theorem dX9_live_35 : decode cX9_live 35 = .ok (.iload 6, 2) := by decide +kernel
theorem dX9_live_37 : decode cX9_live 37 = .ok (.aload_n 0, 1) := by decide +kernel
theorem dX9_live_38 : decode cX9_live 38 = .ok (.getfield 258, 3) := by decide +kernel
theorem dX9_live_41 : decode cX9_live 41 = .ok (.if_icmp .ge 100, 3) := by decide +kernel
theorem dX9_live_44 : decode cX9_live 44 = .ok (.iconst 0, 1) := by decide +kernel
theorem dX9_live_45 : decode cX9_live 45 = .ok (.istore 7, 2) := by decide +kernel
theorem dX9_live_47 : decode cX9_live 47 = .ok (.iconst 0, 1) := by decide +kernel
theorem dX9_live_48 : decode cX9_live 48 = .ok (.istore 8, 2) := by decide +kernel
theorem dX9_live_50 : decode cX9_live 50 = .ok (.iload 8, 2) := by decide +kernel
theorem dX9_live_52 : decode cX9_live 52 = .ok (.aload_n 0, 1) := by decide +kernel
theorem dX9_live_53 : decode cX9_live 53 = .ok (.getfield 267, 3) := by decide +kernel
theorem dX9_live_56 : decode cX9_live 56 = .ok (.if_icmp .ge 47, 3) := by decide +kernel
theorem dX9_live_59 : decode cX9_live 59 = .ok (.iload 7, 2) := by decide +kernel
theorem dX9_live_61 : decode cX9_live 61 = .ok (.aload_n 0, 1) := by decide +kernel
theorem dX9_live_62 : decode cX9_live 62 = .ok (.iload 8, 2) := by decide +kernel
theorem dX9_live_64 : decode cX9_live 64 = .ok (.iconst 0, 1) := by decide +kernel
theorem dX9_live_65 : decode cX9_live 65 = .ok (.invokevirtual 285, 3) := by decide +kernel
theorem dX9_live_68 : decode cX9_live 68 = .ok (.iload_n 2, 1) := by decide +kernel
theorem dX9_live_69 : decode cX9_live 69 = .ok (.if_icmp .ne 24, 3) := by decide +kernel
theorem dX9_live_72 : decode cX9_live 72 = .ok (.aload_n 0, 1) := by decide +kernel
theorem dX9_live_73 : decode cX9_live 73 = .ok (.getfield 75, 3) := by decide +kernel
theorem dX9_live_76 : decode cX9_live 76 = .ok (.bipush 9, 2) := by decide +kernel
theorem dX9_live_78 : decode cX9_live 78 = .ok (.iload 6, 2) := by decide +kernel
theorem dX9_live_80 : decode cX9_live 80 = .ok (.imul, 1) := by decide +kernel
theorem dX9_live_81 : decode cX9_live 81 = .ok (.aload_n 0, 1) := by decide +kernel
theorem dX9_live_82 : decode cX9_live 82 = .ok (.iload 8, 2) := by decide +kernel
theorem dX9_live_84 : decode cX9_live 84 = .ok (.iconst 1, 1) := by decide +kernel
theorem dX9_live_85 : decode cX9_live 85 = .ok (.invokevirtual 285, 3) := by decide +kernel
theorem dX9_live_88 : decode cX9_live 88 = .ok (.iadd, 1) := by decide +kernel
theorem dX9_live_89 : decode cX9_live 89 = .ok (.iaload, 1) := by decide +kernel
theorem dX9_live_90 : decode cX9_live 90 = .ok (.goto 4, 3) := by decide +kernel
theorem dX9_live_93 : decode cX9_live 93 = .ok (.iconst 0, 1) := by decide +kernel
theorem dX9_live_94 : decode cX9_live 94 = .ok (.iadd, 1) := by decide +kernel
theorem dX9_live_95 : decode cX9_live 95 = .ok (.istore 7, 2) := by decide +kernel
theorem dX9_live_97 : decode cX9_live 97 = .ok (.iinc 8 1, 3) := by decide +kernel
theorem dX9_live_100 : decode cX9_live 100 = .ok (.goto (-50), 3) := by decide +kernel
theorem dX9_live_103 : decode cX9_live 103 = .ok (.iload 7, 2) := by decide +kernel
theorem dX9_live_105 : decode cX9_live 105 = .ok (.iload 5, 2) := by decide +kernel
theorem dX9_live_107 : decode cX9_live 107 = .ok (.if_icmp .ge 8, 3) := by decide +kernel
theorem dX9_live_110 : decode cX9_live 110 = .ok (.iload 6, 2) := by decide +kernel
theorem dX9_live_112 : decode cX9_live 112 = .ok (.goto 5, 3) := by decide +kernel
theorem dX9_live_115 : decode cX9_live 115 = .ok (.iload 4, 2) := by decide +kernel
theorem dX9_live_117 : decode cX9_live 117 = .ok (.istore 4, 2) := by decide +kernel
theorem dX9_live_119 : decode cX9_live 119 = .ok (.iload 7, 2) := by decide +kernel
theorem dX9_live_121 : decode cX9_live 121 = .ok (.iload 5, 2) := by decide +kernel
theorem dX9_live_123 : decode cX9_live 123 = .ok (.if_icmp .ge 8, 3) := by decide +kernel
theorem dX9_live_126 : decode cX9_live 126 = .ok (.iload 7, 2) := by decide +kernel
theorem dX9_live_128 : decode cX9_live 128 = .ok (.goto 5, 3) := by decide +kernel
theorem dX9_live_131 : decode cX9_live 131 = .ok (.iload 5, 2) := by decide +kernel
theorem dX9_live_133 : decode cX9_live 133 = .ok (.istore 5, 2) := by decide +kernel
theorem dX9_live_135 : decode cX9_live 135 = .ok (.iinc 6 1, 3) := by decide +kernel
theorem dX9_live_138 : decode cX9_live 138 = .ok (.goto (-103), 3) := by decide +kernel
theorem dX9_live_141 : decode cX9_live 141 = .ok (.iload 4, 2) := by decide +kernel
theorem dX9_live_143 : decode cX9_live 143 = .ok (.iconst (-1), 1) := by decide +kernel
theorem dX9_live_144 : decode cX9_live 144 = .ok (.if_icmp .ne 7, 3) := by decide +kernel
theorem dX9_live_147 : decode cX9_live 147 = .ok (.iconst (-1), 1) := by decide +kernel
theorem dX9_live_148 : decode cX9_live 148 = .ok (.goto 14, 3) := by decide +kernel
theorem dX9_live_151 : decode cX9_live 151 = .ok (.iload_n 3, 1) := by decide +kernel
theorem dX9_live_152 : decode cX9_live 152 = .ok (.ifCond .eq 8, 3) := by decide +kernel
theorem dX9_live_155 : decode cX9_live 155 = .ok (.iload 5, 2) := by decide +kernel
theorem dX9_live_157 : decode cX9_live 157 = .ok (.goto 5, 3) := by decide +kernel
theorem dX9_live_160 : decode cX9_live 160 = .ok (.iload 4, 2) := by decide +kernel
theorem dX9_live_162 : decode cX9_live 162 = .ok (.ireturn, 1) := by decide +kernel
noncomputable def k_X9_live_94 (F : Nat) (h35 : AK) (h50 : AK) : AK := ak_iadd (ak_istore 7 (ak_iinc 8 1 h50))
set_option maxRecDepth 20000 in
theorem sk_X9_live_94 (F : Nat) {h35 h50 : AK} (hh35 : Snd X0 RX9 cX9_live 9 4 35 h35) (hh50 : Snd X0 RX9 cX9_live 9 4 50 h50) : Snd X0 RX9 cX9_live 9 4 94 (k_X9_live_94 F h35 h50) := by
  unfold k_X9_live_94
  exact snd_iadd (pc := 94) dX9_live_94 (snd_istore (pc := 95) (i := 7) (by decide) dX9_live_95 (snd_iinc (pc := 97) (i := 8) (n := 1) (by decide) dX9_live_97 (snd_goto (pc := 100) (off := (-50)) (tgt := 50) (by decide) dX9_live_100 (hh50))))
noncomputable def k_X9_live_133 (F : Nat) (h35 : AK) : AK := ak_istore 5 (ak_iinc 6 1 h35)
set_option maxRecDepth 20000 in
theorem sk_X9_live_133 (F : Nat) {h35 : AK} (hh35 : Snd X0 RX9 cX9_live 9 4 35 h35) : Snd X0 RX9 cX9_live 9 4 133 (k_X9_live_133 F h35) := by
  unfold k_X9_live_133
  exact snd_istore (pc := 133) (i := 5) (by decide) dX9_live_133 (snd_iinc (pc := 135) (i := 6) (n := 1) (by decide) dX9_live_135 (snd_goto (pc := 138) (off := (-103)) (tgt := 35) (by decide) dX9_live_138 (hh35)))
noncomputable def k_X9_live_117 (F : Nat) (h35 : AK) : AK := ak_istore 4 (ak_iload 7 (ak_iload 5 (ak_cmplt (ak_iload 7 ((k_X9_live_133 F h35))) (ak_iload 5 ((k_X9_live_133 F h35))))))
set_option maxRecDepth 20000 in
theorem sk_X9_live_117 (F : Nat) {h35 : AK} (hh35 : Snd X0 RX9 cX9_live 9 4 35 h35) : Snd X0 RX9 cX9_live 9 4 117 (k_X9_live_117 F h35) := by
  unfold k_X9_live_117
  exact snd_istore (pc := 117) (i := 4) (by decide) dX9_live_117 (snd_iload (pc := 119) (i := 7) dX9_live_119 (snd_iload (pc := 121) (i := 5) dX9_live_121 (snd_icmpge (pc := 123) (off := 8) (tgt := 131) (by decide) dX9_live_123 (snd_iload (pc := 131) (i := 5) dX9_live_131 ((sk_X9_live_133 F hh35))) (snd_iload (pc := 126) (i := 7) dX9_live_126 (snd_goto (pc := 128) (off := 5) (tgt := 133) (by decide) dX9_live_128 ((sk_X9_live_133 F hh35)))))))
noncomputable def kb_X9_live_50 (F : Nat) (h35 : AK) (self : AK) : AK := ak_iload 8 (ak_aload 0 (ak_getf 9 25 (ak_cmplt (ak_iload 7 (ak_aload 0 (ak_iload 8 (ak_push (vI 0) (ak_callv 9 2 (m_X9_errandOf F) (ak_iload 2 (ak_cmpeq (ak_aload 0 (ak_getf 9 49 (ak_push (vI 9) (ak_iload 6 (ak_imul (ak_aload 0 (ak_iload 8 (ak_push (vI 1) (ak_callv 9 2 (m_X9_errandOf F) (ak_iadd (ak_iald ((k_X9_live_94 F h35 self))))))))))))) (ak_push (vI 0) ((k_X9_live_94 F h35 self)))))))))) (ak_iload 7 (ak_iload 5 (ak_cmplt (ak_iload 6 ((k_X9_live_117 F h35))) (ak_iload 4 ((k_X9_live_117 F h35)))))))))
noncomputable def k_X9_live_50 (F : Nat) (h35 : AK) (n : Nat) : AK := Nat.rec (motive := fun _ => AK) ak_none (fun _ self => kb_X9_live_50 F h35 self) n
set_option maxRecDepth 20000 in
theorem sk_X9_live_50 (F : Nat) {h35 : AK} (hh35 : Snd X0 RX9 cX9_live 9 4 35 h35) : ∀ n, Snd X0 RX9 cX9_live 9 4 50 (k_X9_live_50 F h35 n) := by
  intro n
  induction n with
  | zero => exact snd_none
  | succ n ih =>
    show Snd X0 RX9 cX9_live 9 4 50 (kb_X9_live_50 F h35 (k_X9_live_50 F h35 n))
    unfold kb_X9_live_50
    exact snd_iload (pc := 50) (i := 8) dX9_live_50 (snd_aload_n (pc := 52) (i := 0) dX9_live_52 (snd_getf (pc := 53) cls9 (f := 25) (by decide) wd_1328 dX9_live_53 (snd_icmpge (pc := 56) (off := 47) (tgt := 103) (by decide) dX9_live_56 (snd_iload (pc := 103) (i := 7) dX9_live_103 (snd_iload (pc := 105) (i := 5) dX9_live_105 (snd_icmpge (pc := 107) (off := 8) (tgt := 115) (by decide) dX9_live_107 (snd_iload (pc := 115) (i := 4) dX9_live_115 ((sk_X9_live_117 F hh35))) (snd_iload (pc := 110) (i := 6) dX9_live_110 (snd_goto (pc := 112) (off := 5) (tgt := 117) (by decide) dX9_live_112 ((sk_X9_live_117 F hh35))))))) (snd_iload (pc := 59) (i := 7) dX9_live_59 (snd_aload_n (pc := 61) (i := 0) dX9_live_61 (snd_iload (pc := 62) (i := 8) dX9_live_62 (snd_iconst (pc := 64) dX9_live_64 (snd_callV (pc := 65) (n := 2) cls9 (s_X9_errandOf F) (by decide) (by decide) wd_1649 wd_1646 wd_1648 wd_75 wd_129 hy_X9_errandOf dX9_live_65 (snd_iload_n (pc := 68) (i := 2) dX9_live_68 (snd_icmpne (pc := 69) (off := 24) (tgt := 93) (by decide) dX9_live_69 (snd_iconst (pc := 93) dX9_live_93 ((sk_X9_live_94 F hh35 ih))) (snd_aload_n (pc := 72) (i := 0) dX9_live_72 (snd_getf (pc := 73) cls9 (f := 49) (by decide) wd_1352 dX9_live_73 (snd_bipush (pc := 76) (by decide) dX9_live_76 (snd_iload (pc := 78) (i := 6) dX9_live_78 (snd_imul (pc := 80) dX9_live_80 (snd_aload_n (pc := 81) (i := 0) dX9_live_81 (snd_iload (pc := 82) (i := 8) dX9_live_82 (snd_iconst (pc := 84) dX9_live_84 (snd_callV (pc := 85) (n := 2) cls9 (s_X9_errandOf F) (by decide) (by decide) wd_1649 wd_1646 wd_1648 wd_75 wd_129 hy_X9_errandOf dX9_live_85 (snd_iadd (pc := 88) dX9_live_88 (snd_iald (pc := 89) dX9_live_89 (snd_goto (pc := 90) (off := 4) (tgt := 94) (by decide) dX9_live_90 ((sk_X9_live_94 F hh35 ih))))))))))))))))))))))))
noncomputable def kb_X9_live_35 (F : Nat) (self : AK) : AK := ak_iload 6 (ak_aload 0 (ak_getf 9 22 (ak_cmplt (ak_push (vI 0) (ak_istore 7 (ak_push (vI 0) (ak_istore 8 ((k_X9_live_50 F self F)))))) (ak_iload 4 (ak_push (vI (-1)) (ak_cmpeq (ak_push (vI (-1)) ak_ireturn) (ak_iload 3 (ak_ifeq (ak_iload 4 ak_ireturn) (ak_iload 5 ak_ireturn)))))))))
noncomputable def k_X9_live_35 (F : Nat) (n : Nat) : AK := Nat.rec (motive := fun _ => AK) ak_none (fun _ self => kb_X9_live_35 F self) n
set_option maxRecDepth 20000 in
theorem sk_X9_live_35 (F : Nat) : ∀ n, Snd X0 RX9 cX9_live 9 4 35 (k_X9_live_35 F n) := by
  intro n
  induction n with
  | zero => exact snd_none
  | succ n ih =>
    show Snd X0 RX9 cX9_live 9 4 35 (kb_X9_live_35 F (k_X9_live_35 F n))
    unfold kb_X9_live_35
    exact snd_iload (pc := 35) (i := 6) dX9_live_35 (snd_aload_n (pc := 37) (i := 0) dX9_live_37 (snd_getf (pc := 38) cls9 (f := 22) (by decide) wd_1325 dX9_live_38 (snd_icmpge (pc := 41) (off := 100) (tgt := 141) (by decide) dX9_live_41 (snd_iload (pc := 141) (i := 4) dX9_live_141 (snd_iconst (pc := 143) dX9_live_143 (snd_icmpne (pc := 144) (off := 7) (tgt := 151) (by decide) dX9_live_144 (snd_iload_n (pc := 151) (i := 3) dX9_live_151 (snd_ifeq (pc := 152) (off := 8) (tgt := 160) (by decide) dX9_live_152 (snd_iload (pc := 160) (i := 4) dX9_live_160 (snd_ireturn dX9_live_162)) (snd_iload (pc := 155) (i := 5) dX9_live_155 (snd_goto (pc := 157) (off := 5) (tgt := 162) (by decide) dX9_live_157 (snd_ireturn dX9_live_162))))) (snd_iconst (pc := 147) dX9_live_147 (snd_goto (pc := 148) (off := 14) (tgt := 162) (by decide) dX9_live_148 (snd_ireturn dX9_live_162)))))) (snd_iconst (pc := 44) dX9_live_44 (snd_istore (pc := 45) (i := 7) (by decide) dX9_live_45 (snd_iconst (pc := 47) dX9_live_47 (snd_istore (pc := 48) (i := 8) (by decide) dX9_live_48 ((sk_X9_live_50 F ih F)))))))))
noncomputable def k_X9_live (F : Nat) : AK := ak_aload 0 (ak_push (vI 0) (ak_putf 9 0 (ak_aload 0 (ak_iload 1 (ak_push (vI 0) (ak_callv 9 2 (m_X9_layErrands F) (ak_ifeq (ak_push (vI (-1)) ak_ireturn) (ak_aload 0 (ak_iload 2 (ak_callv 9 1 (m_X9_isPerson F) (ak_ifeq (ak_push (vI (-1)) ak_ireturn) (ak_push (vI (-1)) (ak_istore 4 (ak_push (vI 100000) (ak_istore 5 (ak_push (vI 0) (ak_istore 6 ((k_X9_live_35 F F)))))))))))))))))))
noncomputable def m_X9_live (F : Nat) : AF := mkF 1 9 (k_X9_live F)
set_option maxRecDepth 20000 in
theorem s_X9_live (F : Nat) : MA yX9_live cX9_live 9 (some .int) 4 (m_X9_live F) := met_of (Or.inr (Or.inl ⟨rfl, rfl⟩)) (by decide) (by
  unfold k_X9_live
  exact snd_aload_n (pc := 0) (i := 0) dX9_live_0 (snd_iconst (pc := 1) dX9_live_1 (snd_putf (pc := 2) cls9 (f := 0) (by decide) rfl rfl rfl wd_1303 dX9_live_2 (snd_aload_n (pc := 5) (i := 0) dX9_live_5 (snd_iload_n (pc := 6) (i := 1) dX9_live_6 (snd_iconst (pc := 7) dX9_live_7 (snd_callV (pc := 8) (n := 2) cls9 (s_X9_layErrands F) (by decide) (by decide) wd_1777 wd_1774 wd_1776 wd_97 wd_129 hy_X9_layErrands dX9_live_8 (snd_ifeq (pc := 11) (off := 11) (tgt := 22) (by decide) dX9_live_11 (snd_iconst (pc := 22) dX9_live_22 (snd_ireturn dX9_live_23)) (snd_aload_n (pc := 14) (i := 0) dX9_live_14 (snd_iload_n (pc := 15) (i := 2) dX9_live_15 (snd_callV (pc := 16) (n := 1) cls9 (s_X9_isPerson F) (by decide) (by decide) wd_1665 wd_1662 wd_1664 wd_79 wd_129 hy_X9_isPerson dX9_live_16 (snd_ifne (pc := 19) (off := 5) (tgt := 24) (by decide) dX9_live_19 (snd_iconst (pc := 24) dX9_live_24 (snd_istore (pc := 25) (i := 4) (by decide) dX9_live_25 (snd_ldcw (pc := 27) (z := (100000)) (by decide) wd_1782 dX9_live_27 (snd_istore (pc := 30) (i := 5) (by decide) dX9_live_30 (snd_iconst (pc := 32) dX9_live_32 (snd_istore (pc := 33) (i := 6) (by decide) dX9_live_33 ((sk_X9_live_35 F F)))))))) (snd_iconst (pc := 22) dX9_live_22 (snd_ireturn dX9_live_23))))))))))))))
