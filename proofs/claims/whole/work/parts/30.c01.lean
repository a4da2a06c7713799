/-! LastWalker$Hunt.goOn(LLastWalker$Hunt;IIIJJ)V -/
theorem dX3_goOn_0 : decode cX3_goOn 0 = .ok (.iload_n 1, 1) := by decide +kernel
theorem dX3_goOn_1 : decode cX3_goOn 1 = .ok (.aload_n 0, 1) := by decide +kernel
theorem dX3_goOn_2 : decode cX3_goOn 2 = .ok (.getfield 89, 3) := by decide +kernel
theorem dX3_goOn_5 : decode cX3_goOn 5 = .ok (.if_icmp .ne 12, 3) := by decide +kernel
theorem dX3_goOn_8 : decode cX3_goOn 8 = .ok (.aload_n 0, 1) := by decide +kernel
theorem dX3_goOn_9 : decode cX3_goOn 9 = .ok (.iload_n 2, 1) := by decide +kernel
theorem dX3_goOn_10 : decode cX3_goOn 10 = .ok (.iload_n 3, 1) := by decide +kernel
theorem dX3_goOn_11 : decode cX3_goOn 11 = .ok (.lload 4, 2) := by decide +kernel
theorem dX3_goOn_13 : decode cX3_goOn 13 = .ok (.invokevirtual 112, 3) := by decide +kernel
theorem dX3_goOn_16 : decode cX3_goOn 16 = .ok (.return_, 1) := by decide +kernel
theorem dX3_goOn_17 : decode cX3_goOn 17 = .ok (.iload_n 2, 1) := by decide +kernel
theorem dX3_goOn_18 : decode cX3_goOn 18 = .ok (.bipush 8, 2) := by decide +kernel
theorem dX3_goOn_20 : decode cX3_goOn 20 = .ok (.if_icmp .lt 4, 3) := by decide +kernel
theorem dX3_goOn_23 : decode cX3_goOn 23 = .ok (.return_, 1) := by decide +kernel
theorem dX3_goOn_24 : decode cX3_goOn 24 = .ok (.aload_n 0, 1) := by decide +kernel
theorem dX3_goOn_25 : decode cX3_goOn 25 = .ok (.dup, 1) := by decide +kernel
theorem dX3_goOn_26 : decode cX3_goOn 26 = .ok (.getfield 92, 3) := by decide +kernel
theorem dX3_goOn_29 : decode cX3_goOn 29 = .ok (.iconst 1, 1) := by decide +kernel
theorem dX3_goOn_30 : decode cX3_goOn 30 = .ok (.iload_n 1, 1) := by decide +kernel
theorem dX3_goOn_31 : decode cX3_goOn 31 = .ok (.ishl, 1) := by decide +kernel
theorem dX3_goOn_32 : decode cX3_goOn 32 = .ok (.ior, 1) := by decide +kernel
theorem dX3_goOn_33 : decode cX3_goOn 33 = .ok (.putfield 92, 3) := by decide +kernel
theorem dX3_goOn_36 : decode cX3_goOn 36 = .ok (.iload_n 1, 1) := by decide +kernel
theorem dX3_goOn_37 : decode cX3_goOn 37 = .ok (.bipush 14, 2) := by decide +kernel
theorem dX3_goOn_39 : decode cX3_goOn 39 = .ok (.imul, 1) := by decide +kernel
theorem dX3_goOn_40 : decode cX3_goOn 40 = .ok (.istore 8, 2) := by decide +kernel
theorem dX3_goOn_42 : decode cX3_goOn 42 = .ok (.iload 8, 2) := by decide +kernel
theorem dX3_goOn_44 : decode cX3_goOn 44 = .ok (.istore 9, 2) := by decide +kernel
theorem dX3_goOn_46 : decode cX3_goOn 46 = .ok (.iload 9, 2) := by decide +kernel
theorem dX3_goOn_48 : decode cX3_goOn 48 = .ok (.iload 8, 2) := by decide +kernel
theorem dX3_goOn_50 : decode cX3_goOn 50 = .ok (.aload_n 0, 1) := by decide +kernel
theorem dX3_goOn_51 : decode cX3_goOn 51 = .ok (.getfield 12, 3) := by decide +kernel
theorem dX3_goOn_54 : decode cX3_goOn 54 = .ok (.getfield 116, 3) := by decide +kernel
theorem dX3_goOn_57 : decode cX3_goOn 57 = .ok (.iload_n 1, 1) := by decide +kernel
theorem dX3_goOn_58 : decode cX3_goOn 58 = .ok (.iaload, 1) := by decide +kernel
theorem dX3_goOn_59 : decode cX3_goOn 59 = .ok (.iadd, 1) := by decide +kernel
theorem dX3_goOn_60 : decode cX3_goOn 60 = .ok (.if_icmp .ge 144, 3) := by decide +kernel
theorem dX3_goOn_63 : decode cX3_goOn 63 = .ok (.aload_n 0, 1) := by decide +kernel
theorem dX3_goOn_64 : decode cX3_goOn 64 = .ok (.getfield 12, 3) := by decide +kernel
theorem dX3_goOn_67 : decode cX3_goOn 67 = .ok (.getfield 119, 3) := by decide +kernel
theorem dX3_goOn_70 : decode cX3_goOn 70 = .ok (.iload 9, 2) := by decide +kernel
theorem dX3_goOn_72 : decode cX3_goOn 72 = .ok (.iaload, 1) := by decide +kernel
theorem dX3_goOn_73 : decode cX3_goOn 73 = .ok (.istore 10, 2) := by decide +kernel
theorem dX3_goOn_75 : decode cX3_goOn 75 = .ok (.aload_n 0, 1) := by decide +kernel
theorem dX3_goOn_76 : decode cX3_goOn 76 = .ok (.getfield 92, 3) := by decide +kernel
theorem dX3_goOn_79 : decode cX3_goOn 79 = .ok (.iload 10, 2) := by decide +kernel
theorem dX3_goOn_81 : decode cX3_goOn 81 = .ok (.ishr, 1) := by decide +kernel
theorem dX3_goOn_82 : decode cX3_goOn 82 = .ok (.iconst 1, 1) := by decide +kernel
theorem dX3_goOn_83 : decode cX3_goOn 83 = .ok (.iand, 1) := by decide +kernel
theorem dX3_goOn_84 : decode cX3_goOn 84 = .ok (.ifCond .ne 114, 3) := by decide +kernel
theorem dX3_goOn_87 : decode cX3_goOn 87 = .ok (.aload_n 0, 1) := by decide +kernel
theorem dX3_goOn_88 : decode cX3_goOn 88 = .ok (.getfield 12, 3) := by decide +kernel
theorem dX3_goOn_91 : decode cX3_goOn 91 = .ok (.getfield 122, 3) := by decide +kernel
theorem dX3_goOn_94 : decode cX3_goOn 94 = .ok (.iload 9, 2) := by decide +kernel
theorem dX3_goOn_96 : decode cX3_goOn 96 = .ok (.iaload, 1) := by decide +kernel
theorem dX3_goOn_97 : decode cX3_goOn 97 = .ok (.istore 11, 2) := by decide +kernel
theorem dX3_goOn_99 : decode cX3_goOn 99 = .ok (.lload 4, 2) := by decide +kernel
theorem dX3_goOn_101 : decode cX3_goOn 101 = .ok (.aload_n 0, 1) := by decide +kernel
theorem dX3_goOn_102 : decode cX3_goOn 102 = .ok (.iload 11, 2) := by decide +kernel
theorem dX3_goOn_104 : decode cX3_goOn 104 = .ok (.iload_n 3, 1) := by decide +kernel
theorem dX3_goOn_105 : decode cX3_goOn 105 = .ok (.invokevirtual 125, 3) := by decide +kernel
theorem dX3_goOn_108 : decode cX3_goOn 108 = .ok (.ladd, 1) := by decide +kernel
theorem dX3_goOn_109 : decode cX3_goOn 109 = .ok (.lstore 12, 2) := by decide +kernel
theorem dX3_goOn_111 : decode cX3_goOn 111 = .ok (.lload 6, 2) := by decide +kernel
theorem dX3_goOn_113 : decode cX3_goOn 113 = .ok (.aload_n 0, 1) := by decide +kernel
theorem dX3_goOn_114 : decode cX3_goOn 114 = .ok (.getfield 32, 3) := by decide +kernel
theorem dX3_goOn_117 : decode cX3_goOn 117 = .ok (.iload 11, 2) := by decide +kernel
theorem dX3_goOn_119 : decode cX3_goOn 119 = .ok (.laload, 1) := by decide +kernel
theorem dX3_goOn_120 : decode cX3_goOn 120 = .ok (.lsub, 1) := by decide +kernel
theorem dX3_goOn_121 : decode cX3_goOn 121 = .ok (.lstore 14, 2) := by decide +kernel
theorem dX3_goOn_123 : decode cX3_goOn 123 = .ok (.aload_n 0, 1) := by decide +kernel
theorem dX3_goOn_124 : decode cX3_goOn 124 = .ok (.getfield 12, 3) := by decide +kernel
theorem dX3_goOn_127 : decode cX3_goOn 127 = .ok (.getfield 86, 3) := by decide +kernel
theorem dX3_goOn_130 : decode cX3_goOn 130 = .ok (.iload 10, 2) := by decide +kernel
theorem dX3_goOn_132 : decode cX3_goOn 132 = .ok (.bipush 9, 2) := by decide +kernel
theorem dX3_goOn_134 : decode cX3_goOn 134 = .ok (.imul, 1) := by decide +kernel
theorem dX3_goOn_135 : decode cX3_goOn 135 = .ok (.aload_n 0, 1) := by decide +kernel
theorem dX3_goOn_136 : decode cX3_goOn 136 = .ok (.getfield 89, 3) := by decide +kernel
theorem dX3_goOn_139 : decode cX3_goOn 139 = .ok (.iadd, 1) := by decide +kernel
theorem dX3_goOn_140 : decode cX3_goOn 140 = .ok (.iaload, 1) := by decide +kernel
theorem dX3_goOn_141 : decode cX3_goOn 141 = .ok (.i2l, 1) := by decide +kernel
theorem dX3_goOn_142 : decode cX3_goOn 142 = .ok (.aload_n 0, 1) := by decide +kernel
theorem dX3_goOn_143 : decode cX3_goOn 143 = .ok (.getfield 101, 3) := by decide +kernel
theorem dX3_goOn_146 : decode cX3_goOn 146 = .ok (.lmul, 1) := by decide +kernel
theorem dX3_goOn_147 : decode cX3_goOn 147 = .ok (.lstore 16, 2) := by decide +kernel
theorem dX3_goOn_149 : decode cX3_goOn 149 = .ok (.lload 12, 2) := by decide +kernel
theorem dX3_goOn_151 : decode cX3_goOn 151 = .ok (.lload 16, 2) := by decide +kernel
theorem dX3_goOn_153 : decode cX3_goOn 153 = .ok (.ladd, 1) := by decide +kernel
theorem dX3_goOn_154 : decode cX3_goOn 154 = .ok (.lload 14, 2) := by decide +kernel
theorem dX3_goOn_156 : decode cX3_goOn 156 = .ok (.lsub, 1) := by decide +kernel
theorem dX3_goOn_157 : decode cX3_goOn 157 = .ok (.aload_n 0, 1) := by decide +kernel
theorem dX3_goOn_158 : decode cX3_goOn 158 = .ok (.getfield 97, 3) := by decide +kernel
theorem dX3_goOn_161 : decode cX3_goOn 161 = .ok (.lcmp, 1) := by decide +kernel
theorem dX3_goOn_162 : decode cX3_goOn 162 = .ok (.ifCond .gt 36, 3) := by decide +kernel
theorem dX3_goOn_165 : decode cX3_goOn 165 = .ok (.aload_n 0, 1) := by decide +kernel
theorem dX3_goOn_166 : decode cX3_goOn 166 = .ok (.getfield 22, 3) := by decide +kernel
theorem dX3_goOn_169 : decode cX3_goOn 169 = .ok (.iload_n 2, 1) := by decide +kernel
theorem dX3_goOn_170 : decode cX3_goOn 170 = .ok (.iload 11, 2) := by decide +kernel
theorem dX3_goOn_172 : decode cX3_goOn 172 = .ok (.iastore, 1) := by decide +kernel
theorem dX3_goOn_173 : decode cX3_goOn 173 = .ok (.aload_n 0, 1) := by decide +kernel
theorem dX3_goOn_174 : decode cX3_goOn 174 = .ok (.iload 10, 2) := by decide +kernel
theorem dX3_goOn_176 : decode cX3_goOn 176 = .ok (.iload_n 2, 1) := by decide +kernel
theorem dX3_goOn_177 : decode cX3_goOn 177 = .ok (.iconst 1, 1) := by decide +kernel
theorem dX3_goOn_178 : decode cX3_goOn 178 = .ok (.iadd, 1) := by decide +kernel
theorem dX3_goOn_179 : decode cX3_goOn 179 = .ok (.iload_n 3, 1) := by decide +kernel
theorem dX3_goOn_180 : decode cX3_goOn 180 = .ok (.aload_n 0, 1) := by decide +kernel
theorem dX3_goOn_181 : decode cX3_goOn 181 = .ok (.getfield 38, 3) := by decide +kernel
theorem dX3_goOn_184 : decode cX3_goOn 184 = .ok (.getfield 61, 3) := by decide +kernel
theorem dX3_goOn_187 : decode cX3_goOn 187 = .ok (.iload 11, 2) := by decide +kernel
theorem dX3_goOn_189 : decode cX3_goOn 189 = .ok (.iaload, 1) := by decide +kernel
theorem dX3_goOn_190 : decode cX3_goOn 190 = .ok (.iadd, 1) := by decide +kernel
theorem dX3_goOn_191 : decode cX3_goOn 191 = .ok (.lload 12, 2) := by decide +kernel
theorem dX3_goOn_193 : decode cX3_goOn 193 = .ok (.lload 14, 2) := by decide +kernel
theorem dX3_goOn_195 : decode cX3_goOn 195 = .ok (.invokestatic 108, 3) := by decide +kernel
theorem dX3_goOn_198 : decode cX3_goOn 198 = .ok (.iinc 9 1, 3) := by decide +kernel
theorem dX3_goOn_201 : decode cX3_goOn 201 = .ok (.goto (-155), 3) := by decide +kernel
theorem dX3_goOn_204 : decode cX3_goOn 204 = .ok (.aload_n 0, 1) := by decide +kernel
theorem dX3_goOn_205 : decode cX3_goOn 205 = .ok (.dup, 1) := by decide +kernel
theorem dX3_goOn_206 : decode cX3_goOn 206 = .ok (.getfield 92, 3) := by decide +kernel
theorem dX3_goOn_209 : decode cX3_goOn 209 = .ok (.iconst 1, 1) := by decide +kernel
theorem dX3_goOn_210 : decode cX3_goOn 210 = .ok (.iload_n 1, 1) := by decide +kernel
theorem dX3_goOn_211 : decode cX3_goOn 211 = .ok (.ishl, 1) := by decide +kernel
theorem dX3_goOn_212 : decode cX3_goOn 212 = .ok (.iconst (-1), 1) := by decide +kernel
theorem dX3_goOn_213 : decode cX3_goOn 213 = .ok (.ixor, 1) := by decide +kernel
theorem dX3_goOn_214 : decode cX3_goOn 214 = .ok (.iand, 1) := by decide +kernel
theorem dX3_goOn_215 : decode cX3_goOn 215 = .ok (.putfield 92, 3) := by decide +kernel
theorem dX3_goOn_218 : decode cX3_goOn 218 = .ok (.return_, 1) := by decide +kernel
noncomputable def k_X3_goOn_198 (F : Nat) (rc : AF) (h46 : AK) : AK := ak_iinc 9 1 h46
set_option maxRecDepth 20000 in
theorem sk_X3_goOn_198 (F : Nat) {rc : AF} {dr d2 : Nat} (hlt : d2 < 1 + dr) (hrc : MA yX3_goOn cX3_goOn 18 none d2 rc) {h46 : AK} (hh46 : Snd X0 RX3 cX3_goOn 18 (1 + dr) 46 h46) : Snd X0 RX3 cX3_goOn 18 (1 + dr) 198 (k_X3_goOn_198 F rc h46) := by
  unfold k_X3_goOn_198
  exact snd_iinc (pc := 198) (i := 9) (n := 1) (by decide) dX3_goOn_198 (snd_goto (pc := 201) (off := (-155)) (tgt := 46) (by decide) dX3_goOn_201 (hh46))
noncomputable def kb_X3_goOn_46 (F : Nat) (rc : AF) (self : AK) : AK := ak_iload 9 (ak_iload 8 (ak_aload 0 (ak_getf 3 0 (ak_getf 1 0 (ak_iload 1 (ak_iald (ak_iadd (ak_cmplt (ak_aload 0 (ak_getf 3 0 (ak_getf 1 2 (ak_iload 9 (ak_iald (ak_istore 10 (ak_aload 0 (ak_getf 3 15 (ak_iload 10 (ak_ishr (ak_push (vI 1) (ak_iand (ak_ifeq (ak_aload 0 (ak_getf 3 0 (ak_getf 1 1 (ak_iload 9 (ak_iald (ak_istore 11 (ak_lload 4 (ak_aload 0 (ak_iload 11 (ak_iload 3 (ak_callv 3 2 (m_X3_costOf F) (ak_ladd (ak_lstore 12 (ak_lload 6 (ak_aload 0 (ak_getf 3 9 (ak_iload 11 (ak_lald (ak_lsub (ak_lstore 14 (ak_aload 0 (ak_getf 3 0 (ak_getf 1 3 (ak_iload 10 (ak_push (vI 9) (ak_imul (ak_aload 0 (ak_getf 3 14 (ak_iadd (ak_iald (ak_i2l (ak_aload 0 (ak_getf 3 16 (ak_lmul (ak_lstore 16 (ak_lload 12 (ak_lload 16 (ak_ladd (ak_lload 14 (ak_lsub (ak_aload 0 (ak_getf 3 4 (ak_lcmp (ak_ifgt ((k_X3_goOn_198 F rc self)) (ak_aload 0 (ak_getf 3 6 (ak_iload 2 (ak_iload 11 (ak_iast (ak_aload 0 (ak_iload 10 (ak_iload 2 (ak_push (vI 1) (ak_iadd (ak_iload 3 (ak_aload 0 (ak_getf 3 10 (ak_getf 7 4 (ak_iload 11 (ak_iald (ak_iadd (ak_lload 12 (ak_lload 14 (ak_call 6 rc ((k_X3_goOn_198 F rc self)))))))))))))))))))))))))))))))))))))))))))))))))))))))))))))))))) ((k_X3_goOn_198 F rc self))))))))))))))) (ak_aload 0 (ak_dup (ak_getf 3 15 (ak_push (vI 1) (ak_iload 1 (ak_ishl (ak_push (vI (-1)) (ak_ixor (ak_iand (ak_putf 3 15 ak_return))))))))))))))))))
noncomputable def k_X3_goOn_46 (F : Nat) (rc : AF) (n : Nat) : AK := Nat.rec (motive := fun _ => AK) ak_none (fun _ self => kb_X3_goOn_46 F rc self) n
set_option maxRecDepth 20000 in
theorem sk_X3_goOn_46 (F : Nat) {rc : AF} {dr d2 : Nat} (hlt : d2 < 1 + dr) (hrc : MA yX3_goOn cX3_goOn 18 none d2 rc) : ∀ n, Snd X0 RX3 cX3_goOn 18 (1 + dr) 46 (k_X3_goOn_46 F rc n) := by
  intro n
  induction n with
  | zero => exact snd_none
  | succ n ih =>
    show Snd X0 RX3 cX3_goOn 18 (1 + dr) 46 (kb_X3_goOn_46 F rc (k_X3_goOn_46 F rc n))
    unfold kb_X3_goOn_46
    exact snd_iload (pc := 46) (i := 9) dX3_goOn_46 (snd_iload (pc := 48) (i := 8) dX3_goOn_48 (snd_aload_n (pc := 50) (i := 0) dX3_goOn_50 (snd_getf (pc := 51) cls3 (f := 0) (by decide) wd_471 dX3_goOn_51 (snd_getf (pc := 54) cls1 (f := 0) (by decide) wd_446 dX3_goOn_54 (snd_iload_n (pc := 57) (i := 1) dX3_goOn_57 (snd_iald (pc := 58) dX3_goOn_58 (snd_iadd (pc := 59) dX3_goOn_59 (snd_icmpge (pc := 60) (off := 144) (tgt := 204) (by decide) dX3_goOn_60 (snd_aload_n (pc := 204) (i := 0) dX3_goOn_204 (snd_dup (pc := 205) dX3_goOn_205 (snd_getf (pc := 206) cls3 (f := 15) (by decide) wd_495 dX3_goOn_206 (snd_iconst (pc := 209) dX3_goOn_209 (snd_iload_n (pc := 210) (i := 1) dX3_goOn_210 (snd_ishl (pc := 211) dX3_goOn_211 (snd_iconst (pc := 212) dX3_goOn_212 (snd_ixor (pc := 213) dX3_goOn_213 (snd_iand (pc := 214) dX3_goOn_214 (snd_putf (pc := 215) cls3 (f := 15) (by decide) rfl rfl rfl wd_495 dX3_goOn_215 (snd_return dX3_goOn_218))))))))))) (snd_aload_n (pc := 63) (i := 0) dX3_goOn_63 (snd_getf (pc := 64) cls3 (f := 0) (by decide) wd_471 dX3_goOn_64 (snd_getf (pc := 67) cls1 (f := 2) (by decide) wd_450 dX3_goOn_67 (snd_iload (pc := 70) (i := 9) dX3_goOn_70 (snd_iald (pc := 72) dX3_goOn_72 (snd_istore (pc := 73) (i := 10) (by decide) dX3_goOn_73 (snd_aload_n (pc := 75) (i := 0) dX3_goOn_75 (snd_getf (pc := 76) cls3 (f := 15) (by decide) wd_495 dX3_goOn_76 (snd_iload (pc := 79) (i := 10) dX3_goOn_79 (snd_ishr (pc := 81) dX3_goOn_81 (snd_iconst (pc := 82) dX3_goOn_82 (snd_iand (pc := 83) dX3_goOn_83 (snd_ifne (pc := 84) (off := 114) (tgt := 198) (by decide) dX3_goOn_84 ((sk_X3_goOn_198 F hlt hrc ih)) (snd_aload_n (pc := 87) (i := 0) dX3_goOn_87 (snd_getf (pc := 88) cls3 (f := 0) (by decide) wd_471 dX3_goOn_88 (snd_getf (pc := 91) cls1 (f := 1) (by decide) wd_448 dX3_goOn_91 (snd_iload (pc := 94) (i := 9) dX3_goOn_94 (snd_iald (pc := 96) dX3_goOn_96 (snd_istore (pc := 97) (i := 11) (by decide) dX3_goOn_97 (snd_lload (pc := 99) (i := 4) dX3_goOn_99 (snd_aload_n (pc := 101) (i := 0) dX3_goOn_101 (snd_iload (pc := 102) (i := 11) dX3_goOn_102 (snd_iload_n (pc := 104) (i := 3) dX3_goOn_104 (snd_callV (pc := 105) (n := 2) cls3 (s_X3_costOf F) (by omega) (by decide) wd_1048 wd_1045 wd_1047 wd_32 wd_126 hy_X3_costOf dX3_goOn_105 (snd_ladd (pc := 108) dX3_goOn_108 (snd_lstore (pc := 109) (i := 12) (by decide) dX3_goOn_109 (snd_lload (pc := 111) (i := 6) dX3_goOn_111 (snd_aload_n (pc := 113) (i := 0) dX3_goOn_113 (snd_getf (pc := 114) cls3 (f := 9) (by decide) wd_489 dX3_goOn_114 (snd_iload (pc := 117) (i := 11) dX3_goOn_117 (snd_lald (pc := 119) dX3_goOn_119 (snd_lsub (pc := 120) dX3_goOn_120 (snd_lstore (pc := 121) (i := 14) (by decide) dX3_goOn_121 (snd_aload_n (pc := 123) (i := 0) dX3_goOn_123 (snd_getf (pc := 124) cls3 (f := 0) (by decide) wd_471 dX3_goOn_124 (snd_getf (pc := 127) cls1 (f := 3) (by decide) wd_452 dX3_goOn_127 (snd_iload (pc := 130) (i := 10) dX3_goOn_130 (snd_bipush (pc := 132) (by decide) dX3_goOn_132 (snd_imul (pc := 134) dX3_goOn_134 (snd_aload_n (pc := 135) (i := 0) dX3_goOn_135 (snd_getf (pc := 136) cls3 (f := 14) (by decide) wd_494 dX3_goOn_136 (snd_iadd (pc := 139) dX3_goOn_139 (snd_iald (pc := 140) dX3_goOn_140 (snd_i2l (pc := 141) dX3_goOn_141 (snd_aload_n (pc := 142) (i := 0) dX3_goOn_142 (snd_getf (pc := 143) cls3 (f := 16) (by decide) wd_496 dX3_goOn_143 (snd_lmul (pc := 146) dX3_goOn_146 (snd_lstore (pc := 147) (i := 16) (by decide) dX3_goOn_147 (snd_lload (pc := 149) (i := 12) dX3_goOn_149 (snd_lload (pc := 151) (i := 16) dX3_goOn_151 (snd_ladd (pc := 153) dX3_goOn_153 (snd_lload (pc := 154) (i := 14) dX3_goOn_154 (snd_lsub (pc := 156) dX3_goOn_156 (snd_aload_n (pc := 157) (i := 0) dX3_goOn_157 (snd_getf (pc := 158) cls3 (f := 4) (by decide) wd_482 dX3_goOn_158 (snd_lcmp (pc := 161) dX3_goOn_161 (snd_ifgt (pc := 162) (off := 36) (tgt := 198) (by decide) dX3_goOn_162 ((sk_X3_goOn_198 F hlt hrc ih)) (snd_aload_n (pc := 165) (i := 0) dX3_goOn_165 (snd_getf (pc := 166) cls3 (f := 6) (by decide) wd_486 dX3_goOn_166 (snd_iload_n (pc := 169) (i := 2) dX3_goOn_169 (snd_iload (pc := 170) (i := 11) dX3_goOn_170 (snd_iast (pc := 172) dX3_goOn_172 (snd_aload_n (pc := 173) (i := 0) dX3_goOn_173 (snd_iload (pc := 174) (i := 10) dX3_goOn_174 (snd_iload_n (pc := 176) (i := 2) dX3_goOn_176 (snd_iconst (pc := 177) dX3_goOn_177 (snd_iadd (pc := 178) dX3_goOn_178 (snd_iload_n (pc := 179) (i := 3) dX3_goOn_179 (snd_aload_n (pc := 180) (i := 0) dX3_goOn_180 (snd_getf (pc := 181) cls3 (f := 10) (by decide) wd_490 dX3_goOn_181 (snd_getf (pc := 184) cls7 (f := 4) (by decide) wd_178 dX3_goOn_184 (snd_iload (pc := 187) (i := 11) dX3_goOn_187 (snd_iald (pc := 189) dX3_goOn_189 (snd_iadd (pc := 190) dX3_goOn_190 (snd_lload (pc := 191) (i := 12) dX3_goOn_191 (snd_lload (pc := 193) (i := 14) dX3_goOn_193 (snd_callS (pc := 195) (n := 6) hrc hlt (by decide) wd_1040 wd_1038 wd_1039 wd_126 hy_X3_goOn dX3_goOn_195 ((sk_X3_goOn_198 F hlt hrc ih)))))))))))))))))))))))))))))))))))))))))))))))))))))))))))))))))))))))))))))))))))))))
noncomputable def k_X3_goOn (F : Nat) (rc : AF) : AK := ak_iload 1 (ak_aload 0 (ak_getf 3 14 (ak_cmpeq (ak_aload 0 (ak_iload 2 (ak_iload 3 (ak_lload 4 (ak_callv 3 3 (m_X3_offer F) ak_return))))) (ak_iload 2 (ak_push (vI 8) (ak_cmplt (ak_aload 0 (ak_dup (ak_getf 3 15 (ak_push (vI 1) (ak_iload 1 (ak_ishl (ak_ior (ak_putf 3 15 (ak_iload 1 (ak_push (vI 14) (ak_imul (ak_istore 8 (ak_iload 8 (ak_istore 9 ((k_X3_goOn_46 F rc F)))))))))))))))) (ak_return)))))))
noncomputable def m_X3_goOn (F : Nat) : Nat → AF
  | 0 => fun _ _ => none
  | n + 1 => mkF 0 18 (k_X3_goOn F (m_X3_goOn F n))
set_option maxRecDepth 20000 in
theorem s_X3_goOn (F : Nat) : ∀ n, MA yX3_goOn cX3_goOn 18 none (1 + n) (m_X3_goOn F n)
  | 0 => fun l D cA ad as w o sz hi hf => by cases hf
  | n + 1 => met_of (Or.inl ⟨rfl, rfl⟩) (by decide) (by
    have hlt : 1 + n < 1 + (n + 1) := by omega
    have hrc := s_X3_goOn F n
    unfold k_X3_goOn
    exact snd_iload_n (pc := 0) (i := 1) dX3_goOn_0 (snd_aload_n (pc := 1) (i := 0) dX3_goOn_1 (snd_getf (pc := 2) cls3 (f := 14) (by decide) wd_494 dX3_goOn_2 (snd_icmpne (pc := 5) (off := 12) (tgt := 17) (by decide) dX3_goOn_5 (snd_iload_n (pc := 17) (i := 2) dX3_goOn_17 (snd_bipush (pc := 18) (by decide) dX3_goOn_18 (snd_icmplt (pc := 20) (off := 4) (tgt := 24) (by decide) dX3_goOn_20 (snd_aload_n (pc := 24) (i := 0) dX3_goOn_24 (snd_dup (pc := 25) dX3_goOn_25 (snd_getf (pc := 26) cls3 (f := 15) (by decide) wd_495 dX3_goOn_26 (snd_iconst (pc := 29) dX3_goOn_29 (snd_iload_n (pc := 30) (i := 1) dX3_goOn_30 (snd_ishl (pc := 31) dX3_goOn_31 (snd_ior (pc := 32) dX3_goOn_32 (snd_putf (pc := 33) cls3 (f := 15) (by decide) rfl rfl rfl wd_495 dX3_goOn_33 (snd_iload_n (pc := 36) (i := 1) dX3_goOn_36 (snd_bipush (pc := 37) (by decide) dX3_goOn_37 (snd_imul (pc := 39) dX3_goOn_39 (snd_istore (pc := 40) (i := 8) (by decide) dX3_goOn_40 (snd_iload (pc := 42) (i := 8) dX3_goOn_42 (snd_istore (pc := 44) (i := 9) (by decide) dX3_goOn_44 ((sk_X3_goOn_46 F hlt hrc F)))))))))))))))) (snd_return dX3_goOn_23)))) (snd_aload_n (pc := 8) (i := 0) dX3_goOn_8 (snd_iload_n (pc := 9) (i := 2) dX3_goOn_9 (snd_iload_n (pc := 10) (i := 3) dX3_goOn_10 (snd_lload (pc := 11) (i := 4) dX3_goOn_11 (snd_callV (pc := 13) (n := 3) cls3 (s_X3_offer F) (by omega) (by decide) wd_1044 wd_1041 wd_1043 wd_31 wd_126 hy_X3_offer dX3_goOn_13 (snd_return dX3_goOn_16))))))))))

/-! LastWalker$Hunt.seekWay(III)Z -/
theorem dX3_seekWay_0 : decode cX3_seekWay 0 = .ok (.aload_n 0, 1) := by decide +kernel
theorem dX3_seekWay_1 : decode cX3_seekWay 1 = .ok (.iconst 0, 1) := by decide +kernel
theorem dX3_seekWay_2 : decode cX3_seekWay 2 = .ok (.putfield 52, 3) := by decide +kernel
theorem dX3_seekWay_5 : decode cX3_seekWay 5 = .ok (.aload_n 0, 1) := by decide +kernel
theorem dX3_seekWay_6 : decode cX3_seekWay 6 = .ok (.getfield 12, 3) := by decide +kernel
theorem dX3_seekWay_9 : decode cX3_seekWay 9 = .ok (.getfield 86, 3) := by decide +kernel
theorem dX3_seekWay_12 : decode cX3_seekWay 12 = .ok (.iload_n 2, 1) := by decide +kernel
theorem dX3_seekWay_13 : decode cX3_seekWay 13 = .ok (.bipush 9, 2) := by decide +kernel
theorem dX3_seekWay_15 : decode cX3_seekWay 15 = .ok (.imul, 1) := by decide +kernel
theorem dX3_seekWay_16 : decode cX3_seekWay 16 = .ok (.iload_n 3, 1) := by decide +kernel
theorem dX3_seekWay_17 : decode cX3_seekWay 17 = .ok (.iadd, 1) := by decide +kernel
theorem dX3_seekWay_18 : decode cX3_seekWay 18 = .ok (.iaload, 1) := by decide +kernel
theorem dX3_seekWay_19 : decode cX3_seekWay 19 = .ok (.istore 4, 2) := by decide +kernel
theorem dX3_seekWay_21 : decode cX3_seekWay 21 = .ok (.iload_n 2, 1) := by decide +kernel
theorem dX3_seekWay_22 : decode cX3_seekWay 22 = .ok (.iload_n 3, 1) := by decide +kernel
theorem dX3_seekWay_23 : decode cX3_seekWay 23 = .ok (.if_icmp .eq 9, 3) := by decide +kernel
theorem dX3_seekWay_26 : decode cX3_seekWay 26 = .ok (.iload 4, 2) := by decide +kernel
theorem dX3_seekWay_28 : decode cX3_seekWay 28 = .ok (.iconst (-1), 1) := by decide +kernel
theorem dX3_seekWay_29 : decode cX3_seekWay 29 = .ok (.if_icmp .ne 5, 3) := by decide +kernel
theorem dX3_seekWay_32 : decode cX3_seekWay 32 = .ok (.iconst 0, 1) := by decide +kernel
theorem dX3_seekWay_33 : decode cX3_seekWay 33 = .ok (.ireturn, 1) := by decide +kernel
theorem dX3_seekWay_34 : decode cX3_seekWay 34 = .ok (.aload_n 0, 1) := by decide +kernel
theorem dX3_seekWay_35 : decode cX3_seekWay 35 = .ok (.iload_n 3, 1) := by decide +kernel
theorem dX3_seekWay_36 : decode cX3_seekWay 36 = .ok (.putfield 89, 3) := by decide +kernel
theorem dX3_seekWay_39 : decode cX3_seekWay 39 = .ok (.aload_n 0, 1) := by decide +kernel
theorem dX3_seekWay_40 : decode cX3_seekWay 40 = .ok (.iconst 0, 1) := by decide +kernel
theorem dX3_seekWay_41 : decode cX3_seekWay 41 = .ok (.putfield 92, 3) := by decide +kernel
theorem dX3_seekWay_44 : decode cX3_seekWay 44 = .ok (.aload_n 0, 1) := by decide +kernel
theorem dX3_seekWay_45 : decode cX3_seekWay 45 = .ok (.aload_n 0, 1) := by decide +kernel
theorem dX3_seekWay_46 : decode cX3_seekWay 46 = .ok (.getfield 49, 3) := by decide +kernel
theorem dX3_seekWay_49 : decode cX3_seekWay 49 = .ok (.ifCond .ne 13, 3) := by decide +kernel
theorem dX3_seekWay_52 : decode cX3_seekWay 52 = .ok (.iload 4, 2) := by decide +kernel
theorem dX3_seekWay_54 : decode cX3_seekWay 54 = .ok (.i2l, 1) := by decide +kernel
theorem dX3_seekWay_55 : decode cX3_seekWay 55 = .ok (.ldc2_w 64, 3) := by decide +kernel
theorem dX3_seekWay_58 : decode cX3_seekWay 58 = .ok (.lmul, 1) := by decide +kernel
theorem dX3_seekWay_59 : decode cX3_seekWay 59 = .ok (.goto 6, 3) := by decide +kernel
theorem dX3_seekWay_62 : decode cX3_seekWay 62 = .ok (.ldc2_w 95, 3) := by decide +kernel
theorem dX3_seekWay_65 : decode cX3_seekWay 65 = .ok (.putfield 97, 3) := by decide +kernel
theorem dX3_seekWay_68 : decode cX3_seekWay 68 = .ok (.aload_n 0, 1) := by decide +kernel
theorem dX3_seekWay_69 : decode cX3_seekWay 69 = .ok (.aload_n 0, 1) := by decide +kernel
theorem dX3_seekWay_70 : decode cX3_seekWay 70 = .ok (.getfield 49, 3) := by decide +kernel
theorem dX3_seekWay_73 : decode cX3_seekWay 73 = .ok (.ifCond .ne 9, 3) := by decide +kernel
theorem dX3_seekWay_76 : decode cX3_seekWay 76 = .ok (.ldc2_w 64, 3) := by decide +kernel
theorem dX3_seekWay_79 : decode cX3_seekWay 79 = .ok (.goto 32, 3) := by decide +kernel
theorem dX3_seekWay_82 : decode cX3_seekWay 82 = .ok (.aload_n 0, 1) := by decide +kernel
theorem dX3_seekWay_83 : decode cX3_seekWay 83 = .ok (.getfield 49, 3) := by decide +kernel
theorem dX3_seekWay_86 : decode cX3_seekWay 86 = .ok (.iconst 2, 1) := by decide +kernel
theorem dX3_seekWay_87 : decode cX3_seekWay 87 = .ok (.if_icmp .ne 7, 3) := by decide +kernel
theorem dX3_seekWay_90 : decode cX3_seekWay 90 = .ok (.lconst 0, 1) := by decide +kernel
theorem dX3_seekWay_91 : decode cX3_seekWay 91 = .ok (.goto 20, 3) := by decide +kernel
theorem dX3_seekWay_94 : decode cX3_seekWay 94 = .ok (.aload_n 0, 1) := by decide +kernel
theorem dX3_seekWay_95 : decode cX3_seekWay 95 = .ok (.getfield 38, 3) := by decide +kernel
theorem dX3_seekWay_98 : decode cX3_seekWay 98 = .ok (.getfield 66, 3) := by decide +kernel
theorem dX3_seekWay_101 : decode cX3_seekWay 101 = .ok (.aload_n 0, 1) := by decide +kernel
theorem dX3_seekWay_102 : decode cX3_seekWay 102 = .ok (.getfield 45, 3) := by decide +kernel
theorem dX3_seekWay_105 : decode cX3_seekWay 105 = .ok (.iaload, 1) := by decide +kernel
theorem dX3_seekWay_106 : decode cX3_seekWay 106 = .ok (.i2l, 1) := by decide +kernel
theorem dX3_seekWay_107 : decode cX3_seekWay 107 = .ok (.ldc2_w 64, 3) := by decide +kernel
theorem dX3_seekWay_110 : decode cX3_seekWay 110 = .ok (.lmul, 1) := by decide +kernel
theorem dX3_seekWay_111 : decode cX3_seekWay 111 = .ok (.putfield 101, 3) := by decide +kernel
theorem dX3_seekWay_114 : decode cX3_seekWay 114 = .ok (.aload_n 0, 1) := by decide +kernel
theorem dX3_seekWay_115 : decode cX3_seekWay 115 = .ok (.iload_n 2, 1) := by decide +kernel
theorem dX3_seekWay_116 : decode cX3_seekWay 116 = .ok (.iconst 0, 1) := by decide +kernel
theorem dX3_seekWay_117 : decode cX3_seekWay 117 = .ok (.iload_n 1, 1) := by decide +kernel
theorem dX3_seekWay_118 : decode cX3_seekWay 118 = .ok (.lconst 0, 1) := by decide +kernel
theorem dX3_seekWay_119 : decode cX3_seekWay 119 = .ok (.aload_n 0, 1) := by decide +kernel
theorem dX3_seekWay_120 : decode cX3_seekWay 120 = .ok (.iload_n 1, 1) := by decide +kernel
theorem dX3_seekWay_121 : decode cX3_seekWay 121 = .ok (.invokevirtual 104, 3) := by decide +kernel
theorem dX3_seekWay_124 : decode cX3_seekWay 124 = .ok (.invokestatic 108, 3) := by decide +kernel
theorem dX3_seekWay_127 : decode cX3_seekWay 127 = .ok (.aload_n 0, 1) := by decide +kernel
theorem dX3_seekWay_128 : decode cX3_seekWay 128 = .ok (.getfield 52, 3) := by decide +kernel
theorem dX3_seekWay_131 : decode cX3_seekWay 131 = .ok (.ifCond .le 7, 3) := by decide +kernel
theorem dX3_seekWay_134 : decode cX3_seekWay 134 = .ok (.iconst 1, 1) := by decide +kernel
theorem dX3_seekWay_135 : decode cX3_seekWay 135 = .ok (.goto 4, 3) := by decide +kernel
theorem dX3_seekWay_138 : decode cX3_seekWay 138 = .ok (.iconst 0, 1) := by decide +kernel
theorem dX3_seekWay_139 : decode cX3_seekWay 139 = .ok (.ireturn, 1) := by decide +kernel
noncomputable def k_X3_seekWay_111 (F : Nat) : AK := ak_putl 3 16 (ak_aload 0 (ak_iload 2 (ak_push (vI 0) (ak_iload 1 (ak_push (vL 0) (ak_aload 0 (ak_iload 1 (ak_callv 3 1 (m_X3_weigh F) (ak_call 6 (m_X3_goOn F 12) (ak_aload 0 (ak_getf 3 2 (ak_ifgt (ak_push (vI 1) ak_ireturn) (ak_push (vI 0) ak_ireturn)))))))))))))
set_option maxRecDepth 20000 in
theorem sk_X3_seekWay_111 (F : Nat) : Snd X0 RX3 cX3_seekWay 5 15 111 (k_X3_seekWay_111 F) := by
  unfold k_X3_seekWay_111
  exact snd_putl (pc := 111) cls3 (f := 16) (by decide) rfl rfl rfl wd_496 dX3_seekWay_111 (snd_aload_n (pc := 114) (i := 0) dX3_seekWay_114 (snd_iload_n (pc := 115) (i := 2) dX3_seekWay_115 (snd_iconst (pc := 116) dX3_seekWay_116 (snd_iload_n (pc := 117) (i := 1) dX3_seekWay_117 (snd_lconst (pc := 118) (by decide) dX3_seekWay_118 (snd_aload_n (pc := 119) (i := 0) dX3_seekWay_119 (snd_iload_n (pc := 120) (i := 1) dX3_seekWay_120 (snd_callV (pc := 121) (n := 1) cls3 (s_X3_weigh F) (by decide) (by decide) wd_1021 wd_1018 wd_1020 wd_30 wd_126 hy_X3_weigh dX3_seekWay_121 (snd_callS (pc := 124) (n := 6) (s_X3_goOn F 12) (by decide) (by decide) wd_1040 wd_1038 wd_1039 wd_126 hy_X3_goOn dX3_seekWay_124 (snd_aload_n (pc := 127) (i := 0) dX3_seekWay_127 (snd_getf (pc := 128) cls3 (f := 2) (by decide) wd_476 dX3_seekWay_128 (snd_ifle (pc := 131) (off := 7) (tgt := 138) (by decide) dX3_seekWay_131 (snd_iconst (pc := 138) dX3_seekWay_138 (snd_ireturn dX3_seekWay_139)) (snd_iconst (pc := 134) dX3_seekWay_134 (snd_goto (pc := 135) (off := 4) (tgt := 139) (by decide) dX3_seekWay_135 (snd_ireturn dX3_seekWay_139)))))))))))))))
noncomputable def k_X3_seekWay_65 (F : Nat) : AK := ak_putl 3 4 (ak_aload 0 (ak_aload 0 (ak_getf 3 13 (ak_ifeq (ak_push (vL 1000000000000) ((k_X3_seekWay_111 F))) (ak_aload 0 (ak_getf 3 13 (ak_push (vI 2) (ak_cmpeq (ak_push (vL 0) ((k_X3_seekWay_111 F))) (ak_aload 0 (ak_getf 3 10 (ak_getf 7 10 (ak_aload 0 (ak_getf 3 12 (ak_iald (ak_i2l (ak_push (vL 1000000000000) (ak_lmul ((k_X3_seekWay_111 F)))))))))))))))))))
set_option maxRecDepth 20000 in
theorem sk_X3_seekWay_65 (F : Nat) : Snd X0 RX3 cX3_seekWay 5 15 65 (k_X3_seekWay_65 F) := by
  unfold k_X3_seekWay_65
  exact snd_putl (pc := 65) cls3 (f := 4) (by decide) rfl rfl rfl wd_482 dX3_seekWay_65 (snd_aload_n (pc := 68) (i := 0) dX3_seekWay_68 (snd_aload_n (pc := 69) (i := 0) dX3_seekWay_69 (snd_getf (pc := 70) cls3 (f := 13) (by decide) wd_493 dX3_seekWay_70 (snd_ifne (pc := 73) (off := 9) (tgt := 82) (by decide) dX3_seekWay_73 (snd_aload_n (pc := 82) (i := 0) dX3_seekWay_82 (snd_getf (pc := 83) cls3 (f := 13) (by decide) wd_493 dX3_seekWay_83 (snd_iconst (pc := 86) dX3_seekWay_86 (snd_icmpne (pc := 87) (off := 7) (tgt := 94) (by decide) dX3_seekWay_87 (snd_aload_n (pc := 94) (i := 0) dX3_seekWay_94 (snd_getf (pc := 95) cls3 (f := 10) (by decide) wd_490 dX3_seekWay_95 (snd_getf (pc := 98) cls7 (f := 10) (by decide) wd_205 dX3_seekWay_98 (snd_aload_n (pc := 101) (i := 0) dX3_seekWay_101 (snd_getf (pc := 102) cls3 (f := 12) (by decide) wd_492 dX3_seekWay_102 (snd_iald (pc := 105) dX3_seekWay_105 (snd_i2l (pc := 106) dX3_seekWay_106 (snd_ldc2 (pc := 107) (z := (1000000000000)) (by decide) wd_1016 dX3_seekWay_107 (snd_lmul (pc := 110) dX3_seekWay_110 ((sk_X3_seekWay_111 F))))))))))) (snd_lconst (pc := 90) (by decide) dX3_seekWay_90 (snd_goto (pc := 91) (off := 20) (tgt := 111) (by decide) dX3_seekWay_91 ((sk_X3_seekWay_111 F)))))))) (snd_ldc2 (pc := 76) (z := (1000000000000)) (by decide) wd_1016 dX3_seekWay_76 (snd_goto (pc := 79) (off := 32) (tgt := 111) (by decide) dX3_seekWay_79 ((sk_X3_seekWay_111 F))))))))
noncomputable def k_X3_seekWay (F : Nat) : AK := ak_aload 0 (ak_push (vI 0) (ak_putf 3 2 (ak_aload 0 (ak_getf 3 0 (ak_getf 1 3 (ak_iload 2 (ak_push (vI 9) (ak_imul (ak_iload 3 (ak_iadd (ak_iald (ak_istore 4 (ak_iload 2 (ak_iload 3 (ak_cmpeq (ak_push (vI 0) ak_ireturn) (ak_iload 4 (ak_push (vI (-1)) (ak_cmpeq (ak_push (vI 0) ak_ireturn) (ak_aload 0 (ak_iload 3 (ak_putf 3 14 (ak_aload 0 (ak_push (vI 0) (ak_putf 3 15 (ak_aload 0 (ak_aload 0 (ak_getf 3 13 (ak_ifeq (ak_iload 4 (ak_i2l (ak_push (vL 1000000000000) (ak_lmul ((k_X3_seekWay_65 F)))))) (ak_push (vL 1000000000000000000) ((k_X3_seekWay_65 F)))))))))))))))))))))))))))))))
noncomputable def m_X3_seekWay (F : Nat) : AF := mkF 2 5 (k_X3_seekWay F)
set_option maxRecDepth 20000 in
theorem s_X3_seekWay (F : Nat) : MA yX3_seekWay cX3_seekWay 5 (some .boolean) 15 (m_X3_seekWay F) := met_of (Or.inr (Or.inr (Or.inl ⟨rfl, rfl⟩))) (by decide) (by
  unfold k_X3_seekWay
  exact snd_aload_n (pc := 0) (i := 0) dX3_seekWay_0 (snd_iconst (pc := 1) dX3_seekWay_1 (snd_putf (pc := 2) cls3 (f := 2) (by decide) rfl rfl rfl wd_476 dX3_seekWay_2 (snd_aload_n (pc := 5) (i := 0) dX3_seekWay_5 (snd_getf (pc := 6) cls3 (f := 0) (by decide) wd_471 dX3_seekWay_6 (snd_getf (pc := 9) cls1 (f := 3) (by decide) wd_452 dX3_seekWay_9 (snd_iload_n (pc := 12) (i := 2) dX3_seekWay_12 (snd_bipush (pc := 13) (by decide) dX3_seekWay_13 (snd_imul (pc := 15) dX3_seekWay_15 (snd_iload_n (pc := 16) (i := 3) dX3_seekWay_16 (snd_iadd (pc := 17) dX3_seekWay_17 (snd_iald (pc := 18) dX3_seekWay_18 (snd_istore (pc := 19) (i := 4) (by decide) dX3_seekWay_19 (snd_iload_n (pc := 21) (i := 2) dX3_seekWay_21 (snd_iload_n (pc := 22) (i := 3) dX3_seekWay_22 (snd_icmpeq (pc := 23) (off := 9) (tgt := 32) (by decide) dX3_seekWay_23 (snd_iconst (pc := 32) dX3_seekWay_32 (snd_ireturn dX3_seekWay_33)) (snd_iload (pc := 26) (i := 4) dX3_seekWay_26 (snd_iconst (pc := 28) dX3_seekWay_28 (snd_icmpne (pc := 29) (off := 5) (tgt := 34) (by decide) dX3_seekWay_29 (snd_aload_n (pc := 34) (i := 0) dX3_seekWay_34 (snd_iload_n (pc := 35) (i := 3) dX3_seekWay_35 (snd_putf (pc := 36) cls3 (f := 14) (by decide) rfl rfl rfl wd_494 dX3_seekWay_36 (snd_aload_n (pc := 39) (i := 0) dX3_seekWay_39 (snd_iconst (pc := 40) dX3_seekWay_40 (snd_putf (pc := 41) cls3 (f := 15) (by decide) rfl rfl rfl wd_495 dX3_seekWay_41 (snd_aload_n (pc := 44) (i := 0) dX3_seekWay_44 (snd_aload_n (pc := 45) (i := 0) dX3_seekWay_45 (snd_getf (pc := 46) cls3 (f := 13) (by decide) wd_493 dX3_seekWay_46 (snd_ifne (pc := 49) (off := 13) (tgt := 62) (by decide) dX3_seekWay_49 (snd_ldc2 (pc := 62) (z := (1000000000000000000)) (by decide) wd_1017 dX3_seekWay_62 ((sk_X3_seekWay_65 F))) (snd_iload (pc := 52) (i := 4) dX3_seekWay_52 (snd_i2l (pc := 54) dX3_seekWay_54 (snd_ldc2 (pc := 55) (z := (1000000000000)) (by decide) wd_1016 dX3_seekWay_55 (snd_lmul (pc := 58) dX3_seekWay_58 (snd_goto (pc := 59) (off := 6) (tgt := 65) (by decide) dX3_seekWay_59 ((sk_X3_seekWay_65 F))))))))))))))))) (snd_iconst (pc := 32) dX3_seekWay_32 (snd_ireturn dX3_seekWay_33)))))))))))))))))))))

/-! LastWalker$Hunt.meetRound(IIJ)V -/
theorem dX3_meetRound_0 : decode cX3_meetRound 0 = .ok (.lload_n 3, 1) := by decide +kernel
theorem dX3_meetRound_1 : decode cX3_meetRound 1 = .ok (.lconst 0, 1) := by decide +kernel
theorem dX3_meetRound_2 : decode cX3_meetRound 2 = .ok (.lcmp, 1) := by decide +kernel
theorem dX3_meetRound_3 : decode cX3_meetRound 3 = .ok (.ifCond .ge 20, 3) := by decide +kernel
theorem dX3_meetRound_6 : decode cX3_meetRound 6 = .ok (.aload_n 0, 1) := by decide +kernel
theorem dX3_meetRound_7 : decode cX3_meetRound 7 = .ok (.dup, 1) := by decide +kernel
theorem dX3_meetRound_8 : decode cX3_meetRound 8 = .ok (.getfield 136, 3) := by decide +kernel
theorem dX3_meetRound_11 : decode cX3_meetRound 11 = .ok (.iconst 1, 1) := by decide +kernel
theorem dX3_meetRound_12 : decode cX3_meetRound 12 = .ok (.iadd, 1) := by decide +kernel
theorem dX3_meetRound_13 : decode cX3_meetRound 13 = .ok (.putfield 136, 3) := by decide +kernel
theorem dX3_meetRound_16 : decode cX3_meetRound 16 = .ok (.aload_n 0, 1) := by decide +kernel
theorem dX3_meetRound_17 : decode cX3_meetRound 17 = .ok (.iload_n 1, 1) := by decide +kernel
theorem dX3_meetRound_18 : decode cX3_meetRound 18 = .ok (.iload_n 2, 1) := by decide +kernel
theorem dX3_meetRound_19 : decode cX3_meetRound 19 = .ok (.lload_n 3, 1) := by decide +kernel
theorem dX3_meetRound_20 : decode cX3_meetRound 20 = .ok (.invokevirtual 112, 3) := by decide +kernel
theorem dX3_meetRound_23 : decode cX3_meetRound 23 = .ok (.return_, 1) := by decide +kernel
noncomputable def k_X3_meetRound (F : Nat) : AK := ak_lload 3 (ak_push (vL 0) (ak_lcmp (ak_iflt (ak_aload 0 (ak_dup (ak_getf 3 5 (ak_push (vI 1) (ak_iadd (ak_putf 3 5 (ak_aload 0 (ak_iload 1 (ak_iload 2 (ak_lload 3 (ak_callv 3 3 (m_X3_offer F) ak_return))))))))))) (ak_return))))
noncomputable def m_X3_meetRound (F : Nat) : AF := mkF 0 5 (k_X3_meetRound F)
set_option maxRecDepth 20000 in
theorem s_X3_meetRound (F : Nat) : MA yX3_meetRound cX3_meetRound 5 none 1 (m_X3_meetRound F) := met_of (Or.inl ⟨rfl, rfl⟩) (by decide) (by
  unfold k_X3_meetRound
  exact snd_lload_n (pc := 0) (i := 3) dX3_meetRound_0 (snd_lconst (pc := 1) (by decide) dX3_meetRound_1 (snd_lcmp (pc := 2) dX3_meetRound_2 (snd_ifge (pc := 3) (off := 20) (tgt := 23) (by decide) dX3_meetRound_3 (snd_return dX3_meetRound_23) (snd_aload_n (pc := 6) (i := 0) dX3_meetRound_6 (snd_dup (pc := 7) dX3_meetRound_7 (snd_getf (pc := 8) cls3 (f := 5) (by decide) wd_484 dX3_meetRound_8 (snd_iconst (pc := 11) dX3_meetRound_11 (snd_iadd (pc := 12) dX3_meetRound_12 (snd_putf (pc := 13) cls3 (f := 5) (by decide) rfl rfl rfl wd_484 dX3_meetRound_13 (snd_aload_n (pc := 16) (i := 0) dX3_meetRound_16 (snd_iload_n (pc := 17) (i := 1) dX3_meetRound_17 (snd_iload_n (pc := 18) (i := 2) dX3_meetRound_18 (snd_lload_n (pc := 19) (i := 3) dX3_meetRound_19 (snd_callV (pc := 20) (n := 3) cls3 (s_X3_offer F) (by decide) (by decide) wd_1044 wd_1041 wd_1043 wd_31 wd_126 hy_X3_offer dX3_meetRound_20 (snd_return dX3_meetRound_23))))))))))))))))

/-! LastWalker$Hunt.goAround(LLastWalker$Hunt;IIIJJ)V -/
theorem dX3_goAround_0 : decode cX3_goAround 0 = .ok (.iload_n 1, 1) := by decide +kernel
theorem dX3_goAround_1 : decode cX3_goAround 1 = .ok (.aload_n 0, 1) := by decide +kernel
theorem dX3_goAround_2 : decode cX3_goAround 2 = .ok (.getfield 89, 3) := by decide +kernel
theorem dX3_goAround_5 : decode cX3_goAround 5 = .ok (.if_icmp .ne 16, 3) := by decide +kernel
theorem dX3_goAround_8 : decode cX3_goAround 8 = .ok (.iload_n 2, 1) := by decide +kernel
theorem dX3_goAround_9 : decode cX3_goAround 9 = .ok (.iconst 2, 1) := by decide +kernel
theorem dX3_goAround_10 : decode cX3_goAround 10 = .ok (.if_icmp .lt 11, 3) := by decide +kernel
theorem dX3_goAround_13 : decode cX3_goAround 13 = .ok (.aload_n 0, 1) := by decide +kernel
theorem dX3_goAround_14 : decode cX3_goAround 14 = .ok (.iload_n 2, 1) := by decide +kernel
theorem dX3_goAround_15 : decode cX3_goAround 15 = .ok (.iload_n 3, 1) := by decide +kernel
theorem dX3_goAround_16 : decode cX3_goAround 16 = .ok (.lload 4, 2) := by decide +kernel
theorem dX3_goAround_18 : decode cX3_goAround 18 = .ok (.invokevirtual 146, 3) := by decide +kernel
theorem dX3_goAround_21 : decode cX3_goAround 21 = .ok (.iload_n 2, 1) := by decide +kernel
theorem dX3_goAround_22 : decode cX3_goAround 22 = .ok (.bipush 6, 2) := by decide +kernel
theorem dX3_goAround_24 : decode cX3_goAround 24 = .ok (.if_icmp .lt 4, 3) := by decide +kernel
theorem dX3_goAround_27 : decode cX3_goAround 27 = .ok (.return_, 1) := by decide +kernel
theorem dX3_goAround_28 : decode cX3_goAround 28 = .ok (.iload_n 1, 1) := by decide +kernel
theorem dX3_goAround_29 : decode cX3_goAround 29 = .ok (.bipush 14, 2) := by decide +kernel
theorem dX3_goAround_31 : decode cX3_goAround 31 = .ok (.imul, 1) := by decide +kernel
theorem dX3_goAround_32 : decode cX3_goAround 32 = .ok (.istore 8, 2) := by decide +kernel
theorem dX3_goAround_34 : decode cX3_goAround 34 = .ok (.iload 8, 2) := by decide +kernel
theorem dX3_goAround_36 : decode cX3_goAround 36 = .ok (.istore 9, 2) := by decide +kernel
theorem dX3_goAround_38 : decode cX3_goAround 38 = .ok (.iload 9, 2) := by decide +kernel
theorem dX3_goAround_40 : decode cX3_goAround 40 = .ok (.iload 8, 2) := by decide +kernel
theorem dX3_goAround_42 : decode cX3_goAround 42 = .ok (.aload_n 0, 1) := by decide +kernel
theorem dX3_goAround_43 : decode cX3_goAround 43 = .ok (.getfield 12, 3) := by decide +kernel
theorem dX3_goAround_46 : decode cX3_goAround 46 = .ok (.getfield 116, 3) := by decide +kernel
theorem dX3_goAround_49 : decode cX3_goAround 49 = .ok (.iload_n 1, 1) := by decide +kernel
theorem dX3_goAround_50 : decode cX3_goAround 50 = .ok (.iaload, 1) := by decide +kernel
theorem dX3_goAround_51 : decode cX3_goAround 51 = .ok (.iadd, 1) := by decide +kernel
theorem dX3_goAround_52 : decode cX3_goAround 52 = .ok (.if_icmp .ge 152, 3) := by decide +kernel
theorem dX3_goAround_55 : decode cX3_goAround 55 = .ok (.aload_n 0, 1) := by decide +kernel
theorem dX3_goAround_56 : decode cX3_goAround 56 = .ok (.getfield 12, 3) := by decide +kernel
theorem dX3_goAround_59 : decode cX3_goAround 59 = .ok (.getfield 122, 3) := by decide +kernel
theorem dX3_goAround_62 : decode cX3_goAround 62 = .ok (.iload 9, 2) := by decide +kernel
theorem dX3_goAround_64 : decode cX3_goAround 64 = .ok (.iaload, 1) := by decide +kernel
theorem dX3_goAround_65 : decode cX3_goAround 65 = .ok (.istore 10, 2) := by decide +kernel
theorem dX3_goAround_67 : decode cX3_goAround 67 = .ok (.aload_n 0, 1) := by decide +kernel
theorem dX3_goAround_68 : decode cX3_goAround 68 = .ok (.getfield 92, 3) := by decide +kernel
theorem dX3_goAround_71 : decode cX3_goAround 71 = .ok (.iload 10, 2) := by decide +kernel
theorem dX3_goAround_73 : decode cX3_goAround 73 = .ok (.ishr, 1) := by decide +kernel
theorem dX3_goAround_74 : decode cX3_goAround 74 = .ok (.iconst 1, 1) := by decide +kernel
theorem dX3_goAround_75 : decode cX3_goAround 75 = .ok (.iand, 1) := by decide +kernel
theorem dX3_goAround_76 : decode cX3_goAround 76 = .ok (.ifCond .ne 122, 3) := by decide +kernel
theorem dX3_goAround_79 : decode cX3_goAround 79 = .ok (.lload 4, 2) := by decide +kernel
theorem dX3_goAround_81 : decode cX3_goAround 81 = .ok (.aload_n 0, 1) := by decide +kernel
theorem dX3_goAround_82 : decode cX3_goAround 82 = .ok (.iload 10, 2) := by decide +kernel
theorem dX3_goAround_84 : decode cX3_goAround 84 = .ok (.iload_n 3, 1) := by decide +kernel
theorem dX3_goAround_85 : decode cX3_goAround 85 = .ok (.invokevirtual 125, 3) := by decide +kernel
theorem dX3_goAround_88 : decode cX3_goAround 88 = .ok (.ladd, 1) := by decide +kernel
theorem dX3_goAround_89 : decode cX3_goAround 89 = .ok (.lstore 11, 2) := by decide +kernel
theorem dX3_goAround_91 : decode cX3_goAround 91 = .ok (.lload 6, 2) := by decide +kernel
theorem dX3_goAround_93 : decode cX3_goAround 93 = .ok (.aload_n 0, 1) := by decide +kernel
theorem dX3_goAround_94 : decode cX3_goAround 94 = .ok (.getfield 32, 3) := by decide +kernel
theorem dX3_goAround_97 : decode cX3_goAround 97 = .ok (.iload 10, 2) := by decide +kernel
theorem dX3_goAround_99 : decode cX3_goAround 99 = .ok (.laload, 1) := by decide +kernel
theorem dX3_goAround_100 : decode cX3_goAround 100 = .ok (.lsub, 1) := by decide +kernel
theorem dX3_goAround_101 : decode cX3_goAround 101 = .ok (.lstore 13, 2) := by decide +kernel
theorem dX3_goAround_103 : decode cX3_goAround 103 = .ok (.lload 11, 2) := by decide +kernel
theorem dX3_goAround_105 : decode cX3_goAround 105 = .ok (.lload 13, 2) := by decide +kernel
theorem dX3_goAround_107 : decode cX3_goAround 107 = .ok (.lsub, 1) := by decide +kernel
theorem dX3_goAround_108 : decode cX3_goAround 108 = .ok (.aload_n 0, 1) := by decide +kernel
theorem dX3_goAround_109 : decode cX3_goAround 109 = .ok (.getfield 139, 3) := by decide +kernel
theorem dX3_goAround_112 : decode cX3_goAround 112 = .ok (.ifCond .eq 9, 3) := by decide +kernel
theorem dX3_goAround_115 : decode cX3_goAround 115 = .ok (.ldc2_w 134, 3) := by decide +kernel
theorem dX3_goAround_118 : decode cX3_goAround 118 = .ok (.goto 7, 3) := by decide +kernel
theorem dX3_goAround_121 : decode cX3_goAround 121 = .ok (.aload_n 0, 1) := by decide +kernel
theorem dX3_goAround_122 : decode cX3_goAround 122 = .ok (.getfield 97, 3) := by decide +kernel
theorem dX3_goAround_125 : decode cX3_goAround 125 = .ok (.lcmp, 1) := by decide +kernel
theorem dX3_goAround_126 : decode cX3_goAround 126 = .ok (.ifCond .gt 72, 3) := by decide +kernel
theorem dX3_goAround_129 : decode cX3_goAround 129 = .ok (.aload_n 0, 1) := by decide +kernel
theorem dX3_goAround_130 : decode cX3_goAround 130 = .ok (.getfield 22, 3) := by decide +kernel
theorem dX3_goAround_133 : decode cX3_goAround 133 = .ok (.iload_n 2, 1) := by decide +kernel
theorem dX3_goAround_134 : decode cX3_goAround 134 = .ok (.iload 10, 2) := by decide +kernel
theorem dX3_goAround_136 : decode cX3_goAround 136 = .ok (.iastore, 1) := by decide +kernel
theorem dX3_goAround_137 : decode cX3_goAround 137 = .ok (.aload_n 0, 1) := by decide +kernel
theorem dX3_goAround_138 : decode cX3_goAround 138 = .ok (.dup, 1) := by decide +kernel
theorem dX3_goAround_139 : decode cX3_goAround 139 = .ok (.getfield 92, 3) := by decide +kernel
theorem dX3_goAround_142 : decode cX3_goAround 142 = .ok (.iconst 1, 1) := by decide +kernel
theorem dX3_goAround_143 : decode cX3_goAround 143 = .ok (.iload 10, 2) := by decide +kernel
theorem dX3_goAround_145 : decode cX3_goAround 145 = .ok (.ishl, 1) := by decide +kernel
theorem dX3_goAround_146 : decode cX3_goAround 146 = .ok (.ior, 1) := by decide +kernel
theorem dX3_goAround_147 : decode cX3_goAround 147 = .ok (.putfield 92, 3) := by decide +kernel
theorem dX3_goAround_150 : decode cX3_goAround 150 = .ok (.aload_n 0, 1) := by decide +kernel
theorem dX3_goAround_151 : decode cX3_goAround 151 = .ok (.aload_n 0, 1) := by decide +kernel
theorem dX3_goAround_152 : decode cX3_goAround 152 = .ok (.getfield 12, 3) := by decide +kernel
theorem dX3_goAround_155 : decode cX3_goAround 155 = .ok (.getfield 119, 3) := by decide +kernel
theorem dX3_goAround_158 : decode cX3_goAround 158 = .ok (.iload 9, 2) := by decide +kernel
theorem dX3_goAround_160 : decode cX3_goAround 160 = .ok (.iaload, 1) := by decide +kernel
theorem dX3_goAround_161 : decode cX3_goAround 161 = .ok (.iload_n 2, 1) := by decide +kernel
theorem dX3_goAround_162 : decode cX3_goAround 162 = .ok (.iconst 1, 1) := by decide +kernel
theorem dX3_goAround_163 : decode cX3_goAround 163 = .ok (.iadd, 1) := by decide +kernel
theorem dX3_goAround_164 : decode cX3_goAround 164 = .ok (.iload_n 3, 1) := by decide +kernel
theorem dX3_goAround_165 : decode cX3_goAround 165 = .ok (.aload_n 0, 1) := by decide +kernel
theorem dX3_goAround_166 : decode cX3_goAround 166 = .ok (.getfield 38, 3) := by decide +kernel
theorem dX3_goAround_169 : decode cX3_goAround 169 = .ok (.getfield 61, 3) := by decide +kernel
theorem dX3_goAround_172 : decode cX3_goAround 172 = .ok (.iload 10, 2) := by decide +kernel
theorem dX3_goAround_174 : decode cX3_goAround 174 = .ok (.iaload, 1) := by decide +kernel
theorem dX3_goAround_175 : decode cX3_goAround 175 = .ok (.iadd, 1) := by decide +kernel
theorem dX3_goAround_176 : decode cX3_goAround 176 = .ok (.lload 11, 2) := by decide +kernel
theorem dX3_goAround_178 : decode cX3_goAround 178 = .ok (.lload 13, 2) := by decide +kernel
theorem dX3_goAround_180 : decode cX3_goAround 180 = .ok (.invokestatic 143, 3) := by decide +kernel
theorem dX3_goAround_183 : decode cX3_goAround 183 = .ok (.aload_n 0, 1) := by decide +kernel
theorem dX3_goAround_184 : decode cX3_goAround 184 = .ok (.dup, 1) := by decide +kernel
theorem dX3_goAround_185 : decode cX3_goAround 185 = .ok (.getfield 92, 3) := by decide +kernel
theorem dX3_goAround_188 : decode cX3_goAround 188 = .ok (.iconst 1, 1) := by decide +kernel
theorem dX3_goAround_189 : decode cX3_goAround 189 = .ok (.iload 10, 2) := by decide +kernel
theorem dX3_goAround_191 : decode cX3_goAround 191 = .ok (.ishl, 1) := by decide +kernel
theorem dX3_goAround_192 : decode cX3_goAround 192 = .ok (.iconst (-1), 1) := by decide +kernel
theorem dX3_goAround_193 : decode cX3_goAround 193 = .ok (.ixor, 1) := by decide +kernel
theorem dX3_goAround_194 : decode cX3_goAround 194 = .ok (.iand, 1) := by decide +kernel
theorem dX3_goAround_195 : decode cX3_goAround 195 = .ok (.putfield 92, 3) := by decide +kernel
theorem dX3_goAround_198 : decode cX3_goAround 198 = .ok (.iinc 9 1, 3) := by decide +kernel
theorem dX3_goAround_201 : decode cX3_goAround 201 = .ok (.goto (-163), 3) := by decide +kernel
theorem dX3_goAround_204 : decode cX3_goAround 204 = .ok (.return_, 1) := by decide +kernel
noncomputable def k_X3_goAround_198 (F : Nat) (rc : AF) (h38 : AK) : AK := ak_iinc 9 1 h38
set_option maxRecDepth 20000 in
theorem sk_X3_goAround_198 (F : Nat) {rc : AF} {dr d2 : Nat} (hlt : d2 < 2 + dr) (hrc : MA yX3_goAround cX3_goAround 15 none d2 rc) {h38 : AK} (hh38 : Snd X0 RX3 cX3_goAround 15 (2 + dr) 38 h38) : Snd X0 RX3 cX3_goAround 15 (2 + dr) 198 (k_X3_goAround_198 F rc h38) := by
  unfold k_X3_goAround_198
  exact snd_iinc (pc := 198) (i := 9) (n := 1) (by decide) dX3_goAround_198 (snd_goto (pc := 201) (off := (-163)) (tgt := 38) (by decide) dX3_goAround_201 (hh38))
noncomputable def k_X3_goAround_125 (F : Nat) (rc : AF) (h38 : AK) : AK := ak_lcmp (ak_ifgt ((k_X3_goAround_198 F rc h38)) (ak_aload 0 (ak_getf 3 6 (ak_iload 2 (ak_iload 10 (ak_iast (ak_aload 0 (ak_dup (ak_getf 3 15 (ak_push (vI 1) (ak_iload 10 (ak_ishl (ak_ior (ak_putf 3 15 (ak_aload 0 (ak_aload 0 (ak_getf 3 0 (ak_getf 1 2 (ak_iload 9 (ak_iald (ak_iload 2 (ak_push (vI 1) (ak_iadd (ak_iload 3 (ak_aload 0 (ak_getf 3 10 (ak_getf 7 4 (ak_iload 10 (ak_iald (ak_iadd (ak_lload 11 (ak_lload 13 (ak_call 6 rc (ak_aload 0 (ak_dup (ak_getf 3 15 (ak_push (vI 1) (ak_iload 10 (ak_ishl (ak_push (vI (-1)) (ak_ixor (ak_iand (ak_putf 3 15 ((k_X3_goAround_198 F rc h38)))))))))))))))))))))))))))))))))))))))))))))
set_option maxRecDepth 20000 in
theorem sk_X3_goAround_125 (F : Nat) {rc : AF} {dr d2 : Nat} (hlt : d2 < 2 + dr) (hrc : MA yX3_goAround cX3_goAround 15 none d2 rc) {h38 : AK} (hh38 : Snd X0 RX3 cX3_goAround 15 (2 + dr) 38 h38) : Snd X0 RX3 cX3_goAround 15 (2 + dr) 125 (k_X3_goAround_125 F rc h38) := by
  unfold k_X3_goAround_125
  exact snd_lcmp (pc := 125) dX3_goAround_125 (snd_ifgt (pc := 126) (off := 72) (tgt := 198) (by decide) dX3_goAround_126 ((sk_X3_goAround_198 F hlt hrc hh38)) (snd_aload_n (pc := 129) (i := 0) dX3_goAround_129 (snd_getf (pc := 130) cls3 (f := 6) (by decide) wd_486 dX3_goAround_130 (snd_iload_n (pc := 133) (i := 2) dX3_goAround_133 (snd_iload (pc := 134) (i := 10) dX3_goAround_134 (snd_iast (pc := 136) dX3_goAround_136 (snd_aload_n (pc := 137) (i := 0) dX3_goAround_137 (snd_dup (pc := 138) dX3_goAround_138 (snd_getf (pc := 139) cls3 (f := 15) (by decide) wd_495 dX3_goAround_139 (snd_iconst (pc := 142) dX3_goAround_142 (snd_iload (pc := 143) (i := 10) dX3_goAround_143 (snd_ishl (pc := 145) dX3_goAround_145 (snd_ior (pc := 146) dX3_goAround_146 (snd_putf (pc := 147) cls3 (f := 15) (by decide) rfl rfl rfl wd_495 dX3_goAround_147 (snd_aload_n (pc := 150) (i := 0) dX3_goAround_150 (snd_aload_n (pc := 151) (i := 0) dX3_goAround_151 (snd_getf (pc := 152) cls3 (f := 0) (by decide) wd_471 dX3_goAround_152 (snd_getf (pc := 155) cls1 (f := 2) (by decide) wd_450 dX3_goAround_155 (snd_iload (pc := 158) (i := 9) dX3_goAround_158 (snd_iald (pc := 160) dX3_goAround_160 (snd_iload_n (pc := 161) (i := 2) dX3_goAround_161 (snd_iconst (pc := 162) dX3_goAround_162 (snd_iadd (pc := 163) dX3_goAround_163 (snd_iload_n (pc := 164) (i := 3) dX3_goAround_164 (snd_aload_n (pc := 165) (i := 0) dX3_goAround_165 (snd_getf (pc := 166) cls3 (f := 10) (by decide) wd_490 dX3_goAround_166 (snd_getf (pc := 169) cls7 (f := 4) (by decide) wd_178 dX3_goAround_169 (snd_iload (pc := 172) (i := 10) dX3_goAround_172 (snd_iald (pc := 174) dX3_goAround_174 (snd_iadd (pc := 175) dX3_goAround_175 (snd_lload (pc := 176) (i := 11) dX3_goAround_176 (snd_lload (pc := 178) (i := 13) dX3_goAround_178 (snd_callS (pc := 180) (n := 6) hrc hlt (by decide) wd_1082 wd_1080 wd_1081 wd_126 hy_X3_goAround dX3_goAround_180 (snd_aload_n (pc := 183) (i := 0) dX3_goAround_183 (snd_dup (pc := 184) dX3_goAround_184 (snd_getf (pc := 185) cls3 (f := 15) (by decide) wd_495 dX3_goAround_185 (snd_iconst (pc := 188) dX3_goAround_188 (snd_iload (pc := 189) (i := 10) dX3_goAround_189 (snd_ishl (pc := 191) dX3_goAround_191 (snd_iconst (pc := 192) dX3_goAround_192 (snd_ixor (pc := 193) dX3_goAround_193 (snd_iand (pc := 194) dX3_goAround_194 (snd_putf (pc := 195) cls3 (f := 15) (by decide) rfl rfl rfl wd_495 dX3_goAround_195 ((sk_X3_goAround_198 F hlt hrc hh38)))))))))))))))))))))))))))))))))))))))))))))
noncomputable def kb_X3_goAround_38 (F : Nat) (rc : AF) (self : AK) : AK := ak_iload 9 (ak_iload 8 (ak_aload 0 (ak_getf 3 0 (ak_getf 1 0 (ak_iload 1 (ak_iald (ak_iadd (ak_cmplt (ak_aload 0 (ak_getf 3 0 (ak_getf 1 1 (ak_iload 9 (ak_iald (ak_istore 10 (ak_aload 0 (ak_getf 3 15 (ak_iload 10 (ak_ishr (ak_push (vI 1) (ak_iand (ak_ifeq (ak_lload 4 (ak_aload 0 (ak_iload 10 (ak_iload 3 (ak_callv 3 2 (m_X3_costOf F) (ak_ladd (ak_lstore 11 (ak_lload 6 (ak_aload 0 (ak_getf 3 9 (ak_iload 10 (ak_lald (ak_lsub (ak_lstore 13 (ak_lload 11 (ak_lload 13 (ak_lsub (ak_aload 0 (ak_getf 3 17 (ak_ifeq (ak_aload 0 (ak_getf 3 4 ((k_X3_goAround_125 F rc self)))) (ak_push (vL (-1)) ((k_X3_goAround_125 F rc self))))))))))))))))))))))) ((k_X3_goAround_198 F rc self))))))))))))))) (ak_return)))))))))
noncomputable def k_X3_goAround_38 (F : Nat) (rc : AF) (n : Nat) : AK := Nat.rec (motive := fun _ => AK) ak_none (fun _ self => kb_X3_goAround_38 F rc self) n
set_option maxRecDepth 20000 in
theorem sk_X3_goAround_38 (F : Nat) {rc : AF} {dr d2 : Nat} (hlt : d2 < 2 + dr) (hrc : MA yX3_goAround cX3_goAround 15 none d2 rc) : ∀ n, Snd X0 RX3 cX3_goAround 15 (2 + dr) 38 (k_X3_goAround_38 F rc n) := by
  intro n
  induction n with
  | zero => exact snd_none
  | succ n ih =>
    show Snd X0 RX3 cX3_goAround 15 (2 + dr) 38 (kb_X3_goAround_38 F rc (k_X3_goAround_38 F rc n))
    unfold kb_X3_goAround_38
    exact snd_iload (pc := 38) (i := 9) dX3_goAround_38 (snd_iload (pc := 40) (i := 8) dX3_goAround_40 (snd_aload_n (pc := 42) (i := 0) dX3_goAround_42 (snd_getf (pc := 43) cls3 (f := 0) (by decide) wd_471 dX3_goAround_43 (snd_getf (pc := 46) cls1 (f := 0) (by decide) wd_446 dX3_goAround_46 (snd_iload_n (pc := 49) (i := 1) dX3_goAround_49 (snd_iald (pc := 50) dX3_goAround_50 (snd_iadd (pc := 51) dX3_goAround_51 (snd_icmpge (pc := 52) (off := 152) (tgt := 204) (by decide) dX3_goAround_52 (snd_return dX3_goAround_204) (snd_aload_n (pc := 55) (i := 0) dX3_goAround_55 (snd_getf (pc := 56) cls3 (f := 0) (by decide) wd_471 dX3_goAround_56 (snd_getf (pc := 59) cls1 (f := 1) (by decide) wd_448 dX3_goAround_59 (snd_iload (pc := 62) (i := 9) dX3_goAround_62 (snd_iald (pc := 64) dX3_goAround_64 (snd_istore (pc := 65) (i := 10) (by decide) dX3_goAround_65 (snd_aload_n (pc := 67) (i := 0) dX3_goAround_67 (snd_getf (pc := 68) cls3 (f := 15) (by decide) wd_495 dX3_goAround_68 (snd_iload (pc := 71) (i := 10) dX3_goAround_71 (snd_ishr (pc := 73) dX3_goAround_73 (snd_iconst (pc := 74) dX3_goAround_74 (snd_iand (pc := 75) dX3_goAround_75 (snd_ifne (pc := 76) (off := 122) (tgt := 198) (by decide) dX3_goAround_76 ((sk_X3_goAround_198 F hlt hrc ih)) (snd_lload (pc := 79) (i := 4) dX3_goAround_79 (snd_aload_n (pc := 81) (i := 0) dX3_goAround_81 (snd_iload (pc := 82) (i := 10) dX3_goAround_82 (snd_iload_n (pc := 84) (i := 3) dX3_goAround_84 (snd_callV (pc := 85) (n := 2) cls3 (s_X3_costOf F) (by omega) (by decide) wd_1048 wd_1045 wd_1047 wd_32 wd_126 hy_X3_costOf dX3_goAround_85 (snd_ladd (pc := 88) dX3_goAround_88 (snd_lstore (pc := 89) (i := 11) (by decide) dX3_goAround_89 (snd_lload (pc := 91) (i := 6) dX3_goAround_91 (snd_aload_n (pc := 93) (i := 0) dX3_goAround_93 (snd_getf (pc := 94) cls3 (f := 9) (by decide) wd_489 dX3_goAround_94 (snd_iload (pc := 97) (i := 10) dX3_goAround_97 (snd_lald (pc := 99) dX3_goAround_99 (snd_lsub (pc := 100) dX3_goAround_100 (snd_lstore (pc := 101) (i := 13) (by decide) dX3_goAround_101 (snd_lload (pc := 103) (i := 11) dX3_goAround_103 (snd_lload (pc := 105) (i := 13) dX3_goAround_105 (snd_lsub (pc := 107) dX3_goAround_107 (snd_aload_n (pc := 108) (i := 0) dX3_goAround_108 (snd_getf (pc := 109) cls3 (f := 17) (by decide) wd_497 dX3_goAround_109 (snd_ifeq (pc := 112) (off := 9) (tgt := 121) (by decide) dX3_goAround_112 (snd_aload_n (pc := 121) (i := 0) dX3_goAround_121 (snd_getf (pc := 122) cls3 (f := 4) (by decide) wd_482 dX3_goAround_122 ((sk_X3_goAround_125 F hlt hrc ih)))) (snd_ldc2 (pc := 115) (z := (-1)) (by decide) wd_1079 dX3_goAround_115 (snd_goto (pc := 118) (off := 7) (tgt := 125) (by decide) dX3_goAround_118 ((sk_X3_goAround_125 F hlt hrc ih)))))))))))))))))))))))))))))))))))))))))))))
noncomputable def k_X3_goAround_21 (F : Nat) (rc : AF) : AK := ak_iload 2 (ak_push (vI 6) (ak_cmplt (ak_iload 1 (ak_push (vI 14) (ak_imul (ak_istore 8 (ak_iload 8 (ak_istore 9 ((k_X3_goAround_38 F rc F)))))))) (ak_return)))
set_option maxRecDepth 20000 in
theorem sk_X3_goAround_21 (F : Nat) {rc : AF} {dr d2 : Nat} (hlt : d2 < 2 + dr) (hrc : MA yX3_goAround cX3_goAround 15 none d2 rc) : Snd X0 RX3 cX3_goAround 15 (2 + dr) 21 (k_X3_goAround_21 F rc) := by
  unfold k_X3_goAround_21
  exact snd_iload_n (pc := 21) (i := 2) dX3_goAround_21 (snd_bipush (pc := 22) (by decide) dX3_goAround_22 (snd_icmplt (pc := 24) (off := 4) (tgt := 28) (by decide) dX3_goAround_24 (snd_iload_n (pc := 28) (i := 1) dX3_goAround_28 (snd_bipush (pc := 29) (by decide) dX3_goAround_29 (snd_imul (pc := 31) dX3_goAround_31 (snd_istore (pc := 32) (i := 8) (by decide) dX3_goAround_32 (snd_iload (pc := 34) (i := 8) dX3_goAround_34 (snd_istore (pc := 36) (i := 9) (by decide) dX3_goAround_36 ((sk_X3_goAround_38 F hlt hrc F)))))))) (snd_return dX3_goAround_27)))
noncomputable def k_X3_goAround (F : Nat) (rc : AF) : AK := ak_iload 1 (ak_aload 0 (ak_getf 3 14 (ak_cmpeq (ak_iload 2 (ak_push (vI 2) (ak_cmplt ((k_X3_goAround_21 F rc)) (ak_aload 0 (ak_iload 2 (ak_iload 3 (ak_lload 4 (ak_callv 3 3 (m_X3_meetRound F) ((k_X3_goAround_21 F rc)))))))))) ((k_X3_goAround_21 F rc)))))
noncomputable def m_X3_goAround (F : Nat) : Nat → AF
  | 0 => fun _ _ => none
  | n + 1 => mkF 0 15 (k_X3_goAround F (m_X3_goAround F n))
set_option maxRecDepth 20000 in
theorem s_X3_goAround (F : Nat) : ∀ n, MA yX3_goAround cX3_goAround 15 none (2 + n) (m_X3_goAround F n)
  | 0 => fun l D cA ad as w o sz hi hf => by cases hf
  | n + 1 => met_of (Or.inl ⟨rfl, rfl⟩) (by decide) (by
    have hlt : 2 + n < 2 + (n + 1) := by omega
    have hrc := s_X3_goAround F n
    unfold k_X3_goAround
    exact snd_iload_n (pc := 0) (i := 1) dX3_goAround_0 (snd_aload_n (pc := 1) (i := 0) dX3_goAround_1 (snd_getf (pc := 2) cls3 (f := 14) (by decide) wd_494 dX3_goAround_2 (snd_icmpne (pc := 5) (off := 16) (tgt := 21) (by decide) dX3_goAround_5 ((sk_X3_goAround_21 F hlt hrc)) (snd_iload_n (pc := 8) (i := 2) dX3_goAround_8 (snd_iconst (pc := 9) dX3_goAround_9 (snd_icmplt (pc := 10) (off := 11) (tgt := 21) (by decide) dX3_goAround_10 ((sk_X3_goAround_21 F hlt hrc)) (snd_aload_n (pc := 13) (i := 0) dX3_goAround_13 (snd_iload_n (pc := 14) (i := 2) dX3_goAround_14 (snd_iload_n (pc := 15) (i := 3) dX3_goAround_15 (snd_lload (pc := 16) (i := 4) dX3_goAround_16 (snd_callV (pc := 18) (n := 3) cls3 (s_X3_meetRound F) (by omega) (by decide) wd_1086 wd_1083 wd_1085 wd_34 wd_126 hy_X3_meetRound dX3_goAround_18 ((sk_X3_goAround_21 F hlt hrc))))))))))))))

/-! LastWalker$Hunt.seekRounds(IIZ)V -/
theorem dX3_seekRounds_0 : decode cX3_seekRounds 0 = .ok (.aload_n 0, 1) := by decide +kernel
theorem dX3_seekRounds_1 : decode cX3_seekRounds 1 = .ok (.iconst 0, 1) := by decide +kernel
theorem dX3_seekRounds_2 : decode cX3_seekRounds 2 = .ok (.putfield 52, 3) := by decide +kernel
theorem dX3_seekRounds_5 : decode cX3_seekRounds 5 = .ok (.aload_n 0, 1) := by decide +kernel
theorem dX3_seekRounds_6 : decode cX3_seekRounds 6 = .ok (.ldc2_w 134, 3) := by decide +kernel
theorem dX3_seekRounds_9 : decode cX3_seekRounds 9 = .ok (.putfield 97, 3) := by decide +kernel
theorem dX3_seekRounds_12 : decode cX3_seekRounds 12 = .ok (.aload_n 0, 1) := by decide +kernel
theorem dX3_seekRounds_13 : decode cX3_seekRounds 13 = .ok (.iconst 0, 1) := by decide +kernel
theorem dX3_seekRounds_14 : decode cX3_seekRounds 14 = .ok (.putfield 136, 3) := by decide +kernel
theorem dX3_seekRounds_17 : decode cX3_seekRounds 17 = .ok (.aload_n 0, 1) := by decide +kernel
theorem dX3_seekRounds_18 : decode cX3_seekRounds 18 = .ok (.iload_n 2, 1) := by decide +kernel
theorem dX3_seekRounds_19 : decode cX3_seekRounds 19 = .ok (.putfield 89, 3) := by decide +kernel
theorem dX3_seekRounds_22 : decode cX3_seekRounds 22 = .ok (.aload_n 0, 1) := by decide +kernel
theorem dX3_seekRounds_23 : decode cX3_seekRounds 23 = .ok (.iconst 0, 1) := by decide +kernel
theorem dX3_seekRounds_24 : decode cX3_seekRounds 24 = .ok (.putfield 92, 3) := by decide +kernel
theorem dX3_seekRounds_27 : decode cX3_seekRounds 27 = .ok (.aload_n 0, 1) := by decide +kernel
theorem dX3_seekRounds_28 : decode cX3_seekRounds 28 = .ok (.iload_n 3, 1) := by decide +kernel
theorem dX3_seekRounds_29 : decode cX3_seekRounds 29 = .ok (.putfield 139, 3) := by decide +kernel
theorem dX3_seekRounds_32 : decode cX3_seekRounds 32 = .ok (.aload_n 0, 1) := by decide +kernel
theorem dX3_seekRounds_33 : decode cX3_seekRounds 33 = .ok (.iload_n 2, 1) := by decide +kernel
theorem dX3_seekRounds_34 : decode cX3_seekRounds 34 = .ok (.iconst 0, 1) := by decide +kernel
theorem dX3_seekRounds_35 : decode cX3_seekRounds 35 = .ok (.iload_n 1, 1) := by decide +kernel
theorem dX3_seekRounds_36 : decode cX3_seekRounds 36 = .ok (.lconst 0, 1) := by decide +kernel
theorem dX3_seekRounds_37 : decode cX3_seekRounds 37 = .ok (.aload_n 0, 1) := by decide +kernel
theorem dX3_seekRounds_38 : decode cX3_seekRounds 38 = .ok (.iload_n 1, 1) := by decide +kernel
theorem dX3_seekRounds_39 : decode cX3_seekRounds 39 = .ok (.invokevirtual 104, 3) := by decide +kernel
theorem dX3_seekRounds_42 : decode cX3_seekRounds 42 = .ok (.invokestatic 143, 3) := by decide +kernel
theorem dX3_seekRounds_45 : decode cX3_seekRounds 45 = .ok (.return_, 1) := by decide +kernel
noncomputable def k_X3_seekRounds (F : Nat) : AK := ak_aload 0 (ak_push (vI 0) (ak_putf 3 2 (ak_aload 0 (ak_push (vL (-1)) (ak_putl 3 4 (ak_aload 0 (ak_push (vI 0) (ak_putf 3 5 (ak_aload 0 (ak_iload 2 (ak_putf 3 14 (ak_aload 0 (ak_push (vI 0) (ak_putf 3 15 (ak_aload 0 (ak_iload 3 (ak_putz 3 17 (ak_aload 0 (ak_iload 2 (ak_push (vI 0) (ak_iload 1 (ak_push (vL 0) (ak_aload 0 (ak_iload 1 (ak_callv 3 1 (m_X3_weigh F) (ak_call 6 (m_X3_goAround F 12) ak_return))))))))))))))))))))))))))
noncomputable def m_X3_seekRounds (F : Nat) : AF := mkF 0 4 (k_X3_seekRounds F)
set_option maxRecDepth 20000 in
theorem s_X3_seekRounds (F : Nat) : MA yX3_seekRounds cX3_seekRounds 4 none 16 (m_X3_seekRounds F) := met_of (Or.inl ⟨rfl, rfl⟩) (by decide) (by
  unfold k_X3_seekRounds
  exact snd_aload_n (pc := 0) (i := 0) dX3_seekRounds_0 (snd_iconst (pc := 1) dX3_seekRounds_1 (snd_putf (pc := 2) cls3 (f := 2) (by decide) rfl rfl rfl wd_476 dX3_seekRounds_2 (snd_aload_n (pc := 5) (i := 0) dX3_seekRounds_5 (snd_ldc2 (pc := 6) (z := (-1)) (by decide) wd_1079 dX3_seekRounds_6 (snd_putl (pc := 9) cls3 (f := 4) (by decide) rfl rfl rfl wd_482 dX3_seekRounds_9 (snd_aload_n (pc := 12) (i := 0) dX3_seekRounds_12 (snd_iconst (pc := 13) dX3_seekRounds_13 (snd_putf (pc := 14) cls3 (f := 5) (by decide) rfl rfl rfl wd_484 dX3_seekRounds_14 (snd_aload_n (pc := 17) (i := 0) dX3_seekRounds_17 (snd_iload_n (pc := 18) (i := 2) dX3_seekRounds_18 (snd_putf (pc := 19) cls3 (f := 14) (by decide) rfl rfl rfl wd_494 dX3_seekRounds_19 (snd_aload_n (pc := 22) (i := 0) dX3_seekRounds_22 (snd_iconst (pc := 23) dX3_seekRounds_23 (snd_putf (pc := 24) cls3 (f := 15) (by decide) rfl rfl rfl wd_495 dX3_seekRounds_24 (snd_aload_n (pc := 27) (i := 0) dX3_seekRounds_27 (snd_iload_n (pc := 28) (i := 3) dX3_seekRounds_28 (snd_putz (pc := 29) cls3 (f := 17) (by decide) rfl rfl rfl wd_497 dX3_seekRounds_29 (snd_aload_n (pc := 32) (i := 0) dX3_seekRounds_32 (snd_iload_n (pc := 33) (i := 2) dX3_seekRounds_33 (snd_iconst (pc := 34) dX3_seekRounds_34 (snd_iload_n (pc := 35) (i := 1) dX3_seekRounds_35 (snd_lconst (pc := 36) (by decide) dX3_seekRounds_36 (snd_aload_n (pc := 37) (i := 0) dX3_seekRounds_37 (snd_iload_n (pc := 38) (i := 1) dX3_seekRounds_38 (snd_callV (pc := 39) (n := 1) cls3 (s_X3_weigh F) (by decide) (by decide) wd_1021 wd_1018 wd_1020 wd_30 wd_126 hy_X3_weigh dX3_seekRounds_39 (snd_callS (pc := 42) (n := 6) (s_X3_goAround F 12) (by decide) (by decide) wd_1082 wd_1080 wd_1081 wd_126 hy_X3_goAround dX3_seekRounds_42 (snd_return dX3_seekRounds_45))))))))))))))))))))))))))))

/-! LastWalker$Hunt.tollOfBest()I -/
theorem dX3_tollOfBest_0 : decode cX3_tollOfBest 0 = .ok (.iconst 0, 1) := by decide +kernel
theorem dX3_tollOfBest_1 : decode cX3_tollOfBest 1 = .ok (.istore_n 1, 1) := by decide +kernel
theorem dX3_tollOfBest_2 : decode cX3_tollOfBest 2 = .ok (.iconst 0, 1) := by decide +kernel
theorem dX3_tollOfBest_3 : decode cX3_tollOfBest 3 = .ok (.istore_n 2, 1) := by decide +kernel
theorem dX3_tollOfBest_4 : decode cX3_tollOfBest 4 = .ok (.iload_n 2, 1) := by decide +kernel
theorem dX3_tollOfBest_5 : decode cX3_tollOfBest 5 = .ok (.aload_n 0, 1) := by decide +kernel
theorem dX3_tollOfBest_6 : decode cX3_tollOfBest 6 = .ok (.getfield 52, 3) := by decide +kernel
theorem dX3_tollOfBest_9 : decode cX3_tollOfBest 9 = .ok (.if_icmp .ge 22, 3) := by decide +kernel
theorem dX3_tollOfBest_12 : decode cX3_tollOfBest 12 = .ok (.iload_n 1, 1) := by decide +kernel
theorem dX3_tollOfBest_13 : decode cX3_tollOfBest 13 = .ok (.aload_n 0, 1) := by decide +kernel
theorem dX3_tollOfBest_14 : decode cX3_tollOfBest 14 = .ok (.aload_n 0, 1) := by decide +kernel
theorem dX3_tollOfBest_15 : decode cX3_tollOfBest 15 = .ok (.getfield 18, 3) := by decide +kernel
theorem dX3_tollOfBest_18 : decode cX3_tollOfBest 18 = .ok (.iload_n 2, 1) := by decide +kernel
theorem dX3_tollOfBest_19 : decode cX3_tollOfBest 19 = .ok (.iaload, 1) := by decide +kernel
theorem dX3_tollOfBest_20 : decode cX3_tollOfBest 20 = .ok (.invokevirtual 69, 3) := by decide +kernel
theorem dX3_tollOfBest_23 : decode cX3_tollOfBest 23 = .ok (.iadd, 1) := by decide +kernel
theorem dX3_tollOfBest_24 : decode cX3_tollOfBest 24 = .ok (.istore_n 1, 1) := by decide +kernel
theorem dX3_tollOfBest_25 : decode cX3_tollOfBest 25 = .ok (.iinc 2 1, 3) := by decide +kernel
theorem dX3_tollOfBest_28 : decode cX3_tollOfBest 28 = .ok (.goto (-24), 3) := by decide +kernel
theorem dX3_tollOfBest_31 : decode cX3_tollOfBest 31 = .ok (.iload_n 1, 1) := by decide +kernel
theorem dX3_tollOfBest_32 : decode cX3_tollOfBest 32 = .ok (.ireturn, 1) := by decide +kernel
noncomputable def kb_X3_tollOfBest_4 (F : Nat) (self : AK) : AK := ak_iload 2 (ak_aload 0 (ak_getf 3 2 (ak_cmplt (ak_iload 1 (ak_aload 0 (ak_aload 0 (ak_getf 3 1 (ak_iload 2 (ak_iald (ak_callv 3 1 (m_X3_toll F) (ak_iadd (ak_istore 1 (ak_iinc 2 1 self)))))))))) (ak_iload 1 ak_ireturn))))
noncomputable def k_X3_tollOfBest_4 (F : Nat) (n : Nat) : AK := Nat.rec (motive := fun _ => AK) ak_none (fun _ self => kb_X3_tollOfBest_4 F self) n
set_option maxRecDepth 20000 in
theorem sk_X3_tollOfBest_4 (F : Nat) : ∀ n, Snd X0 RX3 cX3_tollOfBest 3 1 4 (k_X3_tollOfBest_4 F n) := by
  intro n
  induction n with
  | zero => exact snd_none
  | succ n ih =>
    show Snd X0 RX3 cX3_tollOfBest 3 1 4 (kb_X3_tollOfBest_4 F (k_X3_tollOfBest_4 F n))
    unfold kb_X3_tollOfBest_4
    exact snd_iload_n (pc := 4) (i := 2) dX3_tollOfBest_4 (snd_aload_n (pc := 5) (i := 0) dX3_tollOfBest_5 (snd_getf (pc := 6) cls3 (f := 2) (by decide) wd_476 dX3_tollOfBest_6 (snd_icmpge (pc := 9) (off := 22) (tgt := 31) (by decide) dX3_tollOfBest_9 (snd_iload_n (pc := 31) (i := 1) dX3_tollOfBest_31 (snd_ireturn dX3_tollOfBest_32)) (snd_iload_n (pc := 12) (i := 1) dX3_tollOfBest_12 (snd_aload_n (pc := 13) (i := 0) dX3_tollOfBest_13 (snd_aload_n (pc := 14) (i := 0) dX3_tollOfBest_14 (snd_getf (pc := 15) cls3 (f := 1) (by decide) wd_474 dX3_tollOfBest_15 (snd_iload_n (pc := 18) (i := 2) dX3_tollOfBest_18 (snd_iald (pc := 19) dX3_tollOfBest_19 (snd_callV (pc := 20) (n := 1) cls3 (s_X3_toll F) (by decide) (by decide) wd_1025 wd_1022 wd_1023 wd_1024 wd_126 hy_X3_toll dX3_tollOfBest_20 (snd_iadd (pc := 23) dX3_tollOfBest_23 (snd_istore_n (pc := 24) (i := 1) (by decide) dX3_tollOfBest_24 (snd_iinc (pc := 25) (i := 2) (n := 1) (by decide) dX3_tollOfBest_25 (snd_goto (pc := 28) (off := (-24)) (tgt := 4) (by decide) dX3_tollOfBest_28 (ih)))))))))))))))
noncomputable def k_X3_tollOfBest (F : Nat) : AK := ak_push (vI 0) (ak_istore 1 (ak_push (vI 0) (ak_istore 2 ((k_X3_tollOfBest_4 F F)))))
noncomputable def m_X3_tollOfBest (F : Nat) : AF := mkF 1 3 (k_X3_tollOfBest F)
set_option maxRecDepth 20000 in
theorem s_X3_tollOfBest (F : Nat) : MA yX3_tollOfBest cX3_tollOfBest 3 (some .int) 1 (m_X3_tollOfBest F) := met_of (Or.inr (Or.inl ⟨rfl, rfl⟩)) (by decide) (by
  unfold k_X3_tollOfBest
  exact snd_iconst (pc := 0) dX3_tollOfBest_0 (snd_istore_n (pc := 1) (i := 1) (by decide) dX3_tollOfBest_1 (snd_iconst (pc := 2) dX3_tollOfBest_2 (snd_istore_n (pc := 3) (i := 2) (by decide) dX3_tollOfBest_3 ((sk_X3_tollOfBest_4 F F))))))

/-! LastWalker$Hunt.tellRow(II)I -/
theorem dX3_tellRow_0 : decode cX3_tellRow 0 = .ok (.iload_n 1, 1) := by decide +kernel
theorem dX3_tellRow_1 : decode cX3_tellRow 1 = .ok (.ifCond .ne 8, 3) := by decide +kernel
theorem dX3_tellRow_4 : decode cX3_tellRow 4 = .ok (.aload_n 0, 1) := by decide +kernel
theorem dX3_tellRow_5 : decode cX3_tellRow 5 = .ok (.getfield 52, 3) := by decide +kernel
theorem dX3_tellRow_8 : decode cX3_tellRow 8 = .ok (.ireturn, 1) := by decide +kernel
theorem dX3_tellRow_9 : decode cX3_tellRow 9 = .ok (.iload_n 1, 1) := by decide +kernel
theorem dX3_tellRow_10 : decode cX3_tellRow 10 = .ok (.bipush 10, 2) := by decide +kernel
theorem dX3_tellRow_12 : decode cX3_tellRow 12 = .ok (.if_icmp .lt 26, 3) := by decide +kernel
theorem dX3_tellRow_15 : decode cX3_tellRow 15 = .ok (.iload_n 1, 1) := by decide +kernel
theorem dX3_tellRow_16 : decode cX3_tellRow 16 = .ok (.bipush 10, 2) := by decide +kernel
theorem dX3_tellRow_18 : decode cX3_tellRow 18 = .ok (.aload_n 0, 1) := by decide +kernel
theorem dX3_tellRow_19 : decode cX3_tellRow 19 = .ok (.getfield 52, 3) := by decide +kernel
theorem dX3_tellRow_22 : decode cX3_tellRow 22 = .ok (.iadd, 1) := by decide +kernel
theorem dX3_tellRow_23 : decode cX3_tellRow 23 = .ok (.if_icmp .ge 15, 3) := by decide +kernel
theorem dX3_tellRow_26 : decode cX3_tellRow 26 = .ok (.aload_n 0, 1) := by decide +kernel
theorem dX3_tellRow_27 : decode cX3_tellRow 27 = .ok (.getfield 18, 3) := by decide +kernel
theorem dX3_tellRow_30 : decode cX3_tellRow 30 = .ok (.iload_n 1, 1) := by decide +kernel
theorem dX3_tellRow_31 : decode cX3_tellRow 31 = .ok (.bipush 10, 2) := by decide +kernel
theorem dX3_tellRow_33 : decode cX3_tellRow 33 = .ok (.isub, 1) := by decide +kernel
theorem dX3_tellRow_34 : decode cX3_tellRow 34 = .ok (.iaload, 1) := by decide +kernel
theorem dX3_tellRow_35 : decode cX3_tellRow 35 = .ok (.goto 4, 3) := by decide +kernel
theorem dX3_tellRow_38 : decode cX3_tellRow 38 = .ok (.iload_n 2, 1) := by decide +kernel
theorem dX3_tellRow_39 : decode cX3_tellRow 39 = .ok (.ireturn, 1) := by decide +kernel
noncomputable def k_X3_tellRow (F : Nat) : AK := ak_iload 1 (ak_ifeq (ak_aload 0 (ak_getf 3 2 ak_ireturn)) (ak_iload 1 (ak_push (vI 10) (ak_cmplt (ak_iload 2 ak_ireturn) (ak_iload 1 (ak_push (vI 10) (ak_aload 0 (ak_getf 3 2 (ak_iadd (ak_cmplt (ak_aload 0 (ak_getf 3 1 (ak_iload 1 (ak_push (vI 10) (ak_isub (ak_iald ak_ireturn)))))) (ak_iload 2 ak_ireturn)))))))))))
noncomputable def m_X3_tellRow (F : Nat) : AF := mkF 1 3 (k_X3_tellRow F)
set_option maxRecDepth 20000 in
theorem s_X3_tellRow (F : Nat) : MA yX3_tellRow cX3_tellRow 3 (some .int) 0 (m_X3_tellRow F) := met_of (Or.inr (Or.inl ⟨rfl, rfl⟩)) (by decide) (by
  unfold k_X3_tellRow
  exact snd_iload_n (pc := 0) (i := 1) dX3_tellRow_0 (snd_ifne (pc := 1) (off := 8) (tgt := 9) (by decide) dX3_tellRow_1 (snd_iload_n (pc := 9) (i := 1) dX3_tellRow_9 (snd_bipush (pc := 10) (by decide) dX3_tellRow_10 (snd_icmplt (pc := 12) (off := 26) (tgt := 38) (by decide) dX3_tellRow_12 (snd_iload_n (pc := 38) (i := 2) dX3_tellRow_38 (snd_ireturn dX3_tellRow_39)) (snd_iload_n (pc := 15) (i := 1) dX3_tellRow_15 (snd_bipush (pc := 16) (by decide) dX3_tellRow_16 (snd_aload_n (pc := 18) (i := 0) dX3_tellRow_18 (snd_getf (pc := 19) cls3 (f := 2) (by decide) wd_476 dX3_tellRow_19 (snd_iadd (pc := 22) dX3_tellRow_22 (snd_icmpge (pc := 23) (off := 15) (tgt := 38) (by decide) dX3_tellRow_23 (snd_iload_n (pc := 38) (i := 2) dX3_tellRow_38 (snd_ireturn dX3_tellRow_39)) (snd_aload_n (pc := 26) (i := 0) dX3_tellRow_26 (snd_getf (pc := 27) cls3 (f := 1) (by decide) wd_474 dX3_tellRow_27 (snd_iload_n (pc := 30) (i := 1) dX3_tellRow_30 (snd_bipush (pc := 31) (by decide) dX3_tellRow_31 (snd_isub (pc := 33) dX3_tellRow_33 (snd_iald (pc := 34) dX3_tellRow_34 (snd_goto (pc := 35) (off := 4) (tgt := 39) (by decide) dX3_tellRow_35 (snd_ireturn dX3_tellRow_39))))))))))))))))) (snd_aload_n (pc := 4) (i := 0) dX3_tellRow_4 (snd_getf (pc := 5) cls3 (f := 2) (by decide) wd_476 dX3_tellRow_5 (snd_ireturn dX3_tellRow_8)))))

/-! LastWalker$Town.ownerBehind(III)I -/
theorem dX7_ownerBehind_0 : decode cX7_ownerBehind 0 = .ok (.aload_n 0, 1) := by decide +kernel
theorem dX7_ownerBehind_1 : decode cX7_ownerBehind 1 = .ok (.getfield 64, 3) := by decide +kernel
theorem dX7_ownerBehind_4 : decode cX7_ownerBehind 4 = .ok (.tableswitch 55 0 2 #[28, 30, 41], 28) := by decide +kernel
theorem dX7_ownerBehind_32 : decode cX7_ownerBehind 32 = .ok (.iload_n 2, 1) := by decide +kernel
theorem dX7_ownerBehind_33 : decode cX7_ownerBehind 33 = .ok (.ireturn, 1) := by decide +kernel
theorem dX7_ownerBehind_34 : decode cX7_ownerBehind 34 = .ok (.iload_n 1, 1) := by decide +kernel
theorem dX7_ownerBehind_35 : decode cX7_ownerBehind 35 = .ok (.iconst (-1), 1) := by decide +kernel
theorem dX7_ownerBehind_36 : decode cX7_ownerBehind 36 = .ok (.if_icmp .ne 7, 3) := by decide +kernel
theorem dX7_ownerBehind_39 : decode cX7_ownerBehind 39 = .ok (.iload_n 2, 1) := by decide +kernel
theorem dX7_ownerBehind_40 : decode cX7_ownerBehind 40 = .ok (.goto 4, 3) := by decide +kernel
theorem dX7_ownerBehind_43 : decode cX7_ownerBehind 43 = .ok (.iload_n 1, 1) := by decide +kernel
theorem dX7_ownerBehind_44 : decode cX7_ownerBehind 44 = .ok (.ireturn, 1) := by decide +kernel
theorem dX7_ownerBehind_45 : decode cX7_ownerBehind 45 = .ok (.iload_n 3, 1) := by decide +kernel
theorem dX7_ownerBehind_46 : decode cX7_ownerBehind 46 = .ok (.aload_n 0, 1) := by decide +kernel
theorem dX7_ownerBehind_47 : decode cX7_ownerBehind 47 = .ok (.getfield 67, 3) := by decide +kernel
theorem dX7_ownerBehind_50 : decode cX7_ownerBehind 50 = .ok (.if_icmp .ge 7, 3) := by decide +kernel
theorem dX7_ownerBehind_53 : decode cX7_ownerBehind 53 = .ok (.iload_n 2, 1) := by decide +kernel
theorem dX7_ownerBehind_54 : decode cX7_ownerBehind 54 = .ok (.goto 4, 3) := by decide +kernel
theorem dX7_ownerBehind_57 : decode cX7_ownerBehind 57 = .ok (.iload_n 1, 1) := by decide +kernel
theorem dX7_ownerBehind_58 : decode cX7_ownerBehind 58 = .ok (.ireturn, 1) := by decide +kernel
theorem dX7_ownerBehind_59 : decode cX7_ownerBehind 59 = .ok (.iconst (-1), 1) := by decide +kernel
theorem dX7_ownerBehind_60 : decode cX7_ownerBehind 60 = .ok (.ireturn, 1) := by decide +kernel
noncomputable def k_X7_ownerBehind (F : Nat) : AK := ak_aload 0 (ak_getf 7 17 (ak_switch 0 [ak_iload 2 ak_ireturn, ak_iload 1 (ak_push (vI (-1)) (ak_cmpeq (ak_iload 2 ak_ireturn) (ak_iload 1 ak_ireturn))), ak_iload 3 (ak_aload 0 (ak_getf 7 18 (ak_cmplt (ak_iload 2 ak_ireturn) (ak_iload 1 ak_ireturn))))] (ak_push (vI (-1)) ak_ireturn)))
noncomputable def m_X7_ownerBehind (F : Nat) : AF := mkF 1 4 (k_X7_ownerBehind F)
set_option maxRecDepth 20000 in
theorem s_X7_ownerBehind (F : Nat) : MA yX7_ownerBehind cX7_ownerBehind 4 (some .int) 0 (m_X7_ownerBehind F) := met_of (Or.inr (Or.inl ⟨rfl, rfl⟩)) (by decide) (by
  unfold k_X7_ownerBehind
  exact snd_aload_n (pc := 0) (i := 0) dX7_ownerBehind_0 (snd_getf (pc := 1) cls7 (f := 17) (by decide) wd_233 dX7_ownerBehind_1 (snd_switchL (pc := 4) (ol := [28, 30, 41]) (tgd := 59) dX7_ownerBehind_4 rfl (by decide) (snd_iconst (pc := 59) dX7_ownerBehind_59 (snd_ireturn dX7_ownerBehind_60)) (sw_cons (o := 28) (tgt := 32) (by decide) (snd_iload_n (pc := 32) (i := 2) dX7_ownerBehind_32 (snd_ireturn dX7_ownerBehind_33)) (sw_cons (o := 30) (tgt := 34) (by decide) (snd_iload_n (pc := 34) (i := 1) dX7_ownerBehind_34 (snd_iconst (pc := 35) dX7_ownerBehind_35 (snd_icmpne (pc := 36) (off := 7) (tgt := 43) (by decide) dX7_ownerBehind_36 (snd_iload_n (pc := 43) (i := 1) dX7_ownerBehind_43 (snd_ireturn dX7_ownerBehind_44)) (snd_iload_n (pc := 39) (i := 2) dX7_ownerBehind_39 (snd_goto (pc := 40) (off := 4) (tgt := 44) (by decide) dX7_ownerBehind_40 (snd_ireturn dX7_ownerBehind_44)))))) (sw_cons (o := 41) (tgt := 45) (by decide) (snd_iload_n (pc := 45) (i := 3) dX7_ownerBehind_45 (snd_aload_n (pc := 46) (i := 0) dX7_ownerBehind_46 (snd_getf (pc := 47) cls7 (f := 18) (by decide) wd_236 dX7_ownerBehind_47 (snd_icmpge (pc := 50) (off := 7) (tgt := 57) (by decide) dX7_ownerBehind_50 (snd_iload_n (pc := 57) (i := 1) dX7_ownerBehind_57 (snd_ireturn dX7_ownerBehind_58)) (snd_iload_n (pc := 53) (i := 2) dX7_ownerBehind_53 (snd_goto (pc := 54) (off := 4) (tgt := 58) (by decide) dX7_ownerBehind_54 (snd_ireturn dX7_ownerBehind_58))))))) (sw_nil)))))))

/-! LastWalker$Hunt.takeRoadsOfBest(I)V -/
theorem dX3_takeRoadsOfBest_0 : decode cX3_takeRoadsOfBest 0 = .ok (.iload_n 1, 1) := by decide +kernel
theorem dX3_takeRoadsOfBest_1 : decode cX3_takeRoadsOfBest 1 = .ok (.istore_n 2, 1) := by decide +kernel
theorem dX3_takeRoadsOfBest_2 : decode cX3_takeRoadsOfBest 2 = .ok (.iconst 0, 1) := by decide +kernel
theorem dX3_takeRoadsOfBest_3 : decode cX3_takeRoadsOfBest 3 = .ok (.istore_n 3, 1) := by decide +kernel
theorem dX3_takeRoadsOfBest_4 : decode cX3_takeRoadsOfBest 4 = .ok (.iload_n 3, 1) := by decide +kernel
theorem dX3_takeRoadsOfBest_5 : decode cX3_takeRoadsOfBest 5 = .ok (.aload_n 0, 1) := by decide +kernel
theorem dX3_takeRoadsOfBest_6 : decode cX3_takeRoadsOfBest 6 = .ok (.getfield 52, 3) := by decide +kernel
theorem dX3_takeRoadsOfBest_9 : decode cX3_takeRoadsOfBest 9 = .ok (.if_icmp .ge 56, 3) := by decide +kernel
theorem dX3_takeRoadsOfBest_12 : decode cX3_takeRoadsOfBest 12 = .ok (.aload_n 0, 1) := by decide +kernel
theorem dX3_takeRoadsOfBest_13 : decode cX3_takeRoadsOfBest 13 = .ok (.getfield 18, 3) := by decide +kernel
theorem dX3_takeRoadsOfBest_16 : decode cX3_takeRoadsOfBest 16 = .ok (.iload_n 3, 1) := by decide +kernel
theorem dX3_takeRoadsOfBest_17 : decode cX3_takeRoadsOfBest 17 = .ok (.iaload, 1) := by decide +kernel
theorem dX3_takeRoadsOfBest_18 : decode cX3_takeRoadsOfBest 18 = .ok (.istore 4, 2) := by decide +kernel
theorem dX3_takeRoadsOfBest_20 : decode cX3_takeRoadsOfBest 20 = .ok (.aload_n 0, 1) := by decide +kernel
theorem dX3_takeRoadsOfBest_21 : decode cX3_takeRoadsOfBest 21 = .ok (.getfield 42, 3) := by decide +kernel
theorem dX3_takeRoadsOfBest_24 : decode cX3_takeRoadsOfBest 24 = .ok (.iload 4, 2) := by decide +kernel
theorem dX3_takeRoadsOfBest_26 : decode cX3_takeRoadsOfBest 26 = .ok (.aload_n 0, 1) := by decide +kernel
theorem dX3_takeRoadsOfBest_27 : decode cX3_takeRoadsOfBest 27 = .ok (.getfield 38, 3) := by decide +kernel
theorem dX3_takeRoadsOfBest_30 : decode cX3_takeRoadsOfBest 30 = .ok (.aload_n 0, 1) := by decide +kernel
theorem dX3_takeRoadsOfBest_31 : decode cX3_takeRoadsOfBest 31 = .ok (.getfield 42, 3) := by decide +kernel
theorem dX3_takeRoadsOfBest_34 : decode cX3_takeRoadsOfBest 34 = .ok (.iload 4, 2) := by decide +kernel
theorem dX3_takeRoadsOfBest_36 : decode cX3_takeRoadsOfBest 36 = .ok (.iaload, 1) := by decide +kernel
theorem dX3_takeRoadsOfBest_37 : decode cX3_takeRoadsOfBest 37 = .ok (.aload_n 0, 1) := by decide +kernel
theorem dX3_takeRoadsOfBest_38 : decode cX3_takeRoadsOfBest 38 = .ok (.getfield 45, 3) := by decide +kernel
theorem dX3_takeRoadsOfBest_41 : decode cX3_takeRoadsOfBest 41 = .ok (.iload_n 2, 1) := by decide +kernel
theorem dX3_takeRoadsOfBest_42 : decode cX3_takeRoadsOfBest 42 = .ok (.invokevirtual 149, 3) := by decide +kernel
theorem dX3_takeRoadsOfBest_45 : decode cX3_takeRoadsOfBest 45 = .ok (.iastore, 1) := by decide +kernel
theorem dX3_takeRoadsOfBest_46 : decode cX3_takeRoadsOfBest 46 = .ok (.iload_n 2, 1) := by decide +kernel
theorem dX3_takeRoadsOfBest_47 : decode cX3_takeRoadsOfBest 47 = .ok (.aload_n 0, 1) := by decide +kernel
theorem dX3_takeRoadsOfBest_48 : decode cX3_takeRoadsOfBest 48 = .ok (.getfield 38, 3) := by decide +kernel
theorem dX3_takeRoadsOfBest_51 : decode cX3_takeRoadsOfBest 51 = .ok (.getfield 61, 3) := by decide +kernel
theorem dX3_takeRoadsOfBest_54 : decode cX3_takeRoadsOfBest 54 = .ok (.iload 4, 2) := by decide +kernel
theorem dX3_takeRoadsOfBest_56 : decode cX3_takeRoadsOfBest 56 = .ok (.iaload, 1) := by decide +kernel
theorem dX3_takeRoadsOfBest_57 : decode cX3_takeRoadsOfBest 57 = .ok (.iadd, 1) := by decide +kernel
theorem dX3_takeRoadsOfBest_58 : decode cX3_takeRoadsOfBest 58 = .ok (.istore_n 2, 1) := by decide +kernel
theorem dX3_takeRoadsOfBest_59 : decode cX3_takeRoadsOfBest 59 = .ok (.iinc 3 1, 3) := by decide +kernel
theorem dX3_takeRoadsOfBest_62 : decode cX3_takeRoadsOfBest 62 = .ok (.goto (-58), 3) := by decide +kernel
theorem dX3_takeRoadsOfBest_65 : decode cX3_takeRoadsOfBest 65 = .ok (.return_, 1) := by decide +kernel
noncomputable def kb_X3_takeRoadsOfBest_4 (F : Nat) (self : AK) : AK := ak_iload 3 (ak_aload 0 (ak_getf 3 2 (ak_cmplt (ak_aload 0 (ak_getf 3 1 (ak_iload 3 (ak_iald (ak_istore 4 (ak_aload 0 (ak_getf 3 11 (ak_iload 4 (ak_aload 0 (ak_getf 3 10 (ak_aload 0 (ak_getf 3 11 (ak_iload 4 (ak_iald (ak_aload 0 (ak_getf 3 12 (ak_iload 2 (ak_callv 7 3 (m_X7_ownerBehind F) (ak_iast (ak_iload 2 (ak_aload 0 (ak_getf 3 10 (ak_getf 7 4 (ak_iload 4 (ak_iald (ak_iadd (ak_istore 2 (ak_iinc 3 1 self)))))))))))))))))))))))))))) (ak_return))))
noncomputable def k_X3_takeRoadsOfBest_4 (F : Nat) (n : Nat) : AK := Nat.rec (motive := fun _ => AK) ak_none (fun _ self => kb_X3_takeRoadsOfBest_4 F self) n
set_option maxRecDepth 20000 in
theorem sk_X3_takeRoadsOfBest_4 (F : Nat) : ∀ n, Snd X0 RX3 cX3_takeRoadsOfBest 5 1 4 (k_X3_takeRoadsOfBest_4 F n) := by
  intro n
  induction n with
  | zero => exact snd_none
  | succ n ih =>
    show Snd X0 RX3 cX3_takeRoadsOfBest 5 1 4 (kb_X3_takeRoadsOfBest_4 F (k_X3_takeRoadsOfBest_4 F n))
    unfold kb_X3_takeRoadsOfBest_4
    exact snd_iload_n (pc := 4) (i := 3) dX3_takeRoadsOfBest_4 (snd_aload_n (pc := 5) (i := 0) dX3_takeRoadsOfBest_5 (snd_getf (pc := 6) cls3 (f := 2) (by decide) wd_476 dX3_takeRoadsOfBest_6 (snd_icmpge (pc := 9) (off := 56) (tgt := 65) (by decide) dX3_takeRoadsOfBest_9 (snd_return dX3_takeRoadsOfBest_65) (snd_aload_n (pc := 12) (i := 0) dX3_takeRoadsOfBest_12 (snd_getf (pc := 13) cls3 (f := 1) (by decide) wd_474 dX3_takeRoadsOfBest_13 (snd_iload_n (pc := 16) (i := 3) dX3_takeRoadsOfBest_16 (snd_iald (pc := 17) dX3_takeRoadsOfBest_17 (snd_istore (pc := 18) (i := 4) (by decide) dX3_takeRoadsOfBest_18 (snd_aload_n (pc := 20) (i := 0) dX3_takeRoadsOfBest_20 (snd_getf (pc := 21) cls3 (f := 11) (by decide) wd_491 dX3_takeRoadsOfBest_21 (snd_iload (pc := 24) (i := 4) dX3_takeRoadsOfBest_24 (snd_aload_n (pc := 26) (i := 0) dX3_takeRoadsOfBest_26 (snd_getf (pc := 27) cls3 (f := 10) (by decide) wd_490 dX3_takeRoadsOfBest_27 (snd_aload_n (pc := 30) (i := 0) dX3_takeRoadsOfBest_30 (snd_getf (pc := 31) cls3 (f := 11) (by decide) wd_491 dX3_takeRoadsOfBest_31 (snd_iload (pc := 34) (i := 4) dX3_takeRoadsOfBest_34 (snd_iald (pc := 36) dX3_takeRoadsOfBest_36 (snd_aload_n (pc := 37) (i := 0) dX3_takeRoadsOfBest_37 (snd_getf (pc := 38) cls3 (f := 12) (by decide) wd_492 dX3_takeRoadsOfBest_38 (snd_iload_n (pc := 41) (i := 2) dX3_takeRoadsOfBest_41 (snd_callV (pc := 42) (n := 3) cls7 (s_X7_ownerBehind F) (by decide) (by decide) wd_930 wd_1066 wd_928 wd_929 wd_122 hy_X7_ownerBehind dX3_takeRoadsOfBest_42 (snd_iast (pc := 45) dX3_takeRoadsOfBest_45 (snd_iload_n (pc := 46) (i := 2) dX3_takeRoadsOfBest_46 (snd_aload_n (pc := 47) (i := 0) dX3_takeRoadsOfBest_47 (snd_getf (pc := 48) cls3 (f := 10) (by decide) wd_490 dX3_takeRoadsOfBest_48 (snd_getf (pc := 51) cls7 (f := 4) (by decide) wd_178 dX3_takeRoadsOfBest_51 (snd_iload (pc := 54) (i := 4) dX3_takeRoadsOfBest_54 (snd_iald (pc := 56) dX3_takeRoadsOfBest_56 (snd_iadd (pc := 57) dX3_takeRoadsOfBest_57 (snd_istore_n (pc := 58) (i := 2) (by decide) dX3_takeRoadsOfBest_58 (snd_iinc (pc := 59) (i := 3) (n := 1) (by decide) dX3_takeRoadsOfBest_59 (snd_goto (pc := 62) (off := (-58)) (tgt := 4) (by decide) dX3_takeRoadsOfBest_62 (ih)))))))))))))))))))))))))))))))))
noncomputable def k_X3_takeRoadsOfBest (F : Nat) : AK := ak_iload 1 (ak_istore 2 (ak_push (vI 0) (ak_istore 3 ((k_X3_takeRoadsOfBest_4 F F)))))
noncomputable def m_X3_takeRoadsOfBest (F : Nat) : AF := mkF 0 5 (k_X3_takeRoadsOfBest F)
set_option maxRecDepth 20000 in
theorem s_X3_takeRoadsOfBest (F : Nat) : MA yX3_takeRoadsOfBest cX3_takeRoadsOfBest 5 none 1 (m_X3_takeRoadsOfBest F) := met_of (Or.inl ⟨rfl, rfl⟩) (by decide) (by
  unfold k_X3_takeRoadsOfBest
  exact snd_iload_n (pc := 0) (i := 1) dX3_takeRoadsOfBest_0 (snd_istore_n (pc := 1) (i := 2) (by decide) dX3_takeRoadsOfBest_1 (snd_iconst (pc := 2) dX3_takeRoadsOfBest_2 (snd_istore_n (pc := 3) (i := 3) (by decide) dX3_takeRoadsOfBest_3 ((sk_X3_takeRoadsOfBest_4 F F))))))

/-! LastWalker$Town.putFirstOwners([I)V -/
theorem dX7_putFirstOwners_0 : decode cX7_putFirstOwners 0 = .ok (.iconst 0, 1) := by decide +kernel
theorem dX7_putFirstOwners_1 : decode cX7_putFirstOwners 1 = .ok (.istore_n 2, 1) := by decide +kernel
theorem dX7_putFirstOwners_2 : decode cX7_putFirstOwners 2 = .ok (.iload_n 2, 1) := by decide +kernel
theorem dX7_putFirstOwners_3 : decode cX7_putFirstOwners 3 = .ok (.bipush 14, 2) := by decide +kernel
theorem dX7_putFirstOwners_5 : decode cX7_putFirstOwners 5 = .ok (.if_icmp .ge 30, 3) := by decide +kernel
theorem dX7_putFirstOwners_8 : decode cX7_putFirstOwners 8 = .ok (.aload_n 1, 1) := by decide +kernel
theorem dX7_putFirstOwners_9 : decode cX7_putFirstOwners 9 = .ok (.iload_n 2, 1) := by decide +kernel
theorem dX7_putFirstOwners_10 : decode cX7_putFirstOwners 10 = .ok (.aload_n 0, 1) := by decide +kernel
theorem dX7_putFirstOwners_11 : decode cX7_putFirstOwners 11 = .ok (.getfield 64, 3) := by decide +kernel
theorem dX7_putFirstOwners_14 : decode cX7_putFirstOwners 14 = .ok (.iconst 3, 1) := by decide +kernel
theorem dX7_putFirstOwners_15 : decode cX7_putFirstOwners 15 = .ok (.if_icmp .ne 7, 3) := by decide +kernel
theorem dX7_putFirstOwners_18 : decode cX7_putFirstOwners 18 = .ok (.iconst (-1), 1) := by decide +kernel
theorem dX7_putFirstOwners_19 : decode cX7_putFirstOwners 19 = .ok (.goto 9, 3) := by decide +kernel
theorem dX7_putFirstOwners_22 : decode cX7_putFirstOwners 22 = .ok (.aload_n 0, 1) := by decide +kernel
theorem dX7_putFirstOwners_23 : decode cX7_putFirstOwners 23 = .ok (.getfield 24, 3) := by decide +kernel
theorem dX7_putFirstOwners_26 : decode cX7_putFirstOwners 26 = .ok (.iload_n 2, 1) := by decide +kernel
theorem dX7_putFirstOwners_27 : decode cX7_putFirstOwners 27 = .ok (.iaload, 1) := by decide +kernel
theorem dX7_putFirstOwners_28 : decode cX7_putFirstOwners 28 = .ok (.iastore, 1) := by decide +kernel
theorem dX7_putFirstOwners_29 : decode cX7_putFirstOwners 29 = .ok (.iinc 2 1, 3) := by decide +kernel
theorem dX7_putFirstOwners_32 : decode cX7_putFirstOwners 32 = .ok (.goto (-30), 3) := by decide +kernel
theorem dX7_putFirstOwners_35 : decode cX7_putFirstOwners 35 = .ok (.return_, 1) := by decide +kernel
noncomputable def k_X7_putFirstOwners_28 (F : Nat) (h2 : AK) : AK := ak_iast (ak_iinc 2 1 h2)
set_option maxRecDepth 20000 in
theorem sk_X7_putFirstOwners_28 (F : Nat) {h2 : AK} (hh2 : Snd X0 RX7 cX7_putFirstOwners 3 0 2 h2) : Snd X0 RX7 cX7_putFirstOwners 3 0 28 (k_X7_putFirstOwners_28 F h2) := by
  unfold k_X7_putFirstOwners_28
  exact snd_iast (pc := 28) dX7_putFirstOwners_28 (snd_iinc (pc := 29) (i := 2) (n := 1) (by decide) dX7_putFirstOwners_29 (snd_goto (pc := 32) (off := (-30)) (tgt := 2) (by decide) dX7_putFirstOwners_32 (hh2)))
noncomputable def kb_X7_putFirstOwners_2 (F : Nat) (self : AK) : AK := ak_iload 2 (ak_push (vI 14) (ak_cmplt (ak_aload 1 (ak_iload 2 (ak_aload 0 (ak_getf 7 17 (ak_push (vI 3) (ak_cmpeq (ak_push (vI (-1)) ((k_X7_putFirstOwners_28 F self))) (ak_aload 0 (ak_getf 7 6 (ak_iload 2 (ak_iald ((k_X7_putFirstOwners_28 F self)))))))))))) (ak_return)))
noncomputable def k_X7_putFirstOwners_2 (F : Nat) (n : Nat) : AK := Nat.rec (motive := fun _ => AK) ak_none (fun _ self => kb_X7_putFirstOwners_2 F self) n
set_option maxRecDepth 20000 in
theorem sk_X7_putFirstOwners_2 (F : Nat) : ∀ n, Snd X0 RX7 cX7_putFirstOwners 3 0 2 (k_X7_putFirstOwners_2 F n) := by
  intro n
  induction n with
  | zero => exact snd_none
  | succ n ih =>
    show Snd X0 RX7 cX7_putFirstOwners 3 0 2 (kb_X7_putFirstOwners_2 F (k_X7_putFirstOwners_2 F n))
    unfold kb_X7_putFirstOwners_2
    exact snd_iload_n (pc := 2) (i := 2) dX7_putFirstOwners_2 (snd_bipush (pc := 3) (by decide) dX7_putFirstOwners_3 (snd_icmpge (pc := 5) (off := 30) (tgt := 35) (by decide) dX7_putFirstOwners_5 (snd_return dX7_putFirstOwners_35) (snd_aload_n (pc := 8) (i := 1) dX7_putFirstOwners_8 (snd_iload_n (pc := 9) (i := 2) dX7_putFirstOwners_9 (snd_aload_n (pc := 10) (i := 0) dX7_putFirstOwners_10 (snd_getf (pc := 11) cls7 (f := 17) (by decide) wd_233 dX7_putFirstOwners_11 (snd_iconst (pc := 14) dX7_putFirstOwners_14 (snd_icmpne (pc := 15) (off := 7) (tgt := 22) (by decide) dX7_putFirstOwners_15 (snd_aload_n (pc := 22) (i := 0) dX7_putFirstOwners_22 (snd_getf (pc := 23) cls7 (f := 6) (by decide) wd_188 dX7_putFirstOwners_23 (snd_iload_n (pc := 26) (i := 2) dX7_putFirstOwners_26 (snd_iald (pc := 27) dX7_putFirstOwners_27 ((sk_X7_putFirstOwners_28 F ih)))))) (snd_iconst (pc := 18) dX7_putFirstOwners_18 (snd_goto (pc := 19) (off := 9) (tgt := 28) (by decide) dX7_putFirstOwners_19 ((sk_X7_putFirstOwners_28 F ih))))))))))))
noncomputable def k_X7_putFirstOwners (F : Nat) : AK := ak_push (vI 0) (ak_istore 2 ((k_X7_putFirstOwners_2 F F)))
noncomputable def m_X7_putFirstOwners (F : Nat) : AF := mkF 0 3 (k_X7_putFirstOwners F)
set_option maxRecDepth 20000 in
theorem s_X7_putFirstOwners (F : Nat) : MA yX7_putFirstOwners cX7_putFirstOwners 3 none 0 (m_X7_putFirstOwners F) := met_of (Or.inl ⟨rfl, rfl⟩) (by decide) (by
  unfold k_X7_putFirstOwners
  exact snd_iconst (pc := 0) dX7_putFirstOwners_0 (snd_istore_n (pc := 1) (i := 2) (by decide) dX7_putFirstOwners_1 ((sk_X7_putFirstOwners_2 F F))))

/-! LastWalker$Outing.begin(LLastWalker$Town;)V -/
theorem dX4_begin_0 : decode cX4_begin 0 = .ok (.aload_n 1, 1) := by decide +kernel
theorem dX4_begin_1 : decode cX4_begin 1 = .ok (.aload_n 0, 1) := by decide +kernel
theorem dX4_begin_2 : decode cX4_begin 2 = .ok (.getfield 15, 3) := by decide +kernel
theorem dX4_begin_5 : decode cX4_begin 5 = .ok (.invokevirtual 64, 3) := by decide +kernel
theorem dX4_begin_8 : decode cX4_begin 8 = .ok (.aload_n 0, 1) := by decide +kernel
theorem dX4_begin_9 : decode cX4_begin 9 = .ok (.getfield 19, 3) := by decide +kernel
theorem dX4_begin_12 : decode cX4_begin 12 = .ok (.iconst 0, 1) := by decide +kernel
theorem dX4_begin_13 : decode cX4_begin 13 = .ok (.invokestatic 68, 3) := by decide +kernel
theorem dX4_begin_16 : decode cX4_begin 16 = .ok (.aload_n 0, 1) := by decide +kernel
theorem dX4_begin_17 : decode cX4_begin 17 = .ok (.getfield 22, 3) := by decide +kernel
theorem dX4_begin_20 : decode cX4_begin 20 = .ok (.iconst 0, 1) := by decide +kernel
theorem dX4_begin_21 : decode cX4_begin 21 = .ok (.invokestatic 68, 3) := by decide +kernel
theorem dX4_begin_24 : decode cX4_begin 24 = .ok (.aload_n 0, 1) := by decide +kernel
theorem dX4_begin_25 : decode cX4_begin 25 = .ok (.getfield 31, 3) := by decide +kernel
theorem dX4_begin_28 : decode cX4_begin 28 = .ok (.iconst 0, 1) := by decide +kernel
theorem dX4_begin_29 : decode cX4_begin 29 = .ok (.invokestatic 68, 3) := by decide +kernel
theorem dX4_begin_32 : decode cX4_begin 32 = .ok (.aload_n 0, 1) := by decide +kernel
theorem dX4_begin_33 : decode cX4_begin 33 = .ok (.getfield 34, 3) := by decide +kernel
theorem dX4_begin_36 : decode cX4_begin 36 = .ok (.iconst 0, 1) := by decide +kernel
theorem dX4_begin_37 : decode cX4_begin 37 = .ok (.invokestatic 68, 3) := by decide +kernel
theorem dX4_begin_40 : decode cX4_begin 40 = .ok (.aload_n 0, 1) := by decide +kernel
theorem dX4_begin_41 : decode cX4_begin 41 = .ok (.getfield 37, 3) := by decide +kernel
theorem dX4_begin_44 : decode cX4_begin 44 = .ok (.iconst 0, 1) := by decide +kernel
theorem dX4_begin_45 : decode cX4_begin 45 = .ok (.invokestatic 68, 3) := by decide +kernel
theorem dX4_begin_48 : decode cX4_begin 48 = .ok (.aload_n 0, 1) := by decide +kernel
theorem dX4_begin_49 : decode cX4_begin 49 = .ok (.getfield 40, 3) := by decide +kernel
theorem dX4_begin_52 : decode cX4_begin 52 = .ok (.iconst 0, 1) := by decide +kernel
theorem dX4_begin_53 : decode cX4_begin 53 = .ok (.invokestatic 68, 3) := by decide +kernel
theorem dX4_begin_56 : decode cX4_begin 56 = .ok (.aload_n 0, 1) := by decide +kernel
theorem dX4_begin_57 : decode cX4_begin 57 = .ok (.iconst 0, 1) := by decide +kernel
theorem dX4_begin_58 : decode cX4_begin 58 = .ok (.putfield 74, 3) := by decide +kernel
theorem dX4_begin_61 : decode cX4_begin 61 = .ok (.aload_n 0, 1) := by decide +kernel
theorem dX4_begin_62 : decode cX4_begin 62 = .ok (.iconst 0, 1) := by decide +kernel
theorem dX4_begin_63 : decode cX4_begin 63 = .ok (.putfield 77, 3) := by decide +kernel
theorem dX4_begin_66 : decode cX4_begin 66 = .ok (.return_, 1) := by decide +kernel
noncomputable def k_X4_begin (F : Nat) : AK := ak_aload 1 (ak_aload 0 (ak_getf 4 0 (ak_callv 7 1 (m_X7_putFirstOwners F) (ak_aload 0 (ak_getf 4 1 (ak_push (vI 0) (ak_call 2 (m_J7_fill_53178 F) (ak_aload 0 (ak_getf 4 2 (ak_push (vI 0) (ak_call 2 (m_J7_fill_53178 F) (ak_aload 0 (ak_getf 4 8 (ak_push (vI 0) (ak_call 2 (m_J7_fill_53178 F) (ak_aload 0 (ak_getf 4 9 (ak_push (vI 0) (ak_call 2 (m_J7_fill_53178 F) (ak_aload 0 (ak_getf 4 10 (ak_push (vI 0) (ak_call 2 (m_J7_fill_53178 F) (ak_aload 0 (ak_getf 4 11 (ak_push (vI 0) (ak_call 2 (m_J7_fill_53178 F) (ak_aload 0 (ak_push (vI 0) (ak_putf 4 3 (ak_aload 0 (ak_push (vI 0) (ak_putf 4 4 ak_return)))))))))))))))))))))))))))))))))
noncomputable def m_X4_begin (F : Nat) : AF := mkF 0 2 (k_X4_begin F)
set_option maxRecDepth 20000 in
theorem s_X4_begin (F : Nat) : MA yX4_begin cX4_begin 2 none 1 (m_X4_begin F) := met_of (Or.inl ⟨rfl, rfl⟩) (by decide) (by
  unfold k_X4_begin
  exact snd_aload_n (pc := 0) (i := 1) dX4_begin_0 (snd_aload_n (pc := 1) (i := 0) dX4_begin_1 (snd_getf (pc := 2) cls4 (f := 0) (by decide) wd_541 dX4_begin_2 (snd_callV (pc := 5) (n := 1) cls7 (s_X7_putFirstOwners F) (by decide) (by decide) wd_905 wd_1112 wd_903 wd_904 wd_122 hy_X7_putFirstOwners dX4_begin_5 (snd_aload_n (pc := 8) (i := 0) dX4_begin_8 (snd_getf (pc := 9) cls4 (f := 1) (by decide) wd_543 dX4_begin_9 (snd_iconst (pc := 12) dX4_begin_12 (snd_callS (pc := 13) (n := 2) (s_J7_fill_53178 F) (by decide) (by decide) wd_650 wd_1113 wd_649 wd_131 hy_J7_fill_53178 dX4_begin_13 (snd_aload_n (pc := 16) (i := 0) dX4_begin_16 (snd_getf (pc := 17) cls4 (f := 2) (by decide) wd_545 dX4_begin_17 (snd_iconst (pc := 20) dX4_begin_20 (snd_callS (pc := 21) (n := 2) (s_J7_fill_53178 F) (by decide) (by decide) wd_650 wd_1113 wd_649 wd_131 hy_J7_fill_53178 dX4_begin_21 (snd_aload_n (pc := 24) (i := 0) dX4_begin_24 (snd_getf (pc := 25) cls4 (f := 8) (by decide) wd_554 dX4_begin_25 (snd_iconst (pc := 28) dX4_begin_28 (snd_callS (pc := 29) (n := 2) (s_J7_fill_53178 F) (by decide) (by decide) wd_650 wd_1113 wd_649 wd_131 hy_J7_fill_53178 dX4_begin_29 (snd_aload_n (pc := 32) (i := 0) dX4_begin_32 (snd_getf (pc := 33) cls4 (f := 9) (by decide) wd_555 dX4_begin_33 (snd_iconst (pc := 36) dX4_begin_36 (snd_callS (pc := 37) (n := 2) (s_J7_fill_53178 F) (by decide) (by decide) wd_650 wd_1113 wd_649 wd_131 hy_J7_fill_53178 dX4_begin_37 (snd_aload_n (pc := 40) (i := 0) dX4_begin_40 (snd_getf (pc := 41) cls4 (f := 10) (by decide) wd_556 dX4_begin_41 (snd_iconst (pc := 44) dX4_begin_44 (snd_callS (pc := 45) (n := 2) (s_J7_fill_53178 F) (by decide) (by decide) wd_650 wd_1113 wd_649 wd_131 hy_J7_fill_53178 dX4_begin_45 (snd_aload_n (pc := 48) (i := 0) dX4_begin_48 (snd_getf (pc := 49) cls4 (f := 11) (by decide) wd_557 dX4_begin_49 (snd_iconst (pc := 52) dX4_begin_52 (snd_callS (pc := 53) (n := 2) (s_J7_fill_53178 F) (by decide) (by decide) wd_650 wd_1113 wd_649 wd_131 hy_J7_fill_53178 dX4_begin_53 (snd_aload_n (pc := 56) (i := 0) dX4_begin_56 (snd_iconst (pc := 57) dX4_begin_57 (snd_putf (pc := 58) cls4 (f := 3) (by decide) rfl rfl rfl wd_547 dX4_begin_58 (snd_aload_n (pc := 61) (i := 0) dX4_begin_61 (snd_iconst (pc := 62) dX4_begin_62 (snd_putf (pc := 63) cls4 (f := 4) (by decide) rfl rfl rfl wd_549 dX4_begin_63 (snd_return dX4_begin_66)))))))))))))))))))))))))))))))))))

/-! LastWalker$Outing.putInOrder(LLastWalker$Town;I)I -/
theorem dX4_putInOrder_0 : decode cX4_putInOrder 0 = .ok (.iconst 0, 1) := by decide +kernel
theorem dX4_putInOrder_1 : decode cX4_putInOrder 1 = .ok (.istore_n 3, 1) := by decide +kernel
theorem dX4_putInOrder_2 : decode cX4_putInOrder 2 = .ok (.iconst 0, 1) := by decide +kernel
theorem dX4_putInOrder_3 : decode cX4_putInOrder 3 = .ok (.istore 4, 2) := by decide +kernel
theorem dX4_putInOrder_5 : decode cX4_putInOrder 5 = .ok (.iload 4, 2) := by decide +kernel
theorem dX4_putInOrder_7 : decode cX4_putInOrder 7 = .ok (.aload_n 1, 1) := by decide +kernel
theorem dX4_putInOrder_8 : decode cX4_putInOrder 8 = .ok (.getfield 54, 3) := by decide +kernel
theorem dX4_putInOrder_11 : decode cX4_putInOrder 11 = .ok (.if_icmp .ge 84, 3) := by decide +kernel
theorem dX4_putInOrder_14 : decode cX4_putInOrder 14 = .ok (.iload_n 2, 1) := by decide +kernel
theorem dX4_putInOrder_15 : decode cX4_putInOrder 15 = .ok (.iload 4, 2) := by decide +kernel
theorem dX4_putInOrder_17 : decode cX4_putInOrder 17 = .ok (.ishr, 1) := by decide +kernel
theorem dX4_putInOrder_18 : decode cX4_putInOrder 18 = .ok (.iconst 1, 1) := by decide +kernel
theorem dX4_putInOrder_19 : decode cX4_putInOrder 19 = .ok (.iand, 1) := by decide +kernel
theorem dX4_putInOrder_20 : decode cX4_putInOrder 20 = .ok (.ifCond .eq 69, 3) := by decide +kernel
theorem dX4_putInOrder_23 : decode cX4_putInOrder 23 = .ok (.iload_n 3, 1) := by decide +kernel
theorem dX4_putInOrder_24 : decode cX4_putInOrder 24 = .ok (.istore 5, 2) := by decide +kernel
theorem dX4_putInOrder_26 : decode cX4_putInOrder 26 = .ok (.iload 5, 2) := by decide +kernel
theorem dX4_putInOrder_28 : decode cX4_putInOrder 28 = .ok (.ifCond .le 49, 3) := by decide +kernel
theorem dX4_putInOrder_31 : decode cX4_putInOrder 31 = .ok (.aload_n 1, 1) := by decide +kernel
theorem dX4_putInOrder_32 : decode cX4_putInOrder 32 = .ok (.getfield 96, 3) := by decide +kernel
theorem dX4_putInOrder_35 : decode cX4_putInOrder 35 = .ok (.aload_n 0, 1) := by decide +kernel
theorem dX4_putInOrder_36 : decode cX4_putInOrder 36 = .ok (.getfield 43, 3) := by decide +kernel
theorem dX4_putInOrder_39 : decode cX4_putInOrder 39 = .ok (.iload 5, 2) := by decide +kernel
theorem dX4_putInOrder_41 : decode cX4_putInOrder 41 = .ok (.iconst 1, 1) := by decide +kernel
theorem dX4_putInOrder_42 : decode cX4_putInOrder 42 = .ok (.isub, 1) := by decide +kernel
theorem dX4_putInOrder_43 : decode cX4_putInOrder 43 = .ok (.iaload, 1) := by decide +kernel
theorem dX4_putInOrder_44 : decode cX4_putInOrder 44 = .ok (.iaload, 1) := by decide +kernel
theorem dX4_putInOrder_45 : decode cX4_putInOrder 45 = .ok (.aload_n 1, 1) := by decide +kernel
theorem dX4_putInOrder_46 : decode cX4_putInOrder 46 = .ok (.getfield 96, 3) := by decide +kernel
theorem dX4_putInOrder_49 : decode cX4_putInOrder 49 = .ok (.iload 4, 2) := by decide +kernel
theorem dX4_putInOrder_51 : decode cX4_putInOrder 51 = .ok (.iaload, 1) := by decide +kernel
theorem dX4_putInOrder_52 : decode cX4_putInOrder 52 = .ok (.if_icmp .le 25, 3) := by decide +kernel
theorem dX4_putInOrder_55 : decode cX4_putInOrder 55 = .ok (.aload_n 0, 1) := by decide +kernel
theorem dX4_putInOrder_56 : decode cX4_putInOrder 56 = .ok (.getfield 43, 3) := by decide +kernel
theorem dX4_putInOrder_59 : decode cX4_putInOrder 59 = .ok (.iload 5, 2) := by decide +kernel
theorem dX4_putInOrder_61 : decode cX4_putInOrder 61 = .ok (.aload_n 0, 1) := by decide +kernel
theorem dX4_putInOrder_62 : decode cX4_putInOrder 62 = .ok (.getfield 43, 3) := by decide +kernel
theorem dX4_putInOrder_65 : decode cX4_putInOrder 65 = .ok (.iload 5, 2) := by decide +kernel
theorem dX4_putInOrder_67 : decode cX4_putInOrder 67 = .ok (.iconst 1, 1) := by decide +kernel
theorem dX4_putInOrder_68 : decode cX4_putInOrder 68 = .ok (.isub, 1) := by decide +kernel
theorem dX4_putInOrder_69 : decode cX4_putInOrder 69 = .ok (.iaload, 1) := by decide +kernel
theorem dX4_putInOrder_70 : decode cX4_putInOrder 70 = .ok (.iastore, 1) := by decide +kernel
theorem dX4_putInOrder_71 : decode cX4_putInOrder 71 = .ok (.iinc 5 (-1), 3) := by decide +kernel
theorem dX4_putInOrder_74 : decode cX4_putInOrder 74 = .ok (.goto (-48), 3) := by decide +kernel
theorem dX4_putInOrder_77 : decode cX4_putInOrder 77 = .ok (.aload_n 0, 1) := by decide +kernel
theorem dX4_putInOrder_78 : decode cX4_putInOrder 78 = .ok (.getfield 43, 3) := by decide +kernel
theorem dX4_putInOrder_81 : decode cX4_putInOrder 81 = .ok (.iload 5, 2) := by decide +kernel
theorem dX4_putInOrder_83 : decode cX4_putInOrder 83 = .ok (.iload 4, 2) := by decide +kernel
theorem dX4_putInOrder_85 : decode cX4_putInOrder 85 = .ok (.iastore, 1) := by decide +kernel
theorem dX4_putInOrder_86 : decode cX4_putInOrder 86 = .ok (.iinc 3 1, 3) := by decide +kernel
theorem dX4_putInOrder_89 : decode cX4_putInOrder 89 = .ok (.iinc 4 1, 3) := by decide +kernel
theorem dX4_putInOrder_92 : decode cX4_putInOrder 92 = .ok (.goto (-87), 3) := by decide +kernel
theorem dX4_putInOrder_95 : decode cX4_putInOrder 95 = .ok (.iload_n 3, 1) := by decide +kernel
theorem dX4_putInOrder_96 : decode cX4_putInOrder 96 = .ok (.ireturn, 1) := by decide +kernel
noncomputable def k_X4_putInOrder_89 (F : Nat) (h5 : AK) : AK := ak_iinc 4 1 h5
set_option maxRecDepth 20000 in
theorem sk_X4_putInOrder_89 (F : Nat) {h5 : AK} (hh5 : Snd X0 RX4 cX4_putInOrder 6 0 5 h5) : Snd X0 RX4 cX4_putInOrder 6 0 89 (k_X4_putInOrder_89 F h5) := by
  unfold k_X4_putInOrder_89
  exact snd_iinc (pc := 89) (i := 4) (n := 1) (by decide) dX4_putInOrder_89 (snd_goto (pc := 92) (off := (-87)) (tgt := 5) (by decide) dX4_putInOrder_92 (hh5))
noncomputable def k_X4_putInOrder_77 (F : Nat) (h5 : AK) : AK := ak_aload 0 (ak_getf 4 12 (ak_iload 5 (ak_iload 4 (ak_iast (ak_iinc 3 1 ((k_X4_putInOrder_89 F h5)))))))
set_option maxRecDepth 20000 in
theorem sk_X4_putInOrder_77 (F : Nat) {h5 : AK} (hh5 : Snd X0 RX4 cX4_putInOrder 6 0 5 h5) : Snd X0 RX4 cX4_putInOrder 6 0 77 (k_X4_putInOrder_77 F h5) := by
  unfold k_X4_putInOrder_77
  exact snd_aload_n (pc := 77) (i := 0) dX4_putInOrder_77 (snd_getf (pc := 78) cls4 (f := 12) (by decide) wd_558 dX4_putInOrder_78 (snd_iload (pc := 81) (i := 5) dX4_putInOrder_81 (snd_iload (pc := 83) (i := 4) dX4_putInOrder_83 (snd_iast (pc := 85) dX4_putInOrder_85 (snd_iinc (pc := 86) (i := 3) (n := 1) (by decide) dX4_putInOrder_86 ((sk_X4_putInOrder_89 F hh5)))))))
noncomputable def kb_X4_putInOrder_26 (F : Nat) (h5 : AK) (self : AK) : AK := ak_iload 5 (ak_ifgt (ak_aload 1 (ak_getf 7 15 (ak_aload 0 (ak_getf 4 12 (ak_iload 5 (ak_push (vI 1) (ak_isub (ak_iald (ak_iald (ak_aload 1 (ak_getf 7 15 (ak_iload 4 (ak_iald (ak_cmpgt (ak_aload 0 (ak_getf 4 12 (ak_iload 5 (ak_aload 0 (ak_getf 4 12 (ak_iload 5 (ak_push (vI 1) (ak_isub (ak_iald (ak_iast (ak_iinc 5 (-1) self))))))))))) ((k_X4_putInOrder_77 F h5)))))))))))))))) ((k_X4_putInOrder_77 F h5)))
noncomputable def k_X4_putInOrder_26 (F : Nat) (h5 : AK) (n : Nat) : AK := Nat.rec (motive := fun _ => AK) ak_none (fun _ self => kb_X4_putInOrder_26 F h5 self) n
set_option maxRecDepth 20000 in
theorem sk_X4_putInOrder_26 (F : Nat) {h5 : AK} (hh5 : Snd X0 RX4 cX4_putInOrder 6 0 5 h5) : ∀ n, Snd X0 RX4 cX4_putInOrder 6 0 26 (k_X4_putInOrder_26 F h5 n) := by
  intro n
  induction n with
  | zero => exact snd_none
  | succ n ih =>
    show Snd X0 RX4 cX4_putInOrder 6 0 26 (kb_X4_putInOrder_26 F h5 (k_X4_putInOrder_26 F h5 n))
    unfold kb_X4_putInOrder_26
    exact snd_iload (pc := 26) (i := 5) dX4_putInOrder_26 (snd_ifle (pc := 28) (off := 49) (tgt := 77) (by decide) dX4_putInOrder_28 ((sk_X4_putInOrder_77 F hh5)) (snd_aload_n (pc := 31) (i := 1) dX4_putInOrder_31 (snd_getf (pc := 32) cls7 (f := 15) (by decide) wd_226 dX4_putInOrder_32 (snd_aload_n (pc := 35) (i := 0) dX4_putInOrder_35 (snd_getf (pc := 36) cls4 (f := 12) (by decide) wd_558 dX4_putInOrder_36 (snd_iload (pc := 39) (i := 5) dX4_putInOrder_39 (snd_iconst (pc := 41) dX4_putInOrder_41 (snd_isub (pc := 42) dX4_putInOrder_42 (snd_iald (pc := 43) dX4_putInOrder_43 (snd_iald (pc := 44) dX4_putInOrder_44 (snd_aload_n (pc := 45) (i := 1) dX4_putInOrder_45 (snd_getf (pc := 46) cls7 (f := 15) (by decide) wd_226 dX4_putInOrder_46 (snd_iload (pc := 49) (i := 4) dX4_putInOrder_49 (snd_iald (pc := 51) dX4_putInOrder_51 (snd_icmple (pc := 52) (off := 25) (tgt := 77) (by decide) dX4_putInOrder_52 ((sk_X4_putInOrder_77 F hh5)) (snd_aload_n (pc := 55) (i := 0) dX4_putInOrder_55 (snd_getf (pc := 56) cls4 (f := 12) (by decide) wd_558 dX4_putInOrder_56 (snd_iload (pc := 59) (i := 5) dX4_putInOrder_59 (snd_aload_n (pc := 61) (i := 0) dX4_putInOrder_61 (snd_getf (pc := 62) cls4 (f := 12) (by decide) wd_558 dX4_putInOrder_62 (snd_iload (pc := 65) (i := 5) dX4_putInOrder_65 (snd_iconst (pc := 67) dX4_putInOrder_67 (snd_isub (pc := 68) dX4_putInOrder_68 (snd_iald (pc := 69) dX4_putInOrder_69 (snd_iast (pc := 70) dX4_putInOrder_70 (snd_iinc (pc := 71) (i := 5) (n := (-1)) (by decide) dX4_putInOrder_71 (snd_goto (pc := 74) (off := (-48)) (tgt := 26) (by decide) dX4_putInOrder_74 (ih))))))))))))))))))))))))))))
noncomputable def kb_X4_putInOrder_5 (F : Nat) (self : AK) : AK := ak_iload 4 (ak_aload 1 (ak_getf 7 12 (ak_cmplt (ak_iload 2 (ak_iload 4 (ak_ishr (ak_push (vI 1) (ak_iand (ak_ifeq ((k_X4_putInOrder_89 F self)) (ak_iload 3 (ak_istore 5 ((k_X4_putInOrder_26 F self F)))))))))) (ak_iload 3 ak_ireturn))))
noncomputable def k_X4_putInOrder_5 (F : Nat) (n : Nat) : AK := Nat.rec (motive := fun _ => AK) ak_none (fun _ self => kb_X4_putInOrder_5 F self) n
set_option maxRecDepth 20000 in
theorem sk_X4_putInOrder_5 (F : Nat) : ∀ n, Snd X0 RX4 cX4_putInOrder 6 0 5 (k_X4_putInOrder_5 F n) := by
  intro n
  induction n with
  | zero => exact snd_none
  | succ n ih =>
    show Snd X0 RX4 cX4_putInOrder 6 0 5 (kb_X4_putInOrder_5 F (k_X4_putInOrder_5 F n))
    unfold kb_X4_putInOrder_5
    exact snd_iload (pc := 5) (i := 4) dX4_putInOrder_5 (snd_aload_n (pc := 7) (i := 1) dX4_putInOrder_7 (snd_getf (pc := 8) cls7 (f := 12) (by decide) wd_214 dX4_putInOrder_8 (snd_icmpge (pc := 11) (off := 84) (tgt := 95) (by decide) dX4_putInOrder_11 (snd_iload_n (pc := 95) (i := 3) dX4_putInOrder_95 (snd_ireturn dX4_putInOrder_96)) (snd_iload_n (pc := 14) (i := 2) dX4_putInOrder_14 (snd_iload (pc := 15) (i := 4) dX4_putInOrder_15 (snd_ishr (pc := 17) dX4_putInOrder_17 (snd_iconst (pc := 18) dX4_putInOrder_18 (snd_iand (pc := 19) dX4_putInOrder_19 (snd_ifeq (pc := 20) (off := 69) (tgt := 89) (by decide) dX4_putInOrder_20 ((sk_X4_putInOrder_89 F ih)) (snd_iload_n (pc := 23) (i := 3) dX4_putInOrder_23 (snd_istore (pc := 24) (i := 5) (by decide) dX4_putInOrder_24 ((sk_X4_putInOrder_26 F ih F)))))))))))))
noncomputable def k_X4_putInOrder (F : Nat) : AK := ak_push (vI 0) (ak_istore 3 (ak_push (vI 0) (ak_istore 4 ((k_X4_putInOrder_5 F F)))))
noncomputable def m_X4_putInOrder (F : Nat) : AF := mkF 1 6 (k_X4_putInOrder F)
set_option maxRecDepth 20000 in
theorem s_X4_putInOrder (F : Nat) : MA yX4_putInOrder cX4_putInOrder 6 (some .int) 0 (m_X4_putInOrder F) := met_of (Or.inr (Or.inl ⟨rfl, rfl⟩)) (by decide) (by
  unfold k_X4_putInOrder
  exact snd_iconst (pc := 0) dX4_putInOrder_0 (snd_istore_n (pc := 1) (i := 3) (by decide) dX4_putInOrder_1 (snd_iconst (pc := 2) dX4_putInOrder_2 (snd_istore (pc := 3) (i := 4) (by decide) dX4_putInOrder_3 ((sk_X4_putInOrder_5 F F))))))

/-! LastWalker$Outing.payForWay(I)V -/
theorem dX4_payForWay_0 : decode cX4_payForWay 0 = .ok (.iconst 0, 1) := by decide +kernel
theorem dX4_payForWay_1 : decode cX4_payForWay 1 = .ok (.istore_n 2, 1) := by decide +kernel
theorem dX4_payForWay_2 : decode cX4_payForWay 2 = .ok (.iload_n 2, 1) := by decide +kernel
theorem dX4_payForWay_3 : decode cX4_payForWay 3 = .ok (.aload_n 0, 1) := by decide +kernel
theorem dX4_payForWay_4 : decode cX4_payForWay 4 = .ok (.getfield 9, 3) := by decide +kernel
theorem dX4_payForWay_7 : decode cX4_payForWay 7 = .ok (.getfield 142, 3) := by decide +kernel
theorem dX4_payForWay_10 : decode cX4_payForWay 10 = .ok (.if_icmp .ge 87, 3) := by decide +kernel
theorem dX4_payForWay_13 : decode cX4_payForWay 13 = .ok (.aload_n 0, 1) := by decide +kernel
theorem dX4_payForWay_14 : decode cX4_payForWay 14 = .ok (.getfield 9, 3) := by decide +kernel
theorem dX4_payForWay_17 : decode cX4_payForWay 17 = .ok (.getfield 145, 3) := by decide +kernel
theorem dX4_payForWay_20 : decode cX4_payForWay 20 = .ok (.iload_n 2, 1) := by decide +kernel
theorem dX4_payForWay_21 : decode cX4_payForWay 21 = .ok (.iaload, 1) := by decide +kernel
theorem dX4_payForWay_22 : decode cX4_payForWay 22 = .ok (.istore_n 3, 1) := by decide +kernel
theorem dX4_payForWay_23 : decode cX4_payForWay 23 = .ok (.aload_n 0, 1) := by decide +kernel
theorem dX4_payForWay_24 : decode cX4_payForWay 24 = .ok (.getfield 9, 3) := by decide +kernel
theorem dX4_payForWay_27 : decode cX4_payForWay 27 = .ok (.iload_n 3, 1) := by decide +kernel
theorem dX4_payForWay_28 : decode cX4_payForWay 28 = .ok (.invokevirtual 148, 3) := by decide +kernel
theorem dX4_payForWay_31 : decode cX4_payForWay 31 = .ok (.istore 4, 2) := by decide +kernel
theorem dX4_payForWay_33 : decode cX4_payForWay 33 = .ok (.aload_n 0, 1) := by decide +kernel
theorem dX4_payForWay_34 : decode cX4_payForWay 34 = .ok (.getfield 22, 3) := by decide +kernel
theorem dX4_payForWay_37 : decode cX4_payForWay 37 = .ok (.iload_n 3, 1) := by decide +kernel
theorem dX4_payForWay_38 : decode cX4_payForWay 38 = .ok (.dup2, 1) := by decide +kernel
theorem dX4_payForWay_39 : decode cX4_payForWay 39 = .ok (.iaload, 1) := by decide +kernel
theorem dX4_payForWay_40 : decode cX4_payForWay 40 = .ok (.iconst 1, 1) := by decide +kernel
theorem dX4_payForWay_41 : decode cX4_payForWay 41 = .ok (.iadd, 1) := by decide +kernel
theorem dX4_payForWay_42 : decode cX4_payForWay 42 = .ok (.iastore, 1) := by decide +kernel
theorem dX4_payForWay_43 : decode cX4_payForWay 43 = .ok (.aload_n 0, 1) := by decide +kernel
theorem dX4_payForWay_44 : decode cX4_payForWay 44 = .ok (.getfield 19, 3) := by decide +kernel
theorem dX4_payForWay_47 : decode cX4_payForWay 47 = .ok (.iload_n 3, 1) := by decide +kernel
theorem dX4_payForWay_48 : decode cX4_payForWay 48 = .ok (.dup2, 1) := by decide +kernel
theorem dX4_payForWay_49 : decode cX4_payForWay 49 = .ok (.iaload, 1) := by decide +kernel
theorem dX4_payForWay_50 : decode cX4_payForWay 50 = .ok (.iload 4, 2) := by decide +kernel
theorem dX4_payForWay_52 : decode cX4_payForWay 52 = .ok (.iadd, 1) := by decide +kernel
theorem dX4_payForWay_53 : decode cX4_payForWay 53 = .ok (.iastore, 1) := by decide +kernel
theorem dX4_payForWay_54 : decode cX4_payForWay 54 = .ok (.aload_n 0, 1) := by decide +kernel
theorem dX4_payForWay_55 : decode cX4_payForWay 55 = .ok (.getfield 34, 3) := by decide +kernel
theorem dX4_payForWay_58 : decode cX4_payForWay 58 = .ok (.iload_n 1, 1) := by decide +kernel
theorem dX4_payForWay_59 : decode cX4_payForWay 59 = .ok (.dup2, 1) := by decide +kernel
theorem dX4_payForWay_60 : decode cX4_payForWay 60 = .ok (.iaload, 1) := by decide +kernel
theorem dX4_payForWay_61 : decode cX4_payForWay 61 = .ok (.iload 4, 2) := by decide +kernel
theorem dX4_payForWay_63 : decode cX4_payForWay 63 = .ok (.iadd, 1) := by decide +kernel
theorem dX4_payForWay_64 : decode cX4_payForWay 64 = .ok (.iastore, 1) := by decide +kernel
theorem dX4_payForWay_65 : decode cX4_payForWay 65 = .ok (.aload_n 0, 1) := by decide +kernel
theorem dX4_payForWay_66 : decode cX4_payForWay 66 = .ok (.getfield 15, 3) := by decide +kernel
theorem dX4_payForWay_69 : decode cX4_payForWay 69 = .ok (.iload_n 3, 1) := by decide +kernel
theorem dX4_payForWay_70 : decode cX4_payForWay 70 = .ok (.iaload, 1) := by decide +kernel
theorem dX4_payForWay_71 : decode cX4_payForWay 71 = .ok (.iconst (-1), 1) := by decide +kernel
theorem dX4_payForWay_72 : decode cX4_payForWay 72 = .ok (.if_icmp .eq 19, 3) := by decide +kernel
theorem dX4_payForWay_75 : decode cX4_payForWay 75 = .ok (.aload_n 0, 1) := by decide +kernel
theorem dX4_payForWay_76 : decode cX4_payForWay 76 = .ok (.getfield 37, 3) := by decide +kernel
theorem dX4_payForWay_79 : decode cX4_payForWay 79 = .ok (.aload_n 0, 1) := by decide +kernel
theorem dX4_payForWay_80 : decode cX4_payForWay 80 = .ok (.getfield 15, 3) := by decide +kernel
theorem dX4_payForWay_83 : decode cX4_payForWay 83 = .ok (.iload_n 3, 1) := by decide +kernel
theorem dX4_payForWay_84 : decode cX4_payForWay 84 = .ok (.iaload, 1) := by decide +kernel
theorem dX4_payForWay_85 : decode cX4_payForWay 85 = .ok (.dup2, 1) := by decide +kernel
theorem dX4_payForWay_86 : decode cX4_payForWay 86 = .ok (.iaload, 1) := by decide +kernel
theorem dX4_payForWay_87 : decode cX4_payForWay 87 = .ok (.iload 4, 2) := by decide +kernel
theorem dX4_payForWay_89 : decode cX4_payForWay 89 = .ok (.iadd, 1) := by decide +kernel
theorem dX4_payForWay_90 : decode cX4_payForWay 90 = .ok (.iastore, 1) := by decide +kernel
theorem dX4_payForWay_91 : decode cX4_payForWay 91 = .ok (.iinc 2 1, 3) := by decide +kernel
theorem dX4_payForWay_94 : decode cX4_payForWay 94 = .ok (.goto (-92), 3) := by decide +kernel
theorem dX4_payForWay_97 : decode cX4_payForWay 97 = .ok (.return_, 1) := by decide +kernel
noncomputable def k_X4_payForWay_91 (F : Nat) (h2 : AK) : AK := ak_iinc 2 1 h2
set_option maxRecDepth 20000 in
theorem sk_X4_payForWay_91 (F : Nat) {h2 : AK} (hh2 : Snd X0 RX4 cX4_payForWay 5 1 2 h2) : Snd X0 RX4 cX4_payForWay 5 1 91 (k_X4_payForWay_91 F h2) := by
  unfold k_X4_payForWay_91
  exact snd_iinc (pc := 91) (i := 2) (n := 1) (by decide) dX4_payForWay_91 (snd_goto (pc := 94) (off := (-92)) (tgt := 2) (by decide) dX4_payForWay_94 (hh2))
noncomputable def kb_X4_payForWay_2 (F : Nat) (self : AK) : AK := ak_iload 2 (ak_aload 0 (ak_getf 4 5 (ak_getf 3 2 (ak_cmplt (ak_aload 0 (ak_getf 4 5 (ak_getf 3 1 (ak_iload 2 (ak_iald (ak_istore 3 (ak_aload 0 (ak_getf 4 5 (ak_iload 3 (ak_callv 3 1 (m_X3_toll F) (ak_istore 4 (ak_aload 0 (ak_getf 4 2 (ak_iload 3 (ak_dup2 (ak_iald (ak_push (vI 1) (ak_iadd (ak_iast (ak_aload 0 (ak_getf 4 1 (ak_iload 3 (ak_dup2 (ak_iald (ak_iload 4 (ak_iadd (ak_iast (ak_aload 0 (ak_getf 4 9 (ak_iload 1 (ak_dup2 (ak_iald (ak_iload 4 (ak_iadd (ak_iast (ak_aload 0 (ak_getf 4 0 (ak_iload 3 (ak_iald (ak_push (vI (-1)) (ak_cmpeq ((k_X4_payForWay_91 F self)) (ak_aload 0 (ak_getf 4 10 (ak_aload 0 (ak_getf 4 0 (ak_iload 3 (ak_iald (ak_dup2 (ak_iald (ak_iload 4 (ak_iadd (ak_iast ((k_X4_payForWay_91 F self)))))))))))))))))))))))))))))))))))))))))))))))))))))) (ak_return)))))
noncomputable def k_X4_payForWay_2 (F : Nat) (n : Nat) : AK := Nat.rec (motive := fun _ => AK) ak_none (fun _ self => kb_X4_payForWay_2 F self) n
set_option maxRecDepth 20000 in
theorem sk_X4_payForWay_2 (F : Nat) : ∀ n, Snd X0 RX4 cX4_payForWay 5 1 2 (k_X4_payForWay_2 F n) := by
  intro n
  induction n with
  | zero => exact snd_none
  | succ n ih =>
    show Snd X0 RX4 cX4_payForWay 5 1 2 (kb_X4_payForWay_2 F (k_X4_payForWay_2 F n))
    unfold kb_X4_payForWay_2
    exact snd_iload_n (pc := 2) (i := 2) dX4_payForWay_2 (snd_aload_n (pc := 3) (i := 0) dX4_payForWay_3 (snd_getf (pc := 4) cls4 (f := 5) (by decide) wd_551 dX4_payForWay_4 (snd_getf (pc := 7) cls3 (f := 2) (by decide) wd_477 dX4_payForWay_7 (snd_icmpge (pc := 10) (off := 87) (tgt := 97) (by decide) dX4_payForWay_10 (snd_return dX4_payForWay_97) (snd_aload_n (pc := 13) (i := 0) dX4_payForWay_13 (snd_getf (pc := 14) cls4 (f := 5) (by decide) wd_551 dX4_payForWay_14 (snd_getf (pc := 17) cls3 (f := 1) (by decide) wd_475 dX4_payForWay_17 (snd_iload_n (pc := 20) (i := 2) dX4_payForWay_20 (snd_iald (pc := 21) dX4_payForWay_21 (snd_istore_n (pc := 22) (i := 3) (by decide) dX4_payForWay_22 (snd_aload_n (pc := 23) (i := 0) dX4_payForWay_23 (snd_getf (pc := 24) cls4 (f := 5) (by decide) wd_551 dX4_payForWay_24 (snd_iload_n (pc := 27) (i := 3) dX4_payForWay_27 (snd_callV (pc := 28) (n := 1) cls3 (s_X3_toll F) (by decide) (by decide) wd_1025 wd_1134 wd_1023 wd_1024 wd_126 hy_X3_toll dX4_payForWay_28 (snd_istore (pc := 31) (i := 4) (by decide) dX4_payForWay_31 (snd_aload_n (pc := 33) (i := 0) dX4_payForWay_33 (snd_getf (pc := 34) cls4 (f := 2) (by decide) wd_545 dX4_payForWay_34 (snd_iload_n (pc := 37) (i := 3) dX4_payForWay_37 (snd_dup2 (pc := 38) dX4_payForWay_38 (snd_iald (pc := 39) dX4_payForWay_39 (snd_iconst (pc := 40) dX4_payForWay_40 (snd_iadd (pc := 41) dX4_payForWay_41 (snd_iast (pc := 42) dX4_payForWay_42 (snd_aload_n (pc := 43) (i := 0) dX4_payForWay_43 (snd_getf (pc := 44) cls4 (f := 1) (by decide) wd_543 dX4_payForWay_44 (snd_iload_n (pc := 47) (i := 3) dX4_payForWay_47 (snd_dup2 (pc := 48) dX4_payForWay_48 (snd_iald (pc := 49) dX4_payForWay_49 (snd_iload (pc := 50) (i := 4) dX4_payForWay_50 (snd_iadd (pc := 52) dX4_payForWay_52 (snd_iast (pc := 53) dX4_payForWay_53 (snd_aload_n (pc := 54) (i := 0) dX4_payForWay_54 (snd_getf (pc := 55) cls4 (f := 9) (by decide) wd_555 dX4_payForWay_55 (snd_iload_n (pc := 58) (i := 1) dX4_payForWay_58 (snd_dup2 (pc := 59) dX4_payForWay_59 (snd_iald (pc := 60) dX4_payForWay_60 (snd_iload (pc := 61) (i := 4) dX4_payForWay_61 (snd_iadd (pc := 63) dX4_payForWay_63 (snd_iast (pc := 64) dX4_payForWay_64 (snd_aload_n (pc := 65) (i := 0) dX4_payForWay_65 (snd_getf (pc := 66) cls4 (f := 0) (by decide) wd_541 dX4_payForWay_66 (snd_iload_n (pc := 69) (i := 3) dX4_payForWay_69 (snd_iald (pc := 70) dX4_payForWay_70 (snd_iconst (pc := 71) dX4_payForWay_71 (snd_icmpeq (pc := 72) (off := 19) (tgt := 91) (by decide) dX4_payForWay_72 ((sk_X4_payForWay_91 F ih)) (snd_aload_n (pc := 75) (i := 0) dX4_payForWay_75 (snd_getf (pc := 76) cls4 (f := 10) (by decide) wd_556 dX4_payForWay_76 (snd_aload_n (pc := 79) (i := 0) dX4_payForWay_79 (snd_getf (pc := 80) cls4 (f := 0) (by decide) wd_541 dX4_payForWay_80 (snd_iload_n (pc := 83) (i := 3) dX4_payForWay_83 (snd_iald (pc := 84) dX4_payForWay_84 (snd_dup2 (pc := 85) dX4_payForWay_85 (snd_iald (pc := 86) dX4_payForWay_86 (snd_iload (pc := 87) (i := 4) dX4_payForWay_87 (snd_iadd (pc := 89) dX4_payForWay_89 (snd_iast (pc := 90) dX4_payForWay_90 ((sk_X4_payForWay_91 F ih))))))))))))))))))))))))))))))))))))))))))))))))))))))))))
noncomputable def k_X4_payForWay (F : Nat) : AK := ak_push (vI 0) (ak_istore 2 ((k_X4_payForWay_2 F F)))
noncomputable def m_X4_payForWay (F : Nat) : AF := mkF 0 5 (k_X4_payForWay F)
set_option maxRecDepth 20000 in
theorem s_X4_payForWay (F : Nat) : MA yX4_payForWay cX4_payForWay 5 none 1 (m_X4_payForWay F) := met_of (Or.inl ⟨rfl, rfl⟩) (by decide) (by
  unfold k_X4_payForWay
  exact snd_iconst (pc := 0) dX4_payForWay_0 (snd_istore_n (pc := 1) (i := 2) (by decide) dX4_payForWay_1 ((sk_X4_payForWay_2 F F))))

/-! LastWalker$Outing.walkBest(LLastWalker$Town;II)V -/
theorem dX4_walkBest_0 : decode cX4_walkBest 0 = .ok (.aload_n 1, 1) := by decide +kernel
theorem dX4_walkBest_1 : decode cX4_walkBest 1 = .ok (.getfield 93, 3) := by decide +kernel
theorem dX4_walkBest_4 : decode cX4_walkBest 4 = .ok (.iload_n 2, 1) := by decide +kernel
theorem dX4_walkBest_5 : decode cX4_walkBest 5 = .ok (.iaload, 1) := by decide +kernel
theorem dX4_walkBest_6 : decode cX4_walkBest 6 = .ok (.istore 4, 2) := by decide +kernel
theorem dX4_walkBest_8 : decode cX4_walkBest 8 = .ok (.aload_n 1, 1) := by decide +kernel
theorem dX4_walkBest_9 : decode cX4_walkBest 9 = .ok (.getfield 114, 3) := by decide +kernel
theorem dX4_walkBest_12 : decode cX4_walkBest 12 = .ok (.iload_n 2, 1) := by decide +kernel
theorem dX4_walkBest_13 : decode cX4_walkBest 13 = .ok (.iaload, 1) := by decide +kernel
theorem dX4_walkBest_14 : decode cX4_walkBest 14 = .ok (.istore 5, 2) := by decide +kernel
theorem dX4_walkBest_16 : decode cX4_walkBest 16 = .ok (.aload_n 0, 1) := by decide +kernel
theorem dX4_walkBest_17 : decode cX4_walkBest 17 = .ok (.getfield 9, 3) := by decide +kernel
theorem dX4_walkBest_20 : decode cX4_walkBest 20 = .ok (.getfield 123, 3) := by decide +kernel
theorem dX4_walkBest_23 : decode cX4_walkBest 23 = .ok (.iload_n 3, 1) := by decide +kernel
theorem dX4_walkBest_24 : decode cX4_walkBest 24 = .ok (.isub, 1) := by decide +kernel
theorem dX4_walkBest_25 : decode cX4_walkBest 25 = .ok (.istore 6, 2) := by decide +kernel
theorem dX4_walkBest_27 : decode cX4_walkBest 27 = .ok (.aload_n 0, 1) := by decide +kernel
theorem dX4_walkBest_28 : decode cX4_walkBest 28 = .ok (.getfield 31, 3) := by decide +kernel
theorem dX4_walkBest_31 : decode cX4_walkBest 31 = .ok (.iload 4, 2) := by decide +kernel
theorem dX4_walkBest_33 : decode cX4_walkBest 33 = .ok (.dup2, 1) := by decide +kernel
theorem dX4_walkBest_34 : decode cX4_walkBest 34 = .ok (.iaload, 1) := by decide +kernel
theorem dX4_walkBest_35 : decode cX4_walkBest 35 = .ok (.iload 6, 2) := by decide +kernel
theorem dX4_walkBest_37 : decode cX4_walkBest 37 = .ok (.iadd, 1) := by decide +kernel
theorem dX4_walkBest_38 : decode cX4_walkBest 38 = .ok (.iastore, 1) := by decide +kernel
theorem dX4_walkBest_39 : decode cX4_walkBest 39 = .ok (.aload_n 0, 1) := by decide +kernel
theorem dX4_walkBest_40 : decode cX4_walkBest 40 = .ok (.getfield 40, 3) := by decide +kernel
theorem dX4_walkBest_43 : decode cX4_walkBest 43 = .ok (.iload 4, 2) := by decide +kernel
theorem dX4_walkBest_45 : decode cX4_walkBest 45 = .ok (.dup2, 1) := by decide +kernel
theorem dX4_walkBest_46 : decode cX4_walkBest 46 = .ok (.iaload, 1) := by decide +kernel
theorem dX4_walkBest_47 : decode cX4_walkBest 47 = .ok (.iload 6, 2) := by decide +kernel
theorem dX4_walkBest_49 : decode cX4_walkBest 49 = .ok (.aload_n 0, 1) := by decide +kernel
theorem dX4_walkBest_50 : decode cX4_walkBest 50 = .ok (.getfield 9, 3) := by decide +kernel
theorem dX4_walkBest_53 : decode cX4_walkBest 53 = .ok (.getfield 126, 3) := by decide +kernel
theorem dX4_walkBest_56 : decode cX4_walkBest 56 = .ok (.getfield 130, 3) := by decide +kernel
theorem dX4_walkBest_59 : decode cX4_walkBest 59 = .ok (.aload_n 0, 1) := by decide +kernel
theorem dX4_walkBest_60 : decode cX4_walkBest 60 = .ok (.getfield 25, 3) := by decide +kernel
theorem dX4_walkBest_63 : decode cX4_walkBest 63 = .ok (.iload 4, 2) := by decide +kernel
theorem dX4_walkBest_65 : decode cX4_walkBest 65 = .ok (.iaload, 1) := by decide +kernel
theorem dX4_walkBest_66 : decode cX4_walkBest 66 = .ok (.bipush 9, 2) := by decide +kernel
theorem dX4_walkBest_68 : decode cX4_walkBest 68 = .ok (.imul, 1) := by decide +kernel
theorem dX4_walkBest_69 : decode cX4_walkBest 69 = .ok (.iload 5, 2) := by decide +kernel
theorem dX4_walkBest_71 : decode cX4_walkBest 71 = .ok (.iadd, 1) := by decide +kernel
theorem dX4_walkBest_72 : decode cX4_walkBest 72 = .ok (.iaload, 1) := by decide +kernel
theorem dX4_walkBest_73 : decode cX4_walkBest 73 = .ok (.isub, 1) := by decide +kernel
theorem dX4_walkBest_74 : decode cX4_walkBest 74 = .ok (.iadd, 1) := by decide +kernel
theorem dX4_walkBest_75 : decode cX4_walkBest 75 = .ok (.iastore, 1) := by decide +kernel
theorem dX4_walkBest_76 : decode cX4_walkBest 76 = .ok (.aload_n 0, 1) := by decide +kernel
theorem dX4_walkBest_77 : decode cX4_walkBest 77 = .ok (.dup, 1) := by decide +kernel
theorem dX4_walkBest_78 : decode cX4_walkBest 78 = .ok (.getfield 77, 3) := by decide +kernel
theorem dX4_walkBest_81 : decode cX4_walkBest 81 = .ok (.iload_n 3, 1) := by decide +kernel
theorem dX4_walkBest_82 : decode cX4_walkBest 82 = .ok (.aload_n 1, 1) := by decide +kernel
theorem dX4_walkBest_83 : decode cX4_walkBest 83 = .ok (.getfield 96, 3) := by decide +kernel
theorem dX4_walkBest_86 : decode cX4_walkBest 86 = .ok (.iload_n 2, 1) := by decide +kernel
theorem dX4_walkBest_87 : decode cX4_walkBest 87 = .ok (.iaload, 1) := by decide +kernel
theorem dX4_walkBest_88 : decode cX4_walkBest 88 = .ok (.isub, 1) := by decide +kernel
theorem dX4_walkBest_89 : decode cX4_walkBest 89 = .ok (.iadd, 1) := by decide +kernel
theorem dX4_walkBest_90 : decode cX4_walkBest 90 = .ok (.putfield 77, 3) := by decide +kernel
theorem dX4_walkBest_93 : decode cX4_walkBest 93 = .ok (.aload_n 0, 1) := by decide +kernel
theorem dX4_walkBest_94 : decode cX4_walkBest 94 = .ok (.aload_n 0, 1) := by decide +kernel
theorem dX4_walkBest_95 : decode cX4_walkBest 95 = .ok (.getfield 74, 3) := by decide +kernel
theorem dX4_walkBest_98 : decode cX4_walkBest 98 = .ok (.aload_n 0, 1) := by decide +kernel
theorem dX4_walkBest_99 : decode cX4_walkBest 99 = .ok (.getfield 9, 3) := by decide +kernel
theorem dX4_walkBest_102 : decode cX4_walkBest 102 = .ok (.getfield 123, 3) := by decide +kernel
theorem dX4_walkBest_105 : decode cX4_walkBest 105 = .ok (.invokestatic 99, 3) := by decide +kernel
theorem dX4_walkBest_108 : decode cX4_walkBest 108 = .ok (.putfield 74, 3) := by decide +kernel
theorem dX4_walkBest_111 : decode cX4_walkBest 111 = .ok (.aload_n 0, 1) := by decide +kernel
theorem dX4_walkBest_112 : decode cX4_walkBest 112 = .ok (.getfield 25, 3) := by decide +kernel
theorem dX4_walkBest_115 : decode cX4_walkBest 115 = .ok (.iload 4, 2) := by decide +kernel
theorem dX4_walkBest_117 : decode cX4_walkBest 117 = .ok (.iload 5, 2) := by decide +kernel
theorem dX4_walkBest_119 : decode cX4_walkBest 119 = .ok (.iastore, 1) := by decide +kernel
theorem dX4_walkBest_120 : decode cX4_walkBest 120 = .ok (.aload_n 0, 1) := by decide +kernel
theorem dX4_walkBest_121 : decode cX4_walkBest 121 = .ok (.getfield 28, 3) := by decide +kernel
theorem dX4_walkBest_124 : decode cX4_walkBest 124 = .ok (.iload 4, 2) := by decide +kernel
theorem dX4_walkBest_126 : decode cX4_walkBest 126 = .ok (.aload_n 0, 1) := by decide +kernel
theorem dX4_walkBest_127 : decode cX4_walkBest 127 = .ok (.getfield 9, 3) := by decide +kernel
theorem dX4_walkBest_130 : decode cX4_walkBest 130 = .ok (.getfield 123, 3) := by decide +kernel
theorem dX4_walkBest_133 : decode cX4_walkBest 133 = .ok (.iastore, 1) := by decide +kernel
theorem dX4_walkBest_134 : decode cX4_walkBest 134 = .ok (.aload_n 0, 1) := by decide +kernel
theorem dX4_walkBest_135 : decode cX4_walkBest 135 = .ok (.iload 4, 2) := by decide +kernel
theorem dX4_walkBest_137 : decode cX4_walkBest 137 = .ok (.invokevirtual 135, 3) := by decide +kernel
theorem dX4_walkBest_140 : decode cX4_walkBest 140 = .ok (.aload_n 0, 1) := by decide +kernel
theorem dX4_walkBest_141 : decode cX4_walkBest 141 = .ok (.getfield 9, 3) := by decide +kernel
theorem dX4_walkBest_144 : decode cX4_walkBest 144 = .ok (.iload_n 3, 1) := by decide +kernel
theorem dX4_walkBest_145 : decode cX4_walkBest 145 = .ok (.invokevirtual 139, 3) := by decide +kernel
theorem dX4_walkBest_148 : decode cX4_walkBest 148 = .ok (.return_, 1) := by decide +kernel
noncomputable def k_X4_walkBest (F : Nat) : AK := ak_aload 1 (ak_getf 7 13 (ak_iload 2 (ak_iald (ak_istore 4 (ak_aload 1 (ak_getf 7 14 (ak_iload 2 (ak_iald (ak_istore 5 (ak_aload 0 (ak_getf 4 5 (ak_getf 3 3 (ak_iload 3 (ak_isub (ak_istore 6 (ak_aload 0 (ak_getf 4 8 (ak_iload 4 (ak_dup2 (ak_iald (ak_iload 6 (ak_iadd (ak_iast (ak_aload 0 (ak_getf 4 11 (ak_iload 4 (ak_dup2 (ak_iald (ak_iload 6 (ak_aload 0 (ak_getf 4 5 (ak_getf 3 0 (ak_getf 1 3 (ak_aload 0 (ak_getf 4 6 (ak_iload 4 (ak_iald (ak_push (vI 9) (ak_imul (ak_iload 5 (ak_iadd (ak_iald (ak_isub (ak_iadd (ak_iast (ak_aload 0 (ak_dup (ak_getf 4 4 (ak_iload 3 (ak_aload 1 (ak_getf 7 15 (ak_iload 2 (ak_iald (ak_isub (ak_iadd (ak_putf 4 4 (ak_aload 0 (ak_aload 0 (ak_getf 4 3 (ak_aload 0 (ak_getf 4 5 (ak_getf 3 3 (ak_imax (ak_putf 4 3 (ak_aload 0 (ak_getf 4 6 (ak_iload 4 (ak_iload 5 (ak_iast (ak_aload 0 (ak_getf 4 7 (ak_iload 4 (ak_aload 0 (ak_getf 4 5 (ak_getf 3 3 (ak_iast (ak_aload 0 (ak_iload 4 (ak_callv 4 1 (m_X4_payForWay F) (ak_aload 0 (ak_getf 4 5 (ak_iload 3 (ak_callv 3 1 (m_X3_takeRoadsOfBest F) ak_return)))))))))))))))))))))))))))))))))))))))))))))))))))))))))))))))))))))))))))))))))))
noncomputable def m_X4_walkBest (F : Nat) : AF := mkF 0 7 (k_X4_walkBest F)
set_option maxRecDepth 20000 in
theorem s_X4_walkBest (F : Nat) : MA yX4_walkBest cX4_walkBest 7 none 2 (m_X4_walkBest F) := met_of (Or.inl ⟨rfl, rfl⟩) (by decide) (by
  unfold k_X4_walkBest
  exact snd_aload_n (pc := 0) (i := 1) dX4_walkBest_0 (snd_getf (pc := 1) cls7 (f := 13) (by decide) wd_218 dX4_walkBest_1 (snd_iload_n (pc := 4) (i := 2) dX4_walkBest_4 (snd_iald (pc := 5) dX4_walkBest_5 (snd_istore (pc := 6) (i := 4) (by decide) dX4_walkBest_6 (snd_aload_n (pc := 8) (i := 1) dX4_walkBest_8 (snd_getf (pc := 9) cls7 (f := 14) (by decide) wd_222 dX4_walkBest_9 (snd_iload_n (pc := 12) (i := 2) dX4_walkBest_12 (snd_iald (pc := 13) dX4_walkBest_13 (snd_istore (pc := 14) (i := 5) (by decide) dX4_walkBest_14 (snd_aload_n (pc := 16) (i := 0) dX4_walkBest_16 (snd_getf (pc := 17) cls4 (f := 5) (by decide) wd_551 dX4_walkBest_17 (snd_getf (pc := 20) cls3 (f := 3) (by decide) wd_479 dX4_walkBest_20 (snd_iload_n (pc := 23) (i := 3) dX4_walkBest_23 (snd_isub (pc := 24) dX4_walkBest_24 (snd_istore (pc := 25) (i := 6) (by decide) dX4_walkBest_25 (snd_aload_n (pc := 27) (i := 0) dX4_walkBest_27 (snd_getf (pc := 28) cls4 (f := 8) (by decide) wd_554 dX4_walkBest_28 (snd_iload (pc := 31) (i := 4) dX4_walkBest_31 (snd_dup2 (pc := 33) dX4_walkBest_33 (snd_iald (pc := 34) dX4_walkBest_34 (snd_iload (pc := 35) (i := 6) dX4_walkBest_35 (snd_iadd (pc := 37) dX4_walkBest_37 (snd_iast (pc := 38) dX4_walkBest_38 (snd_aload_n (pc := 39) (i := 0) dX4_walkBest_39 (snd_getf (pc := 40) cls4 (f := 11) (by decide) wd_557 dX4_walkBest_40 (snd_iload (pc := 43) (i := 4) dX4_walkBest_43 (snd_dup2 (pc := 45) dX4_walkBest_45 (snd_iald (pc := 46) dX4_walkBest_46 (snd_iload (pc := 47) (i := 6) dX4_walkBest_47 (snd_aload_n (pc := 49) (i := 0) dX4_walkBest_49 (snd_getf (pc := 50) cls4 (f := 5) (by decide) wd_551 dX4_walkBest_50 (snd_getf (pc := 53) cls3 (f := 0) (by decide) wd_472 dX4_walkBest_53 (snd_getf (pc := 56) cls1 (f := 3) (by decide) wd_453 dX4_walkBest_56 (snd_aload_n (pc := 59) (i := 0) dX4_walkBest_59 (snd_getf (pc := 60) cls4 (f := 6) (by decide) wd_552 dX4_walkBest_60 (snd_iload (pc := 63) (i := 4) dX4_walkBest_63 (snd_iald (pc := 65) dX4_walkBest_65 (snd_bipush (pc := 66) (by decide) dX4_walkBest_66 (snd_imul (pc := 68) dX4_walkBest_68 (snd_iload (pc := 69) (i := 5) dX4_walkBest_69 (snd_iadd (pc := 71) dX4_walkBest_71 (snd_iald (pc := 72) dX4_walkBest_72 (snd_isub (pc := 73) dX4_walkBest_73 (snd_iadd (pc := 74) dX4_walkBest_74 (snd_iast (pc := 75) dX4_walkBest_75 (snd_aload_n (pc := 76) (i := 0) dX4_walkBest_76 (snd_dup (pc := 77) dX4_walkBest_77 (snd_getf (pc := 78) cls4 (f := 4) (by decide) wd_549 dX4_walkBest_78 (snd_iload_n (pc := 81) (i := 3) dX4_walkBest_81 (snd_aload_n (pc := 82) (i := 1) dX4_walkBest_82 (snd_getf (pc := 83) cls7 (f := 15) (by decide) wd_226 dX4_walkBest_83 (snd_iload_n (pc := 86) (i := 2) dX4_walkBest_86 (snd_iald (pc := 87) dX4_walkBest_87 (snd_isub (pc := 88) dX4_walkBest_88 (snd_iadd (pc := 89) dX4_walkBest_89 (snd_putf (pc := 90) cls4 (f := 4) (by decide) rfl rfl rfl wd_549 dX4_walkBest_90 (snd_aload_n (pc := 93) (i := 0) dX4_walkBest_93 (snd_aload_n (pc := 94) (i := 0) dX4_walkBest_94 (snd_getf (pc := 95) cls4 (f := 3) (by decide) wd_547 dX4_walkBest_95 (snd_aload_n (pc := 98) (i := 0) dX4_walkBest_98 (snd_getf (pc := 99) cls4 (f := 5) (by decide) wd_551 dX4_walkBest_99 (snd_getf (pc := 102) cls3 (f := 3) (by decide) wd_479 dX4_walkBest_102 (snd_imax (pc := 105) (by decide) wd_1123 wd_800 wd_130 wd_801 dX4_walkBest_105 (snd_putf (pc := 108) cls4 (f := 3) (by decide) rfl rfl rfl wd_547 dX4_walkBest_108 (snd_aload_n (pc := 111) (i := 0) dX4_walkBest_111 (snd_getf (pc := 112) cls4 (f := 6) (by decide) wd_552 dX4_walkBest_112 (snd_iload (pc := 115) (i := 4) dX4_walkBest_115 (snd_iload (pc := 117) (i := 5) dX4_walkBest_117 (snd_iast (pc := 119) dX4_walkBest_119 (snd_aload_n (pc := 120) (i := 0) dX4_walkBest_120 (snd_getf (pc := 121) cls4 (f := 7) (by decide) wd_553 dX4_walkBest_121 (snd_iload (pc := 124) (i := 4) dX4_walkBest_124 (snd_aload_n (pc := 126) (i := 0) dX4_walkBest_126 (snd_getf (pc := 127) cls4 (f := 5) (by decide) wd_551 dX4_walkBest_127 (snd_getf (pc := 130) cls3 (f := 3) (by decide) wd_479 dX4_walkBest_130 (snd_iast (pc := 133) dX4_walkBest_133 (snd_aload_n (pc := 134) (i := 0) dX4_walkBest_134 (snd_iload (pc := 135) (i := 4) dX4_walkBest_135 (snd_callV (pc := 137) (n := 1) cls4 (s_X4_payForWay F) (by decide) (by decide) wd_1133 wd_1130 wd_1132 wd_40 wd_128 hy_X4_payForWay dX4_walkBest_137 (snd_aload_n (pc := 140) (i := 0) dX4_walkBest_140 (snd_getf (pc := 141) cls4 (f := 5) (by decide) wd_551 dX4_walkBest_141 (snd_iload_n (pc := 144) (i := 3) dX4_walkBest_144 (snd_callV (pc := 145) (n := 1) cls3 (s_X3_takeRoadsOfBest F) (by decide) (by decide) wd_1065 wd_1135 wd_1063 wd_1064 wd_126 hy_X3_takeRoadsOfBest dX4_walkBest_145 (snd_return dX4_walkBest_148)))))))))))))))))))))))))))))))))))))))))))))))))))))))))))))))))))))))))))))))))))))

/-! LastWalker$Outing.goDay(LLastWalker$Town;I)V -/
theorem dX4_goDay_0 : decode cX4_goDay 0 = .ok (.aload_n 1, 1) := by decide +kernel
theorem dX4_goDay_1 : decode cX4_goDay 1 = .ok (.getfield 80, 3) := by decide +kernel
theorem dX4_goDay_4 : decode cX4_goDay 4 = .ok (.iconst 0, 1) := by decide +kernel
theorem dX4_goDay_5 : decode cX4_goDay 5 = .ok (.aload_n 0, 1) := by decide +kernel
theorem dX4_goDay_6 : decode cX4_goDay 6 = .ok (.getfield 25, 3) := by decide +kernel
theorem dX4_goDay_9 : decode cX4_goDay 9 = .ok (.iconst 0, 1) := by decide +kernel
theorem dX4_goDay_10 : decode cX4_goDay 10 = .ok (.bipush 8, 2) := by decide +kernel
theorem dX4_goDay_12 : decode cX4_goDay 12 = .ok (.invokestatic 83, 3) := by decide +kernel
theorem dX4_goDay_15 : decode cX4_goDay 15 = .ok (.aload_n 0, 1) := by decide +kernel
theorem dX4_goDay_16 : decode cX4_goDay 16 = .ok (.getfield 28, 3) := by decide +kernel
theorem dX4_goDay_19 : decode cX4_goDay 19 = .ok (.iconst 0, 1) := by decide +kernel
theorem dX4_goDay_20 : decode cX4_goDay 20 = .ok (.invokestatic 68, 3) := by decide +kernel
theorem dX4_goDay_23 : decode cX4_goDay 23 = .ok (.aload_n 0, 1) := by decide +kernel
theorem dX4_goDay_24 : decode cX4_goDay 24 = .ok (.aload_n 1, 1) := by decide +kernel
theorem dX4_goDay_25 : decode cX4_goDay 25 = .ok (.iload_n 2, 1) := by decide +kernel
theorem dX4_goDay_26 : decode cX4_goDay 26 = .ok (.invokevirtual 89, 3) := by decide +kernel
theorem dX4_goDay_29 : decode cX4_goDay 29 = .ok (.istore_n 3, 1) := by decide +kernel
theorem dX4_goDay_30 : decode cX4_goDay 30 = .ok (.iconst 0, 1) := by decide +kernel
theorem dX4_goDay_31 : decode cX4_goDay 31 = .ok (.istore 4, 2) := by decide +kernel
theorem dX4_goDay_33 : decode cX4_goDay 33 = .ok (.iload 4, 2) := by decide +kernel
theorem dX4_goDay_35 : decode cX4_goDay 35 = .ok (.iload_n 3, 1) := by decide +kernel
theorem dX4_goDay_36 : decode cX4_goDay 36 = .ok (.if_icmp .ge 102, 3) := by decide +kernel
theorem dX4_goDay_39 : decode cX4_goDay 39 = .ok (.aload_n 0, 1) := by decide +kernel
theorem dX4_goDay_40 : decode cX4_goDay 40 = .ok (.getfield 43, 3) := by decide +kernel
theorem dX4_goDay_43 : decode cX4_goDay 43 = .ok (.iload 4, 2) := by decide +kernel
theorem dX4_goDay_45 : decode cX4_goDay 45 = .ok (.iaload, 1) := by decide +kernel
theorem dX4_goDay_46 : decode cX4_goDay 46 = .ok (.istore 5, 2) := by decide +kernel
theorem dX4_goDay_48 : decode cX4_goDay 48 = .ok (.aload_n 1, 1) := by decide +kernel
theorem dX4_goDay_49 : decode cX4_goDay 49 = .ok (.getfield 93, 3) := by decide +kernel
theorem dX4_goDay_52 : decode cX4_goDay 52 = .ok (.iload 5, 2) := by decide +kernel
theorem dX4_goDay_54 : decode cX4_goDay 54 = .ok (.iaload, 1) := by decide +kernel
theorem dX4_goDay_55 : decode cX4_goDay 55 = .ok (.istore 6, 2) := by decide +kernel
theorem dX4_goDay_57 : decode cX4_goDay 57 = .ok (.aload_n 1, 1) := by decide +kernel
theorem dX4_goDay_58 : decode cX4_goDay 58 = .ok (.getfield 96, 3) := by decide +kernel
theorem dX4_goDay_61 : decode cX4_goDay 61 = .ok (.iload 5, 2) := by decide +kernel
theorem dX4_goDay_63 : decode cX4_goDay 63 = .ok (.iaload, 1) := by decide +kernel
theorem dX4_goDay_64 : decode cX4_goDay 64 = .ok (.aload_n 0, 1) := by decide +kernel
theorem dX4_goDay_65 : decode cX4_goDay 65 = .ok (.getfield 28, 3) := by decide +kernel
theorem dX4_goDay_68 : decode cX4_goDay 68 = .ok (.iload 6, 2) := by decide +kernel
theorem dX4_goDay_70 : decode cX4_goDay 70 = .ok (.iaload, 1) := by decide +kernel
theorem dX4_goDay_71 : decode cX4_goDay 71 = .ok (.invokestatic 99, 3) := by decide +kernel
theorem dX4_goDay_74 : decode cX4_goDay 74 = .ok (.istore 7, 2) := by decide +kernel
theorem dX4_goDay_76 : decode cX4_goDay 76 = .ok (.aload_n 0, 1) := by decide +kernel
theorem dX4_goDay_77 : decode cX4_goDay 77 = .ok (.getfield 9, 3) := by decide +kernel
theorem dX4_goDay_80 : decode cX4_goDay 80 = .ok (.aload_n 1, 1) := by decide +kernel
theorem dX4_goDay_81 : decode cX4_goDay 81 = .ok (.aload_n 0, 1) := by decide +kernel
theorem dX4_goDay_82 : decode cX4_goDay 82 = .ok (.getfield 15, 3) := by decide +kernel
theorem dX4_goDay_85 : decode cX4_goDay 85 = .ok (.iload 6, 2) := by decide +kernel
theorem dX4_goDay_87 : decode cX4_goDay 87 = .ok (.aload_n 1, 1) := by decide +kernel
theorem dX4_goDay_88 : decode cX4_goDay 88 = .ok (.getfield 105, 3) := by decide +kernel
theorem dX4_goDay_91 : decode cX4_goDay 91 = .ok (.iload 6, 2) := by decide +kernel
theorem dX4_goDay_93 : decode cX4_goDay 93 = .ok (.iaload, 1) := by decide +kernel
theorem dX4_goDay_94 : decode cX4_goDay 94 = .ok (.invokevirtual 108, 3) := by decide +kernel
theorem dX4_goDay_97 : decode cX4_goDay 97 = .ok (.aload_n 0, 1) := by decide +kernel
theorem dX4_goDay_98 : decode cX4_goDay 98 = .ok (.getfield 9, 3) := by decide +kernel
theorem dX4_goDay_101 : decode cX4_goDay 101 = .ok (.iload 7, 2) := by decide +kernel
theorem dX4_goDay_103 : decode cX4_goDay 103 = .ok (.aload_n 0, 1) := by decide +kernel
theorem dX4_goDay_104 : decode cX4_goDay 104 = .ok (.getfield 25, 3) := by decide +kernel
theorem dX4_goDay_107 : decode cX4_goDay 107 = .ok (.iload 6, 2) := by decide +kernel
theorem dX4_goDay_109 : decode cX4_goDay 109 = .ok (.iaload, 1) := by decide +kernel
theorem dX4_goDay_110 : decode cX4_goDay 110 = .ok (.aload_n 1, 1) := by decide +kernel
theorem dX4_goDay_111 : decode cX4_goDay 111 = .ok (.getfield 114, 3) := by decide +kernel
theorem dX4_goDay_114 : decode cX4_goDay 114 = .ok (.iload 5, 2) := by decide +kernel
theorem dX4_goDay_116 : decode cX4_goDay 116 = .ok (.iaload, 1) := by decide +kernel
theorem dX4_goDay_117 : decode cX4_goDay 117 = .ok (.invokevirtual 115, 3) := by decide +kernel
theorem dX4_goDay_120 : decode cX4_goDay 120 = .ok (.ifCond .eq 12, 3) := by decide +kernel
theorem dX4_goDay_123 : decode cX4_goDay 123 = .ok (.aload_n 0, 1) := by decide +kernel
theorem dX4_goDay_124 : decode cX4_goDay 124 = .ok (.aload_n 1, 1) := by decide +kernel
theorem dX4_goDay_125 : decode cX4_goDay 125 = .ok (.iload 5, 2) := by decide +kernel
theorem dX4_goDay_127 : decode cX4_goDay 127 = .ok (.iload 7, 2) := by decide +kernel
theorem dX4_goDay_129 : decode cX4_goDay 129 = .ok (.invokevirtual 119, 3) := by decide +kernel
theorem dX4_goDay_132 : decode cX4_goDay 132 = .ok (.iinc 4 1, 3) := by decide +kernel
theorem dX4_goDay_135 : decode cX4_goDay 135 = .ok (.goto (-102), 3) := by decide +kernel
theorem dX4_goDay_138 : decode cX4_goDay 138 = .ok (.return_, 1) := by decide +kernel
noncomputable def k_X4_goDay_132 (F : Nat) (h33 : AK) : AK := ak_iinc 4 1 h33
set_option maxRecDepth 20000 in
theorem sk_X4_goDay_132 (F : Nat) {h33 : AK} (hh33 : Snd X0 RX4 cX4_goDay 8 16 33 h33) : Snd X0 RX4 cX4_goDay 8 16 132 (k_X4_goDay_132 F h33) := by
  unfold k_X4_goDay_132
  exact snd_iinc (pc := 132) (i := 4) (n := 1) (by decide) dX4_goDay_132 (snd_goto (pc := 135) (off := (-102)) (tgt := 33) (by decide) dX4_goDay_135 (hh33))
noncomputable def kb_X4_goDay_33 (F : Nat) (self : AK) : AK := ak_iload 4 (ak_iload 3 (ak_cmplt (ak_aload 0 (ak_getf 4 12 (ak_iload 4 (ak_iald (ak_istore 5 (ak_aload 1 (ak_getf 7 13 (ak_iload 5 (ak_iald (ak_istore 6 (ak_aload 1 (ak_getf 7 15 (ak_iload 5 (ak_iald (ak_aload 0 (ak_getf 4 7 (ak_iload 6 (ak_iald (ak_imax (ak_istore 7 (ak_aload 0 (ak_getf 4 5 (ak_aload 1 (ak_aload 0 (ak_getf 4 0 (ak_iload 6 (ak_aload 1 (ak_getf 7 11 (ak_iload 6 (ak_iald (ak_callv 3 4 (m_X3_take F) (ak_aload 0 (ak_getf 4 5 (ak_iload 7 (ak_aload 0 (ak_getf 4 6 (ak_iload 6 (ak_iald (ak_aload 1 (ak_getf 7 14 (ak_iload 5 (ak_iald (ak_callv 3 3 (m_X3_seekWay F) (ak_ifeq ((k_X4_goDay_132 F self)) (ak_aload 0 (ak_aload 1 (ak_iload 5 (ak_iload 7 (ak_callv 4 3 (m_X4_walkBest F) ((k_X4_goDay_132 F self))))))))))))))))))))))))))))))))))))))))))))))))))) (ak_return)))
noncomputable def k_X4_goDay_33 (F : Nat) (n : Nat) : AK := Nat.rec (motive := fun _ => AK) ak_none (fun _ self => kb_X4_goDay_33 F self) n
set_option maxRecDepth 20000 in
theorem sk_X4_goDay_33 (F : Nat) : ∀ n, Snd X0 RX4 cX4_goDay 8 16 33 (k_X4_goDay_33 F n) := by
  intro n
  induction n with
  | zero => exact snd_none
  | succ n ih =>
    show Snd X0 RX4 cX4_goDay 8 16 33 (kb_X4_goDay_33 F (k_X4_goDay_33 F n))
    unfold kb_X4_goDay_33
    exact snd_iload (pc := 33) (i := 4) dX4_goDay_33 (snd_iload_n (pc := 35) (i := 3) dX4_goDay_35 (snd_icmpge (pc := 36) (off := 102) (tgt := 138) (by decide) dX4_goDay_36 (snd_return dX4_goDay_138) (snd_aload_n (pc := 39) (i := 0) dX4_goDay_39 (snd_getf (pc := 40) cls4 (f := 12) (by decide) wd_558 dX4_goDay_40 (snd_iload (pc := 43) (i := 4) dX4_goDay_43 (snd_iald (pc := 45) dX4_goDay_45 (snd_istore (pc := 46) (i := 5) (by decide) dX4_goDay_46 (snd_aload_n (pc := 48) (i := 1) dX4_goDay_48 (snd_getf (pc := 49) cls7 (f := 13) (by decide) wd_218 dX4_goDay_49 (snd_iload (pc := 52) (i := 5) dX4_goDay_52 (snd_iald (pc := 54) dX4_goDay_54 (snd_istore (pc := 55) (i := 6) (by decide) dX4_goDay_55 (snd_aload_n (pc := 57) (i := 1) dX4_goDay_57 (snd_getf (pc := 58) cls7 (f := 15) (by decide) wd_226 dX4_goDay_58 (snd_iload (pc := 61) (i := 5) dX4_goDay_61 (snd_iald (pc := 63) dX4_goDay_63 (snd_aload_n (pc := 64) (i := 0) dX4_goDay_64 (snd_getf (pc := 65) cls4 (f := 7) (by decide) wd_553 dX4_goDay_65 (snd_iload (pc := 68) (i := 6) dX4_goDay_68 (snd_iald (pc := 70) dX4_goDay_70 (snd_imax (pc := 71) (by decide) wd_1123 wd_800 wd_130 wd_801 dX4_goDay_71 (snd_istore (pc := 74) (i := 7) (by decide) dX4_goDay_74 (snd_aload_n (pc := 76) (i := 0) dX4_goDay_76 (snd_getf (pc := 77) cls4 (f := 5) (by decide) wd_551 dX4_goDay_77 (snd_aload_n (pc := 80) (i := 1) dX4_goDay_80 (snd_aload_n (pc := 81) (i := 0) dX4_goDay_81 (snd_getf (pc := 82) cls4 (f := 0) (by decide) wd_541 dX4_goDay_82 (snd_iload (pc := 85) (i := 6) dX4_goDay_85 (snd_aload_n (pc := 87) (i := 1) dX4_goDay_87 (snd_getf (pc := 88) cls7 (f := 11) (by decide) wd_210 dX4_goDay_88 (snd_iload (pc := 91) (i := 6) dX4_goDay_91 (snd_iald (pc := 93) dX4_goDay_93 (snd_callV (pc := 94) (n := 4) cls3 (s_X3_take F) (by decide) (by decide) wd_1011 wd_1124 wd_1009 wd_1010 wd_126 hy_X3_take dX4_goDay_94 (snd_aload_n (pc := 97) (i := 0) dX4_goDay_97 (snd_getf (pc := 98) cls4 (f := 5) (by decide) wd_551 dX4_goDay_98 (snd_iload (pc := 101) (i := 7) dX4_goDay_101 (snd_aload_n (pc := 103) (i := 0) dX4_goDay_103 (snd_getf (pc := 104) cls4 (f := 6) (by decide) wd_552 dX4_goDay_104 (snd_iload (pc := 107) (i := 6) dX4_goDay_107 (snd_iald (pc := 109) dX4_goDay_109 (snd_aload_n (pc := 110) (i := 1) dX4_goDay_110 (snd_getf (pc := 111) cls7 (f := 14) (by decide) wd_222 dX4_goDay_111 (snd_iload (pc := 114) (i := 5) dX4_goDay_114 (snd_iald (pc := 116) dX4_goDay_116 (snd_callV (pc := 117) (n := 3) cls3 (s_X3_seekWay F) (by decide) (by decide) wd_1015 wd_1125 wd_1013 wd_1014 wd_126 hy_X3_seekWay dX4_goDay_117 (snd_ifeq (pc := 120) (off := 12) (tgt := 132) (by decide) dX4_goDay_120 ((sk_X4_goDay_132 F ih)) (snd_aload_n (pc := 123) (i := 0) dX4_goDay_123 (snd_aload_n (pc := 124) (i := 1) dX4_goDay_124 (snd_iload (pc := 125) (i := 5) dX4_goDay_125 (snd_iload (pc := 127) (i := 7) dX4_goDay_127 (snd_callV (pc := 129) (n := 3) cls4 (s_X4_walkBest F) (by decide) (by decide) wd_1129 wd_1126 wd_1128 wd_39 wd_128 hy_X4_walkBest dX4_goDay_129 ((sk_X4_goDay_132 F ih)))))))))))))))))))))))))))))))))))))))))))))))))))))
noncomputable def k_X4_goDay (F : Nat) : AK := ak_aload 1 (ak_getf 7 9 (ak_push (vI 0) (ak_aload 0 (ak_getf 4 6 (ak_push (vI 0) (ak_push (vI 8) (ak_copy0 (ak_aload 0 (ak_getf 4 7 (ak_push (vI 0) (ak_call 2 (m_J7_fill_53178 F) (ak_aload 0 (ak_aload 1 (ak_iload 2 (ak_callv 4 2 (m_X4_putInOrder F) (ak_istore 3 (ak_push (vI 0) (ak_istore 4 ((k_X4_goDay_33 F F))))))))))))))))))))
noncomputable def m_X4_goDay (F : Nat) : AF := mkF 0 8 (k_X4_goDay F)
set_option maxRecDepth 20000 in
theorem s_X4_goDay (F : Nat) : MA yX4_goDay cX4_goDay 8 none 16 (m_X4_goDay F) := met_of (Or.inl ⟨rfl, rfl⟩) (by decide) (by
  unfold k_X4_goDay
  exact snd_aload_n (pc := 0) (i := 1) dX4_goDay_0 (snd_getf (pc := 1) cls7 (f := 9) (by decide) wd_201 dX4_goDay_1 (snd_iconst (pc := 4) dX4_goDay_4 (snd_aload_n (pc := 5) (i := 0) dX4_goDay_5 (snd_getf (pc := 6) cls4 (f := 6) (by decide) wd_552 dX4_goDay_6 (snd_iconst (pc := 9) dX4_goDay_9 (snd_bipush (pc := 10) (by decide) dX4_goDay_10 (snd_copy (pc := 12) (by decide) wd_1118 wd_812 wd_811 wd_136 dX4_goDay_12 (snd_aload_n (pc := 15) (i := 0) dX4_goDay_15 (snd_getf (pc := 16) cls4 (f := 7) (by decide) wd_553 dX4_goDay_16 (snd_iconst (pc := 19) dX4_goDay_19 (snd_callS (pc := 20) (n := 2) (s_J7_fill_53178 F) (by decide) (by decide) wd_650 wd_1113 wd_649 wd_131 hy_J7_fill_53178 dX4_goDay_20 (snd_aload_n (pc := 23) (i := 0) dX4_goDay_23 (snd_aload_n (pc := 24) (i := 1) dX4_goDay_24 (snd_iload_n (pc := 25) (i := 2) dX4_goDay_25 (snd_callV (pc := 26) (n := 2) cls4 (s_X4_putInOrder F) (by decide) (by decide) wd_1122 wd_1119 wd_1121 wd_38 wd_128 hy_X4_putInOrder dX4_goDay_26 (snd_istore_n (pc := 29) (i := 3) (by decide) dX4_goDay_29 (snd_iconst (pc := 30) dX4_goDay_30 (snd_istore (pc := 31) (i := 4) (by decide) dX4_goDay_31 ((sk_X4_goDay_33 F F)))))))))))))))))))))

/-! LastWalker$Outing.goAll(LLastWalker$Town;I)V -/
theorem dX4_goAll_0 : decode cX4_goAll 0 = .ok (.aload_n 0, 1) := by decide +kernel
theorem dX4_goAll_1 : decode cX4_goAll 1 = .ok (.aload_n 1, 1) := by decide +kernel
theorem dX4_goAll_2 : decode cX4_goAll 2 = .ok (.invokevirtual 46, 3) := by decide +kernel
theorem dX4_goAll_5 : decode cX4_goAll 5 = .ok (.aload_n 0, 1) := by decide +kernel
theorem dX4_goAll_6 : decode cX4_goAll 6 = .ok (.aload_n 1, 1) := by decide +kernel
theorem dX4_goAll_7 : decode cX4_goAll 7 = .ok (.iload_n 2, 1) := by decide +kernel
theorem dX4_goAll_8 : decode cX4_goAll 8 = .ok (.invokevirtual 50, 3) := by decide +kernel
theorem dX4_goAll_11 : decode cX4_goAll 11 = .ok (.return_, 1) := by decide +kernel
noncomputable def k_X4_goAll (F : Nat) : AK := ak_aload 0 (ak_aload 1 (ak_callv 4 1 (m_X4_begin F) (ak_aload 0 (ak_aload 1 (ak_iload 2 (ak_callv 4 2 (m_X4_goDay F) ak_return))))))
noncomputable def m_X4_goAll (F : Nat) : AF := mkF 0 3 (k_X4_goAll F)
set_option maxRecDepth 20000 in
theorem s_X4_goAll (F : Nat) : MA yX4_goAll cX4_goAll 3 none 17 (m_X4_goAll F) := met_of (Or.inl ⟨rfl, rfl⟩) (by decide) (by
  unfold k_X4_goAll
  exact snd_aload_n (pc := 0) (i := 0) dX4_goAll_0 (snd_aload_n (pc := 1) (i := 1) dX4_goAll_1 (snd_callV (pc := 2) (n := 1) cls4 (s_X4_begin F) (by decide) (by decide) wd_1111 wd_1108 wd_1110 wd_36 wd_128 hy_X4_begin dX4_goAll_2 (snd_aload_n (pc := 5) (i := 0) dX4_goAll_5 (snd_aload_n (pc := 6) (i := 1) dX4_goAll_6 (snd_iload_n (pc := 7) (i := 2) dX4_goAll_7 (snd_callV (pc := 8) (n := 2) cls4 (s_X4_goDay F) (by decide) (by decide) wd_1117 wd_1114 wd_1116 wd_37 wd_128 hy_X4_goDay dX4_goAll_8 (snd_return dX4_goAll_11))))))))

/-! LastWalker$Outing.goDays(LLastWalker$Town;II)V -/
theorem dX4_goDays_0 : decode cX4_goDays 0 = .ok (.aload_n 0, 1) := by decide +kernel
theorem dX4_goDays_1 : decode cX4_goDays 1 = .ok (.aload_n 1, 1) := by decide +kernel
theorem dX4_goDays_2 : decode cX4_goDays 2 = .ok (.invokevirtual 46, 3) := by decide +kernel
theorem dX4_goDays_5 : decode cX4_goDays 5 = .ok (.iload_n 2, 1) := by decide +kernel
theorem dX4_goDays_6 : decode cX4_goDays 6 = .ok (.istore 4, 2) := by decide +kernel
theorem dX4_goDays_8 : decode cX4_goDays 8 = .ok (.iconst 0, 1) := by decide +kernel
theorem dX4_goDays_9 : decode cX4_goDays 9 = .ok (.istore 5, 2) := by decide +kernel
theorem dX4_goDays_11 : decode cX4_goDays 11 = .ok (.iload 5, 2) := by decide +kernel
theorem dX4_goDays_13 : decode cX4_goDays 13 = .ok (.iload_n 3, 1) := by decide +kernel
theorem dX4_goDays_14 : decode cX4_goDays 14 = .ok (.if_icmp .ge 75, 3) := by decide +kernel
theorem dX4_goDays_17 : decode cX4_goDays 17 = .ok (.iconst 0, 1) := by decide +kernel
theorem dX4_goDays_18 : decode cX4_goDays 18 = .ok (.istore 6, 2) := by decide +kernel
theorem dX4_goDays_20 : decode cX4_goDays 20 = .ok (.iconst 0, 1) := by decide +kernel
theorem dX4_goDays_21 : decode cX4_goDays 21 = .ok (.istore 7, 2) := by decide +kernel
theorem dX4_goDays_23 : decode cX4_goDays 23 = .ok (.iload 7, 2) := by decide +kernel
theorem dX4_goDays_25 : decode cX4_goDays 25 = .ok (.aload_n 1, 1) := by decide +kernel
theorem dX4_goDays_26 : decode cX4_goDays 26 = .ok (.getfield 54, 3) := by decide +kernel
theorem dX4_goDays_29 : decode cX4_goDays 29 = .ok (.if_icmp .ge 47, 3) := by decide +kernel
theorem dX4_goDays_32 : decode cX4_goDays 32 = .ok (.iload 4, 2) := by decide +kernel
theorem dX4_goDays_34 : decode cX4_goDays 34 = .ok (.ldc 60, 2) := by decide +kernel
theorem dX4_goDays_36 : decode cX4_goDays 36 = .ok (.imul, 1) := by decide +kernel
theorem dX4_goDays_37 : decode cX4_goDays 37 = .ok (.sipush 12345, 3) := by decide +kernel
theorem dX4_goDays_40 : decode cX4_goDays 40 = .ok (.iadd, 1) := by decide +kernel
theorem dX4_goDays_41 : decode cX4_goDays 41 = .ok (.istore 4, 2) := by decide +kernel
theorem dX4_goDays_43 : decode cX4_goDays 43 = .ok (.iload 4, 2) := by decide +kernel
theorem dX4_goDays_45 : decode cX4_goDays 45 = .ok (.bipush 16, 2) := by decide +kernel
theorem dX4_goDays_47 : decode cX4_goDays 47 = .ok (.iushr, 1) := by decide +kernel
theorem dX4_goDays_48 : decode cX4_goDays 48 = .ok (.bipush 100, 2) := by decide +kernel
theorem dX4_goDays_50 : decode cX4_goDays 50 = .ok (.irem, 1) := by decide +kernel
theorem dX4_goDays_51 : decode cX4_goDays 51 = .ok (.aload_n 1, 1) := by decide +kernel
theorem dX4_goDays_52 : decode cX4_goDays 52 = .ok (.getfield 61, 3) := by decide +kernel
theorem dX4_goDays_55 : decode cX4_goDays 55 = .ok (.iload 7, 2) := by decide +kernel
theorem dX4_goDays_57 : decode cX4_goDays 57 = .ok (.iaload, 1) := by decide +kernel
theorem dX4_goDays_58 : decode cX4_goDays 58 = .ok (.if_icmp .ge 12, 3) := by decide +kernel
theorem dX4_goDays_61 : decode cX4_goDays 61 = .ok (.iload 6, 2) := by decide +kernel
theorem dX4_goDays_63 : decode cX4_goDays 63 = .ok (.iconst 1, 1) := by decide +kernel
theorem dX4_goDays_64 : decode cX4_goDays 64 = .ok (.iload 7, 2) := by decide +kernel
theorem dX4_goDays_66 : decode cX4_goDays 66 = .ok (.ishl, 1) := by decide +kernel
theorem dX4_goDays_67 : decode cX4_goDays 67 = .ok (.ior, 1) := by decide +kernel
theorem dX4_goDays_68 : decode cX4_goDays 68 = .ok (.istore 6, 2) := by decide +kernel
theorem dX4_goDays_70 : decode cX4_goDays 70 = .ok (.iinc 7 1, 3) := by decide +kernel
theorem dX4_goDays_73 : decode cX4_goDays 73 = .ok (.goto (-50), 3) := by decide +kernel
theorem dX4_goDays_76 : decode cX4_goDays 76 = .ok (.aload_n 0, 1) := by decide +kernel
theorem dX4_goDays_77 : decode cX4_goDays 77 = .ok (.aload_n 1, 1) := by decide +kernel
theorem dX4_goDays_78 : decode cX4_goDays 78 = .ok (.iload 6, 2) := by decide +kernel
theorem dX4_goDays_80 : decode cX4_goDays 80 = .ok (.invokevirtual 50, 3) := by decide +kernel
theorem dX4_goDays_83 : decode cX4_goDays 83 = .ok (.iinc 5 1, 3) := by decide +kernel
theorem dX4_goDays_86 : decode cX4_goDays 86 = .ok (.goto (-75), 3) := by decide +kernel
theorem dX4_goDays_89 : decode cX4_goDays 89 = .ok (.return_, 1) := by decide +kernel
noncomputable def k_X4_goDays_70 (F : Nat) (h11 : AK) (h23 : AK) : AK := ak_iinc 7 1 h23
set_option maxRecDepth 20000 in
theorem sk_X4_goDays_70 (F : Nat) {h11 h23 : AK} (hh11 : Snd X0 RX4 cX4_goDays 8 17 11 h11) (hh23 : Snd X0 RX4 cX4_goDays 8 17 23 h23) : Snd X0 RX4 cX4_goDays 8 17 70 (k_X4_goDays_70 F h11 h23) := by
  unfold k_X4_goDays_70
  exact snd_iinc (pc := 70) (i := 7) (n := 1) (by decide) dX4_goDays_70 (snd_goto (pc := 73) (off := (-50)) (tgt := 23) (by decide) dX4_goDays_73 (hh23))
noncomputable def kb_X4_goDays_23 (F : Nat) (h11 : AK) (self : AK) : AK := ak_iload 7 (ak_aload 1 (ak_getf 7 12 (ak_cmplt (ak_iload 4 (ak_push (vI 1103515245) (ak_imul (ak_push (vI 12345) (ak_iadd (ak_istore 4 (ak_iload 4 (ak_push (vI 16) (ak_iushr (ak_push (vI 100) (ak_irem (ak_aload 1 (ak_getf 7 16 (ak_iload 7 (ak_iald (ak_cmplt (ak_iload 6 (ak_push (vI 1) (ak_iload 7 (ak_ishl (ak_ior (ak_istore 6 ((k_X4_goDays_70 F h11 self)))))))) ((k_X4_goDays_70 F h11 self)))))))))))))))))) (ak_aload 0 (ak_aload 1 (ak_iload 6 (ak_callv 4 2 (m_X4_goDay F) (ak_iinc 5 1 h11))))))))
noncomputable def k_X4_goDays_23 (F : Nat) (h11 : AK) (n : Nat) : AK := Nat.rec (motive := fun _ => AK) ak_none (fun _ self => kb_X4_goDays_23 F h11 self) n
set_option maxRecDepth 20000 in
theorem sk_X4_goDays_23 (F : Nat) {h11 : AK} (hh11 : Snd X0 RX4 cX4_goDays 8 17 11 h11) : ∀ n, Snd X0 RX4 cX4_goDays 8 17 23 (k_X4_goDays_23 F h11 n) := by
  intro n
  induction n with
  | zero => exact snd_none
  | succ n ih =>
    show Snd X0 RX4 cX4_goDays 8 17 23 (kb_X4_goDays_23 F h11 (k_X4_goDays_23 F h11 n))
    unfold kb_X4_goDays_23
    exact snd_iload (pc := 23) (i := 7) dX4_goDays_23 (snd_aload_n (pc := 25) (i := 1) dX4_goDays_25 (snd_getf (pc := 26) cls7 (f := 12) (by decide) wd_214 dX4_goDays_26 (snd_icmpge (pc := 29) (off := 47) (tgt := 76) (by decide) dX4_goDays_29 (snd_aload_n (pc := 76) (i := 0) dX4_goDays_76 (snd_aload_n (pc := 77) (i := 1) dX4_goDays_77 (snd_iload (pc := 78) (i := 6) dX4_goDays_78 (snd_callV (pc := 80) (n := 2) cls4 (s_X4_goDay F) (by decide) (by decide) wd_1117 wd_1114 wd_1116 wd_37 wd_128 hy_X4_goDay dX4_goDays_80 (snd_iinc (pc := 83) (i := 5) (n := 1) (by decide) dX4_goDays_83 (snd_goto (pc := 86) (off := (-75)) (tgt := 11) (by decide) dX4_goDays_86 (hh11))))))) (snd_iload (pc := 32) (i := 4) dX4_goDays_32 (snd_ldc (pc := 34) (z := (1103515245)) (by decide) wd_1263 dX4_goDays_34 (snd_imul (pc := 36) dX4_goDays_36 (snd_sipush (pc := 37) (by decide) dX4_goDays_37 (snd_iadd (pc := 40) dX4_goDays_40 (snd_istore (pc := 41) (i := 4) (by decide) dX4_goDays_41 (snd_iload (pc := 43) (i := 4) dX4_goDays_43 (snd_bipush (pc := 45) (by decide) dX4_goDays_45 (snd_iushr (pc := 47) dX4_goDays_47 (snd_bipush (pc := 48) (by decide) dX4_goDays_48 (snd_irem (pc := 50) dX4_goDays_50 (snd_aload_n (pc := 51) (i := 1) dX4_goDays_51 (snd_getf (pc := 52) cls7 (f := 16) (by decide) wd_230 dX4_goDays_52 (snd_iload (pc := 55) (i := 7) dX4_goDays_55 (snd_iald (pc := 57) dX4_goDays_57 (snd_icmpge (pc := 58) (off := 12) (tgt := 70) (by decide) dX4_goDays_58 ((sk_X4_goDays_70 F hh11 ih)) (snd_iload (pc := 61) (i := 6) dX4_goDays_61 (snd_iconst (pc := 63) dX4_goDays_63 (snd_iload (pc := 64) (i := 7) dX4_goDays_64 (snd_ishl (pc := 66) dX4_goDays_66 (snd_ior (pc := 67) dX4_goDays_67 (snd_istore (pc := 68) (i := 6) (by decide) dX4_goDays_68 ((sk_X4_goDays_70 F hh11 ih)))))))))))))))))))))))))))
noncomputable def kb_X4_goDays_11 (F : Nat) (self : AK) : AK := ak_iload 5 (ak_iload 3 (ak_cmplt (ak_push (vI 0) (ak_istore 6 (ak_push (vI 0) (ak_istore 7 ((k_X4_goDays_23 F self F)))))) (ak_return)))
noncomputable def k_X4_goDays_11 (F : Nat) (n : Nat) : AK := Nat.rec (motive := fun _ => AK) ak_none (fun _ self => kb_X4_goDays_11 F self) n
set_option maxRecDepth 20000 in
theorem sk_X4_goDays_11 (F : Nat) : ∀ n, Snd X0 RX4 cX4_goDays 8 17 11 (k_X4_goDays_11 F n) := by
  intro n
  induction n with
  | zero => exact snd_none
  | succ n ih =>
    show Snd X0 RX4 cX4_goDays 8 17 11 (kb_X4_goDays_11 F (k_X4_goDays_11 F n))
    unfold kb_X4_goDays_11
    exact snd_iload (pc := 11) (i := 5) dX4_goDays_11 (snd_iload_n (pc := 13) (i := 3) dX4_goDays_13 (snd_icmpge (pc := 14) (off := 75) (tgt := 89) (by decide) dX4_goDays_14 (snd_return dX4_goDays_89) (snd_iconst (pc := 17) dX4_goDays_17 (snd_istore (pc := 18) (i := 6) (by decide) dX4_goDays_18 (snd_iconst (pc := 20) dX4_goDays_20 (snd_istore (pc := 21) (i := 7) (by decide) dX4_goDays_21 ((sk_X4_goDays_23 F ih F))))))))
noncomputable def k_X4_goDays (F : Nat) : AK := ak_aload 0 (ak_aload 1 (ak_callv 4 1 (m_X4_begin F) (ak_iload 2 (ak_istore 4 (ak_push (vI 0) (ak_istore 5 ((k_X4_goDays_11 F F))))))))
noncomputable def m_X4_goDays (F : Nat) : AF := mkF 0 8 (k_X4_goDays F)
set_option maxRecDepth 20000 in
theorem s_X4_goDays (F : Nat) : MA yX4_goDays cX4_goDays 8 none 17 (m_X4_goDays F) := met_of (Or.inl ⟨rfl, rfl⟩) (by decide) (by
  unfold k_X4_goDays
  exact snd_aload_n (pc := 0) (i := 0) dX4_goDays_0 (snd_aload_n (pc := 1) (i := 1) dX4_goDays_1 (snd_callV (pc := 2) (n := 1) cls4 (s_X4_begin F) (by decide) (by decide) wd_1111 wd_1108 wd_1110 wd_36 wd_128 hy_X4_begin dX4_goDays_2 (snd_iload_n (pc := 5) (i := 2) dX4_goDays_5 (snd_istore (pc := 6) (i := 4) (by decide) dX4_goDays_6 (snd_iconst (pc := 8) dX4_goDays_8 (snd_istore (pc := 9) (i := 5) (by decide) dX4_goDays_9 ((sk_X4_goDays_11 F F)))))))))

/-! LastWalker$Outing.figure(LLastWalker$Town;II)I -/
theorem dX4_figure_0 : decode cX4_figure 0 = .ok (.iload_n 3, 1) := by decide +kernel
theorem dX4_figure_1 : decode cX4_figure 1 = .ok (.tableswitch 91 0 4 #[35, 42, 49, 56, 63], 35) := by decide +kernel
theorem dX4_figure_36 : decode cX4_figure 36 = .ok (.aload_n 0, 1) := by decide +kernel
theorem dX4_figure_37 : decode cX4_figure 37 = .ok (.getfield 31, 3) := by decide +kernel
theorem dX4_figure_40 : decode cX4_figure 40 = .ok (.iload_n 2, 1) := by decide +kernel
theorem dX4_figure_41 : decode cX4_figure 41 = .ok (.iaload, 1) := by decide +kernel
theorem dX4_figure_42 : decode cX4_figure 42 = .ok (.ireturn, 1) := by decide +kernel
theorem dX4_figure_43 : decode cX4_figure 43 = .ok (.aload_n 0, 1) := by decide +kernel
theorem dX4_figure_44 : decode cX4_figure 44 = .ok (.getfield 34, 3) := by decide +kernel
theorem dX4_figure_47 : decode cX4_figure 47 = .ok (.iload_n 2, 1) := by decide +kernel
theorem dX4_figure_48 : decode cX4_figure 48 = .ok (.iaload, 1) := by decide +kernel
theorem dX4_figure_49 : decode cX4_figure 49 = .ok (.ireturn, 1) := by decide +kernel
theorem dX4_figure_50 : decode cX4_figure 50 = .ok (.aload_n 0, 1) := by decide +kernel
theorem dX4_figure_51 : decode cX4_figure 51 = .ok (.getfield 37, 3) := by decide +kernel
theorem dX4_figure_54 : decode cX4_figure 54 = .ok (.iload_n 2, 1) := by decide +kernel
theorem dX4_figure_55 : decode cX4_figure 55 = .ok (.iaload, 1) := by decide +kernel
theorem dX4_figure_56 : decode cX4_figure 56 = .ok (.ireturn, 1) := by decide +kernel
theorem dX4_figure_57 : decode cX4_figure 57 = .ok (.aload_n 0, 1) := by decide +kernel
theorem dX4_figure_58 : decode cX4_figure 58 = .ok (.getfield 40, 3) := by decide +kernel
theorem dX4_figure_61 : decode cX4_figure 61 = .ok (.iload_n 2, 1) := by decide +kernel
theorem dX4_figure_62 : decode cX4_figure 62 = .ok (.iaload, 1) := by decide +kernel
theorem dX4_figure_63 : decode cX4_figure 63 = .ok (.ireturn, 1) := by decide +kernel
theorem dX4_figure_64 : decode cX4_figure 64 = .ok (.aload_n 0, 1) := by decide +kernel
theorem dX4_figure_65 : decode cX4_figure 65 = .ok (.getfield 31, 3) := by decide +kernel
theorem dX4_figure_68 : decode cX4_figure 68 = .ok (.iload_n 2, 1) := by decide +kernel
theorem dX4_figure_69 : decode cX4_figure 69 = .ok (.iaload, 1) := by decide +kernel
theorem dX4_figure_70 : decode cX4_figure 70 = .ok (.aload_n 1, 1) := by decide +kernel
theorem dX4_figure_71 : decode cX4_figure 71 = .ok (.getfield 152, 3) := by decide +kernel
theorem dX4_figure_74 : decode cX4_figure 74 = .ok (.iload_n 2, 1) := by decide +kernel
theorem dX4_figure_75 : decode cX4_figure 75 = .ok (.iaload, 1) := by decide +kernel
theorem dX4_figure_76 : decode cX4_figure 76 = .ok (.imul, 1) := by decide +kernel
theorem dX4_figure_77 : decode cX4_figure 77 = .ok (.aload_n 0, 1) := by decide +kernel
theorem dX4_figure_78 : decode cX4_figure 78 = .ok (.getfield 34, 3) := by decide +kernel
theorem dX4_figure_81 : decode cX4_figure 81 = .ok (.iload_n 2, 1) := by decide +kernel
theorem dX4_figure_82 : decode cX4_figure 82 = .ok (.iaload, 1) := by decide +kernel
theorem dX4_figure_83 : decode cX4_figure 83 = .ok (.iadd, 1) := by decide +kernel
theorem dX4_figure_84 : decode cX4_figure 84 = .ok (.aload_n 0, 1) := by decide +kernel
theorem dX4_figure_85 : decode cX4_figure 85 = .ok (.getfield 37, 3) := by decide +kernel
theorem dX4_figure_88 : decode cX4_figure 88 = .ok (.iload_n 2, 1) := by decide +kernel
theorem dX4_figure_89 : decode cX4_figure 89 = .ok (.iaload, 1) := by decide +kernel
theorem dX4_figure_90 : decode cX4_figure 90 = .ok (.isub, 1) := by decide +kernel
theorem dX4_figure_91 : decode cX4_figure 91 = .ok (.ireturn, 1) := by decide +kernel
theorem dX4_figure_92 : decode cX4_figure 92 = .ok (.ldc 155, 2) := by decide +kernel
theorem dX4_figure_94 : decode cX4_figure 94 = .ok (.ireturn, 1) := by decide +kernel
noncomputable def k_X4_figure (F : Nat) : AK := ak_iload 3 (ak_switch 0 [ak_aload 0 (ak_getf 4 8 (ak_iload 2 (ak_iald ak_ireturn))), ak_aload 0 (ak_getf 4 9 (ak_iload 2 (ak_iald ak_ireturn))), ak_aload 0 (ak_getf 4 10 (ak_iload 2 (ak_iald ak_ireturn))), ak_aload 0 (ak_getf 4 11 (ak_iload 2 (ak_iald ak_ireturn))), ak_aload 0 (ak_getf 4 8 (ak_iload 2 (ak_iald (ak_aload 1 (ak_getf 7 10 (ak_iload 2 (ak_iald (ak_imul (ak_aload 0 (ak_getf 4 9 (ak_iload 2 (ak_iald (ak_iadd (ak_aload 0 (ak_getf 4 10 (ak_iload 2 (ak_iald (ak_isub ak_ireturn))))))))))))))))))] (ak_push (vI (-100000)) ak_ireturn))
noncomputable def m_X4_figure (F : Nat) : AF := mkF 1 4 (k_X4_figure F)
set_option maxRecDepth 20000 in
theorem s_X4_figure (F : Nat) : MA yX4_figure cX4_figure 4 (some .int) 0 (m_X4_figure F) := met_of (Or.inr (Or.inl ⟨rfl, rfl⟩)) (by decide) (by
  unfold k_X4_figure
  exact snd_iload_n (pc := 0) (i := 3) dX4_figure_0 (snd_switchL (pc := 1) (ol := [35, 42, 49, 56, 63]) (tgd := 92) dX4_figure_1 rfl (by decide) (snd_ldc (pc := 92) (z := (-100000)) (by decide) wd_1140 dX4_figure_92 (snd_ireturn dX4_figure_94)) (sw_cons (o := 35) (tgt := 36) (by decide) (snd_aload_n (pc := 36) (i := 0) dX4_figure_36 (snd_getf (pc := 37) cls4 (f := 8) (by decide) wd_554 dX4_figure_37 (snd_iload_n (pc := 40) (i := 2) dX4_figure_40 (snd_iald (pc := 41) dX4_figure_41 (snd_ireturn dX4_figure_42))))) (sw_cons (o := 42) (tgt := 43) (by decide) (snd_aload_n (pc := 43) (i := 0) dX4_figure_43 (snd_getf (pc := 44) cls4 (f := 9) (by decide) wd_555 dX4_figure_44 (snd_iload_n (pc := 47) (i := 2) dX4_figure_47 (snd_iald (pc := 48) dX4_figure_48 (snd_ireturn dX4_figure_49))))) (sw_cons (o := 49) (tgt := 50) (by decide) (snd_aload_n (pc := 50) (i := 0) dX4_figure_50 (snd_getf (pc := 51) cls4 (f := 10) (by decide) wd_556 dX4_figure_51 (snd_iload_n (pc := 54) (i := 2) dX4_figure_54 (snd_iald (pc := 55) dX4_figure_55 (snd_ireturn dX4_figure_56))))) (sw_cons (o := 56) (tgt := 57) (by decide) (snd_aload_n (pc := 57) (i := 0) dX4_figure_57 (snd_getf (pc := 58) cls4 (f := 11) (by decide) wd_557 dX4_figure_58 (snd_iload_n (pc := 61) (i := 2) dX4_figure_61 (snd_iald (pc := 62) dX4_figure_62 (snd_ireturn dX4_figure_63))))) (sw_cons (o := 63) (tgt := 64) (by decide) (snd_aload_n (pc := 64) (i := 0) dX4_figure_64 (snd_getf (pc := 65) cls4 (f := 8) (by decide) wd_554 dX4_figure_65 (snd_iload_n (pc := 68) (i := 2) dX4_figure_68 (snd_iald (pc := 69) dX4_figure_69 (snd_aload_n (pc := 70) (i := 1) dX4_figure_70 (snd_getf (pc := 71) cls7 (f := 10) (by decide) wd_206 dX4_figure_71 (snd_iload_n (pc := 74) (i := 2) dX4_figure_74 (snd_iald (pc := 75) dX4_figure_75 (snd_imul (pc := 76) dX4_figure_76 (snd_aload_n (pc := 77) (i := 0) dX4_figure_77 (snd_getf (pc := 78) cls4 (f := 9) (by decide) wd_555 dX4_figure_78 (snd_iload_n (pc := 81) (i := 2) dX4_figure_81 (snd_iald (pc := 82) dX4_figure_82 (snd_iadd (pc := 83) dX4_figure_83 (snd_aload_n (pc := 84) (i := 0) dX4_figure_84 (snd_getf (pc := 85) cls4 (f := 10) (by decide) wd_556 dX4_figure_85 (snd_iload_n (pc := 88) (i := 2) dX4_figure_88 (snd_iald (pc := 89) dX4_figure_89 (snd_isub (pc := 90) dX4_figure_90 (snd_ireturn dX4_figure_91)))))))))))))))))))) (sw_nil))))))))
