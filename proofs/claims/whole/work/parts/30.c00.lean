/-! LastWalker$Town.copyFrom(LLastWalker$Town;)V -/
theorem dX7_copyFrom_0 : decode cX7_copyFrom 0 = .ok (.aload_n 0, 1) := by decide +kernel
theorem dX7_copyFrom_1 : decode cX7_copyFrom 1 = .ok (.aload_n 1, 1) := by decide +kernel
theorem dX7_copyFrom_2 : decode cX7_copyFrom 2 = .ok (.getfield 51, 3) := by decide +kernel
theorem dX7_copyFrom_5 : decode cX7_copyFrom 5 = .ok (.putfield 51, 3) := by decide +kernel
theorem dX7_copyFrom_8 : decode cX7_copyFrom 8 = .ok (.aload_n 0, 1) := by decide +kernel
theorem dX7_copyFrom_9 : decode cX7_copyFrom 9 = .ok (.aload_n 1, 1) := by decide +kernel
theorem dX7_copyFrom_10 : decode cX7_copyFrom 10 = .ok (.getfield 55, 3) := by decide +kernel
theorem dX7_copyFrom_13 : decode cX7_copyFrom 13 = .ok (.putfield 55, 3) := by decide +kernel
theorem dX7_copyFrom_16 : decode cX7_copyFrom 16 = .ok (.aload_n 0, 1) := by decide +kernel
theorem dX7_copyFrom_17 : decode cX7_copyFrom 17 = .ok (.aload_n 1, 1) := by decide +kernel
theorem dX7_copyFrom_18 : decode cX7_copyFrom 18 = .ok (.getfield 58, 3) := by decide +kernel
theorem dX7_copyFrom_21 : decode cX7_copyFrom 21 = .ok (.putfield 58, 3) := by decide +kernel
theorem dX7_copyFrom_24 : decode cX7_copyFrom 24 = .ok (.aload_n 0, 1) := by decide +kernel
theorem dX7_copyFrom_25 : decode cX7_copyFrom 25 = .ok (.aload_n 1, 1) := by decide +kernel
theorem dX7_copyFrom_26 : decode cX7_copyFrom 26 = .ok (.getfield 61, 3) := by decide +kernel
theorem dX7_copyFrom_29 : decode cX7_copyFrom 29 = .ok (.putfield 61, 3) := by decide +kernel
theorem dX7_copyFrom_32 : decode cX7_copyFrom 32 = .ok (.aload_n 0, 1) := by decide +kernel
theorem dX7_copyFrom_33 : decode cX7_copyFrom 33 = .ok (.aload_n 1, 1) := by decide +kernel
theorem dX7_copyFrom_34 : decode cX7_copyFrom 34 = .ok (.getfield 64, 3) := by decide +kernel
theorem dX7_copyFrom_37 : decode cX7_copyFrom 37 = .ok (.putfield 64, 3) := by decide +kernel
theorem dX7_copyFrom_40 : decode cX7_copyFrom 40 = .ok (.aload_n 0, 1) := by decide +kernel
theorem dX7_copyFrom_41 : decode cX7_copyFrom 41 = .ok (.aload_n 1, 1) := by decide +kernel
theorem dX7_copyFrom_42 : decode cX7_copyFrom 42 = .ok (.getfield 67, 3) := by decide +kernel
theorem dX7_copyFrom_45 : decode cX7_copyFrom 45 = .ok (.putfield 67, 3) := by decide +kernel
theorem dX7_copyFrom_48 : decode cX7_copyFrom 48 = .ok (.aload_n 1, 1) := by decide +kernel
theorem dX7_copyFrom_49 : decode cX7_copyFrom 49 = .ok (.getfield 9, 3) := by decide +kernel
theorem dX7_copyFrom_52 : decode cX7_copyFrom 52 = .ok (.iconst 0, 1) := by decide +kernel
theorem dX7_copyFrom_53 : decode cX7_copyFrom 53 = .ok (.aload_n 0, 1) := by decide +kernel
theorem dX7_copyFrom_54 : decode cX7_copyFrom 54 = .ok (.getfield 9, 3) := by decide +kernel
theorem dX7_copyFrom_57 : decode cX7_copyFrom 57 = .ok (.iconst 0, 1) := by decide +kernel
theorem dX7_copyFrom_58 : decode cX7_copyFrom 58 = .ok (.bipush 14, 2) := by decide +kernel
theorem dX7_copyFrom_60 : decode cX7_copyFrom 60 = .ok (.invokestatic 76, 3) := by decide +kernel
theorem dX7_copyFrom_63 : decode cX7_copyFrom 63 = .ok (.aload_n 1, 1) := by decide +kernel
theorem dX7_copyFrom_64 : decode cX7_copyFrom 64 = .ok (.getfield 15, 3) := by decide +kernel
theorem dX7_copyFrom_67 : decode cX7_copyFrom 67 = .ok (.iconst 0, 1) := by decide +kernel
theorem dX7_copyFrom_68 : decode cX7_copyFrom 68 = .ok (.aload_n 0, 1) := by decide +kernel
theorem dX7_copyFrom_69 : decode cX7_copyFrom 69 = .ok (.getfield 15, 3) := by decide +kernel
theorem dX7_copyFrom_72 : decode cX7_copyFrom 72 = .ok (.iconst 0, 1) := by decide +kernel
theorem dX7_copyFrom_73 : decode cX7_copyFrom 73 = .ok (.bipush 14, 2) := by decide +kernel
theorem dX7_copyFrom_75 : decode cX7_copyFrom 75 = .ok (.invokestatic 76, 3) := by decide +kernel
theorem dX7_copyFrom_78 : decode cX7_copyFrom 78 = .ok (.aload_n 1, 1) := by decide +kernel
theorem dX7_copyFrom_79 : decode cX7_copyFrom 79 = .ok (.getfield 18, 3) := by decide +kernel
theorem dX7_copyFrom_82 : decode cX7_copyFrom 82 = .ok (.iconst 0, 1) := by decide +kernel
theorem dX7_copyFrom_83 : decode cX7_copyFrom 83 = .ok (.aload_n 0, 1) := by decide +kernel
theorem dX7_copyFrom_84 : decode cX7_copyFrom 84 = .ok (.getfield 18, 3) := by decide +kernel
theorem dX7_copyFrom_87 : decode cX7_copyFrom 87 = .ok (.iconst 0, 1) := by decide +kernel
theorem dX7_copyFrom_88 : decode cX7_copyFrom 88 = .ok (.bipush 14, 2) := by decide +kernel
theorem dX7_copyFrom_90 : decode cX7_copyFrom 90 = .ok (.invokestatic 76, 3) := by decide +kernel
theorem dX7_copyFrom_93 : decode cX7_copyFrom 93 = .ok (.aload_n 1, 1) := by decide +kernel
theorem dX7_copyFrom_94 : decode cX7_copyFrom 94 = .ok (.getfield 21, 3) := by decide +kernel
theorem dX7_copyFrom_97 : decode cX7_copyFrom 97 = .ok (.iconst 0, 1) := by decide +kernel
theorem dX7_copyFrom_98 : decode cX7_copyFrom 98 = .ok (.aload_n 0, 1) := by decide +kernel
theorem dX7_copyFrom_99 : decode cX7_copyFrom 99 = .ok (.getfield 21, 3) := by decide +kernel
theorem dX7_copyFrom_102 : decode cX7_copyFrom 102 = .ok (.iconst 0, 1) := by decide +kernel
theorem dX7_copyFrom_103 : decode cX7_copyFrom 103 = .ok (.bipush 14, 2) := by decide +kernel
theorem dX7_copyFrom_105 : decode cX7_copyFrom 105 = .ok (.invokestatic 76, 3) := by decide +kernel
theorem dX7_copyFrom_108 : decode cX7_copyFrom 108 = .ok (.aload_n 1, 1) := by decide +kernel
theorem dX7_copyFrom_109 : decode cX7_copyFrom 109 = .ok (.getfield 24, 3) := by decide +kernel
theorem dX7_copyFrom_112 : decode cX7_copyFrom 112 = .ok (.iconst 0, 1) := by decide +kernel
theorem dX7_copyFrom_113 : decode cX7_copyFrom 113 = .ok (.aload_n 0, 1) := by decide +kernel
theorem dX7_copyFrom_114 : decode cX7_copyFrom 114 = .ok (.getfield 24, 3) := by decide +kernel
theorem dX7_copyFrom_117 : decode cX7_copyFrom 117 = .ok (.iconst 0, 1) := by decide +kernel
theorem dX7_copyFrom_118 : decode cX7_copyFrom 118 = .ok (.bipush 14, 2) := by decide +kernel
theorem dX7_copyFrom_120 : decode cX7_copyFrom 120 = .ok (.invokestatic 76, 3) := by decide +kernel
theorem dX7_copyFrom_123 : decode cX7_copyFrom 123 = .ok (.aload_n 1, 1) := by decide +kernel
theorem dX7_copyFrom_124 : decode cX7_copyFrom 124 = .ok (.getfield 27, 3) := by decide +kernel
theorem dX7_copyFrom_127 : decode cX7_copyFrom 127 = .ok (.iconst 0, 1) := by decide +kernel
theorem dX7_copyFrom_128 : decode cX7_copyFrom 128 = .ok (.aload_n 0, 1) := by decide +kernel
theorem dX7_copyFrom_129 : decode cX7_copyFrom 129 = .ok (.getfield 27, 3) := by decide +kernel
theorem dX7_copyFrom_132 : decode cX7_copyFrom 132 = .ok (.iconst 0, 1) := by decide +kernel
theorem dX7_copyFrom_133 : decode cX7_copyFrom 133 = .ok (.bipush 84, 2) := by decide +kernel
theorem dX7_copyFrom_135 : decode cX7_copyFrom 135 = .ok (.invokestatic 76, 3) := by decide +kernel
theorem dX7_copyFrom_138 : decode cX7_copyFrom 138 = .ok (.aload_n 1, 1) := by decide +kernel
theorem dX7_copyFrom_139 : decode cX7_copyFrom 139 = .ok (.getfield 30, 3) := by decide +kernel
theorem dX7_copyFrom_142 : decode cX7_copyFrom 142 = .ok (.iconst 0, 1) := by decide +kernel
theorem dX7_copyFrom_143 : decode cX7_copyFrom 143 = .ok (.aload_n 0, 1) := by decide +kernel
theorem dX7_copyFrom_144 : decode cX7_copyFrom 144 = .ok (.getfield 30, 3) := by decide +kernel
theorem dX7_copyFrom_147 : decode cX7_copyFrom 147 = .ok (.iconst 0, 1) := by decide +kernel
theorem dX7_copyFrom_148 : decode cX7_copyFrom 148 = .ok (.bipush 8, 2) := by decide +kernel
theorem dX7_copyFrom_150 : decode cX7_copyFrom 150 = .ok (.invokestatic 76, 3) := by decide +kernel
theorem dX7_copyFrom_153 : decode cX7_copyFrom 153 = .ok (.aload_n 1, 1) := by decide +kernel
theorem dX7_copyFrom_154 : decode cX7_copyFrom 154 = .ok (.getfield 33, 3) := by decide +kernel
theorem dX7_copyFrom_157 : decode cX7_copyFrom 157 = .ok (.iconst 0, 1) := by decide +kernel
theorem dX7_copyFrom_158 : decode cX7_copyFrom 158 = .ok (.aload_n 0, 1) := by decide +kernel
theorem dX7_copyFrom_159 : decode cX7_copyFrom 159 = .ok (.getfield 33, 3) := by decide +kernel
theorem dX7_copyFrom_162 : decode cX7_copyFrom 162 = .ok (.iconst 0, 1) := by decide +kernel
theorem dX7_copyFrom_163 : decode cX7_copyFrom 163 = .ok (.bipush 8, 2) := by decide +kernel
theorem dX7_copyFrom_165 : decode cX7_copyFrom 165 = .ok (.invokestatic 76, 3) := by decide +kernel
theorem dX7_copyFrom_168 : decode cX7_copyFrom 168 = .ok (.aload_n 1, 1) := by decide +kernel
theorem dX7_copyFrom_169 : decode cX7_copyFrom 169 = .ok (.getfield 36, 3) := by decide +kernel
theorem dX7_copyFrom_172 : decode cX7_copyFrom 172 = .ok (.iconst 0, 1) := by decide +kernel
theorem dX7_copyFrom_173 : decode cX7_copyFrom 173 = .ok (.aload_n 0, 1) := by decide +kernel
theorem dX7_copyFrom_174 : decode cX7_copyFrom 174 = .ok (.getfield 36, 3) := by decide +kernel
theorem dX7_copyFrom_177 : decode cX7_copyFrom 177 = .ok (.iconst 0, 1) := by decide +kernel
theorem dX7_copyFrom_178 : decode cX7_copyFrom 178 = .ok (.bipush 8, 2) := by decide +kernel
theorem dX7_copyFrom_180 : decode cX7_copyFrom 180 = .ok (.invokestatic 76, 3) := by decide +kernel
theorem dX7_copyFrom_183 : decode cX7_copyFrom 183 = .ok (.aload_n 1, 1) := by decide +kernel
theorem dX7_copyFrom_184 : decode cX7_copyFrom 184 = .ok (.getfield 39, 3) := by decide +kernel
theorem dX7_copyFrom_187 : decode cX7_copyFrom 187 = .ok (.iconst 0, 1) := by decide +kernel
theorem dX7_copyFrom_188 : decode cX7_copyFrom 188 = .ok (.aload_n 0, 1) := by decide +kernel
theorem dX7_copyFrom_189 : decode cX7_copyFrom 189 = .ok (.getfield 39, 3) := by decide +kernel
theorem dX7_copyFrom_192 : decode cX7_copyFrom 192 = .ok (.iconst 0, 1) := by decide +kernel
theorem dX7_copyFrom_193 : decode cX7_copyFrom 193 = .ok (.bipush 12, 2) := by decide +kernel
theorem dX7_copyFrom_195 : decode cX7_copyFrom 195 = .ok (.invokestatic 76, 3) := by decide +kernel
theorem dX7_copyFrom_198 : decode cX7_copyFrom 198 = .ok (.aload_n 1, 1) := by decide +kernel
theorem dX7_copyFrom_199 : decode cX7_copyFrom 199 = .ok (.getfield 42, 3) := by decide +kernel
theorem dX7_copyFrom_202 : decode cX7_copyFrom 202 = .ok (.iconst 0, 1) := by decide +kernel
theorem dX7_copyFrom_203 : decode cX7_copyFrom 203 = .ok (.aload_n 0, 1) := by decide +kernel
theorem dX7_copyFrom_204 : decode cX7_copyFrom 204 = .ok (.getfield 42, 3) := by decide +kernel
theorem dX7_copyFrom_207 : decode cX7_copyFrom 207 = .ok (.iconst 0, 1) := by decide +kernel
theorem dX7_copyFrom_208 : decode cX7_copyFrom 208 = .ok (.bipush 12, 2) := by decide +kernel
theorem dX7_copyFrom_210 : decode cX7_copyFrom 210 = .ok (.invokestatic 76, 3) := by decide +kernel
theorem dX7_copyFrom_213 : decode cX7_copyFrom 213 = .ok (.aload_n 1, 1) := by decide +kernel
theorem dX7_copyFrom_214 : decode cX7_copyFrom 214 = .ok (.getfield 45, 3) := by decide +kernel
theorem dX7_copyFrom_217 : decode cX7_copyFrom 217 = .ok (.iconst 0, 1) := by decide +kernel
theorem dX7_copyFrom_218 : decode cX7_copyFrom 218 = .ok (.aload_n 0, 1) := by decide +kernel
theorem dX7_copyFrom_219 : decode cX7_copyFrom 219 = .ok (.getfield 45, 3) := by decide +kernel
theorem dX7_copyFrom_222 : decode cX7_copyFrom 222 = .ok (.iconst 0, 1) := by decide +kernel
theorem dX7_copyFrom_223 : decode cX7_copyFrom 223 = .ok (.bipush 12, 2) := by decide +kernel
theorem dX7_copyFrom_225 : decode cX7_copyFrom 225 = .ok (.invokestatic 76, 3) := by decide +kernel
theorem dX7_copyFrom_228 : decode cX7_copyFrom 228 = .ok (.aload_n 1, 1) := by decide +kernel
theorem dX7_copyFrom_229 : decode cX7_copyFrom 229 = .ok (.getfield 48, 3) := by decide +kernel
theorem dX7_copyFrom_232 : decode cX7_copyFrom 232 = .ok (.iconst 0, 1) := by decide +kernel
theorem dX7_copyFrom_233 : decode cX7_copyFrom 233 = .ok (.aload_n 0, 1) := by decide +kernel
theorem dX7_copyFrom_234 : decode cX7_copyFrom 234 = .ok (.getfield 48, 3) := by decide +kernel
theorem dX7_copyFrom_237 : decode cX7_copyFrom 237 = .ok (.iconst 0, 1) := by decide +kernel
theorem dX7_copyFrom_238 : decode cX7_copyFrom 238 = .ok (.bipush 12, 2) := by decide +kernel
theorem dX7_copyFrom_240 : decode cX7_copyFrom 240 = .ok (.invokestatic 76, 3) := by decide +kernel
theorem dX7_copyFrom_243 : decode cX7_copyFrom 243 = .ok (.return_, 1) := by decide +kernel
noncomputable def k_X7_copyFrom (F : Nat) : AK := ak_aload 0 (ak_aload 1 (ak_getf 7 0 (ak_putf 7 0 (ak_aload 0 (ak_aload 1 (ak_getf 7 1 (ak_putf 7 1 (ak_aload 0 (ak_aload 1 (ak_getf 7 8 (ak_putf 7 8 (ak_aload 0 (ak_aload 1 (ak_getf 7 12 (ak_putf 7 12 (ak_aload 0 (ak_aload 1 (ak_getf 7 17 (ak_putf 7 17 (ak_aload 0 (ak_aload 1 (ak_getf 7 18 (ak_putf 7 18 (ak_aload 1 (ak_getf 7 2 (ak_push (vI 0) (ak_aload 0 (ak_getf 7 2 (ak_push (vI 0) (ak_push (vI 14) (ak_copy0 (ak_aload 1 (ak_getf 7 3 (ak_push (vI 0) (ak_aload 0 (ak_getf 7 3 (ak_push (vI 0) (ak_push (vI 14) (ak_copy0 (ak_aload 1 (ak_getf 7 4 (ak_push (vI 0) (ak_aload 0 (ak_getf 7 4 (ak_push (vI 0) (ak_push (vI 14) (ak_copy0 (ak_aload 1 (ak_getf 7 5 (ak_push (vI 0) (ak_aload 0 (ak_getf 7 5 (ak_push (vI 0) (ak_push (vI 14) (ak_copy0 (ak_aload 1 (ak_getf 7 6 (ak_push (vI 0) (ak_aload 0 (ak_getf 7 6 (ak_push (vI 0) (ak_push (vI 14) (ak_copy0 (ak_aload 1 (ak_getf 7 7 (ak_push (vI 0) (ak_aload 0 (ak_getf 7 7 (ak_push (vI 0) (ak_push (vI 84) (ak_copy0 (ak_aload 1 (ak_getf 7 9 (ak_push (vI 0) (ak_aload 0 (ak_getf 7 9 (ak_push (vI 0) (ak_push (vI 8) (ak_copy0 (ak_aload 1 (ak_getf 7 10 (ak_push (vI 0) (ak_aload 0 (ak_getf 7 10 (ak_push (vI 0) (ak_push (vI 8) (ak_copy0 (ak_aload 1 (ak_getf 7 11 (ak_push (vI 0) (ak_aload 0 (ak_getf 7 11 (ak_push (vI 0) (ak_push (vI 8) (ak_copy0 (ak_aload 1 (ak_getf 7 13 (ak_push (vI 0) (ak_aload 0 (ak_getf 7 13 (ak_push (vI 0) (ak_push (vI 12) (ak_copy0 (ak_aload 1 (ak_getf 7 14 (ak_push (vI 0) (ak_aload 0 (ak_getf 7 14 (ak_push (vI 0) (ak_push (vI 12) (ak_copy0 (ak_aload 1 (ak_getf 7 15 (ak_push (vI 0) (ak_aload 0 (ak_getf 7 15 (ak_push (vI 0) (ak_push (vI 12) (ak_copy0 (ak_aload 1 (ak_getf 7 16 (ak_push (vI 0) (ak_aload 0 (ak_getf 7 16 (ak_push (vI 0) (ak_push (vI 12) (ak_copy0 ak_return)))))))))))))))))))))))))))))))))))))))))))))))))))))))))))))))))))))))))))))))))))))))))))))))))))))))))))))))))))))))))))))))
noncomputable def m_X7_copyFrom (F : Nat) : AF := mkF 0 2 (k_X7_copyFrom F)
set_option maxRecDepth 20000 in
theorem s_X7_copyFrom (F : Nat) : MA yX7_copyFrom cX7_copyFrom 2 none 1 (m_X7_copyFrom F) := met_of (Or.inl ⟨rfl, rfl⟩) (by decide) (by
  unfold k_X7_copyFrom
  exact snd_aload_n (pc := 0) (i := 0) dX7_copyFrom_0 (snd_aload_n (pc := 1) (i := 1) dX7_copyFrom_1 (snd_getf (pc := 2) cls7 (f := 0) (by decide) wd_159 dX7_copyFrom_2 (snd_putf (pc := 5) cls7 (f := 0) (by decide) rfl rfl rfl wd_159 dX7_copyFrom_5 (snd_aload_n (pc := 8) (i := 0) dX7_copyFrom_8 (snd_aload_n (pc := 9) (i := 1) dX7_copyFrom_9 (snd_getf (pc := 10) cls7 (f := 1) (by decide) wd_163 dX7_copyFrom_10 (snd_putf (pc := 13) cls7 (f := 1) (by decide) rfl rfl rfl wd_163 dX7_copyFrom_13 (snd_aload_n (pc := 16) (i := 0) dX7_copyFrom_16 (snd_aload_n (pc := 17) (i := 1) dX7_copyFrom_17 (snd_getf (pc := 18) cls7 (f := 8) (by decide) wd_194 dX7_copyFrom_18 (snd_putf (pc := 21) cls7 (f := 8) (by decide) rfl rfl rfl wd_194 dX7_copyFrom_21 (snd_aload_n (pc := 24) (i := 0) dX7_copyFrom_24 (snd_aload_n (pc := 25) (i := 1) dX7_copyFrom_25 (snd_getf (pc := 26) cls7 (f := 12) (by decide) wd_213 dX7_copyFrom_26 (snd_putf (pc := 29) cls7 (f := 12) (by decide) rfl rfl rfl wd_213 dX7_copyFrom_29 (snd_aload_n (pc := 32) (i := 0) dX7_copyFrom_32 (snd_aload_n (pc := 33) (i := 1) dX7_copyFrom_33 (snd_getf (pc := 34) cls7 (f := 17) (by decide) wd_233 dX7_copyFrom_34 (snd_putf (pc := 37) cls7 (f := 17) (by decide) rfl rfl rfl wd_233 dX7_copyFrom_37 (snd_aload_n (pc := 40) (i := 0) dX7_copyFrom_40 (snd_aload_n (pc := 41) (i := 1) dX7_copyFrom_41 (snd_getf (pc := 42) cls7 (f := 18) (by decide) wd_236 dX7_copyFrom_42 (snd_putf (pc := 45) cls7 (f := 18) (by decide) rfl rfl rfl wd_236 dX7_copyFrom_45 (snd_aload_n (pc := 48) (i := 1) dX7_copyFrom_48 (snd_getf (pc := 49) cls7 (f := 2) (by decide) wd_169 dX7_copyFrom_49 (snd_iconst (pc := 52) dX7_copyFrom_52 (snd_aload_n (pc := 53) (i := 0) dX7_copyFrom_53 (snd_getf (pc := 54) cls7 (f := 2) (by decide) wd_169 dX7_copyFrom_54 (snd_iconst (pc := 57) dX7_copyFrom_57 (snd_bipush (pc := 58) (by decide) dX7_copyFrom_58 (snd_copy (pc := 60) (by decide) wd_810 wd_812 wd_811 wd_136 dX7_copyFrom_60 (snd_aload_n (pc := 63) (i := 1) dX7_copyFrom_63 (snd_getf (pc := 64) cls7 (f := 3) (by decide) wd_173 dX7_copyFrom_64 (snd_iconst (pc := 67) dX7_copyFrom_67 (snd_aload_n (pc := 68) (i := 0) dX7_copyFrom_68 (snd_getf (pc := 69) cls7 (f := 3) (by decide) wd_173 dX7_copyFrom_69 (snd_iconst (pc := 72) dX7_copyFrom_72 (snd_bipush (pc := 73) (by decide) dX7_copyFrom_73 (snd_copy (pc := 75) (by decide) wd_810 wd_812 wd_811 wd_136 dX7_copyFrom_75 (snd_aload_n (pc := 78) (i := 1) dX7_copyFrom_78 (snd_getf (pc := 79) cls7 (f := 4) (by decide) wd_177 dX7_copyFrom_79 (snd_iconst (pc := 82) dX7_copyFrom_82 (snd_aload_n (pc := 83) (i := 0) dX7_copyFrom_83 (snd_getf (pc := 84) cls7 (f := 4) (by decide) wd_177 dX7_copyFrom_84 (snd_iconst (pc := 87) dX7_copyFrom_87 (snd_bipush (pc := 88) (by decide) dX7_copyFrom_88 (snd_copy (pc := 90) (by decide) wd_810 wd_812 wd_811 wd_136 dX7_copyFrom_90 (snd_aload_n (pc := 93) (i := 1) dX7_copyFrom_93 (snd_getf (pc := 94) cls7 (f := 5) (by decide) wd_183 dX7_copyFrom_94 (snd_iconst (pc := 97) dX7_copyFrom_97 (snd_aload_n (pc := 98) (i := 0) dX7_copyFrom_98 (snd_getf (pc := 99) cls7 (f := 5) (by decide) wd_183 dX7_copyFrom_99 (snd_iconst (pc := 102) dX7_copyFrom_102 (snd_bipush (pc := 103) (by decide) dX7_copyFrom_103 (snd_copy (pc := 105) (by decide) wd_810 wd_812 wd_811 wd_136 dX7_copyFrom_105 (snd_aload_n (pc := 108) (i := 1) dX7_copyFrom_108 (snd_getf (pc := 109) cls7 (f := 6) (by decide) wd_188 dX7_copyFrom_109 (snd_iconst (pc := 112) dX7_copyFrom_112 (snd_aload_n (pc := 113) (i := 0) dX7_copyFrom_113 (snd_getf (pc := 114) cls7 (f := 6) (by decide) wd_188 dX7_copyFrom_114 (snd_iconst (pc := 117) dX7_copyFrom_117 (snd_bipush (pc := 118) (by decide) dX7_copyFrom_118 (snd_copy (pc := 120) (by decide) wd_810 wd_812 wd_811 wd_136 dX7_copyFrom_120 (snd_aload_n (pc := 123) (i := 1) dX7_copyFrom_123 (snd_getf (pc := 124) cls7 (f := 7) (by decide) wd_191 dX7_copyFrom_124 (snd_iconst (pc := 127) dX7_copyFrom_127 (snd_aload_n (pc := 128) (i := 0) dX7_copyFrom_128 (snd_getf (pc := 129) cls7 (f := 7) (by decide) wd_191 dX7_copyFrom_129 (snd_iconst (pc := 132) dX7_copyFrom_132 (snd_bipush (pc := 133) (by decide) dX7_copyFrom_133 (snd_copy (pc := 135) (by decide) wd_810 wd_812 wd_811 wd_136 dX7_copyFrom_135 (snd_aload_n (pc := 138) (i := 1) dX7_copyFrom_138 (snd_getf (pc := 139) cls7 (f := 9) (by decide) wd_199 dX7_copyFrom_139 (snd_iconst (pc := 142) dX7_copyFrom_142 (snd_aload_n (pc := 143) (i := 0) dX7_copyFrom_143 (snd_getf (pc := 144) cls7 (f := 9) (by decide) wd_199 dX7_copyFrom_144 (snd_iconst (pc := 147) dX7_copyFrom_147 (snd_bipush (pc := 148) (by decide) dX7_copyFrom_148 (snd_copy (pc := 150) (by decide) wd_810 wd_812 wd_811 wd_136 dX7_copyFrom_150 (snd_aload_n (pc := 153) (i := 1) dX7_copyFrom_153 (snd_getf (pc := 154) cls7 (f := 10) (by decide) wd_204 dX7_copyFrom_154 (snd_iconst (pc := 157) dX7_copyFrom_157 (snd_aload_n (pc := 158) (i := 0) dX7_copyFrom_158 (snd_getf (pc := 159) cls7 (f := 10) (by decide) wd_204 dX7_copyFrom_159 (snd_iconst (pc := 162) dX7_copyFrom_162 (snd_bipush (pc := 163) (by decide) dX7_copyFrom_163 (snd_copy (pc := 165) (by decide) wd_810 wd_812 wd_811 wd_136 dX7_copyFrom_165 (snd_aload_n (pc := 168) (i := 1) dX7_copyFrom_168 (snd_getf (pc := 169) cls7 (f := 11) (by decide) wd_209 dX7_copyFrom_169 (snd_iconst (pc := 172) dX7_copyFrom_172 (snd_aload_n (pc := 173) (i := 0) dX7_copyFrom_173 (snd_getf (pc := 174) cls7 (f := 11) (by decide) wd_209 dX7_copyFrom_174 (snd_iconst (pc := 177) dX7_copyFrom_177 (snd_bipush (pc := 178) (by decide) dX7_copyFrom_178 (snd_copy (pc := 180) (by decide) wd_810 wd_812 wd_811 wd_136 dX7_copyFrom_180 (snd_aload_n (pc := 183) (i := 1) dX7_copyFrom_183 (snd_getf (pc := 184) cls7 (f := 13) (by decide) wd_217 dX7_copyFrom_184 (snd_iconst (pc := 187) dX7_copyFrom_187 (snd_aload_n (pc := 188) (i := 0) dX7_copyFrom_188 (snd_getf (pc := 189) cls7 (f := 13) (by decide) wd_217 dX7_copyFrom_189 (snd_iconst (pc := 192) dX7_copyFrom_192 (snd_bipush (pc := 193) (by decide) dX7_copyFrom_193 (snd_copy (pc := 195) (by decide) wd_810 wd_812 wd_811 wd_136 dX7_copyFrom_195 (snd_aload_n (pc := 198) (i := 1) dX7_copyFrom_198 (snd_getf (pc := 199) cls7 (f := 14) (by decide) wd_221 dX7_copyFrom_199 (snd_iconst (pc := 202) dX7_copyFrom_202 (snd_aload_n (pc := 203) (i := 0) dX7_copyFrom_203 (snd_getf (pc := 204) cls7 (f := 14) (by decide) wd_221 dX7_copyFrom_204 (snd_iconst (pc := 207) dX7_copyFrom_207 (snd_bipush (pc := 208) (by decide) dX7_copyFrom_208 (snd_copy (pc := 210) (by decide) wd_810 wd_812 wd_811 wd_136 dX7_copyFrom_210 (snd_aload_n (pc := 213) (i := 1) dX7_copyFrom_213 (snd_getf (pc := 214) cls7 (f := 15) (by decide) wd_225 dX7_copyFrom_214 (snd_iconst (pc := 217) dX7_copyFrom_217 (snd_aload_n (pc := 218) (i := 0) dX7_copyFrom_218 (snd_getf (pc := 219) cls7 (f := 15) (by decide) wd_225 dX7_copyFrom_219 (snd_iconst (pc := 222) dX7_copyFrom_222 (snd_bipush (pc := 223) (by decide) dX7_copyFrom_223 (snd_copy (pc := 225) (by decide) wd_810 wd_812 wd_811 wd_136 dX7_copyFrom_225 (snd_aload_n (pc := 228) (i := 1) dX7_copyFrom_228 (snd_getf (pc := 229) cls7 (f := 16) (by decide) wd_229 dX7_copyFrom_229 (snd_iconst (pc := 232) dX7_copyFrom_232 (snd_aload_n (pc := 233) (i := 0) dX7_copyFrom_233 (snd_getf (pc := 234) cls7 (f := 16) (by decide) wd_229 dX7_copyFrom_234 (snd_iconst (pc := 237) dX7_copyFrom_237 (snd_bipush (pc := 238) (by decide) dX7_copyFrom_238 (snd_copy (pc := 240) (by decide) wd_810 wd_812 wd_811 wd_136 dX7_copyFrom_240 (snd_return dX7_copyFrom_243)))))))))))))))))))))))))))))))))))))))))))))))))))))))))))))))))))))))))))))))))))))))))))))))))))))))))))))))))))))))))))))))))

/-! LastWalker$Day.copyFrom(LLastWalker$Day;)V -/
theorem dX2_copyFrom_0 : decode cX2_copyFrom 0 = .ok (.aload_n 0, 1) := by decide +kernel
theorem dX2_copyFrom_1 : decode cX2_copyFrom 1 = .ok (.aload_n 1, 1) := by decide +kernel
theorem dX2_copyFrom_2 : decode cX2_copyFrom 2 = .ok (.getfield 18, 3) := by decide +kernel
theorem dX2_copyFrom_5 : decode cX2_copyFrom 5 = .ok (.putfield 18, 3) := by decide +kernel
theorem dX2_copyFrom_8 : decode cX2_copyFrom 8 = .ok (.aload_n 1, 1) := by decide +kernel
theorem dX2_copyFrom_9 : decode cX2_copyFrom 9 = .ok (.getfield 9, 3) := by decide +kernel
theorem dX2_copyFrom_12 : decode cX2_copyFrom 12 = .ok (.iconst 0, 1) := by decide +kernel
theorem dX2_copyFrom_13 : decode cX2_copyFrom 13 = .ok (.aload_n 0, 1) := by decide +kernel
theorem dX2_copyFrom_14 : decode cX2_copyFrom 14 = .ok (.getfield 9, 3) := by decide +kernel
theorem dX2_copyFrom_17 : decode cX2_copyFrom 17 = .ok (.iconst 0, 1) := by decide +kernel
theorem dX2_copyFrom_18 : decode cX2_copyFrom 18 = .ok (.bipush 40, 2) := by decide +kernel
theorem dX2_copyFrom_20 : decode cX2_copyFrom 20 = .ok (.invokestatic 22, 3) := by decide +kernel
theorem dX2_copyFrom_23 : decode cX2_copyFrom 23 = .ok (.aload_n 1, 1) := by decide +kernel
theorem dX2_copyFrom_24 : decode cX2_copyFrom 24 = .ok (.getfield 15, 3) := by decide +kernel
theorem dX2_copyFrom_27 : decode cX2_copyFrom 27 = .ok (.iconst 0, 1) := by decide +kernel
theorem dX2_copyFrom_28 : decode cX2_copyFrom 28 = .ok (.aload_n 0, 1) := by decide +kernel
theorem dX2_copyFrom_29 : decode cX2_copyFrom 29 = .ok (.getfield 15, 3) := by decide +kernel
theorem dX2_copyFrom_32 : decode cX2_copyFrom 32 = .ok (.iconst 0, 1) := by decide +kernel
theorem dX2_copyFrom_33 : decode cX2_copyFrom 33 = .ok (.bipush 40, 2) := by decide +kernel
theorem dX2_copyFrom_35 : decode cX2_copyFrom 35 = .ok (.invokestatic 22, 3) := by decide +kernel
theorem dX2_copyFrom_38 : decode cX2_copyFrom 38 = .ok (.return_, 1) := by decide +kernel
noncomputable def k_X2_copyFrom (F : Nat) : AK := ak_aload 0 (ak_aload 1 (ak_getf 2 0 (ak_putf 2 0 (ak_aload 1 (ak_getf 2 1 (ak_push (vI 0) (ak_aload 0 (ak_getf 2 1 (ak_push (vI 0) (ak_push (vI 40) (ak_copy0 (ak_aload 1 (ak_getf 2 2 (ak_push (vI 0) (ak_aload 0 (ak_getf 2 2 (ak_push (vI 0) (ak_push (vI 40) (ak_copy0 ak_return)))))))))))))))))))
noncomputable def m_X2_copyFrom (F : Nat) : AF := mkF 0 2 (k_X2_copyFrom F)
set_option maxRecDepth 20000 in
theorem s_X2_copyFrom (F : Nat) : MA yX2_copyFrom cX2_copyFrom 2 none 1 (m_X2_copyFrom F) := met_of (Or.inl ⟨rfl, rfl⟩) (by decide) (by
  unfold k_X2_copyFrom
  exact snd_aload_n (pc := 0) (i := 0) dX2_copyFrom_0 (snd_aload_n (pc := 1) (i := 1) dX2_copyFrom_1 (snd_getf (pc := 2) cls2 (f := 0) (by decide) wd_287 dX2_copyFrom_2 (snd_putf (pc := 5) cls2 (f := 0) (by decide) rfl rfl rfl wd_287 dX2_copyFrom_5 (snd_aload_n (pc := 8) (i := 1) dX2_copyFrom_8 (snd_getf (pc := 9) cls2 (f := 1) (by decide) wd_291 dX2_copyFrom_9 (snd_iconst (pc := 12) dX2_copyFrom_12 (snd_aload_n (pc := 13) (i := 0) dX2_copyFrom_13 (snd_getf (pc := 14) cls2 (f := 1) (by decide) wd_291 dX2_copyFrom_14 (snd_iconst (pc := 17) dX2_copyFrom_17 (snd_bipush (pc := 18) (by decide) dX2_copyFrom_18 (snd_copy (pc := 20) (by decide) wd_826 wd_812 wd_811 wd_136 dX2_copyFrom_20 (snd_aload_n (pc := 23) (i := 1) dX2_copyFrom_23 (snd_getf (pc := 24) cls2 (f := 2) (by decide) wd_294 dX2_copyFrom_24 (snd_iconst (pc := 27) dX2_copyFrom_27 (snd_aload_n (pc := 28) (i := 0) dX2_copyFrom_28 (snd_getf (pc := 29) cls2 (f := 2) (by decide) wd_294 dX2_copyFrom_29 (snd_iconst (pc := 32) dX2_copyFrom_32 (snd_bipush (pc := 33) (by decide) dX2_copyFrom_33 (snd_copy (pc := 35) (by decide) wd_826 wd_812 wd_811 wd_136 dX2_copyFrom_35 (snd_return dX2_copyFrom_38)))))))))))))))))))))

/-! LastWalker$Book.copyFrom(LLastWalker$Book;)V -/
theorem dX0_copyFrom_0 : decode cX0_copyFrom 0 = .ok (.aload_n 1, 1) := by decide +kernel
theorem dX0_copyFrom_1 : decode cX0_copyFrom 1 = .ok (.getfield 9, 3) := by decide +kernel
theorem dX0_copyFrom_4 : decode cX0_copyFrom 4 = .ok (.iconst 0, 1) := by decide +kernel
theorem dX0_copyFrom_5 : decode cX0_copyFrom 5 = .ok (.aload_n 0, 1) := by decide +kernel
theorem dX0_copyFrom_6 : decode cX0_copyFrom 6 = .ok (.getfield 9, 3) := by decide +kernel
theorem dX0_copyFrom_9 : decode cX0_copyFrom 9 = .ok (.iconst 0, 1) := by decide +kernel
theorem dX0_copyFrom_10 : decode cX0_copyFrom 10 = .ok (.sipush 600, 3) := by decide +kernel
theorem dX0_copyFrom_13 : decode cX0_copyFrom 13 = .ok (.invokestatic 33, 3) := by decide +kernel
theorem dX0_copyFrom_16 : decode cX0_copyFrom 16 = .ok (.aload_n 0, 1) := by decide +kernel
theorem dX0_copyFrom_17 : decode cX0_copyFrom 17 = .ok (.aload_n 1, 1) := by decide +kernel
theorem dX0_copyFrom_18 : decode cX0_copyFrom 18 = .ok (.getfield 39, 3) := by decide +kernel
theorem dX0_copyFrom_21 : decode cX0_copyFrom 21 = .ok (.putfield 39, 3) := by decide +kernel
theorem dX0_copyFrom_24 : decode cX0_copyFrom 24 = .ok (.aload_n 0, 1) := by decide +kernel
theorem dX0_copyFrom_25 : decode cX0_copyFrom 25 = .ok (.aload_n 1, 1) := by decide +kernel
theorem dX0_copyFrom_26 : decode cX0_copyFrom 26 = .ok (.getfield 42, 3) := by decide +kernel
theorem dX0_copyFrom_29 : decode cX0_copyFrom 29 = .ok (.putfield 42, 3) := by decide +kernel
theorem dX0_copyFrom_32 : decode cX0_copyFrom 32 = .ok (.aload_n 0, 1) := by decide +kernel
theorem dX0_copyFrom_33 : decode cX0_copyFrom 33 = .ok (.aload_n 1, 1) := by decide +kernel
theorem dX0_copyFrom_34 : decode cX0_copyFrom 34 = .ok (.getfield 15, 3) := by decide +kernel
theorem dX0_copyFrom_37 : decode cX0_copyFrom 37 = .ok (.putfield 15, 3) := by decide +kernel
theorem dX0_copyFrom_40 : decode cX0_copyFrom 40 = .ok (.aload_n 0, 1) := by decide +kernel
theorem dX0_copyFrom_41 : decode cX0_copyFrom 41 = .ok (.aload_n 1, 1) := by decide +kernel
theorem dX0_copyFrom_42 : decode cX0_copyFrom 42 = .ok (.getfield 45, 3) := by decide +kernel
theorem dX0_copyFrom_45 : decode cX0_copyFrom 45 = .ok (.putfield 45, 3) := by decide +kernel
theorem dX0_copyFrom_48 : decode cX0_copyFrom 48 = .ok (.iconst 0, 1) := by decide +kernel
theorem dX0_copyFrom_49 : decode cX0_copyFrom 49 = .ok (.istore_n 2, 1) := by decide +kernel
theorem dX0_copyFrom_50 : decode cX0_copyFrom 50 = .ok (.iload_n 2, 1) := by decide +kernel
theorem dX0_copyFrom_51 : decode cX0_copyFrom 51 = .ok (.iconst 2, 1) := by decide +kernel
theorem dX0_copyFrom_52 : decode cX0_copyFrom 52 = .ok (.if_icmp .ge 24, 3) := by decide +kernel
theorem dX0_copyFrom_55 : decode cX0_copyFrom 55 = .ok (.aload_n 0, 1) := by decide +kernel
theorem dX0_copyFrom_56 : decode cX0_copyFrom 56 = .ok (.getfield 21, 3) := by decide +kernel
theorem dX0_copyFrom_59 : decode cX0_copyFrom 59 = .ok (.iload_n 2, 1) := by decide +kernel
theorem dX0_copyFrom_60 : decode cX0_copyFrom 60 = .ok (.aaload, 1) := by decide +kernel
theorem dX0_copyFrom_61 : decode cX0_copyFrom 61 = .ok (.aload_n 1, 1) := by decide +kernel
theorem dX0_copyFrom_62 : decode cX0_copyFrom 62 = .ok (.getfield 21, 3) := by decide +kernel
theorem dX0_copyFrom_65 : decode cX0_copyFrom 65 = .ok (.iload_n 2, 1) := by decide +kernel
theorem dX0_copyFrom_66 : decode cX0_copyFrom 66 = .ok (.aaload, 1) := by decide +kernel
theorem dX0_copyFrom_67 : decode cX0_copyFrom 67 = .ok (.invokevirtual 48, 3) := by decide +kernel
theorem dX0_copyFrom_70 : decode cX0_copyFrom 70 = .ok (.iinc 2 1, 3) := by decide +kernel
theorem dX0_copyFrom_73 : decode cX0_copyFrom 73 = .ok (.goto (-23), 3) := by decide +kernel
theorem dX0_copyFrom_76 : decode cX0_copyFrom 76 = .ok (.aload_n 0, 1) := by decide +kernel
theorem dX0_copyFrom_77 : decode cX0_copyFrom 77 = .ok (.aload_n 1, 1) := by decide +kernel
theorem dX0_copyFrom_78 : decode cX0_copyFrom 78 = .ok (.getfield 52, 3) := by decide +kernel
theorem dX0_copyFrom_81 : decode cX0_copyFrom 81 = .ok (.putfield 52, 3) := by decide +kernel
theorem dX0_copyFrom_84 : decode cX0_copyFrom 84 = .ok (.iconst 0, 1) := by decide +kernel
theorem dX0_copyFrom_85 : decode cX0_copyFrom 85 = .ok (.istore_n 2, 1) := by decide +kernel
theorem dX0_copyFrom_86 : decode cX0_copyFrom 86 = .ok (.iload_n 2, 1) := by decide +kernel
theorem dX0_copyFrom_87 : decode cX0_copyFrom 87 = .ok (.iconst 3, 1) := by decide +kernel
theorem dX0_copyFrom_88 : decode cX0_copyFrom 88 = .ok (.if_icmp .ge 24, 3) := by decide +kernel
theorem dX0_copyFrom_91 : decode cX0_copyFrom 91 = .ok (.aload_n 0, 1) := by decide +kernel
theorem dX0_copyFrom_92 : decode cX0_copyFrom 92 = .ok (.getfield 28, 3) := by decide +kernel
theorem dX0_copyFrom_95 : decode cX0_copyFrom 95 = .ok (.iload_n 2, 1) := by decide +kernel
theorem dX0_copyFrom_96 : decode cX0_copyFrom 96 = .ok (.aaload, 1) := by decide +kernel
theorem dX0_copyFrom_97 : decode cX0_copyFrom 97 = .ok (.aload_n 1, 1) := by decide +kernel
theorem dX0_copyFrom_98 : decode cX0_copyFrom 98 = .ok (.getfield 28, 3) := by decide +kernel
theorem dX0_copyFrom_101 : decode cX0_copyFrom 101 = .ok (.iload_n 2, 1) := by decide +kernel
theorem dX0_copyFrom_102 : decode cX0_copyFrom 102 = .ok (.aaload, 1) := by decide +kernel
theorem dX0_copyFrom_103 : decode cX0_copyFrom 103 = .ok (.invokevirtual 55, 3) := by decide +kernel
theorem dX0_copyFrom_106 : decode cX0_copyFrom 106 = .ok (.iinc 2 1, 3) := by decide +kernel
theorem dX0_copyFrom_109 : decode cX0_copyFrom 109 = .ok (.goto (-23), 3) := by decide +kernel
theorem dX0_copyFrom_112 : decode cX0_copyFrom 112 = .ok (.return_, 1) := by decide +kernel
noncomputable def kb_X0_copyFrom_86 (F : Nat) (self : AK) : AK := ak_iload 2 (ak_push (vI 3) (ak_cmplt (ak_aload 0 (ak_getf 0 6 (ak_iload 2 (ak_aald (ak_aload 1 (ak_getf 0 6 (ak_iload 2 (ak_aald (ak_callv 2 1 (m_X2_copyFrom F) (ak_iinc 2 1 self)))))))))) (ak_return)))
noncomputable def k_X0_copyFrom_86 (F : Nat) (n : Nat) : AK := Nat.rec (motive := fun _ => AK) ak_none (fun _ self => kb_X0_copyFrom_86 F self) n
set_option maxRecDepth 20000 in
theorem sk_X0_copyFrom_86 (F : Nat) : ∀ n, Snd X0 RX0 cX0_copyFrom 3 2 86 (k_X0_copyFrom_86 F n) := by
  intro n
  induction n with
  | zero => exact snd_none
  | succ n ih =>
    show Snd X0 RX0 cX0_copyFrom 3 2 86 (kb_X0_copyFrom_86 F (k_X0_copyFrom_86 F n))
    unfold kb_X0_copyFrom_86
    exact snd_iload_n (pc := 86) (i := 2) dX0_copyFrom_86 (snd_iconst (pc := 87) dX0_copyFrom_87 (snd_icmpge (pc := 88) (off := 24) (tgt := 112) (by decide) dX0_copyFrom_88 (snd_return dX0_copyFrom_112) (snd_aload_n (pc := 91) (i := 0) dX0_copyFrom_91 (snd_getf (pc := 92) cls0 (f := 6) (by decide) wd_316 dX0_copyFrom_92 (snd_iload_n (pc := 95) (i := 2) dX0_copyFrom_95 (snd_aald (pc := 96) dX0_copyFrom_96 (snd_aload_n (pc := 97) (i := 1) dX0_copyFrom_97 (snd_getf (pc := 98) cls0 (f := 6) (by decide) wd_316 dX0_copyFrom_98 (snd_iload_n (pc := 101) (i := 2) dX0_copyFrom_101 (snd_aald (pc := 102) dX0_copyFrom_102 (snd_callV (pc := 103) (n := 1) cls2 (s_X2_copyFrom F) (by decide) (by decide) wd_825 wd_885 wd_823 wd_824 wd_123 hy_X2_copyFrom dX0_copyFrom_103 (snd_iinc (pc := 106) (i := 2) (n := 1) (by decide) dX0_copyFrom_106 (snd_goto (pc := 109) (off := (-23)) (tgt := 86) (by decide) dX0_copyFrom_109 (ih))))))))))))))
noncomputable def kb_X0_copyFrom_50 (F : Nat) (self : AK) : AK := ak_iload 2 (ak_push (vI 2) (ak_cmplt (ak_aload 0 (ak_getf 0 4 (ak_iload 2 (ak_aald (ak_aload 1 (ak_getf 0 4 (ak_iload 2 (ak_aald (ak_callv 7 1 (m_X7_copyFrom F) (ak_iinc 2 1 self)))))))))) (ak_aload 0 (ak_aload 1 (ak_getf 0 7 (ak_putf 0 7 (ak_push (vI 0) (ak_istore 2 ((k_X0_copyFrom_86 F F))))))))))
noncomputable def k_X0_copyFrom_50 (F : Nat) (n : Nat) : AK := Nat.rec (motive := fun _ => AK) ak_none (fun _ self => kb_X0_copyFrom_50 F self) n
set_option maxRecDepth 20000 in
theorem sk_X0_copyFrom_50 (F : Nat) : ∀ n, Snd X0 RX0 cX0_copyFrom 3 2 50 (k_X0_copyFrom_50 F n) := by
  intro n
  induction n with
  | zero => exact snd_none
  | succ n ih =>
    show Snd X0 RX0 cX0_copyFrom 3 2 50 (kb_X0_copyFrom_50 F (k_X0_copyFrom_50 F n))
    unfold kb_X0_copyFrom_50
    exact snd_iload_n (pc := 50) (i := 2) dX0_copyFrom_50 (snd_iconst (pc := 51) dX0_copyFrom_51 (snd_icmpge (pc := 52) (off := 24) (tgt := 76) (by decide) dX0_copyFrom_52 (snd_aload_n (pc := 76) (i := 0) dX0_copyFrom_76 (snd_aload_n (pc := 77) (i := 1) dX0_copyFrom_77 (snd_getf (pc := 78) cls0 (f := 7) (by decide) wd_318 dX0_copyFrom_78 (snd_putf (pc := 81) cls0 (f := 7) (by decide) rfl rfl rfl wd_318 dX0_copyFrom_81 (snd_iconst (pc := 84) dX0_copyFrom_84 (snd_istore_n (pc := 85) (i := 2) (by decide) dX0_copyFrom_85 ((sk_X0_copyFrom_86 F F)))))))) (snd_aload_n (pc := 55) (i := 0) dX0_copyFrom_55 (snd_getf (pc := 56) cls0 (f := 4) (by decide) wd_312 dX0_copyFrom_56 (snd_iload_n (pc := 59) (i := 2) dX0_copyFrom_59 (snd_aald (pc := 60) dX0_copyFrom_60 (snd_aload_n (pc := 61) (i := 1) dX0_copyFrom_61 (snd_getf (pc := 62) cls0 (f := 4) (by decide) wd_312 dX0_copyFrom_62 (snd_iload_n (pc := 65) (i := 2) dX0_copyFrom_65 (snd_aald (pc := 66) dX0_copyFrom_66 (snd_callV (pc := 67) (n := 1) cls7 (s_X7_copyFrom F) (by decide) (by decide) wd_809 wd_884 wd_807 wd_808 wd_122 hy_X7_copyFrom dX0_copyFrom_67 (snd_iinc (pc := 70) (i := 2) (n := 1) (by decide) dX0_copyFrom_70 (snd_goto (pc := 73) (off := (-23)) (tgt := 50) (by decide) dX0_copyFrom_73 (ih))))))))))))))
noncomputable def k_X0_copyFrom (F : Nat) : AK := ak_aload 1 (ak_getf 0 0 (ak_push (vI 0) (ak_aload 0 (ak_getf 0 0 (ak_push (vI 0) (ak_push (vI 600) (ak_copy0 (ak_aload 0 (ak_aload 1 (ak_getf 0 1 (ak_putf 0 1 (ak_aload 0 (ak_aload 1 (ak_getf 0 2 (ak_putf 0 2 (ak_aload 0 (ak_aload 1 (ak_getf 0 3 (ak_putf 0 3 (ak_aload 0 (ak_aload 1 (ak_getf 0 5 (ak_putf 0 5 (ak_push (vI 0) (ak_istore 2 ((k_X0_copyFrom_50 F F)))))))))))))))))))))))))))
noncomputable def m_X0_copyFrom (F : Nat) : AF := mkF 0 3 (k_X0_copyFrom F)
set_option maxRecDepth 20000 in
theorem s_X0_copyFrom (F : Nat) : MA yX0_copyFrom cX0_copyFrom 3 none 2 (m_X0_copyFrom F) := met_of (Or.inl ⟨rfl, rfl⟩) (by decide) (by
  unfold k_X0_copyFrom
  exact snd_aload_n (pc := 0) (i := 1) dX0_copyFrom_0 (snd_getf (pc := 1) cls0 (f := 0) (by decide) wd_304 dX0_copyFrom_1 (snd_iconst (pc := 4) dX0_copyFrom_4 (snd_aload_n (pc := 5) (i := 0) dX0_copyFrom_5 (snd_getf (pc := 6) cls0 (f := 0) (by decide) wd_304 dX0_copyFrom_6 (snd_iconst (pc := 9) dX0_copyFrom_9 (snd_sipush (pc := 10) (by decide) dX0_copyFrom_10 (snd_copy (pc := 13) (by decide) wd_883 wd_812 wd_811 wd_136 dX0_copyFrom_13 (snd_aload_n (pc := 16) (i := 0) dX0_copyFrom_16 (snd_aload_n (pc := 17) (i := 1) dX0_copyFrom_17 (snd_getf (pc := 18) cls0 (f := 1) (by decide) wd_307 dX0_copyFrom_18 (snd_putf (pc := 21) cls0 (f := 1) (by decide) rfl rfl rfl wd_307 dX0_copyFrom_21 (snd_aload_n (pc := 24) (i := 0) dX0_copyFrom_24 (snd_aload_n (pc := 25) (i := 1) dX0_copyFrom_25 (snd_getf (pc := 26) cls0 (f := 2) (by decide) wd_308 dX0_copyFrom_26 (snd_putf (pc := 29) cls0 (f := 2) (by decide) rfl rfl rfl wd_308 dX0_copyFrom_29 (snd_aload_n (pc := 32) (i := 0) dX0_copyFrom_32 (snd_aload_n (pc := 33) (i := 1) dX0_copyFrom_33 (snd_getf (pc := 34) cls0 (f := 3) (by decide) wd_310 dX0_copyFrom_34 (snd_putf (pc := 37) cls0 (f := 3) (by decide) rfl rfl rfl wd_310 dX0_copyFrom_37 (snd_aload_n (pc := 40) (i := 0) dX0_copyFrom_40 (snd_aload_n (pc := 41) (i := 1) dX0_copyFrom_41 (snd_getf (pc := 42) cls0 (f := 5) (by decide) wd_314 dX0_copyFrom_42 (snd_putf (pc := 45) cls0 (f := 5) (by decide) rfl rfl rfl wd_314 dX0_copyFrom_45 (snd_iconst (pc := 48) dX0_copyFrom_48 (snd_istore_n (pc := 49) (i := 2) (by decide) dX0_copyFrom_49 ((sk_X0_copyFrom_50 F F))))))))))))))))))))))))))))

/-! LastWalker$Book.push(I)V -/
theorem dX0_push_0 : decode cX0_push 0 = .ok (.bipush 24, 2) := by decide +kernel
theorem dX0_push_2 : decode cX0_push 2 = .ok (.istore_n 2, 1) := by decide +kernel
theorem dX0_push_3 : decode cX0_push 3 = .ok (.iload_n 2, 1) := by decide +kernel
theorem dX0_push_4 : decode cX0_push 4 = .ok (.ifCond .lt 42, 3) := by decide +kernel
theorem dX0_push_7 : decode cX0_push 7 = .ok (.aload_n 0, 1) := by decide +kernel
theorem dX0_push_8 : decode cX0_push 8 = .ok (.getfield 39, 3) := by decide +kernel
theorem dX0_push_11 : decode cX0_push 11 = .ok (.sipush 600, 3) := by decide +kernel
theorem dX0_push_14 : decode cX0_push 14 = .ok (.if_icmp .ge 32, 3) := by decide +kernel
theorem dX0_push_17 : decode cX0_push 17 = .ok (.aload_n 0, 1) := by decide +kernel
theorem dX0_push_18 : decode cX0_push 18 = .ok (.getfield 9, 3) := by decide +kernel
theorem dX0_push_21 : decode cX0_push 21 = .ok (.aload_n 0, 1) := by decide +kernel
theorem dX0_push_22 : decode cX0_push 22 = .ok (.getfield 39, 3) := by decide +kernel
theorem dX0_push_25 : decode cX0_push 25 = .ok (.iload_n 1, 1) := by decide +kernel
theorem dX0_push_26 : decode cX0_push 26 = .ok (.iload_n 2, 1) := by decide +kernel
theorem dX0_push_27 : decode cX0_push 27 = .ok (.ishr, 1) := by decide +kernel
theorem dX0_push_28 : decode cX0_push 28 = .ok (.i2b, 1) := by decide +kernel
theorem dX0_push_29 : decode cX0_push 29 = .ok (.bastore, 1) := by decide +kernel
theorem dX0_push_30 : decode cX0_push 30 = .ok (.aload_n 0, 1) := by decide +kernel
theorem dX0_push_31 : decode cX0_push 31 = .ok (.dup, 1) := by decide +kernel
theorem dX0_push_32 : decode cX0_push 32 = .ok (.getfield 39, 3) := by decide +kernel
theorem dX0_push_35 : decode cX0_push 35 = .ok (.iconst 1, 1) := by decide +kernel
theorem dX0_push_36 : decode cX0_push 36 = .ok (.iadd, 1) := by decide +kernel
theorem dX0_push_37 : decode cX0_push 37 = .ok (.putfield 39, 3) := by decide +kernel
theorem dX0_push_40 : decode cX0_push 40 = .ok (.iinc 2 (-8), 3) := by decide +kernel
theorem dX0_push_43 : decode cX0_push 43 = .ok (.goto (-40), 3) := by decide +kernel
theorem dX0_push_46 : decode cX0_push 46 = .ok (.return_, 1) := by decide +kernel
noncomputable def kb_X0_push_3 (F : Nat) (self : AK) : AK := ak_iload 2 (ak_iflt (ak_return) (ak_aload 0 (ak_getf 0 1 (ak_push (vI 600) (ak_cmplt (ak_aload 0 (ak_getf 0 0 (ak_aload 0 (ak_getf 0 1 (ak_iload 1 (ak_iload 2 (ak_ishr (ak_i2b (ak_bast (ak_aload 0 (ak_dup (ak_getf 0 1 (ak_push (vI 1) (ak_iadd (ak_putf 0 1 (ak_iinc 2 (-8) self)))))))))))))))) (ak_return))))))
noncomputable def k_X0_push_3 (F : Nat) (n : Nat) : AK := Nat.rec (motive := fun _ => AK) ak_none (fun _ self => kb_X0_push_3 F self) n
set_option maxRecDepth 20000 in
theorem sk_X0_push_3 (F : Nat) : ∀ n, Snd X0 RX0 cX0_push 3 0 3 (k_X0_push_3 F n) := by
  intro n
  induction n with
  | zero => exact snd_none
  | succ n ih =>
    show Snd X0 RX0 cX0_push 3 0 3 (kb_X0_push_3 F (k_X0_push_3 F n))
    unfold kb_X0_push_3
    exact snd_iload_n (pc := 3) (i := 2) dX0_push_3 (snd_iflt (pc := 4) (off := 42) (tgt := 46) (by decide) dX0_push_4 (snd_return dX0_push_46) (snd_aload_n (pc := 7) (i := 0) dX0_push_7 (snd_getf (pc := 8) cls0 (f := 1) (by decide) wd_307 dX0_push_8 (snd_sipush (pc := 11) (by decide) dX0_push_11 (snd_icmpge (pc := 14) (off := 32) (tgt := 46) (by decide) dX0_push_14 (snd_return dX0_push_46) (snd_aload_n (pc := 17) (i := 0) dX0_push_17 (snd_getf (pc := 18) cls0 (f := 0) (by decide) wd_304 dX0_push_18 (snd_aload_n (pc := 21) (i := 0) dX0_push_21 (snd_getf (pc := 22) cls0 (f := 1) (by decide) wd_307 dX0_push_22 (snd_iload_n (pc := 25) (i := 1) dX0_push_25 (snd_iload_n (pc := 26) (i := 2) dX0_push_26 (snd_ishr (pc := 27) dX0_push_27 (snd_i2b (pc := 28) dX0_push_28 (snd_bast (pc := 29) dX0_push_29 (snd_aload_n (pc := 30) (i := 0) dX0_push_30 (snd_dup (pc := 31) dX0_push_31 (snd_getf (pc := 32) cls0 (f := 1) (by decide) wd_307 dX0_push_32 (snd_iconst (pc := 35) dX0_push_35 (snd_iadd (pc := 36) dX0_push_36 (snd_putf (pc := 37) cls0 (f := 1) (by decide) rfl rfl rfl wd_307 dX0_push_37 (snd_iinc (pc := 40) (i := 2) (n := (-8)) (by decide) dX0_push_40 (snd_goto (pc := 43) (off := (-40)) (tgt := 3) (by decide) dX0_push_43 (ih)))))))))))))))))))))))
noncomputable def k_X0_push (F : Nat) : AK := ak_push (vI 24) (ak_istore 2 ((k_X0_push_3 F F)))
noncomputable def m_X0_push (F : Nat) : AF := mkF 0 3 (k_X0_push F)
set_option maxRecDepth 20000 in
theorem s_X0_push (F : Nat) : MA yX0_push cX0_push 3 none 0 (m_X0_push F) := met_of (Or.inl ⟨rfl, rfl⟩) (by decide) (by
  unfold k_X0_push
  exact snd_bipush (pc := 0) (by decide) dX0_push_0 (snd_istore_n (pc := 2) (i := 2) (by decide) dX0_push_2 ((sk_X0_push_3 F F))))

/-! LastWalker$Book.townAt(I)LLastWalker$Town; -/
theorem dX0_townAt_0 : decode cX0_townAt 0 = .ok (.iload_n 1, 1) := by decide +kernel
theorem dX0_townAt_1 : decode cX0_townAt 1 = .ok (.ifCond .lt 20, 3) := by decide +kernel
theorem dX0_townAt_4 : decode cX0_townAt 4 = .ok (.iload_n 1, 1) := by decide +kernel
theorem dX0_townAt_5 : decode cX0_townAt 5 = .ok (.aload_n 0, 1) := by decide +kernel
theorem dX0_townAt_6 : decode cX0_townAt 6 = .ok (.getfield 45, 3) := by decide +kernel
theorem dX0_townAt_9 : decode cX0_townAt 9 = .ok (.if_icmp .ge 12, 3) := by decide +kernel
theorem dX0_townAt_12 : decode cX0_townAt 12 = .ok (.aload_n 0, 1) := by decide +kernel
theorem dX0_townAt_13 : decode cX0_townAt 13 = .ok (.getfield 21, 3) := by decide +kernel
theorem dX0_townAt_16 : decode cX0_townAt 16 = .ok (.iload_n 1, 1) := by decide +kernel
theorem dX0_townAt_17 : decode cX0_townAt 17 = .ok (.aaload, 1) := by decide +kernel
theorem dX0_townAt_18 : decode cX0_townAt 18 = .ok (.goto 4, 3) := by decide +kernel
theorem dX0_townAt_21 : decode cX0_townAt 21 = .ok (.aconst_null, 1) := by decide +kernel
theorem dX0_townAt_22 : decode cX0_townAt 22 = .ok (.areturn, 1) := by decide +kernel
noncomputable def k_X0_townAt (F : Nat) : AK := ak_iload 1 (ak_iflt (ak_push vN ak_areturn) (ak_iload 1 (ak_aload 0 (ak_getf 0 5 (ak_cmplt (ak_aload 0 (ak_getf 0 4 (ak_iload 1 (ak_aald ak_areturn)))) (ak_push vN ak_areturn))))))
noncomputable def m_X0_townAt (F : Nat) : AF := mkF 5 2 (k_X0_townAt F)
set_option maxRecDepth 20000 in
theorem s_X0_townAt (F : Nat) : MA yX0_townAt cX0_townAt 2 (some (.object "LastWalker$Town")) 0 (m_X0_townAt F) := met_of (Or.inr (Or.inr (Or.inr (Or.inr (Or.inr ⟨rfl, Or.inl ⟨_, rfl⟩⟩))))) (by decide) (by
  unfold k_X0_townAt
  exact snd_iload_n (pc := 0) (i := 1) dX0_townAt_0 (snd_iflt (pc := 1) (off := 20) (tgt := 21) (by decide) dX0_townAt_1 (snd_null (pc := 21) dX0_townAt_21 (snd_areturn dX0_townAt_22)) (snd_iload_n (pc := 4) (i := 1) dX0_townAt_4 (snd_aload_n (pc := 5) (i := 0) dX0_townAt_5 (snd_getf (pc := 6) cls0 (f := 5) (by decide) wd_314 dX0_townAt_6 (snd_icmpge (pc := 9) (off := 12) (tgt := 21) (by decide) dX0_townAt_9 (snd_null (pc := 21) dX0_townAt_21 (snd_areturn dX0_townAt_22)) (snd_aload_n (pc := 12) (i := 0) dX0_townAt_12 (snd_getf (pc := 13) cls0 (f := 4) (by decide) wd_312 dX0_townAt_13 (snd_iload_n (pc := 16) (i := 1) dX0_townAt_16 (snd_aald (pc := 17) dX0_townAt_17 (snd_goto (pc := 18) (off := 4) (tgt := 22) (by decide) dX0_townAt_18 (snd_areturn dX0_townAt_22))))))))))))

/-! LastWalker$Book.dayAt(I)LLastWalker$Day; -/
theorem dX0_dayAt_0 : decode cX0_dayAt 0 = .ok (.iload_n 1, 1) := by decide +kernel
theorem dX0_dayAt_1 : decode cX0_dayAt 1 = .ok (.ifCond .lt 20, 3) := by decide +kernel
theorem dX0_dayAt_4 : decode cX0_dayAt 4 = .ok (.iload_n 1, 1) := by decide +kernel
theorem dX0_dayAt_5 : decode cX0_dayAt 5 = .ok (.aload_n 0, 1) := by decide +kernel
theorem dX0_dayAt_6 : decode cX0_dayAt 6 = .ok (.getfield 52, 3) := by decide +kernel
theorem dX0_dayAt_9 : decode cX0_dayAt 9 = .ok (.if_icmp .ge 12, 3) := by decide +kernel
theorem dX0_dayAt_12 : decode cX0_dayAt 12 = .ok (.aload_n 0, 1) := by decide +kernel
theorem dX0_dayAt_13 : decode cX0_dayAt 13 = .ok (.getfield 28, 3) := by decide +kernel
theorem dX0_dayAt_16 : decode cX0_dayAt 16 = .ok (.iload_n 1, 1) := by decide +kernel
theorem dX0_dayAt_17 : decode cX0_dayAt 17 = .ok (.aaload, 1) := by decide +kernel
theorem dX0_dayAt_18 : decode cX0_dayAt 18 = .ok (.goto 4, 3) := by decide +kernel
theorem dX0_dayAt_21 : decode cX0_dayAt 21 = .ok (.aconst_null, 1) := by decide +kernel
theorem dX0_dayAt_22 : decode cX0_dayAt 22 = .ok (.areturn, 1) := by decide +kernel
noncomputable def k_X0_dayAt (F : Nat) : AK := ak_iload 1 (ak_iflt (ak_push vN ak_areturn) (ak_iload 1 (ak_aload 0 (ak_getf 0 7 (ak_cmplt (ak_aload 0 (ak_getf 0 6 (ak_iload 1 (ak_aald ak_areturn)))) (ak_push vN ak_areturn))))))
noncomputable def m_X0_dayAt (F : Nat) : AF := mkF 5 2 (k_X0_dayAt F)
set_option maxRecDepth 20000 in
theorem s_X0_dayAt (F : Nat) : MA yX0_dayAt cX0_dayAt 2 (some (.object "LastWalker$Day")) 0 (m_X0_dayAt F) := met_of (Or.inr (Or.inr (Or.inr (Or.inr (Or.inr ⟨rfl, Or.inl ⟨_, rfl⟩⟩))))) (by decide) (by
  unfold k_X0_dayAt
  exact snd_iload_n (pc := 0) (i := 1) dX0_dayAt_0 (snd_iflt (pc := 1) (off := 20) (tgt := 21) (by decide) dX0_dayAt_1 (snd_null (pc := 21) dX0_dayAt_21 (snd_areturn dX0_dayAt_22)) (snd_iload_n (pc := 4) (i := 1) dX0_dayAt_4 (snd_aload_n (pc := 5) (i := 0) dX0_dayAt_5 (snd_getf (pc := 6) cls0 (f := 7) (by decide) wd_318 dX0_dayAt_6 (snd_icmpge (pc := 9) (off := 12) (tgt := 21) (by decide) dX0_dayAt_9 (snd_null (pc := 21) dX0_dayAt_21 (snd_areturn dX0_dayAt_22)) (snd_aload_n (pc := 12) (i := 0) dX0_dayAt_12 (snd_getf (pc := 13) cls0 (f := 6) (by decide) wd_316 dX0_dayAt_13 (snd_iload_n (pc := 16) (i := 1) dX0_dayAt_16 (snd_aald (pc := 17) dX0_dayAt_17 (snd_goto (pc := 18) (off := 4) (tgt := 22) (by decide) dX0_dayAt_18 (snd_areturn dX0_dayAt_22))))))))))))

/-! LastWalker$Chart.join(III)V -/
theorem dX1_join_0 : decode cX1_join 0 = .ok (.iload_n 1, 1) := by decide +kernel
theorem dX1_join_1 : decode cX1_join 1 = .ok (.bipush 14, 2) := by decide +kernel
theorem dX1_join_3 : decode cX1_join 3 = .ok (.imul, 1) := by decide +kernel
theorem dX1_join_4 : decode cX1_join 4 = .ok (.aload_n 0, 1) := by decide +kernel
theorem dX1_join_5 : decode cX1_join 5 = .ok (.getfield 9, 3) := by decide +kernel
theorem dX1_join_8 : decode cX1_join 8 = .ok (.iload_n 1, 1) := by decide +kernel
theorem dX1_join_9 : decode cX1_join 9 = .ok (.iaload, 1) := by decide +kernel
theorem dX1_join_10 : decode cX1_join 10 = .ok (.iadd, 1) := by decide +kernel
theorem dX1_join_11 : decode cX1_join 11 = .ok (.istore 4, 2) := by decide +kernel
theorem dX1_join_13 : decode cX1_join 13 = .ok (.aload_n 0, 1) := by decide +kernel
theorem dX1_join_14 : decode cX1_join 14 = .ok (.getfield 15, 3) := by decide +kernel
theorem dX1_join_17 : decode cX1_join 17 = .ok (.iload 4, 2) := by decide +kernel
theorem dX1_join_19 : decode cX1_join 19 = .ok (.iload_n 3, 1) := by decide +kernel
theorem dX1_join_20 : decode cX1_join 20 = .ok (.iastore, 1) := by decide +kernel
theorem dX1_join_21 : decode cX1_join 21 = .ok (.aload_n 0, 1) := by decide +kernel
theorem dX1_join_22 : decode cX1_join 22 = .ok (.getfield 18, 3) := by decide +kernel
theorem dX1_join_25 : decode cX1_join 25 = .ok (.iload 4, 2) := by decide +kernel
theorem dX1_join_27 : decode cX1_join 27 = .ok (.iload_n 2, 1) := by decide +kernel
theorem dX1_join_28 : decode cX1_join 28 = .ok (.iastore, 1) := by decide +kernel
theorem dX1_join_29 : decode cX1_join 29 = .ok (.aload_n 0, 1) := by decide +kernel
theorem dX1_join_30 : decode cX1_join 30 = .ok (.getfield 9, 3) := by decide +kernel
theorem dX1_join_33 : decode cX1_join 33 = .ok (.iload_n 1, 1) := by decide +kernel
theorem dX1_join_34 : decode cX1_join 34 = .ok (.dup2, 1) := by decide +kernel
theorem dX1_join_35 : decode cX1_join 35 = .ok (.iaload, 1) := by decide +kernel
theorem dX1_join_36 : decode cX1_join 36 = .ok (.iconst 1, 1) := by decide +kernel
theorem dX1_join_37 : decode cX1_join 37 = .ok (.iadd, 1) := by decide +kernel
theorem dX1_join_38 : decode cX1_join 38 = .ok (.iastore, 1) := by decide +kernel
theorem dX1_join_39 : decode cX1_join 39 = .ok (.return_, 1) := by decide +kernel
noncomputable def k_X1_join (F : Nat) : AK := ak_iload 1 (ak_push (vI 14) (ak_imul (ak_aload 0 (ak_getf 1 0 (ak_iload 1 (ak_iald (ak_iadd (ak_istore 4 (ak_aload 0 (ak_getf 1 1 (ak_iload 4 (ak_iload 3 (ak_iast (ak_aload 0 (ak_getf 1 2 (ak_iload 4 (ak_iload 2 (ak_iast (ak_aload 0 (ak_getf 1 0 (ak_iload 1 (ak_dup2 (ak_iald (ak_push (vI 1) (ak_iadd (ak_iast ak_return))))))))))))))))))))))))))
noncomputable def m_X1_join (F : Nat) : AF := mkF 0 5 (k_X1_join F)
set_option maxRecDepth 20000 in
theorem s_X1_join (F : Nat) : MA yX1_join cX1_join 5 none 0 (m_X1_join F) := met_of (Or.inl ⟨rfl, rfl⟩) (by decide) (by
  unfold k_X1_join
  exact snd_iload_n (pc := 0) (i := 1) dX1_join_0 (snd_bipush (pc := 1) (by decide) dX1_join_1 (snd_imul (pc := 3) dX1_join_3 (snd_aload_n (pc := 4) (i := 0) dX1_join_4 (snd_getf (pc := 5) cls1 (f := 0) (by decide) wd_445 dX1_join_5 (snd_iload_n (pc := 8) (i := 1) dX1_join_8 (snd_iald (pc := 9) dX1_join_9 (snd_iadd (pc := 10) dX1_join_10 (snd_istore (pc := 11) (i := 4) (by decide) dX1_join_11 (snd_aload_n (pc := 13) (i := 0) dX1_join_13 (snd_getf (pc := 14) cls1 (f := 1) (by decide) wd_447 dX1_join_14 (snd_iload (pc := 17) (i := 4) dX1_join_17 (snd_iload_n (pc := 19) (i := 3) dX1_join_19 (snd_iast (pc := 20) dX1_join_20 (snd_aload_n (pc := 21) (i := 0) dX1_join_21 (snd_getf (pc := 22) cls1 (f := 2) (by decide) wd_449 dX1_join_22 (snd_iload (pc := 25) (i := 4) dX1_join_25 (snd_iload_n (pc := 27) (i := 2) dX1_join_27 (snd_iast (pc := 28) dX1_join_28 (snd_aload_n (pc := 29) (i := 0) dX1_join_29 (snd_getf (pc := 30) cls1 (f := 0) (by decide) wd_445 dX1_join_30 (snd_iload_n (pc := 33) (i := 1) dX1_join_33 (snd_dup2 (pc := 34) dX1_join_34 (snd_iald (pc := 35) dX1_join_35 (snd_iconst (pc := 36) dX1_join_36 (snd_iadd (pc := 37) dX1_join_37 (snd_iast (pc := 38) dX1_join_38 (snd_return dX1_join_39))))))))))))))))))))))))))))

/-! LastWalker$Chart.layRoads(LLastWalker$Town;)V -/
theorem dX1_layRoads_0 : decode cX1_layRoads 0 = .ok (.aload_n 0, 1) := by decide +kernel
theorem dX1_layRoads_1 : decode cX1_layRoads 1 = .ok (.getfield 9, 3) := by decide +kernel
theorem dX1_layRoads_4 : decode cX1_layRoads 4 = .ok (.iconst 0, 1) := by decide +kernel
theorem dX1_layRoads_5 : decode cX1_layRoads 5 = .ok (.invokestatic 38, 3) := by decide +kernel
theorem dX1_layRoads_8 : decode cX1_layRoads 8 = .ok (.iconst 0, 1) := by decide +kernel
theorem dX1_layRoads_9 : decode cX1_layRoads 9 = .ok (.istore_n 2, 1) := by decide +kernel
theorem dX1_layRoads_10 : decode cX1_layRoads 10 = .ok (.iload_n 2, 1) := by decide +kernel
theorem dX1_layRoads_11 : decode cX1_layRoads 11 = .ok (.aload_n 1, 1) := by decide +kernel
theorem dX1_layRoads_12 : decode cX1_layRoads 12 = .ok (.getfield 44, 3) := by decide +kernel
theorem dX1_layRoads_15 : decode cX1_layRoads 15 = .ok (.if_icmp .ge 43, 3) := by decide +kernel
theorem dX1_layRoads_18 : decode cX1_layRoads 18 = .ok (.aload_n 0, 1) := by decide +kernel
theorem dX1_layRoads_19 : decode cX1_layRoads 19 = .ok (.aload_n 1, 1) := by decide +kernel
theorem dX1_layRoads_20 : decode cX1_layRoads 20 = .ok (.getfield 50, 3) := by decide +kernel
theorem dX1_layRoads_23 : decode cX1_layRoads 23 = .ok (.iload_n 2, 1) := by decide +kernel
theorem dX1_layRoads_24 : decode cX1_layRoads 24 = .ok (.iaload, 1) := by decide +kernel
theorem dX1_layRoads_25 : decode cX1_layRoads 25 = .ok (.aload_n 1, 1) := by decide +kernel
theorem dX1_layRoads_26 : decode cX1_layRoads 26 = .ok (.getfield 53, 3) := by decide +kernel
theorem dX1_layRoads_29 : decode cX1_layRoads 29 = .ok (.iload_n 2, 1) := by decide +kernel
theorem dX1_layRoads_30 : decode cX1_layRoads 30 = .ok (.iaload, 1) := by decide +kernel
theorem dX1_layRoads_31 : decode cX1_layRoads 31 = .ok (.iload_n 2, 1) := by decide +kernel
theorem dX1_layRoads_32 : decode cX1_layRoads 32 = .ok (.invokevirtual 56, 3) := by decide +kernel
theorem dX1_layRoads_35 : decode cX1_layRoads 35 = .ok (.aload_n 0, 1) := by decide +kernel
theorem dX1_layRoads_36 : decode cX1_layRoads 36 = .ok (.aload_n 1, 1) := by decide +kernel
theorem dX1_layRoads_37 : decode cX1_layRoads 37 = .ok (.getfield 53, 3) := by decide +kernel
theorem dX1_layRoads_40 : decode cX1_layRoads 40 = .ok (.iload_n 2, 1) := by decide +kernel
theorem dX1_layRoads_41 : decode cX1_layRoads 41 = .ok (.iaload, 1) := by decide +kernel
theorem dX1_layRoads_42 : decode cX1_layRoads 42 = .ok (.aload_n 1, 1) := by decide +kernel
theorem dX1_layRoads_43 : decode cX1_layRoads 43 = .ok (.getfield 50, 3) := by decide +kernel
theorem dX1_layRoads_46 : decode cX1_layRoads 46 = .ok (.iload_n 2, 1) := by decide +kernel
theorem dX1_layRoads_47 : decode cX1_layRoads 47 = .ok (.iaload, 1) := by decide +kernel
theorem dX1_layRoads_48 : decode cX1_layRoads 48 = .ok (.iload_n 2, 1) := by decide +kernel
theorem dX1_layRoads_49 : decode cX1_layRoads 49 = .ok (.invokevirtual 56, 3) := by decide +kernel
theorem dX1_layRoads_52 : decode cX1_layRoads 52 = .ok (.iinc 2 1, 3) := by decide +kernel
theorem dX1_layRoads_55 : decode cX1_layRoads 55 = .ok (.goto (-45), 3) := by decide +kernel
theorem dX1_layRoads_58 : decode cX1_layRoads 58 = .ok (.return_, 1) := by decide +kernel
noncomputable def kb_X1_layRoads_10 (F : Nat) (self : AK) : AK := ak_iload 2 (ak_aload 1 (ak_getf 7 1 (ak_cmplt (ak_aload 0 (ak_aload 1 (ak_getf 7 2 (ak_iload 2 (ak_iald (ak_aload 1 (ak_getf 7 3 (ak_iload 2 (ak_iald (ak_iload 2 (ak_callv 1 3 (m_X1_join F) (ak_aload 0 (ak_aload 1 (ak_getf 7 3 (ak_iload 2 (ak_iald (ak_aload 1 (ak_getf 7 2 (ak_iload 2 (ak_iald (ak_iload 2 (ak_callv 1 3 (m_X1_join F) (ak_iinc 2 1 self))))))))))))))))))))))) (ak_return))))
noncomputable def k_X1_layRoads_10 (F : Nat) (n : Nat) : AK := Nat.rec (motive := fun _ => AK) ak_none (fun _ self => kb_X1_layRoads_10 F self) n
set_option maxRecDepth 20000 in
theorem sk_X1_layRoads_10 (F : Nat) : ∀ n, Snd X0 RX1 cX1_layRoads 3 1 10 (k_X1_layRoads_10 F n) := by
  intro n
  induction n with
  | zero => exact snd_none
  | succ n ih =>
    show Snd X0 RX1 cX1_layRoads 3 1 10 (kb_X1_layRoads_10 F (k_X1_layRoads_10 F n))
    unfold kb_X1_layRoads_10
    exact snd_iload_n (pc := 10) (i := 2) dX1_layRoads_10 (snd_aload_n (pc := 11) (i := 1) dX1_layRoads_11 (snd_getf (pc := 12) cls7 (f := 1) (by decide) wd_164 dX1_layRoads_12 (snd_icmpge (pc := 15) (off := 43) (tgt := 58) (by decide) dX1_layRoads_15 (snd_return dX1_layRoads_58) (snd_aload_n (pc := 18) (i := 0) dX1_layRoads_18 (snd_aload_n (pc := 19) (i := 1) dX1_layRoads_19 (snd_getf (pc := 20) cls7 (f := 2) (by decide) wd_170 dX1_layRoads_20 (snd_iload_n (pc := 23) (i := 2) dX1_layRoads_23 (snd_iald (pc := 24) dX1_layRoads_24 (snd_aload_n (pc := 25) (i := 1) dX1_layRoads_25 (snd_getf (pc := 26) cls7 (f := 3) (by decide) wd_174 dX1_layRoads_26 (snd_iload_n (pc := 29) (i := 2) dX1_layRoads_29 (snd_iald (pc := 30) dX1_layRoads_30 (snd_iload_n (pc := 31) (i := 2) dX1_layRoads_31 (snd_callV (pc := 32) (n := 3) cls1 (s_X1_join F) (by decide) (by decide) wd_990 wd_987 wd_989 wd_26 wd_127 hy_X1_join dX1_layRoads_32 (snd_aload_n (pc := 35) (i := 0) dX1_layRoads_35 (snd_aload_n (pc := 36) (i := 1) dX1_layRoads_36 (snd_getf (pc := 37) cls7 (f := 3) (by decide) wd_174 dX1_layRoads_37 (snd_iload_n (pc := 40) (i := 2) dX1_layRoads_40 (snd_iald (pc := 41) dX1_layRoads_41 (snd_aload_n (pc := 42) (i := 1) dX1_layRoads_42 (snd_getf (pc := 43) cls7 (f := 2) (by decide) wd_170 dX1_layRoads_43 (snd_iload_n (pc := 46) (i := 2) dX1_layRoads_46 (snd_iald (pc := 47) dX1_layRoads_47 (snd_iload_n (pc := 48) (i := 2) dX1_layRoads_48 (snd_callV (pc := 49) (n := 3) cls1 (s_X1_join F) (by decide) (by decide) wd_990 wd_987 wd_989 wd_26 wd_127 hy_X1_join dX1_layRoads_49 (snd_iinc (pc := 52) (i := 2) (n := 1) (by decide) dX1_layRoads_52 (snd_goto (pc := 55) (off := (-45)) (tgt := 10) (by decide) dX1_layRoads_55 (ih))))))))))))))))))))))))))))
noncomputable def k_X1_layRoads (F : Nat) : AK := ak_aload 0 (ak_getf 1 0 (ak_push (vI 0) (ak_call 2 (m_J7_fill_53178 F) (ak_push (vI 0) (ak_istore 2 ((k_X1_layRoads_10 F F)))))))
noncomputable def m_X1_layRoads (F : Nat) : AF := mkF 0 3 (k_X1_layRoads F)
set_option maxRecDepth 20000 in
theorem s_X1_layRoads (F : Nat) : MA yX1_layRoads cX1_layRoads 3 none 1 (m_X1_layRoads F) := met_of (Or.inl ⟨rfl, rfl⟩) (by decide) (by
  unfold k_X1_layRoads
  exact snd_aload_n (pc := 0) (i := 0) dX1_layRoads_0 (snd_getf (pc := 1) cls1 (f := 0) (by decide) wd_445 dX1_layRoads_1 (snd_iconst (pc := 4) dX1_layRoads_4 (snd_callS (pc := 5) (n := 2) (s_J7_fill_53178 F) (by decide) (by decide) wd_650 wd_986 wd_649 wd_131 hy_J7_fill_53178 dX1_layRoads_5 (snd_iconst (pc := 8) dX1_layRoads_8 (snd_istore_n (pc := 9) (i := 2) (by decide) dX1_layRoads_9 ((sk_X1_layRoads_10 F F))))))))

/-! LastWalker$Chart.lower(III)V -/
theorem dX1_lower_0 : decode cX1_lower 0 = .ok (.iload_n 1, 1) := by decide +kernel
theorem dX1_lower_1 : decode cX1_lower 1 = .ok (.bipush 9, 2) := by decide +kernel
theorem dX1_lower_3 : decode cX1_lower 3 = .ok (.imul, 1) := by decide +kernel
theorem dX1_lower_4 : decode cX1_lower 4 = .ok (.iload_n 2, 1) := by decide +kernel
theorem dX1_lower_5 : decode cX1_lower 5 = .ok (.iadd, 1) := by decide +kernel
theorem dX1_lower_6 : decode cX1_lower 6 = .ok (.istore 4, 2) := by decide +kernel
theorem dX1_lower_8 : decode cX1_lower 8 = .ok (.aload_n 0, 1) := by decide +kernel
theorem dX1_lower_9 : decode cX1_lower 9 = .ok (.getfield 21, 3) := by decide +kernel
theorem dX1_lower_12 : decode cX1_lower 12 = .ok (.iload 4, 2) := by decide +kernel
theorem dX1_lower_14 : decode cX1_lower 14 = .ok (.iaload, 1) := by decide +kernel
theorem dX1_lower_15 : decode cX1_lower 15 = .ok (.iconst (-1), 1) := by decide +kernel
theorem dX1_lower_16 : decode cX1_lower 16 = .ok (.if_icmp .eq 14, 3) := by decide +kernel
theorem dX1_lower_19 : decode cX1_lower 19 = .ok (.iload_n 3, 1) := by decide +kernel
theorem dX1_lower_20 : decode cX1_lower 20 = .ok (.aload_n 0, 1) := by decide +kernel
theorem dX1_lower_21 : decode cX1_lower 21 = .ok (.getfield 21, 3) := by decide +kernel
theorem dX1_lower_24 : decode cX1_lower 24 = .ok (.iload 4, 2) := by decide +kernel
theorem dX1_lower_26 : decode cX1_lower 26 = .ok (.iaload, 1) := by decide +kernel
theorem dX1_lower_27 : decode cX1_lower 27 = .ok (.if_icmp .ge 11, 3) := by decide +kernel
theorem dX1_lower_30 : decode cX1_lower 30 = .ok (.aload_n 0, 1) := by decide +kernel
theorem dX1_lower_31 : decode cX1_lower 31 = .ok (.getfield 21, 3) := by decide +kernel
theorem dX1_lower_34 : decode cX1_lower 34 = .ok (.iload 4, 2) := by decide +kernel
theorem dX1_lower_36 : decode cX1_lower 36 = .ok (.iload_n 3, 1) := by decide +kernel
theorem dX1_lower_37 : decode cX1_lower 37 = .ok (.iastore, 1) := by decide +kernel
theorem dX1_lower_38 : decode cX1_lower 38 = .ok (.return_, 1) := by decide +kernel
noncomputable def k_X1_lower_30 (F : Nat) : AK := ak_aload 0 (ak_getf 1 3 (ak_iload 4 (ak_iload 3 (ak_iast ak_return))))
set_option maxRecDepth 20000 in
theorem sk_X1_lower_30 (F : Nat) : Snd X0 RX1 cX1_lower 5 0 30 (k_X1_lower_30 F) := by
  unfold k_X1_lower_30
  exact snd_aload_n (pc := 30) (i := 0) dX1_lower_30 (snd_getf (pc := 31) cls1 (f := 3) (by decide) wd_451 dX1_lower_31 (snd_iload (pc := 34) (i := 4) dX1_lower_34 (snd_iload_n (pc := 36) (i := 3) dX1_lower_36 (snd_iast (pc := 37) dX1_lower_37 (snd_return dX1_lower_38)))))
noncomputable def k_X1_lower (F : Nat) : AK := ak_iload 1 (ak_push (vI 9) (ak_imul (ak_iload 2 (ak_iadd (ak_istore 4 (ak_aload 0 (ak_getf 1 3 (ak_iload 4 (ak_iald (ak_push (vI (-1)) (ak_cmpeq ((k_X1_lower_30 F)) (ak_iload 3 (ak_aload 0 (ak_getf 1 3 (ak_iload 4 (ak_iald (ak_cmplt ((k_X1_lower_30 F)) (ak_return))))))))))))))))))
noncomputable def m_X1_lower (F : Nat) : AF := mkF 0 5 (k_X1_lower F)
set_option maxRecDepth 20000 in
theorem s_X1_lower (F : Nat) : MA yX1_lower cX1_lower 5 none 0 (m_X1_lower F) := met_of (Or.inl ⟨rfl, rfl⟩) (by decide) (by
  unfold k_X1_lower
  exact snd_iload_n (pc := 0) (i := 1) dX1_lower_0 (snd_bipush (pc := 1) (by decide) dX1_lower_1 (snd_imul (pc := 3) dX1_lower_3 (snd_iload_n (pc := 4) (i := 2) dX1_lower_4 (snd_iadd (pc := 5) dX1_lower_5 (snd_istore (pc := 6) (i := 4) (by decide) dX1_lower_6 (snd_aload_n (pc := 8) (i := 0) dX1_lower_8 (snd_getf (pc := 9) cls1 (f := 3) (by decide) wd_451 dX1_lower_9 (snd_iload (pc := 12) (i := 4) dX1_lower_12 (snd_iald (pc := 14) dX1_lower_14 (snd_iconst (pc := 15) dX1_lower_15 (snd_icmpeq (pc := 16) (off := 14) (tgt := 30) (by decide) dX1_lower_16 ((sk_X1_lower_30 F)) (snd_iload_n (pc := 19) (i := 3) dX1_lower_19 (snd_aload_n (pc := 20) (i := 0) dX1_lower_20 (snd_getf (pc := 21) cls1 (f := 3) (by decide) wd_451 dX1_lower_21 (snd_iload (pc := 24) (i := 4) dX1_lower_24 (snd_iald (pc := 26) dX1_lower_26 (snd_icmpge (pc := 27) (off := 11) (tgt := 38) (by decide) dX1_lower_27 (snd_return dX1_lower_38) ((sk_X1_lower_30 F))))))))))))))))))))

/-! LastWalker$Chart.lowerAllOver(LLastWalker$Town;II)V -/
theorem dX1_lowerAllOver_0 : decode cX1_lowerAllOver 0 = .ok (.aload_n 0, 1) := by decide +kernel
theorem dX1_lowerAllOver_1 : decode cX1_lowerAllOver 1 = .ok (.getfield 21, 3) := by decide +kernel
theorem dX1_lowerAllOver_4 : decode cX1_lowerAllOver 4 = .ok (.iload_n 2, 1) := by decide +kernel
theorem dX1_lowerAllOver_5 : decode cX1_lowerAllOver 5 = .ok (.bipush 9, 2) := by decide +kernel
theorem dX1_lowerAllOver_7 : decode cX1_lowerAllOver 7 = .ok (.imul, 1) := by decide +kernel
theorem dX1_lowerAllOver_8 : decode cX1_lowerAllOver 8 = .ok (.iload_n 3, 1) := by decide +kernel
theorem dX1_lowerAllOver_9 : decode cX1_lowerAllOver 9 = .ok (.iadd, 1) := by decide +kernel
theorem dX1_lowerAllOver_10 : decode cX1_lowerAllOver 10 = .ok (.iaload, 1) := by decide +kernel
theorem dX1_lowerAllOver_11 : decode cX1_lowerAllOver 11 = .ok (.istore 4, 2) := by decide +kernel
theorem dX1_lowerAllOver_13 : decode cX1_lowerAllOver 13 = .ok (.iconst 0, 1) := by decide +kernel
theorem dX1_lowerAllOver_14 : decode cX1_lowerAllOver 14 = .ok (.istore 5, 2) := by decide +kernel
theorem dX1_lowerAllOver_16 : decode cX1_lowerAllOver 16 = .ok (.iload 5, 2) := by decide +kernel
theorem dX1_lowerAllOver_18 : decode cX1_lowerAllOver 18 = .ok (.aload_n 1, 1) := by decide +kernel
theorem dX1_lowerAllOver_19 : decode cX1_lowerAllOver 19 = .ok (.getfield 60, 3) := by decide +kernel
theorem dX1_lowerAllOver_22 : decode cX1_lowerAllOver 22 = .ok (.if_icmp .ge 41, 3) := by decide +kernel
theorem dX1_lowerAllOver_25 : decode cX1_lowerAllOver 25 = .ok (.aload_n 0, 1) := by decide +kernel
theorem dX1_lowerAllOver_26 : decode cX1_lowerAllOver 26 = .ok (.getfield 21, 3) := by decide +kernel
theorem dX1_lowerAllOver_29 : decode cX1_lowerAllOver 29 = .ok (.iload_n 3, 1) := by decide +kernel
theorem dX1_lowerAllOver_30 : decode cX1_lowerAllOver 30 = .ok (.bipush 9, 2) := by decide +kernel
theorem dX1_lowerAllOver_32 : decode cX1_lowerAllOver 32 = .ok (.imul, 1) := by decide +kernel
theorem dX1_lowerAllOver_33 : decode cX1_lowerAllOver 33 = .ok (.iload 5, 2) := by decide +kernel
theorem dX1_lowerAllOver_35 : decode cX1_lowerAllOver 35 = .ok (.iadd, 1) := by decide +kernel
theorem dX1_lowerAllOver_36 : decode cX1_lowerAllOver 36 = .ok (.iaload, 1) := by decide +kernel
theorem dX1_lowerAllOver_37 : decode cX1_lowerAllOver 37 = .ok (.istore 6, 2) := by decide +kernel
theorem dX1_lowerAllOver_39 : decode cX1_lowerAllOver 39 = .ok (.iload 6, 2) := by decide +kernel
theorem dX1_lowerAllOver_41 : decode cX1_lowerAllOver 41 = .ok (.iconst (-1), 1) := by decide +kernel
theorem dX1_lowerAllOver_42 : decode cX1_lowerAllOver 42 = .ok (.if_icmp .eq 15, 3) := by decide +kernel
theorem dX1_lowerAllOver_45 : decode cX1_lowerAllOver 45 = .ok (.aload_n 0, 1) := by decide +kernel
theorem dX1_lowerAllOver_46 : decode cX1_lowerAllOver 46 = .ok (.iload_n 2, 1) := by decide +kernel
theorem dX1_lowerAllOver_47 : decode cX1_lowerAllOver 47 = .ok (.iload 5, 2) := by decide +kernel
theorem dX1_lowerAllOver_49 : decode cX1_lowerAllOver 49 = .ok (.iload 4, 2) := by decide +kernel
theorem dX1_lowerAllOver_51 : decode cX1_lowerAllOver 51 = .ok (.iload 6, 2) := by decide +kernel
theorem dX1_lowerAllOver_53 : decode cX1_lowerAllOver 53 = .ok (.iadd, 1) := by decide +kernel
theorem dX1_lowerAllOver_54 : decode cX1_lowerAllOver 54 = .ok (.invokevirtual 66, 3) := by decide +kernel
theorem dX1_lowerAllOver_57 : decode cX1_lowerAllOver 57 = .ok (.iinc 5 1, 3) := by decide +kernel
theorem dX1_lowerAllOver_60 : decode cX1_lowerAllOver 60 = .ok (.goto (-44), 3) := by decide +kernel
theorem dX1_lowerAllOver_63 : decode cX1_lowerAllOver 63 = .ok (.return_, 1) := by decide +kernel
noncomputable def k_X1_lowerAllOver_57 (F : Nat) (h16 : AK) : AK := ak_iinc 5 1 h16
set_option maxRecDepth 20000 in
theorem sk_X1_lowerAllOver_57 (F : Nat) {h16 : AK} (hh16 : Snd X0 RX1 cX1_lowerAllOver 7 1 16 h16) : Snd X0 RX1 cX1_lowerAllOver 7 1 57 (k_X1_lowerAllOver_57 F h16) := by
  unfold k_X1_lowerAllOver_57
  exact snd_iinc (pc := 57) (i := 5) (n := 1) (by decide) dX1_lowerAllOver_57 (snd_goto (pc := 60) (off := (-44)) (tgt := 16) (by decide) dX1_lowerAllOver_60 (hh16))
noncomputable def kb_X1_lowerAllOver_16 (F : Nat) (self : AK) : AK := ak_iload 5 (ak_aload 1 (ak_getf 7 0 (ak_cmplt (ak_aload 0 (ak_getf 1 3 (ak_iload 3 (ak_push (vI 9) (ak_imul (ak_iload 5 (ak_iadd (ak_iald (ak_istore 6 (ak_iload 6 (ak_push (vI (-1)) (ak_cmpeq ((k_X1_lowerAllOver_57 F self)) (ak_aload 0 (ak_iload 2 (ak_iload 5 (ak_iload 4 (ak_iload 6 (ak_iadd (ak_callv 1 3 (m_X1_lower F) ((k_X1_lowerAllOver_57 F self))))))))))))))))))))) (ak_return))))
noncomputable def k_X1_lowerAllOver_16 (F : Nat) (n : Nat) : AK := Nat.rec (motive := fun _ => AK) ak_none (fun _ self => kb_X1_lowerAllOver_16 F self) n
set_option maxRecDepth 20000 in
theorem sk_X1_lowerAllOver_16 (F : Nat) : ∀ n, Snd X0 RX1 cX1_lowerAllOver 7 1 16 (k_X1_lowerAllOver_16 F n) := by
  intro n
  induction n with
  | zero => exact snd_none
  | succ n ih =>
    show Snd X0 RX1 cX1_lowerAllOver 7 1 16 (kb_X1_lowerAllOver_16 F (k_X1_lowerAllOver_16 F n))
    unfold kb_X1_lowerAllOver_16
    exact snd_iload (pc := 16) (i := 5) dX1_lowerAllOver_16 (snd_aload_n (pc := 18) (i := 1) dX1_lowerAllOver_18 (snd_getf (pc := 19) cls7 (f := 0) (by decide) wd_160 dX1_lowerAllOver_19 (snd_icmpge (pc := 22) (off := 41) (tgt := 63) (by decide) dX1_lowerAllOver_22 (snd_return dX1_lowerAllOver_63) (snd_aload_n (pc := 25) (i := 0) dX1_lowerAllOver_25 (snd_getf (pc := 26) cls1 (f := 3) (by decide) wd_451 dX1_lowerAllOver_26 (snd_iload_n (pc := 29) (i := 3) dX1_lowerAllOver_29 (snd_bipush (pc := 30) (by decide) dX1_lowerAllOver_30 (snd_imul (pc := 32) dX1_lowerAllOver_32 (snd_iload (pc := 33) (i := 5) dX1_lowerAllOver_33 (snd_iadd (pc := 35) dX1_lowerAllOver_35 (snd_iald (pc := 36) dX1_lowerAllOver_36 (snd_istore (pc := 37) (i := 6) (by decide) dX1_lowerAllOver_37 (snd_iload (pc := 39) (i := 6) dX1_lowerAllOver_39 (snd_iconst (pc := 41) dX1_lowerAllOver_41 (snd_icmpeq (pc := 42) (off := 15) (tgt := 57) (by decide) dX1_lowerAllOver_42 ((sk_X1_lowerAllOver_57 F ih)) (snd_aload_n (pc := 45) (i := 0) dX1_lowerAllOver_45 (snd_iload_n (pc := 46) (i := 2) dX1_lowerAllOver_46 (snd_iload (pc := 47) (i := 5) dX1_lowerAllOver_47 (snd_iload (pc := 49) (i := 4) dX1_lowerAllOver_49 (snd_iload (pc := 51) (i := 6) dX1_lowerAllOver_51 (snd_iadd (pc := 53) dX1_lowerAllOver_53 (snd_callV (pc := 54) (n := 3) cls1 (s_X1_lower F) (by decide) (by decide) wd_998 wd_995 wd_997 wd_28 wd_127 hy_X1_lower dX1_lowerAllOver_54 ((sk_X1_lowerAllOver_57 F ih))))))))))))))))))))))))
noncomputable def k_X1_lowerAllOver (F : Nat) : AK := ak_aload 0 (ak_getf 1 3 (ak_iload 2 (ak_push (vI 9) (ak_imul (ak_iload 3 (ak_iadd (ak_iald (ak_istore 4 (ak_push (vI 0) (ak_istore 5 ((k_X1_lowerAllOver_16 F F))))))))))))
noncomputable def m_X1_lowerAllOver (F : Nat) : AF := mkF 0 7 (k_X1_lowerAllOver F)
set_option maxRecDepth 20000 in
theorem s_X1_lowerAllOver (F : Nat) : MA yX1_lowerAllOver cX1_lowerAllOver 7 none 1 (m_X1_lowerAllOver F) := met_of (Or.inl ⟨rfl, rfl⟩) (by decide) (by
  unfold k_X1_lowerAllOver
  exact snd_aload_n (pc := 0) (i := 0) dX1_lowerAllOver_0 (snd_getf (pc := 1) cls1 (f := 3) (by decide) wd_451 dX1_lowerAllOver_1 (snd_iload_n (pc := 4) (i := 2) dX1_lowerAllOver_4 (snd_bipush (pc := 5) (by decide) dX1_lowerAllOver_5 (snd_imul (pc := 7) dX1_lowerAllOver_7 (snd_iload_n (pc := 8) (i := 3) dX1_lowerAllOver_8 (snd_iadd (pc := 9) dX1_lowerAllOver_9 (snd_iald (pc := 10) dX1_lowerAllOver_10 (snd_istore (pc := 11) (i := 4) (by decide) dX1_lowerAllOver_11 (snd_iconst (pc := 13) dX1_lowerAllOver_13 (snd_istore (pc := 14) (i := 5) (by decide) dX1_lowerAllOver_14 ((sk_X1_lowerAllOver_16 F F)))))))))))))

/-! LastWalker$Chart.layMinutes(LLastWalker$Town;)V -/
theorem dX1_layMinutes_0 : decode cX1_layMinutes 0 = .ok (.aload_n 0, 1) := by decide +kernel
theorem dX1_layMinutes_1 : decode cX1_layMinutes 1 = .ok (.getfield 21, 3) := by decide +kernel
theorem dX1_layMinutes_4 : decode cX1_layMinutes 4 = .ok (.iconst (-1), 1) := by decide +kernel
theorem dX1_layMinutes_5 : decode cX1_layMinutes 5 = .ok (.invokestatic 38, 3) := by decide +kernel
theorem dX1_layMinutes_8 : decode cX1_layMinutes 8 = .ok (.iconst 0, 1) := by decide +kernel
theorem dX1_layMinutes_9 : decode cX1_layMinutes 9 = .ok (.istore_n 2, 1) := by decide +kernel
theorem dX1_layMinutes_10 : decode cX1_layMinutes 10 = .ok (.iload_n 2, 1) := by decide +kernel
theorem dX1_layMinutes_11 : decode cX1_layMinutes 11 = .ok (.aload_n 1, 1) := by decide +kernel
theorem dX1_layMinutes_12 : decode cX1_layMinutes 12 = .ok (.getfield 60, 3) := by decide +kernel
theorem dX1_layMinutes_15 : decode cX1_layMinutes 15 = .ok (.if_icmp .ge 21, 3) := by decide +kernel
theorem dX1_layMinutes_18 : decode cX1_layMinutes 18 = .ok (.aload_n 0, 1) := by decide +kernel
theorem dX1_layMinutes_19 : decode cX1_layMinutes 19 = .ok (.getfield 21, 3) := by decide +kernel
theorem dX1_layMinutes_22 : decode cX1_layMinutes 22 = .ok (.iload_n 2, 1) := by decide +kernel
theorem dX1_layMinutes_23 : decode cX1_layMinutes 23 = .ok (.bipush 9, 2) := by decide +kernel
theorem dX1_layMinutes_25 : decode cX1_layMinutes 25 = .ok (.imul, 1) := by decide +kernel
theorem dX1_layMinutes_26 : decode cX1_layMinutes 26 = .ok (.iload_n 2, 1) := by decide +kernel
theorem dX1_layMinutes_27 : decode cX1_layMinutes 27 = .ok (.iadd, 1) := by decide +kernel
theorem dX1_layMinutes_28 : decode cX1_layMinutes 28 = .ok (.iconst 0, 1) := by decide +kernel
theorem dX1_layMinutes_29 : decode cX1_layMinutes 29 = .ok (.iastore, 1) := by decide +kernel
theorem dX1_layMinutes_30 : decode cX1_layMinutes 30 = .ok (.iinc 2 1, 3) := by decide +kernel
theorem dX1_layMinutes_33 : decode cX1_layMinutes 33 = .ok (.goto (-23), 3) := by decide +kernel
theorem dX1_layMinutes_36 : decode cX1_layMinutes 36 = .ok (.iconst 0, 1) := by decide +kernel
theorem dX1_layMinutes_37 : decode cX1_layMinutes 37 = .ok (.istore_n 2, 1) := by decide +kernel
theorem dX1_layMinutes_38 : decode cX1_layMinutes 38 = .ok (.iload_n 2, 1) := by decide +kernel
theorem dX1_layMinutes_39 : decode cX1_layMinutes 39 = .ok (.aload_n 1, 1) := by decide +kernel
theorem dX1_layMinutes_40 : decode cX1_layMinutes 40 = .ok (.getfield 44, 3) := by decide +kernel
theorem dX1_layMinutes_43 : decode cX1_layMinutes 43 = .ok (.if_icmp .ge 53, 3) := by decide +kernel
theorem dX1_layMinutes_46 : decode cX1_layMinutes 46 = .ok (.aload_n 0, 1) := by decide +kernel
theorem dX1_layMinutes_47 : decode cX1_layMinutes 47 = .ok (.aload_n 1, 1) := by decide +kernel
theorem dX1_layMinutes_48 : decode cX1_layMinutes 48 = .ok (.getfield 50, 3) := by decide +kernel
theorem dX1_layMinutes_51 : decode cX1_layMinutes 51 = .ok (.iload_n 2, 1) := by decide +kernel
theorem dX1_layMinutes_52 : decode cX1_layMinutes 52 = .ok (.iaload, 1) := by decide +kernel
theorem dX1_layMinutes_53 : decode cX1_layMinutes 53 = .ok (.aload_n 1, 1) := by decide +kernel
theorem dX1_layMinutes_54 : decode cX1_layMinutes 54 = .ok (.getfield 53, 3) := by decide +kernel
theorem dX1_layMinutes_57 : decode cX1_layMinutes 57 = .ok (.iload_n 2, 1) := by decide +kernel
theorem dX1_layMinutes_58 : decode cX1_layMinutes 58 = .ok (.iaload, 1) := by decide +kernel
theorem dX1_layMinutes_59 : decode cX1_layMinutes 59 = .ok (.aload_n 1, 1) := by decide +kernel
theorem dX1_layMinutes_60 : decode cX1_layMinutes 60 = .ok (.getfield 63, 3) := by decide +kernel
theorem dX1_layMinutes_63 : decode cX1_layMinutes 63 = .ok (.iload_n 2, 1) := by decide +kernel
theorem dX1_layMinutes_64 : decode cX1_layMinutes 64 = .ok (.iaload, 1) := by decide +kernel
theorem dX1_layMinutes_65 : decode cX1_layMinutes 65 = .ok (.invokevirtual 66, 3) := by decide +kernel
theorem dX1_layMinutes_68 : decode cX1_layMinutes 68 = .ok (.aload_n 0, 1) := by decide +kernel
theorem dX1_layMinutes_69 : decode cX1_layMinutes 69 = .ok (.aload_n 1, 1) := by decide +kernel
theorem dX1_layMinutes_70 : decode cX1_layMinutes 70 = .ok (.getfield 53, 3) := by decide +kernel
theorem dX1_layMinutes_73 : decode cX1_layMinutes 73 = .ok (.iload_n 2, 1) := by decide +kernel
theorem dX1_layMinutes_74 : decode cX1_layMinutes 74 = .ok (.iaload, 1) := by decide +kernel
theorem dX1_layMinutes_75 : decode cX1_layMinutes 75 = .ok (.aload_n 1, 1) := by decide +kernel
theorem dX1_layMinutes_76 : decode cX1_layMinutes 76 = .ok (.getfield 50, 3) := by decide +kernel
theorem dX1_layMinutes_79 : decode cX1_layMinutes 79 = .ok (.iload_n 2, 1) := by decide +kernel
theorem dX1_layMinutes_80 : decode cX1_layMinutes 80 = .ok (.iaload, 1) := by decide +kernel
theorem dX1_layMinutes_81 : decode cX1_layMinutes 81 = .ok (.aload_n 1, 1) := by decide +kernel
theorem dX1_layMinutes_82 : decode cX1_layMinutes 82 = .ok (.getfield 63, 3) := by decide +kernel
theorem dX1_layMinutes_85 : decode cX1_layMinutes 85 = .ok (.iload_n 2, 1) := by decide +kernel
theorem dX1_layMinutes_86 : decode cX1_layMinutes 86 = .ok (.iaload, 1) := by decide +kernel
theorem dX1_layMinutes_87 : decode cX1_layMinutes 87 = .ok (.invokevirtual 66, 3) := by decide +kernel
theorem dX1_layMinutes_90 : decode cX1_layMinutes 90 = .ok (.iinc 2 1, 3) := by decide +kernel
theorem dX1_layMinutes_93 : decode cX1_layMinutes 93 = .ok (.goto (-55), 3) := by decide +kernel
theorem dX1_layMinutes_96 : decode cX1_layMinutes 96 = .ok (.iconst 0, 1) := by decide +kernel
theorem dX1_layMinutes_97 : decode cX1_layMinutes 97 = .ok (.istore_n 2, 1) := by decide +kernel
theorem dX1_layMinutes_98 : decode cX1_layMinutes 98 = .ok (.iload_n 2, 1) := by decide +kernel
theorem dX1_layMinutes_99 : decode cX1_layMinutes 99 = .ok (.aload_n 1, 1) := by decide +kernel
theorem dX1_layMinutes_100 : decode cX1_layMinutes 100 = .ok (.getfield 60, 3) := by decide +kernel
theorem dX1_layMinutes_103 : decode cX1_layMinutes 103 = .ok (.if_icmp .ge 52, 3) := by decide +kernel
theorem dX1_layMinutes_106 : decode cX1_layMinutes 106 = .ok (.iconst 0, 1) := by decide +kernel
theorem dX1_layMinutes_107 : decode cX1_layMinutes 107 = .ok (.istore_n 3, 1) := by decide +kernel
theorem dX1_layMinutes_108 : decode cX1_layMinutes 108 = .ok (.iload_n 3, 1) := by decide +kernel
theorem dX1_layMinutes_109 : decode cX1_layMinutes 109 = .ok (.aload_n 1, 1) := by decide +kernel
theorem dX1_layMinutes_110 : decode cX1_layMinutes 110 = .ok (.getfield 60, 3) := by decide +kernel
theorem dX1_layMinutes_113 : decode cX1_layMinutes 113 = .ok (.if_icmp .ge 36, 3) := by decide +kernel
theorem dX1_layMinutes_116 : decode cX1_layMinutes 116 = .ok (.iload_n 3, 1) := by decide +kernel
theorem dX1_layMinutes_117 : decode cX1_layMinutes 117 = .ok (.iload_n 2, 1) := by decide +kernel
theorem dX1_layMinutes_118 : decode cX1_layMinutes 118 = .ok (.if_icmp .eq 25, 3) := by decide +kernel
theorem dX1_layMinutes_121 : decode cX1_layMinutes 121 = .ok (.aload_n 0, 1) := by decide +kernel
theorem dX1_layMinutes_122 : decode cX1_layMinutes 122 = .ok (.getfield 21, 3) := by decide +kernel
theorem dX1_layMinutes_125 : decode cX1_layMinutes 125 = .ok (.iload_n 3, 1) := by decide +kernel
theorem dX1_layMinutes_126 : decode cX1_layMinutes 126 = .ok (.bipush 9, 2) := by decide +kernel
theorem dX1_layMinutes_128 : decode cX1_layMinutes 128 = .ok (.imul, 1) := by decide +kernel
theorem dX1_layMinutes_129 : decode cX1_layMinutes 129 = .ok (.iload_n 2, 1) := by decide +kernel
theorem dX1_layMinutes_130 : decode cX1_layMinutes 130 = .ok (.iadd, 1) := by decide +kernel
theorem dX1_layMinutes_131 : decode cX1_layMinutes 131 = .ok (.iaload, 1) := by decide +kernel
theorem dX1_layMinutes_132 : decode cX1_layMinutes 132 = .ok (.iconst (-1), 1) := by decide +kernel
theorem dX1_layMinutes_133 : decode cX1_layMinutes 133 = .ok (.if_icmp .eq 10, 3) := by decide +kernel
theorem dX1_layMinutes_136 : decode cX1_layMinutes 136 = .ok (.aload_n 0, 1) := by decide +kernel
theorem dX1_layMinutes_137 : decode cX1_layMinutes 137 = .ok (.aload_n 1, 1) := by decide +kernel
theorem dX1_layMinutes_138 : decode cX1_layMinutes 138 = .ok (.iload_n 3, 1) := by decide +kernel
theorem dX1_layMinutes_139 : decode cX1_layMinutes 139 = .ok (.iload_n 2, 1) := by decide +kernel
theorem dX1_layMinutes_140 : decode cX1_layMinutes 140 = .ok (.invokevirtual 69, 3) := by decide +kernel
theorem dX1_layMinutes_143 : decode cX1_layMinutes 143 = .ok (.iinc 3 1, 3) := by decide +kernel
theorem dX1_layMinutes_146 : decode cX1_layMinutes 146 = .ok (.goto (-38), 3) := by decide +kernel
theorem dX1_layMinutes_149 : decode cX1_layMinutes 149 = .ok (.iinc 2 1, 3) := by decide +kernel
theorem dX1_layMinutes_152 : decode cX1_layMinutes 152 = .ok (.goto (-54), 3) := by decide +kernel
theorem dX1_layMinutes_155 : decode cX1_layMinutes 155 = .ok (.return_, 1) := by decide +kernel
noncomputable def k_X1_layMinutes_143 (F : Nat) (h98 : AK) (h108 : AK) : AK := ak_iinc 3 1 h108
set_option maxRecDepth 20000 in
theorem sk_X1_layMinutes_143 (F : Nat) {h98 h108 : AK} (hh98 : Snd X0 RX1 cX1_layMinutes 4 2 98 h98) (hh108 : Snd X0 RX1 cX1_layMinutes 4 2 108 h108) : Snd X0 RX1 cX1_layMinutes 4 2 143 (k_X1_layMinutes_143 F h98 h108) := by
  unfold k_X1_layMinutes_143
  exact snd_iinc (pc := 143) (i := 3) (n := 1) (by decide) dX1_layMinutes_143 (snd_goto (pc := 146) (off := (-38)) (tgt := 108) (by decide) dX1_layMinutes_146 (hh108))
noncomputable def kb_X1_layMinutes_108 (F : Nat) (h98 : AK) (self : AK) : AK := ak_iload 3 (ak_aload 1 (ak_getf 7 0 (ak_cmplt (ak_iload 3 (ak_iload 2 (ak_cmpeq ((k_X1_layMinutes_143 F h98 self)) (ak_aload 0 (ak_getf 1 3 (ak_iload 3 (ak_push (vI 9) (ak_imul (ak_iload 2 (ak_iadd (ak_iald (ak_push (vI (-1)) (ak_cmpeq ((k_X1_layMinutes_143 F h98 self)) (ak_aload 0 (ak_aload 1 (ak_iload 3 (ak_iload 2 (ak_callv 1 3 (m_X1_lowerAllOver F) ((k_X1_layMinutes_143 F h98 self)))))))))))))))))))) (ak_iinc 2 1 h98))))
noncomputable def k_X1_layMinutes_108 (F : Nat) (h98 : AK) (n : Nat) : AK := Nat.rec (motive := fun _ => AK) ak_none (fun _ self => kb_X1_layMinutes_108 F h98 self) n
set_option maxRecDepth 20000 in
theorem sk_X1_layMinutes_108 (F : Nat) {h98 : AK} (hh98 : Snd X0 RX1 cX1_layMinutes 4 2 98 h98) : ∀ n, Snd X0 RX1 cX1_layMinutes 4 2 108 (k_X1_layMinutes_108 F h98 n) := by
  intro n
  induction n with
  | zero => exact snd_none
  | succ n ih =>
    show Snd X0 RX1 cX1_layMinutes 4 2 108 (kb_X1_layMinutes_108 F h98 (k_X1_layMinutes_108 F h98 n))
    unfold kb_X1_layMinutes_108
    exact snd_iload_n (pc := 108) (i := 3) dX1_layMinutes_108 (snd_aload_n (pc := 109) (i := 1) dX1_layMinutes_109 (snd_getf (pc := 110) cls7 (f := 0) (by decide) wd_160 dX1_layMinutes_110 (snd_icmpge (pc := 113) (off := 36) (tgt := 149) (by decide) dX1_layMinutes_113 (snd_iinc (pc := 149) (i := 2) (n := 1) (by decide) dX1_layMinutes_149 (snd_goto (pc := 152) (off := (-54)) (tgt := 98) (by decide) dX1_layMinutes_152 (hh98))) (snd_iload_n (pc := 116) (i := 3) dX1_layMinutes_116 (snd_iload_n (pc := 117) (i := 2) dX1_layMinutes_117 (snd_icmpeq (pc := 118) (off := 25) (tgt := 143) (by decide) dX1_layMinutes_118 ((sk_X1_layMinutes_143 F hh98 ih)) (snd_aload_n (pc := 121) (i := 0) dX1_layMinutes_121 (snd_getf (pc := 122) cls1 (f := 3) (by decide) wd_451 dX1_layMinutes_122 (snd_iload_n (pc := 125) (i := 3) dX1_layMinutes_125 (snd_bipush (pc := 126) (by decide) dX1_layMinutes_126 (snd_imul (pc := 128) dX1_layMinutes_128 (snd_iload_n (pc := 129) (i := 2) dX1_layMinutes_129 (snd_iadd (pc := 130) dX1_layMinutes_130 (snd_iald (pc := 131) dX1_layMinutes_131 (snd_iconst (pc := 132) dX1_layMinutes_132 (snd_icmpeq (pc := 133) (off := 10) (tgt := 143) (by decide) dX1_layMinutes_133 ((sk_X1_layMinutes_143 F hh98 ih)) (snd_aload_n (pc := 136) (i := 0) dX1_layMinutes_136 (snd_aload_n (pc := 137) (i := 1) dX1_layMinutes_137 (snd_iload_n (pc := 138) (i := 3) dX1_layMinutes_138 (snd_iload_n (pc := 139) (i := 2) dX1_layMinutes_139 (snd_callV (pc := 140) (n := 3) cls1 (s_X1_lowerAllOver F) (by decide) (by decide) wd_1002 wd_999 wd_1001 wd_29 wd_127 hy_X1_lowerAllOver dX1_layMinutes_140 ((sk_X1_layMinutes_143 F hh98 ih)))))))))))))))))))))))
noncomputable def kb_X1_layMinutes_98 (F : Nat) (self : AK) : AK := ak_iload 2 (ak_aload 1 (ak_getf 7 0 (ak_cmplt (ak_push (vI 0) (ak_istore 3 ((k_X1_layMinutes_108 F self F)))) (ak_return))))
noncomputable def k_X1_layMinutes_98 (F : Nat) (n : Nat) : AK := Nat.rec (motive := fun _ => AK) ak_none (fun _ self => kb_X1_layMinutes_98 F self) n
set_option maxRecDepth 20000 in
theorem sk_X1_layMinutes_98 (F : Nat) : ∀ n, Snd X0 RX1 cX1_layMinutes 4 2 98 (k_X1_layMinutes_98 F n) := by
  intro n
  induction n with
  | zero => exact snd_none
  | succ n ih =>
    show Snd X0 RX1 cX1_layMinutes 4 2 98 (kb_X1_layMinutes_98 F (k_X1_layMinutes_98 F n))
    unfold kb_X1_layMinutes_98
    exact snd_iload_n (pc := 98) (i := 2) dX1_layMinutes_98 (snd_aload_n (pc := 99) (i := 1) dX1_layMinutes_99 (snd_getf (pc := 100) cls7 (f := 0) (by decide) wd_160 dX1_layMinutes_100 (snd_icmpge (pc := 103) (off := 52) (tgt := 155) (by decide) dX1_layMinutes_103 (snd_return dX1_layMinutes_155) (snd_iconst (pc := 106) dX1_layMinutes_106 (snd_istore_n (pc := 107) (i := 3) (by decide) dX1_layMinutes_107 ((sk_X1_layMinutes_108 F ih F)))))))
noncomputable def kb_X1_layMinutes_38 (F : Nat) (self : AK) : AK := ak_iload 2 (ak_aload 1 (ak_getf 7 1 (ak_cmplt (ak_aload 0 (ak_aload 1 (ak_getf 7 2 (ak_iload 2 (ak_iald (ak_aload 1 (ak_getf 7 3 (ak_iload 2 (ak_iald (ak_aload 1 (ak_getf 7 4 (ak_iload 2 (ak_iald (ak_callv 1 3 (m_X1_lower F) (ak_aload 0 (ak_aload 1 (ak_getf 7 3 (ak_iload 2 (ak_iald (ak_aload 1 (ak_getf 7 2 (ak_iload 2 (ak_iald (ak_aload 1 (ak_getf 7 4 (ak_iload 2 (ak_iald (ak_callv 1 3 (m_X1_lower F) (ak_iinc 2 1 self))))))))))))))))))))))))))))) (ak_push (vI 0) (ak_istore 2 ((k_X1_layMinutes_98 F F)))))))
noncomputable def k_X1_layMinutes_38 (F : Nat) (n : Nat) : AK := Nat.rec (motive := fun _ => AK) ak_none (fun _ self => kb_X1_layMinutes_38 F self) n
set_option maxRecDepth 20000 in
theorem sk_X1_layMinutes_38 (F : Nat) : ∀ n, Snd X0 RX1 cX1_layMinutes 4 2 38 (k_X1_layMinutes_38 F n) := by
  intro n
  induction n with
  | zero => exact snd_none
  | succ n ih =>
    show Snd X0 RX1 cX1_layMinutes 4 2 38 (kb_X1_layMinutes_38 F (k_X1_layMinutes_38 F n))
    unfold kb_X1_layMinutes_38
    exact snd_iload_n (pc := 38) (i := 2) dX1_layMinutes_38 (snd_aload_n (pc := 39) (i := 1) dX1_layMinutes_39 (snd_getf (pc := 40) cls7 (f := 1) (by decide) wd_164 dX1_layMinutes_40 (snd_icmpge (pc := 43) (off := 53) (tgt := 96) (by decide) dX1_layMinutes_43 (snd_iconst (pc := 96) dX1_layMinutes_96 (snd_istore_n (pc := 97) (i := 2) (by decide) dX1_layMinutes_97 ((sk_X1_layMinutes_98 F F)))) (snd_aload_n (pc := 46) (i := 0) dX1_layMinutes_46 (snd_aload_n (pc := 47) (i := 1) dX1_layMinutes_47 (snd_getf (pc := 48) cls7 (f := 2) (by decide) wd_170 dX1_layMinutes_48 (snd_iload_n (pc := 51) (i := 2) dX1_layMinutes_51 (snd_iald (pc := 52) dX1_layMinutes_52 (snd_aload_n (pc := 53) (i := 1) dX1_layMinutes_53 (snd_getf (pc := 54) cls7 (f := 3) (by decide) wd_174 dX1_layMinutes_54 (snd_iload_n (pc := 57) (i := 2) dX1_layMinutes_57 (snd_iald (pc := 58) dX1_layMinutes_58 (snd_aload_n (pc := 59) (i := 1) dX1_layMinutes_59 (snd_getf (pc := 60) cls7 (f := 4) (by decide) wd_180 dX1_layMinutes_60 (snd_iload_n (pc := 63) (i := 2) dX1_layMinutes_63 (snd_iald (pc := 64) dX1_layMinutes_64 (snd_callV (pc := 65) (n := 3) cls1 (s_X1_lower F) (by decide) (by decide) wd_998 wd_995 wd_997 wd_28 wd_127 hy_X1_lower dX1_layMinutes_65 (snd_aload_n (pc := 68) (i := 0) dX1_layMinutes_68 (snd_aload_n (pc := 69) (i := 1) dX1_layMinutes_69 (snd_getf (pc := 70) cls7 (f := 3) (by decide) wd_174 dX1_layMinutes_70 (snd_iload_n (pc := 73) (i := 2) dX1_layMinutes_73 (snd_iald (pc := 74) dX1_layMinutes_74 (snd_aload_n (pc := 75) (i := 1) dX1_layMinutes_75 (snd_getf (pc := 76) cls7 (f := 2) (by decide) wd_170 dX1_layMinutes_76 (snd_iload_n (pc := 79) (i := 2) dX1_layMinutes_79 (snd_iald (pc := 80) dX1_layMinutes_80 (snd_aload_n (pc := 81) (i := 1) dX1_layMinutes_81 (snd_getf (pc := 82) cls7 (f := 4) (by decide) wd_180 dX1_layMinutes_82 (snd_iload_n (pc := 85) (i := 2) dX1_layMinutes_85 (snd_iald (pc := 86) dX1_layMinutes_86 (snd_callV (pc := 87) (n := 3) cls1 (s_X1_lower F) (by decide) (by decide) wd_998 wd_995 wd_997 wd_28 wd_127 hy_X1_lower dX1_layMinutes_87 (snd_iinc (pc := 90) (i := 2) (n := 1) (by decide) dX1_layMinutes_90 (snd_goto (pc := 93) (off := (-55)) (tgt := 38) (by decide) dX1_layMinutes_93 (ih))))))))))))))))))))))))))))))))))
noncomputable def kb_X1_layMinutes_10 (F : Nat) (self : AK) : AK := ak_iload 2 (ak_aload 1 (ak_getf 7 0 (ak_cmplt (ak_aload 0 (ak_getf 1 3 (ak_iload 2 (ak_push (vI 9) (ak_imul (ak_iload 2 (ak_iadd (ak_push (vI 0) (ak_iast (ak_iinc 2 1 self)))))))))) (ak_push (vI 0) (ak_istore 2 ((k_X1_layMinutes_38 F F)))))))
noncomputable def k_X1_layMinutes_10 (F : Nat) (n : Nat) : AK := Nat.rec (motive := fun _ => AK) ak_none (fun _ self => kb_X1_layMinutes_10 F self) n
set_option maxRecDepth 20000 in
theorem sk_X1_layMinutes_10 (F : Nat) : ∀ n, Snd X0 RX1 cX1_layMinutes 4 2 10 (k_X1_layMinutes_10 F n) := by
  intro n
  induction n with
  | zero => exact snd_none
  | succ n ih =>
    show Snd X0 RX1 cX1_layMinutes 4 2 10 (kb_X1_layMinutes_10 F (k_X1_layMinutes_10 F n))
    unfold kb_X1_layMinutes_10
    exact snd_iload_n (pc := 10) (i := 2) dX1_layMinutes_10 (snd_aload_n (pc := 11) (i := 1) dX1_layMinutes_11 (snd_getf (pc := 12) cls7 (f := 0) (by decide) wd_160 dX1_layMinutes_12 (snd_icmpge (pc := 15) (off := 21) (tgt := 36) (by decide) dX1_layMinutes_15 (snd_iconst (pc := 36) dX1_layMinutes_36 (snd_istore_n (pc := 37) (i := 2) (by decide) dX1_layMinutes_37 ((sk_X1_layMinutes_38 F F)))) (snd_aload_n (pc := 18) (i := 0) dX1_layMinutes_18 (snd_getf (pc := 19) cls1 (f := 3) (by decide) wd_451 dX1_layMinutes_19 (snd_iload_n (pc := 22) (i := 2) dX1_layMinutes_22 (snd_bipush (pc := 23) (by decide) dX1_layMinutes_23 (snd_imul (pc := 25) dX1_layMinutes_25 (snd_iload_n (pc := 26) (i := 2) dX1_layMinutes_26 (snd_iadd (pc := 27) dX1_layMinutes_27 (snd_iconst (pc := 28) dX1_layMinutes_28 (snd_iast (pc := 29) dX1_layMinutes_29 (snd_iinc (pc := 30) (i := 2) (n := 1) (by decide) dX1_layMinutes_30 (snd_goto (pc := 33) (off := (-23)) (tgt := 10) (by decide) dX1_layMinutes_33 (ih)))))))))))))))
noncomputable def k_X1_layMinutes (F : Nat) : AK := ak_aload 0 (ak_getf 1 3 (ak_push (vI (-1)) (ak_call 2 (m_J7_fill_53178 F) (ak_push (vI 0) (ak_istore 2 ((k_X1_layMinutes_10 F F)))))))
noncomputable def m_X1_layMinutes (F : Nat) : AF := mkF 0 4 (k_X1_layMinutes F)
set_option maxRecDepth 20000 in
theorem s_X1_layMinutes (F : Nat) : MA yX1_layMinutes cX1_layMinutes 4 none 2 (m_X1_layMinutes F) := met_of (Or.inl ⟨rfl, rfl⟩) (by decide) (by
  unfold k_X1_layMinutes
  exact snd_aload_n (pc := 0) (i := 0) dX1_layMinutes_0 (snd_getf (pc := 1) cls1 (f := 3) (by decide) wd_451 dX1_layMinutes_1 (snd_iconst (pc := 4) dX1_layMinutes_4 (snd_callS (pc := 5) (n := 2) (s_J7_fill_53178 F) (by decide) (by decide) wd_650 wd_986 wd_649 wd_131 hy_J7_fill_53178 dX1_layMinutes_5 (snd_iconst (pc := 8) dX1_layMinutes_8 (snd_istore_n (pc := 9) (i := 2) (by decide) dX1_layMinutes_9 ((sk_X1_layMinutes_10 F F))))))))

/-! LastWalker$Town.worthFrom(II)J -/
theorem dX7_worthFrom_0 : decode cX7_worthFrom 0 = .ok (.aload_n 0, 1) := by decide +kernel
theorem dX7_worthFrom_1 : decode cX7_worthFrom 1 = .ok (.getfield 64, 3) := by decide +kernel
theorem dX7_worthFrom_4 : decode cX7_worthFrom 4 = .ok (.iconst 3, 1) := by decide +kernel
theorem dX7_worthFrom_5 : decode cX7_worthFrom 5 = .ok (.if_icmp .ne 5, 3) := by decide +kernel
theorem dX7_worthFrom_8 : decode cX7_worthFrom 8 = .ok (.lconst 0, 1) := by decide +kernel
theorem dX7_worthFrom_9 : decode cX7_worthFrom 9 = .ok (.lreturn, 1) := by decide +kernel
theorem dX7_worthFrom_10 : decode cX7_worthFrom 10 = .ok (.ldc2_w 83, 3) := by decide +kernel
theorem dX7_worthFrom_13 : decode cX7_worthFrom 13 = .ok (.lstore_n 3, 1) := by decide +kernel
theorem dX7_worthFrom_14 : decode cX7_worthFrom 14 = .ok (.lconst 0, 1) := by decide +kernel
theorem dX7_worthFrom_15 : decode cX7_worthFrom 15 = .ok (.lstore 5, 2) := by decide +kernel
theorem dX7_worthFrom_17 : decode cX7_worthFrom 17 = .ok (.iload_n 2, 1) := by decide +kernel
theorem dX7_worthFrom_18 : decode cX7_worthFrom 18 = .ok (.istore 7, 2) := by decide +kernel
theorem dX7_worthFrom_20 : decode cX7_worthFrom 20 = .ok (.iload 7, 2) := by decide +kernel
theorem dX7_worthFrom_22 : decode cX7_worthFrom 22 = .ok (.bipush 6, 2) := by decide +kernel
theorem dX7_worthFrom_24 : decode cX7_worthFrom 24 = .ok (.if_icmp .ge 85, 3) := by decide +kernel
theorem dX7_worthFrom_27 : decode cX7_worthFrom 27 = .ok (.aload_n 0, 1) := by decide +kernel
theorem dX7_worthFrom_28 : decode cX7_worthFrom 28 = .ok (.getfield 27, 3) := by decide +kernel
theorem dX7_worthFrom_31 : decode cX7_worthFrom 31 = .ok (.iload_n 1, 1) := by decide +kernel
theorem dX7_worthFrom_32 : decode cX7_worthFrom 32 = .ok (.bipush 6, 2) := by decide +kernel
theorem dX7_worthFrom_34 : decode cX7_worthFrom 34 = .ok (.imul, 1) := by decide +kernel
theorem dX7_worthFrom_35 : decode cX7_worthFrom 35 = .ok (.iload 7, 2) := by decide +kernel
theorem dX7_worthFrom_37 : decode cX7_worthFrom 37 = .ok (.iadd, 1) := by decide +kernel
theorem dX7_worthFrom_38 : decode cX7_worthFrom 38 = .ok (.iaload, 1) := by decide +kernel
theorem dX7_worthFrom_39 : decode cX7_worthFrom 39 = .ok (.istore 8, 2) := by decide +kernel
theorem dX7_worthFrom_41 : decode cX7_worthFrom 41 = .ok (.lload 5, 2) := by decide +kernel
theorem dX7_worthFrom_43 : decode cX7_worthFrom 43 = .ok (.lload_n 3, 1) := by decide +kernel
theorem dX7_worthFrom_44 : decode cX7_worthFrom 44 = .ok (.iload 8, 2) := by decide +kernel
theorem dX7_worthFrom_46 : decode cX7_worthFrom 46 = .ok (.i2l, 1) := by decide +kernel
theorem dX7_worthFrom_47 : decode cX7_worthFrom 47 = .ok (.lmul, 1) := by decide +kernel
theorem dX7_worthFrom_48 : decode cX7_worthFrom 48 = .ok (.ldc2_w 85, 3) := by decide +kernel
theorem dX7_worthFrom_51 : decode cX7_worthFrom 51 = .ok (.ldiv, 1) := by decide +kernel
theorem dX7_worthFrom_52 : decode cX7_worthFrom 52 = .ok (.aload_n 0, 1) := by decide +kernel
theorem dX7_worthFrom_53 : decode cX7_worthFrom 53 = .ok (.getfield 21, 3) := by decide +kernel
theorem dX7_worthFrom_56 : decode cX7_worthFrom 56 = .ok (.iload_n 1, 1) := by decide +kernel
theorem dX7_worthFrom_57 : decode cX7_worthFrom 57 = .ok (.iaload, 1) := by decide +kernel
theorem dX7_worthFrom_58 : decode cX7_worthFrom 58 = .ok (.i2l, 1) := by decide +kernel
theorem dX7_worthFrom_59 : decode cX7_worthFrom 59 = .ok (.lmul, 1) := by decide +kernel
theorem dX7_worthFrom_60 : decode cX7_worthFrom 60 = .ok (.ladd, 1) := by decide +kernel
theorem dX7_worthFrom_61 : decode cX7_worthFrom 61 = .ok (.lstore 5, 2) := by decide +kernel
theorem dX7_worthFrom_63 : decode cX7_worthFrom 63 = .ok (.aload_n 0, 1) := by decide +kernel
theorem dX7_worthFrom_64 : decode cX7_worthFrom 64 = .ok (.getfield 64, 3) := by decide +kernel
theorem dX7_worthFrom_67 : decode cX7_worthFrom 67 = .ok (.ifCond .eq 23, 3) := by decide +kernel
theorem dX7_worthFrom_70 : decode cX7_worthFrom 70 = .ok (.aload_n 0, 1) := by decide +kernel
theorem dX7_worthFrom_71 : decode cX7_worthFrom 71 = .ok (.getfield 64, 3) := by decide +kernel
theorem dX7_worthFrom_74 : decode cX7_worthFrom 74 = .ok (.iconst 2, 1) := by decide +kernel
theorem dX7_worthFrom_75 : decode cX7_worthFrom 75 = .ok (.if_icmp .ne 28, 3) := by decide +kernel
theorem dX7_worthFrom_78 : decode cX7_worthFrom 78 = .ok (.bipush 60, 2) := by decide +kernel
theorem dX7_worthFrom_80 : decode cX7_worthFrom 80 = .ok (.iload 7, 2) := by decide +kernel
theorem dX7_worthFrom_82 : decode cX7_worthFrom 82 = .ok (.imul, 1) := by decide +kernel
theorem dX7_worthFrom_83 : decode cX7_worthFrom 83 = .ok (.aload_n 0, 1) := by decide +kernel
theorem dX7_worthFrom_84 : decode cX7_worthFrom 84 = .ok (.getfield 67, 3) := by decide +kernel
theorem dX7_worthFrom_87 : decode cX7_worthFrom 87 = .ok (.if_icmp .ge 16, 3) := by decide +kernel
theorem dX7_worthFrom_90 : decode cX7_worthFrom 90 = .ok (.lload_n 3, 1) := by decide +kernel
theorem dX7_worthFrom_91 : decode cX7_worthFrom 91 = .ok (.bipush 100, 2) := by decide +kernel
theorem dX7_worthFrom_93 : decode cX7_worthFrom 93 = .ok (.iload 8, 2) := by decide +kernel
theorem dX7_worthFrom_95 : decode cX7_worthFrom 95 = .ok (.isub, 1) := by decide +kernel
theorem dX7_worthFrom_96 : decode cX7_worthFrom 96 = .ok (.i2l, 1) := by decide +kernel
theorem dX7_worthFrom_97 : decode cX7_worthFrom 97 = .ok (.lmul, 1) := by decide +kernel
theorem dX7_worthFrom_98 : decode cX7_worthFrom 98 = .ok (.ldc2_w 85, 3) := by decide +kernel
theorem dX7_worthFrom_101 : decode cX7_worthFrom 101 = .ok (.ldiv, 1) := by decide +kernel
theorem dX7_worthFrom_102 : decode cX7_worthFrom 102 = .ok (.lstore_n 3, 1) := by decide +kernel
theorem dX7_worthFrom_103 : decode cX7_worthFrom 103 = .ok (.iinc 7 1, 3) := by decide +kernel
theorem dX7_worthFrom_106 : decode cX7_worthFrom 106 = .ok (.goto (-86), 3) := by decide +kernel
theorem dX7_worthFrom_109 : decode cX7_worthFrom 109 = .ok (.lload 5, 2) := by decide +kernel
theorem dX7_worthFrom_111 : decode cX7_worthFrom 111 = .ok (.lreturn, 1) := by decide +kernel
noncomputable def k_X7_worthFrom_103 (F : Nat) (h20 : AK) : AK := ak_iinc 7 1 h20
set_option maxRecDepth 20000 in
theorem sk_X7_worthFrom_103 (F : Nat) {h20 : AK} (hh20 : Snd X0 RX7 cX7_worthFrom 9 0 20 h20) : Snd X0 RX7 cX7_worthFrom 9 0 103 (k_X7_worthFrom_103 F h20) := by
  unfold k_X7_worthFrom_103
  exact snd_iinc (pc := 103) (i := 7) (n := 1) (by decide) dX7_worthFrom_103 (snd_goto (pc := 106) (off := (-86)) (tgt := 20) (by decide) dX7_worthFrom_106 (hh20))
noncomputable def k_X7_worthFrom_90 (F : Nat) (h20 : AK) : AK := ak_lload 3 (ak_push (vI 100) (ak_iload 8 (ak_isub (ak_i2l (ak_lmul (ak_push (vL 100) (ak_ldiv (ak_lstore 3 ((k_X7_worthFrom_103 F h20))))))))))
set_option maxRecDepth 20000 in
theorem sk_X7_worthFrom_90 (F : Nat) {h20 : AK} (hh20 : Snd X0 RX7 cX7_worthFrom 9 0 20 h20) : Snd X0 RX7 cX7_worthFrom 9 0 90 (k_X7_worthFrom_90 F h20) := by
  unfold k_X7_worthFrom_90
  exact snd_lload_n (pc := 90) (i := 3) dX7_worthFrom_90 (snd_bipush (pc := 91) (by decide) dX7_worthFrom_91 (snd_iload (pc := 93) (i := 8) dX7_worthFrom_93 (snd_isub (pc := 95) dX7_worthFrom_95 (snd_i2l (pc := 96) dX7_worthFrom_96 (snd_lmul (pc := 97) dX7_worthFrom_97 (snd_ldc2 (pc := 98) (z := (100)) (by decide) wd_962 dX7_worthFrom_98 (snd_ldiv (pc := 101) dX7_worthFrom_101 (snd_lstore_n (pc := 102) (i := 3) (by decide) dX7_worthFrom_102 ((sk_X7_worthFrom_103 F hh20))))))))))
noncomputable def kb_X7_worthFrom_20 (F : Nat) (self : AK) : AK := ak_iload 7 (ak_push (vI 6) (ak_cmplt (ak_aload 0 (ak_getf 7 7 (ak_iload 1 (ak_push (vI 6) (ak_imul (ak_iload 7 (ak_iadd (ak_iald (ak_istore 8 (ak_lload 5 (ak_lload 3 (ak_iload 8 (ak_i2l (ak_lmul (ak_push (vL 100) (ak_ldiv (ak_aload 0 (ak_getf 7 5 (ak_iload 1 (ak_iald (ak_i2l (ak_lmul (ak_ladd (ak_lstore 5 (ak_aload 0 (ak_getf 7 17 (ak_ifeq ((k_X7_worthFrom_90 F self)) (ak_aload 0 (ak_getf 7 17 (ak_push (vI 2) (ak_cmpeq (ak_push (vI 60) (ak_iload 7 (ak_imul (ak_aload 0 (ak_getf 7 18 (ak_cmplt ((k_X7_worthFrom_90 F self)) ((k_X7_worthFrom_103 F self)))))))) ((k_X7_worthFrom_103 F self))))))))))))))))))))))))))))))))) (ak_lload 5 ak_lreturn)))
noncomputable def k_X7_worthFrom_20 (F : Nat) (n : Nat) : AK := Nat.rec (motive := fun _ => AK) ak_none (fun _ self => kb_X7_worthFrom_20 F self) n
set_option maxRecDepth 20000 in
theorem sk_X7_worthFrom_20 (F : Nat) : ∀ n, Snd X0 RX7 cX7_worthFrom 9 0 20 (k_X7_worthFrom_20 F n) := by
  intro n
  induction n with
  | zero => exact snd_none
  | succ n ih =>
    show Snd X0 RX7 cX7_worthFrom 9 0 20 (kb_X7_worthFrom_20 F (k_X7_worthFrom_20 F n))
    unfold kb_X7_worthFrom_20
    exact snd_iload (pc := 20) (i := 7) dX7_worthFrom_20 (snd_bipush (pc := 22) (by decide) dX7_worthFrom_22 (snd_icmpge (pc := 24) (off := 85) (tgt := 109) (by decide) dX7_worthFrom_24 (snd_lload (pc := 109) (i := 5) dX7_worthFrom_109 (snd_lreturn dX7_worthFrom_111)) (snd_aload_n (pc := 27) (i := 0) dX7_worthFrom_27 (snd_getf (pc := 28) cls7 (f := 7) (by decide) wd_191 dX7_worthFrom_28 (snd_iload_n (pc := 31) (i := 1) dX7_worthFrom_31 (snd_bipush (pc := 32) (by decide) dX7_worthFrom_32 (snd_imul (pc := 34) dX7_worthFrom_34 (snd_iload (pc := 35) (i := 7) dX7_worthFrom_35 (snd_iadd (pc := 37) dX7_worthFrom_37 (snd_iald (pc := 38) dX7_worthFrom_38 (snd_istore (pc := 39) (i := 8) (by decide) dX7_worthFrom_39 (snd_lload (pc := 41) (i := 5) dX7_worthFrom_41 (snd_lload_n (pc := 43) (i := 3) dX7_worthFrom_43 (snd_iload (pc := 44) (i := 8) dX7_worthFrom_44 (snd_i2l (pc := 46) dX7_worthFrom_46 (snd_lmul (pc := 47) dX7_worthFrom_47 (snd_ldc2 (pc := 48) (z := (100)) (by decide) wd_962 dX7_worthFrom_48 (snd_ldiv (pc := 51) dX7_worthFrom_51 (snd_aload_n (pc := 52) (i := 0) dX7_worthFrom_52 (snd_getf (pc := 53) cls7 (f := 5) (by decide) wd_183 dX7_worthFrom_53 (snd_iload_n (pc := 56) (i := 1) dX7_worthFrom_56 (snd_iald (pc := 57) dX7_worthFrom_57 (snd_i2l (pc := 58) dX7_worthFrom_58 (snd_lmul (pc := 59) dX7_worthFrom_59 (snd_ladd (pc := 60) dX7_worthFrom_60 (snd_lstore (pc := 61) (i := 5) (by decide) dX7_worthFrom_61 (snd_aload_n (pc := 63) (i := 0) dX7_worthFrom_63 (snd_getf (pc := 64) cls7 (f := 17) (by decide) wd_233 dX7_worthFrom_64 (snd_ifeq (pc := 67) (off := 23) (tgt := 90) (by decide) dX7_worthFrom_67 ((sk_X7_worthFrom_90 F ih)) (snd_aload_n (pc := 70) (i := 0) dX7_worthFrom_70 (snd_getf (pc := 71) cls7 (f := 17) (by decide) wd_233 dX7_worthFrom_71 (snd_iconst (pc := 74) dX7_worthFrom_74 (snd_icmpne (pc := 75) (off := 28) (tgt := 103) (by decide) dX7_worthFrom_75 ((sk_X7_worthFrom_103 F ih)) (snd_bipush (pc := 78) (by decide) dX7_worthFrom_78 (snd_iload (pc := 80) (i := 7) dX7_worthFrom_80 (snd_imul (pc := 82) dX7_worthFrom_82 (snd_aload_n (pc := 83) (i := 0) dX7_worthFrom_83 (snd_getf (pc := 84) cls7 (f := 18) (by decide) wd_236 dX7_worthFrom_84 (snd_icmpge (pc := 87) (off := 16) (tgt := 103) (by decide) dX7_worthFrom_87 ((sk_X7_worthFrom_103 F ih)) ((sk_X7_worthFrom_90 F ih)))))))))))))))))))))))))))))))))))))))))
noncomputable def k_X7_worthFrom (F : Nat) : AK := ak_aload 0 (ak_getf 7 17 (ak_push (vI 3) (ak_cmpeq (ak_push (vL 0) ak_lreturn) (ak_push (vL 1000000000000) (ak_lstore 3 (ak_push (vL 0) (ak_lstore 5 (ak_iload 2 (ak_istore 7 ((k_X7_worthFrom_20 F F)))))))))))
noncomputable def m_X7_worthFrom (F : Nat) : AF := mkF 4 9 (k_X7_worthFrom F)
set_option maxRecDepth 20000 in
theorem s_X7_worthFrom (F : Nat) : MA yX7_worthFrom cX7_worthFrom 9 (some .long) 0 (m_X7_worthFrom F) := met_of (Or.inr (Or.inr (Or.inr (Or.inr (Or.inl ⟨rfl, rfl⟩))))) (by decide) (by
  unfold k_X7_worthFrom
  exact snd_aload_n (pc := 0) (i := 0) dX7_worthFrom_0 (snd_getf (pc := 1) cls7 (f := 17) (by decide) wd_233 dX7_worthFrom_1 (snd_iconst (pc := 4) dX7_worthFrom_4 (snd_icmpne (pc := 5) (off := 5) (tgt := 10) (by decide) dX7_worthFrom_5 (snd_ldc2 (pc := 10) (z := (1000000000000)) (by decide) wd_961 dX7_worthFrom_10 (snd_lstore_n (pc := 13) (i := 3) (by decide) dX7_worthFrom_13 (snd_lconst (pc := 14) (by decide) dX7_worthFrom_14 (snd_lstore (pc := 15) (i := 5) (by decide) dX7_worthFrom_15 (snd_iload_n (pc := 17) (i := 2) dX7_worthFrom_17 (snd_istore (pc := 18) (i := 7) (by decide) dX7_worthFrom_18 ((sk_X7_worthFrom_20 F F)))))))) (snd_lconst (pc := 8) (by decide) dX7_worthFrom_8 (snd_lreturn dX7_worthFrom_9))))))

/-! LastWalker$Chart.layWorths(LLastWalker$Town;)V -/
theorem dX1_layWorths_0 : decode cX1_layWorths 0 = .ok (.iconst 0, 1) := by decide +kernel
theorem dX1_layWorths_1 : decode cX1_layWorths 1 = .ok (.istore_n 2, 1) := by decide +kernel
theorem dX1_layWorths_2 : decode cX1_layWorths 2 = .ok (.iload_n 2, 1) := by decide +kernel
theorem dX1_layWorths_3 : decode cX1_layWorths 3 = .ok (.aload_n 1, 1) := by decide +kernel
theorem dX1_layWorths_4 : decode cX1_layWorths 4 = .ok (.getfield 44, 3) := by decide +kernel
theorem dX1_layWorths_7 : decode cX1_layWorths 7 = .ok (.if_icmp .ge 40, 3) := by decide +kernel
theorem dX1_layWorths_10 : decode cX1_layWorths 10 = .ok (.iconst 0, 1) := by decide +kernel
theorem dX1_layWorths_11 : decode cX1_layWorths 11 = .ok (.istore_n 3, 1) := by decide +kernel
theorem dX1_layWorths_12 : decode cX1_layWorths 12 = .ok (.iload_n 3, 1) := by decide +kernel
theorem dX1_layWorths_13 : decode cX1_layWorths 13 = .ok (.bipush 6, 2) := by decide +kernel
theorem dX1_layWorths_15 : decode cX1_layWorths 15 = .ok (.if_icmp .gt 26, 3) := by decide +kernel
theorem dX1_layWorths_18 : decode cX1_layWorths 18 = .ok (.aload_n 0, 1) := by decide +kernel
theorem dX1_layWorths_19 : decode cX1_layWorths 19 = .ok (.getfield 24, 3) := by decide +kernel
theorem dX1_layWorths_22 : decode cX1_layWorths 22 = .ok (.iload_n 2, 1) := by decide +kernel
theorem dX1_layWorths_23 : decode cX1_layWorths 23 = .ok (.bipush 7, 2) := by decide +kernel
theorem dX1_layWorths_25 : decode cX1_layWorths 25 = .ok (.imul, 1) := by decide +kernel
theorem dX1_layWorths_26 : decode cX1_layWorths 26 = .ok (.iload_n 3, 1) := by decide +kernel
theorem dX1_layWorths_27 : decode cX1_layWorths 27 = .ok (.iadd, 1) := by decide +kernel
theorem dX1_layWorths_28 : decode cX1_layWorths 28 = .ok (.aload_n 1, 1) := by decide +kernel
theorem dX1_layWorths_29 : decode cX1_layWorths 29 = .ok (.iload_n 2, 1) := by decide +kernel
theorem dX1_layWorths_30 : decode cX1_layWorths 30 = .ok (.iload_n 3, 1) := by decide +kernel
theorem dX1_layWorths_31 : decode cX1_layWorths 31 = .ok (.invokevirtual 73, 3) := by decide +kernel
theorem dX1_layWorths_34 : decode cX1_layWorths 34 = .ok (.lastore, 1) := by decide +kernel
theorem dX1_layWorths_35 : decode cX1_layWorths 35 = .ok (.iinc 3 1, 3) := by decide +kernel
theorem dX1_layWorths_38 : decode cX1_layWorths 38 = .ok (.goto (-26), 3) := by decide +kernel
theorem dX1_layWorths_41 : decode cX1_layWorths 41 = .ok (.iinc 2 1, 3) := by decide +kernel
theorem dX1_layWorths_44 : decode cX1_layWorths 44 = .ok (.goto (-42), 3) := by decide +kernel
theorem dX1_layWorths_47 : decode cX1_layWorths 47 = .ok (.return_, 1) := by decide +kernel
noncomputable def kb_X1_layWorths_12 (F : Nat) (h2 : AK) (self : AK) : AK := ak_iload 3 (ak_push (vI 6) (ak_cmpgt (ak_iinc 2 1 h2) (ak_aload 0 (ak_getf 1 4 (ak_iload 2 (ak_push (vI 7) (ak_imul (ak_iload 3 (ak_iadd (ak_aload 1 (ak_iload 2 (ak_iload 3 (ak_callv 7 2 (m_X7_worthFrom F) (ak_last (ak_iinc 3 1 self)))))))))))))))
noncomputable def k_X1_layWorths_12 (F : Nat) (h2 : AK) (n : Nat) : AK := Nat.rec (motive := fun _ => AK) ak_none (fun _ self => kb_X1_layWorths_12 F h2 self) n
set_option maxRecDepth 20000 in
theorem sk_X1_layWorths_12 (F : Nat) {h2 : AK} (hh2 : Snd X0 RX1 cX1_layWorths 4 1 2 h2) : ∀ n, Snd X0 RX1 cX1_layWorths 4 1 12 (k_X1_layWorths_12 F h2 n) := by
  intro n
  induction n with
  | zero => exact snd_none
  | succ n ih =>
    show Snd X0 RX1 cX1_layWorths 4 1 12 (kb_X1_layWorths_12 F h2 (k_X1_layWorths_12 F h2 n))
    unfold kb_X1_layWorths_12
    exact snd_iload_n (pc := 12) (i := 3) dX1_layWorths_12 (snd_bipush (pc := 13) (by decide) dX1_layWorths_13 (snd_icmpgt (pc := 15) (off := 26) (tgt := 41) (by decide) dX1_layWorths_15 (snd_iinc (pc := 41) (i := 2) (n := 1) (by decide) dX1_layWorths_41 (snd_goto (pc := 44) (off := (-42)) (tgt := 2) (by decide) dX1_layWorths_44 (hh2))) (snd_aload_n (pc := 18) (i := 0) dX1_layWorths_18 (snd_getf (pc := 19) cls1 (f := 4) (by decide) wd_455 dX1_layWorths_19 (snd_iload_n (pc := 22) (i := 2) dX1_layWorths_22 (snd_bipush (pc := 23) (by decide) dX1_layWorths_23 (snd_imul (pc := 25) dX1_layWorths_25 (snd_iload_n (pc := 26) (i := 3) dX1_layWorths_26 (snd_iadd (pc := 27) dX1_layWorths_27 (snd_aload_n (pc := 28) (i := 1) dX1_layWorths_28 (snd_iload_n (pc := 29) (i := 2) dX1_layWorths_29 (snd_iload_n (pc := 30) (i := 3) dX1_layWorths_30 (snd_callV (pc := 31) (n := 2) cls7 (s_X7_worthFrom F) (by decide) (by decide) wd_960 wd_1007 wd_958 wd_959 wd_122 hy_X7_worthFrom dX1_layWorths_31 (snd_last (pc := 34) dX1_layWorths_34 (snd_iinc (pc := 35) (i := 3) (n := 1) (by decide) dX1_layWorths_35 (snd_goto (pc := 38) (off := (-26)) (tgt := 12) (by decide) dX1_layWorths_38 (ih)))))))))))))))))
noncomputable def kb_X1_layWorths_2 (F : Nat) (self : AK) : AK := ak_iload 2 (ak_aload 1 (ak_getf 7 1 (ak_cmplt (ak_push (vI 0) (ak_istore 3 ((k_X1_layWorths_12 F self F)))) (ak_return))))
noncomputable def k_X1_layWorths_2 (F : Nat) (n : Nat) : AK := Nat.rec (motive := fun _ => AK) ak_none (fun _ self => kb_X1_layWorths_2 F self) n
set_option maxRecDepth 20000 in
theorem sk_X1_layWorths_2 (F : Nat) : ∀ n, Snd X0 RX1 cX1_layWorths 4 1 2 (k_X1_layWorths_2 F n) := by
  intro n
  induction n with
  | zero => exact snd_none
  | succ n ih =>
    show Snd X0 RX1 cX1_layWorths 4 1 2 (kb_X1_layWorths_2 F (k_X1_layWorths_2 F n))
    unfold kb_X1_layWorths_2
    exact snd_iload_n (pc := 2) (i := 2) dX1_layWorths_2 (snd_aload_n (pc := 3) (i := 1) dX1_layWorths_3 (snd_getf (pc := 4) cls7 (f := 1) (by decide) wd_164 dX1_layWorths_4 (snd_icmpge (pc := 7) (off := 40) (tgt := 47) (by decide) dX1_layWorths_7 (snd_return dX1_layWorths_47) (snd_iconst (pc := 10) dX1_layWorths_10 (snd_istore_n (pc := 11) (i := 3) (by decide) dX1_layWorths_11 ((sk_X1_layWorths_12 F ih F)))))))
noncomputable def k_X1_layWorths (F : Nat) : AK := ak_push (vI 0) (ak_istore 2 ((k_X1_layWorths_2 F F)))
noncomputable def m_X1_layWorths (F : Nat) : AF := mkF 0 4 (k_X1_layWorths F)
set_option maxRecDepth 20000 in
theorem s_X1_layWorths (F : Nat) : MA yX1_layWorths cX1_layWorths 4 none 1 (m_X1_layWorths F) := met_of (Or.inl ⟨rfl, rfl⟩) (by decide) (by
  unfold k_X1_layWorths
  exact snd_iconst (pc := 0) dX1_layWorths_0 (snd_istore_n (pc := 1) (i := 2) (by decide) dX1_layWorths_1 ((sk_X1_layWorths_2 F F))))

/-! LastWalker$Chart.layOut(LLastWalker$Town;)V -/
theorem dX1_layOut_0 : decode cX1_layOut 0 = .ok (.aload_n 0, 1) := by decide +kernel
theorem dX1_layOut_1 : decode cX1_layOut 1 = .ok (.aload_n 1, 1) := by decide +kernel
theorem dX1_layOut_2 : decode cX1_layOut 2 = .ok (.invokevirtual 28, 3) := by decide +kernel
theorem dX1_layOut_5 : decode cX1_layOut 5 = .ok (.aload_n 0, 1) := by decide +kernel
theorem dX1_layOut_6 : decode cX1_layOut 6 = .ok (.aload_n 1, 1) := by decide +kernel
theorem dX1_layOut_7 : decode cX1_layOut 7 = .ok (.invokevirtual 32, 3) := by decide +kernel
theorem dX1_layOut_10 : decode cX1_layOut 10 = .ok (.aload_n 0, 1) := by decide +kernel
theorem dX1_layOut_11 : decode cX1_layOut 11 = .ok (.aload_n 1, 1) := by decide +kernel
theorem dX1_layOut_12 : decode cX1_layOut 12 = .ok (.invokevirtual 35, 3) := by decide +kernel
theorem dX1_layOut_15 : decode cX1_layOut 15 = .ok (.return_, 1) := by decide +kernel
noncomputable def k_X1_layOut (F : Nat) : AK := ak_aload 0 (ak_aload 1 (ak_callv 1 1 (m_X1_layRoads F) (ak_aload 0 (ak_aload 1 (ak_callv 1 1 (m_X1_layMinutes F) (ak_aload 0 (ak_aload 1 (ak_callv 1 1 (m_X1_layWorths F) ak_return))))))))
noncomputable def m_X1_layOut (F : Nat) : AF := mkF 0 2 (k_X1_layOut F)
set_option maxRecDepth 20000 in
theorem s_X1_layOut (F : Nat) : MA yX1_layOut cX1_layOut 2 none 3 (m_X1_layOut F) := met_of (Or.inl ⟨rfl, rfl⟩) (by decide) (by
  unfold k_X1_layOut
  exact snd_aload_n (pc := 0) (i := 0) dX1_layOut_0 (snd_aload_n (pc := 1) (i := 1) dX1_layOut_1 (snd_callV (pc := 2) (n := 1) cls1 (s_X1_layRoads F) (by decide) (by decide) wd_985 wd_982 wd_984 wd_25 wd_127 hy_X1_layRoads dX1_layOut_2 (snd_aload_n (pc := 5) (i := 0) dX1_layOut_5 (snd_aload_n (pc := 6) (i := 1) dX1_layOut_6 (snd_callV (pc := 7) (n := 1) cls1 (s_X1_layMinutes F) (by decide) (by decide) wd_994 wd_991 wd_993 wd_27 wd_127 hy_X1_layMinutes dX1_layOut_7 (snd_aload_n (pc := 10) (i := 0) dX1_layOut_10 (snd_aload_n (pc := 11) (i := 1) dX1_layOut_11 (snd_callV (pc := 12) (n := 1) cls1 (s_X1_layWorths F) (by decide) (by decide) wd_1006 wd_1003 wd_1004 wd_1005 wd_127 hy_X1_layWorths dX1_layOut_12 (snd_return dX1_layOut_15))))))))))

/-! LastWalker$Chart.mostWorthBehind(II)J -/
theorem dX1_mostWorthBehind_0 : decode cX1_mostWorthBehind 0 = .ok (.lconst 0, 1) := by decide +kernel
theorem dX1_mostWorthBehind_1 : decode cX1_mostWorthBehind 1 = .ok (.lstore_n 3, 1) := by decide +kernel
theorem dX1_mostWorthBehind_2 : decode cX1_mostWorthBehind 2 = .ok (.iload_n 2, 1) := by decide +kernel
theorem dX1_mostWorthBehind_3 : decode cX1_mostWorthBehind 3 = .ok (.bipush 60, 2) := by decide +kernel
theorem dX1_mostWorthBehind_5 : decode cX1_mostWorthBehind 5 = .ok (.idiv, 1) := by decide +kernel
theorem dX1_mostWorthBehind_6 : decode cX1_mostWorthBehind 6 = .ok (.iconst 1, 1) := by decide +kernel
theorem dX1_mostWorthBehind_7 : decode cX1_mostWorthBehind 7 = .ok (.iadd, 1) := by decide +kernel
theorem dX1_mostWorthBehind_8 : decode cX1_mostWorthBehind 8 = .ok (.istore 5, 2) := by decide +kernel
theorem dX1_mostWorthBehind_10 : decode cX1_mostWorthBehind 10 = .ok (.iload 5, 2) := by decide +kernel
theorem dX1_mostWorthBehind_12 : decode cX1_mostWorthBehind 12 = .ok (.bipush 6, 2) := by decide +kernel
theorem dX1_mostWorthBehind_14 : decode cX1_mostWorthBehind 14 = .ok (.if_icmp .ge 33, 3) := by decide +kernel
theorem dX1_mostWorthBehind_17 : decode cX1_mostWorthBehind 17 = .ok (.aload_n 0, 1) := by decide +kernel
theorem dX1_mostWorthBehind_18 : decode cX1_mostWorthBehind 18 = .ok (.getfield 24, 3) := by decide +kernel
theorem dX1_mostWorthBehind_21 : decode cX1_mostWorthBehind 21 = .ok (.iload_n 1, 1) := by decide +kernel
theorem dX1_mostWorthBehind_22 : decode cX1_mostWorthBehind 22 = .ok (.bipush 7, 2) := by decide +kernel
theorem dX1_mostWorthBehind_24 : decode cX1_mostWorthBehind 24 = .ok (.imul, 1) := by decide +kernel
theorem dX1_mostWorthBehind_25 : decode cX1_mostWorthBehind 25 = .ok (.iload 5, 2) := by decide +kernel
theorem dX1_mostWorthBehind_27 : decode cX1_mostWorthBehind 27 = .ok (.iadd, 1) := by decide +kernel
theorem dX1_mostWorthBehind_28 : decode cX1_mostWorthBehind 28 = .ok (.laload, 1) := by decide +kernel
theorem dX1_mostWorthBehind_29 : decode cX1_mostWorthBehind 29 = .ok (.lstore 6, 2) := by decide +kernel
theorem dX1_mostWorthBehind_31 : decode cX1_mostWorthBehind 31 = .ok (.lload 6, 2) := by decide +kernel
theorem dX1_mostWorthBehind_33 : decode cX1_mostWorthBehind 33 = .ok (.lload_n 3, 1) := by decide +kernel
theorem dX1_mostWorthBehind_34 : decode cX1_mostWorthBehind 34 = .ok (.lcmp, 1) := by decide +kernel
theorem dX1_mostWorthBehind_35 : decode cX1_mostWorthBehind 35 = .ok (.ifCond .le 6, 3) := by decide +kernel
theorem dX1_mostWorthBehind_38 : decode cX1_mostWorthBehind 38 = .ok (.lload 6, 2) := by decide +kernel
theorem dX1_mostWorthBehind_40 : decode cX1_mostWorthBehind 40 = .ok (.lstore_n 3, 1) := by decide +kernel
theorem dX1_mostWorthBehind_41 : decode cX1_mostWorthBehind 41 = .ok (.iinc 5 1, 3) := by decide +kernel
theorem dX1_mostWorthBehind_44 : decode cX1_mostWorthBehind 44 = .ok (.goto (-34), 3) := by decide +kernel
theorem dX1_mostWorthBehind_47 : decode cX1_mostWorthBehind 47 = .ok (.lload_n 3, 1) := by decide +kernel
theorem dX1_mostWorthBehind_48 : decode cX1_mostWorthBehind 48 = .ok (.lreturn, 1) := by decide +kernel
noncomputable def k_X1_mostWorthBehind_41 (F : Nat) (h10 : AK) : AK := ak_iinc 5 1 h10
set_option maxRecDepth 20000 in
theorem sk_X1_mostWorthBehind_41 (F : Nat) {h10 : AK} (hh10 : Snd X0 RX1 cX1_mostWorthBehind 8 0 10 h10) : Snd X0 RX1 cX1_mostWorthBehind 8 0 41 (k_X1_mostWorthBehind_41 F h10) := by
  unfold k_X1_mostWorthBehind_41
  exact snd_iinc (pc := 41) (i := 5) (n := 1) (by decide) dX1_mostWorthBehind_41 (snd_goto (pc := 44) (off := (-34)) (tgt := 10) (by decide) dX1_mostWorthBehind_44 (hh10))
noncomputable def kb_X1_mostWorthBehind_10 (F : Nat) (self : AK) : AK := ak_iload 5 (ak_push (vI 6) (ak_cmplt (ak_aload 0 (ak_getf 1 4 (ak_iload 1 (ak_push (vI 7) (ak_imul (ak_iload 5 (ak_iadd (ak_lald (ak_lstore 6 (ak_lload 6 (ak_lload 3 (ak_lcmp (ak_ifgt (ak_lload 6 (ak_lstore 3 ((k_X1_mostWorthBehind_41 F self)))) ((k_X1_mostWorthBehind_41 F self))))))))))))))) (ak_lload 3 ak_lreturn)))
noncomputable def k_X1_mostWorthBehind_10 (F : Nat) (n : Nat) : AK := Nat.rec (motive := fun _ => AK) ak_none (fun _ self => kb_X1_mostWorthBehind_10 F self) n
set_option maxRecDepth 20000 in
theorem sk_X1_mostWorthBehind_10 (F : Nat) : ∀ n, Snd X0 RX1 cX1_mostWorthBehind 8 0 10 (k_X1_mostWorthBehind_10 F n) := by
  intro n
  induction n with
  | zero => exact snd_none
  | succ n ih =>
    show Snd X0 RX1 cX1_mostWorthBehind 8 0 10 (kb_X1_mostWorthBehind_10 F (k_X1_mostWorthBehind_10 F n))
    unfold kb_X1_mostWorthBehind_10
    exact snd_iload (pc := 10) (i := 5) dX1_mostWorthBehind_10 (snd_bipush (pc := 12) (by decide) dX1_mostWorthBehind_12 (snd_icmpge (pc := 14) (off := 33) (tgt := 47) (by decide) dX1_mostWorthBehind_14 (snd_lload_n (pc := 47) (i := 3) dX1_mostWorthBehind_47 (snd_lreturn dX1_mostWorthBehind_48)) (snd_aload_n (pc := 17) (i := 0) dX1_mostWorthBehind_17 (snd_getf (pc := 18) cls1 (f := 4) (by decide) wd_455 dX1_mostWorthBehind_18 (snd_iload_n (pc := 21) (i := 1) dX1_mostWorthBehind_21 (snd_bipush (pc := 22) (by decide) dX1_mostWorthBehind_22 (snd_imul (pc := 24) dX1_mostWorthBehind_24 (snd_iload (pc := 25) (i := 5) dX1_mostWorthBehind_25 (snd_iadd (pc := 27) dX1_mostWorthBehind_27 (snd_lald (pc := 28) dX1_mostWorthBehind_28 (snd_lstore (pc := 29) (i := 6) (by decide) dX1_mostWorthBehind_29 (snd_lload (pc := 31) (i := 6) dX1_mostWorthBehind_31 (snd_lload_n (pc := 33) (i := 3) dX1_mostWorthBehind_33 (snd_lcmp (pc := 34) dX1_mostWorthBehind_34 (snd_ifle (pc := 35) (off := 6) (tgt := 41) (by decide) dX1_mostWorthBehind_35 ((sk_X1_mostWorthBehind_41 F ih)) (snd_lload (pc := 38) (i := 6) dX1_mostWorthBehind_38 (snd_lstore_n (pc := 40) (i := 3) (by decide) dX1_mostWorthBehind_40 ((sk_X1_mostWorthBehind_41 F ih)))))))))))))))))))
noncomputable def k_X1_mostWorthBehind (F : Nat) : AK := ak_push (vL 0) (ak_lstore 3 (ak_iload 2 (ak_push (vI 60) (ak_idiv (ak_push (vI 1) (ak_iadd (ak_istore 5 ((k_X1_mostWorthBehind_10 F F)))))))))
noncomputable def m_X1_mostWorthBehind (F : Nat) : AF := mkF 4 8 (k_X1_mostWorthBehind F)
set_option maxRecDepth 20000 in
theorem s_X1_mostWorthBehind (F : Nat) : MA yX1_mostWorthBehind cX1_mostWorthBehind 8 (some .long) 0 (m_X1_mostWorthBehind F) := met_of (Or.inr (Or.inr (Or.inr (Or.inr (Or.inl ⟨rfl, rfl⟩))))) (by decide) (by
  unfold k_X1_mostWorthBehind
  exact snd_lconst (pc := 0) (by decide) dX1_mostWorthBehind_0 (snd_lstore_n (pc := 1) (i := 3) (by decide) dX1_mostWorthBehind_1 (snd_iload_n (pc := 2) (i := 2) dX1_mostWorthBehind_2 (snd_bipush (pc := 3) (by decide) dX1_mostWorthBehind_3 (snd_idiv (pc := 5) dX1_mostWorthBehind_5 (snd_iconst (pc := 6) dX1_mostWorthBehind_6 (snd_iadd (pc := 7) dX1_mostWorthBehind_7 (snd_istore (pc := 8) (i := 5) (by decide) dX1_mostWorthBehind_8 ((sk_X1_mostWorthBehind_10 F F))))))))))

/-! LastWalker$Day.add(II)V -/
theorem dX2_add_0 : decode cX2_add 0 = .ok (.aload_n 0, 1) := by decide +kernel
theorem dX2_add_1 : decode cX2_add 1 = .ok (.getfield 18, 3) := by decide +kernel
theorem dX2_add_4 : decode cX2_add 4 = .ok (.bipush 40, 2) := by decide +kernel
theorem dX2_add_6 : decode cX2_add 6 = .ok (.if_icmp .ge 33, 3) := by decide +kernel
theorem dX2_add_9 : decode cX2_add 9 = .ok (.aload_n 0, 1) := by decide +kernel
theorem dX2_add_10 : decode cX2_add 10 = .ok (.getfield 9, 3) := by decide +kernel
theorem dX2_add_13 : decode cX2_add 13 = .ok (.aload_n 0, 1) := by decide +kernel
theorem dX2_add_14 : decode cX2_add 14 = .ok (.getfield 18, 3) := by decide +kernel
theorem dX2_add_17 : decode cX2_add 17 = .ok (.iload_n 1, 1) := by decide +kernel
theorem dX2_add_18 : decode cX2_add 18 = .ok (.iastore, 1) := by decide +kernel
theorem dX2_add_19 : decode cX2_add 19 = .ok (.aload_n 0, 1) := by decide +kernel
theorem dX2_add_20 : decode cX2_add 20 = .ok (.getfield 15, 3) := by decide +kernel
theorem dX2_add_23 : decode cX2_add 23 = .ok (.aload_n 0, 1) := by decide +kernel
theorem dX2_add_24 : decode cX2_add 24 = .ok (.getfield 18, 3) := by decide +kernel
theorem dX2_add_27 : decode cX2_add 27 = .ok (.iload_n 2, 1) := by decide +kernel
theorem dX2_add_28 : decode cX2_add 28 = .ok (.iastore, 1) := by decide +kernel
theorem dX2_add_29 : decode cX2_add 29 = .ok (.aload_n 0, 1) := by decide +kernel
theorem dX2_add_30 : decode cX2_add 30 = .ok (.dup, 1) := by decide +kernel
theorem dX2_add_31 : decode cX2_add 31 = .ok (.getfield 18, 3) := by decide +kernel
theorem dX2_add_34 : decode cX2_add 34 = .ok (.iconst 1, 1) := by decide +kernel
theorem dX2_add_35 : decode cX2_add 35 = .ok (.iadd, 1) := by decide +kernel
theorem dX2_add_36 : decode cX2_add 36 = .ok (.putfield 18, 3) := by decide +kernel
theorem dX2_add_39 : decode cX2_add 39 = .ok (.return_, 1) := by decide +kernel
noncomputable def k_X2_add (F : Nat) : AK := ak_aload 0 (ak_getf 2 0 (ak_push (vI 40) (ak_cmplt (ak_aload 0 (ak_getf 2 1 (ak_aload 0 (ak_getf 2 0 (ak_iload 1 (ak_iast (ak_aload 0 (ak_getf 2 2 (ak_aload 0 (ak_getf 2 0 (ak_iload 2 (ak_iast (ak_aload 0 (ak_dup (ak_getf 2 0 (ak_push (vI 1) (ak_iadd (ak_putf 2 0 ak_return)))))))))))))))))) (ak_return))))
noncomputable def m_X2_add (F : Nat) : AF := mkF 0 3 (k_X2_add F)
set_option maxRecDepth 20000 in
theorem s_X2_add (F : Nat) : MA yX2_add cX2_add 3 none 0 (m_X2_add F) := met_of (Or.inl ⟨rfl, rfl⟩) (by decide) (by
  unfold k_X2_add
  exact snd_aload_n (pc := 0) (i := 0) dX2_add_0 (snd_getf (pc := 1) cls2 (f := 0) (by decide) wd_287 dX2_add_1 (snd_bipush (pc := 4) (by decide) dX2_add_4 (snd_icmpge (pc := 6) (off := 33) (tgt := 39) (by decide) dX2_add_6 (snd_return dX2_add_39) (snd_aload_n (pc := 9) (i := 0) dX2_add_9 (snd_getf (pc := 10) cls2 (f := 1) (by decide) wd_291 dX2_add_10 (snd_aload_n (pc := 13) (i := 0) dX2_add_13 (snd_getf (pc := 14) cls2 (f := 0) (by decide) wd_287 dX2_add_14 (snd_iload_n (pc := 17) (i := 1) dX2_add_17 (snd_iast (pc := 18) dX2_add_18 (snd_aload_n (pc := 19) (i := 0) dX2_add_19 (snd_getf (pc := 20) cls2 (f := 2) (by decide) wd_294 dX2_add_20 (snd_aload_n (pc := 23) (i := 0) dX2_add_23 (snd_getf (pc := 24) cls2 (f := 0) (by decide) wd_287 dX2_add_24 (snd_iload_n (pc := 27) (i := 2) dX2_add_27 (snd_iast (pc := 28) dX2_add_28 (snd_aload_n (pc := 29) (i := 0) dX2_add_29 (snd_dup (pc := 30) dX2_add_30 (snd_getf (pc := 31) cls2 (f := 0) (by decide) wd_287 dX2_add_31 (snd_iconst (pc := 34) dX2_add_34 (snd_iadd (pc := 35) dX2_add_35 (snd_putf (pc := 36) cls2 (f := 0) (by decide) rfl rfl rfl wd_287 dX2_add_36 (snd_return dX2_add_39)))))))))))))))))))))))

/-! LastWalker$Hunt.take(LLastWalker$Town;[III)V -/
theorem dX3_take_0 : decode cX3_take 0 = .ok (.aload_n 0, 1) := by decide +kernel
theorem dX3_take_1 : decode cX3_take 1 = .ok (.aload_n 1, 1) := by decide +kernel
theorem dX3_take_2 : decode cX3_take 2 = .ok (.putfield 38, 3) := by decide +kernel
theorem dX3_take_5 : decode cX3_take 5 = .ok (.aload_n 0, 1) := by decide +kernel
theorem dX3_take_6 : decode cX3_take 6 = .ok (.aload_n 2, 1) := by decide +kernel
theorem dX3_take_7 : decode cX3_take 7 = .ok (.putfield 42, 3) := by decide +kernel
theorem dX3_take_10 : decode cX3_take 10 = .ok (.aload_n 0, 1) := by decide +kernel
theorem dX3_take_11 : decode cX3_take 11 = .ok (.iload_n 3, 1) := by decide +kernel
theorem dX3_take_12 : decode cX3_take 12 = .ok (.putfield 45, 3) := by decide +kernel
theorem dX3_take_15 : decode cX3_take 15 = .ok (.aload_n 0, 1) := by decide +kernel
theorem dX3_take_16 : decode cX3_take 16 = .ok (.iload 4, 2) := by decide +kernel
theorem dX3_take_18 : decode cX3_take 18 = .ok (.putfield 49, 3) := by decide +kernel
theorem dX3_take_21 : decode cX3_take 21 = .ok (.aload_n 0, 1) := by decide +kernel
theorem dX3_take_22 : decode cX3_take 22 = .ok (.iconst 0, 1) := by decide +kernel
theorem dX3_take_23 : decode cX3_take 23 = .ok (.putfield 52, 3) := by decide +kernel
theorem dX3_take_26 : decode cX3_take 26 = .ok (.return_, 1) := by decide +kernel
noncomputable def k_X3_take (F : Nat) : AK := ak_aload 0 (ak_aload 1 (ak_putr 4 3 10 (ak_aload 0 (ak_aload 2 (ak_putr 5 3 11 (ak_aload 0 (ak_iload 3 (ak_putf 3 12 (ak_aload 0 (ak_iload 4 (ak_putf 3 13 (ak_aload 0 (ak_push (vI 0) (ak_putf 3 2 ak_return))))))))))))))
noncomputable def m_X3_take (F : Nat) : AF := mkF 0 5 (k_X3_take F)
set_option maxRecDepth 20000 in
theorem s_X3_take (F : Nat) : MA yX3_take cX3_take 5 none 0 (m_X3_take F) := met_of (Or.inl ⟨rfl, rfl⟩) (by decide) (by
  unfold k_X3_take
  exact snd_aload_n (pc := 0) (i := 0) dX3_take_0 (snd_aload_n (pc := 1) (i := 1) dX3_take_1 (snd_putr (pc := 2) cls3 (f := 10) (by decide) (by decide) rfl (Or.inl ⟨_, rfl⟩) rfl mut_4 one_3 wd_490 dX3_take_2 (snd_aload_n (pc := 5) (i := 0) dX3_take_5 (snd_aload_n (pc := 6) (i := 2) dX3_take_6 (snd_putr (pc := 7) cls3 (f := 11) (by decide) (by decide) rfl (Or.inr ⟨_, rfl⟩) rfl mut_5 one_3 wd_491 dX3_take_7 (snd_aload_n (pc := 10) (i := 0) dX3_take_10 (snd_iload_n (pc := 11) (i := 3) dX3_take_11 (snd_putf (pc := 12) cls3 (f := 12) (by decide) rfl rfl rfl wd_492 dX3_take_12 (snd_aload_n (pc := 15) (i := 0) dX3_take_15 (snd_iload (pc := 16) (i := 4) dX3_take_16 (snd_putf (pc := 18) cls3 (f := 13) (by decide) rfl rfl rfl wd_493 dX3_take_18 (snd_aload_n (pc := 21) (i := 0) dX3_take_21 (snd_iconst (pc := 22) dX3_take_22 (snd_putf (pc := 23) cls3 (f := 2) (by decide) rfl rfl rfl wd_476 dX3_take_23 (snd_return dX3_take_26))))))))))))))))

/-! LastWalker$Hunt.toll(I)I -/
theorem dX3_toll_0 : decode cX3_toll 0 = .ok (.aload_n 0, 1) := by decide +kernel
theorem dX3_toll_1 : decode cX3_toll 1 = .ok (.getfield 42, 3) := by decide +kernel
theorem dX3_toll_4 : decode cX3_toll 4 = .ok (.iload_n 1, 1) := by decide +kernel
theorem dX3_toll_5 : decode cX3_toll 5 = .ok (.iaload, 1) := by decide +kernel
theorem dX3_toll_6 : decode cX3_toll 6 = .ok (.istore_n 2, 1) := by decide +kernel
theorem dX3_toll_7 : decode cX3_toll 7 = .ok (.iload_n 2, 1) := by decide +kernel
theorem dX3_toll_8 : decode cX3_toll 8 = .ok (.iconst (-1), 1) := by decide +kernel
theorem dX3_toll_9 : decode cX3_toll 9 = .ok (.if_icmp .eq 11, 3) := by decide +kernel
theorem dX3_toll_12 : decode cX3_toll 12 = .ok (.iload_n 2, 1) := by decide +kernel
theorem dX3_toll_13 : decode cX3_toll 13 = .ok (.aload_n 0, 1) := by decide +kernel
theorem dX3_toll_14 : decode cX3_toll 14 = .ok (.getfield 45, 3) := by decide +kernel
theorem dX3_toll_17 : decode cX3_toll 17 = .ok (.if_icmp .ne 7, 3) := by decide +kernel
theorem dX3_toll_20 : decode cX3_toll 20 = .ok (.iconst 0, 1) := by decide +kernel
theorem dX3_toll_21 : decode cX3_toll 21 = .ok (.goto 12, 3) := by decide +kernel
theorem dX3_toll_24 : decode cX3_toll 24 = .ok (.aload_n 0, 1) := by decide +kernel
theorem dX3_toll_25 : decode cX3_toll 25 = .ok (.getfield 38, 3) := by decide +kernel
theorem dX3_toll_28 : decode cX3_toll 28 = .ok (.getfield 55, 3) := by decide +kernel
theorem dX3_toll_31 : decode cX3_toll 31 = .ok (.iload_n 1, 1) := by decide +kernel
theorem dX3_toll_32 : decode cX3_toll 32 = .ok (.iaload, 1) := by decide +kernel
theorem dX3_toll_33 : decode cX3_toll 33 = .ok (.ireturn, 1) := by decide +kernel
noncomputable def k_X3_toll_20 (F : Nat) : AK := ak_push (vI 0) ak_ireturn
set_option maxRecDepth 20000 in
theorem sk_X3_toll_20 (F : Nat) : Snd X0 RX3 cX3_toll 3 0 20 (k_X3_toll_20 F) := by
  unfold k_X3_toll_20
  exact snd_iconst (pc := 20) dX3_toll_20 (snd_goto (pc := 21) (off := 12) (tgt := 33) (by decide) dX3_toll_21 (snd_ireturn dX3_toll_33))
noncomputable def k_X3_toll (F : Nat) : AK := ak_aload 0 (ak_getf 3 11 (ak_iload 1 (ak_iald (ak_istore 2 (ak_iload 2 (ak_push (vI (-1)) (ak_cmpeq ((k_X3_toll_20 F)) (ak_iload 2 (ak_aload 0 (ak_getf 3 12 (ak_cmpeq ((k_X3_toll_20 F)) (ak_aload 0 (ak_getf 3 10 (ak_getf 7 5 (ak_iload 1 (ak_iald ak_ireturn))))))))))))))))
noncomputable def m_X3_toll (F : Nat) : AF := mkF 1 3 (k_X3_toll F)
set_option maxRecDepth 20000 in
theorem s_X3_toll (F : Nat) : MA yX3_toll cX3_toll 3 (some .int) 0 (m_X3_toll F) := met_of (Or.inr (Or.inl ⟨rfl, rfl⟩)) (by decide) (by
  unfold k_X3_toll
  exact snd_aload_n (pc := 0) (i := 0) dX3_toll_0 (snd_getf (pc := 1) cls3 (f := 11) (by decide) wd_491 dX3_toll_1 (snd_iload_n (pc := 4) (i := 1) dX3_toll_4 (snd_iald (pc := 5) dX3_toll_5 (snd_istore_n (pc := 6) (i := 2) (by decide) dX3_toll_6 (snd_iload_n (pc := 7) (i := 2) dX3_toll_7 (snd_iconst (pc := 8) dX3_toll_8 (snd_icmpeq (pc := 9) (off := 11) (tgt := 20) (by decide) dX3_toll_9 ((sk_X3_toll_20 F)) (snd_iload_n (pc := 12) (i := 2) dX3_toll_12 (snd_aload_n (pc := 13) (i := 0) dX3_toll_13 (snd_getf (pc := 14) cls3 (f := 12) (by decide) wd_492 dX3_toll_14 (snd_icmpne (pc := 17) (off := 7) (tgt := 24) (by decide) dX3_toll_17 (snd_aload_n (pc := 24) (i := 0) dX3_toll_24 (snd_getf (pc := 25) cls3 (f := 10) (by decide) wd_490 dX3_toll_25 (snd_getf (pc := 28) cls7 (f := 5) (by decide) wd_184 dX3_toll_28 (snd_iload_n (pc := 31) (i := 1) dX3_toll_31 (snd_iald (pc := 32) dX3_toll_32 (snd_ireturn dX3_toll_33)))))) ((sk_X3_toll_20 F))))))))))))))

/-! LastWalker$Town.hisBefore(II)I -/
theorem dX7_hisBefore_0 : decode cX7_hisBefore 0 = .ok (.iload_n 1, 1) := by decide +kernel
theorem dX7_hisBefore_1 : decode cX7_hisBefore 1 = .ok (.iload_n 2, 1) := by decide +kernel
theorem dX7_hisBefore_2 : decode cX7_hisBefore 2 = .ok (.if_icmp .eq 24, 3) := by decide +kernel
theorem dX7_hisBefore_5 : decode cX7_hisBefore 5 = .ok (.aload_n 0, 1) := by decide +kernel
theorem dX7_hisBefore_6 : decode cX7_hisBefore 6 = .ok (.getfield 64, 3) := by decide +kernel
theorem dX7_hisBefore_9 : decode cX7_hisBefore 9 = .ok (.iconst 3, 1) := by decide +kernel
theorem dX7_hisBefore_10 : decode cX7_hisBefore 10 = .ok (.if_icmp .eq 16, 3) := by decide +kernel
theorem dX7_hisBefore_13 : decode cX7_hisBefore 13 = .ok (.aload_n 0, 1) := by decide +kernel
theorem dX7_hisBefore_14 : decode cX7_hisBefore 14 = .ok (.getfield 64, 3) := by decide +kernel
theorem dX7_hisBefore_17 : decode cX7_hisBefore 17 = .ok (.iconst 1, 1) := by decide +kernel
theorem dX7_hisBefore_18 : decode cX7_hisBefore 18 = .ok (.if_icmp .ne 10, 3) := by decide +kernel
theorem dX7_hisBefore_21 : decode cX7_hisBefore 21 = .ok (.iload_n 1, 1) := by decide +kernel
theorem dX7_hisBefore_22 : decode cX7_hisBefore 22 = .ok (.iconst (-1), 1) := by decide +kernel
theorem dX7_hisBefore_23 : decode cX7_hisBefore 23 = .ok (.if_icmp .eq 5, 3) := by decide +kernel
theorem dX7_hisBefore_26 : decode cX7_hisBefore 26 = .ok (.iconst 0, 1) := by decide +kernel
theorem dX7_hisBefore_27 : decode cX7_hisBefore 27 = .ok (.ireturn, 1) := by decide +kernel
theorem dX7_hisBefore_28 : decode cX7_hisBefore 28 = .ok (.aload_n 0, 1) := by decide +kernel
theorem dX7_hisBefore_29 : decode cX7_hisBefore 29 = .ok (.getfield 64, 3) := by decide +kernel
theorem dX7_hisBefore_32 : decode cX7_hisBefore 32 = .ok (.iconst 2, 1) := by decide +kernel
theorem dX7_hisBefore_33 : decode cX7_hisBefore 33 = .ok (.if_icmp .ne 10, 3) := by decide +kernel
theorem dX7_hisBefore_36 : decode cX7_hisBefore 36 = .ok (.aload_n 0, 1) := by decide +kernel
theorem dX7_hisBefore_37 : decode cX7_hisBefore 37 = .ok (.getfield 67, 3) := by decide +kernel
theorem dX7_hisBefore_40 : decode cX7_hisBefore 40 = .ok (.goto 5, 3) := by decide +kernel
theorem dX7_hisBefore_43 : decode cX7_hisBefore 43 = .ok (.ldc 82, 2) := by decide +kernel
theorem dX7_hisBefore_45 : decode cX7_hisBefore 45 = .ok (.ireturn, 1) := by decide +kernel
noncomputable def k_X7_hisBefore_28 (F : Nat) : AK := ak_aload 0 (ak_getf 7 17 (ak_push (vI 2) (ak_cmpeq (ak_aload 0 (ak_getf 7 18 ak_ireturn)) (ak_push (vI 1000000000) ak_ireturn))))
set_option maxRecDepth 20000 in
theorem sk_X7_hisBefore_28 (F : Nat) : Snd X0 RX7 cX7_hisBefore 3 0 28 (k_X7_hisBefore_28 F) := by
  unfold k_X7_hisBefore_28
  exact snd_aload_n (pc := 28) (i := 0) dX7_hisBefore_28 (snd_getf (pc := 29) cls7 (f := 17) (by decide) wd_233 dX7_hisBefore_29 (snd_iconst (pc := 32) dX7_hisBefore_32 (snd_icmpne (pc := 33) (off := 10) (tgt := 43) (by decide) dX7_hisBefore_33 (snd_ldc (pc := 43) (z := (1000000000)) (by decide) wd_1030 dX7_hisBefore_43 (snd_ireturn dX7_hisBefore_45)) (snd_aload_n (pc := 36) (i := 0) dX7_hisBefore_36 (snd_getf (pc := 37) cls7 (f := 18) (by decide) wd_236 dX7_hisBefore_37 (snd_goto (pc := 40) (off := 5) (tgt := 45) (by decide) dX7_hisBefore_40 (snd_ireturn dX7_hisBefore_45)))))))
noncomputable def k_X7_hisBefore (F : Nat) : AK := ak_iload 1 (ak_iload 2 (ak_cmpeq (ak_push (vI 0) ak_ireturn) (ak_aload 0 (ak_getf 7 17 (ak_push (vI 3) (ak_cmpeq (ak_push (vI 0) ak_ireturn) (ak_aload 0 (ak_getf 7 17 (ak_push (vI 1) (ak_cmpeq (ak_iload 1 (ak_push (vI (-1)) (ak_cmpeq ((k_X7_hisBefore_28 F)) (ak_push (vI 0) ak_ireturn)))) ((k_X7_hisBefore_28 F))))))))))))
noncomputable def m_X7_hisBefore (F : Nat) : AF := mkF 1 3 (k_X7_hisBefore F)
set_option maxRecDepth 20000 in
theorem s_X7_hisBefore (F : Nat) : MA yX7_hisBefore cX7_hisBefore 3 (some .int) 0 (m_X7_hisBefore F) := met_of (Or.inr (Or.inl ⟨rfl, rfl⟩)) (by decide) (by
  unfold k_X7_hisBefore
  exact snd_iload_n (pc := 0) (i := 1) dX7_hisBefore_0 (snd_iload_n (pc := 1) (i := 2) dX7_hisBefore_1 (snd_icmpeq (pc := 2) (off := 24) (tgt := 26) (by decide) dX7_hisBefore_2 (snd_iconst (pc := 26) dX7_hisBefore_26 (snd_ireturn dX7_hisBefore_27)) (snd_aload_n (pc := 5) (i := 0) dX7_hisBefore_5 (snd_getf (pc := 6) cls7 (f := 17) (by decide) wd_233 dX7_hisBefore_6 (snd_iconst (pc := 9) dX7_hisBefore_9 (snd_icmpeq (pc := 10) (off := 16) (tgt := 26) (by decide) dX7_hisBefore_10 (snd_iconst (pc := 26) dX7_hisBefore_26 (snd_ireturn dX7_hisBefore_27)) (snd_aload_n (pc := 13) (i := 0) dX7_hisBefore_13 (snd_getf (pc := 14) cls7 (f := 17) (by decide) wd_233 dX7_hisBefore_14 (snd_iconst (pc := 17) dX7_hisBefore_17 (snd_icmpne (pc := 18) (off := 10) (tgt := 28) (by decide) dX7_hisBefore_18 ((sk_X7_hisBefore_28 F)) (snd_iload_n (pc := 21) (i := 1) dX7_hisBefore_21 (snd_iconst (pc := 22) dX7_hisBefore_22 (snd_icmpeq (pc := 23) (off := 5) (tgt := 28) (by decide) dX7_hisBefore_23 ((sk_X7_hisBefore_28 F)) (snd_iconst (pc := 26) dX7_hisBefore_26 (snd_ireturn dX7_hisBefore_27))))))))))))))))

/-! LastWalker$Hunt.weigh(I)J -/
theorem dX3_weigh_0 : decode cX3_weigh 0 = .ok (.lconst 0, 1) := by decide +kernel
theorem dX3_weigh_1 : decode cX3_weigh 1 = .ok (.lstore_n 2, 1) := by decide +kernel
theorem dX3_weigh_2 : decode cX3_weigh 2 = .ok (.iconst 0, 1) := by decide +kernel
theorem dX3_weigh_3 : decode cX3_weigh 3 = .ok (.istore 4, 2) := by decide +kernel
theorem dX3_weigh_5 : decode cX3_weigh 5 = .ok (.iload 4, 2) := by decide +kernel
theorem dX3_weigh_7 : decode cX3_weigh 7 = .ok (.aload_n 0, 1) := by decide +kernel
theorem dX3_weigh_8 : decode cX3_weigh 8 = .ok (.getfield 38, 3) := by decide +kernel
theorem dX3_weigh_11 : decode cX3_weigh 11 = .ok (.getfield 58, 3) := by decide +kernel
theorem dX3_weigh_14 : decode cX3_weigh 14 = .ok (.if_icmp .ge 178, 3) := by decide +kernel
theorem dX3_weigh_17 : decode cX3_weigh 17 = .ok (.aload_n 0, 1) := by decide +kernel
theorem dX3_weigh_18 : decode cX3_weigh 18 = .ok (.getfield 38, 3) := by decide +kernel
theorem dX3_weigh_21 : decode cX3_weigh 21 = .ok (.getfield 61, 3) := by decide +kernel
theorem dX3_weigh_24 : decode cX3_weigh 24 = .ok (.iload 4, 2) := by decide +kernel
theorem dX3_weigh_26 : decode cX3_weigh 26 = .ok (.iaload, 1) := by decide +kernel
theorem dX3_weigh_27 : decode cX3_weigh 27 = .ok (.istore 5, 2) := by decide +kernel
theorem dX3_weigh_29 : decode cX3_weigh 29 = .ok (.aload_n 0, 1) := by decide +kernel
theorem dX3_weigh_30 : decode cX3_weigh 30 = .ok (.getfield 32, 3) := by decide +kernel
theorem dX3_weigh_33 : decode cX3_weigh 33 = .ok (.iload 4, 2) := by decide +kernel
theorem dX3_weigh_35 : decode cX3_weigh 35 = .ok (.lconst 0, 1) := by decide +kernel
theorem dX3_weigh_36 : decode cX3_weigh 36 = .ok (.lastore, 1) := by decide +kernel
theorem dX3_weigh_37 : decode cX3_weigh 37 = .ok (.aload_n 0, 1) := by decide +kernel
theorem dX3_weigh_38 : decode cX3_weigh 38 = .ok (.getfield 49, 3) := by decide +kernel
theorem dX3_weigh_41 : decode cX3_weigh 41 = .ok (.ifCond .ne 20, 3) := by decide +kernel
theorem dX3_weigh_44 : decode cX3_weigh 44 = .ok (.aload_n 0, 1) := by decide +kernel
theorem dX3_weigh_45 : decode cX3_weigh 45 = .ok (.getfield 25, 3) := by decide +kernel
theorem dX3_weigh_48 : decode cX3_weigh 48 = .ok (.iload 4, 2) := by decide +kernel
theorem dX3_weigh_50 : decode cX3_weigh 50 = .ok (.iload 5, 2) := by decide +kernel
theorem dX3_weigh_52 : decode cX3_weigh 52 = .ok (.i2l, 1) := by decide +kernel
theorem dX3_weigh_53 : decode cX3_weigh 53 = .ok (.ldc2_w 64, 3) := by decide +kernel
theorem dX3_weigh_56 : decode cX3_weigh 56 = .ok (.lmul, 1) := by decide +kernel
theorem dX3_weigh_57 : decode cX3_weigh 57 = .ok (.lastore, 1) := by decide +kernel
theorem dX3_weigh_58 : decode cX3_weigh 58 = .ok (.goto 37, 3) := by decide +kernel
theorem dX3_weigh_61 : decode cX3_weigh 61 = .ok (.aload_n 0, 1) := by decide +kernel
theorem dX3_weigh_62 : decode cX3_weigh 62 = .ok (.getfield 25, 3) := by decide +kernel
theorem dX3_weigh_65 : decode cX3_weigh 65 = .ok (.iload 4, 2) := by decide +kernel
theorem dX3_weigh_67 : decode cX3_weigh 67 = .ok (.iload 5, 2) := by decide +kernel
theorem dX3_weigh_69 : decode cX3_weigh 69 = .ok (.aload_n 0, 1) := by decide +kernel
theorem dX3_weigh_70 : decode cX3_weigh 70 = .ok (.getfield 38, 3) := by decide +kernel
theorem dX3_weigh_73 : decode cX3_weigh 73 = .ok (.getfield 66, 3) := by decide +kernel
theorem dX3_weigh_76 : decode cX3_weigh 76 = .ok (.aload_n 0, 1) := by decide +kernel
theorem dX3_weigh_77 : decode cX3_weigh 77 = .ok (.getfield 45, 3) := by decide +kernel
theorem dX3_weigh_80 : decode cX3_weigh 80 = .ok (.iaload, 1) := by decide +kernel
theorem dX3_weigh_81 : decode cX3_weigh 81 = .ok (.imul, 1) := by decide +kernel
theorem dX3_weigh_82 : decode cX3_weigh 82 = .ok (.aload_n 0, 1) := by decide +kernel
theorem dX3_weigh_83 : decode cX3_weigh 83 = .ok (.iload 4, 2) := by decide +kernel
theorem dX3_weigh_85 : decode cX3_weigh 85 = .ok (.invokevirtual 69, 3) := by decide +kernel
theorem dX3_weigh_88 : decode cX3_weigh 88 = .ok (.iadd, 1) := by decide +kernel
theorem dX3_weigh_89 : decode cX3_weigh 89 = .ok (.i2l, 1) := by decide +kernel
theorem dX3_weigh_90 : decode cX3_weigh 90 = .ok (.ldc2_w 64, 3) := by decide +kernel
theorem dX3_weigh_93 : decode cX3_weigh 93 = .ok (.lmul, 1) := by decide +kernel
theorem dX3_weigh_94 : decode cX3_weigh 94 = .ok (.lastore, 1) := by decide +kernel
theorem dX3_weigh_95 : decode cX3_weigh 95 = .ok (.aload_n 0, 1) := by decide +kernel
theorem dX3_weigh_96 : decode cX3_weigh 96 = .ok (.getfield 29, 3) := by decide +kernel
theorem dX3_weigh_99 : decode cX3_weigh 99 = .ok (.iload 4, 2) := by decide +kernel
theorem dX3_weigh_101 : decode cX3_weigh 101 = .ok (.aload_n 0, 1) := by decide +kernel
theorem dX3_weigh_102 : decode cX3_weigh 102 = .ok (.getfield 49, 3) := by decide +kernel
theorem dX3_weigh_105 : decode cX3_weigh 105 = .ok (.iconst 2, 1) := by decide +kernel
theorem dX3_weigh_106 : decode cX3_weigh 106 = .ok (.if_icmp .ne 24, 3) := by decide +kernel
theorem dX3_weigh_109 : decode cX3_weigh 109 = .ok (.aload_n 0, 1) := by decide +kernel
theorem dX3_weigh_110 : decode cX3_weigh 110 = .ok (.getfield 38, 3) := by decide +kernel
theorem dX3_weigh_113 : decode cX3_weigh 113 = .ok (.aload_n 0, 1) := by decide +kernel
theorem dX3_weigh_114 : decode cX3_weigh 114 = .ok (.getfield 42, 3) := by decide +kernel
theorem dX3_weigh_117 : decode cX3_weigh 117 = .ok (.iload 4, 2) := by decide +kernel
theorem dX3_weigh_119 : decode cX3_weigh 119 = .ok (.iaload, 1) := by decide +kernel
theorem dX3_weigh_120 : decode cX3_weigh 120 = .ok (.aload_n 0, 1) := by decide +kernel
theorem dX3_weigh_121 : decode cX3_weigh 121 = .ok (.getfield 45, 3) := by decide +kernel
theorem dX3_weigh_124 : decode cX3_weigh 124 = .ok (.invokevirtual 73, 3) := by decide +kernel
theorem dX3_weigh_127 : decode cX3_weigh 127 = .ok (.goto 4, 3) := by decide +kernel
theorem dX3_weigh_130 : decode cX3_weigh 130 = .ok (.iconst 0, 1) := by decide +kernel
theorem dX3_weigh_131 : decode cX3_weigh 131 = .ok (.iastore, 1) := by decide +kernel
theorem dX3_weigh_132 : decode cX3_weigh 132 = .ok (.iload_n 1, 1) := by decide +kernel
theorem dX3_weigh_133 : decode cX3_weigh 133 = .ok (.aload_n 0, 1) := by decide +kernel
theorem dX3_weigh_134 : decode cX3_weigh 134 = .ok (.getfield 29, 3) := by decide +kernel
theorem dX3_weigh_137 : decode cX3_weigh 137 = .ok (.iload 4, 2) := by decide +kernel
theorem dX3_weigh_139 : decode cX3_weigh 139 = .ok (.iaload, 1) := by decide +kernel
theorem dX3_weigh_140 : decode cX3_weigh 140 = .ok (.if_icmp .ge 36, 3) := by decide +kernel
theorem dX3_weigh_143 : decode cX3_weigh 143 = .ok (.aload_n 0, 1) := by decide +kernel
theorem dX3_weigh_144 : decode cX3_weigh 144 = .ok (.getfield 12, 3) := by decide +kernel
theorem dX3_weigh_147 : decode cX3_weigh 147 = .ok (.iload 4, 2) := by decide +kernel
theorem dX3_weigh_149 : decode cX3_weigh 149 = .ok (.iload_n 1, 1) := by decide +kernel
theorem dX3_weigh_150 : decode cX3_weigh 150 = .ok (.invokevirtual 76, 3) := by decide +kernel
theorem dX3_weigh_153 : decode cX3_weigh 153 = .ok (.aload_n 0, 1) := by decide +kernel
theorem dX3_weigh_154 : decode cX3_weigh 154 = .ok (.getfield 25, 3) := by decide +kernel
theorem dX3_weigh_157 : decode cX3_weigh 157 = .ok (.iload 4, 2) := by decide +kernel
theorem dX3_weigh_159 : decode cX3_weigh 159 = .ok (.laload, 1) := by decide +kernel
theorem dX3_weigh_160 : decode cX3_weigh 160 = .ok (.lsub, 1) := by decide +kernel
theorem dX3_weigh_161 : decode cX3_weigh 161 = .ok (.lstore 6, 2) := by decide +kernel
theorem dX3_weigh_163 : decode cX3_weigh 163 = .ok (.aload_n 0, 1) := by decide +kernel
theorem dX3_weigh_164 : decode cX3_weigh 164 = .ok (.getfield 32, 3) := by decide +kernel
theorem dX3_weigh_167 : decode cX3_weigh 167 = .ok (.iload 4, 2) := by decide +kernel
theorem dX3_weigh_169 : decode cX3_weigh 169 = .ok (.lconst 0, 1) := by decide +kernel
theorem dX3_weigh_170 : decode cX3_weigh 170 = .ok (.lload 6, 2) := by decide +kernel
theorem dX3_weigh_172 : decode cX3_weigh 172 = .ok (.invokestatic 80, 3) := by decide +kernel
theorem dX3_weigh_175 : decode cX3_weigh 175 = .ok (.lastore, 1) := by decide +kernel
theorem dX3_weigh_176 : decode cX3_weigh 176 = .ok (.lload_n 2, 1) := by decide +kernel
theorem dX3_weigh_177 : decode cX3_weigh 177 = .ok (.aload_n 0, 1) := by decide +kernel
theorem dX3_weigh_178 : decode cX3_weigh 178 = .ok (.getfield 32, 3) := by decide +kernel
theorem dX3_weigh_181 : decode cX3_weigh 181 = .ok (.iload 4, 2) := by decide +kernel
theorem dX3_weigh_183 : decode cX3_weigh 183 = .ok (.laload, 1) := by decide +kernel
theorem dX3_weigh_184 : decode cX3_weigh 184 = .ok (.ladd, 1) := by decide +kernel
theorem dX3_weigh_185 : decode cX3_weigh 185 = .ok (.lstore_n 2, 1) := by decide +kernel
theorem dX3_weigh_186 : decode cX3_weigh 186 = .ok (.iinc 4 1, 3) := by decide +kernel
theorem dX3_weigh_189 : decode cX3_weigh 189 = .ok (.goto (-184), 3) := by decide +kernel
theorem dX3_weigh_192 : decode cX3_weigh 192 = .ok (.lload_n 2, 1) := by decide +kernel
theorem dX3_weigh_193 : decode cX3_weigh 193 = .ok (.lreturn, 1) := by decide +kernel
noncomputable def k_X3_weigh_176 (F : Nat) (h5 : AK) : AK := ak_lload 2 (ak_aload 0 (ak_getf 3 9 (ak_iload 4 (ak_lald (ak_ladd (ak_lstore 2 (ak_iinc 4 1 h5)))))))
set_option maxRecDepth 20000 in
theorem sk_X3_weigh_176 (F : Nat) {h5 : AK} (hh5 : Snd X0 RX3 cX3_weigh 8 1 5 h5) : Snd X0 RX3 cX3_weigh 8 1 176 (k_X3_weigh_176 F h5) := by
  unfold k_X3_weigh_176
  exact snd_lload_n (pc := 176) (i := 2) dX3_weigh_176 (snd_aload_n (pc := 177) (i := 0) dX3_weigh_177 (snd_getf (pc := 178) cls3 (f := 9) (by decide) wd_489 dX3_weigh_178 (snd_iload (pc := 181) (i := 4) dX3_weigh_181 (snd_lald (pc := 183) dX3_weigh_183 (snd_ladd (pc := 184) dX3_weigh_184 (snd_lstore_n (pc := 185) (i := 2) (by decide) dX3_weigh_185 (snd_iinc (pc := 186) (i := 4) (n := 1) (by decide) dX3_weigh_186 (snd_goto (pc := 189) (off := (-184)) (tgt := 5) (by decide) dX3_weigh_189 (hh5)))))))))
noncomputable def k_X3_weigh_131 (F : Nat) (h5 : AK) : AK := ak_iast (ak_iload 1 (ak_aload 0 (ak_getf 3 8 (ak_iload 4 (ak_iald (ak_cmplt (ak_aload 0 (ak_getf 3 0 (ak_iload 4 (ak_iload 1 (ak_callv 1 2 (m_X1_mostWorthBehind F) (ak_aload 0 (ak_getf 3 7 (ak_iload 4 (ak_lald (ak_lsub (ak_lstore 6 (ak_aload 0 (ak_getf 3 9 (ak_iload 4 (ak_push (vL 0) (ak_lload 6 (ak_lmax (ak_last ((k_X3_weigh_176 F h5)))))))))))))))))))) ((k_X3_weigh_176 F h5))))))))
set_option maxRecDepth 20000 in
theorem sk_X3_weigh_131 (F : Nat) {h5 : AK} (hh5 : Snd X0 RX3 cX3_weigh 8 1 5 h5) : Snd X0 RX3 cX3_weigh 8 1 131 (k_X3_weigh_131 F h5) := by
  unfold k_X3_weigh_131
  exact snd_iast (pc := 131) dX3_weigh_131 (snd_iload_n (pc := 132) (i := 1) dX3_weigh_132 (snd_aload_n (pc := 133) (i := 0) dX3_weigh_133 (snd_getf (pc := 134) cls3 (f := 8) (by decide) wd_488 dX3_weigh_134 (snd_iload (pc := 137) (i := 4) dX3_weigh_137 (snd_iald (pc := 139) dX3_weigh_139 (snd_icmpge (pc := 140) (off := 36) (tgt := 176) (by decide) dX3_weigh_140 ((sk_X3_weigh_176 F hh5)) (snd_aload_n (pc := 143) (i := 0) dX3_weigh_143 (snd_getf (pc := 144) cls3 (f := 0) (by decide) wd_471 dX3_weigh_144 (snd_iload (pc := 147) (i := 4) dX3_weigh_147 (snd_iload_n (pc := 149) (i := 1) dX3_weigh_149 (snd_callV (pc := 150) (n := 2) cls1 (s_X1_mostWorthBehind F) (by decide) (by decide) wd_1034 wd_1031 wd_1032 wd_1033 wd_127 hy_X1_mostWorthBehind dX3_weigh_150 (snd_aload_n (pc := 153) (i := 0) dX3_weigh_153 (snd_getf (pc := 154) cls3 (f := 7) (by decide) wd_487 dX3_weigh_154 (snd_iload (pc := 157) (i := 4) dX3_weigh_157 (snd_lald (pc := 159) dX3_weigh_159 (snd_lsub (pc := 160) dX3_weigh_160 (snd_lstore (pc := 161) (i := 6) (by decide) dX3_weigh_161 (snd_aload_n (pc := 163) (i := 0) dX3_weigh_163 (snd_getf (pc := 164) cls3 (f := 9) (by decide) wd_489 dX3_weigh_164 (snd_iload (pc := 167) (i := 4) dX3_weigh_167 (snd_lconst (pc := 169) (by decide) dX3_weigh_169 (snd_lload (pc := 170) (i := 6) dX3_weigh_170 (snd_lmax (pc := 172) (by decide) wd_1035 wd_1036 wd_130 wd_1037 dX3_weigh_172 (snd_last (pc := 175) dX3_weigh_175 ((sk_X3_weigh_176 F hh5))))))))))))))))))))))))))
noncomputable def k_X3_weigh_95 (F : Nat) (h5 : AK) : AK := ak_aload 0 (ak_getf 3 8 (ak_iload 4 (ak_aload 0 (ak_getf 3 13 (ak_push (vI 2) (ak_cmpeq (ak_aload 0 (ak_getf 3 10 (ak_aload 0 (ak_getf 3 11 (ak_iload 4 (ak_iald (ak_aload 0 (ak_getf 3 12 (ak_callv 7 2 (m_X7_hisBefore F) ((k_X3_weigh_131 F h5))))))))))) (ak_push (vI 0) ((k_X3_weigh_131 F h5)))))))))
set_option maxRecDepth 20000 in
theorem sk_X3_weigh_95 (F : Nat) {h5 : AK} (hh5 : Snd X0 RX3 cX3_weigh 8 1 5 h5) : Snd X0 RX3 cX3_weigh 8 1 95 (k_X3_weigh_95 F h5) := by
  unfold k_X3_weigh_95
  exact snd_aload_n (pc := 95) (i := 0) dX3_weigh_95 (snd_getf (pc := 96) cls3 (f := 8) (by decide) wd_488 dX3_weigh_96 (snd_iload (pc := 99) (i := 4) dX3_weigh_99 (snd_aload_n (pc := 101) (i := 0) dX3_weigh_101 (snd_getf (pc := 102) cls3 (f := 13) (by decide) wd_493 dX3_weigh_102 (snd_iconst (pc := 105) dX3_weigh_105 (snd_icmpne (pc := 106) (off := 24) (tgt := 130) (by decide) dX3_weigh_106 (snd_iconst (pc := 130) dX3_weigh_130 ((sk_X3_weigh_131 F hh5))) (snd_aload_n (pc := 109) (i := 0) dX3_weigh_109 (snd_getf (pc := 110) cls3 (f := 10) (by decide) wd_490 dX3_weigh_110 (snd_aload_n (pc := 113) (i := 0) dX3_weigh_113 (snd_getf (pc := 114) cls3 (f := 11) (by decide) wd_491 dX3_weigh_114 (snd_iload (pc := 117) (i := 4) dX3_weigh_117 (snd_iald (pc := 119) dX3_weigh_119 (snd_aload_n (pc := 120) (i := 0) dX3_weigh_120 (snd_getf (pc := 121) cls3 (f := 12) (by decide) wd_492 dX3_weigh_121 (snd_callV (pc := 124) (n := 2) cls7 (s_X7_hisBefore F) (by decide) (by decide) wd_1029 wd_1026 wd_1027 wd_1028 wd_122 hy_X7_hisBefore dX3_weigh_124 (snd_goto (pc := 127) (off := 4) (tgt := 131) (by decide) dX3_weigh_127 ((sk_X3_weigh_131 F hh5))))))))))))))))))
noncomputable def kb_X3_weigh_5 (F : Nat) (self : AK) : AK := ak_iload 4 (ak_aload 0 (ak_getf 3 10 (ak_getf 7 1 (ak_cmplt (ak_aload 0 (ak_getf 3 10 (ak_getf 7 4 (ak_iload 4 (ak_iald (ak_istore 5 (ak_aload 0 (ak_getf 3 9 (ak_iload 4 (ak_push (vL 0) (ak_last (ak_aload 0 (ak_getf 3 13 (ak_ifeq (ak_aload 0 (ak_getf 3 7 (ak_iload 4 (ak_iload 5 (ak_i2l (ak_push (vL 1000000000000) (ak_lmul (ak_last ((k_X3_weigh_95 F self)))))))))) (ak_aload 0 (ak_getf 3 7 (ak_iload 4 (ak_iload 5 (ak_aload 0 (ak_getf 3 10 (ak_getf 7 10 (ak_aload 0 (ak_getf 3 12 (ak_iald (ak_imul (ak_aload 0 (ak_iload 4 (ak_callv 3 1 (m_X3_toll F) (ak_iadd (ak_i2l (ak_push (vL 1000000000000) (ak_lmul (ak_last ((k_X3_weigh_95 F self))))))))))))))))))))))))))))))))))) (ak_lload 2 ak_lreturn)))))
noncomputable def k_X3_weigh_5 (F : Nat) (n : Nat) : AK := Nat.rec (motive := fun _ => AK) ak_none (fun _ self => kb_X3_weigh_5 F self) n
set_option maxRecDepth 20000 in
theorem sk_X3_weigh_5 (F : Nat) : ∀ n, Snd X0 RX3 cX3_weigh 8 1 5 (k_X3_weigh_5 F n) := by
  intro n
  induction n with
  | zero => exact snd_none
  | succ n ih =>
    show Snd X0 RX3 cX3_weigh 8 1 5 (kb_X3_weigh_5 F (k_X3_weigh_5 F n))
    unfold kb_X3_weigh_5
    exact snd_iload (pc := 5) (i := 4) dX3_weigh_5 (snd_aload_n (pc := 7) (i := 0) dX3_weigh_7 (snd_getf (pc := 8) cls3 (f := 10) (by decide) wd_490 dX3_weigh_8 (snd_getf (pc := 11) cls7 (f := 1) (by decide) wd_165 dX3_weigh_11 (snd_icmpge (pc := 14) (off := 178) (tgt := 192) (by decide) dX3_weigh_14 (snd_lload_n (pc := 192) (i := 2) dX3_weigh_192 (snd_lreturn dX3_weigh_193)) (snd_aload_n (pc := 17) (i := 0) dX3_weigh_17 (snd_getf (pc := 18) cls3 (f := 10) (by decide) wd_490 dX3_weigh_18 (snd_getf (pc := 21) cls7 (f := 4) (by decide) wd_178 dX3_weigh_21 (snd_iload (pc := 24) (i := 4) dX3_weigh_24 (snd_iald (pc := 26) dX3_weigh_26 (snd_istore (pc := 27) (i := 5) (by decide) dX3_weigh_27 (snd_aload_n (pc := 29) (i := 0) dX3_weigh_29 (snd_getf (pc := 30) cls3 (f := 9) (by decide) wd_489 dX3_weigh_30 (snd_iload (pc := 33) (i := 4) dX3_weigh_33 (snd_lconst (pc := 35) (by decide) dX3_weigh_35 (snd_last (pc := 36) dX3_weigh_36 (snd_aload_n (pc := 37) (i := 0) dX3_weigh_37 (snd_getf (pc := 38) cls3 (f := 13) (by decide) wd_493 dX3_weigh_38 (snd_ifne (pc := 41) (off := 20) (tgt := 61) (by decide) dX3_weigh_41 (snd_aload_n (pc := 61) (i := 0) dX3_weigh_61 (snd_getf (pc := 62) cls3 (f := 7) (by decide) wd_487 dX3_weigh_62 (snd_iload (pc := 65) (i := 4) dX3_weigh_65 (snd_iload (pc := 67) (i := 5) dX3_weigh_67 (snd_aload_n (pc := 69) (i := 0) dX3_weigh_69 (snd_getf (pc := 70) cls3 (f := 10) (by decide) wd_490 dX3_weigh_70 (snd_getf (pc := 73) cls7 (f := 10) (by decide) wd_205 dX3_weigh_73 (snd_aload_n (pc := 76) (i := 0) dX3_weigh_76 (snd_getf (pc := 77) cls3 (f := 12) (by decide) wd_492 dX3_weigh_77 (snd_iald (pc := 80) dX3_weigh_80 (snd_imul (pc := 81) dX3_weigh_81 (snd_aload_n (pc := 82) (i := 0) dX3_weigh_82 (snd_iload (pc := 83) (i := 4) dX3_weigh_83 (snd_callV (pc := 85) (n := 1) cls3 (s_X3_toll F) (by decide) (by decide) wd_1025 wd_1022 wd_1023 wd_1024 wd_126 hy_X3_toll dX3_weigh_85 (snd_iadd (pc := 88) dX3_weigh_88 (snd_i2l (pc := 89) dX3_weigh_89 (snd_ldc2 (pc := 90) (z := (1000000000000)) (by decide) wd_1016 dX3_weigh_90 (snd_lmul (pc := 93) dX3_weigh_93 (snd_last (pc := 94) dX3_weigh_94 ((sk_X3_weigh_95 F ih))))))))))))))))))))) (snd_aload_n (pc := 44) (i := 0) dX3_weigh_44 (snd_getf (pc := 45) cls3 (f := 7) (by decide) wd_487 dX3_weigh_45 (snd_iload (pc := 48) (i := 4) dX3_weigh_48 (snd_iload (pc := 50) (i := 5) dX3_weigh_50 (snd_i2l (pc := 52) dX3_weigh_52 (snd_ldc2 (pc := 53) (z := (1000000000000)) (by decide) wd_1016 dX3_weigh_53 (snd_lmul (pc := 56) dX3_weigh_56 (snd_last (pc := 57) dX3_weigh_57 (snd_goto (pc := 58) (off := 37) (tgt := 95) (by decide) dX3_weigh_58 ((sk_X3_weigh_95 F ih)))))))))))))))))))))))))))))
noncomputable def k_X3_weigh (F : Nat) : AK := ak_push (vL 0) (ak_lstore 2 (ak_push (vI 0) (ak_istore 4 ((k_X3_weigh_5 F F)))))
noncomputable def m_X3_weigh (F : Nat) : AF := mkF 4 8 (k_X3_weigh F)
set_option maxRecDepth 20000 in
theorem s_X3_weigh (F : Nat) : MA yX3_weigh cX3_weigh 8 (some .long) 1 (m_X3_weigh F) := met_of (Or.inr (Or.inr (Or.inr (Or.inr (Or.inl ⟨rfl, rfl⟩))))) (by decide) (by
  unfold k_X3_weigh
  exact snd_lconst (pc := 0) (by decide) dX3_weigh_0 (snd_lstore_n (pc := 1) (i := 2) (by decide) dX3_weigh_1 (snd_iconst (pc := 2) dX3_weigh_2 (snd_istore (pc := 3) (i := 4) (by decide) dX3_weigh_3 ((sk_X3_weigh_5 F F))))))

/-! LastWalker$Hunt.offer(IIJ)V -/
theorem dX3_offer_0 : decode cX3_offer 0 = .ok (.aload_n 0, 1) := by decide +kernel
theorem dX3_offer_1 : decode cX3_offer 1 = .ok (.getfield 52, 3) := by decide +kernel
theorem dX3_offer_4 : decode cX3_offer 4 = .ok (.ifCond .eq 29, 3) := by decide +kernel
theorem dX3_offer_7 : decode cX3_offer 7 = .ok (.lload_n 3, 1) := by decide +kernel
theorem dX3_offer_8 : decode cX3_offer 8 = .ok (.aload_n 0, 1) := by decide +kernel
theorem dX3_offer_9 : decode cX3_offer 9 = .ok (.getfield 97, 3) := by decide +kernel
theorem dX3_offer_12 : decode cX3_offer 12 = .ok (.lcmp, 1) := by decide +kernel
theorem dX3_offer_13 : decode cX3_offer 13 = .ok (.ifCond .lt 20, 3) := by decide +kernel
theorem dX3_offer_16 : decode cX3_offer 16 = .ok (.lload_n 3, 1) := by decide +kernel
theorem dX3_offer_17 : decode cX3_offer 17 = .ok (.aload_n 0, 1) := by decide +kernel
theorem dX3_offer_18 : decode cX3_offer 18 = .ok (.getfield 97, 3) := by decide +kernel
theorem dX3_offer_21 : decode cX3_offer 21 = .ok (.lcmp, 1) := by decide +kernel
theorem dX3_offer_22 : decode cX3_offer 22 = .ok (.ifCond .ne 55, 3) := by decide +kernel
theorem dX3_offer_25 : decode cX3_offer 25 = .ok (.iload_n 1, 1) := by decide +kernel
theorem dX3_offer_26 : decode cX3_offer 26 = .ok (.aload_n 0, 1) := by decide +kernel
theorem dX3_offer_27 : decode cX3_offer 27 = .ok (.getfield 52, 3) := by decide +kernel
theorem dX3_offer_30 : decode cX3_offer 30 = .ok (.if_icmp .ge 47, 3) := by decide +kernel
theorem dX3_offer_33 : decode cX3_offer 33 = .ok (.aload_n 0, 1) := by decide +kernel
theorem dX3_offer_34 : decode cX3_offer 34 = .ok (.iload_n 1, 1) := by decide +kernel
theorem dX3_offer_35 : decode cX3_offer 35 = .ok (.putfield 52, 3) := by decide +kernel
theorem dX3_offer_38 : decode cX3_offer 38 = .ok (.aload_n 0, 1) := by decide +kernel
theorem dX3_offer_39 : decode cX3_offer 39 = .ok (.lload_n 3, 1) := by decide +kernel
theorem dX3_offer_40 : decode cX3_offer 40 = .ok (.putfield 97, 3) := by decide +kernel
theorem dX3_offer_43 : decode cX3_offer 43 = .ok (.aload_n 0, 1) := by decide +kernel
theorem dX3_offer_44 : decode cX3_offer 44 = .ok (.iload_n 2, 1) := by decide +kernel
theorem dX3_offer_45 : decode cX3_offer 45 = .ok (.putfield 131, 3) := by decide +kernel
theorem dX3_offer_48 : decode cX3_offer 48 = .ok (.iconst 0, 1) := by decide +kernel
theorem dX3_offer_49 : decode cX3_offer 49 = .ok (.istore 5, 2) := by decide +kernel
theorem dX3_offer_51 : decode cX3_offer 51 = .ok (.iload 5, 2) := by decide +kernel
theorem dX3_offer_53 : decode cX3_offer 53 = .ok (.iload_n 1, 1) := by decide +kernel
theorem dX3_offer_54 : decode cX3_offer 54 = .ok (.if_icmp .ge 23, 3) := by decide +kernel
theorem dX3_offer_57 : decode cX3_offer 57 = .ok (.aload_n 0, 1) := by decide +kernel
theorem dX3_offer_58 : decode cX3_offer 58 = .ok (.getfield 18, 3) := by decide +kernel
theorem dX3_offer_61 : decode cX3_offer 61 = .ok (.iload 5, 2) := by decide +kernel
theorem dX3_offer_63 : decode cX3_offer 63 = .ok (.aload_n 0, 1) := by decide +kernel
theorem dX3_offer_64 : decode cX3_offer 64 = .ok (.getfield 22, 3) := by decide +kernel
theorem dX3_offer_67 : decode cX3_offer 67 = .ok (.iload 5, 2) := by decide +kernel
theorem dX3_offer_69 : decode cX3_offer 69 = .ok (.iaload, 1) := by decide +kernel
theorem dX3_offer_70 : decode cX3_offer 70 = .ok (.iastore, 1) := by decide +kernel
theorem dX3_offer_71 : decode cX3_offer 71 = .ok (.iinc 5 1, 3) := by decide +kernel
theorem dX3_offer_74 : decode cX3_offer 74 = .ok (.goto (-23), 3) := by decide +kernel
theorem dX3_offer_77 : decode cX3_offer 77 = .ok (.return_, 1) := by decide +kernel
noncomputable def kb_X3_offer_51 (F : Nat) (self : AK) : AK := ak_iload 5 (ak_iload 1 (ak_cmplt (ak_aload 0 (ak_getf 3 1 (ak_iload 5 (ak_aload 0 (ak_getf 3 6 (ak_iload 5 (ak_iald (ak_iast (ak_iinc 5 1 self))))))))) (ak_return)))
noncomputable def k_X3_offer_51 (F : Nat) (n : Nat) : AK := Nat.rec (motive := fun _ => AK) ak_none (fun _ self => kb_X3_offer_51 F self) n
set_option maxRecDepth 20000 in
theorem sk_X3_offer_51 (F : Nat) : ∀ n, Snd X0 RX3 cX3_offer 6 0 51 (k_X3_offer_51 F n) := by
  intro n
  induction n with
  | zero => exact snd_none
  | succ n ih =>
    show Snd X0 RX3 cX3_offer 6 0 51 (kb_X3_offer_51 F (k_X3_offer_51 F n))
    unfold kb_X3_offer_51
    exact snd_iload (pc := 51) (i := 5) dX3_offer_51 (snd_iload_n (pc := 53) (i := 1) dX3_offer_53 (snd_icmpge (pc := 54) (off := 23) (tgt := 77) (by decide) dX3_offer_54 (snd_return dX3_offer_77) (snd_aload_n (pc := 57) (i := 0) dX3_offer_57 (snd_getf (pc := 58) cls3 (f := 1) (by decide) wd_474 dX3_offer_58 (snd_iload (pc := 61) (i := 5) dX3_offer_61 (snd_aload_n (pc := 63) (i := 0) dX3_offer_63 (snd_getf (pc := 64) cls3 (f := 6) (by decide) wd_486 dX3_offer_64 (snd_iload (pc := 67) (i := 5) dX3_offer_67 (snd_iald (pc := 69) dX3_offer_69 (snd_iast (pc := 70) dX3_offer_70 (snd_iinc (pc := 71) (i := 5) (n := 1) (by decide) dX3_offer_71 (snd_goto (pc := 74) (off := (-23)) (tgt := 51) (by decide) dX3_offer_74 (ih)))))))))))))
noncomputable def k_X3_offer_33 (F : Nat) : AK := ak_aload 0 (ak_iload 1 (ak_putf 3 2 (ak_aload 0 (ak_lload 3 (ak_putl 3 4 (ak_aload 0 (ak_iload 2 (ak_putf 3 3 (ak_push (vI 0) (ak_istore 5 ((k_X3_offer_51 F F))))))))))))
set_option maxRecDepth 20000 in
theorem sk_X3_offer_33 (F : Nat) : Snd X0 RX3 cX3_offer 6 0 33 (k_X3_offer_33 F) := by
  unfold k_X3_offer_33
  exact snd_aload_n (pc := 33) (i := 0) dX3_offer_33 (snd_iload_n (pc := 34) (i := 1) dX3_offer_34 (snd_putf (pc := 35) cls3 (f := 2) (by decide) rfl rfl rfl wd_476 dX3_offer_35 (snd_aload_n (pc := 38) (i := 0) dX3_offer_38 (snd_lload_n (pc := 39) (i := 3) dX3_offer_39 (snd_putl (pc := 40) cls3 (f := 4) (by decide) rfl rfl rfl wd_482 dX3_offer_40 (snd_aload_n (pc := 43) (i := 0) dX3_offer_43 (snd_iload_n (pc := 44) (i := 2) dX3_offer_44 (snd_putf (pc := 45) cls3 (f := 3) (by decide) rfl rfl rfl wd_480 dX3_offer_45 (snd_iconst (pc := 48) dX3_offer_48 (snd_istore (pc := 49) (i := 5) (by decide) dX3_offer_49 ((sk_X3_offer_51 F F))))))))))))
noncomputable def k_X3_offer (F : Nat) : AK := ak_aload 0 (ak_getf 3 2 (ak_ifeq ((k_X3_offer_33 F)) (ak_lload 3 (ak_aload 0 (ak_getf 3 4 (ak_lcmp (ak_iflt ((k_X3_offer_33 F)) (ak_lload 3 (ak_aload 0 (ak_getf 3 4 (ak_lcmp (ak_ifeq (ak_iload 1 (ak_aload 0 (ak_getf 3 2 (ak_cmplt ((k_X3_offer_33 F)) (ak_return))))) (ak_return)))))))))))))
noncomputable def m_X3_offer (F : Nat) : AF := mkF 0 6 (k_X3_offer F)
set_option maxRecDepth 20000 in
theorem s_X3_offer (F : Nat) : MA yX3_offer cX3_offer 6 none 0 (m_X3_offer F) := met_of (Or.inl ⟨rfl, rfl⟩) (by decide) (by
  unfold k_X3_offer
  exact snd_aload_n (pc := 0) (i := 0) dX3_offer_0 (snd_getf (pc := 1) cls3 (f := 2) (by decide) wd_476 dX3_offer_1 (snd_ifeq (pc := 4) (off := 29) (tgt := 33) (by decide) dX3_offer_4 ((sk_X3_offer_33 F)) (snd_lload_n (pc := 7) (i := 3) dX3_offer_7 (snd_aload_n (pc := 8) (i := 0) dX3_offer_8 (snd_getf (pc := 9) cls3 (f := 4) (by decide) wd_482 dX3_offer_9 (snd_lcmp (pc := 12) dX3_offer_12 (snd_iflt (pc := 13) (off := 20) (tgt := 33) (by decide) dX3_offer_13 ((sk_X3_offer_33 F)) (snd_lload_n (pc := 16) (i := 3) dX3_offer_16 (snd_aload_n (pc := 17) (i := 0) dX3_offer_17 (snd_getf (pc := 18) cls3 (f := 4) (by decide) wd_482 dX3_offer_18 (snd_lcmp (pc := 21) dX3_offer_21 (snd_ifne (pc := 22) (off := 55) (tgt := 77) (by decide) dX3_offer_22 (snd_return dX3_offer_77) (snd_iload_n (pc := 25) (i := 1) dX3_offer_25 (snd_aload_n (pc := 26) (i := 0) dX3_offer_26 (snd_getf (pc := 27) cls3 (f := 2) (by decide) wd_476 dX3_offer_27 (snd_icmpge (pc := 30) (off := 47) (tgt := 77) (by decide) dX3_offer_30 (snd_return dX3_offer_77) ((sk_X3_offer_33 F)))))))))))))))))))

/-! LastWalker$Hunt.costOf(II)J -/
theorem dX3_costOf_0 : decode cX3_costOf 0 = .ok (.iload_n 2, 1) := by decide +kernel
theorem dX3_costOf_1 : decode cX3_costOf 1 = .ok (.aload_n 0, 1) := by decide +kernel
theorem dX3_costOf_2 : decode cX3_costOf 2 = .ok (.getfield 29, 3) := by decide +kernel
theorem dX3_costOf_5 : decode cX3_costOf 5 = .ok (.iload_n 1, 1) := by decide +kernel
theorem dX3_costOf_6 : decode cX3_costOf 6 = .ok (.iaload, 1) := by decide +kernel
theorem dX3_costOf_7 : decode cX3_costOf 7 = .ok (.if_icmp .lt 10, 3) := by decide +kernel
theorem dX3_costOf_10 : decode cX3_costOf 10 = .ok (.aload_n 0, 1) := by decide +kernel
theorem dX3_costOf_11 : decode cX3_costOf 11 = .ok (.getfield 25, 3) := by decide +kernel
theorem dX3_costOf_14 : decode cX3_costOf 14 = .ok (.iload_n 1, 1) := by decide +kernel
theorem dX3_costOf_15 : decode cX3_costOf 15 = .ok (.laload, 1) := by decide +kernel
theorem dX3_costOf_16 : decode cX3_costOf 16 = .ok (.lreturn, 1) := by decide +kernel
theorem dX3_costOf_17 : decode cX3_costOf 17 = .ok (.iload_n 2, 1) := by decide +kernel
theorem dX3_costOf_18 : decode cX3_costOf 18 = .ok (.sipush 360, 3) := by decide +kernel
theorem dX3_costOf_21 : decode cX3_costOf 21 = .ok (.if_icmp .ge 12, 3) := by decide +kernel
theorem dX3_costOf_24 : decode cX3_costOf 24 = .ok (.iload_n 2, 1) := by decide +kernel
theorem dX3_costOf_25 : decode cX3_costOf 25 = .ok (.bipush 60, 2) := by decide +kernel
theorem dX3_costOf_27 : decode cX3_costOf 27 = .ok (.idiv, 1) := by decide +kernel
theorem dX3_costOf_28 : decode cX3_costOf 28 = .ok (.iconst 1, 1) := by decide +kernel
theorem dX3_costOf_29 : decode cX3_costOf 29 = .ok (.iadd, 1) := by decide +kernel
theorem dX3_costOf_30 : decode cX3_costOf 30 = .ok (.goto 5, 3) := by decide +kernel
theorem dX3_costOf_33 : decode cX3_costOf 33 = .ok (.bipush 6, 2) := by decide +kernel
theorem dX3_costOf_35 : decode cX3_costOf 35 = .ok (.istore_n 3, 1) := by decide +kernel
theorem dX3_costOf_36 : decode cX3_costOf 36 = .ok (.aload_n 0, 1) := by decide +kernel
theorem dX3_costOf_37 : decode cX3_costOf 37 = .ok (.getfield 25, 3) := by decide +kernel
theorem dX3_costOf_40 : decode cX3_costOf 40 = .ok (.iload_n 1, 1) := by decide +kernel
theorem dX3_costOf_41 : decode cX3_costOf 41 = .ok (.laload, 1) := by decide +kernel
theorem dX3_costOf_42 : decode cX3_costOf 42 = .ok (.aload_n 0, 1) := by decide +kernel
theorem dX3_costOf_43 : decode cX3_costOf 43 = .ok (.getfield 12, 3) := by decide +kernel
theorem dX3_costOf_46 : decode cX3_costOf 46 = .ok (.getfield 128, 3) := by decide +kernel
theorem dX3_costOf_49 : decode cX3_costOf 49 = .ok (.iload_n 1, 1) := by decide +kernel
theorem dX3_costOf_50 : decode cX3_costOf 50 = .ok (.bipush 7, 2) := by decide +kernel
theorem dX3_costOf_52 : decode cX3_costOf 52 = .ok (.imul, 1) := by decide +kernel
theorem dX3_costOf_53 : decode cX3_costOf 53 = .ok (.iload_n 3, 1) := by decide +kernel
theorem dX3_costOf_54 : decode cX3_costOf 54 = .ok (.iadd, 1) := by decide +kernel
theorem dX3_costOf_55 : decode cX3_costOf 55 = .ok (.laload, 1) := by decide +kernel
theorem dX3_costOf_56 : decode cX3_costOf 56 = .ok (.lsub, 1) := by decide +kernel
theorem dX3_costOf_57 : decode cX3_costOf 57 = .ok (.lreturn, 1) := by decide +kernel
noncomputable def k_X3_costOf_35 (F : Nat) : AK := ak_istore 3 (ak_aload 0 (ak_getf 3 7 (ak_iload 1 (ak_lald (ak_aload 0 (ak_getf 3 0 (ak_getf 1 4 (ak_iload 1 (ak_push (vI 7) (ak_imul (ak_iload 3 (ak_iadd (ak_lald (ak_lsub ak_lreturn))))))))))))))
set_option maxRecDepth 20000 in
theorem sk_X3_costOf_35 (F : Nat) : Snd X0 RX3 cX3_costOf 4 0 35 (k_X3_costOf_35 F) := by
  unfold k_X3_costOf_35
  exact snd_istore_n (pc := 35) (i := 3) (by decide) dX3_costOf_35 (snd_aload_n (pc := 36) (i := 0) dX3_costOf_36 (snd_getf (pc := 37) cls3 (f := 7) (by decide) wd_487 dX3_costOf_37 (snd_iload_n (pc := 40) (i := 1) dX3_costOf_40 (snd_lald (pc := 41) dX3_costOf_41 (snd_aload_n (pc := 42) (i := 0) dX3_costOf_42 (snd_getf (pc := 43) cls3 (f := 0) (by decide) wd_471 dX3_costOf_43 (snd_getf (pc := 46) cls1 (f := 4) (by decide) wd_456 dX3_costOf_46 (snd_iload_n (pc := 49) (i := 1) dX3_costOf_49 (snd_bipush (pc := 50) (by decide) dX3_costOf_50 (snd_imul (pc := 52) dX3_costOf_52 (snd_iload_n (pc := 53) (i := 3) dX3_costOf_53 (snd_iadd (pc := 54) dX3_costOf_54 (snd_lald (pc := 55) dX3_costOf_55 (snd_lsub (pc := 56) dX3_costOf_56 (snd_lreturn dX3_costOf_57)))))))))))))))
noncomputable def k_X3_costOf (F : Nat) : AK := ak_iload 2 (ak_aload 0 (ak_getf 3 8 (ak_iload 1 (ak_iald (ak_cmplt (ak_iload 2 (ak_push (vI 360) (ak_cmplt (ak_iload 2 (ak_push (vI 60) (ak_idiv (ak_push (vI 1) (ak_iadd ((k_X3_costOf_35 F))))))) (ak_push (vI 6) ((k_X3_costOf_35 F)))))) (ak_aload 0 (ak_getf 3 7 (ak_iload 1 (ak_lald ak_lreturn)))))))))
noncomputable def m_X3_costOf (F : Nat) : AF := mkF 4 4 (k_X3_costOf F)
set_option maxRecDepth 20000 in
theorem s_X3_costOf (F : Nat) : MA yX3_costOf cX3_costOf 4 (some .long) 0 (m_X3_costOf F) := met_of (Or.inr (Or.inr (Or.inr (Or.inr (Or.inl ⟨rfl, rfl⟩))))) (by decide) (by
  unfold k_X3_costOf
  exact snd_iload_n (pc := 0) (i := 2) dX3_costOf_0 (snd_aload_n (pc := 1) (i := 0) dX3_costOf_1 (snd_getf (pc := 2) cls3 (f := 8) (by decide) wd_488 dX3_costOf_2 (snd_iload_n (pc := 5) (i := 1) dX3_costOf_5 (snd_iald (pc := 6) dX3_costOf_6 (snd_icmplt (pc := 7) (off := 10) (tgt := 17) (by decide) dX3_costOf_7 (snd_iload_n (pc := 17) (i := 2) dX3_costOf_17 (snd_sipush (pc := 18) (by decide) dX3_costOf_18 (snd_icmpge (pc := 21) (off := 12) (tgt := 33) (by decide) dX3_costOf_21 (snd_bipush (pc := 33) (by decide) dX3_costOf_33 ((sk_X3_costOf_35 F))) (snd_iload_n (pc := 24) (i := 2) dX3_costOf_24 (snd_bipush (pc := 25) (by decide) dX3_costOf_25 (snd_idiv (pc := 27) dX3_costOf_27 (snd_iconst (pc := 28) dX3_costOf_28 (snd_iadd (pc := 29) dX3_costOf_29 (snd_goto (pc := 30) (off := 5) (tgt := 35) (by decide) dX3_costOf_30 ((sk_X3_costOf_35 F))))))))))) (snd_aload_n (pc := 10) (i := 0) dX3_costOf_10 (snd_getf (pc := 11) cls3 (f := 7) (by decide) wd_487 dX3_costOf_11 (snd_iload_n (pc := 14) (i := 1) dX3_costOf_14 (snd_lald (pc := 15) dX3_costOf_15 (snd_lreturn dX3_costOf_16)))))))))))
