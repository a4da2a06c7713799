/-! LastWalker.errand(III)I -/
theorem dX8_errand_0 : decode cX8_errand 0 = .ok (.aload_n 0, 1) := by decide +kernel
theorem dX8_errand_1 : decode cX8_errand 1 = .ok (.getfield 10, 3) := by decide +kernel
theorem dX8_errand_4 : decode cX8_errand 4 = .ok (.iload_n 1, 1) := by decide +kernel
theorem dX8_errand_5 : decode cX8_errand 5 = .ok (.invokevirtual 132, 3) := by decide +kernel
theorem dX8_errand_8 : decode cX8_errand 8 = .ok (.astore 4, 2) := by decide +kernel
theorem dX8_errand_10 : decode cX8_errand 10 = .ok (.aload 4, 2) := by decide +kernel
theorem dX8_errand_12 : decode cX8_errand 12 = .ok (.ifnull 12, 3) := by decide +kernel
theorem dX8_errand_15 : decode cX8_errand 15 = .ok (.aload 4, 2) := by decide +kernel
theorem dX8_errand_17 : decode cX8_errand 17 = .ok (.iload_n 2, 1) := by decide +kernel
theorem dX8_errand_18 : decode cX8_errand 18 = .ok (.invokevirtual 189, 3) := by decide +kernel
theorem dX8_errand_21 : decode cX8_errand 21 = .ok (.ifCond .ne 5, 3) := by decide +kernel
theorem dX8_errand_24 : decode cX8_errand 24 = .ok (.iconst (-1), 1) := by decide +kernel
theorem dX8_errand_25 : decode cX8_errand 25 = .ok (.ireturn, 1) := by decide +kernel
theorem dX8_errand_26 : decode cX8_errand 26 = .ok (.iload_n 3, 1) := by decide +kernel
theorem dX8_errand_27 : decode cX8_errand 27 = .ok (.tableswitch 61 0 3 #[29, 37, 45, 53], 29) := by decide +kernel
theorem dX8_errand_56 : decode cX8_errand 56 = .ok (.aload 4, 2) := by decide +kernel
theorem dX8_errand_58 : decode cX8_errand 58 = .ok (.getfield 192, 3) := by decide +kernel
theorem dX8_errand_61 : decode cX8_errand 61 = .ok (.iload_n 2, 1) := by decide +kernel
theorem dX8_errand_62 : decode cX8_errand 62 = .ok (.iaload, 1) := by decide +kernel
theorem dX8_errand_63 : decode cX8_errand 63 = .ok (.ireturn, 1) := by decide +kernel
theorem dX8_errand_64 : decode cX8_errand 64 = .ok (.aload 4, 2) := by decide +kernel
theorem dX8_errand_66 : decode cX8_errand 66 = .ok (.getfield 195, 3) := by decide +kernel
theorem dX8_errand_69 : decode cX8_errand 69 = .ok (.iload_n 2, 1) := by decide +kernel
theorem dX8_errand_70 : decode cX8_errand 70 = .ok (.iaload, 1) := by decide +kernel
theorem dX8_errand_71 : decode cX8_errand 71 = .ok (.ireturn, 1) := by decide +kernel
theorem dX8_errand_72 : decode cX8_errand 72 = .ok (.aload 4, 2) := by decide +kernel
theorem dX8_errand_74 : decode cX8_errand 74 = .ok (.getfield 198, 3) := by decide +kernel
theorem dX8_errand_77 : decode cX8_errand 77 = .ok (.iload_n 2, 1) := by decide +kernel
theorem dX8_errand_78 : decode cX8_errand 78 = .ok (.iaload, 1) := by decide +kernel
theorem dX8_errand_79 : decode cX8_errand 79 = .ok (.ireturn, 1) := by decide +kernel
theorem dX8_errand_80 : decode cX8_errand 80 = .ok (.aload 4, 2) := by decide +kernel
theorem dX8_errand_82 : decode cX8_errand 82 = .ok (.getfield 201, 3) := by decide +kernel
theorem dX8_errand_85 : decode cX8_errand 85 = .ok (.iload_n 2, 1) := by decide +kernel
theorem dX8_errand_86 : decode cX8_errand 86 = .ok (.iaload, 1) := by decide +kernel
theorem dX8_errand_87 : decode cX8_errand 87 = .ok (.ireturn, 1) := by decide +kernel
theorem dX8_errand_88 : decode cX8_errand 88 = .ok (.iconst (-1), 1) := by decide +kernel
theorem dX8_errand_89 : decode cX8_errand 89 = .ok (.ireturn, 1) := by decide +kernel
noncomputable def k_X8_errand (F : Nat) : AK := ak_aload 0 (ak_getf 8 0 (ak_iload 1 (ak_callv 0 1 (m_X0_townAt F) (ak_astore 4 (ak_aload 4 (ak_ifnull (ak_push (vI (-1)) ak_ireturn) (ak_aload 4 (ak_iload 2 (ak_callv 7 1 (m_X7_hasErrand F) (ak_ifeq (ak_push (vI (-1)) ak_ireturn) (ak_iload 3 (ak_switch 0 [ak_aload 4 (ak_getf 7 13 (ak_iload 2 (ak_iald ak_ireturn))), ak_aload 4 (ak_getf 7 14 (ak_iload 2 (ak_iald ak_ireturn))), ak_aload 4 (ak_getf 7 15 (ak_iload 2 (ak_iald ak_ireturn))), ak_aload 4 (ak_getf 7 16 (ak_iload 2 (ak_iald ak_ireturn)))] (ak_push (vI (-1)) ak_ireturn)))))))))))))
noncomputable def m_X8_errand (F : Nat) : AF := mkF 1 5 (k_X8_errand F)
set_option maxRecDepth 20000 in
theorem s_X8_errand (F : Nat) : MA yX8_errand cX8_errand 5 (some .int) 1 (m_X8_errand F) := met_of (Or.inr (Or.inl ⟨rfl, rfl⟩)) (by decide) (by
  unfold k_X8_errand
  exact snd_aload_n (pc := 0) (i := 0) dX8_errand_0 (snd_getf (pc := 1) cls8 (f := 0) (by decide) wd_588 dX8_errand_1 (snd_iload_n (pc := 4) (i := 1) dX8_errand_4 (snd_callV (pc := 5) (n := 1) cls0 (s_X0_townAt F) (by decide) (by decide) wd_838 wd_835 wd_836 wd_837 wd_121 hy_X0_townAt dX8_errand_5 (snd_astore (pc := 8) (i := 4) (by decide) dX8_errand_8 (snd_aload (pc := 10) (i := 4) dX8_errand_10 (snd_ifnull (pc := 12) (off := 12) (tgt := 24) (by decide) dX8_errand_12 (snd_iconst (pc := 24) dX8_errand_24 (snd_ireturn dX8_errand_25)) (snd_aload (pc := 15) (i := 4) dX8_errand_15 (snd_iload_n (pc := 17) (i := 2) dX8_errand_17 (snd_callV (pc := 18) (n := 1) cls7 (s_X7_hasErrand F) (by decide) (by decide) wd_862 wd_859 wd_860 wd_861 wd_122 hy_X7_hasErrand dX8_errand_18 (snd_ifne (pc := 21) (off := 5) (tgt := 26) (by decide) dX8_errand_21 (snd_iload_n (pc := 26) (i := 3) dX8_errand_26 (snd_switchL (pc := 27) (ol := [29, 37, 45, 53]) (tgd := 88) dX8_errand_27 rfl (by decide) (snd_iconst (pc := 88) dX8_errand_88 (snd_ireturn dX8_errand_89)) (sw_cons (o := 29) (tgt := 56) (by decide) (snd_aload (pc := 56) (i := 4) dX8_errand_56 (snd_getf (pc := 58) cls7 (f := 13) (by decide) wd_219 dX8_errand_58 (snd_iload_n (pc := 61) (i := 2) dX8_errand_61 (snd_iald (pc := 62) dX8_errand_62 (snd_ireturn dX8_errand_63))))) (sw_cons (o := 37) (tgt := 64) (by decide) (snd_aload (pc := 64) (i := 4) dX8_errand_64 (snd_getf (pc := 66) cls7 (f := 14) (by decide) wd_223 dX8_errand_66 (snd_iload_n (pc := 69) (i := 2) dX8_errand_69 (snd_iald (pc := 70) dX8_errand_70 (snd_ireturn dX8_errand_71))))) (sw_cons (o := 45) (tgt := 72) (by decide) (snd_aload (pc := 72) (i := 4) dX8_errand_72 (snd_getf (pc := 74) cls7 (f := 15) (by decide) wd_227 dX8_errand_74 (snd_iload_n (pc := 77) (i := 2) dX8_errand_77 (snd_iald (pc := 78) dX8_errand_78 (snd_ireturn dX8_errand_79))))) (sw_cons (o := 53) (tgt := 80) (by decide) (snd_aload (pc := 80) (i := 4) dX8_errand_80 (snd_getf (pc := 82) cls7 (f := 16) (by decide) wd_231 dX8_errand_82 (snd_iload_n (pc := 85) (i := 2) dX8_errand_85 (snd_iald (pc := 86) dX8_errand_86 (snd_ireturn dX8_errand_87))))) (sw_nil))))))) (snd_iconst (pc := 24) dX8_errand_24 (snd_ireturn dX8_errand_25)))))))))))))

/-! LastWalker.move(III)I -/
theorem dX8_move_0 : decode cX8_move 0 = .ok (.aload_n 0, 1) := by decide +kernel
theorem dX8_move_1 : decode cX8_move 1 = .ok (.getfield 10, 3) := by decide +kernel
theorem dX8_move_4 : decode cX8_move 4 = .ok (.iload_n 1, 1) := by decide +kernel
theorem dX8_move_5 : decode cX8_move 5 = .ok (.invokevirtual 204, 3) := by decide +kernel
theorem dX8_move_8 : decode cX8_move 8 = .ok (.astore 4, 2) := by decide +kernel
theorem dX8_move_10 : decode cX8_move 10 = .ok (.aload 4, 2) := by decide +kernel
theorem dX8_move_12 : decode cX8_move 12 = .ok (.ifnonnull 6, 3) := by decide +kernel
theorem dX8_move_15 : decode cX8_move 15 = .ok (.bipush (-2), 2) := by decide +kernel
theorem dX8_move_17 : decode cX8_move 17 = .ok (.ireturn, 1) := by decide +kernel
theorem dX8_move_18 : decode cX8_move 18 = .ok (.iload_n 2, 1) := by decide +kernel
theorem dX8_move_19 : decode cX8_move 19 = .ok (.iconst (-1), 1) := by decide +kernel
theorem dX8_move_20 : decode cX8_move 20 = .ok (.if_icmp .ne 18, 3) := by decide +kernel
theorem dX8_move_23 : decode cX8_move 23 = .ok (.iload_n 3, 1) := by decide +kernel
theorem dX8_move_24 : decode cX8_move 24 = .ok (.ifCond .ne 11, 3) := by decide +kernel
theorem dX8_move_27 : decode cX8_move 27 = .ok (.aload 4, 2) := by decide +kernel
theorem dX8_move_29 : decode cX8_move 29 = .ok (.getfield 208, 3) := by decide +kernel
theorem dX8_move_32 : decode cX8_move 32 = .ok (.goto 5, 3) := by decide +kernel
theorem dX8_move_35 : decode cX8_move 35 = .ok (.bipush (-2), 2) := by decide +kernel
theorem dX8_move_37 : decode cX8_move 37 = .ok (.ireturn, 1) := by decide +kernel
theorem dX8_move_38 : decode cX8_move 38 = .ok (.iload_n 2, 1) := by decide +kernel
theorem dX8_move_39 : decode cX8_move 39 = .ok (.ifCond .lt 12, 3) := by decide +kernel
theorem dX8_move_42 : decode cX8_move 42 = .ok (.iload_n 2, 1) := by decide +kernel
theorem dX8_move_43 : decode cX8_move 43 = .ok (.aload 4, 2) := by decide +kernel
theorem dX8_move_45 : decode cX8_move 45 = .ok (.getfield 208, 3) := by decide +kernel
theorem dX8_move_48 : decode cX8_move 48 = .ok (.if_icmp .lt 6, 3) := by decide +kernel
theorem dX8_move_51 : decode cX8_move 51 = .ok (.bipush (-2), 2) := by decide +kernel
theorem dX8_move_53 : decode cX8_move 53 = .ok (.ireturn, 1) := by decide +kernel
theorem dX8_move_54 : decode cX8_move 54 = .ok (.iload_n 3, 1) := by decide +kernel
theorem dX8_move_55 : decode cX8_move 55 = .ok (.tableswitch 58 0 2 #[25, 42, 50], 25) := by decide +kernel
theorem dX8_move_80 : decode cX8_move 80 = .ok (.aload 4, 2) := by decide +kernel
theorem dX8_move_82 : decode cX8_move 82 = .ok (.getfield 211, 3) := by decide +kernel
theorem dX8_move_85 : decode cX8_move 85 = .ok (.iload_n 2, 1) := by decide +kernel
theorem dX8_move_86 : decode cX8_move 86 = .ok (.iaload, 1) := by decide +kernel
theorem dX8_move_87 : decode cX8_move 87 = .ok (.iconst (-1), 1) := by decide +kernel
theorem dX8_move_88 : decode cX8_move 88 = .ok (.if_icmp .ne 7, 3) := by decide +kernel
theorem dX8_move_91 : decode cX8_move 91 = .ok (.iconst 1, 1) := by decide +kernel
theorem dX8_move_92 : decode cX8_move 92 = .ok (.goto 4, 3) := by decide +kernel
theorem dX8_move_95 : decode cX8_move 95 = .ok (.iconst 0, 1) := by decide +kernel
theorem dX8_move_96 : decode cX8_move 96 = .ok (.ireturn, 1) := by decide +kernel
theorem dX8_move_97 : decode cX8_move 97 = .ok (.aload 4, 2) := by decide +kernel
theorem dX8_move_99 : decode cX8_move 99 = .ok (.getfield 211, 3) := by decide +kernel
theorem dX8_move_102 : decode cX8_move 102 = .ok (.iload_n 2, 1) := by decide +kernel
theorem dX8_move_103 : decode cX8_move 103 = .ok (.iaload, 1) := by decide +kernel
theorem dX8_move_104 : decode cX8_move 104 = .ok (.ireturn, 1) := by decide +kernel
theorem dX8_move_105 : decode cX8_move 105 = .ok (.aload 4, 2) := by decide +kernel
theorem dX8_move_107 : decode cX8_move 107 = .ok (.getfield 212, 3) := by decide +kernel
theorem dX8_move_110 : decode cX8_move 110 = .ok (.iload_n 2, 1) := by decide +kernel
theorem dX8_move_111 : decode cX8_move 111 = .ok (.iaload, 1) := by decide +kernel
theorem dX8_move_112 : decode cX8_move 112 = .ok (.ireturn, 1) := by decide +kernel
theorem dX8_move_113 : decode cX8_move 113 = .ok (.bipush (-2), 2) := by decide +kernel
theorem dX8_move_115 : decode cX8_move 115 = .ok (.ireturn, 1) := by decide +kernel
noncomputable def k_X8_move (F : Nat) : AK := ak_aload 0 (ak_getf 8 0 (ak_iload 1 (ak_callv 0 1 (m_X0_dayAt F) (ak_astore 4 (ak_aload 4 (ak_ifnull (ak_push (vI (-2)) ak_ireturn) (ak_iload 2 (ak_push (vI (-1)) (ak_cmpeq (ak_iload 3 (ak_ifeq (ak_aload 4 (ak_getf 2 0 ak_ireturn)) (ak_push (vI (-2)) ak_ireturn))) (ak_iload 2 (ak_iflt (ak_push (vI (-2)) ak_ireturn) (ak_iload 2 (ak_aload 4 (ak_getf 2 0 (ak_cmplt (ak_iload 3 (ak_switch 0 [ak_aload 4 (ak_getf 2 1 (ak_iload 2 (ak_iald (ak_push (vI (-1)) (ak_cmpeq (ak_push (vI 1) ak_ireturn) (ak_push (vI 0) ak_ireturn)))))), ak_aload 4 (ak_getf 2 1 (ak_iload 2 (ak_iald ak_ireturn))), ak_aload 4 (ak_getf 2 2 (ak_iload 2 (ak_iald ak_ireturn)))] (ak_push (vI (-2)) ak_ireturn))) (ak_push (vI (-2)) ak_ireturn))))))))))))))))
noncomputable def m_X8_move (F : Nat) : AF := mkF 1 5 (k_X8_move F)
set_option maxRecDepth 20000 in
theorem s_X8_move (F : Nat) : MA yX8_move cX8_move 5 (some .int) 1 (m_X8_move F) := met_of (Or.inr (Or.inl ⟨rfl, rfl⟩)) (by decide) (by
  unfold k_X8_move
  exact snd_aload_n (pc := 0) (i := 0) dX8_move_0 (snd_getf (pc := 1) cls8 (f := 0) (by decide) wd_588 dX8_move_1 (snd_iload_n (pc := 4) (i := 1) dX8_move_4 (snd_callV (pc := 5) (n := 1) cls0 (s_X0_dayAt F) (by decide) (by decide) wd_870 wd_867 wd_868 wd_869 wd_121 hy_X0_dayAt dX8_move_5 (snd_astore (pc := 8) (i := 4) (by decide) dX8_move_8 (snd_aload (pc := 10) (i := 4) dX8_move_10 (snd_ifnonnull (pc := 12) (off := 6) (tgt := 18) (by decide) dX8_move_12 (snd_iload_n (pc := 18) (i := 2) dX8_move_18 (snd_iconst (pc := 19) dX8_move_19 (snd_icmpne (pc := 20) (off := 18) (tgt := 38) (by decide) dX8_move_20 (snd_iload_n (pc := 38) (i := 2) dX8_move_38 (snd_iflt (pc := 39) (off := 12) (tgt := 51) (by decide) dX8_move_39 (snd_bipush (pc := 51) (by decide) dX8_move_51 (snd_ireturn dX8_move_53)) (snd_iload_n (pc := 42) (i := 2) dX8_move_42 (snd_aload (pc := 43) (i := 4) dX8_move_43 (snd_getf (pc := 45) cls2 (f := 0) (by decide) wd_290 dX8_move_45 (snd_icmplt (pc := 48) (off := 6) (tgt := 54) (by decide) dX8_move_48 (snd_iload_n (pc := 54) (i := 3) dX8_move_54 (snd_switchL (pc := 55) (ol := [25, 42, 50]) (tgd := 113) dX8_move_55 rfl (by decide) (snd_bipush (pc := 113) (by decide) dX8_move_113 (snd_ireturn dX8_move_115)) (sw_cons (o := 25) (tgt := 80) (by decide) (snd_aload (pc := 80) (i := 4) dX8_move_80 (snd_getf (pc := 82) cls2 (f := 1) (by decide) wd_293 dX8_move_82 (snd_iload_n (pc := 85) (i := 2) dX8_move_85 (snd_iald (pc := 86) dX8_move_86 (snd_iconst (pc := 87) dX8_move_87 (snd_icmpne (pc := 88) (off := 7) (tgt := 95) (by decide) dX8_move_88 (snd_iconst (pc := 95) dX8_move_95 (snd_ireturn dX8_move_96)) (snd_iconst (pc := 91) dX8_move_91 (snd_goto (pc := 92) (off := 4) (tgt := 96) (by decide) dX8_move_92 (snd_ireturn dX8_move_96))))))))) (sw_cons (o := 42) (tgt := 97) (by decide) (snd_aload (pc := 97) (i := 4) dX8_move_97 (snd_getf (pc := 99) cls2 (f := 1) (by decide) wd_293 dX8_move_99 (snd_iload_n (pc := 102) (i := 2) dX8_move_102 (snd_iald (pc := 103) dX8_move_103 (snd_ireturn dX8_move_104))))) (sw_cons (o := 50) (tgt := 105) (by decide) (snd_aload (pc := 105) (i := 4) dX8_move_105 (snd_getf (pc := 107) cls2 (f := 2) (by decide) wd_296 dX8_move_107 (snd_iload_n (pc := 110) (i := 2) dX8_move_110 (snd_iald (pc := 111) dX8_move_111 (snd_ireturn dX8_move_112))))) (sw_nil)))))) (snd_bipush (pc := 51) (by decide) dX8_move_51 (snd_ireturn dX8_move_53)))))))) (snd_iload_n (pc := 23) (i := 3) dX8_move_23 (snd_ifne (pc := 24) (off := 11) (tgt := 35) (by decide) dX8_move_24 (snd_bipush (pc := 35) (by decide) dX8_move_35 (snd_ireturn dX8_move_37)) (snd_aload (pc := 27) (i := 4) dX8_move_27 (snd_getf (pc := 29) cls2 (f := 0) (by decide) wd_290 dX8_move_29 (snd_goto (pc := 32) (off := 5) (tgt := 37) (by decide) dX8_move_32 (snd_ireturn dX8_move_37))))))))) (snd_bipush (pc := 15) (by decide) dX8_move_15 (snd_ireturn dX8_move_17)))))))))

/-! LastWalker.count(I)I -/
theorem dX8_count_0 : decode cX8_count 0 = .ok (.iload_n 1, 1) := by decide +kernel
theorem dX8_count_1 : decode cX8_count 1 = .ok (.ifCond .ne 11, 3) := by decide +kernel
theorem dX8_count_4 : decode cX8_count 4 = .ok (.aload_n 0, 1) := by decide +kernel
theorem dX8_count_5 : decode cX8_count 5 = .ok (.getfield 10, 3) := by decide +kernel
theorem dX8_count_8 : decode cX8_count 8 = .ok (.getfield 78, 3) := by decide +kernel
theorem dX8_count_11 : decode cX8_count 11 = .ok (.ireturn, 1) := by decide +kernel
theorem dX8_count_12 : decode cX8_count 12 = .ok (.iload_n 1, 1) := by decide +kernel
theorem dX8_count_13 : decode cX8_count 13 = .ok (.iconst 1, 1) := by decide +kernel
theorem dX8_count_14 : decode cX8_count 14 = .ok (.if_icmp .ne 13, 3) := by decide +kernel
theorem dX8_count_17 : decode cX8_count 17 = .ok (.aload_n 0, 1) := by decide +kernel
theorem dX8_count_18 : decode cX8_count 18 = .ok (.getfield 10, 3) := by decide +kernel
theorem dX8_count_21 : decode cX8_count 21 = .ok (.getfield 112, 3) := by decide +kernel
theorem dX8_count_24 : decode cX8_count 24 = .ok (.goto 5, 3) := by decide +kernel
theorem dX8_count_27 : decode cX8_count 27 = .ok (.bipush (-2), 2) := by decide +kernel
theorem dX8_count_29 : decode cX8_count 29 = .ok (.ireturn, 1) := by decide +kernel
noncomputable def k_X8_count (F : Nat) : AK := ak_iload 1 (ak_ifeq (ak_aload 0 (ak_getf 8 0 (ak_getf 0 5 ak_ireturn))) (ak_iload 1 (ak_push (vI 1) (ak_cmpeq (ak_aload 0 (ak_getf 8 0 (ak_getf 0 7 ak_ireturn))) (ak_push (vI (-2)) ak_ireturn)))))
noncomputable def m_X8_count (F : Nat) : AF := mkF 1 2 (k_X8_count F)
set_option maxRecDepth 20000 in
theorem s_X8_count (F : Nat) : MA yX8_count cX8_count 2 (some .int) 0 (m_X8_count F) := met_of (Or.inr (Or.inl ⟨rfl, rfl⟩)) (by decide) (by
  unfold k_X8_count
  exact snd_iload_n (pc := 0) (i := 1) dX8_count_0 (snd_ifne (pc := 1) (off := 11) (tgt := 12) (by decide) dX8_count_1 (snd_iload_n (pc := 12) (i := 1) dX8_count_12 (snd_iconst (pc := 13) dX8_count_13 (snd_icmpne (pc := 14) (off := 13) (tgt := 27) (by decide) dX8_count_14 (snd_bipush (pc := 27) (by decide) dX8_count_27 (snd_ireturn dX8_count_29)) (snd_aload_n (pc := 17) (i := 0) dX8_count_17 (snd_getf (pc := 18) cls8 (f := 0) (by decide) wd_588 dX8_count_18 (snd_getf (pc := 21) cls0 (f := 7) (by decide) wd_319 dX8_count_21 (snd_goto (pc := 24) (off := 5) (tgt := 29) (by decide) dX8_count_24 (snd_ireturn dX8_count_29)))))))) (snd_aload_n (pc := 4) (i := 0) dX8_count_4 (snd_getf (pc := 5) cls8 (f := 0) (by decide) wd_588 dX8_count_5 (snd_getf (pc := 8) cls0 (f := 5) (by decide) wd_315 dX8_count_8 (snd_ireturn dX8_count_11))))))

/-! LastWalker.image(I)Z -/
theorem dX8_image_0 : decode cX8_image 0 = .ok (.iload_n 1, 1) := by decide +kernel
theorem dX8_image_1 : decode cX8_image 1 = .ok (.ifCond .lt 8, 3) := by decide +kernel
theorem dX8_image_4 : decode cX8_image 4 = .ok (.iload_n 1, 1) := by decide +kernel
theorem dX8_image_5 : decode cX8_image 5 = .ok (.iconst 3, 1) := by decide +kernel
theorem dX8_image_6 : decode cX8_image 6 = .ok (.if_icmp .lt 5, 3) := by decide +kernel
theorem dX8_image_9 : decode cX8_image 9 = .ok (.iconst 0, 1) := by decide +kernel
theorem dX8_image_10 : decode cX8_image 10 = .ok (.ireturn, 1) := by decide +kernel
theorem dX8_image_11 : decode cX8_image 11 = .ok (.aload_n 0, 1) := by decide +kernel
theorem dX8_image_12 : decode cX8_image 12 = .ok (.getfield 16, 3) := by decide +kernel
theorem dX8_image_15 : decode cX8_image 15 = .ok (.iload_n 1, 1) := by decide +kernel
theorem dX8_image_16 : decode cX8_image 16 = .ok (.aaload, 1) := by decide +kernel
theorem dX8_image_17 : decode cX8_image 17 = .ok (.aload_n 0, 1) := by decide +kernel
theorem dX8_image_18 : decode cX8_image 18 = .ok (.getfield 10, 3) := by decide +kernel
theorem dX8_image_21 : decode cX8_image 21 = .ok (.invokevirtual 215, 3) := by decide +kernel
theorem dX8_image_24 : decode cX8_image 24 = .ok (.aload_n 0, 1) := by decide +kernel
theorem dX8_image_25 : decode cX8_image 25 = .ok (.getfield 16, 3) := by decide +kernel
theorem dX8_image_28 : decode cX8_image 28 = .ok (.iload_n 1, 1) := by decide +kernel
theorem dX8_image_29 : decode cX8_image 29 = .ok (.aaload, 1) := by decide +kernel
theorem dX8_image_30 : decode cX8_image 30 = .ok (.iconst 1, 1) := by decide +kernel
theorem dX8_image_31 : decode cX8_image 31 = .ok (.putfield 218, 3) := by decide +kernel
theorem dX8_image_34 : decode cX8_image 34 = .ok (.iconst 1, 1) := by decide +kernel
theorem dX8_image_35 : decode cX8_image 35 = .ok (.ireturn, 1) := by decide +kernel
noncomputable def k_X8_image (F : Nat) : AK := ak_iload 1 (ak_iflt (ak_push (vI 0) ak_ireturn) (ak_iload 1 (ak_push (vI 3) (ak_cmplt (ak_aload 0 (ak_getf 8 1 (ak_iload 1 (ak_aald (ak_aload 0 (ak_getf 8 0 (ak_callv 0 1 (m_X0_copyFrom F) (ak_aload 0 (ak_getf 8 1 (ak_iload 1 (ak_aald (ak_push (vI 1) (ak_putz 0 8 (ak_push (vI 1) ak_ireturn)))))))))))))) (ak_push (vI 0) ak_ireturn)))))
noncomputable def m_X8_image (F : Nat) : AF := mkF 2 2 (k_X8_image F)
set_option maxRecDepth 20000 in
theorem s_X8_image (F : Nat) : MA yX8_image cX8_image 2 (some .boolean) 3 (m_X8_image F) := met_of (Or.inr (Or.inr (Or.inl ⟨rfl, rfl⟩))) (by decide) (by
  unfold k_X8_image
  exact snd_iload_n (pc := 0) (i := 1) dX8_image_0 (snd_iflt (pc := 1) (off := 8) (tgt := 9) (by decide) dX8_image_1 (snd_iconst (pc := 9) dX8_image_9 (snd_ireturn dX8_image_10)) (snd_iload_n (pc := 4) (i := 1) dX8_image_4 (snd_iconst (pc := 5) dX8_image_5 (snd_icmplt (pc := 6) (off := 5) (tgt := 11) (by decide) dX8_image_6 (snd_aload_n (pc := 11) (i := 0) dX8_image_11 (snd_getf (pc := 12) cls8 (f := 1) (by decide) wd_589 dX8_image_12 (snd_iload_n (pc := 15) (i := 1) dX8_image_15 (snd_aald (pc := 16) dX8_image_16 (snd_aload_n (pc := 17) (i := 0) dX8_image_17 (snd_getf (pc := 18) cls8 (f := 0) (by decide) wd_588 dX8_image_18 (snd_callV (pc := 21) (n := 1) cls0 (s_X0_copyFrom F) (by decide) (by decide) wd_882 wd_879 wd_880 wd_881 wd_121 hy_X0_copyFrom dX8_image_21 (snd_aload_n (pc := 24) (i := 0) dX8_image_24 (snd_getf (pc := 25) cls8 (f := 1) (by decide) wd_589 dX8_image_25 (snd_iload_n (pc := 28) (i := 1) dX8_image_28 (snd_aald (pc := 29) dX8_image_29 (snd_iconst (pc := 30) dX8_image_30 (snd_putz (pc := 31) cls0 (f := 8) (by decide) rfl rfl rfl wd_320 dX8_image_31 (snd_iconst (pc := 34) dX8_image_34 (snd_ireturn dX8_image_35))))))))))))))) (snd_iconst (pc := 9) dX8_image_9 (snd_ireturn dX8_image_10)))))))

/-! LastWalker.again(I)Z -/
theorem dX8_again_0 : decode cX8_again 0 = .ok (.iload_n 1, 1) := by decide +kernel
theorem dX8_again_1 : decode cX8_again 1 = .ok (.ifCond .lt 20, 3) := by decide +kernel
theorem dX8_again_4 : decode cX8_again 4 = .ok (.iload_n 1, 1) := by decide +kernel
theorem dX8_again_5 : decode cX8_again 5 = .ok (.iconst 3, 1) := by decide +kernel
theorem dX8_again_6 : decode cX8_again 6 = .ok (.if_icmp .ge 15, 3) := by decide +kernel
theorem dX8_again_9 : decode cX8_again 9 = .ok (.aload_n 0, 1) := by decide +kernel
theorem dX8_again_10 : decode cX8_again 10 = .ok (.getfield 16, 3) := by decide +kernel
theorem dX8_again_13 : decode cX8_again 13 = .ok (.iload_n 1, 1) := by decide +kernel
theorem dX8_again_14 : decode cX8_again 14 = .ok (.aaload, 1) := by decide +kernel
theorem dX8_again_15 : decode cX8_again 15 = .ok (.getfield 218, 3) := by decide +kernel
theorem dX8_again_18 : decode cX8_again 18 = .ok (.ifCond .ne 5, 3) := by decide +kernel
theorem dX8_again_21 : decode cX8_again 21 = .ok (.iconst 0, 1) := by decide +kernel
theorem dX8_again_22 : decode cX8_again 22 = .ok (.ireturn, 1) := by decide +kernel
theorem dX8_again_23 : decode cX8_again 23 = .ok (.aload_n 0, 1) := by decide +kernel
theorem dX8_again_24 : decode cX8_again 24 = .ok (.getfield 10, 3) := by decide +kernel
theorem dX8_again_27 : decode cX8_again 27 = .ok (.aload_n 0, 1) := by decide +kernel
theorem dX8_again_28 : decode cX8_again 28 = .ok (.getfield 16, 3) := by decide +kernel
theorem dX8_again_31 : decode cX8_again 31 = .ok (.iload_n 1, 1) := by decide +kernel
theorem dX8_again_32 : decode cX8_again 32 = .ok (.aaload, 1) := by decide +kernel
theorem dX8_again_33 : decode cX8_again 33 = .ok (.invokevirtual 215, 3) := by decide +kernel
theorem dX8_again_36 : decode cX8_again 36 = .ok (.iconst 1, 1) := by decide +kernel
theorem dX8_again_37 : decode cX8_again 37 = .ok (.ireturn, 1) := by decide +kernel
noncomputable def k_X8_again (F : Nat) : AK := ak_iload 1 (ak_iflt (ak_push (vI 0) ak_ireturn) (ak_iload 1 (ak_push (vI 3) (ak_cmplt (ak_aload 0 (ak_getf 8 1 (ak_iload 1 (ak_aald (ak_getf 0 8 (ak_ifeq (ak_push (vI 0) ak_ireturn) (ak_aload 0 (ak_getf 8 0 (ak_aload 0 (ak_getf 8 1 (ak_iload 1 (ak_aald (ak_callv 0 1 (m_X0_copyFrom F) (ak_push (vI 1) ak_ireturn)))))))))))))) (ak_push (vI 0) ak_ireturn)))))
noncomputable def m_X8_again (F : Nat) : AF := mkF 2 2 (k_X8_again F)
set_option maxRecDepth 20000 in
theorem s_X8_again (F : Nat) : MA yX8_again cX8_again 2 (some .boolean) 3 (m_X8_again F) := met_of (Or.inr (Or.inr (Or.inl ⟨rfl, rfl⟩))) (by decide) (by
  unfold k_X8_again
  exact snd_iload_n (pc := 0) (i := 1) dX8_again_0 (snd_iflt (pc := 1) (off := 20) (tgt := 21) (by decide) dX8_again_1 (snd_iconst (pc := 21) dX8_again_21 (snd_ireturn dX8_again_22)) (snd_iload_n (pc := 4) (i := 1) dX8_again_4 (snd_iconst (pc := 5) dX8_again_5 (snd_icmpge (pc := 6) (off := 15) (tgt := 21) (by decide) dX8_again_6 (snd_iconst (pc := 21) dX8_again_21 (snd_ireturn dX8_again_22)) (snd_aload_n (pc := 9) (i := 0) dX8_again_9 (snd_getf (pc := 10) cls8 (f := 1) (by decide) wd_589 dX8_again_10 (snd_iload_n (pc := 13) (i := 1) dX8_again_13 (snd_aald (pc := 14) dX8_again_14 (snd_getf (pc := 15) cls0 (f := 8) (by decide) wd_320 dX8_again_15 (snd_ifne (pc := 18) (off := 5) (tgt := 23) (by decide) dX8_again_18 (snd_aload_n (pc := 23) (i := 0) dX8_again_23 (snd_getf (pc := 24) cls8 (f := 0) (by decide) wd_588 dX8_again_24 (snd_aload_n (pc := 27) (i := 0) dX8_again_27 (snd_getf (pc := 28) cls8 (f := 1) (by decide) wd_589 dX8_again_28 (snd_iload_n (pc := 31) (i := 1) dX8_again_31 (snd_aald (pc := 32) dX8_again_32 (snd_callV (pc := 33) (n := 1) cls0 (s_X0_copyFrom F) (by decide) (by decide) wd_882 wd_879 wd_880 wd_881 wd_121 hy_X0_copyFrom dX8_again_33 (snd_iconst (pc := 36) dX8_again_36 (snd_ireturn dX8_again_37))))))))) (snd_iconst (pc := 21) dX8_again_21 (snd_ireturn dX8_again_22)))))))))))))

/-! LastWalker.run(III)I -/
theorem dX8_run_0 : decode cX8_run 0 = .ok (.aload_n 0, 1) := by decide +kernel
theorem dX8_run_1 : decode cX8_run 1 = .ok (.getfield 10, 3) := by decide +kernel
theorem dX8_run_4 : decode cX8_run 4 = .ok (.iload_n 1, 1) := by decide +kernel
theorem dX8_run_5 : decode cX8_run 5 = .ok (.invokevirtual 132, 3) := by decide +kernel
theorem dX8_run_8 : decode cX8_run 8 = .ok (.astore 4, 2) := by decide +kernel
theorem dX8_run_10 : decode cX8_run 10 = .ok (.aload_n 0, 1) := by decide +kernel
theorem dX8_run_11 : decode cX8_run 11 = .ok (.getfield 10, 3) := by decide +kernel
theorem dX8_run_14 : decode cX8_run 14 = .ok (.iload_n 2, 1) := by decide +kernel
theorem dX8_run_15 : decode cX8_run 15 = .ok (.invokevirtual 204, 3) := by decide +kernel
theorem dX8_run_18 : decode cX8_run 18 = .ok (.astore 5, 2) := by decide +kernel
theorem dX8_run_20 : decode cX8_run 20 = .ok (.aload 4, 2) := by decide +kernel
theorem dX8_run_22 : decode cX8_run 22 = .ok (.ifnull 8, 3) := by decide +kernel
theorem dX8_run_25 : decode cX8_run 25 = .ok (.aload 5, 2) := by decide +kernel
theorem dX8_run_27 : decode cX8_run 27 = .ok (.ifnonnull 5, 3) := by decide +kernel
theorem dX8_run_30 : decode cX8_run 30 = .ok (.iconst (-1), 1) := by decide +kernel
theorem dX8_run_31 : decode cX8_run 31 = .ok (.ireturn, 1) := by decide +kernel
theorem dX8_run_32 : decode cX8_run 32 = .ok (.aload_n 0, 1) := by decide +kernel
theorem dX8_run_33 : decode cX8_run 33 = .ok (.getfield 30, 3) := by decide +kernel
theorem dX8_run_36 : decode cX8_run 36 = .ok (.aload 4, 2) := by decide +kernel
theorem dX8_run_38 : decode cX8_run 38 = .ok (.aload 5, 2) := by decide +kernel
theorem dX8_run_40 : decode cX8_run 40 = .ok (.aload 5, 2) := by decide +kernel
theorem dX8_run_42 : decode cX8_run 42 = .ok (.getfield 208, 3) := by decide +kernel
theorem dX8_run_45 : decode cX8_run 45 = .ok (.invokevirtual 222, 3) := by decide +kernel
theorem dX8_run_48 : decode cX8_run 48 = .ok (.istore 6, 2) := by decide +kernel
theorem dX8_run_50 : decode cX8_run 50 = .ok (.iload_n 3, 1) := by decide +kernel
theorem dX8_run_51 : decode cX8_run 51 = .ok (.ifCond .ne 6, 3) := by decide +kernel
theorem dX8_run_54 : decode cX8_run 54 = .ok (.iload 6, 2) := by decide +kernel
theorem dX8_run_56 : decode cX8_run 56 = .ok (.ireturn, 1) := by decide +kernel
theorem dX8_run_57 : decode cX8_run 57 = .ok (.iload_n 3, 1) := by decide +kernel
theorem dX8_run_58 : decode cX8_run 58 = .ok (.iconst 1, 1) := by decide +kernel
theorem dX8_run_59 : decode cX8_run 59 = .ok (.if_icmp .ne 13, 3) := by decide +kernel
theorem dX8_run_62 : decode cX8_run 62 = .ok (.aload_n 0, 1) := by decide +kernel
theorem dX8_run_63 : decode cX8_run 63 = .ok (.getfield 30, 3) := by decide +kernel
theorem dX8_run_66 : decode cX8_run 66 = .ok (.getfield 226, 3) := by decide +kernel
theorem dX8_run_69 : decode cX8_run 69 = .ok (.goto 4, 3) := by decide +kernel
theorem dX8_run_72 : decode cX8_run 72 = .ok (.iconst (-1), 1) := by decide +kernel
theorem dX8_run_73 : decode cX8_run 73 = .ok (.ireturn, 1) := by decide +kernel
noncomputable def k_X8_run (F : Nat) : AK := ak_aload 0 (ak_getf 8 0 (ak_iload 1 (ak_callv 0 1 (m_X0_townAt F) (ak_astore 4 (ak_aload 0 (ak_getf 8 0 (ak_iload 2 (ak_callv 0 1 (m_X0_dayAt F) (ak_astore 5 (ak_aload 4 (ak_ifnull (ak_push (vI (-1)) ak_ireturn) (ak_aload 5 (ak_ifnull (ak_push (vI (-1)) ak_ireturn) (ak_aload 0 (ak_getf 8 3 (ak_aload 4 (ak_aload 5 (ak_aload 5 (ak_getf 2 0 (ak_callv 6 3 (m_X6_play F) (ak_istore 6 (ak_iload 3 (ak_ifeq (ak_iload 6 ak_ireturn) (ak_iload 3 (ak_push (vI 1) (ak_cmpeq (ak_aload 0 (ak_getf 8 3 (ak_getf 6 2 ak_ireturn))) (ak_push (vI (-1)) ak_ireturn)))))))))))))))))))))))))))
noncomputable def m_X8_run (F : Nat) : AF := mkF 1 7 (k_X8_run F)
set_option maxRecDepth 20000 in
theorem s_X8_run (F : Nat) : MA yX8_run cX8_run 7 (some .int) 3 (m_X8_run F) := met_of (Or.inr (Or.inl ⟨rfl, rfl⟩)) (by decide) (by
  unfold k_X8_run
  exact snd_aload_n (pc := 0) (i := 0) dX8_run_0 (snd_getf (pc := 1) cls8 (f := 0) (by decide) wd_588 dX8_run_1 (snd_iload_n (pc := 4) (i := 1) dX8_run_4 (snd_callV (pc := 5) (n := 1) cls0 (s_X0_townAt F) (by decide) (by decide) wd_838 wd_835 wd_836 wd_837 wd_121 hy_X0_townAt dX8_run_5 (snd_astore (pc := 8) (i := 4) (by decide) dX8_run_8 (snd_aload_n (pc := 10) (i := 0) dX8_run_10 (snd_getf (pc := 11) cls8 (f := 0) (by decide) wd_588 dX8_run_11 (snd_iload_n (pc := 14) (i := 2) dX8_run_14 (snd_callV (pc := 15) (n := 1) cls0 (s_X0_dayAt F) (by decide) (by decide) wd_870 wd_867 wd_868 wd_869 wd_121 hy_X0_dayAt dX8_run_15 (snd_astore (pc := 18) (i := 5) (by decide) dX8_run_18 (snd_aload (pc := 20) (i := 4) dX8_run_20 (snd_ifnull (pc := 22) (off := 8) (tgt := 30) (by decide) dX8_run_22 (snd_iconst (pc := 30) dX8_run_30 (snd_ireturn dX8_run_31)) (snd_aload (pc := 25) (i := 5) dX8_run_25 (snd_ifnonnull (pc := 27) (off := 5) (tgt := 32) (by decide) dX8_run_27 (snd_aload_n (pc := 32) (i := 0) dX8_run_32 (snd_getf (pc := 33) cls8 (f := 3) (by decide) wd_591 dX8_run_33 (snd_aload (pc := 36) (i := 4) dX8_run_36 (snd_aload (pc := 38) (i := 5) dX8_run_38 (snd_aload (pc := 40) (i := 5) dX8_run_40 (snd_getf (pc := 42) cls2 (f := 0) (by decide) wd_290 dX8_run_42 (snd_callV (pc := 45) (n := 3) cls6 (s_X6_play F) (by decide) (by decide) wd_897 wd_894 wd_895 wd_896 wd_125 hy_X6_play dX8_run_45 (snd_istore (pc := 48) (i := 6) (by decide) dX8_run_48 (snd_iload_n (pc := 50) (i := 3) dX8_run_50 (snd_ifne (pc := 51) (off := 6) (tgt := 57) (by decide) dX8_run_51 (snd_iload_n (pc := 57) (i := 3) dX8_run_57 (snd_iconst (pc := 58) dX8_run_58 (snd_icmpne (pc := 59) (off := 13) (tgt := 72) (by decide) dX8_run_59 (snd_iconst (pc := 72) dX8_run_72 (snd_ireturn dX8_run_73)) (snd_aload_n (pc := 62) (i := 0) dX8_run_62 (snd_getf (pc := 63) cls8 (f := 3) (by decide) wd_591 dX8_run_63 (snd_getf (pc := 66) cls6 (f := 2) (by decide) wd_406 dX8_run_66 (snd_goto (pc := 69) (off := 4) (tgt := 73) (by decide) dX8_run_69 (snd_ireturn dX8_run_73)))))))) (snd_iload (pc := 54) (i := 6) dX8_run_54 (snd_ireturn dX8_run_56)))))))))))) (snd_iconst (pc := 30) dX8_run_30 (snd_ireturn dX8_run_31))))))))))))))))

/-! LastWalker.townOfState(III)LLastWalker$Town; -/
theorem dX8_townOfState_0 : decode cX8_townOfState 0 = .ok (.aload_n 0, 1) := by decide +kernel
theorem dX8_townOfState_1 : decode cX8_townOfState 1 = .ok (.getfield 10, 3) := by decide +kernel
theorem dX8_townOfState_4 : decode cX8_townOfState 4 = .ok (.iload_n 1, 1) := by decide +kernel
theorem dX8_townOfState_5 : decode cX8_townOfState 5 = .ok (.invokevirtual 132, 3) := by decide +kernel
theorem dX8_townOfState_8 : decode cX8_townOfState 8 = .ok (.astore 4, 2) := by decide +kernel
theorem dX8_townOfState_10 : decode cX8_townOfState 10 = .ok (.aload 4, 2) := by decide +kernel
theorem dX8_townOfState_12 : decode cX8_townOfState 12 = .ok (.ifnull 7, 3) := by decide +kernel
theorem dX8_townOfState_15 : decode cX8_townOfState 15 = .ok (.iload_n 3, 1) := by decide +kernel
theorem dX8_townOfState_16 : decode cX8_townOfState 16 = .ok (.ifCond .ge 5, 3) := by decide +kernel
theorem dX8_townOfState_19 : decode cX8_townOfState 19 = .ok (.aconst_null, 1) := by decide +kernel
theorem dX8_townOfState_20 : decode cX8_townOfState 20 = .ok (.areturn, 1) := by decide +kernel
theorem dX8_townOfState_21 : decode cX8_townOfState 21 = .ok (.iload_n 2, 1) := by decide +kernel
theorem dX8_townOfState_22 : decode cX8_townOfState 22 = .ok (.iconst (-1), 1) := by decide +kernel
theorem dX8_townOfState_23 : decode cX8_townOfState 23 = .ok (.if_icmp .ne 23, 3) := by decide +kernel
theorem dX8_townOfState_26 : decode cX8_townOfState 26 = .ok (.aload_n 0, 1) := by decide +kernel
theorem dX8_townOfState_27 : decode cX8_townOfState 27 = .ok (.getfield 30, 3) := by decide +kernel
theorem dX8_townOfState_30 : decode cX8_townOfState 30 = .ok (.aload 4, 2) := by decide +kernel
theorem dX8_townOfState_32 : decode cX8_townOfState 32 = .ok (.invokevirtual 229, 3) := by decide +kernel
theorem dX8_townOfState_35 : decode cX8_townOfState 35 = .ok (.iload_n 3, 1) := by decide +kernel
theorem dX8_townOfState_36 : decode cX8_townOfState 36 = .ok (.ifCond .ne 8, 3) := by decide +kernel
theorem dX8_townOfState_39 : decode cX8_townOfState 39 = .ok (.aload 4, 2) := by decide +kernel
theorem dX8_townOfState_41 : decode cX8_townOfState 41 = .ok (.goto 4, 3) := by decide +kernel
theorem dX8_townOfState_44 : decode cX8_townOfState 44 = .ok (.aconst_null, 1) := by decide +kernel
theorem dX8_townOfState_45 : decode cX8_townOfState 45 = .ok (.areturn, 1) := by decide +kernel
theorem dX8_townOfState_46 : decode cX8_townOfState 46 = .ok (.aload_n 0, 1) := by decide +kernel
theorem dX8_townOfState_47 : decode cX8_townOfState 47 = .ok (.getfield 10, 3) := by decide +kernel
theorem dX8_townOfState_50 : decode cX8_townOfState 50 = .ok (.iload_n 2, 1) := by decide +kernel
theorem dX8_townOfState_51 : decode cX8_townOfState 51 = .ok (.invokevirtual 204, 3) := by decide +kernel
theorem dX8_townOfState_54 : decode cX8_townOfState 54 = .ok (.astore 5, 2) := by decide +kernel
theorem dX8_townOfState_56 : decode cX8_townOfState 56 = .ok (.aload 5, 2) := by decide +kernel
theorem dX8_townOfState_58 : decode cX8_townOfState 58 = .ok (.ifnull 12, 3) := by decide +kernel
theorem dX8_townOfState_61 : decode cX8_townOfState 61 = .ok (.iload_n 3, 1) := by decide +kernel
theorem dX8_townOfState_62 : decode cX8_townOfState 62 = .ok (.aload 5, 2) := by decide +kernel
theorem dX8_townOfState_64 : decode cX8_townOfState 64 = .ok (.getfield 208, 3) := by decide +kernel
theorem dX8_townOfState_67 : decode cX8_townOfState 67 = .ok (.if_icmp .le 5, 3) := by decide +kernel
theorem dX8_townOfState_70 : decode cX8_townOfState 70 = .ok (.aconst_null, 1) := by decide +kernel
theorem dX8_townOfState_71 : decode cX8_townOfState 71 = .ok (.areturn, 1) := by decide +kernel
theorem dX8_townOfState_72 : decode cX8_townOfState 72 = .ok (.aload_n 0, 1) := by decide +kernel
theorem dX8_townOfState_73 : decode cX8_townOfState 73 = .ok (.getfield 30, 3) := by decide +kernel
theorem dX8_townOfState_76 : decode cX8_townOfState 76 = .ok (.aload 4, 2) := by decide +kernel
theorem dX8_townOfState_78 : decode cX8_townOfState 78 = .ok (.aload 5, 2) := by decide +kernel
theorem dX8_townOfState_80 : decode cX8_townOfState 80 = .ok (.iload_n 3, 1) := by decide +kernel
theorem dX8_townOfState_81 : decode cX8_townOfState 81 = .ok (.invokevirtual 222, 3) := by decide +kernel
theorem dX8_townOfState_84 : decode cX8_townOfState 84 = .ok (.iload_n 3, 1) := by decide +kernel
theorem dX8_townOfState_85 : decode cX8_townOfState 85 = .ok (.if_icmp .ne 8, 3) := by decide +kernel
theorem dX8_townOfState_88 : decode cX8_townOfState 88 = .ok (.aload 4, 2) := by decide +kernel
theorem dX8_townOfState_90 : decode cX8_townOfState 90 = .ok (.goto 4, 3) := by decide +kernel
theorem dX8_townOfState_93 : decode cX8_townOfState 93 = .ok (.aconst_null, 1) := by decide +kernel
theorem dX8_townOfState_94 : decode cX8_townOfState 94 = .ok (.areturn, 1) := by decide +kernel
noncomputable def k_X8_townOfState (F : Nat) : AK := ak_aload 0 (ak_getf 8 0 (ak_iload 1 (ak_callv 0 1 (m_X0_townAt F) (ak_astore 4 (ak_aload 4 (ak_ifnull (ak_push vN ak_areturn) (ak_iload 3 (ak_iflt (ak_push vN ak_areturn) (ak_iload 2 (ak_push (vI (-1)) (ak_cmpeq (ak_aload 0 (ak_getf 8 3 (ak_aload 4 (ak_callv 6 1 (m_X6_begin F) (ak_iload 3 (ak_ifeq (ak_aload 4 ak_areturn) (ak_push vN ak_areturn))))))) (ak_aload 0 (ak_getf 8 0 (ak_iload 2 (ak_callv 0 1 (m_X0_dayAt F) (ak_astore 5 (ak_aload 5 (ak_ifnull (ak_push vN ak_areturn) (ak_iload 3 (ak_aload 5 (ak_getf 2 0 (ak_cmpgt (ak_push vN ak_areturn) (ak_aload 0 (ak_getf 8 3 (ak_aload 4 (ak_aload 5 (ak_iload 3 (ak_callv 6 3 (m_X6_play F) (ak_iload 3 (ak_cmpeq (ak_aload 4 ak_areturn) (ak_push vN ak_areturn)))))))))))))))))))))))))))))))
noncomputable def m_X8_townOfState (F : Nat) : AF := mkF 5 6 (k_X8_townOfState F)
set_option maxRecDepth 20000 in
theorem s_X8_townOfState (F : Nat) : MA yX8_townOfState cX8_townOfState 6 (some (.object "LastWalker$Town")) 3 (m_X8_townOfState F) := met_of (Or.inr (Or.inr (Or.inr (Or.inr (Or.inr ⟨rfl, Or.inl ⟨_, rfl⟩⟩))))) (by decide) (by
  unfold k_X8_townOfState
  exact snd_aload_n (pc := 0) (i := 0) dX8_townOfState_0 (snd_getf (pc := 1) cls8 (f := 0) (by decide) wd_588 dX8_townOfState_1 (snd_iload_n (pc := 4) (i := 1) dX8_townOfState_4 (snd_callV (pc := 5) (n := 1) cls0 (s_X0_townAt F) (by decide) (by decide) wd_838 wd_835 wd_836 wd_837 wd_121 hy_X0_townAt dX8_townOfState_5 (snd_astore (pc := 8) (i := 4) (by decide) dX8_townOfState_8 (snd_aload (pc := 10) (i := 4) dX8_townOfState_10 (snd_ifnull (pc := 12) (off := 7) (tgt := 19) (by decide) dX8_townOfState_12 (snd_null (pc := 19) dX8_townOfState_19 (snd_areturn dX8_townOfState_20)) (snd_iload_n (pc := 15) (i := 3) dX8_townOfState_15 (snd_ifge (pc := 16) (off := 5) (tgt := 21) (by decide) dX8_townOfState_16 (snd_iload_n (pc := 21) (i := 2) dX8_townOfState_21 (snd_iconst (pc := 22) dX8_townOfState_22 (snd_icmpne (pc := 23) (off := 23) (tgt := 46) (by decide) dX8_townOfState_23 (snd_aload_n (pc := 46) (i := 0) dX8_townOfState_46 (snd_getf (pc := 47) cls8 (f := 0) (by decide) wd_588 dX8_townOfState_47 (snd_iload_n (pc := 50) (i := 2) dX8_townOfState_50 (snd_callV (pc := 51) (n := 1) cls0 (s_X0_dayAt F) (by decide) (by decide) wd_870 wd_867 wd_868 wd_869 wd_121 hy_X0_dayAt dX8_townOfState_51 (snd_astore (pc := 54) (i := 5) (by decide) dX8_townOfState_54 (snd_aload (pc := 56) (i := 5) dX8_townOfState_56 (snd_ifnull (pc := 58) (off := 12) (tgt := 70) (by decide) dX8_townOfState_58 (snd_null (pc := 70) dX8_townOfState_70 (snd_areturn dX8_townOfState_71)) (snd_iload_n (pc := 61) (i := 3) dX8_townOfState_61 (snd_aload (pc := 62) (i := 5) dX8_townOfState_62 (snd_getf (pc := 64) cls2 (f := 0) (by decide) wd_290 dX8_townOfState_64 (snd_icmple (pc := 67) (off := 5) (tgt := 72) (by decide) dX8_townOfState_67 (snd_aload_n (pc := 72) (i := 0) dX8_townOfState_72 (snd_getf (pc := 73) cls8 (f := 3) (by decide) wd_591 dX8_townOfState_73 (snd_aload (pc := 76) (i := 4) dX8_townOfState_76 (snd_aload (pc := 78) (i := 5) dX8_townOfState_78 (snd_iload_n (pc := 80) (i := 3) dX8_townOfState_80 (snd_callV (pc := 81) (n := 3) cls6 (s_X6_play F) (by decide) (by decide) wd_897 wd_894 wd_895 wd_896 wd_125 hy_X6_play dX8_townOfState_81 (snd_iload_n (pc := 84) (i := 3) dX8_townOfState_84 (snd_icmpne (pc := 85) (off := 8) (tgt := 93) (by decide) dX8_townOfState_85 (snd_null (pc := 93) dX8_townOfState_93 (snd_areturn dX8_townOfState_94)) (snd_aload (pc := 88) (i := 4) dX8_townOfState_88 (snd_goto (pc := 90) (off := 4) (tgt := 94) (by decide) dX8_townOfState_90 (snd_areturn dX8_townOfState_94))))))))))) (snd_null (pc := 70) dX8_townOfState_70 (snd_areturn dX8_townOfState_71))))))))))))) (snd_aload_n (pc := 26) (i := 0) dX8_townOfState_26 (snd_getf (pc := 27) cls8 (f := 3) (by decide) wd_591 dX8_townOfState_27 (snd_aload (pc := 30) (i := 4) dX8_townOfState_30 (snd_callV (pc := 32) (n := 1) cls6 (s_X6_begin F) (by decide) (by decide) wd_901 wd_939 wd_899 wd_900 wd_125 hy_X6_begin dX8_townOfState_32 (snd_iload_n (pc := 35) (i := 3) dX8_townOfState_35 (snd_ifne (pc := 36) (off := 8) (tgt := 44) (by decide) dX8_townOfState_36 (snd_null (pc := 44) dX8_townOfState_44 (snd_areturn dX8_townOfState_45)) (snd_aload (pc := 39) (i := 4) dX8_townOfState_39 (snd_goto (pc := 41) (off := 4) (tgt := 45) (by decide) dX8_townOfState_41 (snd_areturn dX8_townOfState_45)))))))))))) (snd_null (pc := 19) dX8_townOfState_19 (snd_areturn dX8_townOfState_20)))))))))))

/-! LastWalker.state(IIII)I -/
theorem dX8_state_0 : decode cX8_state 0 = .ok (.aload_n 0, 1) := by decide +kernel
theorem dX8_state_1 : decode cX8_state 1 = .ok (.iload_n 1, 1) := by decide +kernel
theorem dX8_state_2 : decode cX8_state 2 = .ok (.iload_n 2, 1) := by decide +kernel
theorem dX8_state_3 : decode cX8_state 3 = .ok (.iload_n 3, 1) := by decide +kernel
theorem dX8_state_4 : decode cX8_state 4 = .ok (.invokevirtual 232, 3) := by decide +kernel
theorem dX8_state_7 : decode cX8_state 7 = .ok (.astore 5, 2) := by decide +kernel
theorem dX8_state_9 : decode cX8_state 9 = .ok (.aload 5, 2) := by decide +kernel
theorem dX8_state_11 : decode cX8_state 11 = .ok (.ifnonnull 6, 3) := by decide +kernel
theorem dX8_state_14 : decode cX8_state 14 = .ok (.bipush (-2), 2) := by decide +kernel
theorem dX8_state_16 : decode cX8_state 16 = .ok (.ireturn, 1) := by decide +kernel
theorem dX8_state_17 : decode cX8_state 17 = .ok (.iload 4, 2) := by decide +kernel
theorem dX8_state_19 : decode cX8_state 19 = .ok (.ifCond .ne 11, 3) := by decide +kernel
theorem dX8_state_22 : decode cX8_state 22 = .ok (.aload_n 0, 1) := by decide +kernel
theorem dX8_state_23 : decode cX8_state 23 = .ok (.getfield 30, 3) := by decide +kernel
theorem dX8_state_26 : decode cX8_state 26 = .ok (.getfield 236, 3) := by decide +kernel
theorem dX8_state_29 : decode cX8_state 29 = .ok (.ireturn, 1) := by decide +kernel
theorem dX8_state_30 : decode cX8_state 30 = .ok (.iload 4, 2) := by decide +kernel
theorem dX8_state_32 : decode cX8_state 32 = .ok (.iconst 1, 1) := by decide +kernel
theorem dX8_state_33 : decode cX8_state 33 = .ok (.if_icmp .ne 11, 3) := by decide +kernel
theorem dX8_state_36 : decode cX8_state 36 = .ok (.aload_n 0, 1) := by decide +kernel
theorem dX8_state_37 : decode cX8_state 37 = .ok (.getfield 30, 3) := by decide +kernel
theorem dX8_state_40 : decode cX8_state 40 = .ok (.getfield 239, 3) := by decide +kernel
theorem dX8_state_43 : decode cX8_state 43 = .ok (.ireturn, 1) := by decide +kernel
theorem dX8_state_44 : decode cX8_state 44 = .ok (.iload 4, 2) := by decide +kernel
theorem dX8_state_46 : decode cX8_state 46 = .ok (.bipush 10, 2) := by decide +kernel
theorem dX8_state_48 : decode cX8_state 48 = .ok (.if_icmp .lt 30, 3) := by decide +kernel
theorem dX8_state_51 : decode cX8_state 51 = .ok (.iload 4, 2) := by decide +kernel
theorem dX8_state_53 : decode cX8_state 53 = .ok (.bipush 10, 2) := by decide +kernel
theorem dX8_state_55 : decode cX8_state 55 = .ok (.aload 5, 2) := by decide +kernel
theorem dX8_state_57 : decode cX8_state 57 = .ok (.getfield 139, 3) := by decide +kernel
theorem dX8_state_60 : decode cX8_state 60 = .ok (.iadd, 1) := by decide +kernel
theorem dX8_state_61 : decode cX8_state 61 = .ok (.if_icmp .ge 17, 3) := by decide +kernel
theorem dX8_state_64 : decode cX8_state 64 = .ok (.aload_n 0, 1) := by decide +kernel
theorem dX8_state_65 : decode cX8_state 65 = .ok (.getfield 30, 3) := by decide +kernel
theorem dX8_state_68 : decode cX8_state 68 = .ok (.getfield 242, 3) := by decide +kernel
theorem dX8_state_71 : decode cX8_state 71 = .ok (.iload 4, 2) := by decide +kernel
theorem dX8_state_73 : decode cX8_state 73 = .ok (.bipush 10, 2) := by decide +kernel
theorem dX8_state_75 : decode cX8_state 75 = .ok (.isub, 1) := by decide +kernel
theorem dX8_state_76 : decode cX8_state 76 = .ok (.iaload, 1) := by decide +kernel
theorem dX8_state_77 : decode cX8_state 77 = .ok (.ireturn, 1) := by decide +kernel
theorem dX8_state_78 : decode cX8_state 78 = .ok (.iload 4, 2) := by decide +kernel
theorem dX8_state_80 : decode cX8_state 80 = .ok (.bipush 30, 2) := by decide +kernel
theorem dX8_state_82 : decode cX8_state 82 = .ok (.if_icmp .lt 30, 3) := by decide +kernel
theorem dX8_state_85 : decode cX8_state 85 = .ok (.iload 4, 2) := by decide +kernel
theorem dX8_state_87 : decode cX8_state 87 = .ok (.bipush 30, 2) := by decide +kernel
theorem dX8_state_89 : decode cX8_state 89 = .ok (.aload 5, 2) := by decide +kernel
theorem dX8_state_91 : decode cX8_state 91 = .ok (.getfield 142, 3) := by decide +kernel
theorem dX8_state_94 : decode cX8_state 94 = .ok (.iadd, 1) := by decide +kernel
theorem dX8_state_95 : decode cX8_state 95 = .ok (.if_icmp .ge 17, 3) := by decide +kernel
theorem dX8_state_98 : decode cX8_state 98 = .ok (.aload_n 0, 1) := by decide +kernel
theorem dX8_state_99 : decode cX8_state 99 = .ok (.getfield 30, 3) := by decide +kernel
theorem dX8_state_102 : decode cX8_state 102 = .ok (.getfield 245, 3) := by decide +kernel
theorem dX8_state_105 : decode cX8_state 105 = .ok (.iload 4, 2) := by decide +kernel
theorem dX8_state_107 : decode cX8_state 107 = .ok (.bipush 30, 2) := by decide +kernel
theorem dX8_state_109 : decode cX8_state 109 = .ok (.isub, 1) := by decide +kernel
theorem dX8_state_110 : decode cX8_state 110 = .ok (.iaload, 1) := by decide +kernel
theorem dX8_state_111 : decode cX8_state 111 = .ok (.ireturn, 1) := by decide +kernel
theorem dX8_state_112 : decode cX8_state 112 = .ok (.iload 4, 2) := by decide +kernel
theorem dX8_state_114 : decode cX8_state 114 = .ok (.bipush 40, 2) := by decide +kernel
theorem dX8_state_116 : decode cX8_state 116 = .ok (.if_icmp .lt 30, 3) := by decide +kernel
theorem dX8_state_119 : decode cX8_state 119 = .ok (.iload 4, 2) := by decide +kernel
theorem dX8_state_121 : decode cX8_state 121 = .ok (.bipush 40, 2) := by decide +kernel
theorem dX8_state_123 : decode cX8_state 123 = .ok (.aload 5, 2) := by decide +kernel
theorem dX8_state_125 : decode cX8_state 125 = .ok (.getfield 142, 3) := by decide +kernel
theorem dX8_state_128 : decode cX8_state 128 = .ok (.iadd, 1) := by decide +kernel
theorem dX8_state_129 : decode cX8_state 129 = .ok (.if_icmp .ge 17, 3) := by decide +kernel
theorem dX8_state_132 : decode cX8_state 132 = .ok (.aload_n 0, 1) := by decide +kernel
theorem dX8_state_133 : decode cX8_state 133 = .ok (.getfield 30, 3) := by decide +kernel
theorem dX8_state_136 : decode cX8_state 136 = .ok (.getfield 246, 3) := by decide +kernel
theorem dX8_state_139 : decode cX8_state 139 = .ok (.iload 4, 2) := by decide +kernel
theorem dX8_state_141 : decode cX8_state 141 = .ok (.bipush 40, 2) := by decide +kernel
theorem dX8_state_143 : decode cX8_state 143 = .ok (.isub, 1) := by decide +kernel
theorem dX8_state_144 : decode cX8_state 144 = .ok (.iaload, 1) := by decide +kernel
theorem dX8_state_145 : decode cX8_state 145 = .ok (.ireturn, 1) := by decide +kernel
theorem dX8_state_146 : decode cX8_state 146 = .ok (.bipush (-2), 2) := by decide +kernel
theorem dX8_state_148 : decode cX8_state 148 = .ok (.ireturn, 1) := by decide +kernel
noncomputable def k_X8_state_112 (F : Nat) : AK := ak_iload 4 (ak_push (vI 40) (ak_cmplt (ak_push (vI (-2)) ak_ireturn) (ak_iload 4 (ak_push (vI 40) (ak_aload 5 (ak_getf 7 8 (ak_iadd (ak_cmplt (ak_aload 0 (ak_getf 8 3 (ak_getf 6 5 (ak_iload 4 (ak_push (vI 40) (ak_isub (ak_iald ak_ireturn))))))) (ak_push (vI (-2)) ak_ireturn)))))))))
set_option maxRecDepth 20000 in
theorem sk_X8_state_112 (F : Nat) : Snd X0 RX8 cX8_state 6 4 112 (k_X8_state_112 F) := by
  unfold k_X8_state_112
  exact snd_iload (pc := 112) (i := 4) dX8_state_112 (snd_bipush (pc := 114) (by decide) dX8_state_114 (snd_icmplt (pc := 116) (off := 30) (tgt := 146) (by decide) dX8_state_116 (snd_bipush (pc := 146) (by decide) dX8_state_146 (snd_ireturn dX8_state_148)) (snd_iload (pc := 119) (i := 4) dX8_state_119 (snd_bipush (pc := 121) (by decide) dX8_state_121 (snd_aload (pc := 123) (i := 5) dX8_state_123 (snd_getf (pc := 125) cls7 (f := 8) (by decide) wd_197 dX8_state_125 (snd_iadd (pc := 128) dX8_state_128 (snd_icmpge (pc := 129) (off := 17) (tgt := 146) (by decide) dX8_state_129 (snd_bipush (pc := 146) (by decide) dX8_state_146 (snd_ireturn dX8_state_148)) (snd_aload_n (pc := 132) (i := 0) dX8_state_132 (snd_getf (pc := 133) cls8 (f := 3) (by decide) wd_591 dX8_state_133 (snd_getf (pc := 136) cls6 (f := 5) (by decide) wd_412 dX8_state_136 (snd_iload (pc := 139) (i := 4) dX8_state_139 (snd_bipush (pc := 141) (by decide) dX8_state_141 (snd_isub (pc := 143) dX8_state_143 (snd_iald (pc := 144) dX8_state_144 (snd_ireturn dX8_state_145))))))))))))))))
noncomputable def k_X8_state_78 (F : Nat) : AK := ak_iload 4 (ak_push (vI 30) (ak_cmplt ((k_X8_state_112 F)) (ak_iload 4 (ak_push (vI 30) (ak_aload 5 (ak_getf 7 8 (ak_iadd (ak_cmplt (ak_aload 0 (ak_getf 8 3 (ak_getf 6 4 (ak_iload 4 (ak_push (vI 30) (ak_isub (ak_iald ak_ireturn))))))) ((k_X8_state_112 F))))))))))
set_option maxRecDepth 20000 in
theorem sk_X8_state_78 (F : Nat) : Snd X0 RX8 cX8_state 6 4 78 (k_X8_state_78 F) := by
  unfold k_X8_state_78
  exact snd_iload (pc := 78) (i := 4) dX8_state_78 (snd_bipush (pc := 80) (by decide) dX8_state_80 (snd_icmplt (pc := 82) (off := 30) (tgt := 112) (by decide) dX8_state_82 ((sk_X8_state_112 F)) (snd_iload (pc := 85) (i := 4) dX8_state_85 (snd_bipush (pc := 87) (by decide) dX8_state_87 (snd_aload (pc := 89) (i := 5) dX8_state_89 (snd_getf (pc := 91) cls7 (f := 8) (by decide) wd_197 dX8_state_91 (snd_iadd (pc := 94) dX8_state_94 (snd_icmpge (pc := 95) (off := 17) (tgt := 112) (by decide) dX8_state_95 ((sk_X8_state_112 F)) (snd_aload_n (pc := 98) (i := 0) dX8_state_98 (snd_getf (pc := 99) cls8 (f := 3) (by decide) wd_591 dX8_state_99 (snd_getf (pc := 102) cls6 (f := 4) (by decide) wd_410 dX8_state_102 (snd_iload (pc := 105) (i := 4) dX8_state_105 (snd_bipush (pc := 107) (by decide) dX8_state_107 (snd_isub (pc := 109) dX8_state_109 (snd_iald (pc := 110) dX8_state_110 (snd_ireturn dX8_state_111))))))))))))))))
noncomputable def k_X8_state (F : Nat) : AK := ak_aload 0 (ak_iload 1 (ak_iload 2 (ak_iload 3 (ak_callv 8 3 (m_X8_townOfState F) (ak_astore 5 (ak_aload 5 (ak_ifnull (ak_push (vI (-2)) ak_ireturn) (ak_iload 4 (ak_ifeq (ak_aload 0 (ak_getf 8 3 (ak_getf 6 0 ak_ireturn))) (ak_iload 4 (ak_push (vI 1) (ak_cmpeq (ak_aload 0 (ak_getf 8 3 (ak_getf 6 1 ak_ireturn))) (ak_iload 4 (ak_push (vI 10) (ak_cmplt ((k_X8_state_78 F)) (ak_iload 4 (ak_push (vI 10) (ak_aload 5 (ak_getf 7 1 (ak_iadd (ak_cmplt (ak_aload 0 (ak_getf 8 3 (ak_getf 6 3 (ak_iload 4 (ak_push (vI 10) (ak_isub (ak_iald ak_ireturn))))))) ((k_X8_state_78 F)))))))))))))))))))))))
noncomputable def m_X8_state (F : Nat) : AF := mkF 1 6 (k_X8_state F)
set_option maxRecDepth 20000 in
theorem s_X8_state (F : Nat) : MA yX8_state cX8_state 6 (some .int) 4 (m_X8_state F) := met_of (Or.inr (Or.inl ⟨rfl, rfl⟩)) (by decide) (by
  unfold k_X8_state
  exact snd_aload_n (pc := 0) (i := 0) dX8_state_0 (snd_iload_n (pc := 1) (i := 1) dX8_state_1 (snd_iload_n (pc := 2) (i := 2) dX8_state_2 (snd_iload_n (pc := 3) (i := 3) dX8_state_3 (snd_callV (pc := 4) (n := 3) cls8 (s_X8_townOfState F) (by decide) (by decide) wd_938 wd_935 wd_937 wd_23 wd_120 hy_X8_townOfState dX8_state_4 (snd_astore (pc := 7) (i := 5) (by decide) dX8_state_7 (snd_aload (pc := 9) (i := 5) dX8_state_9 (snd_ifnonnull (pc := 11) (off := 6) (tgt := 17) (by decide) dX8_state_11 (snd_iload (pc := 17) (i := 4) dX8_state_17 (snd_ifne (pc := 19) (off := 11) (tgt := 30) (by decide) dX8_state_19 (snd_iload (pc := 30) (i := 4) dX8_state_30 (snd_iconst (pc := 32) dX8_state_32 (snd_icmpne (pc := 33) (off := 11) (tgt := 44) (by decide) dX8_state_33 (snd_iload (pc := 44) (i := 4) dX8_state_44 (snd_bipush (pc := 46) (by decide) dX8_state_46 (snd_icmplt (pc := 48) (off := 30) (tgt := 78) (by decide) dX8_state_48 ((sk_X8_state_78 F)) (snd_iload (pc := 51) (i := 4) dX8_state_51 (snd_bipush (pc := 53) (by decide) dX8_state_53 (snd_aload (pc := 55) (i := 5) dX8_state_55 (snd_getf (pc := 57) cls7 (f := 1) (by decide) wd_166 dX8_state_57 (snd_iadd (pc := 60) dX8_state_60 (snd_icmpge (pc := 61) (off := 17) (tgt := 78) (by decide) dX8_state_61 ((sk_X8_state_78 F)) (snd_aload_n (pc := 64) (i := 0) dX8_state_64 (snd_getf (pc := 65) cls8 (f := 3) (by decide) wd_591 dX8_state_65 (snd_getf (pc := 68) cls6 (f := 3) (by decide) wd_408 dX8_state_68 (snd_iload (pc := 71) (i := 4) dX8_state_71 (snd_bipush (pc := 73) (by decide) dX8_state_73 (snd_isub (pc := 75) dX8_state_75 (snd_iald (pc := 76) dX8_state_76 (snd_ireturn dX8_state_77))))))))))))))))) (snd_aload_n (pc := 36) (i := 0) dX8_state_36 (snd_getf (pc := 37) cls8 (f := 3) (by decide) wd_591 dX8_state_37 (snd_getf (pc := 40) cls6 (f := 1) (by decide) wd_404 dX8_state_40 (snd_ireturn dX8_state_43))))))) (snd_aload_n (pc := 22) (i := 0) dX8_state_22 (snd_getf (pc := 23) cls8 (f := 3) (by decide) wd_591 dX8_state_23 (snd_getf (pc := 26) cls6 (f := 0) (by decide) wd_402 dX8_state_26 (snd_ireturn dX8_state_29)))))) (snd_bipush (pc := 14) (by decide) dX8_state_14 (snd_ireturn dX8_state_16))))))))))

/-! LastWalker.paid(IIIII)I -/
theorem dX8_paid_0 : decode cX8_paid 0 = .ok (.aload_n 0, 1) := by decide +kernel
theorem dX8_paid_1 : decode cX8_paid 1 = .ok (.iload_n 1, 1) := by decide +kernel
theorem dX8_paid_2 : decode cX8_paid 2 = .ok (.iload_n 2, 1) := by decide +kernel
theorem dX8_paid_3 : decode cX8_paid 3 = .ok (.iload_n 3, 1) := by decide +kernel
theorem dX8_paid_4 : decode cX8_paid 4 = .ok (.invokevirtual 232, 3) := by decide +kernel
theorem dX8_paid_7 : decode cX8_paid 7 = .ok (.astore 6, 2) := by decide +kernel
theorem dX8_paid_9 : decode cX8_paid 9 = .ok (.aload 6, 2) := by decide +kernel
theorem dX8_paid_11 : decode cX8_paid 11 = .ok (.ifnull 23, 3) := by decide +kernel
theorem dX8_paid_14 : decode cX8_paid 14 = .ok (.aload 6, 2) := by decide +kernel
theorem dX8_paid_16 : decode cX8_paid 16 = .ok (.iload 4, 2) := by decide +kernel
theorem dX8_paid_18 : decode cX8_paid 18 = .ok (.invokevirtual 177, 3) := by decide +kernel
theorem dX8_paid_21 : decode cX8_paid 21 = .ok (.ifCond .eq 13, 3) := by decide +kernel
theorem dX8_paid_24 : decode cX8_paid 24 = .ok (.aload 6, 2) := by decide +kernel
theorem dX8_paid_26 : decode cX8_paid 26 = .ok (.iload 5, 2) := by decide +kernel
theorem dX8_paid_28 : decode cX8_paid 28 = .ok (.invokevirtual 177, 3) := by decide +kernel
theorem dX8_paid_31 : decode cX8_paid 31 = .ok (.ifCond .ne 5, 3) := by decide +kernel
theorem dX8_paid_34 : decode cX8_paid 34 = .ok (.iconst (-1), 1) := by decide +kernel
theorem dX8_paid_35 : decode cX8_paid 35 = .ok (.ireturn, 1) := by decide +kernel
theorem dX8_paid_36 : decode cX8_paid 36 = .ok (.aload_n 0, 1) := by decide +kernel
theorem dX8_paid_37 : decode cX8_paid 37 = .ok (.getfield 30, 3) := by decide +kernel
theorem dX8_paid_40 : decode cX8_paid 40 = .ok (.getfield 249, 3) := by decide +kernel
theorem dX8_paid_43 : decode cX8_paid 43 = .ok (.iload 4, 2) := by decide +kernel
theorem dX8_paid_45 : decode cX8_paid 45 = .ok (.bipush 8, 2) := by decide +kernel
theorem dX8_paid_47 : decode cX8_paid 47 = .ok (.imul, 1) := by decide +kernel
theorem dX8_paid_48 : decode cX8_paid 48 = .ok (.iload 5, 2) := by decide +kernel
theorem dX8_paid_50 : decode cX8_paid 50 = .ok (.iadd, 1) := by decide +kernel
theorem dX8_paid_51 : decode cX8_paid 51 = .ok (.iaload, 1) := by decide +kernel
theorem dX8_paid_52 : decode cX8_paid 52 = .ok (.ireturn, 1) := by decide +kernel
noncomputable def k_X8_paid (F : Nat) : AK := ak_aload 0 (ak_iload 1 (ak_iload 2 (ak_iload 3 (ak_callv 8 3 (m_X8_townOfState F) (ak_astore 6 (ak_aload 6 (ak_ifnull (ak_push (vI (-1)) ak_ireturn) (ak_aload 6 (ak_iload 4 (ak_callv 7 1 (m_X7_hasPerson F) (ak_ifeq (ak_push (vI (-1)) ak_ireturn) (ak_aload 6 (ak_iload 5 (ak_callv 7 1 (m_X7_hasPerson F) (ak_ifeq (ak_push (vI (-1)) ak_ireturn) (ak_aload 0 (ak_getf 8 3 (ak_getf 6 7 (ak_iload 4 (ak_push (vI 8) (ak_imul (ak_iload 5 (ak_iadd (ak_iald ak_ireturn))))))))))))))))))))))))
noncomputable def m_X8_paid (F : Nat) : AF := mkF 1 7 (k_X8_paid F)
set_option maxRecDepth 20000 in
theorem s_X8_paid (F : Nat) : MA yX8_paid cX8_paid 7 (some .int) 4 (m_X8_paid F) := met_of (Or.inr (Or.inl ⟨rfl, rfl⟩)) (by decide) (by
  unfold k_X8_paid
  exact snd_aload_n (pc := 0) (i := 0) dX8_paid_0 (snd_iload_n (pc := 1) (i := 1) dX8_paid_1 (snd_iload_n (pc := 2) (i := 2) dX8_paid_2 (snd_iload_n (pc := 3) (i := 3) dX8_paid_3 (snd_callV (pc := 4) (n := 3) cls8 (s_X8_townOfState F) (by decide) (by decide) wd_938 wd_935 wd_937 wd_23 wd_120 hy_X8_townOfState dX8_paid_4 (snd_astore (pc := 7) (i := 6) (by decide) dX8_paid_7 (snd_aload (pc := 9) (i := 6) dX8_paid_9 (snd_ifnull (pc := 11) (off := 23) (tgt := 34) (by decide) dX8_paid_11 (snd_iconst (pc := 34) dX8_paid_34 (snd_ireturn dX8_paid_35)) (snd_aload (pc := 14) (i := 6) dX8_paid_14 (snd_iload (pc := 16) (i := 4) dX8_paid_16 (snd_callV (pc := 18) (n := 1) cls7 (s_X7_hasPerson F) (by decide) (by decide) wd_854 wd_851 wd_852 wd_853 wd_122 hy_X7_hasPerson dX8_paid_18 (snd_ifeq (pc := 21) (off := 13) (tgt := 34) (by decide) dX8_paid_21 (snd_iconst (pc := 34) dX8_paid_34 (snd_ireturn dX8_paid_35)) (snd_aload (pc := 24) (i := 6) dX8_paid_24 (snd_iload (pc := 26) (i := 5) dX8_paid_26 (snd_callV (pc := 28) (n := 1) cls7 (s_X7_hasPerson F) (by decide) (by decide) wd_854 wd_851 wd_852 wd_853 wd_122 hy_X7_hasPerson dX8_paid_28 (snd_ifne (pc := 31) (off := 5) (tgt := 36) (by decide) dX8_paid_31 (snd_aload_n (pc := 36) (i := 0) dX8_paid_36 (snd_getf (pc := 37) cls8 (f := 3) (by decide) wd_591 dX8_paid_37 (snd_getf (pc := 40) cls6 (f := 7) (by decide) wd_415 dX8_paid_40 (snd_iload (pc := 43) (i := 4) dX8_paid_43 (snd_bipush (pc := 45) (by decide) dX8_paid_45 (snd_imul (pc := 47) dX8_paid_47 (snd_iload (pc := 48) (i := 5) dX8_paid_48 (snd_iadd (pc := 50) dX8_paid_50 (snd_iald (pc := 51) dX8_paid_51 (snd_ireturn dX8_paid_52)))))))))) (snd_iconst (pc := 34) dX8_paid_34 (snd_ireturn dX8_paid_35))))))))))))))))))

/-! LastWalker.brings(IIII)I -/
theorem dX8_brings_0 : decode cX8_brings 0 = .ok (.aload_n 0, 1) := by decide +kernel
theorem dX8_brings_1 : decode cX8_brings 1 = .ok (.iload_n 1, 1) := by decide +kernel
theorem dX8_brings_2 : decode cX8_brings 2 = .ok (.iload_n 2, 1) := by decide +kernel
theorem dX8_brings_3 : decode cX8_brings 3 = .ok (.iload_n 3, 1) := by decide +kernel
theorem dX8_brings_4 : decode cX8_brings 4 = .ok (.invokevirtual 232, 3) := by decide +kernel
theorem dX8_brings_7 : decode cX8_brings 7 = .ok (.astore 5, 2) := by decide +kernel
theorem dX8_brings_9 : decode cX8_brings 9 = .ok (.aload 5, 2) := by decide +kernel
theorem dX8_brings_11 : decode cX8_brings 11 = .ok (.ifnull 13, 3) := by decide +kernel
theorem dX8_brings_14 : decode cX8_brings 14 = .ok (.aload 5, 2) := by decide +kernel
theorem dX8_brings_16 : decode cX8_brings 16 = .ok (.iload 4, 2) := by decide +kernel
theorem dX8_brings_18 : decode cX8_brings 18 = .ok (.invokevirtual 154, 3) := by decide +kernel
theorem dX8_brings_21 : decode cX8_brings 21 = .ok (.ifCond .ne 5, 3) := by decide +kernel
theorem dX8_brings_24 : decode cX8_brings 24 = .ok (.iconst (-1), 1) := by decide +kernel
theorem dX8_brings_25 : decode cX8_brings 25 = .ok (.ireturn, 1) := by decide +kernel
theorem dX8_brings_26 : decode cX8_brings 26 = .ok (.aload_n 0, 1) := by decide +kernel
theorem dX8_brings_27 : decode cX8_brings 27 = .ok (.getfield 30, 3) := by decide +kernel
theorem dX8_brings_30 : decode cX8_brings 30 = .ok (.getfield 242, 3) := by decide +kernel
theorem dX8_brings_33 : decode cX8_brings 33 = .ok (.iload 4, 2) := by decide +kernel
theorem dX8_brings_35 : decode cX8_brings 35 = .ok (.iaload, 1) := by decide +kernel
theorem dX8_brings_36 : decode cX8_brings 36 = .ok (.iconst (-1), 1) := by decide +kernel
theorem dX8_brings_37 : decode cX8_brings 37 = .ok (.if_icmp .ne 5, 3) := by decide +kernel
theorem dX8_brings_40 : decode cX8_brings 40 = .ok (.iconst (-1), 1) := by decide +kernel
theorem dX8_brings_41 : decode cX8_brings 41 = .ok (.ireturn, 1) := by decide +kernel
theorem dX8_brings_42 : decode cX8_brings 42 = .ok (.aload_n 0, 1) := by decide +kernel
theorem dX8_brings_43 : decode cX8_brings 43 = .ok (.getfield 10, 3) := by decide +kernel
theorem dX8_brings_46 : decode cX8_brings 46 = .ok (.iload_n 2, 1) := by decide +kernel
theorem dX8_brings_47 : decode cX8_brings 47 = .ok (.invokevirtual 204, 3) := by decide +kernel
theorem dX8_brings_50 : decode cX8_brings 50 = .ok (.astore 6, 2) := by decide +kernel
theorem dX8_brings_52 : decode cX8_brings 52 = .ok (.aload 6, 2) := by decide +kernel
theorem dX8_brings_54 : decode cX8_brings 54 = .ok (.ifnonnull 7, 3) := by decide +kernel
theorem dX8_brings_57 : decode cX8_brings 57 = .ok (.iconst 0, 1) := by decide +kernel
theorem dX8_brings_58 : decode cX8_brings 58 = .ok (.goto 17, 3) := by decide +kernel
theorem dX8_brings_61 : decode cX8_brings 61 = .ok (.aload_n 0, 1) := by decide +kernel
theorem dX8_brings_62 : decode cX8_brings 62 = .ok (.getfield 30, 3) := by decide +kernel
theorem dX8_brings_65 : decode cX8_brings 65 = .ok (.aload 5, 2) := by decide +kernel
theorem dX8_brings_67 : decode cX8_brings 67 = .ok (.aload 6, 2) := by decide +kernel
theorem dX8_brings_69 : decode cX8_brings 69 = .ok (.iload_n 3, 1) := by decide +kernel
theorem dX8_brings_70 : decode cX8_brings 70 = .ok (.iload 4, 2) := by decide +kernel
theorem dX8_brings_72 : decode cX8_brings 72 = .ok (.invokevirtual 252, 3) := by decide +kernel
theorem dX8_brings_75 : decode cX8_brings 75 = .ok (.ireturn, 1) := by decide +kernel
noncomputable def k_X8_brings (F : Nat) : AK := ak_aload 0 (ak_iload 1 (ak_iload 2 (ak_iload 3 (ak_callv 8 3 (m_X8_townOfState F) (ak_astore 5 (ak_aload 5 (ak_ifnull (ak_push (vI (-1)) ak_ireturn) (ak_aload 5 (ak_iload 4 (ak_callv 7 1 (m_X7_hasRoad F) (ak_ifeq (ak_push (vI (-1)) ak_ireturn) (ak_aload 0 (ak_getf 8 3 (ak_getf 6 3 (ak_iload 4 (ak_iald (ak_push (vI (-1)) (ak_cmpeq (ak_push (vI (-1)) ak_ireturn) (ak_aload 0 (ak_getf 8 0 (ak_iload 2 (ak_callv 0 1 (m_X0_dayAt F) (ak_astore 6 (ak_aload 6 (ak_ifnull (ak_push (vI 0) ak_ireturn) (ak_aload 0 (ak_getf 8 3 (ak_aload 5 (ak_aload 6 (ak_iload 3 (ak_iload 4 (ak_callv 6 4 (m_X6_broughtFrom F) ak_ireturn))))))))))))))))))))))))))))))))
noncomputable def m_X8_brings (F : Nat) : AF := mkF 1 7 (k_X8_brings F)
set_option maxRecDepth 20000 in
theorem s_X8_brings (F : Nat) : MA yX8_brings cX8_brings 7 (some .int) 4 (m_X8_brings F) := met_of (Or.inr (Or.inl ⟨rfl, rfl⟩)) (by decide) (by
  unfold k_X8_brings
  exact snd_aload_n (pc := 0) (i := 0) dX8_brings_0 (snd_iload_n (pc := 1) (i := 1) dX8_brings_1 (snd_iload_n (pc := 2) (i := 2) dX8_brings_2 (snd_iload_n (pc := 3) (i := 3) dX8_brings_3 (snd_callV (pc := 4) (n := 3) cls8 (s_X8_townOfState F) (by decide) (by decide) wd_938 wd_935 wd_937 wd_23 wd_120 hy_X8_townOfState dX8_brings_4 (snd_astore (pc := 7) (i := 5) (by decide) dX8_brings_7 (snd_aload (pc := 9) (i := 5) dX8_brings_9 (snd_ifnull (pc := 11) (off := 13) (tgt := 24) (by decide) dX8_brings_11 (snd_iconst (pc := 24) dX8_brings_24 (snd_ireturn dX8_brings_25)) (snd_aload (pc := 14) (i := 5) dX8_brings_14 (snd_iload (pc := 16) (i := 4) dX8_brings_16 (snd_callV (pc := 18) (n := 1) cls7 (s_X7_hasRoad F) (by decide) (by decide) wd_846 wd_843 wd_844 wd_845 wd_122 hy_X7_hasRoad dX8_brings_18 (snd_ifne (pc := 21) (off := 5) (tgt := 26) (by decide) dX8_brings_21 (snd_aload_n (pc := 26) (i := 0) dX8_brings_26 (snd_getf (pc := 27) cls8 (f := 3) (by decide) wd_591 dX8_brings_27 (snd_getf (pc := 30) cls6 (f := 3) (by decide) wd_408 dX8_brings_30 (snd_iload (pc := 33) (i := 4) dX8_brings_33 (snd_iald (pc := 35) dX8_brings_35 (snd_iconst (pc := 36) dX8_brings_36 (snd_icmpne (pc := 37) (off := 5) (tgt := 42) (by decide) dX8_brings_37 (snd_aload_n (pc := 42) (i := 0) dX8_brings_42 (snd_getf (pc := 43) cls8 (f := 0) (by decide) wd_588 dX8_brings_43 (snd_iload_n (pc := 46) (i := 2) dX8_brings_46 (snd_callV (pc := 47) (n := 1) cls0 (s_X0_dayAt F) (by decide) (by decide) wd_870 wd_867 wd_868 wd_869 wd_121 hy_X0_dayAt dX8_brings_47 (snd_astore (pc := 50) (i := 6) (by decide) dX8_brings_50 (snd_aload (pc := 52) (i := 6) dX8_brings_52 (snd_ifnonnull (pc := 54) (off := 7) (tgt := 61) (by decide) dX8_brings_54 (snd_aload_n (pc := 61) (i := 0) dX8_brings_61 (snd_getf (pc := 62) cls8 (f := 3) (by decide) wd_591 dX8_brings_62 (snd_aload (pc := 65) (i := 5) dX8_brings_65 (snd_aload (pc := 67) (i := 6) dX8_brings_67 (snd_iload_n (pc := 69) (i := 3) dX8_brings_69 (snd_iload (pc := 70) (i := 4) dX8_brings_70 (snd_callV (pc := 72) (n := 4) cls6 (s_X6_broughtFrom F) (by decide) (by decide) wd_951 wd_948 wd_949 wd_950 wd_125 hy_X6_broughtFrom dX8_brings_72 (snd_ireturn dX8_brings_75)))))))) (snd_iconst (pc := 57) dX8_brings_57 (snd_goto (pc := 58) (off := 17) (tgt := 75) (by decide) dX8_brings_58 (snd_ireturn dX8_brings_75)))))))))) (snd_iconst (pc := 40) dX8_brings_40 (snd_ireturn dX8_brings_41))))))))) (snd_iconst (pc := 24) dX8_brings_24 (snd_ireturn dX8_brings_25))))))))))))))

/-! LastWalker.worth(III)J -/
theorem dX8_worth_0 : decode cX8_worth 0 = .ok (.aload_n 0, 1) := by decide +kernel
theorem dX8_worth_1 : decode cX8_worth 1 = .ok (.getfield 10, 3) := by decide +kernel
theorem dX8_worth_4 : decode cX8_worth 4 = .ok (.iload_n 1, 1) := by decide +kernel
theorem dX8_worth_5 : decode cX8_worth 5 = .ok (.invokevirtual 132, 3) := by decide +kernel
theorem dX8_worth_8 : decode cX8_worth 8 = .ok (.astore 4, 2) := by decide +kernel
theorem dX8_worth_10 : decode cX8_worth 10 = .ok (.aload 4, 2) := by decide +kernel
theorem dX8_worth_12 : decode cX8_worth 12 = .ok (.ifnull 22, 3) := by decide +kernel
theorem dX8_worth_15 : decode cX8_worth 15 = .ok (.aload 4, 2) := by decide +kernel
theorem dX8_worth_17 : decode cX8_worth 17 = .ok (.iload_n 2, 1) := by decide +kernel
theorem dX8_worth_18 : decode cX8_worth 18 = .ok (.invokevirtual 154, 3) := by decide +kernel
theorem dX8_worth_21 : decode cX8_worth 21 = .ok (.ifCond .eq 13, 3) := by decide +kernel
theorem dX8_worth_24 : decode cX8_worth 24 = .ok (.iload_n 3, 1) := by decide +kernel
theorem dX8_worth_25 : decode cX8_worth 25 = .ok (.ifCond .lt 9, 3) := by decide +kernel
theorem dX8_worth_28 : decode cX8_worth 28 = .ok (.iload_n 3, 1) := by decide +kernel
theorem dX8_worth_29 : decode cX8_worth 29 = .ok (.bipush 6, 2) := by decide +kernel
theorem dX8_worth_31 : decode cX8_worth 31 = .ok (.if_icmp .le 7, 3) := by decide +kernel
theorem dX8_worth_34 : decode cX8_worth 34 = .ok (.ldc2_w 256, 3) := by decide +kernel
theorem dX8_worth_37 : decode cX8_worth 37 = .ok (.lreturn, 1) := by decide +kernel
theorem dX8_worth_38 : decode cX8_worth 38 = .ok (.aload 4, 2) := by decide +kernel
theorem dX8_worth_40 : decode cX8_worth 40 = .ok (.iload_n 2, 1) := by decide +kernel
theorem dX8_worth_41 : decode cX8_worth 41 = .ok (.iload_n 3, 1) := by decide +kernel
theorem dX8_worth_42 : decode cX8_worth 42 = .ok (.invokevirtual 258, 3) := by decide +kernel
theorem dX8_worth_45 : decode cX8_worth 45 = .ok (.lreturn, 1) := by decide +kernel
noncomputable def k_X8_worth (F : Nat) : AK := ak_aload 0 (ak_getf 8 0 (ak_iload 1 (ak_callv 0 1 (m_X0_townAt F) (ak_astore 4 (ak_aload 4 (ak_ifnull (ak_push (vL (-1)) ak_lreturn) (ak_aload 4 (ak_iload 2 (ak_callv 7 1 (m_X7_hasRoad F) (ak_ifeq (ak_push (vL (-1)) ak_lreturn) (ak_iload 3 (ak_iflt (ak_push (vL (-1)) ak_lreturn) (ak_iload 3 (ak_push (vI 6) (ak_cmpgt (ak_push (vL (-1)) ak_lreturn) (ak_aload 4 (ak_iload 2 (ak_iload 3 (ak_callv 7 2 (m_X7_worthFrom F) ak_lreturn)))))))))))))))))))
noncomputable def m_X8_worth (F : Nat) : AF := mkF 4 5 (k_X8_worth F)
set_option maxRecDepth 20000 in
theorem s_X8_worth (F : Nat) : MA yX8_worth cX8_worth 5 (some .long) 1 (m_X8_worth F) := met_of (Or.inr (Or.inr (Or.inr (Or.inr (Or.inl ⟨rfl, rfl⟩))))) (by decide) (by
  unfold k_X8_worth
  exact snd_aload_n (pc := 0) (i := 0) dX8_worth_0 (snd_getf (pc := 1) cls8 (f := 0) (by decide) wd_588 dX8_worth_1 (snd_iload_n (pc := 4) (i := 1) dX8_worth_4 (snd_callV (pc := 5) (n := 1) cls0 (s_X0_townAt F) (by decide) (by decide) wd_838 wd_835 wd_836 wd_837 wd_121 hy_X0_townAt dX8_worth_5 (snd_astore (pc := 8) (i := 4) (by decide) dX8_worth_8 (snd_aload (pc := 10) (i := 4) dX8_worth_10 (snd_ifnull (pc := 12) (off := 22) (tgt := 34) (by decide) dX8_worth_12 (snd_ldc2 (pc := 34) (z := (-1)) (by decide) wd_956 dX8_worth_34 (snd_lreturn dX8_worth_37)) (snd_aload (pc := 15) (i := 4) dX8_worth_15 (snd_iload_n (pc := 17) (i := 2) dX8_worth_17 (snd_callV (pc := 18) (n := 1) cls7 (s_X7_hasRoad F) (by decide) (by decide) wd_846 wd_843 wd_844 wd_845 wd_122 hy_X7_hasRoad dX8_worth_18 (snd_ifeq (pc := 21) (off := 13) (tgt := 34) (by decide) dX8_worth_21 (snd_ldc2 (pc := 34) (z := (-1)) (by decide) wd_956 dX8_worth_34 (snd_lreturn dX8_worth_37)) (snd_iload_n (pc := 24) (i := 3) dX8_worth_24 (snd_iflt (pc := 25) (off := 9) (tgt := 34) (by decide) dX8_worth_25 (snd_ldc2 (pc := 34) (z := (-1)) (by decide) wd_956 dX8_worth_34 (snd_lreturn dX8_worth_37)) (snd_iload_n (pc := 28) (i := 3) dX8_worth_28 (snd_bipush (pc := 29) (by decide) dX8_worth_29 (snd_icmple (pc := 31) (off := 7) (tgt := 38) (by decide) dX8_worth_31 (snd_aload (pc := 38) (i := 4) dX8_worth_38 (snd_iload_n (pc := 40) (i := 2) dX8_worth_40 (snd_iload_n (pc := 41) (i := 3) dX8_worth_41 (snd_callV (pc := 42) (n := 2) cls7 (s_X7_worthFrom F) (by decide) (by decide) wd_960 wd_957 wd_958 wd_959 wd_122 hy_X7_worthFrom dX8_worth_42 (snd_lreturn dX8_worth_45))))) (snd_ldc2 (pc := 34) (z := (-1)) (by decide) wd_956 dX8_worth_34 (snd_lreturn dX8_worth_37))))))))))))))))))

/-! LastWalker.isMinute(I)Z -/
theorem dX8_isMinute_0 : decode cX8_isMinute 0 = .ok (.iload_n 0, 1) := by decide +kernel
theorem dX8_isMinute_1 : decode cX8_isMinute 1 = .ok (.ifCond .lt 14, 3) := by decide +kernel
theorem dX8_isMinute_4 : decode cX8_isMinute 4 = .ok (.iload_n 0, 1) := by decide +kernel
theorem dX8_isMinute_5 : decode cX8_isMinute 5 = .ok (.sipush 999, 3) := by decide +kernel
theorem dX8_isMinute_8 : decode cX8_isMinute 8 = .ok (.if_icmp .gt 7, 3) := by decide +kernel
theorem dX8_isMinute_11 : decode cX8_isMinute 11 = .ok (.iconst 1, 1) := by decide +kernel
theorem dX8_isMinute_12 : decode cX8_isMinute 12 = .ok (.goto 4, 3) := by decide +kernel
theorem dX8_isMinute_15 : decode cX8_isMinute 15 = .ok (.iconst 0, 1) := by decide +kernel
theorem dX8_isMinute_16 : decode cX8_isMinute 16 = .ok (.ireturn, 1) := by decide +kernel
noncomputable def k_X8_isMinute (F : Nat) : AK := ak_iload 0 (ak_iflt (ak_push (vI 0) ak_ireturn) (ak_iload 0 (ak_push (vI 999) (ak_cmpgt (ak_push (vI 0) ak_ireturn) (ak_push (vI 1) ak_ireturn)))))
noncomputable def m_X8_isMinute (F : Nat) : AF := mkF 2 1 (k_X8_isMinute F)
set_option maxRecDepth 20000 in
theorem s_X8_isMinute (F : Nat) : MA yX8_isMinute cX8_isMinute 1 (some .boolean) 0 (m_X8_isMinute F) := met_of (Or.inr (Or.inr (Or.inl ⟨rfl, rfl⟩))) (by decide) (by
  unfold k_X8_isMinute
  exact snd_iload_n (pc := 0) (i := 0) dX8_isMinute_0 (snd_iflt (pc := 1) (off := 14) (tgt := 15) (by decide) dX8_isMinute_1 (snd_iconst (pc := 15) dX8_isMinute_15 (snd_ireturn dX8_isMinute_16)) (snd_iload_n (pc := 4) (i := 0) dX8_isMinute_4 (snd_sipush (pc := 5) (by decide) dX8_isMinute_5 (snd_icmpgt (pc := 8) (off := 7) (tgt := 15) (by decide) dX8_isMinute_8 (snd_iconst (pc := 15) dX8_isMinute_15 (snd_ireturn dX8_isMinute_16)) (snd_iconst (pc := 11) dX8_isMinute_11 (snd_goto (pc := 12) (off := 4) (tgt := 16) (by decide) dX8_isMinute_12 (snd_ireturn dX8_isMinute_16))))))))

/-! LastWalker.findWay(LLastWalker$Town;IIIII)Z -/
theorem dX8_findWay_0 : decode cX8_findWay 0 = .ok (.aload_n 1, 1) := by decide +kernel
theorem dX8_findWay_1 : decode cX8_findWay 1 = .ok (.iload_n 2, 1) := by decide +kernel
theorem dX8_findWay_2 : decode cX8_findWay 2 = .ok (.invokevirtual 177, 3) := by decide +kernel
theorem dX8_findWay_5 : decode cX8_findWay 5 = .ok (.ifCond .eq 20, 3) := by decide +kernel
theorem dX8_findWay_8 : decode cX8_findWay 8 = .ok (.iload_n 3, 1) := by decide +kernel
theorem dX8_findWay_9 : decode cX8_findWay 9 = .ok (.ifCond .lt 16, 3) := by decide +kernel
theorem dX8_findWay_12 : decode cX8_findWay 12 = .ok (.iload_n 3, 1) := by decide +kernel
theorem dX8_findWay_13 : decode cX8_findWay 13 = .ok (.iconst 2, 1) := by decide +kernel
theorem dX8_findWay_14 : decode cX8_findWay 14 = .ok (.if_icmp .gt 11, 3) := by decide +kernel
theorem dX8_findWay_17 : decode cX8_findWay 17 = .ok (.iload 4, 2) := by decide +kernel
theorem dX8_findWay_19 : decode cX8_findWay 19 = .ok (.invokestatic 262, 3) := by decide +kernel
theorem dX8_findWay_22 : decode cX8_findWay 22 = .ok (.ifCond .ne 5, 3) := by decide +kernel
theorem dX8_findWay_25 : decode cX8_findWay 25 = .ok (.iconst 0, 1) := by decide +kernel
theorem dX8_findWay_26 : decode cX8_findWay 26 = .ok (.ireturn, 1) := by decide +kernel
theorem dX8_findWay_27 : decode cX8_findWay 27 = .ok (.aload_n 1, 1) := by decide +kernel
theorem dX8_findWay_28 : decode cX8_findWay 28 = .ok (.iload 5, 2) := by decide +kernel
theorem dX8_findWay_30 : decode cX8_findWay 30 = .ok (.invokevirtual 265, 3) := by decide +kernel
theorem dX8_findWay_33 : decode cX8_findWay 33 = .ok (.ifCond .eq 12, 3) := by decide +kernel
theorem dX8_findWay_36 : decode cX8_findWay 36 = .ok (.aload_n 1, 1) := by decide +kernel
theorem dX8_findWay_37 : decode cX8_findWay 37 = .ok (.iload 6, 2) := by decide +kernel
theorem dX8_findWay_39 : decode cX8_findWay 39 = .ok (.invokevirtual 265, 3) := by decide +kernel
theorem dX8_findWay_42 : decode cX8_findWay 42 = .ok (.ifCond .ne 5, 3) := by decide +kernel
theorem dX8_findWay_45 : decode cX8_findWay 45 = .ok (.iconst 0, 1) := by decide +kernel
theorem dX8_findWay_46 : decode cX8_findWay 46 = .ok (.ireturn, 1) := by decide +kernel
theorem dX8_findWay_47 : decode cX8_findWay 47 = .ok (.aload_n 0, 1) := by decide +kernel
theorem dX8_findWay_48 : decode cX8_findWay 48 = .ok (.getfield 37, 3) := by decide +kernel
theorem dX8_findWay_51 : decode cX8_findWay 51 = .ok (.getfield 268, 3) := by decide +kernel
theorem dX8_findWay_54 : decode cX8_findWay 54 = .ok (.aload_n 1, 1) := by decide +kernel
theorem dX8_findWay_55 : decode cX8_findWay 55 = .ok (.invokevirtual 272, 3) := by decide +kernel
theorem dX8_findWay_58 : decode cX8_findWay 58 = .ok (.aload_n 0, 1) := by decide +kernel
theorem dX8_findWay_59 : decode cX8_findWay 59 = .ok (.getfield 37, 3) := by decide +kernel
theorem dX8_findWay_62 : decode cX8_findWay 62 = .ok (.aload_n 1, 1) := by decide +kernel
theorem dX8_findWay_63 : decode cX8_findWay 63 = .ok (.aload_n 0, 1) := by decide +kernel
theorem dX8_findWay_64 : decode cX8_findWay 64 = .ok (.getfield 30, 3) := by decide +kernel
theorem dX8_findWay_67 : decode cX8_findWay 67 = .ok (.getfield 242, 3) := by decide +kernel
theorem dX8_findWay_70 : decode cX8_findWay 70 = .ok (.iload_n 2, 1) := by decide +kernel
theorem dX8_findWay_71 : decode cX8_findWay 71 = .ok (.iload_n 3, 1) := by decide +kernel
theorem dX8_findWay_72 : decode cX8_findWay 72 = .ok (.invokevirtual 277, 3) := by decide +kernel
theorem dX8_findWay_75 : decode cX8_findWay 75 = .ok (.aload_n 0, 1) := by decide +kernel
theorem dX8_findWay_76 : decode cX8_findWay 76 = .ok (.getfield 37, 3) := by decide +kernel
theorem dX8_findWay_79 : decode cX8_findWay 79 = .ok (.iload 4, 2) := by decide +kernel
theorem dX8_findWay_81 : decode cX8_findWay 81 = .ok (.iload 5, 2) := by decide +kernel
theorem dX8_findWay_83 : decode cX8_findWay 83 = .ok (.iload 6, 2) := by decide +kernel
theorem dX8_findWay_85 : decode cX8_findWay 85 = .ok (.invokevirtual 281, 3) := by decide +kernel
theorem dX8_findWay_88 : decode cX8_findWay 88 = .ok (.ireturn, 1) := by decide +kernel
noncomputable def k_X8_findWay (F : Nat) : AK := ak_aload 1 (ak_iload 2 (ak_callv 7 1 (m_X7_hasPerson F) (ak_ifeq (ak_push (vI 0) ak_ireturn) (ak_iload 3 (ak_iflt (ak_push (vI 0) ak_ireturn) (ak_iload 3 (ak_push (vI 2) (ak_cmpgt (ak_push (vI 0) ak_ireturn) (ak_iload 4 (ak_call 1 (m_X8_isMinute F) (ak_ifeq (ak_push (vI 0) ak_ireturn) (ak_aload 1 (ak_iload 5 (ak_callv 7 1 (m_X7_hasPlace F) (ak_ifeq (ak_push (vI 0) ak_ireturn) (ak_aload 1 (ak_iload 6 (ak_callv 7 1 (m_X7_hasPlace F) (ak_ifeq (ak_push (vI 0) ak_ireturn) (ak_aload 0 (ak_getf 8 4 (ak_getf 3 0 (ak_aload 1 (ak_callv 1 1 (m_X1_layOut F) (ak_aload 0 (ak_getf 8 4 (ak_aload 1 (ak_aload 0 (ak_getf 8 3 (ak_getf 6 3 (ak_iload 2 (ak_iload 3 (ak_callv 3 4 (m_X3_take F) (ak_aload 0 (ak_getf 8 4 (ak_iload 4 (ak_iload 5 (ak_iload 6 (ak_callv 3 3 (m_X3_seekWay F) ak_ireturn)))))))))))))))))))))))))))))))))))))))
noncomputable def m_X8_findWay (F : Nat) : AF := mkF 2 7 (k_X8_findWay F)
set_option maxRecDepth 20000 in
theorem s_X8_findWay (F : Nat) : MA yX8_findWay cX8_findWay 7 (some .boolean) 16 (m_X8_findWay F) := met_of (Or.inr (Or.inr (Or.inl ⟨rfl, rfl⟩))) (by decide) (by
  unfold k_X8_findWay
  exact snd_aload_n (pc := 0) (i := 1) dX8_findWay_0 (snd_iload_n (pc := 1) (i := 2) dX8_findWay_1 (snd_callV (pc := 2) (n := 1) cls7 (s_X7_hasPerson F) (by decide) (by decide) wd_854 wd_851 wd_852 wd_853 wd_122 hy_X7_hasPerson dX8_findWay_2 (snd_ifeq (pc := 5) (off := 20) (tgt := 25) (by decide) dX8_findWay_5 (snd_iconst (pc := 25) dX8_findWay_25 (snd_ireturn dX8_findWay_26)) (snd_iload_n (pc := 8) (i := 3) dX8_findWay_8 (snd_iflt (pc := 9) (off := 16) (tgt := 25) (by decide) dX8_findWay_9 (snd_iconst (pc := 25) dX8_findWay_25 (snd_ireturn dX8_findWay_26)) (snd_iload_n (pc := 12) (i := 3) dX8_findWay_12 (snd_iconst (pc := 13) dX8_findWay_13 (snd_icmpgt (pc := 14) (off := 11) (tgt := 25) (by decide) dX8_findWay_14 (snd_iconst (pc := 25) dX8_findWay_25 (snd_ireturn dX8_findWay_26)) (snd_iload (pc := 17) (i := 4) dX8_findWay_17 (snd_callS (pc := 19) (n := 1) (s_X8_isMinute F) (by decide) (by decide) wd_973 wd_971 wd_972 wd_120 hy_X8_isMinute dX8_findWay_19 (snd_ifne (pc := 22) (off := 5) (tgt := 27) (by decide) dX8_findWay_22 (snd_aload_n (pc := 27) (i := 1) dX8_findWay_27 (snd_iload (pc := 28) (i := 5) dX8_findWay_28 (snd_callV (pc := 30) (n := 1) cls7 (s_X7_hasPlace F) (by decide) (by decide) wd_977 wd_974 wd_975 wd_976 wd_122 hy_X7_hasPlace dX8_findWay_30 (snd_ifeq (pc := 33) (off := 12) (tgt := 45) (by decide) dX8_findWay_33 (snd_iconst (pc := 45) dX8_findWay_45 (snd_ireturn dX8_findWay_46)) (snd_aload_n (pc := 36) (i := 1) dX8_findWay_36 (snd_iload (pc := 37) (i := 6) dX8_findWay_37 (snd_callV (pc := 39) (n := 1) cls7 (s_X7_hasPlace F) (by decide) (by decide) wd_977 wd_974 wd_975 wd_976 wd_122 hy_X7_hasPlace dX8_findWay_39 (snd_ifne (pc := 42) (off := 5) (tgt := 47) (by decide) dX8_findWay_42 (snd_aload_n (pc := 47) (i := 0) dX8_findWay_47 (snd_getf (pc := 48) cls8 (f := 4) (by decide) wd_592 dX8_findWay_48 (snd_getf (pc := 51) cls3 (f := 0) (by decide) wd_473 dX8_findWay_51 (snd_aload_n (pc := 54) (i := 1) dX8_findWay_54 (snd_callV (pc := 55) (n := 1) cls1 (s_X1_layOut F) (by decide) (by decide) wd_981 wd_978 wd_979 wd_980 wd_127 hy_X1_layOut dX8_findWay_55 (snd_aload_n (pc := 58) (i := 0) dX8_findWay_58 (snd_getf (pc := 59) cls8 (f := 4) (by decide) wd_592 dX8_findWay_59 (snd_aload_n (pc := 62) (i := 1) dX8_findWay_62 (snd_aload_n (pc := 63) (i := 0) dX8_findWay_63 (snd_getf (pc := 64) cls8 (f := 3) (by decide) wd_591 dX8_findWay_64 (snd_getf (pc := 67) cls6 (f := 3) (by decide) wd_408 dX8_findWay_67 (snd_iload_n (pc := 70) (i := 2) dX8_findWay_70 (snd_iload_n (pc := 71) (i := 3) dX8_findWay_71 (snd_callV (pc := 72) (n := 4) cls3 (s_X3_take F) (by decide) (by decide) wd_1011 wd_1008 wd_1009 wd_1010 wd_126 hy_X3_take dX8_findWay_72 (snd_aload_n (pc := 75) (i := 0) dX8_findWay_75 (snd_getf (pc := 76) cls8 (f := 4) (by decide) wd_592 dX8_findWay_76 (snd_iload (pc := 79) (i := 4) dX8_findWay_79 (snd_iload (pc := 81) (i := 5) dX8_findWay_81 (snd_iload (pc := 83) (i := 6) dX8_findWay_83 (snd_callV (pc := 85) (n := 3) cls3 (s_X3_seekWay F) (by decide) (by decide) wd_1015 wd_1012 wd_1013 wd_1014 wd_126 hy_X3_seekWay dX8_findWay_85 (snd_ireturn dX8_findWay_88))))))))))))))))))))) (snd_iconst (pc := 45) dX8_findWay_45 (snd_ireturn dX8_findWay_46)))))))))) (snd_iconst (pc := 25) dX8_findWay_25 (snd_ireturn dX8_findWay_26))))))))))))))

/-! LastWalker.way(IIIIIIIII)I -/
theorem dX8_way_0 : decode cX8_way 0 = .ok (.aload_n 0, 1) := by decide +kernel
theorem dX8_way_1 : decode cX8_way 1 = .ok (.iload_n 1, 1) := by decide +kernel
theorem dX8_way_2 : decode cX8_way 2 = .ok (.iload_n 2, 1) := by decide +kernel
theorem dX8_way_3 : decode cX8_way 3 = .ok (.iload_n 3, 1) := by decide +kernel
theorem dX8_way_4 : decode cX8_way 4 = .ok (.invokevirtual 232, 3) := by decide +kernel
theorem dX8_way_7 : decode cX8_way 7 = .ok (.astore 10, 2) := by decide +kernel
theorem dX8_way_9 : decode cX8_way 9 = .ok (.aload 10, 2) := by decide +kernel
theorem dX8_way_11 : decode cX8_way 11 = .ok (.ifnull 22, 3) := by decide +kernel
theorem dX8_way_14 : decode cX8_way 14 = .ok (.aload_n 0, 1) := by decide +kernel
theorem dX8_way_15 : decode cX8_way 15 = .ok (.aload 10, 2) := by decide +kernel
theorem dX8_way_17 : decode cX8_way 17 = .ok (.iload 4, 2) := by decide +kernel
theorem dX8_way_19 : decode cX8_way 19 = .ok (.iload 5, 2) := by decide +kernel
theorem dX8_way_21 : decode cX8_way 21 = .ok (.iload 6, 2) := by decide +kernel
theorem dX8_way_23 : decode cX8_way 23 = .ok (.iload 7, 2) := by decide +kernel
theorem dX8_way_25 : decode cX8_way 25 = .ok (.iload 8, 2) := by decide +kernel
theorem dX8_way_27 : decode cX8_way 27 = .ok (.invokevirtual 285, 3) := by decide +kernel
theorem dX8_way_30 : decode cX8_way 30 = .ok (.ifCond .ne 6, 3) := by decide +kernel
theorem dX8_way_33 : decode cX8_way 33 = .ok (.bipush (-2), 2) := by decide +kernel
theorem dX8_way_35 : decode cX8_way 35 = .ok (.ireturn, 1) := by decide +kernel
theorem dX8_way_36 : decode cX8_way 36 = .ok (.iload 9, 2) := by decide +kernel
theorem dX8_way_38 : decode cX8_way 38 = .ok (.iconst 1, 1) := by decide +kernel
theorem dX8_way_39 : decode cX8_way 39 = .ok (.if_icmp .ne 14, 3) := by decide +kernel
theorem dX8_way_42 : decode cX8_way 42 = .ok (.aload_n 0, 1) := by decide +kernel
theorem dX8_way_43 : decode cX8_way 43 = .ok (.getfield 37, 3) := by decide +kernel
theorem dX8_way_46 : decode cX8_way 46 = .ok (.getfield 289, 3) := by decide +kernel
theorem dX8_way_49 : decode cX8_way 49 = .ok (.iload 6, 2) := by decide +kernel
theorem dX8_way_51 : decode cX8_way 51 = .ok (.isub, 1) := by decide +kernel
theorem dX8_way_52 : decode cX8_way 52 = .ok (.ireturn, 1) := by decide +kernel
theorem dX8_way_53 : decode cX8_way 53 = .ok (.iload 9, 2) := by decide +kernel
theorem dX8_way_55 : decode cX8_way 55 = .ok (.iconst 2, 1) := by decide +kernel
theorem dX8_way_56 : decode cX8_way 56 = .ok (.if_icmp .ne 13, 3) := by decide +kernel
theorem dX8_way_59 : decode cX8_way 59 = .ok (.aload_n 0, 1) := by decide +kernel
theorem dX8_way_60 : decode cX8_way 60 = .ok (.getfield 37, 3) := by decide +kernel
theorem dX8_way_63 : decode cX8_way 63 = .ok (.invokevirtual 292, 3) := by decide +kernel
theorem dX8_way_66 : decode cX8_way 66 = .ok (.goto 14, 3) := by decide +kernel
theorem dX8_way_69 : decode cX8_way 69 = .ok (.aload_n 0, 1) := by decide +kernel
theorem dX8_way_70 : decode cX8_way 70 = .ok (.getfield 37, 3) := by decide +kernel
theorem dX8_way_73 : decode cX8_way 73 = .ok (.iload 9, 2) := by decide +kernel
theorem dX8_way_75 : decode cX8_way 75 = .ok (.bipush (-2), 2) := by decide +kernel
theorem dX8_way_77 : decode cX8_way 77 = .ok (.invokevirtual 295, 3) := by decide +kernel
theorem dX8_way_80 : decode cX8_way 80 = .ok (.ireturn, 1) := by decide +kernel
noncomputable def k_X8_way (F : Nat) : AK := ak_aload 0 (ak_iload 1 (ak_iload 2 (ak_iload 3 (ak_callv 8 3 (m_X8_townOfState F) (ak_astore 10 (ak_aload 10 (ak_ifnull (ak_push (vI (-2)) ak_ireturn) (ak_aload 0 (ak_aload 10 (ak_iload 4 (ak_iload 5 (ak_iload 6 (ak_iload 7 (ak_iload 8 (ak_callv 8 6 (m_X8_findWay F) (ak_ifeq (ak_push (vI (-2)) ak_ireturn) (ak_iload 9 (ak_push (vI 1) (ak_cmpeq (ak_aload 0 (ak_getf 8 4 (ak_getf 3 3 (ak_iload 6 (ak_isub ak_ireturn))))) (ak_iload 9 (ak_push (vI 2) (ak_cmpeq (ak_aload 0 (ak_getf 8 4 (ak_callv 3 0 (m_X3_tollOfBest F) ak_ireturn))) (ak_aload 0 (ak_getf 8 4 (ak_iload 9 (ak_push (vI (-2)) (ak_callv 3 2 (m_X3_tellRow F) ak_ireturn)))))))))))))))))))))))))))
noncomputable def m_X8_way (F : Nat) : AF := mkF 1 11 (k_X8_way F)
set_option maxRecDepth 20000 in
theorem s_X8_way (F : Nat) : MA yX8_way cX8_way 11 (some .int) 17 (m_X8_way F) := met_of (Or.inr (Or.inl ⟨rfl, rfl⟩)) (by decide) (by
  unfold k_X8_way
  exact snd_aload_n (pc := 0) (i := 0) dX8_way_0 (snd_iload_n (pc := 1) (i := 1) dX8_way_1 (snd_iload_n (pc := 2) (i := 2) dX8_way_2 (snd_iload_n (pc := 3) (i := 3) dX8_way_3 (snd_callV (pc := 4) (n := 3) cls8 (s_X8_townOfState F) (by decide) (by decide) wd_938 wd_935 wd_937 wd_23 wd_120 hy_X8_townOfState dX8_way_4 (snd_astore (pc := 7) (i := 10) (by decide) dX8_way_7 (snd_aload (pc := 9) (i := 10) dX8_way_9 (snd_ifnull (pc := 11) (off := 22) (tgt := 33) (by decide) dX8_way_11 (snd_bipush (pc := 33) (by decide) dX8_way_33 (snd_ireturn dX8_way_35)) (snd_aload_n (pc := 14) (i := 0) dX8_way_14 (snd_aload (pc := 15) (i := 10) dX8_way_15 (snd_iload (pc := 17) (i := 4) dX8_way_17 (snd_iload (pc := 19) (i := 5) dX8_way_19 (snd_iload (pc := 21) (i := 6) dX8_way_21 (snd_iload (pc := 23) (i := 7) dX8_way_23 (snd_iload (pc := 25) (i := 8) dX8_way_25 (snd_callV (pc := 27) (n := 6) cls8 (s_X8_findWay F) (by decide) (by decide) wd_970 wd_967 wd_969 wd_24 wd_120 hy_X8_findWay dX8_way_27 (snd_ifne (pc := 30) (off := 6) (tgt := 36) (by decide) dX8_way_30 (snd_iload (pc := 36) (i := 9) dX8_way_36 (snd_iconst (pc := 38) dX8_way_38 (snd_icmpne (pc := 39) (off := 14) (tgt := 53) (by decide) dX8_way_39 (snd_iload (pc := 53) (i := 9) dX8_way_53 (snd_iconst (pc := 55) dX8_way_55 (snd_icmpne (pc := 56) (off := 13) (tgt := 69) (by decide) dX8_way_56 (snd_aload_n (pc := 69) (i := 0) dX8_way_69 (snd_getf (pc := 70) cls8 (f := 4) (by decide) wd_592 dX8_way_70 (snd_iload (pc := 73) (i := 9) dX8_way_73 (snd_bipush (pc := 75) (by decide) dX8_way_75 (snd_callV (pc := 77) (n := 2) cls3 (s_X3_tellRow F) (by decide) (by decide) wd_1056 wd_1053 wd_1054 wd_1055 wd_126 hy_X3_tellRow dX8_way_77 (snd_ireturn dX8_way_80)))))) (snd_aload_n (pc := 59) (i := 0) dX8_way_59 (snd_getf (pc := 60) cls8 (f := 4) (by decide) wd_592 dX8_way_60 (snd_callV (pc := 63) (n := 0) cls3 (s_X3_tollOfBest F) (by decide) (by decide) wd_1052 wd_1049 wd_1050 wd_1051 wd_126 hy_X3_tollOfBest dX8_way_63 (snd_goto (pc := 66) (off := 14) (tgt := 80) (by decide) dX8_way_66 (snd_ireturn dX8_way_80)))))))) (snd_aload_n (pc := 42) (i := 0) dX8_way_42 (snd_getf (pc := 43) cls8 (f := 4) (by decide) wd_592 dX8_way_43 (snd_getf (pc := 46) cls3 (f := 3) (by decide) wd_481 dX8_way_46 (snd_iload (pc := 49) (i := 6) dX8_way_49 (snd_isub (pc := 51) dX8_way_51 (snd_ireturn dX8_way_52))))))))) (snd_bipush (pc := 33) (by decide) dX8_way_33 (snd_ireturn dX8_way_35)))))))))))))))))))

/-! LastWalker.cost(IIIIIIIIZ)J -/
theorem dX8_cost_0 : decode cX8_cost 0 = .ok (.aload_n 0, 1) := by decide +kernel
theorem dX8_cost_1 : decode cX8_cost 1 = .ok (.iload_n 1, 1) := by decide +kernel
theorem dX8_cost_2 : decode cX8_cost 2 = .ok (.iload_n 2, 1) := by decide +kernel
theorem dX8_cost_3 : decode cX8_cost 3 = .ok (.iload_n 3, 1) := by decide +kernel
theorem dX8_cost_4 : decode cX8_cost 4 = .ok (.invokevirtual 232, 3) := by decide +kernel
theorem dX8_cost_7 : decode cX8_cost 7 = .ok (.astore 10, 2) := by decide +kernel
theorem dX8_cost_9 : decode cX8_cost 9 = .ok (.aload 10, 2) := by decide +kernel
theorem dX8_cost_11 : decode cX8_cost 11 = .ok (.ifnull 22, 3) := by decide +kernel
theorem dX8_cost_14 : decode cX8_cost 14 = .ok (.aload_n 0, 1) := by decide +kernel
theorem dX8_cost_15 : decode cX8_cost 15 = .ok (.aload 10, 2) := by decide +kernel
theorem dX8_cost_17 : decode cX8_cost 17 = .ok (.iload 4, 2) := by decide +kernel
theorem dX8_cost_19 : decode cX8_cost 19 = .ok (.iload 5, 2) := by decide +kernel
theorem dX8_cost_21 : decode cX8_cost 21 = .ok (.iload 6, 2) := by decide +kernel
theorem dX8_cost_23 : decode cX8_cost 23 = .ok (.iload 7, 2) := by decide +kernel
theorem dX8_cost_25 : decode cX8_cost 25 = .ok (.iload 8, 2) := by decide +kernel
theorem dX8_cost_27 : decode cX8_cost 27 = .ok (.invokevirtual 285, 3) := by decide +kernel
theorem dX8_cost_30 : decode cX8_cost 30 = .ok (.ifCond .ne 7, 3) := by decide +kernel
theorem dX8_cost_33 : decode cX8_cost 33 = .ok (.ldc2_w 298, 3) := by decide +kernel
theorem dX8_cost_36 : decode cX8_cost 36 = .ok (.lreturn, 1) := by decide +kernel
theorem dX8_cost_37 : decode cX8_cost 37 = .ok (.aload_n 0, 1) := by decide +kernel
theorem dX8_cost_38 : decode cX8_cost 38 = .ok (.getfield 37, 3) := by decide +kernel
theorem dX8_cost_41 : decode cX8_cost 41 = .ok (.getfield 300, 3) := by decide +kernel
theorem dX8_cost_44 : decode cX8_cost 44 = .ok (.lstore 11, 2) := by decide +kernel
theorem dX8_cost_46 : decode cX8_cost 46 = .ok (.iload 9, 2) := by decide +kernel
theorem dX8_cost_48 : decode cX8_cost 48 = .ok (.ifCond .ne 6, 3) := by decide +kernel
theorem dX8_cost_51 : decode cX8_cost 51 = .ok (.lload 11, 2) := by decide +kernel
theorem dX8_cost_53 : decode cX8_cost 53 = .ok (.lreturn, 1) := by decide +kernel
theorem dX8_cost_54 : decode cX8_cost 54 = .ok (.aload_n 0, 1) := by decide +kernel
theorem dX8_cost_55 : decode cX8_cost 55 = .ok (.getfield 37, 3) := by decide +kernel
theorem dX8_cost_58 : decode cX8_cost 58 = .ok (.iload 6, 2) := by decide +kernel
theorem dX8_cost_60 : decode cX8_cost 60 = .ok (.invokevirtual 304, 3) := by decide +kernel
theorem dX8_cost_63 : decode cX8_cost 63 = .ok (.aload_n 0, 1) := by decide +kernel
theorem dX8_cost_64 : decode cX8_cost 64 = .ok (.getfield 37, 3) := by decide +kernel
theorem dX8_cost_67 : decode cX8_cost 67 = .ok (.aload_n 0, 1) := by decide +kernel
theorem dX8_cost_68 : decode cX8_cost 68 = .ok (.getfield 37, 3) := by decide +kernel
theorem dX8_cost_71 : decode cX8_cost 71 = .ok (.getfield 289, 3) := by decide +kernel
theorem dX8_cost_74 : decode cX8_cost 74 = .ok (.iload 8, 2) := by decide +kernel
theorem dX8_cost_76 : decode cX8_cost 76 = .ok (.iload 7, 2) := by decide +kernel
theorem dX8_cost_78 : decode cX8_cost 78 = .ok (.invokevirtual 281, 3) := by decide +kernel
theorem dX8_cost_81 : decode cX8_cost 81 = .ok (.ifCond .eq 16, 3) := by decide +kernel
theorem dX8_cost_84 : decode cX8_cost 84 = .ok (.lload 11, 2) := by decide +kernel
theorem dX8_cost_86 : decode cX8_cost 86 = .ok (.aload_n 0, 1) := by decide +kernel
theorem dX8_cost_87 : decode cX8_cost 87 = .ok (.getfield 37, 3) := by decide +kernel
theorem dX8_cost_90 : decode cX8_cost 90 = .ok (.getfield 300, 3) := by decide +kernel
theorem dX8_cost_93 : decode cX8_cost 93 = .ok (.ladd, 1) := by decide +kernel
theorem dX8_cost_94 : decode cX8_cost 94 = .ok (.goto 6, 3) := by decide +kernel
theorem dX8_cost_97 : decode cX8_cost 97 = .ok (.ldc2_w 298, 3) := by decide +kernel
theorem dX8_cost_100 : decode cX8_cost 100 = .ok (.lreturn, 1) := by decide +kernel
noncomputable def k_X8_cost (F : Nat) : AK := ak_aload 0 (ak_iload 1 (ak_iload 2 (ak_iload 3 (ak_callv 8 3 (m_X8_townOfState F) (ak_astore 10 (ak_aload 10 (ak_ifnull (ak_push (vL (-9223372036854775808)) ak_lreturn) (ak_aload 0 (ak_aload 10 (ak_iload 4 (ak_iload 5 (ak_iload 6 (ak_iload 7 (ak_iload 8 (ak_callv 8 6 (m_X8_findWay F) (ak_ifeq (ak_push (vL (-9223372036854775808)) ak_lreturn) (ak_aload 0 (ak_getf 8 4 (ak_getf 3 4 (ak_lstore 11 (ak_iload 9 (ak_ifeq (ak_lload 11 ak_lreturn) (ak_aload 0 (ak_getf 8 4 (ak_iload 6 (ak_callv 3 1 (m_X3_takeRoadsOfBest F) (ak_aload 0 (ak_getf 8 4 (ak_aload 0 (ak_getf 8 4 (ak_getf 3 3 (ak_iload 8 (ak_iload 7 (ak_callv 3 3 (m_X3_seekWay F) (ak_ifeq (ak_push (vL (-9223372036854775808)) ak_lreturn) (ak_lload 11 (ak_aload 0 (ak_getf 8 4 (ak_getf 3 4 (ak_ladd ak_lreturn))))))))))))))))))))))))))))))))))))))))
noncomputable def m_X8_cost (F : Nat) : AF := mkF 4 13 (k_X8_cost F)
set_option maxRecDepth 20000 in
theorem s_X8_cost (F : Nat) : MA yX8_cost cX8_cost 13 (some .long) 17 (m_X8_cost F) := met_of (Or.inr (Or.inr (Or.inr (Or.inr (Or.inl ⟨rfl, rfl⟩))))) (by decide) (by
  unfold k_X8_cost
  exact snd_aload_n (pc := 0) (i := 0) dX8_cost_0 (snd_iload_n (pc := 1) (i := 1) dX8_cost_1 (snd_iload_n (pc := 2) (i := 2) dX8_cost_2 (snd_iload_n (pc := 3) (i := 3) dX8_cost_3 (snd_callV (pc := 4) (n := 3) cls8 (s_X8_townOfState F) (by decide) (by decide) wd_938 wd_935 wd_937 wd_23 wd_120 hy_X8_townOfState dX8_cost_4 (snd_astore (pc := 7) (i := 10) (by decide) dX8_cost_7 (snd_aload (pc := 9) (i := 10) dX8_cost_9 (snd_ifnull (pc := 11) (off := 22) (tgt := 33) (by decide) dX8_cost_11 (snd_ldc2 (pc := 33) (z := (-9223372036854775808)) (by decide) wd_1061 dX8_cost_33 (snd_lreturn dX8_cost_36)) (snd_aload_n (pc := 14) (i := 0) dX8_cost_14 (snd_aload (pc := 15) (i := 10) dX8_cost_15 (snd_iload (pc := 17) (i := 4) dX8_cost_17 (snd_iload (pc := 19) (i := 5) dX8_cost_19 (snd_iload (pc := 21) (i := 6) dX8_cost_21 (snd_iload (pc := 23) (i := 7) dX8_cost_23 (snd_iload (pc := 25) (i := 8) dX8_cost_25 (snd_callV (pc := 27) (n := 6) cls8 (s_X8_findWay F) (by decide) (by decide) wd_970 wd_967 wd_969 wd_24 wd_120 hy_X8_findWay dX8_cost_27 (snd_ifne (pc := 30) (off := 7) (tgt := 37) (by decide) dX8_cost_30 (snd_aload_n (pc := 37) (i := 0) dX8_cost_37 (snd_getf (pc := 38) cls8 (f := 4) (by decide) wd_592 dX8_cost_38 (snd_getf (pc := 41) cls3 (f := 4) (by decide) wd_483 dX8_cost_41 (snd_lstore (pc := 44) (i := 11) (by decide) dX8_cost_44 (snd_iload (pc := 46) (i := 9) dX8_cost_46 (snd_ifne (pc := 48) (off := 6) (tgt := 54) (by decide) dX8_cost_48 (snd_aload_n (pc := 54) (i := 0) dX8_cost_54 (snd_getf (pc := 55) cls8 (f := 4) (by decide) wd_592 dX8_cost_55 (snd_iload (pc := 58) (i := 6) dX8_cost_58 (snd_callV (pc := 60) (n := 1) cls3 (s_X3_takeRoadsOfBest F) (by decide) (by decide) wd_1065 wd_1062 wd_1063 wd_1064 wd_126 hy_X3_takeRoadsOfBest dX8_cost_60 (snd_aload_n (pc := 63) (i := 0) dX8_cost_63 (snd_getf (pc := 64) cls8 (f := 4) (by decide) wd_592 dX8_cost_64 (snd_aload_n (pc := 67) (i := 0) dX8_cost_67 (snd_getf (pc := 68) cls8 (f := 4) (by decide) wd_592 dX8_cost_68 (snd_getf (pc := 71) cls3 (f := 3) (by decide) wd_481 dX8_cost_71 (snd_iload (pc := 74) (i := 8) dX8_cost_74 (snd_iload (pc := 76) (i := 7) dX8_cost_76 (snd_callV (pc := 78) (n := 3) cls3 (s_X3_seekWay F) (by decide) (by decide) wd_1015 wd_1012 wd_1013 wd_1014 wd_126 hy_X3_seekWay dX8_cost_78 (snd_ifeq (pc := 81) (off := 16) (tgt := 97) (by decide) dX8_cost_81 (snd_ldc2 (pc := 97) (z := (-9223372036854775808)) (by decide) wd_1061 dX8_cost_97 (snd_lreturn dX8_cost_100)) (snd_lload (pc := 84) (i := 11) dX8_cost_84 (snd_aload_n (pc := 86) (i := 0) dX8_cost_86 (snd_getf (pc := 87) cls8 (f := 4) (by decide) wd_592 dX8_cost_87 (snd_getf (pc := 90) cls3 (f := 4) (by decide) wd_483 dX8_cost_90 (snd_ladd (pc := 93) dX8_cost_93 (snd_goto (pc := 94) (off := 6) (tgt := 100) (by decide) dX8_cost_94 (snd_lreturn dX8_cost_100)))))))))))))))))))) (snd_lload (pc := 51) (i := 11) dX8_cost_51 (snd_lreturn dX8_cost_53)))))))) (snd_ldc2 (pc := 33) (z := (-9223372036854775808)) (by decide) wd_1061 dX8_cost_33 (snd_lreturn dX8_cost_36)))))))))))))))))))

/-! LastWalker.findRounds(LLastWalker$Town;IIIZ)Z -/
theorem dX8_findRounds_0 : decode cX8_findRounds 0 = .ok (.aload_n 1, 1) := by decide +kernel
theorem dX8_findRounds_1 : decode cX8_findRounds 1 = .ok (.iload_n 2, 1) := by decide +kernel
theorem dX8_findRounds_2 : decode cX8_findRounds 2 = .ok (.invokevirtual 177, 3) := by decide +kernel
theorem dX8_findRounds_5 : decode cX8_findRounds 5 = .ok (.ifCond .eq 19, 3) := by decide +kernel
theorem dX8_findRounds_8 : decode cX8_findRounds 8 = .ok (.iload_n 3, 1) := by decide +kernel
theorem dX8_findRounds_9 : decode cX8_findRounds 9 = .ok (.invokestatic 262, 3) := by decide +kernel
theorem dX8_findRounds_12 : decode cX8_findRounds 12 = .ok (.ifCond .eq 12, 3) := by decide +kernel
theorem dX8_findRounds_15 : decode cX8_findRounds 15 = .ok (.aload_n 1, 1) := by decide +kernel
theorem dX8_findRounds_16 : decode cX8_findRounds 16 = .ok (.iload 4, 2) := by decide +kernel
theorem dX8_findRounds_18 : decode cX8_findRounds 18 = .ok (.invokevirtual 265, 3) := by decide +kernel
theorem dX8_findRounds_21 : decode cX8_findRounds 21 = .ok (.ifCond .ne 5, 3) := by decide +kernel
theorem dX8_findRounds_24 : decode cX8_findRounds 24 = .ok (.iconst 0, 1) := by decide +kernel
theorem dX8_findRounds_25 : decode cX8_findRounds 25 = .ok (.ireturn, 1) := by decide +kernel
theorem dX8_findRounds_26 : decode cX8_findRounds 26 = .ok (.aload_n 0, 1) := by decide +kernel
theorem dX8_findRounds_27 : decode cX8_findRounds 27 = .ok (.getfield 37, 3) := by decide +kernel
theorem dX8_findRounds_30 : decode cX8_findRounds 30 = .ok (.getfield 268, 3) := by decide +kernel
theorem dX8_findRounds_33 : decode cX8_findRounds 33 = .ok (.aload_n 1, 1) := by decide +kernel
theorem dX8_findRounds_34 : decode cX8_findRounds 34 = .ok (.invokevirtual 272, 3) := by decide +kernel
theorem dX8_findRounds_37 : decode cX8_findRounds 37 = .ok (.aload_n 0, 1) := by decide +kernel
theorem dX8_findRounds_38 : decode cX8_findRounds 38 = .ok (.getfield 37, 3) := by decide +kernel
theorem dX8_findRounds_41 : decode cX8_findRounds 41 = .ok (.aload_n 1, 1) := by decide +kernel
theorem dX8_findRounds_42 : decode cX8_findRounds 42 = .ok (.aload_n 0, 1) := by decide +kernel
theorem dX8_findRounds_43 : decode cX8_findRounds 43 = .ok (.getfield 30, 3) := by decide +kernel
theorem dX8_findRounds_46 : decode cX8_findRounds 46 = .ok (.getfield 242, 3) := by decide +kernel
theorem dX8_findRounds_49 : decode cX8_findRounds 49 = .ok (.iload_n 2, 1) := by decide +kernel
theorem dX8_findRounds_50 : decode cX8_findRounds 50 = .ok (.iconst 2, 1) := by decide +kernel
theorem dX8_findRounds_51 : decode cX8_findRounds 51 = .ok (.invokevirtual 277, 3) := by decide +kernel
theorem dX8_findRounds_54 : decode cX8_findRounds 54 = .ok (.aload_n 0, 1) := by decide +kernel
theorem dX8_findRounds_55 : decode cX8_findRounds 55 = .ok (.getfield 37, 3) := by decide +kernel
theorem dX8_findRounds_58 : decode cX8_findRounds 58 = .ok (.iload_n 3, 1) := by decide +kernel
theorem dX8_findRounds_59 : decode cX8_findRounds 59 = .ok (.iload 4, 2) := by decide +kernel
theorem dX8_findRounds_61 : decode cX8_findRounds 61 = .ok (.iload 5, 2) := by decide +kernel
theorem dX8_findRounds_63 : decode cX8_findRounds 63 = .ok (.invokevirtual 307, 3) := by decide +kernel
theorem dX8_findRounds_66 : decode cX8_findRounds 66 = .ok (.iconst 1, 1) := by decide +kernel
theorem dX8_findRounds_67 : decode cX8_findRounds 67 = .ok (.ireturn, 1) := by decide +kernel
noncomputable def k_X8_findRounds (F : Nat) : AK := ak_aload 1 (ak_iload 2 (ak_callv 7 1 (m_X7_hasPerson F) (ak_ifeq (ak_push (vI 0) ak_ireturn) (ak_iload 3 (ak_call 1 (m_X8_isMinute F) (ak_ifeq (ak_push (vI 0) ak_ireturn) (ak_aload 1 (ak_iload 4 (ak_callv 7 1 (m_X7_hasPlace F) (ak_ifeq (ak_push (vI 0) ak_ireturn) (ak_aload 0 (ak_getf 8 4 (ak_getf 3 0 (ak_aload 1 (ak_callv 1 1 (m_X1_layOut F) (ak_aload 0 (ak_getf 8 4 (ak_aload 1 (ak_aload 0 (ak_getf 8 3 (ak_getf 6 3 (ak_iload 2 (ak_push (vI 2) (ak_callv 3 4 (m_X3_take F) (ak_aload 0 (ak_getf 8 4 (ak_iload 3 (ak_iload 4 (ak_iload 5 (ak_callv 3 3 (m_X3_seekRounds F) (ak_push (vI 1) ak_ireturn)))))))))))))))))))))))))))))))
noncomputable def m_X8_findRounds (F : Nat) : AF := mkF 2 6 (k_X8_findRounds F)
set_option maxRecDepth 20000 in
theorem s_X8_findRounds (F : Nat) : MA yX8_findRounds cX8_findRounds 6 (some .boolean) 17 (m_X8_findRounds F) := met_of (Or.inr (Or.inr (Or.inl ⟨rfl, rfl⟩))) (by decide) (by
  unfold k_X8_findRounds
  exact snd_aload_n (pc := 0) (i := 1) dX8_findRounds_0 (snd_iload_n (pc := 1) (i := 2) dX8_findRounds_1 (snd_callV (pc := 2) (n := 1) cls7 (s_X7_hasPerson F) (by decide) (by decide) wd_854 wd_851 wd_852 wd_853 wd_122 hy_X7_hasPerson dX8_findRounds_2 (snd_ifeq (pc := 5) (off := 19) (tgt := 24) (by decide) dX8_findRounds_5 (snd_iconst (pc := 24) dX8_findRounds_24 (snd_ireturn dX8_findRounds_25)) (snd_iload_n (pc := 8) (i := 3) dX8_findRounds_8 (snd_callS (pc := 9) (n := 1) (s_X8_isMinute F) (by decide) (by decide) wd_973 wd_971 wd_972 wd_120 hy_X8_isMinute dX8_findRounds_9 (snd_ifeq (pc := 12) (off := 12) (tgt := 24) (by decide) dX8_findRounds_12 (snd_iconst (pc := 24) dX8_findRounds_24 (snd_ireturn dX8_findRounds_25)) (snd_aload_n (pc := 15) (i := 1) dX8_findRounds_15 (snd_iload (pc := 16) (i := 4) dX8_findRounds_16 (snd_callV (pc := 18) (n := 1) cls7 (s_X7_hasPlace F) (by decide) (by decide) wd_977 wd_974 wd_975 wd_976 wd_122 hy_X7_hasPlace dX8_findRounds_18 (snd_ifne (pc := 21) (off := 5) (tgt := 26) (by decide) dX8_findRounds_21 (snd_aload_n (pc := 26) (i := 0) dX8_findRounds_26 (snd_getf (pc := 27) cls8 (f := 4) (by decide) wd_592 dX8_findRounds_27 (snd_getf (pc := 30) cls3 (f := 0) (by decide) wd_473 dX8_findRounds_30 (snd_aload_n (pc := 33) (i := 1) dX8_findRounds_33 (snd_callV (pc := 34) (n := 1) cls1 (s_X1_layOut F) (by decide) (by decide) wd_981 wd_978 wd_979 wd_980 wd_127 hy_X1_layOut dX8_findRounds_34 (snd_aload_n (pc := 37) (i := 0) dX8_findRounds_37 (snd_getf (pc := 38) cls8 (f := 4) (by decide) wd_592 dX8_findRounds_38 (snd_aload_n (pc := 41) (i := 1) dX8_findRounds_41 (snd_aload_n (pc := 42) (i := 0) dX8_findRounds_42 (snd_getf (pc := 43) cls8 (f := 3) (by decide) wd_591 dX8_findRounds_43 (snd_getf (pc := 46) cls6 (f := 3) (by decide) wd_408 dX8_findRounds_46 (snd_iload_n (pc := 49) (i := 2) dX8_findRounds_49 (snd_iconst (pc := 50) dX8_findRounds_50 (snd_callV (pc := 51) (n := 4) cls3 (s_X3_take F) (by decide) (by decide) wd_1011 wd_1008 wd_1009 wd_1010 wd_126 hy_X3_take dX8_findRounds_51 (snd_aload_n (pc := 54) (i := 0) dX8_findRounds_54 (snd_getf (pc := 55) cls8 (f := 4) (by decide) wd_592 dX8_findRounds_55 (snd_iload_n (pc := 58) (i := 3) dX8_findRounds_58 (snd_iload (pc := 59) (i := 4) dX8_findRounds_59 (snd_iload (pc := 61) (i := 5) dX8_findRounds_61 (snd_callV (pc := 63) (n := 3) cls3 (s_X3_seekRounds F) (by decide) (by decide) wd_1078 wd_1075 wd_1076 wd_1077 wd_126 hy_X3_seekRounds dX8_findRounds_63 (snd_iconst (pc := 66) dX8_findRounds_66 (snd_ireturn dX8_findRounds_67)))))))))))))))))))))) (snd_iconst (pc := 24) dX8_findRounds_24 (snd_ireturn dX8_findRounds_25)))))))))))))

/-! LastWalker.round(IIIIIII)I -/
theorem dX8_round_0 : decode cX8_round 0 = .ok (.aload_n 0, 1) := by decide +kernel
theorem dX8_round_1 : decode cX8_round 1 = .ok (.iload_n 1, 1) := by decide +kernel
theorem dX8_round_2 : decode cX8_round 2 = .ok (.iload_n 2, 1) := by decide +kernel
theorem dX8_round_3 : decode cX8_round 3 = .ok (.iload_n 3, 1) := by decide +kernel
theorem dX8_round_4 : decode cX8_round 4 = .ok (.invokevirtual 232, 3) := by decide +kernel
theorem dX8_round_7 : decode cX8_round 7 = .ok (.astore 8, 2) := by decide +kernel
theorem dX8_round_9 : decode cX8_round 9 = .ok (.aload 8, 2) := by decide +kernel
theorem dX8_round_11 : decode cX8_round 11 = .ok (.ifnull 29, 3) := by decide +kernel
theorem dX8_round_14 : decode cX8_round 14 = .ok (.aload_n 0, 1) := by decide +kernel
theorem dX8_round_15 : decode cX8_round 15 = .ok (.aload 8, 2) := by decide +kernel
theorem dX8_round_17 : decode cX8_round 17 = .ok (.iload 4, 2) := by decide +kernel
theorem dX8_round_19 : decode cX8_round 19 = .ok (.iload 5, 2) := by decide +kernel
theorem dX8_round_21 : decode cX8_round 21 = .ok (.iload 6, 2) := by decide +kernel
theorem dX8_round_23 : decode cX8_round 23 = .ok (.iconst 0, 1) := by decide +kernel
theorem dX8_round_24 : decode cX8_round 24 = .ok (.invokevirtual 311, 3) := by decide +kernel
theorem dX8_round_27 : decode cX8_round 27 = .ok (.ifCond .eq 13, 3) := by decide +kernel
theorem dX8_round_30 : decode cX8_round 30 = .ok (.aload_n 0, 1) := by decide +kernel
theorem dX8_round_31 : decode cX8_round 31 = .ok (.getfield 37, 3) := by decide +kernel
theorem dX8_round_34 : decode cX8_round 34 = .ok (.getfield 315, 3) := by decide +kernel
theorem dX8_round_37 : decode cX8_round 37 = .ok (.ifCond .ne 5, 3) := by decide +kernel
theorem dX8_round_40 : decode cX8_round 40 = .ok (.iconst (-1), 1) := by decide +kernel
theorem dX8_round_41 : decode cX8_round 41 = .ok (.ireturn, 1) := by decide +kernel
theorem dX8_round_42 : decode cX8_round 42 = .ok (.aload_n 0, 1) := by decide +kernel
theorem dX8_round_43 : decode cX8_round 43 = .ok (.getfield 37, 3) := by decide +kernel
theorem dX8_round_46 : decode cX8_round 46 = .ok (.iload 7, 2) := by decide +kernel
theorem dX8_round_48 : decode cX8_round 48 = .ok (.iconst (-1), 1) := by decide +kernel
theorem dX8_round_49 : decode cX8_round 49 = .ok (.invokevirtual 295, 3) := by decide +kernel
theorem dX8_round_52 : decode cX8_round 52 = .ok (.ireturn, 1) := by decide +kernel
noncomputable def k_X8_round (F : Nat) : AK := ak_aload 0 (ak_iload 1 (ak_iload 2 (ak_iload 3 (ak_callv 8 3 (m_X8_townOfState F) (ak_astore 8 (ak_aload 8 (ak_ifnull (ak_push (vI (-1)) ak_ireturn) (ak_aload 0 (ak_aload 8 (ak_iload 4 (ak_iload 5 (ak_iload 6 (ak_push (vI 0) (ak_callv 8 5 (m_X8_findRounds F) (ak_ifeq (ak_push (vI (-1)) ak_ireturn) (ak_aload 0 (ak_getf 8 4 (ak_getf 3 2 (ak_ifeq (ak_push (vI (-1)) ak_ireturn) (ak_aload 0 (ak_getf 8 4 (ak_iload 7 (ak_push (vI (-1)) (ak_callv 3 2 (m_X3_tellRow F) ak_ireturn))))))))))))))))))))))))
noncomputable def m_X8_round (F : Nat) : AF := mkF 1 9 (k_X8_round F)
set_option maxRecDepth 20000 in
theorem s_X8_round (F : Nat) : MA yX8_round cX8_round 9 (some .int) 18 (m_X8_round F) := met_of (Or.inr (Or.inl ⟨rfl, rfl⟩)) (by decide) (by
  unfold k_X8_round
  exact snd_aload_n (pc := 0) (i := 0) dX8_round_0 (snd_iload_n (pc := 1) (i := 1) dX8_round_1 (snd_iload_n (pc := 2) (i := 2) dX8_round_2 (snd_iload_n (pc := 3) (i := 3) dX8_round_3 (snd_callV (pc := 4) (n := 3) cls8 (s_X8_townOfState F) (by decide) (by decide) wd_938 wd_935 wd_937 wd_23 wd_120 hy_X8_townOfState dX8_round_4 (snd_astore (pc := 7) (i := 8) (by decide) dX8_round_7 (snd_aload (pc := 9) (i := 8) dX8_round_9 (snd_ifnull (pc := 11) (off := 29) (tgt := 40) (by decide) dX8_round_11 (snd_iconst (pc := 40) dX8_round_40 (snd_ireturn dX8_round_41)) (snd_aload_n (pc := 14) (i := 0) dX8_round_14 (snd_aload (pc := 15) (i := 8) dX8_round_15 (snd_iload (pc := 17) (i := 4) dX8_round_17 (snd_iload (pc := 19) (i := 5) dX8_round_19 (snd_iload (pc := 21) (i := 6) dX8_round_21 (snd_iconst (pc := 23) dX8_round_23 (snd_callV (pc := 24) (n := 5) cls8 (s_X8_findRounds F) (by decide) (by decide) wd_1074 wd_1071 wd_1073 wd_33 wd_120 hy_X8_findRounds dX8_round_24 (snd_ifeq (pc := 27) (off := 13) (tgt := 40) (by decide) dX8_round_27 (snd_iconst (pc := 40) dX8_round_40 (snd_ireturn dX8_round_41)) (snd_aload_n (pc := 30) (i := 0) dX8_round_30 (snd_getf (pc := 31) cls8 (f := 4) (by decide) wd_592 dX8_round_31 (snd_getf (pc := 34) cls3 (f := 2) (by decide) wd_478 dX8_round_34 (snd_ifne (pc := 37) (off := 5) (tgt := 42) (by decide) dX8_round_37 (snd_aload_n (pc := 42) (i := 0) dX8_round_42 (snd_getf (pc := 43) cls8 (f := 4) (by decide) wd_592 dX8_round_43 (snd_iload (pc := 46) (i := 7) dX8_round_46 (snd_iconst (pc := 48) dX8_round_48 (snd_callV (pc := 49) (n := 2) cls3 (s_X3_tellRow F) (by decide) (by decide) wd_1056 wd_1053 wd_1054 wd_1055 wd_126 hy_X3_tellRow dX8_round_49 (snd_ireturn dX8_round_52)))))) (snd_iconst (pc := 40) dX8_round_40 (snd_ireturn dX8_round_41))))))))))))))))))))))

/-! LastWalker.gain(IIIIII)J -/
theorem dX8_gain_0 : decode cX8_gain 0 = .ok (.aload_n 0, 1) := by decide +kernel
theorem dX8_gain_1 : decode cX8_gain 1 = .ok (.iload_n 1, 1) := by decide +kernel
theorem dX8_gain_2 : decode cX8_gain 2 = .ok (.iload_n 2, 1) := by decide +kernel
theorem dX8_gain_3 : decode cX8_gain 3 = .ok (.iload_n 3, 1) := by decide +kernel
theorem dX8_gain_4 : decode cX8_gain 4 = .ok (.invokevirtual 232, 3) := by decide +kernel
theorem dX8_gain_7 : decode cX8_gain 7 = .ok (.astore 7, 2) := by decide +kernel
theorem dX8_gain_9 : decode cX8_gain 9 = .ok (.aload 7, 2) := by decide +kernel
theorem dX8_gain_11 : decode cX8_gain 11 = .ok (.ifnull 29, 3) := by decide +kernel
theorem dX8_gain_14 : decode cX8_gain 14 = .ok (.aload_n 0, 1) := by decide +kernel
theorem dX8_gain_15 : decode cX8_gain 15 = .ok (.aload 7, 2) := by decide +kernel
theorem dX8_gain_17 : decode cX8_gain 17 = .ok (.iload 4, 2) := by decide +kernel
theorem dX8_gain_19 : decode cX8_gain 19 = .ok (.iload 5, 2) := by decide +kernel
theorem dX8_gain_21 : decode cX8_gain 21 = .ok (.iload 6, 2) := by decide +kernel
theorem dX8_gain_23 : decode cX8_gain 23 = .ok (.iconst 0, 1) := by decide +kernel
theorem dX8_gain_24 : decode cX8_gain 24 = .ok (.invokevirtual 311, 3) := by decide +kernel
theorem dX8_gain_27 : decode cX8_gain 27 = .ok (.ifCond .eq 13, 3) := by decide +kernel
theorem dX8_gain_30 : decode cX8_gain 30 = .ok (.aload_n 0, 1) := by decide +kernel
theorem dX8_gain_31 : decode cX8_gain 31 = .ok (.getfield 37, 3) := by decide +kernel
theorem dX8_gain_34 : decode cX8_gain 34 = .ok (.getfield 315, 3) := by decide +kernel
theorem dX8_gain_37 : decode cX8_gain 37 = .ok (.ifCond .ne 5, 3) := by decide +kernel
theorem dX8_gain_40 : decode cX8_gain 40 = .ok (.lconst 0, 1) := by decide +kernel
theorem dX8_gain_41 : decode cX8_gain 41 = .ok (.lreturn, 1) := by decide +kernel
theorem dX8_gain_42 : decode cX8_gain 42 = .ok (.aload_n 0, 1) := by decide +kernel
theorem dX8_gain_43 : decode cX8_gain 43 = .ok (.getfield 37, 3) := by decide +kernel
theorem dX8_gain_46 : decode cX8_gain 46 = .ok (.getfield 300, 3) := by decide +kernel
theorem dX8_gain_49 : decode cX8_gain 49 = .ok (.lreturn, 1) := by decide +kernel
noncomputable def k_X8_gain (F : Nat) : AK := ak_aload 0 (ak_iload 1 (ak_iload 2 (ak_iload 3 (ak_callv 8 3 (m_X8_townOfState F) (ak_astore 7 (ak_aload 7 (ak_ifnull (ak_push (vL 0) ak_lreturn) (ak_aload 0 (ak_aload 7 (ak_iload 4 (ak_iload 5 (ak_iload 6 (ak_push (vI 0) (ak_callv 8 5 (m_X8_findRounds F) (ak_ifeq (ak_push (vL 0) ak_lreturn) (ak_aload 0 (ak_getf 8 4 (ak_getf 3 2 (ak_ifeq (ak_push (vL 0) ak_lreturn) (ak_aload 0 (ak_getf 8 4 (ak_getf 3 4 ak_lreturn))))))))))))))))))))))
noncomputable def m_X8_gain (F : Nat) : AF := mkF 4 8 (k_X8_gain F)
set_option maxRecDepth 20000 in
theorem s_X8_gain (F : Nat) : MA yX8_gain cX8_gain 8 (some .long) 18 (m_X8_gain F) := met_of (Or.inr (Or.inr (Or.inr (Or.inr (Or.inl ⟨rfl, rfl⟩))))) (by decide) (by
  unfold k_X8_gain
  exact snd_aload_n (pc := 0) (i := 0) dX8_gain_0 (snd_iload_n (pc := 1) (i := 1) dX8_gain_1 (snd_iload_n (pc := 2) (i := 2) dX8_gain_2 (snd_iload_n (pc := 3) (i := 3) dX8_gain_3 (snd_callV (pc := 4) (n := 3) cls8 (s_X8_townOfState F) (by decide) (by decide) wd_938 wd_935 wd_937 wd_23 wd_120 hy_X8_townOfState dX8_gain_4 (snd_astore (pc := 7) (i := 7) (by decide) dX8_gain_7 (snd_aload (pc := 9) (i := 7) dX8_gain_9 (snd_ifnull (pc := 11) (off := 29) (tgt := 40) (by decide) dX8_gain_11 (snd_lconst (pc := 40) (by decide) dX8_gain_40 (snd_lreturn dX8_gain_41)) (snd_aload_n (pc := 14) (i := 0) dX8_gain_14 (snd_aload (pc := 15) (i := 7) dX8_gain_15 (snd_iload (pc := 17) (i := 4) dX8_gain_17 (snd_iload (pc := 19) (i := 5) dX8_gain_19 (snd_iload (pc := 21) (i := 6) dX8_gain_21 (snd_iconst (pc := 23) dX8_gain_23 (snd_callV (pc := 24) (n := 5) cls8 (s_X8_findRounds F) (by decide) (by decide) wd_1074 wd_1071 wd_1073 wd_33 wd_120 hy_X8_findRounds dX8_gain_24 (snd_ifeq (pc := 27) (off := 13) (tgt := 40) (by decide) dX8_gain_27 (snd_lconst (pc := 40) (by decide) dX8_gain_40 (snd_lreturn dX8_gain_41)) (snd_aload_n (pc := 30) (i := 0) dX8_gain_30 (snd_getf (pc := 31) cls8 (f := 4) (by decide) wd_592 dX8_gain_31 (snd_getf (pc := 34) cls3 (f := 2) (by decide) wd_478 dX8_gain_34 (snd_ifne (pc := 37) (off := 5) (tgt := 42) (by decide) dX8_gain_37 (snd_aload_n (pc := 42) (i := 0) dX8_gain_42 (snd_getf (pc := 43) cls8 (f := 4) (by decide) wd_592 dX8_gain_43 (snd_getf (pc := 46) cls3 (f := 4) (by decide) wd_483 dX8_gain_46 (snd_lreturn dX8_gain_49)))) (snd_lconst (pc := 40) (by decide) dX8_gain_40 (snd_lreturn dX8_gain_41))))))))))))))))))))))

/-! LastWalker.rounds(IIIIII)I -/
theorem dX8_rounds_0 : decode cX8_rounds 0 = .ok (.aload_n 0, 1) := by decide +kernel
theorem dX8_rounds_1 : decode cX8_rounds 1 = .ok (.iload_n 1, 1) := by decide +kernel
theorem dX8_rounds_2 : decode cX8_rounds 2 = .ok (.iload_n 2, 1) := by decide +kernel
theorem dX8_rounds_3 : decode cX8_rounds 3 = .ok (.iload_n 3, 1) := by decide +kernel
theorem dX8_rounds_4 : decode cX8_rounds 4 = .ok (.invokevirtual 232, 3) := by decide +kernel
theorem dX8_rounds_7 : decode cX8_rounds 7 = .ok (.astore 7, 2) := by decide +kernel
theorem dX8_rounds_9 : decode cX8_rounds 9 = .ok (.aload 7, 2) := by decide +kernel
theorem dX8_rounds_11 : decode cX8_rounds 11 = .ok (.ifnull 19, 3) := by decide +kernel
theorem dX8_rounds_14 : decode cX8_rounds 14 = .ok (.aload_n 0, 1) := by decide +kernel
theorem dX8_rounds_15 : decode cX8_rounds 15 = .ok (.aload 7, 2) := by decide +kernel
theorem dX8_rounds_17 : decode cX8_rounds 17 = .ok (.iload 4, 2) := by decide +kernel
theorem dX8_rounds_19 : decode cX8_rounds 19 = .ok (.iload 5, 2) := by decide +kernel
theorem dX8_rounds_21 : decode cX8_rounds 21 = .ok (.iload 6, 2) := by decide +kernel
theorem dX8_rounds_23 : decode cX8_rounds 23 = .ok (.iconst 1, 1) := by decide +kernel
theorem dX8_rounds_24 : decode cX8_rounds 24 = .ok (.invokevirtual 311, 3) := by decide +kernel
theorem dX8_rounds_27 : decode cX8_rounds 27 = .ok (.ifCond .ne 5, 3) := by decide +kernel
theorem dX8_rounds_30 : decode cX8_rounds 30 = .ok (.iconst (-1), 1) := by decide +kernel
theorem dX8_rounds_31 : decode cX8_rounds 31 = .ok (.ireturn, 1) := by decide +kernel
theorem dX8_rounds_32 : decode cX8_rounds 32 = .ok (.aload_n 0, 1) := by decide +kernel
theorem dX8_rounds_33 : decode cX8_rounds 33 = .ok (.getfield 37, 3) := by decide +kernel
theorem dX8_rounds_36 : decode cX8_rounds 36 = .ok (.getfield 318, 3) := by decide +kernel
theorem dX8_rounds_39 : decode cX8_rounds 39 = .ok (.ireturn, 1) := by decide +kernel
noncomputable def k_X8_rounds (F : Nat) : AK := ak_aload 0 (ak_iload 1 (ak_iload 2 (ak_iload 3 (ak_callv 8 3 (m_X8_townOfState F) (ak_astore 7 (ak_aload 7 (ak_ifnull (ak_push (vI (-1)) ak_ireturn) (ak_aload 0 (ak_aload 7 (ak_iload 4 (ak_iload 5 (ak_iload 6 (ak_push (vI 1) (ak_callv 8 5 (m_X8_findRounds F) (ak_ifeq (ak_push (vI (-1)) ak_ireturn) (ak_aload 0 (ak_getf 8 4 (ak_getf 3 5 ak_ireturn))))))))))))))))))
noncomputable def m_X8_rounds (F : Nat) : AF := mkF 1 8 (k_X8_rounds F)
set_option maxRecDepth 20000 in
theorem s_X8_rounds (F : Nat) : MA yX8_rounds cX8_rounds 8 (some .int) 18 (m_X8_rounds F) := met_of (Or.inr (Or.inl ⟨rfl, rfl⟩)) (by decide) (by
  unfold k_X8_rounds
  exact snd_aload_n (pc := 0) (i := 0) dX8_rounds_0 (snd_iload_n (pc := 1) (i := 1) dX8_rounds_1 (snd_iload_n (pc := 2) (i := 2) dX8_rounds_2 (snd_iload_n (pc := 3) (i := 3) dX8_rounds_3 (snd_callV (pc := 4) (n := 3) cls8 (s_X8_townOfState F) (by decide) (by decide) wd_938 wd_935 wd_937 wd_23 wd_120 hy_X8_townOfState dX8_rounds_4 (snd_astore (pc := 7) (i := 7) (by decide) dX8_rounds_7 (snd_aload (pc := 9) (i := 7) dX8_rounds_9 (snd_ifnull (pc := 11) (off := 19) (tgt := 30) (by decide) dX8_rounds_11 (snd_iconst (pc := 30) dX8_rounds_30 (snd_ireturn dX8_rounds_31)) (snd_aload_n (pc := 14) (i := 0) dX8_rounds_14 (snd_aload (pc := 15) (i := 7) dX8_rounds_15 (snd_iload (pc := 17) (i := 4) dX8_rounds_17 (snd_iload (pc := 19) (i := 5) dX8_rounds_19 (snd_iload (pc := 21) (i := 6) dX8_rounds_21 (snd_iconst (pc := 23) dX8_rounds_23 (snd_callV (pc := 24) (n := 5) cls8 (s_X8_findRounds F) (by decide) (by decide) wd_1074 wd_1071 wd_1073 wd_33 wd_120 hy_X8_findRounds dX8_rounds_24 (snd_ifne (pc := 27) (off := 5) (tgt := 32) (by decide) dX8_rounds_27 (snd_aload_n (pc := 32) (i := 0) dX8_rounds_32 (snd_getf (pc := 33) cls8 (f := 4) (by decide) wd_592 dX8_rounds_33 (snd_getf (pc := 36) cls3 (f := 5) (by decide) wd_485 dX8_rounds_36 (snd_ireturn dX8_rounds_39)))) (snd_iconst (pc := 30) dX8_rounds_30 (snd_ireturn dX8_rounds_31))))))))))))))))))

/-! LastWalker.planFor(II)LLastWalker$Town; -/
theorem dX8_planFor_0 : decode cX8_planFor 0 = .ok (.aload_n 0, 1) := by decide +kernel
theorem dX8_planFor_1 : decode cX8_planFor 1 = .ok (.getfield 10, 3) := by decide +kernel
theorem dX8_planFor_4 : decode cX8_planFor 4 = .ok (.iload_n 1, 1) := by decide +kernel
theorem dX8_planFor_5 : decode cX8_planFor 5 = .ok (.invokevirtual 132, 3) := by decide +kernel
theorem dX8_planFor_8 : decode cX8_planFor 8 = .ok (.astore_n 3, 1) := by decide +kernel
theorem dX8_planFor_9 : decode cX8_planFor 9 = .ok (.aload_n 3, 1) := by decide +kernel
theorem dX8_planFor_10 : decode cX8_planFor 10 = .ok (.ifnull 17, 3) := by decide +kernel
theorem dX8_planFor_13 : decode cX8_planFor 13 = .ok (.iload_n 2, 1) := by decide +kernel
theorem dX8_planFor_14 : decode cX8_planFor 14 = .ok (.ifCond .lt 13, 3) := by decide +kernel
theorem dX8_planFor_17 : decode cX8_planFor 17 = .ok (.iload_n 2, 1) := by decide +kernel
theorem dX8_planFor_18 : decode cX8_planFor 18 = .ok (.iconst 1, 1) := by decide +kernel
theorem dX8_planFor_19 : decode cX8_planFor 19 = .ok (.aload_n 3, 1) := by decide +kernel
theorem dX8_planFor_20 : decode cX8_planFor 20 = .ok (.getfield 145, 3) := by decide +kernel
theorem dX8_planFor_23 : decode cX8_planFor 23 = .ok (.ishl, 1) := by decide +kernel
theorem dX8_planFor_24 : decode cX8_planFor 24 = .ok (.if_icmp .lt 5, 3) := by decide +kernel
theorem dX8_planFor_27 : decode cX8_planFor 27 = .ok (.aconst_null, 1) := by decide +kernel
theorem dX8_planFor_28 : decode cX8_planFor 28 = .ok (.areturn, 1) := by decide +kernel
theorem dX8_planFor_29 : decode cX8_planFor 29 = .ok (.aload_n 0, 1) := by decide +kernel
theorem dX8_planFor_30 : decode cX8_planFor 30 = .ok (.getfield 53, 3) := by decide +kernel
theorem dX8_planFor_33 : decode cX8_planFor 33 = .ok (.aload_n 3, 1) := by decide +kernel
theorem dX8_planFor_34 : decode cX8_planFor 34 = .ok (.invokevirtual 103, 3) := by decide +kernel
theorem dX8_planFor_37 : decode cX8_planFor 37 = .ok (.aload_n 0, 1) := by decide +kernel
theorem dX8_planFor_38 : decode cX8_planFor 38 = .ok (.getfield 37, 3) := by decide +kernel
theorem dX8_planFor_41 : decode cX8_planFor 41 = .ok (.getfield 268, 3) := by decide +kernel
theorem dX8_planFor_44 : decode cX8_planFor 44 = .ok (.aload_n 0, 1) := by decide +kernel
theorem dX8_planFor_45 : decode cX8_planFor 45 = .ok (.getfield 53, 3) := by decide +kernel
theorem dX8_planFor_48 : decode cX8_planFor 48 = .ok (.invokevirtual 272, 3) := by decide +kernel
theorem dX8_planFor_51 : decode cX8_planFor 51 = .ok (.aload_n 0, 1) := by decide +kernel
theorem dX8_planFor_52 : decode cX8_planFor 52 = .ok (.getfield 53, 3) := by decide +kernel
theorem dX8_planFor_55 : decode cX8_planFor 55 = .ok (.areturn, 1) := by decide +kernel
noncomputable def k_X8_planFor (F : Nat) : AK := ak_aload 0 (ak_getf 8 0 (ak_iload 1 (ak_callv 0 1 (m_X0_townAt F) (ak_astore 3 (ak_aload 3 (ak_ifnull (ak_push vN ak_areturn) (ak_iload 2 (ak_iflt (ak_push vN ak_areturn) (ak_iload 2 (ak_push (vI 1) (ak_aload 3 (ak_getf 7 12 (ak_ishl (ak_cmplt (ak_aload 0 (ak_getf 8 6 (ak_aload 3 (ak_callv 7 1 (m_X7_copyFrom F) (ak_aload 0 (ak_getf 8 4 (ak_getf 3 0 (ak_aload 0 (ak_getf 8 6 (ak_callv 1 1 (m_X1_layOut F) (ak_aload 0 (ak_getf 8 6 ak_areturn)))))))))))) (ak_push vN ak_areturn)))))))))))))))
noncomputable def m_X8_planFor (F : Nat) : AF := mkF 5 4 (k_X8_planFor F)
set_option maxRecDepth 20000 in
theorem s_X8_planFor (F : Nat) : MA yX8_planFor cX8_planFor 4 (some (.object "LastWalker$Town")) 4 (m_X8_planFor F) := met_of (Or.inr (Or.inr (Or.inr (Or.inr (Or.inr ⟨rfl, Or.inl ⟨_, rfl⟩⟩))))) (by decide) (by
  unfold k_X8_planFor
  exact snd_aload_n (pc := 0) (i := 0) dX8_planFor_0 (snd_getf (pc := 1) cls8 (f := 0) (by decide) wd_588 dX8_planFor_1 (snd_iload_n (pc := 4) (i := 1) dX8_planFor_4 (snd_callV (pc := 5) (n := 1) cls0 (s_X0_townAt F) (by decide) (by decide) wd_838 wd_835 wd_836 wd_837 wd_121 hy_X0_townAt dX8_planFor_5 (snd_astore_n (pc := 8) (i := 3) (by decide) dX8_planFor_8 (snd_aload_n (pc := 9) (i := 3) dX8_planFor_9 (snd_ifnull (pc := 10) (off := 17) (tgt := 27) (by decide) dX8_planFor_10 (snd_null (pc := 27) dX8_planFor_27 (snd_areturn dX8_planFor_28)) (snd_iload_n (pc := 13) (i := 2) dX8_planFor_13 (snd_iflt (pc := 14) (off := 13) (tgt := 27) (by decide) dX8_planFor_14 (snd_null (pc := 27) dX8_planFor_27 (snd_areturn dX8_planFor_28)) (snd_iload_n (pc := 17) (i := 2) dX8_planFor_17 (snd_iconst (pc := 18) dX8_planFor_18 (snd_aload_n (pc := 19) (i := 3) dX8_planFor_19 (snd_getf (pc := 20) cls7 (f := 12) (by decide) wd_215 dX8_planFor_20 (snd_ishl (pc := 23) dX8_planFor_23 (snd_icmplt (pc := 24) (off := 5) (tgt := 29) (by decide) dX8_planFor_24 (snd_aload_n (pc := 29) (i := 0) dX8_planFor_29 (snd_getf (pc := 30) cls8 (f := 6) (by decide) wd_594 dX8_planFor_30 (snd_aload_n (pc := 33) (i := 3) dX8_planFor_33 (snd_callV (pc := 34) (n := 1) cls7 (s_X7_copyFrom F) (by decide) (by decide) wd_809 wd_806 wd_807 wd_808 wd_122 hy_X7_copyFrom dX8_planFor_34 (snd_aload_n (pc := 37) (i := 0) dX8_planFor_37 (snd_getf (pc := 38) cls8 (f := 4) (by decide) wd_592 dX8_planFor_38 (snd_getf (pc := 41) cls3 (f := 0) (by decide) wd_473 dX8_planFor_41 (snd_aload_n (pc := 44) (i := 0) dX8_planFor_44 (snd_getf (pc := 45) cls8 (f := 6) (by decide) wd_594 dX8_planFor_45 (snd_callV (pc := 48) (n := 1) cls1 (s_X1_layOut F) (by decide) (by decide) wd_981 wd_978 wd_979 wd_980 wd_127 hy_X1_layOut dX8_planFor_48 (snd_aload_n (pc := 51) (i := 0) dX8_planFor_51 (snd_getf (pc := 52) cls8 (f := 6) (by decide) wd_594 dX8_planFor_52 (snd_areturn dX8_planFor_55))))))))))))) (snd_null (pc := 27) dX8_planFor_27 (snd_areturn dX8_planFor_28)))))))))))))))))

/-! LastWalker.all(IIII)I -/
theorem dX8_all_0 : decode cX8_all 0 = .ok (.aload_n 0, 1) := by decide +kernel
theorem dX8_all_1 : decode cX8_all 1 = .ok (.iload_n 1, 1) := by decide +kernel
theorem dX8_all_2 : decode cX8_all 2 = .ok (.iload_n 2, 1) := by decide +kernel
theorem dX8_all_3 : decode cX8_all 3 = .ok (.invokevirtual 321, 3) := by decide +kernel
theorem dX8_all_6 : decode cX8_all 6 = .ok (.astore 5, 2) := by decide +kernel
theorem dX8_all_8 : decode cX8_all 8 = .ok (.aload 5, 2) := by decide +kernel
theorem dX8_all_10 : decode cX8_all 10 = .ok (.ifnull 17, 3) := by decide +kernel
theorem dX8_all_13 : decode cX8_all 13 = .ok (.iload_n 3, 1) := by decide +kernel
theorem dX8_all_14 : decode cX8_all 14 = .ok (.iconst (-1), 1) := by decide +kernel
theorem dX8_all_15 : decode cX8_all 15 = .ok (.if_icmp .eq 16, 3) := by decide +kernel
theorem dX8_all_18 : decode cX8_all 18 = .ok (.aload 5, 2) := by decide +kernel
theorem dX8_all_20 : decode cX8_all 20 = .ok (.iload_n 3, 1) := by decide +kernel
theorem dX8_all_21 : decode cX8_all 21 = .ok (.invokevirtual 177, 3) := by decide +kernel
theorem dX8_all_24 : decode cX8_all 24 = .ok (.ifCond .ne 7, 3) := by decide +kernel
theorem dX8_all_27 : decode cX8_all 27 = .ok (.ldc_w 325, 3) := by decide +kernel
theorem dX8_all_30 : decode cX8_all 30 = .ok (.ireturn, 1) := by decide +kernel
theorem dX8_all_31 : decode cX8_all 31 = .ok (.aload_n 0, 1) := by decide +kernel
theorem dX8_all_32 : decode cX8_all 32 = .ok (.getfield 46, 3) := by decide +kernel
theorem dX8_all_35 : decode cX8_all 35 = .ok (.aload 5, 2) := by decide +kernel
theorem dX8_all_37 : decode cX8_all 37 = .ok (.iload_n 2, 1) := by decide +kernel
theorem dX8_all_38 : decode cX8_all 38 = .ok (.invokevirtual 326, 3) := by decide +kernel
theorem dX8_all_41 : decode cX8_all 41 = .ok (.iload_n 3, 1) := by decide +kernel
theorem dX8_all_42 : decode cX8_all 42 = .ok (.iconst (-1), 1) := by decide +kernel
theorem dX8_all_43 : decode cX8_all 43 = .ok (.if_icmp .ne 17, 3) := by decide +kernel
theorem dX8_all_46 : decode cX8_all 46 = .ok (.aload_n 0, 1) := by decide +kernel
theorem dX8_all_47 : decode cX8_all 47 = .ok (.getfield 46, 3) := by decide +kernel
theorem dX8_all_50 : decode cX8_all 50 = .ok (.aload 5, 2) := by decide +kernel
theorem dX8_all_52 : decode cX8_all 52 = .ok (.iload 4, 2) := by decide +kernel
theorem dX8_all_54 : decode cX8_all 54 = .ok (.invokevirtual 330, 3) := by decide +kernel
theorem dX8_all_57 : decode cX8_all 57 = .ok (.goto 15, 3) := by decide +kernel
theorem dX8_all_60 : decode cX8_all 60 = .ok (.aload_n 0, 1) := by decide +kernel
theorem dX8_all_61 : decode cX8_all 61 = .ok (.getfield 46, 3) := by decide +kernel
theorem dX8_all_64 : decode cX8_all 64 = .ok (.aload 5, 2) := by decide +kernel
theorem dX8_all_66 : decode cX8_all 66 = .ok (.iload_n 3, 1) := by decide +kernel
theorem dX8_all_67 : decode cX8_all 67 = .ok (.iload 4, 2) := by decide +kernel
theorem dX8_all_69 : decode cX8_all 69 = .ok (.invokevirtual 334, 3) := by decide +kernel
theorem dX8_all_72 : decode cX8_all 72 = .ok (.ireturn, 1) := by decide +kernel
noncomputable def k_X8_all_31 (F : Nat) : AK := ak_aload 0 (ak_getf 8 5 (ak_aload 5 (ak_iload 2 (ak_callv 4 2 (m_X4_goAll F) (ak_iload 3 (ak_push (vI (-1)) (ak_cmpeq (ak_aload 0 (ak_getf 8 5 (ak_aload 5 (ak_iload 4 (ak_callv 4 2 (m_X4_sumOf F) ak_ireturn))))) (ak_aload 0 (ak_getf 8 5 (ak_aload 5 (ak_iload 3 (ak_iload 4 (ak_callv 4 3 (m_X4_figure F) ak_ireturn)))))))))))))
set_option maxRecDepth 20000 in
theorem sk_X8_all_31 (F : Nat) : Snd X0 RX8 cX8_all 6 18 31 (k_X8_all_31 F) := by
  unfold k_X8_all_31
  exact snd_aload_n (pc := 31) (i := 0) dX8_all_31 (snd_getf (pc := 32) cls8 (f := 5) (by decide) wd_593 dX8_all_32 (snd_aload (pc := 35) (i := 5) dX8_all_35 (snd_iload_n (pc := 37) (i := 2) dX8_all_37 (snd_callV (pc := 38) (n := 2) cls4 (s_X4_goAll F) (by decide) (by decide) wd_1107 wd_1104 wd_1105 wd_1106 wd_128 hy_X4_goAll dX8_all_38 (snd_iload_n (pc := 41) (i := 3) dX8_all_41 (snd_iconst (pc := 42) dX8_all_42 (snd_icmpne (pc := 43) (off := 17) (tgt := 60) (by decide) dX8_all_43 (snd_aload_n (pc := 60) (i := 0) dX8_all_60 (snd_getf (pc := 61) cls8 (f := 5) (by decide) wd_593 dX8_all_61 (snd_aload (pc := 64) (i := 5) dX8_all_64 (snd_iload_n (pc := 66) (i := 3) dX8_all_66 (snd_iload (pc := 67) (i := 4) dX8_all_67 (snd_callV (pc := 69) (n := 3) cls4 (s_X4_figure F) (by decide) (by decide) wd_1144 wd_1145 wd_1142 wd_1143 wd_128 hy_X4_figure dX8_all_69 (snd_ireturn dX8_all_72))))))) (snd_aload_n (pc := 46) (i := 0) dX8_all_46 (snd_getf (pc := 47) cls8 (f := 5) (by decide) wd_593 dX8_all_47 (snd_aload (pc := 50) (i := 5) dX8_all_50 (snd_iload (pc := 52) (i := 4) dX8_all_52 (snd_callV (pc := 54) (n := 2) cls4 (s_X4_sumOf F) (by decide) (by decide) wd_1139 wd_1136 wd_1137 wd_1138 wd_128 hy_X4_sumOf dX8_all_54 (snd_goto (pc := 57) (off := 15) (tgt := 72) (by decide) dX8_all_57 (snd_ireturn dX8_all_72))))))))))))))
noncomputable def k_X8_all (F : Nat) : AK := ak_aload 0 (ak_iload 1 (ak_iload 2 (ak_callv 8 2 (m_X8_planFor F) (ak_astore 5 (ak_aload 5 (ak_ifnull (ak_push (vI (-100000)) ak_ireturn) (ak_iload 3 (ak_push (vI (-1)) (ak_cmpeq ((k_X8_all_31 F)) (ak_aload 5 (ak_iload 3 (ak_callv 7 1 (m_X7_hasPerson F) (ak_ifeq (ak_push (vI (-100000)) ak_ireturn) ((k_X8_all_31 F)))))))))))))))
noncomputable def m_X8_all (F : Nat) : AF := mkF 1 6 (k_X8_all F)
set_option maxRecDepth 20000 in
theorem s_X8_all (F : Nat) : MA yX8_all cX8_all 6 (some .int) 18 (m_X8_all F) := met_of (Or.inr (Or.inl ⟨rfl, rfl⟩)) (by decide) (by
  unfold k_X8_all
  exact snd_aload_n (pc := 0) (i := 0) dX8_all_0 (snd_iload_n (pc := 1) (i := 1) dX8_all_1 (snd_iload_n (pc := 2) (i := 2) dX8_all_2 (snd_callV (pc := 3) (n := 2) cls8 (s_X8_planFor F) (by decide) (by decide) wd_1102 wd_1099 wd_1101 wd_35 wd_120 hy_X8_planFor dX8_all_3 (snd_astore (pc := 6) (i := 5) (by decide) dX8_all_6 (snd_aload (pc := 8) (i := 5) dX8_all_8 (snd_ifnull (pc := 10) (off := 17) (tgt := 27) (by decide) dX8_all_10 (snd_ldcw (pc := 27) (z := (-100000)) (by decide) wd_1103 dX8_all_27 (snd_ireturn dX8_all_30)) (snd_iload_n (pc := 13) (i := 3) dX8_all_13 (snd_iconst (pc := 14) dX8_all_14 (snd_icmpeq (pc := 15) (off := 16) (tgt := 31) (by decide) dX8_all_15 ((sk_X8_all_31 F)) (snd_aload (pc := 18) (i := 5) dX8_all_18 (snd_iload_n (pc := 20) (i := 3) dX8_all_20 (snd_callV (pc := 21) (n := 1) cls7 (s_X7_hasPerson F) (by decide) (by decide) wd_854 wd_851 wd_852 wd_853 wd_122 hy_X7_hasPerson dX8_all_21 (snd_ifne (pc := 24) (off := 7) (tgt := 31) (by decide) dX8_all_24 ((sk_X8_all_31 F)) (snd_ldcw (pc := 27) (z := (-100000)) (by decide) wd_1103 dX8_all_27 (snd_ireturn dX8_all_30))))))))))))))))

/-! LastWalker.night(IIII)I -/
theorem dX8_night_0 : decode cX8_night 0 = .ok (.aload_n 0, 1) := by decide +kernel
theorem dX8_night_1 : decode cX8_night 1 = .ok (.iload_n 1, 1) := by decide +kernel
theorem dX8_night_2 : decode cX8_night 2 = .ok (.iload_n 2, 1) := by decide +kernel
theorem dX8_night_3 : decode cX8_night 3 = .ok (.invokevirtual 321, 3) := by decide +kernel
theorem dX8_night_6 : decode cX8_night 6 = .ok (.astore 5, 2) := by decide +kernel
theorem dX8_night_8 : decode cX8_night 8 = .ok (.aload 5, 2) := by decide +kernel
theorem dX8_night_10 : decode cX8_night 10 = .ok (.ifnonnull 6, 3) := by decide +kernel
theorem dX8_night_13 : decode cX8_night 13 = .ok (.bipush (-2), 2) := by decide +kernel
theorem dX8_night_15 : decode cX8_night 15 = .ok (.ireturn, 1) := by decide +kernel
theorem dX8_night_16 : decode cX8_night 16 = .ok (.aload_n 0, 1) := by decide +kernel
theorem dX8_night_17 : decode cX8_night 17 = .ok (.getfield 46, 3) := by decide +kernel
theorem dX8_night_20 : decode cX8_night 20 = .ok (.aload 5, 2) := by decide +kernel
theorem dX8_night_22 : decode cX8_night 22 = .ok (.iload_n 2, 1) := by decide +kernel
theorem dX8_night_23 : decode cX8_night 23 = .ok (.invokevirtual 326, 3) := by decide +kernel
theorem dX8_night_26 : decode cX8_night 26 = .ok (.iload_n 3, 1) := by decide +kernel
theorem dX8_night_27 : decode cX8_night 27 = .ok (.iconst (-1), 1) := by decide +kernel
theorem dX8_night_28 : decode cX8_night 28 = .ok (.if_icmp .ne 33, 3) := by decide +kernel
theorem dX8_night_31 : decode cX8_night 31 = .ok (.iload 4, 2) := by decide +kernel
theorem dX8_night_33 : decode cX8_night 33 = .ok (.iconst (-1), 1) := by decide +kernel
theorem dX8_night_34 : decode cX8_night 34 = .ok (.if_icmp .lt 24, 3) := by decide +kernel
theorem dX8_night_37 : decode cX8_night 37 = .ok (.iload 4, 2) := by decide +kernel
theorem dX8_night_39 : decode cX8_night 39 = .ok (.bipush 8, 2) := by decide +kernel
theorem dX8_night_41 : decode cX8_night 41 = .ok (.if_icmp .ge 17, 3) := by decide +kernel
theorem dX8_night_44 : decode cX8_night 44 = .ok (.aload_n 0, 1) := by decide +kernel
theorem dX8_night_45 : decode cX8_night 45 = .ok (.getfield 46, 3) := by decide +kernel
theorem dX8_night_48 : decode cX8_night 48 = .ok (.aload 5, 2) := by decide +kernel
theorem dX8_night_50 : decode cX8_night 50 = .ok (.iload 4, 2) := by decide +kernel
theorem dX8_night_52 : decode cX8_night 52 = .ok (.invokevirtual 338, 3) := by decide +kernel
theorem dX8_night_55 : decode cX8_night 55 = .ok (.goto 5, 3) := by decide +kernel
theorem dX8_night_58 : decode cX8_night 58 = .ok (.bipush (-2), 2) := by decide +kernel
theorem dX8_night_60 : decode cX8_night 60 = .ok (.ireturn, 1) := by decide +kernel
theorem dX8_night_61 : decode cX8_night 61 = .ok (.aload 5, 2) := by decide +kernel
theorem dX8_night_63 : decode cX8_night 63 = .ok (.iload_n 3, 1) := by decide +kernel
theorem dX8_night_64 : decode cX8_night 64 = .ok (.invokevirtual 154, 3) := by decide +kernel
theorem dX8_night_67 : decode cX8_night 67 = .ok (.ifCond .eq 15, 3) := by decide +kernel
theorem dX8_night_70 : decode cX8_night 70 = .ok (.aload_n 0, 1) := by decide +kernel
theorem dX8_night_71 : decode cX8_night 71 = .ok (.getfield 46, 3) := by decide +kernel
theorem dX8_night_74 : decode cX8_night 74 = .ok (.getfield 341, 3) := by decide +kernel
theorem dX8_night_77 : decode cX8_night 77 = .ok (.iload_n 3, 1) := by decide +kernel
theorem dX8_night_78 : decode cX8_night 78 = .ok (.iaload, 1) := by decide +kernel
theorem dX8_night_79 : decode cX8_night 79 = .ok (.goto 5, 3) := by decide +kernel
theorem dX8_night_82 : decode cX8_night 82 = .ok (.bipush (-2), 2) := by decide +kernel
theorem dX8_night_84 : decode cX8_night 84 = .ok (.ireturn, 1) := by decide +kernel
noncomputable def k_X8_night (F : Nat) : AK := ak_aload 0 (ak_iload 1 (ak_iload 2 (ak_callv 8 2 (m_X8_planFor F) (ak_astore 5 (ak_aload 5 (ak_ifnull (ak_push (vI (-2)) ak_ireturn) (ak_aload 0 (ak_getf 8 5 (ak_aload 5 (ak_iload 2 (ak_callv 4 2 (m_X4_goAll F) (ak_iload 3 (ak_push (vI (-1)) (ak_cmpeq (ak_iload 4 (ak_push (vI (-1)) (ak_cmplt (ak_push (vI (-2)) ak_ireturn) (ak_iload 4 (ak_push (vI 8) (ak_cmplt (ak_aload 0 (ak_getf 8 5 (ak_aload 5 (ak_iload 4 (ak_callv 4 2 (m_X4_roadsOf F) ak_ireturn))))) (ak_push (vI (-2)) ak_ireturn))))))) (ak_aload 5 (ak_iload 3 (ak_callv 7 1 (m_X7_hasRoad F) (ak_ifeq (ak_push (vI (-2)) ak_ireturn) (ak_aload 0 (ak_getf 8 5 (ak_getf 4 0 (ak_iload 3 (ak_iald ak_ireturn)))))))))))))))))))))))
noncomputable def m_X8_night (F : Nat) : AF := mkF 1 6 (k_X8_night F)
set_option maxRecDepth 20000 in
theorem s_X8_night (F : Nat) : MA yX8_night cX8_night 6 (some .int) 18 (m_X8_night F) := met_of (Or.inr (Or.inl ⟨rfl, rfl⟩)) (by decide) (by
  unfold k_X8_night
  exact snd_aload_n (pc := 0) (i := 0) dX8_night_0 (snd_iload_n (pc := 1) (i := 1) dX8_night_1 (snd_iload_n (pc := 2) (i := 2) dX8_night_2 (snd_callV (pc := 3) (n := 2) cls8 (s_X8_planFor F) (by decide) (by decide) wd_1102 wd_1099 wd_1101 wd_35 wd_120 hy_X8_planFor dX8_night_3 (snd_astore (pc := 6) (i := 5) (by decide) dX8_night_6 (snd_aload (pc := 8) (i := 5) dX8_night_8 (snd_ifnonnull (pc := 10) (off := 6) (tgt := 16) (by decide) dX8_night_10 (snd_aload_n (pc := 16) (i := 0) dX8_night_16 (snd_getf (pc := 17) cls8 (f := 5) (by decide) wd_593 dX8_night_17 (snd_aload (pc := 20) (i := 5) dX8_night_20 (snd_iload_n (pc := 22) (i := 2) dX8_night_22 (snd_callV (pc := 23) (n := 2) cls4 (s_X4_goAll F) (by decide) (by decide) wd_1107 wd_1104 wd_1105 wd_1106 wd_128 hy_X4_goAll dX8_night_23 (snd_iload_n (pc := 26) (i := 3) dX8_night_26 (snd_iconst (pc := 27) dX8_night_27 (snd_icmpne (pc := 28) (off := 33) (tgt := 61) (by decide) dX8_night_28 (snd_aload (pc := 61) (i := 5) dX8_night_61 (snd_iload_n (pc := 63) (i := 3) dX8_night_63 (snd_callV (pc := 64) (n := 1) cls7 (s_X7_hasRoad F) (by decide) (by decide) wd_846 wd_843 wd_844 wd_845 wd_122 hy_X7_hasRoad dX8_night_64 (snd_ifeq (pc := 67) (off := 15) (tgt := 82) (by decide) dX8_night_67 (snd_bipush (pc := 82) (by decide) dX8_night_82 (snd_ireturn dX8_night_84)) (snd_aload_n (pc := 70) (i := 0) dX8_night_70 (snd_getf (pc := 71) cls8 (f := 5) (by decide) wd_593 dX8_night_71 (snd_getf (pc := 74) cls4 (f := 0) (by decide) wd_542 dX8_night_74 (snd_iload_n (pc := 77) (i := 3) dX8_night_77 (snd_iald (pc := 78) dX8_night_78 (snd_goto (pc := 79) (off := 5) (tgt := 84) (by decide) dX8_night_79 (snd_ireturn dX8_night_84))))))))))) (snd_iload (pc := 31) (i := 4) dX8_night_31 (snd_iconst (pc := 33) dX8_night_33 (snd_icmplt (pc := 34) (off := 24) (tgt := 58) (by decide) dX8_night_34 (snd_bipush (pc := 58) (by decide) dX8_night_58 (snd_ireturn dX8_night_60)) (snd_iload (pc := 37) (i := 4) dX8_night_37 (snd_bipush (pc := 39) (by decide) dX8_night_39 (snd_icmpge (pc := 41) (off := 17) (tgt := 58) (by decide) dX8_night_41 (snd_bipush (pc := 58) (by decide) dX8_night_58 (snd_ireturn dX8_night_60)) (snd_aload_n (pc := 44) (i := 0) dX8_night_44 (snd_getf (pc := 45) cls8 (f := 5) (by decide) wd_593 dX8_night_45 (snd_aload (pc := 48) (i := 5) dX8_night_48 (snd_iload (pc := 50) (i := 4) dX8_night_50 (snd_callV (pc := 52) (n := 2) cls4 (s_X4_roadsOf F) (by decide) (by decide) wd_1153 wd_1150 wd_1151 wd_1152 wd_128 hy_X4_roadsOf dX8_night_52 (snd_goto (pc := 55) (off := 5) (tgt := 60) (by decide) dX8_night_55 (snd_ireturn dX8_night_60))))))))))))))))))))) (snd_bipush (pc := 13) (by decide) dX8_night_13 (snd_ireturn dX8_night_15)))))))))

/-! LastWalker.sumByLaw(LLastWalker$Town;III)I -/
theorem dX8_sumByLaw_0 : decode cX8_sumByLaw 0 = .ok (.aload_n 1, 1) := by decide +kernel
theorem dX8_sumByLaw_1 : decode cX8_sumByLaw 1 = .ok (.iload_n 3, 1) := by decide +kernel
theorem dX8_sumByLaw_2 : decode cX8_sumByLaw 2 = .ok (.putfield 148, 3) := by decide +kernel
theorem dX8_sumByLaw_5 : decode cX8_sumByLaw 5 = .ok (.aload_n 0, 1) := by decide +kernel
theorem dX8_sumByLaw_6 : decode cX8_sumByLaw 6 = .ok (.getfield 37, 3) := by decide +kernel
theorem dX8_sumByLaw_9 : decode cX8_sumByLaw 9 = .ok (.getfield 268, 3) := by decide +kernel
theorem dX8_sumByLaw_12 : decode cX8_sumByLaw 12 = .ok (.aload_n 1, 1) := by decide +kernel
theorem dX8_sumByLaw_13 : decode cX8_sumByLaw 13 = .ok (.invokevirtual 346, 3) := by decide +kernel
theorem dX8_sumByLaw_16 : decode cX8_sumByLaw 16 = .ok (.aload_n 0, 1) := by decide +kernel
theorem dX8_sumByLaw_17 : decode cX8_sumByLaw 17 = .ok (.getfield 46, 3) := by decide +kernel
theorem dX8_sumByLaw_20 : decode cX8_sumByLaw 20 = .ok (.aload_n 1, 1) := by decide +kernel
theorem dX8_sumByLaw_21 : decode cX8_sumByLaw 21 = .ok (.iload_n 2, 1) := by decide +kernel
theorem dX8_sumByLaw_22 : decode cX8_sumByLaw 22 = .ok (.invokevirtual 326, 3) := by decide +kernel
theorem dX8_sumByLaw_25 : decode cX8_sumByLaw 25 = .ok (.aload_n 0, 1) := by decide +kernel
theorem dX8_sumByLaw_26 : decode cX8_sumByLaw 26 = .ok (.getfield 46, 3) := by decide +kernel
theorem dX8_sumByLaw_29 : decode cX8_sumByLaw 29 = .ok (.aload_n 1, 1) := by decide +kernel
theorem dX8_sumByLaw_30 : decode cX8_sumByLaw 30 = .ok (.iload 4, 2) := by decide +kernel
theorem dX8_sumByLaw_32 : decode cX8_sumByLaw 32 = .ok (.invokevirtual 330, 3) := by decide +kernel
theorem dX8_sumByLaw_35 : decode cX8_sumByLaw 35 = .ok (.ireturn, 1) := by decide +kernel
noncomputable def k_X8_sumByLaw (F : Nat) : AK := ak_aload 1 (ak_iload 3 (ak_putf 7 17 (ak_aload 0 (ak_getf 8 4 (ak_getf 3 0 (ak_aload 1 (ak_callv 1 1 (m_X1_layWorths F) (ak_aload 0 (ak_getf 8 5 (ak_aload 1 (ak_iload 2 (ak_callv 4 2 (m_X4_goAll F) (ak_aload 0 (ak_getf 8 5 (ak_aload 1 (ak_iload 4 (ak_callv 4 2 (m_X4_sumOf F) ak_ireturn)))))))))))))))))
noncomputable def m_X8_sumByLaw (F : Nat) : AF := mkF 1 5 (k_X8_sumByLaw F)
set_option maxRecDepth 20000 in
theorem s_X8_sumByLaw (F : Nat) : MA yX8_sumByLaw cX8_sumByLaw 5 (some .int) 18 (m_X8_sumByLaw F) := met_of (Or.inr (Or.inl ⟨rfl, rfl⟩)) (by decide) (by
  unfold k_X8_sumByLaw
  exact snd_aload_n (pc := 0) (i := 1) dX8_sumByLaw_0 (snd_iload_n (pc := 1) (i := 3) dX8_sumByLaw_1 (snd_putf (pc := 2) cls7 (f := 17) (by decide) rfl rfl rfl wd_234 dX8_sumByLaw_2 (snd_aload_n (pc := 5) (i := 0) dX8_sumByLaw_5 (snd_getf (pc := 6) cls8 (f := 4) (by decide) wd_592 dX8_sumByLaw_6 (snd_getf (pc := 9) cls3 (f := 0) (by decide) wd_473 dX8_sumByLaw_9 (snd_aload_n (pc := 12) (i := 1) dX8_sumByLaw_12 (snd_callV (pc := 13) (n := 1) cls1 (s_X1_layWorths F) (by decide) (by decide) wd_1006 wd_1162 wd_1004 wd_1005 wd_127 hy_X1_layWorths dX8_sumByLaw_13 (snd_aload_n (pc := 16) (i := 0) dX8_sumByLaw_16 (snd_getf (pc := 17) cls8 (f := 5) (by decide) wd_593 dX8_sumByLaw_17 (snd_aload_n (pc := 20) (i := 1) dX8_sumByLaw_20 (snd_iload_n (pc := 21) (i := 2) dX8_sumByLaw_21 (snd_callV (pc := 22) (n := 2) cls4 (s_X4_goAll F) (by decide) (by decide) wd_1107 wd_1104 wd_1105 wd_1106 wd_128 hy_X4_goAll dX8_sumByLaw_22 (snd_aload_n (pc := 25) (i := 0) dX8_sumByLaw_25 (snd_getf (pc := 26) cls8 (f := 5) (by decide) wd_593 dX8_sumByLaw_26 (snd_aload_n (pc := 29) (i := 1) dX8_sumByLaw_29 (snd_iload (pc := 30) (i := 4) dX8_sumByLaw_30 (snd_callV (pc := 32) (n := 2) cls4 (s_X4_sumOf F) (by decide) (by decide) wd_1139 wd_1136 wd_1137 wd_1138 wd_128 hy_X4_sumOf dX8_sumByLaw_32 (snd_ireturn dX8_sumByLaw_35)))))))))))))))))))

/-! LastWalker.other(IIII)I -/
theorem dX8_other_0 : decode cX8_other 0 = .ok (.aload_n 0, 1) := by decide +kernel
theorem dX8_other_1 : decode cX8_other 1 = .ok (.iload_n 1, 1) := by decide +kernel
theorem dX8_other_2 : decode cX8_other 2 = .ok (.iload_n 2, 1) := by decide +kernel
theorem dX8_other_3 : decode cX8_other 3 = .ok (.invokevirtual 321, 3) := by decide +kernel
theorem dX8_other_6 : decode cX8_other 6 = .ok (.astore 5, 2) := by decide +kernel
theorem dX8_other_8 : decode cX8_other 8 = .ok (.aload 5, 2) := by decide +kernel
theorem dX8_other_10 : decode cX8_other 10 = .ok (.ifnull 12, 3) := by decide +kernel
theorem dX8_other_13 : decode cX8_other 13 = .ok (.iload_n 3, 1) := by decide +kernel
theorem dX8_other_14 : decode cX8_other 14 = .ok (.ifCond .lt 8, 3) := by decide +kernel
theorem dX8_other_17 : decode cX8_other 17 = .ok (.iload_n 3, 1) := by decide +kernel
theorem dX8_other_18 : decode cX8_other 18 = .ok (.iconst 3, 1) := by decide +kernel
theorem dX8_other_19 : decode cX8_other 19 = .ok (.if_icmp .le 7, 3) := by decide +kernel
theorem dX8_other_22 : decode cX8_other 22 = .ok (.ldc_w 325, 3) := by decide +kernel
theorem dX8_other_25 : decode cX8_other 25 = .ok (.ireturn, 1) := by decide +kernel
theorem dX8_other_26 : decode cX8_other 26 = .ok (.aload_n 0, 1) := by decide +kernel
theorem dX8_other_27 : decode cX8_other 27 = .ok (.aload 5, 2) := by decide +kernel
theorem dX8_other_29 : decode cX8_other 29 = .ok (.iload_n 2, 1) := by decide +kernel
theorem dX8_other_30 : decode cX8_other 30 = .ok (.iload_n 3, 1) := by decide +kernel
theorem dX8_other_31 : decode cX8_other 31 = .ok (.iload 4, 2) := by decide +kernel
theorem dX8_other_33 : decode cX8_other 33 = .ok (.invokevirtual 342, 3) := by decide +kernel
theorem dX8_other_36 : decode cX8_other 36 = .ok (.ireturn, 1) := by decide +kernel
noncomputable def k_X8_other (F : Nat) : AK := ak_aload 0 (ak_iload 1 (ak_iload 2 (ak_callv 8 2 (m_X8_planFor F) (ak_astore 5 (ak_aload 5 (ak_ifnull (ak_push (vI (-100000)) ak_ireturn) (ak_iload 3 (ak_iflt (ak_push (vI (-100000)) ak_ireturn) (ak_iload 3 (ak_push (vI 3) (ak_cmpgt (ak_push (vI (-100000)) ak_ireturn) (ak_aload 0 (ak_aload 5 (ak_iload 2 (ak_iload 3 (ak_iload 4 (ak_callv 8 4 (m_X8_sumByLaw F) ak_ireturn)))))))))))))))))
noncomputable def m_X8_other (F : Nat) : AF := mkF 1 6 (k_X8_other F)
set_option maxRecDepth 20000 in
theorem s_X8_other (F : Nat) : MA yX8_other cX8_other 6 (some .int) 19 (m_X8_other F) := met_of (Or.inr (Or.inl ⟨rfl, rfl⟩)) (by decide) (by
  unfold k_X8_other
  exact snd_aload_n (pc := 0) (i := 0) dX8_other_0 (snd_iload_n (pc := 1) (i := 1) dX8_other_1 (snd_iload_n (pc := 2) (i := 2) dX8_other_2 (snd_callV (pc := 3) (n := 2) cls8 (s_X8_planFor F) (by decide) (by decide) wd_1102 wd_1099 wd_1101 wd_35 wd_120 hy_X8_planFor dX8_other_3 (snd_astore (pc := 6) (i := 5) (by decide) dX8_other_6 (snd_aload (pc := 8) (i := 5) dX8_other_8 (snd_ifnull (pc := 10) (off := 12) (tgt := 22) (by decide) dX8_other_10 (snd_ldcw (pc := 22) (z := (-100000)) (by decide) wd_1103 dX8_other_22 (snd_ireturn dX8_other_25)) (snd_iload_n (pc := 13) (i := 3) dX8_other_13 (snd_iflt (pc := 14) (off := 8) (tgt := 22) (by decide) dX8_other_14 (snd_ldcw (pc := 22) (z := (-100000)) (by decide) wd_1103 dX8_other_22 (snd_ireturn dX8_other_25)) (snd_iload_n (pc := 17) (i := 3) dX8_other_17 (snd_iconst (pc := 18) dX8_other_18 (snd_icmple (pc := 19) (off := 7) (tgt := 26) (by decide) dX8_other_19 (snd_aload_n (pc := 26) (i := 0) dX8_other_26 (snd_aload (pc := 27) (i := 5) dX8_other_27 (snd_iload_n (pc := 29) (i := 2) dX8_other_29 (snd_iload_n (pc := 30) (i := 3) dX8_other_30 (snd_iload (pc := 31) (i := 4) dX8_other_31 (snd_callV (pc := 33) (n := 4) cls8 (s_X8_sumByLaw F) (by decide) (by decide) wd_1161 wd_1158 wd_1160 wd_41 wd_120 hy_X8_sumByLaw dX8_other_33 (snd_ireturn dX8_other_36))))))) (snd_ldcw (pc := 22) (z := (-100000)) (by decide) wd_1103 dX8_other_22 (snd_ireturn dX8_other_25))))))))))))))

/-! LastWalker.netByKind(LLastWalker$Town;III)I -/
theorem dX8_netByKind_0 : decode cX8_netByKind 0 = .ok (.aload_n 1, 1) := by decide +kernel
theorem dX8_netByKind_1 : decode cX8_netByKind 1 = .ok (.getfield 186, 3) := by decide +kernel
theorem dX8_netByKind_4 : decode cX8_netByKind 4 = .ok (.iload_n 3, 1) := by decide +kernel
theorem dX8_netByKind_5 : decode cX8_netByKind 5 = .ok (.iaload, 1) := by decide +kernel
theorem dX8_netByKind_6 : decode cX8_netByKind 6 = .ok (.istore 5, 2) := by decide +kernel
theorem dX8_netByKind_8 : decode cX8_netByKind 8 = .ok (.aload_n 1, 1) := by decide +kernel
theorem dX8_netByKind_9 : decode cX8_netByKind 9 = .ok (.getfield 186, 3) := by decide +kernel
theorem dX8_netByKind_12 : decode cX8_netByKind 12 = .ok (.iload_n 3, 1) := by decide +kernel
theorem dX8_netByKind_13 : decode cX8_netByKind 13 = .ok (.iload 4, 2) := by decide +kernel
theorem dX8_netByKind_15 : decode cX8_netByKind 15 = .ok (.iastore, 1) := by decide +kernel
theorem dX8_netByKind_16 : decode cX8_netByKind 16 = .ok (.aload_n 0, 1) := by decide +kernel
theorem dX8_netByKind_17 : decode cX8_netByKind 17 = .ok (.getfield 46, 3) := by decide +kernel
theorem dX8_netByKind_20 : decode cX8_netByKind 20 = .ok (.aload_n 1, 1) := by decide +kernel
theorem dX8_netByKind_21 : decode cX8_netByKind 21 = .ok (.iload_n 2, 1) := by decide +kernel
theorem dX8_netByKind_22 : decode cX8_netByKind 22 = .ok (.invokevirtual 326, 3) := by decide +kernel
theorem dX8_netByKind_25 : decode cX8_netByKind 25 = .ok (.aload_n 1, 1) := by decide +kernel
theorem dX8_netByKind_26 : decode cX8_netByKind 26 = .ok (.getfield 186, 3) := by decide +kernel
theorem dX8_netByKind_29 : decode cX8_netByKind 29 = .ok (.iload_n 3, 1) := by decide +kernel
theorem dX8_netByKind_30 : decode cX8_netByKind 30 = .ok (.iload 5, 2) := by decide +kernel
theorem dX8_netByKind_32 : decode cX8_netByKind 32 = .ok (.iastore, 1) := by decide +kernel
theorem dX8_netByKind_33 : decode cX8_netByKind 33 = .ok (.aload_n 0, 1) := by decide +kernel
theorem dX8_netByKind_34 : decode cX8_netByKind 34 = .ok (.getfield 46, 3) := by decide +kernel
theorem dX8_netByKind_37 : decode cX8_netByKind 37 = .ok (.aload_n 1, 1) := by decide +kernel
theorem dX8_netByKind_38 : decode cX8_netByKind 38 = .ok (.iload_n 3, 1) := by decide +kernel
theorem dX8_netByKind_39 : decode cX8_netByKind 39 = .ok (.iconst 4, 1) := by decide +kernel
theorem dX8_netByKind_40 : decode cX8_netByKind 40 = .ok (.invokevirtual 334, 3) := by decide +kernel
theorem dX8_netByKind_43 : decode cX8_netByKind 43 = .ok (.ireturn, 1) := by decide +kernel
noncomputable def k_X8_netByKind (F : Nat) : AK := ak_aload 1 (ak_getf 7 11 (ak_iload 3 (ak_iald (ak_istore 5 (ak_aload 1 (ak_getf 7 11 (ak_iload 3 (ak_iload 4 (ak_iast (ak_aload 0 (ak_getf 8 5 (ak_aload 1 (ak_iload 2 (ak_callv 4 2 (m_X4_goAll F) (ak_aload 1 (ak_getf 7 11 (ak_iload 3 (ak_iload 5 (ak_iast (ak_aload 0 (ak_getf 8 5 (ak_aload 1 (ak_iload 3 (ak_push (vI 4) (ak_callv 4 3 (m_X4_figure F) ak_ireturn)))))))))))))))))))))))))
noncomputable def m_X8_netByKind (F : Nat) : AF := mkF 1 6 (k_X8_netByKind F)
set_option maxRecDepth 20000 in
theorem s_X8_netByKind (F : Nat) : MA yX8_netByKind cX8_netByKind 6 (some .int) 18 (m_X8_netByKind F) := met_of (Or.inr (Or.inl ⟨rfl, rfl⟩)) (by decide) (by
  unfold k_X8_netByKind
  exact snd_aload_n (pc := 0) (i := 1) dX8_netByKind_0 (snd_getf (pc := 1) cls7 (f := 11) (by decide) wd_211 dX8_netByKind_1 (snd_iload_n (pc := 4) (i := 3) dX8_netByKind_4 (snd_iald (pc := 5) dX8_netByKind_5 (snd_istore (pc := 6) (i := 5) (by decide) dX8_netByKind_6 (snd_aload_n (pc := 8) (i := 1) dX8_netByKind_8 (snd_getf (pc := 9) cls7 (f := 11) (by decide) wd_211 dX8_netByKind_9 (snd_iload_n (pc := 12) (i := 3) dX8_netByKind_12 (snd_iload (pc := 13) (i := 4) dX8_netByKind_13 (snd_iast (pc := 15) dX8_netByKind_15 (snd_aload_n (pc := 16) (i := 0) dX8_netByKind_16 (snd_getf (pc := 17) cls8 (f := 5) (by decide) wd_593 dX8_netByKind_17 (snd_aload_n (pc := 20) (i := 1) dX8_netByKind_20 (snd_iload_n (pc := 21) (i := 2) dX8_netByKind_21 (snd_callV (pc := 22) (n := 2) cls4 (s_X4_goAll F) (by decide) (by decide) wd_1107 wd_1104 wd_1105 wd_1106 wd_128 hy_X4_goAll dX8_netByKind_22 (snd_aload_n (pc := 25) (i := 1) dX8_netByKind_25 (snd_getf (pc := 26) cls7 (f := 11) (by decide) wd_211 dX8_netByKind_26 (snd_iload_n (pc := 29) (i := 3) dX8_netByKind_29 (snd_iload (pc := 30) (i := 5) dX8_netByKind_30 (snd_iast (pc := 32) dX8_netByKind_32 (snd_aload_n (pc := 33) (i := 0) dX8_netByKind_33 (snd_getf (pc := 34) cls8 (f := 5) (by decide) wd_593 dX8_netByKind_34 (snd_aload_n (pc := 37) (i := 1) dX8_netByKind_37 (snd_iload_n (pc := 38) (i := 3) dX8_netByKind_38 (snd_iconst (pc := 39) dX8_netByKind_39 (snd_callV (pc := 40) (n := 3) cls4 (s_X4_figure F) (by decide) (by decide) wd_1144 wd_1145 wd_1142 wd_1143 wd_128 hy_X4_figure dX8_netByKind_40 (snd_ireturn dX8_netByKind_43)))))))))))))))))))))))))))

/-! LastWalker.turned(IIII)I -/
theorem dX8_turned_0 : decode cX8_turned 0 = .ok (.aload_n 0, 1) := by decide +kernel
theorem dX8_turned_1 : decode cX8_turned 1 = .ok (.iload_n 1, 1) := by decide +kernel
theorem dX8_turned_2 : decode cX8_turned 2 = .ok (.iload_n 2, 1) := by decide +kernel
theorem dX8_turned_3 : decode cX8_turned 3 = .ok (.invokevirtual 321, 3) := by decide +kernel
theorem dX8_turned_6 : decode cX8_turned 6 = .ok (.astore 5, 2) := by decide +kernel
theorem dX8_turned_8 : decode cX8_turned 8 = .ok (.aload 5, 2) := by decide +kernel
theorem dX8_turned_10 : decode cX8_turned 10 = .ok (.ifnull 23, 3) := by decide +kernel
theorem dX8_turned_13 : decode cX8_turned 13 = .ok (.aload 5, 2) := by decide +kernel
theorem dX8_turned_15 : decode cX8_turned 15 = .ok (.iload_n 3, 1) := by decide +kernel
theorem dX8_turned_16 : decode cX8_turned 16 = .ok (.invokevirtual 177, 3) := by decide +kernel
theorem dX8_turned_19 : decode cX8_turned 19 = .ok (.ifCond .eq 14, 3) := by decide +kernel
theorem dX8_turned_22 : decode cX8_turned 22 = .ok (.iload 4, 2) := by decide +kernel
theorem dX8_turned_24 : decode cX8_turned 24 = .ok (.ifCond .lt 9, 3) := by decide +kernel
theorem dX8_turned_27 : decode cX8_turned 27 = .ok (.iload 4, 2) := by decide +kernel
theorem dX8_turned_29 : decode cX8_turned 29 = .ok (.iconst 2, 1) := by decide +kernel
theorem dX8_turned_30 : decode cX8_turned 30 = .ok (.if_icmp .le 7, 3) := by decide +kernel
theorem dX8_turned_33 : decode cX8_turned 33 = .ok (.ldc_w 325, 3) := by decide +kernel
theorem dX8_turned_36 : decode cX8_turned 36 = .ok (.ireturn, 1) := by decide +kernel
theorem dX8_turned_37 : decode cX8_turned 37 = .ok (.aload_n 0, 1) := by decide +kernel
theorem dX8_turned_38 : decode cX8_turned 38 = .ok (.aload 5, 2) := by decide +kernel
theorem dX8_turned_40 : decode cX8_turned 40 = .ok (.iload_n 2, 1) := by decide +kernel
theorem dX8_turned_41 : decode cX8_turned 41 = .ok (.iload_n 3, 1) := by decide +kernel
theorem dX8_turned_42 : decode cX8_turned 42 = .ok (.iload 4, 2) := by decide +kernel
theorem dX8_turned_44 : decode cX8_turned 44 = .ok (.invokevirtual 349, 3) := by decide +kernel
theorem dX8_turned_47 : decode cX8_turned 47 = .ok (.ireturn, 1) := by decide +kernel
noncomputable def k_X8_turned (F : Nat) : AK := ak_aload 0 (ak_iload 1 (ak_iload 2 (ak_callv 8 2 (m_X8_planFor F) (ak_astore 5 (ak_aload 5 (ak_ifnull (ak_push (vI (-100000)) ak_ireturn) (ak_aload 5 (ak_iload 3 (ak_callv 7 1 (m_X7_hasPerson F) (ak_ifeq (ak_push (vI (-100000)) ak_ireturn) (ak_iload 4 (ak_iflt (ak_push (vI (-100000)) ak_ireturn) (ak_iload 4 (ak_push (vI 2) (ak_cmpgt (ak_push (vI (-100000)) ak_ireturn) (ak_aload 0 (ak_aload 5 (ak_iload 2 (ak_iload 3 (ak_iload 4 (ak_callv 8 4 (m_X8_netByKind F) ak_ireturn)))))))))))))))))))))
noncomputable def m_X8_turned (F : Nat) : AF := mkF 1 6 (k_X8_turned F)
set_option maxRecDepth 20000 in
theorem s_X8_turned (F : Nat) : MA yX8_turned cX8_turned 6 (some .int) 19 (m_X8_turned F) := met_of (Or.inr (Or.inl ⟨rfl, rfl⟩)) (by decide) (by
  unfold k_X8_turned
  exact snd_aload_n (pc := 0) (i := 0) dX8_turned_0 (snd_iload_n (pc := 1) (i := 1) dX8_turned_1 (snd_iload_n (pc := 2) (i := 2) dX8_turned_2 (snd_callV (pc := 3) (n := 2) cls8 (s_X8_planFor F) (by decide) (by decide) wd_1102 wd_1099 wd_1101 wd_35 wd_120 hy_X8_planFor dX8_turned_3 (snd_astore (pc := 6) (i := 5) (by decide) dX8_turned_6 (snd_aload (pc := 8) (i := 5) dX8_turned_8 (snd_ifnull (pc := 10) (off := 23) (tgt := 33) (by decide) dX8_turned_10 (snd_ldcw (pc := 33) (z := (-100000)) (by decide) wd_1103 dX8_turned_33 (snd_ireturn dX8_turned_36)) (snd_aload (pc := 13) (i := 5) dX8_turned_13 (snd_iload_n (pc := 15) (i := 3) dX8_turned_15 (snd_callV (pc := 16) (n := 1) cls7 (s_X7_hasPerson F) (by decide) (by decide) wd_854 wd_851 wd_852 wd_853 wd_122 hy_X7_hasPerson dX8_turned_16 (snd_ifeq (pc := 19) (off := 14) (tgt := 33) (by decide) dX8_turned_19 (snd_ldcw (pc := 33) (z := (-100000)) (by decide) wd_1103 dX8_turned_33 (snd_ireturn dX8_turned_36)) (snd_iload (pc := 22) (i := 4) dX8_turned_22 (snd_iflt (pc := 24) (off := 9) (tgt := 33) (by decide) dX8_turned_24 (snd_ldcw (pc := 33) (z := (-100000)) (by decide) wd_1103 dX8_turned_33 (snd_ireturn dX8_turned_36)) (snd_iload (pc := 27) (i := 4) dX8_turned_27 (snd_iconst (pc := 29) dX8_turned_29 (snd_icmple (pc := 30) (off := 7) (tgt := 37) (by decide) dX8_turned_30 (snd_aload_n (pc := 37) (i := 0) dX8_turned_37 (snd_aload (pc := 38) (i := 5) dX8_turned_38 (snd_iload_n (pc := 40) (i := 2) dX8_turned_40 (snd_iload_n (pc := 41) (i := 3) dX8_turned_41 (snd_iload (pc := 42) (i := 4) dX8_turned_42 (snd_callV (pc := 44) (n := 4) cls8 (s_X8_netByKind F) (by decide) (by decide) wd_1170 wd_1167 wd_1169 wd_42 wd_120 hy_X8_netByKind dX8_turned_44 (snd_ireturn dX8_turned_47))))))) (snd_ldcw (pc := 33) (z := (-100000)) (by decide) wd_1103 dX8_turned_33 (snd_ireturn dX8_turned_36))))))))))))))))))

/-! LastWalker.netOf(LLastWalker$Town;II)I -/
theorem dX8_netOf_0 : decode cX8_netOf 0 = .ok (.aload_n 0, 1) := by decide +kernel
theorem dX8_netOf_1 : decode cX8_netOf 1 = .ok (.getfield 46, 3) := by decide +kernel
theorem dX8_netOf_4 : decode cX8_netOf 4 = .ok (.aload_n 1, 1) := by decide +kernel
theorem dX8_netOf_5 : decode cX8_netOf 5 = .ok (.iload_n 2, 1) := by decide +kernel
theorem dX8_netOf_6 : decode cX8_netOf 6 = .ok (.invokevirtual 326, 3) := by decide +kernel
theorem dX8_netOf_9 : decode cX8_netOf 9 = .ok (.aload_n 0, 1) := by decide +kernel
theorem dX8_netOf_10 : decode cX8_netOf 10 = .ok (.getfield 46, 3) := by decide +kernel
theorem dX8_netOf_13 : decode cX8_netOf 13 = .ok (.aload_n 1, 1) := by decide +kernel
theorem dX8_netOf_14 : decode cX8_netOf 14 = .ok (.iload_n 3, 1) := by decide +kernel
theorem dX8_netOf_15 : decode cX8_netOf 15 = .ok (.iconst 4, 1) := by decide +kernel
theorem dX8_netOf_16 : decode cX8_netOf 16 = .ok (.invokevirtual 334, 3) := by decide +kernel
theorem dX8_netOf_19 : decode cX8_netOf 19 = .ok (.ireturn, 1) := by decide +kernel
noncomputable def k_X8_netOf (F : Nat) : AK := ak_aload 0 (ak_getf 8 5 (ak_aload 1 (ak_iload 2 (ak_callv 4 2 (m_X4_goAll F) (ak_aload 0 (ak_getf 8 5 (ak_aload 1 (ak_iload 3 (ak_push (vI 4) (ak_callv 4 3 (m_X4_figure F) ak_ireturn))))))))))
noncomputable def m_X8_netOf (F : Nat) : AF := mkF 1 4 (k_X8_netOf F)
set_option maxRecDepth 20000 in
theorem s_X8_netOf (F : Nat) : MA yX8_netOf cX8_netOf 4 (some .int) 18 (m_X8_netOf F) := met_of (Or.inr (Or.inl ⟨rfl, rfl⟩)) (by decide) (by
  unfold k_X8_netOf
  exact snd_aload_n (pc := 0) (i := 0) dX8_netOf_0 (snd_getf (pc := 1) cls8 (f := 5) (by decide) wd_593 dX8_netOf_1 (snd_aload_n (pc := 4) (i := 1) dX8_netOf_4 (snd_iload_n (pc := 5) (i := 2) dX8_netOf_5 (snd_callV (pc := 6) (n := 2) cls4 (s_X4_goAll F) (by decide) (by decide) wd_1107 wd_1104 wd_1105 wd_1106 wd_128 hy_X4_goAll dX8_netOf_6 (snd_aload_n (pc := 9) (i := 0) dX8_netOf_9 (snd_getf (pc := 10) cls8 (f := 5) (by decide) wd_593 dX8_netOf_10 (snd_aload_n (pc := 13) (i := 1) dX8_netOf_13 (snd_iload_n (pc := 14) (i := 3) dX8_netOf_14 (snd_iconst (pc := 15) dX8_netOf_15 (snd_callV (pc := 16) (n := 3) cls4 (s_X4_figure F) (by decide) (by decide) wd_1144 wd_1145 wd_1142 wd_1143 wd_128 hy_X4_figure dX8_netOf_16 (snd_ireturn dX8_netOf_19))))))))))))

/-! LastWalker.bestKind(LLastWalker$Town;II)I -/
theorem dX8_bestKind_0 : decode cX8_bestKind 0 = .ok (.iconst 0, 1) := by decide +kernel
theorem dX8_bestKind_1 : decode cX8_bestKind 1 = .ok (.istore 4, 2) := by decide +kernel
theorem dX8_bestKind_3 : decode cX8_bestKind 3 = .ok (.aload_n 0, 1) := by decide +kernel
theorem dX8_bestKind_4 : decode cX8_bestKind 4 = .ok (.aload_n 1, 1) := by decide +kernel
theorem dX8_bestKind_5 : decode cX8_bestKind 5 = .ok (.iload_n 2, 1) := by decide +kernel
theorem dX8_bestKind_6 : decode cX8_bestKind 6 = .ok (.iload_n 3, 1) := by decide +kernel
theorem dX8_bestKind_7 : decode cX8_bestKind 7 = .ok (.iconst 0, 1) := by decide +kernel
theorem dX8_bestKind_8 : decode cX8_bestKind 8 = .ok (.invokevirtual 349, 3) := by decide +kernel
theorem dX8_bestKind_11 : decode cX8_bestKind 11 = .ok (.istore 5, 2) := by decide +kernel
theorem dX8_bestKind_13 : decode cX8_bestKind 13 = .ok (.iconst 1, 1) := by decide +kernel
theorem dX8_bestKind_14 : decode cX8_bestKind 14 = .ok (.istore 6, 2) := by decide +kernel
theorem dX8_bestKind_16 : decode cX8_bestKind 16 = .ok (.iload 6, 2) := by decide +kernel
theorem dX8_bestKind_18 : decode cX8_bestKind 18 = .ok (.iconst 3, 1) := by decide +kernel
theorem dX8_bestKind_19 : decode cX8_bestKind 19 = .ok (.if_icmp .ge 35, 3) := by decide +kernel
theorem dX8_bestKind_22 : decode cX8_bestKind 22 = .ok (.aload_n 0, 1) := by decide +kernel
theorem dX8_bestKind_23 : decode cX8_bestKind 23 = .ok (.aload_n 1, 1) := by decide +kernel
theorem dX8_bestKind_24 : decode cX8_bestKind 24 = .ok (.iload_n 2, 1) := by decide +kernel
theorem dX8_bestKind_25 : decode cX8_bestKind 25 = .ok (.iload_n 3, 1) := by decide +kernel
theorem dX8_bestKind_26 : decode cX8_bestKind 26 = .ok (.iload 6, 2) := by decide +kernel
theorem dX8_bestKind_28 : decode cX8_bestKind 28 = .ok (.invokevirtual 349, 3) := by decide +kernel
theorem dX8_bestKind_31 : decode cX8_bestKind 31 = .ok (.istore 7, 2) := by decide +kernel
theorem dX8_bestKind_33 : decode cX8_bestKind 33 = .ok (.iload 7, 2) := by decide +kernel
theorem dX8_bestKind_35 : decode cX8_bestKind 35 = .ok (.iload 5, 2) := by decide +kernel
theorem dX8_bestKind_37 : decode cX8_bestKind 37 = .ok (.if_icmp .ge 11, 3) := by decide +kernel
theorem dX8_bestKind_40 : decode cX8_bestKind 40 = .ok (.iload 7, 2) := by decide +kernel
theorem dX8_bestKind_42 : decode cX8_bestKind 42 = .ok (.istore 5, 2) := by decide +kernel
theorem dX8_bestKind_44 : decode cX8_bestKind 44 = .ok (.iload 6, 2) := by decide +kernel
theorem dX8_bestKind_46 : decode cX8_bestKind 46 = .ok (.istore 4, 2) := by decide +kernel
theorem dX8_bestKind_48 : decode cX8_bestKind 48 = .ok (.iinc 6 1, 3) := by decide +kernel
theorem dX8_bestKind_51 : decode cX8_bestKind 51 = .ok (.goto (-35), 3) := by decide +kernel
theorem dX8_bestKind_54 : decode cX8_bestKind 54 = .ok (.iload 4, 2) := by decide +kernel
theorem dX8_bestKind_56 : decode cX8_bestKind 56 = .ok (.ireturn, 1) := by decide +kernel
noncomputable def k_X8_bestKind_48 (F : Nat) (h16 : AK) : AK := ak_iinc 6 1 h16
set_option maxRecDepth 20000 in
theorem sk_X8_bestKind_48 (F : Nat) {h16 : AK} (hh16 : Snd X0 RX8 cX8_bestKind 8 19 16 h16) : Snd X0 RX8 cX8_bestKind 8 19 48 (k_X8_bestKind_48 F h16) := by
  unfold k_X8_bestKind_48
  exact snd_iinc (pc := 48) (i := 6) (n := 1) (by decide) dX8_bestKind_48 (snd_goto (pc := 51) (off := (-35)) (tgt := 16) (by decide) dX8_bestKind_51 (hh16))
noncomputable def kb_X8_bestKind_16 (F : Nat) (self : AK) : AK := ak_iload 6 (ak_push (vI 3) (ak_cmplt (ak_aload 0 (ak_aload 1 (ak_iload 2 (ak_iload 3 (ak_iload 6 (ak_callv 8 4 (m_X8_netByKind F) (ak_istore 7 (ak_iload 7 (ak_iload 5 (ak_cmplt (ak_iload 7 (ak_istore 5 (ak_iload 6 (ak_istore 4 ((k_X8_bestKind_48 F self)))))) ((k_X8_bestKind_48 F self)))))))))))) (ak_iload 4 ak_ireturn)))
noncomputable def k_X8_bestKind_16 (F : Nat) (n : Nat) : AK := Nat.rec (motive := fun _ => AK) ak_none (fun _ self => kb_X8_bestKind_16 F self) n
set_option maxRecDepth 20000 in
theorem sk_X8_bestKind_16 (F : Nat) : ∀ n, Snd X0 RX8 cX8_bestKind 8 19 16 (k_X8_bestKind_16 F n) := by
  intro n
  induction n with
  | zero => exact snd_none
  | succ n ih =>
    show Snd X0 RX8 cX8_bestKind 8 19 16 (kb_X8_bestKind_16 F (k_X8_bestKind_16 F n))
    unfold kb_X8_bestKind_16
    exact snd_iload (pc := 16) (i := 6) dX8_bestKind_16 (snd_iconst (pc := 18) dX8_bestKind_18 (snd_icmpge (pc := 19) (off := 35) (tgt := 54) (by decide) dX8_bestKind_19 (snd_iload (pc := 54) (i := 4) dX8_bestKind_54 (snd_ireturn dX8_bestKind_56)) (snd_aload_n (pc := 22) (i := 0) dX8_bestKind_22 (snd_aload_n (pc := 23) (i := 1) dX8_bestKind_23 (snd_iload_n (pc := 24) (i := 2) dX8_bestKind_24 (snd_iload_n (pc := 25) (i := 3) dX8_bestKind_25 (snd_iload (pc := 26) (i := 6) dX8_bestKind_26 (snd_callV (pc := 28) (n := 4) cls8 (s_X8_netByKind F) (by decide) (by decide) wd_1170 wd_1167 wd_1169 wd_42 wd_120 hy_X8_netByKind dX8_bestKind_28 (snd_istore (pc := 31) (i := 7) (by decide) dX8_bestKind_31 (snd_iload (pc := 33) (i := 7) dX8_bestKind_33 (snd_iload (pc := 35) (i := 5) dX8_bestKind_35 (snd_icmpge (pc := 37) (off := 11) (tgt := 48) (by decide) dX8_bestKind_37 ((sk_X8_bestKind_48 F ih)) (snd_iload (pc := 40) (i := 7) dX8_bestKind_40 (snd_istore (pc := 42) (i := 5) (by decide) dX8_bestKind_42 (snd_iload (pc := 44) (i := 6) dX8_bestKind_44 (snd_istore (pc := 46) (i := 4) (by decide) dX8_bestKind_46 ((sk_X8_bestKind_48 F ih))))))))))))))))))
noncomputable def k_X8_bestKind (F : Nat) : AK := ak_push (vI 0) (ak_istore 4 (ak_aload 0 (ak_aload 1 (ak_iload 2 (ak_iload 3 (ak_push (vI 0) (ak_callv 8 4 (m_X8_netByKind F) (ak_istore 5 (ak_push (vI 1) (ak_istore 6 ((k_X8_bestKind_16 F F))))))))))))
noncomputable def m_X8_bestKind (F : Nat) : AF := mkF 1 8 (k_X8_bestKind F)
set_option maxRecDepth 20000 in
theorem s_X8_bestKind (F : Nat) : MA yX8_bestKind cX8_bestKind 8 (some .int) 19 (m_X8_bestKind F) := met_of (Or.inr (Or.inl ⟨rfl, rfl⟩)) (by decide) (by
  unfold k_X8_bestKind
  exact snd_iconst (pc := 0) dX8_bestKind_0 (snd_istore (pc := 1) (i := 4) (by decide) dX8_bestKind_1 (snd_aload_n (pc := 3) (i := 0) dX8_bestKind_3 (snd_aload_n (pc := 4) (i := 1) dX8_bestKind_4 (snd_iload_n (pc := 5) (i := 2) dX8_bestKind_5 (snd_iload_n (pc := 6) (i := 3) dX8_bestKind_6 (snd_iconst (pc := 7) dX8_bestKind_7 (snd_callV (pc := 8) (n := 4) cls8 (s_X8_netByKind F) (by decide) (by decide) wd_1170 wd_1167 wd_1169 wd_42 wd_120 hy_X8_netByKind dX8_bestKind_8 (snd_istore (pc := 11) (i := 5) (by decide) dX8_bestKind_11 (snd_iconst (pc := 13) dX8_bestKind_13 (snd_istore (pc := 14) (i := 6) (by decide) dX8_bestKind_14 ((sk_X8_bestKind_16 F F)))))))))))))
