/-! LastWalkerModel.costOf(IIII)J -/
theorem dX9_costOf_0 : decode cX9_costOf 0 = .ok (.iload_n 2, 1) := by decide +kernel
theorem dX9_costOf_1 : decode cX9_costOf 1 = .ok (.ifCond .ne 15, 3) := by decide +kernel
theorem dX9_costOf_4 : decode cX9_costOf 4 = .ok (.ldc2_w 300, 3) := by decide +kernel
theorem dX9_costOf_7 : decode cX9_costOf 7 = .ok (.aload_n 0, 1) := by decide +kernel
theorem dX9_costOf_8 : decode cX9_costOf 8 = .ok (.iload_n 3, 1) := by decide +kernel
theorem dX9_costOf_9 : decode cX9_costOf 9 = .ok (.iconst 2, 1) := by decide +kernel
theorem dX9_costOf_10 : decode cX9_costOf 10 = .ok (.invokevirtual 294, 3) := by decide +kernel
theorem dX9_costOf_13 : decode cX9_costOf 13 = .ok (.i2l, 1) := by decide +kernel
theorem dX9_costOf_14 : decode cX9_costOf 14 = .ok (.lmul, 1) := by decide +kernel
theorem dX9_costOf_15 : decode cX9_costOf 15 = .ok (.lreturn, 1) := by decide +kernel
theorem dX9_costOf_16 : decode cX9_costOf 16 = .ok (.ldc2_w 300, 3) := by decide +kernel
theorem dX9_costOf_19 : decode cX9_costOf 19 = .ok (.aload_n 0, 1) := by decide +kernel
theorem dX9_costOf_20 : decode cX9_costOf 20 = .ok (.iload_n 3, 1) := by decide +kernel
theorem dX9_costOf_21 : decode cX9_costOf 21 = .ok (.iconst 2, 1) := by decide +kernel
theorem dX9_costOf_22 : decode cX9_costOf 22 = .ok (.invokevirtual 294, 3) := by decide +kernel
theorem dX9_costOf_25 : decode cX9_costOf 25 = .ok (.aload_n 0, 1) := by decide +kernel
theorem dX9_costOf_26 : decode cX9_costOf 26 = .ok (.iload_n 1, 1) := by decide +kernel
theorem dX9_costOf_27 : decode cX9_costOf 27 = .ok (.iconst 1, 1) := by decide +kernel
theorem dX9_costOf_28 : decode cX9_costOf 28 = .ok (.invokevirtual 282, 3) := by decide +kernel
theorem dX9_costOf_31 : decode cX9_costOf 31 = .ok (.imul, 1) := by decide +kernel
theorem dX9_costOf_32 : decode cX9_costOf 32 = .ok (.aload_n 0, 1) := by decide +kernel
theorem dX9_costOf_33 : decode cX9_costOf 33 = .ok (.iload_n 1, 1) := by decide +kernel
theorem dX9_costOf_34 : decode cX9_costOf 34 = .ok (.iload_n 3, 1) := by decide +kernel
theorem dX9_costOf_35 : decode cX9_costOf 35 = .ok (.invokevirtual 325, 3) := by decide +kernel
theorem dX9_costOf_38 : decode cX9_costOf 38 = .ok (.iadd, 1) := by decide +kernel
theorem dX9_costOf_39 : decode cX9_costOf 39 = .ok (.i2l, 1) := by decide +kernel
theorem dX9_costOf_40 : decode cX9_costOf 40 = .ok (.lmul, 1) := by decide +kernel
theorem dX9_costOf_41 : decode cX9_costOf 41 = .ok (.lstore 5, 2) := by decide +kernel
theorem dX9_costOf_43 : decode cX9_costOf 43 = .ok (.iload 4, 2) := by decide +kernel
theorem dX9_costOf_45 : decode cX9_costOf 45 = .ok (.bipush 60, 2) := by decide +kernel
theorem dX9_costOf_47 : decode cX9_costOf 47 = .ok (.idiv, 1) := by decide +kernel
theorem dX9_costOf_48 : decode cX9_costOf 48 = .ok (.iconst 5, 1) := by decide +kernel
theorem dX9_costOf_49 : decode cX9_costOf 49 = .ok (.if_icmp .ge 11, 3) := by decide +kernel
theorem dX9_costOf_52 : decode cX9_costOf 52 = .ok (.iload 4, 2) := by decide +kernel
theorem dX9_costOf_54 : decode cX9_costOf 54 = .ok (.bipush 60, 2) := by decide +kernel
theorem dX9_costOf_56 : decode cX9_costOf 56 = .ok (.idiv, 1) := by decide +kernel
theorem dX9_costOf_57 : decode cX9_costOf 57 = .ok (.goto 4, 3) := by decide +kernel
theorem dX9_costOf_60 : decode cX9_costOf 60 = .ok (.iconst 5, 1) := by decide +kernel
theorem dX9_costOf_61 : decode cX9_costOf 61 = .ok (.istore 7, 2) := by decide +kernel
theorem dX9_costOf_63 : decode cX9_costOf 63 = .ok (.iload_n 2, 1) := by decide +kernel
theorem dX9_costOf_64 : decode cX9_costOf 64 = .ok (.iconst 2, 1) := by decide +kernel
theorem dX9_costOf_65 : decode cX9_costOf 65 = .ok (.if_icmp .ne 29, 3) := by decide +kernel
theorem dX9_costOf_68 : decode cX9_costOf 68 = .ok (.aload_n 0, 1) := by decide +kernel
theorem dX9_costOf_69 : decode cX9_costOf 69 = .ok (.iload_n 1, 1) := by decide +kernel
theorem dX9_costOf_70 : decode cX9_costOf 70 = .ok (.iload_n 3, 1) := by decide +kernel
theorem dX9_costOf_71 : decode cX9_costOf 71 = .ok (.iload 4, 2) := by decide +kernel
theorem dX9_costOf_73 : decode cX9_costOf 73 = .ok (.invokevirtual 328, 3) := by decide +kernel
theorem dX9_costOf_76 : decode cX9_costOf 76 = .ok (.ifCond .eq 18, 3) := by decide +kernel
theorem dX9_costOf_79 : decode cX9_costOf 79 = .ok (.lload 5, 2) := by decide +kernel
theorem dX9_costOf_81 : decode cX9_costOf 81 = .ok (.aload_n 0, 1) := by decide +kernel
theorem dX9_costOf_82 : decode cX9_costOf 82 = .ok (.iload_n 3, 1) := by decide +kernel
theorem dX9_costOf_83 : decode cX9_costOf 83 = .ok (.iload 7, 2) := by decide +kernel
theorem dX9_costOf_85 : decode cX9_costOf 85 = .ok (.iconst 1, 1) := by decide +kernel
theorem dX9_costOf_86 : decode cX9_costOf 86 = .ok (.iadd, 1) := by decide +kernel
theorem dX9_costOf_87 : decode cX9_costOf 87 = .ok (.invokevirtual 348, 3) := by decide +kernel
theorem dX9_costOf_90 : decode cX9_costOf 90 = .ok (.lsub, 1) := by decide +kernel
theorem dX9_costOf_91 : decode cX9_costOf 91 = .ok (.goto 5, 3) := by decide +kernel
theorem dX9_costOf_94 : decode cX9_costOf 94 = .ok (.lload 5, 2) := by decide +kernel
theorem dX9_costOf_96 : decode cX9_costOf 96 = .ok (.lreturn, 1) := by decide +kernel
noncomputable def k_X9_costOf_61 (F : Nat) : AK := ak_istore 7 (ak_iload 2 (ak_push (vI 2) (ak_cmpeq (ak_aload 0 (ak_iload 1 (ak_iload 3 (ak_iload 4 (ak_callv 9 3 (m_X9_comes F) (ak_ifeq (ak_lload 5 ak_lreturn) (ak_lload 5 (ak_aload 0 (ak_iload 3 (ak_iload 7 (ak_push (vI 1) (ak_iadd (ak_callv 9 2 (m_X9_worthBy F) (ak_lsub ak_lreturn)))))))))))))) (ak_lload 5 ak_lreturn))))
set_option maxRecDepth 20000 in
theorem sk_X9_costOf_61 (F : Nat) : Snd X0 RX9 cX9_costOf 8 3 61 (k_X9_costOf_61 F) := by
  unfold k_X9_costOf_61
  exact snd_istore (pc := 61) (i := 7) (by decide) dX9_costOf_61 (snd_iload_n (pc := 63) (i := 2) dX9_costOf_63 (snd_iconst (pc := 64) dX9_costOf_64 (snd_icmpne (pc := 65) (off := 29) (tgt := 94) (by decide) dX9_costOf_65 (snd_lload (pc := 94) (i := 5) dX9_costOf_94 (snd_lreturn dX9_costOf_96)) (snd_aload_n (pc := 68) (i := 0) dX9_costOf_68 (snd_iload_n (pc := 69) (i := 1) dX9_costOf_69 (snd_iload_n (pc := 70) (i := 3) dX9_costOf_70 (snd_iload (pc := 71) (i := 4) dX9_costOf_71 (snd_callV (pc := 73) (n := 3) cls9 (s_X9_comes F) (by decide) (by decide) wd_1685 wd_1682 wd_1684 wd_84 wd_129 hy_X9_comes dX9_costOf_73 (snd_ifeq (pc := 76) (off := 18) (tgt := 94) (by decide) dX9_costOf_76 (snd_lload (pc := 94) (i := 5) dX9_costOf_94 (snd_lreturn dX9_costOf_96)) (snd_lload (pc := 79) (i := 5) dX9_costOf_79 (snd_aload_n (pc := 81) (i := 0) dX9_costOf_81 (snd_iload_n (pc := 82) (i := 3) dX9_costOf_82 (snd_iload (pc := 83) (i := 7) dX9_costOf_83 (snd_iconst (pc := 85) dX9_costOf_85 (snd_iadd (pc := 86) dX9_costOf_86 (snd_callV (pc := 87) (n := 2) cls9 (s_X9_worthBy F) (by decide) (by decide) wd_1714 wd_1711 wd_1713 wd_87 wd_129 hy_X9_worthBy dX9_costOf_87 (snd_lsub (pc := 90) dX9_costOf_90 (snd_goto (pc := 91) (off := 5) (tgt := 96) (by decide) dX9_costOf_91 (snd_lreturn dX9_costOf_96)))))))))))))))))))
noncomputable def k_X9_costOf (F : Nat) : AK := ak_iload 2 (ak_ifeq (ak_push (vL 1000000000000) (ak_aload 0 (ak_iload 3 (ak_push (vI 2) (ak_callv 9 2 (m_X9_roadOf F) (ak_i2l (ak_lmul ak_lreturn))))))) (ak_push (vL 1000000000000) (ak_aload 0 (ak_iload 3 (ak_push (vI 2) (ak_callv 9 2 (m_X9_roadOf F) (ak_aload 0 (ak_iload 1 (ak_push (vI 1) (ak_callv 9 2 (m_X9_personOf F) (ak_imul (ak_aload 0 (ak_iload 1 (ak_iload 3 (ak_callv 9 2 (m_X9_pays F) (ak_iadd (ak_i2l (ak_lmul (ak_lstore 5 (ak_iload 4 (ak_push (vI 60) (ak_idiv (ak_push (vI 5) (ak_cmplt (ak_iload 4 (ak_push (vI 60) (ak_idiv ((k_X9_costOf_61 F))))) (ak_push (vI 5) ((k_X9_costOf_61 F)))))))))))))))))))))))))))
noncomputable def m_X9_costOf (F : Nat) : AF := mkF 4 8 (k_X9_costOf F)
set_option maxRecDepth 20000 in
theorem s_X9_costOf (F : Nat) : MA yX9_costOf cX9_costOf 8 (some .long) 3 (m_X9_costOf F) := met_of (Or.inr (Or.inr (Or.inr (Or.inr (Or.inl ⟨rfl, rfl⟩))))) (by decide) (by
  unfold k_X9_costOf
  exact snd_iload_n (pc := 0) (i := 2) dX9_costOf_0 (snd_ifne (pc := 1) (off := 15) (tgt := 16) (by decide) dX9_costOf_1 (snd_ldc2 (pc := 16) (z := (1000000000000)) (by decide) wd_1715 dX9_costOf_16 (snd_aload_n (pc := 19) (i := 0) dX9_costOf_19 (snd_iload_n (pc := 20) (i := 3) dX9_costOf_20 (snd_iconst (pc := 21) dX9_costOf_21 (snd_callV (pc := 22) (n := 2) cls9 (s_X9_roadOf F) (by decide) (by decide) wd_1657 wd_1654 wd_1656 wd_77 wd_129 hy_X9_roadOf dX9_costOf_22 (snd_aload_n (pc := 25) (i := 0) dX9_costOf_25 (snd_iload_n (pc := 26) (i := 1) dX9_costOf_26 (snd_iconst (pc := 27) dX9_costOf_27 (snd_callV (pc := 28) (n := 2) cls9 (s_X9_personOf F) (by decide) (by decide) wd_1645 wd_1642 wd_1644 wd_74 wd_129 hy_X9_personOf dX9_costOf_28 (snd_imul (pc := 31) dX9_costOf_31 (snd_aload_n (pc := 32) (i := 0) dX9_costOf_32 (snd_iload_n (pc := 33) (i := 1) dX9_costOf_33 (snd_iload_n (pc := 34) (i := 3) dX9_costOf_34 (snd_callV (pc := 35) (n := 2) cls9 (s_X9_pays F) (by decide) (by decide) wd_1677 wd_1674 wd_1676 wd_82 wd_129 hy_X9_pays dX9_costOf_35 (snd_iadd (pc := 38) dX9_costOf_38 (snd_i2l (pc := 39) dX9_costOf_39 (snd_lmul (pc := 40) dX9_costOf_40 (snd_lstore (pc := 41) (i := 5) (by decide) dX9_costOf_41 (snd_iload (pc := 43) (i := 4) dX9_costOf_43 (snd_bipush (pc := 45) (by decide) dX9_costOf_45 (snd_idiv (pc := 47) dX9_costOf_47 (snd_iconst (pc := 48) dX9_costOf_48 (snd_icmpge (pc := 49) (off := 11) (tgt := 60) (by decide) dX9_costOf_49 (snd_iconst (pc := 60) dX9_costOf_60 ((sk_X9_costOf_61 F))) (snd_iload (pc := 52) (i := 4) dX9_costOf_52 (snd_bipush (pc := 54) (by decide) dX9_costOf_54 (snd_idiv (pc := 56) dX9_costOf_56 (snd_goto (pc := 57) (off := 4) (tgt := 61) (by decide) dX9_costOf_57 ((sk_X9_costOf_61 F))))))))))))))))))))))))))))) (snd_ldc2 (pc := 4) (z := (1000000000000)) (by decide) wd_1715 dX9_costOf_4 (snd_aload_n (pc := 7) (i := 0) dX9_costOf_7 (snd_iload_n (pc := 8) (i := 3) dX9_costOf_8 (snd_iconst (pc := 9) dX9_costOf_9 (snd_callV (pc := 10) (n := 2) cls9 (s_X9_roadOf F) (by decide) (by decide) wd_1657 wd_1654 wd_1656 wd_77 wd_129 hy_X9_roadOf dX9_costOf_10 (snd_i2l (pc := 13) dX9_costOf_13 (snd_lmul (pc := 14) dX9_costOf_14 (snd_lreturn dX9_costOf_15))))))))))

/-! LastWalkerModel.keep(IJ)V -/
theorem dX9_keep_0 : decode cX9_keep 0 = .ok (.aload_n 0, 1) := by decide +kernel
theorem dX9_keep_1 : decode cX9_keep 1 = .ok (.dup, 1) := by decide +kernel
theorem dX9_keep_2 : decode cX9_keep 2 = .ok (.getfield 352, 3) := by decide +kernel
theorem dX9_keep_5 : decode cX9_keep 5 = .ok (.lload_n 2, 1) := by decide +kernel
theorem dX9_keep_6 : decode cX9_keep 6 = .ok (.lconst 0, 1) := by decide +kernel
theorem dX9_keep_7 : decode cX9_keep 7 = .ok (.lcmp, 1) := by decide +kernel
theorem dX9_keep_8 : decode cX9_keep 8 = .ok (.ifCond .ge 7, 3) := by decide +kernel
theorem dX9_keep_11 : decode cX9_keep 11 = .ok (.iconst 1, 1) := by decide +kernel
theorem dX9_keep_12 : decode cX9_keep 12 = .ok (.goto 4, 3) := by decide +kernel
theorem dX9_keep_15 : decode cX9_keep 15 = .ok (.iconst 0, 1) := by decide +kernel
theorem dX9_keep_16 : decode cX9_keep 16 = .ok (.iadd, 1) := by decide +kernel
theorem dX9_keep_17 : decode cX9_keep 17 = .ok (.putfield 352, 3) := by decide +kernel
theorem dX9_keep_20 : decode cX9_keep 20 = .ok (.aload_n 0, 1) := by decide +kernel
theorem dX9_keep_21 : decode cX9_keep 21 = .ok (.getfield 355, 3) := by decide +kernel
theorem dX9_keep_24 : decode cX9_keep 24 = .ok (.ifCond .eq 29, 3) := by decide +kernel
theorem dX9_keep_27 : decode cX9_keep 27 = .ok (.lload_n 2, 1) := by decide +kernel
theorem dX9_keep_28 : decode cX9_keep 28 = .ok (.aload_n 0, 1) := by decide +kernel
theorem dX9_keep_29 : decode cX9_keep 29 = .ok (.getfield 358, 3) := by decide +kernel
theorem dX9_keep_32 : decode cX9_keep 32 = .ok (.lcmp, 1) := by decide +kernel
theorem dX9_keep_33 : decode cX9_keep 33 = .ok (.ifCond .lt 20, 3) := by decide +kernel
theorem dX9_keep_36 : decode cX9_keep 36 = .ok (.lload_n 2, 1) := by decide +kernel
theorem dX9_keep_37 : decode cX9_keep 37 = .ok (.aload_n 0, 1) := by decide +kernel
theorem dX9_keep_38 : decode cX9_keep 38 = .ok (.getfield 358, 3) := by decide +kernel
theorem dX9_keep_41 : decode cX9_keep 41 = .ok (.lcmp, 1) := by decide +kernel
theorem dX9_keep_42 : decode cX9_keep 42 = .ok (.ifCond .ne 50, 3) := by decide +kernel
theorem dX9_keep_45 : decode cX9_keep 45 = .ok (.iload_n 1, 1) := by decide +kernel
theorem dX9_keep_46 : decode cX9_keep 46 = .ok (.aload_n 0, 1) := by decide +kernel
theorem dX9_keep_47 : decode cX9_keep 47 = .ok (.getfield 355, 3) := by decide +kernel
theorem dX9_keep_50 : decode cX9_keep 50 = .ok (.if_icmp .ge 42, 3) := by decide +kernel
theorem dX9_keep_53 : decode cX9_keep 53 = .ok (.aload_n 0, 1) := by decide +kernel
theorem dX9_keep_54 : decode cX9_keep 54 = .ok (.iload_n 1, 1) := by decide +kernel
theorem dX9_keep_55 : decode cX9_keep 55 = .ok (.putfield 355, 3) := by decide +kernel
theorem dX9_keep_58 : decode cX9_keep 58 = .ok (.aload_n 0, 1) := by decide +kernel
theorem dX9_keep_59 : decode cX9_keep 59 = .ok (.lload_n 2, 1) := by decide +kernel
theorem dX9_keep_60 : decode cX9_keep 60 = .ok (.putfield 358, 3) := by decide +kernel
theorem dX9_keep_63 : decode cX9_keep 63 = .ok (.iconst 0, 1) := by decide +kernel
theorem dX9_keep_64 : decode cX9_keep 64 = .ok (.istore 4, 2) := by decide +kernel
theorem dX9_keep_66 : decode cX9_keep 66 = .ok (.iload 4, 2) := by decide +kernel
theorem dX9_keep_68 : decode cX9_keep 68 = .ok (.iload_n 1, 1) := by decide +kernel
theorem dX9_keep_69 : decode cX9_keep 69 = .ok (.if_icmp .ge 23, 3) := by decide +kernel
theorem dX9_keep_72 : decode cX9_keep 72 = .ok (.aload_n 0, 1) := by decide +kernel
theorem dX9_keep_73 : decode cX9_keep 73 = .ok (.getfield 72, 3) := by decide +kernel
theorem dX9_keep_76 : decode cX9_keep 76 = .ok (.iload 4, 2) := by decide +kernel
theorem dX9_keep_78 : decode cX9_keep 78 = .ok (.aload_n 0, 1) := by decide +kernel
theorem dX9_keep_79 : decode cX9_keep 79 = .ok (.getfield 56, 3) := by decide +kernel
theorem dX9_keep_82 : decode cX9_keep 82 = .ok (.iload 4, 2) := by decide +kernel
theorem dX9_keep_84 : decode cX9_keep 84 = .ok (.iaload, 1) := by decide +kernel
theorem dX9_keep_85 : decode cX9_keep 85 = .ok (.iastore, 1) := by decide +kernel
theorem dX9_keep_86 : decode cX9_keep 86 = .ok (.iinc 4 1, 3) := by decide +kernel
theorem dX9_keep_89 : decode cX9_keep 89 = .ok (.goto (-23), 3) := by decide +kernel
theorem dX9_keep_92 : decode cX9_keep 92 = .ok (.return_, 1) := by decide +kernel
noncomputable def kb_X9_keep_66 (F : Nat) (self : AK) : AK := ak_iload 4 (ak_iload 1 (ak_cmplt (ak_aload 0 (ak_getf 9 45 (ak_iload 4 (ak_aload 0 (ak_getf 9 40 (ak_iload 4 (ak_iald (ak_iast (ak_iinc 4 1 self))))))))) (ak_return)))
noncomputable def k_X9_keep_66 (F : Nat) (n : Nat) : AK := Nat.rec (motive := fun _ => AK) ak_none (fun _ self => kb_X9_keep_66 F self) n
set_option maxRecDepth 20000 in
theorem sk_X9_keep_66 (F : Nat) : ∀ n, Snd X0 RX9 cX9_keep 5 0 66 (k_X9_keep_66 F n) := by
  intro n
  induction n with
  | zero => exact snd_none
  | succ n ih =>
    show Snd X0 RX9 cX9_keep 5 0 66 (kb_X9_keep_66 F (k_X9_keep_66 F n))
    unfold kb_X9_keep_66
    exact snd_iload (pc := 66) (i := 4) dX9_keep_66 (snd_iload_n (pc := 68) (i := 1) dX9_keep_68 (snd_icmpge (pc := 69) (off := 23) (tgt := 92) (by decide) dX9_keep_69 (snd_return dX9_keep_92) (snd_aload_n (pc := 72) (i := 0) dX9_keep_72 (snd_getf (pc := 73) cls9 (f := 45) (by decide) wd_1348 dX9_keep_73 (snd_iload (pc := 76) (i := 4) dX9_keep_76 (snd_aload_n (pc := 78) (i := 0) dX9_keep_78 (snd_getf (pc := 79) cls9 (f := 40) (by decide) wd_1343 dX9_keep_79 (snd_iload (pc := 82) (i := 4) dX9_keep_82 (snd_iald (pc := 84) dX9_keep_84 (snd_iast (pc := 85) dX9_keep_85 (snd_iinc (pc := 86) (i := 4) (n := 1) (by decide) dX9_keep_86 (snd_goto (pc := 89) (off := (-23)) (tgt := 66) (by decide) dX9_keep_89 (ih)))))))))))))
noncomputable def k_X9_keep_53 (F : Nat) : AK := ak_aload 0 (ak_iload 1 (ak_putf 9 46 (ak_aload 0 (ak_lload 2 (ak_putl 9 47 (ak_push (vI 0) (ak_istore 4 ((k_X9_keep_66 F F)))))))))
set_option maxRecDepth 20000 in
theorem sk_X9_keep_53 (F : Nat) : Snd X0 RX9 cX9_keep 5 0 53 (k_X9_keep_53 F) := by
  unfold k_X9_keep_53
  exact snd_aload_n (pc := 53) (i := 0) dX9_keep_53 (snd_iload_n (pc := 54) (i := 1) dX9_keep_54 (snd_putf (pc := 55) cls9 (f := 46) (by decide) rfl rfl rfl wd_1349 dX9_keep_55 (snd_aload_n (pc := 58) (i := 0) dX9_keep_58 (snd_lload_n (pc := 59) (i := 2) dX9_keep_59 (snd_putl (pc := 60) cls9 (f := 47) (by decide) rfl rfl rfl wd_1350 dX9_keep_60 (snd_iconst (pc := 63) dX9_keep_63 (snd_istore (pc := 64) (i := 4) (by decide) dX9_keep_64 ((sk_X9_keep_66 F F)))))))))
noncomputable def k_X9_keep_16 (F : Nat) : AK := ak_iadd (ak_putf 9 48 (ak_aload 0 (ak_getf 9 46 (ak_ifeq ((k_X9_keep_53 F)) (ak_lload 2 (ak_aload 0 (ak_getf 9 47 (ak_lcmp (ak_iflt ((k_X9_keep_53 F)) (ak_lload 2 (ak_aload 0 (ak_getf 9 47 (ak_lcmp (ak_ifeq (ak_iload 1 (ak_aload 0 (ak_getf 9 46 (ak_cmplt ((k_X9_keep_53 F)) (ak_return))))) (ak_return)))))))))))))))
set_option maxRecDepth 20000 in
theorem sk_X9_keep_16 (F : Nat) : Snd X0 RX9 cX9_keep 5 0 16 (k_X9_keep_16 F) := by
  unfold k_X9_keep_16
  exact snd_iadd (pc := 16) dX9_keep_16 (snd_putf (pc := 17) cls9 (f := 48) (by decide) rfl rfl rfl wd_1351 dX9_keep_17 (snd_aload_n (pc := 20) (i := 0) dX9_keep_20 (snd_getf (pc := 21) cls9 (f := 46) (by decide) wd_1349 dX9_keep_21 (snd_ifeq (pc := 24) (off := 29) (tgt := 53) (by decide) dX9_keep_24 ((sk_X9_keep_53 F)) (snd_lload_n (pc := 27) (i := 2) dX9_keep_27 (snd_aload_n (pc := 28) (i := 0) dX9_keep_28 (snd_getf (pc := 29) cls9 (f := 47) (by decide) wd_1350 dX9_keep_29 (snd_lcmp (pc := 32) dX9_keep_32 (snd_iflt (pc := 33) (off := 20) (tgt := 53) (by decide) dX9_keep_33 ((sk_X9_keep_53 F)) (snd_lload_n (pc := 36) (i := 2) dX9_keep_36 (snd_aload_n (pc := 37) (i := 0) dX9_keep_37 (snd_getf (pc := 38) cls9 (f := 47) (by decide) wd_1350 dX9_keep_38 (snd_lcmp (pc := 41) dX9_keep_41 (snd_ifne (pc := 42) (off := 50) (tgt := 92) (by decide) dX9_keep_42 (snd_return dX9_keep_92) (snd_iload_n (pc := 45) (i := 1) dX9_keep_45 (snd_aload_n (pc := 46) (i := 0) dX9_keep_46 (snd_getf (pc := 47) cls9 (f := 46) (by decide) wd_1349 dX9_keep_47 (snd_icmpge (pc := 50) (off := 42) (tgt := 92) (by decide) dX9_keep_50 (snd_return dX9_keep_92) ((sk_X9_keep_53 F))))))))))))))))))))
noncomputable def k_X9_keep (F : Nat) : AK := ak_aload 0 (ak_dup (ak_getf 9 48 (ak_lload 2 (ak_push (vL 0) (ak_lcmp (ak_iflt (ak_push (vI 1) ((k_X9_keep_16 F))) (ak_push (vI 0) ((k_X9_keep_16 F)))))))))
noncomputable def m_X9_keep (F : Nat) : AF := mkF 0 5 (k_X9_keep F)
set_option maxRecDepth 20000 in
theorem s_X9_keep (F : Nat) : MA yX9_keep cX9_keep 5 none 0 (m_X9_keep F) := met_of (Or.inl ⟨rfl, rfl⟩) (by decide) (by
  unfold k_X9_keep
  exact snd_aload_n (pc := 0) (i := 0) dX9_keep_0 (snd_dup (pc := 1) dX9_keep_1 (snd_getf (pc := 2) cls9 (f := 48) (by decide) wd_1351 dX9_keep_2 (snd_lload_n (pc := 5) (i := 2) dX9_keep_5 (snd_lconst (pc := 6) (by decide) dX9_keep_6 (snd_lcmp (pc := 7) dX9_keep_7 (snd_ifge (pc := 8) (off := 7) (tgt := 15) (by decide) dX9_keep_8 (snd_iconst (pc := 15) dX9_keep_15 ((sk_X9_keep_16 F))) (snd_iconst (pc := 11) dX9_keep_11 (snd_goto (pc := 12) (off := 4) (tgt := 16) (by decide) dX9_keep_12 ((sk_X9_keep_16 F)))))))))))

/-! LastWalkerModel.isOnStack(IIZ)Z -/
theorem dX9_isOnStack_0 : decode cX9_isOnStack 0 = .ok (.iconst 0, 1) := by decide +kernel
theorem dX9_isOnStack_1 : decode cX9_isOnStack 1 = .ok (.istore 4, 2) := by decide +kernel
theorem dX9_isOnStack_3 : decode cX9_isOnStack 3 = .ok (.iload 4, 2) := by decide +kernel
theorem dX9_isOnStack_5 : decode cX9_isOnStack 5 = .ok (.iload_n 2, 1) := by decide +kernel
theorem dX9_isOnStack_6 : decode cX9_isOnStack 6 = .ok (.if_icmp .ge 26, 3) := by decide +kernel
theorem dX9_isOnStack_9 : decode cX9_isOnStack 9 = .ok (.iload_n 3, 1) := by decide +kernel
theorem dX9_isOnStack_10 : decode cX9_isOnStack 10 = .ok (.ifCond .eq 16, 3) := by decide +kernel
theorem dX9_isOnStack_13 : decode cX9_isOnStack 13 = .ok (.aload_n 0, 1) := by decide +kernel
theorem dX9_isOnStack_14 : decode cX9_isOnStack 14 = .ok (.getfield 56, 3) := by decide +kernel
theorem dX9_isOnStack_17 : decode cX9_isOnStack 17 = .ok (.iload 4, 2) := by decide +kernel
theorem dX9_isOnStack_19 : decode cX9_isOnStack 19 = .ok (.iaload, 1) := by decide +kernel
theorem dX9_isOnStack_20 : decode cX9_isOnStack 20 = .ok (.iload_n 1, 1) := by decide +kernel
theorem dX9_isOnStack_21 : decode cX9_isOnStack 21 = .ok (.if_icmp .ne 5, 3) := by decide +kernel
theorem dX9_isOnStack_24 : decode cX9_isOnStack 24 = .ok (.iconst 1, 1) := by decide +kernel
theorem dX9_isOnStack_25 : decode cX9_isOnStack 25 = .ok (.ireturn, 1) := by decide +kernel
theorem dX9_isOnStack_26 : decode cX9_isOnStack 26 = .ok (.iinc 4 1, 3) := by decide +kernel
theorem dX9_isOnStack_29 : decode cX9_isOnStack 29 = .ok (.goto (-26), 3) := by decide +kernel
theorem dX9_isOnStack_32 : decode cX9_isOnStack 32 = .ok (.iconst 0, 1) := by decide +kernel
theorem dX9_isOnStack_33 : decode cX9_isOnStack 33 = .ok (.istore 4, 2) := by decide +kernel
theorem dX9_isOnStack_35 : decode cX9_isOnStack 35 = .ok (.iload 4, 2) := by decide +kernel
theorem dX9_isOnStack_37 : decode cX9_isOnStack 37 = .ok (.iload_n 2, 1) := by decide +kernel
theorem dX9_isOnStack_38 : decode cX9_isOnStack 38 = .ok (.if_icmp .gt 36, 3) := by decide +kernel
theorem dX9_isOnStack_41 : decode cX9_isOnStack 41 = .ok (.iload_n 3, 1) := by decide +kernel
theorem dX9_isOnStack_42 : decode cX9_isOnStack 42 = .ok (.ifCond .ne 32, 3) := by decide +kernel
theorem dX9_isOnStack_45 : decode cX9_isOnStack 45 = .ok (.aload_n 0, 1) := by decide +kernel
theorem dX9_isOnStack_46 : decode cX9_isOnStack 46 = .ok (.getfield 62, 3) := by decide +kernel
theorem dX9_isOnStack_49 : decode cX9_isOnStack 49 = .ok (.iload 4, 2) := by decide +kernel
theorem dX9_isOnStack_51 : decode cX9_isOnStack 51 = .ok (.iaload, 1) := by decide +kernel
theorem dX9_isOnStack_52 : decode cX9_isOnStack 52 = .ok (.aload_n 0, 1) := by decide +kernel
theorem dX9_isOnStack_53 : decode cX9_isOnStack 53 = .ok (.iload_n 1, 1) := by decide +kernel
theorem dX9_isOnStack_54 : decode cX9_isOnStack 54 = .ok (.aload_n 0, 1) := by decide +kernel
theorem dX9_isOnStack_55 : decode cX9_isOnStack 55 = .ok (.getfield 62, 3) := by decide +kernel
theorem dX9_isOnStack_58 : decode cX9_isOnStack 58 = .ok (.iload_n 2, 1) := by decide +kernel
theorem dX9_isOnStack_59 : decode cX9_isOnStack 59 = .ok (.iaload, 1) := by decide +kernel
theorem dX9_isOnStack_60 : decode cX9_isOnStack 60 = .ok (.invokevirtual 331, 3) := by decide +kernel
theorem dX9_isOnStack_63 : decode cX9_isOnStack 63 = .ok (.if_icmp .ne 5, 3) := by decide +kernel
theorem dX9_isOnStack_66 : decode cX9_isOnStack 66 = .ok (.iconst 1, 1) := by decide +kernel
theorem dX9_isOnStack_67 : decode cX9_isOnStack 67 = .ok (.ireturn, 1) := by decide +kernel
theorem dX9_isOnStack_68 : decode cX9_isOnStack 68 = .ok (.iinc 4 1, 3) := by decide +kernel
theorem dX9_isOnStack_71 : decode cX9_isOnStack 71 = .ok (.goto (-36), 3) := by decide +kernel
theorem dX9_isOnStack_74 : decode cX9_isOnStack 74 = .ok (.iconst 0, 1) := by decide +kernel
theorem dX9_isOnStack_75 : decode cX9_isOnStack 75 = .ok (.ireturn, 1) := by decide +kernel
noncomputable def k_X9_isOnStack_26 (F : Nat) (h3 : AK) : AK := ak_iinc 4 1 h3
set_option maxRecDepth 20000 in
theorem sk_X9_isOnStack_26 (F : Nat) {h3 : AK} (hh3 : Snd X0 RX9 cX9_isOnStack 5 2 3 h3) : Snd X0 RX9 cX9_isOnStack 5 2 26 (k_X9_isOnStack_26 F h3) := by
  unfold k_X9_isOnStack_26
  exact snd_iinc (pc := 26) (i := 4) (n := 1) (by decide) dX9_isOnStack_26 (snd_goto (pc := 29) (off := (-26)) (tgt := 3) (by decide) dX9_isOnStack_29 (hh3))
noncomputable def kb_X9_isOnStack_35 (F : Nat) (self : AK) : AK := ak_iload 4 (ak_iload 2 (ak_cmpgt (ak_push (vI 0) ak_ireturn) (ak_iload 3 (ak_ifeq (ak_aload 0 (ak_getf 9 42 (ak_iload 4 (ak_iald (ak_aload 0 (ak_iload 1 (ak_aload 0 (ak_getf 9 42 (ak_iload 2 (ak_iald (ak_callv 9 2 (m_X9_farEnd F) (ak_cmpeq (ak_push (vI 1) ak_ireturn) (ak_iinc 4 1 self))))))))))))) (ak_push (vI 0) ak_ireturn)))))
noncomputable def k_X9_isOnStack_35 (F : Nat) (n : Nat) : AK := Nat.rec (motive := fun _ => AK) ak_none (fun _ self => kb_X9_isOnStack_35 F self) n
set_option maxRecDepth 20000 in
theorem sk_X9_isOnStack_35 (F : Nat) : ∀ n, Snd X0 RX9 cX9_isOnStack 5 2 35 (k_X9_isOnStack_35 F n) := by
  intro n
  induction n with
  | zero => exact snd_none
  | succ n ih =>
    show Snd X0 RX9 cX9_isOnStack 5 2 35 (kb_X9_isOnStack_35 F (k_X9_isOnStack_35 F n))
    unfold kb_X9_isOnStack_35
    exact snd_iload (pc := 35) (i := 4) dX9_isOnStack_35 (snd_iload_n (pc := 37) (i := 2) dX9_isOnStack_37 (snd_icmpgt (pc := 38) (off := 36) (tgt := 74) (by decide) dX9_isOnStack_38 (snd_iconst (pc := 74) dX9_isOnStack_74 (snd_ireturn dX9_isOnStack_75)) (snd_iload_n (pc := 41) (i := 3) dX9_isOnStack_41 (snd_ifne (pc := 42) (off := 32) (tgt := 74) (by decide) dX9_isOnStack_42 (snd_iconst (pc := 74) dX9_isOnStack_74 (snd_ireturn dX9_isOnStack_75)) (snd_aload_n (pc := 45) (i := 0) dX9_isOnStack_45 (snd_getf (pc := 46) cls9 (f := 42) (by decide) wd_1345 dX9_isOnStack_46 (snd_iload (pc := 49) (i := 4) dX9_isOnStack_49 (snd_iald (pc := 51) dX9_isOnStack_51 (snd_aload_n (pc := 52) (i := 0) dX9_isOnStack_52 (snd_iload_n (pc := 53) (i := 1) dX9_isOnStack_53 (snd_aload_n (pc := 54) (i := 0) dX9_isOnStack_54 (snd_getf (pc := 55) cls9 (f := 42) (by decide) wd_1345 dX9_isOnStack_55 (snd_iload_n (pc := 58) (i := 2) dX9_isOnStack_58 (snd_iald (pc := 59) dX9_isOnStack_59 (snd_callV (pc := 60) (n := 2) cls9 (s_X9_farEnd F) (by decide) (by decide) wd_1689 wd_1686 wd_1688 wd_85 wd_129 hy_X9_farEnd dX9_isOnStack_60 (snd_icmpne (pc := 63) (off := 5) (tgt := 68) (by decide) dX9_isOnStack_63 (snd_iinc (pc := 68) (i := 4) (n := 1) (by decide) dX9_isOnStack_68 (snd_goto (pc := 71) (off := (-36)) (tgt := 35) (by decide) dX9_isOnStack_71 (ih))) (snd_iconst (pc := 66) dX9_isOnStack_66 (snd_ireturn dX9_isOnStack_67))))))))))))))))))
noncomputable def kb_X9_isOnStack_3 (F : Nat) (self : AK) : AK := ak_iload 4 (ak_iload 2 (ak_cmplt (ak_iload 3 (ak_ifeq ((k_X9_isOnStack_26 F self)) (ak_aload 0 (ak_getf 9 40 (ak_iload 4 (ak_iald (ak_iload 1 (ak_cmpeq (ak_push (vI 1) ak_ireturn) ((k_X9_isOnStack_26 F self)))))))))) (ak_push (vI 0) (ak_istore 4 ((k_X9_isOnStack_35 F F))))))
noncomputable def k_X9_isOnStack_3 (F : Nat) (n : Nat) : AK := Nat.rec (motive := fun _ => AK) ak_none (fun _ self => kb_X9_isOnStack_3 F self) n
set_option maxRecDepth 20000 in
theorem sk_X9_isOnStack_3 (F : Nat) : ∀ n, Snd X0 RX9 cX9_isOnStack 5 2 3 (k_X9_isOnStack_3 F n) := by
  intro n
  induction n with
  | zero => exact snd_none
  | succ n ih =>
    show Snd X0 RX9 cX9_isOnStack 5 2 3 (kb_X9_isOnStack_3 F (k_X9_isOnStack_3 F n))
    unfold kb_X9_isOnStack_3
    exact snd_iload (pc := 3) (i := 4) dX9_isOnStack_3 (snd_iload_n (pc := 5) (i := 2) dX9_isOnStack_5 (snd_icmpge (pc := 6) (off := 26) (tgt := 32) (by decide) dX9_isOnStack_6 (snd_iconst (pc := 32) dX9_isOnStack_32 (snd_istore (pc := 33) (i := 4) (by decide) dX9_isOnStack_33 ((sk_X9_isOnStack_35 F F)))) (snd_iload_n (pc := 9) (i := 3) dX9_isOnStack_9 (snd_ifeq (pc := 10) (off := 16) (tgt := 26) (by decide) dX9_isOnStack_10 ((sk_X9_isOnStack_26 F ih)) (snd_aload_n (pc := 13) (i := 0) dX9_isOnStack_13 (snd_getf (pc := 14) cls9 (f := 40) (by decide) wd_1343 dX9_isOnStack_14 (snd_iload (pc := 17) (i := 4) dX9_isOnStack_17 (snd_iald (pc := 19) dX9_isOnStack_19 (snd_iload_n (pc := 20) (i := 1) dX9_isOnStack_20 (snd_icmpne (pc := 21) (off := 5) (tgt := 26) (by decide) dX9_isOnStack_21 ((sk_X9_isOnStack_26 F ih)) (snd_iconst (pc := 24) dX9_isOnStack_24 (snd_ireturn dX9_isOnStack_25))))))))))))
noncomputable def k_X9_isOnStack (F : Nat) : AK := ak_push (vI 0) (ak_istore 4 ((k_X9_isOnStack_3 F F)))
noncomputable def m_X9_isOnStack (F : Nat) : AF := mkF 2 5 (k_X9_isOnStack F)
set_option maxRecDepth 20000 in
theorem s_X9_isOnStack (F : Nat) : MA yX9_isOnStack cX9_isOnStack 5 (some .boolean) 2 (m_X9_isOnStack F) := met_of (Or.inr (Or.inr (Or.inl ⟨rfl, rfl⟩))) (by decide) (by
  unfold k_X9_isOnStack
  exact snd_iconst (pc := 0) dX9_isOnStack_0 (snd_istore (pc := 1) (i := 4) (by decide) dX9_isOnStack_1 ((sk_X9_isOnStack_3 F F))))

/-! LastWalkerModel.finds(IIIII)Z -/
theorem dX9_finds_0 : decode cX9_finds 0 = .ok (.iload 4, 2) := by decide +kernel
theorem dX9_finds_2 : decode cX9_finds 2 = .ok (.iload 5, 2) := by decide +kernel
theorem dX9_finds_4 : decode cX9_finds 4 = .ok (.if_icmp .ne 7, 3) := by decide +kernel
theorem dX9_finds_7 : decode cX9_finds 7 = .ok (.iconst 1, 1) := by decide +kernel
theorem dX9_finds_8 : decode cX9_finds 8 = .ok (.goto 4, 3) := by decide +kernel
theorem dX9_finds_11 : decode cX9_finds 11 = .ok (.iconst 0, 1) := by decide +kernel
theorem dX9_finds_12 : decode cX9_finds 12 = .ok (.istore 6, 2) := by decide +kernel
theorem dX9_finds_14 : decode cX9_finds 14 = .ok (.iload 6, 2) := by decide +kernel
theorem dX9_finds_16 : decode cX9_finds 16 = .ok (.ifCond .eq 8, 3) := by decide +kernel
theorem dX9_finds_19 : decode cX9_finds 19 = .ok (.bipush 6, 2) := by decide +kernel
theorem dX9_finds_21 : decode cX9_finds 21 = .ok (.goto 9, 3) := by decide +kernel
theorem dX9_finds_24 : decode cX9_finds 24 = .ok (.aload_n 0, 1) := by decide +kernel
theorem dX9_finds_25 : decode cX9_finds 25 = .ok (.getfield 258, 3) := by decide +kernel
theorem dX9_finds_28 : decode cX9_finds 28 = .ok (.iconst 1, 1) := by decide +kernel
theorem dX9_finds_29 : decode cX9_finds 29 = .ok (.isub, 1) := by decide +kernel
theorem dX9_finds_30 : decode cX9_finds 30 = .ok (.istore 7, 2) := by decide +kernel
theorem dX9_finds_32 : decode cX9_finds 32 = .ok (.aload_n 0, 1) := by decide +kernel
theorem dX9_finds_33 : decode cX9_finds 33 = .ok (.iconst 0, 1) := by decide +kernel
theorem dX9_finds_34 : decode cX9_finds 34 = .ok (.putfield 355, 3) := by decide +kernel
theorem dX9_finds_37 : decode cX9_finds 37 = .ok (.aload_n 0, 1) := by decide +kernel
theorem dX9_finds_38 : decode cX9_finds 38 = .ok (.iconst 0, 1) := by decide +kernel
theorem dX9_finds_39 : decode cX9_finds 39 = .ok (.putfield 352, 3) := by decide +kernel
theorem dX9_finds_42 : decode cX9_finds 42 = .ok (.iconst 0, 1) := by decide +kernel
theorem dX9_finds_43 : decode cX9_finds 43 = .ok (.istore 8, 2) := by decide +kernel
theorem dX9_finds_45 : decode cX9_finds 45 = .ok (.aload_n 0, 1) := by decide +kernel
theorem dX9_finds_46 : decode cX9_finds 46 = .ok (.getfield 62, 3) := by decide +kernel
theorem dX9_finds_49 : decode cX9_finds 49 = .ok (.iconst 0, 1) := by decide +kernel
theorem dX9_finds_50 : decode cX9_finds 50 = .ok (.iload 4, 2) := by decide +kernel
theorem dX9_finds_52 : decode cX9_finds 52 = .ok (.iastore, 1) := by decide +kernel
theorem dX9_finds_53 : decode cX9_finds 53 = .ok (.aload_n 0, 1) := by decide +kernel
theorem dX9_finds_54 : decode cX9_finds 54 = .ok (.getfield 65, 3) := by decide +kernel
theorem dX9_finds_57 : decode cX9_finds 57 = .ok (.iconst 0, 1) := by decide +kernel
theorem dX9_finds_58 : decode cX9_finds 58 = .ok (.iload_n 3, 1) := by decide +kernel
theorem dX9_finds_59 : decode cX9_finds 59 = .ok (.iastore, 1) := by decide +kernel
theorem dX9_finds_60 : decode cX9_finds 60 = .ok (.aload_n 0, 1) := by decide +kernel
theorem dX9_finds_61 : decode cX9_finds 61 = .ok (.getfield 68, 3) := by decide +kernel
theorem dX9_finds_64 : decode cX9_finds 64 = .ok (.iconst 0, 1) := by decide +kernel
theorem dX9_finds_65 : decode cX9_finds 65 = .ok (.lconst 0, 1) := by decide +kernel
theorem dX9_finds_66 : decode cX9_finds 66 = .ok (.lastore, 1) := by decide +kernel
theorem dX9_finds_67 : decode cX9_finds 67 = .ok (.aload_n 0, 1) := by decide +kernel
theorem dX9_finds_68 : decode cX9_finds 68 = .ok (.getfield 59, 3) := by decide +kernel
theorem dX9_finds_71 : decode cX9_finds 71 = .ok (.iconst 0, 1) := by decide +kernel
theorem dX9_finds_72 : decode cX9_finds 72 = .ok (.iconst 0, 1) := by decide +kernel
theorem dX9_finds_73 : decode cX9_finds 73 = .ok (.iastore, 1) := by decide +kernel
theorem dX9_finds_74 : decode cX9_finds 74 = .ok (.iload 8, 2) := by decide +kernel
theorem dX9_finds_76 : decode cX9_finds 76 = .ok (.ifCond .lt 241, 3) := by decide +kernel
theorem dX9_finds_79 : decode cX9_finds 79 = .ok (.aload_n 0, 1) := by decide +kernel
theorem dX9_finds_80 : decode cX9_finds 80 = .ok (.getfield 59, 3) := by decide +kernel
theorem dX9_finds_83 : decode cX9_finds 83 = .ok (.iload 8, 2) := by decide +kernel
theorem dX9_finds_85 : decode cX9_finds 85 = .ok (.iaload, 1) := by decide +kernel
theorem dX9_finds_86 : decode cX9_finds 86 = .ok (.istore 9, 2) := by decide +kernel
theorem dX9_finds_88 : decode cX9_finds 88 = .ok (.aload_n 0, 1) := by decide +kernel
theorem dX9_finds_89 : decode cX9_finds 89 = .ok (.getfield 59, 3) := by decide +kernel
theorem dX9_finds_92 : decode cX9_finds 92 = .ok (.iload 8, 2) := by decide +kernel
theorem dX9_finds_94 : decode cX9_finds 94 = .ok (.dup2, 1) := by decide +kernel
theorem dX9_finds_95 : decode cX9_finds 95 = .ok (.iaload, 1) := by decide +kernel
theorem dX9_finds_96 : decode cX9_finds 96 = .ok (.iconst 1, 1) := by decide +kernel
theorem dX9_finds_97 : decode cX9_finds 97 = .ok (.iadd, 1) := by decide +kernel
theorem dX9_finds_98 : decode cX9_finds 98 = .ok (.iastore, 1) := by decide +kernel
theorem dX9_finds_99 : decode cX9_finds 99 = .ok (.iload 9, 2) := by decide +kernel
theorem dX9_finds_101 : decode cX9_finds 101 = .ok (.aload_n 0, 1) := by decide +kernel
theorem dX9_finds_102 : decode cX9_finds 102 = .ok (.getfield 261, 3) := by decide +kernel
theorem dX9_finds_105 : decode cX9_finds 105 = .ok (.if_icmp .eq 10, 3) := by decide +kernel
theorem dX9_finds_108 : decode cX9_finds 108 = .ok (.iload 8, 2) := by decide +kernel
theorem dX9_finds_110 : decode cX9_finds 110 = .ok (.iload 7, 2) := by decide +kernel
theorem dX9_finds_112 : decode cX9_finds 112 = .ok (.if_icmp .ne 9, 3) := by decide +kernel
theorem dX9_finds_115 : decode cX9_finds 115 = .ok (.iinc 8 (-1), 3) := by decide +kernel
theorem dX9_finds_118 : decode cX9_finds 118 = .ok (.goto (-44), 3) := by decide +kernel
theorem dX9_finds_121 : decode cX9_finds 121 = .ok (.aload_n 0, 1) := by decide +kernel
theorem dX9_finds_122 : decode cX9_finds 122 = .ok (.iload 9, 2) := by decide +kernel
theorem dX9_finds_124 : decode cX9_finds 124 = .ok (.aload_n 0, 1) := by decide +kernel
theorem dX9_finds_125 : decode cX9_finds 125 = .ok (.getfield 62, 3) := by decide +kernel
theorem dX9_finds_128 : decode cX9_finds 128 = .ok (.iload 8, 2) := by decide +kernel
theorem dX9_finds_130 : decode cX9_finds 130 = .ok (.iaload, 1) := by decide +kernel
theorem dX9_finds_131 : decode cX9_finds 131 = .ok (.invokevirtual 322, 3) := by decide +kernel
theorem dX9_finds_134 : decode cX9_finds 134 = .ok (.ifCond .eq (-60), 3) := by decide +kernel
theorem dX9_finds_137 : decode cX9_finds 137 = .ok (.aload_n 0, 1) := by decide +kernel
theorem dX9_finds_138 : decode cX9_finds 138 = .ok (.iload 9, 2) := by decide +kernel
theorem dX9_finds_140 : decode cX9_finds 140 = .ok (.iload 8, 2) := by decide +kernel
theorem dX9_finds_142 : decode cX9_finds 142 = .ok (.iload 6, 2) := by decide +kernel
theorem dX9_finds_144 : decode cX9_finds 144 = .ok (.invokevirtual 361, 3) := by decide +kernel
theorem dX9_finds_147 : decode cX9_finds 147 = .ok (.ifCond .eq 6, 3) := by decide +kernel
theorem dX9_finds_150 : decode cX9_finds 150 = .ok (.goto (-76), 3) := by decide +kernel
theorem dX9_finds_153 : decode cX9_finds 153 = .ok (.aload_n 0, 1) := by decide +kernel
theorem dX9_finds_154 : decode cX9_finds 154 = .ok (.getfield 56, 3) := by decide +kernel
theorem dX9_finds_157 : decode cX9_finds 157 = .ok (.iload 8, 2) := by decide +kernel
theorem dX9_finds_159 : decode cX9_finds 159 = .ok (.iload 9, 2) := by decide +kernel
theorem dX9_finds_161 : decode cX9_finds 161 = .ok (.iastore, 1) := by decide +kernel
theorem dX9_finds_162 : decode cX9_finds 162 = .ok (.aload_n 0, 1) := by decide +kernel
theorem dX9_finds_163 : decode cX9_finds 163 = .ok (.getfield 62, 3) := by decide +kernel
theorem dX9_finds_166 : decode cX9_finds 166 = .ok (.iload 8, 2) := by decide +kernel
theorem dX9_finds_168 : decode cX9_finds 168 = .ok (.iconst 1, 1) := by decide +kernel
theorem dX9_finds_169 : decode cX9_finds 169 = .ok (.iadd, 1) := by decide +kernel
theorem dX9_finds_170 : decode cX9_finds 170 = .ok (.aload_n 0, 1) := by decide +kernel
theorem dX9_finds_171 : decode cX9_finds 171 = .ok (.iload 9, 2) := by decide +kernel
theorem dX9_finds_173 : decode cX9_finds 173 = .ok (.aload_n 0, 1) := by decide +kernel
theorem dX9_finds_174 : decode cX9_finds 174 = .ok (.getfield 62, 3) := by decide +kernel
theorem dX9_finds_177 : decode cX9_finds 177 = .ok (.iload 8, 2) := by decide +kernel
theorem dX9_finds_179 : decode cX9_finds 179 = .ok (.iaload, 1) := by decide +kernel
theorem dX9_finds_180 : decode cX9_finds 180 = .ok (.invokevirtual 331, 3) := by decide +kernel
theorem dX9_finds_183 : decode cX9_finds 183 = .ok (.iastore, 1) := by decide +kernel
theorem dX9_finds_184 : decode cX9_finds 184 = .ok (.aload_n 0, 1) := by decide +kernel
theorem dX9_finds_185 : decode cX9_finds 185 = .ok (.getfield 65, 3) := by decide +kernel
theorem dX9_finds_188 : decode cX9_finds 188 = .ok (.iload 8, 2) := by decide +kernel
theorem dX9_finds_190 : decode cX9_finds 190 = .ok (.iconst 1, 1) := by decide +kernel
theorem dX9_finds_191 : decode cX9_finds 191 = .ok (.iadd, 1) := by decide +kernel
theorem dX9_finds_192 : decode cX9_finds 192 = .ok (.aload_n 0, 1) := by decide +kernel
theorem dX9_finds_193 : decode cX9_finds 193 = .ok (.getfield 65, 3) := by decide +kernel
theorem dX9_finds_196 : decode cX9_finds 196 = .ok (.iload 8, 2) := by decide +kernel
theorem dX9_finds_198 : decode cX9_finds 198 = .ok (.iaload, 1) := by decide +kernel
theorem dX9_finds_199 : decode cX9_finds 199 = .ok (.aload_n 0, 1) := by decide +kernel
theorem dX9_finds_200 : decode cX9_finds 200 = .ok (.iload 9, 2) := by decide +kernel
theorem dX9_finds_202 : decode cX9_finds 202 = .ok (.iconst 2, 1) := by decide +kernel
theorem dX9_finds_203 : decode cX9_finds 203 = .ok (.invokevirtual 294, 3) := by decide +kernel
theorem dX9_finds_206 : decode cX9_finds 206 = .ok (.iadd, 1) := by decide +kernel
theorem dX9_finds_207 : decode cX9_finds 207 = .ok (.iastore, 1) := by decide +kernel
theorem dX9_finds_208 : decode cX9_finds 208 = .ok (.aload_n 0, 1) := by decide +kernel
theorem dX9_finds_209 : decode cX9_finds 209 = .ok (.getfield 68, 3) := by decide +kernel
theorem dX9_finds_212 : decode cX9_finds 212 = .ok (.iload 8, 2) := by decide +kernel
theorem dX9_finds_214 : decode cX9_finds 214 = .ok (.iconst 1, 1) := by decide +kernel
theorem dX9_finds_215 : decode cX9_finds 215 = .ok (.iadd, 1) := by decide +kernel
theorem dX9_finds_216 : decode cX9_finds 216 = .ok (.aload_n 0, 1) := by decide +kernel
theorem dX9_finds_217 : decode cX9_finds 217 = .ok (.getfield 68, 3) := by decide +kernel
theorem dX9_finds_220 : decode cX9_finds 220 = .ok (.iload 8, 2) := by decide +kernel
theorem dX9_finds_222 : decode cX9_finds 222 = .ok (.laload, 1) := by decide +kernel
theorem dX9_finds_223 : decode cX9_finds 223 = .ok (.aload_n 0, 1) := by decide +kernel
theorem dX9_finds_224 : decode cX9_finds 224 = .ok (.iload_n 1, 1) := by decide +kernel
theorem dX9_finds_225 : decode cX9_finds 225 = .ok (.iload_n 2, 1) := by decide +kernel
theorem dX9_finds_226 : decode cX9_finds 226 = .ok (.iload 9, 2) := by decide +kernel
theorem dX9_finds_228 : decode cX9_finds 228 = .ok (.aload_n 0, 1) := by decide +kernel
theorem dX9_finds_229 : decode cX9_finds 229 = .ok (.getfield 65, 3) := by decide +kernel
theorem dX9_finds_232 : decode cX9_finds 232 = .ok (.iload 8, 2) := by decide +kernel
theorem dX9_finds_234 : decode cX9_finds 234 = .ok (.iaload, 1) := by decide +kernel
theorem dX9_finds_235 : decode cX9_finds 235 = .ok (.invokevirtual 365, 3) := by decide +kernel
theorem dX9_finds_238 : decode cX9_finds 238 = .ok (.ladd, 1) := by decide +kernel
theorem dX9_finds_239 : decode cX9_finds 239 = .ok (.lastore, 1) := by decide +kernel
theorem dX9_finds_240 : decode cX9_finds 240 = .ok (.aload_n 0, 1) := by decide +kernel
theorem dX9_finds_241 : decode cX9_finds 241 = .ok (.getfield 62, 3) := by decide +kernel
theorem dX9_finds_244 : decode cX9_finds 244 = .ok (.iload 8, 2) := by decide +kernel
theorem dX9_finds_246 : decode cX9_finds 246 = .ok (.iconst 1, 1) := by decide +kernel
theorem dX9_finds_247 : decode cX9_finds 247 = .ok (.iadd, 1) := by decide +kernel
theorem dX9_finds_248 : decode cX9_finds 248 = .ok (.iaload, 1) := by decide +kernel
theorem dX9_finds_249 : decode cX9_finds 249 = .ok (.iload 5, 2) := by decide +kernel
theorem dX9_finds_251 : decode cX9_finds 251 = .ok (.if_icmp .ne 7, 3) := by decide +kernel
theorem dX9_finds_254 : decode cX9_finds 254 = .ok (.iconst 1, 1) := by decide +kernel
theorem dX9_finds_255 : decode cX9_finds 255 = .ok (.goto 4, 3) := by decide +kernel
theorem dX9_finds_258 : decode cX9_finds 258 = .ok (.iconst 0, 1) := by decide +kernel
theorem dX9_finds_259 : decode cX9_finds 259 = .ok (.istore 10, 2) := by decide +kernel
theorem dX9_finds_261 : decode cX9_finds 261 = .ok (.iload 10, 2) := by decide +kernel
theorem dX9_finds_263 : decode cX9_finds 263 = .ok (.ifCond .eq 30, 3) := by decide +kernel
theorem dX9_finds_266 : decode cX9_finds 266 = .ok (.iload 6, 2) := by decide +kernel
theorem dX9_finds_268 : decode cX9_finds 268 = .ok (.ifCond .eq 8, 3) := by decide +kernel
theorem dX9_finds_271 : decode cX9_finds 271 = .ok (.iload 8, 2) := by decide +kernel
theorem dX9_finds_273 : decode cX9_finds 273 = .ok (.ifCond .le 20, 3) := by decide +kernel
theorem dX9_finds_276 : decode cX9_finds 276 = .ok (.aload_n 0, 1) := by decide +kernel
theorem dX9_finds_277 : decode cX9_finds 277 = .ok (.iload 8, 2) := by decide +kernel
theorem dX9_finds_279 : decode cX9_finds 279 = .ok (.iconst 1, 1) := by decide +kernel
theorem dX9_finds_280 : decode cX9_finds 280 = .ok (.iadd, 1) := by decide +kernel
theorem dX9_finds_281 : decode cX9_finds 281 = .ok (.aload_n 0, 1) := by decide +kernel
theorem dX9_finds_282 : decode cX9_finds 282 = .ok (.getfield 68, 3) := by decide +kernel
theorem dX9_finds_285 : decode cX9_finds 285 = .ok (.iload 8, 2) := by decide +kernel
theorem dX9_finds_287 : decode cX9_finds 287 = .ok (.iconst 1, 1) := by decide +kernel
theorem dX9_finds_288 : decode cX9_finds 288 = .ok (.iadd, 1) := by decide +kernel
theorem dX9_finds_289 : decode cX9_finds 289 = .ok (.laload, 1) := by decide +kernel
theorem dX9_finds_290 : decode cX9_finds 290 = .ok (.invokevirtual 369, 3) := by decide +kernel
theorem dX9_finds_293 : decode cX9_finds 293 = .ok (.iload 6, 2) := by decide +kernel
theorem dX9_finds_295 : decode cX9_finds 295 = .ok (.ifCond .ne 8, 3) := by decide +kernel
theorem dX9_finds_298 : decode cX9_finds 298 = .ok (.iload 10, 2) := by decide +kernel
theorem dX9_finds_300 : decode cX9_finds 300 = .ok (.ifCond .ne 14, 3) := by decide +kernel
theorem dX9_finds_303 : decode cX9_finds 303 = .ok (.iinc 8 1, 3) := by decide +kernel
theorem dX9_finds_306 : decode cX9_finds 306 = .ok (.aload_n 0, 1) := by decide +kernel
theorem dX9_finds_307 : decode cX9_finds 307 = .ok (.getfield 59, 3) := by decide +kernel
theorem dX9_finds_310 : decode cX9_finds 310 = .ok (.iload 8, 2) := by decide +kernel
theorem dX9_finds_312 : decode cX9_finds 312 = .ok (.iconst 0, 1) := by decide +kernel
theorem dX9_finds_313 : decode cX9_finds 313 = .ok (.iastore, 1) := by decide +kernel
theorem dX9_finds_314 : decode cX9_finds 314 = .ok (.goto (-240), 3) := by decide +kernel
theorem dX9_finds_317 : decode cX9_finds 317 = .ok (.aload_n 0, 1) := by decide +kernel
theorem dX9_finds_318 : decode cX9_finds 318 = .ok (.getfield 355, 3) := by decide +kernel
theorem dX9_finds_321 : decode cX9_finds 321 = .ok (.ifCond .le 7, 3) := by decide +kernel
theorem dX9_finds_324 : decode cX9_finds 324 = .ok (.iconst 1, 1) := by decide +kernel
theorem dX9_finds_325 : decode cX9_finds 325 = .ok (.goto 4, 3) := by decide +kernel
theorem dX9_finds_328 : decode cX9_finds 328 = .ok (.iconst 0, 1) := by decide +kernel
theorem dX9_finds_329 : decode cX9_finds 329 = .ok (.ireturn, 1) := by decide +kernel
noncomputable def k_X9_finds_115 (F : Nat) (h74 : AK) : AK := ak_iinc 8 (-1) h74
set_option maxRecDepth 20000 in
theorem sk_X9_finds_115 (F : Nat) {h74 : AK} (hh74 : Snd X0 RX9 cX9_finds 11 4 74 h74) : Snd X0 RX9 cX9_finds 11 4 115 (k_X9_finds_115 F h74) := by
  unfold k_X9_finds_115
  exact snd_iinc (pc := 115) (i := 8) (n := (-1)) (by decide) dX9_finds_115 (snd_goto (pc := 118) (off := (-44)) (tgt := 74) (by decide) dX9_finds_118 (hh74))
noncomputable def k_X9_finds_314 (F : Nat) (h74 : AK) : AK := h74
set_option maxRecDepth 20000 in
theorem sk_X9_finds_314 (F : Nat) {h74 : AK} (hh74 : Snd X0 RX9 cX9_finds 11 4 74 h74) : Snd X0 RX9 cX9_finds 11 4 314 (k_X9_finds_314 F h74) := by
  unfold k_X9_finds_314
  exact snd_goto (pc := 314) (off := (-240)) (tgt := 74) (by decide) dX9_finds_314 (hh74)
noncomputable def k_X9_finds_303 (F : Nat) (h74 : AK) : AK := ak_iinc 8 1 (ak_aload 0 (ak_getf 9 41 (ak_iload 8 (ak_push (vI 0) (ak_iast ((k_X9_finds_314 F h74)))))))
set_option maxRecDepth 20000 in
theorem sk_X9_finds_303 (F : Nat) {h74 : AK} (hh74 : Snd X0 RX9 cX9_finds 11 4 74 h74) : Snd X0 RX9 cX9_finds 11 4 303 (k_X9_finds_303 F h74) := by
  unfold k_X9_finds_303
  exact snd_iinc (pc := 303) (i := 8) (n := 1) (by decide) dX9_finds_303 (snd_aload_n (pc := 306) (i := 0) dX9_finds_306 (snd_getf (pc := 307) cls9 (f := 41) (by decide) wd_1344 dX9_finds_307 (snd_iload (pc := 310) (i := 8) dX9_finds_310 (snd_iconst (pc := 312) dX9_finds_312 (snd_iast (pc := 313) dX9_finds_313 ((sk_X9_finds_314 F hh74)))))))
noncomputable def k_X9_finds_293 (F : Nat) (h74 : AK) : AK := ak_iload 6 (ak_ifeq (ak_iload 10 (ak_ifeq ((k_X9_finds_303 F h74)) ((k_X9_finds_314 F h74)))) ((k_X9_finds_303 F h74)))
set_option maxRecDepth 20000 in
theorem sk_X9_finds_293 (F : Nat) {h74 : AK} (hh74 : Snd X0 RX9 cX9_finds 11 4 74 h74) : Snd X0 RX9 cX9_finds 11 4 293 (k_X9_finds_293 F h74) := by
  unfold k_X9_finds_293
  exact snd_iload (pc := 293) (i := 6) dX9_finds_293 (snd_ifne (pc := 295) (off := 8) (tgt := 303) (by decide) dX9_finds_295 ((sk_X9_finds_303 F hh74)) (snd_iload (pc := 298) (i := 10) dX9_finds_298 (snd_ifne (pc := 300) (off := 14) (tgt := 314) (by decide) dX9_finds_300 ((sk_X9_finds_314 F hh74)) ((sk_X9_finds_303 F hh74)))))
noncomputable def k_X9_finds_276 (F : Nat) (h74 : AK) : AK := ak_aload 0 (ak_iload 8 (ak_push (vI 1) (ak_iadd (ak_aload 0 (ak_getf 9 44 (ak_iload 8 (ak_push (vI 1) (ak_iadd (ak_lald (ak_callv 9 2 (m_X9_keep F) ((k_X9_finds_293 F h74))))))))))))
set_option maxRecDepth 20000 in
theorem sk_X9_finds_276 (F : Nat) {h74 : AK} (hh74 : Snd X0 RX9 cX9_finds 11 4 74 h74) : Snd X0 RX9 cX9_finds 11 4 276 (k_X9_finds_276 F h74) := by
  unfold k_X9_finds_276
  exact snd_aload_n (pc := 276) (i := 0) dX9_finds_276 (snd_iload (pc := 277) (i := 8) dX9_finds_277 (snd_iconst (pc := 279) dX9_finds_279 (snd_iadd (pc := 280) dX9_finds_280 (snd_aload_n (pc := 281) (i := 0) dX9_finds_281 (snd_getf (pc := 282) cls9 (f := 44) (by decide) wd_1347 dX9_finds_282 (snd_iload (pc := 285) (i := 8) dX9_finds_285 (snd_iconst (pc := 287) dX9_finds_287 (snd_iadd (pc := 288) dX9_finds_288 (snd_lald (pc := 289) dX9_finds_289 (snd_callV (pc := 290) (n := 2) cls9 (s_X9_keep F) (by decide) (by decide) wd_1744 wd_1741 wd_1743 wd_93 wd_129 hy_X9_keep dX9_finds_290 ((sk_X9_finds_293 F hh74))))))))))))
noncomputable def k_X9_finds_259 (F : Nat) (h74 : AK) : AK := ak_istore 10 (ak_iload 10 (ak_ifeq ((k_X9_finds_293 F h74)) (ak_iload 6 (ak_ifeq ((k_X9_finds_276 F h74)) (ak_iload 8 (ak_ifgt ((k_X9_finds_276 F h74)) ((k_X9_finds_293 F h74))))))))
set_option maxRecDepth 20000 in
theorem sk_X9_finds_259 (F : Nat) {h74 : AK} (hh74 : Snd X0 RX9 cX9_finds 11 4 74 h74) : Snd X0 RX9 cX9_finds 11 4 259 (k_X9_finds_259 F h74) := by
  unfold k_X9_finds_259
  exact snd_istore (pc := 259) (i := 10) (by decide) dX9_finds_259 (snd_iload (pc := 261) (i := 10) dX9_finds_261 (snd_ifeq (pc := 263) (off := 30) (tgt := 293) (by decide) dX9_finds_263 ((sk_X9_finds_293 F hh74)) (snd_iload (pc := 266) (i := 6) dX9_finds_266 (snd_ifeq (pc := 268) (off := 8) (tgt := 276) (by decide) dX9_finds_268 ((sk_X9_finds_276 F hh74)) (snd_iload (pc := 271) (i := 8) dX9_finds_271 (snd_ifle (pc := 273) (off := 20) (tgt := 293) (by decide) dX9_finds_273 ((sk_X9_finds_293 F hh74)) ((sk_X9_finds_276 F hh74))))))))
noncomputable def kb_X9_finds_74 (F : Nat) (self : AK) : AK := ak_iload 8 (ak_iflt (ak_aload 0 (ak_getf 9 46 (ak_ifgt (ak_push (vI 1) ak_ireturn) (ak_push (vI 0) ak_ireturn)))) (ak_aload 0 (ak_getf 9 41 (ak_iload 8 (ak_iald (ak_istore 9 (ak_aload 0 (ak_getf 9 41 (ak_iload 8 (ak_dup2 (ak_iald (ak_push (vI 1) (ak_iadd (ak_iast (ak_iload 9 (ak_aload 0 (ak_getf 9 23 (ak_cmpeq ((k_X9_finds_115 F self)) (ak_iload 8 (ak_iload 7 (ak_cmpeq ((k_X9_finds_115 F self)) (ak_aload 0 (ak_iload 9 (ak_aload 0 (ak_getf 9 42 (ak_iload 8 (ak_iald (ak_callv 9 2 (m_X9_ends F) (ak_ifeq (self) (ak_aload 0 (ak_iload 9 (ak_iload 8 (ak_iload 6 (ak_callv 9 3 (m_X9_isOnStack F) (ak_ifeq (ak_aload 0 (ak_getf 9 40 (ak_iload 8 (ak_iload 9 (ak_iast (ak_aload 0 (ak_getf 9 42 (ak_iload 8 (ak_push (vI 1) (ak_iadd (ak_aload 0 (ak_iload 9 (ak_aload 0 (ak_getf 9 42 (ak_iload 8 (ak_iald (ak_callv 9 2 (m_X9_farEnd F) (ak_iast (ak_aload 0 (ak_getf 9 43 (ak_iload 8 (ak_push (vI 1) (ak_iadd (ak_aload 0 (ak_getf 9 43 (ak_iload 8 (ak_iald (ak_aload 0 (ak_iload 9 (ak_push (vI 2) (ak_callv 9 2 (m_X9_roadOf F) (ak_iadd (ak_iast (ak_aload 0 (ak_getf 9 44 (ak_iload 8 (ak_push (vI 1) (ak_iadd (ak_aload 0 (ak_getf 9 44 (ak_iload 8 (ak_lald (ak_aload 0 (ak_iload 1 (ak_iload 2 (ak_iload 9 (ak_aload 0 (ak_getf 9 43 (ak_iload 8 (ak_iald (ak_callv 9 4 (m_X9_costOf F) (ak_ladd (ak_last (ak_aload 0 (ak_getf 9 42 (ak_iload 8 (ak_push (vI 1) (ak_iadd (ak_iald (ak_iload 5 (ak_cmpeq (ak_push (vI 1) ((k_X9_finds_259 F self))) (ak_push (vI 0) ((k_X9_finds_259 F self)))))))))))))))))))))))))))))))))))))))))))))))))))))))))))))))) (self))))))))))))))))))))))))))))))))))))
noncomputable def k_X9_finds_74 (F : Nat) (n : Nat) : AK := Nat.rec (motive := fun _ => AK) ak_none (fun _ self => kb_X9_finds_74 F self) n
set_option maxRecDepth 20000 in
theorem sk_X9_finds_74 (F : Nat) : ∀ n, Snd X0 RX9 cX9_finds 11 4 74 (k_X9_finds_74 F n) := by
  intro n
  induction n with
  | zero => exact snd_none
  | succ n ih =>
    show Snd X0 RX9 cX9_finds 11 4 74 (kb_X9_finds_74 F (k_X9_finds_74 F n))
    unfold kb_X9_finds_74
    exact snd_iload (pc := 74) (i := 8) dX9_finds_74 (snd_iflt (pc := 76) (off := 241) (tgt := 317) (by decide) dX9_finds_76 (snd_aload_n (pc := 317) (i := 0) dX9_finds_317 (snd_getf (pc := 318) cls9 (f := 46) (by decide) wd_1349 dX9_finds_318 (snd_ifle (pc := 321) (off := 7) (tgt := 328) (by decide) dX9_finds_321 (snd_iconst (pc := 328) dX9_finds_328 (snd_ireturn dX9_finds_329)) (snd_iconst (pc := 324) dX9_finds_324 (snd_goto (pc := 325) (off := 4) (tgt := 329) (by decide) dX9_finds_325 (snd_ireturn dX9_finds_329)))))) (snd_aload_n (pc := 79) (i := 0) dX9_finds_79 (snd_getf (pc := 80) cls9 (f := 41) (by decide) wd_1344 dX9_finds_80 (snd_iload (pc := 83) (i := 8) dX9_finds_83 (snd_iald (pc := 85) dX9_finds_85 (snd_istore (pc := 86) (i := 9) (by decide) dX9_finds_86 (snd_aload_n (pc := 88) (i := 0) dX9_finds_88 (snd_getf (pc := 89) cls9 (f := 41) (by decide) wd_1344 dX9_finds_89 (snd_iload (pc := 92) (i := 8) dX9_finds_92 (snd_dup2 (pc := 94) dX9_finds_94 (snd_iald (pc := 95) dX9_finds_95 (snd_iconst (pc := 96) dX9_finds_96 (snd_iadd (pc := 97) dX9_finds_97 (snd_iast (pc := 98) dX9_finds_98 (snd_iload (pc := 99) (i := 9) dX9_finds_99 (snd_aload_n (pc := 101) (i := 0) dX9_finds_101 (snd_getf (pc := 102) cls9 (f := 23) (by decide) wd_1326 dX9_finds_102 (snd_icmpeq (pc := 105) (off := 10) (tgt := 115) (by decide) dX9_finds_105 ((sk_X9_finds_115 F ih)) (snd_iload (pc := 108) (i := 8) dX9_finds_108 (snd_iload (pc := 110) (i := 7) dX9_finds_110 (snd_icmpne (pc := 112) (off := 9) (tgt := 121) (by decide) dX9_finds_112 (snd_aload_n (pc := 121) (i := 0) dX9_finds_121 (snd_iload (pc := 122) (i := 9) dX9_finds_122 (snd_aload_n (pc := 124) (i := 0) dX9_finds_124 (snd_getf (pc := 125) cls9 (f := 42) (by decide) wd_1345 dX9_finds_125 (snd_iload (pc := 128) (i := 8) dX9_finds_128 (snd_iald (pc := 130) dX9_finds_130 (snd_callV (pc := 131) (n := 2) cls9 (s_X9_ends F) (by decide) (by decide) wd_1673 wd_1670 wd_1672 wd_81 wd_129 hy_X9_ends dX9_finds_131 (snd_ifeq (pc := 134) (off := (-60)) (tgt := 74) (by decide) dX9_finds_134 (ih) (snd_aload_n (pc := 137) (i := 0) dX9_finds_137 (snd_iload (pc := 138) (i := 9) dX9_finds_138 (snd_iload (pc := 140) (i := 8) dX9_finds_140 (snd_iload (pc := 142) (i := 6) dX9_finds_142 (snd_callV (pc := 144) (n := 3) cls9 (s_X9_isOnStack F) (by decide) (by decide) wd_1736 wd_1733 wd_1735 wd_91 wd_129 hy_X9_isOnStack dX9_finds_144 (snd_ifeq (pc := 147) (off := 6) (tgt := 153) (by decide) dX9_finds_147 (snd_aload_n (pc := 153) (i := 0) dX9_finds_153 (snd_getf (pc := 154) cls9 (f := 40) (by decide) wd_1343 dX9_finds_154 (snd_iload (pc := 157) (i := 8) dX9_finds_157 (snd_iload (pc := 159) (i := 9) dX9_finds_159 (snd_iast (pc := 161) dX9_finds_161 (snd_aload_n (pc := 162) (i := 0) dX9_finds_162 (snd_getf (pc := 163) cls9 (f := 42) (by decide) wd_1345 dX9_finds_163 (snd_iload (pc := 166) (i := 8) dX9_finds_166 (snd_iconst (pc := 168) dX9_finds_168 (snd_iadd (pc := 169) dX9_finds_169 (snd_aload_n (pc := 170) (i := 0) dX9_finds_170 (snd_iload (pc := 171) (i := 9) dX9_finds_171 (snd_aload_n (pc := 173) (i := 0) dX9_finds_173 (snd_getf (pc := 174) cls9 (f := 42) (by decide) wd_1345 dX9_finds_174 (snd_iload (pc := 177) (i := 8) dX9_finds_177 (snd_iald (pc := 179) dX9_finds_179 (snd_callV (pc := 180) (n := 2) cls9 (s_X9_farEnd F) (by decide) (by decide) wd_1689 wd_1686 wd_1688 wd_85 wd_129 hy_X9_farEnd dX9_finds_180 (snd_iast (pc := 183) dX9_finds_183 (snd_aload_n (pc := 184) (i := 0) dX9_finds_184 (snd_getf (pc := 185) cls9 (f := 43) (by decide) wd_1346 dX9_finds_185 (snd_iload (pc := 188) (i := 8) dX9_finds_188 (snd_iconst (pc := 190) dX9_finds_190 (snd_iadd (pc := 191) dX9_finds_191 (snd_aload_n (pc := 192) (i := 0) dX9_finds_192 (snd_getf (pc := 193) cls9 (f := 43) (by decide) wd_1346 dX9_finds_193 (snd_iload (pc := 196) (i := 8) dX9_finds_196 (snd_iald (pc := 198) dX9_finds_198 (snd_aload_n (pc := 199) (i := 0) dX9_finds_199 (snd_iload (pc := 200) (i := 9) dX9_finds_200 (snd_iconst (pc := 202) dX9_finds_202 (snd_callV (pc := 203) (n := 2) cls9 (s_X9_roadOf F) (by decide) (by decide) wd_1657 wd_1654 wd_1656 wd_77 wd_129 hy_X9_roadOf dX9_finds_203 (snd_iadd (pc := 206) dX9_finds_206 (snd_iast (pc := 207) dX9_finds_207 (snd_aload_n (pc := 208) (i := 0) dX9_finds_208 (snd_getf (pc := 209) cls9 (f := 44) (by decide) wd_1347 dX9_finds_209 (snd_iload (pc := 212) (i := 8) dX9_finds_212 (snd_iconst (pc := 214) dX9_finds_214 (snd_iadd (pc := 215) dX9_finds_215 (snd_aload_n (pc := 216) (i := 0) dX9_finds_216 (snd_getf (pc := 217) cls9 (f := 44) (by decide) wd_1347 dX9_finds_217 (snd_iload (pc := 220) (i := 8) dX9_finds_220 (snd_lald (pc := 222) dX9_finds_222 (snd_aload_n (pc := 223) (i := 0) dX9_finds_223 (snd_iload_n (pc := 224) (i := 1) dX9_finds_224 (snd_iload_n (pc := 225) (i := 2) dX9_finds_225 (snd_iload (pc := 226) (i := 9) dX9_finds_226 (snd_aload_n (pc := 228) (i := 0) dX9_finds_228 (snd_getf (pc := 229) cls9 (f := 43) (by decide) wd_1346 dX9_finds_229 (snd_iload (pc := 232) (i := 8) dX9_finds_232 (snd_iald (pc := 234) dX9_finds_234 (snd_callV (pc := 235) (n := 4) cls9 (s_X9_costOf F) (by decide) (by decide) wd_1740 wd_1737 wd_1739 wd_92 wd_129 hy_X9_costOf dX9_finds_235 (snd_ladd (pc := 238) dX9_finds_238 (snd_last (pc := 239) dX9_finds_239 (snd_aload_n (pc := 240) (i := 0) dX9_finds_240 (snd_getf (pc := 241) cls9 (f := 42) (by decide) wd_1345 dX9_finds_241 (snd_iload (pc := 244) (i := 8) dX9_finds_244 (snd_iconst (pc := 246) dX9_finds_246 (snd_iadd (pc := 247) dX9_finds_247 (snd_iald (pc := 248) dX9_finds_248 (snd_iload (pc := 249) (i := 5) dX9_finds_249 (snd_icmpne (pc := 251) (off := 7) (tgt := 258) (by decide) dX9_finds_251 (snd_iconst (pc := 258) dX9_finds_258 ((sk_X9_finds_259 F ih))) (snd_iconst (pc := 254) dX9_finds_254 (snd_goto (pc := 255) (off := 4) (tgt := 259) (by decide) dX9_finds_255 ((sk_X9_finds_259 F ih))))))))))))))))))))))))))))))))))))))))))))))))))))))))))))))))) (snd_goto (pc := 150) (off := (-76)) (tgt := 74) (by decide) dX9_finds_150 (ih)))))))))))))))) ((sk_X9_finds_115 F ih)))))))))))))))))))))))
noncomputable def k_X9_finds_30 (F : Nat) : AK := ak_istore 7 (ak_aload 0 (ak_push (vI 0) (ak_putf 9 46 (ak_aload 0 (ak_push (vI 0) (ak_putf 9 48 (ak_push (vI 0) (ak_istore 8 (ak_aload 0 (ak_getf 9 42 (ak_push (vI 0) (ak_iload 4 (ak_iast (ak_aload 0 (ak_getf 9 43 (ak_push (vI 0) (ak_iload 3 (ak_iast (ak_aload 0 (ak_getf 9 44 (ak_push (vI 0) (ak_push (vL 0) (ak_last (ak_aload 0 (ak_getf 9 41 (ak_push (vI 0) (ak_push (vI 0) (ak_iast ((k_X9_finds_74 F F))))))))))))))))))))))))))))))
set_option maxRecDepth 20000 in
theorem sk_X9_finds_30 (F : Nat) : Snd X0 RX9 cX9_finds 11 4 30 (k_X9_finds_30 F) := by
  unfold k_X9_finds_30
  exact snd_istore (pc := 30) (i := 7) (by decide) dX9_finds_30 (snd_aload_n (pc := 32) (i := 0) dX9_finds_32 (snd_iconst (pc := 33) dX9_finds_33 (snd_putf (pc := 34) cls9 (f := 46) (by decide) rfl rfl rfl wd_1349 dX9_finds_34 (snd_aload_n (pc := 37) (i := 0) dX9_finds_37 (snd_iconst (pc := 38) dX9_finds_38 (snd_putf (pc := 39) cls9 (f := 48) (by decide) rfl rfl rfl wd_1351 dX9_finds_39 (snd_iconst (pc := 42) dX9_finds_42 (snd_istore (pc := 43) (i := 8) (by decide) dX9_finds_43 (snd_aload_n (pc := 45) (i := 0) dX9_finds_45 (snd_getf (pc := 46) cls9 (f := 42) (by decide) wd_1345 dX9_finds_46 (snd_iconst (pc := 49) dX9_finds_49 (snd_iload (pc := 50) (i := 4) dX9_finds_50 (snd_iast (pc := 52) dX9_finds_52 (snd_aload_n (pc := 53) (i := 0) dX9_finds_53 (snd_getf (pc := 54) cls9 (f := 43) (by decide) wd_1346 dX9_finds_54 (snd_iconst (pc := 57) dX9_finds_57 (snd_iload_n (pc := 58) (i := 3) dX9_finds_58 (snd_iast (pc := 59) dX9_finds_59 (snd_aload_n (pc := 60) (i := 0) dX9_finds_60 (snd_getf (pc := 61) cls9 (f := 44) (by decide) wd_1347 dX9_finds_61 (snd_iconst (pc := 64) dX9_finds_64 (snd_lconst (pc := 65) (by decide) dX9_finds_65 (snd_last (pc := 66) dX9_finds_66 (snd_aload_n (pc := 67) (i := 0) dX9_finds_67 (snd_getf (pc := 68) cls9 (f := 41) (by decide) wd_1344 dX9_finds_68 (snd_iconst (pc := 71) dX9_finds_71 (snd_iconst (pc := 72) dX9_finds_72 (snd_iast (pc := 73) dX9_finds_73 ((sk_X9_finds_74 F F))))))))))))))))))))))))))))))
noncomputable def k_X9_finds_12 (F : Nat) : AK := ak_istore 6 (ak_iload 6 (ak_ifeq (ak_aload 0 (ak_getf 9 22 (ak_push (vI 1) (ak_isub ((k_X9_finds_30 F)))))) (ak_push (vI 6) ((k_X9_finds_30 F)))))
set_option maxRecDepth 20000 in
theorem sk_X9_finds_12 (F : Nat) : Snd X0 RX9 cX9_finds 11 4 12 (k_X9_finds_12 F) := by
  unfold k_X9_finds_12
  exact snd_istore (pc := 12) (i := 6) (by decide) dX9_finds_12 (snd_iload (pc := 14) (i := 6) dX9_finds_14 (snd_ifeq (pc := 16) (off := 8) (tgt := 24) (by decide) dX9_finds_16 (snd_aload_n (pc := 24) (i := 0) dX9_finds_24 (snd_getf (pc := 25) cls9 (f := 22) (by decide) wd_1325 dX9_finds_25 (snd_iconst (pc := 28) dX9_finds_28 (snd_isub (pc := 29) dX9_finds_29 ((sk_X9_finds_30 F)))))) (snd_bipush (pc := 19) (by decide) dX9_finds_19 (snd_goto (pc := 21) (off := 9) (tgt := 30) (by decide) dX9_finds_21 ((sk_X9_finds_30 F))))))
noncomputable def k_X9_finds (F : Nat) : AK := ak_iload 4 (ak_iload 5 (ak_cmpeq (ak_push (vI 1) ((k_X9_finds_12 F))) (ak_push (vI 0) ((k_X9_finds_12 F)))))
noncomputable def m_X9_finds (F : Nat) : AF := mkF 2 11 (k_X9_finds F)
set_option maxRecDepth 20000 in
theorem s_X9_finds (F : Nat) : MA yX9_finds cX9_finds 11 (some .boolean) 4 (m_X9_finds F) := met_of (Or.inr (Or.inr (Or.inl ⟨rfl, rfl⟩))) (by decide) (by
  unfold k_X9_finds
  exact snd_iload (pc := 0) (i := 4) dX9_finds_0 (snd_iload (pc := 2) (i := 5) dX9_finds_2 (snd_icmpne (pc := 4) (off := 7) (tgt := 11) (by decide) dX9_finds_4 (snd_iconst (pc := 11) dX9_finds_11 ((sk_X9_finds_12 F))) (snd_iconst (pc := 7) dX9_finds_7 (snd_goto (pc := 8) (off := 4) (tgt := 12) (by decide) dX9_finds_8 ((sk_X9_finds_12 F)))))))

/-! LastWalkerModel.minutesOfBest()I -/
theorem dX9_minutesOfBest_0 : decode cX9_minutesOfBest 0 = .ok (.iconst 0, 1) := by decide +kernel
theorem dX9_minutesOfBest_1 : decode cX9_minutesOfBest 1 = .ok (.istore_n 1, 1) := by decide +kernel
theorem dX9_minutesOfBest_2 : decode cX9_minutesOfBest 2 = .ok (.iconst 0, 1) := by decide +kernel
theorem dX9_minutesOfBest_3 : decode cX9_minutesOfBest 3 = .ok (.istore_n 2, 1) := by decide +kernel
theorem dX9_minutesOfBest_4 : decode cX9_minutesOfBest 4 = .ok (.iload_n 2, 1) := by decide +kernel
theorem dX9_minutesOfBest_5 : decode cX9_minutesOfBest 5 = .ok (.aload_n 0, 1) := by decide +kernel
theorem dX9_minutesOfBest_6 : decode cX9_minutesOfBest 6 = .ok (.getfield 355, 3) := by decide +kernel
theorem dX9_minutesOfBest_9 : decode cX9_minutesOfBest 9 = .ok (.if_icmp .ge 23, 3) := by decide +kernel
theorem dX9_minutesOfBest_12 : decode cX9_minutesOfBest 12 = .ok (.iload_n 1, 1) := by decide +kernel
theorem dX9_minutesOfBest_13 : decode cX9_minutesOfBest 13 = .ok (.aload_n 0, 1) := by decide +kernel
theorem dX9_minutesOfBest_14 : decode cX9_minutesOfBest 14 = .ok (.aload_n 0, 1) := by decide +kernel
theorem dX9_minutesOfBest_15 : decode cX9_minutesOfBest 15 = .ok (.getfield 72, 3) := by decide +kernel
theorem dX9_minutesOfBest_18 : decode cX9_minutesOfBest 18 = .ok (.iload_n 2, 1) := by decide +kernel
theorem dX9_minutesOfBest_19 : decode cX9_minutesOfBest 19 = .ok (.iaload, 1) := by decide +kernel
theorem dX9_minutesOfBest_20 : decode cX9_minutesOfBest 20 = .ok (.iconst 2, 1) := by decide +kernel
theorem dX9_minutesOfBest_21 : decode cX9_minutesOfBest 21 = .ok (.invokevirtual 294, 3) := by decide +kernel
theorem dX9_minutesOfBest_24 : decode cX9_minutesOfBest 24 = .ok (.iadd, 1) := by decide +kernel
theorem dX9_minutesOfBest_25 : decode cX9_minutesOfBest 25 = .ok (.istore_n 1, 1) := by decide +kernel
theorem dX9_minutesOfBest_26 : decode cX9_minutesOfBest 26 = .ok (.iinc 2 1, 3) := by decide +kernel
theorem dX9_minutesOfBest_29 : decode cX9_minutesOfBest 29 = .ok (.goto (-25), 3) := by decide +kernel
theorem dX9_minutesOfBest_32 : decode cX9_minutesOfBest 32 = .ok (.iload_n 1, 1) := by decide +kernel
theorem dX9_minutesOfBest_33 : decode cX9_minutesOfBest 33 = .ok (.ireturn, 1) := by decide +kernel
noncomputable def kb_X9_minutesOfBest_4 (F : Nat) (self : AK) : AK := ak_iload 2 (ak_aload 0 (ak_getf 9 46 (ak_cmplt (ak_iload 1 (ak_aload 0 (ak_aload 0 (ak_getf 9 45 (ak_iload 2 (ak_iald (ak_push (vI 2) (ak_callv 9 2 (m_X9_roadOf F) (ak_iadd (ak_istore 1 (ak_iinc 2 1 self))))))))))) (ak_iload 1 ak_ireturn))))
noncomputable def k_X9_minutesOfBest_4 (F : Nat) (n : Nat) : AK := Nat.rec (motive := fun _ => AK) ak_none (fun _ self => kb_X9_minutesOfBest_4 F self) n
set_option maxRecDepth 20000 in
theorem sk_X9_minutesOfBest_4 (F : Nat) : ∀ n, Snd X0 RX9 cX9_minutesOfBest 3 1 4 (k_X9_minutesOfBest_4 F n) := by
  intro n
  induction n with
  | zero => exact snd_none
  | succ n ih =>
    show Snd X0 RX9 cX9_minutesOfBest 3 1 4 (kb_X9_minutesOfBest_4 F (k_X9_minutesOfBest_4 F n))
    unfold kb_X9_minutesOfBest_4
    exact snd_iload_n (pc := 4) (i := 2) dX9_minutesOfBest_4 (snd_aload_n (pc := 5) (i := 0) dX9_minutesOfBest_5 (snd_getf (pc := 6) cls9 (f := 46) (by decide) wd_1349 dX9_minutesOfBest_6 (snd_icmpge (pc := 9) (off := 23) (tgt := 32) (by decide) dX9_minutesOfBest_9 (snd_iload_n (pc := 32) (i := 1) dX9_minutesOfBest_32 (snd_ireturn dX9_minutesOfBest_33)) (snd_iload_n (pc := 12) (i := 1) dX9_minutesOfBest_12 (snd_aload_n (pc := 13) (i := 0) dX9_minutesOfBest_13 (snd_aload_n (pc := 14) (i := 0) dX9_minutesOfBest_14 (snd_getf (pc := 15) cls9 (f := 45) (by decide) wd_1348 dX9_minutesOfBest_15 (snd_iload_n (pc := 18) (i := 2) dX9_minutesOfBest_18 (snd_iald (pc := 19) dX9_minutesOfBest_19 (snd_iconst (pc := 20) dX9_minutesOfBest_20 (snd_callV (pc := 21) (n := 2) cls9 (s_X9_roadOf F) (by decide) (by decide) wd_1657 wd_1654 wd_1656 wd_77 wd_129 hy_X9_roadOf dX9_minutesOfBest_21 (snd_iadd (pc := 24) dX9_minutesOfBest_24 (snd_istore_n (pc := 25) (i := 1) (by decide) dX9_minutesOfBest_25 (snd_iinc (pc := 26) (i := 2) (n := 1) (by decide) dX9_minutesOfBest_26 (snd_goto (pc := 29) (off := (-25)) (tgt := 4) (by decide) dX9_minutesOfBest_29 (ih))))))))))))))))
noncomputable def k_X9_minutesOfBest (F : Nat) : AK := ak_push (vI 0) (ak_istore 1 (ak_push (vI 0) (ak_istore 2 ((k_X9_minutesOfBest_4 F F)))))
noncomputable def m_X9_minutesOfBest (F : Nat) : AF := mkF 1 3 (k_X9_minutesOfBest F)
set_option maxRecDepth 20000 in
theorem s_X9_minutesOfBest (F : Nat) : MA yX9_minutesOfBest cX9_minutesOfBest 3 (some .int) 1 (m_X9_minutesOfBest F) := met_of (Or.inr (Or.inl ⟨rfl, rfl⟩)) (by decide) (by
  unfold k_X9_minutesOfBest
  exact snd_iconst (pc := 0) dX9_minutesOfBest_0 (snd_istore_n (pc := 1) (i := 1) (by decide) dX9_minutesOfBest_1 (snd_iconst (pc := 2) dX9_minutesOfBest_2 (snd_istore_n (pc := 3) (i := 2) (by decide) dX9_minutesOfBest_3 ((sk_X9_minutesOfBest_4 F F))))))

/-! LastWalkerModel.layWay(IIIIIIII)Z -/
theorem dX9_layWay_0 : decode cX9_layWay 0 = .ok (.aload_n 0, 1) := by decide +kernel
theorem dX9_layWay_1 : decode cX9_layWay 1 = .ok (.iload_n 1, 1) := by decide +kernel
theorem dX9_layWay_2 : decode cX9_layWay 2 = .ok (.iload_n 2, 1) := by decide +kernel
theorem dX9_layWay_3 : decode cX9_layWay 3 = .ok (.iload_n 3, 1) := by decide +kernel
theorem dX9_layWay_4 : decode cX9_layWay 4 = .ok (.invokevirtual 343, 3) := by decide +kernel
theorem dX9_layWay_7 : decode cX9_layWay 7 = .ok (.ifCond .eq 80, 3) := by decide +kernel
theorem dX9_layWay_10 : decode cX9_layWay 10 = .ok (.aload_n 0, 1) := by decide +kernel
theorem dX9_layWay_11 : decode cX9_layWay 11 = .ok (.iload 4, 2) := by decide +kernel
theorem dX9_layWay_13 : decode cX9_layWay 13 = .ok (.invokevirtual 316, 3) := by decide +kernel
theorem dX9_layWay_16 : decode cX9_layWay 16 = .ok (.ifCond .eq 71, 3) := by decide +kernel
theorem dX9_layWay_19 : decode cX9_layWay 19 = .ok (.iload 5, 2) := by decide +kernel
theorem dX9_layWay_21 : decode cX9_layWay 21 = .ok (.iconst 0, 1) := by decide +kernel
theorem dX9_layWay_22 : decode cX9_layWay 22 = .ok (.iconst 2, 1) := by decide +kernel
theorem dX9_layWay_23 : decode cX9_layWay 23 = .ok (.invokestatic 120, 3) := by decide +kernel
theorem dX9_layWay_26 : decode cX9_layWay 26 = .ok (.ifCond .eq 61, 3) := by decide +kernel
theorem dX9_layWay_29 : decode cX9_layWay 29 = .ok (.iload 6, 2) := by decide +kernel
theorem dX9_layWay_31 : decode cX9_layWay 31 = .ok (.iconst 0, 1) := by decide +kernel
theorem dX9_layWay_32 : decode cX9_layWay 32 = .ok (.sipush 999, 3) := by decide +kernel
theorem dX9_layWay_35 : decode cX9_layWay 35 = .ok (.invokestatic 120, 3) := by decide +kernel
theorem dX9_layWay_38 : decode cX9_layWay 38 = .ok (.ifCond .eq 49, 3) := by decide +kernel
theorem dX9_layWay_41 : decode cX9_layWay 41 = .ok (.aload_n 0, 1) := by decide +kernel
theorem dX9_layWay_42 : decode cX9_layWay 42 = .ok (.iload 7, 2) := by decide +kernel
theorem dX9_layWay_44 : decode cX9_layWay 44 = .ok (.invokevirtual 373, 3) := by decide +kernel
theorem dX9_layWay_47 : decode cX9_layWay 47 = .ok (.ifCond .eq 40, 3) := by decide +kernel
theorem dX9_layWay_50 : decode cX9_layWay 50 = .ok (.aload_n 0, 1) := by decide +kernel
theorem dX9_layWay_51 : decode cX9_layWay 51 = .ok (.iload 8, 2) := by decide +kernel
theorem dX9_layWay_53 : decode cX9_layWay 53 = .ok (.invokevirtual 373, 3) := by decide +kernel
theorem dX9_layWay_56 : decode cX9_layWay 56 = .ok (.ifCond .eq 31, 3) := by decide +kernel
theorem dX9_layWay_59 : decode cX9_layWay 59 = .ok (.iload 7, 2) := by decide +kernel
theorem dX9_layWay_61 : decode cX9_layWay 61 = .ok (.iload 8, 2) := by decide +kernel
theorem dX9_layWay_63 : decode cX9_layWay 63 = .ok (.if_icmp .eq 24, 3) := by decide +kernel
theorem dX9_layWay_66 : decode cX9_layWay 66 = .ok (.aload_n 0, 1) := by decide +kernel
theorem dX9_layWay_67 : decode cX9_layWay 67 = .ok (.iload 4, 2) := by decide +kernel
theorem dX9_layWay_69 : decode cX9_layWay 69 = .ok (.iload 5, 2) := by decide +kernel
theorem dX9_layWay_71 : decode cX9_layWay 71 = .ok (.iload 6, 2) := by decide +kernel
theorem dX9_layWay_73 : decode cX9_layWay 73 = .ok (.iload 7, 2) := by decide +kernel
theorem dX9_layWay_75 : decode cX9_layWay 75 = .ok (.iload 8, 2) := by decide +kernel
theorem dX9_layWay_77 : decode cX9_layWay 77 = .ok (.invokevirtual 376, 3) := by decide +kernel
theorem dX9_layWay_80 : decode cX9_layWay 80 = .ok (.ifCond .eq 7, 3) := by decide +kernel
theorem dX9_layWay_83 : decode cX9_layWay 83 = .ok (.iconst 1, 1) := by decide +kernel
theorem dX9_layWay_84 : decode cX9_layWay 84 = .ok (.goto 4, 3) := by decide +kernel
theorem dX9_layWay_87 : decode cX9_layWay 87 = .ok (.iconst 0, 1) := by decide +kernel
theorem dX9_layWay_88 : decode cX9_layWay 88 = .ok (.ireturn, 1) := by decide +kernel
noncomputable def k_X9_layWay (F : Nat) : AK := ak_aload 0 (ak_iload 1 (ak_iload 2 (ak_iload 3 (ak_callv 9 3 (m_X9_lay F) (ak_ifeq (ak_push (vI 0) ak_ireturn) (ak_aload 0 (ak_iload 4 (ak_callv 9 1 (m_X9_isPerson F) (ak_ifeq (ak_push (vI 0) ak_ireturn) (ak_iload 5 (ak_push (vI 0) (ak_push (vI 2) (ak_call 3 (m_X9_in F) (ak_ifeq (ak_push (vI 0) ak_ireturn) (ak_iload 6 (ak_push (vI 0) (ak_push (vI 999) (ak_call 3 (m_X9_in F) (ak_ifeq (ak_push (vI 0) ak_ireturn) (ak_aload 0 (ak_iload 7 (ak_callv 9 1 (m_X9_isPlace F) (ak_ifeq (ak_push (vI 0) ak_ireturn) (ak_aload 0 (ak_iload 8 (ak_callv 9 1 (m_X9_isPlace F) (ak_ifeq (ak_push (vI 0) ak_ireturn) (ak_iload 7 (ak_iload 8 (ak_cmpeq (ak_push (vI 0) ak_ireturn) (ak_aload 0 (ak_iload 4 (ak_iload 5 (ak_iload 6 (ak_iload 7 (ak_iload 8 (ak_callv 9 5 (m_X9_finds F) (ak_ifeq (ak_push (vI 0) ak_ireturn) (ak_push (vI 1) ak_ireturn)))))))))))))))))))))))))))))))))))))))
noncomputable def m_X9_layWay (F : Nat) : AF := mkF 2 9 (k_X9_layWay F)
set_option maxRecDepth 20000 in
theorem s_X9_layWay (F : Nat) : MA yX9_layWay cX9_layWay 9 (some .boolean) 6 (m_X9_layWay F) := met_of (Or.inr (Or.inr (Or.inl ⟨rfl, rfl⟩))) (by decide) (by
  unfold k_X9_layWay
  exact snd_aload_n (pc := 0) (i := 0) dX9_layWay_0 (snd_iload_n (pc := 1) (i := 1) dX9_layWay_1 (snd_iload_n (pc := 2) (i := 2) dX9_layWay_2 (snd_iload_n (pc := 3) (i := 3) dX9_layWay_3 (snd_callV (pc := 4) (n := 3) cls9 (s_X9_lay F) (by decide) (by decide) wd_1697 wd_1694 wd_1696 wd_86 wd_129 hy_X9_lay dX9_layWay_4 (snd_ifeq (pc := 7) (off := 80) (tgt := 87) (by decide) dX9_layWay_7 (snd_iconst (pc := 87) dX9_layWay_87 (snd_ireturn dX9_layWay_88)) (snd_aload_n (pc := 10) (i := 0) dX9_layWay_10 (snd_iload (pc := 11) (i := 4) dX9_layWay_11 (snd_callV (pc := 13) (n := 1) cls9 (s_X9_isPerson F) (by decide) (by decide) wd_1665 wd_1662 wd_1664 wd_79 wd_129 hy_X9_isPerson dX9_layWay_13 (snd_ifeq (pc := 16) (off := 71) (tgt := 87) (by decide) dX9_layWay_16 (snd_iconst (pc := 87) dX9_layWay_87 (snd_ireturn dX9_layWay_88)) (snd_iload (pc := 19) (i := 5) dX9_layWay_19 (snd_iconst (pc := 21) dX9_layWay_21 (snd_iconst (pc := 22) dX9_layWay_22 (snd_callS (pc := 23) (n := 3) (s_X9_in F) (by decide) (by decide) wd_1511 wd_1509 wd_1510 wd_129 hy_X9_in dX9_layWay_23 (snd_ifeq (pc := 26) (off := 61) (tgt := 87) (by decide) dX9_layWay_26 (snd_iconst (pc := 87) dX9_layWay_87 (snd_ireturn dX9_layWay_88)) (snd_iload (pc := 29) (i := 6) dX9_layWay_29 (snd_iconst (pc := 31) dX9_layWay_31 (snd_sipush (pc := 32) (by decide) dX9_layWay_32 (snd_callS (pc := 35) (n := 3) (s_X9_in F) (by decide) (by decide) wd_1511 wd_1509 wd_1510 wd_129 hy_X9_in dX9_layWay_35 (snd_ifeq (pc := 38) (off := 49) (tgt := 87) (by decide) dX9_layWay_38 (snd_iconst (pc := 87) dX9_layWay_87 (snd_ireturn dX9_layWay_88)) (snd_aload_n (pc := 41) (i := 0) dX9_layWay_41 (snd_iload (pc := 42) (i := 7) dX9_layWay_42 (snd_callV (pc := 44) (n := 1) cls9 (s_X9_isPlace F) (by decide) (by decide) wd_1728 wd_1725 wd_1727 wd_89 wd_129 hy_X9_isPlace dX9_layWay_44 (snd_ifeq (pc := 47) (off := 40) (tgt := 87) (by decide) dX9_layWay_47 (snd_iconst (pc := 87) dX9_layWay_87 (snd_ireturn dX9_layWay_88)) (snd_aload_n (pc := 50) (i := 0) dX9_layWay_50 (snd_iload (pc := 51) (i := 8) dX9_layWay_51 (snd_callV (pc := 53) (n := 1) cls9 (s_X9_isPlace F) (by decide) (by decide) wd_1728 wd_1725 wd_1727 wd_89 wd_129 hy_X9_isPlace dX9_layWay_53 (snd_ifeq (pc := 56) (off := 31) (tgt := 87) (by decide) dX9_layWay_56 (snd_iconst (pc := 87) dX9_layWay_87 (snd_ireturn dX9_layWay_88)) (snd_iload (pc := 59) (i := 7) dX9_layWay_59 (snd_iload (pc := 61) (i := 8) dX9_layWay_61 (snd_icmpeq (pc := 63) (off := 24) (tgt := 87) (by decide) dX9_layWay_63 (snd_iconst (pc := 87) dX9_layWay_87 (snd_ireturn dX9_layWay_88)) (snd_aload_n (pc := 66) (i := 0) dX9_layWay_66 (snd_iload (pc := 67) (i := 4) dX9_layWay_67 (snd_iload (pc := 69) (i := 5) dX9_layWay_69 (snd_iload (pc := 71) (i := 6) dX9_layWay_71 (snd_iload (pc := 73) (i := 7) dX9_layWay_73 (snd_iload (pc := 75) (i := 8) dX9_layWay_75 (snd_callV (pc := 77) (n := 5) cls9 (s_X9_finds F) (by decide) (by decide) wd_1732 wd_1729 wd_1731 wd_90 wd_129 hy_X9_finds dX9_layWay_77 (snd_ifeq (pc := 80) (off := 7) (tgt := 87) (by decide) dX9_layWay_80 (snd_iconst (pc := 87) dX9_layWay_87 (snd_ireturn dX9_layWay_88)) (snd_iconst (pc := 83) dX9_layWay_83 (snd_goto (pc := 84) (off := 4) (tgt := 88) (by decide) dX9_layWay_84 (snd_ireturn dX9_layWay_88))))))))))))))))))))))))))))))))))))))))))

/-! LastWalkerModel.way(IIIIIIIII)I -/
theorem dX9_way_0 : decode cX9_way 0 = .ok (.aload_n 0, 1) := by decide +kernel
theorem dX9_way_1 : decode cX9_way 1 = .ok (.iconst 0, 1) := by decide +kernel
theorem dX9_way_2 : decode cX9_way 2 = .ok (.putfield 112, 3) := by decide +kernel
theorem dX9_way_5 : decode cX9_way 5 = .ok (.aload_n 0, 1) := by decide +kernel
theorem dX9_way_6 : decode cX9_way 6 = .ok (.iload_n 1, 1) := by decide +kernel
theorem dX9_way_7 : decode cX9_way 7 = .ok (.iload_n 2, 1) := by decide +kernel
theorem dX9_way_8 : decode cX9_way 8 = .ok (.iload_n 3, 1) := by decide +kernel
theorem dX9_way_9 : decode cX9_way 9 = .ok (.iload 4, 2) := by decide +kernel
theorem dX9_way_11 : decode cX9_way 11 = .ok (.iload 5, 2) := by decide +kernel
theorem dX9_way_13 : decode cX9_way 13 = .ok (.iload 6, 2) := by decide +kernel
theorem dX9_way_15 : decode cX9_way 15 = .ok (.iload 7, 2) := by decide +kernel
theorem dX9_way_17 : decode cX9_way 17 = .ok (.iload 8, 2) := by decide +kernel
theorem dX9_way_19 : decode cX9_way 19 = .ok (.invokevirtual 380, 3) := by decide +kernel
theorem dX9_way_22 : decode cX9_way 22 = .ok (.ifCond .ne 6, 3) := by decide +kernel
theorem dX9_way_25 : decode cX9_way 25 = .ok (.bipush (-2), 2) := by decide +kernel
theorem dX9_way_27 : decode cX9_way 27 = .ok (.ireturn, 1) := by decide +kernel
theorem dX9_way_28 : decode cX9_way 28 = .ok (.iload 9, 2) := by decide +kernel
theorem dX9_way_30 : decode cX9_way 30 = .ok (.bipush 10, 2) := by decide +kernel
theorem dX9_way_32 : decode cX9_way 32 = .ok (.bipush 9, 2) := by decide +kernel
theorem dX9_way_34 : decode cX9_way 34 = .ok (.aload_n 0, 1) := by decide +kernel
theorem dX9_way_35 : decode cX9_way 35 = .ok (.getfield 355, 3) := by decide +kernel
theorem dX9_way_38 : decode cX9_way 38 = .ok (.iadd, 1) := by decide +kernel
theorem dX9_way_39 : decode cX9_way 39 = .ok (.invokestatic 120, 3) := by decide +kernel
theorem dX9_way_42 : decode cX9_way 42 = .ok (.ifCond .eq 14, 3) := by decide +kernel
theorem dX9_way_45 : decode cX9_way 45 = .ok (.aload_n 0, 1) := by decide +kernel
theorem dX9_way_46 : decode cX9_way 46 = .ok (.getfield 72, 3) := by decide +kernel
theorem dX9_way_49 : decode cX9_way 49 = .ok (.iload 9, 2) := by decide +kernel
theorem dX9_way_51 : decode cX9_way 51 = .ok (.bipush 10, 2) := by decide +kernel
theorem dX9_way_53 : decode cX9_way 53 = .ok (.isub, 1) := by decide +kernel
theorem dX9_way_54 : decode cX9_way 54 = .ok (.iaload, 1) := by decide +kernel
theorem dX9_way_55 : decode cX9_way 55 = .ok (.ireturn, 1) := by decide +kernel
theorem dX9_way_56 : decode cX9_way 56 = .ok (.iconst 0, 1) := by decide +kernel
theorem dX9_way_57 : decode cX9_way 57 = .ok (.istore 10, 2) := by decide +kernel
theorem dX9_way_59 : decode cX9_way 59 = .ok (.iconst 0, 1) := by decide +kernel
theorem dX9_way_60 : decode cX9_way 60 = .ok (.istore 11, 2) := by decide +kernel
theorem dX9_way_62 : decode cX9_way 62 = .ok (.iload 11, 2) := by decide +kernel
theorem dX9_way_64 : decode cX9_way 64 = .ok (.aload_n 0, 1) := by decide +kernel
theorem dX9_way_65 : decode cX9_way 65 = .ok (.getfield 355, 3) := by decide +kernel
theorem dX9_way_68 : decode cX9_way 68 = .ok (.if_icmp .ge 27, 3) := by decide +kernel
theorem dX9_way_71 : decode cX9_way 71 = .ok (.iload 10, 2) := by decide +kernel
theorem dX9_way_73 : decode cX9_way 73 = .ok (.aload_n 0, 1) := by decide +kernel
theorem dX9_way_74 : decode cX9_way 74 = .ok (.iload 4, 2) := by decide +kernel
theorem dX9_way_76 : decode cX9_way 76 = .ok (.aload_n 0, 1) := by decide +kernel
theorem dX9_way_77 : decode cX9_way 77 = .ok (.getfield 72, 3) := by decide +kernel
theorem dX9_way_80 : decode cX9_way 80 = .ok (.iload 11, 2) := by decide +kernel
theorem dX9_way_82 : decode cX9_way 82 = .ok (.iaload, 1) := by decide +kernel
theorem dX9_way_83 : decode cX9_way 83 = .ok (.invokevirtual 325, 3) := by decide +kernel
theorem dX9_way_86 : decode cX9_way 86 = .ok (.iadd, 1) := by decide +kernel
theorem dX9_way_87 : decode cX9_way 87 = .ok (.istore 10, 2) := by decide +kernel
theorem dX9_way_89 : decode cX9_way 89 = .ok (.iinc 11 1, 3) := by decide +kernel
theorem dX9_way_92 : decode cX9_way 92 = .ok (.goto (-30), 3) := by decide +kernel
theorem dX9_way_95 : decode cX9_way 95 = .ok (.iload 9, 2) := by decide +kernel
theorem dX9_way_97 : decode cX9_way 97 = .ok (.ifCond .ne 10, 3) := by decide +kernel
theorem dX9_way_100 : decode cX9_way 100 = .ok (.aload_n 0, 1) := by decide +kernel
theorem dX9_way_101 : decode cX9_way 101 = .ok (.getfield 355, 3) := by decide +kernel
theorem dX9_way_104 : decode cX9_way 104 = .ok (.goto 29, 3) := by decide +kernel
theorem dX9_way_107 : decode cX9_way 107 = .ok (.iload 9, 2) := by decide +kernel
theorem dX9_way_109 : decode cX9_way 109 = .ok (.iconst 1, 1) := by decide +kernel
theorem dX9_way_110 : decode cX9_way 110 = .ok (.if_icmp .ne 10, 3) := by decide +kernel
theorem dX9_way_113 : decode cX9_way 113 = .ok (.aload_n 0, 1) := by decide +kernel
theorem dX9_way_114 : decode cX9_way 114 = .ok (.invokevirtual 384, 3) := by decide +kernel
theorem dX9_way_117 : decode cX9_way 117 = .ok (.goto 16, 3) := by decide +kernel
theorem dX9_way_120 : decode cX9_way 120 = .ok (.iload 9, 2) := by decide +kernel
theorem dX9_way_122 : decode cX9_way 122 = .ok (.iconst 2, 1) := by decide +kernel
theorem dX9_way_123 : decode cX9_way 123 = .ok (.if_icmp .ne 8, 3) := by decide +kernel
theorem dX9_way_126 : decode cX9_way 126 = .ok (.iload 10, 2) := by decide +kernel
theorem dX9_way_128 : decode cX9_way 128 = .ok (.goto 5, 3) := by decide +kernel
theorem dX9_way_131 : decode cX9_way 131 = .ok (.bipush (-2), 2) := by decide +kernel
theorem dX9_way_133 : decode cX9_way 133 = .ok (.ireturn, 1) := by decide +kernel
noncomputable def kb_X9_way_62 (F : Nat) (self : AK) : AK := ak_iload 11 (ak_aload 0 (ak_getf 9 46 (ak_cmplt (ak_iload 10 (ak_aload 0 (ak_iload 4 (ak_aload 0 (ak_getf 9 45 (ak_iload 11 (ak_iald (ak_callv 9 2 (m_X9_pays F) (ak_iadd (ak_istore 10 (ak_iinc 11 1 self))))))))))) (ak_iload 9 (ak_ifeq (ak_aload 0 (ak_getf 9 46 ak_ireturn)) (ak_iload 9 (ak_push (vI 1) (ak_cmpeq (ak_aload 0 (ak_callv 9 0 (m_X9_minutesOfBest F) ak_ireturn)) (ak_iload 9 (ak_push (vI 2) (ak_cmpeq (ak_iload 10 ak_ireturn) (ak_push (vI (-2)) ak_ireturn))))))))))))
noncomputable def k_X9_way_62 (F : Nat) (n : Nat) : AK := Nat.rec (motive := fun _ => AK) ak_none (fun _ self => kb_X9_way_62 F self) n
set_option maxRecDepth 20000 in
theorem sk_X9_way_62 (F : Nat) : ∀ n, Snd X0 RX9 cX9_way 12 7 62 (k_X9_way_62 F n) := by
  intro n
  induction n with
  | zero => exact snd_none
  | succ n ih =>
    show Snd X0 RX9 cX9_way 12 7 62 (kb_X9_way_62 F (k_X9_way_62 F n))
    unfold kb_X9_way_62
    exact snd_iload (pc := 62) (i := 11) dX9_way_62 (snd_aload_n (pc := 64) (i := 0) dX9_way_64 (snd_getf (pc := 65) cls9 (f := 46) (by decide) wd_1349 dX9_way_65 (snd_icmpge (pc := 68) (off := 27) (tgt := 95) (by decide) dX9_way_68 (snd_iload (pc := 95) (i := 9) dX9_way_95 (snd_ifne (pc := 97) (off := 10) (tgt := 107) (by decide) dX9_way_97 (snd_iload (pc := 107) (i := 9) dX9_way_107 (snd_iconst (pc := 109) dX9_way_109 (snd_icmpne (pc := 110) (off := 10) (tgt := 120) (by decide) dX9_way_110 (snd_iload (pc := 120) (i := 9) dX9_way_120 (snd_iconst (pc := 122) dX9_way_122 (snd_icmpne (pc := 123) (off := 8) (tgt := 131) (by decide) dX9_way_123 (snd_bipush (pc := 131) (by decide) dX9_way_131 (snd_ireturn dX9_way_133)) (snd_iload (pc := 126) (i := 10) dX9_way_126 (snd_goto (pc := 128) (off := 5) (tgt := 133) (by decide) dX9_way_128 (snd_ireturn dX9_way_133)))))) (snd_aload_n (pc := 113) (i := 0) dX9_way_113 (snd_callV (pc := 114) (n := 0) cls9 (s_X9_minutesOfBest F) (by decide) (by decide) wd_1748 wd_1745 wd_1747 wd_94 wd_129 hy_X9_minutesOfBest dX9_way_114 (snd_goto (pc := 117) (off := 16) (tgt := 133) (by decide) dX9_way_117 (snd_ireturn dX9_way_133))))))) (snd_aload_n (pc := 100) (i := 0) dX9_way_100 (snd_getf (pc := 101) cls9 (f := 46) (by decide) wd_1349 dX9_way_101 (snd_goto (pc := 104) (off := 29) (tgt := 133) (by decide) dX9_way_104 (snd_ireturn dX9_way_133)))))) (snd_iload (pc := 71) (i := 10) dX9_way_71 (snd_aload_n (pc := 73) (i := 0) dX9_way_73 (snd_iload (pc := 74) (i := 4) dX9_way_74 (snd_aload_n (pc := 76) (i := 0) dX9_way_76 (snd_getf (pc := 77) cls9 (f := 45) (by decide) wd_1348 dX9_way_77 (snd_iload (pc := 80) (i := 11) dX9_way_80 (snd_iald (pc := 82) dX9_way_82 (snd_callV (pc := 83) (n := 2) cls9 (s_X9_pays F) (by decide) (by decide) wd_1677 wd_1674 wd_1676 wd_82 wd_129 hy_X9_pays dX9_way_83 (snd_iadd (pc := 86) dX9_way_86 (snd_istore (pc := 87) (i := 10) (by decide) dX9_way_87 (snd_iinc (pc := 89) (i := 11) (n := 1) (by decide) dX9_way_89 (snd_goto (pc := 92) (off := (-30)) (tgt := 62) (by decide) dX9_way_92 (ih))))))))))))))))
noncomputable def k_X9_way (F : Nat) : AK := ak_aload 0 (ak_push (vI 0) (ak_putf 9 0 (ak_aload 0 (ak_iload 1 (ak_iload 2 (ak_iload 3 (ak_iload 4 (ak_iload 5 (ak_iload 6 (ak_iload 7 (ak_iload 8 (ak_callv 9 8 (m_X9_layWay F) (ak_ifeq (ak_push (vI (-2)) ak_ireturn) (ak_iload 9 (ak_push (vI 10) (ak_push (vI 9) (ak_aload 0 (ak_getf 9 46 (ak_iadd (ak_call 3 (m_X9_in F) (ak_ifeq (ak_push (vI 0) (ak_istore 10 (ak_push (vI 0) (ak_istore 11 ((k_X9_way_62 F F)))))) (ak_aload 0 (ak_getf 9 45 (ak_iload 9 (ak_push (vI 10) (ak_isub (ak_iald ak_ireturn)))))))))))))))))))))))))))
noncomputable def m_X9_way (F : Nat) : AF := mkF 1 12 (k_X9_way F)
set_option maxRecDepth 20000 in
theorem s_X9_way (F : Nat) : MA yX9_way cX9_way 12 (some .int) 7 (m_X9_way F) := met_of (Or.inr (Or.inl ⟨rfl, rfl⟩)) (by decide) (by
  unfold k_X9_way
  exact snd_aload_n (pc := 0) (i := 0) dX9_way_0 (snd_iconst (pc := 1) dX9_way_1 (snd_putf (pc := 2) cls9 (f := 0) (by decide) rfl rfl rfl wd_1303 dX9_way_2 (snd_aload_n (pc := 5) (i := 0) dX9_way_5 (snd_iload_n (pc := 6) (i := 1) dX9_way_6 (snd_iload_n (pc := 7) (i := 2) dX9_way_7 (snd_iload_n (pc := 8) (i := 3) dX9_way_8 (snd_iload (pc := 9) (i := 4) dX9_way_9 (snd_iload (pc := 11) (i := 5) dX9_way_11 (snd_iload (pc := 13) (i := 6) dX9_way_13 (snd_iload (pc := 15) (i := 7) dX9_way_15 (snd_iload (pc := 17) (i := 8) dX9_way_17 (snd_callV (pc := 19) (n := 8) cls9 (s_X9_layWay F) (by decide) (by decide) wd_1724 wd_1721 wd_1723 wd_88 wd_129 hy_X9_layWay dX9_way_19 (snd_ifne (pc := 22) (off := 6) (tgt := 28) (by decide) dX9_way_22 (snd_iload (pc := 28) (i := 9) dX9_way_28 (snd_bipush (pc := 30) (by decide) dX9_way_30 (snd_bipush (pc := 32) (by decide) dX9_way_32 (snd_aload_n (pc := 34) (i := 0) dX9_way_34 (snd_getf (pc := 35) cls9 (f := 46) (by decide) wd_1349 dX9_way_35 (snd_iadd (pc := 38) dX9_way_38 (snd_callS (pc := 39) (n := 3) (s_X9_in F) (by decide) (by decide) wd_1511 wd_1509 wd_1510 wd_129 hy_X9_in dX9_way_39 (snd_ifeq (pc := 42) (off := 14) (tgt := 56) (by decide) dX9_way_42 (snd_iconst (pc := 56) dX9_way_56 (snd_istore (pc := 57) (i := 10) (by decide) dX9_way_57 (snd_iconst (pc := 59) dX9_way_59 (snd_istore (pc := 60) (i := 11) (by decide) dX9_way_60 ((sk_X9_way_62 F F)))))) (snd_aload_n (pc := 45) (i := 0) dX9_way_45 (snd_getf (pc := 46) cls9 (f := 45) (by decide) wd_1348 dX9_way_46 (snd_iload (pc := 49) (i := 9) dX9_way_49 (snd_bipush (pc := 51) (by decide) dX9_way_51 (snd_isub (pc := 53) dX9_way_53 (snd_iald (pc := 54) dX9_way_54 (snd_ireturn dX9_way_55))))))))))))))) (snd_bipush (pc := 25) (by decide) dX9_way_25 (snd_ireturn dX9_way_27))))))))))))))))

/-! LastWalkerModel.walk(II)V -/
theorem dX9_walk_0 : decode cX9_walk 0 = .ok (.iload_n 2, 1) := by decide +kernel
theorem dX9_walk_1 : decode cX9_walk 1 = .ok (.istore_n 3, 1) := by decide +kernel
theorem dX9_walk_2 : decode cX9_walk 2 = .ok (.iconst 0, 1) := by decide +kernel
theorem dX9_walk_3 : decode cX9_walk 3 = .ok (.istore 4, 2) := by decide +kernel
theorem dX9_walk_5 : decode cX9_walk 5 = .ok (.iload 4, 2) := by decide +kernel
theorem dX9_walk_7 : decode cX9_walk 7 = .ok (.aload_n 0, 1) := by decide +kernel
theorem dX9_walk_8 : decode cX9_walk 8 = .ok (.getfield 355, 3) := by decide +kernel
theorem dX9_walk_11 : decode cX9_walk 11 = .ok (.if_icmp .ge 122, 3) := by decide +kernel
theorem dX9_walk_14 : decode cX9_walk 14 = .ok (.aload_n 0, 1) := by decide +kernel
theorem dX9_walk_15 : decode cX9_walk 15 = .ok (.getfield 72, 3) := by decide +kernel
theorem dX9_walk_18 : decode cX9_walk 18 = .ok (.iload 4, 2) := by decide +kernel
theorem dX9_walk_20 : decode cX9_walk 20 = .ok (.iaload, 1) := by decide +kernel
theorem dX9_walk_21 : decode cX9_walk 21 = .ok (.istore 5, 2) := by decide +kernel
theorem dX9_walk_23 : decode cX9_walk 23 = .ok (.aload_n 0, 1) := by decide +kernel
theorem dX9_walk_24 : decode cX9_walk 24 = .ok (.iload_n 1, 1) := by decide +kernel
theorem dX9_walk_25 : decode cX9_walk 25 = .ok (.iload 5, 2) := by decide +kernel
theorem dX9_walk_27 : decode cX9_walk 27 = .ok (.invokevirtual 325, 3) := by decide +kernel
theorem dX9_walk_30 : decode cX9_walk 30 = .ok (.istore 6, 2) := by decide +kernel
theorem dX9_walk_32 : decode cX9_walk 32 = .ok (.aload_n 0, 1) := by decide +kernel
theorem dX9_walk_33 : decode cX9_walk 33 = .ok (.getfield 93, 3) := by decide +kernel
theorem dX9_walk_36 : decode cX9_walk 36 = .ok (.iload_n 1, 1) := by decide +kernel
theorem dX9_walk_37 : decode cX9_walk 37 = .ok (.dup2, 1) := by decide +kernel
theorem dX9_walk_38 : decode cX9_walk 38 = .ok (.iaload, 1) := by decide +kernel
theorem dX9_walk_39 : decode cX9_walk 39 = .ok (.iload 6, 2) := by decide +kernel
theorem dX9_walk_41 : decode cX9_walk 41 = .ok (.iadd, 1) := by decide +kernel
theorem dX9_walk_42 : decode cX9_walk 42 = .ok (.iastore, 1) := by decide +kernel
theorem dX9_walk_43 : decode cX9_walk 43 = .ok (.iload 6, 2) := by decide +kernel
theorem dX9_walk_45 : decode cX9_walk 45 = .ok (.ifCond .le 20, 3) := by decide +kernel
theorem dX9_walk_48 : decode cX9_walk 48 = .ok (.aload_n 0, 1) := by decide +kernel
theorem dX9_walk_49 : decode cX9_walk 49 = .ok (.getfield 96, 3) := by decide +kernel
theorem dX9_walk_52 : decode cX9_walk 52 = .ok (.aload_n 0, 1) := by decide +kernel
theorem dX9_walk_53 : decode cX9_walk 53 = .ok (.getfield 38, 3) := by decide +kernel
theorem dX9_walk_56 : decode cX9_walk 56 = .ok (.iload 5, 2) := by decide +kernel
theorem dX9_walk_58 : decode cX9_walk 58 = .ok (.iaload, 1) := by decide +kernel
theorem dX9_walk_59 : decode cX9_walk 59 = .ok (.dup2, 1) := by decide +kernel
theorem dX9_walk_60 : decode cX9_walk 60 = .ok (.iaload, 1) := by decide +kernel
theorem dX9_walk_61 : decode cX9_walk 61 = .ok (.iload 6, 2) := by decide +kernel
theorem dX9_walk_63 : decode cX9_walk 63 = .ok (.iadd, 1) := by decide +kernel
theorem dX9_walk_64 : decode cX9_walk 64 = .ok (.iastore, 1) := by decide +kernel
theorem dX9_walk_65 : decode cX9_walk 65 = .ok (.aload_n 0, 1) := by decide +kernel
theorem dX9_walk_66 : decode cX9_walk 66 = .ok (.getfield 102, 3) := by decide +kernel
theorem dX9_walk_69 : decode cX9_walk 69 = .ok (.iload 5, 2) := by decide +kernel
theorem dX9_walk_71 : decode cX9_walk 71 = .ok (.dup2, 1) := by decide +kernel
theorem dX9_walk_72 : decode cX9_walk 72 = .ok (.iaload, 1) := by decide +kernel
theorem dX9_walk_73 : decode cX9_walk 73 = .ok (.iconst 1, 1) := by decide +kernel
theorem dX9_walk_74 : decode cX9_walk 74 = .ok (.iadd, 1) := by decide +kernel
theorem dX9_walk_75 : decode cX9_walk 75 = .ok (.iastore, 1) := by decide +kernel
theorem dX9_walk_76 : decode cX9_walk 76 = .ok (.aload_n 0, 1) := by decide +kernel
theorem dX9_walk_77 : decode cX9_walk 77 = .ok (.getfield 105, 3) := by decide +kernel
theorem dX9_walk_80 : decode cX9_walk 80 = .ok (.iload 5, 2) := by decide +kernel
theorem dX9_walk_82 : decode cX9_walk 82 = .ok (.dup2, 1) := by decide +kernel
theorem dX9_walk_83 : decode cX9_walk 83 = .ok (.iaload, 1) := by decide +kernel
theorem dX9_walk_84 : decode cX9_walk 84 = .ok (.iload 6, 2) := by decide +kernel
theorem dX9_walk_86 : decode cX9_walk 86 = .ok (.iadd, 1) := by decide +kernel
theorem dX9_walk_87 : decode cX9_walk 87 = .ok (.iastore, 1) := by decide +kernel
theorem dX9_walk_88 : decode cX9_walk 88 = .ok (.aload_n 0, 1) := by decide +kernel
theorem dX9_walk_89 : decode cX9_walk 89 = .ok (.getfield 38, 3) := by decide +kernel
theorem dX9_walk_92 : decode cX9_walk 92 = .ok (.iload 5, 2) := by decide +kernel
theorem dX9_walk_94 : decode cX9_walk 94 = .ok (.aload_n 0, 1) := by decide +kernel
theorem dX9_walk_95 : decode cX9_walk 95 = .ok (.iload_n 1, 1) := by decide +kernel
theorem dX9_walk_96 : decode cX9_walk 96 = .ok (.iload 5, 2) := by decide +kernel
theorem dX9_walk_98 : decode cX9_walk 98 = .ok (.iload_n 3, 1) := by decide +kernel
theorem dX9_walk_99 : decode cX9_walk 99 = .ok (.invokevirtual 328, 3) := by decide +kernel
theorem dX9_walk_102 : decode cX9_walk 102 = .ok (.ifCond .eq 7, 3) := by decide +kernel
theorem dX9_walk_105 : decode cX9_walk 105 = .ok (.iload_n 1, 1) := by decide +kernel
theorem dX9_walk_106 : decode cX9_walk 106 = .ok (.goto 10, 3) := by decide +kernel
theorem dX9_walk_109 : decode cX9_walk 109 = .ok (.aload_n 0, 1) := by decide +kernel
theorem dX9_walk_110 : decode cX9_walk 110 = .ok (.getfield 38, 3) := by decide +kernel
theorem dX9_walk_113 : decode cX9_walk 113 = .ok (.iload 5, 2) := by decide +kernel
theorem dX9_walk_115 : decode cX9_walk 115 = .ok (.iaload, 1) := by decide +kernel
theorem dX9_walk_116 : decode cX9_walk 116 = .ok (.iastore, 1) := by decide +kernel
theorem dX9_walk_117 : decode cX9_walk 117 = .ok (.iload_n 3, 1) := by decide +kernel
theorem dX9_walk_118 : decode cX9_walk 118 = .ok (.aload_n 0, 1) := by decide +kernel
theorem dX9_walk_119 : decode cX9_walk 119 = .ok (.iload 5, 2) := by decide +kernel
theorem dX9_walk_121 : decode cX9_walk 121 = .ok (.iconst 2, 1) := by decide +kernel
theorem dX9_walk_122 : decode cX9_walk 122 = .ok (.invokevirtual 294, 3) := by decide +kernel
theorem dX9_walk_125 : decode cX9_walk 125 = .ok (.iadd, 1) := by decide +kernel
theorem dX9_walk_126 : decode cX9_walk 126 = .ok (.istore_n 3, 1) := by decide +kernel
theorem dX9_walk_127 : decode cX9_walk 127 = .ok (.iinc 4 1, 3) := by decide +kernel
theorem dX9_walk_130 : decode cX9_walk 130 = .ok (.goto (-125), 3) := by decide +kernel
theorem dX9_walk_133 : decode cX9_walk 133 = .ok (.aload_n 0, 1) := by decide +kernel
theorem dX9_walk_134 : decode cX9_walk 134 = .ok (.getfield 90, 3) := by decide +kernel
theorem dX9_walk_137 : decode cX9_walk 137 = .ok (.iload_n 1, 1) := by decide +kernel
theorem dX9_walk_138 : decode cX9_walk 138 = .ok (.dup2, 1) := by decide +kernel
theorem dX9_walk_139 : decode cX9_walk 139 = .ok (.iaload, 1) := by decide +kernel
theorem dX9_walk_140 : decode cX9_walk 140 = .ok (.iload_n 3, 1) := by decide +kernel
theorem dX9_walk_141 : decode cX9_walk 141 = .ok (.iload_n 2, 1) := by decide +kernel
theorem dX9_walk_142 : decode cX9_walk 142 = .ok (.isub, 1) := by decide +kernel
theorem dX9_walk_143 : decode cX9_walk 143 = .ok (.iadd, 1) := by decide +kernel
theorem dX9_walk_144 : decode cX9_walk 144 = .ok (.iastore, 1) := by decide +kernel
theorem dX9_walk_145 : decode cX9_walk 145 = .ok (.return_, 1) := by decide +kernel
noncomputable def k_X9_walk_116 (F : Nat) (h5 : AK) : AK := ak_iast (ak_iload 3 (ak_aload 0 (ak_iload 5 (ak_push (vI 2) (ak_callv 9 2 (m_X9_roadOf F) (ak_iadd (ak_istore 3 (ak_iinc 4 1 h5))))))))
set_option maxRecDepth 20000 in
theorem sk_X9_walk_116 (F : Nat) {h5 : AK} (hh5 : Snd X0 RX9 cX9_walk 7 3 5 h5) : Snd X0 RX9 cX9_walk 7 3 116 (k_X9_walk_116 F h5) := by
  unfold k_X9_walk_116
  exact snd_iast (pc := 116) dX9_walk_116 (snd_iload_n (pc := 117) (i := 3) dX9_walk_117 (snd_aload_n (pc := 118) (i := 0) dX9_walk_118 (snd_iload (pc := 119) (i := 5) dX9_walk_119 (snd_iconst (pc := 121) dX9_walk_121 (snd_callV (pc := 122) (n := 2) cls9 (s_X9_roadOf F) (by decide) (by decide) wd_1657 wd_1654 wd_1656 wd_77 wd_129 hy_X9_roadOf dX9_walk_122 (snd_iadd (pc := 125) dX9_walk_125 (snd_istore_n (pc := 126) (i := 3) (by decide) dX9_walk_126 (snd_iinc (pc := 127) (i := 4) (n := 1) (by decide) dX9_walk_127 (snd_goto (pc := 130) (off := (-125)) (tgt := 5) (by decide) dX9_walk_130 (hh5))))))))))
noncomputable def k_X9_walk_65 (F : Nat) (h5 : AK) : AK := ak_aload 0 (ak_getf 9 58 (ak_iload 5 (ak_dup2 (ak_iald (ak_push (vI 1) (ak_iadd (ak_iast (ak_aload 0 (ak_getf 9 59 (ak_iload 5 (ak_dup2 (ak_iald (ak_iload 6 (ak_iadd (ak_iast (ak_aload 0 (ak_getf 9 31 (ak_iload 5 (ak_aload 0 (ak_iload 1 (ak_iload 5 (ak_iload 3 (ak_callv 9 3 (m_X9_comes F) (ak_ifeq (ak_aload 0 (ak_getf 9 31 (ak_iload 5 (ak_iald ((k_X9_walk_116 F h5)))))) (ak_iload 1 ((k_X9_walk_116 F h5)))))))))))))))))))))))))))
set_option maxRecDepth 20000 in
theorem sk_X9_walk_65 (F : Nat) {h5 : AK} (hh5 : Snd X0 RX9 cX9_walk 7 3 5 h5) : Snd X0 RX9 cX9_walk 7 3 65 (k_X9_walk_65 F h5) := by
  unfold k_X9_walk_65
  exact snd_aload_n (pc := 65) (i := 0) dX9_walk_65 (snd_getf (pc := 66) cls9 (f := 58) (by decide) wd_1361 dX9_walk_66 (snd_iload (pc := 69) (i := 5) dX9_walk_69 (snd_dup2 (pc := 71) dX9_walk_71 (snd_iald (pc := 72) dX9_walk_72 (snd_iconst (pc := 73) dX9_walk_73 (snd_iadd (pc := 74) dX9_walk_74 (snd_iast (pc := 75) dX9_walk_75 (snd_aload_n (pc := 76) (i := 0) dX9_walk_76 (snd_getf (pc := 77) cls9 (f := 59) (by decide) wd_1362 dX9_walk_77 (snd_iload (pc := 80) (i := 5) dX9_walk_80 (snd_dup2 (pc := 82) dX9_walk_82 (snd_iald (pc := 83) dX9_walk_83 (snd_iload (pc := 84) (i := 6) dX9_walk_84 (snd_iadd (pc := 86) dX9_walk_86 (snd_iast (pc := 87) dX9_walk_87 (snd_aload_n (pc := 88) (i := 0) dX9_walk_88 (snd_getf (pc := 89) cls9 (f := 31) (by decide) wd_1334 dX9_walk_89 (snd_iload (pc := 92) (i := 5) dX9_walk_92 (snd_aload_n (pc := 94) (i := 0) dX9_walk_94 (snd_iload_n (pc := 95) (i := 1) dX9_walk_95 (snd_iload (pc := 96) (i := 5) dX9_walk_96 (snd_iload_n (pc := 98) (i := 3) dX9_walk_98 (snd_callV (pc := 99) (n := 3) cls9 (s_X9_comes F) (by decide) (by decide) wd_1685 wd_1682 wd_1684 wd_84 wd_129 hy_X9_comes dX9_walk_99 (snd_ifeq (pc := 102) (off := 7) (tgt := 109) (by decide) dX9_walk_102 (snd_aload_n (pc := 109) (i := 0) dX9_walk_109 (snd_getf (pc := 110) cls9 (f := 31) (by decide) wd_1334 dX9_walk_110 (snd_iload (pc := 113) (i := 5) dX9_walk_113 (snd_iald (pc := 115) dX9_walk_115 ((sk_X9_walk_116 F hh5)))))) (snd_iload_n (pc := 105) (i := 1) dX9_walk_105 (snd_goto (pc := 106) (off := 10) (tgt := 116) (by decide) dX9_walk_106 ((sk_X9_walk_116 F hh5))))))))))))))))))))))))))))
noncomputable def kb_X9_walk_5 (F : Nat) (self : AK) : AK := ak_iload 4 (ak_aload 0 (ak_getf 9 46 (ak_cmplt (ak_aload 0 (ak_getf 9 45 (ak_iload 4 (ak_iald (ak_istore 5 (ak_aload 0 (ak_iload 1 (ak_iload 5 (ak_callv 9 2 (m_X9_pays F) (ak_istore 6 (ak_aload 0 (ak_getf 9 55 (ak_iload 1 (ak_dup2 (ak_iald (ak_iload 6 (ak_iadd (ak_iast (ak_iload 6 (ak_ifgt (ak_aload 0 (ak_getf 9 56 (ak_aload 0 (ak_getf 9 31 (ak_iload 5 (ak_iald (ak_dup2 (ak_iald (ak_iload 6 (ak_iadd (ak_iast ((k_X9_walk_65 F self))))))))))))) ((k_X9_walk_65 F self)))))))))))))))))))))) (ak_aload 0 (ak_getf 9 54 (ak_iload 1 (ak_dup2 (ak_iald (ak_iload 3 (ak_iload 2 (ak_isub (ak_iadd (ak_iast ak_return)))))))))))))
noncomputable def k_X9_walk_5 (F : Nat) (n : Nat) : AK := Nat.rec (motive := fun _ => AK) ak_none (fun _ self => kb_X9_walk_5 F self) n
set_option maxRecDepth 20000 in
theorem sk_X9_walk_5 (F : Nat) : ∀ n, Snd X0 RX9 cX9_walk 7 3 5 (k_X9_walk_5 F n) := by
  intro n
  induction n with
  | zero => exact snd_none
  | succ n ih =>
    show Snd X0 RX9 cX9_walk 7 3 5 (kb_X9_walk_5 F (k_X9_walk_5 F n))
    unfold kb_X9_walk_5
    exact snd_iload (pc := 5) (i := 4) dX9_walk_5 (snd_aload_n (pc := 7) (i := 0) dX9_walk_7 (snd_getf (pc := 8) cls9 (f := 46) (by decide) wd_1349 dX9_walk_8 (snd_icmpge (pc := 11) (off := 122) (tgt := 133) (by decide) dX9_walk_11 (snd_aload_n (pc := 133) (i := 0) dX9_walk_133 (snd_getf (pc := 134) cls9 (f := 54) (by decide) wd_1357 dX9_walk_134 (snd_iload_n (pc := 137) (i := 1) dX9_walk_137 (snd_dup2 (pc := 138) dX9_walk_138 (snd_iald (pc := 139) dX9_walk_139 (snd_iload_n (pc := 140) (i := 3) dX9_walk_140 (snd_iload_n (pc := 141) (i := 2) dX9_walk_141 (snd_isub (pc := 142) dX9_walk_142 (snd_iadd (pc := 143) dX9_walk_143 (snd_iast (pc := 144) dX9_walk_144 (snd_return dX9_walk_145))))))))))) (snd_aload_n (pc := 14) (i := 0) dX9_walk_14 (snd_getf (pc := 15) cls9 (f := 45) (by decide) wd_1348 dX9_walk_15 (snd_iload (pc := 18) (i := 4) dX9_walk_18 (snd_iald (pc := 20) dX9_walk_20 (snd_istore (pc := 21) (i := 5) (by decide) dX9_walk_21 (snd_aload_n (pc := 23) (i := 0) dX9_walk_23 (snd_iload_n (pc := 24) (i := 1) dX9_walk_24 (snd_iload (pc := 25) (i := 5) dX9_walk_25 (snd_callV (pc := 27) (n := 2) cls9 (s_X9_pays F) (by decide) (by decide) wd_1677 wd_1674 wd_1676 wd_82 wd_129 hy_X9_pays dX9_walk_27 (snd_istore (pc := 30) (i := 6) (by decide) dX9_walk_30 (snd_aload_n (pc := 32) (i := 0) dX9_walk_32 (snd_getf (pc := 33) cls9 (f := 55) (by decide) wd_1358 dX9_walk_33 (snd_iload_n (pc := 36) (i := 1) dX9_walk_36 (snd_dup2 (pc := 37) dX9_walk_37 (snd_iald (pc := 38) dX9_walk_38 (snd_iload (pc := 39) (i := 6) dX9_walk_39 (snd_iadd (pc := 41) dX9_walk_41 (snd_iast (pc := 42) dX9_walk_42 (snd_iload (pc := 43) (i := 6) dX9_walk_43 (snd_ifle (pc := 45) (off := 20) (tgt := 65) (by decide) dX9_walk_45 ((sk_X9_walk_65 F ih)) (snd_aload_n (pc := 48) (i := 0) dX9_walk_48 (snd_getf (pc := 49) cls9 (f := 56) (by decide) wd_1359 dX9_walk_49 (snd_aload_n (pc := 52) (i := 0) dX9_walk_52 (snd_getf (pc := 53) cls9 (f := 31) (by decide) wd_1334 dX9_walk_53 (snd_iload (pc := 56) (i := 5) dX9_walk_56 (snd_iald (pc := 58) dX9_walk_58 (snd_dup2 (pc := 59) dX9_walk_59 (snd_iald (pc := 60) dX9_walk_60 (snd_iload (pc := 61) (i := 6) dX9_walk_61 (snd_iadd (pc := 63) dX9_walk_63 (snd_iast (pc := 64) dX9_walk_64 ((sk_X9_walk_65 F ih))))))))))))))))))))))))))))))))))))
noncomputable def k_X9_walk (F : Nat) : AK := ak_iload 2 (ak_istore 3 (ak_push (vI 0) (ak_istore 4 ((k_X9_walk_5 F F)))))
noncomputable def m_X9_walk (F : Nat) : AF := mkF 0 7 (k_X9_walk F)
set_option maxRecDepth 20000 in
theorem s_X9_walk (F : Nat) : MA yX9_walk cX9_walk 7 none 3 (m_X9_walk F) := met_of (Or.inl ⟨rfl, rfl⟩) (by decide) (by
  unfold k_X9_walk
  exact snd_iload_n (pc := 0) (i := 2) dX9_walk_0 (snd_istore_n (pc := 1) (i := 3) (by decide) dX9_walk_1 (snd_iconst (pc := 2) dX9_walk_2 (snd_istore (pc := 3) (i := 4) (by decide) dX9_walk_3 ((sk_X9_walk_5 F F))))))

/-! LastWalkerModel.cost(IIIIIIIIZ)J -/
theorem dX9_cost_0 : decode cX9_cost 0 = .ok (.aload_n 0, 1) := by decide +kernel
theorem dX9_cost_1 : decode cX9_cost 1 = .ok (.iconst 0, 1) := by decide +kernel
theorem dX9_cost_2 : decode cX9_cost 2 = .ok (.putfield 112, 3) := by decide +kernel
theorem dX9_cost_5 : decode cX9_cost 5 = .ok (.aload_n 0, 1) := by decide +kernel
theorem dX9_cost_6 : decode cX9_cost 6 = .ok (.iload_n 1, 1) := by decide +kernel
theorem dX9_cost_7 : decode cX9_cost 7 = .ok (.iload_n 2, 1) := by decide +kernel
theorem dX9_cost_8 : decode cX9_cost 8 = .ok (.iload_n 3, 1) := by decide +kernel
theorem dX9_cost_9 : decode cX9_cost 9 = .ok (.iload 4, 2) := by decide +kernel
theorem dX9_cost_11 : decode cX9_cost 11 = .ok (.iload 5, 2) := by decide +kernel
theorem dX9_cost_13 : decode cX9_cost 13 = .ok (.iload 6, 2) := by decide +kernel
theorem dX9_cost_15 : decode cX9_cost 15 = .ok (.iload 7, 2) := by decide +kernel
theorem dX9_cost_17 : decode cX9_cost 17 = .ok (.iload 8, 2) := by decide +kernel
theorem dX9_cost_19 : decode cX9_cost 19 = .ok (.invokevirtual 380, 3) := by decide +kernel
theorem dX9_cost_22 : decode cX9_cost 22 = .ok (.ifCond .ne 7, 3) := by decide +kernel
theorem dX9_cost_25 : decode cX9_cost 25 = .ok (.ldc2_w 387, 3) := by decide +kernel
theorem dX9_cost_28 : decode cX9_cost 28 = .ok (.lreturn, 1) := by decide +kernel
theorem dX9_cost_29 : decode cX9_cost 29 = .ok (.aload_n 0, 1) := by decide +kernel
theorem dX9_cost_30 : decode cX9_cost 30 = .ok (.getfield 358, 3) := by decide +kernel
theorem dX9_cost_33 : decode cX9_cost 33 = .ok (.lstore 10, 2) := by decide +kernel
theorem dX9_cost_35 : decode cX9_cost 35 = .ok (.iload 9, 2) := by decide +kernel
theorem dX9_cost_37 : decode cX9_cost 37 = .ok (.ifCond .ne 6, 3) := by decide +kernel
theorem dX9_cost_40 : decode cX9_cost 40 = .ok (.lload 10, 2) := by decide +kernel
theorem dX9_cost_42 : decode cX9_cost 42 = .ok (.lreturn, 1) := by decide +kernel
theorem dX9_cost_43 : decode cX9_cost 43 = .ok (.iload 6, 2) := by decide +kernel
theorem dX9_cost_45 : decode cX9_cost 45 = .ok (.aload_n 0, 1) := by decide +kernel
theorem dX9_cost_46 : decode cX9_cost 46 = .ok (.invokevirtual 384, 3) := by decide +kernel
theorem dX9_cost_49 : decode cX9_cost 49 = .ok (.iadd, 1) := by decide +kernel
theorem dX9_cost_50 : decode cX9_cost 50 = .ok (.istore 12, 2) := by decide +kernel
theorem dX9_cost_52 : decode cX9_cost 52 = .ok (.aload_n 0, 1) := by decide +kernel
theorem dX9_cost_53 : decode cX9_cost 53 = .ok (.iload 4, 2) := by decide +kernel
theorem dX9_cost_55 : decode cX9_cost 55 = .ok (.iload 6, 2) := by decide +kernel
theorem dX9_cost_57 : decode cX9_cost 57 = .ok (.invokevirtual 389, 3) := by decide +kernel
theorem dX9_cost_60 : decode cX9_cost 60 = .ok (.aload_n 0, 1) := by decide +kernel
theorem dX9_cost_61 : decode cX9_cost 61 = .ok (.iload 4, 2) := by decide +kernel
theorem dX9_cost_63 : decode cX9_cost 63 = .ok (.iload 5, 2) := by decide +kernel
theorem dX9_cost_65 : decode cX9_cost 65 = .ok (.iload 12, 2) := by decide +kernel
theorem dX9_cost_67 : decode cX9_cost 67 = .ok (.iload 8, 2) := by decide +kernel
theorem dX9_cost_69 : decode cX9_cost 69 = .ok (.iload 7, 2) := by decide +kernel
theorem dX9_cost_71 : decode cX9_cost 71 = .ok (.invokevirtual 376, 3) := by decide +kernel
theorem dX9_cost_74 : decode cX9_cost 74 = .ok (.pop, 1) := by decide +kernel
theorem dX9_cost_75 : decode cX9_cost 75 = .ok (.lload 10, 2) := by decide +kernel
theorem dX9_cost_77 : decode cX9_cost 77 = .ok (.aload_n 0, 1) := by decide +kernel
theorem dX9_cost_78 : decode cX9_cost 78 = .ok (.getfield 358, 3) := by decide +kernel
theorem dX9_cost_81 : decode cX9_cost 81 = .ok (.ladd, 1) := by decide +kernel
theorem dX9_cost_82 : decode cX9_cost 82 = .ok (.lreturn, 1) := by decide +kernel
noncomputable def k_X9_cost (F : Nat) : AK := ak_aload 0 (ak_push (vI 0) (ak_putf 9 0 (ak_aload 0 (ak_iload 1 (ak_iload 2 (ak_iload 3 (ak_iload 4 (ak_iload 5 (ak_iload 6 (ak_iload 7 (ak_iload 8 (ak_callv 9 8 (m_X9_layWay F) (ak_ifeq (ak_push (vL (-9223372036854775808)) ak_lreturn) (ak_aload 0 (ak_getf 9 47 (ak_lstore 10 (ak_iload 9 (ak_ifeq (ak_lload 10 ak_lreturn) (ak_iload 6 (ak_aload 0 (ak_callv 9 0 (m_X9_minutesOfBest F) (ak_iadd (ak_istore 12 (ak_aload 0 (ak_iload 4 (ak_iload 6 (ak_callv 9 2 (m_X9_walk F) (ak_aload 0 (ak_iload 4 (ak_iload 5 (ak_iload 12 (ak_iload 8 (ak_iload 7 (ak_callv 9 5 (m_X9_finds F) (ak_pop (ak_lload 10 (ak_aload 0 (ak_getf 9 47 (ak_ladd ak_lreturn)))))))))))))))))))))))))))))))))))))))
noncomputable def m_X9_cost (F : Nat) : AF := mkF 4 13 (k_X9_cost F)
set_option maxRecDepth 20000 in
theorem s_X9_cost (F : Nat) : MA yX9_cost cX9_cost 13 (some .long) 7 (m_X9_cost F) := met_of (Or.inr (Or.inr (Or.inr (Or.inr (Or.inl ⟨rfl, rfl⟩))))) (by decide) (by
  unfold k_X9_cost
  exact snd_aload_n (pc := 0) (i := 0) dX9_cost_0 (snd_iconst (pc := 1) dX9_cost_1 (snd_putf (pc := 2) cls9 (f := 0) (by decide) rfl rfl rfl wd_1303 dX9_cost_2 (snd_aload_n (pc := 5) (i := 0) dX9_cost_5 (snd_iload_n (pc := 6) (i := 1) dX9_cost_6 (snd_iload_n (pc := 7) (i := 2) dX9_cost_7 (snd_iload_n (pc := 8) (i := 3) dX9_cost_8 (snd_iload (pc := 9) (i := 4) dX9_cost_9 (snd_iload (pc := 11) (i := 5) dX9_cost_11 (snd_iload (pc := 13) (i := 6) dX9_cost_13 (snd_iload (pc := 15) (i := 7) dX9_cost_15 (snd_iload (pc := 17) (i := 8) dX9_cost_17 (snd_callV (pc := 19) (n := 8) cls9 (s_X9_layWay F) (by decide) (by decide) wd_1724 wd_1721 wd_1723 wd_88 wd_129 hy_X9_layWay dX9_cost_19 (snd_ifne (pc := 22) (off := 7) (tgt := 29) (by decide) dX9_cost_22 (snd_aload_n (pc := 29) (i := 0) dX9_cost_29 (snd_getf (pc := 30) cls9 (f := 47) (by decide) wd_1350 dX9_cost_30 (snd_lstore (pc := 33) (i := 10) (by decide) dX9_cost_33 (snd_iload (pc := 35) (i := 9) dX9_cost_35 (snd_ifne (pc := 37) (off := 6) (tgt := 43) (by decide) dX9_cost_37 (snd_iload (pc := 43) (i := 6) dX9_cost_43 (snd_aload_n (pc := 45) (i := 0) dX9_cost_45 (snd_callV (pc := 46) (n := 0) cls9 (s_X9_minutesOfBest F) (by decide) (by decide) wd_1748 wd_1745 wd_1747 wd_94 wd_129 hy_X9_minutesOfBest dX9_cost_46 (snd_iadd (pc := 49) dX9_cost_49 (snd_istore (pc := 50) (i := 12) (by decide) dX9_cost_50 (snd_aload_n (pc := 52) (i := 0) dX9_cost_52 (snd_iload (pc := 53) (i := 4) dX9_cost_53 (snd_iload (pc := 55) (i := 6) dX9_cost_55 (snd_callV (pc := 57) (n := 2) cls9 (s_X9_walk F) (by decide) (by decide) wd_1757 wd_1754 wd_1756 wd_95 wd_129 hy_X9_walk dX9_cost_57 (snd_aload_n (pc := 60) (i := 0) dX9_cost_60 (snd_iload (pc := 61) (i := 4) dX9_cost_61 (snd_iload (pc := 63) (i := 5) dX9_cost_63 (snd_iload (pc := 65) (i := 12) dX9_cost_65 (snd_iload (pc := 67) (i := 8) dX9_cost_67 (snd_iload (pc := 69) (i := 7) dX9_cost_69 (snd_callV (pc := 71) (n := 5) cls9 (s_X9_finds F) (by decide) (by decide) wd_1732 wd_1729 wd_1731 wd_90 wd_129 hy_X9_finds dX9_cost_71 (snd_pop (pc := 74) dX9_cost_74 (snd_lload (pc := 75) (i := 10) dX9_cost_75 (snd_aload_n (pc := 77) (i := 0) dX9_cost_77 (snd_getf (pc := 78) cls9 (f := 47) (by decide) wd_1350 dX9_cost_78 (snd_ladd (pc := 81) dX9_cost_81 (snd_lreturn dX9_cost_82)))))))))))))))))))))) (snd_lload (pc := 40) (i := 10) dX9_cost_40 (snd_lreturn dX9_cost_42))))))) (snd_ldc2 (pc := 25) (z := (-9223372036854775808)) (by decide) wd_1753 dX9_cost_25 (snd_lreturn dX9_cost_28))))))))))))))))

/-! LastWalkerModel.layRound(IIIIII)Z -/
theorem dX9_layRound_0 : decode cX9_layRound 0 = .ok (.aload_n 0, 1) := by decide +kernel
theorem dX9_layRound_1 : decode cX9_layRound 1 = .ok (.iload_n 1, 1) := by decide +kernel
theorem dX9_layRound_2 : decode cX9_layRound 2 = .ok (.iload_n 2, 1) := by decide +kernel
theorem dX9_layRound_3 : decode cX9_layRound 3 = .ok (.iload_n 3, 1) := by decide +kernel
theorem dX9_layRound_4 : decode cX9_layRound 4 = .ok (.invokevirtual 343, 3) := by decide +kernel
theorem dX9_layRound_7 : decode cX9_layRound 7 = .ok (.ifCond .eq 62, 3) := by decide +kernel
theorem dX9_layRound_10 : decode cX9_layRound 10 = .ok (.aload_n 0, 1) := by decide +kernel
theorem dX9_layRound_11 : decode cX9_layRound 11 = .ok (.iload 4, 2) := by decide +kernel
theorem dX9_layRound_13 : decode cX9_layRound 13 = .ok (.invokevirtual 316, 3) := by decide +kernel
theorem dX9_layRound_16 : decode cX9_layRound 16 = .ok (.ifCond .eq 53, 3) := by decide +kernel
theorem dX9_layRound_19 : decode cX9_layRound 19 = .ok (.iload 5, 2) := by decide +kernel
theorem dX9_layRound_21 : decode cX9_layRound 21 = .ok (.iconst 0, 1) := by decide +kernel
theorem dX9_layRound_22 : decode cX9_layRound 22 = .ok (.sipush 999, 3) := by decide +kernel
theorem dX9_layRound_25 : decode cX9_layRound 25 = .ok (.invokestatic 120, 3) := by decide +kernel
theorem dX9_layRound_28 : decode cX9_layRound 28 = .ok (.ifCond .eq 41, 3) := by decide +kernel
theorem dX9_layRound_31 : decode cX9_layRound 31 = .ok (.aload_n 0, 1) := by decide +kernel
theorem dX9_layRound_32 : decode cX9_layRound 32 = .ok (.iload 6, 2) := by decide +kernel
theorem dX9_layRound_34 : decode cX9_layRound 34 = .ok (.invokevirtual 373, 3) := by decide +kernel
theorem dX9_layRound_37 : decode cX9_layRound 37 = .ok (.ifCond .eq 32, 3) := by decide +kernel
theorem dX9_layRound_40 : decode cX9_layRound 40 = .ok (.aload_n 0, 1) := by decide +kernel
theorem dX9_layRound_41 : decode cX9_layRound 41 = .ok (.iload 4, 2) := by decide +kernel
theorem dX9_layRound_43 : decode cX9_layRound 43 = .ok (.iconst 2, 1) := by decide +kernel
theorem dX9_layRound_44 : decode cX9_layRound 44 = .ok (.iload 5, 2) := by decide +kernel
theorem dX9_layRound_46 : decode cX9_layRound 46 = .ok (.iload 6, 2) := by decide +kernel
theorem dX9_layRound_48 : decode cX9_layRound 48 = .ok (.iload 6, 2) := by decide +kernel
theorem dX9_layRound_50 : decode cX9_layRound 50 = .ok (.invokevirtual 376, 3) := by decide +kernel
theorem dX9_layRound_53 : decode cX9_layRound 53 = .ok (.ifCond .eq 16, 3) := by decide +kernel
theorem dX9_layRound_56 : decode cX9_layRound 56 = .ok (.aload_n 0, 1) := by decide +kernel
theorem dX9_layRound_57 : decode cX9_layRound 57 = .ok (.getfield 358, 3) := by decide +kernel
theorem dX9_layRound_60 : decode cX9_layRound 60 = .ok (.lconst 0, 1) := by decide +kernel
theorem dX9_layRound_61 : decode cX9_layRound 61 = .ok (.lcmp, 1) := by decide +kernel
theorem dX9_layRound_62 : decode cX9_layRound 62 = .ok (.ifCond .ge 7, 3) := by decide +kernel
theorem dX9_layRound_65 : decode cX9_layRound 65 = .ok (.iconst 1, 1) := by decide +kernel
theorem dX9_layRound_66 : decode cX9_layRound 66 = .ok (.goto 4, 3) := by decide +kernel
theorem dX9_layRound_69 : decode cX9_layRound 69 = .ok (.iconst 0, 1) := by decide +kernel
theorem dX9_layRound_70 : decode cX9_layRound 70 = .ok (.ireturn, 1) := by decide +kernel
noncomputable def k_X9_layRound (F : Nat) : AK := ak_aload 0 (ak_iload 1 (ak_iload 2 (ak_iload 3 (ak_callv 9 3 (m_X9_lay F) (ak_ifeq (ak_push (vI 0) ak_ireturn) (ak_aload 0 (ak_iload 4 (ak_callv 9 1 (m_X9_isPerson F) (ak_ifeq (ak_push (vI 0) ak_ireturn) (ak_iload 5 (ak_push (vI 0) (ak_push (vI 999) (ak_call 3 (m_X9_in F) (ak_ifeq (ak_push (vI 0) ak_ireturn) (ak_aload 0 (ak_iload 6 (ak_callv 9 1 (m_X9_isPlace F) (ak_ifeq (ak_push (vI 0) ak_ireturn) (ak_aload 0 (ak_iload 4 (ak_push (vI 2) (ak_iload 5 (ak_iload 6 (ak_iload 6 (ak_callv 9 5 (m_X9_finds F) (ak_ifeq (ak_push (vI 0) ak_ireturn) (ak_aload 0 (ak_getf 9 47 (ak_push (vL 0) (ak_lcmp (ak_iflt (ak_push (vI 1) ak_ireturn) (ak_push (vI 0) ak_ireturn))))))))))))))))))))))))))))))))
noncomputable def m_X9_layRound (F : Nat) : AF := mkF 2 7 (k_X9_layRound F)
set_option maxRecDepth 20000 in
theorem s_X9_layRound (F : Nat) : MA yX9_layRound cX9_layRound 7 (some .boolean) 6 (m_X9_layRound F) := met_of (Or.inr (Or.inr (Or.inl ⟨rfl, rfl⟩))) (by decide) (by
  unfold k_X9_layRound
  exact snd_aload_n (pc := 0) (i := 0) dX9_layRound_0 (snd_iload_n (pc := 1) (i := 1) dX9_layRound_1 (snd_iload_n (pc := 2) (i := 2) dX9_layRound_2 (snd_iload_n (pc := 3) (i := 3) dX9_layRound_3 (snd_callV (pc := 4) (n := 3) cls9 (s_X9_lay F) (by decide) (by decide) wd_1697 wd_1694 wd_1696 wd_86 wd_129 hy_X9_lay dX9_layRound_4 (snd_ifeq (pc := 7) (off := 62) (tgt := 69) (by decide) dX9_layRound_7 (snd_iconst (pc := 69) dX9_layRound_69 (snd_ireturn dX9_layRound_70)) (snd_aload_n (pc := 10) (i := 0) dX9_layRound_10 (snd_iload (pc := 11) (i := 4) dX9_layRound_11 (snd_callV (pc := 13) (n := 1) cls9 (s_X9_isPerson F) (by decide) (by decide) wd_1665 wd_1662 wd_1664 wd_79 wd_129 hy_X9_isPerson dX9_layRound_13 (snd_ifeq (pc := 16) (off := 53) (tgt := 69) (by decide) dX9_layRound_16 (snd_iconst (pc := 69) dX9_layRound_69 (snd_ireturn dX9_layRound_70)) (snd_iload (pc := 19) (i := 5) dX9_layRound_19 (snd_iconst (pc := 21) dX9_layRound_21 (snd_sipush (pc := 22) (by decide) dX9_layRound_22 (snd_callS (pc := 25) (n := 3) (s_X9_in F) (by decide) (by decide) wd_1511 wd_1509 wd_1510 wd_129 hy_X9_in dX9_layRound_25 (snd_ifeq (pc := 28) (off := 41) (tgt := 69) (by decide) dX9_layRound_28 (snd_iconst (pc := 69) dX9_layRound_69 (snd_ireturn dX9_layRound_70)) (snd_aload_n (pc := 31) (i := 0) dX9_layRound_31 (snd_iload (pc := 32) (i := 6) dX9_layRound_32 (snd_callV (pc := 34) (n := 1) cls9 (s_X9_isPlace F) (by decide) (by decide) wd_1728 wd_1725 wd_1727 wd_89 wd_129 hy_X9_isPlace dX9_layRound_34 (snd_ifeq (pc := 37) (off := 32) (tgt := 69) (by decide) dX9_layRound_37 (snd_iconst (pc := 69) dX9_layRound_69 (snd_ireturn dX9_layRound_70)) (snd_aload_n (pc := 40) (i := 0) dX9_layRound_40 (snd_iload (pc := 41) (i := 4) dX9_layRound_41 (snd_iconst (pc := 43) dX9_layRound_43 (snd_iload (pc := 44) (i := 5) dX9_layRound_44 (snd_iload (pc := 46) (i := 6) dX9_layRound_46 (snd_iload (pc := 48) (i := 6) dX9_layRound_48 (snd_callV (pc := 50) (n := 5) cls9 (s_X9_finds F) (by decide) (by decide) wd_1732 wd_1729 wd_1731 wd_90 wd_129 hy_X9_finds dX9_layRound_50 (snd_ifeq (pc := 53) (off := 16) (tgt := 69) (by decide) dX9_layRound_53 (snd_iconst (pc := 69) dX9_layRound_69 (snd_ireturn dX9_layRound_70)) (snd_aload_n (pc := 56) (i := 0) dX9_layRound_56 (snd_getf (pc := 57) cls9 (f := 47) (by decide) wd_1350 dX9_layRound_57 (snd_lconst (pc := 60) (by decide) dX9_layRound_60 (snd_lcmp (pc := 61) dX9_layRound_61 (snd_ifge (pc := 62) (off := 7) (tgt := 69) (by decide) dX9_layRound_62 (snd_iconst (pc := 69) dX9_layRound_69 (snd_ireturn dX9_layRound_70)) (snd_iconst (pc := 65) dX9_layRound_65 (snd_goto (pc := 66) (off := 4) (tgt := 70) (by decide) dX9_layRound_66 (snd_ireturn dX9_layRound_70)))))))))))))))))))))))))))))))))))

/-! LastWalkerModel.round(IIIIIII)I -/
theorem dX9_round_0 : decode cX9_round 0 = .ok (.aload_n 0, 1) := by decide +kernel
theorem dX9_round_1 : decode cX9_round 1 = .ok (.iconst 0, 1) := by decide +kernel
theorem dX9_round_2 : decode cX9_round 2 = .ok (.putfield 112, 3) := by decide +kernel
theorem dX9_round_5 : decode cX9_round 5 = .ok (.aload_n 0, 1) := by decide +kernel
theorem dX9_round_6 : decode cX9_round 6 = .ok (.iload_n 1, 1) := by decide +kernel
theorem dX9_round_7 : decode cX9_round 7 = .ok (.iload_n 2, 1) := by decide +kernel
theorem dX9_round_8 : decode cX9_round 8 = .ok (.iload_n 3, 1) := by decide +kernel
theorem dX9_round_9 : decode cX9_round 9 = .ok (.iload 4, 2) := by decide +kernel
theorem dX9_round_11 : decode cX9_round 11 = .ok (.iload 5, 2) := by decide +kernel
theorem dX9_round_13 : decode cX9_round 13 = .ok (.iload 6, 2) := by decide +kernel
theorem dX9_round_15 : decode cX9_round 15 = .ok (.invokevirtual 392, 3) := by decide +kernel
theorem dX9_round_18 : decode cX9_round 18 = .ok (.ifCond .ne 5, 3) := by decide +kernel
theorem dX9_round_21 : decode cX9_round 21 = .ok (.iconst (-1), 1) := by decide +kernel
theorem dX9_round_22 : decode cX9_round 22 = .ok (.ireturn, 1) := by decide +kernel
theorem dX9_round_23 : decode cX9_round 23 = .ok (.iload 7, 2) := by decide +kernel
theorem dX9_round_25 : decode cX9_round 25 = .ok (.bipush 10, 2) := by decide +kernel
theorem dX9_round_27 : decode cX9_round 27 = .ok (.bipush 9, 2) := by decide +kernel
theorem dX9_round_29 : decode cX9_round 29 = .ok (.aload_n 0, 1) := by decide +kernel
theorem dX9_round_30 : decode cX9_round 30 = .ok (.getfield 355, 3) := by decide +kernel
theorem dX9_round_33 : decode cX9_round 33 = .ok (.iadd, 1) := by decide +kernel
theorem dX9_round_34 : decode cX9_round 34 = .ok (.invokestatic 120, 3) := by decide +kernel
theorem dX9_round_37 : decode cX9_round 37 = .ok (.ifCond .eq 16, 3) := by decide +kernel
theorem dX9_round_40 : decode cX9_round 40 = .ok (.aload_n 0, 1) := by decide +kernel
theorem dX9_round_41 : decode cX9_round 41 = .ok (.getfield 72, 3) := by decide +kernel
theorem dX9_round_44 : decode cX9_round 44 = .ok (.iload 7, 2) := by decide +kernel
theorem dX9_round_46 : decode cX9_round 46 = .ok (.bipush 10, 2) := by decide +kernel
theorem dX9_round_48 : decode cX9_round 48 = .ok (.isub, 1) := by decide +kernel
theorem dX9_round_49 : decode cX9_round 49 = .ok (.iaload, 1) := by decide +kernel
theorem dX9_round_50 : decode cX9_round 50 = .ok (.goto 16, 3) := by decide +kernel
theorem dX9_round_53 : decode cX9_round 53 = .ok (.iload 7, 2) := by decide +kernel
theorem dX9_round_55 : decode cX9_round 55 = .ok (.ifCond .ne 10, 3) := by decide +kernel
theorem dX9_round_58 : decode cX9_round 58 = .ok (.aload_n 0, 1) := by decide +kernel
theorem dX9_round_59 : decode cX9_round 59 = .ok (.getfield 355, 3) := by decide +kernel
theorem dX9_round_62 : decode cX9_round 62 = .ok (.goto 4, 3) := by decide +kernel
theorem dX9_round_65 : decode cX9_round 65 = .ok (.iconst (-1), 1) := by decide +kernel
theorem dX9_round_66 : decode cX9_round 66 = .ok (.ireturn, 1) := by decide +kernel
noncomputable def k_X9_round (F : Nat) : AK := ak_aload 0 (ak_push (vI 0) (ak_putf 9 0 (ak_aload 0 (ak_iload 1 (ak_iload 2 (ak_iload 3 (ak_iload 4 (ak_iload 5 (ak_iload 6 (ak_callv 9 6 (m_X9_layRound F) (ak_ifeq (ak_push (vI (-1)) ak_ireturn) (ak_iload 7 (ak_push (vI 10) (ak_push (vI 9) (ak_aload 0 (ak_getf 9 46 (ak_iadd (ak_call 3 (m_X9_in F) (ak_ifeq (ak_iload 7 (ak_ifeq (ak_aload 0 (ak_getf 9 46 ak_ireturn)) (ak_push (vI (-1)) ak_ireturn))) (ak_aload 0 (ak_getf 9 45 (ak_iload 7 (ak_push (vI 10) (ak_isub (ak_iald ak_ireturn)))))))))))))))))))))))))
noncomputable def m_X9_round (F : Nat) : AF := mkF 1 8 (k_X9_round F)
set_option maxRecDepth 20000 in
theorem s_X9_round (F : Nat) : MA yX9_round cX9_round 8 (some .int) 7 (m_X9_round F) := met_of (Or.inr (Or.inl ⟨rfl, rfl⟩)) (by decide) (by
  unfold k_X9_round
  exact snd_aload_n (pc := 0) (i := 0) dX9_round_0 (snd_iconst (pc := 1) dX9_round_1 (snd_putf (pc := 2) cls9 (f := 0) (by decide) rfl rfl rfl wd_1303 dX9_round_2 (snd_aload_n (pc := 5) (i := 0) dX9_round_5 (snd_iload_n (pc := 6) (i := 1) dX9_round_6 (snd_iload_n (pc := 7) (i := 2) dX9_round_7 (snd_iload_n (pc := 8) (i := 3) dX9_round_8 (snd_iload (pc := 9) (i := 4) dX9_round_9 (snd_iload (pc := 11) (i := 5) dX9_round_11 (snd_iload (pc := 13) (i := 6) dX9_round_13 (snd_callV (pc := 15) (n := 6) cls9 (s_X9_layRound F) (by decide) (by decide) wd_1765 wd_1762 wd_1764 wd_96 wd_129 hy_X9_layRound dX9_round_15 (snd_ifne (pc := 18) (off := 5) (tgt := 23) (by decide) dX9_round_18 (snd_iload (pc := 23) (i := 7) dX9_round_23 (snd_bipush (pc := 25) (by decide) dX9_round_25 (snd_bipush (pc := 27) (by decide) dX9_round_27 (snd_aload_n (pc := 29) (i := 0) dX9_round_29 (snd_getf (pc := 30) cls9 (f := 46) (by decide) wd_1349 dX9_round_30 (snd_iadd (pc := 33) dX9_round_33 (snd_callS (pc := 34) (n := 3) (s_X9_in F) (by decide) (by decide) wd_1511 wd_1509 wd_1510 wd_129 hy_X9_in dX9_round_34 (snd_ifeq (pc := 37) (off := 16) (tgt := 53) (by decide) dX9_round_37 (snd_iload (pc := 53) (i := 7) dX9_round_53 (snd_ifne (pc := 55) (off := 10) (tgt := 65) (by decide) dX9_round_55 (snd_iconst (pc := 65) dX9_round_65 (snd_ireturn dX9_round_66)) (snd_aload_n (pc := 58) (i := 0) dX9_round_58 (snd_getf (pc := 59) cls9 (f := 46) (by decide) wd_1349 dX9_round_59 (snd_goto (pc := 62) (off := 4) (tgt := 66) (by decide) dX9_round_62 (snd_ireturn dX9_round_66)))))) (snd_aload_n (pc := 40) (i := 0) dX9_round_40 (snd_getf (pc := 41) cls9 (f := 45) (by decide) wd_1348 dX9_round_41 (snd_iload (pc := 44) (i := 7) dX9_round_44 (snd_bipush (pc := 46) (by decide) dX9_round_46 (snd_isub (pc := 48) dX9_round_48 (snd_iald (pc := 49) dX9_round_49 (snd_goto (pc := 50) (off := 16) (tgt := 66) (by decide) dX9_round_50 (snd_ireturn dX9_round_66)))))))))))))))) (snd_iconst (pc := 21) dX9_round_21 (snd_ireturn dX9_round_22))))))))))))))

/-! LastWalkerModel.gain(IIIIII)J -/
theorem dX9_gain_0 : decode cX9_gain 0 = .ok (.aload_n 0, 1) := by decide +kernel
theorem dX9_gain_1 : decode cX9_gain 1 = .ok (.iconst 0, 1) := by decide +kernel
theorem dX9_gain_2 : decode cX9_gain 2 = .ok (.putfield 112, 3) := by decide +kernel
theorem dX9_gain_5 : decode cX9_gain 5 = .ok (.aload_n 0, 1) := by decide +kernel
theorem dX9_gain_6 : decode cX9_gain 6 = .ok (.iload_n 1, 1) := by decide +kernel
theorem dX9_gain_7 : decode cX9_gain 7 = .ok (.iload_n 2, 1) := by decide +kernel
theorem dX9_gain_8 : decode cX9_gain 8 = .ok (.iload_n 3, 1) := by decide +kernel
theorem dX9_gain_9 : decode cX9_gain 9 = .ok (.iload 4, 2) := by decide +kernel
theorem dX9_gain_11 : decode cX9_gain 11 = .ok (.iload 5, 2) := by decide +kernel
theorem dX9_gain_13 : decode cX9_gain 13 = .ok (.iload 6, 2) := by decide +kernel
theorem dX9_gain_15 : decode cX9_gain 15 = .ok (.invokevirtual 392, 3) := by decide +kernel
theorem dX9_gain_18 : decode cX9_gain 18 = .ok (.ifCond .eq 10, 3) := by decide +kernel
theorem dX9_gain_21 : decode cX9_gain 21 = .ok (.aload_n 0, 1) := by decide +kernel
theorem dX9_gain_22 : decode cX9_gain 22 = .ok (.getfield 358, 3) := by decide +kernel
theorem dX9_gain_25 : decode cX9_gain 25 = .ok (.goto 4, 3) := by decide +kernel
theorem dX9_gain_28 : decode cX9_gain 28 = .ok (.lconst 0, 1) := by decide +kernel
theorem dX9_gain_29 : decode cX9_gain 29 = .ok (.lreturn, 1) := by decide +kernel
noncomputable def k_X9_gain (F : Nat) : AK := ak_aload 0 (ak_push (vI 0) (ak_putf 9 0 (ak_aload 0 (ak_iload 1 (ak_iload 2 (ak_iload 3 (ak_iload 4 (ak_iload 5 (ak_iload 6 (ak_callv 9 6 (m_X9_layRound F) (ak_ifeq (ak_push (vL 0) ak_lreturn) (ak_aload 0 (ak_getf 9 47 ak_lreturn)))))))))))))
noncomputable def m_X9_gain (F : Nat) : AF := mkF 4 7 (k_X9_gain F)
set_option maxRecDepth 20000 in
theorem s_X9_gain (F : Nat) : MA yX9_gain cX9_gain 7 (some .long) 7 (m_X9_gain F) := met_of (Or.inr (Or.inr (Or.inr (Or.inr (Or.inl ⟨rfl, rfl⟩))))) (by decide) (by
  unfold k_X9_gain
  exact snd_aload_n (pc := 0) (i := 0) dX9_gain_0 (snd_iconst (pc := 1) dX9_gain_1 (snd_putf (pc := 2) cls9 (f := 0) (by decide) rfl rfl rfl wd_1303 dX9_gain_2 (snd_aload_n (pc := 5) (i := 0) dX9_gain_5 (snd_iload_n (pc := 6) (i := 1) dX9_gain_6 (snd_iload_n (pc := 7) (i := 2) dX9_gain_7 (snd_iload_n (pc := 8) (i := 3) dX9_gain_8 (snd_iload (pc := 9) (i := 4) dX9_gain_9 (snd_iload (pc := 11) (i := 5) dX9_gain_11 (snd_iload (pc := 13) (i := 6) dX9_gain_13 (snd_callV (pc := 15) (n := 6) cls9 (s_X9_layRound F) (by decide) (by decide) wd_1765 wd_1762 wd_1764 wd_96 wd_129 hy_X9_layRound dX9_gain_15 (snd_ifeq (pc := 18) (off := 10) (tgt := 28) (by decide) dX9_gain_18 (snd_lconst (pc := 28) (by decide) dX9_gain_28 (snd_lreturn dX9_gain_29)) (snd_aload_n (pc := 21) (i := 0) dX9_gain_21 (snd_getf (pc := 22) cls9 (f := 47) (by decide) wd_1350 dX9_gain_22 (snd_goto (pc := 25) (off := 4) (tgt := 29) (by decide) dX9_gain_25 (snd_lreturn dX9_gain_29))))))))))))))))

/-! LastWalkerModel.nearer(IIII)V -/
theorem dX9_nearer_0 : decode cX9_nearer 0 = .ok (.aload_n 0, 1) := by decide +kernel
theorem dX9_nearer_1 : decode cX9_nearer 1 = .ok (.getfield 75, 3) := by decide +kernel
theorem dX9_nearer_4 : decode cX9_nearer 4 = .ok (.bipush 9, 2) := by decide +kernel
theorem dX9_nearer_6 : decode cX9_nearer 6 = .ok (.iload_n 1, 1) := by decide +kernel
theorem dX9_nearer_7 : decode cX9_nearer 7 = .ok (.imul, 1) := by decide +kernel
theorem dX9_nearer_8 : decode cX9_nearer 8 = .ok (.iload_n 2, 1) := by decide +kernel
theorem dX9_nearer_9 : decode cX9_nearer 9 = .ok (.iadd, 1) := by decide +kernel
theorem dX9_nearer_10 : decode cX9_nearer 10 = .ok (.iaload, 1) := by decide +kernel
theorem dX9_nearer_11 : decode cX9_nearer 11 = .ok (.iload 4, 2) := by decide +kernel
theorem dX9_nearer_13 : decode cX9_nearer 13 = .ok (.iadd, 1) := by decide +kernel
theorem dX9_nearer_14 : decode cX9_nearer 14 = .ok (.aload_n 0, 1) := by decide +kernel
theorem dX9_nearer_15 : decode cX9_nearer 15 = .ok (.getfield 75, 3) := by decide +kernel
theorem dX9_nearer_18 : decode cX9_nearer 18 = .ok (.bipush 9, 2) := by decide +kernel
theorem dX9_nearer_20 : decode cX9_nearer 20 = .ok (.iload_n 1, 1) := by decide +kernel
theorem dX9_nearer_21 : decode cX9_nearer 21 = .ok (.imul, 1) := by decide +kernel
theorem dX9_nearer_22 : decode cX9_nearer 22 = .ok (.iload_n 3, 1) := by decide +kernel
theorem dX9_nearer_23 : decode cX9_nearer 23 = .ok (.iadd, 1) := by decide +kernel
theorem dX9_nearer_24 : decode cX9_nearer 24 = .ok (.iaload, 1) := by decide +kernel
theorem dX9_nearer_25 : decode cX9_nearer 25 = .ok (.if_icmp .ge 28, 3) := by decide +kernel
theorem dX9_nearer_28 : decode cX9_nearer 28 = .ok (.aload_n 0, 1) := by decide +kernel
theorem dX9_nearer_29 : decode cX9_nearer 29 = .ok (.getfield 75, 3) := by decide +kernel
theorem dX9_nearer_32 : decode cX9_nearer 32 = .ok (.bipush 9, 2) := by decide +kernel
theorem dX9_nearer_34 : decode cX9_nearer 34 = .ok (.iload_n 1, 1) := by decide +kernel
theorem dX9_nearer_35 : decode cX9_nearer 35 = .ok (.imul, 1) := by decide +kernel
theorem dX9_nearer_36 : decode cX9_nearer 36 = .ok (.iload_n 3, 1) := by decide +kernel
theorem dX9_nearer_37 : decode cX9_nearer 37 = .ok (.iadd, 1) := by decide +kernel
theorem dX9_nearer_38 : decode cX9_nearer 38 = .ok (.aload_n 0, 1) := by decide +kernel
theorem dX9_nearer_39 : decode cX9_nearer 39 = .ok (.getfield 75, 3) := by decide +kernel
theorem dX9_nearer_42 : decode cX9_nearer 42 = .ok (.bipush 9, 2) := by decide +kernel
theorem dX9_nearer_44 : decode cX9_nearer 44 = .ok (.iload_n 1, 1) := by decide +kernel
theorem dX9_nearer_45 : decode cX9_nearer 45 = .ok (.imul, 1) := by decide +kernel
theorem dX9_nearer_46 : decode cX9_nearer 46 = .ok (.iload_n 2, 1) := by decide +kernel
theorem dX9_nearer_47 : decode cX9_nearer 47 = .ok (.iadd, 1) := by decide +kernel
theorem dX9_nearer_48 : decode cX9_nearer 48 = .ok (.iaload, 1) := by decide +kernel
theorem dX9_nearer_49 : decode cX9_nearer 49 = .ok (.iload 4, 2) := by decide +kernel
theorem dX9_nearer_51 : decode cX9_nearer 51 = .ok (.iadd, 1) := by decide +kernel
theorem dX9_nearer_52 : decode cX9_nearer 52 = .ok (.iastore, 1) := by decide +kernel
theorem dX9_nearer_53 : decode cX9_nearer 53 = .ok (.return_, 1) := by decide +kernel
noncomputable def k_X9_nearer (F : Nat) : AK := ak_aload 0 (ak_getf 9 49 (ak_push (vI 9) (ak_iload 1 (ak_imul (ak_iload 2 (ak_iadd (ak_iald (ak_iload 4 (ak_iadd (ak_aload 0 (ak_getf 9 49 (ak_push (vI 9) (ak_iload 1 (ak_imul (ak_iload 3 (ak_iadd (ak_iald (ak_cmplt (ak_aload 0 (ak_getf 9 49 (ak_push (vI 9) (ak_iload 1 (ak_imul (ak_iload 3 (ak_iadd (ak_aload 0 (ak_getf 9 49 (ak_push (vI 9) (ak_iload 1 (ak_imul (ak_iload 2 (ak_iadd (ak_iald (ak_iload 4 (ak_iadd (ak_iast ak_return)))))))))))))))))) (ak_return)))))))))))))))))))
noncomputable def m_X9_nearer (F : Nat) : AF := mkF 0 5 (k_X9_nearer F)
set_option maxRecDepth 20000 in
theorem s_X9_nearer (F : Nat) : MA yX9_nearer cX9_nearer 5 none 0 (m_X9_nearer F) := met_of (Or.inl ⟨rfl, rfl⟩) (by decide) (by
  unfold k_X9_nearer
  exact snd_aload_n (pc := 0) (i := 0) dX9_nearer_0 (snd_getf (pc := 1) cls9 (f := 49) (by decide) wd_1352 dX9_nearer_1 (snd_bipush (pc := 4) (by decide) dX9_nearer_4 (snd_iload_n (pc := 6) (i := 1) dX9_nearer_6 (snd_imul (pc := 7) dX9_nearer_7 (snd_iload_n (pc := 8) (i := 2) dX9_nearer_8 (snd_iadd (pc := 9) dX9_nearer_9 (snd_iald (pc := 10) dX9_nearer_10 (snd_iload (pc := 11) (i := 4) dX9_nearer_11 (snd_iadd (pc := 13) dX9_nearer_13 (snd_aload_n (pc := 14) (i := 0) dX9_nearer_14 (snd_getf (pc := 15) cls9 (f := 49) (by decide) wd_1352 dX9_nearer_15 (snd_bipush (pc := 18) (by decide) dX9_nearer_18 (snd_iload_n (pc := 20) (i := 1) dX9_nearer_20 (snd_imul (pc := 21) dX9_nearer_21 (snd_iload_n (pc := 22) (i := 3) dX9_nearer_22 (snd_iadd (pc := 23) dX9_nearer_23 (snd_iald (pc := 24) dX9_nearer_24 (snd_icmpge (pc := 25) (off := 28) (tgt := 53) (by decide) dX9_nearer_25 (snd_return dX9_nearer_53) (snd_aload_n (pc := 28) (i := 0) dX9_nearer_28 (snd_getf (pc := 29) cls9 (f := 49) (by decide) wd_1352 dX9_nearer_29 (snd_bipush (pc := 32) (by decide) dX9_nearer_32 (snd_iload_n (pc := 34) (i := 1) dX9_nearer_34 (snd_imul (pc := 35) dX9_nearer_35 (snd_iload_n (pc := 36) (i := 3) dX9_nearer_36 (snd_iadd (pc := 37) dX9_nearer_37 (snd_aload_n (pc := 38) (i := 0) dX9_nearer_38 (snd_getf (pc := 39) cls9 (f := 49) (by decide) wd_1352 dX9_nearer_39 (snd_bipush (pc := 42) (by decide) dX9_nearer_42 (snd_iload_n (pc := 44) (i := 1) dX9_nearer_44 (snd_imul (pc := 45) dX9_nearer_45 (snd_iload_n (pc := 46) (i := 2) dX9_nearer_46 (snd_iadd (pc := 47) dX9_nearer_47 (snd_iald (pc := 48) dX9_nearer_48 (snd_iload (pc := 49) (i := 4) dX9_nearer_49 (snd_iadd (pc := 51) dX9_nearer_51 (snd_iast (pc := 52) dX9_nearer_52 (snd_return dX9_nearer_53))))))))))))))))))))))))))))))))))))))

/-! LastWalkerModel.findFar(I)V -/
theorem dX9_findFar_0 : decode cX9_findFar 0 = .ok (.iconst 0, 1) := by decide +kernel
theorem dX9_findFar_1 : decode cX9_findFar 1 = .ok (.istore_n 2, 1) := by decide +kernel
theorem dX9_findFar_2 : decode cX9_findFar 2 = .ok (.iload_n 2, 1) := by decide +kernel
theorem dX9_findFar_3 : decode cX9_findFar 3 = .ok (.bipush 81, 2) := by decide +kernel
theorem dX9_findFar_5 : decode cX9_findFar 5 = .ok (.if_icmp .ge 33, 3) := by decide +kernel
theorem dX9_findFar_8 : decode cX9_findFar 8 = .ok (.aload_n 0, 1) := by decide +kernel
theorem dX9_findFar_9 : decode cX9_findFar 9 = .ok (.getfield 75, 3) := by decide +kernel
theorem dX9_findFar_12 : decode cX9_findFar 12 = .ok (.iload_n 2, 1) := by decide +kernel
theorem dX9_findFar_13 : decode cX9_findFar 13 = .ok (.iload_n 2, 1) := by decide +kernel
theorem dX9_findFar_14 : decode cX9_findFar 14 = .ok (.bipush 9, 2) := by decide +kernel
theorem dX9_findFar_16 : decode cX9_findFar 16 = .ok (.idiv, 1) := by decide +kernel
theorem dX9_findFar_17 : decode cX9_findFar 17 = .ok (.iload_n 2, 1) := by decide +kernel
theorem dX9_findFar_18 : decode cX9_findFar 18 = .ok (.bipush 9, 2) := by decide +kernel
theorem dX9_findFar_20 : decode cX9_findFar 20 = .ok (.irem, 1) := by decide +kernel
theorem dX9_findFar_21 : decode cX9_findFar 21 = .ok (.if_icmp .ne 7, 3) := by decide +kernel
theorem dX9_findFar_24 : decode cX9_findFar 24 = .ok (.iconst 0, 1) := by decide +kernel
theorem dX9_findFar_25 : decode cX9_findFar 25 = .ok (.goto 6, 3) := by decide +kernel
theorem dX9_findFar_28 : decode cX9_findFar 28 = .ok (.ldc_w 396, 3) := by decide +kernel
theorem dX9_findFar_31 : decode cX9_findFar 31 = .ok (.iastore, 1) := by decide +kernel
theorem dX9_findFar_32 : decode cX9_findFar 32 = .ok (.iinc 2 1, 3) := by decide +kernel
theorem dX9_findFar_35 : decode cX9_findFar 35 = .ok (.goto (-33), 3) := by decide +kernel
theorem dX9_findFar_38 : decode cX9_findFar 38 = .ok (.iconst 0, 1) := by decide +kernel
theorem dX9_findFar_39 : decode cX9_findFar 39 = .ok (.istore_n 2, 1) := by decide +kernel
theorem dX9_findFar_40 : decode cX9_findFar 40 = .ok (.iload_n 2, 1) := by decide +kernel
theorem dX9_findFar_41 : decode cX9_findFar 41 = .ok (.aload_n 0, 1) := by decide +kernel
theorem dX9_findFar_42 : decode cX9_findFar 42 = .ok (.getfield 258, 3) := by decide +kernel
theorem dX9_findFar_45 : decode cX9_findFar 45 = .ok (.if_icmp .ge 96, 3) := by decide +kernel
theorem dX9_findFar_48 : decode cX9_findFar 48 = .ok (.iconst 0, 1) := by decide +kernel
theorem dX9_findFar_49 : decode cX9_findFar 49 = .ok (.istore_n 3, 1) := by decide +kernel
theorem dX9_findFar_50 : decode cX9_findFar 50 = .ok (.iload_n 3, 1) := by decide +kernel
theorem dX9_findFar_51 : decode cX9_findFar 51 = .ok (.aload_n 0, 1) := by decide +kernel
theorem dX9_findFar_52 : decode cX9_findFar 52 = .ok (.getfield 261, 3) := by decide +kernel
theorem dX9_findFar_55 : decode cX9_findFar 55 = .ok (.if_icmp .ge 80, 3) := by decide +kernel
theorem dX9_findFar_58 : decode cX9_findFar 58 = .ok (.iconst 0, 1) := by decide +kernel
theorem dX9_findFar_59 : decode cX9_findFar 59 = .ok (.istore 4, 2) := by decide +kernel
theorem dX9_findFar_61 : decode cX9_findFar 61 = .ok (.iload 4, 2) := by decide +kernel
theorem dX9_findFar_63 : decode cX9_findFar 63 = .ok (.aload_n 0, 1) := by decide +kernel
theorem dX9_findFar_64 : decode cX9_findFar 64 = .ok (.getfield 258, 3) := by decide +kernel
theorem dX9_findFar_67 : decode cX9_findFar 67 = .ok (.if_icmp .ge 62, 3) := by decide +kernel
theorem dX9_findFar_70 : decode cX9_findFar 70 = .ok (.iload_n 3, 1) := by decide +kernel
theorem dX9_findFar_71 : decode cX9_findFar 71 = .ok (.iload_n 1, 1) := by decide +kernel
theorem dX9_findFar_72 : decode cX9_findFar 72 = .ok (.if_icmp .eq 57, 3) := by decide +kernel
theorem dX9_findFar_75 : decode cX9_findFar 75 = .ok (.aload_n 0, 1) := by decide +kernel
theorem dX9_findFar_76 : decode cX9_findFar 76 = .ok (.iload 4, 2) := by decide +kernel
theorem dX9_findFar_78 : decode cX9_findFar 78 = .ok (.aload_n 0, 1) := by decide +kernel
theorem dX9_findFar_79 : decode cX9_findFar 79 = .ok (.iload_n 3, 1) := by decide +kernel
theorem dX9_findFar_80 : decode cX9_findFar 80 = .ok (.iconst 0, 1) := by decide +kernel
theorem dX9_findFar_81 : decode cX9_findFar 81 = .ok (.invokevirtual 294, 3) := by decide +kernel
theorem dX9_findFar_84 : decode cX9_findFar 84 = .ok (.aload_n 0, 1) := by decide +kernel
theorem dX9_findFar_85 : decode cX9_findFar 85 = .ok (.iload_n 3, 1) := by decide +kernel
theorem dX9_findFar_86 : decode cX9_findFar 86 = .ok (.iconst 1, 1) := by decide +kernel
theorem dX9_findFar_87 : decode cX9_findFar 87 = .ok (.invokevirtual 294, 3) := by decide +kernel
theorem dX9_findFar_90 : decode cX9_findFar 90 = .ok (.aload_n 0, 1) := by decide +kernel
theorem dX9_findFar_91 : decode cX9_findFar 91 = .ok (.iload_n 3, 1) := by decide +kernel
theorem dX9_findFar_92 : decode cX9_findFar 92 = .ok (.iconst 2, 1) := by decide +kernel
theorem dX9_findFar_93 : decode cX9_findFar 93 = .ok (.invokevirtual 294, 3) := by decide +kernel
theorem dX9_findFar_96 : decode cX9_findFar 96 = .ok (.invokevirtual 397, 3) := by decide +kernel
theorem dX9_findFar_99 : decode cX9_findFar 99 = .ok (.aload_n 0, 1) := by decide +kernel
theorem dX9_findFar_100 : decode cX9_findFar 100 = .ok (.iload 4, 2) := by decide +kernel
theorem dX9_findFar_102 : decode cX9_findFar 102 = .ok (.aload_n 0, 1) := by decide +kernel
theorem dX9_findFar_103 : decode cX9_findFar 103 = .ok (.iload_n 3, 1) := by decide +kernel
theorem dX9_findFar_104 : decode cX9_findFar 104 = .ok (.iconst 1, 1) := by decide +kernel
theorem dX9_findFar_105 : decode cX9_findFar 105 = .ok (.invokevirtual 294, 3) := by decide +kernel
theorem dX9_findFar_108 : decode cX9_findFar 108 = .ok (.aload_n 0, 1) := by decide +kernel
theorem dX9_findFar_109 : decode cX9_findFar 109 = .ok (.iload_n 3, 1) := by decide +kernel
theorem dX9_findFar_110 : decode cX9_findFar 110 = .ok (.iconst 0, 1) := by decide +kernel
theorem dX9_findFar_111 : decode cX9_findFar 111 = .ok (.invokevirtual 294, 3) := by decide +kernel
theorem dX9_findFar_114 : decode cX9_findFar 114 = .ok (.aload_n 0, 1) := by decide +kernel
theorem dX9_findFar_115 : decode cX9_findFar 115 = .ok (.iload_n 3, 1) := by decide +kernel
theorem dX9_findFar_116 : decode cX9_findFar 116 = .ok (.iconst 2, 1) := by decide +kernel
theorem dX9_findFar_117 : decode cX9_findFar 117 = .ok (.invokevirtual 294, 3) := by decide +kernel
theorem dX9_findFar_120 : decode cX9_findFar 120 = .ok (.invokevirtual 397, 3) := by decide +kernel
theorem dX9_findFar_123 : decode cX9_findFar 123 = .ok (.iinc 4 1, 3) := by decide +kernel
theorem dX9_findFar_126 : decode cX9_findFar 126 = .ok (.goto (-65), 3) := by decide +kernel
theorem dX9_findFar_129 : decode cX9_findFar 129 = .ok (.iinc 3 1, 3) := by decide +kernel
theorem dX9_findFar_132 : decode cX9_findFar 132 = .ok (.goto (-82), 3) := by decide +kernel
theorem dX9_findFar_135 : decode cX9_findFar 135 = .ok (.iinc 2 1, 3) := by decide +kernel
theorem dX9_findFar_138 : decode cX9_findFar 138 = .ok (.goto (-98), 3) := by decide +kernel
theorem dX9_findFar_141 : decode cX9_findFar 141 = .ok (.return_, 1) := by decide +kernel
noncomputable def k_X9_findFar_31 (F : Nat) (h2 : AK) : AK := ak_iast (ak_iinc 2 1 h2)
set_option maxRecDepth 20000 in
theorem sk_X9_findFar_31 (F : Nat) {h2 : AK} (hh2 : Snd X0 RX9 cX9_findFar 5 1 2 h2) : Snd X0 RX9 cX9_findFar 5 1 31 (k_X9_findFar_31 F h2) := by
  unfold k_X9_findFar_31
  exact snd_iast (pc := 31) dX9_findFar_31 (snd_iinc (pc := 32) (i := 2) (n := 1) (by decide) dX9_findFar_32 (snd_goto (pc := 35) (off := (-33)) (tgt := 2) (by decide) dX9_findFar_35 (hh2)))
noncomputable def k_X9_findFar_129 (F : Nat) (h40 : AK) (h50 : AK) : AK := ak_iinc 3 1 h50
set_option maxRecDepth 20000 in
theorem sk_X9_findFar_129 (F : Nat) {h40 h50 : AK} (hh40 : Snd X0 RX9 cX9_findFar 5 1 40 h40) (hh50 : Snd X0 RX9 cX9_findFar 5 1 50 h50) : Snd X0 RX9 cX9_findFar 5 1 129 (k_X9_findFar_129 F h40 h50) := by
  unfold k_X9_findFar_129
  exact snd_iinc (pc := 129) (i := 3) (n := 1) (by decide) dX9_findFar_129 (snd_goto (pc := 132) (off := (-82)) (tgt := 50) (by decide) dX9_findFar_132 (hh50))
noncomputable def kb_X9_findFar_61 (F : Nat) (h40 : AK) (h50 : AK) (self : AK) : AK := ak_iload 4 (ak_aload 0 (ak_getf 9 22 (ak_cmplt (ak_iload 3 (ak_iload 1 (ak_cmpeq ((k_X9_findFar_129 F h40 h50)) (ak_aload 0 (ak_iload 4 (ak_aload 0 (ak_iload 3 (ak_push (vI 0) (ak_callv 9 2 (m_X9_roadOf F) (ak_aload 0 (ak_iload 3 (ak_push (vI 1) (ak_callv 9 2 (m_X9_roadOf F) (ak_aload 0 (ak_iload 3 (ak_push (vI 2) (ak_callv 9 2 (m_X9_roadOf F) (ak_callv 9 4 (m_X9_nearer F) (ak_aload 0 (ak_iload 4 (ak_aload 0 (ak_iload 3 (ak_push (vI 1) (ak_callv 9 2 (m_X9_roadOf F) (ak_aload 0 (ak_iload 3 (ak_push (vI 0) (ak_callv 9 2 (m_X9_roadOf F) (ak_aload 0 (ak_iload 3 (ak_push (vI 2) (ak_callv 9 2 (m_X9_roadOf F) (ak_callv 9 4 (m_X9_nearer F) (ak_iinc 4 1 self)))))))))))))))))))))))))))))))))) ((k_X9_findFar_129 F h40 h50)))))
noncomputable def k_X9_findFar_61 (F : Nat) (h40 : AK) (h50 : AK) (n : Nat) : AK := Nat.rec (motive := fun _ => AK) ak_none (fun _ self => kb_X9_findFar_61 F h40 h50 self) n
set_option maxRecDepth 20000 in
theorem sk_X9_findFar_61 (F : Nat) {h40 h50 : AK} (hh40 : Snd X0 RX9 cX9_findFar 5 1 40 h40) (hh50 : Snd X0 RX9 cX9_findFar 5 1 50 h50) : ∀ n, Snd X0 RX9 cX9_findFar 5 1 61 (k_X9_findFar_61 F h40 h50 n) := by
  intro n
  induction n with
  | zero => exact snd_none
  | succ n ih =>
    show Snd X0 RX9 cX9_findFar 5 1 61 (kb_X9_findFar_61 F h40 h50 (k_X9_findFar_61 F h40 h50 n))
    unfold kb_X9_findFar_61
    exact snd_iload (pc := 61) (i := 4) dX9_findFar_61 (snd_aload_n (pc := 63) (i := 0) dX9_findFar_63 (snd_getf (pc := 64) cls9 (f := 22) (by decide) wd_1325 dX9_findFar_64 (snd_icmpge (pc := 67) (off := 62) (tgt := 129) (by decide) dX9_findFar_67 ((sk_X9_findFar_129 F hh40 hh50)) (snd_iload_n (pc := 70) (i := 3) dX9_findFar_70 (snd_iload_n (pc := 71) (i := 1) dX9_findFar_71 (snd_icmpeq (pc := 72) (off := 57) (tgt := 129) (by decide) dX9_findFar_72 ((sk_X9_findFar_129 F hh40 hh50)) (snd_aload_n (pc := 75) (i := 0) dX9_findFar_75 (snd_iload (pc := 76) (i := 4) dX9_findFar_76 (snd_aload_n (pc := 78) (i := 0) dX9_findFar_78 (snd_iload_n (pc := 79) (i := 3) dX9_findFar_79 (snd_iconst (pc := 80) dX9_findFar_80 (snd_callV (pc := 81) (n := 2) cls9 (s_X9_roadOf F) (by decide) (by decide) wd_1657 wd_1654 wd_1656 wd_77 wd_129 hy_X9_roadOf dX9_findFar_81 (snd_aload_n (pc := 84) (i := 0) dX9_findFar_84 (snd_iload_n (pc := 85) (i := 3) dX9_findFar_85 (snd_iconst (pc := 86) dX9_findFar_86 (snd_callV (pc := 87) (n := 2) cls9 (s_X9_roadOf F) (by decide) (by decide) wd_1657 wd_1654 wd_1656 wd_77 wd_129 hy_X9_roadOf dX9_findFar_87 (snd_aload_n (pc := 90) (i := 0) dX9_findFar_90 (snd_iload_n (pc := 91) (i := 3) dX9_findFar_91 (snd_iconst (pc := 92) dX9_findFar_92 (snd_callV (pc := 93) (n := 2) cls9 (s_X9_roadOf F) (by decide) (by decide) wd_1657 wd_1654 wd_1656 wd_77 wd_129 hy_X9_roadOf dX9_findFar_93 (snd_callV (pc := 96) (n := 4) cls9 (s_X9_nearer F) (by decide) (by decide) wd_1786 wd_1783 wd_1785 wd_99 wd_129 hy_X9_nearer dX9_findFar_96 (snd_aload_n (pc := 99) (i := 0) dX9_findFar_99 (snd_iload (pc := 100) (i := 4) dX9_findFar_100 (snd_aload_n (pc := 102) (i := 0) dX9_findFar_102 (snd_iload_n (pc := 103) (i := 3) dX9_findFar_103 (snd_iconst (pc := 104) dX9_findFar_104 (snd_callV (pc := 105) (n := 2) cls9 (s_X9_roadOf F) (by decide) (by decide) wd_1657 wd_1654 wd_1656 wd_77 wd_129 hy_X9_roadOf dX9_findFar_105 (snd_aload_n (pc := 108) (i := 0) dX9_findFar_108 (snd_iload_n (pc := 109) (i := 3) dX9_findFar_109 (snd_iconst (pc := 110) dX9_findFar_110 (snd_callV (pc := 111) (n := 2) cls9 (s_X9_roadOf F) (by decide) (by decide) wd_1657 wd_1654 wd_1656 wd_77 wd_129 hy_X9_roadOf dX9_findFar_111 (snd_aload_n (pc := 114) (i := 0) dX9_findFar_114 (snd_iload_n (pc := 115) (i := 3) dX9_findFar_115 (snd_iconst (pc := 116) dX9_findFar_116 (snd_callV (pc := 117) (n := 2) cls9 (s_X9_roadOf F) (by decide) (by decide) wd_1657 wd_1654 wd_1656 wd_77 wd_129 hy_X9_roadOf dX9_findFar_117 (snd_callV (pc := 120) (n := 4) cls9 (s_X9_nearer F) (by decide) (by decide) wd_1786 wd_1783 wd_1785 wd_99 wd_129 hy_X9_nearer dX9_findFar_120 (snd_iinc (pc := 123) (i := 4) (n := 1) (by decide) dX9_findFar_123 (snd_goto (pc := 126) (off := (-65)) (tgt := 61) (by decide) dX9_findFar_126 (ih)))))))))))))))))))))))))))))))))))))))
noncomputable def kb_X9_findFar_50 (F : Nat) (h40 : AK) (self : AK) : AK := ak_iload 3 (ak_aload 0 (ak_getf 9 23 (ak_cmplt (ak_push (vI 0) (ak_istore 4 ((k_X9_findFar_61 F h40 self F)))) (ak_iinc 2 1 h40))))
noncomputable def k_X9_findFar_50 (F : Nat) (h40 : AK) (n : Nat) : AK := Nat.rec (motive := fun _ => AK) ak_none (fun _ self => kb_X9_findFar_50 F h40 self) n
set_option maxRecDepth 20000 in
theorem sk_X9_findFar_50 (F : Nat) {h40 : AK} (hh40 : Snd X0 RX9 cX9_findFar 5 1 40 h40) : ∀ n, Snd X0 RX9 cX9_findFar 5 1 50 (k_X9_findFar_50 F h40 n) := by
  intro n
  induction n with
  | zero => exact snd_none
  | succ n ih =>
    show Snd X0 RX9 cX9_findFar 5 1 50 (kb_X9_findFar_50 F h40 (k_X9_findFar_50 F h40 n))
    unfold kb_X9_findFar_50
    exact snd_iload_n (pc := 50) (i := 3) dX9_findFar_50 (snd_aload_n (pc := 51) (i := 0) dX9_findFar_51 (snd_getf (pc := 52) cls9 (f := 23) (by decide) wd_1326 dX9_findFar_52 (snd_icmpge (pc := 55) (off := 80) (tgt := 135) (by decide) dX9_findFar_55 (snd_iinc (pc := 135) (i := 2) (n := 1) (by decide) dX9_findFar_135 (snd_goto (pc := 138) (off := (-98)) (tgt := 40) (by decide) dX9_findFar_138 (hh40))) (snd_iconst (pc := 58) dX9_findFar_58 (snd_istore (pc := 59) (i := 4) (by decide) dX9_findFar_59 ((sk_X9_findFar_61 F hh40 ih F)))))))
noncomputable def kb_X9_findFar_40 (F : Nat) (self : AK) : AK := ak_iload 2 (ak_aload 0 (ak_getf 9 22 (ak_cmplt (ak_push (vI 0) (ak_istore 3 ((k_X9_findFar_50 F self F)))) (ak_return))))
noncomputable def k_X9_findFar_40 (F : Nat) (n : Nat) : AK := Nat.rec (motive := fun _ => AK) ak_none (fun _ self => kb_X9_findFar_40 F self) n
set_option maxRecDepth 20000 in
theorem sk_X9_findFar_40 (F : Nat) : ∀ n, Snd X0 RX9 cX9_findFar 5 1 40 (k_X9_findFar_40 F n) := by
  intro n
  induction n with
  | zero => exact snd_none
  | succ n ih =>
    show Snd X0 RX9 cX9_findFar 5 1 40 (kb_X9_findFar_40 F (k_X9_findFar_40 F n))
    unfold kb_X9_findFar_40
    exact snd_iload_n (pc := 40) (i := 2) dX9_findFar_40 (snd_aload_n (pc := 41) (i := 0) dX9_findFar_41 (snd_getf (pc := 42) cls9 (f := 22) (by decide) wd_1325 dX9_findFar_42 (snd_icmpge (pc := 45) (off := 96) (tgt := 141) (by decide) dX9_findFar_45 (snd_return dX9_findFar_141) (snd_iconst (pc := 48) dX9_findFar_48 (snd_istore_n (pc := 49) (i := 3) (by decide) dX9_findFar_49 ((sk_X9_findFar_50 F ih F)))))))
noncomputable def kb_X9_findFar_2 (F : Nat) (self : AK) : AK := ak_iload 2 (ak_push (vI 81) (ak_cmplt (ak_aload 0 (ak_getf 9 49 (ak_iload 2 (ak_iload 2 (ak_push (vI 9) (ak_idiv (ak_iload 2 (ak_push (vI 9) (ak_irem (ak_cmpeq (ak_push (vI 0) ((k_X9_findFar_31 F self))) (ak_push (vI 100000) ((k_X9_findFar_31 F self))))))))))))) (ak_push (vI 0) (ak_istore 2 ((k_X9_findFar_40 F F))))))
noncomputable def k_X9_findFar_2 (F : Nat) (n : Nat) : AK := Nat.rec (motive := fun _ => AK) ak_none (fun _ self => kb_X9_findFar_2 F self) n
set_option maxRecDepth 20000 in
theorem sk_X9_findFar_2 (F : Nat) : ∀ n, Snd X0 RX9 cX9_findFar 5 1 2 (k_X9_findFar_2 F n) := by
  intro n
  induction n with
  | zero => exact snd_none
  | succ n ih =>
    show Snd X0 RX9 cX9_findFar 5 1 2 (kb_X9_findFar_2 F (k_X9_findFar_2 F n))
    unfold kb_X9_findFar_2
    exact snd_iload_n (pc := 2) (i := 2) dX9_findFar_2 (snd_bipush (pc := 3) (by decide) dX9_findFar_3 (snd_icmpge (pc := 5) (off := 33) (tgt := 38) (by decide) dX9_findFar_5 (snd_iconst (pc := 38) dX9_findFar_38 (snd_istore_n (pc := 39) (i := 2) (by decide) dX9_findFar_39 ((sk_X9_findFar_40 F F)))) (snd_aload_n (pc := 8) (i := 0) dX9_findFar_8 (snd_getf (pc := 9) cls9 (f := 49) (by decide) wd_1352 dX9_findFar_9 (snd_iload_n (pc := 12) (i := 2) dX9_findFar_12 (snd_iload_n (pc := 13) (i := 2) dX9_findFar_13 (snd_bipush (pc := 14) (by decide) dX9_findFar_14 (snd_idiv (pc := 16) dX9_findFar_16 (snd_iload_n (pc := 17) (i := 2) dX9_findFar_17 (snd_bipush (pc := 18) (by decide) dX9_findFar_18 (snd_irem (pc := 20) dX9_findFar_20 (snd_icmpne (pc := 21) (off := 7) (tgt := 28) (by decide) dX9_findFar_21 (snd_ldcw (pc := 28) (z := (100000)) (by decide) wd_1782 dX9_findFar_28 ((sk_X9_findFar_31 F ih))) (snd_iconst (pc := 24) dX9_findFar_24 (snd_goto (pc := 25) (off := 6) (tgt := 31) (by decide) dX9_findFar_25 ((sk_X9_findFar_31 F ih))))))))))))))))
noncomputable def k_X9_findFar (F : Nat) : AK := ak_push (vI 0) (ak_istore 2 ((k_X9_findFar_2 F F)))
noncomputable def m_X9_findFar (F : Nat) : AF := mkF 0 5 (k_X9_findFar F)
set_option maxRecDepth 20000 in
theorem s_X9_findFar (F : Nat) : MA yX9_findFar cX9_findFar 5 none 1 (m_X9_findFar F) := met_of (Or.inl ⟨rfl, rfl⟩) (by decide) (by
  unfold k_X9_findFar
  exact snd_iconst (pc := 0) dX9_findFar_0 (snd_istore_n (pc := 1) (i := 2) (by decide) dX9_findFar_1 ((sk_X9_findFar_2 F F))))

/-! LastWalkerModel.clearSums()V -/
theorem dX9_clearSums_0 : decode cX9_clearSums 0 = .ok (.iconst 0, 1) := by decide +kernel
theorem dX9_clearSums_1 : decode cX9_clearSums 1 = .ok (.istore_n 1, 1) := by decide +kernel
theorem dX9_clearSums_2 : decode cX9_clearSums 2 = .ok (.iload_n 1, 1) := by decide +kernel
theorem dX9_clearSums_3 : decode cX9_clearSums 3 = .ok (.bipush 8, 2) := by decide +kernel
theorem dX9_clearSums_5 : decode cX9_clearSums 5 = .ok (.if_icmp .ge 37, 3) := by decide +kernel
theorem dX9_clearSums_8 : decode cX9_clearSums 8 = .ok (.aload_n 0, 1) := by decide +kernel
theorem dX9_clearSums_9 : decode cX9_clearSums 9 = .ok (.getfield 90, 3) := by decide +kernel
theorem dX9_clearSums_12 : decode cX9_clearSums 12 = .ok (.iload_n 1, 1) := by decide +kernel
theorem dX9_clearSums_13 : decode cX9_clearSums 13 = .ok (.iconst 0, 1) := by decide +kernel
theorem dX9_clearSums_14 : decode cX9_clearSums 14 = .ok (.iastore, 1) := by decide +kernel
theorem dX9_clearSums_15 : decode cX9_clearSums 15 = .ok (.aload_n 0, 1) := by decide +kernel
theorem dX9_clearSums_16 : decode cX9_clearSums 16 = .ok (.getfield 93, 3) := by decide +kernel
theorem dX9_clearSums_19 : decode cX9_clearSums 19 = .ok (.iload_n 1, 1) := by decide +kernel
theorem dX9_clearSums_20 : decode cX9_clearSums 20 = .ok (.iconst 0, 1) := by decide +kernel
theorem dX9_clearSums_21 : decode cX9_clearSums 21 = .ok (.iastore, 1) := by decide +kernel
theorem dX9_clearSums_22 : decode cX9_clearSums 22 = .ok (.aload_n 0, 1) := by decide +kernel
theorem dX9_clearSums_23 : decode cX9_clearSums 23 = .ok (.getfield 96, 3) := by decide +kernel
theorem dX9_clearSums_26 : decode cX9_clearSums 26 = .ok (.iload_n 1, 1) := by decide +kernel
theorem dX9_clearSums_27 : decode cX9_clearSums 27 = .ok (.iconst 0, 1) := by decide +kernel
theorem dX9_clearSums_28 : decode cX9_clearSums 28 = .ok (.iastore, 1) := by decide +kernel
theorem dX9_clearSums_29 : decode cX9_clearSums 29 = .ok (.aload_n 0, 1) := by decide +kernel
theorem dX9_clearSums_30 : decode cX9_clearSums 30 = .ok (.getfield 99, 3) := by decide +kernel
theorem dX9_clearSums_33 : decode cX9_clearSums 33 = .ok (.iload_n 1, 1) := by decide +kernel
theorem dX9_clearSums_34 : decode cX9_clearSums 34 = .ok (.iconst 0, 1) := by decide +kernel
theorem dX9_clearSums_35 : decode cX9_clearSums 35 = .ok (.iastore, 1) := by decide +kernel
theorem dX9_clearSums_36 : decode cX9_clearSums 36 = .ok (.iinc 1 1, 3) := by decide +kernel
theorem dX9_clearSums_39 : decode cX9_clearSums 39 = .ok (.goto (-37), 3) := by decide +kernel
theorem dX9_clearSums_42 : decode cX9_clearSums 42 = .ok (.iconst 0, 1) := by decide +kernel
theorem dX9_clearSums_43 : decode cX9_clearSums 43 = .ok (.istore_n 1, 1) := by decide +kernel
theorem dX9_clearSums_44 : decode cX9_clearSums 44 = .ok (.iload_n 1, 1) := by decide +kernel
theorem dX9_clearSums_45 : decode cX9_clearSums 45 = .ok (.bipush 14, 2) := by decide +kernel
theorem dX9_clearSums_47 : decode cX9_clearSums 47 = .ok (.if_icmp .ge 23, 3) := by decide +kernel
theorem dX9_clearSums_50 : decode cX9_clearSums 50 = .ok (.aload_n 0, 1) := by decide +kernel
theorem dX9_clearSums_51 : decode cX9_clearSums 51 = .ok (.getfield 102, 3) := by decide +kernel
theorem dX9_clearSums_54 : decode cX9_clearSums 54 = .ok (.iload_n 1, 1) := by decide +kernel
theorem dX9_clearSums_55 : decode cX9_clearSums 55 = .ok (.iconst 0, 1) := by decide +kernel
theorem dX9_clearSums_56 : decode cX9_clearSums 56 = .ok (.iastore, 1) := by decide +kernel
theorem dX9_clearSums_57 : decode cX9_clearSums 57 = .ok (.aload_n 0, 1) := by decide +kernel
theorem dX9_clearSums_58 : decode cX9_clearSums 58 = .ok (.getfield 105, 3) := by decide +kernel
theorem dX9_clearSums_61 : decode cX9_clearSums 61 = .ok (.iload_n 1, 1) := by decide +kernel
theorem dX9_clearSums_62 : decode cX9_clearSums 62 = .ok (.iconst 0, 1) := by decide +kernel
theorem dX9_clearSums_63 : decode cX9_clearSums 63 = .ok (.iastore, 1) := by decide +kernel
theorem dX9_clearSums_64 : decode cX9_clearSums 64 = .ok (.iinc 1 1, 3) := by decide +kernel
theorem dX9_clearSums_67 : decode cX9_clearSums 67 = .ok (.goto (-23), 3) := by decide +kernel
theorem dX9_clearSums_70 : decode cX9_clearSums 70 = .ok (.aload_n 0, 1) := by decide +kernel
theorem dX9_clearSums_71 : decode cX9_clearSums 71 = .ok (.iconst 0, 1) := by decide +kernel
theorem dX9_clearSums_72 : decode cX9_clearSums 72 = .ok (.putfield 401, 3) := by decide +kernel
theorem dX9_clearSums_75 : decode cX9_clearSums 75 = .ok (.aload_n 0, 1) := by decide +kernel
theorem dX9_clearSums_76 : decode cX9_clearSums 76 = .ok (.iconst 0, 1) := by decide +kernel
theorem dX9_clearSums_77 : decode cX9_clearSums 77 = .ok (.putfield 404, 3) := by decide +kernel
theorem dX9_clearSums_80 : decode cX9_clearSums 80 = .ok (.return_, 1) := by decide +kernel
noncomputable def kb_X9_clearSums_44 (F : Nat) (self : AK) : AK := ak_iload 1 (ak_push (vI 14) (ak_cmplt (ak_aload 0 (ak_getf 9 58 (ak_iload 1 (ak_push (vI 0) (ak_iast (ak_aload 0 (ak_getf 9 59 (ak_iload 1 (ak_push (vI 0) (ak_iast (ak_iinc 1 1 self))))))))))) (ak_aload 0 (ak_push (vI 0) (ak_putf 9 60 (ak_aload 0 (ak_push (vI 0) (ak_putf 9 61 ak_return))))))))
noncomputable def k_X9_clearSums_44 (F : Nat) (n : Nat) : AK := Nat.rec (motive := fun _ => AK) ak_none (fun _ self => kb_X9_clearSums_44 F self) n
set_option maxRecDepth 20000 in
theorem sk_X9_clearSums_44 (F : Nat) : ∀ n, Snd X0 RX9 cX9_clearSums 2 0 44 (k_X9_clearSums_44 F n) := by
  intro n
  induction n with
  | zero => exact snd_none
  | succ n ih =>
    show Snd X0 RX9 cX9_clearSums 2 0 44 (kb_X9_clearSums_44 F (k_X9_clearSums_44 F n))
    unfold kb_X9_clearSums_44
    exact snd_iload_n (pc := 44) (i := 1) dX9_clearSums_44 (snd_bipush (pc := 45) (by decide) dX9_clearSums_45 (snd_icmpge (pc := 47) (off := 23) (tgt := 70) (by decide) dX9_clearSums_47 (snd_aload_n (pc := 70) (i := 0) dX9_clearSums_70 (snd_iconst (pc := 71) dX9_clearSums_71 (snd_putf (pc := 72) cls9 (f := 60) (by decide) rfl rfl rfl wd_1363 dX9_clearSums_72 (snd_aload_n (pc := 75) (i := 0) dX9_clearSums_75 (snd_iconst (pc := 76) dX9_clearSums_76 (snd_putf (pc := 77) cls9 (f := 61) (by decide) rfl rfl rfl wd_1364 dX9_clearSums_77 (snd_return dX9_clearSums_80))))))) (snd_aload_n (pc := 50) (i := 0) dX9_clearSums_50 (snd_getf (pc := 51) cls9 (f := 58) (by decide) wd_1361 dX9_clearSums_51 (snd_iload_n (pc := 54) (i := 1) dX9_clearSums_54 (snd_iconst (pc := 55) dX9_clearSums_55 (snd_iast (pc := 56) dX9_clearSums_56 (snd_aload_n (pc := 57) (i := 0) dX9_clearSums_57 (snd_getf (pc := 58) cls9 (f := 59) (by decide) wd_1362 dX9_clearSums_58 (snd_iload_n (pc := 61) (i := 1) dX9_clearSums_61 (snd_iconst (pc := 62) dX9_clearSums_62 (snd_iast (pc := 63) dX9_clearSums_63 (snd_iinc (pc := 64) (i := 1) (n := 1) (by decide) dX9_clearSums_64 (snd_goto (pc := 67) (off := (-23)) (tgt := 44) (by decide) dX9_clearSums_67 (ih)))))))))))))))
noncomputable def kb_X9_clearSums_2 (F : Nat) (self : AK) : AK := ak_iload 1 (ak_push (vI 8) (ak_cmplt (ak_aload 0 (ak_getf 9 54 (ak_iload 1 (ak_push (vI 0) (ak_iast (ak_aload 0 (ak_getf 9 55 (ak_iload 1 (ak_push (vI 0) (ak_iast (ak_aload 0 (ak_getf 9 56 (ak_iload 1 (ak_push (vI 0) (ak_iast (ak_aload 0 (ak_getf 9 57 (ak_iload 1 (ak_push (vI 0) (ak_iast (ak_iinc 1 1 self))))))))))))))))))))) (ak_push (vI 0) (ak_istore 1 ((k_X9_clearSums_44 F F))))))
noncomputable def k_X9_clearSums_2 (F : Nat) (n : Nat) : AK := Nat.rec (motive := fun _ => AK) ak_none (fun _ self => kb_X9_clearSums_2 F self) n
set_option maxRecDepth 20000 in
theorem sk_X9_clearSums_2 (F : Nat) : ∀ n, Snd X0 RX9 cX9_clearSums 2 0 2 (k_X9_clearSums_2 F n) := by
  intro n
  induction n with
  | zero => exact snd_none
  | succ n ih =>
    show Snd X0 RX9 cX9_clearSums 2 0 2 (kb_X9_clearSums_2 F (k_X9_clearSums_2 F n))
    unfold kb_X9_clearSums_2
    exact snd_iload_n (pc := 2) (i := 1) dX9_clearSums_2 (snd_bipush (pc := 3) (by decide) dX9_clearSums_3 (snd_icmpge (pc := 5) (off := 37) (tgt := 42) (by decide) dX9_clearSums_5 (snd_iconst (pc := 42) dX9_clearSums_42 (snd_istore_n (pc := 43) (i := 1) (by decide) dX9_clearSums_43 ((sk_X9_clearSums_44 F F)))) (snd_aload_n (pc := 8) (i := 0) dX9_clearSums_8 (snd_getf (pc := 9) cls9 (f := 54) (by decide) wd_1357 dX9_clearSums_9 (snd_iload_n (pc := 12) (i := 1) dX9_clearSums_12 (snd_iconst (pc := 13) dX9_clearSums_13 (snd_iast (pc := 14) dX9_clearSums_14 (snd_aload_n (pc := 15) (i := 0) dX9_clearSums_15 (snd_getf (pc := 16) cls9 (f := 55) (by decide) wd_1358 dX9_clearSums_16 (snd_iload_n (pc := 19) (i := 1) dX9_clearSums_19 (snd_iconst (pc := 20) dX9_clearSums_20 (snd_iast (pc := 21) dX9_clearSums_21 (snd_aload_n (pc := 22) (i := 0) dX9_clearSums_22 (snd_getf (pc := 23) cls9 (f := 56) (by decide) wd_1359 dX9_clearSums_23 (snd_iload_n (pc := 26) (i := 1) dX9_clearSums_26 (snd_iconst (pc := 27) dX9_clearSums_27 (snd_iast (pc := 28) dX9_clearSums_28 (snd_aload_n (pc := 29) (i := 0) dX9_clearSums_29 (snd_getf (pc := 30) cls9 (f := 57) (by decide) wd_1360 dX9_clearSums_30 (snd_iload_n (pc := 33) (i := 1) dX9_clearSums_33 (snd_iconst (pc := 34) dX9_clearSums_34 (snd_iast (pc := 35) dX9_clearSums_35 (snd_iinc (pc := 36) (i := 1) (n := 1) (by decide) dX9_clearSums_36 (snd_goto (pc := 39) (off := (-37)) (tgt := 2) (by decide) dX9_clearSums_39 (ih)))))))))))))))))))))))))
noncomputable def k_X9_clearSums (F : Nat) : AK := ak_push (vI 0) (ak_istore 1 ((k_X9_clearSums_2 F F)))
noncomputable def m_X9_clearSums (F : Nat) : AF := mkF 0 2 (k_X9_clearSums F)
set_option maxRecDepth 20000 in
theorem s_X9_clearSums (F : Nat) : MA yX9_clearSums cX9_clearSums 2 none 0 (m_X9_clearSums F) := met_of (Or.inl ⟨rfl, rfl⟩) (by decide) (by
  unfold k_X9_clearSums
  exact snd_iconst (pc := 0) dX9_clearSums_0 (snd_istore_n (pc := 1) (i := 1) (by decide) dX9_clearSums_1 ((sk_X9_clearSums_2 F F))))

/-! LastWalkerModel.nextErrand(I)I -/
theorem dX9_nextErrand_0 : decode cX9_nextErrand 0 = .ok (.iconst (-1), 1) := by decide +kernel
theorem dX9_nextErrand_1 : decode cX9_nextErrand 1 = .ok (.istore_n 2, 1) := by decide +kernel
theorem dX9_nextErrand_2 : decode cX9_nextErrand 2 = .ok (.iconst 0, 1) := by decide +kernel
theorem dX9_nextErrand_3 : decode cX9_nextErrand 3 = .ok (.istore_n 3, 1) := by decide +kernel
theorem dX9_nextErrand_4 : decode cX9_nextErrand 4 = .ok (.iload_n 3, 1) := by decide +kernel
theorem dX9_nextErrand_5 : decode cX9_nextErrand 5 = .ok (.aload_n 0, 1) := by decide +kernel
theorem dX9_nextErrand_6 : decode cX9_nextErrand 6 = .ok (.getfield 267, 3) := by decide +kernel
theorem dX9_nextErrand_9 : decode cX9_nextErrand 9 = .ok (.if_icmp .ge 43, 3) := by decide +kernel
theorem dX9_nextErrand_12 : decode cX9_nextErrand 12 = .ok (.iload_n 1, 1) := by decide +kernel
theorem dX9_nextErrand_13 : decode cX9_nextErrand 13 = .ok (.iload_n 3, 1) := by decide +kernel
theorem dX9_nextErrand_14 : decode cX9_nextErrand 14 = .ok (.invokestatic 407, 3) := by decide +kernel
theorem dX9_nextErrand_17 : decode cX9_nextErrand 17 = .ok (.ifCond .eq 27, 3) := by decide +kernel
theorem dX9_nextErrand_20 : decode cX9_nextErrand 20 = .ok (.iload_n 2, 1) := by decide +kernel
theorem dX9_nextErrand_21 : decode cX9_nextErrand 21 = .ok (.iconst (-1), 1) := by decide +kernel
theorem dX9_nextErrand_22 : decode cX9_nextErrand 22 = .ok (.if_icmp .eq 18, 3) := by decide +kernel
theorem dX9_nextErrand_25 : decode cX9_nextErrand 25 = .ok (.aload_n 0, 1) := by decide +kernel
theorem dX9_nextErrand_26 : decode cX9_nextErrand 26 = .ok (.getfield 81, 3) := by decide +kernel
theorem dX9_nextErrand_29 : decode cX9_nextErrand 29 = .ok (.iload_n 3, 1) := by decide +kernel
theorem dX9_nextErrand_30 : decode cX9_nextErrand 30 = .ok (.iaload, 1) := by decide +kernel
theorem dX9_nextErrand_31 : decode cX9_nextErrand 31 = .ok (.aload_n 0, 1) := by decide +kernel
theorem dX9_nextErrand_32 : decode cX9_nextErrand 32 = .ok (.getfield 81, 3) := by decide +kernel
theorem dX9_nextErrand_35 : decode cX9_nextErrand 35 = .ok (.iload_n 2, 1) := by decide +kernel
theorem dX9_nextErrand_36 : decode cX9_nextErrand 36 = .ok (.iaload, 1) := by decide +kernel
theorem dX9_nextErrand_37 : decode cX9_nextErrand 37 = .ok (.if_icmp .ge 7, 3) := by decide +kernel
theorem dX9_nextErrand_40 : decode cX9_nextErrand 40 = .ok (.iload_n 3, 1) := by decide +kernel
theorem dX9_nextErrand_41 : decode cX9_nextErrand 41 = .ok (.goto 4, 3) := by decide +kernel
theorem dX9_nextErrand_44 : decode cX9_nextErrand 44 = .ok (.iload_n 2, 1) := by decide +kernel
theorem dX9_nextErrand_45 : decode cX9_nextErrand 45 = .ok (.istore_n 2, 1) := by decide +kernel
theorem dX9_nextErrand_46 : decode cX9_nextErrand 46 = .ok (.iinc 3 1, 3) := by decide +kernel
theorem dX9_nextErrand_49 : decode cX9_nextErrand 49 = .ok (.goto (-45), 3) := by decide +kernel
theorem dX9_nextErrand_52 : decode cX9_nextErrand 52 = .ok (.iload_n 2, 1) := by decide +kernel
theorem dX9_nextErrand_53 : decode cX9_nextErrand 53 = .ok (.ireturn, 1) := by decide +kernel
noncomputable def k_X9_nextErrand_45 (F : Nat) (h4 : AK) : AK := ak_istore 2 (ak_iinc 3 1 h4)
set_option maxRecDepth 20000 in
theorem sk_X9_nextErrand_45 (F : Nat) {h4 : AK} (hh4 : Snd X0 RX9 cX9_nextErrand 4 1 4 h4) : Snd X0 RX9 cX9_nextErrand 4 1 45 (k_X9_nextErrand_45 F h4) := by
  unfold k_X9_nextErrand_45
  exact snd_istore_n (pc := 45) (i := 2) (by decide) dX9_nextErrand_45 (snd_iinc (pc := 46) (i := 3) (n := 1) (by decide) dX9_nextErrand_46 (snd_goto (pc := 49) (off := (-45)) (tgt := 4) (by decide) dX9_nextErrand_49 (hh4)))
noncomputable def k_X9_nextErrand_40 (F : Nat) (h4 : AK) : AK := ak_iload 3 ((k_X9_nextErrand_45 F h4))
set_option maxRecDepth 20000 in
theorem sk_X9_nextErrand_40 (F : Nat) {h4 : AK} (hh4 : Snd X0 RX9 cX9_nextErrand 4 1 4 h4) : Snd X0 RX9 cX9_nextErrand 4 1 40 (k_X9_nextErrand_40 F h4) := by
  unfold k_X9_nextErrand_40
  exact snd_iload_n (pc := 40) (i := 3) dX9_nextErrand_40 (snd_goto (pc := 41) (off := 4) (tgt := 45) (by decide) dX9_nextErrand_41 ((sk_X9_nextErrand_45 F hh4)))
noncomputable def k_X9_nextErrand_44 (F : Nat) (h4 : AK) : AK := ak_iload 2 ((k_X9_nextErrand_45 F h4))
set_option maxRecDepth 20000 in
theorem sk_X9_nextErrand_44 (F : Nat) {h4 : AK} (hh4 : Snd X0 RX9 cX9_nextErrand 4 1 4 h4) : Snd X0 RX9 cX9_nextErrand 4 1 44 (k_X9_nextErrand_44 F h4) := by
  unfold k_X9_nextErrand_44
  exact snd_iload_n (pc := 44) (i := 2) dX9_nextErrand_44 ((sk_X9_nextErrand_45 F hh4))
noncomputable def kb_X9_nextErrand_4 (F : Nat) (self : AK) : AK := ak_iload 3 (ak_aload 0 (ak_getf 9 25 (ak_cmplt (ak_iload 1 (ak_iload 3 (ak_call 2 (m_X9_has F) (ak_ifeq ((k_X9_nextErrand_44 F self)) (ak_iload 2 (ak_push (vI (-1)) (ak_cmpeq ((k_X9_nextErrand_40 F self)) (ak_aload 0 (ak_getf 9 51 (ak_iload 3 (ak_iald (ak_aload 0 (ak_getf 9 51 (ak_iload 2 (ak_iald (ak_cmplt ((k_X9_nextErrand_40 F self)) ((k_X9_nextErrand_44 F self)))))))))))))))))) (ak_iload 2 ak_ireturn))))
noncomputable def k_X9_nextErrand_4 (F : Nat) (n : Nat) : AK := Nat.rec (motive := fun _ => AK) ak_none (fun _ self => kb_X9_nextErrand_4 F self) n
set_option maxRecDepth 20000 in
theorem sk_X9_nextErrand_4 (F : Nat) : ∀ n, Snd X0 RX9 cX9_nextErrand 4 1 4 (k_X9_nextErrand_4 F n) := by
  intro n
  induction n with
  | zero => exact snd_none
  | succ n ih =>
    show Snd X0 RX9 cX9_nextErrand 4 1 4 (kb_X9_nextErrand_4 F (k_X9_nextErrand_4 F n))
    unfold kb_X9_nextErrand_4
    exact snd_iload_n (pc := 4) (i := 3) dX9_nextErrand_4 (snd_aload_n (pc := 5) (i := 0) dX9_nextErrand_5 (snd_getf (pc := 6) cls9 (f := 25) (by decide) wd_1328 dX9_nextErrand_6 (snd_icmpge (pc := 9) (off := 43) (tgt := 52) (by decide) dX9_nextErrand_9 (snd_iload_n (pc := 52) (i := 2) dX9_nextErrand_52 (snd_ireturn dX9_nextErrand_53)) (snd_iload_n (pc := 12) (i := 1) dX9_nextErrand_12 (snd_iload_n (pc := 13) (i := 3) dX9_nextErrand_13 (snd_callS (pc := 14) (n := 2) (s_X9_has F) (by decide) (by decide) wd_1806 wd_1804 wd_1805 wd_129 hy_X9_has dX9_nextErrand_14 (snd_ifeq (pc := 17) (off := 27) (tgt := 44) (by decide) dX9_nextErrand_17 ((sk_X9_nextErrand_44 F ih)) (snd_iload_n (pc := 20) (i := 2) dX9_nextErrand_20 (snd_iconst (pc := 21) dX9_nextErrand_21 (snd_icmpeq (pc := 22) (off := 18) (tgt := 40) (by decide) dX9_nextErrand_22 ((sk_X9_nextErrand_40 F ih)) (snd_aload_n (pc := 25) (i := 0) dX9_nextErrand_25 (snd_getf (pc := 26) cls9 (f := 51) (by decide) wd_1354 dX9_nextErrand_26 (snd_iload_n (pc := 29) (i := 3) dX9_nextErrand_29 (snd_iald (pc := 30) dX9_nextErrand_30 (snd_aload_n (pc := 31) (i := 0) dX9_nextErrand_31 (snd_getf (pc := 32) cls9 (f := 51) (by decide) wd_1354 dX9_nextErrand_32 (snd_iload_n (pc := 35) (i := 2) dX9_nextErrand_35 (snd_iald (pc := 36) dX9_nextErrand_36 (snd_icmpge (pc := 37) (off := 7) (tgt := 44) (by decide) dX9_nextErrand_37 ((sk_X9_nextErrand_44 F ih)) ((sk_X9_nextErrand_40 F ih)))))))))))))))))))))
noncomputable def k_X9_nextErrand (F : Nat) : AK := ak_push (vI (-1)) (ak_istore 2 (ak_push (vI 0) (ak_istore 3 ((k_X9_nextErrand_4 F F)))))
noncomputable def m_X9_nextErrand (F : Nat) : AF := mkF 1 4 (k_X9_nextErrand F)
set_option maxRecDepth 20000 in
theorem s_X9_nextErrand (F : Nat) : MA yX9_nextErrand cX9_nextErrand 4 (some .int) 1 (m_X9_nextErrand F) := met_of (Or.inr (Or.inl ⟨rfl, rfl⟩)) (by decide) (by
  unfold k_X9_nextErrand
  exact snd_iconst (pc := 0) dX9_nextErrand_0 (snd_istore_n (pc := 1) (i := 2) (by decide) dX9_nextErrand_1 (snd_iconst (pc := 2) dX9_nextErrand_2 (snd_istore_n (pc := 3) (i := 3) (by decide) dX9_nextErrand_3 ((sk_X9_nextErrand_4 F F))))))
