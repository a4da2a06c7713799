/-! LastWalkerModel.left(II)I -/
theorem dX9_left_0 : decode cX9_left 0 = .ok (.aload_n 0, 1) := by decide +kernel
theorem dX9_left_1 : decode cX9_left 1 = .ok (.iconst 0, 1) := by decide +kernel
theorem dX9_left_2 : decode cX9_left 2 = .ok (.putfield 112, 3) := by decide +kernel
theorem dX9_left_5 : decode cX9_left 5 = .ok (.aload_n 0, 1) := by decide +kernel
theorem dX9_left_6 : decode cX9_left 6 = .ok (.iload_n 1, 1) := by decide +kernel
theorem dX9_left_7 : decode cX9_left 7 = .ok (.iconst 0, 1) := by decide +kernel
theorem dX9_left_8 : decode cX9_left 8 = .ok (.invokevirtual 432, 3) := by decide +kernel
theorem dX9_left_11 : decode cX9_left 11 = .ok (.ifCond .eq 11, 3) := by decide +kernel
theorem dX9_left_14 : decode cX9_left 14 = .ok (.aload_n 0, 1) := by decide +kernel
theorem dX9_left_15 : decode cX9_left 15 = .ok (.iload_n 2, 1) := by decide +kernel
theorem dX9_left_16 : decode cX9_left 16 = .ok (.invokevirtual 373, 3) := by decide +kernel
theorem dX9_left_19 : decode cX9_left 19 = .ok (.ifCond .ne 5, 3) := by decide +kernel
theorem dX9_left_22 : decode cX9_left 22 = .ok (.iconst (-1), 1) := by decide +kernel
theorem dX9_left_23 : decode cX9_left 23 = .ok (.ireturn, 1) := by decide +kernel
theorem dX9_left_24 : decode cX9_left 24 = .ok (.iconst 0, 1) := by decide +kernel
theorem dX9_left_25 : decode cX9_left 25 = .ok (.istore_n 3, 1) := by decide +kernel
theorem dX9_left_26 : decode cX9_left 26 = .ok (.iconst 0, 1) := by decide +kernel
theorem dX9_left_27 : decode cX9_left 27 = .ok (.istore 4, 2) := by decide +kernel
theorem dX9_left_29 : decode cX9_left 29 = .ok (.iload 4, 2) := by decide +kernel
theorem dX9_left_31 : decode cX9_left 31 = .ok (.aload_n 0, 1) := by decide +kernel
theorem dX9_left_32 : decode cX9_left 32 = .ok (.getfield 258, 3) := by decide +kernel
theorem dX9_left_35 : decode cX9_left 35 = .ok (.if_icmp .ge 35, 3) := by decide +kernel
theorem dX9_left_38 : decode cX9_left 38 = .ok (.iload_n 3, 1) := by decide +kernel
theorem dX9_left_39 : decode cX9_left 39 = .ok (.aload_n 0, 1) := by decide +kernel
theorem dX9_left_40 : decode cX9_left 40 = .ok (.getfield 75, 3) := by decide +kernel
theorem dX9_left_43 : decode cX9_left 43 = .ok (.bipush 9, 2) := by decide +kernel
theorem dX9_left_45 : decode cX9_left 45 = .ok (.iload_n 2, 1) := by decide +kernel
theorem dX9_left_46 : decode cX9_left 46 = .ok (.imul, 1) := by decide +kernel
theorem dX9_left_47 : decode cX9_left 47 = .ok (.iload 4, 2) := by decide +kernel
theorem dX9_left_49 : decode cX9_left 49 = .ok (.iadd, 1) := by decide +kernel
theorem dX9_left_50 : decode cX9_left 50 = .ok (.iaload, 1) := by decide +kernel
theorem dX9_left_51 : decode cX9_left 51 = .ok (.ldc_w 396, 3) := by decide +kernel
theorem dX9_left_54 : decode cX9_left 54 = .ok (.if_icmp .ne 7, 3) := by decide +kernel
theorem dX9_left_57 : decode cX9_left 57 = .ok (.iconst 1, 1) := by decide +kernel
theorem dX9_left_58 : decode cX9_left 58 = .ok (.goto 4, 3) := by decide +kernel
theorem dX9_left_61 : decode cX9_left 61 = .ok (.iconst 0, 1) := by decide +kernel
theorem dX9_left_62 : decode cX9_left 62 = .ok (.iadd, 1) := by decide +kernel
theorem dX9_left_63 : decode cX9_left 63 = .ok (.istore_n 3, 1) := by decide +kernel
theorem dX9_left_64 : decode cX9_left 64 = .ok (.iinc 4 1, 3) := by decide +kernel
theorem dX9_left_67 : decode cX9_left 67 = .ok (.goto (-38), 3) := by decide +kernel
theorem dX9_left_70 : decode cX9_left 70 = .ok (.iload_n 3, 1) := by decide +kernel
theorem dX9_left_71 : decode cX9_left 71 = .ok (.ireturn, 1) := by decide +kernel
noncomputable def k_X9_left_62 (F : Nat) (h29 : AK) : AK := ak_iadd (ak_istore 3 (ak_iinc 4 1 h29))
set_option maxRecDepth 20000 in
theorem sk_X9_left_62 (F : Nat) {h29 : AK} (hh29 : Snd X0 RX9 cX9_left 5 4 29 h29) : Snd X0 RX9 cX9_left 5 4 62 (k_X9_left_62 F h29) := by
  unfold k_X9_left_62
  exact snd_iadd (pc := 62) dX9_left_62 (snd_istore_n (pc := 63) (i := 3) (by decide) dX9_left_63 (snd_iinc (pc := 64) (i := 4) (n := 1) (by decide) dX9_left_64 (snd_goto (pc := 67) (off := (-38)) (tgt := 29) (by decide) dX9_left_67 (hh29))))
noncomputable def kb_X9_left_29 (F : Nat) (self : AK) : AK := ak_iload 4 (ak_aload 0 (ak_getf 9 22 (ak_cmplt (ak_iload 3 (ak_aload 0 (ak_getf 9 49 (ak_push (vI 9) (ak_iload 2 (ak_imul (ak_iload 4 (ak_iadd (ak_iald (ak_push (vI 100000) (ak_cmpeq (ak_push (vI 1) ((k_X9_left_62 F self))) (ak_push (vI 0) ((k_X9_left_62 F self)))))))))))))) (ak_iload 3 ak_ireturn))))
noncomputable def k_X9_left_29 (F : Nat) (n : Nat) : AK := Nat.rec (motive := fun _ => AK) ak_none (fun _ self => kb_X9_left_29 F self) n
set_option maxRecDepth 20000 in
theorem sk_X9_left_29 (F : Nat) : ∀ n, Snd X0 RX9 cX9_left 5 4 29 (k_X9_left_29 F n) := by
  intro n
  induction n with
  | zero => exact snd_none
  | succ n ih =>
    show Snd X0 RX9 cX9_left 5 4 29 (kb_X9_left_29 F (k_X9_left_29 F n))
    unfold kb_X9_left_29
    exact snd_iload (pc := 29) (i := 4) dX9_left_29 (snd_aload_n (pc := 31) (i := 0) dX9_left_31 (snd_getf (pc := 32) cls9 (f := 22) (by decide) wd_1325 dX9_left_32 (snd_icmpge (pc := 35) (off := 35) (tgt := 70) (by decide) dX9_left_35 (snd_iload_n (pc := 70) (i := 3) dX9_left_70 (snd_ireturn dX9_left_71)) (snd_iload_n (pc := 38) (i := 3) dX9_left_38 (snd_aload_n (pc := 39) (i := 0) dX9_left_39 (snd_getf (pc := 40) cls9 (f := 49) (by decide) wd_1352 dX9_left_40 (snd_bipush (pc := 43) (by decide) dX9_left_43 (snd_iload_n (pc := 45) (i := 2) dX9_left_45 (snd_imul (pc := 46) dX9_left_46 (snd_iload (pc := 47) (i := 4) dX9_left_47 (snd_iadd (pc := 49) dX9_left_49 (snd_iald (pc := 50) dX9_left_50 (snd_ldcw (pc := 51) (z := (100000)) (by decide) wd_1782 dX9_left_51 (snd_icmpne (pc := 54) (off := 7) (tgt := 61) (by decide) dX9_left_54 (snd_iconst (pc := 61) dX9_left_61 ((sk_X9_left_62 F ih))) (snd_iconst (pc := 57) dX9_left_57 (snd_goto (pc := 58) (off := 4) (tgt := 62) (by decide) dX9_left_58 ((sk_X9_left_62 F ih))))))))))))))))))
noncomputable def k_X9_left (F : Nat) : AK := ak_aload 0 (ak_push (vI 0) (ak_putf 9 0 (ak_aload 0 (ak_iload 1 (ak_push (vI 0) (ak_callv 9 2 (m_X9_layErrands F) (ak_ifeq (ak_push (vI (-1)) ak_ireturn) (ak_aload 0 (ak_iload 2 (ak_callv 9 1 (m_X9_isPlace F) (ak_ifeq (ak_push (vI (-1)) ak_ireturn) (ak_push (vI 0) (ak_istore 3 (ak_push (vI 0) (ak_istore 4 ((k_X9_left_29 F F)))))))))))))))))
noncomputable def m_X9_left (F : Nat) : AF := mkF 1 5 (k_X9_left F)
set_option maxRecDepth 20000 in
theorem s_X9_left (F : Nat) : MA yX9_left cX9_left 5 (some .int) 4 (m_X9_left F) := met_of (Or.inr (Or.inl ⟨rfl, rfl⟩)) (by decide) (by
  unfold k_X9_left
  exact snd_aload_n (pc := 0) (i := 0) dX9_left_0 (snd_iconst (pc := 1) dX9_left_1 (snd_putf (pc := 2) cls9 (f := 0) (by decide) rfl rfl rfl wd_1303 dX9_left_2 (snd_aload_n (pc := 5) (i := 0) dX9_left_5 (snd_iload_n (pc := 6) (i := 1) dX9_left_6 (snd_iconst (pc := 7) dX9_left_7 (snd_callV (pc := 8) (n := 2) cls9 (s_X9_layErrands F) (by decide) (by decide) wd_1777 wd_1774 wd_1776 wd_97 wd_129 hy_X9_layErrands dX9_left_8 (snd_ifeq (pc := 11) (off := 11) (tgt := 22) (by decide) dX9_left_11 (snd_iconst (pc := 22) dX9_left_22 (snd_ireturn dX9_left_23)) (snd_aload_n (pc := 14) (i := 0) dX9_left_14 (snd_iload_n (pc := 15) (i := 2) dX9_left_15 (snd_callV (pc := 16) (n := 1) cls9 (s_X9_isPlace F) (by decide) (by decide) wd_1728 wd_1725 wd_1727 wd_89 wd_129 hy_X9_isPlace dX9_left_16 (snd_ifne (pc := 19) (off := 5) (tgt := 24) (by decide) dX9_left_19 (snd_iconst (pc := 24) dX9_left_24 (snd_istore_n (pc := 25) (i := 3) (by decide) dX9_left_25 (snd_iconst (pc := 26) dX9_left_26 (snd_istore (pc := 27) (i := 4) (by decide) dX9_left_27 ((sk_X9_left_29 F F)))))) (snd_iconst (pc := 22) dX9_left_22 (snd_ireturn dX9_left_23))))))))))))))

/-! LastWalkerModel.minutes(III)I -/
theorem dX9_minutes_0 : decode cX9_minutes 0 = .ok (.aload_n 0, 1) := by decide +kernel
theorem dX9_minutes_1 : decode cX9_minutes 1 = .ok (.iconst 0, 1) := by decide +kernel
theorem dX9_minutes_2 : decode cX9_minutes 2 = .ok (.putfield 112, 3) := by decide +kernel
theorem dX9_minutes_5 : decode cX9_minutes 5 = .ok (.aload_n 0, 1) := by decide +kernel
theorem dX9_minutes_6 : decode cX9_minutes 6 = .ok (.iload_n 1, 1) := by decide +kernel
theorem dX9_minutes_7 : decode cX9_minutes 7 = .ok (.iconst 0, 1) := by decide +kernel
theorem dX9_minutes_8 : decode cX9_minutes 8 = .ok (.invokevirtual 432, 3) := by decide +kernel
theorem dX9_minutes_11 : decode cX9_minutes 11 = .ok (.ifCond .eq 19, 3) := by decide +kernel
theorem dX9_minutes_14 : decode cX9_minutes 14 = .ok (.aload_n 0, 1) := by decide +kernel
theorem dX9_minutes_15 : decode cX9_minutes 15 = .ok (.iload_n 2, 1) := by decide +kernel
theorem dX9_minutes_16 : decode cX9_minutes 16 = .ok (.invokevirtual 373, 3) := by decide +kernel
theorem dX9_minutes_19 : decode cX9_minutes 19 = .ok (.ifCond .eq 11, 3) := by decide +kernel
theorem dX9_minutes_22 : decode cX9_minutes 22 = .ok (.aload_n 0, 1) := by decide +kernel
theorem dX9_minutes_23 : decode cX9_minutes 23 = .ok (.iload_n 3, 1) := by decide +kernel
theorem dX9_minutes_24 : decode cX9_minutes 24 = .ok (.invokevirtual 373, 3) := by decide +kernel
theorem dX9_minutes_27 : decode cX9_minutes 27 = .ok (.ifCond .ne 5, 3) := by decide +kernel
theorem dX9_minutes_30 : decode cX9_minutes 30 = .ok (.iconst (-1), 1) := by decide +kernel
theorem dX9_minutes_31 : decode cX9_minutes 31 = .ok (.ireturn, 1) := by decide +kernel
theorem dX9_minutes_32 : decode cX9_minutes 32 = .ok (.aload_n 0, 1) := by decide +kernel
theorem dX9_minutes_33 : decode cX9_minutes 33 = .ok (.getfield 75, 3) := by decide +kernel
theorem dX9_minutes_36 : decode cX9_minutes 36 = .ok (.bipush 9, 2) := by decide +kernel
theorem dX9_minutes_38 : decode cX9_minutes 38 = .ok (.iload_n 2, 1) := by decide +kernel
theorem dX9_minutes_39 : decode cX9_minutes 39 = .ok (.imul, 1) := by decide +kernel
theorem dX9_minutes_40 : decode cX9_minutes 40 = .ok (.iload_n 3, 1) := by decide +kernel
theorem dX9_minutes_41 : decode cX9_minutes 41 = .ok (.iadd, 1) := by decide +kernel
theorem dX9_minutes_42 : decode cX9_minutes 42 = .ok (.iaload, 1) := by decide +kernel
theorem dX9_minutes_43 : decode cX9_minutes 43 = .ok (.ldc_w 396, 3) := by decide +kernel
theorem dX9_minutes_46 : decode cX9_minutes 46 = .ok (.if_icmp .ne 7, 3) := by decide +kernel
theorem dX9_minutes_49 : decode cX9_minutes 49 = .ok (.iconst (-1), 1) := by decide +kernel
theorem dX9_minutes_50 : decode cX9_minutes 50 = .ok (.goto 14, 3) := by decide +kernel
theorem dX9_minutes_53 : decode cX9_minutes 53 = .ok (.aload_n 0, 1) := by decide +kernel
theorem dX9_minutes_54 : decode cX9_minutes 54 = .ok (.getfield 75, 3) := by decide +kernel
theorem dX9_minutes_57 : decode cX9_minutes 57 = .ok (.bipush 9, 2) := by decide +kernel
theorem dX9_minutes_59 : decode cX9_minutes 59 = .ok (.iload_n 2, 1) := by decide +kernel
theorem dX9_minutes_60 : decode cX9_minutes 60 = .ok (.imul, 1) := by decide +kernel
theorem dX9_minutes_61 : decode cX9_minutes 61 = .ok (.iload_n 3, 1) := by decide +kernel
theorem dX9_minutes_62 : decode cX9_minutes 62 = .ok (.iadd, 1) := by decide +kernel
theorem dX9_minutes_63 : decode cX9_minutes 63 = .ok (.iaload, 1) := by decide +kernel
theorem dX9_minutes_64 : decode cX9_minutes 64 = .ok (.ireturn, 1) := by decide +kernel
noncomputable def k_X9_minutes (F : Nat) : AK := ak_aload 0 (ak_push (vI 0) (ak_putf 9 0 (ak_aload 0 (ak_iload 1 (ak_push (vI 0) (ak_callv 9 2 (m_X9_layErrands F) (ak_ifeq (ak_push (vI (-1)) ak_ireturn) (ak_aload 0 (ak_iload 2 (ak_callv 9 1 (m_X9_isPlace F) (ak_ifeq (ak_push (vI (-1)) ak_ireturn) (ak_aload 0 (ak_iload 3 (ak_callv 9 1 (m_X9_isPlace F) (ak_ifeq (ak_push (vI (-1)) ak_ireturn) (ak_aload 0 (ak_getf 9 49 (ak_push (vI 9) (ak_iload 2 (ak_imul (ak_iload 3 (ak_iadd (ak_iald (ak_push (vI 100000) (ak_cmpeq (ak_push (vI (-1)) ak_ireturn) (ak_aload 0 (ak_getf 9 49 (ak_push (vI 9) (ak_iload 2 (ak_imul (ak_iload 3 (ak_iadd (ak_iald ak_ireturn)))))))))))))))))))))))))))))))))
noncomputable def m_X9_minutes (F : Nat) : AF := mkF 1 4 (k_X9_minutes F)
set_option maxRecDepth 20000 in
theorem s_X9_minutes (F : Nat) : MA yX9_minutes cX9_minutes 4 (some .int) 4 (m_X9_minutes F) := met_of (Or.inr (Or.inl ⟨rfl, rfl⟩)) (by decide) (by
  unfold k_X9_minutes
  exact snd_aload_n (pc := 0) (i := 0) dX9_minutes_0 (snd_iconst (pc := 1) dX9_minutes_1 (snd_putf (pc := 2) cls9 (f := 0) (by decide) rfl rfl rfl wd_1303 dX9_minutes_2 (snd_aload_n (pc := 5) (i := 0) dX9_minutes_5 (snd_iload_n (pc := 6) (i := 1) dX9_minutes_6 (snd_iconst (pc := 7) dX9_minutes_7 (snd_callV (pc := 8) (n := 2) cls9 (s_X9_layErrands F) (by decide) (by decide) wd_1777 wd_1774 wd_1776 wd_97 wd_129 hy_X9_layErrands dX9_minutes_8 (snd_ifeq (pc := 11) (off := 19) (tgt := 30) (by decide) dX9_minutes_11 (snd_iconst (pc := 30) dX9_minutes_30 (snd_ireturn dX9_minutes_31)) (snd_aload_n (pc := 14) (i := 0) dX9_minutes_14 (snd_iload_n (pc := 15) (i := 2) dX9_minutes_15 (snd_callV (pc := 16) (n := 1) cls9 (s_X9_isPlace F) (by decide) (by decide) wd_1728 wd_1725 wd_1727 wd_89 wd_129 hy_X9_isPlace dX9_minutes_16 (snd_ifeq (pc := 19) (off := 11) (tgt := 30) (by decide) dX9_minutes_19 (snd_iconst (pc := 30) dX9_minutes_30 (snd_ireturn dX9_minutes_31)) (snd_aload_n (pc := 22) (i := 0) dX9_minutes_22 (snd_iload_n (pc := 23) (i := 3) dX9_minutes_23 (snd_callV (pc := 24) (n := 1) cls9 (s_X9_isPlace F) (by decide) (by decide) wd_1728 wd_1725 wd_1727 wd_89 wd_129 hy_X9_isPlace dX9_minutes_24 (snd_ifne (pc := 27) (off := 5) (tgt := 32) (by decide) dX9_minutes_27 (snd_aload_n (pc := 32) (i := 0) dX9_minutes_32 (snd_getf (pc := 33) cls9 (f := 49) (by decide) wd_1352 dX9_minutes_33 (snd_bipush (pc := 36) (by decide) dX9_minutes_36 (snd_iload_n (pc := 38) (i := 2) dX9_minutes_38 (snd_imul (pc := 39) dX9_minutes_39 (snd_iload_n (pc := 40) (i := 3) dX9_minutes_40 (snd_iadd (pc := 41) dX9_minutes_41 (snd_iald (pc := 42) dX9_minutes_42 (snd_ldcw (pc := 43) (z := (100000)) (by decide) wd_1782 dX9_minutes_43 (snd_icmpne (pc := 46) (off := 7) (tgt := 53) (by decide) dX9_minutes_46 (snd_aload_n (pc := 53) (i := 0) dX9_minutes_53 (snd_getf (pc := 54) cls9 (f := 49) (by decide) wd_1352 dX9_minutes_54 (snd_bipush (pc := 57) (by decide) dX9_minutes_57 (snd_iload_n (pc := 59) (i := 2) dX9_minutes_59 (snd_imul (pc := 60) dX9_minutes_60 (snd_iload_n (pc := 61) (i := 3) dX9_minutes_61 (snd_iadd (pc := 62) dX9_minutes_62 (snd_iald (pc := 63) dX9_minutes_63 (snd_ireturn dX9_minutes_64))))))))) (snd_iconst (pc := 49) dX9_minutes_49 (snd_goto (pc := 50) (off := 14) (tgt := 64) (by decide) dX9_minutes_50 (snd_ireturn dX9_minutes_64))))))))))))) (snd_iconst (pc := 30) dX9_minutes_30 (snd_ireturn dX9_minutes_31))))))))))))))))))

/-! LastWalkerModel.draw(I)I -/
theorem dX9_draw_0 : decode cX9_draw 0 = .ok (.aload_n 0, 1) := by decide +kernel
theorem dX9_draw_1 : decode cX9_draw 1 = .ok (.aload_n 0, 1) := by decide +kernel
theorem dX9_draw_2 : decode cX9_draw 2 = .ok (.getfield 457, 3) := by decide +kernel
theorem dX9_draw_5 : decode cX9_draw 5 = .ok (.ldc_w 460, 3) := by decide +kernel
theorem dX9_draw_8 : decode cX9_draw 8 = .ok (.imul, 1) := by decide +kernel
theorem dX9_draw_9 : decode cX9_draw 9 = .ok (.sipush 12345, 3) := by decide +kernel
theorem dX9_draw_12 : decode cX9_draw 12 = .ok (.iadd, 1) := by decide +kernel
theorem dX9_draw_13 : decode cX9_draw 13 = .ok (.putfield 457, 3) := by decide +kernel
theorem dX9_draw_16 : decode cX9_draw 16 = .ok (.aload_n 0, 1) := by decide +kernel
theorem dX9_draw_17 : decode cX9_draw 17 = .ok (.getfield 457, 3) := by decide +kernel
theorem dX9_draw_20 : decode cX9_draw 20 = .ok (.bipush 16, 2) := by decide +kernel
theorem dX9_draw_22 : decode cX9_draw 22 = .ok (.iushr, 1) := by decide +kernel
theorem dX9_draw_23 : decode cX9_draw 23 = .ok (.iload_n 1, 1) := by decide +kernel
theorem dX9_draw_24 : decode cX9_draw 24 = .ok (.irem, 1) := by decide +kernel
theorem dX9_draw_25 : decode cX9_draw 25 = .ok (.ireturn, 1) := by decide +kernel
noncomputable def k_X9_draw (F : Nat) : AK := ak_aload 0 (ak_aload 0 (ak_getf 9 62 (ak_push (vI 1103515245) (ak_imul (ak_push (vI 12345) (ak_iadd (ak_putf 9 62 (ak_aload 0 (ak_getf 9 62 (ak_push (vI 16) (ak_iushr (ak_iload 1 (ak_irem ak_ireturn)))))))))))))
noncomputable def m_X9_draw (F : Nat) : AF := mkF 1 2 (k_X9_draw F)
set_option maxRecDepth 20000 in
theorem s_X9_draw (F : Nat) : MA yX9_draw cX9_draw 2 (some .int) 0 (m_X9_draw F) := met_of (Or.inr (Or.inl ⟨rfl, rfl⟩)) (by decide) (by
  unfold k_X9_draw
  exact snd_aload_n (pc := 0) (i := 0) dX9_draw_0 (snd_aload_n (pc := 1) (i := 0) dX9_draw_1 (snd_getf (pc := 2) cls9 (f := 62) (by decide) wd_1365 dX9_draw_2 (snd_ldcw (pc := 5) (z := (1103515245)) (by decide) wd_1895 dX9_draw_5 (snd_imul (pc := 8) dX9_draw_8 (snd_sipush (pc := 9) (by decide) dX9_draw_9 (snd_iadd (pc := 12) dX9_draw_12 (snd_putf (pc := 13) cls9 (f := 62) (by decide) rfl rfl rfl wd_1365 dX9_draw_13 (snd_aload_n (pc := 16) (i := 0) dX9_draw_16 (snd_getf (pc := 17) cls9 (f := 62) (by decide) wd_1365 dX9_draw_17 (snd_bipush (pc := 20) (by decide) dX9_draw_20 (snd_iushr (pc := 22) dX9_draw_22 (snd_iload_n (pc := 23) (i := 1) dX9_draw_23 (snd_irem (pc := 24) dX9_draw_24 (snd_ireturn dX9_draw_25)))))))))))))))

/-! LastWalkerModel.days(IIII)I -/
theorem dX9_days_0 : decode cX9_days 0 = .ok (.aload_n 0, 1) := by decide +kernel
theorem dX9_days_1 : decode cX9_days 1 = .ok (.iconst 0, 1) := by decide +kernel
theorem dX9_days_2 : decode cX9_days 2 = .ok (.putfield 112, 3) := by decide +kernel
theorem dX9_days_5 : decode cX9_days 5 = .ok (.aload_n 0, 1) := by decide +kernel
theorem dX9_days_6 : decode cX9_days 6 = .ok (.iload_n 1, 1) := by decide +kernel
theorem dX9_days_7 : decode cX9_days 7 = .ok (.iconst 0, 1) := by decide +kernel
theorem dX9_days_8 : decode cX9_days 8 = .ok (.invokevirtual 432, 3) := by decide +kernel
theorem dX9_days_11 : decode cX9_days 11 = .ok (.ifCond .eq 13, 3) := by decide +kernel
theorem dX9_days_14 : decode cX9_days 14 = .ok (.iload_n 3, 1) := by decide +kernel
theorem dX9_days_15 : decode cX9_days 15 = .ok (.iconst 1, 1) := by decide +kernel
theorem dX9_days_16 : decode cX9_days 16 = .ok (.bipush 30, 2) := by decide +kernel
theorem dX9_days_18 : decode cX9_days 18 = .ok (.invokestatic 120, 3) := by decide +kernel
theorem dX9_days_21 : decode cX9_days 21 = .ok (.ifCond .ne 7, 3) := by decide +kernel
theorem dX9_days_24 : decode cX9_days 24 = .ok (.ldc_w 435, 3) := by decide +kernel
theorem dX9_days_27 : decode cX9_days 27 = .ok (.ireturn, 1) := by decide +kernel
theorem dX9_days_28 : decode cX9_days 28 = .ok (.iload 4, 2) := by decide +kernel
theorem dX9_days_30 : decode cX9_days 30 = .ok (.bipush 10, 2) := by decide +kernel
theorem dX9_days_32 : decode cX9_days 32 = .ok (.bipush 9, 2) := by decide +kernel
theorem dX9_days_34 : decode cX9_days 34 = .ok (.aload_n 0, 1) := by decide +kernel
theorem dX9_days_35 : decode cX9_days 35 = .ok (.getfield 261, 3) := by decide +kernel
theorem dX9_days_38 : decode cX9_days 38 = .ok (.iadd, 1) := by decide +kernel
theorem dX9_days_39 : decode cX9_days 39 = .ok (.invokestatic 120, 3) := by decide +kernel
theorem dX9_days_42 : decode cX9_days 42 = .ok (.istore 5, 2) := by decide +kernel
theorem dX9_days_44 : decode cX9_days 44 = .ok (.iload 4, 2) := by decide +kernel
theorem dX9_days_46 : decode cX9_days 46 = .ok (.bipush 30, 2) := by decide +kernel
theorem dX9_days_48 : decode cX9_days 48 = .ok (.bipush 29, 2) := by decide +kernel
theorem dX9_days_50 : decode cX9_days 50 = .ok (.aload_n 0, 1) := by decide +kernel
theorem dX9_days_51 : decode cX9_days 51 = .ok (.getfield 264, 3) := by decide +kernel
theorem dX9_days_54 : decode cX9_days 54 = .ok (.iadd, 1) := by decide +kernel
theorem dX9_days_55 : decode cX9_days 55 = .ok (.invokestatic 120, 3) := by decide +kernel
theorem dX9_days_58 : decode cX9_days 58 = .ok (.istore 6, 2) := by decide +kernel
theorem dX9_days_60 : decode cX9_days 60 = .ok (.iload 5, 2) := by decide +kernel
theorem dX9_days_62 : decode cX9_days 62 = .ok (.ifCond .ne 29, 3) := by decide +kernel
theorem dX9_days_65 : decode cX9_days 65 = .ok (.iload 6, 2) := by decide +kernel
theorem dX9_days_67 : decode cX9_days 67 = .ok (.ifCond .ne 24, 3) := by decide +kernel
theorem dX9_days_70 : decode cX9_days 70 = .ok (.iload 4, 2) := by decide +kernel
theorem dX9_days_72 : decode cX9_days 72 = .ok (.ifCond .eq 19, 3) := by decide +kernel
theorem dX9_days_75 : decode cX9_days 75 = .ok (.iload 4, 2) := by decide +kernel
theorem dX9_days_77 : decode cX9_days 77 = .ok (.iconst 1, 1) := by decide +kernel
theorem dX9_days_78 : decode cX9_days 78 = .ok (.if_icmp .eq 13, 3) := by decide +kernel
theorem dX9_days_81 : decode cX9_days 81 = .ok (.iload 4, 2) := by decide +kernel
theorem dX9_days_83 : decode cX9_days 83 = .ok (.iconst 3, 1) := by decide +kernel
theorem dX9_days_84 : decode cX9_days 84 = .ok (.if_icmp .eq 7, 3) := by decide +kernel
theorem dX9_days_87 : decode cX9_days 87 = .ok (.ldc_w 435, 3) := by decide +kernel
theorem dX9_days_90 : decode cX9_days 90 = .ok (.ireturn, 1) := by decide +kernel
theorem dX9_days_91 : decode cX9_days 91 = .ok (.aload_n 0, 1) := by decide +kernel
theorem dX9_days_92 : decode cX9_days 92 = .ok (.iload_n 2, 1) := by decide +kernel
theorem dX9_days_93 : decode cX9_days 93 = .ok (.putfield 457, 3) := by decide +kernel
theorem dX9_days_96 : decode cX9_days 96 = .ok (.aload_n 0, 1) := by decide +kernel
theorem dX9_days_97 : decode cX9_days 97 = .ok (.invokevirtual 417, 3) := by decide +kernel
theorem dX9_days_100 : decode cX9_days 100 = .ok (.iconst 0, 1) := by decide +kernel
theorem dX9_days_101 : decode cX9_days 101 = .ok (.istore 7, 2) := by decide +kernel
theorem dX9_days_103 : decode cX9_days 103 = .ok (.iload 7, 2) := by decide +kernel
theorem dX9_days_105 : decode cX9_days 105 = .ok (.iload_n 3, 1) := by decide +kernel
theorem dX9_days_106 : decode cX9_days 106 = .ok (.if_icmp .ge 65, 3) := by decide +kernel
theorem dX9_days_109 : decode cX9_days 109 = .ok (.iconst 0, 1) := by decide +kernel
theorem dX9_days_110 : decode cX9_days 110 = .ok (.istore 8, 2) := by decide +kernel
theorem dX9_days_112 : decode cX9_days 112 = .ok (.iconst 0, 1) := by decide +kernel
theorem dX9_days_113 : decode cX9_days 113 = .ok (.istore 9, 2) := by decide +kernel
theorem dX9_days_115 : decode cX9_days 115 = .ok (.iload 9, 2) := by decide +kernel
theorem dX9_days_117 : decode cX9_days 117 = .ok (.aload_n 0, 1) := by decide +kernel
theorem dX9_days_118 : decode cX9_days 118 = .ok (.getfield 267, 3) := by decide +kernel
theorem dX9_days_121 : decode cX9_days 121 = .ok (.if_icmp .ge 38, 3) := by decide +kernel
theorem dX9_days_124 : decode cX9_days 124 = .ok (.iload 8, 2) := by decide +kernel
theorem dX9_days_126 : decode cX9_days 126 = .ok (.aload_n 0, 1) := by decide +kernel
theorem dX9_days_127 : decode cX9_days 127 = .ok (.bipush 100, 2) := by decide +kernel
theorem dX9_days_129 : decode cX9_days 129 = .ok (.invokevirtual 461, 3) := by decide +kernel
theorem dX9_days_132 : decode cX9_days 132 = .ok (.aload_n 0, 1) := by decide +kernel
theorem dX9_days_133 : decode cX9_days 133 = .ok (.iload 9, 2) := by decide +kernel
theorem dX9_days_135 : decode cX9_days 135 = .ok (.iconst 3, 1) := by decide +kernel
theorem dX9_days_136 : decode cX9_days 136 = .ok (.invokevirtual 285, 3) := by decide +kernel
theorem dX9_days_139 : decode cX9_days 139 = .ok (.if_icmp .ge 10, 3) := by decide +kernel
theorem dX9_days_142 : decode cX9_days 142 = .ok (.iconst 1, 1) := by decide +kernel
theorem dX9_days_143 : decode cX9_days 143 = .ok (.iload 9, 2) := by decide +kernel
theorem dX9_days_145 : decode cX9_days 145 = .ok (.ishl, 1) := by decide +kernel
theorem dX9_days_146 : decode cX9_days 146 = .ok (.goto 4, 3) := by decide +kernel
theorem dX9_days_149 : decode cX9_days 149 = .ok (.iconst 0, 1) := by decide +kernel
theorem dX9_days_150 : decode cX9_days 150 = .ok (.ior, 1) := by decide +kernel
theorem dX9_days_151 : decode cX9_days 151 = .ok (.istore 8, 2) := by decide +kernel
theorem dX9_days_153 : decode cX9_days 153 = .ok (.iinc 9 1, 3) := by decide +kernel
theorem dX9_days_156 : decode cX9_days 156 = .ok (.goto (-41), 3) := by decide +kernel
theorem dX9_days_159 : decode cX9_days 159 = .ok (.aload_n 0, 1) := by decide +kernel
theorem dX9_days_160 : decode cX9_days 160 = .ok (.iload 8, 2) := by decide +kernel
theorem dX9_days_162 : decode cX9_days 162 = .ok (.invokevirtual 420, 3) := by decide +kernel
theorem dX9_days_165 : decode cX9_days 165 = .ok (.iinc 7 1, 3) := by decide +kernel
theorem dX9_days_168 : decode cX9_days 168 = .ok (.goto (-65), 3) := by decide +kernel
theorem dX9_days_171 : decode cX9_days 171 = .ok (.iload 5, 2) := by decide +kernel
theorem dX9_days_173 : decode cX9_days 173 = .ok (.ifCond .eq 16, 3) := by decide +kernel
theorem dX9_days_176 : decode cX9_days 176 = .ok (.aload_n 0, 1) := by decide +kernel
theorem dX9_days_177 : decode cX9_days 177 = .ok (.getfield 38, 3) := by decide +kernel
theorem dX9_days_180 : decode cX9_days 180 = .ok (.iload 4, 2) := by decide +kernel
theorem dX9_days_182 : decode cX9_days 182 = .ok (.bipush 10, 2) := by decide +kernel
theorem dX9_days_184 : decode cX9_days 184 = .ok (.isub, 1) := by decide +kernel
theorem dX9_days_185 : decode cX9_days 185 = .ok (.iaload, 1) := by decide +kernel
theorem dX9_days_186 : decode cX9_days 186 = .ok (.goto 39, 3) := by decide +kernel
theorem dX9_days_189 : decode cX9_days 189 = .ok (.iload 6, 2) := by decide +kernel
theorem dX9_days_191 : decode cX9_days 191 = .ok (.ifCond .eq 27, 3) := by decide +kernel
theorem dX9_days_194 : decode cX9_days 194 = .ok (.aload_n 0, 1) := by decide +kernel
theorem dX9_days_195 : decode cX9_days 195 = .ok (.getfield 96, 3) := by decide +kernel
theorem dX9_days_198 : decode cX9_days 198 = .ok (.iload 4, 2) := by decide +kernel
theorem dX9_days_200 : decode cX9_days 200 = .ok (.bipush 30, 2) := by decide +kernel
theorem dX9_days_202 : decode cX9_days 202 = .ok (.isub, 1) := by decide +kernel
theorem dX9_days_203 : decode cX9_days 203 = .ok (.iaload, 1) := by decide +kernel
theorem dX9_days_204 : decode cX9_days 204 = .ok (.aload_n 0, 1) := by decide +kernel
theorem dX9_days_205 : decode cX9_days 205 = .ok (.getfield 93, 3) := by decide +kernel
theorem dX9_days_208 : decode cX9_days 208 = .ok (.iload 4, 2) := by decide +kernel
theorem dX9_days_210 : decode cX9_days 210 = .ok (.bipush 30, 2) := by decide +kernel
theorem dX9_days_212 : decode cX9_days 212 = .ok (.isub, 1) := by decide +kernel
theorem dX9_days_213 : decode cX9_days 213 = .ok (.iaload, 1) := by decide +kernel
theorem dX9_days_214 : decode cX9_days 214 = .ok (.isub, 1) := by decide +kernel
theorem dX9_days_215 : decode cX9_days 215 = .ok (.goto 10, 3) := by decide +kernel
theorem dX9_days_218 : decode cX9_days 218 = .ok (.aload_n 0, 1) := by decide +kernel
theorem dX9_days_219 : decode cX9_days 219 = .ok (.iconst (-1), 1) := by decide +kernel
theorem dX9_days_220 : decode cX9_days 220 = .ok (.iload 4, 2) := by decide +kernel
theorem dX9_days_222 : decode cX9_days 222 = .ok (.invokevirtual 439, 3) := by decide +kernel
theorem dX9_days_225 : decode cX9_days 225 = .ok (.ireturn, 1) := by decide +kernel
noncomputable def k_X9_days_150 (F : Nat) (h103 : AK) (h115 : AK) : AK := ak_ior (ak_istore 8 (ak_iinc 9 1 h115))
set_option maxRecDepth 20000 in
theorem sk_X9_days_150 (F : Nat) {h103 h115 : AK} (hh103 : Snd X0 RX9 cX9_days 10 7 103 h103) (hh115 : Snd X0 RX9 cX9_days 10 7 115 h115) : Snd X0 RX9 cX9_days 10 7 150 (k_X9_days_150 F h103 h115) := by
  unfold k_X9_days_150
  exact snd_ior (pc := 150) dX9_days_150 (snd_istore (pc := 151) (i := 8) (by decide) dX9_days_151 (snd_iinc (pc := 153) (i := 9) (n := 1) (by decide) dX9_days_153 (snd_goto (pc := 156) (off := (-41)) (tgt := 115) (by decide) dX9_days_156 (hh115))))
noncomputable def kb_X9_days_115 (F : Nat) (h103 : AK) (self : AK) : AK := ak_iload 9 (ak_aload 0 (ak_getf 9 25 (ak_cmplt (ak_iload 8 (ak_aload 0 (ak_push (vI 100) (ak_callv 9 1 (m_X9_draw F) (ak_aload 0 (ak_iload 9 (ak_push (vI 3) (ak_callv 9 2 (m_X9_errandOf F) (ak_cmplt (ak_push (vI 1) (ak_iload 9 (ak_ishl ((k_X9_days_150 F h103 self))))) (ak_push (vI 0) ((k_X9_days_150 F h103 self)))))))))))) (ak_aload 0 (ak_iload 8 (ak_callv 9 1 (m_X9_goAll F) (ak_iinc 7 1 h103)))))))
noncomputable def k_X9_days_115 (F : Nat) (h103 : AK) (n : Nat) : AK := Nat.rec (motive := fun _ => AK) ak_none (fun _ self => kb_X9_days_115 F h103 self) n
set_option maxRecDepth 20000 in
theorem sk_X9_days_115 (F : Nat) {h103 : AK} (hh103 : Snd X0 RX9 cX9_days 10 7 103 h103) : ∀ n, Snd X0 RX9 cX9_days 10 7 115 (k_X9_days_115 F h103 n) := by
  intro n
  induction n with
  | zero => exact snd_none
  | succ n ih =>
    show Snd X0 RX9 cX9_days 10 7 115 (kb_X9_days_115 F h103 (k_X9_days_115 F h103 n))
    unfold kb_X9_days_115
    exact snd_iload (pc := 115) (i := 9) dX9_days_115 (snd_aload_n (pc := 117) (i := 0) dX9_days_117 (snd_getf (pc := 118) cls9 (f := 25) (by decide) wd_1328 dX9_days_118 (snd_icmpge (pc := 121) (off := 38) (tgt := 159) (by decide) dX9_days_121 (snd_aload_n (pc := 159) (i := 0) dX9_days_159 (snd_iload (pc := 160) (i := 8) dX9_days_160 (snd_callV (pc := 162) (n := 1) cls9 (s_X9_goAll F) (by decide) (by decide) wd_1799 wd_1796 wd_1798 wd_102 wd_129 hy_X9_goAll dX9_days_162 (snd_iinc (pc := 165) (i := 7) (n := 1) (by decide) dX9_days_165 (snd_goto (pc := 168) (off := (-65)) (tgt := 103) (by decide) dX9_days_168 (hh103)))))) (snd_iload (pc := 124) (i := 8) dX9_days_124 (snd_aload_n (pc := 126) (i := 0) dX9_days_126 (snd_bipush (pc := 127) (by decide) dX9_days_127 (snd_callV (pc := 129) (n := 1) cls9 (s_X9_draw F) (by decide) (by decide) wd_1894 wd_1891 wd_1893 wd_113 wd_129 hy_X9_draw dX9_days_129 (snd_aload_n (pc := 132) (i := 0) dX9_days_132 (snd_iload (pc := 133) (i := 9) dX9_days_133 (snd_iconst (pc := 135) dX9_days_135 (snd_callV (pc := 136) (n := 2) cls9 (s_X9_errandOf F) (by decide) (by decide) wd_1649 wd_1646 wd_1648 wd_75 wd_129 hy_X9_errandOf dX9_days_136 (snd_icmpge (pc := 139) (off := 10) (tgt := 149) (by decide) dX9_days_139 (snd_iconst (pc := 149) dX9_days_149 ((sk_X9_days_150 F hh103 ih))) (snd_iconst (pc := 142) dX9_days_142 (snd_iload (pc := 143) (i := 9) dX9_days_143 (snd_ishl (pc := 145) dX9_days_145 (snd_goto (pc := 146) (off := 4) (tgt := 150) (by decide) dX9_days_146 ((sk_X9_days_150 F hh103 ih))))))))))))))))))
noncomputable def kb_X9_days_103 (F : Nat) (self : AK) : AK := ak_iload 7 (ak_iload 3 (ak_cmplt (ak_push (vI 0) (ak_istore 8 (ak_push (vI 0) (ak_istore 9 ((k_X9_days_115 F self F)))))) (ak_iload 5 (ak_ifeq (ak_iload 6 (ak_ifeq (ak_aload 0 (ak_push (vI (-1)) (ak_iload 4 (ak_callv 9 2 (m_X9_sums F) ak_ireturn)))) (ak_aload 0 (ak_getf 9 56 (ak_iload 4 (ak_push (vI 30) (ak_isub (ak_iald (ak_aload 0 (ak_getf 9 55 (ak_iload 4 (ak_push (vI 30) (ak_isub (ak_iald (ak_isub ak_ireturn))))))))))))))) (ak_aload 0 (ak_getf 9 31 (ak_iload 4 (ak_push (vI 10) (ak_isub (ak_iald ak_ireturn))))))))))
noncomputable def k_X9_days_103 (F : Nat) (n : Nat) : AK := Nat.rec (motive := fun _ => AK) ak_none (fun _ self => kb_X9_days_103 F self) n
set_option maxRecDepth 20000 in
theorem sk_X9_days_103 (F : Nat) : ∀ n, Snd X0 RX9 cX9_days 10 7 103 (k_X9_days_103 F n) := by
  intro n
  induction n with
  | zero => exact snd_none
  | succ n ih =>
    show Snd X0 RX9 cX9_days 10 7 103 (kb_X9_days_103 F (k_X9_days_103 F n))
    unfold kb_X9_days_103
    exact snd_iload (pc := 103) (i := 7) dX9_days_103 (snd_iload_n (pc := 105) (i := 3) dX9_days_105 (snd_icmpge (pc := 106) (off := 65) (tgt := 171) (by decide) dX9_days_106 (snd_iload (pc := 171) (i := 5) dX9_days_171 (snd_ifeq (pc := 173) (off := 16) (tgt := 189) (by decide) dX9_days_173 (snd_iload (pc := 189) (i := 6) dX9_days_189 (snd_ifeq (pc := 191) (off := 27) (tgt := 218) (by decide) dX9_days_191 (snd_aload_n (pc := 218) (i := 0) dX9_days_218 (snd_iconst (pc := 219) dX9_days_219 (snd_iload (pc := 220) (i := 4) dX9_days_220 (snd_callV (pc := 222) (n := 2) cls9 (s_X9_sums F) (by decide) (by decide) wd_1814 wd_1811 wd_1813 wd_105 wd_129 hy_X9_sums dX9_days_222 (snd_ireturn dX9_days_225))))) (snd_aload_n (pc := 194) (i := 0) dX9_days_194 (snd_getf (pc := 195) cls9 (f := 56) (by decide) wd_1359 dX9_days_195 (snd_iload (pc := 198) (i := 4) dX9_days_198 (snd_bipush (pc := 200) (by decide) dX9_days_200 (snd_isub (pc := 202) dX9_days_202 (snd_iald (pc := 203) dX9_days_203 (snd_aload_n (pc := 204) (i := 0) dX9_days_204 (snd_getf (pc := 205) cls9 (f := 55) (by decide) wd_1358 dX9_days_205 (snd_iload (pc := 208) (i := 4) dX9_days_208 (snd_bipush (pc := 210) (by decide) dX9_days_210 (snd_isub (pc := 212) dX9_days_212 (snd_iald (pc := 213) dX9_days_213 (snd_isub (pc := 214) dX9_days_214 (snd_goto (pc := 215) (off := 10) (tgt := 225) (by decide) dX9_days_215 (snd_ireturn dX9_days_225))))))))))))))))) (snd_aload_n (pc := 176) (i := 0) dX9_days_176 (snd_getf (pc := 177) cls9 (f := 31) (by decide) wd_1334 dX9_days_177 (snd_iload (pc := 180) (i := 4) dX9_days_180 (snd_bipush (pc := 182) (by decide) dX9_days_182 (snd_isub (pc := 184) dX9_days_184 (snd_iald (pc := 185) dX9_days_185 (snd_goto (pc := 186) (off := 39) (tgt := 225) (by decide) dX9_days_186 (snd_ireturn dX9_days_225)))))))))) (snd_iconst (pc := 109) dX9_days_109 (snd_istore (pc := 110) (i := 8) (by decide) dX9_days_110 (snd_iconst (pc := 112) dX9_days_112 (snd_istore (pc := 113) (i := 9) (by decide) dX9_days_113 ((sk_X9_days_115 F ih F))))))))
noncomputable def k_X9_days_91 (F : Nat) : AK := ak_aload 0 (ak_iload 2 (ak_putf 9 62 (ak_aload 0 (ak_callv 9 0 (m_X9_clearSums F) (ak_push (vI 0) (ak_istore 7 ((k_X9_days_103 F F))))))))
set_option maxRecDepth 20000 in
theorem sk_X9_days_91 (F : Nat) : Snd X0 RX9 cX9_days 10 7 91 (k_X9_days_91 F) := by
  unfold k_X9_days_91
  exact snd_aload_n (pc := 91) (i := 0) dX9_days_91 (snd_iload_n (pc := 92) (i := 2) dX9_days_92 (snd_putf (pc := 93) cls9 (f := 62) (by decide) rfl rfl rfl wd_1365 dX9_days_93 (snd_aload_n (pc := 96) (i := 0) dX9_days_96 (snd_callV (pc := 97) (n := 0) cls9 (s_X9_clearSums F) (by decide) (by decide) wd_1795 wd_1792 wd_1794 wd_101 wd_129 hy_X9_clearSums dX9_days_97 (snd_iconst (pc := 100) dX9_days_100 (snd_istore (pc := 101) (i := 7) (by decide) dX9_days_101 ((sk_X9_days_103 F F))))))))
noncomputable def k_X9_days (F : Nat) : AK := ak_aload 0 (ak_push (vI 0) (ak_putf 9 0 (ak_aload 0 (ak_iload 1 (ak_push (vI 0) (ak_callv 9 2 (m_X9_layErrands F) (ak_ifeq (ak_push (vI (-100000)) ak_ireturn) (ak_iload 3 (ak_push (vI 1) (ak_push (vI 30) (ak_call 3 (m_X9_in F) (ak_ifeq (ak_push (vI (-100000)) ak_ireturn) (ak_iload 4 (ak_push (vI 10) (ak_push (vI 9) (ak_aload 0 (ak_getf 9 23 (ak_iadd (ak_call 3 (m_X9_in F) (ak_istore 5 (ak_iload 4 (ak_push (vI 30) (ak_push (vI 29) (ak_aload 0 (ak_getf 9 24 (ak_iadd (ak_call 3 (m_X9_in F) (ak_istore 6 (ak_iload 5 (ak_ifeq (ak_iload 6 (ak_ifeq (ak_iload 4 (ak_ifeq ((k_X9_days_91 F)) (ak_iload 4 (ak_push (vI 1) (ak_cmpeq ((k_X9_days_91 F)) (ak_iload 4 (ak_push (vI 3) (ak_cmpeq ((k_X9_days_91 F)) (ak_push (vI (-100000)) ak_ireturn))))))))) ((k_X9_days_91 F)))) ((k_X9_days_91 F))))))))))))))))))))))))))))))))
noncomputable def m_X9_days (F : Nat) : AF := mkF 1 10 (k_X9_days F)
set_option maxRecDepth 20000 in
theorem s_X9_days (F : Nat) : MA yX9_days cX9_days 10 (some .int) 7 (m_X9_days F) := met_of (Or.inr (Or.inl ⟨rfl, rfl⟩)) (by decide) (by
  unfold k_X9_days
  exact snd_aload_n (pc := 0) (i := 0) dX9_days_0 (snd_iconst (pc := 1) dX9_days_1 (snd_putf (pc := 2) cls9 (f := 0) (by decide) rfl rfl rfl wd_1303 dX9_days_2 (snd_aload_n (pc := 5) (i := 0) dX9_days_5 (snd_iload_n (pc := 6) (i := 1) dX9_days_6 (snd_iconst (pc := 7) dX9_days_7 (snd_callV (pc := 8) (n := 2) cls9 (s_X9_layErrands F) (by decide) (by decide) wd_1777 wd_1774 wd_1776 wd_97 wd_129 hy_X9_layErrands dX9_days_8 (snd_ifeq (pc := 11) (off := 13) (tgt := 24) (by decide) dX9_days_11 (snd_ldcw (pc := 24) (z := (-100000)) (by decide) wd_1787 dX9_days_24 (snd_ireturn dX9_days_27)) (snd_iload_n (pc := 14) (i := 3) dX9_days_14 (snd_iconst (pc := 15) dX9_days_15 (snd_bipush (pc := 16) (by decide) dX9_days_16 (snd_callS (pc := 18) (n := 3) (s_X9_in F) (by decide) (by decide) wd_1511 wd_1509 wd_1510 wd_129 hy_X9_in dX9_days_18 (snd_ifne (pc := 21) (off := 7) (tgt := 28) (by decide) dX9_days_21 (snd_iload (pc := 28) (i := 4) dX9_days_28 (snd_bipush (pc := 30) (by decide) dX9_days_30 (snd_bipush (pc := 32) (by decide) dX9_days_32 (snd_aload_n (pc := 34) (i := 0) dX9_days_34 (snd_getf (pc := 35) cls9 (f := 23) (by decide) wd_1326 dX9_days_35 (snd_iadd (pc := 38) dX9_days_38 (snd_callS (pc := 39) (n := 3) (s_X9_in F) (by decide) (by decide) wd_1511 wd_1509 wd_1510 wd_129 hy_X9_in dX9_days_39 (snd_istore (pc := 42) (i := 5) (by decide) dX9_days_42 (snd_iload (pc := 44) (i := 4) dX9_days_44 (snd_bipush (pc := 46) (by decide) dX9_days_46 (snd_bipush (pc := 48) (by decide) dX9_days_48 (snd_aload_n (pc := 50) (i := 0) dX9_days_50 (snd_getf (pc := 51) cls9 (f := 24) (by decide) wd_1327 dX9_days_51 (snd_iadd (pc := 54) dX9_days_54 (snd_callS (pc := 55) (n := 3) (s_X9_in F) (by decide) (by decide) wd_1511 wd_1509 wd_1510 wd_129 hy_X9_in dX9_days_55 (snd_istore (pc := 58) (i := 6) (by decide) dX9_days_58 (snd_iload (pc := 60) (i := 5) dX9_days_60 (snd_ifne (pc := 62) (off := 29) (tgt := 91) (by decide) dX9_days_62 ((sk_X9_days_91 F)) (snd_iload (pc := 65) (i := 6) dX9_days_65 (snd_ifne (pc := 67) (off := 24) (tgt := 91) (by decide) dX9_days_67 ((sk_X9_days_91 F)) (snd_iload (pc := 70) (i := 4) dX9_days_70 (snd_ifeq (pc := 72) (off := 19) (tgt := 91) (by decide) dX9_days_72 ((sk_X9_days_91 F)) (snd_iload (pc := 75) (i := 4) dX9_days_75 (snd_iconst (pc := 77) dX9_days_77 (snd_icmpeq (pc := 78) (off := 13) (tgt := 91) (by decide) dX9_days_78 ((sk_X9_days_91 F)) (snd_iload (pc := 81) (i := 4) dX9_days_81 (snd_iconst (pc := 83) dX9_days_83 (snd_icmpeq (pc := 84) (off := 7) (tgt := 91) (by decide) dX9_days_84 ((sk_X9_days_91 F)) (snd_ldcw (pc := 87) (z := (-100000)) (by decide) wd_1787 dX9_days_87 (snd_ireturn dX9_days_90)))))))))))))))))))))))))))))) (snd_ldcw (pc := 24) (z := (-100000)) (by decide) wd_1787 dX9_days_24 (snd_ireturn dX9_days_27)))))))))))))))

/-! LastWalkerModel.visits(IIIZ)I -/
theorem dX9_visits_0 : decode cX9_visits 0 = .ok (.aload_n 0, 1) := by decide +kernel
theorem dX9_visits_1 : decode cX9_visits 1 = .ok (.iconst 0, 1) := by decide +kernel
theorem dX9_visits_2 : decode cX9_visits 2 = .ok (.putfield 112, 3) := by decide +kernel
theorem dX9_visits_5 : decode cX9_visits 5 = .ok (.aload_n 0, 1) := by decide +kernel
theorem dX9_visits_6 : decode cX9_visits 6 = .ok (.iload_n 1, 1) := by decide +kernel
theorem dX9_visits_7 : decode cX9_visits 7 = .ok (.iload_n 2, 1) := by decide +kernel
theorem dX9_visits_8 : decode cX9_visits 8 = .ok (.invokevirtual 432, 3) := by decide +kernel
theorem dX9_visits_11 : decode cX9_visits 11 = .ok (.ifCond .eq 11, 3) := by decide +kernel
theorem dX9_visits_14 : decode cX9_visits 14 = .ok (.aload_n 0, 1) := by decide +kernel
theorem dX9_visits_15 : decode cX9_visits 15 = .ok (.iload_n 3, 1) := by decide +kernel
theorem dX9_visits_16 : decode cX9_visits 16 = .ok (.invokevirtual 319, 3) := by decide +kernel
theorem dX9_visits_19 : decode cX9_visits 19 = .ok (.ifCond .ne 5, 3) := by decide +kernel
theorem dX9_visits_22 : decode cX9_visits 22 = .ok (.iconst (-1), 1) := by decide +kernel
theorem dX9_visits_23 : decode cX9_visits 23 = .ok (.ireturn, 1) := by decide +kernel
theorem dX9_visits_24 : decode cX9_visits 24 = .ok (.aload_n 0, 1) := by decide +kernel
theorem dX9_visits_25 : decode cX9_visits 25 = .ok (.iload_n 2, 1) := by decide +kernel
theorem dX9_visits_26 : decode cX9_visits 26 = .ok (.invokevirtual 436, 3) := by decide +kernel
theorem dX9_visits_29 : decode cX9_visits 29 = .ok (.iload 4, 2) := by decide +kernel
theorem dX9_visits_31 : decode cX9_visits 31 = .ok (.ifCond .eq 12, 3) := by decide +kernel
theorem dX9_visits_34 : decode cX9_visits 34 = .ok (.aload_n 0, 1) := by decide +kernel
theorem dX9_visits_35 : decode cX9_visits 35 = .ok (.getfield 105, 3) := by decide +kernel
theorem dX9_visits_38 : decode cX9_visits 38 = .ok (.iload_n 3, 1) := by decide +kernel
theorem dX9_visits_39 : decode cX9_visits 39 = .ok (.iaload, 1) := by decide +kernel
theorem dX9_visits_40 : decode cX9_visits 40 = .ok (.goto 9, 3) := by decide +kernel
theorem dX9_visits_43 : decode cX9_visits 43 = .ok (.aload_n 0, 1) := by decide +kernel
theorem dX9_visits_44 : decode cX9_visits 44 = .ok (.getfield 102, 3) := by decide +kernel
theorem dX9_visits_47 : decode cX9_visits 47 = .ok (.iload_n 3, 1) := by decide +kernel
theorem dX9_visits_48 : decode cX9_visits 48 = .ok (.iaload, 1) := by decide +kernel
theorem dX9_visits_49 : decode cX9_visits 49 = .ok (.ireturn, 1) := by decide +kernel
noncomputable def k_X9_visits (F : Nat) : AK := ak_aload 0 (ak_push (vI 0) (ak_putf 9 0 (ak_aload 0 (ak_iload 1 (ak_iload 2 (ak_callv 9 2 (m_X9_layErrands F) (ak_ifeq (ak_push (vI (-1)) ak_ireturn) (ak_aload 0 (ak_iload 3 (ak_callv 9 1 (m_X9_isRoad F) (ak_ifeq (ak_push (vI (-1)) ak_ireturn) (ak_aload 0 (ak_iload 2 (ak_callv 9 1 (m_X9_day F) (ak_iload 4 (ak_ifeq (ak_aload 0 (ak_getf 9 58 (ak_iload 3 (ak_iald ak_ireturn)))) (ak_aload 0 (ak_getf 9 59 (ak_iload 3 (ak_iald ak_ireturn))))))))))))))))))))
noncomputable def m_X9_visits (F : Nat) : AF := mkF 1 5 (k_X9_visits F)
set_option maxRecDepth 20000 in
theorem s_X9_visits (F : Nat) : MA yX9_visits cX9_visits 5 (some .int) 8 (m_X9_visits F) := met_of (Or.inr (Or.inl ⟨rfl, rfl⟩)) (by decide) (by
  unfold k_X9_visits
  exact snd_aload_n (pc := 0) (i := 0) dX9_visits_0 (snd_iconst (pc := 1) dX9_visits_1 (snd_putf (pc := 2) cls9 (f := 0) (by decide) rfl rfl rfl wd_1303 dX9_visits_2 (snd_aload_n (pc := 5) (i := 0) dX9_visits_5 (snd_iload_n (pc := 6) (i := 1) dX9_visits_6 (snd_iload_n (pc := 7) (i := 2) dX9_visits_7 (snd_callV (pc := 8) (n := 2) cls9 (s_X9_layErrands F) (by decide) (by decide) wd_1777 wd_1774 wd_1776 wd_97 wd_129 hy_X9_layErrands dX9_visits_8 (snd_ifeq (pc := 11) (off := 11) (tgt := 22) (by decide) dX9_visits_11 (snd_iconst (pc := 22) dX9_visits_22 (snd_ireturn dX9_visits_23)) (snd_aload_n (pc := 14) (i := 0) dX9_visits_14 (snd_iload_n (pc := 15) (i := 3) dX9_visits_15 (snd_callV (pc := 16) (n := 1) cls9 (s_X9_isRoad F) (by decide) (by decide) wd_1669 wd_1666 wd_1668 wd_80 wd_129 hy_X9_isRoad dX9_visits_16 (snd_ifne (pc := 19) (off := 5) (tgt := 24) (by decide) dX9_visits_19 (snd_aload_n (pc := 24) (i := 0) dX9_visits_24 (snd_iload_n (pc := 25) (i := 2) dX9_visits_25 (snd_callV (pc := 26) (n := 1) cls9 (s_X9_day F) (by decide) (by decide) wd_1791 wd_1788 wd_1790 wd_100 wd_129 hy_X9_day dX9_visits_26 (snd_iload (pc := 29) (i := 4) dX9_visits_29 (snd_ifeq (pc := 31) (off := 12) (tgt := 43) (by decide) dX9_visits_31 (snd_aload_n (pc := 43) (i := 0) dX9_visits_43 (snd_getf (pc := 44) cls9 (f := 58) (by decide) wd_1361 dX9_visits_44 (snd_iload_n (pc := 47) (i := 3) dX9_visits_47 (snd_iald (pc := 48) dX9_visits_48 (snd_ireturn dX9_visits_49))))) (snd_aload_n (pc := 34) (i := 0) dX9_visits_34 (snd_getf (pc := 35) cls9 (f := 59) (by decide) wd_1362 dX9_visits_35 (snd_iload_n (pc := 38) (i := 3) dX9_visits_38 (snd_iald (pc := 39) dX9_visits_39 (snd_goto (pc := 40) (off := 9) (tgt := 49) (by decide) dX9_visits_40 (snd_ireturn dX9_visits_49))))))))))) (snd_iconst (pc := 22) dX9_visits_22 (snd_ireturn dX9_visits_23))))))))))))))

/-! LastWalkerModel.whichLaw(I)I -/
theorem dX9_whichLaw_0 : decode cX9_whichLaw 0 = .ok (.iconst (-1), 1) := by decide +kernel
theorem dX9_whichLaw_1 : decode cX9_whichLaw 1 = .ok (.istore_n 2, 1) := by decide +kernel
theorem dX9_whichLaw_2 : decode cX9_whichLaw 2 = .ok (.iconst 0, 1) := by decide +kernel
theorem dX9_whichLaw_3 : decode cX9_whichLaw 3 = .ok (.istore_n 3, 1) := by decide +kernel
theorem dX9_whichLaw_4 : decode cX9_whichLaw 4 = .ok (.iconst 0, 1) := by decide +kernel
theorem dX9_whichLaw_5 : decode cX9_whichLaw 5 = .ok (.istore 4, 2) := by decide +kernel
theorem dX9_whichLaw_7 : decode cX9_whichLaw 7 = .ok (.iload 4, 2) := by decide +kernel
theorem dX9_whichLaw_9 : decode cX9_whichLaw 9 = .ok (.iconst 3, 1) := by decide +kernel
theorem dX9_whichLaw_10 : decode cX9_whichLaw 10 = .ok (.if_icmp .gt 45, 3) := by decide +kernel
theorem dX9_whichLaw_13 : decode cX9_whichLaw 13 = .ok (.aload_n 0, 1) := by decide +kernel
theorem dX9_whichLaw_14 : decode cX9_whichLaw 14 = .ok (.iload 4, 2) := by decide +kernel
theorem dX9_whichLaw_16 : decode cX9_whichLaw 16 = .ok (.putfield 270, 3) := by decide +kernel
theorem dX9_whichLaw_19 : decode cX9_whichLaw 19 = .ok (.aload_n 0, 1) := by decide +kernel
theorem dX9_whichLaw_20 : decode cX9_whichLaw 20 = .ok (.iload_n 1, 1) := by decide +kernel
theorem dX9_whichLaw_21 : decode cX9_whichLaw 21 = .ok (.invokevirtual 436, 3) := by decide +kernel
theorem dX9_whichLaw_24 : decode cX9_whichLaw 24 = .ok (.aload_n 0, 1) := by decide +kernel
theorem dX9_whichLaw_25 : decode cX9_whichLaw 25 = .ok (.iconst (-1), 1) := by decide +kernel
theorem dX9_whichLaw_26 : decode cX9_whichLaw 26 = .ok (.iconst 3, 1) := by decide +kernel
theorem dX9_whichLaw_27 : decode cX9_whichLaw 27 = .ok (.invokevirtual 439, 3) := by decide +kernel
theorem dX9_whichLaw_30 : decode cX9_whichLaw 30 = .ok (.istore 5, 2) := by decide +kernel
theorem dX9_whichLaw_32 : decode cX9_whichLaw 32 = .ok (.iload_n 2, 1) := by decide +kernel
theorem dX9_whichLaw_33 : decode cX9_whichLaw 33 = .ok (.iconst (-1), 1) := by decide +kernel
theorem dX9_whichLaw_34 : decode cX9_whichLaw 34 = .ok (.if_icmp .eq 9, 3) := by decide +kernel
theorem dX9_whichLaw_37 : decode cX9_whichLaw 37 = .ok (.iload 5, 2) := by decide +kernel
theorem dX9_whichLaw_39 : decode cX9_whichLaw 39 = .ok (.iload_n 3, 1) := by decide +kernel
theorem dX9_whichLaw_40 : decode cX9_whichLaw 40 = .ok (.if_icmp .ge 9, 3) := by decide +kernel
theorem dX9_whichLaw_43 : decode cX9_whichLaw 43 = .ok (.iload 4, 2) := by decide +kernel
theorem dX9_whichLaw_45 : decode cX9_whichLaw 45 = .ok (.istore_n 2, 1) := by decide +kernel
theorem dX9_whichLaw_46 : decode cX9_whichLaw 46 = .ok (.iload 5, 2) := by decide +kernel
theorem dX9_whichLaw_48 : decode cX9_whichLaw 48 = .ok (.istore_n 3, 1) := by decide +kernel
theorem dX9_whichLaw_49 : decode cX9_whichLaw 49 = .ok (.iinc 4 1, 3) := by decide +kernel
theorem dX9_whichLaw_52 : decode cX9_whichLaw 52 = .ok (.goto (-45), 3) := by decide +kernel
theorem dX9_whichLaw_55 : decode cX9_whichLaw 55 = .ok (.iload_n 2, 1) := by decide +kernel
theorem dX9_whichLaw_56 : decode cX9_whichLaw 56 = .ok (.ireturn, 1) := by decide +kernel
noncomputable def k_X9_whichLaw_49 (F : Nat) (h7 : AK) : AK := ak_iinc 4 1 h7
set_option maxRecDepth 20000 in
theorem sk_X9_whichLaw_49 (F : Nat) {h7 : AK} (hh7 : Snd X0 RX9 cX9_whichLaw 6 8 7 h7) : Snd X0 RX9 cX9_whichLaw 6 8 49 (k_X9_whichLaw_49 F h7) := by
  unfold k_X9_whichLaw_49
  exact snd_iinc (pc := 49) (i := 4) (n := 1) (by decide) dX9_whichLaw_49 (snd_goto (pc := 52) (off := (-45)) (tgt := 7) (by decide) dX9_whichLaw_52 (hh7))
noncomputable def k_X9_whichLaw_43 (F : Nat) (h7 : AK) : AK := ak_iload 4 (ak_istore 2 (ak_iload 5 (ak_istore 3 ((k_X9_whichLaw_49 F h7)))))
set_option maxRecDepth 20000 in
theorem sk_X9_whichLaw_43 (F : Nat) {h7 : AK} (hh7 : Snd X0 RX9 cX9_whichLaw 6 8 7 h7) : Snd X0 RX9 cX9_whichLaw 6 8 43 (k_X9_whichLaw_43 F h7) := by
  unfold k_X9_whichLaw_43
  exact snd_iload (pc := 43) (i := 4) dX9_whichLaw_43 (snd_istore_n (pc := 45) (i := 2) (by decide) dX9_whichLaw_45 (snd_iload (pc := 46) (i := 5) dX9_whichLaw_46 (snd_istore_n (pc := 48) (i := 3) (by decide) dX9_whichLaw_48 ((sk_X9_whichLaw_49 F hh7)))))
noncomputable def kb_X9_whichLaw_7 (F : Nat) (self : AK) : AK := ak_iload 4 (ak_push (vI 3) (ak_cmpgt (ak_iload 2 ak_ireturn) (ak_aload 0 (ak_iload 4 (ak_putf 9 26 (ak_aload 0 (ak_iload 1 (ak_callv 9 1 (m_X9_day F) (ak_aload 0 (ak_push (vI (-1)) (ak_push (vI 3) (ak_callv 9 2 (m_X9_sums F) (ak_istore 5 (ak_iload 2 (ak_push (vI (-1)) (ak_cmpeq ((k_X9_whichLaw_43 F self)) (ak_iload 5 (ak_iload 3 (ak_cmplt ((k_X9_whichLaw_43 F self)) ((k_X9_whichLaw_49 F self)))))))))))))))))))))
noncomputable def k_X9_whichLaw_7 (F : Nat) (n : Nat) : AK := Nat.rec (motive := fun _ => AK) ak_none (fun _ self => kb_X9_whichLaw_7 F self) n
set_option maxRecDepth 20000 in
theorem sk_X9_whichLaw_7 (F : Nat) : ∀ n, Snd X0 RX9 cX9_whichLaw 6 8 7 (k_X9_whichLaw_7 F n) := by
  intro n
  induction n with
  | zero => exact snd_none
  | succ n ih =>
    show Snd X0 RX9 cX9_whichLaw 6 8 7 (kb_X9_whichLaw_7 F (k_X9_whichLaw_7 F n))
    unfold kb_X9_whichLaw_7
    exact snd_iload (pc := 7) (i := 4) dX9_whichLaw_7 (snd_iconst (pc := 9) dX9_whichLaw_9 (snd_icmpgt (pc := 10) (off := 45) (tgt := 55) (by decide) dX9_whichLaw_10 (snd_iload_n (pc := 55) (i := 2) dX9_whichLaw_55 (snd_ireturn dX9_whichLaw_56)) (snd_aload_n (pc := 13) (i := 0) dX9_whichLaw_13 (snd_iload (pc := 14) (i := 4) dX9_whichLaw_14 (snd_putf (pc := 16) cls9 (f := 26) (by decide) rfl rfl rfl wd_1329 dX9_whichLaw_16 (snd_aload_n (pc := 19) (i := 0) dX9_whichLaw_19 (snd_iload_n (pc := 20) (i := 1) dX9_whichLaw_20 (snd_callV (pc := 21) (n := 1) cls9 (s_X9_day F) (by decide) (by decide) wd_1791 wd_1788 wd_1790 wd_100 wd_129 hy_X9_day dX9_whichLaw_21 (snd_aload_n (pc := 24) (i := 0) dX9_whichLaw_24 (snd_iconst (pc := 25) dX9_whichLaw_25 (snd_iconst (pc := 26) dX9_whichLaw_26 (snd_callV (pc := 27) (n := 2) cls9 (s_X9_sums F) (by decide) (by decide) wd_1814 wd_1811 wd_1813 wd_105 wd_129 hy_X9_sums dX9_whichLaw_27 (snd_istore (pc := 30) (i := 5) (by decide) dX9_whichLaw_30 (snd_iload_n (pc := 32) (i := 2) dX9_whichLaw_32 (snd_iconst (pc := 33) dX9_whichLaw_33 (snd_icmpeq (pc := 34) (off := 9) (tgt := 43) (by decide) dX9_whichLaw_34 ((sk_X9_whichLaw_43 F ih)) (snd_iload (pc := 37) (i := 5) dX9_whichLaw_37 (snd_iload_n (pc := 39) (i := 3) dX9_whichLaw_39 (snd_icmpge (pc := 40) (off := 9) (tgt := 49) (by decide) dX9_whichLaw_40 ((sk_X9_whichLaw_49 F ih)) ((sk_X9_whichLaw_43 F ih)))))))))))))))))))))
noncomputable def k_X9_whichLaw (F : Nat) : AK := ak_push (vI (-1)) (ak_istore 2 (ak_push (vI 0) (ak_istore 3 (ak_push (vI 0) (ak_istore 4 ((k_X9_whichLaw_7 F F)))))))
noncomputable def m_X9_whichLaw (F : Nat) : AF := mkF 1 6 (k_X9_whichLaw F)
set_option maxRecDepth 20000 in
theorem s_X9_whichLaw (F : Nat) : MA yX9_whichLaw cX9_whichLaw 6 (some .int) 8 (m_X9_whichLaw F) := met_of (Or.inr (Or.inl ⟨rfl, rfl⟩)) (by decide) (by
  unfold k_X9_whichLaw
  exact snd_iconst (pc := 0) dX9_whichLaw_0 (snd_istore_n (pc := 1) (i := 2) (by decide) dX9_whichLaw_1 (snd_iconst (pc := 2) dX9_whichLaw_2 (snd_istore_n (pc := 3) (i := 3) (by decide) dX9_whichLaw_3 (snd_iconst (pc := 4) dX9_whichLaw_4 (snd_istore (pc := 5) (i := 4) (by decide) dX9_whichLaw_5 ((sk_X9_whichLaw_7 F F))))))))

/-! LastWalkerModel.whole(III)I -/
theorem dX9_whole_0 : decode cX9_whole 0 = .ok (.aload_n 0, 1) := by decide +kernel
theorem dX9_whole_1 : decode cX9_whole 1 = .ok (.iconst 0, 1) := by decide +kernel
theorem dX9_whole_2 : decode cX9_whole 2 = .ok (.putfield 112, 3) := by decide +kernel
theorem dX9_whole_5 : decode cX9_whole 5 = .ok (.aload_n 0, 1) := by decide +kernel
theorem dX9_whole_6 : decode cX9_whole 6 = .ok (.iload_n 1, 1) := by decide +kernel
theorem dX9_whole_7 : decode cX9_whole 7 = .ok (.iload_n 2, 1) := by decide +kernel
theorem dX9_whole_8 : decode cX9_whole 8 = .ok (.invokevirtual 432, 3) := by decide +kernel
theorem dX9_whole_11 : decode cX9_whole 11 = .ok (.ifCond .eq 12, 3) := by decide +kernel
theorem dX9_whole_14 : decode cX9_whole 14 = .ok (.iload_n 3, 1) := by decide +kernel
theorem dX9_whole_15 : decode cX9_whole 15 = .ok (.iconst 0, 1) := by decide +kernel
theorem dX9_whole_16 : decode cX9_whole 16 = .ok (.iconst 3, 1) := by decide +kernel
theorem dX9_whole_17 : decode cX9_whole 17 = .ok (.invokestatic 120, 3) := by decide +kernel
theorem dX9_whole_20 : decode cX9_whole 20 = .ok (.ifCond .ne 5, 3) := by decide +kernel
theorem dX9_whole_23 : decode cX9_whole 23 = .ok (.iconst (-1), 1) := by decide +kernel
theorem dX9_whole_24 : decode cX9_whole 24 = .ok (.ireturn, 1) := by decide +kernel
theorem dX9_whole_25 : decode cX9_whole 25 = .ok (.iload_n 3, 1) := by decide +kernel
theorem dX9_whole_26 : decode cX9_whole 26 = .ok (.iconst 3, 1) := by decide +kernel
theorem dX9_whole_27 : decode cX9_whole 27 = .ok (.if_icmp .ne 9, 3) := by decide +kernel
theorem dX9_whole_30 : decode cX9_whole 30 = .ok (.aload_n 0, 1) := by decide +kernel
theorem dX9_whole_31 : decode cX9_whole 31 = .ok (.iload_n 2, 1) := by decide +kernel
theorem dX9_whole_32 : decode cX9_whole 32 = .ok (.invokevirtual 464, 3) := by decide +kernel
theorem dX9_whole_35 : decode cX9_whole 35 = .ok (.ireturn, 1) := by decide +kernel
theorem dX9_whole_36 : decode cX9_whole 36 = .ok (.aload_n 0, 1) := by decide +kernel
theorem dX9_whole_37 : decode cX9_whole 37 = .ok (.iload_n 2, 1) := by decide +kernel
theorem dX9_whole_38 : decode cX9_whole 38 = .ok (.invokevirtual 436, 3) := by decide +kernel
theorem dX9_whole_41 : decode cX9_whole 41 = .ok (.iconst 0, 1) := by decide +kernel
theorem dX9_whole_42 : decode cX9_whole 42 = .ok (.istore 4, 2) := by decide +kernel
theorem dX9_whole_44 : decode cX9_whole 44 = .ok (.iconst 0, 1) := by decide +kernel
theorem dX9_whole_45 : decode cX9_whole 45 = .ok (.istore 5, 2) := by decide +kernel
theorem dX9_whole_47 : decode cX9_whole 47 = .ok (.iload 5, 2) := by decide +kernel
theorem dX9_whole_49 : decode cX9_whole 49 = .ok (.aload_n 0, 1) := by decide +kernel
theorem dX9_whole_50 : decode cX9_whole 50 = .ok (.getfield 261, 3) := by decide +kernel
theorem dX9_whole_53 : decode cX9_whole 53 = .ok (.if_icmp .ge 32, 3) := by decide +kernel
theorem dX9_whole_56 : decode cX9_whole 56 = .ok (.iload 4, 2) := by decide +kernel
theorem dX9_whole_58 : decode cX9_whole 58 = .ok (.aload_n 0, 1) := by decide +kernel
theorem dX9_whole_59 : decode cX9_whole 59 = .ok (.getfield 102, 3) := by decide +kernel
theorem dX9_whole_62 : decode cX9_whole 62 = .ok (.iload 5, 2) := by decide +kernel
theorem dX9_whole_64 : decode cX9_whole 64 = .ok (.iaload, 1) := by decide +kernel
theorem dX9_whole_65 : decode cX9_whole 65 = .ok (.ifCond .ne 10, 3) := by decide +kernel
theorem dX9_whole_68 : decode cX9_whole 68 = .ok (.iconst 1, 1) := by decide +kernel
theorem dX9_whole_69 : decode cX9_whole 69 = .ok (.iload 5, 2) := by decide +kernel
theorem dX9_whole_71 : decode cX9_whole 71 = .ok (.ishl, 1) := by decide +kernel
theorem dX9_whole_72 : decode cX9_whole 72 = .ok (.goto 4, 3) := by decide +kernel
theorem dX9_whole_75 : decode cX9_whole 75 = .ok (.iconst 0, 1) := by decide +kernel
theorem dX9_whole_76 : decode cX9_whole 76 = .ok (.ior, 1) := by decide +kernel
theorem dX9_whole_77 : decode cX9_whole 77 = .ok (.istore 4, 2) := by decide +kernel
theorem dX9_whole_79 : decode cX9_whole 79 = .ok (.iinc 5 1, 3) := by decide +kernel
theorem dX9_whole_82 : decode cX9_whole 82 = .ok (.goto (-35), 3) := by decide +kernel
theorem dX9_whole_85 : decode cX9_whole 85 = .ok (.iload_n 3, 1) := by decide +kernel
theorem dX9_whole_86 : decode cX9_whole 86 = .ok (.ifCond .ne 8, 3) := by decide +kernel
theorem dX9_whole_89 : decode cX9_whole 89 = .ok (.iload 4, 2) := by decide +kernel
theorem dX9_whole_91 : decode cX9_whole 91 = .ok (.goto 19, 3) := by decide +kernel
theorem dX9_whole_94 : decode cX9_whole 94 = .ok (.iload_n 3, 1) := by decide +kernel
theorem dX9_whole_95 : decode cX9_whole 95 = .ok (.iconst 1, 1) := by decide +kernel
theorem dX9_whole_96 : decode cX9_whole 96 = .ok (.if_icmp .ne 10, 3) := by decide +kernel
theorem dX9_whole_99 : decode cX9_whole 99 = .ok (.aload_n 0, 1) := by decide +kernel
theorem dX9_whole_100 : decode cX9_whole 100 = .ok (.getfield 401, 3) := by decide +kernel
theorem dX9_whole_103 : decode cX9_whole 103 = .ok (.goto 7, 3) := by decide +kernel
theorem dX9_whole_106 : decode cX9_whole 106 = .ok (.aload_n 0, 1) := by decide +kernel
theorem dX9_whole_107 : decode cX9_whole 107 = .ok (.getfield 404, 3) := by decide +kernel
theorem dX9_whole_110 : decode cX9_whole 110 = .ok (.ireturn, 1) := by decide +kernel
noncomputable def k_X9_whole_76 (F : Nat) (h47 : AK) : AK := ak_ior (ak_istore 4 (ak_iinc 5 1 h47))
set_option maxRecDepth 20000 in
theorem sk_X9_whole_76 (F : Nat) {h47 : AK} (hh47 : Snd X0 RX9 cX9_whole 6 9 47 h47) : Snd X0 RX9 cX9_whole 6 9 76 (k_X9_whole_76 F h47) := by
  unfold k_X9_whole_76
  exact snd_ior (pc := 76) dX9_whole_76 (snd_istore (pc := 77) (i := 4) (by decide) dX9_whole_77 (snd_iinc (pc := 79) (i := 5) (n := 1) (by decide) dX9_whole_79 (snd_goto (pc := 82) (off := (-35)) (tgt := 47) (by decide) dX9_whole_82 (hh47))))
noncomputable def kb_X9_whole_47 (F : Nat) (self : AK) : AK := ak_iload 5 (ak_aload 0 (ak_getf 9 23 (ak_cmplt (ak_iload 4 (ak_aload 0 (ak_getf 9 58 (ak_iload 5 (ak_iald (ak_ifeq (ak_push (vI 1) (ak_iload 5 (ak_ishl ((k_X9_whole_76 F self))))) (ak_push (vI 0) ((k_X9_whole_76 F self))))))))) (ak_iload 3 (ak_ifeq (ak_iload 4 ak_ireturn) (ak_iload 3 (ak_push (vI 1) (ak_cmpeq (ak_aload 0 (ak_getf 9 60 ak_ireturn)) (ak_aload 0 (ak_getf 9 61 ak_ireturn))))))))))
noncomputable def k_X9_whole_47 (F : Nat) (n : Nat) : AK := Nat.rec (motive := fun _ => AK) ak_none (fun _ self => kb_X9_whole_47 F self) n
set_option maxRecDepth 20000 in
theorem sk_X9_whole_47 (F : Nat) : ∀ n, Snd X0 RX9 cX9_whole 6 9 47 (k_X9_whole_47 F n) := by
  intro n
  induction n with
  | zero => exact snd_none
  | succ n ih =>
    show Snd X0 RX9 cX9_whole 6 9 47 (kb_X9_whole_47 F (k_X9_whole_47 F n))
    unfold kb_X9_whole_47
    exact snd_iload (pc := 47) (i := 5) dX9_whole_47 (snd_aload_n (pc := 49) (i := 0) dX9_whole_49 (snd_getf (pc := 50) cls9 (f := 23) (by decide) wd_1326 dX9_whole_50 (snd_icmpge (pc := 53) (off := 32) (tgt := 85) (by decide) dX9_whole_53 (snd_iload_n (pc := 85) (i := 3) dX9_whole_85 (snd_ifne (pc := 86) (off := 8) (tgt := 94) (by decide) dX9_whole_86 (snd_iload_n (pc := 94) (i := 3) dX9_whole_94 (snd_iconst (pc := 95) dX9_whole_95 (snd_icmpne (pc := 96) (off := 10) (tgt := 106) (by decide) dX9_whole_96 (snd_aload_n (pc := 106) (i := 0) dX9_whole_106 (snd_getf (pc := 107) cls9 (f := 61) (by decide) wd_1364 dX9_whole_107 (snd_ireturn dX9_whole_110))) (snd_aload_n (pc := 99) (i := 0) dX9_whole_99 (snd_getf (pc := 100) cls9 (f := 60) (by decide) wd_1363 dX9_whole_100 (snd_goto (pc := 103) (off := 7) (tgt := 110) (by decide) dX9_whole_103 (snd_ireturn dX9_whole_110))))))) (snd_iload (pc := 89) (i := 4) dX9_whole_89 (snd_goto (pc := 91) (off := 19) (tgt := 110) (by decide) dX9_whole_91 (snd_ireturn dX9_whole_110))))) (snd_iload (pc := 56) (i := 4) dX9_whole_56 (snd_aload_n (pc := 58) (i := 0) dX9_whole_58 (snd_getf (pc := 59) cls9 (f := 58) (by decide) wd_1361 dX9_whole_59 (snd_iload (pc := 62) (i := 5) dX9_whole_62 (snd_iald (pc := 64) dX9_whole_64 (snd_ifne (pc := 65) (off := 10) (tgt := 75) (by decide) dX9_whole_65 (snd_iconst (pc := 75) dX9_whole_75 ((sk_X9_whole_76 F ih))) (snd_iconst (pc := 68) dX9_whole_68 (snd_iload (pc := 69) (i := 5) dX9_whole_69 (snd_ishl (pc := 71) dX9_whole_71 (snd_goto (pc := 72) (off := 4) (tgt := 76) (by decide) dX9_whole_72 ((sk_X9_whole_76 F ih)))))))))))))))
noncomputable def k_X9_whole (F : Nat) : AK := ak_aload 0 (ak_push (vI 0) (ak_putf 9 0 (ak_aload 0 (ak_iload 1 (ak_iload 2 (ak_callv 9 2 (m_X9_layErrands F) (ak_ifeq (ak_push (vI (-1)) ak_ireturn) (ak_iload 3 (ak_push (vI 0) (ak_push (vI 3) (ak_call 3 (m_X9_in F) (ak_ifeq (ak_push (vI (-1)) ak_ireturn) (ak_iload 3 (ak_push (vI 3) (ak_cmpeq (ak_aload 0 (ak_iload 2 (ak_callv 9 1 (m_X9_whichLaw F) ak_ireturn))) (ak_aload 0 (ak_iload 2 (ak_callv 9 1 (m_X9_day F) (ak_push (vI 0) (ak_istore 4 (ak_push (vI 0) (ak_istore 5 ((k_X9_whole_47 F F))))))))))))))))))))))))
noncomputable def m_X9_whole (F : Nat) : AF := mkF 1 6 (k_X9_whole F)
set_option maxRecDepth 20000 in
theorem s_X9_whole (F : Nat) : MA yX9_whole cX9_whole 6 (some .int) 9 (m_X9_whole F) := met_of (Or.inr (Or.inl ⟨rfl, rfl⟩)) (by decide) (by
  unfold k_X9_whole
  exact snd_aload_n (pc := 0) (i := 0) dX9_whole_0 (snd_iconst (pc := 1) dX9_whole_1 (snd_putf (pc := 2) cls9 (f := 0) (by decide) rfl rfl rfl wd_1303 dX9_whole_2 (snd_aload_n (pc := 5) (i := 0) dX9_whole_5 (snd_iload_n (pc := 6) (i := 1) dX9_whole_6 (snd_iload_n (pc := 7) (i := 2) dX9_whole_7 (snd_callV (pc := 8) (n := 2) cls9 (s_X9_layErrands F) (by decide) (by decide) wd_1777 wd_1774 wd_1776 wd_97 wd_129 hy_X9_layErrands dX9_whole_8 (snd_ifeq (pc := 11) (off := 12) (tgt := 23) (by decide) dX9_whole_11 (snd_iconst (pc := 23) dX9_whole_23 (snd_ireturn dX9_whole_24)) (snd_iload_n (pc := 14) (i := 3) dX9_whole_14 (snd_iconst (pc := 15) dX9_whole_15 (snd_iconst (pc := 16) dX9_whole_16 (snd_callS (pc := 17) (n := 3) (s_X9_in F) (by decide) (by decide) wd_1511 wd_1509 wd_1510 wd_129 hy_X9_in dX9_whole_17 (snd_ifne (pc := 20) (off := 5) (tgt := 25) (by decide) dX9_whole_20 (snd_iload_n (pc := 25) (i := 3) dX9_whole_25 (snd_iconst (pc := 26) dX9_whole_26 (snd_icmpne (pc := 27) (off := 9) (tgt := 36) (by decide) dX9_whole_27 (snd_aload_n (pc := 36) (i := 0) dX9_whole_36 (snd_iload_n (pc := 37) (i := 2) dX9_whole_37 (snd_callV (pc := 38) (n := 1) cls9 (s_X9_day F) (by decide) (by decide) wd_1791 wd_1788 wd_1790 wd_100 wd_129 hy_X9_day dX9_whole_38 (snd_iconst (pc := 41) dX9_whole_41 (snd_istore (pc := 42) (i := 4) (by decide) dX9_whole_42 (snd_iconst (pc := 44) dX9_whole_44 (snd_istore (pc := 45) (i := 5) (by decide) dX9_whole_45 ((sk_X9_whole_47 F F))))))))) (snd_aload_n (pc := 30) (i := 0) dX9_whole_30 (snd_iload_n (pc := 31) (i := 2) dX9_whole_31 (snd_callV (pc := 32) (n := 1) cls9 (s_X9_whichLaw F) (by decide) (by decide) wd_1907 wd_1904 wd_1906 wd_114 wd_129 hy_X9_whichLaw dX9_whole_32 (snd_ireturn dX9_whole_35))))))) (snd_iconst (pc := 23) dX9_whole_23 (snd_ireturn dX9_whole_24)))))))))))))))

/-! LastWalkerModel.withoutHis(II)I -/
theorem dX9_withoutHis_0 : decode cX9_withoutHis 0 = .ok (.iload_n 1, 1) := by decide +kernel
theorem dX9_withoutHis_1 : decode cX9_withoutHis 1 = .ok (.istore_n 3, 1) := by decide +kernel
theorem dX9_withoutHis_2 : decode cX9_withoutHis 2 = .ok (.iconst 0, 1) := by decide +kernel
theorem dX9_withoutHis_3 : decode cX9_withoutHis 3 = .ok (.istore 4, 2) := by decide +kernel
theorem dX9_withoutHis_5 : decode cX9_withoutHis 5 = .ok (.iload 4, 2) := by decide +kernel
theorem dX9_withoutHis_7 : decode cX9_withoutHis 7 = .ok (.aload_n 0, 1) := by decide +kernel
theorem dX9_withoutHis_8 : decode cX9_withoutHis 8 = .ok (.getfield 267, 3) := by decide +kernel
theorem dX9_withoutHis_11 : decode cX9_withoutHis 11 = .ok (.if_icmp .ge 33, 3) := by decide +kernel
theorem dX9_withoutHis_14 : decode cX9_withoutHis 14 = .ok (.iload_n 3, 1) := by decide +kernel
theorem dX9_withoutHis_15 : decode cX9_withoutHis 15 = .ok (.aload_n 0, 1) := by decide +kernel
theorem dX9_withoutHis_16 : decode cX9_withoutHis 16 = .ok (.iload 4, 2) := by decide +kernel
theorem dX9_withoutHis_18 : decode cX9_withoutHis 18 = .ok (.iconst 0, 1) := by decide +kernel
theorem dX9_withoutHis_19 : decode cX9_withoutHis 19 = .ok (.invokevirtual 285, 3) := by decide +kernel
theorem dX9_withoutHis_22 : decode cX9_withoutHis 22 = .ok (.iload_n 2, 1) := by decide +kernel
theorem dX9_withoutHis_23 : decode cX9_withoutHis 23 = .ok (.if_icmp .ne 12, 3) := by decide +kernel
theorem dX9_withoutHis_26 : decode cX9_withoutHis 26 = .ok (.iconst 1, 1) := by decide +kernel
theorem dX9_withoutHis_27 : decode cX9_withoutHis 27 = .ok (.iload 4, 2) := by decide +kernel
theorem dX9_withoutHis_29 : decode cX9_withoutHis 29 = .ok (.ishl, 1) := by decide +kernel
theorem dX9_withoutHis_30 : decode cX9_withoutHis 30 = .ok (.iconst (-1), 1) := by decide +kernel
theorem dX9_withoutHis_31 : decode cX9_withoutHis 31 = .ok (.ixor, 1) := by decide +kernel
theorem dX9_withoutHis_32 : decode cX9_withoutHis 32 = .ok (.goto 4, 3) := by decide +kernel
theorem dX9_withoutHis_35 : decode cX9_withoutHis 35 = .ok (.iconst (-1), 1) := by decide +kernel
theorem dX9_withoutHis_36 : decode cX9_withoutHis 36 = .ok (.iand, 1) := by decide +kernel
theorem dX9_withoutHis_37 : decode cX9_withoutHis 37 = .ok (.istore_n 3, 1) := by decide +kernel
theorem dX9_withoutHis_38 : decode cX9_withoutHis 38 = .ok (.iinc 4 1, 3) := by decide +kernel
theorem dX9_withoutHis_41 : decode cX9_withoutHis 41 = .ok (.goto (-36), 3) := by decide +kernel
theorem dX9_withoutHis_44 : decode cX9_withoutHis 44 = .ok (.iload_n 3, 1) := by decide +kernel
theorem dX9_withoutHis_45 : decode cX9_withoutHis 45 = .ok (.ireturn, 1) := by decide +kernel
noncomputable def k_X9_withoutHis_36 (F : Nat) (h5 : AK) : AK := ak_iand (ak_istore 3 (ak_iinc 4 1 h5))
set_option maxRecDepth 20000 in
theorem sk_X9_withoutHis_36 (F : Nat) {h5 : AK} (hh5 : Snd X0 RX9 cX9_withoutHis 5 1 5 h5) : Snd X0 RX9 cX9_withoutHis 5 1 36 (k_X9_withoutHis_36 F h5) := by
  unfold k_X9_withoutHis_36
  exact snd_iand (pc := 36) dX9_withoutHis_36 (snd_istore_n (pc := 37) (i := 3) (by decide) dX9_withoutHis_37 (snd_iinc (pc := 38) (i := 4) (n := 1) (by decide) dX9_withoutHis_38 (snd_goto (pc := 41) (off := (-36)) (tgt := 5) (by decide) dX9_withoutHis_41 (hh5))))
noncomputable def kb_X9_withoutHis_5 (F : Nat) (self : AK) : AK := ak_iload 4 (ak_aload 0 (ak_getf 9 25 (ak_cmplt (ak_iload 3 (ak_aload 0 (ak_iload 4 (ak_push (vI 0) (ak_callv 9 2 (m_X9_errandOf F) (ak_iload 2 (ak_cmpeq (ak_push (vI 1) (ak_iload 4 (ak_ishl (ak_push (vI (-1)) (ak_ixor ((k_X9_withoutHis_36 F self))))))) (ak_push (vI (-1)) ((k_X9_withoutHis_36 F self)))))))))) (ak_iload 3 ak_ireturn))))
noncomputable def k_X9_withoutHis_5 (F : Nat) (n : Nat) : AK := Nat.rec (motive := fun _ => AK) ak_none (fun _ self => kb_X9_withoutHis_5 F self) n
set_option maxRecDepth 20000 in
theorem sk_X9_withoutHis_5 (F : Nat) : ∀ n, Snd X0 RX9 cX9_withoutHis 5 1 5 (k_X9_withoutHis_5 F n) := by
  intro n
  induction n with
  | zero => exact snd_none
  | succ n ih =>
    show Snd X0 RX9 cX9_withoutHis 5 1 5 (kb_X9_withoutHis_5 F (k_X9_withoutHis_5 F n))
    unfold kb_X9_withoutHis_5
    exact snd_iload (pc := 5) (i := 4) dX9_withoutHis_5 (snd_aload_n (pc := 7) (i := 0) dX9_withoutHis_7 (snd_getf (pc := 8) cls9 (f := 25) (by decide) wd_1328 dX9_withoutHis_8 (snd_icmpge (pc := 11) (off := 33) (tgt := 44) (by decide) dX9_withoutHis_11 (snd_iload_n (pc := 44) (i := 3) dX9_withoutHis_44 (snd_ireturn dX9_withoutHis_45)) (snd_iload_n (pc := 14) (i := 3) dX9_withoutHis_14 (snd_aload_n (pc := 15) (i := 0) dX9_withoutHis_15 (snd_iload (pc := 16) (i := 4) dX9_withoutHis_16 (snd_iconst (pc := 18) dX9_withoutHis_18 (snd_callV (pc := 19) (n := 2) cls9 (s_X9_errandOf F) (by decide) (by decide) wd_1649 wd_1646 wd_1648 wd_75 wd_129 hy_X9_errandOf dX9_withoutHis_19 (snd_iload_n (pc := 22) (i := 2) dX9_withoutHis_22 (snd_icmpne (pc := 23) (off := 12) (tgt := 35) (by decide) dX9_withoutHis_23 (snd_iconst (pc := 35) dX9_withoutHis_35 ((sk_X9_withoutHis_36 F ih))) (snd_iconst (pc := 26) dX9_withoutHis_26 (snd_iload (pc := 27) (i := 4) dX9_withoutHis_27 (snd_ishl (pc := 29) dX9_withoutHis_29 (snd_iconst (pc := 30) dX9_withoutHis_30 (snd_ixor (pc := 31) dX9_withoutHis_31 (snd_goto (pc := 32) (off := 4) (tgt := 36) (by decide) dX9_withoutHis_32 ((sk_X9_withoutHis_36 F ih))))))))))))))))))
noncomputable def k_X9_withoutHis (F : Nat) : AK := ak_iload 1 (ak_istore 3 (ak_push (vI 0) (ak_istore 4 ((k_X9_withoutHis_5 F F)))))
noncomputable def m_X9_withoutHis (F : Nat) : AF := mkF 1 5 (k_X9_withoutHis F)
set_option maxRecDepth 20000 in
theorem s_X9_withoutHis (F : Nat) : MA yX9_withoutHis cX9_withoutHis 5 (some .int) 1 (m_X9_withoutHis F) := met_of (Or.inr (Or.inl ⟨rfl, rfl⟩)) (by decide) (by
  unfold k_X9_withoutHis
  exact snd_iload_n (pc := 0) (i := 1) dX9_withoutHis_0 (snd_istore_n (pc := 1) (i := 3) (by decide) dX9_withoutHis_1 (snd_iconst (pc := 2) dX9_withoutHis_2 (snd_istore (pc := 3) (i := 4) (by decide) dX9_withoutHis_3 ((sk_X9_withoutHis_5 F F))))))

/-! LastWalkerModel.still(III)I -/
theorem dX9_still_0 : decode cX9_still 0 = .ok (.aload_n 0, 1) := by decide +kernel
theorem dX9_still_1 : decode cX9_still 1 = .ok (.iconst 0, 1) := by decide +kernel
theorem dX9_still_2 : decode cX9_still 2 = .ok (.putfield 112, 3) := by decide +kernel
theorem dX9_still_5 : decode cX9_still 5 = .ok (.aload_n 0, 1) := by decide +kernel
theorem dX9_still_6 : decode cX9_still 6 = .ok (.iload_n 1, 1) := by decide +kernel
theorem dX9_still_7 : decode cX9_still 7 = .ok (.iload_n 2, 1) := by decide +kernel
theorem dX9_still_8 : decode cX9_still 8 = .ok (.invokevirtual 432, 3) := by decide +kernel
theorem dX9_still_11 : decode cX9_still 11 = .ok (.ifCond .eq 11, 3) := by decide +kernel
theorem dX9_still_14 : decode cX9_still 14 = .ok (.aload_n 0, 1) := by decide +kernel
theorem dX9_still_15 : decode cX9_still 15 = .ok (.iload_n 3, 1) := by decide +kernel
theorem dX9_still_16 : decode cX9_still 16 = .ok (.invokevirtual 316, 3) := by decide +kernel
theorem dX9_still_19 : decode cX9_still 19 = .ok (.ifCond .ne 7, 3) := by decide +kernel
theorem dX9_still_22 : decode cX9_still 22 = .ok (.ldc_w 435, 3) := by decide +kernel
theorem dX9_still_25 : decode cX9_still 25 = .ok (.ireturn, 1) := by decide +kernel
theorem dX9_still_26 : decode cX9_still 26 = .ok (.aload_n 0, 1) := by decide +kernel
theorem dX9_still_27 : decode cX9_still 27 = .ok (.aload_n 0, 1) := by decide +kernel
theorem dX9_still_28 : decode cX9_still 28 = .ok (.iload_n 2, 1) := by decide +kernel
theorem dX9_still_29 : decode cX9_still 29 = .ok (.iload_n 3, 1) := by decide +kernel
theorem dX9_still_30 : decode cX9_still 30 = .ok (.invokevirtual 467, 3) := by decide +kernel
theorem dX9_still_33 : decode cX9_still 33 = .ok (.invokevirtual 436, 3) := by decide +kernel
theorem dX9_still_36 : decode cX9_still 36 = .ok (.aload_n 0, 1) := by decide +kernel
theorem dX9_still_37 : decode cX9_still 37 = .ok (.iload_n 3, 1) := by decide +kernel
theorem dX9_still_38 : decode cX9_still 38 = .ok (.invokevirtual 423, 3) := by decide +kernel
theorem dX9_still_41 : decode cX9_still 41 = .ok (.ireturn, 1) := by decide +kernel
noncomputable def k_X9_still (F : Nat) : AK := ak_aload 0 (ak_push (vI 0) (ak_putf 9 0 (ak_aload 0 (ak_iload 1 (ak_iload 2 (ak_callv 9 2 (m_X9_layErrands F) (ak_ifeq (ak_push (vI (-100000)) ak_ireturn) (ak_aload 0 (ak_iload 3 (ak_callv 9 1 (m_X9_isPerson F) (ak_ifeq (ak_push (vI (-100000)) ak_ireturn) (ak_aload 0 (ak_aload 0 (ak_iload 2 (ak_iload 3 (ak_callv 9 2 (m_X9_withoutHis F) (ak_callv 9 1 (m_X9_day F) (ak_aload 0 (ak_iload 3 (ak_callv 9 1 (m_X9_net F) ak_ireturn))))))))))))))))))))
noncomputable def m_X9_still (F : Nat) : AF := mkF 1 4 (k_X9_still F)
set_option maxRecDepth 20000 in
theorem s_X9_still (F : Nat) : MA yX9_still cX9_still 4 (some .int) 8 (m_X9_still F) := met_of (Or.inr (Or.inl ⟨rfl, rfl⟩)) (by decide) (by
  unfold k_X9_still
  exact snd_aload_n (pc := 0) (i := 0) dX9_still_0 (snd_iconst (pc := 1) dX9_still_1 (snd_putf (pc := 2) cls9 (f := 0) (by decide) rfl rfl rfl wd_1303 dX9_still_2 (snd_aload_n (pc := 5) (i := 0) dX9_still_5 (snd_iload_n (pc := 6) (i := 1) dX9_still_6 (snd_iload_n (pc := 7) (i := 2) dX9_still_7 (snd_callV (pc := 8) (n := 2) cls9 (s_X9_layErrands F) (by decide) (by decide) wd_1777 wd_1774 wd_1776 wd_97 wd_129 hy_X9_layErrands dX9_still_8 (snd_ifeq (pc := 11) (off := 11) (tgt := 22) (by decide) dX9_still_11 (snd_ldcw (pc := 22) (z := (-100000)) (by decide) wd_1787 dX9_still_22 (snd_ireturn dX9_still_25)) (snd_aload_n (pc := 14) (i := 0) dX9_still_14 (snd_iload_n (pc := 15) (i := 3) dX9_still_15 (snd_callV (pc := 16) (n := 1) cls9 (s_X9_isPerson F) (by decide) (by decide) wd_1665 wd_1662 wd_1664 wd_79 wd_129 hy_X9_isPerson dX9_still_16 (snd_ifne (pc := 19) (off := 7) (tgt := 26) (by decide) dX9_still_19 (snd_aload_n (pc := 26) (i := 0) dX9_still_26 (snd_aload_n (pc := 27) (i := 0) dX9_still_27 (snd_iload_n (pc := 28) (i := 2) dX9_still_28 (snd_iload_n (pc := 29) (i := 3) dX9_still_29 (snd_callV (pc := 30) (n := 2) cls9 (s_X9_withoutHis F) (by decide) (by decide) wd_1915 wd_1912 wd_1914 wd_115 wd_129 hy_X9_withoutHis dX9_still_30 (snd_callV (pc := 33) (n := 1) cls9 (s_X9_day F) (by decide) (by decide) wd_1791 wd_1788 wd_1790 wd_100 wd_129 hy_X9_day dX9_still_33 (snd_aload_n (pc := 36) (i := 0) dX9_still_36 (snd_iload_n (pc := 37) (i := 3) dX9_still_37 (snd_callV (pc := 38) (n := 1) cls9 (s_X9_net F) (by decide) (by decide) wd_1822 wd_1819 wd_1821 wd_107 wd_129 hy_X9_net dX9_still_38 (snd_ireturn dX9_still_41)))))))))) (snd_ldcw (pc := 22) (z := (-100000)) (by decide) wd_1787 dX9_still_22 (snd_ireturn dX9_still_25))))))))))))))

/-! LastWalkerModel.giftTo(II)I -/
theorem dX9_giftTo_0 : decode cX9_giftTo 0 = .ok (.aload_n 0, 1) := by decide +kernel
theorem dX9_giftTo_1 : decode cX9_giftTo 1 = .ok (.iload_n 1, 1) := by decide +kernel
theorem dX9_giftTo_2 : decode cX9_giftTo 2 = .ok (.invokevirtual 436, 3) := by decide +kernel
theorem dX9_giftTo_5 : decode cX9_giftTo 5 = .ok (.aload_n 0, 1) := by decide +kernel
theorem dX9_giftTo_6 : decode cX9_giftTo 6 = .ok (.iload_n 2, 1) := by decide +kernel
theorem dX9_giftTo_7 : decode cX9_giftTo 7 = .ok (.invokevirtual 423, 3) := by decide +kernel
theorem dX9_giftTo_10 : decode cX9_giftTo 10 = .ok (.istore_n 3, 1) := by decide +kernel
theorem dX9_giftTo_11 : decode cX9_giftTo 11 = .ok (.iconst (-1), 1) := by decide +kernel
theorem dX9_giftTo_12 : decode cX9_giftTo 12 = .ok (.istore 4, 2) := by decide +kernel
theorem dX9_giftTo_14 : decode cX9_giftTo 14 = .ok (.iconst 0, 1) := by decide +kernel
theorem dX9_giftTo_15 : decode cX9_giftTo 15 = .ok (.istore 5, 2) := by decide +kernel
theorem dX9_giftTo_17 : decode cX9_giftTo 17 = .ok (.iload 5, 2) := by decide +kernel
theorem dX9_giftTo_19 : decode cX9_giftTo 19 = .ok (.aload_n 0, 1) := by decide +kernel
theorem dX9_giftTo_20 : decode cX9_giftTo 20 = .ok (.getfield 261, 3) := by decide +kernel
theorem dX9_giftTo_23 : decode cX9_giftTo 23 = .ok (.if_icmp .ge 62, 3) := by decide +kernel
theorem dX9_giftTo_26 : decode cX9_giftTo 26 = .ok (.aload_n 0, 1) := by decide +kernel
theorem dX9_giftTo_27 : decode cX9_giftTo 27 = .ok (.iload 5, 2) := by decide +kernel
theorem dX9_giftTo_29 : decode cX9_giftTo 29 = .ok (.putfield 279, 3) := by decide +kernel
theorem dX9_giftTo_32 : decode cX9_giftTo 32 = .ok (.aload_n 0, 1) := by decide +kernel
theorem dX9_giftTo_33 : decode cX9_giftTo 33 = .ok (.iload_n 2, 1) := by decide +kernel
theorem dX9_giftTo_34 : decode cX9_giftTo 34 = .ok (.putfield 291, 3) := by decide +kernel
theorem dX9_giftTo_37 : decode cX9_giftTo 37 = .ok (.aload_n 0, 1) := by decide +kernel
theorem dX9_giftTo_38 : decode cX9_giftTo 38 = .ok (.iload_n 1, 1) := by decide +kernel
theorem dX9_giftTo_39 : decode cX9_giftTo 39 = .ok (.invokevirtual 436, 3) := by decide +kernel
theorem dX9_giftTo_42 : decode cX9_giftTo 42 = .ok (.aload_n 0, 1) := by decide +kernel
theorem dX9_giftTo_43 : decode cX9_giftTo 43 = .ok (.iload_n 2, 1) := by decide +kernel
theorem dX9_giftTo_44 : decode cX9_giftTo 44 = .ok (.invokevirtual 423, 3) := by decide +kernel
theorem dX9_giftTo_47 : decode cX9_giftTo 47 = .ok (.iload_n 3, 1) := by decide +kernel
theorem dX9_giftTo_48 : decode cX9_giftTo 48 = .ok (.if_icmp .ge 8, 3) := by decide +kernel
theorem dX9_giftTo_51 : decode cX9_giftTo 51 = .ok (.iload 5, 2) := by decide +kernel
theorem dX9_giftTo_53 : decode cX9_giftTo 53 = .ok (.goto 5, 3) := by decide +kernel
theorem dX9_giftTo_56 : decode cX9_giftTo 56 = .ok (.iload 4, 2) := by decide +kernel
theorem dX9_giftTo_58 : decode cX9_giftTo 58 = .ok (.istore 4, 2) := by decide +kernel
theorem dX9_giftTo_60 : decode cX9_giftTo 60 = .ok (.aload_n 0, 1) := by decide +kernel
theorem dX9_giftTo_61 : decode cX9_giftTo 61 = .ok (.iload_n 2, 1) := by decide +kernel
theorem dX9_giftTo_62 : decode cX9_giftTo 62 = .ok (.invokevirtual 423, 3) := by decide +kernel
theorem dX9_giftTo_65 : decode cX9_giftTo 65 = .ok (.iload_n 3, 1) := by decide +kernel
theorem dX9_giftTo_66 : decode cX9_giftTo 66 = .ok (.if_icmp .ge 11, 3) := by decide +kernel
theorem dX9_giftTo_69 : decode cX9_giftTo 69 = .ok (.aload_n 0, 1) := by decide +kernel
theorem dX9_giftTo_70 : decode cX9_giftTo 70 = .ok (.iload_n 2, 1) := by decide +kernel
theorem dX9_giftTo_71 : decode cX9_giftTo 71 = .ok (.invokevirtual 423, 3) := by decide +kernel
theorem dX9_giftTo_74 : decode cX9_giftTo 74 = .ok (.goto 4, 3) := by decide +kernel
theorem dX9_giftTo_77 : decode cX9_giftTo 77 = .ok (.iload_n 3, 1) := by decide +kernel
theorem dX9_giftTo_78 : decode cX9_giftTo 78 = .ok (.istore_n 3, 1) := by decide +kernel
theorem dX9_giftTo_79 : decode cX9_giftTo 79 = .ok (.iinc 5 1, 3) := by decide +kernel
theorem dX9_giftTo_82 : decode cX9_giftTo 82 = .ok (.goto (-65), 3) := by decide +kernel
theorem dX9_giftTo_85 : decode cX9_giftTo 85 = .ok (.iload 4, 2) := by decide +kernel
theorem dX9_giftTo_87 : decode cX9_giftTo 87 = .ok (.ireturn, 1) := by decide +kernel
noncomputable def k_X9_giftTo_78 (F : Nat) (h17 : AK) : AK := ak_istore 3 (ak_iinc 5 1 h17)
set_option maxRecDepth 20000 in
theorem sk_X9_giftTo_78 (F : Nat) {h17 : AK} (hh17 : Snd X0 RX9 cX9_giftTo 6 8 17 h17) : Snd X0 RX9 cX9_giftTo 6 8 78 (k_X9_giftTo_78 F h17) := by
  unfold k_X9_giftTo_78
  exact snd_istore_n (pc := 78) (i := 3) (by decide) dX9_giftTo_78 (snd_iinc (pc := 79) (i := 5) (n := 1) (by decide) dX9_giftTo_79 (snd_goto (pc := 82) (off := (-65)) (tgt := 17) (by decide) dX9_giftTo_82 (hh17)))
noncomputable def k_X9_giftTo_58 (F : Nat) (h17 : AK) : AK := ak_istore 4 (ak_aload 0 (ak_iload 2 (ak_callv 9 1 (m_X9_net F) (ak_iload 3 (ak_cmplt (ak_aload 0 (ak_iload 2 (ak_callv 9 1 (m_X9_net F) ((k_X9_giftTo_78 F h17))))) (ak_iload 3 ((k_X9_giftTo_78 F h17))))))))
set_option maxRecDepth 20000 in
theorem sk_X9_giftTo_58 (F : Nat) {h17 : AK} (hh17 : Snd X0 RX9 cX9_giftTo 6 8 17 h17) : Snd X0 RX9 cX9_giftTo 6 8 58 (k_X9_giftTo_58 F h17) := by
  unfold k_X9_giftTo_58
  exact snd_istore (pc := 58) (i := 4) (by decide) dX9_giftTo_58 (snd_aload_n (pc := 60) (i := 0) dX9_giftTo_60 (snd_iload_n (pc := 61) (i := 2) dX9_giftTo_61 (snd_callV (pc := 62) (n := 1) cls9 (s_X9_net F) (by decide) (by decide) wd_1822 wd_1819 wd_1821 wd_107 wd_129 hy_X9_net dX9_giftTo_62 (snd_iload_n (pc := 65) (i := 3) dX9_giftTo_65 (snd_icmpge (pc := 66) (off := 11) (tgt := 77) (by decide) dX9_giftTo_66 (snd_iload_n (pc := 77) (i := 3) dX9_giftTo_77 ((sk_X9_giftTo_78 F hh17))) (snd_aload_n (pc := 69) (i := 0) dX9_giftTo_69 (snd_iload_n (pc := 70) (i := 2) dX9_giftTo_70 (snd_callV (pc := 71) (n := 1) cls9 (s_X9_net F) (by decide) (by decide) wd_1822 wd_1819 wd_1821 wd_107 wd_129 hy_X9_net dX9_giftTo_71 (snd_goto (pc := 74) (off := 4) (tgt := 78) (by decide) dX9_giftTo_74 ((sk_X9_giftTo_78 F hh17)))))))))))
noncomputable def kb_X9_giftTo_17 (F : Nat) (self : AK) : AK := ak_iload 5 (ak_aload 0 (ak_getf 9 23 (ak_cmplt (ak_aload 0 (ak_iload 5 (ak_putf 9 29 (ak_aload 0 (ak_iload 2 (ak_putf 9 30 (ak_aload 0 (ak_iload 1 (ak_callv 9 1 (m_X9_day F) (ak_aload 0 (ak_iload 2 (ak_callv 9 1 (m_X9_net F) (ak_iload 3 (ak_cmplt (ak_iload 5 ((k_X9_giftTo_58 F self))) (ak_iload 4 ((k_X9_giftTo_58 F self))))))))))))))))) (ak_iload 4 ak_ireturn))))
noncomputable def k_X9_giftTo_17 (F : Nat) (n : Nat) : AK := Nat.rec (motive := fun _ => AK) ak_none (fun _ self => kb_X9_giftTo_17 F self) n
set_option maxRecDepth 20000 in
theorem sk_X9_giftTo_17 (F : Nat) : ∀ n, Snd X0 RX9 cX9_giftTo 6 8 17 (k_X9_giftTo_17 F n) := by
  intro n
  induction n with
  | zero => exact snd_none
  | succ n ih =>
    show Snd X0 RX9 cX9_giftTo 6 8 17 (kb_X9_giftTo_17 F (k_X9_giftTo_17 F n))
    unfold kb_X9_giftTo_17
    exact snd_iload (pc := 17) (i := 5) dX9_giftTo_17 (snd_aload_n (pc := 19) (i := 0) dX9_giftTo_19 (snd_getf (pc := 20) cls9 (f := 23) (by decide) wd_1326 dX9_giftTo_20 (snd_icmpge (pc := 23) (off := 62) (tgt := 85) (by decide) dX9_giftTo_23 (snd_iload (pc := 85) (i := 4) dX9_giftTo_85 (snd_ireturn dX9_giftTo_87)) (snd_aload_n (pc := 26) (i := 0) dX9_giftTo_26 (snd_iload (pc := 27) (i := 5) dX9_giftTo_27 (snd_putf (pc := 29) cls9 (f := 29) (by decide) rfl rfl rfl wd_1332 dX9_giftTo_29 (snd_aload_n (pc := 32) (i := 0) dX9_giftTo_32 (snd_iload_n (pc := 33) (i := 2) dX9_giftTo_33 (snd_putf (pc := 34) cls9 (f := 30) (by decide) rfl rfl rfl wd_1333 dX9_giftTo_34 (snd_aload_n (pc := 37) (i := 0) dX9_giftTo_37 (snd_iload_n (pc := 38) (i := 1) dX9_giftTo_38 (snd_callV (pc := 39) (n := 1) cls9 (s_X9_day F) (by decide) (by decide) wd_1791 wd_1788 wd_1790 wd_100 wd_129 hy_X9_day dX9_giftTo_39 (snd_aload_n (pc := 42) (i := 0) dX9_giftTo_42 (snd_iload_n (pc := 43) (i := 2) dX9_giftTo_43 (snd_callV (pc := 44) (n := 1) cls9 (s_X9_net F) (by decide) (by decide) wd_1822 wd_1819 wd_1821 wd_107 wd_129 hy_X9_net dX9_giftTo_44 (snd_iload_n (pc := 47) (i := 3) dX9_giftTo_47 (snd_icmpge (pc := 48) (off := 8) (tgt := 56) (by decide) dX9_giftTo_48 (snd_iload (pc := 56) (i := 4) dX9_giftTo_56 ((sk_X9_giftTo_58 F ih))) (snd_iload (pc := 51) (i := 5) dX9_giftTo_51 (snd_goto (pc := 53) (off := 5) (tgt := 58) (by decide) dX9_giftTo_53 ((sk_X9_giftTo_58 F ih)))))))))))))))))))))
noncomputable def k_X9_giftTo (F : Nat) : AK := ak_aload 0 (ak_iload 1 (ak_callv 9 1 (m_X9_day F) (ak_aload 0 (ak_iload 2 (ak_callv 9 1 (m_X9_net F) (ak_istore 3 (ak_push (vI (-1)) (ak_istore 4 (ak_push (vI 0) (ak_istore 5 ((k_X9_giftTo_17 F F))))))))))))
noncomputable def m_X9_giftTo (F : Nat) : AF := mkF 1 6 (k_X9_giftTo F)
set_option maxRecDepth 20000 in
theorem s_X9_giftTo (F : Nat) : MA yX9_giftTo cX9_giftTo 6 (some .int) 8 (m_X9_giftTo F) := met_of (Or.inr (Or.inl ⟨rfl, rfl⟩)) (by decide) (by
  unfold k_X9_giftTo
  exact snd_aload_n (pc := 0) (i := 0) dX9_giftTo_0 (snd_iload_n (pc := 1) (i := 1) dX9_giftTo_1 (snd_callV (pc := 2) (n := 1) cls9 (s_X9_day F) (by decide) (by decide) wd_1791 wd_1788 wd_1790 wd_100 wd_129 hy_X9_day dX9_giftTo_2 (snd_aload_n (pc := 5) (i := 0) dX9_giftTo_5 (snd_iload_n (pc := 6) (i := 2) dX9_giftTo_6 (snd_callV (pc := 7) (n := 1) cls9 (s_X9_net F) (by decide) (by decide) wd_1822 wd_1819 wd_1821 wd_107 wd_129 hy_X9_net dX9_giftTo_7 (snd_istore_n (pc := 10) (i := 3) (by decide) dX9_giftTo_10 (snd_iconst (pc := 11) dX9_giftTo_11 (snd_istore (pc := 12) (i := 4) (by decide) dX9_giftTo_12 (snd_iconst (pc := 14) dX9_giftTo_14 (snd_istore (pc := 15) (i := 5) (by decide) dX9_giftTo_15 ((sk_X9_giftTo_17 F F)))))))))))))

/-! LastWalkerModel.houseOf(II)I -/
theorem dX9_houseOf_0 : decode cX9_houseOf 0 = .ok (.iconst (-1), 1) := by decide +kernel
theorem dX9_houseOf_1 : decode cX9_houseOf 1 = .ok (.istore_n 3, 1) := by decide +kernel
theorem dX9_houseOf_2 : decode cX9_houseOf 2 = .ok (.iconst 0, 1) := by decide +kernel
theorem dX9_houseOf_3 : decode cX9_houseOf 3 = .ok (.istore 4, 2) := by decide +kernel
theorem dX9_houseOf_5 : decode cX9_houseOf 5 = .ok (.iconst 0, 1) := by decide +kernel
theorem dX9_houseOf_6 : decode cX9_houseOf 6 = .ok (.istore 5, 2) := by decide +kernel
theorem dX9_houseOf_8 : decode cX9_houseOf 8 = .ok (.iload 5, 2) := by decide +kernel
theorem dX9_houseOf_10 : decode cX9_houseOf 10 = .ok (.aload_n 0, 1) := by decide +kernel
theorem dX9_houseOf_11 : decode cX9_houseOf 11 = .ok (.getfield 258, 3) := by decide +kernel
theorem dX9_houseOf_14 : decode cX9_houseOf 14 = .ok (.if_icmp .ge 47, 3) := by decide +kernel
theorem dX9_houseOf_17 : decode cX9_houseOf 17 = .ok (.aload_n 0, 1) := by decide +kernel
theorem dX9_houseOf_18 : decode cX9_houseOf 18 = .ok (.getfield 78, 3) := by decide +kernel
theorem dX9_houseOf_21 : decode cX9_houseOf 21 = .ok (.iload_n 2, 1) := by decide +kernel
theorem dX9_houseOf_22 : decode cX9_houseOf 22 = .ok (.iload 5, 2) := by decide +kernel
theorem dX9_houseOf_24 : decode cX9_houseOf 24 = .ok (.iastore, 1) := by decide +kernel
theorem dX9_houseOf_25 : decode cX9_houseOf 25 = .ok (.aload_n 0, 1) := by decide +kernel
theorem dX9_houseOf_26 : decode cX9_houseOf 26 = .ok (.iload_n 1, 1) := by decide +kernel
theorem dX9_houseOf_27 : decode cX9_houseOf 27 = .ok (.invokevirtual 436, 3) := by decide +kernel
theorem dX9_houseOf_30 : decode cX9_houseOf 30 = .ok (.iload_n 3, 1) := by decide +kernel
theorem dX9_houseOf_31 : decode cX9_houseOf 31 = .ok (.iconst (-1), 1) := by decide +kernel
theorem dX9_houseOf_32 : decode cX9_houseOf 32 = .ok (.if_icmp .eq 13, 3) := by decide +kernel
theorem dX9_houseOf_35 : decode cX9_houseOf 35 = .ok (.aload_n 0, 1) := by decide +kernel
theorem dX9_houseOf_36 : decode cX9_houseOf 36 = .ok (.iload_n 2, 1) := by decide +kernel
theorem dX9_houseOf_37 : decode cX9_houseOf 37 = .ok (.invokevirtual 423, 3) := by decide +kernel
theorem dX9_houseOf_40 : decode cX9_houseOf 40 = .ok (.iload 4, 2) := by decide +kernel
theorem dX9_houseOf_42 : decode cX9_houseOf 42 = .ok (.if_icmp .ge 13, 3) := by decide +kernel
theorem dX9_houseOf_45 : decode cX9_houseOf 45 = .ok (.iload 5, 2) := by decide +kernel
theorem dX9_houseOf_47 : decode cX9_houseOf 47 = .ok (.istore_n 3, 1) := by decide +kernel
theorem dX9_houseOf_48 : decode cX9_houseOf 48 = .ok (.aload_n 0, 1) := by decide +kernel
theorem dX9_houseOf_49 : decode cX9_houseOf 49 = .ok (.iload_n 2, 1) := by decide +kernel
theorem dX9_houseOf_50 : decode cX9_houseOf 50 = .ok (.invokevirtual 423, 3) := by decide +kernel
theorem dX9_houseOf_53 : decode cX9_houseOf 53 = .ok (.istore 4, 2) := by decide +kernel
theorem dX9_houseOf_55 : decode cX9_houseOf 55 = .ok (.iinc 5 1, 3) := by decide +kernel
theorem dX9_houseOf_58 : decode cX9_houseOf 58 = .ok (.goto (-50), 3) := by decide +kernel
theorem dX9_houseOf_61 : decode cX9_houseOf 61 = .ok (.iload_n 3, 1) := by decide +kernel
theorem dX9_houseOf_62 : decode cX9_houseOf 62 = .ok (.ireturn, 1) := by decide +kernel
noncomputable def k_X9_houseOf_55 (F : Nat) (h8 : AK) : AK := ak_iinc 5 1 h8
set_option maxRecDepth 20000 in
theorem sk_X9_houseOf_55 (F : Nat) {h8 : AK} (hh8 : Snd X0 RX9 cX9_houseOf 6 8 8 h8) : Snd X0 RX9 cX9_houseOf 6 8 55 (k_X9_houseOf_55 F h8) := by
  unfold k_X9_houseOf_55
  exact snd_iinc (pc := 55) (i := 5) (n := 1) (by decide) dX9_houseOf_55 (snd_goto (pc := 58) (off := (-50)) (tgt := 8) (by decide) dX9_houseOf_58 (hh8))
noncomputable def k_X9_houseOf_45 (F : Nat) (h8 : AK) : AK := ak_iload 5 (ak_istore 3 (ak_aload 0 (ak_iload 2 (ak_callv 9 1 (m_X9_net F) (ak_istore 4 ((k_X9_houseOf_55 F h8)))))))
set_option maxRecDepth 20000 in
theorem sk_X9_houseOf_45 (F : Nat) {h8 : AK} (hh8 : Snd X0 RX9 cX9_houseOf 6 8 8 h8) : Snd X0 RX9 cX9_houseOf 6 8 45 (k_X9_houseOf_45 F h8) := by
  unfold k_X9_houseOf_45
  exact snd_iload (pc := 45) (i := 5) dX9_houseOf_45 (snd_istore_n (pc := 47) (i := 3) (by decide) dX9_houseOf_47 (snd_aload_n (pc := 48) (i := 0) dX9_houseOf_48 (snd_iload_n (pc := 49) (i := 2) dX9_houseOf_49 (snd_callV (pc := 50) (n := 1) cls9 (s_X9_net F) (by decide) (by decide) wd_1822 wd_1819 wd_1821 wd_107 wd_129 hy_X9_net dX9_houseOf_50 (snd_istore (pc := 53) (i := 4) (by decide) dX9_houseOf_53 ((sk_X9_houseOf_55 F hh8)))))))
noncomputable def kb_X9_houseOf_8 (F : Nat) (self : AK) : AK := ak_iload 5 (ak_aload 0 (ak_getf 9 22 (ak_cmplt (ak_aload 0 (ak_getf 9 50 (ak_iload 2 (ak_iload 5 (ak_iast (ak_aload 0 (ak_iload 1 (ak_callv 9 1 (m_X9_day F) (ak_iload 3 (ak_push (vI (-1)) (ak_cmpeq ((k_X9_houseOf_45 F self)) (ak_aload 0 (ak_iload 2 (ak_callv 9 1 (m_X9_net F) (ak_iload 4 (ak_cmplt ((k_X9_houseOf_45 F self)) ((k_X9_houseOf_55 F self)))))))))))))))))) (ak_iload 3 ak_ireturn))))
noncomputable def k_X9_houseOf_8 (F : Nat) (n : Nat) : AK := Nat.rec (motive := fun _ => AK) ak_none (fun _ self => kb_X9_houseOf_8 F self) n
set_option maxRecDepth 20000 in
theorem sk_X9_houseOf_8 (F : Nat) : ∀ n, Snd X0 RX9 cX9_houseOf 6 8 8 (k_X9_houseOf_8 F n) := by
  intro n
  induction n with
  | zero => exact snd_none
  | succ n ih =>
    show Snd X0 RX9 cX9_houseOf 6 8 8 (kb_X9_houseOf_8 F (k_X9_houseOf_8 F n))
    unfold kb_X9_houseOf_8
    exact snd_iload (pc := 8) (i := 5) dX9_houseOf_8 (snd_aload_n (pc := 10) (i := 0) dX9_houseOf_10 (snd_getf (pc := 11) cls9 (f := 22) (by decide) wd_1325 dX9_houseOf_11 (snd_icmpge (pc := 14) (off := 47) (tgt := 61) (by decide) dX9_houseOf_14 (snd_iload_n (pc := 61) (i := 3) dX9_houseOf_61 (snd_ireturn dX9_houseOf_62)) (snd_aload_n (pc := 17) (i := 0) dX9_houseOf_17 (snd_getf (pc := 18) cls9 (f := 50) (by decide) wd_1353 dX9_houseOf_18 (snd_iload_n (pc := 21) (i := 2) dX9_houseOf_21 (snd_iload (pc := 22) (i := 5) dX9_houseOf_22 (snd_iast (pc := 24) dX9_houseOf_24 (snd_aload_n (pc := 25) (i := 0) dX9_houseOf_25 (snd_iload_n (pc := 26) (i := 1) dX9_houseOf_26 (snd_callV (pc := 27) (n := 1) cls9 (s_X9_day F) (by decide) (by decide) wd_1791 wd_1788 wd_1790 wd_100 wd_129 hy_X9_day dX9_houseOf_27 (snd_iload_n (pc := 30) (i := 3) dX9_houseOf_30 (snd_iconst (pc := 31) dX9_houseOf_31 (snd_icmpeq (pc := 32) (off := 13) (tgt := 45) (by decide) dX9_houseOf_32 ((sk_X9_houseOf_45 F ih)) (snd_aload_n (pc := 35) (i := 0) dX9_houseOf_35 (snd_iload_n (pc := 36) (i := 2) dX9_houseOf_36 (snd_callV (pc := 37) (n := 1) cls9 (s_X9_net F) (by decide) (by decide) wd_1822 wd_1819 wd_1821 wd_107 wd_129 hy_X9_net dX9_houseOf_37 (snd_iload (pc := 40) (i := 4) dX9_houseOf_40 (snd_icmpge (pc := 42) (off := 13) (tgt := 55) (by decide) dX9_houseOf_42 ((sk_X9_houseOf_55 F ih)) ((sk_X9_houseOf_45 F ih)))))))))))))))))))))
noncomputable def k_X9_houseOf (F : Nat) : AK := ak_push (vI (-1)) (ak_istore 3 (ak_push (vI 0) (ak_istore 4 (ak_push (vI 0) (ak_istore 5 ((k_X9_houseOf_8 F F)))))))
noncomputable def m_X9_houseOf (F : Nat) : AF := mkF 1 6 (k_X9_houseOf F)
set_option maxRecDepth 20000 in
theorem s_X9_houseOf (F : Nat) : MA yX9_houseOf cX9_houseOf 6 (some .int) 8 (m_X9_houseOf F) := met_of (Or.inr (Or.inl ⟨rfl, rfl⟩)) (by decide) (by
  unfold k_X9_houseOf
  exact snd_iconst (pc := 0) dX9_houseOf_0 (snd_istore_n (pc := 1) (i := 3) (by decide) dX9_houseOf_1 (snd_iconst (pc := 2) dX9_houseOf_2 (snd_istore (pc := 3) (i := 4) (by decide) dX9_houseOf_3 (snd_iconst (pc := 5) dX9_houseOf_5 (snd_istore (pc := 6) (i := 5) (by decide) dX9_houseOf_6 ((sk_X9_houseOf_8 F F))))))))

/-! LastWalkerModel.house(IIIZ)I -/
theorem dX9_house_0 : decode cX9_house 0 = .ok (.aload_n 0, 1) := by decide +kernel
theorem dX9_house_1 : decode cX9_house 1 = .ok (.iconst 0, 1) := by decide +kernel
theorem dX9_house_2 : decode cX9_house 2 = .ok (.putfield 112, 3) := by decide +kernel
theorem dX9_house_5 : decode cX9_house 5 = .ok (.aload_n 0, 1) := by decide +kernel
theorem dX9_house_6 : decode cX9_house 6 = .ok (.iload_n 1, 1) := by decide +kernel
theorem dX9_house_7 : decode cX9_house 7 = .ok (.iload_n 2, 1) := by decide +kernel
theorem dX9_house_8 : decode cX9_house 8 = .ok (.invokevirtual 432, 3) := by decide +kernel
theorem dX9_house_11 : decode cX9_house 11 = .ok (.ifCond .eq 11, 3) := by decide +kernel
theorem dX9_house_14 : decode cX9_house 14 = .ok (.aload_n 0, 1) := by decide +kernel
theorem dX9_house_15 : decode cX9_house 15 = .ok (.iload_n 3, 1) := by decide +kernel
theorem dX9_house_16 : decode cX9_house 16 = .ok (.invokevirtual 316, 3) := by decide +kernel
theorem dX9_house_19 : decode cX9_house 19 = .ok (.ifCond .ne 5, 3) := by decide +kernel
theorem dX9_house_22 : decode cX9_house 22 = .ok (.iconst (-1), 1) := by decide +kernel
theorem dX9_house_23 : decode cX9_house 23 = .ok (.ireturn, 1) := by decide +kernel
theorem dX9_house_24 : decode cX9_house 24 = .ok (.iload 4, 2) := by decide +kernel
theorem dX9_house_26 : decode cX9_house 26 = .ok (.ifCond .eq 12, 3) := by decide +kernel
theorem dX9_house_29 : decode cX9_house 29 = .ok (.aload_n 0, 1) := by decide +kernel
theorem dX9_house_30 : decode cX9_house 30 = .ok (.iload_n 2, 1) := by decide +kernel
theorem dX9_house_31 : decode cX9_house 31 = .ok (.iload_n 3, 1) := by decide +kernel
theorem dX9_house_32 : decode cX9_house 32 = .ok (.invokevirtual 470, 3) := by decide +kernel
theorem dX9_house_35 : decode cX9_house 35 = .ok (.goto 9, 3) := by decide +kernel
theorem dX9_house_38 : decode cX9_house 38 = .ok (.aload_n 0, 1) := by decide +kernel
theorem dX9_house_39 : decode cX9_house 39 = .ok (.iload_n 2, 1) := by decide +kernel
theorem dX9_house_40 : decode cX9_house 40 = .ok (.iload_n 3, 1) := by decide +kernel
theorem dX9_house_41 : decode cX9_house 41 = .ok (.invokevirtual 473, 3) := by decide +kernel
theorem dX9_house_44 : decode cX9_house 44 = .ok (.ireturn, 1) := by decide +kernel
noncomputable def k_X9_house (F : Nat) : AK := ak_aload 0 (ak_push (vI 0) (ak_putf 9 0 (ak_aload 0 (ak_iload 1 (ak_iload 2 (ak_callv 9 2 (m_X9_layErrands F) (ak_ifeq (ak_push (vI (-1)) ak_ireturn) (ak_aload 0 (ak_iload 3 (ak_callv 9 1 (m_X9_isPerson F) (ak_ifeq (ak_push (vI (-1)) ak_ireturn) (ak_iload 4 (ak_ifeq (ak_aload 0 (ak_iload 2 (ak_iload 3 (ak_callv 9 2 (m_X9_houseOf F) ak_ireturn)))) (ak_aload 0 (ak_iload 2 (ak_iload 3 (ak_callv 9 2 (m_X9_giftTo F) ak_ireturn)))))))))))))))))
noncomputable def m_X9_house (F : Nat) : AF := mkF 1 5 (k_X9_house F)
set_option maxRecDepth 20000 in
theorem s_X9_house (F : Nat) : MA yX9_house cX9_house 5 (some .int) 9 (m_X9_house F) := met_of (Or.inr (Or.inl ⟨rfl, rfl⟩)) (by decide) (by
  unfold k_X9_house
  exact snd_aload_n (pc := 0) (i := 0) dX9_house_0 (snd_iconst (pc := 1) dX9_house_1 (snd_putf (pc := 2) cls9 (f := 0) (by decide) rfl rfl rfl wd_1303 dX9_house_2 (snd_aload_n (pc := 5) (i := 0) dX9_house_5 (snd_iload_n (pc := 6) (i := 1) dX9_house_6 (snd_iload_n (pc := 7) (i := 2) dX9_house_7 (snd_callV (pc := 8) (n := 2) cls9 (s_X9_layErrands F) (by decide) (by decide) wd_1777 wd_1774 wd_1776 wd_97 wd_129 hy_X9_layErrands dX9_house_8 (snd_ifeq (pc := 11) (off := 11) (tgt := 22) (by decide) dX9_house_11 (snd_iconst (pc := 22) dX9_house_22 (snd_ireturn dX9_house_23)) (snd_aload_n (pc := 14) (i := 0) dX9_house_14 (snd_iload_n (pc := 15) (i := 3) dX9_house_15 (snd_callV (pc := 16) (n := 1) cls9 (s_X9_isPerson F) (by decide) (by decide) wd_1665 wd_1662 wd_1664 wd_79 wd_129 hy_X9_isPerson dX9_house_16 (snd_ifne (pc := 19) (off := 5) (tgt := 24) (by decide) dX9_house_19 (snd_iload (pc := 24) (i := 4) dX9_house_24 (snd_ifeq (pc := 26) (off := 12) (tgt := 38) (by decide) dX9_house_26 (snd_aload_n (pc := 38) (i := 0) dX9_house_38 (snd_iload_n (pc := 39) (i := 2) dX9_house_39 (snd_iload_n (pc := 40) (i := 3) dX9_house_40 (snd_callV (pc := 41) (n := 2) cls9 (s_X9_houseOf F) (by decide) (by decide) wd_1927 wd_1924 wd_1926 wd_117 wd_129 hy_X9_houseOf dX9_house_41 (snd_ireturn dX9_house_44))))) (snd_aload_n (pc := 29) (i := 0) dX9_house_29 (snd_iload_n (pc := 30) (i := 2) dX9_house_30 (snd_iload_n (pc := 31) (i := 3) dX9_house_31 (snd_callV (pc := 32) (n := 2) cls9 (s_X9_giftTo F) (by decide) (by decide) wd_1923 wd_1920 wd_1922 wd_116 wd_129 hy_X9_giftTo dX9_house_32 (snd_goto (pc := 35) (off := 9) (tgt := 44) (by decide) dX9_house_35 (snd_ireturn dX9_house_44)))))))) (snd_iconst (pc := 22) dX9_house_22 (snd_ireturn dX9_house_23))))))))))))))

/-! LastWalkerModel.moved(IIII)I -/
theorem dX9_moved_0 : decode cX9_moved 0 = .ok (.aload_n 0, 1) := by decide +kernel
theorem dX9_moved_1 : decode cX9_moved 1 = .ok (.iconst 0, 1) := by decide +kernel
theorem dX9_moved_2 : decode cX9_moved 2 = .ok (.putfield 112, 3) := by decide +kernel
theorem dX9_moved_5 : decode cX9_moved 5 = .ok (.aload_n 0, 1) := by decide +kernel
theorem dX9_moved_6 : decode cX9_moved 6 = .ok (.iload_n 1, 1) := by decide +kernel
theorem dX9_moved_7 : decode cX9_moved 7 = .ok (.iload_n 2, 1) := by decide +kernel
theorem dX9_moved_8 : decode cX9_moved 8 = .ok (.invokevirtual 432, 3) := by decide +kernel
theorem dX9_moved_11 : decode cX9_moved 11 = .ok (.ifCond .eq 37, 3) := by decide +kernel
theorem dX9_moved_14 : decode cX9_moved 14 = .ok (.iload_n 3, 1) := by decide +kernel
theorem dX9_moved_15 : decode cX9_moved 15 = .ok (.iconst 0, 1) := by decide +kernel
theorem dX9_moved_16 : decode cX9_moved 16 = .ok (.aload_n 0, 1) := by decide +kernel
theorem dX9_moved_17 : decode cX9_moved 17 = .ok (.getfield 267, 3) := by decide +kernel
theorem dX9_moved_20 : decode cX9_moved 20 = .ok (.iconst 1, 1) := by decide +kernel
theorem dX9_moved_21 : decode cX9_moved 21 = .ok (.isub, 1) := by decide +kernel
theorem dX9_moved_22 : decode cX9_moved 22 = .ok (.invokestatic 120, 3) := by decide +kernel
theorem dX9_moved_25 : decode cX9_moved 25 = .ok (.ifCond .eq 23, 3) := by decide +kernel
theorem dX9_moved_28 : decode cX9_moved 28 = .ok (.iload_n 2, 1) := by decide +kernel
theorem dX9_moved_29 : decode cX9_moved 29 = .ok (.iload_n 3, 1) := by decide +kernel
theorem dX9_moved_30 : decode cX9_moved 30 = .ok (.invokestatic 407, 3) := by decide +kernel
theorem dX9_moved_33 : decode cX9_moved 33 = .ok (.ifCond .eq 15, 3) := by decide +kernel
theorem dX9_moved_36 : decode cX9_moved 36 = .ok (.iload 4, 2) := by decide +kernel
theorem dX9_moved_38 : decode cX9_moved 38 = .ok (.iconst 0, 1) := by decide +kernel
theorem dX9_moved_39 : decode cX9_moved 39 = .ok (.sipush 359, 3) := by decide +kernel
theorem dX9_moved_42 : decode cX9_moved 42 = .ok (.invokestatic 120, 3) := by decide +kernel
theorem dX9_moved_45 : decode cX9_moved 45 = .ok (.ifCond .ne 7, 3) := by decide +kernel
theorem dX9_moved_48 : decode cX9_moved 48 = .ok (.ldc_w 435, 3) := by decide +kernel
theorem dX9_moved_51 : decode cX9_moved 51 = .ok (.ireturn, 1) := by decide +kernel
theorem dX9_moved_52 : decode cX9_moved 52 = .ok (.aload_n 0, 1) := by decide +kernel
theorem dX9_moved_53 : decode cX9_moved 53 = .ok (.getfield 81, 3) := by decide +kernel
theorem dX9_moved_56 : decode cX9_moved 56 = .ok (.iload_n 3, 1) := by decide +kernel
theorem dX9_moved_57 : decode cX9_moved 57 = .ok (.iload 4, 2) := by decide +kernel
theorem dX9_moved_59 : decode cX9_moved 59 = .ok (.iastore, 1) := by decide +kernel
theorem dX9_moved_60 : decode cX9_moved 60 = .ok (.aload_n 0, 1) := by decide +kernel
theorem dX9_moved_61 : decode cX9_moved 61 = .ok (.iload_n 2, 1) := by decide +kernel
theorem dX9_moved_62 : decode cX9_moved 62 = .ok (.invokevirtual 436, 3) := by decide +kernel
theorem dX9_moved_65 : decode cX9_moved 65 = .ok (.aload_n 0, 1) := by decide +kernel
theorem dX9_moved_66 : decode cX9_moved 66 = .ok (.aload_n 0, 1) := by decide +kernel
theorem dX9_moved_67 : decode cX9_moved 67 = .ok (.iload_n 3, 1) := by decide +kernel
theorem dX9_moved_68 : decode cX9_moved 68 = .ok (.iconst 0, 1) := by decide +kernel
theorem dX9_moved_69 : decode cX9_moved 69 = .ok (.invokevirtual 285, 3) := by decide +kernel
theorem dX9_moved_72 : decode cX9_moved 72 = .ok (.invokevirtual 423, 3) := by decide +kernel
theorem dX9_moved_75 : decode cX9_moved 75 = .ok (.ireturn, 1) := by decide +kernel
noncomputable def k_X9_moved (F : Nat) : AK := ak_aload 0 (ak_push (vI 0) (ak_putf 9 0 (ak_aload 0 (ak_iload 1 (ak_iload 2 (ak_callv 9 2 (m_X9_layErrands F) (ak_ifeq (ak_push (vI (-100000)) ak_ireturn) (ak_iload 3 (ak_push (vI 0) (ak_aload 0 (ak_getf 9 25 (ak_push (vI 1) (ak_isub (ak_call 3 (m_X9_in F) (ak_ifeq (ak_push (vI (-100000)) ak_ireturn) (ak_iload 2 (ak_iload 3 (ak_call 2 (m_X9_has F) (ak_ifeq (ak_push (vI (-100000)) ak_ireturn) (ak_iload 4 (ak_push (vI 0) (ak_push (vI 359) (ak_call 3 (m_X9_in F) (ak_ifeq (ak_push (vI (-100000)) ak_ireturn) (ak_aload 0 (ak_getf 9 51 (ak_iload 3 (ak_iload 4 (ak_iast (ak_aload 0 (ak_iload 2 (ak_callv 9 1 (m_X9_day F) (ak_aload 0 (ak_aload 0 (ak_iload 3 (ak_push (vI 0) (ak_callv 9 2 (m_X9_errandOf F) (ak_callv 9 1 (m_X9_net F) ak_ireturn))))))))))))))))))))))))))))))))))))))
noncomputable def m_X9_moved (F : Nat) : AF := mkF 1 5 (k_X9_moved F)
set_option maxRecDepth 20000 in
theorem s_X9_moved (F : Nat) : MA yX9_moved cX9_moved 5 (some .int) 8 (m_X9_moved F) := met_of (Or.inr (Or.inl ⟨rfl, rfl⟩)) (by decide) (by
  unfold k_X9_moved
  exact snd_aload_n (pc := 0) (i := 0) dX9_moved_0 (snd_iconst (pc := 1) dX9_moved_1 (snd_putf (pc := 2) cls9 (f := 0) (by decide) rfl rfl rfl wd_1303 dX9_moved_2 (snd_aload_n (pc := 5) (i := 0) dX9_moved_5 (snd_iload_n (pc := 6) (i := 1) dX9_moved_6 (snd_iload_n (pc := 7) (i := 2) dX9_moved_7 (snd_callV (pc := 8) (n := 2) cls9 (s_X9_layErrands F) (by decide) (by decide) wd_1777 wd_1774 wd_1776 wd_97 wd_129 hy_X9_layErrands dX9_moved_8 (snd_ifeq (pc := 11) (off := 37) (tgt := 48) (by decide) dX9_moved_11 (snd_ldcw (pc := 48) (z := (-100000)) (by decide) wd_1787 dX9_moved_48 (snd_ireturn dX9_moved_51)) (snd_iload_n (pc := 14) (i := 3) dX9_moved_14 (snd_iconst (pc := 15) dX9_moved_15 (snd_aload_n (pc := 16) (i := 0) dX9_moved_16 (snd_getf (pc := 17) cls9 (f := 25) (by decide) wd_1328 dX9_moved_17 (snd_iconst (pc := 20) dX9_moved_20 (snd_isub (pc := 21) dX9_moved_21 (snd_callS (pc := 22) (n := 3) (s_X9_in F) (by decide) (by decide) wd_1511 wd_1509 wd_1510 wd_129 hy_X9_in dX9_moved_22 (snd_ifeq (pc := 25) (off := 23) (tgt := 48) (by decide) dX9_moved_25 (snd_ldcw (pc := 48) (z := (-100000)) (by decide) wd_1787 dX9_moved_48 (snd_ireturn dX9_moved_51)) (snd_iload_n (pc := 28) (i := 2) dX9_moved_28 (snd_iload_n (pc := 29) (i := 3) dX9_moved_29 (snd_callS (pc := 30) (n := 2) (s_X9_has F) (by decide) (by decide) wd_1806 wd_1804 wd_1805 wd_129 hy_X9_has dX9_moved_30 (snd_ifeq (pc := 33) (off := 15) (tgt := 48) (by decide) dX9_moved_33 (snd_ldcw (pc := 48) (z := (-100000)) (by decide) wd_1787 dX9_moved_48 (snd_ireturn dX9_moved_51)) (snd_iload (pc := 36) (i := 4) dX9_moved_36 (snd_iconst (pc := 38) dX9_moved_38 (snd_sipush (pc := 39) (by decide) dX9_moved_39 (snd_callS (pc := 42) (n := 3) (s_X9_in F) (by decide) (by decide) wd_1511 wd_1509 wd_1510 wd_129 hy_X9_in dX9_moved_42 (snd_ifne (pc := 45) (off := 7) (tgt := 52) (by decide) dX9_moved_45 (snd_aload_n (pc := 52) (i := 0) dX9_moved_52 (snd_getf (pc := 53) cls9 (f := 51) (by decide) wd_1354 dX9_moved_53 (snd_iload_n (pc := 56) (i := 3) dX9_moved_56 (snd_iload (pc := 57) (i := 4) dX9_moved_57 (snd_iast (pc := 59) dX9_moved_59 (snd_aload_n (pc := 60) (i := 0) dX9_moved_60 (snd_iload_n (pc := 61) (i := 2) dX9_moved_61 (snd_callV (pc := 62) (n := 1) cls9 (s_X9_day F) (by decide) (by decide) wd_1791 wd_1788 wd_1790 wd_100 wd_129 hy_X9_day dX9_moved_62 (snd_aload_n (pc := 65) (i := 0) dX9_moved_65 (snd_aload_n (pc := 66) (i := 0) dX9_moved_66 (snd_iload_n (pc := 67) (i := 3) dX9_moved_67 (snd_iconst (pc := 68) dX9_moved_68 (snd_callV (pc := 69) (n := 2) cls9 (s_X9_errandOf F) (by decide) (by decide) wd_1649 wd_1646 wd_1648 wd_75 wd_129 hy_X9_errandOf dX9_moved_69 (snd_callV (pc := 72) (n := 1) cls9 (s_X9_net F) (by decide) (by decide) wd_1822 wd_1819 wd_1821 wd_107 wd_129 hy_X9_net dX9_moved_72 (snd_ireturn dX9_moved_75))))))))))))))) (snd_ldcw (pc := 48) (z := (-100000)) (by decide) wd_1787 dX9_moved_48 (snd_ireturn dX9_moved_51)))))))))))))))))))))))))))

/-! LastWalkerModel.without(III)I -/
theorem dX9_without_0 : decode cX9_without 0 = .ok (.aload_n 0, 1) := by decide +kernel
theorem dX9_without_1 : decode cX9_without 1 = .ok (.iconst 0, 1) := by decide +kernel
theorem dX9_without_2 : decode cX9_without 2 = .ok (.putfield 112, 3) := by decide +kernel
theorem dX9_without_5 : decode cX9_without 5 = .ok (.aload_n 0, 1) := by decide +kernel
theorem dX9_without_6 : decode cX9_without 6 = .ok (.iload_n 1, 1) := by decide +kernel
theorem dX9_without_7 : decode cX9_without 7 = .ok (.iload_n 2, 1) := by decide +kernel
theorem dX9_without_8 : decode cX9_without 8 = .ok (.invokevirtual 432, 3) := by decide +kernel
theorem dX9_without_11 : decode cX9_without 11 = .ok (.ifCond .eq 11, 3) := by decide +kernel
theorem dX9_without_14 : decode cX9_without 14 = .ok (.aload_n 0, 1) := by decide +kernel
theorem dX9_without_15 : decode cX9_without 15 = .ok (.iload_n 3, 1) := by decide +kernel
theorem dX9_without_16 : decode cX9_without 16 = .ok (.invokevirtual 316, 3) := by decide +kernel
theorem dX9_without_19 : decode cX9_without 19 = .ok (.ifCond .ne 7, 3) := by decide +kernel
theorem dX9_without_22 : decode cX9_without 22 = .ok (.ldc_w 435, 3) := by decide +kernel
theorem dX9_without_25 : decode cX9_without 25 = .ok (.ireturn, 1) := by decide +kernel
theorem dX9_without_26 : decode cX9_without 26 = .ok (.aload_n 0, 1) := by decide +kernel
theorem dX9_without_27 : decode cX9_without 27 = .ok (.iload_n 2, 1) := by decide +kernel
theorem dX9_without_28 : decode cX9_without 28 = .ok (.invokevirtual 436, 3) := by decide +kernel
theorem dX9_without_31 : decode cX9_without 31 = .ok (.aload_n 0, 1) := by decide +kernel
theorem dX9_without_32 : decode cX9_without 32 = .ok (.iconst (-1), 1) := by decide +kernel
theorem dX9_without_33 : decode cX9_without 33 = .ok (.iconst 0, 1) := by decide +kernel
theorem dX9_without_34 : decode cX9_without 34 = .ok (.invokevirtual 439, 3) := by decide +kernel
theorem dX9_without_37 : decode cX9_without 37 = .ok (.aload_n 0, 1) := by decide +kernel
theorem dX9_without_38 : decode cX9_without 38 = .ok (.getfield 90, 3) := by decide +kernel
theorem dX9_without_41 : decode cX9_without 41 = .ok (.iload_n 3, 1) := by decide +kernel
theorem dX9_without_42 : decode cX9_without 42 = .ok (.iaload, 1) := by decide +kernel
theorem dX9_without_43 : decode cX9_without 43 = .ok (.isub, 1) := by decide +kernel
theorem dX9_without_44 : decode cX9_without 44 = .ok (.istore 4, 2) := by decide +kernel
theorem dX9_without_46 : decode cX9_without 46 = .ok (.aload_n 0, 1) := by decide +kernel
theorem dX9_without_47 : decode cX9_without 47 = .ok (.aload_n 0, 1) := by decide +kernel
theorem dX9_without_48 : decode cX9_without 48 = .ok (.iload_n 2, 1) := by decide +kernel
theorem dX9_without_49 : decode cX9_without 49 = .ok (.iload_n 3, 1) := by decide +kernel
theorem dX9_without_50 : decode cX9_without 50 = .ok (.invokevirtual 467, 3) := by decide +kernel
theorem dX9_without_53 : decode cX9_without 53 = .ok (.invokevirtual 436, 3) := by decide +kernel
theorem dX9_without_56 : decode cX9_without 56 = .ok (.aload_n 0, 1) := by decide +kernel
theorem dX9_without_57 : decode cX9_without 57 = .ok (.iconst (-1), 1) := by decide +kernel
theorem dX9_without_58 : decode cX9_without 58 = .ok (.iconst 0, 1) := by decide +kernel
theorem dX9_without_59 : decode cX9_without 59 = .ok (.invokevirtual 439, 3) := by decide +kernel
theorem dX9_without_62 : decode cX9_without 62 = .ok (.aload_n 0, 1) := by decide +kernel
theorem dX9_without_63 : decode cX9_without 63 = .ok (.getfield 90, 3) := by decide +kernel
theorem dX9_without_66 : decode cX9_without 66 = .ok (.iload_n 3, 1) := by decide +kernel
theorem dX9_without_67 : decode cX9_without 67 = .ok (.iaload, 1) := by decide +kernel
theorem dX9_without_68 : decode cX9_without 68 = .ok (.isub, 1) := by decide +kernel
theorem dX9_without_69 : decode cX9_without 69 = .ok (.iload 4, 2) := by decide +kernel
theorem dX9_without_71 : decode cX9_without 71 = .ok (.isub, 1) := by decide +kernel
theorem dX9_without_72 : decode cX9_without 72 = .ok (.ireturn, 1) := by decide +kernel
noncomputable def k_X9_without (F : Nat) : AK := ak_aload 0 (ak_push (vI 0) (ak_putf 9 0 (ak_aload 0 (ak_iload 1 (ak_iload 2 (ak_callv 9 2 (m_X9_layErrands F) (ak_ifeq (ak_push (vI (-100000)) ak_ireturn) (ak_aload 0 (ak_iload 3 (ak_callv 9 1 (m_X9_isPerson F) (ak_ifeq (ak_push (vI (-100000)) ak_ireturn) (ak_aload 0 (ak_iload 2 (ak_callv 9 1 (m_X9_day F) (ak_aload 0 (ak_push (vI (-1)) (ak_push (vI 0) (ak_callv 9 2 (m_X9_sums F) (ak_aload 0 (ak_getf 9 54 (ak_iload 3 (ak_iald (ak_isub (ak_istore 4 (ak_aload 0 (ak_aload 0 (ak_iload 2 (ak_iload 3 (ak_callv 9 2 (m_X9_withoutHis F) (ak_callv 9 1 (m_X9_day F) (ak_aload 0 (ak_push (vI (-1)) (ak_push (vI 0) (ak_callv 9 2 (m_X9_sums F) (ak_aload 0 (ak_getf 9 54 (ak_iload 3 (ak_iald (ak_isub (ak_iload 4 (ak_isub ak_ireturn)))))))))))))))))))))))))))))))))))))))))
noncomputable def m_X9_without (F : Nat) : AF := mkF 1 5 (k_X9_without F)
set_option maxRecDepth 20000 in
theorem s_X9_without (F : Nat) : MA yX9_without cX9_without 5 (some .int) 8 (m_X9_without F) := met_of (Or.inr (Or.inl ⟨rfl, rfl⟩)) (by decide) (by
  unfold k_X9_without
  exact snd_aload_n (pc := 0) (i := 0) dX9_without_0 (snd_iconst (pc := 1) dX9_without_1 (snd_putf (pc := 2) cls9 (f := 0) (by decide) rfl rfl rfl wd_1303 dX9_without_2 (snd_aload_n (pc := 5) (i := 0) dX9_without_5 (snd_iload_n (pc := 6) (i := 1) dX9_without_6 (snd_iload_n (pc := 7) (i := 2) dX9_without_7 (snd_callV (pc := 8) (n := 2) cls9 (s_X9_layErrands F) (by decide) (by decide) wd_1777 wd_1774 wd_1776 wd_97 wd_129 hy_X9_layErrands dX9_without_8 (snd_ifeq (pc := 11) (off := 11) (tgt := 22) (by decide) dX9_without_11 (snd_ldcw (pc := 22) (z := (-100000)) (by decide) wd_1787 dX9_without_22 (snd_ireturn dX9_without_25)) (snd_aload_n (pc := 14) (i := 0) dX9_without_14 (snd_iload_n (pc := 15) (i := 3) dX9_without_15 (snd_callV (pc := 16) (n := 1) cls9 (s_X9_isPerson F) (by decide) (by decide) wd_1665 wd_1662 wd_1664 wd_79 wd_129 hy_X9_isPerson dX9_without_16 (snd_ifne (pc := 19) (off := 7) (tgt := 26) (by decide) dX9_without_19 (snd_aload_n (pc := 26) (i := 0) dX9_without_26 (snd_iload_n (pc := 27) (i := 2) dX9_without_27 (snd_callV (pc := 28) (n := 1) cls9 (s_X9_day F) (by decide) (by decide) wd_1791 wd_1788 wd_1790 wd_100 wd_129 hy_X9_day dX9_without_28 (snd_aload_n (pc := 31) (i := 0) dX9_without_31 (snd_iconst (pc := 32) dX9_without_32 (snd_iconst (pc := 33) dX9_without_33 (snd_callV (pc := 34) (n := 2) cls9 (s_X9_sums F) (by decide) (by decide) wd_1814 wd_1811 wd_1813 wd_105 wd_129 hy_X9_sums dX9_without_34 (snd_aload_n (pc := 37) (i := 0) dX9_without_37 (snd_getf (pc := 38) cls9 (f := 54) (by decide) wd_1357 dX9_without_38 (snd_iload_n (pc := 41) (i := 3) dX9_without_41 (snd_iald (pc := 42) dX9_without_42 (snd_isub (pc := 43) dX9_without_43 (snd_istore (pc := 44) (i := 4) (by decide) dX9_without_44 (snd_aload_n (pc := 46) (i := 0) dX9_without_46 (snd_aload_n (pc := 47) (i := 0) dX9_without_47 (snd_iload_n (pc := 48) (i := 2) dX9_without_48 (snd_iload_n (pc := 49) (i := 3) dX9_without_49 (snd_callV (pc := 50) (n := 2) cls9 (s_X9_withoutHis F) (by decide) (by decide) wd_1915 wd_1912 wd_1914 wd_115 wd_129 hy_X9_withoutHis dX9_without_50 (snd_callV (pc := 53) (n := 1) cls9 (s_X9_day F) (by decide) (by decide) wd_1791 wd_1788 wd_1790 wd_100 wd_129 hy_X9_day dX9_without_53 (snd_aload_n (pc := 56) (i := 0) dX9_without_56 (snd_iconst (pc := 57) dX9_without_57 (snd_iconst (pc := 58) dX9_without_58 (snd_callV (pc := 59) (n := 2) cls9 (s_X9_sums F) (by decide) (by decide) wd_1814 wd_1811 wd_1813 wd_105 wd_129 hy_X9_sums dX9_without_59 (snd_aload_n (pc := 62) (i := 0) dX9_without_62 (snd_getf (pc := 63) cls9 (f := 54) (by decide) wd_1357 dX9_without_63 (snd_iload_n (pc := 66) (i := 3) dX9_without_66 (snd_iald (pc := 67) dX9_without_67 (snd_isub (pc := 68) dX9_without_68 (snd_iload (pc := 69) (i := 4) dX9_without_69 (snd_isub (pc := 71) dX9_without_71 (snd_ireturn dX9_without_72))))))))))))))))))))))))))))))) (snd_ldcw (pc := 22) (z := (-100000)) (by decide) wd_1787 dX9_without_22 (snd_ireturn dX9_without_25))))))))))))))

/-! LastWalkerModel.rounds(IIIIII)I -/
theorem dX9_rounds_0 : decode cX9_rounds 0 = .ok (.aload_n 0, 1) := by decide +kernel
theorem dX9_rounds_1 : decode cX9_rounds 1 = .ok (.iconst 0, 1) := by decide +kernel
theorem dX9_rounds_2 : decode cX9_rounds 2 = .ok (.putfield 112, 3) := by decide +kernel
theorem dX9_rounds_5 : decode cX9_rounds 5 = .ok (.aload_n 0, 1) := by decide +kernel
theorem dX9_rounds_6 : decode cX9_rounds 6 = .ok (.iload_n 1, 1) := by decide +kernel
theorem dX9_rounds_7 : decode cX9_rounds 7 = .ok (.iload_n 2, 1) := by decide +kernel
theorem dX9_rounds_8 : decode cX9_rounds 8 = .ok (.iload_n 3, 1) := by decide +kernel
theorem dX9_rounds_9 : decode cX9_rounds 9 = .ok (.invokevirtual 343, 3) := by decide +kernel
theorem dX9_rounds_12 : decode cX9_rounds 12 = .ok (.ifCond .eq 33, 3) := by decide +kernel
theorem dX9_rounds_15 : decode cX9_rounds 15 = .ok (.aload_n 0, 1) := by decide +kernel
theorem dX9_rounds_16 : decode cX9_rounds 16 = .ok (.iload 4, 2) := by decide +kernel
theorem dX9_rounds_18 : decode cX9_rounds 18 = .ok (.invokevirtual 316, 3) := by decide +kernel
theorem dX9_rounds_21 : decode cX9_rounds 21 = .ok (.ifCond .eq 24, 3) := by decide +kernel
theorem dX9_rounds_24 : decode cX9_rounds 24 = .ok (.iload 5, 2) := by decide +kernel
theorem dX9_rounds_26 : decode cX9_rounds 26 = .ok (.iconst 0, 1) := by decide +kernel
theorem dX9_rounds_27 : decode cX9_rounds 27 = .ok (.sipush 999, 3) := by decide +kernel
theorem dX9_rounds_30 : decode cX9_rounds 30 = .ok (.invokestatic 120, 3) := by decide +kernel
theorem dX9_rounds_33 : decode cX9_rounds 33 = .ok (.ifCond .eq 12, 3) := by decide +kernel
theorem dX9_rounds_36 : decode cX9_rounds 36 = .ok (.aload_n 0, 1) := by decide +kernel
theorem dX9_rounds_37 : decode cX9_rounds 37 = .ok (.iload 6, 2) := by decide +kernel
theorem dX9_rounds_39 : decode cX9_rounds 39 = .ok (.invokevirtual 373, 3) := by decide +kernel
theorem dX9_rounds_42 : decode cX9_rounds 42 = .ok (.ifCond .ne 5, 3) := by decide +kernel
theorem dX9_rounds_45 : decode cX9_rounds 45 = .ok (.iconst (-1), 1) := by decide +kernel
theorem dX9_rounds_46 : decode cX9_rounds 46 = .ok (.ireturn, 1) := by decide +kernel
theorem dX9_rounds_47 : decode cX9_rounds 47 = .ok (.aload_n 0, 1) := by decide +kernel
theorem dX9_rounds_48 : decode cX9_rounds 48 = .ok (.iload 4, 2) := by decide +kernel
theorem dX9_rounds_50 : decode cX9_rounds 50 = .ok (.iconst 2, 1) := by decide +kernel
theorem dX9_rounds_51 : decode cX9_rounds 51 = .ok (.iload 5, 2) := by decide +kernel
theorem dX9_rounds_53 : decode cX9_rounds 53 = .ok (.iload 6, 2) := by decide +kernel
theorem dX9_rounds_55 : decode cX9_rounds 55 = .ok (.iload 6, 2) := by decide +kernel
theorem dX9_rounds_57 : decode cX9_rounds 57 = .ok (.invokevirtual 376, 3) := by decide +kernel
theorem dX9_rounds_60 : decode cX9_rounds 60 = .ok (.istore 7, 2) := by decide +kernel
theorem dX9_rounds_62 : decode cX9_rounds 62 = .ok (.aload_n 0, 1) := by decide +kernel
theorem dX9_rounds_63 : decode cX9_rounds 63 = .ok (.getfield 352, 3) := by decide +kernel
theorem dX9_rounds_66 : decode cX9_rounds 66 = .ok (.ireturn, 1) := by decide +kernel
noncomputable def k_X9_rounds (F : Nat) : AK := ak_aload 0 (ak_push (vI 0) (ak_putf 9 0 (ak_aload 0 (ak_iload 1 (ak_iload 2 (ak_iload 3 (ak_callv 9 3 (m_X9_lay F) (ak_ifeq (ak_push (vI (-1)) ak_ireturn) (ak_aload 0 (ak_iload 4 (ak_callv 9 1 (m_X9_isPerson F) (ak_ifeq (ak_push (vI (-1)) ak_ireturn) (ak_iload 5 (ak_push (vI 0) (ak_push (vI 999) (ak_call 3 (m_X9_in F) (ak_ifeq (ak_push (vI (-1)) ak_ireturn) (ak_aload 0 (ak_iload 6 (ak_callv 9 1 (m_X9_isPlace F) (ak_ifeq (ak_push (vI (-1)) ak_ireturn) (ak_aload 0 (ak_iload 4 (ak_push (vI 2) (ak_iload 5 (ak_iload 6 (ak_iload 6 (ak_callv 9 5 (m_X9_finds F) (ak_istore 7 (ak_aload 0 (ak_getf 9 48 ak_ireturn)))))))))))))))))))))))))))))))
noncomputable def m_X9_rounds (F : Nat) : AF := mkF 1 8 (k_X9_rounds F)
set_option maxRecDepth 20000 in
theorem s_X9_rounds (F : Nat) : MA yX9_rounds cX9_rounds 8 (some .int) 6 (m_X9_rounds F) := met_of (Or.inr (Or.inl ⟨rfl, rfl⟩)) (by decide) (by
  unfold k_X9_rounds
  exact snd_aload_n (pc := 0) (i := 0) dX9_rounds_0 (snd_iconst (pc := 1) dX9_rounds_1 (snd_putf (pc := 2) cls9 (f := 0) (by decide) rfl rfl rfl wd_1303 dX9_rounds_2 (snd_aload_n (pc := 5) (i := 0) dX9_rounds_5 (snd_iload_n (pc := 6) (i := 1) dX9_rounds_6 (snd_iload_n (pc := 7) (i := 2) dX9_rounds_7 (snd_iload_n (pc := 8) (i := 3) dX9_rounds_8 (snd_callV (pc := 9) (n := 3) cls9 (s_X9_lay F) (by decide) (by decide) wd_1697 wd_1694 wd_1696 wd_86 wd_129 hy_X9_lay dX9_rounds_9 (snd_ifeq (pc := 12) (off := 33) (tgt := 45) (by decide) dX9_rounds_12 (snd_iconst (pc := 45) dX9_rounds_45 (snd_ireturn dX9_rounds_46)) (snd_aload_n (pc := 15) (i := 0) dX9_rounds_15 (snd_iload (pc := 16) (i := 4) dX9_rounds_16 (snd_callV (pc := 18) (n := 1) cls9 (s_X9_isPerson F) (by decide) (by decide) wd_1665 wd_1662 wd_1664 wd_79 wd_129 hy_X9_isPerson dX9_rounds_18 (snd_ifeq (pc := 21) (off := 24) (tgt := 45) (by decide) dX9_rounds_21 (snd_iconst (pc := 45) dX9_rounds_45 (snd_ireturn dX9_rounds_46)) (snd_iload (pc := 24) (i := 5) dX9_rounds_24 (snd_iconst (pc := 26) dX9_rounds_26 (snd_sipush (pc := 27) (by decide) dX9_rounds_27 (snd_callS (pc := 30) (n := 3) (s_X9_in F) (by decide) (by decide) wd_1511 wd_1509 wd_1510 wd_129 hy_X9_in dX9_rounds_30 (snd_ifeq (pc := 33) (off := 12) (tgt := 45) (by decide) dX9_rounds_33 (snd_iconst (pc := 45) dX9_rounds_45 (snd_ireturn dX9_rounds_46)) (snd_aload_n (pc := 36) (i := 0) dX9_rounds_36 (snd_iload (pc := 37) (i := 6) dX9_rounds_37 (snd_callV (pc := 39) (n := 1) cls9 (s_X9_isPlace F) (by decide) (by decide) wd_1728 wd_1725 wd_1727 wd_89 wd_129 hy_X9_isPlace dX9_rounds_39 (snd_ifne (pc := 42) (off := 5) (tgt := 47) (by decide) dX9_rounds_42 (snd_aload_n (pc := 47) (i := 0) dX9_rounds_47 (snd_iload (pc := 48) (i := 4) dX9_rounds_48 (snd_iconst (pc := 50) dX9_rounds_50 (snd_iload (pc := 51) (i := 5) dX9_rounds_51 (snd_iload (pc := 53) (i := 6) dX9_rounds_53 (snd_iload (pc := 55) (i := 6) dX9_rounds_55 (snd_callV (pc := 57) (n := 5) cls9 (s_X9_finds F) (by decide) (by decide) wd_1732 wd_1729 wd_1731 wd_90 wd_129 hy_X9_finds dX9_rounds_57 (snd_istore (pc := 60) (i := 7) (by decide) dX9_rounds_60 (snd_aload_n (pc := 62) (i := 0) dX9_rounds_62 (snd_getf (pc := 63) cls9 (f := 48) (by decide) wd_1351 dX9_rounds_63 (snd_ireturn dX9_rounds_66))))))))))) (snd_iconst (pc := 45) dX9_rounds_45 (snd_ireturn dX9_rounds_46))))))))))))))))))))))))

/-! LastWalkerModel.count(I)I -/
theorem dX9_count_0 : decode cX9_count 0 = .ok (.aload_n 0, 1) := by decide +kernel
theorem dX9_count_1 : decode cX9_count 1 = .ok (.iconst 0, 1) := by decide +kernel
theorem dX9_count_2 : decode cX9_count 2 = .ok (.putfield 112, 3) := by decide +kernel
theorem dX9_count_5 : decode cX9_count 5 = .ok (.iload_n 1, 1) := by decide +kernel
theorem dX9_count_6 : decode cX9_count 6 = .ok (.iconst 0, 1) := by decide +kernel
theorem dX9_count_7 : decode cX9_count 7 = .ok (.iconst 1, 1) := by decide +kernel
theorem dX9_count_8 : decode cX9_count 8 = .ok (.invokestatic 120, 3) := by decide +kernel
theorem dX9_count_11 : decode cX9_count 11 = .ok (.ifCond .eq 12, 3) := by decide +kernel
theorem dX9_count_14 : decode cX9_count 14 = .ok (.aload_n 0, 1) := by decide +kernel
theorem dX9_count_15 : decode cX9_count 15 = .ok (.getfield 23, 3) := by decide +kernel
theorem dX9_count_18 : decode cX9_count 18 = .ok (.iload_n 1, 1) := by decide +kernel
theorem dX9_count_19 : decode cX9_count 19 = .ok (.iaload, 1) := by decide +kernel
theorem dX9_count_20 : decode cX9_count 20 = .ok (.goto 5, 3) := by decide +kernel
theorem dX9_count_23 : decode cX9_count 23 = .ok (.bipush (-2), 2) := by decide +kernel
theorem dX9_count_25 : decode cX9_count 25 = .ok (.ireturn, 1) := by decide +kernel
noncomputable def k_X9_count (F : Nat) : AK := ak_aload 0 (ak_push (vI 0) (ak_putf 9 0 (ak_iload 1 (ak_push (vI 0) (ak_push (vI 1) (ak_call 3 (m_X9_in F) (ak_ifeq (ak_push (vI (-2)) ak_ireturn) (ak_aload 0 (ak_getf 9 5 (ak_iload 1 (ak_iald ak_ireturn)))))))))))
noncomputable def m_X9_count (F : Nat) : AF := mkF 1 2 (k_X9_count F)
set_option maxRecDepth 20000 in
theorem s_X9_count (F : Nat) : MA yX9_count cX9_count 2 (some .int) 1 (m_X9_count F) := met_of (Or.inr (Or.inl ⟨rfl, rfl⟩)) (by decide) (by
  unfold k_X9_count
  exact snd_aload_n (pc := 0) (i := 0) dX9_count_0 (snd_iconst (pc := 1) dX9_count_1 (snd_putf (pc := 2) cls9 (f := 0) (by decide) rfl rfl rfl wd_1303 dX9_count_2 (snd_iload_n (pc := 5) (i := 1) dX9_count_5 (snd_iconst (pc := 6) dX9_count_6 (snd_iconst (pc := 7) dX9_count_7 (snd_callS (pc := 8) (n := 3) (s_X9_in F) (by decide) (by decide) wd_1511 wd_1509 wd_1510 wd_129 hy_X9_in dX9_count_8 (snd_ifeq (pc := 11) (off := 12) (tgt := 23) (by decide) dX9_count_11 (snd_bipush (pc := 23) (by decide) dX9_count_23 (snd_ireturn dX9_count_25)) (snd_aload_n (pc := 14) (i := 0) dX9_count_14 (snd_getf (pc := 15) cls9 (f := 5) (by decide) wd_1308 dX9_count_15 (snd_iload_n (pc := 18) (i := 1) dX9_count_18 (snd_iald (pc := 19) dX9_count_19 (snd_goto (pc := 20) (off := 5) (tgt := 25) (by decide) dX9_count_20 (snd_ireturn dX9_count_25))))))))))))))

/-! LastWalkerModel.image(I)Z -/
theorem dX9_image_0 : decode cX9_image 0 = .ok (.aload_n 0, 1) := by decide +kernel
theorem dX9_image_1 : decode cX9_image 1 = .ok (.iconst 0, 1) := by decide +kernel
theorem dX9_image_2 : decode cX9_image 2 = .ok (.putfield 112, 3) := by decide +kernel
theorem dX9_image_5 : decode cX9_image 5 = .ok (.iload_n 1, 1) := by decide +kernel
theorem dX9_image_6 : decode cX9_image 6 = .ok (.iconst 0, 1) := by decide +kernel
theorem dX9_image_7 : decode cX9_image 7 = .ok (.iconst 2, 1) := by decide +kernel
theorem dX9_image_8 : decode cX9_image 8 = .ok (.invokestatic 120, 3) := by decide +kernel
theorem dX9_image_11 : decode cX9_image 11 = .ok (.ifCond .ne 5, 3) := by decide +kernel
theorem dX9_image_14 : decode cX9_image 14 = .ok (.iconst 0, 1) := by decide +kernel
theorem dX9_image_15 : decode cX9_image 15 = .ok (.ireturn, 1) := by decide +kernel
theorem dX9_image_16 : decode cX9_image 16 = .ok (.aload_n 0, 1) := by decide +kernel
theorem dX9_image_17 : decode cX9_image 17 = .ok (.iconst 0, 1) := by decide +kernel
theorem dX9_image_18 : decode cX9_image 18 = .ok (.iload_n 1, 1) := by decide +kernel
theorem dX9_image_19 : decode cX9_image 19 = .ok (.iconst 1, 1) := by decide +kernel
theorem dX9_image_20 : decode cX9_image 20 = .ok (.iadd, 1) := by decide +kernel
theorem dX9_image_21 : decode cX9_image 21 = .ok (.invokevirtual 476, 3) := by decide +kernel
theorem dX9_image_24 : decode cX9_image 24 = .ok (.aload_n 0, 1) := by decide +kernel
theorem dX9_image_25 : decode cX9_image 25 = .ok (.getfield 108, 3) := by decide +kernel
theorem dX9_image_28 : decode cX9_image 28 = .ok (.iload_n 1, 1) := by decide +kernel
theorem dX9_image_29 : decode cX9_image 29 = .ok (.iconst 1, 1) := by decide +kernel
theorem dX9_image_30 : decode cX9_image 30 = .ok (.bastore, 1) := by decide +kernel
theorem dX9_image_31 : decode cX9_image 31 = .ok (.iconst 1, 1) := by decide +kernel
theorem dX9_image_32 : decode cX9_image 32 = .ok (.ireturn, 1) := by decide +kernel
noncomputable def k_X9_image (F : Nat) : AK := ak_aload 0 (ak_push (vI 0) (ak_putf 9 0 (ak_iload 1 (ak_push (vI 0) (ak_push (vI 2) (ak_call 3 (m_X9_in F) (ak_ifeq (ak_push (vI 0) ak_ireturn) (ak_aload 0 (ak_push (vI 0) (ak_iload 1 (ak_push (vI 1) (ak_iadd (ak_callv 9 2 (m_X9_copyAll F) (ak_aload 0 (ak_getf 9 63 (ak_iload 1 (ak_push (vI 1) (ak_bast (ak_push (vI 1) ak_ireturn)))))))))))))))))))
noncomputable def m_X9_image (F : Nat) : AF := mkF 2 2 (k_X9_image F)
set_option maxRecDepth 20000 in
theorem s_X9_image (F : Nat) : MA yX9_image cX9_image 2 (some .boolean) 2 (m_X9_image F) := met_of (Or.inr (Or.inr (Or.inl ⟨rfl, rfl⟩))) (by decide) (by
  unfold k_X9_image
  exact snd_aload_n (pc := 0) (i := 0) dX9_image_0 (snd_iconst (pc := 1) dX9_image_1 (snd_putf (pc := 2) cls9 (f := 0) (by decide) rfl rfl rfl wd_1303 dX9_image_2 (snd_iload_n (pc := 5) (i := 1) dX9_image_5 (snd_iconst (pc := 6) dX9_image_6 (snd_iconst (pc := 7) dX9_image_7 (snd_callS (pc := 8) (n := 3) (s_X9_in F) (by decide) (by decide) wd_1511 wd_1509 wd_1510 wd_129 hy_X9_in dX9_image_8 (snd_ifne (pc := 11) (off := 5) (tgt := 16) (by decide) dX9_image_11 (snd_aload_n (pc := 16) (i := 0) dX9_image_16 (snd_iconst (pc := 17) dX9_image_17 (snd_iload_n (pc := 18) (i := 1) dX9_image_18 (snd_iconst (pc := 19) dX9_image_19 (snd_iadd (pc := 20) dX9_image_20 (snd_callV (pc := 21) (n := 2) cls9 (s_X9_copyAll F) (by decide) (by decide) wd_1951 wd_1948 wd_1950 wd_118 wd_129 hy_X9_copyAll dX9_image_21 (snd_aload_n (pc := 24) (i := 0) dX9_image_24 (snd_getf (pc := 25) cls9 (f := 63) (by decide) wd_1366 dX9_image_25 (snd_iload_n (pc := 28) (i := 1) dX9_image_28 (snd_iconst (pc := 29) dX9_image_29 (snd_bast (pc := 30) dX9_image_30 (snd_iconst (pc := 31) dX9_image_31 (snd_ireturn dX9_image_32))))))))))))) (snd_iconst (pc := 14) dX9_image_14 (snd_ireturn dX9_image_15))))))))))

/-! LastWalkerModel.again(I)Z -/
theorem dX9_again_0 : decode cX9_again 0 = .ok (.aload_n 0, 1) := by decide +kernel
theorem dX9_again_1 : decode cX9_again 1 = .ok (.iconst 0, 1) := by decide +kernel
theorem dX9_again_2 : decode cX9_again 2 = .ok (.putfield 112, 3) := by decide +kernel
theorem dX9_again_5 : decode cX9_again 5 = .ok (.iload_n 1, 1) := by decide +kernel
theorem dX9_again_6 : decode cX9_again 6 = .ok (.iconst 0, 1) := by decide +kernel
theorem dX9_again_7 : decode cX9_again 7 = .ok (.iconst 2, 1) := by decide +kernel
theorem dX9_again_8 : decode cX9_again 8 = .ok (.invokestatic 120, 3) := by decide +kernel
theorem dX9_again_11 : decode cX9_again 11 = .ok (.ifCond .eq 12, 3) := by decide +kernel
theorem dX9_again_14 : decode cX9_again 14 = .ok (.aload_n 0, 1) := by decide +kernel
theorem dX9_again_15 : decode cX9_again 15 = .ok (.getfield 108, 3) := by decide +kernel
theorem dX9_again_18 : decode cX9_again 18 = .ok (.iload_n 1, 1) := by decide +kernel
theorem dX9_again_19 : decode cX9_again 19 = .ok (.baload, 1) := by decide +kernel
theorem dX9_again_20 : decode cX9_again 20 = .ok (.ifCond .ne 5, 3) := by decide +kernel
theorem dX9_again_23 : decode cX9_again 23 = .ok (.iconst 0, 1) := by decide +kernel
theorem dX9_again_24 : decode cX9_again 24 = .ok (.ireturn, 1) := by decide +kernel
theorem dX9_again_25 : decode cX9_again 25 = .ok (.aload_n 0, 1) := by decide +kernel
theorem dX9_again_26 : decode cX9_again 26 = .ok (.iload_n 1, 1) := by decide +kernel
theorem dX9_again_27 : decode cX9_again 27 = .ok (.iconst 1, 1) := by decide +kernel
theorem dX9_again_28 : decode cX9_again 28 = .ok (.iadd, 1) := by decide +kernel
theorem dX9_again_29 : decode cX9_again 29 = .ok (.iconst 0, 1) := by decide +kernel
theorem dX9_again_30 : decode cX9_again 30 = .ok (.invokevirtual 476, 3) := by decide +kernel
theorem dX9_again_33 : decode cX9_again 33 = .ok (.iconst 1, 1) := by decide +kernel
theorem dX9_again_34 : decode cX9_again 34 = .ok (.ireturn, 1) := by decide +kernel
noncomputable def k_X9_again (F : Nat) : AK := ak_aload 0 (ak_push (vI 0) (ak_putf 9 0 (ak_iload 1 (ak_push (vI 0) (ak_push (vI 2) (ak_call 3 (m_X9_in F) (ak_ifeq (ak_push (vI 0) ak_ireturn) (ak_aload 0 (ak_getf 9 63 (ak_iload 1 (ak_bald (ak_ifeq (ak_push (vI 0) ak_ireturn) (ak_aload 0 (ak_iload 1 (ak_push (vI 1) (ak_iadd (ak_push (vI 0) (ak_callv 9 2 (m_X9_copyAll F) (ak_push (vI 1) ak_ireturn)))))))))))))))))))
noncomputable def m_X9_again (F : Nat) : AF := mkF 2 2 (k_X9_again F)
set_option maxRecDepth 20000 in
theorem s_X9_again (F : Nat) : MA yX9_again cX9_again 2 (some .boolean) 2 (m_X9_again F) := met_of (Or.inr (Or.inr (Or.inl ⟨rfl, rfl⟩))) (by decide) (by
  unfold k_X9_again
  exact snd_aload_n (pc := 0) (i := 0) dX9_again_0 (snd_iconst (pc := 1) dX9_again_1 (snd_putf (pc := 2) cls9 (f := 0) (by decide) rfl rfl rfl wd_1303 dX9_again_2 (snd_iload_n (pc := 5) (i := 1) dX9_again_5 (snd_iconst (pc := 6) dX9_again_6 (snd_iconst (pc := 7) dX9_again_7 (snd_callS (pc := 8) (n := 3) (s_X9_in F) (by decide) (by decide) wd_1511 wd_1509 wd_1510 wd_129 hy_X9_in dX9_again_8 (snd_ifeq (pc := 11) (off := 12) (tgt := 23) (by decide) dX9_again_11 (snd_iconst (pc := 23) dX9_again_23 (snd_ireturn dX9_again_24)) (snd_aload_n (pc := 14) (i := 0) dX9_again_14 (snd_getf (pc := 15) cls9 (f := 63) (by decide) wd_1366 dX9_again_15 (snd_iload_n (pc := 18) (i := 1) dX9_again_18 (snd_bald (pc := 19) dX9_again_19 (snd_ifne (pc := 20) (off := 5) (tgt := 25) (by decide) dX9_again_20 (snd_aload_n (pc := 25) (i := 0) dX9_again_25 (snd_iload_n (pc := 26) (i := 1) dX9_again_26 (snd_iconst (pc := 27) dX9_again_27 (snd_iadd (pc := 28) dX9_again_28 (snd_iconst (pc := 29) dX9_again_29 (snd_callV (pc := 30) (n := 2) cls9 (s_X9_copyAll F) (by decide) (by decide) wd_1951 wd_1948 wd_1950 wd_118 wd_129 hy_X9_copyAll dX9_again_30 (snd_iconst (pc := 33) dX9_again_33 (snd_ireturn dX9_again_34)))))))) (snd_iconst (pc := 23) dX9_again_23 (snd_ireturn dX9_again_24)))))))))))))))
