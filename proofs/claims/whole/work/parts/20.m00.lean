/-! LastWalkerModel.in(III)Z -/
theorem dX9_in_0 : decode cX9_in 0 = .ok (.iload_n 0, 1) := by decide +kernel
theorem dX9_in_1 : decode cX9_in 1 = .ok (.iload_n 1, 1) := by decide +kernel
theorem dX9_in_2 : decode cX9_in 2 = .ok (.if_icmp .lt 12, 3) := by decide +kernel
theorem dX9_in_5 : decode cX9_in 5 = .ok (.iload_n 0, 1) := by decide +kernel
theorem dX9_in_6 : decode cX9_in 6 = .ok (.iload_n 2, 1) := by decide +kernel
theorem dX9_in_7 : decode cX9_in 7 = .ok (.if_icmp .gt 7, 3) := by decide +kernel
theorem dX9_in_10 : decode cX9_in 10 = .ok (.iconst 1, 1) := by decide +kernel
theorem dX9_in_11 : decode cX9_in 11 = .ok (.goto 4, 3) := by decide +kernel
theorem dX9_in_14 : decode cX9_in 14 = .ok (.iconst 0, 1) := by decide +kernel
theorem dX9_in_15 : decode cX9_in 15 = .ok (.ireturn, 1) := by decide +kernel
noncomputable def k_X9_in (F : Nat) : AK := ak_iload 0 (ak_iload 1 (ak_cmplt (ak_push (vI 0) ak_ireturn) (ak_iload 0 (ak_iload 2 (ak_cmpgt (ak_push (vI 0) ak_ireturn) (ak_push (vI 1) ak_ireturn))))))
noncomputable def m_X9_in (F : Nat) : AF := mkF 2 3 (k_X9_in F)
set_option maxRecDepth 20000 in
theorem s_X9_in (F : Nat) : MA yX9_in cX9_in 3 (some .boolean) 0 (m_X9_in F) := met_of (Or.inr (Or.inr (Or.inl ⟨rfl, rfl⟩))) (by decide) (by
  unfold k_X9_in
  exact snd_iload_n (pc := 0) (i := 0) dX9_in_0 (snd_iload_n (pc := 1) (i := 1) dX9_in_1 (snd_icmplt (pc := 2) (off := 12) (tgt := 14) (by decide) dX9_in_2 (snd_iconst (pc := 14) dX9_in_14 (snd_ireturn dX9_in_15)) (snd_iload_n (pc := 5) (i := 0) dX9_in_5 (snd_iload_n (pc := 6) (i := 2) dX9_in_6 (snd_icmpgt (pc := 7) (off := 7) (tgt := 14) (by decide) dX9_in_7 (snd_iconst (pc := 14) dX9_in_14 (snd_ireturn dX9_in_15)) (snd_iconst (pc := 10) dX9_in_10 (snd_goto (pc := 11) (off := 4) (tgt := 15) (by decide) dX9_in_11 (snd_ireturn dX9_in_15)))))))))

/-! LastWalkerModel.has(II)Z -/
theorem dX9_has_0 : decode cX9_has 0 = .ok (.iload_n 0, 1) := by decide +kernel
theorem dX9_has_1 : decode cX9_has 1 = .ok (.iload_n 1, 1) := by decide +kernel
theorem dX9_has_2 : decode cX9_has 2 = .ok (.ishr, 1) := by decide +kernel
theorem dX9_has_3 : decode cX9_has 3 = .ok (.iconst 1, 1) := by decide +kernel
theorem dX9_has_4 : decode cX9_has 4 = .ok (.iand, 1) := by decide +kernel
theorem dX9_has_5 : decode cX9_has 5 = .ok (.iconst 1, 1) := by decide +kernel
theorem dX9_has_6 : decode cX9_has 6 = .ok (.if_icmp .ne 7, 3) := by decide +kernel
theorem dX9_has_9 : decode cX9_has 9 = .ok (.iconst 1, 1) := by decide +kernel
theorem dX9_has_10 : decode cX9_has 10 = .ok (.goto 4, 3) := by decide +kernel
theorem dX9_has_13 : decode cX9_has 13 = .ok (.iconst 0, 1) := by decide +kernel
theorem dX9_has_14 : decode cX9_has 14 = .ok (.ireturn, 1) := by decide +kernel
noncomputable def k_X9_has (F : Nat) : AK := ak_iload 0 (ak_iload 1 (ak_ishr (ak_push (vI 1) (ak_iand (ak_push (vI 1) (ak_cmpeq (ak_push (vI 1) ak_ireturn) (ak_push (vI 0) ak_ireturn)))))))
noncomputable def m_X9_has (F : Nat) : AF := mkF 2 2 (k_X9_has F)
set_option maxRecDepth 20000 in
theorem s_X9_has (F : Nat) : MA yX9_has cX9_has 2 (some .boolean) 0 (m_X9_has F) := met_of (Or.inr (Or.inr (Or.inl ⟨rfl, rfl⟩))) (by decide) (by
  unfold k_X9_has
  exact snd_iload_n (pc := 0) (i := 0) dX9_has_0 (snd_iload_n (pc := 1) (i := 1) dX9_has_1 (snd_ishr (pc := 2) dX9_has_2 (snd_iconst (pc := 3) dX9_has_3 (snd_iand (pc := 4) dX9_has_4 (snd_iconst (pc := 5) dX9_has_5 (snd_icmpne (pc := 6) (off := 7) (tgt := 13) (by decide) dX9_has_6 (snd_iconst (pc := 13) dX9_has_13 (snd_ireturn dX9_has_14)) (snd_iconst (pc := 9) dX9_has_9 (snd_goto (pc := 10) (off := 4) (tgt := 14) (by decide) dX9_has_10 (snd_ireturn dX9_has_14))))))))))

/-! LastWalkerModel.copyRow([IIII)V -/
theorem dX9_copyRow_0 : decode cX9_copyRow 0 = .ok (.iconst 0, 1) := by decide +kernel
theorem dX9_copyRow_1 : decode cX9_copyRow 1 = .ok (.istore 4, 2) := by decide +kernel
theorem dX9_copyRow_3 : decode cX9_copyRow 3 = .ok (.iload 4, 2) := by decide +kernel
theorem dX9_copyRow_5 : decode cX9_copyRow 5 = .ok (.iload_n 1, 1) := by decide +kernel
theorem dX9_copyRow_6 : decode cX9_copyRow 6 = .ok (.if_icmp .ge 25, 3) := by decide +kernel
theorem dX9_copyRow_9 : decode cX9_copyRow 9 = .ok (.aload_n 0, 1) := by decide +kernel
theorem dX9_copyRow_10 : decode cX9_copyRow 10 = .ok (.iload_n 1, 1) := by decide +kernel
theorem dX9_copyRow_11 : decode cX9_copyRow 11 = .ok (.iload_n 3, 1) := by decide +kernel
theorem dX9_copyRow_12 : decode cX9_copyRow 12 = .ok (.imul, 1) := by decide +kernel
theorem dX9_copyRow_13 : decode cX9_copyRow 13 = .ok (.iload 4, 2) := by decide +kernel
theorem dX9_copyRow_15 : decode cX9_copyRow 15 = .ok (.iadd, 1) := by decide +kernel
theorem dX9_copyRow_16 : decode cX9_copyRow 16 = .ok (.aload_n 0, 1) := by decide +kernel
theorem dX9_copyRow_17 : decode cX9_copyRow 17 = .ok (.iload_n 1, 1) := by decide +kernel
theorem dX9_copyRow_18 : decode cX9_copyRow 18 = .ok (.iload_n 2, 1) := by decide +kernel
theorem dX9_copyRow_19 : decode cX9_copyRow 19 = .ok (.imul, 1) := by decide +kernel
theorem dX9_copyRow_20 : decode cX9_copyRow 20 = .ok (.iload 4, 2) := by decide +kernel
theorem dX9_copyRow_22 : decode cX9_copyRow 22 = .ok (.iadd, 1) := by decide +kernel
theorem dX9_copyRow_23 : decode cX9_copyRow 23 = .ok (.iaload, 1) := by decide +kernel
theorem dX9_copyRow_24 : decode cX9_copyRow 24 = .ok (.iastore, 1) := by decide +kernel
theorem dX9_copyRow_25 : decode cX9_copyRow 25 = .ok (.iinc 4 1, 3) := by decide +kernel
theorem dX9_copyRow_28 : decode cX9_copyRow 28 = .ok (.goto (-25), 3) := by decide +kernel
theorem dX9_copyRow_31 : decode cX9_copyRow 31 = .ok (.return_, 1) := by decide +kernel
noncomputable def kb_X9_copyRow_3 (F : Nat) (self : AK) : AK := ak_iload 4 (ak_iload 1 (ak_cmplt (ak_aload 0 (ak_iload 1 (ak_iload 3 (ak_imul (ak_iload 4 (ak_iadd (ak_aload 0 (ak_iload 1 (ak_iload 2 (ak_imul (ak_iload 4 (ak_iadd (ak_iald (ak_iast (ak_iinc 4 1 self))))))))))))))) (ak_return)))
noncomputable def k_X9_copyRow_3 (F : Nat) (n : Nat) : AK := Nat.rec (motive := fun _ => AK) ak_none (fun _ self => kb_X9_copyRow_3 F self) n
set_option maxRecDepth 20000 in
theorem sk_X9_copyRow_3 (F : Nat) : ∀ n, Snd X0 RX9 cX9_copyRow 5 0 3 (k_X9_copyRow_3 F n) := by
  intro n
  induction n with
  | zero => exact snd_none
  | succ n ih =>
    show Snd X0 RX9 cX9_copyRow 5 0 3 (kb_X9_copyRow_3 F (k_X9_copyRow_3 F n))
    unfold kb_X9_copyRow_3
    exact snd_iload (pc := 3) (i := 4) dX9_copyRow_3 (snd_iload_n (pc := 5) (i := 1) dX9_copyRow_5 (snd_icmpge (pc := 6) (off := 25) (tgt := 31) (by decide) dX9_copyRow_6 (snd_return dX9_copyRow_31) (snd_aload_n (pc := 9) (i := 0) dX9_copyRow_9 (snd_iload_n (pc := 10) (i := 1) dX9_copyRow_10 (snd_iload_n (pc := 11) (i := 3) dX9_copyRow_11 (snd_imul (pc := 12) dX9_copyRow_12 (snd_iload (pc := 13) (i := 4) dX9_copyRow_13 (snd_iadd (pc := 15) dX9_copyRow_15 (snd_aload_n (pc := 16) (i := 0) dX9_copyRow_16 (snd_iload_n (pc := 17) (i := 1) dX9_copyRow_17 (snd_iload_n (pc := 18) (i := 2) dX9_copyRow_18 (snd_imul (pc := 19) dX9_copyRow_19 (snd_iload (pc := 20) (i := 4) dX9_copyRow_20 (snd_iadd (pc := 22) dX9_copyRow_22 (snd_iald (pc := 23) dX9_copyRow_23 (snd_iast (pc := 24) dX9_copyRow_24 (snd_iinc (pc := 25) (i := 4) (n := 1) (by decide) dX9_copyRow_25 (snd_goto (pc := 28) (off := (-25)) (tgt := 3) (by decide) dX9_copyRow_28 (ih)))))))))))))))))))
noncomputable def k_X9_copyRow (F : Nat) : AK := ak_push (vI 0) (ak_istore 4 ((k_X9_copyRow_3 F F)))
noncomputable def m_X9_copyRow (F : Nat) : AF := mkF 0 5 (k_X9_copyRow F)
set_option maxRecDepth 20000 in
theorem s_X9_copyRow (F : Nat) : MA yX9_copyRow cX9_copyRow 5 none 0 (m_X9_copyRow F) := met_of (Or.inl ⟨rfl, rfl⟩) (by decide) (by
  unfold k_X9_copyRow
  exact snd_iconst (pc := 0) dX9_copyRow_0 (snd_istore (pc := 1) (i := 4) (by decide) dX9_copyRow_1 ((sk_X9_copyRow_3 F F))))

/-! LastWalkerModel.copyAll(II)V -/
theorem dX9_copyAll_0 : decode cX9_copyAll 0 = .ok (.iconst 0, 1) := by decide +kernel
theorem dX9_copyAll_1 : decode cX9_copyAll 1 = .ok (.istore_n 3, 1) := by decide +kernel
theorem dX9_copyAll_2 : decode cX9_copyAll 2 = .ok (.iload_n 3, 1) := by decide +kernel
theorem dX9_copyAll_3 : decode cX9_copyAll 3 = .ok (.sipush 600, 3) := by decide +kernel
theorem dX9_copyAll_6 : decode cX9_copyAll 6 = .ok (.if_icmp .ge 33, 3) := by decide +kernel
theorem dX9_copyAll_9 : decode cX9_copyAll 9 = .ok (.aload_n 0, 1) := by decide +kernel
theorem dX9_copyAll_10 : decode cX9_copyAll 10 = .ok (.getfield 7, 3) := by decide +kernel
theorem dX9_copyAll_13 : decode cX9_copyAll 13 = .ok (.sipush 600, 3) := by decide +kernel
theorem dX9_copyAll_16 : decode cX9_copyAll 16 = .ok (.iload_n 2, 1) := by decide +kernel
theorem dX9_copyAll_17 : decode cX9_copyAll 17 = .ok (.imul, 1) := by decide +kernel
theorem dX9_copyAll_18 : decode cX9_copyAll 18 = .ok (.iload_n 3, 1) := by decide +kernel
theorem dX9_copyAll_19 : decode cX9_copyAll 19 = .ok (.iadd, 1) := by decide +kernel
theorem dX9_copyAll_20 : decode cX9_copyAll 20 = .ok (.aload_n 0, 1) := by decide +kernel
theorem dX9_copyAll_21 : decode cX9_copyAll 21 = .ok (.getfield 7, 3) := by decide +kernel
theorem dX9_copyAll_24 : decode cX9_copyAll 24 = .ok (.sipush 600, 3) := by decide +kernel
theorem dX9_copyAll_27 : decode cX9_copyAll 27 = .ok (.iload_n 1, 1) := by decide +kernel
theorem dX9_copyAll_28 : decode cX9_copyAll 28 = .ok (.imul, 1) := by decide +kernel
theorem dX9_copyAll_29 : decode cX9_copyAll 29 = .ok (.iload_n 3, 1) := by decide +kernel
theorem dX9_copyAll_30 : decode cX9_copyAll 30 = .ok (.iadd, 1) := by decide +kernel
theorem dX9_copyAll_31 : decode cX9_copyAll 31 = .ok (.baload, 1) := by decide +kernel
theorem dX9_copyAll_32 : decode cX9_copyAll 32 = .ok (.bastore, 1) := by decide +kernel
theorem dX9_copyAll_33 : decode cX9_copyAll 33 = .ok (.iinc 3 1, 3) := by decide +kernel
theorem dX9_copyAll_36 : decode cX9_copyAll 36 = .ok (.goto (-34), 3) := by decide +kernel
theorem dX9_copyAll_39 : decode cX9_copyAll 39 = .ok (.aload_n 0, 1) := by decide +kernel
theorem dX9_copyAll_40 : decode cX9_copyAll 40 = .ok (.getfield 13, 3) := by decide +kernel
theorem dX9_copyAll_43 : decode cX9_copyAll 43 = .ok (.iconst 1, 1) := by decide +kernel
theorem dX9_copyAll_44 : decode cX9_copyAll 44 = .ok (.iload_n 1, 1) := by decide +kernel
theorem dX9_copyAll_45 : decode cX9_copyAll 45 = .ok (.iload_n 2, 1) := by decide +kernel
theorem dX9_copyAll_46 : decode cX9_copyAll 46 = .ok (.invokestatic 116, 3) := by decide +kernel
theorem dX9_copyAll_49 : decode cX9_copyAll 49 = .ok (.aload_n 0, 1) := by decide +kernel
theorem dX9_copyAll_50 : decode cX9_copyAll 50 = .ok (.getfield 17, 3) := by decide +kernel
theorem dX9_copyAll_53 : decode cX9_copyAll 53 = .ok (.iconst 1, 1) := by decide +kernel
theorem dX9_copyAll_54 : decode cX9_copyAll 54 = .ok (.iload_n 1, 1) := by decide +kernel
theorem dX9_copyAll_55 : decode cX9_copyAll 55 = .ok (.iload_n 2, 1) := by decide +kernel
theorem dX9_copyAll_56 : decode cX9_copyAll 56 = .ok (.invokestatic 116, 3) := by decide +kernel
theorem dX9_copyAll_59 : decode cX9_copyAll 59 = .ok (.aload_n 0, 1) := by decide +kernel
theorem dX9_copyAll_60 : decode cX9_copyAll 60 = .ok (.getfield 20, 3) := by decide +kernel
theorem dX9_copyAll_63 : decode cX9_copyAll 63 = .ok (.iconst 1, 1) := by decide +kernel
theorem dX9_copyAll_64 : decode cX9_copyAll 64 = .ok (.iload_n 1, 1) := by decide +kernel
theorem dX9_copyAll_65 : decode cX9_copyAll 65 = .ok (.iload_n 2, 1) := by decide +kernel
theorem dX9_copyAll_66 : decode cX9_copyAll 66 = .ok (.invokestatic 116, 3) := by decide +kernel
theorem dX9_copyAll_69 : decode cX9_copyAll 69 = .ok (.aload_n 0, 1) := by decide +kernel
theorem dX9_copyAll_70 : decode cX9_copyAll 70 = .ok (.getfield 23, 3) := by decide +kernel
theorem dX9_copyAll_73 : decode cX9_copyAll 73 = .ok (.iconst 2, 1) := by decide +kernel
theorem dX9_copyAll_74 : decode cX9_copyAll 74 = .ok (.iload_n 1, 1) := by decide +kernel
theorem dX9_copyAll_75 : decode cX9_copyAll 75 = .ok (.iload_n 2, 1) := by decide +kernel
theorem dX9_copyAll_76 : decode cX9_copyAll 76 = .ok (.invokestatic 116, 3) := by decide +kernel
theorem dX9_copyAll_79 : decode cX9_copyAll 79 = .ok (.aload_n 0, 1) := by decide +kernel
theorem dX9_copyAll_80 : decode cX9_copyAll 80 = .ok (.getfield 26, 3) := by decide +kernel
theorem dX9_copyAll_83 : decode cX9_copyAll 83 = .ok (.sipush 464, 3) := by decide +kernel
theorem dX9_copyAll_86 : decode cX9_copyAll 86 = .ok (.iload_n 1, 1) := by decide +kernel
theorem dX9_copyAll_87 : decode cX9_copyAll 87 = .ok (.iload_n 2, 1) := by decide +kernel
theorem dX9_copyAll_88 : decode cX9_copyAll 88 = .ok (.invokestatic 116, 3) := by decide +kernel
theorem dX9_copyAll_91 : decode cX9_copyAll 91 = .ok (.aload_n 0, 1) := by decide +kernel
theorem dX9_copyAll_92 : decode cX9_copyAll 92 = .ok (.getfield 29, 3) := by decide +kernel
theorem dX9_copyAll_95 : decode cX9_copyAll 95 = .ok (.sipush 363, 3) := by decide +kernel
theorem dX9_copyAll_98 : decode cX9_copyAll 98 = .ok (.iload_n 1, 1) := by decide +kernel
theorem dX9_copyAll_99 : decode cX9_copyAll 99 = .ok (.iload_n 2, 1) := by decide +kernel
theorem dX9_copyAll_100 : decode cX9_copyAll 100 = .ok (.invokestatic 116, 3) := by decide +kernel
theorem dX9_copyAll_103 : decode cX9_copyAll 103 = .ok (.return_, 1) := by decide +kernel
noncomputable def kb_X9_copyAll_2 (F : Nat) (self : AK) : AK := ak_iload 3 (ak_push (vI 600) (ak_cmplt (ak_aload 0 (ak_getf 9 1 (ak_push (vI 600) (ak_iload 2 (ak_imul (ak_iload 3 (ak_iadd (ak_aload 0 (ak_getf 9 1 (ak_push (vI 600) (ak_iload 1 (ak_imul (ak_iload 3 (ak_iadd (ak_bald (ak_bast (ak_iinc 3 1 self))))))))))))))))) (ak_aload 0 (ak_getf 9 2 (ak_push (vI 1) (ak_iload 1 (ak_iload 2 (ak_call 4 (m_X9_copyRow F) (ak_aload 0 (ak_getf 9 3 (ak_push (vI 1) (ak_iload 1 (ak_iload 2 (ak_call 4 (m_X9_copyRow F) (ak_aload 0 (ak_getf 9 4 (ak_push (vI 1) (ak_iload 1 (ak_iload 2 (ak_call 4 (m_X9_copyRow F) (ak_aload 0 (ak_getf 9 5 (ak_push (vI 2) (ak_iload 1 (ak_iload 2 (ak_call 4 (m_X9_copyRow F) (ak_aload 0 (ak_getf 9 6 (ak_push (vI 464) (ak_iload 1 (ak_iload 2 (ak_call 4 (m_X9_copyRow F) (ak_aload 0 (ak_getf 9 7 (ak_push (vI 363) (ak_iload 1 (ak_iload 2 (ak_call 4 (m_X9_copyRow F) ak_return))))))))))))))))))))))))))))))))))))))
noncomputable def k_X9_copyAll_2 (F : Nat) (n : Nat) : AK := Nat.rec (motive := fun _ => AK) ak_none (fun _ self => kb_X9_copyAll_2 F self) n
set_option maxRecDepth 20000 in
theorem sk_X9_copyAll_2 (F : Nat) : ∀ n, Snd X0 RX9 cX9_copyAll 4 1 2 (k_X9_copyAll_2 F n) := by
  intro n
  induction n with
  | zero => exact snd_none
  | succ n ih =>
    show Snd X0 RX9 cX9_copyAll 4 1 2 (kb_X9_copyAll_2 F (k_X9_copyAll_2 F n))
    unfold kb_X9_copyAll_2
    exact snd_iload_n (pc := 2) (i := 3) dX9_copyAll_2 (snd_sipush (pc := 3) (by decide) dX9_copyAll_3 (snd_icmpge (pc := 6) (off := 33) (tgt := 39) (by decide) dX9_copyAll_6 (snd_aload_n (pc := 39) (i := 0) dX9_copyAll_39 (snd_getf (pc := 40) cls9 (f := 2) (by decide) wd_1305 dX9_copyAll_40 (snd_iconst (pc := 43) dX9_copyAll_43 (snd_iload_n (pc := 44) (i := 1) dX9_copyAll_44 (snd_iload_n (pc := 45) (i := 2) dX9_copyAll_45 (snd_callS (pc := 46) (n := 4) (s_X9_copyRow F) (by decide) (by decide) wd_1954 wd_1952 wd_1953 wd_129 hy_X9_copyRow dX9_copyAll_46 (snd_aload_n (pc := 49) (i := 0) dX9_copyAll_49 (snd_getf (pc := 50) cls9 (f := 3) (by decide) wd_1306 dX9_copyAll_50 (snd_iconst (pc := 53) dX9_copyAll_53 (snd_iload_n (pc := 54) (i := 1) dX9_copyAll_54 (snd_iload_n (pc := 55) (i := 2) dX9_copyAll_55 (snd_callS (pc := 56) (n := 4) (s_X9_copyRow F) (by decide) (by decide) wd_1954 wd_1952 wd_1953 wd_129 hy_X9_copyRow dX9_copyAll_56 (snd_aload_n (pc := 59) (i := 0) dX9_copyAll_59 (snd_getf (pc := 60) cls9 (f := 4) (by decide) wd_1307 dX9_copyAll_60 (snd_iconst (pc := 63) dX9_copyAll_63 (snd_iload_n (pc := 64) (i := 1) dX9_copyAll_64 (snd_iload_n (pc := 65) (i := 2) dX9_copyAll_65 (snd_callS (pc := 66) (n := 4) (s_X9_copyRow F) (by decide) (by decide) wd_1954 wd_1952 wd_1953 wd_129 hy_X9_copyRow dX9_copyAll_66 (snd_aload_n (pc := 69) (i := 0) dX9_copyAll_69 (snd_getf (pc := 70) cls9 (f := 5) (by decide) wd_1308 dX9_copyAll_70 (snd_iconst (pc := 73) dX9_copyAll_73 (snd_iload_n (pc := 74) (i := 1) dX9_copyAll_74 (snd_iload_n (pc := 75) (i := 2) dX9_copyAll_75 (snd_callS (pc := 76) (n := 4) (s_X9_copyRow F) (by decide) (by decide) wd_1954 wd_1952 wd_1953 wd_129 hy_X9_copyRow dX9_copyAll_76 (snd_aload_n (pc := 79) (i := 0) dX9_copyAll_79 (snd_getf (pc := 80) cls9 (f := 6) (by decide) wd_1309 dX9_copyAll_80 (snd_sipush (pc := 83) (by decide) dX9_copyAll_83 (snd_iload_n (pc := 86) (i := 1) dX9_copyAll_86 (snd_iload_n (pc := 87) (i := 2) dX9_copyAll_87 (snd_callS (pc := 88) (n := 4) (s_X9_copyRow F) (by decide) (by decide) wd_1954 wd_1952 wd_1953 wd_129 hy_X9_copyRow dX9_copyAll_88 (snd_aload_n (pc := 91) (i := 0) dX9_copyAll_91 (snd_getf (pc := 92) cls9 (f := 7) (by decide) wd_1310 dX9_copyAll_92 (snd_sipush (pc := 95) (by decide) dX9_copyAll_95 (snd_iload_n (pc := 98) (i := 1) dX9_copyAll_98 (snd_iload_n (pc := 99) (i := 2) dX9_copyAll_99 (snd_callS (pc := 100) (n := 4) (s_X9_copyRow F) (by decide) (by decide) wd_1954 wd_1952 wd_1953 wd_129 hy_X9_copyRow dX9_copyAll_100 (snd_return dX9_copyAll_103))))))))))))))))))))))))))))))))))))) (snd_aload_n (pc := 9) (i := 0) dX9_copyAll_9 (snd_getf (pc := 10) cls9 (f := 1) (by decide) wd_1304 dX9_copyAll_10 (snd_sipush (pc := 13) (by decide) dX9_copyAll_13 (snd_iload_n (pc := 16) (i := 2) dX9_copyAll_16 (snd_imul (pc := 17) dX9_copyAll_17 (snd_iload_n (pc := 18) (i := 3) dX9_copyAll_18 (snd_iadd (pc := 19) dX9_copyAll_19 (snd_aload_n (pc := 20) (i := 0) dX9_copyAll_20 (snd_getf (pc := 21) cls9 (f := 1) (by decide) wd_1304 dX9_copyAll_21 (snd_sipush (pc := 24) (by decide) dX9_copyAll_24 (snd_iload_n (pc := 27) (i := 1) dX9_copyAll_27 (snd_imul (pc := 28) dX9_copyAll_28 (snd_iload_n (pc := 29) (i := 3) dX9_copyAll_29 (snd_iadd (pc := 30) dX9_copyAll_30 (snd_bald (pc := 31) dX9_copyAll_31 (snd_bast (pc := 32) dX9_copyAll_32 (snd_iinc (pc := 33) (i := 3) (n := 1) (by decide) dX9_copyAll_33 (snd_goto (pc := 36) (off := (-34)) (tgt := 2) (by decide) dX9_copyAll_36 (ih)))))))))))))))))))))
noncomputable def k_X9_copyAll (F : Nat) : AK := ak_push (vI 0) (ak_istore 3 ((k_X9_copyAll_2 F F)))
noncomputable def m_X9_copyAll (F : Nat) : AF := mkF 0 4 (k_X9_copyAll F)
set_option maxRecDepth 20000 in
theorem s_X9_copyAll (F : Nat) : MA yX9_copyAll cX9_copyAll 4 none 1 (m_X9_copyAll F) := met_of (Or.inl ⟨rfl, rfl⟩) (by decide) (by
  unfold k_X9_copyAll
  exact snd_iconst (pc := 0) dX9_copyAll_0 (snd_istore_n (pc := 1) (i := 3) (by decide) dX9_copyAll_1 ((sk_X9_copyAll_2 F F))))

/-! LastWalkerModel.isTown(I)Z -/
theorem dX9_isTown_0 : decode cX9_isTown 0 = .ok (.iload_n 1, 1) := by decide +kernel
theorem dX9_isTown_1 : decode cX9_isTown 1 = .ok (.iconst 0, 1) := by decide +kernel
theorem dX9_isTown_2 : decode cX9_isTown 2 = .ok (.aload_n 0, 1) := by decide +kernel
theorem dX9_isTown_3 : decode cX9_isTown 3 = .ok (.getfield 23, 3) := by decide +kernel
theorem dX9_isTown_6 : decode cX9_isTown 6 = .ok (.iconst 0, 1) := by decide +kernel
theorem dX9_isTown_7 : decode cX9_isTown 7 = .ok (.iaload, 1) := by decide +kernel
theorem dX9_isTown_8 : decode cX9_isTown 8 = .ok (.iconst 1, 1) := by decide +kernel
theorem dX9_isTown_9 : decode cX9_isTown 9 = .ok (.isub, 1) := by decide +kernel
theorem dX9_isTown_10 : decode cX9_isTown 10 = .ok (.invokestatic 120, 3) := by decide +kernel
theorem dX9_isTown_13 : decode cX9_isTown 13 = .ok (.ireturn, 1) := by decide +kernel
noncomputable def k_X9_isTown (F : Nat) : AK := ak_iload 1 (ak_push (vI 0) (ak_aload 0 (ak_getf 9 5 (ak_push (vI 0) (ak_iald (ak_push (vI 1) (ak_isub (ak_call 3 (m_X9_in F) ak_ireturn))))))))
noncomputable def m_X9_isTown (F : Nat) : AF := mkF 2 2 (k_X9_isTown F)
set_option maxRecDepth 20000 in
theorem s_X9_isTown (F : Nat) : MA yX9_isTown cX9_isTown 2 (some .boolean) 1 (m_X9_isTown F) := met_of (Or.inr (Or.inr (Or.inl ⟨rfl, rfl⟩))) (by decide) (by
  unfold k_X9_isTown
  exact snd_iload_n (pc := 0) (i := 1) dX9_isTown_0 (snd_iconst (pc := 1) dX9_isTown_1 (snd_aload_n (pc := 2) (i := 0) dX9_isTown_2 (snd_getf (pc := 3) cls9 (f := 5) (by decide) wd_1308 dX9_isTown_3 (snd_iconst (pc := 6) dX9_isTown_6 (snd_iald (pc := 7) dX9_isTown_7 (snd_iconst (pc := 8) dX9_isTown_8 (snd_isub (pc := 9) dX9_isTown_9 (snd_callS (pc := 10) (n := 3) (s_X9_in F) (by decide) (by decide) wd_1511 wd_1509 wd_1510 wd_129 hy_X9_in dX9_isTown_10 (snd_ireturn dX9_isTown_13))))))))))

/-! LastWalkerModel.isDay(I)Z -/
theorem dX9_isDay_0 : decode cX9_isDay 0 = .ok (.iload_n 1, 1) := by decide +kernel
theorem dX9_isDay_1 : decode cX9_isDay 1 = .ok (.iconst 0, 1) := by decide +kernel
theorem dX9_isDay_2 : decode cX9_isDay 2 = .ok (.aload_n 0, 1) := by decide +kernel
theorem dX9_isDay_3 : decode cX9_isDay 3 = .ok (.getfield 23, 3) := by decide +kernel
theorem dX9_isDay_6 : decode cX9_isDay 6 = .ok (.iconst 1, 1) := by decide +kernel
theorem dX9_isDay_7 : decode cX9_isDay 7 = .ok (.iaload, 1) := by decide +kernel
theorem dX9_isDay_8 : decode cX9_isDay 8 = .ok (.iconst 1, 1) := by decide +kernel
theorem dX9_isDay_9 : decode cX9_isDay 9 = .ok (.isub, 1) := by decide +kernel
theorem dX9_isDay_10 : decode cX9_isDay 10 = .ok (.invokestatic 120, 3) := by decide +kernel
theorem dX9_isDay_13 : decode cX9_isDay 13 = .ok (.ireturn, 1) := by decide +kernel
noncomputable def k_X9_isDay (F : Nat) : AK := ak_iload 1 (ak_push (vI 0) (ak_aload 0 (ak_getf 9 5 (ak_push (vI 1) (ak_iald (ak_push (vI 1) (ak_isub (ak_call 3 (m_X9_in F) ak_ireturn))))))))
noncomputable def m_X9_isDay (F : Nat) : AF := mkF 2 2 (k_X9_isDay F)
set_option maxRecDepth 20000 in
theorem s_X9_isDay (F : Nat) : MA yX9_isDay cX9_isDay 2 (some .boolean) 1 (m_X9_isDay F) := met_of (Or.inr (Or.inr (Or.inl ⟨rfl, rfl⟩))) (by decide) (by
  unfold k_X9_isDay
  exact snd_iload_n (pc := 0) (i := 1) dX9_isDay_0 (snd_iconst (pc := 1) dX9_isDay_1 (snd_aload_n (pc := 2) (i := 0) dX9_isDay_2 (snd_getf (pc := 3) cls9 (f := 5) (by decide) wd_1308 dX9_isDay_3 (snd_iconst (pc := 6) dX9_isDay_6 (snd_iald (pc := 7) dX9_isDay_7 (snd_iconst (pc := 8) dX9_isDay_8 (snd_isub (pc := 9) dX9_isDay_9 (snd_callS (pc := 10) (n := 3) (s_X9_in F) (by decide) (by decide) wd_1511 wd_1509 wd_1510 wd_129 hy_X9_in dX9_isDay_10 (snd_ireturn dX9_isDay_13))))))))))

/-! LastWalkerModel.four(I)V -/
theorem dX9_four_0 : decode cX9_four 0 = .ok (.bipush 24, 2) := by decide +kernel
theorem dX9_four_2 : decode cX9_four 2 = .ok (.istore_n 2, 1) := by decide +kernel
theorem dX9_four_3 : decode cX9_four 3 = .ok (.iload_n 2, 1) := by decide +kernel
theorem dX9_four_4 : decode cX9_four 4 = .ok (.ifCond .lt 34, 3) := by decide +kernel
theorem dX9_four_7 : decode cX9_four 7 = .ok (.aload_n 0, 1) := by decide +kernel
theorem dX9_four_8 : decode cX9_four 8 = .ok (.getfield 7, 3) := by decide +kernel
theorem dX9_four_11 : decode cX9_four 11 = .ok (.aload_n 0, 1) := by decide +kernel
theorem dX9_four_12 : decode cX9_four 12 = .ok (.getfield 13, 3) := by decide +kernel
theorem dX9_four_15 : decode cX9_four 15 = .ok (.iconst 0, 1) := by decide +kernel
theorem dX9_four_16 : decode cX9_four 16 = .ok (.iaload, 1) := by decide +kernel
theorem dX9_four_17 : decode cX9_four 17 = .ok (.iload_n 1, 1) := by decide +kernel
theorem dX9_four_18 : decode cX9_four 18 = .ok (.iload_n 2, 1) := by decide +kernel
theorem dX9_four_19 : decode cX9_four 19 = .ok (.ishr, 1) := by decide +kernel
theorem dX9_four_20 : decode cX9_four 20 = .ok (.i2b, 1) := by decide +kernel
theorem dX9_four_21 : decode cX9_four 21 = .ok (.bastore, 1) := by decide +kernel
theorem dX9_four_22 : decode cX9_four 22 = .ok (.aload_n 0, 1) := by decide +kernel
theorem dX9_four_23 : decode cX9_four 23 = .ok (.getfield 13, 3) := by decide +kernel
theorem dX9_four_26 : decode cX9_four 26 = .ok (.iconst 0, 1) := by decide +kernel
theorem dX9_four_27 : decode cX9_four 27 = .ok (.dup2, 1) := by decide +kernel
theorem dX9_four_28 : decode cX9_four 28 = .ok (.iaload, 1) := by decide +kernel
theorem dX9_four_29 : decode cX9_four 29 = .ok (.iconst 1, 1) := by decide +kernel
theorem dX9_four_30 : decode cX9_four 30 = .ok (.iadd, 1) := by decide +kernel
theorem dX9_four_31 : decode cX9_four 31 = .ok (.iastore, 1) := by decide +kernel
theorem dX9_four_32 : decode cX9_four 32 = .ok (.iinc 2 (-8), 3) := by decide +kernel
theorem dX9_four_35 : decode cX9_four 35 = .ok (.goto (-32), 3) := by decide +kernel
theorem dX9_four_38 : decode cX9_four 38 = .ok (.return_, 1) := by decide +kernel
noncomputable def kb_X9_four_3 (F : Nat) (self : AK) : AK := ak_iload 2 (ak_iflt (ak_return) (ak_aload 0 (ak_getf 9 1 (ak_aload 0 (ak_getf 9 2 (ak_push (vI 0) (ak_iald (ak_iload 1 (ak_iload 2 (ak_ishr (ak_i2b (ak_bast (ak_aload 0 (ak_getf 9 2 (ak_push (vI 0) (ak_dup2 (ak_iald (ak_push (vI 1) (ak_iadd (ak_iast (ak_iinc 2 (-8) self)))))))))))))))))))))
noncomputable def k_X9_four_3 (F : Nat) (n : Nat) : AK := Nat.rec (motive := fun _ => AK) ak_none (fun _ self => kb_X9_four_3 F self) n
set_option maxRecDepth 20000 in
theorem sk_X9_four_3 (F : Nat) : ∀ n, Snd X0 RX9 cX9_four 3 0 3 (k_X9_four_3 F n) := by
  intro n
  induction n with
  | zero => exact snd_none
  | succ n ih =>
    show Snd X0 RX9 cX9_four 3 0 3 (kb_X9_four_3 F (k_X9_four_3 F n))
    unfold kb_X9_four_3
    exact snd_iload_n (pc := 3) (i := 2) dX9_four_3 (snd_iflt (pc := 4) (off := 34) (tgt := 38) (by decide) dX9_four_4 (snd_return dX9_four_38) (snd_aload_n (pc := 7) (i := 0) dX9_four_7 (snd_getf (pc := 8) cls9 (f := 1) (by decide) wd_1304 dX9_four_8 (snd_aload_n (pc := 11) (i := 0) dX9_four_11 (snd_getf (pc := 12) cls9 (f := 2) (by decide) wd_1305 dX9_four_12 (snd_iconst (pc := 15) dX9_four_15 (snd_iald (pc := 16) dX9_four_16 (snd_iload_n (pc := 17) (i := 1) dX9_four_17 (snd_iload_n (pc := 18) (i := 2) dX9_four_18 (snd_ishr (pc := 19) dX9_four_19 (snd_i2b (pc := 20) dX9_four_20 (snd_bast (pc := 21) dX9_four_21 (snd_aload_n (pc := 22) (i := 0) dX9_four_22 (snd_getf (pc := 23) cls9 (f := 2) (by decide) wd_1305 dX9_four_23 (snd_iconst (pc := 26) dX9_four_26 (snd_dup2 (pc := 27) dX9_four_27 (snd_iald (pc := 28) dX9_four_28 (snd_iconst (pc := 29) dX9_four_29 (snd_iadd (pc := 30) dX9_four_30 (snd_iast (pc := 31) dX9_four_31 (snd_iinc (pc := 32) (i := 2) (n := (-8)) (by decide) dX9_four_32 (snd_goto (pc := 35) (off := (-32)) (tgt := 3) (by decide) dX9_four_35 (ih)))))))))))))))))))))))
noncomputable def k_X9_four (F : Nat) : AK := ak_push (vI 24) (ak_istore 2 ((k_X9_four_3 F F)))
noncomputable def m_X9_four (F : Nat) : AF := mkF 0 3 (k_X9_four F)
set_option maxRecDepth 20000 in
theorem s_X9_four (F : Nat) : MA yX9_four cX9_four 3 none 0 (m_X9_four F) := met_of (Or.inl ⟨rfl, rfl⟩) (by decide) (by
  unfold k_X9_four
  exact snd_bipush (pc := 0) (by decide) dX9_four_0 (snd_istore_n (pc := 2) (i := 2) (by decide) dX9_four_2 ((sk_X9_four_3 F F))))

/-! LastWalkerModel.feed(IIIII)I -/
theorem dX9_feed_0 : decode cX9_feed 0 = .ok (.aload_n 0, 1) := by decide +kernel
theorem dX9_feed_1 : decode cX9_feed 1 = .ok (.iconst 0, 1) := by decide +kernel
theorem dX9_feed_2 : decode cX9_feed 2 = .ok (.putfield 112, 3) := by decide +kernel
theorem dX9_feed_5 : decode cX9_feed 5 = .ok (.aload_n 0, 1) := by decide +kernel
theorem dX9_feed_6 : decode cX9_feed 6 = .ok (.getfield 13, 3) := by decide +kernel
theorem dX9_feed_9 : decode cX9_feed 9 = .ok (.iconst 0, 1) := by decide +kernel
theorem dX9_feed_10 : decode cX9_feed 10 = .ok (.iaload, 1) := by decide +kernel
theorem dX9_feed_11 : decode cX9_feed 11 = .ok (.bipush 20, 2) := by decide +kernel
theorem dX9_feed_13 : decode cX9_feed 13 = .ok (.iadd, 1) := by decide +kernel
theorem dX9_feed_14 : decode cX9_feed 14 = .ok (.sipush 600, 3) := by decide +kernel
theorem dX9_feed_17 : decode cX9_feed 17 = .ok (.if_icmp .le 5, 3) := by decide +kernel
theorem dX9_feed_20 : decode cX9_feed 20 = .ok (.iconst (-1), 1) := by decide +kernel
theorem dX9_feed_21 : decode cX9_feed 21 = .ok (.ireturn, 1) := by decide +kernel
theorem dX9_feed_22 : decode cX9_feed 22 = .ok (.aload_n 0, 1) := by decide +kernel
theorem dX9_feed_23 : decode cX9_feed 23 = .ok (.iload_n 1, 1) := by decide +kernel
theorem dX9_feed_24 : decode cX9_feed 24 = .ok (.invokevirtual 124, 3) := by decide +kernel
theorem dX9_feed_27 : decode cX9_feed 27 = .ok (.aload_n 0, 1) := by decide +kernel
theorem dX9_feed_28 : decode cX9_feed 28 = .ok (.iload_n 2, 1) := by decide +kernel
theorem dX9_feed_29 : decode cX9_feed 29 = .ok (.invokevirtual 124, 3) := by decide +kernel
theorem dX9_feed_32 : decode cX9_feed 32 = .ok (.aload_n 0, 1) := by decide +kernel
theorem dX9_feed_33 : decode cX9_feed 33 = .ok (.iload_n 3, 1) := by decide +kernel
theorem dX9_feed_34 : decode cX9_feed 34 = .ok (.invokevirtual 124, 3) := by decide +kernel
theorem dX9_feed_37 : decode cX9_feed 37 = .ok (.aload_n 0, 1) := by decide +kernel
theorem dX9_feed_38 : decode cX9_feed 38 = .ok (.iload 4, 2) := by decide +kernel
theorem dX9_feed_40 : decode cX9_feed 40 = .ok (.invokevirtual 124, 3) := by decide +kernel
theorem dX9_feed_43 : decode cX9_feed 43 = .ok (.aload_n 0, 1) := by decide +kernel
theorem dX9_feed_44 : decode cX9_feed 44 = .ok (.iload 5, 2) := by decide +kernel
theorem dX9_feed_46 : decode cX9_feed 46 = .ok (.invokevirtual 124, 3) := by decide +kernel
theorem dX9_feed_49 : decode cX9_feed 49 = .ok (.aload_n 0, 1) := by decide +kernel
theorem dX9_feed_50 : decode cX9_feed 50 = .ok (.getfield 13, 3) := by decide +kernel
theorem dX9_feed_53 : decode cX9_feed 53 = .ok (.iconst 0, 1) := by decide +kernel
theorem dX9_feed_54 : decode cX9_feed 54 = .ok (.iaload, 1) := by decide +kernel
theorem dX9_feed_55 : decode cX9_feed 55 = .ok (.ireturn, 1) := by decide +kernel
noncomputable def k_X9_feed (F : Nat) : AK := ak_aload 0 (ak_push (vI 0) (ak_putf 9 0 (ak_aload 0 (ak_getf 9 2 (ak_push (vI 0) (ak_iald (ak_push (vI 20) (ak_iadd (ak_push (vI 600) (ak_cmpgt (ak_push (vI (-1)) ak_ireturn) (ak_aload 0 (ak_iload 1 (ak_callv 9 1 (m_X9_four F) (ak_aload 0 (ak_iload 2 (ak_callv 9 1 (m_X9_four F) (ak_aload 0 (ak_iload 3 (ak_callv 9 1 (m_X9_four F) (ak_aload 0 (ak_iload 4 (ak_callv 9 1 (m_X9_four F) (ak_aload 0 (ak_iload 5 (ak_callv 9 1 (m_X9_four F) (ak_aload 0 (ak_getf 9 2 (ak_push (vI 0) (ak_iald ak_ireturn)))))))))))))))))))))))))))))
noncomputable def m_X9_feed (F : Nat) : AF := mkF 1 6 (k_X9_feed F)
set_option maxRecDepth 20000 in
theorem s_X9_feed (F : Nat) : MA yX9_feed cX9_feed 6 (some .int) 1 (m_X9_feed F) := met_of (Or.inr (Or.inl ⟨rfl, rfl⟩)) (by decide) (by
  unfold k_X9_feed
  exact snd_aload_n (pc := 0) (i := 0) dX9_feed_0 (snd_iconst (pc := 1) dX9_feed_1 (snd_putf (pc := 2) cls9 (f := 0) (by decide) rfl rfl rfl wd_1303 dX9_feed_2 (snd_aload_n (pc := 5) (i := 0) dX9_feed_5 (snd_getf (pc := 6) cls9 (f := 2) (by decide) wd_1305 dX9_feed_6 (snd_iconst (pc := 9) dX9_feed_9 (snd_iald (pc := 10) dX9_feed_10 (snd_bipush (pc := 11) (by decide) dX9_feed_11 (snd_iadd (pc := 13) dX9_feed_13 (snd_sipush (pc := 14) (by decide) dX9_feed_14 (snd_icmple (pc := 17) (off := 5) (tgt := 22) (by decide) dX9_feed_17 (snd_aload_n (pc := 22) (i := 0) dX9_feed_22 (snd_iload_n (pc := 23) (i := 1) dX9_feed_23 (snd_callV (pc := 24) (n := 1) cls9 (s_X9_four F) (by decide) (by decide) wd_1504 wd_1501 wd_1503 wd_52 wd_129 hy_X9_four dX9_feed_24 (snd_aload_n (pc := 27) (i := 0) dX9_feed_27 (snd_iload_n (pc := 28) (i := 2) dX9_feed_28 (snd_callV (pc := 29) (n := 1) cls9 (s_X9_four F) (by decide) (by decide) wd_1504 wd_1501 wd_1503 wd_52 wd_129 hy_X9_four dX9_feed_29 (snd_aload_n (pc := 32) (i := 0) dX9_feed_32 (snd_iload_n (pc := 33) (i := 3) dX9_feed_33 (snd_callV (pc := 34) (n := 1) cls9 (s_X9_four F) (by decide) (by decide) wd_1504 wd_1501 wd_1503 wd_52 wd_129 hy_X9_four dX9_feed_34 (snd_aload_n (pc := 37) (i := 0) dX9_feed_37 (snd_iload (pc := 38) (i := 4) dX9_feed_38 (snd_callV (pc := 40) (n := 1) cls9 (s_X9_four F) (by decide) (by decide) wd_1504 wd_1501 wd_1503 wd_52 wd_129 hy_X9_four dX9_feed_40 (snd_aload_n (pc := 43) (i := 0) dX9_feed_43 (snd_iload (pc := 44) (i := 5) dX9_feed_44 (snd_callV (pc := 46) (n := 1) cls9 (s_X9_four F) (by decide) (by decide) wd_1504 wd_1501 wd_1503 wd_52 wd_129 hy_X9_four dX9_feed_46 (snd_aload_n (pc := 49) (i := 0) dX9_feed_49 (snd_getf (pc := 50) cls9 (f := 2) (by decide) wd_1305 dX9_feed_50 (snd_iconst (pc := 53) dX9_feed_53 (snd_iald (pc := 54) dX9_feed_54 (snd_ireturn dX9_feed_55)))))))))))))))))))) (snd_iconst (pc := 20) dX9_feed_20 (snd_ireturn dX9_feed_21)))))))))))))

/-! LastWalkerModel.end(I)I -/
theorem dX9_end_0 : decode cX9_end 0 = .ok (.aload_n 0, 1) := by decide +kernel
theorem dX9_end_1 : decode cX9_end 1 = .ok (.iconst 0, 1) := by decide +kernel
theorem dX9_end_2 : decode cX9_end 2 = .ok (.putfield 112, 3) := by decide +kernel
theorem dX9_end_5 : decode cX9_end 5 = .ok (.iload_n 1, 1) := by decide +kernel
theorem dX9_end_6 : decode cX9_end 6 = .ok (.iconst 0, 1) := by decide +kernel
theorem dX9_end_7 : decode cX9_end 7 = .ok (.aload_n 0, 1) := by decide +kernel
theorem dX9_end_8 : decode cX9_end 8 = .ok (.getfield 13, 3) := by decide +kernel
theorem dX9_end_11 : decode cX9_end 11 = .ok (.iconst 0, 1) := by decide +kernel
theorem dX9_end_12 : decode cX9_end 12 = .ok (.iaload, 1) := by decide +kernel
theorem dX9_end_13 : decode cX9_end 13 = .ok (.invokestatic 120, 3) := by decide +kernel
theorem dX9_end_16 : decode cX9_end 16 = .ok (.ifCond .ne 5, 3) := by decide +kernel
theorem dX9_end_19 : decode cX9_end 19 = .ok (.iconst (-1), 1) := by decide +kernel
theorem dX9_end_20 : decode cX9_end 20 = .ok (.ireturn, 1) := by decide +kernel
theorem dX9_end_21 : decode cX9_end 21 = .ok (.aload_n 0, 1) := by decide +kernel
theorem dX9_end_22 : decode cX9_end 22 = .ok (.getfield 13, 3) := by decide +kernel
theorem dX9_end_25 : decode cX9_end 25 = .ok (.iconst 0, 1) := by decide +kernel
theorem dX9_end_26 : decode cX9_end 26 = .ok (.iload_n 1, 1) := by decide +kernel
theorem dX9_end_27 : decode cX9_end 27 = .ok (.iastore, 1) := by decide +kernel
theorem dX9_end_28 : decode cX9_end 28 = .ok (.iload_n 1, 1) := by decide +kernel
theorem dX9_end_29 : decode cX9_end 29 = .ok (.ireturn, 1) := by decide +kernel
noncomputable def k_X9_end (F : Nat) : AK := ak_aload 0 (ak_push (vI 0) (ak_putf 9 0 (ak_iload 1 (ak_push (vI 0) (ak_aload 0 (ak_getf 9 2 (ak_push (vI 0) (ak_iald (ak_call 3 (m_X9_in F) (ak_ifeq (ak_push (vI (-1)) ak_ireturn) (ak_aload 0 (ak_getf 9 2 (ak_push (vI 0) (ak_iload 1 (ak_iast (ak_iload 1 ak_ireturn))))))))))))))))
noncomputable def m_X9_end (F : Nat) : AF := mkF 1 2 (k_X9_end F)
set_option maxRecDepth 20000 in
theorem s_X9_end (F : Nat) : MA yX9_end cX9_end 2 (some .int) 1 (m_X9_end F) := met_of (Or.inr (Or.inl ⟨rfl, rfl⟩)) (by decide) (by
  unfold k_X9_end
  exact snd_aload_n (pc := 0) (i := 0) dX9_end_0 (snd_iconst (pc := 1) dX9_end_1 (snd_putf (pc := 2) cls9 (f := 0) (by decide) rfl rfl rfl wd_1303 dX9_end_2 (snd_iload_n (pc := 5) (i := 1) dX9_end_5 (snd_iconst (pc := 6) dX9_end_6 (snd_aload_n (pc := 7) (i := 0) dX9_end_7 (snd_getf (pc := 8) cls9 (f := 2) (by decide) wd_1305 dX9_end_8 (snd_iconst (pc := 11) dX9_end_11 (snd_iald (pc := 12) dX9_end_12 (snd_callS (pc := 13) (n := 3) (s_X9_in F) (by decide) (by decide) wd_1511 wd_1509 wd_1510 wd_129 hy_X9_in dX9_end_13 (snd_ifne (pc := 16) (off := 5) (tgt := 21) (by decide) dX9_end_16 (snd_aload_n (pc := 21) (i := 0) dX9_end_21 (snd_getf (pc := 22) cls9 (f := 2) (by decide) wd_1305 dX9_end_22 (snd_iconst (pc := 25) dX9_end_25 (snd_iload_n (pc := 26) (i := 1) dX9_end_26 (snd_iast (pc := 27) dX9_end_27 (snd_iload_n (pc := 28) (i := 1) dX9_end_28 (snd_ireturn dX9_end_29))))))) (snd_iconst (pc := 19) dX9_end_19 (snd_ireturn dX9_end_20)))))))))))))

/-! LastWalkerModel.see()I -/
theorem dX9_see_0 : decode cX9_see 0 = .ok (.aload_n 0, 1) := by decide +kernel
theorem dX9_see_1 : decode cX9_see 1 = .ok (.getfield 128, 3) := by decide +kernel
theorem dX9_see_4 : decode cX9_see 4 = .ok (.aload_n 0, 1) := by decide +kernel
theorem dX9_see_5 : decode cX9_see 5 = .ok (.getfield 131, 3) := by decide +kernel
theorem dX9_see_8 : decode cX9_see 8 = .ok (.if_icmp .ge 19, 3) := by decide +kernel
theorem dX9_see_11 : decode cX9_see 11 = .ok (.aload_n 0, 1) := by decide +kernel
theorem dX9_see_12 : decode cX9_see 12 = .ok (.getfield 7, 3) := by decide +kernel
theorem dX9_see_15 : decode cX9_see 15 = .ok (.aload_n 0, 1) := by decide +kernel
theorem dX9_see_16 : decode cX9_see 16 = .ok (.getfield 128, 3) := by decide +kernel
theorem dX9_see_19 : decode cX9_see 19 = .ok (.baload, 1) := by decide +kernel
theorem dX9_see_20 : decode cX9_see 20 = .ok (.sipush 255, 3) := by decide +kernel
theorem dX9_see_23 : decode cX9_see 23 = .ok (.iand, 1) := by decide +kernel
theorem dX9_see_24 : decode cX9_see 24 = .ok (.goto 4, 3) := by decide +kernel
theorem dX9_see_27 : decode cX9_see 27 = .ok (.iconst (-1), 1) := by decide +kernel
theorem dX9_see_28 : decode cX9_see 28 = .ok (.ireturn, 1) := by decide +kernel
noncomputable def k_X9_see (F : Nat) : AK := ak_aload 0 (ak_getf 9 8 (ak_aload 0 (ak_getf 9 9 (ak_cmplt (ak_aload 0 (ak_getf 9 1 (ak_aload 0 (ak_getf 9 8 (ak_bald (ak_push (vI 255) (ak_iand ak_ireturn))))))) (ak_push (vI (-1)) ak_ireturn)))))
noncomputable def m_X9_see (F : Nat) : AF := mkF 1 1 (k_X9_see F)
set_option maxRecDepth 20000 in
theorem s_X9_see (F : Nat) : MA yX9_see cX9_see 1 (some .int) 0 (m_X9_see F) := met_of (Or.inr (Or.inl ⟨rfl, rfl⟩)) (by decide) (by
  unfold k_X9_see
  exact snd_aload_n (pc := 0) (i := 0) dX9_see_0 (snd_getf (pc := 1) cls9 (f := 8) (by decide) wd_1311 dX9_see_1 (snd_aload_n (pc := 4) (i := 0) dX9_see_4 (snd_getf (pc := 5) cls9 (f := 9) (by decide) wd_1312 dX9_see_5 (snd_icmpge (pc := 8) (off := 19) (tgt := 27) (by decide) dX9_see_8 (snd_iconst (pc := 27) dX9_see_27 (snd_ireturn dX9_see_28)) (snd_aload_n (pc := 11) (i := 0) dX9_see_11 (snd_getf (pc := 12) cls9 (f := 1) (by decide) wd_1304 dX9_see_12 (snd_aload_n (pc := 15) (i := 0) dX9_see_15 (snd_getf (pc := 16) cls9 (f := 8) (by decide) wd_1311 dX9_see_16 (snd_bald (pc := 19) dX9_see_19 (snd_sipush (pc := 20) (by decide) dX9_see_20 (snd_iand (pc := 23) dX9_see_23 (snd_goto (pc := 24) (off := 4) (tgt := 28) (by decide) dX9_see_24 (snd_ireturn dX9_see_28))))))))))))))

/-! LastWalkerModel.token()V -/
theorem dX9_token_0 : decode cX9_token 0 = .ok (.aload_n 0, 1) := by decide +kernel
theorem dX9_token_1 : decode cX9_token 1 = .ok (.invokevirtual 134, 3) := by decide +kernel
theorem dX9_token_4 : decode cX9_token 4 = .ok (.bipush 10, 2) := by decide +kernel
theorem dX9_token_6 : decode cX9_token 6 = .ok (.if_icmp .eq 12, 3) := by decide +kernel
theorem dX9_token_9 : decode cX9_token 9 = .ok (.aload_n 0, 1) := by decide +kernel
theorem dX9_token_10 : decode cX9_token 10 = .ok (.invokevirtual 134, 3) := by decide +kernel
theorem dX9_token_13 : decode cX9_token 13 = .ok (.bipush 32, 2) := by decide +kernel
theorem dX9_token_15 : decode cX9_token 15 = .ok (.if_icmp .ne 16, 3) := by decide +kernel
theorem dX9_token_18 : decode cX9_token 18 = .ok (.aload_n 0, 1) := by decide +kernel
theorem dX9_token_19 : decode cX9_token 19 = .ok (.dup, 1) := by decide +kernel
theorem dX9_token_20 : decode cX9_token 20 = .ok (.getfield 128, 3) := by decide +kernel
theorem dX9_token_23 : decode cX9_token 23 = .ok (.iconst 1, 1) := by decide +kernel
theorem dX9_token_24 : decode cX9_token 24 = .ok (.iadd, 1) := by decide +kernel
theorem dX9_token_25 : decode cX9_token 25 = .ok (.putfield 128, 3) := by decide +kernel
theorem dX9_token_28 : decode cX9_token 28 = .ok (.goto (-28), 3) := by decide +kernel
theorem dX9_token_31 : decode cX9_token 31 = .ok (.aload_n 0, 1) := by decide +kernel
theorem dX9_token_32 : decode cX9_token 32 = .ok (.aload_n 0, 1) := by decide +kernel
theorem dX9_token_33 : decode cX9_token 33 = .ok (.getfield 128, 3) := by decide +kernel
theorem dX9_token_36 : decode cX9_token 36 = .ok (.putfield 138, 3) := by decide +kernel
theorem dX9_token_39 : decode cX9_token 39 = .ok (.aload_n 0, 1) := by decide +kernel
theorem dX9_token_40 : decode cX9_token 40 = .ok (.invokevirtual 134, 3) := by decide +kernel
theorem dX9_token_43 : decode cX9_token 43 = .ok (.istore_n 1, 1) := by decide +kernel
theorem dX9_token_44 : decode cX9_token 44 = .ok (.aload_n 0, 1) := by decide +kernel
theorem dX9_token_45 : decode cX9_token 45 = .ok (.lconst 0, 1) := by decide +kernel
theorem dX9_token_46 : decode cX9_token 46 = .ok (.putfield 141, 3) := by decide +kernel
theorem dX9_token_49 : decode cX9_token 49 = .ok (.iconst 0, 1) := by decide +kernel
theorem dX9_token_50 : decode cX9_token 50 = .ok (.istore_n 2, 1) := by decide +kernel
theorem dX9_token_51 : decode cX9_token 51 = .ok (.iload_n 1, 1) := by decide +kernel
theorem dX9_token_52 : decode cX9_token 52 = .ok (.ifCond .ge 11, 3) := by decide +kernel
theorem dX9_token_55 : decode cX9_token 55 = .ok (.aload_n 0, 1) := by decide +kernel
theorem dX9_token_56 : decode cX9_token 56 = .ok (.iconst 0, 1) := by decide +kernel
theorem dX9_token_57 : decode cX9_token 57 = .ok (.putfield 145, 3) := by decide +kernel
theorem dX9_token_60 : decode cX9_token 60 = .ok (.goto 206, 3) := by decide +kernel
theorem dX9_token_63 : decode cX9_token 63 = .ok (.iload_n 1, 1) := by decide +kernel
theorem dX9_token_64 : decode cX9_token 64 = .ok (.bipush 97, 2) := by decide +kernel
theorem dX9_token_66 : decode cX9_token 66 = .ok (.bipush 122, 2) := by decide +kernel
theorem dX9_token_68 : decode cX9_token 68 = .ok (.invokestatic 120, 3) := by decide +kernel
theorem dX9_token_71 : decode cX9_token 71 = .ok (.ifCond .eq 76, 3) := by decide +kernel
theorem dX9_token_74 : decode cX9_token 74 = .ok (.aload_n 0, 1) := by decide +kernel
theorem dX9_token_75 : decode cX9_token 75 = .ok (.invokevirtual 134, 3) := by decide +kernel
theorem dX9_token_78 : decode cX9_token 78 = .ok (.bipush 97, 2) := by decide +kernel
theorem dX9_token_80 : decode cX9_token 80 = .ok (.bipush 122, 2) := by decide +kernel
theorem dX9_token_82 : decode cX9_token 82 = .ok (.invokestatic 120, 3) := by decide +kernel
theorem dX9_token_85 : decode cX9_token 85 = .ok (.ifCond .eq 36, 3) := by decide +kernel
theorem dX9_token_88 : decode cX9_token 88 = .ok (.aload_n 0, 1) := by decide +kernel
theorem dX9_token_89 : decode cX9_token 89 = .ok (.aload_n 0, 1) := by decide +kernel
theorem dX9_token_90 : decode cX9_token 90 = .ok (.getfield 141, 3) := by decide +kernel
theorem dX9_token_93 : decode cX9_token 93 = .ok (.bipush 8, 2) := by decide +kernel
theorem dX9_token_95 : decode cX9_token 95 = .ok (.lshl, 1) := by decide +kernel
theorem dX9_token_96 : decode cX9_token 96 = .ok (.aload_n 0, 1) := by decide +kernel
theorem dX9_token_97 : decode cX9_token 97 = .ok (.invokevirtual 134, 3) := by decide +kernel
theorem dX9_token_100 : decode cX9_token 100 = .ok (.i2l, 1) := by decide +kernel
theorem dX9_token_101 : decode cX9_token 101 = .ok (.lor, 1) := by decide +kernel
theorem dX9_token_102 : decode cX9_token 102 = .ok (.putfield 141, 3) := by decide +kernel
theorem dX9_token_105 : decode cX9_token 105 = .ok (.aload_n 0, 1) := by decide +kernel
theorem dX9_token_106 : decode cX9_token 106 = .ok (.dup, 1) := by decide +kernel
theorem dX9_token_107 : decode cX9_token 107 = .ok (.getfield 128, 3) := by decide +kernel
theorem dX9_token_110 : decode cX9_token 110 = .ok (.iconst 1, 1) := by decide +kernel
theorem dX9_token_111 : decode cX9_token 111 = .ok (.iadd, 1) := by decide +kernel
theorem dX9_token_112 : decode cX9_token 112 = .ok (.putfield 128, 3) := by decide +kernel
theorem dX9_token_115 : decode cX9_token 115 = .ok (.iinc 2 1, 3) := by decide +kernel
theorem dX9_token_118 : decode cX9_token 118 = .ok (.goto (-44), 3) := by decide +kernel
theorem dX9_token_121 : decode cX9_token 121 = .ok (.aload_n 0, 1) := by decide +kernel
theorem dX9_token_122 : decode cX9_token 122 = .ok (.iload_n 2, 1) := by decide +kernel
theorem dX9_token_123 : decode cX9_token 123 = .ok (.bipush 8, 2) := by decide +kernel
theorem dX9_token_125 : decode cX9_token 125 = .ok (.if_icmp .le 7, 3) := by decide +kernel
theorem dX9_token_128 : decode cX9_token 128 = .ok (.lconst 0, 1) := by decide +kernel
theorem dX9_token_129 : decode cX9_token 129 = .ok (.goto 7, 3) := by decide +kernel
theorem dX9_token_132 : decode cX9_token 132 = .ok (.aload_n 0, 1) := by decide +kernel
theorem dX9_token_133 : decode cX9_token 133 = .ok (.getfield 141, 3) := by decide +kernel
theorem dX9_token_136 : decode cX9_token 136 = .ok (.putfield 141, 3) := by decide +kernel
theorem dX9_token_139 : decode cX9_token 139 = .ok (.aload_n 0, 1) := by decide +kernel
theorem dX9_token_140 : decode cX9_token 140 = .ok (.iconst 2, 1) := by decide +kernel
theorem dX9_token_141 : decode cX9_token 141 = .ok (.putfield 145, 3) := by decide +kernel
theorem dX9_token_144 : decode cX9_token 144 = .ok (.goto 122, 3) := by decide +kernel
theorem dX9_token_147 : decode cX9_token 147 = .ok (.iload_n 1, 1) := by decide +kernel
theorem dX9_token_148 : decode cX9_token 148 = .ok (.bipush 48, 2) := by decide +kernel
theorem dX9_token_150 : decode cX9_token 150 = .ok (.bipush 57, 2) := by decide +kernel
theorem dX9_token_152 : decode cX9_token 152 = .ok (.invokestatic 120, 3) := by decide +kernel
theorem dX9_token_155 : decode cX9_token 155 = .ok (.ifCond .eq 86, 3) := by decide +kernel
theorem dX9_token_158 : decode cX9_token 158 = .ok (.aload_n 0, 1) := by decide +kernel
theorem dX9_token_159 : decode cX9_token 159 = .ok (.iconst 0, 1) := by decide +kernel
theorem dX9_token_160 : decode cX9_token 160 = .ok (.putfield 148, 3) := by decide +kernel
theorem dX9_token_163 : decode cX9_token 163 = .ok (.aload_n 0, 1) := by decide +kernel
theorem dX9_token_164 : decode cX9_token 164 = .ok (.invokevirtual 134, 3) := by decide +kernel
theorem dX9_token_167 : decode cX9_token 167 = .ok (.bipush 48, 2) := by decide +kernel
theorem dX9_token_169 : decode cX9_token 169 = .ok (.bipush 57, 2) := by decide +kernel
theorem dX9_token_171 : decode cX9_token 171 = .ok (.invokestatic 120, 3) := by decide +kernel
theorem dX9_token_174 : decode cX9_token 174 = .ok (.ifCond .eq 50, 3) := by decide +kernel
theorem dX9_token_177 : decode cX9_token 177 = .ok (.aload_n 0, 1) := by decide +kernel
theorem dX9_token_178 : decode cX9_token 178 = .ok (.iload_n 2, 1) := by decide +kernel
theorem dX9_token_179 : decode cX9_token 179 = .ok (.iconst 3, 1) := by decide +kernel
theorem dX9_token_180 : decode cX9_token 180 = .ok (.if_icmp .ge 21, 3) := by decide +kernel
theorem dX9_token_183 : decode cX9_token 183 = .ok (.bipush 10, 2) := by decide +kernel
theorem dX9_token_185 : decode cX9_token 185 = .ok (.aload_n 0, 1) := by decide +kernel
theorem dX9_token_186 : decode cX9_token 186 = .ok (.getfield 148, 3) := by decide +kernel
theorem dX9_token_189 : decode cX9_token 189 = .ok (.imul, 1) := by decide +kernel
theorem dX9_token_190 : decode cX9_token 190 = .ok (.aload_n 0, 1) := by decide +kernel
theorem dX9_token_191 : decode cX9_token 191 = .ok (.invokevirtual 134, 3) := by decide +kernel
theorem dX9_token_194 : decode cX9_token 194 = .ok (.iadd, 1) := by decide +kernel
theorem dX9_token_195 : decode cX9_token 195 = .ok (.bipush 48, 2) := by decide +kernel
theorem dX9_token_197 : decode cX9_token 197 = .ok (.isub, 1) := by decide +kernel
theorem dX9_token_198 : decode cX9_token 198 = .ok (.goto 7, 3) := by decide +kernel
theorem dX9_token_201 : decode cX9_token 201 = .ok (.aload_n 0, 1) := by decide +kernel
theorem dX9_token_202 : decode cX9_token 202 = .ok (.getfield 148, 3) := by decide +kernel
theorem dX9_token_205 : decode cX9_token 205 = .ok (.putfield 148, 3) := by decide +kernel
theorem dX9_token_208 : decode cX9_token 208 = .ok (.aload_n 0, 1) := by decide +kernel
theorem dX9_token_209 : decode cX9_token 209 = .ok (.dup, 1) := by decide +kernel
theorem dX9_token_210 : decode cX9_token 210 = .ok (.getfield 128, 3) := by decide +kernel
theorem dX9_token_213 : decode cX9_token 213 = .ok (.iconst 1, 1) := by decide +kernel
theorem dX9_token_214 : decode cX9_token 214 = .ok (.iadd, 1) := by decide +kernel
theorem dX9_token_215 : decode cX9_token 215 = .ok (.putfield 128, 3) := by decide +kernel
theorem dX9_token_218 : decode cX9_token 218 = .ok (.iinc 2 1, 3) := by decide +kernel
theorem dX9_token_221 : decode cX9_token 221 = .ok (.goto (-58), 3) := by decide +kernel
theorem dX9_token_224 : decode cX9_token 224 = .ok (.aload_n 0, 1) := by decide +kernel
theorem dX9_token_225 : decode cX9_token 225 = .ok (.iload_n 2, 1) := by decide +kernel
theorem dX9_token_226 : decode cX9_token 226 = .ok (.iconst 3, 1) := by decide +kernel
theorem dX9_token_227 : decode cX9_token 227 = .ok (.if_icmp .le 7, 3) := by decide +kernel
theorem dX9_token_230 : decode cX9_token 230 = .ok (.iconst 1, 1) := by decide +kernel
theorem dX9_token_231 : decode cX9_token 231 = .ok (.goto 4, 3) := by decide +kernel
theorem dX9_token_234 : decode cX9_token 234 = .ok (.iconst 3, 1) := by decide +kernel
theorem dX9_token_235 : decode cX9_token 235 = .ok (.putfield 145, 3) := by decide +kernel
theorem dX9_token_238 : decode cX9_token 238 = .ok (.goto 28, 3) := by decide +kernel
theorem dX9_token_241 : decode cX9_token 241 = .ok (.aload_n 0, 1) := by decide +kernel
theorem dX9_token_242 : decode cX9_token 242 = .ok (.dup, 1) := by decide +kernel
theorem dX9_token_243 : decode cX9_token 243 = .ok (.getfield 128, 3) := by decide +kernel
theorem dX9_token_246 : decode cX9_token 246 = .ok (.iconst 1, 1) := by decide +kernel
theorem dX9_token_247 : decode cX9_token 247 = .ok (.iadd, 1) := by decide +kernel
theorem dX9_token_248 : decode cX9_token 248 = .ok (.putfield 128, 3) := by decide +kernel
theorem dX9_token_251 : decode cX9_token 251 = .ok (.aload_n 0, 1) := by decide +kernel
theorem dX9_token_252 : decode cX9_token 252 = .ok (.iload_n 1, 1) := by decide +kernel
theorem dX9_token_253 : decode cX9_token 253 = .ok (.bipush 59, 2) := by decide +kernel
theorem dX9_token_255 : decode cX9_token 255 = .ok (.if_icmp .ne 7, 3) := by decide +kernel
theorem dX9_token_258 : decode cX9_token 258 = .ok (.iconst 4, 1) := by decide +kernel
theorem dX9_token_259 : decode cX9_token 259 = .ok (.goto 4, 3) := by decide +kernel
theorem dX9_token_262 : decode cX9_token 262 = .ok (.iconst 1, 1) := by decide +kernel
theorem dX9_token_263 : decode cX9_token 263 = .ok (.putfield 145, 3) := by decide +kernel
theorem dX9_token_266 : decode cX9_token 266 = .ok (.return_, 1) := by decide +kernel
noncomputable def k_X9_token_18 (F : Nat) (h0 : AK) : AK := ak_aload 0 (ak_dup (ak_getf 9 8 (ak_push (vI 1) (ak_iadd (ak_putf 9 8 h0)))))
set_option maxRecDepth 20000 in
theorem sk_X9_token_18 (F : Nat) {h0 : AK} (hh0 : Snd X0 RX9 cX9_token 3 1 0 h0) : Snd X0 RX9 cX9_token 3 1 18 (k_X9_token_18 F h0) := by
  unfold k_X9_token_18
  exact snd_aload_n (pc := 18) (i := 0) dX9_token_18 (snd_dup (pc := 19) dX9_token_19 (snd_getf (pc := 20) cls9 (f := 8) (by decide) wd_1311 dX9_token_20 (snd_iconst (pc := 23) dX9_token_23 (snd_iadd (pc := 24) dX9_token_24 (snd_putf (pc := 25) cls9 (f := 8) (by decide) rfl rfl rfl wd_1311 dX9_token_25 (snd_goto (pc := 28) (off := (-28)) (tgt := 0) (by decide) dX9_token_28 (hh0)))))))
noncomputable def k_X9_token_136 (F : Nat) : AK := ak_putl 9 13 (ak_aload 0 (ak_push (vI 2) (ak_putf 9 11 ak_return)))
set_option maxRecDepth 20000 in
theorem sk_X9_token_136 (F : Nat) : Snd X0 RX9 cX9_token 3 1 136 (k_X9_token_136 F) := by
  unfold k_X9_token_136
  exact snd_putl (pc := 136) cls9 (f := 13) (by decide) rfl rfl rfl wd_1316 dX9_token_136 (snd_aload_n (pc := 139) (i := 0) dX9_token_139 (snd_iconst (pc := 140) dX9_token_140 (snd_putf (pc := 141) cls9 (f := 11) (by decide) rfl rfl rfl wd_1314 dX9_token_141 (snd_goto (pc := 144) (off := 122) (tgt := 266) (by decide) dX9_token_144 (snd_return dX9_token_266)))))
noncomputable def kb_X9_token_74 (F : Nat) (self : AK) : AK := ak_aload 0 (ak_callv 9 0 (m_X9_see F) (ak_push (vI 97) (ak_push (vI 122) (ak_call 3 (m_X9_in F) (ak_ifeq (ak_aload 0 (ak_iload 2 (ak_push (vI 8) (ak_cmpgt (ak_push (vL 0) ((k_X9_token_136 F))) (ak_aload 0 (ak_getf 9 13 ((k_X9_token_136 F)))))))) (ak_aload 0 (ak_aload 0 (ak_getf 9 13 (ak_push (vI 8) (ak_lshl (ak_aload 0 (ak_callv 9 0 (m_X9_see F) (ak_i2l (ak_lor (ak_putl 9 13 (ak_aload 0 (ak_dup (ak_getf 9 8 (ak_push (vI 1) (ak_iadd (ak_putf 9 8 (ak_iinc 2 1 self))))))))))))))))))))))
noncomputable def k_X9_token_74 (F : Nat) (n : Nat) : AK := Nat.rec (motive := fun _ => AK) ak_none (fun _ self => kb_X9_token_74 F self) n
set_option maxRecDepth 20000 in
theorem sk_X9_token_74 (F : Nat) : ∀ n, Snd X0 RX9 cX9_token 3 1 74 (k_X9_token_74 F n) := by
  intro n
  induction n with
  | zero => exact snd_none
  | succ n ih =>
    show Snd X0 RX9 cX9_token 3 1 74 (kb_X9_token_74 F (k_X9_token_74 F n))
    unfold kb_X9_token_74
    exact snd_aload_n (pc := 74) (i := 0) dX9_token_74 (snd_callV (pc := 75) (n := 0) cls9 (s_X9_see F) (by decide) (by decide) wd_1527 wd_1524 wd_1526 wd_55 wd_129 hy_X9_see dX9_token_75 (snd_bipush (pc := 78) (by decide) dX9_token_78 (snd_bipush (pc := 80) (by decide) dX9_token_80 (snd_callS (pc := 82) (n := 3) (s_X9_in F) (by decide) (by decide) wd_1511 wd_1509 wd_1510 wd_129 hy_X9_in dX9_token_82 (snd_ifeq (pc := 85) (off := 36) (tgt := 121) (by decide) dX9_token_85 (snd_aload_n (pc := 121) (i := 0) dX9_token_121 (snd_iload_n (pc := 122) (i := 2) dX9_token_122 (snd_bipush (pc := 123) (by decide) dX9_token_123 (snd_icmple (pc := 125) (off := 7) (tgt := 132) (by decide) dX9_token_125 (snd_aload_n (pc := 132) (i := 0) dX9_token_132 (snd_getf (pc := 133) cls9 (f := 13) (by decide) wd_1316 dX9_token_133 ((sk_X9_token_136 F)))) (snd_lconst (pc := 128) (by decide) dX9_token_128 (snd_goto (pc := 129) (off := 7) (tgt := 136) (by decide) dX9_token_129 ((sk_X9_token_136 F)))))))) (snd_aload_n (pc := 88) (i := 0) dX9_token_88 (snd_aload_n (pc := 89) (i := 0) dX9_token_89 (snd_getf (pc := 90) cls9 (f := 13) (by decide) wd_1316 dX9_token_90 (snd_bipush (pc := 93) (by decide) dX9_token_93 (snd_lshl (pc := 95) dX9_token_95 (snd_aload_n (pc := 96) (i := 0) dX9_token_96 (snd_callV (pc := 97) (n := 0) cls9 (s_X9_see F) (by decide) (by decide) wd_1527 wd_1524 wd_1526 wd_55 wd_129 hy_X9_see dX9_token_97 (snd_i2l (pc := 100) dX9_token_100 (snd_lor (pc := 101) dX9_token_101 (snd_putl (pc := 102) cls9 (f := 13) (by decide) rfl rfl rfl wd_1316 dX9_token_102 (snd_aload_n (pc := 105) (i := 0) dX9_token_105 (snd_dup (pc := 106) dX9_token_106 (snd_getf (pc := 107) cls9 (f := 8) (by decide) wd_1311 dX9_token_107 (snd_iconst (pc := 110) dX9_token_110 (snd_iadd (pc := 111) dX9_token_111 (snd_putf (pc := 112) cls9 (f := 8) (by decide) rfl rfl rfl wd_1311 dX9_token_112 (snd_iinc (pc := 115) (i := 2) (n := 1) (by decide) dX9_token_115 (snd_goto (pc := 118) (off := (-44)) (tgt := 74) (by decide) dX9_token_118 (ih))))))))))))))))))))))))
noncomputable def k_X9_token_205 (F : Nat) (h163 : AK) : AK := ak_putf 9 12 (ak_aload 0 (ak_dup (ak_getf 9 8 (ak_push (vI 1) (ak_iadd (ak_putf 9 8 (ak_iinc 2 1 h163)))))))
set_option maxRecDepth 20000 in
theorem sk_X9_token_205 (F : Nat) {h163 : AK} (hh163 : Snd X0 RX9 cX9_token 3 1 163 h163) : Snd X0 RX9 cX9_token 3 1 205 (k_X9_token_205 F h163) := by
  unfold k_X9_token_205
  exact snd_putf (pc := 205) cls9 (f := 12) (by decide) rfl rfl rfl wd_1315 dX9_token_205 (snd_aload_n (pc := 208) (i := 0) dX9_token_208 (snd_dup (pc := 209) dX9_token_209 (snd_getf (pc := 210) cls9 (f := 8) (by decide) wd_1311 dX9_token_210 (snd_iconst (pc := 213) dX9_token_213 (snd_iadd (pc := 214) dX9_token_214 (snd_putf (pc := 215) cls9 (f := 8) (by decide) rfl rfl rfl wd_1311 dX9_token_215 (snd_iinc (pc := 218) (i := 2) (n := 1) (by decide) dX9_token_218 (snd_goto (pc := 221) (off := (-58)) (tgt := 163) (by decide) dX9_token_221 (hh163)))))))))
noncomputable def k_X9_token_235 (F : Nat) : AK := ak_putf 9 11 ak_return
set_option maxRecDepth 20000 in
theorem sk_X9_token_235 (F : Nat) : Snd X0 RX9 cX9_token 3 1 235 (k_X9_token_235 F) := by
  unfold k_X9_token_235
  exact snd_putf (pc := 235) cls9 (f := 11) (by decide) rfl rfl rfl wd_1314 dX9_token_235 (snd_goto (pc := 238) (off := 28) (tgt := 266) (by decide) dX9_token_238 (snd_return dX9_token_266))
noncomputable def kb_X9_token_163 (F : Nat) (self : AK) : AK := ak_aload 0 (ak_callv 9 0 (m_X9_see F) (ak_push (vI 48) (ak_push (vI 57) (ak_call 3 (m_X9_in F) (ak_ifeq (ak_aload 0 (ak_iload 2 (ak_push (vI 3) (ak_cmpgt (ak_push (vI 1) ((k_X9_token_235 F))) (ak_push (vI 3) ((k_X9_token_235 F))))))) (ak_aload 0 (ak_iload 2 (ak_push (vI 3) (ak_cmplt (ak_push (vI 10) (ak_aload 0 (ak_getf 9 12 (ak_imul (ak_aload 0 (ak_callv 9 0 (m_X9_see F) (ak_iadd (ak_push (vI 48) (ak_isub ((k_X9_token_205 F self))))))))))) (ak_aload 0 (ak_getf 9 12 ((k_X9_token_205 F self)))))))))))))
noncomputable def k_X9_token_163 (F : Nat) (n : Nat) : AK := Nat.rec (motive := fun _ => AK) ak_none (fun _ self => kb_X9_token_163 F self) n
set_option maxRecDepth 20000 in
theorem sk_X9_token_163 (F : Nat) : ∀ n, Snd X0 RX9 cX9_token 3 1 163 (k_X9_token_163 F n) := by
  intro n
  induction n with
  | zero => exact snd_none
  | succ n ih =>
    show Snd X0 RX9 cX9_token 3 1 163 (kb_X9_token_163 F (k_X9_token_163 F n))
    unfold kb_X9_token_163
    exact snd_aload_n (pc := 163) (i := 0) dX9_token_163 (snd_callV (pc := 164) (n := 0) cls9 (s_X9_see F) (by decide) (by decide) wd_1527 wd_1524 wd_1526 wd_55 wd_129 hy_X9_see dX9_token_164 (snd_bipush (pc := 167) (by decide) dX9_token_167 (snd_bipush (pc := 169) (by decide) dX9_token_169 (snd_callS (pc := 171) (n := 3) (s_X9_in F) (by decide) (by decide) wd_1511 wd_1509 wd_1510 wd_129 hy_X9_in dX9_token_171 (snd_ifeq (pc := 174) (off := 50) (tgt := 224) (by decide) dX9_token_174 (snd_aload_n (pc := 224) (i := 0) dX9_token_224 (snd_iload_n (pc := 225) (i := 2) dX9_token_225 (snd_iconst (pc := 226) dX9_token_226 (snd_icmple (pc := 227) (off := 7) (tgt := 234) (by decide) dX9_token_227 (snd_iconst (pc := 234) dX9_token_234 ((sk_X9_token_235 F))) (snd_iconst (pc := 230) dX9_token_230 (snd_goto (pc := 231) (off := 4) (tgt := 235) (by decide) dX9_token_231 ((sk_X9_token_235 F)))))))) (snd_aload_n (pc := 177) (i := 0) dX9_token_177 (snd_iload_n (pc := 178) (i := 2) dX9_token_178 (snd_iconst (pc := 179) dX9_token_179 (snd_icmpge (pc := 180) (off := 21) (tgt := 201) (by decide) dX9_token_180 (snd_aload_n (pc := 201) (i := 0) dX9_token_201 (snd_getf (pc := 202) cls9 (f := 12) (by decide) wd_1315 dX9_token_202 ((sk_X9_token_205 F ih)))) (snd_bipush (pc := 183) (by decide) dX9_token_183 (snd_aload_n (pc := 185) (i := 0) dX9_token_185 (snd_getf (pc := 186) cls9 (f := 12) (by decide) wd_1315 dX9_token_186 (snd_imul (pc := 189) dX9_token_189 (snd_aload_n (pc := 190) (i := 0) dX9_token_190 (snd_callV (pc := 191) (n := 0) cls9 (s_X9_see F) (by decide) (by decide) wd_1527 wd_1524 wd_1526 wd_55 wd_129 hy_X9_see dX9_token_191 (snd_iadd (pc := 194) dX9_token_194 (snd_bipush (pc := 195) (by decide) dX9_token_195 (snd_isub (pc := 197) dX9_token_197 (snd_goto (pc := 198) (off := 7) (tgt := 205) (by decide) dX9_token_198 ((sk_X9_token_205 F ih)))))))))))))))))))))
noncomputable def kb_X9_token_0 (F : Nat) (self : AK) : AK := ak_aload 0 (ak_callv 9 0 (m_X9_see F) (ak_push (vI 10) (ak_cmpeq ((k_X9_token_18 F self)) (ak_aload 0 (ak_callv 9 0 (m_X9_see F) (ak_push (vI 32) (ak_cmpeq ((k_X9_token_18 F self)) (ak_aload 0 (ak_aload 0 (ak_getf 9 8 (ak_putf 9 10 (ak_aload 0 (ak_callv 9 0 (m_X9_see F) (ak_istore 1 (ak_aload 0 (ak_push (vL 0) (ak_putl 9 13 (ak_push (vI 0) (ak_istore 2 (ak_iload 1 (ak_iflt (ak_aload 0 (ak_push (vI 0) (ak_putf 9 11 ak_return))) (ak_iload 1 (ak_push (vI 97) (ak_push (vI 122) (ak_call 3 (m_X9_in F) (ak_ifeq (ak_iload 1 (ak_push (vI 48) (ak_push (vI 57) (ak_call 3 (m_X9_in F) (ak_ifeq (ak_aload 0 (ak_dup (ak_getf 9 8 (ak_push (vI 1) (ak_iadd (ak_putf 9 8 (ak_aload 0 (ak_iload 1 (ak_push (vI 59) (ak_cmpeq (ak_push (vI 4) (ak_putf 9 11 ak_return)) (ak_push (vI 1) (ak_putf 9 11 ak_return)))))))))))) (ak_aload 0 (ak_push (vI 0) (ak_putf 9 12 ((k_X9_token_163 F F)))))))))) ((k_X9_token_74 F F))))))))))))))))))))))))))))
noncomputable def k_X9_token_0 (F : Nat) (n : Nat) : AK := Nat.rec (motive := fun _ => AK) ak_none (fun _ self => kb_X9_token_0 F self) n
set_option maxRecDepth 20000 in
theorem sk_X9_token_0 (F : Nat) : ∀ n, Snd X0 RX9 cX9_token 3 1 0 (k_X9_token_0 F n) := by
  intro n
  induction n with
  | zero => exact snd_none
  | succ n ih =>
    show Snd X0 RX9 cX9_token 3 1 0 (kb_X9_token_0 F (k_X9_token_0 F n))
    unfold kb_X9_token_0
    exact snd_aload_n (pc := 0) (i := 0) dX9_token_0 (snd_callV (pc := 1) (n := 0) cls9 (s_X9_see F) (by decide) (by decide) wd_1527 wd_1524 wd_1526 wd_55 wd_129 hy_X9_see dX9_token_1 (snd_bipush (pc := 4) (by decide) dX9_token_4 (snd_icmpeq (pc := 6) (off := 12) (tgt := 18) (by decide) dX9_token_6 ((sk_X9_token_18 F ih)) (snd_aload_n (pc := 9) (i := 0) dX9_token_9 (snd_callV (pc := 10) (n := 0) cls9 (s_X9_see F) (by decide) (by decide) wd_1527 wd_1524 wd_1526 wd_55 wd_129 hy_X9_see dX9_token_10 (snd_bipush (pc := 13) (by decide) dX9_token_13 (snd_icmpne (pc := 15) (off := 16) (tgt := 31) (by decide) dX9_token_15 (snd_aload_n (pc := 31) (i := 0) dX9_token_31 (snd_aload_n (pc := 32) (i := 0) dX9_token_32 (snd_getf (pc := 33) cls9 (f := 8) (by decide) wd_1311 dX9_token_33 (snd_putf (pc := 36) cls9 (f := 10) (by decide) rfl rfl rfl wd_1313 dX9_token_36 (snd_aload_n (pc := 39) (i := 0) dX9_token_39 (snd_callV (pc := 40) (n := 0) cls9 (s_X9_see F) (by decide) (by decide) wd_1527 wd_1524 wd_1526 wd_55 wd_129 hy_X9_see dX9_token_40 (snd_istore_n (pc := 43) (i := 1) (by decide) dX9_token_43 (snd_aload_n (pc := 44) (i := 0) dX9_token_44 (snd_lconst (pc := 45) (by decide) dX9_token_45 (snd_putl (pc := 46) cls9 (f := 13) (by decide) rfl rfl rfl wd_1316 dX9_token_46 (snd_iconst (pc := 49) dX9_token_49 (snd_istore_n (pc := 50) (i := 2) (by decide) dX9_token_50 (snd_iload_n (pc := 51) (i := 1) dX9_token_51 (snd_ifge (pc := 52) (off := 11) (tgt := 63) (by decide) dX9_token_52 (snd_iload_n (pc := 63) (i := 1) dX9_token_63 (snd_bipush (pc := 64) (by decide) dX9_token_64 (snd_bipush (pc := 66) (by decide) dX9_token_66 (snd_callS (pc := 68) (n := 3) (s_X9_in F) (by decide) (by decide) wd_1511 wd_1509 wd_1510 wd_129 hy_X9_in dX9_token_68 (snd_ifeq (pc := 71) (off := 76) (tgt := 147) (by decide) dX9_token_71 (snd_iload_n (pc := 147) (i := 1) dX9_token_147 (snd_bipush (pc := 148) (by decide) dX9_token_148 (snd_bipush (pc := 150) (by decide) dX9_token_150 (snd_callS (pc := 152) (n := 3) (s_X9_in F) (by decide) (by decide) wd_1511 wd_1509 wd_1510 wd_129 hy_X9_in dX9_token_152 (snd_ifeq (pc := 155) (off := 86) (tgt := 241) (by decide) dX9_token_155 (snd_aload_n (pc := 241) (i := 0) dX9_token_241 (snd_dup (pc := 242) dX9_token_242 (snd_getf (pc := 243) cls9 (f := 8) (by decide) wd_1311 dX9_token_243 (snd_iconst (pc := 246) dX9_token_246 (snd_iadd (pc := 247) dX9_token_247 (snd_putf (pc := 248) cls9 (f := 8) (by decide) rfl rfl rfl wd_1311 dX9_token_248 (snd_aload_n (pc := 251) (i := 0) dX9_token_251 (snd_iload_n (pc := 252) (i := 1) dX9_token_252 (snd_bipush (pc := 253) (by decide) dX9_token_253 (snd_icmpne (pc := 255) (off := 7) (tgt := 262) (by decide) dX9_token_255 (snd_iconst (pc := 262) dX9_token_262 (snd_putf (pc := 263) cls9 (f := 11) (by decide) rfl rfl rfl wd_1314 dX9_token_263 (snd_return dX9_token_266))) (snd_iconst (pc := 258) dX9_token_258 (snd_goto (pc := 259) (off := 4) (tgt := 263) (by decide) dX9_token_259 (snd_putf (pc := 263) cls9 (f := 11) (by decide) rfl rfl rfl wd_1314 dX9_token_263 (snd_return dX9_token_266)))))))))))))) (snd_aload_n (pc := 158) (i := 0) dX9_token_158 (snd_iconst (pc := 159) dX9_token_159 (snd_putf (pc := 160) cls9 (f := 12) (by decide) rfl rfl rfl wd_1315 dX9_token_160 ((sk_X9_token_163 F F)))))))))) ((sk_X9_token_74 F F))))))) (snd_aload_n (pc := 55) (i := 0) dX9_token_55 (snd_iconst (pc := 56) dX9_token_56 (snd_putf (pc := 57) cls9 (f := 11) (by decide) rfl rfl rfl wd_1314 dX9_token_57 (snd_goto (pc := 60) (off := 206) (tgt := 266) (by decide) dX9_token_60 (snd_return dX9_token_266))))))))))))))))))) ((sk_X9_token_18 F ih)))))))))
noncomputable def k_X9_token (F : Nat) : AK := (k_X9_token_0 F F)
noncomputable def m_X9_token (F : Nat) : AF := mkF 0 3 (k_X9_token F)
set_option maxRecDepth 20000 in
theorem s_X9_token (F : Nat) : MA yX9_token cX9_token 3 none 1 (m_X9_token F) := met_of (Or.inl ⟨rfl, rfl⟩) (by decide) (by
  unfold k_X9_token
  exact (sk_X9_token_0 F F))

/-! LastWalkerModel.stops()Z -/
theorem dX9_stops_0 : decode cX9_stops 0 = .ok (.aload_n 0, 1) := by decide +kernel
theorem dX9_stops_1 : decode cX9_stops 1 = .ok (.aload_n 0, 1) := by decide +kernel
theorem dX9_stops_2 : decode cX9_stops 2 = .ok (.getfield 138, 3) := by decide +kernel
theorem dX9_stops_5 : decode cX9_stops 5 = .ok (.putfield 151, 3) := by decide +kernel
theorem dX9_stops_8 : decode cX9_stops 8 = .ok (.iconst 0, 1) := by decide +kernel
theorem dX9_stops_9 : decode cX9_stops 9 = .ok (.ireturn, 1) := by decide +kernel
noncomputable def k_X9_stops (F : Nat) : AK := ak_aload 0 (ak_aload 0 (ak_getf 9 10 (ak_putf 9 14 (ak_push (vI 0) ak_ireturn))))
noncomputable def m_X9_stops (F : Nat) : AF := mkF 2 1 (k_X9_stops F)
set_option maxRecDepth 20000 in
theorem s_X9_stops (F : Nat) : MA yX9_stops cX9_stops 1 (some .boolean) 0 (m_X9_stops F) := met_of (Or.inr (Or.inr (Or.inl ⟨rfl, rfl⟩))) (by decide) (by
  unfold k_X9_stops
  exact snd_aload_n (pc := 0) (i := 0) dX9_stops_0 (snd_aload_n (pc := 1) (i := 0) dX9_stops_1 (snd_getf (pc := 2) cls9 (f := 10) (by decide) wd_1313 dX9_stops_2 (snd_putf (pc := 5) cls9 (f := 14) (by decide) rfl rfl rfl wd_1317 dX9_stops_5 (snd_iconst (pc := 8) dX9_stops_8 (snd_ireturn dX9_stops_9))))))

/-! LastWalkerModel.later(II)V -/
theorem dX9_later_0 : decode cX9_later 0 = .ok (.aload_n 0, 1) := by decide +kernel
theorem dX9_later_1 : decode cX9_later 1 = .ok (.getfield 154, 3) := by decide +kernel
theorem dX9_later_4 : decode cX9_later 4 = .ok (.ifCond .eq 27, 3) := by decide +kernel
theorem dX9_later_7 : decode cX9_later 7 = .ok (.iload_n 2, 1) := by decide +kernel
theorem dX9_later_8 : decode cX9_later 8 = .ok (.aload_n 0, 1) := by decide +kernel
theorem dX9_later_9 : decode cX9_later 9 = .ok (.getfield 157, 3) := by decide +kernel
theorem dX9_later_12 : decode cX9_later 12 = .ok (.if_icmp .lt 19, 3) := by decide +kernel
theorem dX9_later_15 : decode cX9_later 15 = .ok (.iload_n 2, 1) := by decide +kernel
theorem dX9_later_16 : decode cX9_later 16 = .ok (.aload_n 0, 1) := by decide +kernel
theorem dX9_later_17 : decode cX9_later 17 = .ok (.getfield 157, 3) := by decide +kernel
theorem dX9_later_20 : decode cX9_later 20 = .ok (.if_icmp .ne 21, 3) := by decide +kernel
theorem dX9_later_23 : decode cX9_later 23 = .ok (.iload_n 1, 1) := by decide +kernel
theorem dX9_later_24 : decode cX9_later 24 = .ok (.aload_n 0, 1) := by decide +kernel
theorem dX9_later_25 : decode cX9_later 25 = .ok (.getfield 154, 3) := by decide +kernel
theorem dX9_later_28 : decode cX9_later 28 = .ok (.if_icmp .ge 13, 3) := by decide +kernel
theorem dX9_later_31 : decode cX9_later 31 = .ok (.aload_n 0, 1) := by decide +kernel
theorem dX9_later_32 : decode cX9_later 32 = .ok (.iload_n 1, 1) := by decide +kernel
theorem dX9_later_33 : decode cX9_later 33 = .ok (.putfield 154, 3) := by decide +kernel
theorem dX9_later_36 : decode cX9_later 36 = .ok (.aload_n 0, 1) := by decide +kernel
theorem dX9_later_37 : decode cX9_later 37 = .ok (.iload_n 2, 1) := by decide +kernel
theorem dX9_later_38 : decode cX9_later 38 = .ok (.putfield 157, 3) := by decide +kernel
theorem dX9_later_41 : decode cX9_later 41 = .ok (.return_, 1) := by decide +kernel
noncomputable def k_X9_later_31 (F : Nat) : AK := ak_aload 0 (ak_iload 1 (ak_putf 9 15 (ak_aload 0 (ak_iload 2 (ak_putf 9 16 ak_return)))))
set_option maxRecDepth 20000 in
theorem sk_X9_later_31 (F : Nat) : Snd X0 RX9 cX9_later 3 0 31 (k_X9_later_31 F) := by
  unfold k_X9_later_31
  exact snd_aload_n (pc := 31) (i := 0) dX9_later_31 (snd_iload_n (pc := 32) (i := 1) dX9_later_32 (snd_putf (pc := 33) cls9 (f := 15) (by decide) rfl rfl rfl wd_1318 dX9_later_33 (snd_aload_n (pc := 36) (i := 0) dX9_later_36 (snd_iload_n (pc := 37) (i := 2) dX9_later_37 (snd_putf (pc := 38) cls9 (f := 16) (by decide) rfl rfl rfl wd_1319 dX9_later_38 (snd_return dX9_later_41))))))
noncomputable def k_X9_later (F : Nat) : AK := ak_aload 0 (ak_getf 9 15 (ak_ifeq ((k_X9_later_31 F)) (ak_iload 2 (ak_aload 0 (ak_getf 9 16 (ak_cmplt ((k_X9_later_31 F)) (ak_iload 2 (ak_aload 0 (ak_getf 9 16 (ak_cmpeq (ak_iload 1 (ak_aload 0 (ak_getf 9 15 (ak_cmplt ((k_X9_later_31 F)) (ak_return))))) (ak_return)))))))))))
noncomputable def m_X9_later (F : Nat) : AF := mkF 0 3 (k_X9_later F)
set_option maxRecDepth 20000 in
theorem s_X9_later (F : Nat) : MA yX9_later cX9_later 3 none 0 (m_X9_later F) := met_of (Or.inl ⟨rfl, rfl⟩) (by decide) (by
  unfold k_X9_later
  exact snd_aload_n (pc := 0) (i := 0) dX9_later_0 (snd_getf (pc := 1) cls9 (f := 15) (by decide) wd_1318 dX9_later_1 (snd_ifeq (pc := 4) (off := 27) (tgt := 31) (by decide) dX9_later_4 ((sk_X9_later_31 F)) (snd_iload_n (pc := 7) (i := 2) dX9_later_7 (snd_aload_n (pc := 8) (i := 0) dX9_later_8 (snd_getf (pc := 9) cls9 (f := 16) (by decide) wd_1319 dX9_later_9 (snd_icmplt (pc := 12) (off := 19) (tgt := 31) (by decide) dX9_later_12 ((sk_X9_later_31 F)) (snd_iload_n (pc := 15) (i := 2) dX9_later_15 (snd_aload_n (pc := 16) (i := 0) dX9_later_16 (snd_getf (pc := 17) cls9 (f := 16) (by decide) wd_1319 dX9_later_17 (snd_icmpne (pc := 20) (off := 21) (tgt := 41) (by decide) dX9_later_20 (snd_return dX9_later_41) (snd_iload_n (pc := 23) (i := 1) dX9_later_23 (snd_aload_n (pc := 24) (i := 0) dX9_later_24 (snd_getf (pc := 25) cls9 (f := 15) (by decide) wd_1318 dX9_later_25 (snd_icmpge (pc := 28) (off := 13) (tgt := 41) (by decide) dX9_later_28 (snd_return dX9_later_41) ((sk_X9_later_31 F)))))))))))))))))

/-! LastWalkerModel.take(IIII)Z -/
theorem dX9_take_0 : decode cX9_take 0 = .ok (.aload_n 0, 1) := by decide +kernel
theorem dX9_take_1 : decode cX9_take 1 = .ok (.getfield 145, 3) := by decide +kernel
theorem dX9_take_4 : decode cX9_take 4 = .ok (.iconst 3, 1) := by decide +kernel
theorem dX9_take_5 : decode cX9_take 5 = .ok (.if_icmp .eq 8, 3) := by decide +kernel
theorem dX9_take_8 : decode cX9_take 8 = .ok (.aload_n 0, 1) := by decide +kernel
theorem dX9_take_9 : decode cX9_take 9 = .ok (.invokevirtual 160, 3) := by decide +kernel
theorem dX9_take_12 : decode cX9_take 12 = .ok (.ireturn, 1) := by decide +kernel
theorem dX9_take_13 : decode cX9_take 13 = .ok (.aload_n 0, 1) := by decide +kernel
theorem dX9_take_14 : decode cX9_take 14 = .ok (.getfield 35, 3) := by decide +kernel
theorem dX9_take_17 : decode cX9_take 17 = .ok (.iload_n 1, 1) := by decide +kernel
theorem dX9_take_18 : decode cX9_take 18 = .ok (.aload_n 0, 1) := by decide +kernel
theorem dX9_take_19 : decode cX9_take 19 = .ok (.getfield 148, 3) := by decide +kernel
theorem dX9_take_22 : decode cX9_take 22 = .ok (.iastore, 1) := by decide +kernel
theorem dX9_take_23 : decode cX9_take 23 = .ok (.aload_n 0, 1) := by decide +kernel
theorem dX9_take_24 : decode cX9_take 24 = .ok (.getfield 148, 3) := by decide +kernel
theorem dX9_take_27 : decode cX9_take 27 = .ok (.iload_n 2, 1) := by decide +kernel
theorem dX9_take_28 : decode cX9_take 28 = .ok (.iload_n 3, 1) := by decide +kernel
theorem dX9_take_29 : decode cX9_take 29 = .ok (.invokestatic 120, 3) := by decide +kernel
theorem dX9_take_32 : decode cX9_take 32 = .ok (.ifCond .eq 12, 3) := by decide +kernel
theorem dX9_take_35 : decode cX9_take 35 = .ok (.aload_n 0, 1) := by decide +kernel
theorem dX9_take_36 : decode cX9_take 36 = .ok (.getfield 148, 3) := by decide +kernel
theorem dX9_take_39 : decode cX9_take 39 = .ok (.iload 4, 2) := by decide +kernel
theorem dX9_take_41 : decode cX9_take 41 = .ok (.if_icmp .ne 17, 3) := by decide +kernel
theorem dX9_take_44 : decode cX9_take 44 = .ok (.aload_n 0, 1) := by decide +kernel
theorem dX9_take_45 : decode cX9_take 45 = .ok (.iconst 2, 1) := by decide +kernel
theorem dX9_take_46 : decode cX9_take 46 = .ok (.aload_n 0, 1) := by decide +kernel
theorem dX9_take_47 : decode cX9_take 47 = .ok (.getfield 138, 3) := by decide +kernel
theorem dX9_take_50 : decode cX9_take 50 = .ok (.invokevirtual 164, 3) := by decide +kernel
theorem dX9_take_53 : decode cX9_take 53 = .ok (.aload_n 0, 1) := by decide +kernel
theorem dX9_take_54 : decode cX9_take 54 = .ok (.iconst 0, 1) := by decide +kernel
theorem dX9_take_55 : decode cX9_take 55 = .ok (.putfield 168, 3) := by decide +kernel
theorem dX9_take_58 : decode cX9_take 58 = .ok (.aload_n 0, 1) := by decide +kernel
theorem dX9_take_59 : decode cX9_take 59 = .ok (.invokevirtual 172, 3) := by decide +kernel
theorem dX9_take_62 : decode cX9_take 62 = .ok (.iconst 1, 1) := by decide +kernel
theorem dX9_take_63 : decode cX9_take 63 = .ok (.ireturn, 1) := by decide +kernel
noncomputable def k_X9_take_58 (F : Nat) : AK := ak_aload 0 (ak_callv 9 0 (m_X9_token F) (ak_push (vI 1) ak_ireturn))
set_option maxRecDepth 20000 in
theorem sk_X9_take_58 (F : Nat) : Snd X0 RX9 cX9_take 5 2 58 (k_X9_take_58 F) := by
  unfold k_X9_take_58
  exact snd_aload_n (pc := 58) (i := 0) dX9_take_58 (snd_callV (pc := 59) (n := 0) cls9 (s_X9_token F) (by decide) (by decide) wd_1523 wd_1520 wd_1522 wd_54 wd_129 hy_X9_token dX9_take_59 (snd_iconst (pc := 62) dX9_take_62 (snd_ireturn dX9_take_63)))
noncomputable def k_X9_take_44 (F : Nat) : AK := ak_aload 0 (ak_push (vI 2) (ak_aload 0 (ak_getf 9 10 (ak_callv 9 2 (m_X9_later F) (ak_aload 0 (ak_push (vI 0) (ak_putz 9 17 ((k_X9_take_58 F)))))))))
set_option maxRecDepth 20000 in
theorem sk_X9_take_44 (F : Nat) : Snd X0 RX9 cX9_take 5 2 44 (k_X9_take_44 F) := by
  unfold k_X9_take_44
  exact snd_aload_n (pc := 44) (i := 0) dX9_take_44 (snd_iconst (pc := 45) dX9_take_45 (snd_aload_n (pc := 46) (i := 0) dX9_take_46 (snd_getf (pc := 47) cls9 (f := 10) (by decide) wd_1313 dX9_take_47 (snd_callV (pc := 50) (n := 2) cls9 (s_X9_later F) (by decide) (by decide) wd_1555 wd_1552 wd_1554 wd_59 wd_129 hy_X9_later dX9_take_50 (snd_aload_n (pc := 53) (i := 0) dX9_take_53 (snd_iconst (pc := 54) dX9_take_54 (snd_putz (pc := 55) cls9 (f := 17) (by decide) rfl rfl rfl wd_1320 dX9_take_55 ((sk_X9_take_58 F)))))))))
noncomputable def k_X9_take (F : Nat) : AK := ak_aload 0 (ak_getf 9 11 (ak_push (vI 3) (ak_cmpeq (ak_aload 0 (ak_getf 9 19 (ak_iload 1 (ak_aload 0 (ak_getf 9 12 (ak_iast (ak_aload 0 (ak_getf 9 12 (ak_iload 2 (ak_iload 3 (ak_call 3 (m_X9_in F) (ak_ifeq ((k_X9_take_44 F)) (ak_aload 0 (ak_getf 9 12 (ak_iload 4 (ak_cmpeq ((k_X9_take_44 F)) ((k_X9_take_58 F)))))))))))))))))) (ak_aload 0 (ak_callv 9 0 (m_X9_stops F) ak_ireturn)))))
noncomputable def m_X9_take (F : Nat) : AF := mkF 2 5 (k_X9_take F)
set_option maxRecDepth 20000 in
theorem s_X9_take (F : Nat) : MA yX9_take cX9_take 5 (some .boolean) 2 (m_X9_take F) := met_of (Or.inr (Or.inr (Or.inl ⟨rfl, rfl⟩))) (by decide) (by
  unfold k_X9_take
  exact snd_aload_n (pc := 0) (i := 0) dX9_take_0 (snd_getf (pc := 1) cls9 (f := 11) (by decide) wd_1314 dX9_take_1 (snd_iconst (pc := 4) dX9_take_4 (snd_icmpeq (pc := 5) (off := 8) (tgt := 13) (by decide) dX9_take_5 (snd_aload_n (pc := 13) (i := 0) dX9_take_13 (snd_getf (pc := 14) cls9 (f := 19) (by decide) wd_1322 dX9_take_14 (snd_iload_n (pc := 17) (i := 1) dX9_take_17 (snd_aload_n (pc := 18) (i := 0) dX9_take_18 (snd_getf (pc := 19) cls9 (f := 12) (by decide) wd_1315 dX9_take_19 (snd_iast (pc := 22) dX9_take_22 (snd_aload_n (pc := 23) (i := 0) dX9_take_23 (snd_getf (pc := 24) cls9 (f := 12) (by decide) wd_1315 dX9_take_24 (snd_iload_n (pc := 27) (i := 2) dX9_take_27 (snd_iload_n (pc := 28) (i := 3) dX9_take_28 (snd_callS (pc := 29) (n := 3) (s_X9_in F) (by decide) (by decide) wd_1511 wd_1509 wd_1510 wd_129 hy_X9_in dX9_take_29 (snd_ifeq (pc := 32) (off := 12) (tgt := 44) (by decide) dX9_take_32 ((sk_X9_take_44 F)) (snd_aload_n (pc := 35) (i := 0) dX9_take_35 (snd_getf (pc := 36) cls9 (f := 12) (by decide) wd_1315 dX9_take_36 (snd_iload (pc := 39) (i := 4) dX9_take_39 (snd_icmpne (pc := 41) (off := 17) (tgt := 58) (by decide) dX9_take_41 ((sk_X9_take_58 F)) ((sk_X9_take_44 F)))))))))))))))))) (snd_aload_n (pc := 8) (i := 0) dX9_take_8 (snd_callV (pc := 9) (n := 0) cls9 (s_X9_stops F) (by decide) (by decide) wd_1547 wd_1544 wd_1546 wd_57 wd_129 hy_X9_stops dX9_take_9 (snd_ireturn dX9_take_12)))))))

/-! LastWalkerModel.placed(II)Z -/
theorem dX9_placed_0 : decode cX9_placed 0 = .ok (.aload_n 0, 1) := by decide +kernel
theorem dX9_placed_1 : decode cX9_placed 1 = .ok (.iload_n 1, 1) := by decide +kernel
theorem dX9_placed_2 : decode cX9_placed 2 = .ok (.iconst 0, 1) := by decide +kernel
theorem dX9_placed_3 : decode cX9_placed 3 = .ok (.bipush 8, 2) := by decide +kernel
theorem dX9_placed_5 : decode cX9_placed 5 = .ok (.iload_n 2, 1) := by decide +kernel
theorem dX9_placed_6 : decode cX9_placed 6 = .ok (.invokevirtual 175, 3) := by decide +kernel
theorem dX9_placed_9 : decode cX9_placed 9 = .ok (.istore_n 3, 1) := by decide +kernel
theorem dX9_placed_10 : decode cX9_placed 10 = .ok (.aload_n 0, 1) := by decide +kernel
theorem dX9_placed_11 : decode cX9_placed 11 = .ok (.iload_n 3, 1) := by decide +kernel
theorem dX9_placed_12 : decode cX9_placed 12 = .ok (.ifCond .eq 25, 3) := by decide +kernel
theorem dX9_placed_15 : decode cX9_placed 15 = .ok (.aload_n 0, 1) := by decide +kernel
theorem dX9_placed_16 : decode cX9_placed 16 = .ok (.getfield 35, 3) := by decide +kernel
theorem dX9_placed_19 : decode cX9_placed 19 = .ok (.iload_n 1, 1) := by decide +kernel
theorem dX9_placed_20 : decode cX9_placed 20 = .ok (.iaload, 1) := by decide +kernel
theorem dX9_placed_21 : decode cX9_placed 21 = .ok (.aload_n 0, 1) := by decide +kernel
theorem dX9_placed_22 : decode cX9_placed 22 = .ok (.getfield 179, 3) := by decide +kernel
theorem dX9_placed_25 : decode cX9_placed 25 = .ok (.if_icmp .le 12, 3) := by decide +kernel
theorem dX9_placed_28 : decode cX9_placed 28 = .ok (.aload_n 0, 1) := by decide +kernel
theorem dX9_placed_29 : decode cX9_placed 29 = .ok (.getfield 35, 3) := by decide +kernel
theorem dX9_placed_32 : decode cX9_placed 32 = .ok (.iload_n 1, 1) := by decide +kernel
theorem dX9_placed_33 : decode cX9_placed 33 = .ok (.iaload, 1) := by decide +kernel
theorem dX9_placed_34 : decode cX9_placed 34 = .ok (.goto 7, 3) := by decide +kernel
theorem dX9_placed_37 : decode cX9_placed 37 = .ok (.aload_n 0, 1) := by decide +kernel
theorem dX9_placed_38 : decode cX9_placed 38 = .ok (.getfield 179, 3) := by decide +kernel
theorem dX9_placed_41 : decode cX9_placed 41 = .ok (.putfield 179, 3) := by decide +kernel
theorem dX9_placed_44 : decode cX9_placed 44 = .ok (.iload_n 3, 1) := by decide +kernel
theorem dX9_placed_45 : decode cX9_placed 45 = .ok (.ireturn, 1) := by decide +kernel
noncomputable def k_X9_placed_37 (F : Nat) : AK := ak_aload 0 (ak_getf 9 20 (ak_putf 9 20 (ak_iload 3 ak_ireturn)))
set_option maxRecDepth 20000 in
theorem sk_X9_placed_37 (F : Nat) : Snd X0 RX9 cX9_placed 4 3 37 (k_X9_placed_37 F) := by
  unfold k_X9_placed_37
  exact snd_aload_n (pc := 37) (i := 0) dX9_placed_37 (snd_getf (pc := 38) cls9 (f := 20) (by decide) wd_1323 dX9_placed_38 (snd_putf (pc := 41) cls9 (f := 20) (by decide) rfl rfl rfl wd_1323 dX9_placed_41 (snd_iload_n (pc := 44) (i := 3) dX9_placed_44 (snd_ireturn dX9_placed_45))))
noncomputable def k_X9_placed (F : Nat) : AK := ak_aload 0 (ak_iload 1 (ak_push (vI 0) (ak_push (vI 8) (ak_iload 2 (ak_callv 9 4 (m_X9_take F) (ak_istore 3 (ak_aload 0 (ak_iload 3 (ak_ifeq ((k_X9_placed_37 F)) (ak_aload 0 (ak_getf 9 19 (ak_iload 1 (ak_iald (ak_aload 0 (ak_getf 9 20 (ak_cmpgt (ak_aload 0 (ak_getf 9 19 (ak_iload 1 (ak_iald (ak_putf 9 20 (ak_iload 3 ak_ireturn)))))) ((k_X9_placed_37 F))))))))))))))))))
noncomputable def m_X9_placed (F : Nat) : AF := mkF 2 4 (k_X9_placed F)
set_option maxRecDepth 20000 in
theorem s_X9_placed (F : Nat) : MA yX9_placed cX9_placed 4 (some .boolean) 3 (m_X9_placed F) := met_of (Or.inr (Or.inr (Or.inl ⟨rfl, rfl⟩))) (by decide) (by
  unfold k_X9_placed
  exact snd_aload_n (pc := 0) (i := 0) dX9_placed_0 (snd_iload_n (pc := 1) (i := 1) dX9_placed_1 (snd_iconst (pc := 2) dX9_placed_2 (snd_bipush (pc := 3) (by decide) dX9_placed_3 (snd_iload_n (pc := 5) (i := 2) dX9_placed_5 (snd_callV (pc := 6) (n := 4) cls9 (s_X9_take F) (by decide) (by decide) wd_1551 wd_1548 wd_1550 wd_58 wd_129 hy_X9_take dX9_placed_6 (snd_istore_n (pc := 9) (i := 3) (by decide) dX9_placed_9 (snd_aload_n (pc := 10) (i := 0) dX9_placed_10 (snd_iload_n (pc := 11) (i := 3) dX9_placed_11 (snd_ifeq (pc := 12) (off := 25) (tgt := 37) (by decide) dX9_placed_12 ((sk_X9_placed_37 F)) (snd_aload_n (pc := 15) (i := 0) dX9_placed_15 (snd_getf (pc := 16) cls9 (f := 19) (by decide) wd_1322 dX9_placed_16 (snd_iload_n (pc := 19) (i := 1) dX9_placed_19 (snd_iald (pc := 20) dX9_placed_20 (snd_aload_n (pc := 21) (i := 0) dX9_placed_21 (snd_getf (pc := 22) cls9 (f := 20) (by decide) wd_1323 dX9_placed_22 (snd_icmple (pc := 25) (off := 12) (tgt := 37) (by decide) dX9_placed_25 ((sk_X9_placed_37 F)) (snd_aload_n (pc := 28) (i := 0) dX9_placed_28 (snd_getf (pc := 29) cls9 (f := 19) (by decide) wd_1322 dX9_placed_29 (snd_iload_n (pc := 32) (i := 1) dX9_placed_32 (snd_iald (pc := 33) dX9_placed_33 (snd_goto (pc := 34) (off := 7) (tgt := 41) (by decide) dX9_placed_34 (snd_putf (pc := 41) cls9 (f := 20) (by decide) rfl rfl rfl wd_1323 dX9_placed_41 (snd_iload_n (pc := 44) (i := 3) dX9_placed_44 (snd_ireturn dX9_placed_45)))))))))))))))))))))))))

/-! LastWalkerModel.lay4(IIIII)V -/
theorem dX9_lay4_0 : decode cX9_lay4 0 = .ok (.aload_n 0, 1) := by decide +kernel
theorem dX9_lay4_1 : decode cX9_lay4 1 = .ok (.getfield 32, 3) := by decide +kernel
theorem dX9_lay4_4 : decode cX9_lay4 4 = .ok (.iload_n 1, 1) := by decide +kernel
theorem dX9_lay4_5 : decode cX9_lay4 5 = .ok (.iaload, 1) := by decide +kernel
theorem dX9_lay4_6 : decode cX9_lay4 6 = .ok (.istore 6, 2) := by decide +kernel
theorem dX9_lay4_8 : decode cX9_lay4 8 = .ok (.iload 6, 2) := by decide +kernel
theorem dX9_lay4_10 : decode cX9_lay4 10 = .ok (.iload_n 2, 1) := by decide +kernel
theorem dX9_lay4_11 : decode cX9_lay4 11 = .ok (.if_icmp .ge 51, 3) := by decide +kernel
theorem dX9_lay4_14 : decode cX9_lay4 14 = .ok (.iconst 0, 1) := by decide +kernel
theorem dX9_lay4_15 : decode cX9_lay4 15 = .ok (.istore 7, 2) := by decide +kernel
theorem dX9_lay4_17 : decode cX9_lay4 17 = .ok (.iload 7, 2) := by decide +kernel
theorem dX9_lay4_19 : decode cX9_lay4 19 = .ok (.iload 5, 2) := by decide +kernel
theorem dX9_lay4_21 : decode cX9_lay4 21 = .ok (.if_icmp .ge 31, 3) := by decide +kernel
theorem dX9_lay4_24 : decode cX9_lay4 24 = .ok (.aload_n 0, 1) := by decide +kernel
theorem dX9_lay4_25 : decode cX9_lay4 25 = .ok (.getfield 32, 3) := by decide +kernel
theorem dX9_lay4_28 : decode cX9_lay4 28 = .ok (.iload_n 3, 1) := by decide +kernel
theorem dX9_lay4_29 : decode cX9_lay4 29 = .ok (.iload 4, 2) := by decide +kernel
theorem dX9_lay4_31 : decode cX9_lay4 31 = .ok (.iload 6, 2) := by decide +kernel
theorem dX9_lay4_33 : decode cX9_lay4 33 = .ok (.imul, 1) := by decide +kernel
theorem dX9_lay4_34 : decode cX9_lay4 34 = .ok (.iadd, 1) := by decide +kernel
theorem dX9_lay4_35 : decode cX9_lay4 35 = .ok (.iload 7, 2) := by decide +kernel
theorem dX9_lay4_37 : decode cX9_lay4 37 = .ok (.iadd, 1) := by decide +kernel
theorem dX9_lay4_38 : decode cX9_lay4 38 = .ok (.aload_n 0, 1) := by decide +kernel
theorem dX9_lay4_39 : decode cX9_lay4 39 = .ok (.getfield 35, 3) := by decide +kernel
theorem dX9_lay4_42 : decode cX9_lay4 42 = .ok (.iload 7, 2) := by decide +kernel
theorem dX9_lay4_44 : decode cX9_lay4 44 = .ok (.iaload, 1) := by decide +kernel
theorem dX9_lay4_45 : decode cX9_lay4 45 = .ok (.iastore, 1) := by decide +kernel
theorem dX9_lay4_46 : decode cX9_lay4 46 = .ok (.iinc 7 1, 3) := by decide +kernel
theorem dX9_lay4_49 : decode cX9_lay4 49 = .ok (.goto (-32), 3) := by decide +kernel
theorem dX9_lay4_52 : decode cX9_lay4 52 = .ok (.aload_n 0, 1) := by decide +kernel
theorem dX9_lay4_53 : decode cX9_lay4 53 = .ok (.getfield 32, 3) := by decide +kernel
theorem dX9_lay4_56 : decode cX9_lay4 56 = .ok (.iload_n 1, 1) := by decide +kernel
theorem dX9_lay4_57 : decode cX9_lay4 57 = .ok (.dup2, 1) := by decide +kernel
theorem dX9_lay4_58 : decode cX9_lay4 58 = .ok (.iaload, 1) := by decide +kernel
theorem dX9_lay4_59 : decode cX9_lay4 59 = .ok (.iconst 1, 1) := by decide +kernel
theorem dX9_lay4_60 : decode cX9_lay4 60 = .ok (.iadd, 1) := by decide +kernel
theorem dX9_lay4_61 : decode cX9_lay4 61 = .ok (.iastore, 1) := by decide +kernel
theorem dX9_lay4_62 : decode cX9_lay4 62 = .ok (.return_, 1) := by decide +kernel
noncomputable def kb_X9_lay4_17 (F : Nat) (self : AK) : AK := ak_iload 7 (ak_iload 5 (ak_cmplt (ak_aload 0 (ak_getf 9 18 (ak_iload 3 (ak_iload 4 (ak_iload 6 (ak_imul (ak_iadd (ak_iload 7 (ak_iadd (ak_aload 0 (ak_getf 9 19 (ak_iload 7 (ak_iald (ak_iast (ak_iinc 7 1 self))))))))))))))) (ak_aload 0 (ak_getf 9 18 (ak_iload 1 (ak_dup2 (ak_iald (ak_push (vI 1) (ak_iadd (ak_iast ak_return))))))))))
noncomputable def k_X9_lay4_17 (F : Nat) (n : Nat) : AK := Nat.rec (motive := fun _ => AK) ak_none (fun _ self => kb_X9_lay4_17 F self) n
set_option maxRecDepth 20000 in
theorem sk_X9_lay4_17 (F : Nat) : ∀ n, Snd X0 RX9 cX9_lay4 8 0 17 (k_X9_lay4_17 F n) := by
  intro n
  induction n with
  | zero => exact snd_none
  | succ n ih =>
    show Snd X0 RX9 cX9_lay4 8 0 17 (kb_X9_lay4_17 F (k_X9_lay4_17 F n))
    unfold kb_X9_lay4_17
    exact snd_iload (pc := 17) (i := 7) dX9_lay4_17 (snd_iload (pc := 19) (i := 5) dX9_lay4_19 (snd_icmpge (pc := 21) (off := 31) (tgt := 52) (by decide) dX9_lay4_21 (snd_aload_n (pc := 52) (i := 0) dX9_lay4_52 (snd_getf (pc := 53) cls9 (f := 18) (by decide) wd_1321 dX9_lay4_53 (snd_iload_n (pc := 56) (i := 1) dX9_lay4_56 (snd_dup2 (pc := 57) dX9_lay4_57 (snd_iald (pc := 58) dX9_lay4_58 (snd_iconst (pc := 59) dX9_lay4_59 (snd_iadd (pc := 60) dX9_lay4_60 (snd_iast (pc := 61) dX9_lay4_61 (snd_return dX9_lay4_62))))))))) (snd_aload_n (pc := 24) (i := 0) dX9_lay4_24 (snd_getf (pc := 25) cls9 (f := 18) (by decide) wd_1321 dX9_lay4_25 (snd_iload_n (pc := 28) (i := 3) dX9_lay4_28 (snd_iload (pc := 29) (i := 4) dX9_lay4_29 (snd_iload (pc := 31) (i := 6) dX9_lay4_31 (snd_imul (pc := 33) dX9_lay4_33 (snd_iadd (pc := 34) dX9_lay4_34 (snd_iload (pc := 35) (i := 7) dX9_lay4_35 (snd_iadd (pc := 37) dX9_lay4_37 (snd_aload_n (pc := 38) (i := 0) dX9_lay4_38 (snd_getf (pc := 39) cls9 (f := 19) (by decide) wd_1322 dX9_lay4_39 (snd_iload (pc := 42) (i := 7) dX9_lay4_42 (snd_iald (pc := 44) dX9_lay4_44 (snd_iast (pc := 45) dX9_lay4_45 (snd_iinc (pc := 46) (i := 7) (n := 1) (by decide) dX9_lay4_46 (snd_goto (pc := 49) (off := (-32)) (tgt := 17) (by decide) dX9_lay4_49 (ih)))))))))))))))))))
noncomputable def k_X9_lay4 (F : Nat) : AK := ak_aload 0 (ak_getf 9 18 (ak_iload 1 (ak_iald (ak_istore 6 (ak_iload 6 (ak_iload 2 (ak_cmplt (ak_push (vI 0) (ak_istore 7 ((k_X9_lay4_17 F F)))) (ak_return))))))))
noncomputable def m_X9_lay4 (F : Nat) : AF := mkF 0 8 (k_X9_lay4 F)
set_option maxRecDepth 20000 in
theorem s_X9_lay4 (F : Nat) : MA yX9_lay4 cX9_lay4 8 none 0 (m_X9_lay4 F) := met_of (Or.inl ⟨rfl, rfl⟩) (by decide) (by
  unfold k_X9_lay4
  exact snd_aload_n (pc := 0) (i := 0) dX9_lay4_0 (snd_getf (pc := 1) cls9 (f := 18) (by decide) wd_1321 dX9_lay4_1 (snd_iload_n (pc := 4) (i := 1) dX9_lay4_4 (snd_iald (pc := 5) dX9_lay4_5 (snd_istore (pc := 6) (i := 6) (by decide) dX9_lay4_6 (snd_iload (pc := 8) (i := 6) dX9_lay4_8 (snd_iload_n (pc := 10) (i := 2) dX9_lay4_10 (snd_icmpge (pc := 11) (off := 51) (tgt := 62) (by decide) dX9_lay4_11 (snd_return dX9_lay4_62) (snd_iconst (pc := 14) dX9_lay4_14 (snd_istore (pc := 15) (i := 7) (by decide) dX9_lay4_15 ((sk_X9_lay4_17 F F))))))))))))

/-! LastWalkerModel.roadLine()Z -/
theorem dX9_roadLine_0 : decode cX9_roadLine 0 = .ok (.aload_n 0, 1) := by decide +kernel
theorem dX9_roadLine_1 : decode cX9_roadLine 1 = .ok (.iconst 0, 1) := by decide +kernel
theorem dX9_roadLine_2 : decode cX9_roadLine 2 = .ok (.iconst (-1), 1) := by decide +kernel
theorem dX9_roadLine_3 : decode cX9_roadLine 3 = .ok (.invokevirtual 216, 3) := by decide +kernel
theorem dX9_roadLine_6 : decode cX9_roadLine 6 = .ok (.ifCond .eq 41, 3) := by decide +kernel
theorem dX9_roadLine_9 : decode cX9_roadLine 9 = .ok (.aload_n 0, 1) := by decide +kernel
theorem dX9_roadLine_10 : decode cX9_roadLine 10 = .ok (.iconst 1, 1) := by decide +kernel
theorem dX9_roadLine_11 : decode cX9_roadLine 11 = .ok (.aload_n 0, 1) := by decide +kernel
theorem dX9_roadLine_12 : decode cX9_roadLine 12 = .ok (.getfield 35, 3) := by decide +kernel
theorem dX9_roadLine_15 : decode cX9_roadLine 15 = .ok (.iconst 0, 1) := by decide +kernel
theorem dX9_roadLine_16 : decode cX9_roadLine 16 = .ok (.iaload, 1) := by decide +kernel
theorem dX9_roadLine_17 : decode cX9_roadLine 17 = .ok (.invokevirtual 216, 3) := by decide +kernel
theorem dX9_roadLine_20 : decode cX9_roadLine 20 = .ok (.ifCond .eq 27, 3) := by decide +kernel
theorem dX9_roadLine_23 : decode cX9_roadLine 23 = .ok (.aload_n 0, 1) := by decide +kernel
theorem dX9_roadLine_24 : decode cX9_roadLine 24 = .ok (.iconst 2, 1) := by decide +kernel
theorem dX9_roadLine_25 : decode cX9_roadLine 25 = .ok (.iconst 1, 1) := by decide +kernel
theorem dX9_roadLine_26 : decode cX9_roadLine 26 = .ok (.bipush 30, 2) := by decide +kernel
theorem dX9_roadLine_28 : decode cX9_roadLine 28 = .ok (.iconst (-1), 1) := by decide +kernel
theorem dX9_roadLine_29 : decode cX9_roadLine 29 = .ok (.invokevirtual 175, 3) := by decide +kernel
theorem dX9_roadLine_32 : decode cX9_roadLine 32 = .ok (.ifCond .eq 15, 3) := by decide +kernel
theorem dX9_roadLine_35 : decode cX9_roadLine 35 = .ok (.aload_n 0, 1) := by decide +kernel
theorem dX9_roadLine_36 : decode cX9_roadLine 36 = .ok (.iconst 3, 1) := by decide +kernel
theorem dX9_roadLine_37 : decode cX9_roadLine 37 = .ok (.iconst 0, 1) := by decide +kernel
theorem dX9_roadLine_38 : decode cX9_roadLine 38 = .ok (.bipush 99, 2) := by decide +kernel
theorem dX9_roadLine_40 : decode cX9_roadLine 40 = .ok (.iconst (-1), 1) := by decide +kernel
theorem dX9_roadLine_41 : decode cX9_roadLine 41 = .ok (.invokevirtual 175, 3) := by decide +kernel
theorem dX9_roadLine_44 : decode cX9_roadLine 44 = .ok (.ifCond .ne 5, 3) := by decide +kernel
theorem dX9_roadLine_47 : decode cX9_roadLine 47 = .ok (.iconst 0, 1) := by decide +kernel
theorem dX9_roadLine_48 : decode cX9_roadLine 48 = .ok (.ireturn, 1) := by decide +kernel
theorem dX9_roadLine_49 : decode cX9_roadLine 49 = .ok (.aload_n 0, 1) := by decide +kernel
theorem dX9_roadLine_50 : decode cX9_roadLine 50 = .ok (.getfield 32, 3) := by decide +kernel
theorem dX9_roadLine_53 : decode cX9_roadLine 53 = .ok (.iconst 1, 1) := by decide +kernel
theorem dX9_roadLine_54 : decode cX9_roadLine 54 = .ok (.iaload, 1) := by decide +kernel
theorem dX9_roadLine_55 : decode cX9_roadLine 55 = .ok (.bipush 14, 2) := by decide +kernel
theorem dX9_roadLine_57 : decode cX9_roadLine 57 = .ok (.if_icmp .ge 48, 3) := by decide +kernel
theorem dX9_roadLine_60 : decode cX9_roadLine 60 = .ok (.bipush 6, 2) := by decide +kernel
theorem dX9_roadLine_62 : decode cX9_roadLine 62 = .ok (.bipush 11, 2) := by decide +kernel
theorem dX9_roadLine_64 : decode cX9_roadLine 64 = .ok (.aload_n 0, 1) := by decide +kernel
theorem dX9_roadLine_65 : decode cX9_roadLine 65 = .ok (.getfield 32, 3) := by decide +kernel
theorem dX9_roadLine_68 : decode cX9_roadLine 68 = .ok (.iconst 1, 1) := by decide +kernel
theorem dX9_roadLine_69 : decode cX9_roadLine 69 = .ok (.iaload, 1) := by decide +kernel
theorem dX9_roadLine_70 : decode cX9_roadLine 70 = .ok (.imul, 1) := by decide +kernel
theorem dX9_roadLine_71 : decode cX9_roadLine 71 = .ok (.iadd, 1) := by decide +kernel
theorem dX9_roadLine_72 : decode cX9_roadLine 72 = .ok (.istore_n 1, 1) := by decide +kernel
theorem dX9_roadLine_73 : decode cX9_roadLine 73 = .ok (.iconst 4, 1) := by decide +kernel
theorem dX9_roadLine_74 : decode cX9_roadLine 74 = .ok (.istore_n 2, 1) := by decide +kernel
theorem dX9_roadLine_75 : decode cX9_roadLine 75 = .ok (.iload_n 2, 1) := by decide +kernel
theorem dX9_roadLine_76 : decode cX9_roadLine 76 = .ok (.bipush 11, 2) := by decide +kernel
theorem dX9_roadLine_78 : decode cX9_roadLine 78 = .ok (.if_icmp .ge 27, 3) := by decide +kernel
theorem dX9_roadLine_81 : decode cX9_roadLine 81 = .ok (.aload_n 0, 1) := by decide +kernel
theorem dX9_roadLine_82 : decode cX9_roadLine 82 = .ok (.getfield 32, 3) := by decide +kernel
theorem dX9_roadLine_85 : decode cX9_roadLine 85 = .ok (.iload_n 1, 1) := by decide +kernel
theorem dX9_roadLine_86 : decode cX9_roadLine 86 = .ok (.iload_n 2, 1) := by decide +kernel
theorem dX9_roadLine_87 : decode cX9_roadLine 87 = .ok (.iadd, 1) := by decide +kernel
theorem dX9_roadLine_88 : decode cX9_roadLine 88 = .ok (.iload_n 2, 1) := by decide +kernel
theorem dX9_roadLine_89 : decode cX9_roadLine 89 = .ok (.iconst 4, 1) := by decide +kernel
theorem dX9_roadLine_90 : decode cX9_roadLine 90 = .ok (.if_icmp .ne 7, 3) := by decide +kernel
theorem dX9_roadLine_93 : decode cX9_roadLine 93 = .ok (.iconst (-1), 1) := by decide +kernel
theorem dX9_roadLine_94 : decode cX9_roadLine 94 = .ok (.goto 4, 3) := by decide +kernel
theorem dX9_roadLine_97 : decode cX9_roadLine 97 = .ok (.iconst 0, 1) := by decide +kernel
theorem dX9_roadLine_98 : decode cX9_roadLine 98 = .ok (.iastore, 1) := by decide +kernel
theorem dX9_roadLine_99 : decode cX9_roadLine 99 = .ok (.iinc 2 1, 3) := by decide +kernel
theorem dX9_roadLine_102 : decode cX9_roadLine 102 = .ok (.goto (-27), 3) := by decide +kernel
theorem dX9_roadLine_105 : decode cX9_roadLine 105 = .ok (.aload_n 0, 1) := by decide +kernel
theorem dX9_roadLine_106 : decode cX9_roadLine 106 = .ok (.iconst 1, 1) := by decide +kernel
theorem dX9_roadLine_107 : decode cX9_roadLine 107 = .ok (.bipush 14, 2) := by decide +kernel
theorem dX9_roadLine_109 : decode cX9_roadLine 109 = .ok (.bipush 6, 2) := by decide +kernel
theorem dX9_roadLine_111 : decode cX9_roadLine 111 = .ok (.bipush 11, 2) := by decide +kernel
theorem dX9_roadLine_113 : decode cX9_roadLine 113 = .ok (.iconst 4, 1) := by decide +kernel
theorem dX9_roadLine_114 : decode cX9_roadLine 114 = .ok (.invokevirtual 220, 3) := by decide +kernel
theorem dX9_roadLine_117 : decode cX9_roadLine 117 = .ok (.iconst 1, 1) := by decide +kernel
theorem dX9_roadLine_118 : decode cX9_roadLine 118 = .ok (.ireturn, 1) := by decide +kernel
noncomputable def k_X9_roadLine_98 (F : Nat) (h75 : AK) : AK := ak_iast (ak_iinc 2 1 h75)
set_option maxRecDepth 20000 in
theorem sk_X9_roadLine_98 (F : Nat) {h75 : AK} (hh75 : Snd X0 RX9 cX9_roadLine 3 4 75 h75) : Snd X0 RX9 cX9_roadLine 3 4 98 (k_X9_roadLine_98 F h75) := by
  unfold k_X9_roadLine_98
  exact snd_iast (pc := 98) dX9_roadLine_98 (snd_iinc (pc := 99) (i := 2) (n := 1) (by decide) dX9_roadLine_99 (snd_goto (pc := 102) (off := (-27)) (tgt := 75) (by decide) dX9_roadLine_102 (hh75)))
noncomputable def k_X9_roadLine_105 (F : Nat) : AK := ak_aload 0 (ak_push (vI 1) (ak_push (vI 14) (ak_push (vI 6) (ak_push (vI 11) (ak_push (vI 4) (ak_callv 9 5 (m_X9_lay4 F) (ak_push (vI 1) ak_ireturn)))))))
set_option maxRecDepth 20000 in
theorem sk_X9_roadLine_105 (F : Nat) : Snd X0 RX9 cX9_roadLine 3 4 105 (k_X9_roadLine_105 F) := by
  unfold k_X9_roadLine_105
  exact snd_aload_n (pc := 105) (i := 0) dX9_roadLine_105 (snd_iconst (pc := 106) dX9_roadLine_106 (snd_bipush (pc := 107) (by decide) dX9_roadLine_107 (snd_bipush (pc := 109) (by decide) dX9_roadLine_109 (snd_bipush (pc := 111) (by decide) dX9_roadLine_111 (snd_iconst (pc := 113) dX9_roadLine_113 (snd_callV (pc := 114) (n := 5) cls9 (s_X9_lay4 F) (by decide) (by decide) wd_1567 wd_1564 wd_1566 wd_62 wd_129 hy_X9_lay4 dX9_roadLine_114 (snd_iconst (pc := 117) dX9_roadLine_117 (snd_ireturn dX9_roadLine_118))))))))
noncomputable def kb_X9_roadLine_75 (F : Nat) (self : AK) : AK := ak_iload 2 (ak_push (vI 11) (ak_cmplt (ak_aload 0 (ak_getf 9 18 (ak_iload 1 (ak_iload 2 (ak_iadd (ak_iload 2 (ak_push (vI 4) (ak_cmpeq (ak_push (vI (-1)) ((k_X9_roadLine_98 F self))) (ak_push (vI 0) ((k_X9_roadLine_98 F self))))))))))) ((k_X9_roadLine_105 F))))
noncomputable def k_X9_roadLine_75 (F : Nat) (n : Nat) : AK := Nat.rec (motive := fun _ => AK) ak_none (fun _ self => kb_X9_roadLine_75 F self) n
set_option maxRecDepth 20000 in
theorem sk_X9_roadLine_75 (F : Nat) : ∀ n, Snd X0 RX9 cX9_roadLine 3 4 75 (k_X9_roadLine_75 F n) := by
  intro n
  induction n with
  | zero => exact snd_none
  | succ n ih =>
    show Snd X0 RX9 cX9_roadLine 3 4 75 (kb_X9_roadLine_75 F (k_X9_roadLine_75 F n))
    unfold kb_X9_roadLine_75
    exact snd_iload_n (pc := 75) (i := 2) dX9_roadLine_75 (snd_bipush (pc := 76) (by decide) dX9_roadLine_76 (snd_icmpge (pc := 78) (off := 27) (tgt := 105) (by decide) dX9_roadLine_78 ((sk_X9_roadLine_105 F)) (snd_aload_n (pc := 81) (i := 0) dX9_roadLine_81 (snd_getf (pc := 82) cls9 (f := 18) (by decide) wd_1321 dX9_roadLine_82 (snd_iload_n (pc := 85) (i := 1) dX9_roadLine_85 (snd_iload_n (pc := 86) (i := 2) dX9_roadLine_86 (snd_iadd (pc := 87) dX9_roadLine_87 (snd_iload_n (pc := 88) (i := 2) dX9_roadLine_88 (snd_iconst (pc := 89) dX9_roadLine_89 (snd_icmpne (pc := 90) (off := 7) (tgt := 97) (by decide) dX9_roadLine_90 (snd_iconst (pc := 97) dX9_roadLine_97 ((sk_X9_roadLine_98 F ih))) (snd_iconst (pc := 93) dX9_roadLine_93 (snd_goto (pc := 94) (off := 4) (tgt := 98) (by decide) dX9_roadLine_94 ((sk_X9_roadLine_98 F ih))))))))))))))
noncomputable def k_X9_roadLine (F : Nat) : AK := ak_aload 0 (ak_push (vI 0) (ak_push (vI (-1)) (ak_callv 9 2 (m_X9_placed F) (ak_ifeq (ak_push (vI 0) ak_ireturn) (ak_aload 0 (ak_push (vI 1) (ak_aload 0 (ak_getf 9 19 (ak_push (vI 0) (ak_iald (ak_callv 9 2 (m_X9_placed F) (ak_ifeq (ak_push (vI 0) ak_ireturn) (ak_aload 0 (ak_push (vI 2) (ak_push (vI 1) (ak_push (vI 30) (ak_push (vI (-1)) (ak_callv 9 4 (m_X9_take F) (ak_ifeq (ak_push (vI 0) ak_ireturn) (ak_aload 0 (ak_push (vI 3) (ak_push (vI 0) (ak_push (vI 99) (ak_push (vI (-1)) (ak_callv 9 4 (m_X9_take F) (ak_ifeq (ak_push (vI 0) ak_ireturn) (ak_aload 0 (ak_getf 9 18 (ak_push (vI 1) (ak_iald (ak_push (vI 14) (ak_cmplt (ak_push (vI 6) (ak_push (vI 11) (ak_aload 0 (ak_getf 9 18 (ak_push (vI 1) (ak_iald (ak_imul (ak_iadd (ak_istore 1 (ak_push (vI 4) (ak_istore 2 ((k_X9_roadLine_75 F F))))))))))))) ((k_X9_roadLine_105 F))))))))))))))))))))))))))))))))))
noncomputable def m_X9_roadLine (F : Nat) : AF := mkF 2 3 (k_X9_roadLine F)
set_option maxRecDepth 20000 in
theorem s_X9_roadLine (F : Nat) : MA yX9_roadLine cX9_roadLine 3 (some .boolean) 4 (m_X9_roadLine F) := met_of (Or.inr (Or.inr (Or.inl ⟨rfl, rfl⟩))) (by decide) (by
  unfold k_X9_roadLine
  exact snd_aload_n (pc := 0) (i := 0) dX9_roadLine_0 (snd_iconst (pc := 1) dX9_roadLine_1 (snd_iconst (pc := 2) dX9_roadLine_2 (snd_callV (pc := 3) (n := 2) cls9 (s_X9_placed F) (by decide) (by decide) wd_1563 wd_1560 wd_1562 wd_61 wd_129 hy_X9_placed dX9_roadLine_3 (snd_ifeq (pc := 6) (off := 41) (tgt := 47) (by decide) dX9_roadLine_6 (snd_iconst (pc := 47) dX9_roadLine_47 (snd_ireturn dX9_roadLine_48)) (snd_aload_n (pc := 9) (i := 0) dX9_roadLine_9 (snd_iconst (pc := 10) dX9_roadLine_10 (snd_aload_n (pc := 11) (i := 0) dX9_roadLine_11 (snd_getf (pc := 12) cls9 (f := 19) (by decide) wd_1322 dX9_roadLine_12 (snd_iconst (pc := 15) dX9_roadLine_15 (snd_iald (pc := 16) dX9_roadLine_16 (snd_callV (pc := 17) (n := 2) cls9 (s_X9_placed F) (by decide) (by decide) wd_1563 wd_1560 wd_1562 wd_61 wd_129 hy_X9_placed dX9_roadLine_17 (snd_ifeq (pc := 20) (off := 27) (tgt := 47) (by decide) dX9_roadLine_20 (snd_iconst (pc := 47) dX9_roadLine_47 (snd_ireturn dX9_roadLine_48)) (snd_aload_n (pc := 23) (i := 0) dX9_roadLine_23 (snd_iconst (pc := 24) dX9_roadLine_24 (snd_iconst (pc := 25) dX9_roadLine_25 (snd_bipush (pc := 26) (by decide) dX9_roadLine_26 (snd_iconst (pc := 28) dX9_roadLine_28 (snd_callV (pc := 29) (n := 4) cls9 (s_X9_take F) (by decide) (by decide) wd_1551 wd_1548 wd_1550 wd_58 wd_129 hy_X9_take dX9_roadLine_29 (snd_ifeq (pc := 32) (off := 15) (tgt := 47) (by decide) dX9_roadLine_32 (snd_iconst (pc := 47) dX9_roadLine_47 (snd_ireturn dX9_roadLine_48)) (snd_aload_n (pc := 35) (i := 0) dX9_roadLine_35 (snd_iconst (pc := 36) dX9_roadLine_36 (snd_iconst (pc := 37) dX9_roadLine_37 (snd_bipush (pc := 38) (by decide) dX9_roadLine_38 (snd_iconst (pc := 40) dX9_roadLine_40 (snd_callV (pc := 41) (n := 4) cls9 (s_X9_take F) (by decide) (by decide) wd_1551 wd_1548 wd_1550 wd_58 wd_129 hy_X9_take dX9_roadLine_41 (snd_ifne (pc := 44) (off := 5) (tgt := 49) (by decide) dX9_roadLine_44 (snd_aload_n (pc := 49) (i := 0) dX9_roadLine_49 (snd_getf (pc := 50) cls9 (f := 18) (by decide) wd_1321 dX9_roadLine_50 (snd_iconst (pc := 53) dX9_roadLine_53 (snd_iald (pc := 54) dX9_roadLine_54 (snd_bipush (pc := 55) (by decide) dX9_roadLine_55 (snd_icmpge (pc := 57) (off := 48) (tgt := 105) (by decide) dX9_roadLine_57 ((sk_X9_roadLine_105 F)) (snd_bipush (pc := 60) (by decide) dX9_roadLine_60 (snd_bipush (pc := 62) (by decide) dX9_roadLine_62 (snd_aload_n (pc := 64) (i := 0) dX9_roadLine_64 (snd_getf (pc := 65) cls9 (f := 18) (by decide) wd_1321 dX9_roadLine_65 (snd_iconst (pc := 68) dX9_roadLine_68 (snd_iald (pc := 69) dX9_roadLine_69 (snd_imul (pc := 70) dX9_roadLine_70 (snd_iadd (pc := 71) dX9_roadLine_71 (snd_istore_n (pc := 72) (i := 1) (by decide) dX9_roadLine_72 (snd_iconst (pc := 73) dX9_roadLine_73 (snd_istore_n (pc := 74) (i := 2) (by decide) dX9_roadLine_74 ((sk_X9_roadLine_75 F F))))))))))))))))))) (snd_iconst (pc := 47) dX9_roadLine_47 (snd_ireturn dX9_roadLine_48)))))))))))))))))))))))))))))

/-! LastWalkerModel.errandLine()Z -/
theorem dX9_errandLine_0 : decode cX9_errandLine 0 = .ok (.aload_n 0, 1) := by decide +kernel
theorem dX9_errandLine_1 : decode cX9_errandLine 1 = .ok (.iconst 0, 1) := by decide +kernel
theorem dX9_errandLine_2 : decode cX9_errandLine 2 = .ok (.iconst 0, 1) := by decide +kernel
theorem dX9_errandLine_3 : decode cX9_errandLine 3 = .ok (.aload_n 0, 1) := by decide +kernel
theorem dX9_errandLine_4 : decode cX9_errandLine 4 = .ok (.getfield 32, 3) := by decide +kernel
theorem dX9_errandLine_7 : decode cX9_errandLine 7 = .ok (.iconst 2, 1) := by decide +kernel
theorem dX9_errandLine_8 : decode cX9_errandLine 8 = .ok (.iaload, 1) := by decide +kernel
theorem dX9_errandLine_9 : decode cX9_errandLine 9 = .ok (.iconst 1, 1) := by decide +kernel
theorem dX9_errandLine_10 : decode cX9_errandLine 10 = .ok (.isub, 1) := by decide +kernel
theorem dX9_errandLine_11 : decode cX9_errandLine 11 = .ok (.iconst (-1), 1) := by decide +kernel
theorem dX9_errandLine_12 : decode cX9_errandLine 12 = .ok (.invokevirtual 175, 3) := by decide +kernel
theorem dX9_errandLine_15 : decode cX9_errandLine 15 = .ok (.ifCond .eq 37, 3) := by decide +kernel
theorem dX9_errandLine_18 : decode cX9_errandLine 18 = .ok (.aload_n 0, 1) := by decide +kernel
theorem dX9_errandLine_19 : decode cX9_errandLine 19 = .ok (.iconst 1, 1) := by decide +kernel
theorem dX9_errandLine_20 : decode cX9_errandLine 20 = .ok (.iconst (-1), 1) := by decide +kernel
theorem dX9_errandLine_21 : decode cX9_errandLine 21 = .ok (.invokevirtual 216, 3) := by decide +kernel
theorem dX9_errandLine_24 : decode cX9_errandLine 24 = .ok (.ifCond .eq 28, 3) := by decide +kernel
theorem dX9_errandLine_27 : decode cX9_errandLine 27 = .ok (.aload_n 0, 1) := by decide +kernel
theorem dX9_errandLine_28 : decode cX9_errandLine 28 = .ok (.iconst 2, 1) := by decide +kernel
theorem dX9_errandLine_29 : decode cX9_errandLine 29 = .ok (.iconst 0, 1) := by decide +kernel
theorem dX9_errandLine_30 : decode cX9_errandLine 30 = .ok (.sipush 359, 3) := by decide +kernel
theorem dX9_errandLine_33 : decode cX9_errandLine 33 = .ok (.iconst (-1), 1) := by decide +kernel
theorem dX9_errandLine_34 : decode cX9_errandLine 34 = .ok (.invokevirtual 175, 3) := by decide +kernel
theorem dX9_errandLine_37 : decode cX9_errandLine 37 = .ok (.ifCond .eq 15, 3) := by decide +kernel
theorem dX9_errandLine_40 : decode cX9_errandLine 40 = .ok (.aload_n 0, 1) := by decide +kernel
theorem dX9_errandLine_41 : decode cX9_errandLine 41 = .ok (.iconst 3, 1) := by decide +kernel
theorem dX9_errandLine_42 : decode cX9_errandLine 42 = .ok (.iconst 0, 1) := by decide +kernel
theorem dX9_errandLine_43 : decode cX9_errandLine 43 = .ok (.bipush 100, 2) := by decide +kernel
theorem dX9_errandLine_45 : decode cX9_errandLine 45 = .ok (.iconst (-1), 1) := by decide +kernel
theorem dX9_errandLine_46 : decode cX9_errandLine 46 = .ok (.invokevirtual 175, 3) := by decide +kernel
theorem dX9_errandLine_49 : decode cX9_errandLine 49 = .ok (.ifCond .ne 5, 3) := by decide +kernel
theorem dX9_errandLine_52 : decode cX9_errandLine 52 = .ok (.iconst 0, 1) := by decide +kernel
theorem dX9_errandLine_53 : decode cX9_errandLine 53 = .ok (.ireturn, 1) := by decide +kernel
theorem dX9_errandLine_54 : decode cX9_errandLine 54 = .ok (.aload_n 0, 1) := by decide +kernel
theorem dX9_errandLine_55 : decode cX9_errandLine 55 = .ok (.iconst 3, 1) := by decide +kernel
theorem dX9_errandLine_56 : decode cX9_errandLine 56 = .ok (.bipush 12, 2) := by decide +kernel
theorem dX9_errandLine_58 : decode cX9_errandLine 58 = .ok (.sipush 184, 3) := by decide +kernel
theorem dX9_errandLine_61 : decode cX9_errandLine 61 = .ok (.iconst 4, 1) := by decide +kernel
theorem dX9_errandLine_62 : decode cX9_errandLine 62 = .ok (.iconst 4, 1) := by decide +kernel
theorem dX9_errandLine_63 : decode cX9_errandLine 63 = .ok (.invokevirtual 220, 3) := by decide +kernel
theorem dX9_errandLine_66 : decode cX9_errandLine 66 = .ok (.iconst 1, 1) := by decide +kernel
theorem dX9_errandLine_67 : decode cX9_errandLine 67 = .ok (.ireturn, 1) := by decide +kernel
noncomputable def k_X9_errandLine (F : Nat) : AK := ak_aload 0 (ak_push (vI 0) (ak_push (vI 0) (ak_aload 0 (ak_getf 9 18 (ak_push (vI 2) (ak_iald (ak_push (vI 1) (ak_isub (ak_push (vI (-1)) (ak_callv 9 4 (m_X9_take F) (ak_ifeq (ak_push (vI 0) ak_ireturn) (ak_aload 0 (ak_push (vI 1) (ak_push (vI (-1)) (ak_callv 9 2 (m_X9_placed F) (ak_ifeq (ak_push (vI 0) ak_ireturn) (ak_aload 0 (ak_push (vI 2) (ak_push (vI 0) (ak_push (vI 359) (ak_push (vI (-1)) (ak_callv 9 4 (m_X9_take F) (ak_ifeq (ak_push (vI 0) ak_ireturn) (ak_aload 0 (ak_push (vI 3) (ak_push (vI 0) (ak_push (vI 100) (ak_push (vI (-1)) (ak_callv 9 4 (m_X9_take F) (ak_ifeq (ak_push (vI 0) ak_ireturn) (ak_aload 0 (ak_push (vI 3) (ak_push (vI 12) (ak_push (vI 184) (ak_push (vI 4) (ak_push (vI 4) (ak_callv 9 5 (m_X9_lay4 F) (ak_push (vI 1) ak_ireturn))))))))))))))))))))))))))))))))))))))
noncomputable def m_X9_errandLine (F : Nat) : AF := mkF 2 1 (k_X9_errandLine F)
set_option maxRecDepth 20000 in
theorem s_X9_errandLine (F : Nat) : MA yX9_errandLine cX9_errandLine 1 (some .boolean) 4 (m_X9_errandLine F) := met_of (Or.inr (Or.inr (Or.inl ⟨rfl, rfl⟩))) (by decide) (by
  unfold k_X9_errandLine
  exact snd_aload_n (pc := 0) (i := 0) dX9_errandLine_0 (snd_iconst (pc := 1) dX9_errandLine_1 (snd_iconst (pc := 2) dX9_errandLine_2 (snd_aload_n (pc := 3) (i := 0) dX9_errandLine_3 (snd_getf (pc := 4) cls9 (f := 18) (by decide) wd_1321 dX9_errandLine_4 (snd_iconst (pc := 7) dX9_errandLine_7 (snd_iald (pc := 8) dX9_errandLine_8 (snd_iconst (pc := 9) dX9_errandLine_9 (snd_isub (pc := 10) dX9_errandLine_10 (snd_iconst (pc := 11) dX9_errandLine_11 (snd_callV (pc := 12) (n := 4) cls9 (s_X9_take F) (by decide) (by decide) wd_1551 wd_1548 wd_1550 wd_58 wd_129 hy_X9_take dX9_errandLine_12 (snd_ifeq (pc := 15) (off := 37) (tgt := 52) (by decide) dX9_errandLine_15 (snd_iconst (pc := 52) dX9_errandLine_52 (snd_ireturn dX9_errandLine_53)) (snd_aload_n (pc := 18) (i := 0) dX9_errandLine_18 (snd_iconst (pc := 19) dX9_errandLine_19 (snd_iconst (pc := 20) dX9_errandLine_20 (snd_callV (pc := 21) (n := 2) cls9 (s_X9_placed F) (by decide) (by decide) wd_1563 wd_1560 wd_1562 wd_61 wd_129 hy_X9_placed dX9_errandLine_21 (snd_ifeq (pc := 24) (off := 28) (tgt := 52) (by decide) dX9_errandLine_24 (snd_iconst (pc := 52) dX9_errandLine_52 (snd_ireturn dX9_errandLine_53)) (snd_aload_n (pc := 27) (i := 0) dX9_errandLine_27 (snd_iconst (pc := 28) dX9_errandLine_28 (snd_iconst (pc := 29) dX9_errandLine_29 (snd_sipush (pc := 30) (by decide) dX9_errandLine_30 (snd_iconst (pc := 33) dX9_errandLine_33 (snd_callV (pc := 34) (n := 4) cls9 (s_X9_take F) (by decide) (by decide) wd_1551 wd_1548 wd_1550 wd_58 wd_129 hy_X9_take dX9_errandLine_34 (snd_ifeq (pc := 37) (off := 15) (tgt := 52) (by decide) dX9_errandLine_37 (snd_iconst (pc := 52) dX9_errandLine_52 (snd_ireturn dX9_errandLine_53)) (snd_aload_n (pc := 40) (i := 0) dX9_errandLine_40 (snd_iconst (pc := 41) dX9_errandLine_41 (snd_iconst (pc := 42) dX9_errandLine_42 (snd_bipush (pc := 43) (by decide) dX9_errandLine_43 (snd_iconst (pc := 45) dX9_errandLine_45 (snd_callV (pc := 46) (n := 4) cls9 (s_X9_take F) (by decide) (by decide) wd_1551 wd_1548 wd_1550 wd_58 wd_129 hy_X9_take dX9_errandLine_46 (snd_ifne (pc := 49) (off := 5) (tgt := 54) (by decide) dX9_errandLine_49 (snd_aload_n (pc := 54) (i := 0) dX9_errandLine_54 (snd_iconst (pc := 55) dX9_errandLine_55 (snd_bipush (pc := 56) (by decide) dX9_errandLine_56 (snd_sipush (pc := 58) (by decide) dX9_errandLine_58 (snd_iconst (pc := 61) dX9_errandLine_61 (snd_iconst (pc := 62) dX9_errandLine_62 (snd_callV (pc := 63) (n := 5) cls9 (s_X9_lay4 F) (by decide) (by decide) wd_1567 wd_1564 wd_1566 wd_62 wd_129 hy_X9_lay4 dX9_errandLine_63 (snd_iconst (pc := 66) dX9_errandLine_66 (snd_ireturn dX9_errandLine_67))))))))) (snd_iconst (pc := 52) dX9_errandLine_52 (snd_ireturn dX9_errandLine_53)))))))))))))))))))))))))))))))))

/-! LastWalkerModel.personLine(I)Z -/
theorem dX9_personLine_0 : decode cX9_personLine 0 = .ok (.aload_n 0, 1) := by decide +kernel
theorem dX9_personLine_1 : decode cX9_personLine 1 = .ok (.iconst 0, 1) := by decide +kernel
theorem dX9_personLine_2 : decode cX9_personLine 2 = .ok (.iconst (-1), 1) := by decide +kernel
theorem dX9_personLine_3 : decode cX9_personLine 3 = .ok (.invokevirtual 216, 3) := by decide +kernel
theorem dX9_personLine_6 : decode cX9_personLine 6 = .ok (.ifCond .eq 15, 3) := by decide +kernel
theorem dX9_personLine_9 : decode cX9_personLine 9 = .ok (.aload_n 0, 1) := by decide +kernel
theorem dX9_personLine_10 : decode cX9_personLine 10 = .ok (.iconst 1, 1) := by decide +kernel
theorem dX9_personLine_11 : decode cX9_personLine 11 = .ok (.iconst 0, 1) := by decide +kernel
theorem dX9_personLine_12 : decode cX9_personLine 12 = .ok (.bipush 9, 2) := by decide +kernel
theorem dX9_personLine_14 : decode cX9_personLine 14 = .ok (.iconst (-1), 1) := by decide +kernel
theorem dX9_personLine_15 : decode cX9_personLine 15 = .ok (.invokevirtual 175, 3) := by decide +kernel
theorem dX9_personLine_18 : decode cX9_personLine 18 = .ok (.ifCond .ne 5, 3) := by decide +kernel
theorem dX9_personLine_21 : decode cX9_personLine 21 = .ok (.iconst 0, 1) := by decide +kernel
theorem dX9_personLine_22 : decode cX9_personLine 22 = .ok (.ireturn, 1) := by decide +kernel
theorem dX9_personLine_23 : decode cX9_personLine 23 = .ok (.aload_n 0, 1) := by decide +kernel
theorem dX9_personLine_24 : decode cX9_personLine 24 = .ok (.getfield 35, 3) := by decide +kernel
theorem dX9_personLine_27 : decode cX9_personLine 27 = .ok (.iconst 2, 1) := by decide +kernel
theorem dX9_personLine_28 : decode cX9_personLine 28 = .ok (.iload_n 1, 1) := by decide +kernel
theorem dX9_personLine_29 : decode cX9_personLine 29 = .ok (.iastore, 1) := by decide +kernel
theorem dX9_personLine_30 : decode cX9_personLine 30 = .ok (.aload_n 0, 1) := by decide +kernel
theorem dX9_personLine_31 : decode cX9_personLine 31 = .ok (.iconst 2, 1) := by decide +kernel
theorem dX9_personLine_32 : decode cX9_personLine 32 = .ok (.bipush 8, 2) := by decide +kernel
theorem dX9_personLine_34 : decode cX9_personLine 34 = .ok (.sipush 160, 3) := by decide +kernel
theorem dX9_personLine_37 : decode cX9_personLine 37 = .ok (.iconst 3, 1) := by decide +kernel
theorem dX9_personLine_38 : decode cX9_personLine 38 = .ok (.iconst 3, 1) := by decide +kernel
theorem dX9_personLine_39 : decode cX9_personLine 39 = .ok (.invokevirtual 220, 3) := by decide +kernel
theorem dX9_personLine_42 : decode cX9_personLine 42 = .ok (.iconst 1, 1) := by decide +kernel
theorem dX9_personLine_43 : decode cX9_personLine 43 = .ok (.ireturn, 1) := by decide +kernel
noncomputable def k_X9_personLine (F : Nat) : AK := ak_aload 0 (ak_push (vI 0) (ak_push (vI (-1)) (ak_callv 9 2 (m_X9_placed F) (ak_ifeq (ak_push (vI 0) ak_ireturn) (ak_aload 0 (ak_push (vI 1) (ak_push (vI 0) (ak_push (vI 9) (ak_push (vI (-1)) (ak_callv 9 4 (m_X9_take F) (ak_ifeq (ak_push (vI 0) ak_ireturn) (ak_aload 0 (ak_getf 9 19 (ak_push (vI 2) (ak_iload 1 (ak_iast (ak_aload 0 (ak_push (vI 2) (ak_push (vI 8) (ak_push (vI 160) (ak_push (vI 3) (ak_push (vI 3) (ak_callv 9 5 (m_X9_lay4 F) (ak_push (vI 1) ak_ireturn))))))))))))))))))))))))
noncomputable def m_X9_personLine (F : Nat) : AF := mkF 2 2 (k_X9_personLine F)
set_option maxRecDepth 20000 in
theorem s_X9_personLine (F : Nat) : MA yX9_personLine cX9_personLine 2 (some .boolean) 4 (m_X9_personLine F) := met_of (Or.inr (Or.inr (Or.inl ⟨rfl, rfl⟩))) (by decide) (by
  unfold k_X9_personLine
  exact snd_aload_n (pc := 0) (i := 0) dX9_personLine_0 (snd_iconst (pc := 1) dX9_personLine_1 (snd_iconst (pc := 2) dX9_personLine_2 (snd_callV (pc := 3) (n := 2) cls9 (s_X9_placed F) (by decide) (by decide) wd_1563 wd_1560 wd_1562 wd_61 wd_129 hy_X9_placed dX9_personLine_3 (snd_ifeq (pc := 6) (off := 15) (tgt := 21) (by decide) dX9_personLine_6 (snd_iconst (pc := 21) dX9_personLine_21 (snd_ireturn dX9_personLine_22)) (snd_aload_n (pc := 9) (i := 0) dX9_personLine_9 (snd_iconst (pc := 10) dX9_personLine_10 (snd_iconst (pc := 11) dX9_personLine_11 (snd_bipush (pc := 12) (by decide) dX9_personLine_12 (snd_iconst (pc := 14) dX9_personLine_14 (snd_callV (pc := 15) (n := 4) cls9 (s_X9_take F) (by decide) (by decide) wd_1551 wd_1548 wd_1550 wd_58 wd_129 hy_X9_take dX9_personLine_15 (snd_ifne (pc := 18) (off := 5) (tgt := 23) (by decide) dX9_personLine_18 (snd_aload_n (pc := 23) (i := 0) dX9_personLine_23 (snd_getf (pc := 24) cls9 (f := 19) (by decide) wd_1322 dX9_personLine_24 (snd_iconst (pc := 27) dX9_personLine_27 (snd_iload_n (pc := 28) (i := 1) dX9_personLine_28 (snd_iast (pc := 29) dX9_personLine_29 (snd_aload_n (pc := 30) (i := 0) dX9_personLine_30 (snd_iconst (pc := 31) dX9_personLine_31 (snd_bipush (pc := 32) (by decide) dX9_personLine_32 (snd_sipush (pc := 34) (by decide) dX9_personLine_34 (snd_iconst (pc := 37) dX9_personLine_37 (snd_iconst (pc := 38) dX9_personLine_38 (snd_callV (pc := 39) (n := 5) cls9 (s_X9_lay4 F) (by decide) (by decide) wd_1567 wd_1564 wd_1566 wd_62 wd_129 hy_X9_lay4 dX9_personLine_39 (snd_iconst (pc := 42) dX9_personLine_42 (snd_ireturn dX9_personLine_43)))))))))))))) (snd_iconst (pc := 21) dX9_personLine_21 (snd_ireturn dX9_personLine_22))))))))))))))
