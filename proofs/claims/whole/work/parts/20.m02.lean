/-! LastWalkerModel.roadOf(II)I -/
theorem dX9_roadOf_0 : decode cX9_roadOf 0 = .ok (.aload_n 0, 1) := by decide +kernel
theorem dX9_roadOf_1 : decode cX9_roadOf 1 = .ok (.getfield 26, 3) := by decide +kernel
theorem dX9_roadOf_4 : decode cX9_roadOf 4 = .ok (.aload_n 0, 1) := by decide +kernel
theorem dX9_roadOf_5 : decode cX9_roadOf 5 = .ok (.getfield 255, 3) := by decide +kernel
theorem dX9_roadOf_8 : decode cX9_roadOf 8 = .ok (.bipush 6, 2) := by decide +kernel
theorem dX9_roadOf_10 : decode cX9_roadOf 10 = .ok (.iadd, 1) := by decide +kernel
theorem dX9_roadOf_11 : decode cX9_roadOf 11 = .ok (.bipush 11, 2) := by decide +kernel
theorem dX9_roadOf_13 : decode cX9_roadOf 13 = .ok (.iload_n 1, 1) := by decide +kernel
theorem dX9_roadOf_14 : decode cX9_roadOf 14 = .ok (.imul, 1) := by decide +kernel
theorem dX9_roadOf_15 : decode cX9_roadOf 15 = .ok (.iadd, 1) := by decide +kernel
theorem dX9_roadOf_16 : decode cX9_roadOf 16 = .ok (.iload_n 2, 1) := by decide +kernel
theorem dX9_roadOf_17 : decode cX9_roadOf 17 = .ok (.iadd, 1) := by decide +kernel
theorem dX9_roadOf_18 : decode cX9_roadOf 18 = .ok (.iaload, 1) := by decide +kernel
theorem dX9_roadOf_19 : decode cX9_roadOf 19 = .ok (.ireturn, 1) := by decide +kernel
noncomputable def k_X9_roadOf (F : Nat) : AK := ak_aload 0 (ak_getf 9 6 (ak_aload 0 (ak_getf 9 21 (ak_push (vI 6) (ak_iadd (ak_push (vI 11) (ak_iload 1 (ak_imul (ak_iadd (ak_iload 2 (ak_iadd (ak_iald ak_ireturn))))))))))))
noncomputable def m_X9_roadOf (F : Nat) : AF := mkF 1 3 (k_X9_roadOf F)
set_option maxRecDepth 20000 in
theorem s_X9_roadOf (F : Nat) : MA yX9_roadOf cX9_roadOf 3 (some .int) 0 (m_X9_roadOf F) := met_of (Or.inr (Or.inl ⟨rfl, rfl⟩)) (by decide) (by
  unfold k_X9_roadOf
  exact snd_aload_n (pc := 0) (i := 0) dX9_roadOf_0 (snd_getf (pc := 1) cls9 (f := 6) (by decide) wd_1309 dX9_roadOf_1 (snd_aload_n (pc := 4) (i := 0) dX9_roadOf_4 (snd_getf (pc := 5) cls9 (f := 21) (by decide) wd_1324 dX9_roadOf_5 (snd_bipush (pc := 8) (by decide) dX9_roadOf_8 (snd_iadd (pc := 10) dX9_roadOf_10 (snd_bipush (pc := 11) (by decide) dX9_roadOf_11 (snd_iload_n (pc := 13) (i := 1) dX9_roadOf_13 (snd_imul (pc := 14) dX9_roadOf_14 (snd_iadd (pc := 15) dX9_roadOf_15 (snd_iload_n (pc := 16) (i := 2) dX9_roadOf_16 (snd_iadd (pc := 17) dX9_roadOf_17 (snd_iald (pc := 18) dX9_roadOf_18 (snd_ireturn dX9_roadOf_19))))))))))))))

/-! LastWalkerModel.personOf(II)I -/
theorem dX9_personOf_0 : decode cX9_personOf 0 = .ok (.aload_n 0, 1) := by decide +kernel
theorem dX9_personOf_1 : decode cX9_personOf 1 = .ok (.getfield 26, 3) := by decide +kernel
theorem dX9_personOf_4 : decode cX9_personOf 4 = .ok (.aload_n 0, 1) := by decide +kernel
theorem dX9_personOf_5 : decode cX9_personOf 5 = .ok (.getfield 255, 3) := by decide +kernel
theorem dX9_personOf_8 : decode cX9_personOf 8 = .ok (.sipush 160, 3) := by decide +kernel
theorem dX9_personOf_11 : decode cX9_personOf 11 = .ok (.iadd, 1) := by decide +kernel
theorem dX9_personOf_12 : decode cX9_personOf 12 = .ok (.iconst 3, 1) := by decide +kernel
theorem dX9_personOf_13 : decode cX9_personOf 13 = .ok (.iload_n 1, 1) := by decide +kernel
theorem dX9_personOf_14 : decode cX9_personOf 14 = .ok (.imul, 1) := by decide +kernel
theorem dX9_personOf_15 : decode cX9_personOf 15 = .ok (.iadd, 1) := by decide +kernel
theorem dX9_personOf_16 : decode cX9_personOf 16 = .ok (.iload_n 2, 1) := by decide +kernel
theorem dX9_personOf_17 : decode cX9_personOf 17 = .ok (.iadd, 1) := by decide +kernel
theorem dX9_personOf_18 : decode cX9_personOf 18 = .ok (.iaload, 1) := by decide +kernel
theorem dX9_personOf_19 : decode cX9_personOf 19 = .ok (.ireturn, 1) := by decide +kernel
noncomputable def k_X9_personOf (F : Nat) : AK := ak_aload 0 (ak_getf 9 6 (ak_aload 0 (ak_getf 9 21 (ak_push (vI 160) (ak_iadd (ak_push (vI 3) (ak_iload 1 (ak_imul (ak_iadd (ak_iload 2 (ak_iadd (ak_iald ak_ireturn))))))))))))
noncomputable def m_X9_personOf (F : Nat) : AF := mkF 1 3 (k_X9_personOf F)
set_option maxRecDepth 20000 in
theorem s_X9_personOf (F : Nat) : MA yX9_personOf cX9_personOf 3 (some .int) 0 (m_X9_personOf F) := met_of (Or.inr (Or.inl ⟨rfl, rfl⟩)) (by decide) (by
  unfold k_X9_personOf
  exact snd_aload_n (pc := 0) (i := 0) dX9_personOf_0 (snd_getf (pc := 1) cls9 (f := 6) (by decide) wd_1309 dX9_personOf_1 (snd_aload_n (pc := 4) (i := 0) dX9_personOf_4 (snd_getf (pc := 5) cls9 (f := 21) (by decide) wd_1324 dX9_personOf_5 (snd_sipush (pc := 8) (by decide) dX9_personOf_8 (snd_iadd (pc := 11) dX9_personOf_11 (snd_iconst (pc := 12) dX9_personOf_12 (snd_iload_n (pc := 13) (i := 1) dX9_personOf_13 (snd_imul (pc := 14) dX9_personOf_14 (snd_iadd (pc := 15) dX9_personOf_15 (snd_iload_n (pc := 16) (i := 2) dX9_personOf_16 (snd_iadd (pc := 17) dX9_personOf_17 (snd_iald (pc := 18) dX9_personOf_18 (snd_ireturn dX9_personOf_19))))))))))))))

/-! LastWalkerModel.errandOf(II)I -/
theorem dX9_errandOf_0 : decode cX9_errandOf 0 = .ok (.aload_n 0, 1) := by decide +kernel
theorem dX9_errandOf_1 : decode cX9_errandOf 1 = .ok (.getfield 26, 3) := by decide +kernel
theorem dX9_errandOf_4 : decode cX9_errandOf 4 = .ok (.aload_n 0, 1) := by decide +kernel
theorem dX9_errandOf_5 : decode cX9_errandOf 5 = .ok (.getfield 255, 3) := by decide +kernel
theorem dX9_errandOf_8 : decode cX9_errandOf 8 = .ok (.sipush 184, 3) := by decide +kernel
theorem dX9_errandOf_11 : decode cX9_errandOf 11 = .ok (.iadd, 1) := by decide +kernel
theorem dX9_errandOf_12 : decode cX9_errandOf 12 = .ok (.iconst 4, 1) := by decide +kernel
theorem dX9_errandOf_13 : decode cX9_errandOf 13 = .ok (.iload_n 1, 1) := by decide +kernel
theorem dX9_errandOf_14 : decode cX9_errandOf 14 = .ok (.imul, 1) := by decide +kernel
theorem dX9_errandOf_15 : decode cX9_errandOf 15 = .ok (.iadd, 1) := by decide +kernel
theorem dX9_errandOf_16 : decode cX9_errandOf 16 = .ok (.iload_n 2, 1) := by decide +kernel
theorem dX9_errandOf_17 : decode cX9_errandOf 17 = .ok (.iadd, 1) := by decide +kernel
theorem dX9_errandOf_18 : decode cX9_errandOf 18 = .ok (.iaload, 1) := by decide +kernel
theorem dX9_errandOf_19 : decode cX9_errandOf 19 = .ok (.ireturn, 1) := by decide +kernel
noncomputable def k_X9_errandOf (F : Nat) : AK := ak_aload 0 (ak_getf 9 6 (ak_aload 0 (ak_getf 9 21 (ak_push (vI 184) (ak_iadd (ak_push (vI 4) (ak_iload 1 (ak_imul (ak_iadd (ak_iload 2 (ak_iadd (ak_iald ak_ireturn))))))))))))
noncomputable def m_X9_errandOf (F : Nat) : AF := mkF 1 3 (k_X9_errandOf F)
set_option maxRecDepth 20000 in
theorem s_X9_errandOf (F : Nat) : MA yX9_errandOf cX9_errandOf 3 (some .int) 0 (m_X9_errandOf F) := met_of (Or.inr (Or.inl ⟨rfl, rfl⟩)) (by decide) (by
  unfold k_X9_errandOf
  exact snd_aload_n (pc := 0) (i := 0) dX9_errandOf_0 (snd_getf (pc := 1) cls9 (f := 6) (by decide) wd_1309 dX9_errandOf_1 (snd_aload_n (pc := 4) (i := 0) dX9_errandOf_4 (snd_getf (pc := 5) cls9 (f := 21) (by decide) wd_1324 dX9_errandOf_5 (snd_sipush (pc := 8) (by decide) dX9_errandOf_8 (snd_iadd (pc := 11) dX9_errandOf_11 (snd_iconst (pc := 12) dX9_errandOf_12 (snd_iload_n (pc := 13) (i := 1) dX9_errandOf_13 (snd_imul (pc := 14) dX9_errandOf_14 (snd_iadd (pc := 15) dX9_errandOf_15 (snd_iload_n (pc := 16) (i := 2) dX9_errandOf_16 (snd_iadd (pc := 17) dX9_errandOf_17 (snd_iald (pc := 18) dX9_errandOf_18 (snd_ireturn dX9_errandOf_19))))))))))))))

/-! LastWalkerModel.own()V -/
theorem dX9_own_0 : decode cX9_own 0 = .ok (.iconst 0, 1) := by decide +kernel
theorem dX9_own_1 : decode cX9_own 1 = .ok (.istore_n 1, 1) := by decide +kernel
theorem dX9_own_2 : decode cX9_own 2 = .ok (.iload_n 1, 1) := by decide +kernel
theorem dX9_own_3 : decode cX9_own 3 = .ok (.aload_n 0, 1) := by decide +kernel
theorem dX9_own_4 : decode cX9_own 4 = .ok (.getfield 261, 3) := by decide +kernel
theorem dX9_own_7 : decode cX9_own 7 = .ok (.if_icmp .ge 56, 3) := by decide +kernel
theorem dX9_own_10 : decode cX9_own 10 = .ok (.aload_n 0, 1) := by decide +kernel
theorem dX9_own_11 : decode cX9_own 11 = .ok (.getfield 38, 3) := by decide +kernel
theorem dX9_own_14 : decode cX9_own 14 = .ok (.iload_n 1, 1) := by decide +kernel
theorem dX9_own_15 : decode cX9_own 15 = .ok (.aload_n 0, 1) := by decide +kernel
theorem dX9_own_16 : decode cX9_own 16 = .ok (.getfield 270, 3) := by decide +kernel
theorem dX9_own_19 : decode cX9_own 19 = .ok (.iconst 3, 1) := by decide +kernel
theorem dX9_own_20 : decode cX9_own 20 = .ok (.if_icmp .eq 11, 3) := by decide +kernel
theorem dX9_own_23 : decode cX9_own 23 = .ok (.iload_n 1, 1) := by decide +kernel
theorem dX9_own_24 : decode cX9_own 24 = .ok (.aload_n 0, 1) := by decide +kernel
theorem dX9_own_25 : decode cX9_own 25 = .ok (.getfield 276, 3) := by decide +kernel
theorem dX9_own_28 : decode cX9_own 28 = .ok (.if_icmp .ne 7, 3) := by decide +kernel
theorem dX9_own_31 : decode cX9_own 31 = .ok (.iconst (-1), 1) := by decide +kernel
theorem dX9_own_32 : decode cX9_own 32 = .ok (.goto 24, 3) := by decide +kernel
theorem dX9_own_35 : decode cX9_own 35 = .ok (.iload_n 1, 1) := by decide +kernel
theorem dX9_own_36 : decode cX9_own 36 = .ok (.aload_n 0, 1) := by decide +kernel
theorem dX9_own_37 : decode cX9_own 37 = .ok (.getfield 279, 3) := by decide +kernel
theorem dX9_own_40 : decode cX9_own 40 = .ok (.if_icmp .ne 10, 3) := by decide +kernel
theorem dX9_own_43 : decode cX9_own 43 = .ok (.aload_n 0, 1) := by decide +kernel
theorem dX9_own_44 : decode cX9_own 44 = .ok (.getfield 291, 3) := by decide +kernel
theorem dX9_own_47 : decode cX9_own 47 = .ok (.goto 9, 3) := by decide +kernel
theorem dX9_own_50 : decode cX9_own 50 = .ok (.aload_n 0, 1) := by decide +kernel
theorem dX9_own_51 : decode cX9_own 51 = .ok (.iload_n 1, 1) := by decide +kernel
theorem dX9_own_52 : decode cX9_own 52 = .ok (.iconst 4, 1) := by decide +kernel
theorem dX9_own_53 : decode cX9_own 53 = .ok (.invokevirtual 294, 3) := by decide +kernel
theorem dX9_own_56 : decode cX9_own 56 = .ok (.iastore, 1) := by decide +kernel
theorem dX9_own_57 : decode cX9_own 57 = .ok (.iinc 1 1, 3) := by decide +kernel
theorem dX9_own_60 : decode cX9_own 60 = .ok (.goto (-58), 3) := by decide +kernel
theorem dX9_own_63 : decode cX9_own 63 = .ok (.return_, 1) := by decide +kernel
noncomputable def k_X9_own_56 (F : Nat) (h2 : AK) : AK := ak_iast (ak_iinc 1 1 h2)
set_option maxRecDepth 20000 in
theorem sk_X9_own_56 (F : Nat) {h2 : AK} (hh2 : Snd X0 RX9 cX9_own 2 1 2 h2) : Snd X0 RX9 cX9_own 2 1 56 (k_X9_own_56 F h2) := by
  unfold k_X9_own_56
  exact snd_iast (pc := 56) dX9_own_56 (snd_iinc (pc := 57) (i := 1) (n := 1) (by decide) dX9_own_57 (snd_goto (pc := 60) (off := (-58)) (tgt := 2) (by decide) dX9_own_60 (hh2)))
noncomputable def k_X9_own_31 (F : Nat) (h2 : AK) : AK := ak_push (vI (-1)) ((k_X9_own_56 F h2))
set_option maxRecDepth 20000 in
theorem sk_X9_own_31 (F : Nat) {h2 : AK} (hh2 : Snd X0 RX9 cX9_own 2 1 2 h2) : Snd X0 RX9 cX9_own 2 1 31 (k_X9_own_31 F h2) := by
  unfold k_X9_own_31
  exact snd_iconst (pc := 31) dX9_own_31 (snd_goto (pc := 32) (off := 24) (tgt := 56) (by decide) dX9_own_32 ((sk_X9_own_56 F hh2)))
noncomputable def kb_X9_own_2 (F : Nat) (self : AK) : AK := ak_iload 1 (ak_aload 0 (ak_getf 9 23 (ak_cmplt (ak_aload 0 (ak_getf 9 31 (ak_iload 1 (ak_aload 0 (ak_getf 9 26 (ak_push (vI 3) (ak_cmpeq ((k_X9_own_31 F self)) (ak_iload 1 (ak_aload 0 (ak_getf 9 28 (ak_cmpeq ((k_X9_own_31 F self)) (ak_iload 1 (ak_aload 0 (ak_getf 9 29 (ak_cmpeq (ak_aload 0 (ak_getf 9 30 ((k_X9_own_56 F self)))) (ak_aload 0 (ak_iload 1 (ak_push (vI 4) (ak_callv 9 2 (m_X9_roadOf F) ((k_X9_own_56 F self))))))))))))))))))))) (ak_return))))
noncomputable def k_X9_own_2 (F : Nat) (n : Nat) : AK := Nat.rec (motive := fun _ => AK) ak_none (fun _ self => kb_X9_own_2 F self) n
set_option maxRecDepth 20000 in
theorem sk_X9_own_2 (F : Nat) : ∀ n, Snd X0 RX9 cX9_own 2 1 2 (k_X9_own_2 F n) := by
  intro n
  induction n with
  | zero => exact snd_none
  | succ n ih =>
    show Snd X0 RX9 cX9_own 2 1 2 (kb_X9_own_2 F (k_X9_own_2 F n))
    unfold kb_X9_own_2
    exact snd_iload_n (pc := 2) (i := 1) dX9_own_2 (snd_aload_n (pc := 3) (i := 0) dX9_own_3 (snd_getf (pc := 4) cls9 (f := 23) (by decide) wd_1326 dX9_own_4 (snd_icmpge (pc := 7) (off := 56) (tgt := 63) (by decide) dX9_own_7 (snd_return dX9_own_63) (snd_aload_n (pc := 10) (i := 0) dX9_own_10 (snd_getf (pc := 11) cls9 (f := 31) (by decide) wd_1334 dX9_own_11 (snd_iload_n (pc := 14) (i := 1) dX9_own_14 (snd_aload_n (pc := 15) (i := 0) dX9_own_15 (snd_getf (pc := 16) cls9 (f := 26) (by decide) wd_1329 dX9_own_16 (snd_iconst (pc := 19) dX9_own_19 (snd_icmpeq (pc := 20) (off := 11) (tgt := 31) (by decide) dX9_own_20 ((sk_X9_own_31 F ih)) (snd_iload_n (pc := 23) (i := 1) dX9_own_23 (snd_aload_n (pc := 24) (i := 0) dX9_own_24 (snd_getf (pc := 25) cls9 (f := 28) (by decide) wd_1331 dX9_own_25 (snd_icmpne (pc := 28) (off := 7) (tgt := 35) (by decide) dX9_own_28 (snd_iload_n (pc := 35) (i := 1) dX9_own_35 (snd_aload_n (pc := 36) (i := 0) dX9_own_36 (snd_getf (pc := 37) cls9 (f := 29) (by decide) wd_1332 dX9_own_37 (snd_icmpne (pc := 40) (off := 10) (tgt := 50) (by decide) dX9_own_40 (snd_aload_n (pc := 50) (i := 0) dX9_own_50 (snd_iload_n (pc := 51) (i := 1) dX9_own_51 (snd_iconst (pc := 52) dX9_own_52 (snd_callV (pc := 53) (n := 2) cls9 (s_X9_roadOf F) (by decide) (by decide) wd_1657 wd_1654 wd_1656 wd_77 wd_129 hy_X9_roadOf dX9_own_53 ((sk_X9_own_56 F ih)))))) (snd_aload_n (pc := 43) (i := 0) dX9_own_43 (snd_getf (pc := 44) cls9 (f := 30) (by decide) wd_1333 dX9_own_44 (snd_goto (pc := 47) (off := 9) (tgt := 56) (by decide) dX9_own_47 ((sk_X9_own_56 F ih))))))))) ((sk_X9_own_31 F ih))))))))))))))))
noncomputable def k_X9_own (F : Nat) : AK := ak_push (vI 0) (ak_istore 1 ((k_X9_own_2 F F)))
noncomputable def m_X9_own (F : Nat) : AF := mkF 0 2 (k_X9_own F)
set_option maxRecDepth 20000 in
theorem s_X9_own (F : Nat) : MA yX9_own cX9_own 2 none 1 (m_X9_own F) := met_of (Or.inl ⟨rfl, rfl⟩) (by decide) (by
  unfold k_X9_own
  exact snd_iconst (pc := 0) dX9_own_0 (snd_istore_n (pc := 1) (i := 1) (by decide) dX9_own_1 ((sk_X9_own_2 F F))))

/-! LastWalkerModel.hand(I)V -/
theorem dX9_hand_0 : decode cX9_hand 0 = .ok (.aload_n 0, 1) := by decide +kernel
theorem dX9_hand_1 : decode cX9_hand 1 = .ok (.sipush 232, 3) := by decide +kernel
theorem dX9_hand_4 : decode cX9_hand 4 = .ok (.iload_n 1, 1) := by decide +kernel
theorem dX9_hand_5 : decode cX9_hand 5 = .ok (.imul, 1) := by decide +kernel
theorem dX9_hand_6 : decode cX9_hand 6 = .ok (.putfield 255, 3) := by decide +kernel
theorem dX9_hand_9 : decode cX9_hand 9 = .ok (.aload_n 0, 1) := by decide +kernel
theorem dX9_hand_10 : decode cX9_hand 10 = .ok (.aload_n 0, 1) := by decide +kernel
theorem dX9_hand_11 : decode cX9_hand 11 = .ok (.iload_n 1, 1) := by decide +kernel
theorem dX9_hand_12 : decode cX9_hand 12 = .ok (.iconst 0, 1) := by decide +kernel
theorem dX9_hand_13 : decode cX9_hand 13 = .ok (.invokevirtual 240, 3) := by decide +kernel
theorem dX9_hand_16 : decode cX9_hand 16 = .ok (.putfield 258, 3) := by decide +kernel
theorem dX9_hand_19 : decode cX9_hand 19 = .ok (.aload_n 0, 1) := by decide +kernel
theorem dX9_hand_20 : decode cX9_hand 20 = .ok (.aload_n 0, 1) := by decide +kernel
theorem dX9_hand_21 : decode cX9_hand 21 = .ok (.iload_n 1, 1) := by decide +kernel
theorem dX9_hand_22 : decode cX9_hand 22 = .ok (.iconst 1, 1) := by decide +kernel
theorem dX9_hand_23 : decode cX9_hand 23 = .ok (.invokevirtual 240, 3) := by decide +kernel
theorem dX9_hand_26 : decode cX9_hand 26 = .ok (.putfield 261, 3) := by decide +kernel
theorem dX9_hand_29 : decode cX9_hand 29 = .ok (.aload_n 0, 1) := by decide +kernel
theorem dX9_hand_30 : decode cX9_hand 30 = .ok (.aload_n 0, 1) := by decide +kernel
theorem dX9_hand_31 : decode cX9_hand 31 = .ok (.iload_n 1, 1) := by decide +kernel
theorem dX9_hand_32 : decode cX9_hand 32 = .ok (.iconst 2, 1) := by decide +kernel
theorem dX9_hand_33 : decode cX9_hand 33 = .ok (.invokevirtual 240, 3) := by decide +kernel
theorem dX9_hand_36 : decode cX9_hand 36 = .ok (.putfield 264, 3) := by decide +kernel
theorem dX9_hand_39 : decode cX9_hand 39 = .ok (.aload_n 0, 1) := by decide +kernel
theorem dX9_hand_40 : decode cX9_hand 40 = .ok (.aload_n 0, 1) := by decide +kernel
theorem dX9_hand_41 : decode cX9_hand 41 = .ok (.iload_n 1, 1) := by decide +kernel
theorem dX9_hand_42 : decode cX9_hand 42 = .ok (.iconst 3, 1) := by decide +kernel
theorem dX9_hand_43 : decode cX9_hand 43 = .ok (.invokevirtual 240, 3) := by decide +kernel
theorem dX9_hand_46 : decode cX9_hand 46 = .ok (.putfield 267, 3) := by decide +kernel
theorem dX9_hand_49 : decode cX9_hand 49 = .ok (.aload_n 0, 1) := by decide +kernel
theorem dX9_hand_50 : decode cX9_hand 50 = .ok (.aload_n 0, 1) := by decide +kernel
theorem dX9_hand_51 : decode cX9_hand 51 = .ok (.iload_n 1, 1) := by decide +kernel
theorem dX9_hand_52 : decode cX9_hand 52 = .ok (.iconst 4, 1) := by decide +kernel
theorem dX9_hand_53 : decode cX9_hand 53 = .ok (.invokevirtual 240, 3) := by decide +kernel
theorem dX9_hand_56 : decode cX9_hand 56 = .ok (.putfield 270, 3) := by decide +kernel
theorem dX9_hand_59 : decode cX9_hand 59 = .ok (.aload_n 0, 1) := by decide +kernel
theorem dX9_hand_60 : decode cX9_hand 60 = .ok (.aload_n 0, 1) := by decide +kernel
theorem dX9_hand_61 : decode cX9_hand 61 = .ok (.iload_n 1, 1) := by decide +kernel
theorem dX9_hand_62 : decode cX9_hand 62 = .ok (.iconst 5, 1) := by decide +kernel
theorem dX9_hand_63 : decode cX9_hand 63 = .ok (.invokevirtual 240, 3) := by decide +kernel
theorem dX9_hand_66 : decode cX9_hand 66 = .ok (.putfield 273, 3) := by decide +kernel
theorem dX9_hand_69 : decode cX9_hand 69 = .ok (.aload_n 0, 1) := by decide +kernel
theorem dX9_hand_70 : decode cX9_hand 70 = .ok (.iconst (-1), 1) := by decide +kernel
theorem dX9_hand_71 : decode cX9_hand 71 = .ok (.putfield 276, 3) := by decide +kernel
theorem dX9_hand_74 : decode cX9_hand 74 = .ok (.aload_n 0, 1) := by decide +kernel
theorem dX9_hand_75 : decode cX9_hand 75 = .ok (.iconst (-1), 1) := by decide +kernel
theorem dX9_hand_76 : decode cX9_hand 76 = .ok (.putfield 279, 3) := by decide +kernel
theorem dX9_hand_79 : decode cX9_hand 79 = .ok (.iconst 0, 1) := by decide +kernel
theorem dX9_hand_80 : decode cX9_hand 80 = .ok (.istore_n 2, 1) := by decide +kernel
theorem dX9_hand_81 : decode cX9_hand 81 = .ok (.iload_n 2, 1) := by decide +kernel
theorem dX9_hand_82 : decode cX9_hand 82 = .ok (.aload_n 0, 1) := by decide +kernel
theorem dX9_hand_83 : decode cX9_hand 83 = .ok (.getfield 264, 3) := by decide +kernel
theorem dX9_hand_86 : decode cX9_hand 86 = .ok (.if_icmp .ge 33, 3) := by decide +kernel
theorem dX9_hand_89 : decode cX9_hand 89 = .ok (.aload_n 0, 1) := by decide +kernel
theorem dX9_hand_90 : decode cX9_hand 90 = .ok (.getfield 41, 3) := by decide +kernel
theorem dX9_hand_93 : decode cX9_hand 93 = .ok (.iload_n 2, 1) := by decide +kernel
theorem dX9_hand_94 : decode cX9_hand 94 = .ok (.aload_n 0, 1) := by decide +kernel
theorem dX9_hand_95 : decode cX9_hand 95 = .ok (.iload_n 2, 1) := by decide +kernel
theorem dX9_hand_96 : decode cX9_hand 96 = .ok (.iconst 2, 1) := by decide +kernel
theorem dX9_hand_97 : decode cX9_hand 97 = .ok (.invokevirtual 282, 3) := by decide +kernel
theorem dX9_hand_100 : decode cX9_hand 100 = .ok (.iastore, 1) := by decide +kernel
theorem dX9_hand_101 : decode cX9_hand 101 = .ok (.aload_n 0, 1) := by decide +kernel
theorem dX9_hand_102 : decode cX9_hand 102 = .ok (.getfield 78, 3) := by decide +kernel
theorem dX9_hand_105 : decode cX9_hand 105 = .ok (.iload_n 2, 1) := by decide +kernel
theorem dX9_hand_106 : decode cX9_hand 106 = .ok (.aload_n 0, 1) := by decide +kernel
theorem dX9_hand_107 : decode cX9_hand 107 = .ok (.iload_n 2, 1) := by decide +kernel
theorem dX9_hand_108 : decode cX9_hand 108 = .ok (.iconst 0, 1) := by decide +kernel
theorem dX9_hand_109 : decode cX9_hand 109 = .ok (.invokevirtual 282, 3) := by decide +kernel
theorem dX9_hand_112 : decode cX9_hand 112 = .ok (.iastore, 1) := by decide +kernel
theorem dX9_hand_113 : decode cX9_hand 113 = .ok (.iinc 2 1, 3) := by decide +kernel
theorem dX9_hand_116 : decode cX9_hand 116 = .ok (.goto (-35), 3) := by decide +kernel
theorem dX9_hand_119 : decode cX9_hand 119 = .ok (.iconst 0, 1) := by decide +kernel
theorem dX9_hand_120 : decode cX9_hand 120 = .ok (.istore_n 2, 1) := by decide +kernel
theorem dX9_hand_121 : decode cX9_hand 121 = .ok (.iload_n 2, 1) := by decide +kernel
theorem dX9_hand_122 : decode cX9_hand 122 = .ok (.aload_n 0, 1) := by decide +kernel
theorem dX9_hand_123 : decode cX9_hand 123 = .ok (.getfield 267, 3) := by decide +kernel
theorem dX9_hand_126 : decode cX9_hand 126 = .ok (.if_icmp .ge 21, 3) := by decide +kernel
theorem dX9_hand_129 : decode cX9_hand 129 = .ok (.aload_n 0, 1) := by decide +kernel
theorem dX9_hand_130 : decode cX9_hand 130 = .ok (.getfield 81, 3) := by decide +kernel
theorem dX9_hand_133 : decode cX9_hand 133 = .ok (.iload_n 2, 1) := by decide +kernel
theorem dX9_hand_134 : decode cX9_hand 134 = .ok (.aload_n 0, 1) := by decide +kernel
theorem dX9_hand_135 : decode cX9_hand 135 = .ok (.iload_n 2, 1) := by decide +kernel
theorem dX9_hand_136 : decode cX9_hand 136 = .ok (.iconst 2, 1) := by decide +kernel
theorem dX9_hand_137 : decode cX9_hand 137 = .ok (.invokevirtual 285, 3) := by decide +kernel
theorem dX9_hand_140 : decode cX9_hand 140 = .ok (.iastore, 1) := by decide +kernel
theorem dX9_hand_141 : decode cX9_hand 141 = .ok (.iinc 2 1, 3) := by decide +kernel
theorem dX9_hand_144 : decode cX9_hand 144 = .ok (.goto (-23), 3) := by decide +kernel
theorem dX9_hand_147 : decode cX9_hand 147 = .ok (.aload_n 0, 1) := by decide +kernel
theorem dX9_hand_148 : decode cX9_hand 148 = .ok (.invokevirtual 288, 3) := by decide +kernel
theorem dX9_hand_151 : decode cX9_hand 151 = .ok (.return_, 1) := by decide +kernel
noncomputable def kb_X9_hand_121 (F : Nat) (self : AK) : AK := ak_iload 2 (ak_aload 0 (ak_getf 9 25 (ak_cmplt (ak_aload 0 (ak_getf 9 51 (ak_iload 2 (ak_aload 0 (ak_iload 2 (ak_push (vI 2) (ak_callv 9 2 (m_X9_errandOf F) (ak_iast (ak_iinc 2 1 self))))))))) (ak_aload 0 (ak_callv 9 0 (m_X9_own F) ak_return)))))
noncomputable def k_X9_hand_121 (F : Nat) (n : Nat) : AK := Nat.rec (motive := fun _ => AK) ak_none (fun _ self => kb_X9_hand_121 F self) n
set_option maxRecDepth 20000 in
theorem sk_X9_hand_121 (F : Nat) : ∀ n, Snd X0 RX9 cX9_hand 3 2 121 (k_X9_hand_121 F n) := by
  intro n
  induction n with
  | zero => exact snd_none
  | succ n ih =>
    show Snd X0 RX9 cX9_hand 3 2 121 (kb_X9_hand_121 F (k_X9_hand_121 F n))
    unfold kb_X9_hand_121
    exact snd_iload_n (pc := 121) (i := 2) dX9_hand_121 (snd_aload_n (pc := 122) (i := 0) dX9_hand_122 (snd_getf (pc := 123) cls9 (f := 25) (by decide) wd_1328 dX9_hand_123 (snd_icmpge (pc := 126) (off := 21) (tgt := 147) (by decide) dX9_hand_126 (snd_aload_n (pc := 147) (i := 0) dX9_hand_147 (snd_callV (pc := 148) (n := 0) cls9 (s_X9_own F) (by decide) (by decide) wd_1653 wd_1650 wd_1652 wd_76 wd_129 hy_X9_own dX9_hand_148 (snd_return dX9_hand_151))) (snd_aload_n (pc := 129) (i := 0) dX9_hand_129 (snd_getf (pc := 130) cls9 (f := 51) (by decide) wd_1354 dX9_hand_130 (snd_iload_n (pc := 133) (i := 2) dX9_hand_133 (snd_aload_n (pc := 134) (i := 0) dX9_hand_134 (snd_iload_n (pc := 135) (i := 2) dX9_hand_135 (snd_iconst (pc := 136) dX9_hand_136 (snd_callV (pc := 137) (n := 2) cls9 (s_X9_errandOf F) (by decide) (by decide) wd_1649 wd_1646 wd_1648 wd_75 wd_129 hy_X9_errandOf dX9_hand_137 (snd_iast (pc := 140) dX9_hand_140 (snd_iinc (pc := 141) (i := 2) (n := 1) (by decide) dX9_hand_141 (snd_goto (pc := 144) (off := (-23)) (tgt := 121) (by decide) dX9_hand_144 (ih))))))))))))))
noncomputable def kb_X9_hand_81 (F : Nat) (self : AK) : AK := ak_iload 2 (ak_aload 0 (ak_getf 9 24 (ak_cmplt (ak_aload 0 (ak_getf 9 32 (ak_iload 2 (ak_aload 0 (ak_iload 2 (ak_push (vI 2) (ak_callv 9 2 (m_X9_personOf F) (ak_iast (ak_aload 0 (ak_getf 9 50 (ak_iload 2 (ak_aload 0 (ak_iload 2 (ak_push (vI 0) (ak_callv 9 2 (m_X9_personOf F) (ak_iast (ak_iinc 2 1 self))))))))))))))))) (ak_push (vI 0) (ak_istore 2 ((k_X9_hand_121 F F)))))))
noncomputable def k_X9_hand_81 (F : Nat) (n : Nat) : AK := Nat.rec (motive := fun _ => AK) ak_none (fun _ self => kb_X9_hand_81 F self) n
set_option maxRecDepth 20000 in
theorem sk_X9_hand_81 (F : Nat) : ∀ n, Snd X0 RX9 cX9_hand 3 2 81 (k_X9_hand_81 F n) := by
  intro n
  induction n with
  | zero => exact snd_none
  | succ n ih =>
    show Snd X0 RX9 cX9_hand 3 2 81 (kb_X9_hand_81 F (k_X9_hand_81 F n))
    unfold kb_X9_hand_81
    exact snd_iload_n (pc := 81) (i := 2) dX9_hand_81 (snd_aload_n (pc := 82) (i := 0) dX9_hand_82 (snd_getf (pc := 83) cls9 (f := 24) (by decide) wd_1327 dX9_hand_83 (snd_icmpge (pc := 86) (off := 33) (tgt := 119) (by decide) dX9_hand_86 (snd_iconst (pc := 119) dX9_hand_119 (snd_istore_n (pc := 120) (i := 2) (by decide) dX9_hand_120 ((sk_X9_hand_121 F F)))) (snd_aload_n (pc := 89) (i := 0) dX9_hand_89 (snd_getf (pc := 90) cls9 (f := 32) (by decide) wd_1335 dX9_hand_90 (snd_iload_n (pc := 93) (i := 2) dX9_hand_93 (snd_aload_n (pc := 94) (i := 0) dX9_hand_94 (snd_iload_n (pc := 95) (i := 2) dX9_hand_95 (snd_iconst (pc := 96) dX9_hand_96 (snd_callV (pc := 97) (n := 2) cls9 (s_X9_personOf F) (by decide) (by decide) wd_1645 wd_1642 wd_1644 wd_74 wd_129 hy_X9_personOf dX9_hand_97 (snd_iast (pc := 100) dX9_hand_100 (snd_aload_n (pc := 101) (i := 0) dX9_hand_101 (snd_getf (pc := 102) cls9 (f := 50) (by decide) wd_1353 dX9_hand_102 (snd_iload_n (pc := 105) (i := 2) dX9_hand_105 (snd_aload_n (pc := 106) (i := 0) dX9_hand_106 (snd_iload_n (pc := 107) (i := 2) dX9_hand_107 (snd_iconst (pc := 108) dX9_hand_108 (snd_callV (pc := 109) (n := 2) cls9 (s_X9_personOf F) (by decide) (by decide) wd_1645 wd_1642 wd_1644 wd_74 wd_129 hy_X9_personOf dX9_hand_109 (snd_iast (pc := 112) dX9_hand_112 (snd_iinc (pc := 113) (i := 2) (n := 1) (by decide) dX9_hand_113 (snd_goto (pc := 116) (off := (-35)) (tgt := 81) (by decide) dX9_hand_116 (ih))))))))))))))))))))))
noncomputable def k_X9_hand (F : Nat) : AK := ak_aload 0 (ak_push (vI 232) (ak_iload 1 (ak_imul (ak_putf 9 21 (ak_aload 0 (ak_aload 0 (ak_iload 1 (ak_push (vI 0) (ak_callv 9 2 (m_X9_of F) (ak_putf 9 22 (ak_aload 0 (ak_aload 0 (ak_iload 1 (ak_push (vI 1) (ak_callv 9 2 (m_X9_of F) (ak_putf 9 23 (ak_aload 0 (ak_aload 0 (ak_iload 1 (ak_push (vI 2) (ak_callv 9 2 (m_X9_of F) (ak_putf 9 24 (ak_aload 0 (ak_aload 0 (ak_iload 1 (ak_push (vI 3) (ak_callv 9 2 (m_X9_of F) (ak_putf 9 25 (ak_aload 0 (ak_aload 0 (ak_iload 1 (ak_push (vI 4) (ak_callv 9 2 (m_X9_of F) (ak_putf 9 26 (ak_aload 0 (ak_aload 0 (ak_iload 1 (ak_push (vI 5) (ak_callv 9 2 (m_X9_of F) (ak_putf 9 27 (ak_aload 0 (ak_push (vI (-1)) (ak_putf 9 28 (ak_aload 0 (ak_push (vI (-1)) (ak_putf 9 29 (ak_push (vI 0) (ak_istore 2 ((k_X9_hand_81 F F))))))))))))))))))))))))))))))))))))))))))))))))))
noncomputable def m_X9_hand (F : Nat) : AF := mkF 0 3 (k_X9_hand F)
set_option maxRecDepth 20000 in
theorem s_X9_hand (F : Nat) : MA yX9_hand cX9_hand 3 none 2 (m_X9_hand F) := met_of (Or.inl ⟨rfl, rfl⟩) (by decide) (by
  unfold k_X9_hand
  exact snd_aload_n (pc := 0) (i := 0) dX9_hand_0 (snd_sipush (pc := 1) (by decide) dX9_hand_1 (snd_iload_n (pc := 4) (i := 1) dX9_hand_4 (snd_imul (pc := 5) dX9_hand_5 (snd_putf (pc := 6) cls9 (f := 21) (by decide) rfl rfl rfl wd_1324 dX9_hand_6 (snd_aload_n (pc := 9) (i := 0) dX9_hand_9 (snd_aload_n (pc := 10) (i := 0) dX9_hand_10 (snd_iload_n (pc := 11) (i := 1) dX9_hand_11 (snd_iconst (pc := 12) dX9_hand_12 (snd_callV (pc := 13) (n := 2) cls9 (s_X9_of F) (by decide) (by decide) wd_1597 wd_1594 wd_1596 wd_67 wd_129 hy_X9_of dX9_hand_13 (snd_putf (pc := 16) cls9 (f := 22) (by decide) rfl rfl rfl wd_1325 dX9_hand_16 (snd_aload_n (pc := 19) (i := 0) dX9_hand_19 (snd_aload_n (pc := 20) (i := 0) dX9_hand_20 (snd_iload_n (pc := 21) (i := 1) dX9_hand_21 (snd_iconst (pc := 22) dX9_hand_22 (snd_callV (pc := 23) (n := 2) cls9 (s_X9_of F) (by decide) (by decide) wd_1597 wd_1594 wd_1596 wd_67 wd_129 hy_X9_of dX9_hand_23 (snd_putf (pc := 26) cls9 (f := 23) (by decide) rfl rfl rfl wd_1326 dX9_hand_26 (snd_aload_n (pc := 29) (i := 0) dX9_hand_29 (snd_aload_n (pc := 30) (i := 0) dX9_hand_30 (snd_iload_n (pc := 31) (i := 1) dX9_hand_31 (snd_iconst (pc := 32) dX9_hand_32 (snd_callV (pc := 33) (n := 2) cls9 (s_X9_of F) (by decide) (by decide) wd_1597 wd_1594 wd_1596 wd_67 wd_129 hy_X9_of dX9_hand_33 (snd_putf (pc := 36) cls9 (f := 24) (by decide) rfl rfl rfl wd_1327 dX9_hand_36 (snd_aload_n (pc := 39) (i := 0) dX9_hand_39 (snd_aload_n (pc := 40) (i := 0) dX9_hand_40 (snd_iload_n (pc := 41) (i := 1) dX9_hand_41 (snd_iconst (pc := 42) dX9_hand_42 (snd_callV (pc := 43) (n := 2) cls9 (s_X9_of F) (by decide) (by decide) wd_1597 wd_1594 wd_1596 wd_67 wd_129 hy_X9_of dX9_hand_43 (snd_putf (pc := 46) cls9 (f := 25) (by decide) rfl rfl rfl wd_1328 dX9_hand_46 (snd_aload_n (pc := 49) (i := 0) dX9_hand_49 (snd_aload_n (pc := 50) (i := 0) dX9_hand_50 (snd_iload_n (pc := 51) (i := 1) dX9_hand_51 (snd_iconst (pc := 52) dX9_hand_52 (snd_callV (pc := 53) (n := 2) cls9 (s_X9_of F) (by decide) (by decide) wd_1597 wd_1594 wd_1596 wd_67 wd_129 hy_X9_of dX9_hand_53 (snd_putf (pc := 56) cls9 (f := 26) (by decide) rfl rfl rfl wd_1329 dX9_hand_56 (snd_aload_n (pc := 59) (i := 0) dX9_hand_59 (snd_aload_n (pc := 60) (i := 0) dX9_hand_60 (snd_iload_n (pc := 61) (i := 1) dX9_hand_61 (snd_iconst (pc := 62) dX9_hand_62 (snd_callV (pc := 63) (n := 2) cls9 (s_X9_of F) (by decide) (by decide) wd_1597 wd_1594 wd_1596 wd_67 wd_129 hy_X9_of dX9_hand_63 (snd_putf (pc := 66) cls9 (f := 27) (by decide) rfl rfl rfl wd_1330 dX9_hand_66 (snd_aload_n (pc := 69) (i := 0) dX9_hand_69 (snd_iconst (pc := 70) dX9_hand_70 (snd_putf (pc := 71) cls9 (f := 28) (by decide) rfl rfl rfl wd_1331 dX9_hand_71 (snd_aload_n (pc := 74) (i := 0) dX9_hand_74 (snd_iconst (pc := 75) dX9_hand_75 (snd_putf (pc := 76) cls9 (f := 29) (by decide) rfl rfl rfl wd_1332 dX9_hand_76 (snd_iconst (pc := 79) dX9_hand_79 (snd_istore_n (pc := 80) (i := 2) (by decide) dX9_hand_80 ((sk_X9_hand_81 F F)))))))))))))))))))))))))))))))))))))))))))))))))))

/-! LastWalkerModel.penny(I)I -/
theorem dX9_penny_0 : decode cX9_penny 0 = .ok (.iload_n 1, 1) := by decide +kernel
theorem dX9_penny_1 : decode cX9_penny 1 = .ok (.aload_n 0, 1) := by decide +kernel
theorem dX9_penny_2 : decode cX9_penny 2 = .ok (.getfield 276, 3) := by decide +kernel
theorem dX9_penny_5 : decode cX9_penny 5 = .ok (.if_icmp .ne 7, 3) := by decide +kernel
theorem dX9_penny_8 : decode cX9_penny 8 = .ok (.iconst 0, 1) := by decide +kernel
theorem dX9_penny_9 : decode cX9_penny 9 = .ok (.goto 9, 3) := by decide +kernel
theorem dX9_penny_12 : decode cX9_penny 12 = .ok (.aload_n 0, 1) := by decide +kernel
theorem dX9_penny_13 : decode cX9_penny 13 = .ok (.iload_n 1, 1) := by decide +kernel
theorem dX9_penny_14 : decode cX9_penny 14 = .ok (.iconst 3, 1) := by decide +kernel
theorem dX9_penny_15 : decode cX9_penny 15 = .ok (.invokevirtual 294, 3) := by decide +kernel
theorem dX9_penny_18 : decode cX9_penny 18 = .ok (.ireturn, 1) := by decide +kernel
noncomputable def k_X9_penny (F : Nat) : AK := ak_iload 1 (ak_aload 0 (ak_getf 9 28 (ak_cmpeq (ak_push (vI 0) ak_ireturn) (ak_aload 0 (ak_iload 1 (ak_push (vI 3) (ak_callv 9 2 (m_X9_roadOf F) ak_ireturn)))))))
noncomputable def m_X9_penny (F : Nat) : AF := mkF 1 2 (k_X9_penny F)
set_option maxRecDepth 20000 in
theorem s_X9_penny (F : Nat) : MA yX9_penny cX9_penny 2 (some .int) 1 (m_X9_penny F) := met_of (Or.inr (Or.inl ⟨rfl, rfl⟩)) (by decide) (by
  unfold k_X9_penny
  exact snd_iload_n (pc := 0) (i := 1) dX9_penny_0 (snd_aload_n (pc := 1) (i := 0) dX9_penny_1 (snd_getf (pc := 2) cls9 (f := 28) (by decide) wd_1331 dX9_penny_2 (snd_icmpne (pc := 5) (off := 7) (tgt := 12) (by decide) dX9_penny_5 (snd_aload_n (pc := 12) (i := 0) dX9_penny_12 (snd_iload_n (pc := 13) (i := 1) dX9_penny_13 (snd_iconst (pc := 14) dX9_penny_14 (snd_callV (pc := 15) (n := 2) cls9 (s_X9_roadOf F) (by decide) (by decide) wd_1657 wd_1654 wd_1656 wd_77 wd_129 hy_X9_roadOf dX9_penny_15 (snd_ireturn dX9_penny_18))))) (snd_iconst (pc := 8) dX9_penny_8 (snd_goto (pc := 9) (off := 9) (tgt := 18) (by decide) dX9_penny_9 (snd_ireturn dX9_penny_18)))))))

/-! LastWalkerModel.isRoad(I)Z -/
theorem dX9_isRoad_0 : decode cX9_isRoad 0 = .ok (.iload_n 1, 1) := by decide +kernel
theorem dX9_isRoad_1 : decode cX9_isRoad 1 = .ok (.iconst 0, 1) := by decide +kernel
theorem dX9_isRoad_2 : decode cX9_isRoad 2 = .ok (.aload_n 0, 1) := by decide +kernel
theorem dX9_isRoad_3 : decode cX9_isRoad 3 = .ok (.getfield 261, 3) := by decide +kernel
theorem dX9_isRoad_6 : decode cX9_isRoad 6 = .ok (.iconst 1, 1) := by decide +kernel
theorem dX9_isRoad_7 : decode cX9_isRoad 7 = .ok (.isub, 1) := by decide +kernel
theorem dX9_isRoad_8 : decode cX9_isRoad 8 = .ok (.invokestatic 120, 3) := by decide +kernel
theorem dX9_isRoad_11 : decode cX9_isRoad 11 = .ok (.ireturn, 1) := by decide +kernel
noncomputable def k_X9_isRoad (F : Nat) : AK := ak_iload 1 (ak_push (vI 0) (ak_aload 0 (ak_getf 9 23 (ak_push (vI 1) (ak_isub (ak_call 3 (m_X9_in F) ak_ireturn))))))
noncomputable def m_X9_isRoad (F : Nat) : AF := mkF 2 2 (k_X9_isRoad F)
set_option maxRecDepth 20000 in
theorem s_X9_isRoad (F : Nat) : MA yX9_isRoad cX9_isRoad 2 (some .boolean) 1 (m_X9_isRoad F) := met_of (Or.inr (Or.inr (Or.inl ⟨rfl, rfl⟩))) (by decide) (by
  unfold k_X9_isRoad
  exact snd_iload_n (pc := 0) (i := 1) dX9_isRoad_0 (snd_iconst (pc := 1) dX9_isRoad_1 (snd_aload_n (pc := 2) (i := 0) dX9_isRoad_2 (snd_getf (pc := 3) cls9 (f := 23) (by decide) wd_1326 dX9_isRoad_3 (snd_iconst (pc := 6) dX9_isRoad_6 (snd_isub (pc := 7) dX9_isRoad_7 (snd_callS (pc := 8) (n := 3) (s_X9_in F) (by decide) (by decide) wd_1511 wd_1509 wd_1510 wd_129 hy_X9_in dX9_isRoad_8 (snd_ireturn dX9_isRoad_11))))))))

/-! LastWalkerModel.isPerson(I)Z -/
theorem dX9_isPerson_0 : decode cX9_isPerson 0 = .ok (.iload_n 1, 1) := by decide +kernel
theorem dX9_isPerson_1 : decode cX9_isPerson 1 = .ok (.iconst 0, 1) := by decide +kernel
theorem dX9_isPerson_2 : decode cX9_isPerson 2 = .ok (.aload_n 0, 1) := by decide +kernel
theorem dX9_isPerson_3 : decode cX9_isPerson 3 = .ok (.getfield 264, 3) := by decide +kernel
theorem dX9_isPerson_6 : decode cX9_isPerson 6 = .ok (.iconst 1, 1) := by decide +kernel
theorem dX9_isPerson_7 : decode cX9_isPerson 7 = .ok (.isub, 1) := by decide +kernel
theorem dX9_isPerson_8 : decode cX9_isPerson 8 = .ok (.invokestatic 120, 3) := by decide +kernel
theorem dX9_isPerson_11 : decode cX9_isPerson 11 = .ok (.ireturn, 1) := by decide +kernel
noncomputable def k_X9_isPerson (F : Nat) : AK := ak_iload 1 (ak_push (vI 0) (ak_aload 0 (ak_getf 9 24 (ak_push (vI 1) (ak_isub (ak_call 3 (m_X9_in F) ak_ireturn))))))
noncomputable def m_X9_isPerson (F : Nat) : AF := mkF 2 2 (k_X9_isPerson F)
set_option maxRecDepth 20000 in
theorem s_X9_isPerson (F : Nat) : MA yX9_isPerson cX9_isPerson 2 (some .boolean) 1 (m_X9_isPerson F) := met_of (Or.inr (Or.inr (Or.inl ⟨rfl, rfl⟩))) (by decide) (by
  unfold k_X9_isPerson
  exact snd_iload_n (pc := 0) (i := 1) dX9_isPerson_0 (snd_iconst (pc := 1) dX9_isPerson_1 (snd_aload_n (pc := 2) (i := 0) dX9_isPerson_2 (snd_getf (pc := 3) cls9 (f := 24) (by decide) wd_1327 dX9_isPerson_3 (snd_iconst (pc := 6) dX9_isPerson_6 (snd_isub (pc := 7) dX9_isPerson_7 (snd_callS (pc := 8) (n := 3) (s_X9_in F) (by decide) (by decide) wd_1511 wd_1509 wd_1510 wd_129 hy_X9_in dX9_isPerson_8 (snd_ireturn dX9_isPerson_11))))))))

/-! LastWalkerModel.isPlace(I)Z -/
theorem dX9_isPlace_0 : decode cX9_isPlace 0 = .ok (.iload_n 1, 1) := by decide +kernel
theorem dX9_isPlace_1 : decode cX9_isPlace 1 = .ok (.iconst 0, 1) := by decide +kernel
theorem dX9_isPlace_2 : decode cX9_isPlace 2 = .ok (.aload_n 0, 1) := by decide +kernel
theorem dX9_isPlace_3 : decode cX9_isPlace 3 = .ok (.getfield 258, 3) := by decide +kernel
theorem dX9_isPlace_6 : decode cX9_isPlace 6 = .ok (.iconst 1, 1) := by decide +kernel
theorem dX9_isPlace_7 : decode cX9_isPlace 7 = .ok (.isub, 1) := by decide +kernel
theorem dX9_isPlace_8 : decode cX9_isPlace 8 = .ok (.invokestatic 120, 3) := by decide +kernel
theorem dX9_isPlace_11 : decode cX9_isPlace 11 = .ok (.ireturn, 1) := by decide +kernel
noncomputable def k_X9_isPlace (F : Nat) : AK := ak_iload 1 (ak_push (vI 0) (ak_aload 0 (ak_getf 9 22 (ak_push (vI 1) (ak_isub (ak_call 3 (m_X9_in F) ak_ireturn))))))
noncomputable def m_X9_isPlace (F : Nat) : AF := mkF 2 2 (k_X9_isPlace F)
set_option maxRecDepth 20000 in
theorem s_X9_isPlace (F : Nat) : MA yX9_isPlace cX9_isPlace 2 (some .boolean) 1 (m_X9_isPlace F) := met_of (Or.inr (Or.inr (Or.inl ⟨rfl, rfl⟩))) (by decide) (by
  unfold k_X9_isPlace
  exact snd_iload_n (pc := 0) (i := 1) dX9_isPlace_0 (snd_iconst (pc := 1) dX9_isPlace_1 (snd_aload_n (pc := 2) (i := 0) dX9_isPlace_2 (snd_getf (pc := 3) cls9 (f := 22) (by decide) wd_1325 dX9_isPlace_3 (snd_iconst (pc := 6) dX9_isPlace_6 (snd_isub (pc := 7) dX9_isPlace_7 (snd_callS (pc := 8) (n := 3) (s_X9_in F) (by decide) (by decide) wd_1511 wd_1509 wd_1510 wd_129 hy_X9_in dX9_isPlace_8 (snd_ireturn dX9_isPlace_11))))))))

/-! LastWalkerModel.ends(II)Z -/
theorem dX9_ends_0 : decode cX9_ends 0 = .ok (.aload_n 0, 1) := by decide +kernel
theorem dX9_ends_1 : decode cX9_ends 1 = .ok (.iload_n 1, 1) := by decide +kernel
theorem dX9_ends_2 : decode cX9_ends 2 = .ok (.iconst 0, 1) := by decide +kernel
theorem dX9_ends_3 : decode cX9_ends 3 = .ok (.invokevirtual 294, 3) := by decide +kernel
theorem dX9_ends_6 : decode cX9_ends 6 = .ok (.iload_n 2, 1) := by decide +kernel
theorem dX9_ends_7 : decode cX9_ends 7 = .ok (.if_icmp .eq 13, 3) := by decide +kernel
theorem dX9_ends_10 : decode cX9_ends 10 = .ok (.aload_n 0, 1) := by decide +kernel
theorem dX9_ends_11 : decode cX9_ends 11 = .ok (.iload_n 1, 1) := by decide +kernel
theorem dX9_ends_12 : decode cX9_ends 12 = .ok (.iconst 1, 1) := by decide +kernel
theorem dX9_ends_13 : decode cX9_ends 13 = .ok (.invokevirtual 294, 3) := by decide +kernel
theorem dX9_ends_16 : decode cX9_ends 16 = .ok (.iload_n 2, 1) := by decide +kernel
theorem dX9_ends_17 : decode cX9_ends 17 = .ok (.if_icmp .ne 7, 3) := by decide +kernel
theorem dX9_ends_20 : decode cX9_ends 20 = .ok (.iconst 1, 1) := by decide +kernel
theorem dX9_ends_21 : decode cX9_ends 21 = .ok (.goto 4, 3) := by decide +kernel
theorem dX9_ends_24 : decode cX9_ends 24 = .ok (.iconst 0, 1) := by decide +kernel
theorem dX9_ends_25 : decode cX9_ends 25 = .ok (.ireturn, 1) := by decide +kernel
noncomputable def k_X9_ends_20 (F : Nat) : AK := ak_push (vI 1) ak_ireturn
set_option maxRecDepth 20000 in
theorem sk_X9_ends_20 (F : Nat) : Snd X0 RX9 cX9_ends 3 1 20 (k_X9_ends_20 F) := by
  unfold k_X9_ends_20
  exact snd_iconst (pc := 20) dX9_ends_20 (snd_goto (pc := 21) (off := 4) (tgt := 25) (by decide) dX9_ends_21 (snd_ireturn dX9_ends_25))
noncomputable def k_X9_ends (F : Nat) : AK := ak_aload 0 (ak_iload 1 (ak_push (vI 0) (ak_callv 9 2 (m_X9_roadOf F) (ak_iload 2 (ak_cmpeq ((k_X9_ends_20 F)) (ak_aload 0 (ak_iload 1 (ak_push (vI 1) (ak_callv 9 2 (m_X9_roadOf F) (ak_iload 2 (ak_cmpeq ((k_X9_ends_20 F)) (ak_push (vI 0) ak_ireturn))))))))))))
noncomputable def m_X9_ends (F : Nat) : AF := mkF 2 3 (k_X9_ends F)
set_option maxRecDepth 20000 in
theorem s_X9_ends (F : Nat) : MA yX9_ends cX9_ends 3 (some .boolean) 1 (m_X9_ends F) := met_of (Or.inr (Or.inr (Or.inl ⟨rfl, rfl⟩))) (by decide) (by
  unfold k_X9_ends
  exact snd_aload_n (pc := 0) (i := 0) dX9_ends_0 (snd_iload_n (pc := 1) (i := 1) dX9_ends_1 (snd_iconst (pc := 2) dX9_ends_2 (snd_callV (pc := 3) (n := 2) cls9 (s_X9_roadOf F) (by decide) (by decide) wd_1657 wd_1654 wd_1656 wd_77 wd_129 hy_X9_roadOf dX9_ends_3 (snd_iload_n (pc := 6) (i := 2) dX9_ends_6 (snd_icmpeq (pc := 7) (off := 13) (tgt := 20) (by decide) dX9_ends_7 ((sk_X9_ends_20 F)) (snd_aload_n (pc := 10) (i := 0) dX9_ends_10 (snd_iload_n (pc := 11) (i := 1) dX9_ends_11 (snd_iconst (pc := 12) dX9_ends_12 (snd_callV (pc := 13) (n := 2) cls9 (s_X9_roadOf F) (by decide) (by decide) wd_1657 wd_1654 wd_1656 wd_77 wd_129 hy_X9_roadOf dX9_ends_13 (snd_iload_n (pc := 16) (i := 2) dX9_ends_16 (snd_icmpne (pc := 17) (off := 7) (tgt := 24) (by decide) dX9_ends_17 (snd_iconst (pc := 24) dX9_ends_24 (snd_ireturn dX9_ends_25)) ((sk_X9_ends_20 F))))))))))))))

/-! LastWalkerModel.farEnd(II)I -/
theorem dX9_farEnd_0 : decode cX9_farEnd 0 = .ok (.aload_n 0, 1) := by decide +kernel
theorem dX9_farEnd_1 : decode cX9_farEnd 1 = .ok (.iload_n 1, 1) := by decide +kernel
theorem dX9_farEnd_2 : decode cX9_farEnd 2 = .ok (.iconst 0, 1) := by decide +kernel
theorem dX9_farEnd_3 : decode cX9_farEnd 3 = .ok (.invokevirtual 294, 3) := by decide +kernel
theorem dX9_farEnd_6 : decode cX9_farEnd 6 = .ok (.aload_n 0, 1) := by decide +kernel
theorem dX9_farEnd_7 : decode cX9_farEnd 7 = .ok (.iload_n 1, 1) := by decide +kernel
theorem dX9_farEnd_8 : decode cX9_farEnd 8 = .ok (.iconst 1, 1) := by decide +kernel
theorem dX9_farEnd_9 : decode cX9_farEnd 9 = .ok (.invokevirtual 294, 3) := by decide +kernel
theorem dX9_farEnd_12 : decode cX9_farEnd 12 = .ok (.iadd, 1) := by decide +kernel
theorem dX9_farEnd_13 : decode cX9_farEnd 13 = .ok (.iload_n 2, 1) := by decide +kernel
theorem dX9_farEnd_14 : decode cX9_farEnd 14 = .ok (.isub, 1) := by decide +kernel
theorem dX9_farEnd_15 : decode cX9_farEnd 15 = .ok (.ireturn, 1) := by decide +kernel
noncomputable def k_X9_farEnd (F : Nat) : AK := ak_aload 0 (ak_iload 1 (ak_push (vI 0) (ak_callv 9 2 (m_X9_roadOf F) (ak_aload 0 (ak_iload 1 (ak_push (vI 1) (ak_callv 9 2 (m_X9_roadOf F) (ak_iadd (ak_iload 2 (ak_isub ak_ireturn))))))))))
noncomputable def m_X9_farEnd (F : Nat) : AF := mkF 1 3 (k_X9_farEnd F)
set_option maxRecDepth 20000 in
theorem s_X9_farEnd (F : Nat) : MA yX9_farEnd cX9_farEnd 3 (some .int) 1 (m_X9_farEnd F) := met_of (Or.inr (Or.inl ⟨rfl, rfl⟩)) (by decide) (by
  unfold k_X9_farEnd
  exact snd_aload_n (pc := 0) (i := 0) dX9_farEnd_0 (snd_iload_n (pc := 1) (i := 1) dX9_farEnd_1 (snd_iconst (pc := 2) dX9_farEnd_2 (snd_callV (pc := 3) (n := 2) cls9 (s_X9_roadOf F) (by decide) (by decide) wd_1657 wd_1654 wd_1656 wd_77 wd_129 hy_X9_roadOf dX9_farEnd_3 (snd_aload_n (pc := 6) (i := 0) dX9_farEnd_6 (snd_iload_n (pc := 7) (i := 1) dX9_farEnd_7 (snd_iconst (pc := 8) dX9_farEnd_8 (snd_callV (pc := 9) (n := 2) cls9 (s_X9_roadOf F) (by decide) (by decide) wd_1657 wd_1654 wd_1656 wd_77 wd_129 hy_X9_roadOf dX9_farEnd_9 (snd_iadd (pc := 12) dX9_farEnd_12 (snd_iload_n (pc := 13) (i := 2) dX9_farEnd_13 (snd_isub (pc := 14) dX9_farEnd_14 (snd_ireturn dX9_farEnd_15))))))))))))

/-! LastWalkerModel.pays(II)I -/
theorem dX9_pays_0 : decode cX9_pays 0 = .ok (.aload_n 0, 1) := by decide +kernel
theorem dX9_pays_1 : decode cX9_pays 1 = .ok (.getfield 38, 3) := by decide +kernel
theorem dX9_pays_4 : decode cX9_pays 4 = .ok (.iload_n 2, 1) := by decide +kernel
theorem dX9_pays_5 : decode cX9_pays 5 = .ok (.iaload, 1) := by decide +kernel
theorem dX9_pays_6 : decode cX9_pays 6 = .ok (.iconst (-1), 1) := by decide +kernel
theorem dX9_pays_7 : decode cX9_pays 7 = .ok (.if_icmp .eq 21, 3) := by decide +kernel
theorem dX9_pays_10 : decode cX9_pays 10 = .ok (.aload_n 0, 1) := by decide +kernel
theorem dX9_pays_11 : decode cX9_pays 11 = .ok (.getfield 38, 3) := by decide +kernel
theorem dX9_pays_14 : decode cX9_pays 14 = .ok (.iload_n 2, 1) := by decide +kernel
theorem dX9_pays_15 : decode cX9_pays 15 = .ok (.iaload, 1) := by decide +kernel
theorem dX9_pays_16 : decode cX9_pays 16 = .ok (.iload_n 1, 1) := by decide +kernel
theorem dX9_pays_17 : decode cX9_pays 17 = .ok (.if_icmp .eq 11, 3) := by decide +kernel
theorem dX9_pays_20 : decode cX9_pays 20 = .ok (.aload_n 0, 1) := by decide +kernel
theorem dX9_pays_21 : decode cX9_pays 21 = .ok (.iload_n 2, 1) := by decide +kernel
theorem dX9_pays_22 : decode cX9_pays 22 = .ok (.invokevirtual 297, 3) := by decide +kernel
theorem dX9_pays_25 : decode cX9_pays 25 = .ok (.goto 4, 3) := by decide +kernel
theorem dX9_pays_28 : decode cX9_pays 28 = .ok (.iconst 0, 1) := by decide +kernel
theorem dX9_pays_29 : decode cX9_pays 29 = .ok (.ireturn, 1) := by decide +kernel
noncomputable def k_X9_pays (F : Nat) : AK := ak_aload 0 (ak_getf 9 31 (ak_iload 2 (ak_iald (ak_push (vI (-1)) (ak_cmpeq (ak_push (vI 0) ak_ireturn) (ak_aload 0 (ak_getf 9 31 (ak_iload 2 (ak_iald (ak_iload 1 (ak_cmpeq (ak_push (vI 0) ak_ireturn) (ak_aload 0 (ak_iload 2 (ak_callv 9 1 (m_X9_penny F) ak_ireturn))))))))))))))
noncomputable def m_X9_pays (F : Nat) : AF := mkF 1 3 (k_X9_pays F)
set_option maxRecDepth 20000 in
theorem s_X9_pays (F : Nat) : MA yX9_pays cX9_pays 3 (some .int) 2 (m_X9_pays F) := met_of (Or.inr (Or.inl ⟨rfl, rfl⟩)) (by decide) (by
  unfold k_X9_pays
  exact snd_aload_n (pc := 0) (i := 0) dX9_pays_0 (snd_getf (pc := 1) cls9 (f := 31) (by decide) wd_1334 dX9_pays_1 (snd_iload_n (pc := 4) (i := 2) dX9_pays_4 (snd_iald (pc := 5) dX9_pays_5 (snd_iconst (pc := 6) dX9_pays_6 (snd_icmpeq (pc := 7) (off := 21) (tgt := 28) (by decide) dX9_pays_7 (snd_iconst (pc := 28) dX9_pays_28 (snd_ireturn dX9_pays_29)) (snd_aload_n (pc := 10) (i := 0) dX9_pays_10 (snd_getf (pc := 11) cls9 (f := 31) (by decide) wd_1334 dX9_pays_11 (snd_iload_n (pc := 14) (i := 2) dX9_pays_14 (snd_iald (pc := 15) dX9_pays_15 (snd_iload_n (pc := 16) (i := 1) dX9_pays_16 (snd_icmpeq (pc := 17) (off := 11) (tgt := 28) (by decide) dX9_pays_17 (snd_iconst (pc := 28) dX9_pays_28 (snd_ireturn dX9_pays_29)) (snd_aload_n (pc := 20) (i := 0) dX9_pays_20 (snd_iload_n (pc := 21) (i := 2) dX9_pays_21 (snd_callV (pc := 22) (n := 1) cls9 (s_X9_penny F) (by decide) (by decide) wd_1681 wd_1678 wd_1680 wd_83 wd_129 hy_X9_penny dX9_pays_22 (snd_goto (pc := 25) (off := 4) (tgt := 29) (by decide) dX9_pays_25 (snd_ireturn dX9_pays_29)))))))))))))))))

/-! LastWalkerModel.comes(III)Z -/
theorem dX9_comes_0 : decode cX9_comes 0 = .ok (.iload_n 2, 1) := by decide +kernel
theorem dX9_comes_1 : decode cX9_comes 1 = .ok (.aload_n 0, 1) := by decide +kernel
theorem dX9_comes_2 : decode cX9_comes 2 = .ok (.getfield 276, 3) := by decide +kernel
theorem dX9_comes_5 : decode cX9_comes 5 = .ok (.if_icmp .eq 13, 3) := by decide +kernel
theorem dX9_comes_8 : decode cX9_comes 8 = .ok (.aload_n 0, 1) := by decide +kernel
theorem dX9_comes_9 : decode cX9_comes 9 = .ok (.getfield 38, 3) := by decide +kernel
theorem dX9_comes_12 : decode cX9_comes 12 = .ok (.iload_n 2, 1) := by decide +kernel
theorem dX9_comes_13 : decode cX9_comes 13 = .ok (.iaload, 1) := by decide +kernel
theorem dX9_comes_14 : decode cX9_comes 14 = .ok (.iload_n 1, 1) := by decide +kernel
theorem dX9_comes_15 : decode cX9_comes 15 = .ok (.if_icmp .ne 5, 3) := by decide +kernel
theorem dX9_comes_18 : decode cX9_comes 18 = .ok (.iconst 0, 1) := by decide +kernel
theorem dX9_comes_19 : decode cX9_comes 19 = .ok (.ireturn, 1) := by decide +kernel
theorem dX9_comes_20 : decode cX9_comes 20 = .ok (.aload_n 0, 1) := by decide +kernel
theorem dX9_comes_21 : decode cX9_comes 21 = .ok (.getfield 270, 3) := by decide +kernel
theorem dX9_comes_24 : decode cX9_comes 24 = .ok (.ifCond .eq 37, 3) := by decide +kernel
theorem dX9_comes_27 : decode cX9_comes 27 = .ok (.aload_n 0, 1) := by decide +kernel
theorem dX9_comes_28 : decode cX9_comes 28 = .ok (.getfield 270, 3) := by decide +kernel
theorem dX9_comes_31 : decode cX9_comes 31 = .ok (.iconst 1, 1) := by decide +kernel
theorem dX9_comes_32 : decode cX9_comes 32 = .ok (.if_icmp .ne 13, 3) := by decide +kernel
theorem dX9_comes_35 : decode cX9_comes 35 = .ok (.aload_n 0, 1) := by decide +kernel
theorem dX9_comes_36 : decode cX9_comes 36 = .ok (.getfield 38, 3) := by decide +kernel
theorem dX9_comes_39 : decode cX9_comes 39 = .ok (.iload_n 2, 1) := by decide +kernel
theorem dX9_comes_40 : decode cX9_comes 40 = .ok (.iaload, 1) := by decide +kernel
theorem dX9_comes_41 : decode cX9_comes 41 = .ok (.iconst (-1), 1) := by decide +kernel
theorem dX9_comes_42 : decode cX9_comes 42 = .ok (.if_icmp .eq 19, 3) := by decide +kernel
theorem dX9_comes_45 : decode cX9_comes 45 = .ok (.aload_n 0, 1) := by decide +kernel
theorem dX9_comes_46 : decode cX9_comes 46 = .ok (.getfield 270, 3) := by decide +kernel
theorem dX9_comes_49 : decode cX9_comes 49 = .ok (.iconst 2, 1) := by decide +kernel
theorem dX9_comes_50 : decode cX9_comes 50 = .ok (.if_icmp .ne 15, 3) := by decide +kernel
theorem dX9_comes_53 : decode cX9_comes 53 = .ok (.iload_n 3, 1) := by decide +kernel
theorem dX9_comes_54 : decode cX9_comes 54 = .ok (.aload_n 0, 1) := by decide +kernel
theorem dX9_comes_55 : decode cX9_comes 55 = .ok (.getfield 273, 3) := by decide +kernel
theorem dX9_comes_58 : decode cX9_comes 58 = .ok (.if_icmp .ge 7, 3) := by decide +kernel
theorem dX9_comes_61 : decode cX9_comes 61 = .ok (.iconst 1, 1) := by decide +kernel
theorem dX9_comes_62 : decode cX9_comes 62 = .ok (.goto 4, 3) := by decide +kernel
theorem dX9_comes_65 : decode cX9_comes 65 = .ok (.iconst 0, 1) := by decide +kernel
theorem dX9_comes_66 : decode cX9_comes 66 = .ok (.ireturn, 1) := by decide +kernel
noncomputable def k_X9_comes_61 (F : Nat) : AK := ak_push (vI 1) ak_ireturn
set_option maxRecDepth 20000 in
theorem sk_X9_comes_61 (F : Nat) : Snd X0 RX9 cX9_comes 4 0 61 (k_X9_comes_61 F) := by
  unfold k_X9_comes_61
  exact snd_iconst (pc := 61) dX9_comes_61 (snd_goto (pc := 62) (off := 4) (tgt := 66) (by decide) dX9_comes_62 (snd_ireturn dX9_comes_66))
noncomputable def k_X9_comes_45 (F : Nat) : AK := ak_aload 0 (ak_getf 9 26 (ak_push (vI 2) (ak_cmpeq (ak_iload 3 (ak_aload 0 (ak_getf 9 27 (ak_cmplt ((k_X9_comes_61 F)) (ak_push (vI 0) ak_ireturn))))) (ak_push (vI 0) ak_ireturn))))
set_option maxRecDepth 20000 in
theorem sk_X9_comes_45 (F : Nat) : Snd X0 RX9 cX9_comes 4 0 45 (k_X9_comes_45 F) := by
  unfold k_X9_comes_45
  exact snd_aload_n (pc := 45) (i := 0) dX9_comes_45 (snd_getf (pc := 46) cls9 (f := 26) (by decide) wd_1329 dX9_comes_46 (snd_iconst (pc := 49) dX9_comes_49 (snd_icmpne (pc := 50) (off := 15) (tgt := 65) (by decide) dX9_comes_50 (snd_iconst (pc := 65) dX9_comes_65 (snd_ireturn dX9_comes_66)) (snd_iload_n (pc := 53) (i := 3) dX9_comes_53 (snd_aload_n (pc := 54) (i := 0) dX9_comes_54 (snd_getf (pc := 55) cls9 (f := 27) (by decide) wd_1330 dX9_comes_55 (snd_icmpge (pc := 58) (off := 7) (tgt := 65) (by decide) dX9_comes_58 (snd_iconst (pc := 65) dX9_comes_65 (snd_ireturn dX9_comes_66)) ((sk_X9_comes_61 F)))))))))
noncomputable def k_X9_comes (F : Nat) : AK := ak_iload 2 (ak_aload 0 (ak_getf 9 28 (ak_cmpeq (ak_push (vI 0) ak_ireturn) (ak_aload 0 (ak_getf 9 31 (ak_iload 2 (ak_iald (ak_iload 1 (ak_cmpeq (ak_push (vI 0) ak_ireturn) (ak_aload 0 (ak_getf 9 26 (ak_ifeq ((k_X9_comes_61 F)) (ak_aload 0 (ak_getf 9 26 (ak_push (vI 1) (ak_cmpeq (ak_aload 0 (ak_getf 9 31 (ak_iload 2 (ak_iald (ak_push (vI (-1)) (ak_cmpeq ((k_X9_comes_61 F)) ((k_X9_comes_45 F)))))))) ((k_X9_comes_45 F))))))))))))))))))
noncomputable def m_X9_comes (F : Nat) : AF := mkF 2 4 (k_X9_comes F)
set_option maxRecDepth 20000 in
theorem s_X9_comes (F : Nat) : MA yX9_comes cX9_comes 4 (some .boolean) 0 (m_X9_comes F) := met_of (Or.inr (Or.inr (Or.inl ⟨rfl, rfl⟩))) (by decide) (by
  unfold k_X9_comes
  exact snd_iload_n (pc := 0) (i := 2) dX9_comes_0 (snd_aload_n (pc := 1) (i := 0) dX9_comes_1 (snd_getf (pc := 2) cls9 (f := 28) (by decide) wd_1331 dX9_comes_2 (snd_icmpeq (pc := 5) (off := 13) (tgt := 18) (by decide) dX9_comes_5 (snd_iconst (pc := 18) dX9_comes_18 (snd_ireturn dX9_comes_19)) (snd_aload_n (pc := 8) (i := 0) dX9_comes_8 (snd_getf (pc := 9) cls9 (f := 31) (by decide) wd_1334 dX9_comes_9 (snd_iload_n (pc := 12) (i := 2) dX9_comes_12 (snd_iald (pc := 13) dX9_comes_13 (snd_iload_n (pc := 14) (i := 1) dX9_comes_14 (snd_icmpne (pc := 15) (off := 5) (tgt := 20) (by decide) dX9_comes_15 (snd_aload_n (pc := 20) (i := 0) dX9_comes_20 (snd_getf (pc := 21) cls9 (f := 26) (by decide) wd_1329 dX9_comes_21 (snd_ifeq (pc := 24) (off := 37) (tgt := 61) (by decide) dX9_comes_24 ((sk_X9_comes_61 F)) (snd_aload_n (pc := 27) (i := 0) dX9_comes_27 (snd_getf (pc := 28) cls9 (f := 26) (by decide) wd_1329 dX9_comes_28 (snd_iconst (pc := 31) dX9_comes_31 (snd_icmpne (pc := 32) (off := 13) (tgt := 45) (by decide) dX9_comes_32 ((sk_X9_comes_45 F)) (snd_aload_n (pc := 35) (i := 0) dX9_comes_35 (snd_getf (pc := 36) cls9 (f := 31) (by decide) wd_1334 dX9_comes_36 (snd_iload_n (pc := 39) (i := 2) dX9_comes_39 (snd_iald (pc := 40) dX9_comes_40 (snd_iconst (pc := 41) dX9_comes_41 (snd_icmpeq (pc := 42) (off := 19) (tgt := 61) (by decide) dX9_comes_42 ((sk_X9_comes_61 F)) ((sk_X9_comes_45 F))))))))))))))) (snd_iconst (pc := 18) dX9_comes_18 (snd_ireturn dX9_comes_19))))))))))))

/-! LastWalkerModel.worthBy(II)J -/
theorem dX9_worthBy_0 : decode cX9_worthBy 0 = .ok (.ldc2_w 300, 3) := by decide +kernel
theorem dX9_worthBy_3 : decode cX9_worthBy 3 = .ok (.lstore_n 3, 1) := by decide +kernel
theorem dX9_worthBy_4 : decode cX9_worthBy 4 = .ok (.lconst 0, 1) := by decide +kernel
theorem dX9_worthBy_5 : decode cX9_worthBy 5 = .ok (.lstore 5, 2) := by decide +kernel
theorem dX9_worthBy_7 : decode cX9_worthBy 7 = .ok (.iload_n 2, 1) := by decide +kernel
theorem dX9_worthBy_8 : decode cX9_worthBy 8 = .ok (.istore 7, 2) := by decide +kernel
theorem dX9_worthBy_10 : decode cX9_worthBy 10 = .ok (.iload 7, 2) := by decide +kernel
theorem dX9_worthBy_12 : decode cX9_worthBy 12 = .ok (.bipush 6, 2) := by decide +kernel
theorem dX9_worthBy_14 : decode cX9_worthBy 14 = .ok (.if_icmp .ge 89, 3) := by decide +kernel
theorem dX9_worthBy_17 : decode cX9_worthBy 17 = .ok (.aload_n 0, 1) := by decide +kernel
theorem dX9_worthBy_18 : decode cX9_worthBy 18 = .ok (.getfield 270, 3) := by decide +kernel
theorem dX9_worthBy_21 : decode cX9_worthBy 21 = .ok (.iconst 3, 1) := by decide +kernel
theorem dX9_worthBy_22 : decode cX9_worthBy 22 = .ok (.if_icmp .eq 81, 3) := by decide +kernel
theorem dX9_worthBy_25 : decode cX9_worthBy 25 = .ok (.aload_n 0, 1) := by decide +kernel
theorem dX9_worthBy_26 : decode cX9_worthBy 26 = .ok (.iload_n 1, 1) := by decide +kernel
theorem dX9_worthBy_27 : decode cX9_worthBy 27 = .ok (.iconst 5, 1) := by decide +kernel
theorem dX9_worthBy_28 : decode cX9_worthBy 28 = .ok (.iload 7, 2) := by decide +kernel
theorem dX9_worthBy_30 : decode cX9_worthBy 30 = .ok (.iadd, 1) := by decide +kernel
theorem dX9_worthBy_31 : decode cX9_worthBy 31 = .ok (.invokevirtual 294, 3) := by decide +kernel
theorem dX9_worthBy_34 : decode cX9_worthBy 34 = .ok (.istore 8, 2) := by decide +kernel
theorem dX9_worthBy_36 : decode cX9_worthBy 36 = .ok (.lload 5, 2) := by decide +kernel
theorem dX9_worthBy_38 : decode cX9_worthBy 38 = .ok (.lload_n 3, 1) := by decide +kernel
theorem dX9_worthBy_39 : decode cX9_worthBy 39 = .ok (.ldc2_w 302, 3) := by decide +kernel
theorem dX9_worthBy_42 : decode cX9_worthBy 42 = .ok (.ldiv, 1) := by decide +kernel
theorem dX9_worthBy_43 : decode cX9_worthBy 43 = .ok (.iload 8, 2) := by decide +kernel
theorem dX9_worthBy_45 : decode cX9_worthBy 45 = .ok (.i2l, 1) := by decide +kernel
theorem dX9_worthBy_46 : decode cX9_worthBy 46 = .ok (.lmul, 1) := by decide +kernel
theorem dX9_worthBy_47 : decode cX9_worthBy 47 = .ok (.aload_n 0, 1) := by decide +kernel
theorem dX9_worthBy_48 : decode cX9_worthBy 48 = .ok (.iload_n 1, 1) := by decide +kernel
theorem dX9_worthBy_49 : decode cX9_worthBy 49 = .ok (.invokevirtual 297, 3) := by decide +kernel
theorem dX9_worthBy_52 : decode cX9_worthBy 52 = .ok (.i2l, 1) := by decide +kernel
theorem dX9_worthBy_53 : decode cX9_worthBy 53 = .ok (.lmul, 1) := by decide +kernel
theorem dX9_worthBy_54 : decode cX9_worthBy 54 = .ok (.ladd, 1) := by decide +kernel
theorem dX9_worthBy_55 : decode cX9_worthBy 55 = .ok (.lstore 5, 2) := by decide +kernel
theorem dX9_worthBy_57 : decode cX9_worthBy 57 = .ok (.aload_n 0, 1) := by decide +kernel
theorem dX9_worthBy_58 : decode cX9_worthBy 58 = .ok (.getfield 270, 3) := by decide +kernel
theorem dX9_worthBy_61 : decode cX9_worthBy 61 = .ok (.ifCond .eq 23, 3) := by decide +kernel
theorem dX9_worthBy_64 : decode cX9_worthBy 64 = .ok (.aload_n 0, 1) := by decide +kernel
theorem dX9_worthBy_65 : decode cX9_worthBy 65 = .ok (.getfield 270, 3) := by decide +kernel
theorem dX9_worthBy_68 : decode cX9_worthBy 68 = .ok (.iconst 2, 1) := by decide +kernel
theorem dX9_worthBy_69 : decode cX9_worthBy 69 = .ok (.if_icmp .ne 28, 3) := by decide +kernel
theorem dX9_worthBy_72 : decode cX9_worthBy 72 = .ok (.bipush 60, 2) := by decide +kernel
theorem dX9_worthBy_74 : decode cX9_worthBy 74 = .ok (.iload 7, 2) := by decide +kernel
theorem dX9_worthBy_76 : decode cX9_worthBy 76 = .ok (.imul, 1) := by decide +kernel
theorem dX9_worthBy_77 : decode cX9_worthBy 77 = .ok (.aload_n 0, 1) := by decide +kernel
theorem dX9_worthBy_78 : decode cX9_worthBy 78 = .ok (.getfield 273, 3) := by decide +kernel
theorem dX9_worthBy_81 : decode cX9_worthBy 81 = .ok (.if_icmp .ge 16, 3) := by decide +kernel
theorem dX9_worthBy_84 : decode cX9_worthBy 84 = .ok (.lload_n 3, 1) := by decide +kernel
theorem dX9_worthBy_85 : decode cX9_worthBy 85 = .ok (.ldc2_w 302, 3) := by decide +kernel
theorem dX9_worthBy_88 : decode cX9_worthBy 88 = .ok (.ldiv, 1) := by decide +kernel
theorem dX9_worthBy_89 : decode cX9_worthBy 89 = .ok (.bipush 100, 2) := by decide +kernel
theorem dX9_worthBy_91 : decode cX9_worthBy 91 = .ok (.iload 8, 2) := by decide +kernel
theorem dX9_worthBy_93 : decode cX9_worthBy 93 = .ok (.isub, 1) := by decide +kernel
theorem dX9_worthBy_94 : decode cX9_worthBy 94 = .ok (.i2l, 1) := by decide +kernel
theorem dX9_worthBy_95 : decode cX9_worthBy 95 = .ok (.lmul, 1) := by decide +kernel
theorem dX9_worthBy_96 : decode cX9_worthBy 96 = .ok (.lstore_n 3, 1) := by decide +kernel
theorem dX9_worthBy_97 : decode cX9_worthBy 97 = .ok (.iinc 7 1, 3) := by decide +kernel
theorem dX9_worthBy_100 : decode cX9_worthBy 100 = .ok (.goto (-90), 3) := by decide +kernel
theorem dX9_worthBy_103 : decode cX9_worthBy 103 = .ok (.lload 5, 2) := by decide +kernel
theorem dX9_worthBy_105 : decode cX9_worthBy 105 = .ok (.lreturn, 1) := by decide +kernel
noncomputable def k_X9_worthBy_97 (F : Nat) (h10 : AK) : AK := ak_iinc 7 1 h10
set_option maxRecDepth 20000 in
theorem sk_X9_worthBy_97 (F : Nat) {h10 : AK} (hh10 : Snd X0 RX9 cX9_worthBy 9 2 10 h10) : Snd X0 RX9 cX9_worthBy 9 2 97 (k_X9_worthBy_97 F h10) := by
  unfold k_X9_worthBy_97
  exact snd_iinc (pc := 97) (i := 7) (n := 1) (by decide) dX9_worthBy_97 (snd_goto (pc := 100) (off := (-90)) (tgt := 10) (by decide) dX9_worthBy_100 (hh10))
noncomputable def k_X9_worthBy_84 (F : Nat) (h10 : AK) : AK := ak_lload 3 (ak_push (vL 100) (ak_ldiv (ak_push (vI 100) (ak_iload 8 (ak_isub (ak_i2l (ak_lmul (ak_lstore 3 ((k_X9_worthBy_97 F h10))))))))))
set_option maxRecDepth 20000 in
theorem sk_X9_worthBy_84 (F : Nat) {h10 : AK} (hh10 : Snd X0 RX9 cX9_worthBy 9 2 10 h10) : Snd X0 RX9 cX9_worthBy 9 2 84 (k_X9_worthBy_84 F h10) := by
  unfold k_X9_worthBy_84
  exact snd_lload_n (pc := 84) (i := 3) dX9_worthBy_84 (snd_ldc2 (pc := 85) (z := (100)) (by decide) wd_1716 dX9_worthBy_85 (snd_ldiv (pc := 88) dX9_worthBy_88 (snd_bipush (pc := 89) (by decide) dX9_worthBy_89 (snd_iload (pc := 91) (i := 8) dX9_worthBy_91 (snd_isub (pc := 93) dX9_worthBy_93 (snd_i2l (pc := 94) dX9_worthBy_94 (snd_lmul (pc := 95) dX9_worthBy_95 (snd_lstore_n (pc := 96) (i := 3) (by decide) dX9_worthBy_96 ((sk_X9_worthBy_97 F hh10))))))))))
noncomputable def kb_X9_worthBy_10 (F : Nat) (self : AK) : AK := ak_iload 7 (ak_push (vI 6) (ak_cmplt (ak_aload 0 (ak_getf 9 26 (ak_push (vI 3) (ak_cmpeq (ak_lload 5 ak_lreturn) (ak_aload 0 (ak_iload 1 (ak_push (vI 5) (ak_iload 7 (ak_iadd (ak_callv 9 2 (m_X9_roadOf F) (ak_istore 8 (ak_lload 5 (ak_lload 3 (ak_push (vL 100) (ak_ldiv (ak_iload 8 (ak_i2l (ak_lmul (ak_aload 0 (ak_iload 1 (ak_callv 9 1 (m_X9_penny F) (ak_i2l (ak_lmul (ak_ladd (ak_lstore 5 (ak_aload 0 (ak_getf 9 26 (ak_ifeq ((k_X9_worthBy_84 F self)) (ak_aload 0 (ak_getf 9 26 (ak_push (vI 2) (ak_cmpeq (ak_push (vI 60) (ak_iload 7 (ak_imul (ak_aload 0 (ak_getf 9 27 (ak_cmplt ((k_X9_worthBy_84 F self)) ((k_X9_worthBy_97 F self)))))))) ((k_X9_worthBy_97 F self)))))))))))))))))))))))))))))))))) (ak_lload 5 ak_lreturn)))
noncomputable def k_X9_worthBy_10 (F : Nat) (n : Nat) : AK := Nat.rec (motive := fun _ => AK) ak_none (fun _ self => kb_X9_worthBy_10 F self) n
set_option maxRecDepth 20000 in
theorem sk_X9_worthBy_10 (F : Nat) : ∀ n, Snd X0 RX9 cX9_worthBy 9 2 10 (k_X9_worthBy_10 F n) := by
  intro n
  induction n with
  | zero => exact snd_none
  | succ n ih =>
    show Snd X0 RX9 cX9_worthBy 9 2 10 (kb_X9_worthBy_10 F (k_X9_worthBy_10 F n))
    unfold kb_X9_worthBy_10
    exact snd_iload (pc := 10) (i := 7) dX9_worthBy_10 (snd_bipush (pc := 12) (by decide) dX9_worthBy_12 (snd_icmpge (pc := 14) (off := 89) (tgt := 103) (by decide) dX9_worthBy_14 (snd_lload (pc := 103) (i := 5) dX9_worthBy_103 (snd_lreturn dX9_worthBy_105)) (snd_aload_n (pc := 17) (i := 0) dX9_worthBy_17 (snd_getf (pc := 18) cls9 (f := 26) (by decide) wd_1329 dX9_worthBy_18 (snd_iconst (pc := 21) dX9_worthBy_21 (snd_icmpeq (pc := 22) (off := 81) (tgt := 103) (by decide) dX9_worthBy_22 (snd_lload (pc := 103) (i := 5) dX9_worthBy_103 (snd_lreturn dX9_worthBy_105)) (snd_aload_n (pc := 25) (i := 0) dX9_worthBy_25 (snd_iload_n (pc := 26) (i := 1) dX9_worthBy_26 (snd_iconst (pc := 27) dX9_worthBy_27 (snd_iload (pc := 28) (i := 7) dX9_worthBy_28 (snd_iadd (pc := 30) dX9_worthBy_30 (snd_callV (pc := 31) (n := 2) cls9 (s_X9_roadOf F) (by decide) (by decide) wd_1657 wd_1654 wd_1656 wd_77 wd_129 hy_X9_roadOf dX9_worthBy_31 (snd_istore (pc := 34) (i := 8) (by decide) dX9_worthBy_34 (snd_lload (pc := 36) (i := 5) dX9_worthBy_36 (snd_lload_n (pc := 38) (i := 3) dX9_worthBy_38 (snd_ldc2 (pc := 39) (z := (100)) (by decide) wd_1716 dX9_worthBy_39 (snd_ldiv (pc := 42) dX9_worthBy_42 (snd_iload (pc := 43) (i := 8) dX9_worthBy_43 (snd_i2l (pc := 45) dX9_worthBy_45 (snd_lmul (pc := 46) dX9_worthBy_46 (snd_aload_n (pc := 47) (i := 0) dX9_worthBy_47 (snd_iload_n (pc := 48) (i := 1) dX9_worthBy_48 (snd_callV (pc := 49) (n := 1) cls9 (s_X9_penny F) (by decide) (by decide) wd_1681 wd_1678 wd_1680 wd_83 wd_129 hy_X9_penny dX9_worthBy_49 (snd_i2l (pc := 52) dX9_worthBy_52 (snd_lmul (pc := 53) dX9_worthBy_53 (snd_ladd (pc := 54) dX9_worthBy_54 (snd_lstore (pc := 55) (i := 5) (by decide) dX9_worthBy_55 (snd_aload_n (pc := 57) (i := 0) dX9_worthBy_57 (snd_getf (pc := 58) cls9 (f := 26) (by decide) wd_1329 dX9_worthBy_58 (snd_ifeq (pc := 61) (off := 23) (tgt := 84) (by decide) dX9_worthBy_61 ((sk_X9_worthBy_84 F ih)) (snd_aload_n (pc := 64) (i := 0) dX9_worthBy_64 (snd_getf (pc := 65) cls9 (f := 26) (by decide) wd_1329 dX9_worthBy_65 (snd_iconst (pc := 68) dX9_worthBy_68 (snd_icmpne (pc := 69) (off := 28) (tgt := 97) (by decide) dX9_worthBy_69 ((sk_X9_worthBy_97 F ih)) (snd_bipush (pc := 72) (by decide) dX9_worthBy_72 (snd_iload (pc := 74) (i := 7) dX9_worthBy_74 (snd_imul (pc := 76) dX9_worthBy_76 (snd_aload_n (pc := 77) (i := 0) dX9_worthBy_77 (snd_getf (pc := 78) cls9 (f := 27) (by decide) wd_1330 dX9_worthBy_78 (snd_icmpge (pc := 81) (off := 16) (tgt := 97) (by decide) dX9_worthBy_81 ((sk_X9_worthBy_97 F ih)) ((sk_X9_worthBy_84 F ih))))))))))))))))))))))))))))))))))))))))))
noncomputable def k_X9_worthBy (F : Nat) : AK := ak_push (vL 1000000000000) (ak_lstore 3 (ak_push (vL 0) (ak_lstore 5 (ak_iload 2 (ak_istore 7 ((k_X9_worthBy_10 F F)))))))
noncomputable def m_X9_worthBy (F : Nat) : AF := mkF 4 9 (k_X9_worthBy F)
set_option maxRecDepth 20000 in
theorem s_X9_worthBy (F : Nat) : MA yX9_worthBy cX9_worthBy 9 (some .long) 2 (m_X9_worthBy F) := met_of (Or.inr (Or.inr (Or.inr (Or.inr (Or.inl ⟨rfl, rfl⟩))))) (by decide) (by
  unfold k_X9_worthBy
  exact snd_ldc2 (pc := 0) (z := (1000000000000)) (by decide) wd_1715 dX9_worthBy_0 (snd_lstore_n (pc := 3) (i := 3) (by decide) dX9_worthBy_3 (snd_lconst (pc := 4) (by decide) dX9_worthBy_4 (snd_lstore (pc := 5) (i := 5) (by decide) dX9_worthBy_5 (snd_iload_n (pc := 7) (i := 2) dX9_worthBy_7 (snd_istore (pc := 8) (i := 7) (by decide) dX9_worthBy_8 ((sk_X9_worthBy_10 F F))))))))

/-! LastWalkerModel.beginRun(I)V -/
theorem dX9_beginRun_0 : decode cX9_beginRun 0 = .ok (.aload_n 0, 1) := by decide +kernel
theorem dX9_beginRun_1 : decode cX9_beginRun 1 = .ok (.iload_n 1, 1) := by decide +kernel
theorem dX9_beginRun_2 : decode cX9_beginRun 2 = .ok (.invokevirtual 304, 3) := by decide +kernel
theorem dX9_beginRun_5 : decode cX9_beginRun 5 = .ok (.aload_n 0, 1) := by decide +kernel
theorem dX9_beginRun_6 : decode cX9_beginRun 6 = .ok (.iconst 0, 1) := by decide +kernel
theorem dX9_beginRun_7 : decode cX9_beginRun 7 = .ok (.putfield 307, 3) := by decide +kernel
theorem dX9_beginRun_10 : decode cX9_beginRun 10 = .ok (.aload_n 0, 1) := by decide +kernel
theorem dX9_beginRun_11 : decode cX9_beginRun 11 = .ok (.iconst 0, 1) := by decide +kernel
theorem dX9_beginRun_12 : decode cX9_beginRun 12 = .ok (.putfield 310, 3) := by decide +kernel
theorem dX9_beginRun_15 : decode cX9_beginRun 15 = .ok (.aload_n 0, 1) := by decide +kernel
theorem dX9_beginRun_16 : decode cX9_beginRun 16 = .ok (.iconst 0, 1) := by decide +kernel
theorem dX9_beginRun_17 : decode cX9_beginRun 17 = .ok (.putfield 313, 3) := by decide +kernel
theorem dX9_beginRun_20 : decode cX9_beginRun 20 = .ok (.iconst 0, 1) := by decide +kernel
theorem dX9_beginRun_21 : decode cX9_beginRun 21 = .ok (.istore_n 2, 1) := by decide +kernel
theorem dX9_beginRun_22 : decode cX9_beginRun 22 = .ok (.iload_n 2, 1) := by decide +kernel
theorem dX9_beginRun_23 : decode cX9_beginRun 23 = .ok (.bipush 8, 2) := by decide +kernel
theorem dX9_beginRun_25 : decode cX9_beginRun 25 = .ok (.if_icmp .ge 47, 3) := by decide +kernel
theorem dX9_beginRun_28 : decode cX9_beginRun 28 = .ok (.aload_n 0, 1) := by decide +kernel
theorem dX9_beginRun_29 : decode cX9_beginRun 29 = .ok (.getfield 44, 3) := by decide +kernel
theorem dX9_beginRun_32 : decode cX9_beginRun 32 = .ok (.iload_n 2, 1) := by decide +kernel
theorem dX9_beginRun_33 : decode cX9_beginRun 33 = .ok (.iload_n 2, 1) := by decide +kernel
theorem dX9_beginRun_34 : decode cX9_beginRun 34 = .ok (.aload_n 0, 1) := by decide +kernel
theorem dX9_beginRun_35 : decode cX9_beginRun 35 = .ok (.getfield 264, 3) := by decide +kernel
theorem dX9_beginRun_38 : decode cX9_beginRun 38 = .ok (.if_icmp .ge 12, 3) := by decide +kernel
theorem dX9_beginRun_41 : decode cX9_beginRun 41 = .ok (.aload_n 0, 1) := by decide +kernel
theorem dX9_beginRun_42 : decode cX9_beginRun 42 = .ok (.iload_n 2, 1) := by decide +kernel
theorem dX9_beginRun_43 : decode cX9_beginRun 43 = .ok (.iconst 0, 1) := by decide +kernel
theorem dX9_beginRun_44 : decode cX9_beginRun 44 = .ok (.invokevirtual 282, 3) := by decide +kernel
theorem dX9_beginRun_47 : decode cX9_beginRun 47 = .ok (.goto 4, 3) := by decide +kernel
theorem dX9_beginRun_50 : decode cX9_beginRun 50 = .ok (.iconst 0, 1) := by decide +kernel
theorem dX9_beginRun_51 : decode cX9_beginRun 51 = .ok (.iastore, 1) := by decide +kernel
theorem dX9_beginRun_52 : decode cX9_beginRun 52 = .ok (.aload_n 0, 1) := by decide +kernel
theorem dX9_beginRun_53 : decode cX9_beginRun 53 = .ok (.getfield 47, 3) := by decide +kernel
theorem dX9_beginRun_56 : decode cX9_beginRun 56 = .ok (.iload_n 2, 1) := by decide +kernel
theorem dX9_beginRun_57 : decode cX9_beginRun 57 = .ok (.iconst 0, 1) := by decide +kernel
theorem dX9_beginRun_58 : decode cX9_beginRun 58 = .ok (.iastore, 1) := by decide +kernel
theorem dX9_beginRun_59 : decode cX9_beginRun 59 = .ok (.aload_n 0, 1) := by decide +kernel
theorem dX9_beginRun_60 : decode cX9_beginRun 60 = .ok (.getfield 50, 3) := by decide +kernel
theorem dX9_beginRun_63 : decode cX9_beginRun 63 = .ok (.iload_n 2, 1) := by decide +kernel
theorem dX9_beginRun_64 : decode cX9_beginRun 64 = .ok (.iconst (-1), 1) := by decide +kernel
theorem dX9_beginRun_65 : decode cX9_beginRun 65 = .ok (.iastore, 1) := by decide +kernel
theorem dX9_beginRun_66 : decode cX9_beginRun 66 = .ok (.iinc 2 1, 3) := by decide +kernel
theorem dX9_beginRun_69 : decode cX9_beginRun 69 = .ok (.goto (-47), 3) := by decide +kernel
theorem dX9_beginRun_72 : decode cX9_beginRun 72 = .ok (.iconst 0, 1) := by decide +kernel
theorem dX9_beginRun_73 : decode cX9_beginRun 73 = .ok (.istore_n 2, 1) := by decide +kernel
theorem dX9_beginRun_74 : decode cX9_beginRun 74 = .ok (.iload_n 2, 1) := by decide +kernel
theorem dX9_beginRun_75 : decode cX9_beginRun 75 = .ok (.bipush 64, 2) := by decide +kernel
theorem dX9_beginRun_77 : decode cX9_beginRun 77 = .ok (.if_icmp .ge 16, 3) := by decide +kernel
theorem dX9_beginRun_80 : decode cX9_beginRun 80 = .ok (.aload_n 0, 1) := by decide +kernel
theorem dX9_beginRun_81 : decode cX9_beginRun 81 = .ok (.getfield 53, 3) := by decide +kernel
theorem dX9_beginRun_84 : decode cX9_beginRun 84 = .ok (.iload_n 2, 1) := by decide +kernel
theorem dX9_beginRun_85 : decode cX9_beginRun 85 = .ok (.iconst 0, 1) := by decide +kernel
theorem dX9_beginRun_86 : decode cX9_beginRun 86 = .ok (.iastore, 1) := by decide +kernel
theorem dX9_beginRun_87 : decode cX9_beginRun 87 = .ok (.iinc 2 1, 3) := by decide +kernel
theorem dX9_beginRun_90 : decode cX9_beginRun 90 = .ok (.goto (-16), 3) := by decide +kernel
theorem dX9_beginRun_93 : decode cX9_beginRun 93 = .ok (.return_, 1) := by decide +kernel
noncomputable def k_X9_beginRun_51 (F : Nat) (h22 : AK) : AK := ak_iast (ak_aload 0 (ak_getf 9 37 (ak_iload 2 (ak_push (vI 0) (ak_iast (ak_aload 0 (ak_getf 9 38 (ak_iload 2 (ak_push (vI (-1)) (ak_iast (ak_iinc 2 1 h22)))))))))))
set_option maxRecDepth 20000 in
theorem sk_X9_beginRun_51 (F : Nat) {h22 : AK} (hh22 : Snd X0 RX9 cX9_beginRun 3 3 22 h22) : Snd X0 RX9 cX9_beginRun 3 3 51 (k_X9_beginRun_51 F h22) := by
  unfold k_X9_beginRun_51
  exact snd_iast (pc := 51) dX9_beginRun_51 (snd_aload_n (pc := 52) (i := 0) dX9_beginRun_52 (snd_getf (pc := 53) cls9 (f := 37) (by decide) wd_1340 dX9_beginRun_53 (snd_iload_n (pc := 56) (i := 2) dX9_beginRun_56 (snd_iconst (pc := 57) dX9_beginRun_57 (snd_iast (pc := 58) dX9_beginRun_58 (snd_aload_n (pc := 59) (i := 0) dX9_beginRun_59 (snd_getf (pc := 60) cls9 (f := 38) (by decide) wd_1341 dX9_beginRun_60 (snd_iload_n (pc := 63) (i := 2) dX9_beginRun_63 (snd_iconst (pc := 64) dX9_beginRun_64 (snd_iast (pc := 65) dX9_beginRun_65 (snd_iinc (pc := 66) (i := 2) (n := 1) (by decide) dX9_beginRun_66 (snd_goto (pc := 69) (off := (-47)) (tgt := 22) (by decide) dX9_beginRun_69 (hh22)))))))))))))
noncomputable def kb_X9_beginRun_74 (F : Nat) (self : AK) : AK := ak_iload 2 (ak_push (vI 64) (ak_cmplt (ak_aload 0 (ak_getf 9 39 (ak_iload 2 (ak_push (vI 0) (ak_iast (ak_iinc 2 1 self)))))) (ak_return)))
noncomputable def k_X9_beginRun_74 (F : Nat) (n : Nat) : AK := Nat.rec (motive := fun _ => AK) ak_none (fun _ self => kb_X9_beginRun_74 F self) n
set_option maxRecDepth 20000 in
theorem sk_X9_beginRun_74 (F : Nat) : ∀ n, Snd X0 RX9 cX9_beginRun 3 3 74 (k_X9_beginRun_74 F n) := by
  intro n
  induction n with
  | zero => exact snd_none
  | succ n ih =>
    show Snd X0 RX9 cX9_beginRun 3 3 74 (kb_X9_beginRun_74 F (k_X9_beginRun_74 F n))
    unfold kb_X9_beginRun_74
    exact snd_iload_n (pc := 74) (i := 2) dX9_beginRun_74 (snd_bipush (pc := 75) (by decide) dX9_beginRun_75 (snd_icmpge (pc := 77) (off := 16) (tgt := 93) (by decide) dX9_beginRun_77 (snd_return dX9_beginRun_93) (snd_aload_n (pc := 80) (i := 0) dX9_beginRun_80 (snd_getf (pc := 81) cls9 (f := 39) (by decide) wd_1342 dX9_beginRun_81 (snd_iload_n (pc := 84) (i := 2) dX9_beginRun_84 (snd_iconst (pc := 85) dX9_beginRun_85 (snd_iast (pc := 86) dX9_beginRun_86 (snd_iinc (pc := 87) (i := 2) (n := 1) (by decide) dX9_beginRun_87 (snd_goto (pc := 90) (off := (-16)) (tgt := 74) (by decide) dX9_beginRun_90 (ih))))))))))
noncomputable def kb_X9_beginRun_22 (F : Nat) (self : AK) : AK := ak_iload 2 (ak_push (vI 8) (ak_cmplt (ak_aload 0 (ak_getf 9 36 (ak_iload 2 (ak_iload 2 (ak_aload 0 (ak_getf 9 24 (ak_cmplt (ak_aload 0 (ak_iload 2 (ak_push (vI 0) (ak_callv 9 2 (m_X9_personOf F) ((k_X9_beginRun_51 F self)))))) (ak_push (vI 0) ((k_X9_beginRun_51 F self)))))))))) (ak_push (vI 0) (ak_istore 2 ((k_X9_beginRun_74 F F))))))
noncomputable def k_X9_beginRun_22 (F : Nat) (n : Nat) : AK := Nat.rec (motive := fun _ => AK) ak_none (fun _ self => kb_X9_beginRun_22 F self) n
set_option maxRecDepth 20000 in
theorem sk_X9_beginRun_22 (F : Nat) : ∀ n, Snd X0 RX9 cX9_beginRun 3 3 22 (k_X9_beginRun_22 F n) := by
  intro n
  induction n with
  | zero => exact snd_none
  | succ n ih =>
    show Snd X0 RX9 cX9_beginRun 3 3 22 (kb_X9_beginRun_22 F (k_X9_beginRun_22 F n))
    unfold kb_X9_beginRun_22
    exact snd_iload_n (pc := 22) (i := 2) dX9_beginRun_22 (snd_bipush (pc := 23) (by decide) dX9_beginRun_23 (snd_icmpge (pc := 25) (off := 47) (tgt := 72) (by decide) dX9_beginRun_25 (snd_iconst (pc := 72) dX9_beginRun_72 (snd_istore_n (pc := 73) (i := 2) (by decide) dX9_beginRun_73 ((sk_X9_beginRun_74 F F)))) (snd_aload_n (pc := 28) (i := 0) dX9_beginRun_28 (snd_getf (pc := 29) cls9 (f := 36) (by decide) wd_1339 dX9_beginRun_29 (snd_iload_n (pc := 32) (i := 2) dX9_beginRun_32 (snd_iload_n (pc := 33) (i := 2) dX9_beginRun_33 (snd_aload_n (pc := 34) (i := 0) dX9_beginRun_34 (snd_getf (pc := 35) cls9 (f := 24) (by decide) wd_1327 dX9_beginRun_35 (snd_icmpge (pc := 38) (off := 12) (tgt := 50) (by decide) dX9_beginRun_38 (snd_iconst (pc := 50) dX9_beginRun_50 ((sk_X9_beginRun_51 F ih))) (snd_aload_n (pc := 41) (i := 0) dX9_beginRun_41 (snd_iload_n (pc := 42) (i := 2) dX9_beginRun_42 (snd_iconst (pc := 43) dX9_beginRun_43 (snd_callV (pc := 44) (n := 2) cls9 (s_X9_personOf F) (by decide) (by decide) wd_1645 wd_1642 wd_1644 wd_74 wd_129 hy_X9_personOf dX9_beginRun_44 (snd_goto (pc := 47) (off := 4) (tgt := 51) (by decide) dX9_beginRun_47 ((sk_X9_beginRun_51 F ih))))))))))))))))
noncomputable def k_X9_beginRun (F : Nat) : AK := ak_aload 0 (ak_iload 1 (ak_callv 9 1 (m_X9_hand F) (ak_aload 0 (ak_push (vI 0) (ak_putf 9 33 (ak_aload 0 (ak_push (vI 0) (ak_putf 9 34 (ak_aload 0 (ak_push (vI 0) (ak_putf 9 35 (ak_push (vI 0) (ak_istore 2 ((k_X9_beginRun_22 F F)))))))))))))))
noncomputable def m_X9_beginRun (F : Nat) : AF := mkF 0 3 (k_X9_beginRun F)
set_option maxRecDepth 20000 in
theorem s_X9_beginRun (F : Nat) : MA yX9_beginRun cX9_beginRun 3 none 3 (m_X9_beginRun F) := met_of (Or.inl ⟨rfl, rfl⟩) (by decide) (by
  unfold k_X9_beginRun
  exact snd_aload_n (pc := 0) (i := 0) dX9_beginRun_0 (snd_iload_n (pc := 1) (i := 1) dX9_beginRun_1 (snd_callV (pc := 2) (n := 1) cls9 (s_X9_hand F) (by decide) (by decide) wd_1641 wd_1638 wd_1640 wd_73 wd_129 hy_X9_hand dX9_beginRun_2 (snd_aload_n (pc := 5) (i := 0) dX9_beginRun_5 (snd_iconst (pc := 6) dX9_beginRun_6 (snd_putf (pc := 7) cls9 (f := 33) (by decide) rfl rfl rfl wd_1336 dX9_beginRun_7 (snd_aload_n (pc := 10) (i := 0) dX9_beginRun_10 (snd_iconst (pc := 11) dX9_beginRun_11 (snd_putf (pc := 12) cls9 (f := 34) (by decide) rfl rfl rfl wd_1337 dX9_beginRun_12 (snd_aload_n (pc := 15) (i := 0) dX9_beginRun_15 (snd_iconst (pc := 16) dX9_beginRun_16 (snd_putf (pc := 17) cls9 (f := 35) (by decide) rfl rfl rfl wd_1338 dX9_beginRun_17 (snd_iconst (pc := 20) dX9_beginRun_20 (snd_istore_n (pc := 21) (i := 2) (by decide) dX9_beginRun_21 ((sk_X9_beginRun_22 F F))))))))))))))))

/-! LastWalkerModel.does(III)Z -/
theorem dX9_does_0 : decode cX9_does 0 = .ok (.iload_n 1, 1) := by decide +kernel
theorem dX9_does_1 : decode cX9_does 1 = .ok (.iconst 1, 1) := by decide +kernel
theorem dX9_does_2 : decode cX9_does 2 = .ok (.if_icmp .ne 15, 3) := by decide +kernel
theorem dX9_does_5 : decode cX9_does 5 = .ok (.aload_n 0, 1) := by decide +kernel
theorem dX9_does_6 : decode cX9_does 6 = .ok (.dup, 1) := by decide +kernel
theorem dX9_does_7 : decode cX9_does 7 = .ok (.getfield 307, 3) := by decide +kernel
theorem dX9_does_10 : decode cX9_does 10 = .ok (.iload_n 3, 1) := by decide +kernel
theorem dX9_does_11 : decode cX9_does 11 = .ok (.iadd, 1) := by decide +kernel
theorem dX9_does_12 : decode cX9_does 12 = .ok (.putfield 307, 3) := by decide +kernel
theorem dX9_does_15 : decode cX9_does 15 = .ok (.iconst 1, 1) := by decide +kernel
theorem dX9_does_16 : decode cX9_does 16 = .ok (.ireturn, 1) := by decide +kernel
theorem dX9_does_17 : decode cX9_does 17 = .ok (.aload_n 0, 1) := by decide +kernel
theorem dX9_does_18 : decode cX9_does 18 = .ok (.iload_n 2, 1) := by decide +kernel
theorem dX9_does_19 : decode cX9_does 19 = .ok (.invokevirtual 316, 3) := by decide +kernel
theorem dX9_does_22 : decode cX9_does 22 = .ok (.ifCond .eq 38, 3) := by decide +kernel
theorem dX9_does_25 : decode cX9_does 25 = .ok (.aload_n 0, 1) := by decide +kernel
theorem dX9_does_26 : decode cX9_does 26 = .ok (.iload_n 3, 1) := by decide +kernel
theorem dX9_does_27 : decode cX9_does 27 = .ok (.invokevirtual 319, 3) := by decide +kernel
theorem dX9_does_30 : decode cX9_does 30 = .ok (.ifCond .eq 30, 3) := by decide +kernel
theorem dX9_does_33 : decode cX9_does 33 = .ok (.aload_n 0, 1) := by decide +kernel
theorem dX9_does_34 : decode cX9_does 34 = .ok (.iload_n 3, 1) := by decide +kernel
theorem dX9_does_35 : decode cX9_does 35 = .ok (.aload_n 0, 1) := by decide +kernel
theorem dX9_does_36 : decode cX9_does 36 = .ok (.getfield 44, 3) := by decide +kernel
theorem dX9_does_39 : decode cX9_does 39 = .ok (.iload_n 2, 1) := by decide +kernel
theorem dX9_does_40 : decode cX9_does 40 = .ok (.iaload, 1) := by decide +kernel
theorem dX9_does_41 : decode cX9_does 41 = .ok (.invokevirtual 322, 3) := by decide +kernel
theorem dX9_does_44 : decode cX9_does 44 = .ok (.ifCond .eq 16, 3) := by decide +kernel
theorem dX9_does_47 : decode cX9_does 47 = .ok (.aload_n 0, 1) := by decide +kernel
theorem dX9_does_48 : decode cX9_does 48 = .ok (.getfield 307, 3) := by decide +kernel
theorem dX9_does_51 : decode cX9_does 51 = .ok (.aload_n 0, 1) := by decide +kernel
theorem dX9_does_52 : decode cX9_does 52 = .ok (.getfield 47, 3) := by decide +kernel
theorem dX9_does_55 : decode cX9_does 55 = .ok (.iload_n 2, 1) := by decide +kernel
theorem dX9_does_56 : decode cX9_does 56 = .ok (.iaload, 1) := by decide +kernel
theorem dX9_does_57 : decode cX9_does 57 = .ok (.if_icmp .ge 5, 3) := by decide +kernel
theorem dX9_does_60 : decode cX9_does 60 = .ok (.iconst 0, 1) := by decide +kernel
theorem dX9_does_61 : decode cX9_does 61 = .ok (.ireturn, 1) := by decide +kernel
theorem dX9_does_62 : decode cX9_does 62 = .ok (.aload_n 0, 1) := by decide +kernel
theorem dX9_does_63 : decode cX9_does 63 = .ok (.iload_n 2, 1) := by decide +kernel
theorem dX9_does_64 : decode cX9_does 64 = .ok (.iload_n 3, 1) := by decide +kernel
theorem dX9_does_65 : decode cX9_does 65 = .ok (.invokevirtual 325, 3) := by decide +kernel
theorem dX9_does_68 : decode cX9_does 68 = .ok (.istore 4, 2) := by decide +kernel
theorem dX9_does_70 : decode cX9_does 70 = .ok (.iload 4, 2) := by decide +kernel
theorem dX9_does_72 : decode cX9_does 72 = .ok (.ifCond .le 35, 3) := by decide +kernel
theorem dX9_does_75 : decode cX9_does 75 = .ok (.aload_n 0, 1) := by decide +kernel
theorem dX9_does_76 : decode cX9_does 76 = .ok (.getfield 53, 3) := by decide +kernel
theorem dX9_does_79 : decode cX9_does 79 = .ok (.bipush 8, 2) := by decide +kernel
theorem dX9_does_81 : decode cX9_does 81 = .ok (.iload_n 2, 1) := by decide +kernel
theorem dX9_does_82 : decode cX9_does 82 = .ok (.imul, 1) := by decide +kernel
theorem dX9_does_83 : decode cX9_does 83 = .ok (.aload_n 0, 1) := by decide +kernel
theorem dX9_does_84 : decode cX9_does 84 = .ok (.getfield 38, 3) := by decide +kernel
theorem dX9_does_87 : decode cX9_does 87 = .ok (.iload_n 3, 1) := by decide +kernel
theorem dX9_does_88 : decode cX9_does 88 = .ok (.iaload, 1) := by decide +kernel
theorem dX9_does_89 : decode cX9_does 89 = .ok (.iadd, 1) := by decide +kernel
theorem dX9_does_90 : decode cX9_does 90 = .ok (.dup2, 1) := by decide +kernel
theorem dX9_does_91 : decode cX9_does 91 = .ok (.iaload, 1) := by decide +kernel
theorem dX9_does_92 : decode cX9_does 92 = .ok (.iload 4, 2) := by decide +kernel
theorem dX9_does_94 : decode cX9_does 94 = .ok (.iadd, 1) := by decide +kernel
theorem dX9_does_95 : decode cX9_does 95 = .ok (.iastore, 1) := by decide +kernel
theorem dX9_does_96 : decode cX9_does 96 = .ok (.aload_n 0, 1) := by decide +kernel
theorem dX9_does_97 : decode cX9_does 97 = .ok (.dup, 1) := by decide +kernel
theorem dX9_does_98 : decode cX9_does 98 = .ok (.getfield 310, 3) := by decide +kernel
theorem dX9_does_101 : decode cX9_does 101 = .ok (.iload 4, 2) := by decide +kernel
theorem dX9_does_103 : decode cX9_does 103 = .ok (.iadd, 1) := by decide +kernel
theorem dX9_does_104 : decode cX9_does 104 = .ok (.putfield 310, 3) := by decide +kernel
theorem dX9_does_107 : decode cX9_does 107 = .ok (.iconst 0, 1) := by decide +kernel
theorem dX9_does_108 : decode cX9_does 108 = .ok (.istore 5, 2) := by decide +kernel
theorem dX9_does_110 : decode cX9_does 110 = .ok (.iconst 0, 1) := by decide +kernel
theorem dX9_does_111 : decode cX9_does 111 = .ok (.istore 6, 2) := by decide +kernel
theorem dX9_does_113 : decode cX9_does 113 = .ok (.iload 6, 2) := by decide +kernel
theorem dX9_does_115 : decode cX9_does 115 = .ok (.aload_n 0, 1) := by decide +kernel
theorem dX9_does_116 : decode cX9_does 116 = .ok (.getfield 264, 3) := by decide +kernel
theorem dX9_does_119 : decode cX9_does 119 = .ok (.if_icmp .ge 50, 3) := by decide +kernel
theorem dX9_does_122 : decode cX9_does 122 = .ok (.iload 5, 2) := by decide +kernel
theorem dX9_does_124 : decode cX9_does 124 = .ok (.iload 6, 2) := by decide +kernel
theorem dX9_does_126 : decode cX9_does 126 = .ok (.iload_n 2, 1) := by decide +kernel
theorem dX9_does_127 : decode cX9_does 127 = .ok (.if_icmp .eq 32, 3) := by decide +kernel
theorem dX9_does_130 : decode cX9_does 130 = .ok (.aload_n 0, 1) := by decide +kernel
theorem dX9_does_131 : decode cX9_does 131 = .ok (.getfield 50, 3) := by decide +kernel
theorem dX9_does_134 : decode cX9_does 134 = .ok (.iload 6, 2) := by decide +kernel
theorem dX9_does_136 : decode cX9_does 136 = .ok (.iaload, 1) := by decide +kernel
theorem dX9_does_137 : decode cX9_does 137 = .ok (.iload_n 3, 1) := by decide +kernel
theorem dX9_does_138 : decode cX9_does 138 = .ok (.if_icmp .ne 21, 3) := by decide +kernel
theorem dX9_does_141 : decode cX9_does 141 = .ok (.aload_n 0, 1) := by decide +kernel
theorem dX9_does_142 : decode cX9_does 142 = .ok (.getfield 47, 3) := by decide +kernel
theorem dX9_does_145 : decode cX9_does 145 = .ok (.iload 6, 2) := by decide +kernel
theorem dX9_does_147 : decode cX9_does 147 = .ok (.iaload, 1) := by decide +kernel
theorem dX9_does_148 : decode cX9_does 148 = .ok (.aload_n 0, 1) := by decide +kernel
theorem dX9_does_149 : decode cX9_does 149 = .ok (.getfield 307, 3) := by decide +kernel
theorem dX9_does_152 : decode cX9_does 152 = .ok (.if_icmp .le 7, 3) := by decide +kernel
theorem dX9_does_155 : decode cX9_does 155 = .ok (.iconst 1, 1) := by decide +kernel
theorem dX9_does_156 : decode cX9_does 156 = .ok (.goto 4, 3) := by decide +kernel
theorem dX9_does_159 : decode cX9_does 159 = .ok (.iconst 0, 1) := by decide +kernel
theorem dX9_does_160 : decode cX9_does 160 = .ok (.iadd, 1) := by decide +kernel
theorem dX9_does_161 : decode cX9_does 161 = .ok (.istore 5, 2) := by decide +kernel
theorem dX9_does_163 : decode cX9_does 163 = .ok (.iinc 6 1, 3) := by decide +kernel
theorem dX9_does_166 : decode cX9_does 166 = .ok (.goto (-53), 3) := by decide +kernel
theorem dX9_does_169 : decode cX9_does 169 = .ok (.aload_n 0, 1) := by decide +kernel
theorem dX9_does_170 : decode cX9_does 170 = .ok (.dup, 1) := by decide +kernel
theorem dX9_does_171 : decode cX9_does 171 = .ok (.getfield 313, 3) := by decide +kernel
theorem dX9_does_174 : decode cX9_does 174 = .ok (.iload 5, 2) := by decide +kernel
theorem dX9_does_176 : decode cX9_does 176 = .ok (.ifCond .le 7, 3) := by decide +kernel
theorem dX9_does_179 : decode cX9_does 179 = .ok (.iconst 1, 1) := by decide +kernel
theorem dX9_does_180 : decode cX9_does 180 = .ok (.goto 4, 3) := by decide +kernel
theorem dX9_does_183 : decode cX9_does 183 = .ok (.iconst 0, 1) := by decide +kernel
theorem dX9_does_184 : decode cX9_does 184 = .ok (.iadd, 1) := by decide +kernel
theorem dX9_does_185 : decode cX9_does 185 = .ok (.putfield 313, 3) := by decide +kernel
theorem dX9_does_188 : decode cX9_does 188 = .ok (.aload_n 0, 1) := by decide +kernel
theorem dX9_does_189 : decode cX9_does 189 = .ok (.getfield 38, 3) := by decide +kernel
theorem dX9_does_192 : decode cX9_does 192 = .ok (.iload_n 3, 1) := by decide +kernel
theorem dX9_does_193 : decode cX9_does 193 = .ok (.aload_n 0, 1) := by decide +kernel
theorem dX9_does_194 : decode cX9_does 194 = .ok (.iload_n 2, 1) := by decide +kernel
theorem dX9_does_195 : decode cX9_does 195 = .ok (.iload_n 3, 1) := by decide +kernel
theorem dX9_does_196 : decode cX9_does 196 = .ok (.aload_n 0, 1) := by decide +kernel
theorem dX9_does_197 : decode cX9_does 197 = .ok (.getfield 307, 3) := by decide +kernel
theorem dX9_does_200 : decode cX9_does 200 = .ok (.invokevirtual 328, 3) := by decide +kernel
theorem dX9_does_203 : decode cX9_does 203 = .ok (.ifCond .eq 7, 3) := by decide +kernel
theorem dX9_does_206 : decode cX9_does 206 = .ok (.iload_n 2, 1) := by decide +kernel
theorem dX9_does_207 : decode cX9_does 207 = .ok (.goto 9, 3) := by decide +kernel
theorem dX9_does_210 : decode cX9_does 210 = .ok (.aload_n 0, 1) := by decide +kernel
theorem dX9_does_211 : decode cX9_does 211 = .ok (.getfield 38, 3) := by decide +kernel
theorem dX9_does_214 : decode cX9_does 214 = .ok (.iload_n 3, 1) := by decide +kernel
theorem dX9_does_215 : decode cX9_does 215 = .ok (.iaload, 1) := by decide +kernel
theorem dX9_does_216 : decode cX9_does 216 = .ok (.iastore, 1) := by decide +kernel
theorem dX9_does_217 : decode cX9_does 217 = .ok (.aload_n 0, 1) := by decide +kernel
theorem dX9_does_218 : decode cX9_does 218 = .ok (.getfield 44, 3) := by decide +kernel
theorem dX9_does_221 : decode cX9_does 221 = .ok (.iload_n 2, 1) := by decide +kernel
theorem dX9_does_222 : decode cX9_does 222 = .ok (.aload_n 0, 1) := by decide +kernel
theorem dX9_does_223 : decode cX9_does 223 = .ok (.iload_n 3, 1) := by decide +kernel
theorem dX9_does_224 : decode cX9_does 224 = .ok (.aload_n 0, 1) := by decide +kernel
theorem dX9_does_225 : decode cX9_does 225 = .ok (.getfield 44, 3) := by decide +kernel
theorem dX9_does_228 : decode cX9_does 228 = .ok (.iload_n 2, 1) := by decide +kernel
theorem dX9_does_229 : decode cX9_does 229 = .ok (.iaload, 1) := by decide +kernel
theorem dX9_does_230 : decode cX9_does 230 = .ok (.invokevirtual 331, 3) := by decide +kernel
theorem dX9_does_233 : decode cX9_does 233 = .ok (.iastore, 1) := by decide +kernel
theorem dX9_does_234 : decode cX9_does 234 = .ok (.aload_n 0, 1) := by decide +kernel
theorem dX9_does_235 : decode cX9_does 235 = .ok (.getfield 47, 3) := by decide +kernel
theorem dX9_does_238 : decode cX9_does 238 = .ok (.iload_n 2, 1) := by decide +kernel
theorem dX9_does_239 : decode cX9_does 239 = .ok (.aload_n 0, 1) := by decide +kernel
theorem dX9_does_240 : decode cX9_does 240 = .ok (.getfield 307, 3) := by decide +kernel
theorem dX9_does_243 : decode cX9_does 243 = .ok (.aload_n 0, 1) := by decide +kernel
theorem dX9_does_244 : decode cX9_does 244 = .ok (.iload_n 3, 1) := by decide +kernel
theorem dX9_does_245 : decode cX9_does 245 = .ok (.iconst 2, 1) := by decide +kernel
theorem dX9_does_246 : decode cX9_does 246 = .ok (.invokevirtual 294, 3) := by decide +kernel
theorem dX9_does_249 : decode cX9_does 249 = .ok (.iadd, 1) := by decide +kernel
theorem dX9_does_250 : decode cX9_does 250 = .ok (.iastore, 1) := by decide +kernel
theorem dX9_does_251 : decode cX9_does 251 = .ok (.aload_n 0, 1) := by decide +kernel
theorem dX9_does_252 : decode cX9_does 252 = .ok (.getfield 50, 3) := by decide +kernel
theorem dX9_does_255 : decode cX9_does 255 = .ok (.iload_n 2, 1) := by decide +kernel
theorem dX9_does_256 : decode cX9_does 256 = .ok (.iload_n 3, 1) := by decide +kernel
theorem dX9_does_257 : decode cX9_does 257 = .ok (.iastore, 1) := by decide +kernel
theorem dX9_does_258 : decode cX9_does 258 = .ok (.iconst 1, 1) := by decide +kernel
theorem dX9_does_259 : decode cX9_does 259 = .ok (.ireturn, 1) := by decide +kernel
noncomputable def k_X9_does_160 (F : Nat) (h113 : AK) : AK := ak_iadd (ak_istore 5 (ak_iinc 6 1 h113))
set_option maxRecDepth 20000 in
theorem sk_X9_does_160 (F : Nat) {h113 : AK} (hh113 : Snd X0 RX9 cX9_does 7 3 113 h113) : Snd X0 RX9 cX9_does 7 3 160 (k_X9_does_160 F h113) := by
  unfold k_X9_does_160
  exact snd_iadd (pc := 160) dX9_does_160 (snd_istore (pc := 161) (i := 5) (by decide) dX9_does_161 (snd_iinc (pc := 163) (i := 6) (n := 1) (by decide) dX9_does_163 (snd_goto (pc := 166) (off := (-53)) (tgt := 113) (by decide) dX9_does_166 (hh113))))
noncomputable def k_X9_does_159 (F : Nat) (h113 : AK) : AK := ak_push (vI 0) ((k_X9_does_160 F h113))
set_option maxRecDepth 20000 in
theorem sk_X9_does_159 (F : Nat) {h113 : AK} (hh113 : Snd X0 RX9 cX9_does 7 3 113 h113) : Snd X0 RX9 cX9_does 7 3 159 (k_X9_does_159 F h113) := by
  unfold k_X9_does_159
  exact snd_iconst (pc := 159) dX9_does_159 ((sk_X9_does_160 F hh113))
noncomputable def k_X9_does_216 (F : Nat) : AK := ak_iast (ak_aload 0 (ak_getf 9 36 (ak_iload 2 (ak_aload 0 (ak_iload 3 (ak_aload 0 (ak_getf 9 36 (ak_iload 2 (ak_iald (ak_callv 9 2 (m_X9_farEnd F) (ak_iast (ak_aload 0 (ak_getf 9 37 (ak_iload 2 (ak_aload 0 (ak_getf 9 33 (ak_aload 0 (ak_iload 3 (ak_push (vI 2) (ak_callv 9 2 (m_X9_roadOf F) (ak_iadd (ak_iast (ak_aload 0 (ak_getf 9 38 (ak_iload 2 (ak_iload 3 (ak_iast (ak_push (vI 1) ak_ireturn))))))))))))))))))))))))))))
set_option maxRecDepth 20000 in
theorem sk_X9_does_216 (F : Nat) : Snd X0 RX9 cX9_does 7 3 216 (k_X9_does_216 F) := by
  unfold k_X9_does_216
  exact snd_iast (pc := 216) dX9_does_216 (snd_aload_n (pc := 217) (i := 0) dX9_does_217 (snd_getf (pc := 218) cls9 (f := 36) (by decide) wd_1339 dX9_does_218 (snd_iload_n (pc := 221) (i := 2) dX9_does_221 (snd_aload_n (pc := 222) (i := 0) dX9_does_222 (snd_iload_n (pc := 223) (i := 3) dX9_does_223 (snd_aload_n (pc := 224) (i := 0) dX9_does_224 (snd_getf (pc := 225) cls9 (f := 36) (by decide) wd_1339 dX9_does_225 (snd_iload_n (pc := 228) (i := 2) dX9_does_228 (snd_iald (pc := 229) dX9_does_229 (snd_callV (pc := 230) (n := 2) cls9 (s_X9_farEnd F) (by decide) (by decide) wd_1689 wd_1686 wd_1688 wd_85 wd_129 hy_X9_farEnd dX9_does_230 (snd_iast (pc := 233) dX9_does_233 (snd_aload_n (pc := 234) (i := 0) dX9_does_234 (snd_getf (pc := 235) cls9 (f := 37) (by decide) wd_1340 dX9_does_235 (snd_iload_n (pc := 238) (i := 2) dX9_does_238 (snd_aload_n (pc := 239) (i := 0) dX9_does_239 (snd_getf (pc := 240) cls9 (f := 33) (by decide) wd_1336 dX9_does_240 (snd_aload_n (pc := 243) (i := 0) dX9_does_243 (snd_iload_n (pc := 244) (i := 3) dX9_does_244 (snd_iconst (pc := 245) dX9_does_245 (snd_callV (pc := 246) (n := 2) cls9 (s_X9_roadOf F) (by decide) (by decide) wd_1657 wd_1654 wd_1656 wd_77 wd_129 hy_X9_roadOf dX9_does_246 (snd_iadd (pc := 249) dX9_does_249 (snd_iast (pc := 250) dX9_does_250 (snd_aload_n (pc := 251) (i := 0) dX9_does_251 (snd_getf (pc := 252) cls9 (f := 38) (by decide) wd_1341 dX9_does_252 (snd_iload_n (pc := 255) (i := 2) dX9_does_255 (snd_iload_n (pc := 256) (i := 3) dX9_does_256 (snd_iast (pc := 257) dX9_does_257 (snd_iconst (pc := 258) dX9_does_258 (snd_ireturn dX9_does_259)))))))))))))))))))))))))))))
noncomputable def k_X9_does_184 (F : Nat) : AK := ak_iadd (ak_putf 9 35 (ak_aload 0 (ak_getf 9 31 (ak_iload 3 (ak_aload 0 (ak_iload 2 (ak_iload 3 (ak_aload 0 (ak_getf 9 33 (ak_callv 9 3 (m_X9_comes F) (ak_ifeq (ak_aload 0 (ak_getf 9 31 (ak_iload 3 (ak_iald ((k_X9_does_216 F)))))) (ak_iload 2 ((k_X9_does_216 F))))))))))))))
set_option maxRecDepth 20000 in
theorem sk_X9_does_184 (F : Nat) : Snd X0 RX9 cX9_does 7 3 184 (k_X9_does_184 F) := by
  unfold k_X9_does_184
  exact snd_iadd (pc := 184) dX9_does_184 (snd_putf (pc := 185) cls9 (f := 35) (by decide) rfl rfl rfl wd_1338 dX9_does_185 (snd_aload_n (pc := 188) (i := 0) dX9_does_188 (snd_getf (pc := 189) cls9 (f := 31) (by decide) wd_1334 dX9_does_189 (snd_iload_n (pc := 192) (i := 3) dX9_does_192 (snd_aload_n (pc := 193) (i := 0) dX9_does_193 (snd_iload_n (pc := 194) (i := 2) dX9_does_194 (snd_iload_n (pc := 195) (i := 3) dX9_does_195 (snd_aload_n (pc := 196) (i := 0) dX9_does_196 (snd_getf (pc := 197) cls9 (f := 33) (by decide) wd_1336 dX9_does_197 (snd_callV (pc := 200) (n := 3) cls9 (s_X9_comes F) (by decide) (by decide) wd_1685 wd_1682 wd_1684 wd_84 wd_129 hy_X9_comes dX9_does_200 (snd_ifeq (pc := 203) (off := 7) (tgt := 210) (by decide) dX9_does_203 (snd_aload_n (pc := 210) (i := 0) dX9_does_210 (snd_getf (pc := 211) cls9 (f := 31) (by decide) wd_1334 dX9_does_211 (snd_iload_n (pc := 214) (i := 3) dX9_does_214 (snd_iald (pc := 215) dX9_does_215 ((sk_X9_does_216 F)))))) (snd_iload_n (pc := 206) (i := 2) dX9_does_206 (snd_goto (pc := 207) (off := 9) (tgt := 216) (by decide) dX9_does_207 ((sk_X9_does_216 F)))))))))))))))
noncomputable def kb_X9_does_113 (F : Nat) (self : AK) : AK := ak_iload 6 (ak_aload 0 (ak_getf 9 24 (ak_cmplt (ak_iload 5 (ak_iload 6 (ak_iload 2 (ak_cmpeq ((k_X9_does_159 F self)) (ak_aload 0 (ak_getf 9 38 (ak_iload 6 (ak_iald (ak_iload 3 (ak_cmpeq (ak_aload 0 (ak_getf 9 37 (ak_iload 6 (ak_iald (ak_aload 0 (ak_getf 9 33 (ak_cmpgt (ak_push (vI 1) ((k_X9_does_160 F self))) ((k_X9_does_159 F self))))))))) ((k_X9_does_159 F self)))))))))))) (ak_aload 0 (ak_dup (ak_getf 9 35 (ak_iload 5 (ak_ifgt (ak_push (vI 1) ((k_X9_does_184 F))) (ak_push (vI 0) ((k_X9_does_184 F)))))))))))
noncomputable def k_X9_does_113 (F : Nat) (n : Nat) : AK := Nat.rec (motive := fun _ => AK) ak_none (fun _ self => kb_X9_does_113 F self) n
set_option maxRecDepth 20000 in
theorem sk_X9_does_113 (F : Nat) : ∀ n, Snd X0 RX9 cX9_does 7 3 113 (k_X9_does_113 F n) := by
  intro n
  induction n with
  | zero => exact snd_none
  | succ n ih =>
    show Snd X0 RX9 cX9_does 7 3 113 (kb_X9_does_113 F (k_X9_does_113 F n))
    unfold kb_X9_does_113
    exact snd_iload (pc := 113) (i := 6) dX9_does_113 (snd_aload_n (pc := 115) (i := 0) dX9_does_115 (snd_getf (pc := 116) cls9 (f := 24) (by decide) wd_1327 dX9_does_116 (snd_icmpge (pc := 119) (off := 50) (tgt := 169) (by decide) dX9_does_119 (snd_aload_n (pc := 169) (i := 0) dX9_does_169 (snd_dup (pc := 170) dX9_does_170 (snd_getf (pc := 171) cls9 (f := 35) (by decide) wd_1338 dX9_does_171 (snd_iload (pc := 174) (i := 5) dX9_does_174 (snd_ifle (pc := 176) (off := 7) (tgt := 183) (by decide) dX9_does_176 (snd_iconst (pc := 183) dX9_does_183 ((sk_X9_does_184 F))) (snd_iconst (pc := 179) dX9_does_179 (snd_goto (pc := 180) (off := 4) (tgt := 184) (by decide) dX9_does_180 ((sk_X9_does_184 F))))))))) (snd_iload (pc := 122) (i := 5) dX9_does_122 (snd_iload (pc := 124) (i := 6) dX9_does_124 (snd_iload_n (pc := 126) (i := 2) dX9_does_126 (snd_icmpeq (pc := 127) (off := 32) (tgt := 159) (by decide) dX9_does_127 ((sk_X9_does_159 F ih)) (snd_aload_n (pc := 130) (i := 0) dX9_does_130 (snd_getf (pc := 131) cls9 (f := 38) (by decide) wd_1341 dX9_does_131 (snd_iload (pc := 134) (i := 6) dX9_does_134 (snd_iald (pc := 136) dX9_does_136 (snd_iload_n (pc := 137) (i := 3) dX9_does_137 (snd_icmpne (pc := 138) (off := 21) (tgt := 159) (by decide) dX9_does_138 ((sk_X9_does_159 F ih)) (snd_aload_n (pc := 141) (i := 0) dX9_does_141 (snd_getf (pc := 142) cls9 (f := 37) (by decide) wd_1340 dX9_does_142 (snd_iload (pc := 145) (i := 6) dX9_does_145 (snd_iald (pc := 147) dX9_does_147 (snd_aload_n (pc := 148) (i := 0) dX9_does_148 (snd_getf (pc := 149) cls9 (f := 33) (by decide) wd_1336 dX9_does_149 (snd_icmple (pc := 152) (off := 7) (tgt := 159) (by decide) dX9_does_152 ((sk_X9_does_159 F ih)) (snd_iconst (pc := 155) dX9_does_155 (snd_goto (pc := 156) (off := 4) (tgt := 160) (by decide) dX9_does_156 ((sk_X9_does_160 F ih))))))))))))))))))))))))
noncomputable def k_X9_does_107 (F : Nat) : AK := ak_push (vI 0) (ak_istore 5 (ak_push (vI 0) (ak_istore 6 ((k_X9_does_113 F F)))))
set_option maxRecDepth 20000 in
theorem sk_X9_does_107 (F : Nat) : Snd X0 RX9 cX9_does 7 3 107 (k_X9_does_107 F) := by
  unfold k_X9_does_107
  exact snd_iconst (pc := 107) dX9_does_107 (snd_istore (pc := 108) (i := 5) (by decide) dX9_does_108 (snd_iconst (pc := 110) dX9_does_110 (snd_istore (pc := 111) (i := 6) (by decide) dX9_does_111 ((sk_X9_does_113 F F)))))
noncomputable def k_X9_does (F : Nat) : AK := ak_iload 1 (ak_push (vI 1) (ak_cmpeq (ak_aload 0 (ak_dup (ak_getf 9 33 (ak_iload 3 (ak_iadd (ak_putf 9 33 (ak_push (vI 1) ak_ireturn))))))) (ak_aload 0 (ak_iload 2 (ak_callv 9 1 (m_X9_isPerson F) (ak_ifeq (ak_push (vI 0) ak_ireturn) (ak_aload 0 (ak_iload 3 (ak_callv 9 1 (m_X9_isRoad F) (ak_ifeq (ak_push (vI 0) ak_ireturn) (ak_aload 0 (ak_iload 3 (ak_aload 0 (ak_getf 9 36 (ak_iload 2 (ak_iald (ak_callv 9 2 (m_X9_ends F) (ak_ifeq (ak_push (vI 0) ak_ireturn) (ak_aload 0 (ak_getf 9 33 (ak_aload 0 (ak_getf 9 37 (ak_iload 2 (ak_iald (ak_cmplt (ak_push (vI 0) ak_ireturn) (ak_aload 0 (ak_iload 2 (ak_iload 3 (ak_callv 9 2 (m_X9_pays F) (ak_istore 4 (ak_iload 4 (ak_ifgt (ak_aload 0 (ak_getf 9 39 (ak_push (vI 8) (ak_iload 2 (ak_imul (ak_aload 0 (ak_getf 9 31 (ak_iload 3 (ak_iald (ak_iadd (ak_dup2 (ak_iald (ak_iload 4 (ak_iadd (ak_iast (ak_aload 0 (ak_dup (ak_getf 9 34 (ak_iload 4 (ak_iadd (ak_putf 9 34 ((k_X9_does_107 F))))))))))))))))))))))) ((k_X9_does_107 F))))))))))))))))))))))))))))))))))
noncomputable def m_X9_does (F : Nat) : AF := mkF 2 7 (k_X9_does F)
set_option maxRecDepth 20000 in
theorem s_X9_does (F : Nat) : MA yX9_does cX9_does 7 (some .boolean) 3 (m_X9_does F) := met_of (Or.inr (Or.inr (Or.inl ⟨rfl, rfl⟩))) (by decide) (by
  unfold k_X9_does
  exact snd_iload_n (pc := 0) (i := 1) dX9_does_0 (snd_iconst (pc := 1) dX9_does_1 (snd_icmpne (pc := 2) (off := 15) (tgt := 17) (by decide) dX9_does_2 (snd_aload_n (pc := 17) (i := 0) dX9_does_17 (snd_iload_n (pc := 18) (i := 2) dX9_does_18 (snd_callV (pc := 19) (n := 1) cls9 (s_X9_isPerson F) (by decide) (by decide) wd_1665 wd_1662 wd_1664 wd_79 wd_129 hy_X9_isPerson dX9_does_19 (snd_ifeq (pc := 22) (off := 38) (tgt := 60) (by decide) dX9_does_22 (snd_iconst (pc := 60) dX9_does_60 (snd_ireturn dX9_does_61)) (snd_aload_n (pc := 25) (i := 0) dX9_does_25 (snd_iload_n (pc := 26) (i := 3) dX9_does_26 (snd_callV (pc := 27) (n := 1) cls9 (s_X9_isRoad F) (by decide) (by decide) wd_1669 wd_1666 wd_1668 wd_80 wd_129 hy_X9_isRoad dX9_does_27 (snd_ifeq (pc := 30) (off := 30) (tgt := 60) (by decide) dX9_does_30 (snd_iconst (pc := 60) dX9_does_60 (snd_ireturn dX9_does_61)) (snd_aload_n (pc := 33) (i := 0) dX9_does_33 (snd_iload_n (pc := 34) (i := 3) dX9_does_34 (snd_aload_n (pc := 35) (i := 0) dX9_does_35 (snd_getf (pc := 36) cls9 (f := 36) (by decide) wd_1339 dX9_does_36 (snd_iload_n (pc := 39) (i := 2) dX9_does_39 (snd_iald (pc := 40) dX9_does_40 (snd_callV (pc := 41) (n := 2) cls9 (s_X9_ends F) (by decide) (by decide) wd_1673 wd_1670 wd_1672 wd_81 wd_129 hy_X9_ends dX9_does_41 (snd_ifeq (pc := 44) (off := 16) (tgt := 60) (by decide) dX9_does_44 (snd_iconst (pc := 60) dX9_does_60 (snd_ireturn dX9_does_61)) (snd_aload_n (pc := 47) (i := 0) dX9_does_47 (snd_getf (pc := 48) cls9 (f := 33) (by decide) wd_1336 dX9_does_48 (snd_aload_n (pc := 51) (i := 0) dX9_does_51 (snd_getf (pc := 52) cls9 (f := 37) (by decide) wd_1340 dX9_does_52 (snd_iload_n (pc := 55) (i := 2) dX9_does_55 (snd_iald (pc := 56) dX9_does_56 (snd_icmpge (pc := 57) (off := 5) (tgt := 62) (by decide) dX9_does_57 (snd_aload_n (pc := 62) (i := 0) dX9_does_62 (snd_iload_n (pc := 63) (i := 2) dX9_does_63 (snd_iload_n (pc := 64) (i := 3) dX9_does_64 (snd_callV (pc := 65) (n := 2) cls9 (s_X9_pays F) (by decide) (by decide) wd_1677 wd_1674 wd_1676 wd_82 wd_129 hy_X9_pays dX9_does_65 (snd_istore (pc := 68) (i := 4) (by decide) dX9_does_68 (snd_iload (pc := 70) (i := 4) dX9_does_70 (snd_ifle (pc := 72) (off := 35) (tgt := 107) (by decide) dX9_does_72 ((sk_X9_does_107 F)) (snd_aload_n (pc := 75) (i := 0) dX9_does_75 (snd_getf (pc := 76) cls9 (f := 39) (by decide) wd_1342 dX9_does_76 (snd_bipush (pc := 79) (by decide) dX9_does_79 (snd_iload_n (pc := 81) (i := 2) dX9_does_81 (snd_imul (pc := 82) dX9_does_82 (snd_aload_n (pc := 83) (i := 0) dX9_does_83 (snd_getf (pc := 84) cls9 (f := 31) (by decide) wd_1334 dX9_does_84 (snd_iload_n (pc := 87) (i := 3) dX9_does_87 (snd_iald (pc := 88) dX9_does_88 (snd_iadd (pc := 89) dX9_does_89 (snd_dup2 (pc := 90) dX9_does_90 (snd_iald (pc := 91) dX9_does_91 (snd_iload (pc := 92) (i := 4) dX9_does_92 (snd_iadd (pc := 94) dX9_does_94 (snd_iast (pc := 95) dX9_does_95 (snd_aload_n (pc := 96) (i := 0) dX9_does_96 (snd_dup (pc := 97) dX9_does_97 (snd_getf (pc := 98) cls9 (f := 34) (by decide) wd_1337 dX9_does_98 (snd_iload (pc := 101) (i := 4) dX9_does_101 (snd_iadd (pc := 103) dX9_does_103 (snd_putf (pc := 104) cls9 (f := 34) (by decide) rfl rfl rfl wd_1337 dX9_does_104 ((sk_X9_does_107 F)))))))))))))))))))))))))))))) (snd_iconst (pc := 60) dX9_does_60 (snd_ireturn dX9_does_61))))))))))))))))))))))))) (snd_aload_n (pc := 5) (i := 0) dX9_does_5 (snd_dup (pc := 6) dX9_does_6 (snd_getf (pc := 7) cls9 (f := 33) (by decide) wd_1336 dX9_does_7 (snd_iload_n (pc := 10) (i := 3) dX9_does_10 (snd_iadd (pc := 11) dX9_does_11 (snd_putf (pc := 12) cls9 (f := 33) (by decide) rfl rfl rfl wd_1336 dX9_does_12 (snd_iconst (pc := 15) dX9_does_15 (snd_ireturn dX9_does_16)))))))))))

/-! LastWalkerModel.runTo(III)I -/
theorem dX9_runTo_0 : decode cX9_runTo 0 = .ok (.aload_n 0, 1) := by decide +kernel
theorem dX9_runTo_1 : decode cX9_runTo 1 = .ok (.iload_n 1, 1) := by decide +kernel
theorem dX9_runTo_2 : decode cX9_runTo 2 = .ok (.invokevirtual 334, 3) := by decide +kernel
theorem dX9_runTo_5 : decode cX9_runTo 5 = .ok (.iconst 0, 1) := by decide +kernel
theorem dX9_runTo_6 : decode cX9_runTo 6 = .ok (.istore 4, 2) := by decide +kernel
theorem dX9_runTo_8 : decode cX9_runTo 8 = .ok (.iload 4, 2) := by decide +kernel
theorem dX9_runTo_10 : decode cX9_runTo 10 = .ok (.iload_n 3, 1) := by decide +kernel
theorem dX9_runTo_11 : decode cX9_runTo 11 = .ok (.if_icmp .ge 43, 3) := by decide +kernel
theorem dX9_runTo_14 : decode cX9_runTo 14 = .ok (.aload_n 0, 1) := by decide +kernel
theorem dX9_runTo_15 : decode cX9_runTo 15 = .ok (.aload_n 0, 1) := by decide +kernel
theorem dX9_runTo_16 : decode cX9_runTo 16 = .ok (.iload_n 2, 1) := by decide +kernel
theorem dX9_runTo_17 : decode cX9_runTo 17 = .ok (.iload 4, 2) := by decide +kernel
theorem dX9_runTo_19 : decode cX9_runTo 19 = .ok (.iconst 0, 1) := by decide +kernel
theorem dX9_runTo_20 : decode cX9_runTo 20 = .ok (.invokevirtual 251, 3) := by decide +kernel
theorem dX9_runTo_23 : decode cX9_runTo 23 = .ok (.aload_n 0, 1) := by decide +kernel
theorem dX9_runTo_24 : decode cX9_runTo 24 = .ok (.iload_n 2, 1) := by decide +kernel
theorem dX9_runTo_25 : decode cX9_runTo 25 = .ok (.iload 4, 2) := by decide +kernel
theorem dX9_runTo_27 : decode cX9_runTo 27 = .ok (.iconst 1, 1) := by decide +kernel
theorem dX9_runTo_28 : decode cX9_runTo 28 = .ok (.invokevirtual 251, 3) := by decide +kernel
theorem dX9_runTo_31 : decode cX9_runTo 31 = .ok (.aload_n 0, 1) := by decide +kernel
theorem dX9_runTo_32 : decode cX9_runTo 32 = .ok (.iload_n 2, 1) := by decide +kernel
theorem dX9_runTo_33 : decode cX9_runTo 33 = .ok (.iload 4, 2) := by decide +kernel
theorem dX9_runTo_35 : decode cX9_runTo 35 = .ok (.iconst 2, 1) := by decide +kernel
theorem dX9_runTo_36 : decode cX9_runTo 36 = .ok (.invokevirtual 251, 3) := by decide +kernel
theorem dX9_runTo_39 : decode cX9_runTo 39 = .ok (.invokevirtual 337, 3) := by decide +kernel
theorem dX9_runTo_42 : decode cX9_runTo 42 = .ok (.ifCond .ne 6, 3) := by decide +kernel
theorem dX9_runTo_45 : decode cX9_runTo 45 = .ok (.iload 4, 2) := by decide +kernel
theorem dX9_runTo_47 : decode cX9_runTo 47 = .ok (.ireturn, 1) := by decide +kernel
theorem dX9_runTo_48 : decode cX9_runTo 48 = .ok (.iinc 4 1, 3) := by decide +kernel
theorem dX9_runTo_51 : decode cX9_runTo 51 = .ok (.goto (-43), 3) := by decide +kernel
theorem dX9_runTo_54 : decode cX9_runTo 54 = .ok (.iload_n 3, 1) := by decide +kernel
theorem dX9_runTo_55 : decode cX9_runTo 55 = .ok (.ireturn, 1) := by decide +kernel
noncomputable def kb_X9_runTo_8 (F : Nat) (self : AK) : AK := ak_iload 4 (ak_iload 3 (ak_cmplt (ak_aload 0 (ak_aload 0 (ak_iload 2 (ak_iload 4 (ak_push (vI 0) (ak_callv 9 3 (m_X9_moveOf F) (ak_aload 0 (ak_iload 2 (ak_iload 4 (ak_push (vI 1) (ak_callv 9 3 (m_X9_moveOf F) (ak_aload 0 (ak_iload 2 (ak_iload 4 (ak_push (vI 2) (ak_callv 9 3 (m_X9_moveOf F) (ak_callv 9 3 (m_X9_does F) (ak_ifeq (ak_iload 4 ak_ireturn) (ak_iinc 4 1 self))))))))))))))))))) (ak_iload 3 ak_ireturn)))
noncomputable def k_X9_runTo_8 (F : Nat) (n : Nat) : AK := Nat.rec (motive := fun _ => AK) ak_none (fun _ self => kb_X9_runTo_8 F self) n
set_option maxRecDepth 20000 in
theorem sk_X9_runTo_8 (F : Nat) : ∀ n, Snd X0 RX9 cX9_runTo 5 4 8 (k_X9_runTo_8 F n) := by
  intro n
  induction n with
  | zero => exact snd_none
  | succ n ih =>
    show Snd X0 RX9 cX9_runTo 5 4 8 (kb_X9_runTo_8 F (k_X9_runTo_8 F n))
    unfold kb_X9_runTo_8
    exact snd_iload (pc := 8) (i := 4) dX9_runTo_8 (snd_iload_n (pc := 10) (i := 3) dX9_runTo_10 (snd_icmpge (pc := 11) (off := 43) (tgt := 54) (by decide) dX9_runTo_11 (snd_iload_n (pc := 54) (i := 3) dX9_runTo_54 (snd_ireturn dX9_runTo_55)) (snd_aload_n (pc := 14) (i := 0) dX9_runTo_14 (snd_aload_n (pc := 15) (i := 0) dX9_runTo_15 (snd_iload_n (pc := 16) (i := 2) dX9_runTo_16 (snd_iload (pc := 17) (i := 4) dX9_runTo_17 (snd_iconst (pc := 19) dX9_runTo_19 (snd_callV (pc := 20) (n := 3) cls9 (s_X9_moveOf F) (by decide) (by decide) wd_1625 wd_1622 wd_1624 wd_70 wd_129 hy_X9_moveOf dX9_runTo_20 (snd_aload_n (pc := 23) (i := 0) dX9_runTo_23 (snd_iload_n (pc := 24) (i := 2) dX9_runTo_24 (snd_iload (pc := 25) (i := 4) dX9_runTo_25 (snd_iconst (pc := 27) dX9_runTo_27 (snd_callV (pc := 28) (n := 3) cls9 (s_X9_moveOf F) (by decide) (by decide) wd_1625 wd_1622 wd_1624 wd_70 wd_129 hy_X9_moveOf dX9_runTo_28 (snd_aload_n (pc := 31) (i := 0) dX9_runTo_31 (snd_iload_n (pc := 32) (i := 2) dX9_runTo_32 (snd_iload (pc := 33) (i := 4) dX9_runTo_33 (snd_iconst (pc := 35) dX9_runTo_35 (snd_callV (pc := 36) (n := 3) cls9 (s_X9_moveOf F) (by decide) (by decide) wd_1625 wd_1622 wd_1624 wd_70 wd_129 hy_X9_moveOf dX9_runTo_36 (snd_callV (pc := 39) (n := 3) cls9 (s_X9_does F) (by decide) (by decide) wd_1661 wd_1658 wd_1660 wd_78 wd_129 hy_X9_does dX9_runTo_39 (snd_ifne (pc := 42) (off := 6) (tgt := 48) (by decide) dX9_runTo_42 (snd_iinc (pc := 48) (i := 4) (n := 1) (by decide) dX9_runTo_48 (snd_goto (pc := 51) (off := (-43)) (tgt := 8) (by decide) dX9_runTo_51 (ih))) (snd_iload (pc := 45) (i := 4) dX9_runTo_45 (snd_ireturn dX9_runTo_47))))))))))))))))))))))
noncomputable def k_X9_runTo (F : Nat) : AK := ak_aload 0 (ak_iload 1 (ak_callv 9 1 (m_X9_beginRun F) (ak_push (vI 0) (ak_istore 4 ((k_X9_runTo_8 F F))))))
noncomputable def m_X9_runTo (F : Nat) : AF := mkF 1 5 (k_X9_runTo F)
set_option maxRecDepth 20000 in
theorem s_X9_runTo (F : Nat) : MA yX9_runTo cX9_runTo 5 (some .int) 4 (m_X9_runTo F) := met_of (Or.inr (Or.inl ⟨rfl, rfl⟩)) (by decide) (by
  unfold k_X9_runTo
  exact snd_aload_n (pc := 0) (i := 0) dX9_runTo_0 (snd_iload_n (pc := 1) (i := 1) dX9_runTo_1 (snd_callV (pc := 2) (n := 1) cls9 (s_X9_beginRun F) (by decide) (by decide) wd_1637 wd_1634 wd_1636 wd_72 wd_129 hy_X9_beginRun dX9_runTo_2 (snd_iconst (pc := 5) dX9_runTo_5 (snd_istore (pc := 6) (i := 4) (by decide) dX9_runTo_6 ((sk_X9_runTo_8 F F)))))))

/-! LastWalkerModel.lay(III)Z -/
theorem dX9_lay_0 : decode cX9_lay 0 = .ok (.aload_n 0, 1) := by decide +kernel
theorem dX9_lay_1 : decode cX9_lay 1 = .ok (.iload_n 1, 1) := by decide +kernel
theorem dX9_lay_2 : decode cX9_lay 2 = .ok (.invokevirtual 237, 3) := by decide +kernel
theorem dX9_lay_5 : decode cX9_lay 5 = .ok (.ifCond .eq 38, 3) := by decide +kernel
theorem dX9_lay_8 : decode cX9_lay 8 = .ok (.iload_n 2, 1) := by decide +kernel
theorem dX9_lay_9 : decode cX9_lay 9 = .ok (.iconst (-1), 1) := by decide +kernel
theorem dX9_lay_10 : decode cX9_lay 10 = .ok (.if_icmp .eq 11, 3) := by decide +kernel
theorem dX9_lay_13 : decode cX9_lay 13 = .ok (.aload_n 0, 1) := by decide +kernel
theorem dX9_lay_14 : decode cX9_lay 14 = .ok (.iload_n 2, 1) := by decide +kernel
theorem dX9_lay_15 : decode cX9_lay 15 = .ok (.invokevirtual 244, 3) := by decide +kernel
theorem dX9_lay_18 : decode cX9_lay 18 = .ok (.ifCond .eq 25, 3) := by decide +kernel
theorem dX9_lay_21 : decode cX9_lay 21 = .ok (.iload_n 3, 1) := by decide +kernel
theorem dX9_lay_22 : decode cX9_lay 22 = .ok (.iconst 0, 1) := by decide +kernel
theorem dX9_lay_23 : decode cX9_lay 23 = .ok (.iload_n 2, 1) := by decide +kernel
theorem dX9_lay_24 : decode cX9_lay 24 = .ok (.iconst (-1), 1) := by decide +kernel
theorem dX9_lay_25 : decode cX9_lay 25 = .ok (.if_icmp .ne 7, 3) := by decide +kernel
theorem dX9_lay_28 : decode cX9_lay 28 = .ok (.iconst 0, 1) := by decide +kernel
theorem dX9_lay_29 : decode cX9_lay 29 = .ok (.goto 8, 3) := by decide +kernel
theorem dX9_lay_32 : decode cX9_lay 32 = .ok (.aload_n 0, 1) := by decide +kernel
theorem dX9_lay_33 : decode cX9_lay 33 = .ok (.iload_n 2, 1) := by decide +kernel
theorem dX9_lay_34 : decode cX9_lay 34 = .ok (.invokevirtual 247, 3) := by decide +kernel
theorem dX9_lay_37 : decode cX9_lay 37 = .ok (.invokestatic 120, 3) := by decide +kernel
theorem dX9_lay_40 : decode cX9_lay 40 = .ok (.ifCond .ne 5, 3) := by decide +kernel
theorem dX9_lay_43 : decode cX9_lay 43 = .ok (.iconst 0, 1) := by decide +kernel
theorem dX9_lay_44 : decode cX9_lay 44 = .ok (.ireturn, 1) := by decide +kernel
theorem dX9_lay_45 : decode cX9_lay 45 = .ok (.aload_n 0, 1) := by decide +kernel
theorem dX9_lay_46 : decode cX9_lay 46 = .ok (.iload_n 1, 1) := by decide +kernel
theorem dX9_lay_47 : decode cX9_lay 47 = .ok (.iload_n 2, 1) := by decide +kernel
theorem dX9_lay_48 : decode cX9_lay 48 = .ok (.iload_n 3, 1) := by decide +kernel
theorem dX9_lay_49 : decode cX9_lay 49 = .ok (.invokevirtual 340, 3) := by decide +kernel
theorem dX9_lay_52 : decode cX9_lay 52 = .ok (.iload_n 3, 1) := by decide +kernel
theorem dX9_lay_53 : decode cX9_lay 53 = .ok (.if_icmp .ne 7, 3) := by decide +kernel
theorem dX9_lay_56 : decode cX9_lay 56 = .ok (.iconst 1, 1) := by decide +kernel
theorem dX9_lay_57 : decode cX9_lay 57 = .ok (.goto 4, 3) := by decide +kernel
theorem dX9_lay_60 : decode cX9_lay 60 = .ok (.iconst 0, 1) := by decide +kernel
theorem dX9_lay_61 : decode cX9_lay 61 = .ok (.ireturn, 1) := by decide +kernel
noncomputable def k_X9_lay_37 (F : Nat) : AK := ak_call 3 (m_X9_in F) (ak_ifeq (ak_push (vI 0) ak_ireturn) (ak_aload 0 (ak_iload 1 (ak_iload 2 (ak_iload 3 (ak_callv 9 3 (m_X9_runTo F) (ak_iload 3 (ak_cmpeq (ak_push (vI 1) ak_ireturn) (ak_push (vI 0) ak_ireturn)))))))))
set_option maxRecDepth 20000 in
theorem sk_X9_lay_37 (F : Nat) : Snd X0 RX9 cX9_lay 4 5 37 (k_X9_lay_37 F) := by
  unfold k_X9_lay_37
  exact snd_callS (pc := 37) (n := 3) (s_X9_in F) (by decide) (by decide) wd_1511 wd_1509 wd_1510 wd_129 hy_X9_in dX9_lay_37 (snd_ifne (pc := 40) (off := 5) (tgt := 45) (by decide) dX9_lay_40 (snd_aload_n (pc := 45) (i := 0) dX9_lay_45 (snd_iload_n (pc := 46) (i := 1) dX9_lay_46 (snd_iload_n (pc := 47) (i := 2) dX9_lay_47 (snd_iload_n (pc := 48) (i := 3) dX9_lay_48 (snd_callV (pc := 49) (n := 3) cls9 (s_X9_runTo F) (by decide) (by decide) wd_1633 wd_1630 wd_1632 wd_71 wd_129 hy_X9_runTo dX9_lay_49 (snd_iload_n (pc := 52) (i := 3) dX9_lay_52 (snd_icmpne (pc := 53) (off := 7) (tgt := 60) (by decide) dX9_lay_53 (snd_iconst (pc := 60) dX9_lay_60 (snd_ireturn dX9_lay_61)) (snd_iconst (pc := 56) dX9_lay_56 (snd_goto (pc := 57) (off := 4) (tgt := 61) (by decide) dX9_lay_57 (snd_ireturn dX9_lay_61)))))))))) (snd_iconst (pc := 43) dX9_lay_43 (snd_ireturn dX9_lay_44)))
noncomputable def k_X9_lay_21 (F : Nat) : AK := ak_iload 3 (ak_push (vI 0) (ak_iload 2 (ak_push (vI (-1)) (ak_cmpeq (ak_push (vI 0) ((k_X9_lay_37 F))) (ak_aload 0 (ak_iload 2 (ak_callv 9 1 (m_X9_movesOf F) ((k_X9_lay_37 F)))))))))
set_option maxRecDepth 20000 in
theorem sk_X9_lay_21 (F : Nat) : Snd X0 RX9 cX9_lay 4 5 21 (k_X9_lay_21 F) := by
  unfold k_X9_lay_21
  exact snd_iload_n (pc := 21) (i := 3) dX9_lay_21 (snd_iconst (pc := 22) dX9_lay_22 (snd_iload_n (pc := 23) (i := 2) dX9_lay_23 (snd_iconst (pc := 24) dX9_lay_24 (snd_icmpne (pc := 25) (off := 7) (tgt := 32) (by decide) dX9_lay_25 (snd_aload_n (pc := 32) (i := 0) dX9_lay_32 (snd_iload_n (pc := 33) (i := 2) dX9_lay_33 (snd_callV (pc := 34) (n := 1) cls9 (s_X9_movesOf F) (by decide) (by decide) wd_1621 wd_1618 wd_1620 wd_69 wd_129 hy_X9_movesOf dX9_lay_34 ((sk_X9_lay_37 F))))) (snd_iconst (pc := 28) dX9_lay_28 (snd_goto (pc := 29) (off := 8) (tgt := 37) (by decide) dX9_lay_29 ((sk_X9_lay_37 F))))))))
noncomputable def k_X9_lay (F : Nat) : AK := ak_aload 0 (ak_iload 1 (ak_callv 9 1 (m_X9_isTown F) (ak_ifeq (ak_push (vI 0) ak_ireturn) (ak_iload 2 (ak_push (vI (-1)) (ak_cmpeq ((k_X9_lay_21 F)) (ak_aload 0 (ak_iload 2 (ak_callv 9 1 (m_X9_isDay F) (ak_ifeq (ak_push (vI 0) ak_ireturn) ((k_X9_lay_21 F))))))))))))
noncomputable def m_X9_lay (F : Nat) : AF := mkF 2 4 (k_X9_lay F)
set_option maxRecDepth 20000 in
theorem s_X9_lay (F : Nat) : MA yX9_lay cX9_lay 4 (some .boolean) 5 (m_X9_lay F) := met_of (Or.inr (Or.inr (Or.inl ⟨rfl, rfl⟩))) (by decide) (by
  unfold k_X9_lay
  exact snd_aload_n (pc := 0) (i := 0) dX9_lay_0 (snd_iload_n (pc := 1) (i := 1) dX9_lay_1 (snd_callV (pc := 2) (n := 1) cls9 (s_X9_isTown F) (by decide) (by decide) wd_1593 wd_1590 wd_1592 wd_66 wd_129 hy_X9_isTown dX9_lay_2 (snd_ifeq (pc := 5) (off := 38) (tgt := 43) (by decide) dX9_lay_5 (snd_iconst (pc := 43) dX9_lay_43 (snd_ireturn dX9_lay_44)) (snd_iload_n (pc := 8) (i := 2) dX9_lay_8 (snd_iconst (pc := 9) dX9_lay_9 (snd_icmpeq (pc := 10) (off := 11) (tgt := 21) (by decide) dX9_lay_10 ((sk_X9_lay_21 F)) (snd_aload_n (pc := 13) (i := 0) dX9_lay_13 (snd_iload_n (pc := 14) (i := 2) dX9_lay_14 (snd_callV (pc := 15) (n := 1) cls9 (s_X9_isDay F) (by decide) (by decide) wd_1617 wd_1614 wd_1616 wd_68 wd_129 hy_X9_isDay dX9_lay_15 (snd_ifeq (pc := 18) (off := 25) (tgt := 43) (by decide) dX9_lay_18 (snd_iconst (pc := 43) dX9_lay_43 (snd_ireturn dX9_lay_44)) ((sk_X9_lay_21 F)))))))))))))

/-! LastWalkerModel.run(III)I -/
theorem dX9_run_0 : decode cX9_run 0 = .ok (.aload_n 0, 1) := by decide +kernel
theorem dX9_run_1 : decode cX9_run 1 = .ok (.iconst 0, 1) := by decide +kernel
theorem dX9_run_2 : decode cX9_run 2 = .ok (.putfield 112, 3) := by decide +kernel
theorem dX9_run_5 : decode cX9_run 5 = .ok (.aload_n 0, 1) := by decide +kernel
theorem dX9_run_6 : decode cX9_run 6 = .ok (.iload_n 1, 1) := by decide +kernel
theorem dX9_run_7 : decode cX9_run 7 = .ok (.invokevirtual 237, 3) := by decide +kernel
theorem dX9_run_10 : decode cX9_run 10 = .ok (.ifCond .eq 11, 3) := by decide +kernel
theorem dX9_run_13 : decode cX9_run 13 = .ok (.aload_n 0, 1) := by decide +kernel
theorem dX9_run_14 : decode cX9_run 14 = .ok (.iload_n 2, 1) := by decide +kernel
theorem dX9_run_15 : decode cX9_run 15 = .ok (.invokevirtual 244, 3) := by decide +kernel
theorem dX9_run_18 : decode cX9_run 18 = .ok (.ifCond .ne 5, 3) := by decide +kernel
theorem dX9_run_21 : decode cX9_run 21 = .ok (.iconst (-1), 1) := by decide +kernel
theorem dX9_run_22 : decode cX9_run 22 = .ok (.ireturn, 1) := by decide +kernel
theorem dX9_run_23 : decode cX9_run 23 = .ok (.aload_n 0, 1) := by decide +kernel
theorem dX9_run_24 : decode cX9_run 24 = .ok (.iload_n 1, 1) := by decide +kernel
theorem dX9_run_25 : decode cX9_run 25 = .ok (.iload_n 2, 1) := by decide +kernel
theorem dX9_run_26 : decode cX9_run 26 = .ok (.aload_n 0, 1) := by decide +kernel
theorem dX9_run_27 : decode cX9_run 27 = .ok (.iload_n 2, 1) := by decide +kernel
theorem dX9_run_28 : decode cX9_run 28 = .ok (.invokevirtual 247, 3) := by decide +kernel
theorem dX9_run_31 : decode cX9_run 31 = .ok (.invokevirtual 340, 3) := by decide +kernel
theorem dX9_run_34 : decode cX9_run 34 = .ok (.istore 4, 2) := by decide +kernel
theorem dX9_run_36 : decode cX9_run 36 = .ok (.iload_n 3, 1) := by decide +kernel
theorem dX9_run_37 : decode cX9_run 37 = .ok (.ifCond .ne 8, 3) := by decide +kernel
theorem dX9_run_40 : decode cX9_run 40 = .ok (.iload 4, 2) := by decide +kernel
theorem dX9_run_42 : decode cX9_run 42 = .ok (.goto 16, 3) := by decide +kernel
theorem dX9_run_45 : decode cX9_run 45 = .ok (.iload_n 3, 1) := by decide +kernel
theorem dX9_run_46 : decode cX9_run 46 = .ok (.iconst 1, 1) := by decide +kernel
theorem dX9_run_47 : decode cX9_run 47 = .ok (.if_icmp .ne 10, 3) := by decide +kernel
theorem dX9_run_50 : decode cX9_run 50 = .ok (.aload_n 0, 1) := by decide +kernel
theorem dX9_run_51 : decode cX9_run 51 = .ok (.getfield 313, 3) := by decide +kernel
theorem dX9_run_54 : decode cX9_run 54 = .ok (.goto 4, 3) := by decide +kernel
theorem dX9_run_57 : decode cX9_run 57 = .ok (.iconst (-1), 1) := by decide +kernel
theorem dX9_run_58 : decode cX9_run 58 = .ok (.ireturn, 1) := by decide +kernel
noncomputable def k_X9_run (F : Nat) : AK := ak_aload 0 (ak_push (vI 0) (ak_putf 9 0 (ak_aload 0 (ak_iload 1 (ak_callv 9 1 (m_X9_isTown F) (ak_ifeq (ak_push (vI (-1)) ak_ireturn) (ak_aload 0 (ak_iload 2 (ak_callv 9 1 (m_X9_isDay F) (ak_ifeq (ak_push (vI (-1)) ak_ireturn) (ak_aload 0 (ak_iload 1 (ak_iload 2 (ak_aload 0 (ak_iload 2 (ak_callv 9 1 (m_X9_movesOf F) (ak_callv 9 3 (m_X9_runTo F) (ak_istore 4 (ak_iload 3 (ak_ifeq (ak_iload 4 ak_ireturn) (ak_iload 3 (ak_push (vI 1) (ak_cmpeq (ak_aload 0 (ak_getf 9 35 ak_ireturn)) (ak_push (vI (-1)) ak_ireturn))))))))))))))))))))))))
noncomputable def m_X9_run (F : Nat) : AF := mkF 1 5 (k_X9_run F)
set_option maxRecDepth 20000 in
theorem s_X9_run (F : Nat) : MA yX9_run cX9_run 5 (some .int) 5 (m_X9_run F) := met_of (Or.inr (Or.inl ⟨rfl, rfl⟩)) (by decide) (by
  unfold k_X9_run
  exact snd_aload_n (pc := 0) (i := 0) dX9_run_0 (snd_iconst (pc := 1) dX9_run_1 (snd_putf (pc := 2) cls9 (f := 0) (by decide) rfl rfl rfl wd_1303 dX9_run_2 (snd_aload_n (pc := 5) (i := 0) dX9_run_5 (snd_iload_n (pc := 6) (i := 1) dX9_run_6 (snd_callV (pc := 7) (n := 1) cls9 (s_X9_isTown F) (by decide) (by decide) wd_1593 wd_1590 wd_1592 wd_66 wd_129 hy_X9_isTown dX9_run_7 (snd_ifeq (pc := 10) (off := 11) (tgt := 21) (by decide) dX9_run_10 (snd_iconst (pc := 21) dX9_run_21 (snd_ireturn dX9_run_22)) (snd_aload_n (pc := 13) (i := 0) dX9_run_13 (snd_iload_n (pc := 14) (i := 2) dX9_run_14 (snd_callV (pc := 15) (n := 1) cls9 (s_X9_isDay F) (by decide) (by decide) wd_1617 wd_1614 wd_1616 wd_68 wd_129 hy_X9_isDay dX9_run_15 (snd_ifne (pc := 18) (off := 5) (tgt := 23) (by decide) dX9_run_18 (snd_aload_n (pc := 23) (i := 0) dX9_run_23 (snd_iload_n (pc := 24) (i := 1) dX9_run_24 (snd_iload_n (pc := 25) (i := 2) dX9_run_25 (snd_aload_n (pc := 26) (i := 0) dX9_run_26 (snd_iload_n (pc := 27) (i := 2) dX9_run_27 (snd_callV (pc := 28) (n := 1) cls9 (s_X9_movesOf F) (by decide) (by decide) wd_1621 wd_1618 wd_1620 wd_69 wd_129 hy_X9_movesOf dX9_run_28 (snd_callV (pc := 31) (n := 3) cls9 (s_X9_runTo F) (by decide) (by decide) wd_1633 wd_1630 wd_1632 wd_71 wd_129 hy_X9_runTo dX9_run_31 (snd_istore (pc := 34) (i := 4) (by decide) dX9_run_34 (snd_iload_n (pc := 36) (i := 3) dX9_run_36 (snd_ifne (pc := 37) (off := 8) (tgt := 45) (by decide) dX9_run_37 (snd_iload_n (pc := 45) (i := 3) dX9_run_45 (snd_iconst (pc := 46) dX9_run_46 (snd_icmpne (pc := 47) (off := 10) (tgt := 57) (by decide) dX9_run_47 (snd_iconst (pc := 57) dX9_run_57 (snd_ireturn dX9_run_58)) (snd_aload_n (pc := 50) (i := 0) dX9_run_50 (snd_getf (pc := 51) cls9 (f := 35) (by decide) wd_1338 dX9_run_51 (snd_goto (pc := 54) (off := 4) (tgt := 58) (by decide) dX9_run_54 (snd_ireturn dX9_run_58))))))) (snd_iload (pc := 40) (i := 4) dX9_run_40 (snd_goto (pc := 42) (off := 16) (tgt := 58) (by decide) dX9_run_42 (snd_ireturn dX9_run_58))))))))))))) (snd_iconst (pc := 21) dX9_run_21 (snd_ireturn dX9_run_22)))))))))))))

/-! LastWalkerModel.state(IIII)I -/
theorem dX9_state_0 : decode cX9_state 0 = .ok (.aload_n 0, 1) := by decide +kernel
theorem dX9_state_1 : decode cX9_state 1 = .ok (.iconst 0, 1) := by decide +kernel
theorem dX9_state_2 : decode cX9_state 2 = .ok (.putfield 112, 3) := by decide +kernel
theorem dX9_state_5 : decode cX9_state 5 = .ok (.aload_n 0, 1) := by decide +kernel
theorem dX9_state_6 : decode cX9_state 6 = .ok (.iload_n 1, 1) := by decide +kernel
theorem dX9_state_7 : decode cX9_state 7 = .ok (.iload_n 2, 1) := by decide +kernel
theorem dX9_state_8 : decode cX9_state 8 = .ok (.iload_n 3, 1) := by decide +kernel
theorem dX9_state_9 : decode cX9_state 9 = .ok (.invokevirtual 343, 3) := by decide +kernel
theorem dX9_state_12 : decode cX9_state 12 = .ok (.ifCond .ne 6, 3) := by decide +kernel
theorem dX9_state_15 : decode cX9_state 15 = .ok (.bipush (-2), 2) := by decide +kernel
theorem dX9_state_17 : decode cX9_state 17 = .ok (.ireturn, 1) := by decide +kernel
theorem dX9_state_18 : decode cX9_state 18 = .ok (.iload 4, 2) := by decide +kernel
theorem dX9_state_20 : decode cX9_state 20 = .ok (.bipush 10, 2) := by decide +kernel
theorem dX9_state_22 : decode cX9_state 22 = .ok (.bipush 9, 2) := by decide +kernel
theorem dX9_state_24 : decode cX9_state 24 = .ok (.aload_n 0, 1) := by decide +kernel
theorem dX9_state_25 : decode cX9_state 25 = .ok (.getfield 261, 3) := by decide +kernel
theorem dX9_state_28 : decode cX9_state 28 = .ok (.iadd, 1) := by decide +kernel
theorem dX9_state_29 : decode cX9_state 29 = .ok (.invokestatic 120, 3) := by decide +kernel
theorem dX9_state_32 : decode cX9_state 32 = .ok (.ifCond .eq 14, 3) := by decide +kernel
theorem dX9_state_35 : decode cX9_state 35 = .ok (.aload_n 0, 1) := by decide +kernel
theorem dX9_state_36 : decode cX9_state 36 = .ok (.getfield 38, 3) := by decide +kernel
theorem dX9_state_39 : decode cX9_state 39 = .ok (.iload 4, 2) := by decide +kernel
theorem dX9_state_41 : decode cX9_state 41 = .ok (.bipush 10, 2) := by decide +kernel
theorem dX9_state_43 : decode cX9_state 43 = .ok (.isub, 1) := by decide +kernel
theorem dX9_state_44 : decode cX9_state 44 = .ok (.iaload, 1) := by decide +kernel
theorem dX9_state_45 : decode cX9_state 45 = .ok (.ireturn, 1) := by decide +kernel
theorem dX9_state_46 : decode cX9_state 46 = .ok (.iload 4, 2) := by decide +kernel
theorem dX9_state_48 : decode cX9_state 48 = .ok (.bipush 30, 2) := by decide +kernel
theorem dX9_state_50 : decode cX9_state 50 = .ok (.bipush 29, 2) := by decide +kernel
theorem dX9_state_52 : decode cX9_state 52 = .ok (.aload_n 0, 1) := by decide +kernel
theorem dX9_state_53 : decode cX9_state 53 = .ok (.getfield 264, 3) := by decide +kernel
theorem dX9_state_56 : decode cX9_state 56 = .ok (.iadd, 1) := by decide +kernel
theorem dX9_state_57 : decode cX9_state 57 = .ok (.invokestatic 120, 3) := by decide +kernel
theorem dX9_state_60 : decode cX9_state 60 = .ok (.ifCond .eq 14, 3) := by decide +kernel
theorem dX9_state_63 : decode cX9_state 63 = .ok (.aload_n 0, 1) := by decide +kernel
theorem dX9_state_64 : decode cX9_state 64 = .ok (.getfield 44, 3) := by decide +kernel
theorem dX9_state_67 : decode cX9_state 67 = .ok (.iload 4, 2) := by decide +kernel
theorem dX9_state_69 : decode cX9_state 69 = .ok (.bipush 30, 2) := by decide +kernel
theorem dX9_state_71 : decode cX9_state 71 = .ok (.isub, 1) := by decide +kernel
theorem dX9_state_72 : decode cX9_state 72 = .ok (.iaload, 1) := by decide +kernel
theorem dX9_state_73 : decode cX9_state 73 = .ok (.ireturn, 1) := by decide +kernel
theorem dX9_state_74 : decode cX9_state 74 = .ok (.iload 4, 2) := by decide +kernel
theorem dX9_state_76 : decode cX9_state 76 = .ok (.bipush 40, 2) := by decide +kernel
theorem dX9_state_78 : decode cX9_state 78 = .ok (.bipush 39, 2) := by decide +kernel
theorem dX9_state_80 : decode cX9_state 80 = .ok (.aload_n 0, 1) := by decide +kernel
theorem dX9_state_81 : decode cX9_state 81 = .ok (.getfield 264, 3) := by decide +kernel
theorem dX9_state_84 : decode cX9_state 84 = .ok (.iadd, 1) := by decide +kernel
theorem dX9_state_85 : decode cX9_state 85 = .ok (.invokestatic 120, 3) := by decide +kernel
theorem dX9_state_88 : decode cX9_state 88 = .ok (.ifCond .eq 16, 3) := by decide +kernel
theorem dX9_state_91 : decode cX9_state 91 = .ok (.aload_n 0, 1) := by decide +kernel
theorem dX9_state_92 : decode cX9_state 92 = .ok (.getfield 47, 3) := by decide +kernel
theorem dX9_state_95 : decode cX9_state 95 = .ok (.iload 4, 2) := by decide +kernel
theorem dX9_state_97 : decode cX9_state 97 = .ok (.bipush 40, 2) := by decide +kernel
theorem dX9_state_99 : decode cX9_state 99 = .ok (.isub, 1) := by decide +kernel
theorem dX9_state_100 : decode cX9_state 100 = .ok (.iaload, 1) := by decide +kernel
theorem dX9_state_101 : decode cX9_state 101 = .ok (.goto 30, 3) := by decide +kernel
theorem dX9_state_104 : decode cX9_state 104 = .ok (.iload 4, 2) := by decide +kernel
theorem dX9_state_106 : decode cX9_state 106 = .ok (.ifCond .ne 10, 3) := by decide +kernel
theorem dX9_state_109 : decode cX9_state 109 = .ok (.aload_n 0, 1) := by decide +kernel
theorem dX9_state_110 : decode cX9_state 110 = .ok (.getfield 307, 3) := by decide +kernel
theorem dX9_state_113 : decode cX9_state 113 = .ok (.goto 18, 3) := by decide +kernel
theorem dX9_state_116 : decode cX9_state 116 = .ok (.iload 4, 2) := by decide +kernel
theorem dX9_state_118 : decode cX9_state 118 = .ok (.iconst 1, 1) := by decide +kernel
theorem dX9_state_119 : decode cX9_state 119 = .ok (.if_icmp .ne 10, 3) := by decide +kernel
theorem dX9_state_122 : decode cX9_state 122 = .ok (.aload_n 0, 1) := by decide +kernel
theorem dX9_state_123 : decode cX9_state 123 = .ok (.getfield 310, 3) := by decide +kernel
theorem dX9_state_126 : decode cX9_state 126 = .ok (.goto 5, 3) := by decide +kernel
theorem dX9_state_129 : decode cX9_state 129 = .ok (.bipush (-2), 2) := by decide +kernel
theorem dX9_state_131 : decode cX9_state 131 = .ok (.ireturn, 1) := by decide +kernel
noncomputable def k_X9_state (F : Nat) : AK := ak_aload 0 (ak_push (vI 0) (ak_putf 9 0 (ak_aload 0 (ak_iload 1 (ak_iload 2 (ak_iload 3 (ak_callv 9 3 (m_X9_lay F) (ak_ifeq (ak_push (vI (-2)) ak_ireturn) (ak_iload 4 (ak_push (vI 10) (ak_push (vI 9) (ak_aload 0 (ak_getf 9 23 (ak_iadd (ak_call 3 (m_X9_in F) (ak_ifeq (ak_iload 4 (ak_push (vI 30) (ak_push (vI 29) (ak_aload 0 (ak_getf 9 24 (ak_iadd (ak_call 3 (m_X9_in F) (ak_ifeq (ak_iload 4 (ak_push (vI 40) (ak_push (vI 39) (ak_aload 0 (ak_getf 9 24 (ak_iadd (ak_call 3 (m_X9_in F) (ak_ifeq (ak_iload 4 (ak_ifeq (ak_aload 0 (ak_getf 9 33 ak_ireturn)) (ak_iload 4 (ak_push (vI 1) (ak_cmpeq (ak_aload 0 (ak_getf 9 34 ak_ireturn)) (ak_push (vI (-2)) ak_ireturn)))))) (ak_aload 0 (ak_getf 9 37 (ak_iload 4 (ak_push (vI 40) (ak_isub (ak_iald ak_ireturn)))))))))))))) (ak_aload 0 (ak_getf 9 36 (ak_iload 4 (ak_push (vI 30) (ak_isub (ak_iald ak_ireturn)))))))))))))) (ak_aload 0 (ak_getf 9 31 (ak_iload 4 (ak_push (vI 10) (ak_isub (ak_iald ak_ireturn))))))))))))))))))))))
noncomputable def m_X9_state (F : Nat) : AF := mkF 1 5 (k_X9_state F)
set_option maxRecDepth 20000 in
theorem s_X9_state (F : Nat) : MA yX9_state cX9_state 5 (some .int) 6 (m_X9_state F) := met_of (Or.inr (Or.inl ⟨rfl, rfl⟩)) (by decide) (by
  unfold k_X9_state
  exact snd_aload_n (pc := 0) (i := 0) dX9_state_0 (snd_iconst (pc := 1) dX9_state_1 (snd_putf (pc := 2) cls9 (f := 0) (by decide) rfl rfl rfl wd_1303 dX9_state_2 (snd_aload_n (pc := 5) (i := 0) dX9_state_5 (snd_iload_n (pc := 6) (i := 1) dX9_state_6 (snd_iload_n (pc := 7) (i := 2) dX9_state_7 (snd_iload_n (pc := 8) (i := 3) dX9_state_8 (snd_callV (pc := 9) (n := 3) cls9 (s_X9_lay F) (by decide) (by decide) wd_1697 wd_1694 wd_1696 wd_86 wd_129 hy_X9_lay dX9_state_9 (snd_ifne (pc := 12) (off := 6) (tgt := 18) (by decide) dX9_state_12 (snd_iload (pc := 18) (i := 4) dX9_state_18 (snd_bipush (pc := 20) (by decide) dX9_state_20 (snd_bipush (pc := 22) (by decide) dX9_state_22 (snd_aload_n (pc := 24) (i := 0) dX9_state_24 (snd_getf (pc := 25) cls9 (f := 23) (by decide) wd_1326 dX9_state_25 (snd_iadd (pc := 28) dX9_state_28 (snd_callS (pc := 29) (n := 3) (s_X9_in F) (by decide) (by decide) wd_1511 wd_1509 wd_1510 wd_129 hy_X9_in dX9_state_29 (snd_ifeq (pc := 32) (off := 14) (tgt := 46) (by decide) dX9_state_32 (snd_iload (pc := 46) (i := 4) dX9_state_46 (snd_bipush (pc := 48) (by decide) dX9_state_48 (snd_bipush (pc := 50) (by decide) dX9_state_50 (snd_aload_n (pc := 52) (i := 0) dX9_state_52 (snd_getf (pc := 53) cls9 (f := 24) (by decide) wd_1327 dX9_state_53 (snd_iadd (pc := 56) dX9_state_56 (snd_callS (pc := 57) (n := 3) (s_X9_in F) (by decide) (by decide) wd_1511 wd_1509 wd_1510 wd_129 hy_X9_in dX9_state_57 (snd_ifeq (pc := 60) (off := 14) (tgt := 74) (by decide) dX9_state_60 (snd_iload (pc := 74) (i := 4) dX9_state_74 (snd_bipush (pc := 76) (by decide) dX9_state_76 (snd_bipush (pc := 78) (by decide) dX9_state_78 (snd_aload_n (pc := 80) (i := 0) dX9_state_80 (snd_getf (pc := 81) cls9 (f := 24) (by decide) wd_1327 dX9_state_81 (snd_iadd (pc := 84) dX9_state_84 (snd_callS (pc := 85) (n := 3) (s_X9_in F) (by decide) (by decide) wd_1511 wd_1509 wd_1510 wd_129 hy_X9_in dX9_state_85 (snd_ifeq (pc := 88) (off := 16) (tgt := 104) (by decide) dX9_state_88 (snd_iload (pc := 104) (i := 4) dX9_state_104 (snd_ifne (pc := 106) (off := 10) (tgt := 116) (by decide) dX9_state_106 (snd_iload (pc := 116) (i := 4) dX9_state_116 (snd_iconst (pc := 118) dX9_state_118 (snd_icmpne (pc := 119) (off := 10) (tgt := 129) (by decide) dX9_state_119 (snd_bipush (pc := 129) (by decide) dX9_state_129 (snd_ireturn dX9_state_131)) (snd_aload_n (pc := 122) (i := 0) dX9_state_122 (snd_getf (pc := 123) cls9 (f := 34) (by decide) wd_1337 dX9_state_123 (snd_goto (pc := 126) (off := 5) (tgt := 131) (by decide) dX9_state_126 (snd_ireturn dX9_state_131))))))) (snd_aload_n (pc := 109) (i := 0) dX9_state_109 (snd_getf (pc := 110) cls9 (f := 33) (by decide) wd_1336 dX9_state_110 (snd_goto (pc := 113) (off := 18) (tgt := 131) (by decide) dX9_state_113 (snd_ireturn dX9_state_131)))))) (snd_aload_n (pc := 91) (i := 0) dX9_state_91 (snd_getf (pc := 92) cls9 (f := 37) (by decide) wd_1340 dX9_state_92 (snd_iload (pc := 95) (i := 4) dX9_state_95 (snd_bipush (pc := 97) (by decide) dX9_state_97 (snd_isub (pc := 99) dX9_state_99 (snd_iald (pc := 100) dX9_state_100 (snd_goto (pc := 101) (off := 30) (tgt := 131) (by decide) dX9_state_101 (snd_ireturn dX9_state_131)))))))))))))))) (snd_aload_n (pc := 63) (i := 0) dX9_state_63 (snd_getf (pc := 64) cls9 (f := 36) (by decide) wd_1339 dX9_state_64 (snd_iload (pc := 67) (i := 4) dX9_state_67 (snd_bipush (pc := 69) (by decide) dX9_state_69 (snd_isub (pc := 71) dX9_state_71 (snd_iald (pc := 72) dX9_state_72 (snd_ireturn dX9_state_73))))))))))))))) (snd_aload_n (pc := 35) (i := 0) dX9_state_35 (snd_getf (pc := 36) cls9 (f := 31) (by decide) wd_1334 dX9_state_36 (snd_iload (pc := 39) (i := 4) dX9_state_39 (snd_bipush (pc := 41) (by decide) dX9_state_41 (snd_isub (pc := 43) dX9_state_43 (snd_iald (pc := 44) dX9_state_44 (snd_ireturn dX9_state_45))))))))))))))) (snd_bipush (pc := 15) (by decide) dX9_state_15 (snd_ireturn dX9_state_17)))))))))))

/-! LastWalkerModel.paid(IIIII)I -/
theorem dX9_paid_0 : decode cX9_paid 0 = .ok (.aload_n 0, 1) := by decide +kernel
theorem dX9_paid_1 : decode cX9_paid 1 = .ok (.iconst 0, 1) := by decide +kernel
theorem dX9_paid_2 : decode cX9_paid 2 = .ok (.putfield 112, 3) := by decide +kernel
theorem dX9_paid_5 : decode cX9_paid 5 = .ok (.aload_n 0, 1) := by decide +kernel
theorem dX9_paid_6 : decode cX9_paid 6 = .ok (.iload_n 1, 1) := by decide +kernel
theorem dX9_paid_7 : decode cX9_paid 7 = .ok (.iload_n 2, 1) := by decide +kernel
theorem dX9_paid_8 : decode cX9_paid 8 = .ok (.iload_n 3, 1) := by decide +kernel
theorem dX9_paid_9 : decode cX9_paid 9 = .ok (.invokevirtual 343, 3) := by decide +kernel
theorem dX9_paid_12 : decode cX9_paid 12 = .ok (.ifCond .eq 37, 3) := by decide +kernel
theorem dX9_paid_15 : decode cX9_paid 15 = .ok (.aload_n 0, 1) := by decide +kernel
theorem dX9_paid_16 : decode cX9_paid 16 = .ok (.iload 4, 2) := by decide +kernel
theorem dX9_paid_18 : decode cX9_paid 18 = .ok (.invokevirtual 316, 3) := by decide +kernel
theorem dX9_paid_21 : decode cX9_paid 21 = .ok (.ifCond .eq 28, 3) := by decide +kernel
theorem dX9_paid_24 : decode cX9_paid 24 = .ok (.aload_n 0, 1) := by decide +kernel
theorem dX9_paid_25 : decode cX9_paid 25 = .ok (.iload 5, 2) := by decide +kernel
theorem dX9_paid_27 : decode cX9_paid 27 = .ok (.invokevirtual 316, 3) := by decide +kernel
theorem dX9_paid_30 : decode cX9_paid 30 = .ok (.ifCond .eq 19, 3) := by decide +kernel
theorem dX9_paid_33 : decode cX9_paid 33 = .ok (.aload_n 0, 1) := by decide +kernel
theorem dX9_paid_34 : decode cX9_paid 34 = .ok (.getfield 53, 3) := by decide +kernel
theorem dX9_paid_37 : decode cX9_paid 37 = .ok (.bipush 8, 2) := by decide +kernel
theorem dX9_paid_39 : decode cX9_paid 39 = .ok (.iload 4, 2) := by decide +kernel
theorem dX9_paid_41 : decode cX9_paid 41 = .ok (.imul, 1) := by decide +kernel
theorem dX9_paid_42 : decode cX9_paid 42 = .ok (.iload 5, 2) := by decide +kernel
theorem dX9_paid_44 : decode cX9_paid 44 = .ok (.iadd, 1) := by decide +kernel
theorem dX9_paid_45 : decode cX9_paid 45 = .ok (.iaload, 1) := by decide +kernel
theorem dX9_paid_46 : decode cX9_paid 46 = .ok (.goto 4, 3) := by decide +kernel
theorem dX9_paid_49 : decode cX9_paid 49 = .ok (.iconst (-1), 1) := by decide +kernel
theorem dX9_paid_50 : decode cX9_paid 50 = .ok (.ireturn, 1) := by decide +kernel
noncomputable def k_X9_paid (F : Nat) : AK := ak_aload 0 (ak_push (vI 0) (ak_putf 9 0 (ak_aload 0 (ak_iload 1 (ak_iload 2 (ak_iload 3 (ak_callv 9 3 (m_X9_lay F) (ak_ifeq (ak_push (vI (-1)) ak_ireturn) (ak_aload 0 (ak_iload 4 (ak_callv 9 1 (m_X9_isPerson F) (ak_ifeq (ak_push (vI (-1)) ak_ireturn) (ak_aload 0 (ak_iload 5 (ak_callv 9 1 (m_X9_isPerson F) (ak_ifeq (ak_push (vI (-1)) ak_ireturn) (ak_aload 0 (ak_getf 9 39 (ak_push (vI 8) (ak_iload 4 (ak_imul (ak_iload 5 (ak_iadd (ak_iald ak_ireturn))))))))))))))))))))))))
noncomputable def m_X9_paid (F : Nat) : AF := mkF 1 6 (k_X9_paid F)
set_option maxRecDepth 20000 in
theorem s_X9_paid (F : Nat) : MA yX9_paid cX9_paid 6 (some .int) 6 (m_X9_paid F) := met_of (Or.inr (Or.inl ⟨rfl, rfl⟩)) (by decide) (by
  unfold k_X9_paid
  exact snd_aload_n (pc := 0) (i := 0) dX9_paid_0 (snd_iconst (pc := 1) dX9_paid_1 (snd_putf (pc := 2) cls9 (f := 0) (by decide) rfl rfl rfl wd_1303 dX9_paid_2 (snd_aload_n (pc := 5) (i := 0) dX9_paid_5 (snd_iload_n (pc := 6) (i := 1) dX9_paid_6 (snd_iload_n (pc := 7) (i := 2) dX9_paid_7 (snd_iload_n (pc := 8) (i := 3) dX9_paid_8 (snd_callV (pc := 9) (n := 3) cls9 (s_X9_lay F) (by decide) (by decide) wd_1697 wd_1694 wd_1696 wd_86 wd_129 hy_X9_lay dX9_paid_9 (snd_ifeq (pc := 12) (off := 37) (tgt := 49) (by decide) dX9_paid_12 (snd_iconst (pc := 49) dX9_paid_49 (snd_ireturn dX9_paid_50)) (snd_aload_n (pc := 15) (i := 0) dX9_paid_15 (snd_iload (pc := 16) (i := 4) dX9_paid_16 (snd_callV (pc := 18) (n := 1) cls9 (s_X9_isPerson F) (by decide) (by decide) wd_1665 wd_1662 wd_1664 wd_79 wd_129 hy_X9_isPerson dX9_paid_18 (snd_ifeq (pc := 21) (off := 28) (tgt := 49) (by decide) dX9_paid_21 (snd_iconst (pc := 49) dX9_paid_49 (snd_ireturn dX9_paid_50)) (snd_aload_n (pc := 24) (i := 0) dX9_paid_24 (snd_iload (pc := 25) (i := 5) dX9_paid_25 (snd_callV (pc := 27) (n := 1) cls9 (s_X9_isPerson F) (by decide) (by decide) wd_1665 wd_1662 wd_1664 wd_79 wd_129 hy_X9_isPerson dX9_paid_27 (snd_ifeq (pc := 30) (off := 19) (tgt := 49) (by decide) dX9_paid_30 (snd_iconst (pc := 49) dX9_paid_49 (snd_ireturn dX9_paid_50)) (snd_aload_n (pc := 33) (i := 0) dX9_paid_33 (snd_getf (pc := 34) cls9 (f := 39) (by decide) wd_1342 dX9_paid_34 (snd_bipush (pc := 37) (by decide) dX9_paid_37 (snd_iload (pc := 39) (i := 4) dX9_paid_39 (snd_imul (pc := 41) dX9_paid_41 (snd_iload (pc := 42) (i := 5) dX9_paid_42 (snd_iadd (pc := 44) dX9_paid_44 (snd_iald (pc := 45) dX9_paid_45 (snd_goto (pc := 46) (off := 4) (tgt := 50) (by decide) dX9_paid_46 (snd_ireturn dX9_paid_50)))))))))))))))))))))))))))

/-! LastWalkerModel.brings(IIII)I -/
theorem dX9_brings_0 : decode cX9_brings 0 = .ok (.aload_n 0, 1) := by decide +kernel
theorem dX9_brings_1 : decode cX9_brings 1 = .ok (.iconst 0, 1) := by decide +kernel
theorem dX9_brings_2 : decode cX9_brings 2 = .ok (.putfield 112, 3) := by decide +kernel
theorem dX9_brings_5 : decode cX9_brings 5 = .ok (.aload_n 0, 1) := by decide +kernel
theorem dX9_brings_6 : decode cX9_brings 6 = .ok (.iload_n 1, 1) := by decide +kernel
theorem dX9_brings_7 : decode cX9_brings 7 = .ok (.iload_n 2, 1) := by decide +kernel
theorem dX9_brings_8 : decode cX9_brings 8 = .ok (.iload_n 3, 1) := by decide +kernel
theorem dX9_brings_9 : decode cX9_brings 9 = .ok (.invokevirtual 343, 3) := by decide +kernel
theorem dX9_brings_12 : decode cX9_brings 12 = .ok (.ifCond .eq 23, 3) := by decide +kernel
theorem dX9_brings_15 : decode cX9_brings 15 = .ok (.aload_n 0, 1) := by decide +kernel
theorem dX9_brings_16 : decode cX9_brings 16 = .ok (.iload 4, 2) := by decide +kernel
theorem dX9_brings_18 : decode cX9_brings 18 = .ok (.invokevirtual 319, 3) := by decide +kernel
theorem dX9_brings_21 : decode cX9_brings 21 = .ok (.ifCond .eq 14, 3) := by decide +kernel
theorem dX9_brings_24 : decode cX9_brings 24 = .ok (.aload_n 0, 1) := by decide +kernel
theorem dX9_brings_25 : decode cX9_brings 25 = .ok (.getfield 38, 3) := by decide +kernel
theorem dX9_brings_28 : decode cX9_brings 28 = .ok (.iload 4, 2) := by decide +kernel
theorem dX9_brings_30 : decode cX9_brings 30 = .ok (.iaload, 1) := by decide +kernel
theorem dX9_brings_31 : decode cX9_brings 31 = .ok (.iconst (-1), 1) := by decide +kernel
theorem dX9_brings_32 : decode cX9_brings 32 = .ok (.if_icmp .ne 5, 3) := by decide +kernel
theorem dX9_brings_35 : decode cX9_brings 35 = .ok (.iconst (-1), 1) := by decide +kernel
theorem dX9_brings_36 : decode cX9_brings 36 = .ok (.ireturn, 1) := by decide +kernel
theorem dX9_brings_37 : decode cX9_brings 37 = .ok (.aload_n 0, 1) := by decide +kernel
theorem dX9_brings_38 : decode cX9_brings 38 = .ok (.getfield 38, 3) := by decide +kernel
theorem dX9_brings_41 : decode cX9_brings 41 = .ok (.iload 4, 2) := by decide +kernel
theorem dX9_brings_43 : decode cX9_brings 43 = .ok (.iaload, 1) := by decide +kernel
theorem dX9_brings_44 : decode cX9_brings 44 = .ok (.istore 5, 2) := by decide +kernel
theorem dX9_brings_46 : decode cX9_brings 46 = .ok (.iconst 0, 1) := by decide +kernel
theorem dX9_brings_47 : decode cX9_brings 47 = .ok (.istore 6, 2) := by decide +kernel
theorem dX9_brings_49 : decode cX9_brings 49 = .ok (.iload_n 3, 1) := by decide +kernel
theorem dX9_brings_50 : decode cX9_brings 50 = .ok (.istore 7, 2) := by decide +kernel
theorem dX9_brings_52 : decode cX9_brings 52 = .ok (.iload_n 2, 1) := by decide +kernel
theorem dX9_brings_53 : decode cX9_brings 53 = .ok (.iconst (-1), 1) := by decide +kernel
theorem dX9_brings_54 : decode cX9_brings 54 = .ok (.if_icmp .eq 146, 3) := by decide +kernel
theorem dX9_brings_57 : decode cX9_brings 57 = .ok (.iload 7, 2) := by decide +kernel
theorem dX9_brings_59 : decode cX9_brings 59 = .ok (.aload_n 0, 1) := by decide +kernel
theorem dX9_brings_60 : decode cX9_brings 60 = .ok (.iload_n 2, 1) := by decide +kernel
theorem dX9_brings_61 : decode cX9_brings 61 = .ok (.invokevirtual 247, 3) := by decide +kernel
theorem dX9_brings_64 : decode cX9_brings 64 = .ok (.if_icmp .ge 136, 3) := by decide +kernel
theorem dX9_brings_67 : decode cX9_brings 67 = .ok (.aload_n 0, 1) := by decide +kernel
theorem dX9_brings_68 : decode cX9_brings 68 = .ok (.iload_n 2, 1) := by decide +kernel
theorem dX9_brings_69 : decode cX9_brings 69 = .ok (.iload 7, 2) := by decide +kernel
theorem dX9_brings_71 : decode cX9_brings 71 = .ok (.iconst 0, 1) := by decide +kernel
theorem dX9_brings_72 : decode cX9_brings 72 = .ok (.invokevirtual 251, 3) := by decide +kernel
theorem dX9_brings_75 : decode cX9_brings 75 = .ok (.ifCond .ne 20, 3) := by decide +kernel
theorem dX9_brings_78 : decode cX9_brings 78 = .ok (.aload_n 0, 1) := by decide +kernel
theorem dX9_brings_79 : decode cX9_brings 79 = .ok (.iload_n 2, 1) := by decide +kernel
theorem dX9_brings_80 : decode cX9_brings 80 = .ok (.iload 7, 2) := by decide +kernel
theorem dX9_brings_82 : decode cX9_brings 82 = .ok (.iconst 2, 1) := by decide +kernel
theorem dX9_brings_83 : decode cX9_brings 83 = .ok (.invokevirtual 251, 3) := by decide +kernel
theorem dX9_brings_86 : decode cX9_brings 86 = .ok (.iload 4, 2) := by decide +kernel
theorem dX9_brings_88 : decode cX9_brings 88 = .ok (.if_icmp .ne 7, 3) := by decide +kernel
theorem dX9_brings_91 : decode cX9_brings 91 = .ok (.iconst 1, 1) := by decide +kernel
theorem dX9_brings_92 : decode cX9_brings 92 = .ok (.goto 4, 3) := by decide +kernel
theorem dX9_brings_95 : decode cX9_brings 95 = .ok (.iconst 0, 1) := by decide +kernel
theorem dX9_brings_96 : decode cX9_brings 96 = .ok (.istore 8, 2) := by decide +kernel
theorem dX9_brings_98 : decode cX9_brings 98 = .ok (.iload 8, 2) := by decide +kernel
theorem dX9_brings_100 : decode cX9_brings 100 = .ok (.ifCond .eq 35, 3) := by decide +kernel
theorem dX9_brings_103 : decode cX9_brings 103 = .ok (.aload_n 0, 1) := by decide +kernel
theorem dX9_brings_104 : decode cX9_brings 104 = .ok (.aload_n 0, 1) := by decide +kernel
theorem dX9_brings_105 : decode cX9_brings 105 = .ok (.iload_n 2, 1) := by decide +kernel
theorem dX9_brings_106 : decode cX9_brings 106 = .ok (.iload 7, 2) := by decide +kernel
theorem dX9_brings_108 : decode cX9_brings 108 = .ok (.iconst 1, 1) := by decide +kernel
theorem dX9_brings_109 : decode cX9_brings 109 = .ok (.invokevirtual 251, 3) := by decide +kernel
theorem dX9_brings_112 : decode cX9_brings 112 = .ok (.invokevirtual 316, 3) := by decide +kernel
theorem dX9_brings_115 : decode cX9_brings 115 = .ok (.ifCond .eq 20, 3) := by decide +kernel
theorem dX9_brings_118 : decode cX9_brings 118 = .ok (.aload_n 0, 1) := by decide +kernel
theorem dX9_brings_119 : decode cX9_brings 119 = .ok (.aload_n 0, 1) := by decide +kernel
theorem dX9_brings_120 : decode cX9_brings 120 = .ok (.iload_n 2, 1) := by decide +kernel
theorem dX9_brings_121 : decode cX9_brings 121 = .ok (.iload 7, 2) := by decide +kernel
theorem dX9_brings_123 : decode cX9_brings 123 = .ok (.iconst 1, 1) := by decide +kernel
theorem dX9_brings_124 : decode cX9_brings 124 = .ok (.invokevirtual 251, 3) := by decide +kernel
theorem dX9_brings_127 : decode cX9_brings 127 = .ok (.iload 4, 2) := by decide +kernel
theorem dX9_brings_129 : decode cX9_brings 129 = .ok (.invokevirtual 325, 3) := by decide +kernel
theorem dX9_brings_132 : decode cX9_brings 132 = .ok (.goto 4, 3) := by decide +kernel
theorem dX9_brings_135 : decode cX9_brings 135 = .ok (.iconst 0, 1) := by decide +kernel
theorem dX9_brings_136 : decode cX9_brings 136 = .ok (.istore 9, 2) := by decide +kernel
theorem dX9_brings_138 : decode cX9_brings 138 = .ok (.aload_n 0, 1) := by decide +kernel
theorem dX9_brings_139 : decode cX9_brings 139 = .ok (.aload_n 0, 1) := by decide +kernel
theorem dX9_brings_140 : decode cX9_brings 140 = .ok (.iload_n 2, 1) := by decide +kernel
theorem dX9_brings_141 : decode cX9_brings 141 = .ok (.iload 7, 2) := by decide +kernel
theorem dX9_brings_143 : decode cX9_brings 143 = .ok (.iconst 0, 1) := by decide +kernel
theorem dX9_brings_144 : decode cX9_brings 144 = .ok (.invokevirtual 251, 3) := by decide +kernel
theorem dX9_brings_147 : decode cX9_brings 147 = .ok (.aload_n 0, 1) := by decide +kernel
theorem dX9_brings_148 : decode cX9_brings 148 = .ok (.iload_n 2, 1) := by decide +kernel
theorem dX9_brings_149 : decode cX9_brings 149 = .ok (.iload 7, 2) := by decide +kernel
theorem dX9_brings_151 : decode cX9_brings 151 = .ok (.iconst 1, 1) := by decide +kernel
theorem dX9_brings_152 : decode cX9_brings 152 = .ok (.invokevirtual 251, 3) := by decide +kernel
theorem dX9_brings_155 : decode cX9_brings 155 = .ok (.aload_n 0, 1) := by decide +kernel
theorem dX9_brings_156 : decode cX9_brings 156 = .ok (.iload_n 2, 1) := by decide +kernel
theorem dX9_brings_157 : decode cX9_brings 157 = .ok (.iload 7, 2) := by decide +kernel
theorem dX9_brings_159 : decode cX9_brings 159 = .ok (.iconst 2, 1) := by decide +kernel
theorem dX9_brings_160 : decode cX9_brings 160 = .ok (.invokevirtual 251, 3) := by decide +kernel
theorem dX9_brings_163 : decode cX9_brings 163 = .ok (.invokevirtual 337, 3) := by decide +kernel
theorem dX9_brings_166 : decode cX9_brings 166 = .ok (.ifCond .ne 6, 3) := by decide +kernel
theorem dX9_brings_169 : decode cX9_brings 169 = .ok (.iload 6, 2) := by decide +kernel
theorem dX9_brings_171 : decode cX9_brings 171 = .ok (.ireturn, 1) := by decide +kernel
theorem dX9_brings_172 : decode cX9_brings 172 = .ok (.iload 6, 2) := by decide +kernel
theorem dX9_brings_174 : decode cX9_brings 174 = .ok (.iload 9, 2) := by decide +kernel
theorem dX9_brings_176 : decode cX9_brings 176 = .ok (.iadd, 1) := by decide +kernel
theorem dX9_brings_177 : decode cX9_brings 177 = .ok (.istore 6, 2) := by decide +kernel
theorem dX9_brings_179 : decode cX9_brings 179 = .ok (.aload_n 0, 1) := by decide +kernel
theorem dX9_brings_180 : decode cX9_brings 180 = .ok (.getfield 38, 3) := by decide +kernel
theorem dX9_brings_183 : decode cX9_brings 183 = .ok (.iload 4, 2) := by decide +kernel
theorem dX9_brings_185 : decode cX9_brings 185 = .ok (.iaload, 1) := by decide +kernel
theorem dX9_brings_186 : decode cX9_brings 186 = .ok (.iload 5, 2) := by decide +kernel
theorem dX9_brings_188 : decode cX9_brings 188 = .ok (.if_icmp .eq 6, 3) := by decide +kernel
theorem dX9_brings_191 : decode cX9_brings 191 = .ok (.iload 6, 2) := by decide +kernel
theorem dX9_brings_193 : decode cX9_brings 193 = .ok (.ireturn, 1) := by decide +kernel
theorem dX9_brings_194 : decode cX9_brings 194 = .ok (.iinc 7 1, 3) := by decide +kernel
theorem dX9_brings_197 : decode cX9_brings 197 = .ok (.goto (-145), 3) := by decide +kernel
theorem dX9_brings_200 : decode cX9_brings 200 = .ok (.iload 6, 2) := by decide +kernel
theorem dX9_brings_202 : decode cX9_brings 202 = .ok (.ireturn, 1) := by decide +kernel
noncomputable def k_X9_brings_136 (F : Nat) (h52 : AK) : AK := ak_istore 9 (ak_aload 0 (ak_aload 0 (ak_iload 2 (ak_iload 7 (ak_push (vI 0) (ak_callv 9 3 (m_X9_moveOf F) (ak_aload 0 (ak_iload 2 (ak_iload 7 (ak_push (vI 1) (ak_callv 9 3 (m_X9_moveOf F) (ak_aload 0 (ak_iload 2 (ak_iload 7 (ak_push (vI 2) (ak_callv 9 3 (m_X9_moveOf F) (ak_callv 9 3 (m_X9_does F) (ak_ifeq (ak_iload 6 ak_ireturn) (ak_iload 6 (ak_iload 9 (ak_iadd (ak_istore 6 (ak_aload 0 (ak_getf 9 31 (ak_iload 4 (ak_iald (ak_iload 5 (ak_cmpeq (ak_iinc 7 1 h52) (ak_iload 6 ak_ireturn)))))))))))))))))))))))))))))
set_option maxRecDepth 20000 in
theorem sk_X9_brings_136 (F : Nat) {h52 : AK} (hh52 : Snd X0 RX9 cX9_brings 10 6 52 h52) : Snd X0 RX9 cX9_brings 10 6 136 (k_X9_brings_136 F h52) := by
  unfold k_X9_brings_136
  exact snd_istore (pc := 136) (i := 9) (by decide) dX9_brings_136 (snd_aload_n (pc := 138) (i := 0) dX9_brings_138 (snd_aload_n (pc := 139) (i := 0) dX9_brings_139 (snd_iload_n (pc := 140) (i := 2) dX9_brings_140 (snd_iload (pc := 141) (i := 7) dX9_brings_141 (snd_iconst (pc := 143) dX9_brings_143 (snd_callV (pc := 144) (n := 3) cls9 (s_X9_moveOf F) (by decide) (by decide) wd_1625 wd_1622 wd_1624 wd_70 wd_129 hy_X9_moveOf dX9_brings_144 (snd_aload_n (pc := 147) (i := 0) dX9_brings_147 (snd_iload_n (pc := 148) (i := 2) dX9_brings_148 (snd_iload (pc := 149) (i := 7) dX9_brings_149 (snd_iconst (pc := 151) dX9_brings_151 (snd_callV (pc := 152) (n := 3) cls9 (s_X9_moveOf F) (by decide) (by decide) wd_1625 wd_1622 wd_1624 wd_70 wd_129 hy_X9_moveOf dX9_brings_152 (snd_aload_n (pc := 155) (i := 0) dX9_brings_155 (snd_iload_n (pc := 156) (i := 2) dX9_brings_156 (snd_iload (pc := 157) (i := 7) dX9_brings_157 (snd_iconst (pc := 159) dX9_brings_159 (snd_callV (pc := 160) (n := 3) cls9 (s_X9_moveOf F) (by decide) (by decide) wd_1625 wd_1622 wd_1624 wd_70 wd_129 hy_X9_moveOf dX9_brings_160 (snd_callV (pc := 163) (n := 3) cls9 (s_X9_does F) (by decide) (by decide) wd_1661 wd_1658 wd_1660 wd_78 wd_129 hy_X9_does dX9_brings_163 (snd_ifne (pc := 166) (off := 6) (tgt := 172) (by decide) dX9_brings_166 (snd_iload (pc := 172) (i := 6) dX9_brings_172 (snd_iload (pc := 174) (i := 9) dX9_brings_174 (snd_iadd (pc := 176) dX9_brings_176 (snd_istore (pc := 177) (i := 6) (by decide) dX9_brings_177 (snd_aload_n (pc := 179) (i := 0) dX9_brings_179 (snd_getf (pc := 180) cls9 (f := 31) (by decide) wd_1334 dX9_brings_180 (snd_iload (pc := 183) (i := 4) dX9_brings_183 (snd_iald (pc := 185) dX9_brings_185 (snd_iload (pc := 186) (i := 5) dX9_brings_186 (snd_icmpeq (pc := 188) (off := 6) (tgt := 194) (by decide) dX9_brings_188 (snd_iinc (pc := 194) (i := 7) (n := 1) (by decide) dX9_brings_194 (snd_goto (pc := 197) (off := (-145)) (tgt := 52) (by decide) dX9_brings_197 (hh52))) (snd_iload (pc := 191) (i := 6) dX9_brings_191 (snd_ireturn dX9_brings_193)))))))))))) (snd_iload (pc := 169) (i := 6) dX9_brings_169 (snd_ireturn dX9_brings_171))))))))))))))))))))
noncomputable def k_X9_brings_135 (F : Nat) (h52 : AK) : AK := ak_push (vI 0) ((k_X9_brings_136 F h52))
set_option maxRecDepth 20000 in
theorem sk_X9_brings_135 (F : Nat) {h52 : AK} (hh52 : Snd X0 RX9 cX9_brings 10 6 52 h52) : Snd X0 RX9 cX9_brings 10 6 135 (k_X9_brings_135 F h52) := by
  unfold k_X9_brings_135
  exact snd_iconst (pc := 135) dX9_brings_135 ((sk_X9_brings_136 F hh52))
noncomputable def k_X9_brings_96 (F : Nat) (h52 : AK) : AK := ak_istore 8 (ak_iload 8 (ak_ifeq ((k_X9_brings_135 F h52)) (ak_aload 0 (ak_aload 0 (ak_iload 2 (ak_iload 7 (ak_push (vI 1) (ak_callv 9 3 (m_X9_moveOf F) (ak_callv 9 1 (m_X9_isPerson F) (ak_ifeq ((k_X9_brings_135 F h52)) (ak_aload 0 (ak_aload 0 (ak_iload 2 (ak_iload 7 (ak_push (vI 1) (ak_callv 9 3 (m_X9_moveOf F) (ak_iload 4 (ak_callv 9 2 (m_X9_pays F) ((k_X9_brings_136 F h52))))))))))))))))))))
set_option maxRecDepth 20000 in
theorem sk_X9_brings_96 (F : Nat) {h52 : AK} (hh52 : Snd X0 RX9 cX9_brings 10 6 52 h52) : Snd X0 RX9 cX9_brings 10 6 96 (k_X9_brings_96 F h52) := by
  unfold k_X9_brings_96
  exact snd_istore (pc := 96) (i := 8) (by decide) dX9_brings_96 (snd_iload (pc := 98) (i := 8) dX9_brings_98 (snd_ifeq (pc := 100) (off := 35) (tgt := 135) (by decide) dX9_brings_100 ((sk_X9_brings_135 F hh52)) (snd_aload_n (pc := 103) (i := 0) dX9_brings_103 (snd_aload_n (pc := 104) (i := 0) dX9_brings_104 (snd_iload_n (pc := 105) (i := 2) dX9_brings_105 (snd_iload (pc := 106) (i := 7) dX9_brings_106 (snd_iconst (pc := 108) dX9_brings_108 (snd_callV (pc := 109) (n := 3) cls9 (s_X9_moveOf F) (by decide) (by decide) wd_1625 wd_1622 wd_1624 wd_70 wd_129 hy_X9_moveOf dX9_brings_109 (snd_callV (pc := 112) (n := 1) cls9 (s_X9_isPerson F) (by decide) (by decide) wd_1665 wd_1662 wd_1664 wd_79 wd_129 hy_X9_isPerson dX9_brings_112 (snd_ifeq (pc := 115) (off := 20) (tgt := 135) (by decide) dX9_brings_115 ((sk_X9_brings_135 F hh52)) (snd_aload_n (pc := 118) (i := 0) dX9_brings_118 (snd_aload_n (pc := 119) (i := 0) dX9_brings_119 (snd_iload_n (pc := 120) (i := 2) dX9_brings_120 (snd_iload (pc := 121) (i := 7) dX9_brings_121 (snd_iconst (pc := 123) dX9_brings_123 (snd_callV (pc := 124) (n := 3) cls9 (s_X9_moveOf F) (by decide) (by decide) wd_1625 wd_1622 wd_1624 wd_70 wd_129 hy_X9_moveOf dX9_brings_124 (snd_iload (pc := 127) (i := 4) dX9_brings_127 (snd_callV (pc := 129) (n := 2) cls9 (s_X9_pays F) (by decide) (by decide) wd_1677 wd_1674 wd_1676 wd_82 wd_129 hy_X9_pays dX9_brings_129 (snd_goto (pc := 132) (off := 4) (tgt := 136) (by decide) dX9_brings_132 ((sk_X9_brings_136 F hh52)))))))))))))))))))))
noncomputable def k_X9_brings_95 (F : Nat) (h52 : AK) : AK := ak_push (vI 0) ((k_X9_brings_96 F h52))
set_option maxRecDepth 20000 in
theorem sk_X9_brings_95 (F : Nat) {h52 : AK} (hh52 : Snd X0 RX9 cX9_brings 10 6 52 h52) : Snd X0 RX9 cX9_brings 10 6 95 (k_X9_brings_95 F h52) := by
  unfold k_X9_brings_95
  exact snd_iconst (pc := 95) dX9_brings_95 ((sk_X9_brings_96 F hh52))
noncomputable def kb_X9_brings_52 (F : Nat) (self : AK) : AK := ak_iload 2 (ak_push (vI (-1)) (ak_cmpeq (ak_iload 6 ak_ireturn) (ak_iload 7 (ak_aload 0 (ak_iload 2 (ak_callv 9 1 (m_X9_movesOf F) (ak_cmplt (ak_aload 0 (ak_iload 2 (ak_iload 7 (ak_push (vI 0) (ak_callv 9 3 (m_X9_moveOf F) (ak_ifeq (ak_aload 0 (ak_iload 2 (ak_iload 7 (ak_push (vI 2) (ak_callv 9 3 (m_X9_moveOf F) (ak_iload 4 (ak_cmpeq (ak_push (vI 1) ((k_X9_brings_96 F self))) ((k_X9_brings_95 F self))))))))) ((k_X9_brings_95 F self)))))))) (ak_iload 6 ak_ireturn))))))))
noncomputable def k_X9_brings_52 (F : Nat) (n : Nat) : AK := Nat.rec (motive := fun _ => AK) ak_none (fun _ self => kb_X9_brings_52 F self) n
set_option maxRecDepth 20000 in
theorem sk_X9_brings_52 (F : Nat) : ∀ n, Snd X0 RX9 cX9_brings 10 6 52 (k_X9_brings_52 F n) := by
  intro n
  induction n with
  | zero => exact snd_none
  | succ n ih =>
    show Snd X0 RX9 cX9_brings 10 6 52 (kb_X9_brings_52 F (k_X9_brings_52 F n))
    unfold kb_X9_brings_52
    exact snd_iload_n (pc := 52) (i := 2) dX9_brings_52 (snd_iconst (pc := 53) dX9_brings_53 (snd_icmpeq (pc := 54) (off := 146) (tgt := 200) (by decide) dX9_brings_54 (snd_iload (pc := 200) (i := 6) dX9_brings_200 (snd_ireturn dX9_brings_202)) (snd_iload (pc := 57) (i := 7) dX9_brings_57 (snd_aload_n (pc := 59) (i := 0) dX9_brings_59 (snd_iload_n (pc := 60) (i := 2) dX9_brings_60 (snd_callV (pc := 61) (n := 1) cls9 (s_X9_movesOf F) (by decide) (by decide) wd_1621 wd_1618 wd_1620 wd_69 wd_129 hy_X9_movesOf dX9_brings_61 (snd_icmpge (pc := 64) (off := 136) (tgt := 200) (by decide) dX9_brings_64 (snd_iload (pc := 200) (i := 6) dX9_brings_200 (snd_ireturn dX9_brings_202)) (snd_aload_n (pc := 67) (i := 0) dX9_brings_67 (snd_iload_n (pc := 68) (i := 2) dX9_brings_68 (snd_iload (pc := 69) (i := 7) dX9_brings_69 (snd_iconst (pc := 71) dX9_brings_71 (snd_callV (pc := 72) (n := 3) cls9 (s_X9_moveOf F) (by decide) (by decide) wd_1625 wd_1622 wd_1624 wd_70 wd_129 hy_X9_moveOf dX9_brings_72 (snd_ifne (pc := 75) (off := 20) (tgt := 95) (by decide) dX9_brings_75 ((sk_X9_brings_95 F ih)) (snd_aload_n (pc := 78) (i := 0) dX9_brings_78 (snd_iload_n (pc := 79) (i := 2) dX9_brings_79 (snd_iload (pc := 80) (i := 7) dX9_brings_80 (snd_iconst (pc := 82) dX9_brings_82 (snd_callV (pc := 83) (n := 3) cls9 (s_X9_moveOf F) (by decide) (by decide) wd_1625 wd_1622 wd_1624 wd_70 wd_129 hy_X9_moveOf dX9_brings_83 (snd_iload (pc := 86) (i := 4) dX9_brings_86 (snd_icmpne (pc := 88) (off := 7) (tgt := 95) (by decide) dX9_brings_88 ((sk_X9_brings_95 F ih)) (snd_iconst (pc := 91) dX9_brings_91 (snd_goto (pc := 92) (off := 4) (tgt := 96) (by decide) dX9_brings_92 ((sk_X9_brings_96 F ih))))))))))))))))))))))))
noncomputable def k_X9_brings (F : Nat) : AK := ak_aload 0 (ak_push (vI 0) (ak_putf 9 0 (ak_aload 0 (ak_iload 1 (ak_iload 2 (ak_iload 3 (ak_callv 9 3 (m_X9_lay F) (ak_ifeq (ak_push (vI (-1)) ak_ireturn) (ak_aload 0 (ak_iload 4 (ak_callv 9 1 (m_X9_isRoad F) (ak_ifeq (ak_push (vI (-1)) ak_ireturn) (ak_aload 0 (ak_getf 9 31 (ak_iload 4 (ak_iald (ak_push (vI (-1)) (ak_cmpeq (ak_push (vI (-1)) ak_ireturn) (ak_aload 0 (ak_getf 9 31 (ak_iload 4 (ak_iald (ak_istore 5 (ak_push (vI 0) (ak_istore 6 (ak_iload 3 (ak_istore 7 ((k_X9_brings_52 F F)))))))))))))))))))))))))))))
noncomputable def m_X9_brings (F : Nat) : AF := mkF 1 10 (k_X9_brings F)
set_option maxRecDepth 20000 in
theorem s_X9_brings (F : Nat) : MA yX9_brings cX9_brings 10 (some .int) 6 (m_X9_brings F) := met_of (Or.inr (Or.inl ⟨rfl, rfl⟩)) (by decide) (by
  unfold k_X9_brings
  exact snd_aload_n (pc := 0) (i := 0) dX9_brings_0 (snd_iconst (pc := 1) dX9_brings_1 (snd_putf (pc := 2) cls9 (f := 0) (by decide) rfl rfl rfl wd_1303 dX9_brings_2 (snd_aload_n (pc := 5) (i := 0) dX9_brings_5 (snd_iload_n (pc := 6) (i := 1) dX9_brings_6 (snd_iload_n (pc := 7) (i := 2) dX9_brings_7 (snd_iload_n (pc := 8) (i := 3) dX9_brings_8 (snd_callV (pc := 9) (n := 3) cls9 (s_X9_lay F) (by decide) (by decide) wd_1697 wd_1694 wd_1696 wd_86 wd_129 hy_X9_lay dX9_brings_9 (snd_ifeq (pc := 12) (off := 23) (tgt := 35) (by decide) dX9_brings_12 (snd_iconst (pc := 35) dX9_brings_35 (snd_ireturn dX9_brings_36)) (snd_aload_n (pc := 15) (i := 0) dX9_brings_15 (snd_iload (pc := 16) (i := 4) dX9_brings_16 (snd_callV (pc := 18) (n := 1) cls9 (s_X9_isRoad F) (by decide) (by decide) wd_1669 wd_1666 wd_1668 wd_80 wd_129 hy_X9_isRoad dX9_brings_18 (snd_ifeq (pc := 21) (off := 14) (tgt := 35) (by decide) dX9_brings_21 (snd_iconst (pc := 35) dX9_brings_35 (snd_ireturn dX9_brings_36)) (snd_aload_n (pc := 24) (i := 0) dX9_brings_24 (snd_getf (pc := 25) cls9 (f := 31) (by decide) wd_1334 dX9_brings_25 (snd_iload (pc := 28) (i := 4) dX9_brings_28 (snd_iald (pc := 30) dX9_brings_30 (snd_iconst (pc := 31) dX9_brings_31 (snd_icmpne (pc := 32) (off := 5) (tgt := 37) (by decide) dX9_brings_32 (snd_aload_n (pc := 37) (i := 0) dX9_brings_37 (snd_getf (pc := 38) cls9 (f := 31) (by decide) wd_1334 dX9_brings_38 (snd_iload (pc := 41) (i := 4) dX9_brings_41 (snd_iald (pc := 43) dX9_brings_43 (snd_istore (pc := 44) (i := 5) (by decide) dX9_brings_44 (snd_iconst (pc := 46) dX9_brings_46 (snd_istore (pc := 47) (i := 6) (by decide) dX9_brings_47 (snd_iload_n (pc := 49) (i := 3) dX9_brings_49 (snd_istore (pc := 50) (i := 7) (by decide) dX9_brings_50 ((sk_X9_brings_52 F F))))))))))) (snd_iconst (pc := 35) dX9_brings_35 (snd_ireturn dX9_brings_36)))))))))))))))))))))

/-! LastWalkerModel.worth(III)J -/
theorem dX9_worth_0 : decode cX9_worth 0 = .ok (.aload_n 0, 1) := by decide +kernel
theorem dX9_worth_1 : decode cX9_worth 1 = .ok (.iconst 0, 1) := by decide +kernel
theorem dX9_worth_2 : decode cX9_worth 2 = .ok (.putfield 112, 3) := by decide +kernel
theorem dX9_worth_5 : decode cX9_worth 5 = .ok (.aload_n 0, 1) := by decide +kernel
theorem dX9_worth_6 : decode cX9_worth 6 = .ok (.iload_n 1, 1) := by decide +kernel
theorem dX9_worth_7 : decode cX9_worth 7 = .ok (.invokevirtual 237, 3) := by decide +kernel
theorem dX9_worth_10 : decode cX9_worth 10 = .ok (.ifCond .eq 13, 3) := by decide +kernel
theorem dX9_worth_13 : decode cX9_worth 13 = .ok (.iload_n 3, 1) := by decide +kernel
theorem dX9_worth_14 : decode cX9_worth 14 = .ok (.iconst 0, 1) := by decide +kernel
theorem dX9_worth_15 : decode cX9_worth 15 = .ok (.bipush 6, 2) := by decide +kernel
theorem dX9_worth_17 : decode cX9_worth 17 = .ok (.invokestatic 120, 3) := by decide +kernel
theorem dX9_worth_20 : decode cX9_worth 20 = .ok (.ifCond .ne 7, 3) := by decide +kernel
theorem dX9_worth_23 : decode cX9_worth 23 = .ok (.ldc2_w 346, 3) := by decide +kernel
theorem dX9_worth_26 : decode cX9_worth 26 = .ok (.lreturn, 1) := by decide +kernel
theorem dX9_worth_27 : decode cX9_worth 27 = .ok (.aload_n 0, 1) := by decide +kernel
theorem dX9_worth_28 : decode cX9_worth 28 = .ok (.iload_n 1, 1) := by decide +kernel
theorem dX9_worth_29 : decode cX9_worth 29 = .ok (.invokevirtual 304, 3) := by decide +kernel
theorem dX9_worth_32 : decode cX9_worth 32 = .ok (.aload_n 0, 1) := by decide +kernel
theorem dX9_worth_33 : decode cX9_worth 33 = .ok (.iload_n 2, 1) := by decide +kernel
theorem dX9_worth_34 : decode cX9_worth 34 = .ok (.invokevirtual 319, 3) := by decide +kernel
theorem dX9_worth_37 : decode cX9_worth 37 = .ok (.ifCond .eq 12, 3) := by decide +kernel
theorem dX9_worth_40 : decode cX9_worth 40 = .ok (.aload_n 0, 1) := by decide +kernel
theorem dX9_worth_41 : decode cX9_worth 41 = .ok (.iload_n 2, 1) := by decide +kernel
theorem dX9_worth_42 : decode cX9_worth 42 = .ok (.iload_n 3, 1) := by decide +kernel
theorem dX9_worth_43 : decode cX9_worth 43 = .ok (.invokevirtual 348, 3) := by decide +kernel
theorem dX9_worth_46 : decode cX9_worth 46 = .ok (.goto 6, 3) := by decide +kernel
theorem dX9_worth_49 : decode cX9_worth 49 = .ok (.ldc2_w 346, 3) := by decide +kernel
theorem dX9_worth_52 : decode cX9_worth 52 = .ok (.lreturn, 1) := by decide +kernel
noncomputable def k_X9_worth (F : Nat) : AK := ak_aload 0 (ak_push (vI 0) (ak_putf 9 0 (ak_aload 0 (ak_iload 1 (ak_callv 9 1 (m_X9_isTown F) (ak_ifeq (ak_push (vL (-1)) ak_lreturn) (ak_iload 3 (ak_push (vI 0) (ak_push (vI 6) (ak_call 3 (m_X9_in F) (ak_ifeq (ak_push (vL (-1)) ak_lreturn) (ak_aload 0 (ak_iload 1 (ak_callv 9 1 (m_X9_hand F) (ak_aload 0 (ak_iload 2 (ak_callv 9 1 (m_X9_isRoad F) (ak_ifeq (ak_push (vL (-1)) ak_lreturn) (ak_aload 0 (ak_iload 2 (ak_iload 3 (ak_callv 9 2 (m_X9_worthBy F) ak_lreturn))))))))))))))))))))))
noncomputable def m_X9_worth (F : Nat) : AF := mkF 4 4 (k_X9_worth F)
set_option maxRecDepth 20000 in
theorem s_X9_worth (F : Nat) : MA yX9_worth cX9_worth 4 (some .long) 3 (m_X9_worth F) := met_of (Or.inr (Or.inr (Or.inr (Or.inr (Or.inl ⟨rfl, rfl⟩))))) (by decide) (by
  unfold k_X9_worth
  exact snd_aload_n (pc := 0) (i := 0) dX9_worth_0 (snd_iconst (pc := 1) dX9_worth_1 (snd_putf (pc := 2) cls9 (f := 0) (by decide) rfl rfl rfl wd_1303 dX9_worth_2 (snd_aload_n (pc := 5) (i := 0) dX9_worth_5 (snd_iload_n (pc := 6) (i := 1) dX9_worth_6 (snd_callV (pc := 7) (n := 1) cls9 (s_X9_isTown F) (by decide) (by decide) wd_1593 wd_1590 wd_1592 wd_66 wd_129 hy_X9_isTown dX9_worth_7 (snd_ifeq (pc := 10) (off := 13) (tgt := 23) (by decide) dX9_worth_10 (snd_ldc2 (pc := 23) (z := (-1)) (by decide) wd_1710 dX9_worth_23 (snd_lreturn dX9_worth_26)) (snd_iload_n (pc := 13) (i := 3) dX9_worth_13 (snd_iconst (pc := 14) dX9_worth_14 (snd_bipush (pc := 15) (by decide) dX9_worth_15 (snd_callS (pc := 17) (n := 3) (s_X9_in F) (by decide) (by decide) wd_1511 wd_1509 wd_1510 wd_129 hy_X9_in dX9_worth_17 (snd_ifne (pc := 20) (off := 7) (tgt := 27) (by decide) dX9_worth_20 (snd_aload_n (pc := 27) (i := 0) dX9_worth_27 (snd_iload_n (pc := 28) (i := 1) dX9_worth_28 (snd_callV (pc := 29) (n := 1) cls9 (s_X9_hand F) (by decide) (by decide) wd_1641 wd_1638 wd_1640 wd_73 wd_129 hy_X9_hand dX9_worth_29 (snd_aload_n (pc := 32) (i := 0) dX9_worth_32 (snd_iload_n (pc := 33) (i := 2) dX9_worth_33 (snd_callV (pc := 34) (n := 1) cls9 (s_X9_isRoad F) (by decide) (by decide) wd_1669 wd_1666 wd_1668 wd_80 wd_129 hy_X9_isRoad dX9_worth_34 (snd_ifeq (pc := 37) (off := 12) (tgt := 49) (by decide) dX9_worth_37 (snd_ldc2 (pc := 49) (z := (-1)) (by decide) wd_1710 dX9_worth_49 (snd_lreturn dX9_worth_52)) (snd_aload_n (pc := 40) (i := 0) dX9_worth_40 (snd_iload_n (pc := 41) (i := 2) dX9_worth_41 (snd_iload_n (pc := 42) (i := 3) dX9_worth_42 (snd_callV (pc := 43) (n := 2) cls9 (s_X9_worthBy F) (by decide) (by decide) wd_1714 wd_1711 wd_1713 wd_87 wd_129 hy_X9_worthBy dX9_worth_43 (snd_goto (pc := 46) (off := 6) (tgt := 52) (by decide) dX9_worth_46 (snd_lreturn dX9_worth_52))))))))))))) (snd_ldc2 (pc := 23) (z := (-1)) (by decide) wd_1710 dX9_worth_23 (snd_lreturn dX9_worth_26))))))))))))))
