/-! LastWalker$Outing.sumOf(LLastWalker$Town;I)I -/
theorem dX4_sumOf_0 : decode cX4_sumOf 0 = .ok (.iload_n 2, 1) := by decide +kernel
theorem dX4_sumOf_1 : decode cX4_sumOf 1 = .ok (.ifCond .lt 8, 3) := by decide +kernel
theorem dX4_sumOf_4 : decode cX4_sumOf 4 = .ok (.iload_n 2, 1) := by decide +kernel
theorem dX4_sumOf_5 : decode cX4_sumOf 5 = .ok (.iconst 4, 1) := by decide +kernel
theorem dX4_sumOf_6 : decode cX4_sumOf 6 = .ok (.if_icmp .le 6, 3) := by decide +kernel
theorem dX4_sumOf_9 : decode cX4_sumOf 9 = .ok (.ldc 155, 2) := by decide +kernel
theorem dX4_sumOf_11 : decode cX4_sumOf 11 = .ok (.ireturn, 1) := by decide +kernel
theorem dX4_sumOf_12 : decode cX4_sumOf 12 = .ok (.iconst 0, 1) := by decide +kernel
theorem dX4_sumOf_13 : decode cX4_sumOf 13 = .ok (.istore_n 3, 1) := by decide +kernel
theorem dX4_sumOf_14 : decode cX4_sumOf 14 = .ok (.iconst 0, 1) := by decide +kernel
theorem dX4_sumOf_15 : decode cX4_sumOf 15 = .ok (.istore 4, 2) := by decide +kernel
theorem dX4_sumOf_17 : decode cX4_sumOf 17 = .ok (.iload 4, 2) := by decide +kernel
theorem dX4_sumOf_19 : decode cX4_sumOf 19 = .ok (.aload_n 1, 1) := by decide +kernel
theorem dX4_sumOf_20 : decode cX4_sumOf 20 = .ok (.getfield 156, 3) := by decide +kernel
theorem dX4_sumOf_23 : decode cX4_sumOf 23 = .ok (.if_icmp .ge 20, 3) := by decide +kernel
theorem dX4_sumOf_26 : decode cX4_sumOf 26 = .ok (.iload_n 3, 1) := by decide +kernel
theorem dX4_sumOf_27 : decode cX4_sumOf 27 = .ok (.aload_n 0, 1) := by decide +kernel
theorem dX4_sumOf_28 : decode cX4_sumOf 28 = .ok (.aload_n 1, 1) := by decide +kernel
theorem dX4_sumOf_29 : decode cX4_sumOf 29 = .ok (.iload 4, 2) := by decide +kernel
theorem dX4_sumOf_31 : decode cX4_sumOf 31 = .ok (.iload_n 2, 1) := by decide +kernel
theorem dX4_sumOf_32 : decode cX4_sumOf 32 = .ok (.invokevirtual 159, 3) := by decide +kernel
theorem dX4_sumOf_35 : decode cX4_sumOf 35 = .ok (.iadd, 1) := by decide +kernel
theorem dX4_sumOf_36 : decode cX4_sumOf 36 = .ok (.istore_n 3, 1) := by decide +kernel
theorem dX4_sumOf_37 : decode cX4_sumOf 37 = .ok (.iinc 4 1, 3) := by decide +kernel
theorem dX4_sumOf_40 : decode cX4_sumOf 40 = .ok (.goto (-23), 3) := by decide +kernel
theorem dX4_sumOf_43 : decode cX4_sumOf 43 = .ok (.iload_n 3, 1) := by decide +kernel
theorem dX4_sumOf_44 : decode cX4_sumOf 44 = .ok (.ireturn, 1) := by decide +kernel
noncomputable def kb_X4_sumOf_17 (F : Nat) (self : AK) : AK := ak_iload 4 (ak_aload 1 (ak_getf 7 8 (ak_cmplt (ak_iload 3 (ak_aload 0 (ak_aload 1 (ak_iload 4 (ak_iload 2 (ak_callv 4 3 (m_X4_figure F) (ak_iadd (ak_istore 3 (ak_iinc 4 1 self))))))))) (ak_iload 3 ak_ireturn))))
noncomputable def k_X4_sumOf_17 (F : Nat) (n : Nat) : AK := Nat.rec (motive := fun _ => AK) ak_none (fun _ self => kb_X4_sumOf_17 F self) n
set_option maxRecDepth 20000 in
theorem sk_X4_sumOf_17 (F : Nat) : ∀ n, Snd X0 RX4 cX4_sumOf 5 1 17 (k_X4_sumOf_17 F n) := by
  intro n
  induction n with
  | zero => exact snd_none
  | succ n ih =>
    show Snd X0 RX4 cX4_sumOf 5 1 17 (kb_X4_sumOf_17 F (k_X4_sumOf_17 F n))
    unfold kb_X4_sumOf_17
    exact snd_iload (pc := 17) (i := 4) dX4_sumOf_17 (snd_aload_n (pc := 19) (i := 1) dX4_sumOf_19 (snd_getf (pc := 20) cls7 (f := 8) (by decide) wd_196 dX4_sumOf_20 (snd_icmpge (pc := 23) (off := 20) (tgt := 43) (by decide) dX4_sumOf_23 (snd_iload_n (pc := 43) (i := 3) dX4_sumOf_43 (snd_ireturn dX4_sumOf_44)) (snd_iload_n (pc := 26) (i := 3) dX4_sumOf_26 (snd_aload_n (pc := 27) (i := 0) dX4_sumOf_27 (snd_aload_n (pc := 28) (i := 1) dX4_sumOf_28 (snd_iload (pc := 29) (i := 4) dX4_sumOf_29 (snd_iload_n (pc := 31) (i := 2) dX4_sumOf_31 (snd_callV (pc := 32) (n := 3) cls4 (s_X4_figure F) (by decide) (by decide) wd_1144 wd_1141 wd_1142 wd_1143 wd_128 hy_X4_figure dX4_sumOf_32 (snd_iadd (pc := 35) dX4_sumOf_35 (snd_istore_n (pc := 36) (i := 3) (by decide) dX4_sumOf_36 (snd_iinc (pc := 37) (i := 4) (n := 1) (by decide) dX4_sumOf_37 (snd_goto (pc := 40) (off := (-23)) (tgt := 17) (by decide) dX4_sumOf_40 (ih))))))))))))))
noncomputable def k_X4_sumOf (F : Nat) : AK := ak_iload 2 (ak_iflt (ak_push (vI (-100000)) ak_ireturn) (ak_iload 2 (ak_push (vI 4) (ak_cmpgt (ak_push (vI (-100000)) ak_ireturn) (ak_push (vI 0) (ak_istore 3 (ak_push (vI 0) (ak_istore 4 ((k_X4_sumOf_17 F F))))))))))
noncomputable def m_X4_sumOf (F : Nat) : AF := mkF 1 5 (k_X4_sumOf F)
set_option maxRecDepth 20000 in
theorem s_X4_sumOf (F : Nat) : MA yX4_sumOf cX4_sumOf 5 (some .int) 1 (m_X4_sumOf F) := met_of (Or.inr (Or.inl ⟨rfl, rfl⟩)) (by decide) (by
  unfold k_X4_sumOf
  exact snd_iload_n (pc := 0) (i := 2) dX4_sumOf_0 (snd_iflt (pc := 1) (off := 8) (tgt := 9) (by decide) dX4_sumOf_1 (snd_ldc (pc := 9) (z := (-100000)) (by decide) wd_1140 dX4_sumOf_9 (snd_ireturn dX4_sumOf_11)) (snd_iload_n (pc := 4) (i := 2) dX4_sumOf_4 (snd_iconst (pc := 5) dX4_sumOf_5 (snd_icmple (pc := 6) (off := 6) (tgt := 12) (by decide) dX4_sumOf_6 (snd_iconst (pc := 12) dX4_sumOf_12 (snd_istore_n (pc := 13) (i := 3) (by decide) dX4_sumOf_13 (snd_iconst (pc := 14) dX4_sumOf_14 (snd_istore (pc := 15) (i := 4) (by decide) dX4_sumOf_15 ((sk_X4_sumOf_17 F F)))))) (snd_ldc (pc := 9) (z := (-100000)) (by decide) wd_1140 dX4_sumOf_9 (snd_ireturn dX4_sumOf_11)))))))

/-! LastWalker$Outing.roadsOf(LLastWalker$Town;I)I -/
theorem dX4_roadsOf_0 : decode cX4_roadsOf 0 = .ok (.iconst 0, 1) := by decide +kernel
theorem dX4_roadsOf_1 : decode cX4_roadsOf 1 = .ok (.istore_n 3, 1) := by decide +kernel
theorem dX4_roadsOf_2 : decode cX4_roadsOf 2 = .ok (.iconst 0, 1) := by decide +kernel
theorem dX4_roadsOf_3 : decode cX4_roadsOf 3 = .ok (.istore 4, 2) := by decide +kernel
theorem dX4_roadsOf_5 : decode cX4_roadsOf 5 = .ok (.iload 4, 2) := by decide +kernel
theorem dX4_roadsOf_7 : decode cX4_roadsOf 7 = .ok (.aload_n 1, 1) := by decide +kernel
theorem dX4_roadsOf_8 : decode cX4_roadsOf 8 = .ok (.getfield 163, 3) := by decide +kernel
theorem dX4_roadsOf_11 : decode cX4_roadsOf 11 = .ok (.if_icmp .ge 23, 3) := by decide +kernel
theorem dX4_roadsOf_14 : decode cX4_roadsOf 14 = .ok (.aload_n 0, 1) := by decide +kernel
theorem dX4_roadsOf_15 : decode cX4_roadsOf 15 = .ok (.getfield 15, 3) := by decide +kernel
theorem dX4_roadsOf_18 : decode cX4_roadsOf 18 = .ok (.iload 4, 2) := by decide +kernel
theorem dX4_roadsOf_20 : decode cX4_roadsOf 20 = .ok (.iaload, 1) := by decide +kernel
theorem dX4_roadsOf_21 : decode cX4_roadsOf 21 = .ok (.iload_n 2, 1) := by decide +kernel
theorem dX4_roadsOf_22 : decode cX4_roadsOf 22 = .ok (.if_icmp .ne 6, 3) := by decide +kernel
theorem dX4_roadsOf_25 : decode cX4_roadsOf 25 = .ok (.iinc 3 1, 3) := by decide +kernel
theorem dX4_roadsOf_28 : decode cX4_roadsOf 28 = .ok (.iinc 4 1, 3) := by decide +kernel
theorem dX4_roadsOf_31 : decode cX4_roadsOf 31 = .ok (.goto (-26), 3) := by decide +kernel
theorem dX4_roadsOf_34 : decode cX4_roadsOf 34 = .ok (.iload_n 3, 1) := by decide +kernel
theorem dX4_roadsOf_35 : decode cX4_roadsOf 35 = .ok (.ireturn, 1) := by decide +kernel
noncomputable def k_X4_roadsOf_28 (F : Nat) (h5 : AK) : AK := ak_iinc 4 1 h5
set_option maxRecDepth 20000 in
theorem sk_X4_roadsOf_28 (F : Nat) {h5 : AK} (hh5 : Snd X0 RX4 cX4_roadsOf 5 0 5 h5) : Snd X0 RX4 cX4_roadsOf 5 0 28 (k_X4_roadsOf_28 F h5) := by
  unfold k_X4_roadsOf_28
  exact snd_iinc (pc := 28) (i := 4) (n := 1) (by decide) dX4_roadsOf_28 (snd_goto (pc := 31) (off := (-26)) (tgt := 5) (by decide) dX4_roadsOf_31 (hh5))
noncomputable def kb_X4_roadsOf_5 (F : Nat) (self : AK) : AK := ak_iload 4 (ak_aload 1 (ak_getf 7 1 (ak_cmplt (ak_aload 0 (ak_getf 4 0 (ak_iload 4 (ak_iald (ak_iload 2 (ak_cmpeq (ak_iinc 3 1 ((k_X4_roadsOf_28 F self))) ((k_X4_roadsOf_28 F self)))))))) (ak_iload 3 ak_ireturn))))
noncomputable def k_X4_roadsOf_5 (F : Nat) (n : Nat) : AK := Nat.rec (motive := fun _ => AK) ak_none (fun _ self => kb_X4_roadsOf_5 F self) n
set_option maxRecDepth 20000 in
theorem sk_X4_roadsOf_5 (F : Nat) : ∀ n, Snd X0 RX4 cX4_roadsOf 5 0 5 (k_X4_roadsOf_5 F n) := by
  intro n
  induction n with
  | zero => exact snd_none
  | succ n ih =>
    show Snd X0 RX4 cX4_roadsOf 5 0 5 (kb_X4_roadsOf_5 F (k_X4_roadsOf_5 F n))
    unfold kb_X4_roadsOf_5
    exact snd_iload (pc := 5) (i := 4) dX4_roadsOf_5 (snd_aload_n (pc := 7) (i := 1) dX4_roadsOf_7 (snd_getf (pc := 8) cls7 (f := 1) (by decide) wd_167 dX4_roadsOf_8 (snd_icmpge (pc := 11) (off := 23) (tgt := 34) (by decide) dX4_roadsOf_11 (snd_iload_n (pc := 34) (i := 3) dX4_roadsOf_34 (snd_ireturn dX4_roadsOf_35)) (snd_aload_n (pc := 14) (i := 0) dX4_roadsOf_14 (snd_getf (pc := 15) cls4 (f := 0) (by decide) wd_541 dX4_roadsOf_15 (snd_iload (pc := 18) (i := 4) dX4_roadsOf_18 (snd_iald (pc := 20) dX4_roadsOf_20 (snd_iload_n (pc := 21) (i := 2) dX4_roadsOf_21 (snd_icmpne (pc := 22) (off := 6) (tgt := 28) (by decide) dX4_roadsOf_22 ((sk_X4_roadsOf_28 F ih)) (snd_iinc (pc := 25) (i := 3) (n := 1) (by decide) dX4_roadsOf_25 ((sk_X4_roadsOf_28 F ih))))))))))))
noncomputable def k_X4_roadsOf (F : Nat) : AK := ak_push (vI 0) (ak_istore 3 (ak_push (vI 0) (ak_istore 4 ((k_X4_roadsOf_5 F F)))))
noncomputable def m_X4_roadsOf (F : Nat) : AF := mkF 1 5 (k_X4_roadsOf F)
set_option maxRecDepth 20000 in
theorem s_X4_roadsOf (F : Nat) : MA yX4_roadsOf cX4_roadsOf 5 (some .int) 0 (m_X4_roadsOf F) := met_of (Or.inr (Or.inl ⟨rfl, rfl⟩)) (by decide) (by
  unfold k_X4_roadsOf
  exact snd_iconst (pc := 0) dX4_roadsOf_0 (snd_istore_n (pc := 1) (i := 3) (by decide) dX4_roadsOf_1 (snd_iconst (pc := 2) dX4_roadsOf_2 (snd_istore (pc := 3) (i := 4) (by decide) dX4_roadsOf_3 ((sk_X4_roadsOf_5 F F))))))

/-! LastWalker$Outing.idleRoads(LLastWalker$Town;)I -/
theorem dX4_idleRoads_0 : decode cX4_idleRoads 0 = .ok (.iconst 0, 1) := by decide +kernel
theorem dX4_idleRoads_1 : decode cX4_idleRoads 1 = .ok (.istore_n 2, 1) := by decide +kernel
theorem dX4_idleRoads_2 : decode cX4_idleRoads 2 = .ok (.iconst 0, 1) := by decide +kernel
theorem dX4_idleRoads_3 : decode cX4_idleRoads 3 = .ok (.istore_n 3, 1) := by decide +kernel
theorem dX4_idleRoads_4 : decode cX4_idleRoads 4 = .ok (.iload_n 3, 1) := by decide +kernel
theorem dX4_idleRoads_5 : decode cX4_idleRoads 5 = .ok (.aload_n 1, 1) := by decide +kernel
theorem dX4_idleRoads_6 : decode cX4_idleRoads 6 = .ok (.getfield 163, 3) := by decide +kernel
theorem dX4_idleRoads_9 : decode cX4_idleRoads 9 = .ok (.if_icmp .ge 24, 3) := by decide +kernel
theorem dX4_idleRoads_12 : decode cX4_idleRoads 12 = .ok (.aload_n 0, 1) := by decide +kernel
theorem dX4_idleRoads_13 : decode cX4_idleRoads 13 = .ok (.getfield 22, 3) := by decide +kernel
theorem dX4_idleRoads_16 : decode cX4_idleRoads 16 = .ok (.iload_n 3, 1) := by decide +kernel
theorem dX4_idleRoads_17 : decode cX4_idleRoads 17 = .ok (.iaload, 1) := by decide +kernel
theorem dX4_idleRoads_18 : decode cX4_idleRoads 18 = .ok (.ifCond .ne 9, 3) := by decide +kernel
theorem dX4_idleRoads_21 : decode cX4_idleRoads 21 = .ok (.iload_n 2, 1) := by decide +kernel
theorem dX4_idleRoads_22 : decode cX4_idleRoads 22 = .ok (.iconst 1, 1) := by decide +kernel
theorem dX4_idleRoads_23 : decode cX4_idleRoads 23 = .ok (.iload_n 3, 1) := by decide +kernel
theorem dX4_idleRoads_24 : decode cX4_idleRoads 24 = .ok (.ishl, 1) := by decide +kernel
theorem dX4_idleRoads_25 : decode cX4_idleRoads 25 = .ok (.ior, 1) := by decide +kernel
theorem dX4_idleRoads_26 : decode cX4_idleRoads 26 = .ok (.istore_n 2, 1) := by decide +kernel
theorem dX4_idleRoads_27 : decode cX4_idleRoads 27 = .ok (.iinc 3 1, 3) := by decide +kernel
theorem dX4_idleRoads_30 : decode cX4_idleRoads 30 = .ok (.goto (-26), 3) := by decide +kernel
theorem dX4_idleRoads_33 : decode cX4_idleRoads 33 = .ok (.iload_n 2, 1) := by decide +kernel
theorem dX4_idleRoads_34 : decode cX4_idleRoads 34 = .ok (.ireturn, 1) := by decide +kernel
noncomputable def k_X4_idleRoads_27 (F : Nat) (h4 : AK) : AK := ak_iinc 3 1 h4
set_option maxRecDepth 20000 in
theorem sk_X4_idleRoads_27 (F : Nat) {h4 : AK} (hh4 : Snd X0 RX4 cX4_idleRoads 4 0 4 h4) : Snd X0 RX4 cX4_idleRoads 4 0 27 (k_X4_idleRoads_27 F h4) := by
  unfold k_X4_idleRoads_27
  exact snd_iinc (pc := 27) (i := 3) (n := 1) (by decide) dX4_idleRoads_27 (snd_goto (pc := 30) (off := (-26)) (tgt := 4) (by decide) dX4_idleRoads_30 (hh4))
noncomputable def kb_X4_idleRoads_4 (F : Nat) (self : AK) : AK := ak_iload 3 (ak_aload 1 (ak_getf 7 1 (ak_cmplt (ak_aload 0 (ak_getf 4 2 (ak_iload 3 (ak_iald (ak_ifeq (ak_iload 2 (ak_push (vI 1) (ak_iload 3 (ak_ishl (ak_ior (ak_istore 2 ((k_X4_idleRoads_27 F self)))))))) ((k_X4_idleRoads_27 F self))))))) (ak_iload 2 ak_ireturn))))
noncomputable def k_X4_idleRoads_4 (F : Nat) (n : Nat) : AK := Nat.rec (motive := fun _ => AK) ak_none (fun _ self => kb_X4_idleRoads_4 F self) n
set_option maxRecDepth 20000 in
theorem sk_X4_idleRoads_4 (F : Nat) : ∀ n, Snd X0 RX4 cX4_idleRoads 4 0 4 (k_X4_idleRoads_4 F n) := by
  intro n
  induction n with
  | zero => exact snd_none
  | succ n ih =>
    show Snd X0 RX4 cX4_idleRoads 4 0 4 (kb_X4_idleRoads_4 F (k_X4_idleRoads_4 F n))
    unfold kb_X4_idleRoads_4
    exact snd_iload_n (pc := 4) (i := 3) dX4_idleRoads_4 (snd_aload_n (pc := 5) (i := 1) dX4_idleRoads_5 (snd_getf (pc := 6) cls7 (f := 1) (by decide) wd_167 dX4_idleRoads_6 (snd_icmpge (pc := 9) (off := 24) (tgt := 33) (by decide) dX4_idleRoads_9 (snd_iload_n (pc := 33) (i := 2) dX4_idleRoads_33 (snd_ireturn dX4_idleRoads_34)) (snd_aload_n (pc := 12) (i := 0) dX4_idleRoads_12 (snd_getf (pc := 13) cls4 (f := 2) (by decide) wd_545 dX4_idleRoads_13 (snd_iload_n (pc := 16) (i := 3) dX4_idleRoads_16 (snd_iald (pc := 17) dX4_idleRoads_17 (snd_ifne (pc := 18) (off := 9) (tgt := 27) (by decide) dX4_idleRoads_18 ((sk_X4_idleRoads_27 F ih)) (snd_iload_n (pc := 21) (i := 2) dX4_idleRoads_21 (snd_iconst (pc := 22) dX4_idleRoads_22 (snd_iload_n (pc := 23) (i := 3) dX4_idleRoads_23 (snd_ishl (pc := 24) dX4_idleRoads_24 (snd_ior (pc := 25) dX4_idleRoads_25 (snd_istore_n (pc := 26) (i := 2) (by decide) dX4_idleRoads_26 ((sk_X4_idleRoads_27 F ih))))))))))))))))
noncomputable def k_X4_idleRoads (F : Nat) : AK := ak_push (vI 0) (ak_istore 2 (ak_push (vI 0) (ak_istore 3 ((k_X4_idleRoads_4 F F)))))
noncomputable def m_X4_idleRoads (F : Nat) : AF := mkF 1 4 (k_X4_idleRoads F)
set_option maxRecDepth 20000 in
theorem s_X4_idleRoads (F : Nat) : MA yX4_idleRoads cX4_idleRoads 4 (some .int) 0 (m_X4_idleRoads F) := met_of (Or.inr (Or.inl ⟨rfl, rfl⟩)) (by decide) (by
  unfold k_X4_idleRoads
  exact snd_iconst (pc := 0) dX4_idleRoads_0 (snd_istore_n (pc := 1) (i := 2) (by decide) dX4_idleRoads_1 (snd_iconst (pc := 2) dX4_idleRoads_2 (snd_istore_n (pc := 3) (i := 3) (by decide) dX4_idleRoads_3 ((sk_X4_idleRoads_4 F F))))))

/-! LastWalker$Reader.open([BI)V -/
theorem dX5_open_0 : decode cX5_open 0 = .ok (.aload_n 0, 1) := by decide +kernel
theorem dX5_open_1 : decode cX5_open 1 = .ok (.aload_n 1, 1) := by decide +kernel
theorem dX5_open_2 : decode cX5_open 2 = .ok (.putfield 25, 3) := by decide +kernel
theorem dX5_open_5 : decode cX5_open 5 = .ok (.aload_n 0, 1) := by decide +kernel
theorem dX5_open_6 : decode cX5_open 6 = .ok (.iload_n 2, 1) := by decide +kernel
theorem dX5_open_7 : decode cX5_open 7 = .ok (.aload_n 1, 1) := by decide +kernel
theorem dX5_open_8 : decode cX5_open 8 = .ok (.arraylength, 1) := by decide +kernel
theorem dX5_open_9 : decode cX5_open 9 = .ok (.invokestatic 64, 3) := by decide +kernel
theorem dX5_open_12 : decode cX5_open 12 = .ok (.putfield 55, 3) := by decide +kernel
theorem dX5_open_15 : decode cX5_open 15 = .ok (.aload_n 0, 1) := by decide +kernel
theorem dX5_open_16 : decode cX5_open 16 = .ok (.iconst 0, 1) := by decide +kernel
theorem dX5_open_17 : decode cX5_open 17 = .ok (.putfield 70, 3) := by decide +kernel
theorem dX5_open_20 : decode cX5_open 20 = .ok (.aload_n 0, 1) := by decide +kernel
theorem dX5_open_21 : decode cX5_open 21 = .ok (.iconst 0, 1) := by decide +kernel
theorem dX5_open_22 : decode cX5_open 22 = .ok (.putfield 47, 3) := by decide +kernel
theorem dX5_open_25 : decode cX5_open 25 = .ok (.aload_n 0, 1) := by decide +kernel
theorem dX5_open_26 : decode cX5_open 26 = .ok (.iconst (-1), 1) := by decide +kernel
theorem dX5_open_27 : decode cX5_open 27 = .ok (.putfield 73, 3) := by decide +kernel
theorem dX5_open_30 : decode cX5_open 30 = .ok (.return_, 1) := by decide +kernel
noncomputable def k_X5_open (F : Nat) : AK := ak_aload 0 (ak_aload 1 (ak_putr 3 5 4 (ak_aload 0 (ak_iload 2 (ak_aload 1 (ak_alen (ak_imin (ak_putf 5 5 (ak_aload 0 (ak_push (vI 0) (ak_putf 5 6 (ak_aload 0 (ak_push (vI 0) (ak_putf 5 2 (ak_aload 0 (ak_push (vI (-1)) (ak_putf 5 3 ak_return)))))))))))))))))
noncomputable def m_X5_open (F : Nat) : AF := mkF 0 3 (k_X5_open F)
set_option maxRecDepth 20000 in
theorem s_X5_open (F : Nat) : MA yX5_open cX5_open 3 none 1 (m_X5_open F) := met_of (Or.inl ⟨rfl, rfl⟩) (by decide) (by
  unfold k_X5_open
  exact snd_aload_n (pc := 0) (i := 0) dX5_open_0 (snd_aload_n (pc := 1) (i := 1) dX5_open_1 (snd_putr (pc := 2) cls5 (f := 4) (by decide) (by decide) rfl (Or.inr ⟨_, rfl⟩) rfl mut_3 one_5 wd_359 dX5_open_2 (snd_aload_n (pc := 5) (i := 0) dX5_open_5 (snd_iload_n (pc := 6) (i := 2) dX5_open_6 (snd_aload_n (pc := 7) (i := 1) dX5_open_7 (snd_alen (pc := 8) dX5_open_8 (snd_imin (pc := 9) (by decide) wd_641 wd_642 wd_130 wd_643 dX5_open_9 (snd_putf (pc := 12) cls5 (f := 5) (by decide) rfl rfl rfl wd_360 dX5_open_12 (snd_aload_n (pc := 15) (i := 0) dX5_open_15 (snd_iconst (pc := 16) dX5_open_16 (snd_putf (pc := 17) cls5 (f := 6) (by decide) rfl rfl rfl wd_361 dX5_open_17 (snd_aload_n (pc := 20) (i := 0) dX5_open_20 (snd_iconst (pc := 21) dX5_open_21 (snd_putf (pc := 22) cls5 (f := 2) (by decide) rfl rfl rfl wd_355 dX5_open_22 (snd_aload_n (pc := 25) (i := 0) dX5_open_25 (snd_iconst (pc := 26) dX5_open_26 (snd_putf (pc := 27) cls5 (f := 3) (by decide) rfl rfl rfl wd_357 dX5_open_27 (snd_return dX5_open_30)))))))))))))))))))

/-! LastWalker$Town.clear()V -/
theorem dX7_clear_0 : decode cX7_clear 0 = .ok (.aload_n 0, 1) := by decide +kernel
theorem dX7_clear_1 : decode cX7_clear 1 = .ok (.iconst 4, 1) := by decide +kernel
theorem dX7_clear_2 : decode cX7_clear 2 = .ok (.putfield 51, 3) := by decide +kernel
theorem dX7_clear_5 : decode cX7_clear 5 = .ok (.aload_n 0, 1) := by decide +kernel
theorem dX7_clear_6 : decode cX7_clear 6 = .ok (.iconst 0, 1) := by decide +kernel
theorem dX7_clear_7 : decode cX7_clear 7 = .ok (.putfield 55, 3) := by decide +kernel
theorem dX7_clear_10 : decode cX7_clear 10 = .ok (.aload_n 0, 1) := by decide +kernel
theorem dX7_clear_11 : decode cX7_clear 11 = .ok (.iconst 0, 1) := by decide +kernel
theorem dX7_clear_12 : decode cX7_clear 12 = .ok (.putfield 58, 3) := by decide +kernel
theorem dX7_clear_15 : decode cX7_clear 15 = .ok (.aload_n 0, 1) := by decide +kernel
theorem dX7_clear_16 : decode cX7_clear 16 = .ok (.iconst 0, 1) := by decide +kernel
theorem dX7_clear_17 : decode cX7_clear 17 = .ok (.putfield 61, 3) := by decide +kernel
theorem dX7_clear_20 : decode cX7_clear 20 = .ok (.aload_n 0, 1) := by decide +kernel
theorem dX7_clear_21 : decode cX7_clear 21 = .ok (.iconst 0, 1) := by decide +kernel
theorem dX7_clear_22 : decode cX7_clear 22 = .ok (.putfield 64, 3) := by decide +kernel
theorem dX7_clear_25 : decode cX7_clear 25 = .ok (.aload_n 0, 1) := by decide +kernel
theorem dX7_clear_26 : decode cX7_clear 26 = .ok (.iconst 0, 1) := by decide +kernel
theorem dX7_clear_27 : decode cX7_clear 27 = .ok (.putfield 67, 3) := by decide +kernel
theorem dX7_clear_30 : decode cX7_clear 30 = .ok (.aload_n 0, 1) := by decide +kernel
theorem dX7_clear_31 : decode cX7_clear 31 = .ok (.getfield 24, 3) := by decide +kernel
theorem dX7_clear_34 : decode cX7_clear 34 = .ok (.iconst (-1), 1) := by decide +kernel
theorem dX7_clear_35 : decode cX7_clear 35 = .ok (.invokestatic 70, 3) := by decide +kernel
theorem dX7_clear_38 : decode cX7_clear 38 = .ok (.aload_n 0, 1) := by decide +kernel
theorem dX7_clear_39 : decode cX7_clear 39 = .ok (.getfield 27, 3) := by decide +kernel
theorem dX7_clear_42 : decode cX7_clear 42 = .ok (.iconst 0, 1) := by decide +kernel
theorem dX7_clear_43 : decode cX7_clear 43 = .ok (.invokestatic 70, 3) := by decide +kernel
theorem dX7_clear_46 : decode cX7_clear 46 = .ok (.return_, 1) := by decide +kernel
noncomputable def k_X7_clear (F : Nat) : AK := ak_aload 0 (ak_push (vI 4) (ak_putf 7 0 (ak_aload 0 (ak_push (vI 0) (ak_putf 7 1 (ak_aload 0 (ak_push (vI 0) (ak_putf 7 8 (ak_aload 0 (ak_push (vI 0) (ak_putf 7 12 (ak_aload 0 (ak_push (vI 0) (ak_putf 7 17 (ak_aload 0 (ak_push (vI 0) (ak_putf 7 18 (ak_aload 0 (ak_getf 7 6 (ak_push (vI (-1)) (ak_call 2 (m_J7_fill_53178 F) (ak_aload 0 (ak_getf 7 7 (ak_push (vI 0) (ak_call 2 (m_J7_fill_53178 F) ak_return)))))))))))))))))))))))))
noncomputable def m_X7_clear (F : Nat) : AF := mkF 0 1 (k_X7_clear F)
set_option maxRecDepth 20000 in
theorem s_X7_clear (F : Nat) : MA yX7_clear cX7_clear 1 none 1 (m_X7_clear F) := met_of (Or.inl ⟨rfl, rfl⟩) (by decide) (by
  unfold k_X7_clear
  exact snd_aload_n (pc := 0) (i := 0) dX7_clear_0 (snd_iconst (pc := 1) dX7_clear_1 (snd_putf (pc := 2) cls7 (f := 0) (by decide) rfl rfl rfl wd_159 dX7_clear_2 (snd_aload_n (pc := 5) (i := 0) dX7_clear_5 (snd_iconst (pc := 6) dX7_clear_6 (snd_putf (pc := 7) cls7 (f := 1) (by decide) rfl rfl rfl wd_163 dX7_clear_7 (snd_aload_n (pc := 10) (i := 0) dX7_clear_10 (snd_iconst (pc := 11) dX7_clear_11 (snd_putf (pc := 12) cls7 (f := 8) (by decide) rfl rfl rfl wd_194 dX7_clear_12 (snd_aload_n (pc := 15) (i := 0) dX7_clear_15 (snd_iconst (pc := 16) dX7_clear_16 (snd_putf (pc := 17) cls7 (f := 12) (by decide) rfl rfl rfl wd_213 dX7_clear_17 (snd_aload_n (pc := 20) (i := 0) dX7_clear_20 (snd_iconst (pc := 21) dX7_clear_21 (snd_putf (pc := 22) cls7 (f := 17) (by decide) rfl rfl rfl wd_233 dX7_clear_22 (snd_aload_n (pc := 25) (i := 0) dX7_clear_25 (snd_iconst (pc := 26) dX7_clear_26 (snd_putf (pc := 27) cls7 (f := 18) (by decide) rfl rfl rfl wd_236 dX7_clear_27 (snd_aload_n (pc := 30) (i := 0) dX7_clear_30 (snd_getf (pc := 31) cls7 (f := 6) (by decide) wd_188 dX7_clear_31 (snd_iconst (pc := 34) dX7_clear_34 (snd_callS (pc := 35) (n := 2) (s_J7_fill_53178 F) (by decide) (by decide) wd_650 wd_648 wd_649 wd_131 hy_J7_fill_53178 dX7_clear_35 (snd_aload_n (pc := 38) (i := 0) dX7_clear_38 (snd_getf (pc := 39) cls7 (f := 7) (by decide) wd_191 dX7_clear_39 (snd_iconst (pc := 42) dX7_clear_42 (snd_callS (pc := 43) (n := 2) (s_J7_fill_53178 F) (by decide) (by decide) wd_650 wd_648 wd_649 wd_131 hy_J7_fill_53178 dX7_clear_43 (snd_return dX7_clear_46)))))))))))))))))))))))))))

/-! LastWalker$Reader.isBlank(I)Z -/
theorem dX5_isBlank_0 : decode cX5_isBlank 0 = .ok (.iload_n 0, 1) := by decide +kernel
theorem dX5_isBlank_1 : decode cX5_isBlank 1 = .ok (.bipush 10, 2) := by decide +kernel
theorem dX5_isBlank_3 : decode cX5_isBlank 3 = .ok (.if_icmp .eq 9, 3) := by decide +kernel
theorem dX5_isBlank_6 : decode cX5_isBlank 6 = .ok (.iload_n 0, 1) := by decide +kernel
theorem dX5_isBlank_7 : decode cX5_isBlank 7 = .ok (.bipush 32, 2) := by decide +kernel
theorem dX5_isBlank_9 : decode cX5_isBlank 9 = .ok (.if_icmp .ne 7, 3) := by decide +kernel
theorem dX5_isBlank_12 : decode cX5_isBlank 12 = .ok (.iconst 1, 1) := by decide +kernel
theorem dX5_isBlank_13 : decode cX5_isBlank 13 = .ok (.goto 4, 3) := by decide +kernel
theorem dX5_isBlank_16 : decode cX5_isBlank 16 = .ok (.iconst 0, 1) := by decide +kernel
theorem dX5_isBlank_17 : decode cX5_isBlank 17 = .ok (.ireturn, 1) := by decide +kernel
noncomputable def k_X5_isBlank_12 (F : Nat) : AK := ak_push (vI 1) ak_ireturn
set_option maxRecDepth 20000 in
theorem sk_X5_isBlank_12 (F : Nat) : Snd X0 RX5 cX5_isBlank 1 0 12 (k_X5_isBlank_12 F) := by
  unfold k_X5_isBlank_12
  exact snd_iconst (pc := 12) dX5_isBlank_12 (snd_goto (pc := 13) (off := 4) (tgt := 17) (by decide) dX5_isBlank_13 (snd_ireturn dX5_isBlank_17))
noncomputable def k_X5_isBlank (F : Nat) : AK := ak_iload 0 (ak_push (vI 10) (ak_cmpeq ((k_X5_isBlank_12 F)) (ak_iload 0 (ak_push (vI 32) (ak_cmpeq ((k_X5_isBlank_12 F)) (ak_push (vI 0) ak_ireturn))))))
noncomputable def m_X5_isBlank (F : Nat) : AF := mkF 2 1 (k_X5_isBlank F)
set_option maxRecDepth 20000 in
theorem s_X5_isBlank (F : Nat) : MA yX5_isBlank cX5_isBlank 1 (some .boolean) 0 (m_X5_isBlank F) := met_of (Or.inr (Or.inr (Or.inl ⟨rfl, rfl⟩))) (by decide) (by
  unfold k_X5_isBlank
  exact snd_iload_n (pc := 0) (i := 0) dX5_isBlank_0 (snd_bipush (pc := 1) (by decide) dX5_isBlank_1 (snd_icmpeq (pc := 3) (off := 9) (tgt := 12) (by decide) dX5_isBlank_3 ((sk_X5_isBlank_12 F)) (snd_iload_n (pc := 6) (i := 0) dX5_isBlank_6 (snd_bipush (pc := 7) (by decide) dX5_isBlank_7 (snd_icmpne (pc := 9) (off := 7) (tgt := 16) (by decide) dX5_isBlank_9 (snd_iconst (pc := 16) dX5_isBlank_16 (snd_ireturn dX5_isBlank_17)) ((sk_X5_isBlank_12 F))))))))

/-! LastWalker$Reader.isLetter(I)Z -/
theorem dX5_isLetter_0 : decode cX5_isLetter 0 = .ok (.iload_n 0, 1) := by decide +kernel
theorem dX5_isLetter_1 : decode cX5_isLetter 1 = .ok (.bipush 97, 2) := by decide +kernel
theorem dX5_isLetter_3 : decode cX5_isLetter 3 = .ok (.if_icmp .lt 13, 3) := by decide +kernel
theorem dX5_isLetter_6 : decode cX5_isLetter 6 = .ok (.iload_n 0, 1) := by decide +kernel
theorem dX5_isLetter_7 : decode cX5_isLetter 7 = .ok (.bipush 122, 2) := by decide +kernel
theorem dX5_isLetter_9 : decode cX5_isLetter 9 = .ok (.if_icmp .gt 7, 3) := by decide +kernel
theorem dX5_isLetter_12 : decode cX5_isLetter 12 = .ok (.iconst 1, 1) := by decide +kernel
theorem dX5_isLetter_13 : decode cX5_isLetter 13 = .ok (.goto 4, 3) := by decide +kernel
theorem dX5_isLetter_16 : decode cX5_isLetter 16 = .ok (.iconst 0, 1) := by decide +kernel
theorem dX5_isLetter_17 : decode cX5_isLetter 17 = .ok (.ireturn, 1) := by decide +kernel
noncomputable def k_X5_isLetter (F : Nat) : AK := ak_iload 0 (ak_push (vI 97) (ak_cmplt (ak_push (vI 0) ak_ireturn) (ak_iload 0 (ak_push (vI 122) (ak_cmpgt (ak_push (vI 0) ak_ireturn) (ak_push (vI 1) ak_ireturn))))))
noncomputable def m_X5_isLetter (F : Nat) : AF := mkF 2 1 (k_X5_isLetter F)
set_option maxRecDepth 20000 in
theorem s_X5_isLetter (F : Nat) : MA yX5_isLetter cX5_isLetter 1 (some .boolean) 0 (m_X5_isLetter F) := met_of (Or.inr (Or.inr (Or.inl ⟨rfl, rfl⟩))) (by decide) (by
  unfold k_X5_isLetter
  exact snd_iload_n (pc := 0) (i := 0) dX5_isLetter_0 (snd_bipush (pc := 1) (by decide) dX5_isLetter_1 (snd_icmplt (pc := 3) (off := 13) (tgt := 16) (by decide) dX5_isLetter_3 (snd_iconst (pc := 16) dX5_isLetter_16 (snd_ireturn dX5_isLetter_17)) (snd_iload_n (pc := 6) (i := 0) dX5_isLetter_6 (snd_bipush (pc := 7) (by decide) dX5_isLetter_7 (snd_icmpgt (pc := 9) (off := 7) (tgt := 16) (by decide) dX5_isLetter_9 (snd_iconst (pc := 16) dX5_isLetter_16 (snd_ireturn dX5_isLetter_17)) (snd_iconst (pc := 12) dX5_isLetter_12 (snd_goto (pc := 13) (off := 4) (tgt := 17) (by decide) dX5_isLetter_13 (snd_ireturn dX5_isLetter_17)))))))))

/-! LastWalker$Reader.nextWord()V -/
theorem dX5_nextWord_0 : decode cX5_nextWord 0 = .ok (.aload_n 0, 1) := by decide +kernel
theorem dX5_nextWord_1 : decode cX5_nextWord 1 = .ok (.iconst 1, 1) := by decide +kernel
theorem dX5_nextWord_2 : decode cX5_nextWord 2 = .ok (.putfield 79, 3) := by decide +kernel
theorem dX5_nextWord_5 : decode cX5_nextWord 5 = .ok (.aload_n 0, 1) := by decide +kernel
theorem dX5_nextWord_6 : decode cX5_nextWord 6 = .ok (.getfield 70, 3) := by decide +kernel
theorem dX5_nextWord_9 : decode cX5_nextWord 9 = .ok (.aload_n 0, 1) := by decide +kernel
theorem dX5_nextWord_10 : decode cX5_nextWord 10 = .ok (.getfield 55, 3) := by decide +kernel
theorem dX5_nextWord_13 : decode cX5_nextWord 13 = .ok (.if_icmp .ge 31, 3) := by decide +kernel
theorem dX5_nextWord_16 : decode cX5_nextWord 16 = .ok (.aload_n 0, 1) := by decide +kernel
theorem dX5_nextWord_17 : decode cX5_nextWord 17 = .ok (.getfield 25, 3) := by decide +kernel
theorem dX5_nextWord_20 : decode cX5_nextWord 20 = .ok (.aload_n 0, 1) := by decide +kernel
theorem dX5_nextWord_21 : decode cX5_nextWord 21 = .ok (.getfield 70, 3) := by decide +kernel
theorem dX5_nextWord_24 : decode cX5_nextWord 24 = .ok (.baload, 1) := by decide +kernel
theorem dX5_nextWord_25 : decode cX5_nextWord 25 = .ok (.invokestatic 156, 3) := by decide +kernel
theorem dX5_nextWord_28 : decode cX5_nextWord 28 = .ok (.ifCond .eq 16, 3) := by decide +kernel
theorem dX5_nextWord_31 : decode cX5_nextWord 31 = .ok (.aload_n 0, 1) := by decide +kernel
theorem dX5_nextWord_32 : decode cX5_nextWord 32 = .ok (.dup, 1) := by decide +kernel
theorem dX5_nextWord_33 : decode cX5_nextWord 33 = .ok (.getfield 70, 3) := by decide +kernel
theorem dX5_nextWord_36 : decode cX5_nextWord 36 = .ok (.iconst 1, 1) := by decide +kernel
theorem dX5_nextWord_37 : decode cX5_nextWord 37 = .ok (.iadd, 1) := by decide +kernel
theorem dX5_nextWord_38 : decode cX5_nextWord 38 = .ok (.putfield 70, 3) := by decide +kernel
theorem dX5_nextWord_41 : decode cX5_nextWord 41 = .ok (.goto (-36), 3) := by decide +kernel
theorem dX5_nextWord_44 : decode cX5_nextWord 44 = .ok (.return_, 1) := by decide +kernel
noncomputable def kb_X5_nextWord_5 (F : Nat) (self : AK) : AK := ak_aload 0 (ak_getf 5 6 (ak_aload 0 (ak_getf 5 5 (ak_cmplt (ak_aload 0 (ak_getf 5 4 (ak_aload 0 (ak_getf 5 6 (ak_bald (ak_call 1 (m_X5_isLetter F) (ak_ifeq (ak_return) (ak_aload 0 (ak_dup (ak_getf 5 6 (ak_push (vI 1) (ak_iadd (ak_putf 5 6 self))))))))))))) (ak_return)))))
noncomputable def k_X5_nextWord_5 (F : Nat) (n : Nat) : AK := Nat.rec (motive := fun _ => AK) ak_none (fun _ self => kb_X5_nextWord_5 F self) n
set_option maxRecDepth 20000 in
theorem sk_X5_nextWord_5 (F : Nat) : ∀ n, Snd X0 RX5 cX5_nextWord 1 1 5 (k_X5_nextWord_5 F n) := by
  intro n
  induction n with
  | zero => exact snd_none
  | succ n ih =>
    show Snd X0 RX5 cX5_nextWord 1 1 5 (kb_X5_nextWord_5 F (k_X5_nextWord_5 F n))
    unfold kb_X5_nextWord_5
    exact snd_aload_n (pc := 5) (i := 0) dX5_nextWord_5 (snd_getf (pc := 6) cls5 (f := 6) (by decide) wd_361 dX5_nextWord_6 (snd_aload_n (pc := 9) (i := 0) dX5_nextWord_9 (snd_getf (pc := 10) cls5 (f := 5) (by decide) wd_360 dX5_nextWord_10 (snd_icmpge (pc := 13) (off := 31) (tgt := 44) (by decide) dX5_nextWord_13 (snd_return dX5_nextWord_44) (snd_aload_n (pc := 16) (i := 0) dX5_nextWord_16 (snd_getf (pc := 17) cls5 (f := 4) (by decide) wd_359 dX5_nextWord_17 (snd_aload_n (pc := 20) (i := 0) dX5_nextWord_20 (snd_getf (pc := 21) cls5 (f := 6) (by decide) wd_361 dX5_nextWord_21 (snd_bald (pc := 24) dX5_nextWord_24 (snd_callS (pc := 25) (n := 1) (s_X5_isLetter F) (by decide) (by decide) wd_664 wd_662 wd_663 wd_124 hy_X5_isLetter dX5_nextWord_25 (snd_ifeq (pc := 28) (off := 16) (tgt := 44) (by decide) dX5_nextWord_28 (snd_return dX5_nextWord_44) (snd_aload_n (pc := 31) (i := 0) dX5_nextWord_31 (snd_dup (pc := 32) dX5_nextWord_32 (snd_getf (pc := 33) cls5 (f := 6) (by decide) wd_361 dX5_nextWord_33 (snd_iconst (pc := 36) dX5_nextWord_36 (snd_iadd (pc := 37) dX5_nextWord_37 (snd_putf (pc := 38) cls5 (f := 6) (by decide) rfl rfl rfl wd_361 dX5_nextWord_38 (snd_goto (pc := 41) (off := (-36)) (tgt := 5) (by decide) dX5_nextWord_41 (ih)))))))))))))))))))
noncomputable def k_X5_nextWord (F : Nat) : AK := ak_aload 0 (ak_push (vI 1) (ak_putf 5 7 ((k_X5_nextWord_5 F F))))
noncomputable def m_X5_nextWord (F : Nat) : AF := mkF 0 1 (k_X5_nextWord F)
set_option maxRecDepth 20000 in
theorem s_X5_nextWord (F : Nat) : MA yX5_nextWord cX5_nextWord 1 none 1 (m_X5_nextWord F) := met_of (Or.inl ⟨rfl, rfl⟩) (by decide) (by
  unfold k_X5_nextWord
  exact snd_aload_n (pc := 0) (i := 0) dX5_nextWord_0 (snd_iconst (pc := 1) dX5_nextWord_1 (snd_putf (pc := 2) cls5 (f := 7) (by decide) rfl rfl rfl wd_362 dX5_nextWord_2 ((sk_X5_nextWord_5 F F)))))

/-! LastWalker$Reader.isDigit(I)Z -/
theorem dX5_isDigit_0 : decode cX5_isDigit 0 = .ok (.iload_n 0, 1) := by decide +kernel
theorem dX5_isDigit_1 : decode cX5_isDigit 1 = .ok (.bipush 48, 2) := by decide +kernel
theorem dX5_isDigit_3 : decode cX5_isDigit 3 = .ok (.if_icmp .lt 13, 3) := by decide +kernel
theorem dX5_isDigit_6 : decode cX5_isDigit 6 = .ok (.iload_n 0, 1) := by decide +kernel
theorem dX5_isDigit_7 : decode cX5_isDigit 7 = .ok (.bipush 57, 2) := by decide +kernel
theorem dX5_isDigit_9 : decode cX5_isDigit 9 = .ok (.if_icmp .gt 7, 3) := by decide +kernel
theorem dX5_isDigit_12 : decode cX5_isDigit 12 = .ok (.iconst 1, 1) := by decide +kernel
theorem dX5_isDigit_13 : decode cX5_isDigit 13 = .ok (.goto 4, 3) := by decide +kernel
theorem dX5_isDigit_16 : decode cX5_isDigit 16 = .ok (.iconst 0, 1) := by decide +kernel
theorem dX5_isDigit_17 : decode cX5_isDigit 17 = .ok (.ireturn, 1) := by decide +kernel
noncomputable def k_X5_isDigit (F : Nat) : AK := ak_iload 0 (ak_push (vI 48) (ak_cmplt (ak_push (vI 0) ak_ireturn) (ak_iload 0 (ak_push (vI 57) (ak_cmpgt (ak_push (vI 0) ak_ireturn) (ak_push (vI 1) ak_ireturn))))))
noncomputable def m_X5_isDigit (F : Nat) : AF := mkF 2 1 (k_X5_isDigit F)
set_option maxRecDepth 20000 in
theorem s_X5_isDigit (F : Nat) : MA yX5_isDigit cX5_isDigit 1 (some .boolean) 0 (m_X5_isDigit F) := met_of (Or.inr (Or.inr (Or.inl ⟨rfl, rfl⟩))) (by decide) (by
  unfold k_X5_isDigit
  exact snd_iload_n (pc := 0) (i := 0) dX5_isDigit_0 (snd_bipush (pc := 1) (by decide) dX5_isDigit_1 (snd_icmplt (pc := 3) (off := 13) (tgt := 16) (by decide) dX5_isDigit_3 (snd_iconst (pc := 16) dX5_isDigit_16 (snd_ireturn dX5_isDigit_17)) (snd_iload_n (pc := 6) (i := 0) dX5_isDigit_6 (snd_bipush (pc := 7) (by decide) dX5_isDigit_7 (snd_icmpgt (pc := 9) (off := 7) (tgt := 16) (by decide) dX5_isDigit_9 (snd_iconst (pc := 16) dX5_isDigit_16 (snd_ireturn dX5_isDigit_17)) (snd_iconst (pc := 12) dX5_isDigit_12 (snd_goto (pc := 13) (off := 4) (tgt := 17) (by decide) dX5_isDigit_13 (snd_ireturn dX5_isDigit_17)))))))))

/-! LastWalker$Reader.nextNumber()V -/
theorem dX5_nextNumber_0 : decode cX5_nextNumber 0 = .ok (.aload_n 0, 1) := by decide +kernel
theorem dX5_nextNumber_1 : decode cX5_nextNumber 1 = .ok (.iconst 0, 1) := by decide +kernel
theorem dX5_nextNumber_2 : decode cX5_nextNumber 2 = .ok (.putfield 150, 3) := by decide +kernel
theorem dX5_nextNumber_5 : decode cX5_nextNumber 5 = .ok (.aload_n 0, 1) := by decide +kernel
theorem dX5_nextNumber_6 : decode cX5_nextNumber 6 = .ok (.getfield 70, 3) := by decide +kernel
theorem dX5_nextNumber_9 : decode cX5_nextNumber 9 = .ok (.aload_n 0, 1) := by decide +kernel
theorem dX5_nextNumber_10 : decode cX5_nextNumber 10 = .ok (.getfield 55, 3) := by decide +kernel
theorem dX5_nextNumber_13 : decode cX5_nextNumber 13 = .ok (.if_icmp .ge 68, 3) := by decide +kernel
theorem dX5_nextNumber_16 : decode cX5_nextNumber 16 = .ok (.aload_n 0, 1) := by decide +kernel
theorem dX5_nextNumber_17 : decode cX5_nextNumber 17 = .ok (.getfield 25, 3) := by decide +kernel
theorem dX5_nextNumber_20 : decode cX5_nextNumber 20 = .ok (.aload_n 0, 1) := by decide +kernel
theorem dX5_nextNumber_21 : decode cX5_nextNumber 21 = .ok (.getfield 70, 3) := by decide +kernel
theorem dX5_nextNumber_24 : decode cX5_nextNumber 24 = .ok (.baload, 1) := by decide +kernel
theorem dX5_nextNumber_25 : decode cX5_nextNumber 25 = .ok (.invokestatic 162, 3) := by decide +kernel
theorem dX5_nextNumber_28 : decode cX5_nextNumber 28 = .ok (.ifCond .eq 53, 3) := by decide +kernel
theorem dX5_nextNumber_31 : decode cX5_nextNumber 31 = .ok (.aload_n 0, 1) := by decide +kernel
theorem dX5_nextNumber_32 : decode cX5_nextNumber 32 = .ok (.getfield 70, 3) := by decide +kernel
theorem dX5_nextNumber_35 : decode cX5_nextNumber 35 = .ok (.aload_n 0, 1) := by decide +kernel
theorem dX5_nextNumber_36 : decode cX5_nextNumber 36 = .ok (.getfield 89, 3) := by decide +kernel
theorem dX5_nextNumber_39 : decode cX5_nextNumber 39 = .ok (.isub, 1) := by decide +kernel
theorem dX5_nextNumber_40 : decode cX5_nextNumber 40 = .ok (.iconst 3, 1) := by decide +kernel
theorem dX5_nextNumber_41 : decode cX5_nextNumber 41 = .ok (.if_icmp .ge 27, 3) := by decide +kernel
theorem dX5_nextNumber_44 : decode cX5_nextNumber 44 = .ok (.aload_n 0, 1) := by decide +kernel
theorem dX5_nextNumber_45 : decode cX5_nextNumber 45 = .ok (.aload_n 0, 1) := by decide +kernel
theorem dX5_nextNumber_46 : decode cX5_nextNumber 46 = .ok (.getfield 150, 3) := by decide +kernel
theorem dX5_nextNumber_49 : decode cX5_nextNumber 49 = .ok (.bipush 10, 2) := by decide +kernel
theorem dX5_nextNumber_51 : decode cX5_nextNumber 51 = .ok (.imul, 1) := by decide +kernel
theorem dX5_nextNumber_52 : decode cX5_nextNumber 52 = .ok (.aload_n 0, 1) := by decide +kernel
theorem dX5_nextNumber_53 : decode cX5_nextNumber 53 = .ok (.getfield 25, 3) := by decide +kernel
theorem dX5_nextNumber_56 : decode cX5_nextNumber 56 = .ok (.aload_n 0, 1) := by decide +kernel
theorem dX5_nextNumber_57 : decode cX5_nextNumber 57 = .ok (.getfield 70, 3) := by decide +kernel
theorem dX5_nextNumber_60 : decode cX5_nextNumber 60 = .ok (.baload, 1) := by decide +kernel
theorem dX5_nextNumber_61 : decode cX5_nextNumber 61 = .ok (.iadd, 1) := by decide +kernel
theorem dX5_nextNumber_62 : decode cX5_nextNumber 62 = .ok (.bipush 48, 2) := by decide +kernel
theorem dX5_nextNumber_64 : decode cX5_nextNumber 64 = .ok (.isub, 1) := by decide +kernel
theorem dX5_nextNumber_65 : decode cX5_nextNumber 65 = .ok (.putfield 150, 3) := by decide +kernel
theorem dX5_nextNumber_68 : decode cX5_nextNumber 68 = .ok (.aload_n 0, 1) := by decide +kernel
theorem dX5_nextNumber_69 : decode cX5_nextNumber 69 = .ok (.dup, 1) := by decide +kernel
theorem dX5_nextNumber_70 : decode cX5_nextNumber 70 = .ok (.getfield 70, 3) := by decide +kernel
theorem dX5_nextNumber_73 : decode cX5_nextNumber 73 = .ok (.iconst 1, 1) := by decide +kernel
theorem dX5_nextNumber_74 : decode cX5_nextNumber 74 = .ok (.iadd, 1) := by decide +kernel
theorem dX5_nextNumber_75 : decode cX5_nextNumber 75 = .ok (.putfield 70, 3) := by decide +kernel
theorem dX5_nextNumber_78 : decode cX5_nextNumber 78 = .ok (.goto (-73), 3) := by decide +kernel
theorem dX5_nextNumber_81 : decode cX5_nextNumber 81 = .ok (.aload_n 0, 1) := by decide +kernel
theorem dX5_nextNumber_82 : decode cX5_nextNumber 82 = .ok (.aload_n 0, 1) := by decide +kernel
theorem dX5_nextNumber_83 : decode cX5_nextNumber 83 = .ok (.getfield 70, 3) := by decide +kernel
theorem dX5_nextNumber_86 : decode cX5_nextNumber 86 = .ok (.aload_n 0, 1) := by decide +kernel
theorem dX5_nextNumber_87 : decode cX5_nextNumber 87 = .ok (.getfield 89, 3) := by decide +kernel
theorem dX5_nextNumber_90 : decode cX5_nextNumber 90 = .ok (.isub, 1) := by decide +kernel
theorem dX5_nextNumber_91 : decode cX5_nextNumber 91 = .ok (.iconst 3, 1) := by decide +kernel
theorem dX5_nextNumber_92 : decode cX5_nextNumber 92 = .ok (.if_icmp .le 7, 3) := by decide +kernel
theorem dX5_nextNumber_95 : decode cX5_nextNumber 95 = .ok (.iconst 4, 1) := by decide +kernel
theorem dX5_nextNumber_96 : decode cX5_nextNumber 96 = .ok (.goto 4, 3) := by decide +kernel
theorem dX5_nextNumber_99 : decode cX5_nextNumber 99 = .ok (.iconst 2, 1) := by decide +kernel
theorem dX5_nextNumber_100 : decode cX5_nextNumber 100 = .ok (.putfield 79, 3) := by decide +kernel
theorem dX5_nextNumber_103 : decode cX5_nextNumber 103 = .ok (.return_, 1) := by decide +kernel
noncomputable def k_X5_nextNumber_68 (F : Nat) (h5 : AK) : AK := ak_aload 0 (ak_dup (ak_getf 5 6 (ak_push (vI 1) (ak_iadd (ak_putf 5 6 h5)))))
set_option maxRecDepth 20000 in
theorem sk_X5_nextNumber_68 (F : Nat) {h5 : AK} (hh5 : Snd X0 RX5 cX5_nextNumber 1 1 5 h5) : Snd X0 RX5 cX5_nextNumber 1 1 68 (k_X5_nextNumber_68 F h5) := by
  unfold k_X5_nextNumber_68
  exact snd_aload_n (pc := 68) (i := 0) dX5_nextNumber_68 (snd_dup (pc := 69) dX5_nextNumber_69 (snd_getf (pc := 70) cls5 (f := 6) (by decide) wd_361 dX5_nextNumber_70 (snd_iconst (pc := 73) dX5_nextNumber_73 (snd_iadd (pc := 74) dX5_nextNumber_74 (snd_putf (pc := 75) cls5 (f := 6) (by decide) rfl rfl rfl wd_361 dX5_nextNumber_75 (snd_goto (pc := 78) (off := (-73)) (tgt := 5) (by decide) dX5_nextNumber_78 (hh5)))))))
noncomputable def k_X5_nextNumber_81 (F : Nat) : AK := ak_aload 0 (ak_aload 0 (ak_getf 5 6 (ak_aload 0 (ak_getf 5 8 (ak_isub (ak_push (vI 3) (ak_cmpgt (ak_push (vI 4) (ak_putf 5 7 ak_return)) (ak_push (vI 2) (ak_putf 5 7 ak_return)))))))))
set_option maxRecDepth 20000 in
theorem sk_X5_nextNumber_81 (F : Nat) : Snd X0 RX5 cX5_nextNumber 1 1 81 (k_X5_nextNumber_81 F) := by
  unfold k_X5_nextNumber_81
  exact snd_aload_n (pc := 81) (i := 0) dX5_nextNumber_81 (snd_aload_n (pc := 82) (i := 0) dX5_nextNumber_82 (snd_getf (pc := 83) cls5 (f := 6) (by decide) wd_361 dX5_nextNumber_83 (snd_aload_n (pc := 86) (i := 0) dX5_nextNumber_86 (snd_getf (pc := 87) cls5 (f := 8) (by decide) wd_363 dX5_nextNumber_87 (snd_isub (pc := 90) dX5_nextNumber_90 (snd_iconst (pc := 91) dX5_nextNumber_91 (snd_icmple (pc := 92) (off := 7) (tgt := 99) (by decide) dX5_nextNumber_92 (snd_iconst (pc := 99) dX5_nextNumber_99 (snd_putf (pc := 100) cls5 (f := 7) (by decide) rfl rfl rfl wd_362 dX5_nextNumber_100 (snd_return dX5_nextNumber_103))) (snd_iconst (pc := 95) dX5_nextNumber_95 (snd_goto (pc := 96) (off := 4) (tgt := 100) (by decide) dX5_nextNumber_96 (snd_putf (pc := 100) cls5 (f := 7) (by decide) rfl rfl rfl wd_362 dX5_nextNumber_100 (snd_return dX5_nextNumber_103)))))))))))
noncomputable def kb_X5_nextNumber_5 (F : Nat) (self : AK) : AK := ak_aload 0 (ak_getf 5 6 (ak_aload 0 (ak_getf 5 5 (ak_cmplt (ak_aload 0 (ak_getf 5 4 (ak_aload 0 (ak_getf 5 6 (ak_bald (ak_call 1 (m_X5_isDigit F) (ak_ifeq ((k_X5_nextNumber_81 F)) (ak_aload 0 (ak_getf 5 6 (ak_aload 0 (ak_getf 5 8 (ak_isub (ak_push (vI 3) (ak_cmplt (ak_aload 0 (ak_aload 0 (ak_getf 5 9 (ak_push (vI 10) (ak_imul (ak_aload 0 (ak_getf 5 4 (ak_aload 0 (ak_getf 5 6 (ak_bald (ak_iadd (ak_push (vI 48) (ak_isub (ak_putf 5 9 ((k_X5_nextNumber_68 F self)))))))))))))))) ((k_X5_nextNumber_68 F self)))))))))))))))) ((k_X5_nextNumber_81 F))))))
noncomputable def k_X5_nextNumber_5 (F : Nat) (n : Nat) : AK := Nat.rec (motive := fun _ => AK) ak_none (fun _ self => kb_X5_nextNumber_5 F self) n
set_option maxRecDepth 20000 in
theorem sk_X5_nextNumber_5 (F : Nat) : ∀ n, Snd X0 RX5 cX5_nextNumber 1 1 5 (k_X5_nextNumber_5 F n) := by
  intro n
  induction n with
  | zero => exact snd_none
  | succ n ih =>
    show Snd X0 RX5 cX5_nextNumber 1 1 5 (kb_X5_nextNumber_5 F (k_X5_nextNumber_5 F n))
    unfold kb_X5_nextNumber_5
    exact snd_aload_n (pc := 5) (i := 0) dX5_nextNumber_5 (snd_getf (pc := 6) cls5 (f := 6) (by decide) wd_361 dX5_nextNumber_6 (snd_aload_n (pc := 9) (i := 0) dX5_nextNumber_9 (snd_getf (pc := 10) cls5 (f := 5) (by decide) wd_360 dX5_nextNumber_10 (snd_icmpge (pc := 13) (off := 68) (tgt := 81) (by decide) dX5_nextNumber_13 ((sk_X5_nextNumber_81 F)) (snd_aload_n (pc := 16) (i := 0) dX5_nextNumber_16 (snd_getf (pc := 17) cls5 (f := 4) (by decide) wd_359 dX5_nextNumber_17 (snd_aload_n (pc := 20) (i := 0) dX5_nextNumber_20 (snd_getf (pc := 21) cls5 (f := 6) (by decide) wd_361 dX5_nextNumber_21 (snd_bald (pc := 24) dX5_nextNumber_24 (snd_callS (pc := 25) (n := 1) (s_X5_isDigit F) (by decide) (by decide) wd_671 wd_669 wd_670 wd_124 hy_X5_isDigit dX5_nextNumber_25 (snd_ifeq (pc := 28) (off := 53) (tgt := 81) (by decide) dX5_nextNumber_28 ((sk_X5_nextNumber_81 F)) (snd_aload_n (pc := 31) (i := 0) dX5_nextNumber_31 (snd_getf (pc := 32) cls5 (f := 6) (by decide) wd_361 dX5_nextNumber_32 (snd_aload_n (pc := 35) (i := 0) dX5_nextNumber_35 (snd_getf (pc := 36) cls5 (f := 8) (by decide) wd_363 dX5_nextNumber_36 (snd_isub (pc := 39) dX5_nextNumber_39 (snd_iconst (pc := 40) dX5_nextNumber_40 (snd_icmpge (pc := 41) (off := 27) (tgt := 68) (by decide) dX5_nextNumber_41 ((sk_X5_nextNumber_68 F ih)) (snd_aload_n (pc := 44) (i := 0) dX5_nextNumber_44 (snd_aload_n (pc := 45) (i := 0) dX5_nextNumber_45 (snd_getf (pc := 46) cls5 (f := 9) (by decide) wd_364 dX5_nextNumber_46 (snd_bipush (pc := 49) (by decide) dX5_nextNumber_49 (snd_imul (pc := 51) dX5_nextNumber_51 (snd_aload_n (pc := 52) (i := 0) dX5_nextNumber_52 (snd_getf (pc := 53) cls5 (f := 4) (by decide) wd_359 dX5_nextNumber_53 (snd_aload_n (pc := 56) (i := 0) dX5_nextNumber_56 (snd_getf (pc := 57) cls5 (f := 6) (by decide) wd_361 dX5_nextNumber_57 (snd_bald (pc := 60) dX5_nextNumber_60 (snd_iadd (pc := 61) dX5_nextNumber_61 (snd_bipush (pc := 62) (by decide) dX5_nextNumber_62 (snd_isub (pc := 64) dX5_nextNumber_64 (snd_putf (pc := 65) cls5 (f := 9) (by decide) rfl rfl rfl wd_364 dX5_nextNumber_65 ((sk_X5_nextNumber_68 F ih))))))))))))))))))))))))))))))))))
noncomputable def k_X5_nextNumber (F : Nat) : AK := ak_aload 0 (ak_push (vI 0) (ak_putf 5 9 ((k_X5_nextNumber_5 F F))))
noncomputable def m_X5_nextNumber (F : Nat) : AF := mkF 0 1 (k_X5_nextNumber F)
set_option maxRecDepth 20000 in
theorem s_X5_nextNumber (F : Nat) : MA yX5_nextNumber cX5_nextNumber 1 none 1 (m_X5_nextNumber F) := met_of (Or.inl ⟨rfl, rfl⟩) (by decide) (by
  unfold k_X5_nextNumber
  exact snd_aload_n (pc := 0) (i := 0) dX5_nextNumber_0 (snd_iconst (pc := 1) dX5_nextNumber_1 (snd_putf (pc := 2) cls5 (f := 9) (by decide) rfl rfl rfl wd_364 dX5_nextNumber_2 ((sk_X5_nextNumber_5 F F)))))

/-! LastWalker$Reader.next()V -/
theorem dX5_next_0 : decode cX5_next 0 = .ok (.aload_n 0, 1) := by decide +kernel
theorem dX5_next_1 : decode cX5_next 1 = .ok (.getfield 70, 3) := by decide +kernel
theorem dX5_next_4 : decode cX5_next 4 = .ok (.aload_n 0, 1) := by decide +kernel
theorem dX5_next_5 : decode cX5_next 5 = .ok (.getfield 55, 3) := by decide +kernel
theorem dX5_next_8 : decode cX5_next 8 = .ok (.if_icmp .ge 31, 3) := by decide +kernel
theorem dX5_next_11 : decode cX5_next 11 = .ok (.aload_n 0, 1) := by decide +kernel
theorem dX5_next_12 : decode cX5_next 12 = .ok (.getfield 25, 3) := by decide +kernel
theorem dX5_next_15 : decode cX5_next 15 = .ok (.aload_n 0, 1) := by decide +kernel
theorem dX5_next_16 : decode cX5_next 16 = .ok (.getfield 70, 3) := by decide +kernel
theorem dX5_next_19 : decode cX5_next 19 = .ok (.baload, 1) := by decide +kernel
theorem dX5_next_20 : decode cX5_next 20 = .ok (.invokestatic 153, 3) := by decide +kernel
theorem dX5_next_23 : decode cX5_next 23 = .ok (.ifCond .eq 16, 3) := by decide +kernel
theorem dX5_next_26 : decode cX5_next 26 = .ok (.aload_n 0, 1) := by decide +kernel
theorem dX5_next_27 : decode cX5_next 27 = .ok (.dup, 1) := by decide +kernel
theorem dX5_next_28 : decode cX5_next 28 = .ok (.getfield 70, 3) := by decide +kernel
theorem dX5_next_31 : decode cX5_next 31 = .ok (.iconst 1, 1) := by decide +kernel
theorem dX5_next_32 : decode cX5_next 32 = .ok (.iadd, 1) := by decide +kernel
theorem dX5_next_33 : decode cX5_next 33 = .ok (.putfield 70, 3) := by decide +kernel
theorem dX5_next_36 : decode cX5_next 36 = .ok (.goto (-36), 3) := by decide +kernel
theorem dX5_next_39 : decode cX5_next 39 = .ok (.aload_n 0, 1) := by decide +kernel
theorem dX5_next_40 : decode cX5_next 40 = .ok (.aload_n 0, 1) := by decide +kernel
theorem dX5_next_41 : decode cX5_next 41 = .ok (.getfield 70, 3) := by decide +kernel
theorem dX5_next_44 : decode cX5_next 44 = .ok (.putfield 89, 3) := by decide +kernel
theorem dX5_next_47 : decode cX5_next 47 = .ok (.aload_n 0, 1) := by decide +kernel
theorem dX5_next_48 : decode cX5_next 48 = .ok (.getfield 70, 3) := by decide +kernel
theorem dX5_next_51 : decode cX5_next 51 = .ok (.aload_n 0, 1) := by decide +kernel
theorem dX5_next_52 : decode cX5_next 52 = .ok (.getfield 55, 3) := by decide +kernel
theorem dX5_next_55 : decode cX5_next 55 = .ok (.if_icmp .lt 11, 3) := by decide +kernel
theorem dX5_next_58 : decode cX5_next 58 = .ok (.aload_n 0, 1) := by decide +kernel
theorem dX5_next_59 : decode cX5_next 59 = .ok (.iconst 0, 1) := by decide +kernel
theorem dX5_next_60 : decode cX5_next 60 = .ok (.putfield 79, 3) := by decide +kernel
theorem dX5_next_63 : decode cX5_next 63 = .ok (.goto 84, 3) := by decide +kernel
theorem dX5_next_66 : decode cX5_next 66 = .ok (.aload_n 0, 1) := by decide +kernel
theorem dX5_next_67 : decode cX5_next 67 = .ok (.getfield 25, 3) := by decide +kernel
theorem dX5_next_70 : decode cX5_next 70 = .ok (.aload_n 0, 1) := by decide +kernel
theorem dX5_next_71 : decode cX5_next 71 = .ok (.getfield 70, 3) := by decide +kernel
theorem dX5_next_74 : decode cX5_next 74 = .ok (.baload, 1) := by decide +kernel
theorem dX5_next_75 : decode cX5_next 75 = .ok (.invokestatic 156, 3) := by decide +kernel
theorem dX5_next_78 : decode cX5_next 78 = .ok (.ifCond .eq 10, 3) := by decide +kernel
theorem dX5_next_81 : decode cX5_next 81 = .ok (.aload_n 0, 1) := by decide +kernel
theorem dX5_next_82 : decode cX5_next 82 = .ok (.invokevirtual 159, 3) := by decide +kernel
theorem dX5_next_85 : decode cX5_next 85 = .ok (.goto 62, 3) := by decide +kernel
theorem dX5_next_88 : decode cX5_next 88 = .ok (.aload_n 0, 1) := by decide +kernel
theorem dX5_next_89 : decode cX5_next 89 = .ok (.getfield 25, 3) := by decide +kernel
theorem dX5_next_92 : decode cX5_next 92 = .ok (.aload_n 0, 1) := by decide +kernel
theorem dX5_next_93 : decode cX5_next 93 = .ok (.getfield 70, 3) := by decide +kernel
theorem dX5_next_96 : decode cX5_next 96 = .ok (.baload, 1) := by decide +kernel
theorem dX5_next_97 : decode cX5_next 97 = .ok (.invokestatic 162, 3) := by decide +kernel
theorem dX5_next_100 : decode cX5_next 100 = .ok (.ifCond .eq 10, 3) := by decide +kernel
theorem dX5_next_103 : decode cX5_next 103 = .ok (.aload_n 0, 1) := by decide +kernel
theorem dX5_next_104 : decode cX5_next 104 = .ok (.invokevirtual 165, 3) := by decide +kernel
theorem dX5_next_107 : decode cX5_next 107 = .ok (.goto 40, 3) := by decide +kernel
theorem dX5_next_110 : decode cX5_next 110 = .ok (.aload_n 0, 1) := by decide +kernel
theorem dX5_next_111 : decode cX5_next 111 = .ok (.getfield 25, 3) := by decide +kernel
theorem dX5_next_114 : decode cX5_next 114 = .ok (.aload_n 0, 1) := by decide +kernel
theorem dX5_next_115 : decode cX5_next 115 = .ok (.getfield 70, 3) := by decide +kernel
theorem dX5_next_118 : decode cX5_next 118 = .ok (.baload, 1) := by decide +kernel
theorem dX5_next_119 : decode cX5_next 119 = .ok (.bipush 59, 2) := by decide +kernel
theorem dX5_next_121 : decode cX5_next 121 = .ok (.if_icmp .ne 21, 3) := by decide +kernel
theorem dX5_next_124 : decode cX5_next 124 = .ok (.aload_n 0, 1) := by decide +kernel
theorem dX5_next_125 : decode cX5_next 125 = .ok (.iconst 3, 1) := by decide +kernel
theorem dX5_next_126 : decode cX5_next 126 = .ok (.putfield 79, 3) := by decide +kernel
theorem dX5_next_129 : decode cX5_next 129 = .ok (.aload_n 0, 1) := by decide +kernel
theorem dX5_next_130 : decode cX5_next 130 = .ok (.dup, 1) := by decide +kernel
theorem dX5_next_131 : decode cX5_next 131 = .ok (.getfield 70, 3) := by decide +kernel
theorem dX5_next_134 : decode cX5_next 134 = .ok (.iconst 1, 1) := by decide +kernel
theorem dX5_next_135 : decode cX5_next 135 = .ok (.iadd, 1) := by decide +kernel
theorem dX5_next_136 : decode cX5_next 136 = .ok (.putfield 70, 3) := by decide +kernel
theorem dX5_next_139 : decode cX5_next 139 = .ok (.goto 8, 3) := by decide +kernel
theorem dX5_next_142 : decode cX5_next 142 = .ok (.aload_n 0, 1) := by decide +kernel
theorem dX5_next_143 : decode cX5_next 143 = .ok (.iconst 4, 1) := by decide +kernel
theorem dX5_next_144 : decode cX5_next 144 = .ok (.putfield 79, 3) := by decide +kernel
theorem dX5_next_147 : decode cX5_next 147 = .ok (.return_, 1) := by decide +kernel
noncomputable def k_X5_next_39 (F : Nat) : AK := ak_aload 0 (ak_aload 0 (ak_getf 5 6 (ak_putf 5 8 (ak_aload 0 (ak_getf 5 6 (ak_aload 0 (ak_getf 5 5 (ak_cmplt (ak_aload 0 (ak_getf 5 4 (ak_aload 0 (ak_getf 5 6 (ak_bald (ak_call 1 (m_X5_isLetter F) (ak_ifeq (ak_aload 0 (ak_getf 5 4 (ak_aload 0 (ak_getf 5 6 (ak_bald (ak_call 1 (m_X5_isDigit F) (ak_ifeq (ak_aload 0 (ak_getf 5 4 (ak_aload 0 (ak_getf 5 6 (ak_bald (ak_push (vI 59) (ak_cmpeq (ak_aload 0 (ak_push (vI 3) (ak_putf 5 7 (ak_aload 0 (ak_dup (ak_getf 5 6 (ak_push (vI 1) (ak_iadd (ak_putf 5 6 ak_return))))))))) (ak_aload 0 (ak_push (vI 4) (ak_putf 5 7 ak_return)))))))))) (ak_aload 0 (ak_callv 5 0 (m_X5_nextNumber F) ak_return))))))))) (ak_aload 0 (ak_callv 5 0 (m_X5_nextWord F) ak_return))))))))) (ak_aload 0 (ak_push (vI 0) (ak_putf 5 7 ak_return)))))))))))
set_option maxRecDepth 20000 in
theorem sk_X5_next_39 (F : Nat) : Snd X0 RX5 cX5_next 1 2 39 (k_X5_next_39 F) := by
  unfold k_X5_next_39
  exact snd_aload_n (pc := 39) (i := 0) dX5_next_39 (snd_aload_n (pc := 40) (i := 0) dX5_next_40 (snd_getf (pc := 41) cls5 (f := 6) (by decide) wd_361 dX5_next_41 (snd_putf (pc := 44) cls5 (f := 8) (by decide) rfl rfl rfl wd_363 dX5_next_44 (snd_aload_n (pc := 47) (i := 0) dX5_next_47 (snd_getf (pc := 48) cls5 (f := 6) (by decide) wd_361 dX5_next_48 (snd_aload_n (pc := 51) (i := 0) dX5_next_51 (snd_getf (pc := 52) cls5 (f := 5) (by decide) wd_360 dX5_next_52 (snd_icmplt (pc := 55) (off := 11) (tgt := 66) (by decide) dX5_next_55 (snd_aload_n (pc := 66) (i := 0) dX5_next_66 (snd_getf (pc := 67) cls5 (f := 4) (by decide) wd_359 dX5_next_67 (snd_aload_n (pc := 70) (i := 0) dX5_next_70 (snd_getf (pc := 71) cls5 (f := 6) (by decide) wd_361 dX5_next_71 (snd_bald (pc := 74) dX5_next_74 (snd_callS (pc := 75) (n := 1) (s_X5_isLetter F) (by decide) (by decide) wd_664 wd_662 wd_663 wd_124 hy_X5_isLetter dX5_next_75 (snd_ifeq (pc := 78) (off := 10) (tgt := 88) (by decide) dX5_next_78 (snd_aload_n (pc := 88) (i := 0) dX5_next_88 (snd_getf (pc := 89) cls5 (f := 4) (by decide) wd_359 dX5_next_89 (snd_aload_n (pc := 92) (i := 0) dX5_next_92 (snd_getf (pc := 93) cls5 (f := 6) (by decide) wd_361 dX5_next_93 (snd_bald (pc := 96) dX5_next_96 (snd_callS (pc := 97) (n := 1) (s_X5_isDigit F) (by decide) (by decide) wd_671 wd_669 wd_670 wd_124 hy_X5_isDigit dX5_next_97 (snd_ifeq (pc := 100) (off := 10) (tgt := 110) (by decide) dX5_next_100 (snd_aload_n (pc := 110) (i := 0) dX5_next_110 (snd_getf (pc := 111) cls5 (f := 4) (by decide) wd_359 dX5_next_111 (snd_aload_n (pc := 114) (i := 0) dX5_next_114 (snd_getf (pc := 115) cls5 (f := 6) (by decide) wd_361 dX5_next_115 (snd_bald (pc := 118) dX5_next_118 (snd_bipush (pc := 119) (by decide) dX5_next_119 (snd_icmpne (pc := 121) (off := 21) (tgt := 142) (by decide) dX5_next_121 (snd_aload_n (pc := 142) (i := 0) dX5_next_142 (snd_iconst (pc := 143) dX5_next_143 (snd_putf (pc := 144) cls5 (f := 7) (by decide) rfl rfl rfl wd_362 dX5_next_144 (snd_return dX5_next_147)))) (snd_aload_n (pc := 124) (i := 0) dX5_next_124 (snd_iconst (pc := 125) dX5_next_125 (snd_putf (pc := 126) cls5 (f := 7) (by decide) rfl rfl rfl wd_362 dX5_next_126 (snd_aload_n (pc := 129) (i := 0) dX5_next_129 (snd_dup (pc := 130) dX5_next_130 (snd_getf (pc := 131) cls5 (f := 6) (by decide) wd_361 dX5_next_131 (snd_iconst (pc := 134) dX5_next_134 (snd_iadd (pc := 135) dX5_next_135 (snd_putf (pc := 136) cls5 (f := 6) (by decide) rfl rfl rfl wd_361 dX5_next_136 (snd_goto (pc := 139) (off := 8) (tgt := 147) (by decide) dX5_next_139 (snd_return dX5_next_147)))))))))))))))))) (snd_aload_n (pc := 103) (i := 0) dX5_next_103 (snd_callV (pc := 104) (n := 0) cls5 (s_X5_nextNumber F) (by decide) (by decide) wd_675 wd_672 wd_674 wd_5 wd_124 hy_X5_nextNumber dX5_next_104 (snd_goto (pc := 107) (off := 40) (tgt := 147) (by decide) dX5_next_107 (snd_return dX5_next_147))))))))))) (snd_aload_n (pc := 81) (i := 0) dX5_next_81 (snd_callV (pc := 82) (n := 0) cls5 (s_X5_nextWord F) (by decide) (by decide) wd_668 wd_665 wd_667 wd_4 wd_124 hy_X5_nextWord dX5_next_82 (snd_goto (pc := 85) (off := 62) (tgt := 147) (by decide) dX5_next_85 (snd_return dX5_next_147))))))))))) (snd_aload_n (pc := 58) (i := 0) dX5_next_58 (snd_iconst (pc := 59) dX5_next_59 (snd_putf (pc := 60) cls5 (f := 7) (by decide) rfl rfl rfl wd_362 dX5_next_60 (snd_goto (pc := 63) (off := 84) (tgt := 147) (by decide) dX5_next_63 (snd_return dX5_next_147)))))))))))))
noncomputable def kb_X5_next_0 (F : Nat) (self : AK) : AK := ak_aload 0 (ak_getf 5 6 (ak_aload 0 (ak_getf 5 5 (ak_cmplt (ak_aload 0 (ak_getf 5 4 (ak_aload 0 (ak_getf 5 6 (ak_bald (ak_call 1 (m_X5_isBlank F) (ak_ifeq ((k_X5_next_39 F)) (ak_aload 0 (ak_dup (ak_getf 5 6 (ak_push (vI 1) (ak_iadd (ak_putf 5 6 self))))))))))))) ((k_X5_next_39 F))))))
noncomputable def k_X5_next_0 (F : Nat) (n : Nat) : AK := Nat.rec (motive := fun _ => AK) ak_none (fun _ self => kb_X5_next_0 F self) n
set_option maxRecDepth 20000 in
theorem sk_X5_next_0 (F : Nat) : ∀ n, Snd X0 RX5 cX5_next 1 2 0 (k_X5_next_0 F n) := by
  intro n
  induction n with
  | zero => exact snd_none
  | succ n ih =>
    show Snd X0 RX5 cX5_next 1 2 0 (kb_X5_next_0 F (k_X5_next_0 F n))
    unfold kb_X5_next_0
    exact snd_aload_n (pc := 0) (i := 0) dX5_next_0 (snd_getf (pc := 1) cls5 (f := 6) (by decide) wd_361 dX5_next_1 (snd_aload_n (pc := 4) (i := 0) dX5_next_4 (snd_getf (pc := 5) cls5 (f := 5) (by decide) wd_360 dX5_next_5 (snd_icmpge (pc := 8) (off := 31) (tgt := 39) (by decide) dX5_next_8 ((sk_X5_next_39 F)) (snd_aload_n (pc := 11) (i := 0) dX5_next_11 (snd_getf (pc := 12) cls5 (f := 4) (by decide) wd_359 dX5_next_12 (snd_aload_n (pc := 15) (i := 0) dX5_next_15 (snd_getf (pc := 16) cls5 (f := 6) (by decide) wd_361 dX5_next_16 (snd_bald (pc := 19) dX5_next_19 (snd_callS (pc := 20) (n := 1) (s_X5_isBlank F) (by decide) (by decide) wd_661 wd_659 wd_660 wd_124 hy_X5_isBlank dX5_next_20 (snd_ifeq (pc := 23) (off := 16) (tgt := 39) (by decide) dX5_next_23 ((sk_X5_next_39 F)) (snd_aload_n (pc := 26) (i := 0) dX5_next_26 (snd_dup (pc := 27) dX5_next_27 (snd_getf (pc := 28) cls5 (f := 6) (by decide) wd_361 dX5_next_28 (snd_iconst (pc := 31) dX5_next_31 (snd_iadd (pc := 32) dX5_next_32 (snd_putf (pc := 33) cls5 (f := 6) (by decide) rfl rfl rfl wd_361 dX5_next_33 (snd_goto (pc := 36) (off := (-36)) (tgt := 0) (by decide) dX5_next_36 (ih)))))))))))))))))))
noncomputable def k_X5_next (F : Nat) : AK := (k_X5_next_0 F F)
noncomputable def m_X5_next (F : Nat) : AF := mkF 0 1 (k_X5_next F)
set_option maxRecDepth 20000 in
theorem s_X5_next (F : Nat) : MA yX5_next cX5_next 1 none 2 (m_X5_next F) := met_of (Or.inl ⟨rfl, rfl⟩) (by decide) (by
  unfold k_X5_next
  exact (sk_X5_next_0 F F))

/-! LastWalker$Reader.wordOf(I)Ljava/lang/String; -/
theorem dX5_wordOf_0 : decode cX5_wordOf 0 = .ok (.iload_n 0, 1) := by decide +kernel
theorem dX5_wordOf_1 : decode cX5_wordOf 1 = .ok (.tableswitch 106 0 12 #[67, 70, 73, 76, 79, 82, 85, 88, 91, 94, 97, 100, 103], 67) := by decide +kernel
theorem dX5_wordOf_68 : decode cX5_wordOf 68 = .ok (.ldc 110, 2) := by decide +kernel
theorem dX5_wordOf_70 : decode cX5_wordOf 70 = .ok (.areturn, 1) := by decide +kernel
theorem dX5_wordOf_71 : decode cX5_wordOf 71 = .ok (.ldc 112, 2) := by decide +kernel
theorem dX5_wordOf_73 : decode cX5_wordOf 73 = .ok (.areturn, 1) := by decide +kernel
theorem dX5_wordOf_74 : decode cX5_wordOf 74 = .ok (.ldc 114, 2) := by decide +kernel
theorem dX5_wordOf_76 : decode cX5_wordOf 76 = .ok (.areturn, 1) := by decide +kernel
theorem dX5_wordOf_77 : decode cX5_wordOf 77 = .ok (.ldc 116, 2) := by decide +kernel
theorem dX5_wordOf_79 : decode cX5_wordOf 79 = .ok (.areturn, 1) := by decide +kernel
theorem dX5_wordOf_80 : decode cX5_wordOf 80 = .ok (.ldc 118, 2) := by decide +kernel
theorem dX5_wordOf_82 : decode cX5_wordOf 82 = .ok (.areturn, 1) := by decide +kernel
theorem dX5_wordOf_83 : decode cX5_wordOf 83 = .ok (.ldc 120, 2) := by decide +kernel
theorem dX5_wordOf_85 : decode cX5_wordOf 85 = .ok (.areturn, 1) := by decide +kernel
theorem dX5_wordOf_86 : decode cX5_wordOf 86 = .ok (.ldc 122, 2) := by decide +kernel
theorem dX5_wordOf_88 : decode cX5_wordOf 88 = .ok (.areturn, 1) := by decide +kernel
theorem dX5_wordOf_89 : decode cX5_wordOf 89 = .ok (.ldc 124, 2) := by decide +kernel
theorem dX5_wordOf_91 : decode cX5_wordOf 91 = .ok (.areturn, 1) := by decide +kernel
theorem dX5_wordOf_92 : decode cX5_wordOf 92 = .ok (.ldc 126, 2) := by decide +kernel
theorem dX5_wordOf_94 : decode cX5_wordOf 94 = .ok (.areturn, 1) := by decide +kernel
theorem dX5_wordOf_95 : decode cX5_wordOf 95 = .ok (.ldc 128, 2) := by decide +kernel
theorem dX5_wordOf_97 : decode cX5_wordOf 97 = .ok (.areturn, 1) := by decide +kernel
theorem dX5_wordOf_98 : decode cX5_wordOf 98 = .ok (.ldc 130, 2) := by decide +kernel
theorem dX5_wordOf_100 : decode cX5_wordOf 100 = .ok (.areturn, 1) := by decide +kernel
theorem dX5_wordOf_101 : decode cX5_wordOf 101 = .ok (.ldc 132, 2) := by decide +kernel
theorem dX5_wordOf_103 : decode cX5_wordOf 103 = .ok (.areturn, 1) := by decide +kernel
theorem dX5_wordOf_104 : decode cX5_wordOf 104 = .ok (.ldc 134, 2) := by decide +kernel
theorem dX5_wordOf_106 : decode cX5_wordOf 106 = .ok (.areturn, 1) := by decide +kernel
theorem dX5_wordOf_107 : decode cX5_wordOf 107 = .ok (.ldc 136, 2) := by decide +kernel
theorem dX5_wordOf_109 : decode cX5_wordOf 109 = .ok (.areturn, 1) := by decide +kernel
noncomputable def k_X5_wordOf (F : Nat) : AK := ak_iload 0 (ak_switch 0 [ak_push (vR (310 + 0)) ak_areturn, ak_push (vR (310 + 1)) ak_areturn, ak_push (vR (310 + 2)) ak_areturn, ak_push (vR (310 + 3)) ak_areturn, ak_push (vR (310 + 4)) ak_areturn, ak_push (vR (310 + 5)) ak_areturn, ak_push (vR (310 + 6)) ak_areturn, ak_push (vR (310 + 7)) ak_areturn, ak_push (vR (310 + 8)) ak_areturn, ak_push (vR (310 + 9)) ak_areturn, ak_push (vR (310 + 10)) ak_areturn, ak_push (vR (310 + 11)) ak_areturn, ak_push (vR (310 + 12)) ak_areturn] (ak_push (vR (310 + 13)) ak_areturn))
noncomputable def m_X5_wordOf (F : Nat) : AF := mkF 5 1 (k_X5_wordOf F)
set_option maxRecDepth 20000 in
theorem s_X5_wordOf (F : Nat) : MA yX5_wordOf cX5_wordOf 1 (some (.object "java/lang/String")) 0 (m_X5_wordOf F) := met_of (Or.inr (Or.inr (Or.inr (Or.inr (Or.inr ⟨rfl, Or.inl ⟨_, rfl⟩⟩))))) (by decide) (by
  unfold k_X5_wordOf
  exact snd_iload_n (pc := 0) (i := 0) dX5_wordOf_0 (snd_switchL (pc := 1) (ol := [67, 70, 73, 76, 79, 82, 85, 88, 91, 94, 97, 100, 103]) (tgd := 107) dX5_wordOf_1 rfl (by decide) (snd_ldcS (pc := 107) (i := 13) (by decide) (by decide) dX5_wordOf_107 (snd_areturn dX5_wordOf_109)) (sw_cons (o := 67) (tgt := 68) (by decide) (snd_ldcS (pc := 68) (i := 0) (by decide) (by decide) dX5_wordOf_68 (snd_areturn dX5_wordOf_70)) (sw_cons (o := 70) (tgt := 71) (by decide) (snd_ldcS (pc := 71) (i := 1) (by decide) (by decide) dX5_wordOf_71 (snd_areturn dX5_wordOf_73)) (sw_cons (o := 73) (tgt := 74) (by decide) (snd_ldcS (pc := 74) (i := 2) (by decide) (by decide) dX5_wordOf_74 (snd_areturn dX5_wordOf_76)) (sw_cons (o := 76) (tgt := 77) (by decide) (snd_ldcS (pc := 77) (i := 3) (by decide) (by decide) dX5_wordOf_77 (snd_areturn dX5_wordOf_79)) (sw_cons (o := 79) (tgt := 80) (by decide) (snd_ldcS (pc := 80) (i := 4) (by decide) (by decide) dX5_wordOf_80 (snd_areturn dX5_wordOf_82)) (sw_cons (o := 82) (tgt := 83) (by decide) (snd_ldcS (pc := 83) (i := 5) (by decide) (by decide) dX5_wordOf_83 (snd_areturn dX5_wordOf_85)) (sw_cons (o := 85) (tgt := 86) (by decide) (snd_ldcS (pc := 86) (i := 6) (by decide) (by decide) dX5_wordOf_86 (snd_areturn dX5_wordOf_88)) (sw_cons (o := 88) (tgt := 89) (by decide) (snd_ldcS (pc := 89) (i := 7) (by decide) (by decide) dX5_wordOf_89 (snd_areturn dX5_wordOf_91)) (sw_cons (o := 91) (tgt := 92) (by decide) (snd_ldcS (pc := 92) (i := 8) (by decide) (by decide) dX5_wordOf_92 (snd_areturn dX5_wordOf_94)) (sw_cons (o := 94) (tgt := 95) (by decide) (snd_ldcS (pc := 95) (i := 9) (by decide) (by decide) dX5_wordOf_95 (snd_areturn dX5_wordOf_97)) (sw_cons (o := 97) (tgt := 98) (by decide) (snd_ldcS (pc := 98) (i := 10) (by decide) (by decide) dX5_wordOf_98 (snd_areturn dX5_wordOf_100)) (sw_cons (o := 100) (tgt := 101) (by decide) (snd_ldcS (pc := 101) (i := 11) (by decide) (by decide) dX5_wordOf_101 (snd_areturn dX5_wordOf_103)) (sw_cons (o := 103) (tgt := 104) (by decide) (snd_ldcS (pc := 104) (i := 12) (by decide) (by decide) dX5_wordOf_104 (snd_areturn dX5_wordOf_106)) (sw_nil))))))))))))))))

/-! LastWalker$Reader.isWord(Ljava/lang/String;)Z -/
theorem dX5_isWord_0 : decode cX5_isWord 0 = .ok (.aload_n 0, 1) := by decide +kernel
theorem dX5_isWord_1 : decode cX5_isWord 1 = .ok (.getfield 70, 3) := by decide +kernel
theorem dX5_isWord_4 : decode cX5_isWord 4 = .ok (.aload_n 0, 1) := by decide +kernel
theorem dX5_isWord_5 : decode cX5_isWord 5 = .ok (.getfield 89, 3) := by decide +kernel
theorem dX5_isWord_8 : decode cX5_isWord 8 = .ok (.isub, 1) := by decide +kernel
theorem dX5_isWord_9 : decode cX5_isWord 9 = .ok (.aload_n 1, 1) := by decide +kernel
theorem dX5_isWord_10 : decode cX5_isWord 10 = .ok (.invokevirtual 138, 3) := by decide +kernel
theorem dX5_isWord_13 : decode cX5_isWord 13 = .ok (.if_icmp .eq 5, 3) := by decide +kernel
theorem dX5_isWord_16 : decode cX5_isWord 16 = .ok (.iconst 0, 1) := by decide +kernel
theorem dX5_isWord_17 : decode cX5_isWord 17 = .ok (.ireturn, 1) := by decide +kernel
theorem dX5_isWord_18 : decode cX5_isWord 18 = .ok (.iconst 0, 1) := by decide +kernel
theorem dX5_isWord_19 : decode cX5_isWord 19 = .ok (.istore_n 2, 1) := by decide +kernel
theorem dX5_isWord_20 : decode cX5_isWord 20 = .ok (.iload_n 2, 1) := by decide +kernel
theorem dX5_isWord_21 : decode cX5_isWord 21 = .ok (.aload_n 1, 1) := by decide +kernel
theorem dX5_isWord_22 : decode cX5_isWord 22 = .ok (.invokevirtual 138, 3) := by decide +kernel
theorem dX5_isWord_25 : decode cX5_isWord 25 = .ok (.if_icmp .ge 30, 3) := by decide +kernel
theorem dX5_isWord_28 : decode cX5_isWord 28 = .ok (.aload_n 0, 1) := by decide +kernel
theorem dX5_isWord_29 : decode cX5_isWord 29 = .ok (.getfield 25, 3) := by decide +kernel
theorem dX5_isWord_32 : decode cX5_isWord 32 = .ok (.aload_n 0, 1) := by decide +kernel
theorem dX5_isWord_33 : decode cX5_isWord 33 = .ok (.getfield 89, 3) := by decide +kernel
theorem dX5_isWord_36 : decode cX5_isWord 36 = .ok (.iload_n 2, 1) := by decide +kernel
theorem dX5_isWord_37 : decode cX5_isWord 37 = .ok (.iadd, 1) := by decide +kernel
theorem dX5_isWord_38 : decode cX5_isWord 38 = .ok (.baload, 1) := by decide +kernel
theorem dX5_isWord_39 : decode cX5_isWord 39 = .ok (.aload_n 1, 1) := by decide +kernel
theorem dX5_isWord_40 : decode cX5_isWord 40 = .ok (.iload_n 2, 1) := by decide +kernel
theorem dX5_isWord_41 : decode cX5_isWord 41 = .ok (.invokevirtual 143, 3) := by decide +kernel
theorem dX5_isWord_44 : decode cX5_isWord 44 = .ok (.if_icmp .eq 5, 3) := by decide +kernel
theorem dX5_isWord_47 : decode cX5_isWord 47 = .ok (.iconst 0, 1) := by decide +kernel
theorem dX5_isWord_48 : decode cX5_isWord 48 = .ok (.ireturn, 1) := by decide +kernel
theorem dX5_isWord_49 : decode cX5_isWord 49 = .ok (.iinc 2 1, 3) := by decide +kernel
theorem dX5_isWord_52 : decode cX5_isWord 52 = .ok (.goto (-32), 3) := by decide +kernel
theorem dX5_isWord_55 : decode cX5_isWord 55 = .ok (.iconst 1, 1) := by decide +kernel
theorem dX5_isWord_56 : decode cX5_isWord 56 = .ok (.ireturn, 1) := by decide +kernel
noncomputable def kb_X5_isWord_20 (F : Nat) (self : AK) : AK := ak_iload 2 (ak_aload 1 (ak_callx 0 (m_J0_length_8abf5 F) (ak_cmplt (ak_aload 0 (ak_getf 5 4 (ak_aload 0 (ak_getf 5 8 (ak_iload 2 (ak_iadd (ak_bald (ak_aload 1 (ak_iload 2 (ak_callx 1 (m_J0_charAt_5068e F) (ak_cmpeq (ak_iinc 2 1 self) (ak_push (vI 0) ak_ireturn)))))))))))) (ak_push (vI 1) ak_ireturn))))
noncomputable def k_X5_isWord_20 (F : Nat) (n : Nat) : AK := Nat.rec (motive := fun _ => AK) ak_none (fun _ self => kb_X5_isWord_20 F self) n
set_option maxRecDepth 20000 in
theorem sk_X5_isWord_20 (F : Nat) : ∀ n, Snd X0 RX5 cX5_isWord 3 4 20 (k_X5_isWord_20 F n) := by
  intro n
  induction n with
  | zero => exact snd_none
  | succ n ih =>
    show Snd X0 RX5 cX5_isWord 3 4 20 (kb_X5_isWord_20 F (k_X5_isWord_20 F n))
    unfold kb_X5_isWord_20
    exact snd_iload_n (pc := 20) (i := 2) dX5_isWord_20 (snd_aload_n (pc := 21) (i := 1) dX5_isWord_21 (snd_callX (pc := 22) (n := 0) (s_J0_length_8abf5 F) (by decide) (by decide) wd_704 wd_701 wd_702 wd_703 wd_132 hy_J0_length_8abf5 dX5_isWord_22 (snd_icmpge (pc := 25) (off := 30) (tgt := 55) (by decide) dX5_isWord_25 (snd_iconst (pc := 55) dX5_isWord_55 (snd_ireturn dX5_isWord_56)) (snd_aload_n (pc := 28) (i := 0) dX5_isWord_28 (snd_getf (pc := 29) cls5 (f := 4) (by decide) wd_359 dX5_isWord_29 (snd_aload_n (pc := 32) (i := 0) dX5_isWord_32 (snd_getf (pc := 33) cls5 (f := 8) (by decide) wd_363 dX5_isWord_33 (snd_iload_n (pc := 36) (i := 2) dX5_isWord_36 (snd_iadd (pc := 37) dX5_isWord_37 (snd_bald (pc := 38) dX5_isWord_38 (snd_aload_n (pc := 39) (i := 1) dX5_isWord_39 (snd_iload_n (pc := 40) (i := 2) dX5_isWord_40 (snd_callX (pc := 41) (n := 1) (s_J0_charAt_5068e F) (by decide) (by decide) wd_714 wd_711 wd_712 wd_713 wd_132 hy_J0_charAt_5068e dX5_isWord_41 (snd_icmpeq (pc := 44) (off := 5) (tgt := 49) (by decide) dX5_isWord_44 (snd_iinc (pc := 49) (i := 2) (n := 1) (by decide) dX5_isWord_49 (snd_goto (pc := 52) (off := (-32)) (tgt := 20) (by decide) dX5_isWord_52 (ih))) (snd_iconst (pc := 47) dX5_isWord_47 (snd_ireturn dX5_isWord_48))))))))))))))))
noncomputable def k_X5_isWord (F : Nat) : AK := ak_aload 0 (ak_getf 5 6 (ak_aload 0 (ak_getf 5 8 (ak_isub (ak_aload 1 (ak_callx 0 (m_J0_length_8abf5 F) (ak_cmpeq (ak_push (vI 0) (ak_istore 2 ((k_X5_isWord_20 F F)))) (ak_push (vI 0) ak_ireturn))))))))
noncomputable def m_X5_isWord (F : Nat) : AF := mkF 2 3 (k_X5_isWord F)
set_option maxRecDepth 20000 in
theorem s_X5_isWord (F : Nat) : MA yX5_isWord cX5_isWord 3 (some .boolean) 4 (m_X5_isWord F) := met_of (Or.inr (Or.inr (Or.inl ⟨rfl, rfl⟩))) (by decide) (by
  unfold k_X5_isWord
  exact snd_aload_n (pc := 0) (i := 0) dX5_isWord_0 (snd_getf (pc := 1) cls5 (f := 6) (by decide) wd_361 dX5_isWord_1 (snd_aload_n (pc := 4) (i := 0) dX5_isWord_4 (snd_getf (pc := 5) cls5 (f := 8) (by decide) wd_363 dX5_isWord_5 (snd_isub (pc := 8) dX5_isWord_8 (snd_aload_n (pc := 9) (i := 1) dX5_isWord_9 (snd_callX (pc := 10) (n := 0) (s_J0_length_8abf5 F) (by decide) (by decide) wd_704 wd_701 wd_702 wd_703 wd_132 hy_J0_length_8abf5 dX5_isWord_10 (snd_icmpeq (pc := 13) (off := 5) (tgt := 18) (by decide) dX5_isWord_13 (snd_iconst (pc := 18) dX5_isWord_18 (snd_istore_n (pc := 19) (i := 2) (by decide) dX5_isWord_19 ((sk_X5_isWord_20 F F)))) (snd_iconst (pc := 16) dX5_isWord_16 (snd_ireturn dX5_isWord_17))))))))))

/-! LastWalker$Reader.lineOfWord(II)I -/
theorem dX5_lineOfWord_0 : decode cX5_lineOfWord 0 = .ok (.aload_n 0, 1) := by decide +kernel
theorem dX5_lineOfWord_1 : decode cX5_lineOfWord 1 = .ok (.aload_n 0, 1) := by decide +kernel
theorem dX5_lineOfWord_2 : decode cX5_lineOfWord 2 = .ok (.getfield 89, 3) := by decide +kernel
theorem dX5_lineOfWord_5 : decode cX5_lineOfWord 5 = .ok (.putfield 99, 3) := by decide +kernel
theorem dX5_lineOfWord_8 : decode cX5_lineOfWord 8 = .ok (.aload_n 0, 1) := by decide +kernel
theorem dX5_lineOfWord_9 : decode cX5_lineOfWord 9 = .ok (.getfield 79, 3) := by decide +kernel
theorem dX5_lineOfWord_12 : decode cX5_lineOfWord 12 = .ok (.iconst 1, 1) := by decide +kernel
theorem dX5_lineOfWord_13 : decode cX5_lineOfWord 13 = .ok (.if_icmp .eq 5, 3) := by decide +kernel
theorem dX5_lineOfWord_16 : decode cX5_lineOfWord 16 = .ok (.iconst (-1), 1) := by decide +kernel
theorem dX5_lineOfWord_17 : decode cX5_lineOfWord 17 = .ok (.ireturn, 1) := by decide +kernel
theorem dX5_lineOfWord_18 : decode cX5_lineOfWord 18 = .ok (.iload_n 1, 1) := by decide +kernel
theorem dX5_lineOfWord_19 : decode cX5_lineOfWord 19 = .ok (.istore_n 3, 1) := by decide +kernel
theorem dX5_lineOfWord_20 : decode cX5_lineOfWord 20 = .ok (.iload_n 3, 1) := by decide +kernel
theorem dX5_lineOfWord_21 : decode cX5_lineOfWord 21 = .ok (.iload_n 2, 1) := by decide +kernel
theorem dX5_lineOfWord_22 : decode cX5_lineOfWord 22 = .ok (.if_icmp .gt 28, 3) := by decide +kernel
theorem dX5_lineOfWord_25 : decode cX5_lineOfWord 25 = .ok (.iload_n 3, 1) := by decide +kernel
theorem dX5_lineOfWord_26 : decode cX5_lineOfWord 26 = .ok (.bipush 14, 2) := by decide +kernel
theorem dX5_lineOfWord_28 : decode cX5_lineOfWord 28 = .ok (.if_icmp .ge 22, 3) := by decide +kernel
theorem dX5_lineOfWord_31 : decode cX5_lineOfWord 31 = .ok (.aload_n 0, 1) := by decide +kernel
theorem dX5_lineOfWord_32 : decode cX5_lineOfWord 32 = .ok (.iload_n 3, 1) := by decide +kernel
theorem dX5_lineOfWord_33 : decode cX5_lineOfWord 33 = .ok (.invokestatic 102, 3) := by decide +kernel
theorem dX5_lineOfWord_36 : decode cX5_lineOfWord 36 = .ok (.invokevirtual 106, 3) := by decide +kernel
theorem dX5_lineOfWord_39 : decode cX5_lineOfWord 39 = .ok (.ifCond .eq 5, 3) := by decide +kernel
theorem dX5_lineOfWord_42 : decode cX5_lineOfWord 42 = .ok (.iload_n 3, 1) := by decide +kernel
theorem dX5_lineOfWord_43 : decode cX5_lineOfWord 43 = .ok (.ireturn, 1) := by decide +kernel
theorem dX5_lineOfWord_44 : decode cX5_lineOfWord 44 = .ok (.iinc 3 1, 3) := by decide +kernel
theorem dX5_lineOfWord_47 : decode cX5_lineOfWord 47 = .ok (.goto (-27), 3) := by decide +kernel
theorem dX5_lineOfWord_50 : decode cX5_lineOfWord 50 = .ok (.iconst (-1), 1) := by decide +kernel
theorem dX5_lineOfWord_51 : decode cX5_lineOfWord 51 = .ok (.ireturn, 1) := by decide +kernel
noncomputable def kb_X5_lineOfWord_20 (F : Nat) (self : AK) : AK := ak_iload 3 (ak_iload 2 (ak_cmpgt (ak_push (vI (-1)) ak_ireturn) (ak_iload 3 (ak_push (vI 14) (ak_cmplt (ak_aload 0 (ak_iload 3 (ak_call 1 (m_X5_wordOf F) (ak_callv 5 1 (m_X5_isWord F) (ak_ifeq (ak_iinc 3 1 self) (ak_iload 3 ak_ireturn)))))) (ak_push (vI (-1)) ak_ireturn))))))
noncomputable def k_X5_lineOfWord_20 (F : Nat) (n : Nat) : AK := Nat.rec (motive := fun _ => AK) ak_none (fun _ self => kb_X5_lineOfWord_20 F self) n
set_option maxRecDepth 20000 in
theorem sk_X5_lineOfWord_20 (F : Nat) : ∀ n, Snd X0 RX5 cX5_lineOfWord 4 5 20 (k_X5_lineOfWord_20 F n) := by
  intro n
  induction n with
  | zero => exact snd_none
  | succ n ih =>
    show Snd X0 RX5 cX5_lineOfWord 4 5 20 (kb_X5_lineOfWord_20 F (k_X5_lineOfWord_20 F n))
    unfold kb_X5_lineOfWord_20
    exact snd_iload_n (pc := 20) (i := 3) dX5_lineOfWord_20 (snd_iload_n (pc := 21) (i := 2) dX5_lineOfWord_21 (snd_icmpgt (pc := 22) (off := 28) (tgt := 50) (by decide) dX5_lineOfWord_22 (snd_iconst (pc := 50) dX5_lineOfWord_50 (snd_ireturn dX5_lineOfWord_51)) (snd_iload_n (pc := 25) (i := 3) dX5_lineOfWord_25 (snd_bipush (pc := 26) (by decide) dX5_lineOfWord_26 (snd_icmpge (pc := 28) (off := 22) (tgt := 50) (by decide) dX5_lineOfWord_28 (snd_iconst (pc := 50) dX5_lineOfWord_50 (snd_ireturn dX5_lineOfWord_51)) (snd_aload_n (pc := 31) (i := 0) dX5_lineOfWord_31 (snd_iload_n (pc := 32) (i := 3) dX5_lineOfWord_32 (snd_callS (pc := 33) (n := 1) (s_X5_wordOf F) (by decide) (by decide) wd_682 wd_680 wd_681 wd_124 hy_X5_wordOf dX5_lineOfWord_33 (snd_callV (pc := 36) (n := 1) cls5 (s_X5_isWord F) (by decide) (by decide) wd_700 wd_697 wd_699 wd_7 wd_124 hy_X5_isWord dX5_lineOfWord_36 (snd_ifeq (pc := 39) (off := 5) (tgt := 44) (by decide) dX5_lineOfWord_39 (snd_iinc (pc := 44) (i := 3) (n := 1) (by decide) dX5_lineOfWord_44 (snd_goto (pc := 47) (off := (-27)) (tgt := 20) (by decide) dX5_lineOfWord_47 (ih))) (snd_iload_n (pc := 42) (i := 3) dX5_lineOfWord_42 (snd_ireturn dX5_lineOfWord_43))))))))))))
noncomputable def k_X5_lineOfWord (F : Nat) : AK := ak_aload 0 (ak_aload 0 (ak_getf 5 8 (ak_putf 5 10 (ak_aload 0 (ak_getf 5 7 (ak_push (vI 1) (ak_cmpeq (ak_iload 1 (ak_istore 3 ((k_X5_lineOfWord_20 F F)))) (ak_push (vI (-1)) ak_ireturn))))))))
noncomputable def m_X5_lineOfWord (F : Nat) : AF := mkF 1 4 (k_X5_lineOfWord F)
set_option maxRecDepth 20000 in
theorem s_X5_lineOfWord (F : Nat) : MA yX5_lineOfWord cX5_lineOfWord 4 (some .int) 5 (m_X5_lineOfWord F) := met_of (Or.inr (Or.inl ⟨rfl, rfl⟩)) (by decide) (by
  unfold k_X5_lineOfWord
  exact snd_aload_n (pc := 0) (i := 0) dX5_lineOfWord_0 (snd_aload_n (pc := 1) (i := 0) dX5_lineOfWord_1 (snd_getf (pc := 2) cls5 (f := 8) (by decide) wd_363 dX5_lineOfWord_2 (snd_putf (pc := 5) cls5 (f := 10) (by decide) rfl rfl rfl wd_365 dX5_lineOfWord_5 (snd_aload_n (pc := 8) (i := 0) dX5_lineOfWord_8 (snd_getf (pc := 9) cls5 (f := 7) (by decide) wd_362 dX5_lineOfWord_9 (snd_iconst (pc := 12) dX5_lineOfWord_12 (snd_icmpeq (pc := 13) (off := 5) (tgt := 18) (by decide) dX5_lineOfWord_13 (snd_iload_n (pc := 18) (i := 1) dX5_lineOfWord_18 (snd_istore_n (pc := 19) (i := 3) (by decide) dX5_lineOfWord_19 ((sk_X5_lineOfWord_20 F F)))) (snd_iconst (pc := 16) dX5_lineOfWord_16 (snd_ireturn dX5_lineOfWord_17))))))))))

/-! LastWalker$Reader.readNumbers(I)Z -/
theorem dX5_readNumbers_0 : decode cX5_readNumbers 0 = .ok (.getstatic 147, 3) := by decide +kernel
theorem dX5_readNumbers_3 : decode cX5_readNumbers 3 = .ok (.iload_n 1, 1) := by decide +kernel
theorem dX5_readNumbers_4 : decode cX5_readNumbers 4 = .ok (.iaload, 1) := by decide +kernel
theorem dX5_readNumbers_5 : decode cX5_readNumbers 5 = .ok (.istore_n 2, 1) := by decide +kernel
theorem dX5_readNumbers_6 : decode cX5_readNumbers 6 = .ok (.iconst 0, 1) := by decide +kernel
theorem dX5_readNumbers_7 : decode cX5_readNumbers 7 = .ok (.istore_n 3, 1) := by decide +kernel
theorem dX5_readNumbers_8 : decode cX5_readNumbers 8 = .ok (.iload_n 3, 1) := by decide +kernel
theorem dX5_readNumbers_9 : decode cX5_readNumbers 9 = .ok (.iload_n 2, 1) := by decide +kernel
theorem dX5_readNumbers_10 : decode cX5_readNumbers 10 = .ok (.if_icmp .ge 48, 3) := by decide +kernel
theorem dX5_readNumbers_13 : decode cX5_readNumbers 13 = .ok (.iload_n 3, 1) := by decide +kernel
theorem dX5_readNumbers_14 : decode cX5_readNumbers 14 = .ok (.iconst 4, 1) := by decide +kernel
theorem dX5_readNumbers_15 : decode cX5_readNumbers 15 = .ok (.if_icmp .ge 43, 3) := by decide +kernel
theorem dX5_readNumbers_18 : decode cX5_readNumbers 18 = .ok (.aload_n 0, 1) := by decide +kernel
theorem dX5_readNumbers_19 : decode cX5_readNumbers 19 = .ok (.invokevirtual 76, 3) := by decide +kernel
theorem dX5_readNumbers_22 : decode cX5_readNumbers 22 = .ok (.aload_n 0, 1) := by decide +kernel
theorem dX5_readNumbers_23 : decode cX5_readNumbers 23 = .ok (.getfield 79, 3) := by decide +kernel
theorem dX5_readNumbers_26 : decode cX5_readNumbers 26 = .ok (.iconst 2, 1) := by decide +kernel
theorem dX5_readNumbers_27 : decode cX5_readNumbers 27 = .ok (.if_icmp .eq 5, 3) := by decide +kernel
theorem dX5_readNumbers_30 : decode cX5_readNumbers 30 = .ok (.iconst 0, 1) := by decide +kernel
theorem dX5_readNumbers_31 : decode cX5_readNumbers 31 = .ok (.ireturn, 1) := by decide +kernel
theorem dX5_readNumbers_32 : decode cX5_readNumbers 32 = .ok (.aload_n 0, 1) := by decide +kernel
theorem dX5_readNumbers_33 : decode cX5_readNumbers 33 = .ok (.getfield 29, 3) := by decide +kernel
theorem dX5_readNumbers_36 : decode cX5_readNumbers 36 = .ok (.iload_n 3, 1) := by decide +kernel
theorem dX5_readNumbers_37 : decode cX5_readNumbers 37 = .ok (.aload_n 0, 1) := by decide +kernel
theorem dX5_readNumbers_38 : decode cX5_readNumbers 38 = .ok (.getfield 150, 3) := by decide +kernel
theorem dX5_readNumbers_41 : decode cX5_readNumbers 41 = .ok (.iastore, 1) := by decide +kernel
theorem dX5_readNumbers_42 : decode cX5_readNumbers 42 = .ok (.aload_n 0, 1) := by decide +kernel
theorem dX5_readNumbers_43 : decode cX5_readNumbers 43 = .ok (.getfield 33, 3) := by decide +kernel
theorem dX5_readNumbers_46 : decode cX5_readNumbers 46 = .ok (.iload_n 3, 1) := by decide +kernel
theorem dX5_readNumbers_47 : decode cX5_readNumbers 47 = .ok (.aload_n 0, 1) := by decide +kernel
theorem dX5_readNumbers_48 : decode cX5_readNumbers 48 = .ok (.getfield 89, 3) := by decide +kernel
theorem dX5_readNumbers_51 : decode cX5_readNumbers 51 = .ok (.iastore, 1) := by decide +kernel
theorem dX5_readNumbers_52 : decode cX5_readNumbers 52 = .ok (.iinc 3 1, 3) := by decide +kernel
theorem dX5_readNumbers_55 : decode cX5_readNumbers 55 = .ok (.goto (-47), 3) := by decide +kernel
theorem dX5_readNumbers_58 : decode cX5_readNumbers 58 = .ok (.aload_n 0, 1) := by decide +kernel
theorem dX5_readNumbers_59 : decode cX5_readNumbers 59 = .ok (.invokevirtual 76, 3) := by decide +kernel
theorem dX5_readNumbers_62 : decode cX5_readNumbers 62 = .ok (.aload_n 0, 1) := by decide +kernel
theorem dX5_readNumbers_63 : decode cX5_readNumbers 63 = .ok (.getfield 79, 3) := by decide +kernel
theorem dX5_readNumbers_66 : decode cX5_readNumbers 66 = .ok (.iconst 3, 1) := by decide +kernel
theorem dX5_readNumbers_67 : decode cX5_readNumbers 67 = .ok (.if_icmp .ne 7, 3) := by decide +kernel
theorem dX5_readNumbers_70 : decode cX5_readNumbers 70 = .ok (.iconst 1, 1) := by decide +kernel
theorem dX5_readNumbers_71 : decode cX5_readNumbers 71 = .ok (.goto 4, 3) := by decide +kernel
theorem dX5_readNumbers_74 : decode cX5_readNumbers 74 = .ok (.iconst 0, 1) := by decide +kernel
theorem dX5_readNumbers_75 : decode cX5_readNumbers 75 = .ok (.ireturn, 1) := by decide +kernel
noncomputable def k_X5_readNumbers_58 (F : Nat) : AK := ak_aload 0 (ak_callv 5 0 (m_X5_next F) (ak_aload 0 (ak_getf 5 7 (ak_push (vI 3) (ak_cmpeq (ak_push (vI 1) ak_ireturn) (ak_push (vI 0) ak_ireturn))))))
set_option maxRecDepth 20000 in
theorem sk_X5_readNumbers_58 (F : Nat) : Snd X0 RX5 cX5_readNumbers 4 3 58 (k_X5_readNumbers_58 F) := by
  unfold k_X5_readNumbers_58
  exact snd_aload_n (pc := 58) (i := 0) dX5_readNumbers_58 (snd_callV (pc := 59) (n := 0) cls5 (s_X5_next F) (by decide) (by decide) wd_658 wd_655 wd_657 wd_3 wd_124 hy_X5_next dX5_readNumbers_59 (snd_aload_n (pc := 62) (i := 0) dX5_readNumbers_62 (snd_getf (pc := 63) cls5 (f := 7) (by decide) wd_362 dX5_readNumbers_63 (snd_iconst (pc := 66) dX5_readNumbers_66 (snd_icmpne (pc := 67) (off := 7) (tgt := 74) (by decide) dX5_readNumbers_67 (snd_iconst (pc := 74) dX5_readNumbers_74 (snd_ireturn dX5_readNumbers_75)) (snd_iconst (pc := 70) dX5_readNumbers_70 (snd_goto (pc := 71) (off := 4) (tgt := 75) (by decide) dX5_readNumbers_71 (snd_ireturn dX5_readNumbers_75))))))))
noncomputable def kb_X5_readNumbers_8 (F : Nat) (self : AK) : AK := ak_iload 3 (ak_iload 2 (ak_cmplt (ak_iload 3 (ak_push (vI 4) (ak_cmplt (ak_aload 0 (ak_callv 5 0 (m_X5_next F) (ak_aload 0 (ak_getf 5 7 (ak_push (vI 2) (ak_cmpeq (ak_aload 0 (ak_getf 5 11 (ak_iload 3 (ak_aload 0 (ak_getf 5 9 (ak_iast (ak_aload 0 (ak_getf 5 12 (ak_iload 3 (ak_aload 0 (ak_getf 5 8 (ak_iast (ak_iinc 3 1 self))))))))))))) (ak_push (vI 0) ak_ireturn))))))) ((k_X5_readNumbers_58 F))))) ((k_X5_readNumbers_58 F))))
noncomputable def k_X5_readNumbers_8 (F : Nat) (n : Nat) : AK := Nat.rec (motive := fun _ => AK) ak_none (fun _ self => kb_X5_readNumbers_8 F self) n
set_option maxRecDepth 20000 in
theorem sk_X5_readNumbers_8 (F : Nat) : ∀ n, Snd X0 RX5 cX5_readNumbers 4 3 8 (k_X5_readNumbers_8 F n) := by
  intro n
  induction n with
  | zero => exact snd_none
  | succ n ih =>
    show Snd X0 RX5 cX5_readNumbers 4 3 8 (kb_X5_readNumbers_8 F (k_X5_readNumbers_8 F n))
    unfold kb_X5_readNumbers_8
    exact snd_iload_n (pc := 8) (i := 3) dX5_readNumbers_8 (snd_iload_n (pc := 9) (i := 2) dX5_readNumbers_9 (snd_icmpge (pc := 10) (off := 48) (tgt := 58) (by decide) dX5_readNumbers_10 ((sk_X5_readNumbers_58 F)) (snd_iload_n (pc := 13) (i := 3) dX5_readNumbers_13 (snd_iconst (pc := 14) dX5_readNumbers_14 (snd_icmpge (pc := 15) (off := 43) (tgt := 58) (by decide) dX5_readNumbers_15 ((sk_X5_readNumbers_58 F)) (snd_aload_n (pc := 18) (i := 0) dX5_readNumbers_18 (snd_callV (pc := 19) (n := 0) cls5 (s_X5_next F) (by decide) (by decide) wd_658 wd_655 wd_657 wd_3 wd_124 hy_X5_next dX5_readNumbers_19 (snd_aload_n (pc := 22) (i := 0) dX5_readNumbers_22 (snd_getf (pc := 23) cls5 (f := 7) (by decide) wd_362 dX5_readNumbers_23 (snd_iconst (pc := 26) dX5_readNumbers_26 (snd_icmpeq (pc := 27) (off := 5) (tgt := 32) (by decide) dX5_readNumbers_27 (snd_aload_n (pc := 32) (i := 0) dX5_readNumbers_32 (snd_getf (pc := 33) cls5 (f := 11) (by decide) wd_366 dX5_readNumbers_33 (snd_iload_n (pc := 36) (i := 3) dX5_readNumbers_36 (snd_aload_n (pc := 37) (i := 0) dX5_readNumbers_37 (snd_getf (pc := 38) cls5 (f := 9) (by decide) wd_364 dX5_readNumbers_38 (snd_iast (pc := 41) dX5_readNumbers_41 (snd_aload_n (pc := 42) (i := 0) dX5_readNumbers_42 (snd_getf (pc := 43) cls5 (f := 12) (by decide) wd_367 dX5_readNumbers_43 (snd_iload_n (pc := 46) (i := 3) dX5_readNumbers_46 (snd_aload_n (pc := 47) (i := 0) dX5_readNumbers_47 (snd_getf (pc := 48) cls5 (f := 8) (by decide) wd_363 dX5_readNumbers_48 (snd_iast (pc := 51) dX5_readNumbers_51 (snd_iinc (pc := 52) (i := 3) (n := 1) (by decide) dX5_readNumbers_52 (snd_goto (pc := 55) (off := (-47)) (tgt := 8) (by decide) dX5_readNumbers_55 (ih))))))))))))))) (snd_iconst (pc := 30) dX5_readNumbers_30 (snd_ireturn dX5_readNumbers_31)))))))))))))
noncomputable def k_X5_readNumbers (F : Nat) : AK := ak_push (vR (300 + 0)) (ak_iload 1 (ak_iald (ak_istore 2 (ak_push (vI 0) (ak_istore 3 ((k_X5_readNumbers_8 F F)))))))
noncomputable def m_X5_readNumbers (F : Nat) : AF := mkF 2 4 (k_X5_readNumbers F)
set_option maxRecDepth 20000 in
theorem s_X5_readNumbers (F : Nat) : MA yX5_readNumbers cX5_readNumbers 4 (some .boolean) 3 (m_X5_readNumbers F) := met_of (Or.inr (Or.inr (Or.inl ⟨rfl, rfl⟩))) (by decide) (by
  unfold k_X5_readNumbers
  exact snd_gets (pc := 0) (e0 := 0) (by decide) wd_753 dX5_readNumbers_0 (snd_iload_n (pc := 3) (i := 1) dX5_readNumbers_3 (snd_iald (pc := 4) dX5_readNumbers_4 (snd_istore_n (pc := 5) (i := 2) (by decide) dX5_readNumbers_5 (snd_iconst (pc := 6) dX5_readNumbers_6 (snd_istore_n (pc := 7) (i := 3) (by decide) dX5_readNumbers_7 ((sk_X5_readNumbers_8 F F))))))))

/-! LastWalker$Reader.putFault(II)V -/
theorem dX5_putFault_0 : decode cX5_putFault 0 = .ok (.aload_n 0, 1) := by decide +kernel
theorem dX5_putFault_1 : decode cX5_putFault 1 = .ok (.iload_n 1, 1) := by decide +kernel
theorem dX5_putFault_2 : decode cX5_putFault 2 = .ok (.putfield 47, 3) := by decide +kernel
theorem dX5_putFault_5 : decode cX5_putFault 5 = .ok (.aload_n 0, 1) := by decide +kernel
theorem dX5_putFault_6 : decode cX5_putFault 6 = .ok (.iload_n 2, 1) := by decide +kernel
theorem dX5_putFault_7 : decode cX5_putFault 7 = .ok (.putfield 73, 3) := by decide +kernel
theorem dX5_putFault_10 : decode cX5_putFault 10 = .ok (.return_, 1) := by decide +kernel
noncomputable def k_X5_putFault (F : Nat) : AK := ak_aload 0 (ak_iload 1 (ak_putf 5 2 (ak_aload 0 (ak_iload 2 (ak_putf 5 3 ak_return)))))
noncomputable def m_X5_putFault (F : Nat) : AF := mkF 0 3 (k_X5_putFault F)
set_option maxRecDepth 20000 in
theorem s_X5_putFault (F : Nat) : MA yX5_putFault cX5_putFault 3 none 0 (m_X5_putFault F) := met_of (Or.inl ⟨rfl, rfl⟩) (by decide) (by
  unfold k_X5_putFault
  exact snd_aload_n (pc := 0) (i := 0) dX5_putFault_0 (snd_iload_n (pc := 1) (i := 1) dX5_putFault_1 (snd_putf (pc := 2) cls5 (f := 2) (by decide) rfl rfl rfl wd_355 dX5_putFault_2 (snd_aload_n (pc := 5) (i := 0) dX5_putFault_5 (snd_iload_n (pc := 6) (i := 2) dX5_putFault_6 (snd_putf (pc := 7) cls5 (f := 3) (by decide) rfl rfl rfl wd_357 dX5_putFault_7 (snd_return dX5_putFault_10)))))))

/-! LastWalker$Reader.isFull(I)Z -/
theorem dX5_isFull_0 : decode cX5_isFull 0 = .ok (.iload_n 1, 1) := by decide +kernel
theorem dX5_isFull_1 : decode cX5_isFull 1 = .ok (.tableswitch 139 1 13 #[67, 85, 85, 85, 103, 139, 139, 139, 139, 139, 139, 121, 121], 67) := by decide +kernel
theorem dX5_isFull_68 : decode cX5_isFull 68 = .ok (.aload_n 0, 1) := by decide +kernel
theorem dX5_isFull_69 : decode cX5_isFull 69 = .ok (.getfield 12, 3) := by decide +kernel
theorem dX5_isFull_72 : decode cX5_isFull 72 = .ok (.getfield 175, 3) := by decide +kernel
theorem dX5_isFull_75 : decode cX5_isFull 75 = .ok (.bipush 14, 2) := by decide +kernel
theorem dX5_isFull_77 : decode cX5_isFull 77 = .ok (.if_icmp .lt 7, 3) := by decide +kernel
theorem dX5_isFull_80 : decode cX5_isFull 80 = .ok (.iconst 1, 1) := by decide +kernel
theorem dX5_isFull_81 : decode cX5_isFull 81 = .ok (.goto 4, 3) := by decide +kernel
theorem dX5_isFull_84 : decode cX5_isFull 84 = .ok (.iconst 0, 1) := by decide +kernel
theorem dX5_isFull_85 : decode cX5_isFull 85 = .ok (.ireturn, 1) := by decide +kernel
theorem dX5_isFull_86 : decode cX5_isFull 86 = .ok (.aload_n 0, 1) := by decide +kernel
theorem dX5_isFull_87 : decode cX5_isFull 87 = .ok (.getfield 12, 3) := by decide +kernel
theorem dX5_isFull_90 : decode cX5_isFull 90 = .ok (.getfield 178, 3) := by decide +kernel
theorem dX5_isFull_93 : decode cX5_isFull 93 = .ok (.bipush 8, 2) := by decide +kernel
theorem dX5_isFull_95 : decode cX5_isFull 95 = .ok (.if_icmp .lt 7, 3) := by decide +kernel
theorem dX5_isFull_98 : decode cX5_isFull 98 = .ok (.iconst 1, 1) := by decide +kernel
theorem dX5_isFull_99 : decode cX5_isFull 99 = .ok (.goto 4, 3) := by decide +kernel
theorem dX5_isFull_102 : decode cX5_isFull 102 = .ok (.iconst 0, 1) := by decide +kernel
theorem dX5_isFull_103 : decode cX5_isFull 103 = .ok (.ireturn, 1) := by decide +kernel
theorem dX5_isFull_104 : decode cX5_isFull 104 = .ok (.aload_n 0, 1) := by decide +kernel
theorem dX5_isFull_105 : decode cX5_isFull 105 = .ok (.getfield 12, 3) := by decide +kernel
theorem dX5_isFull_108 : decode cX5_isFull 108 = .ok (.getfield 181, 3) := by decide +kernel
theorem dX5_isFull_111 : decode cX5_isFull 111 = .ok (.bipush 12, 2) := by decide +kernel
theorem dX5_isFull_113 : decode cX5_isFull 113 = .ok (.if_icmp .lt 7, 3) := by decide +kernel
theorem dX5_isFull_116 : decode cX5_isFull 116 = .ok (.iconst 1, 1) := by decide +kernel
theorem dX5_isFull_117 : decode cX5_isFull 117 = .ok (.goto 4, 3) := by decide +kernel
theorem dX5_isFull_120 : decode cX5_isFull 120 = .ok (.iconst 0, 1) := by decide +kernel
theorem dX5_isFull_121 : decode cX5_isFull 121 = .ok (.ireturn, 1) := by decide +kernel
theorem dX5_isFull_122 : decode cX5_isFull 122 = .ok (.aload_n 0, 1) := by decide +kernel
theorem dX5_isFull_123 : decode cX5_isFull 123 = .ok (.getfield 21, 3) := by decide +kernel
theorem dX5_isFull_126 : decode cX5_isFull 126 = .ok (.getfield 61, 3) := by decide +kernel
theorem dX5_isFull_129 : decode cX5_isFull 129 = .ok (.bipush 40, 2) := by decide +kernel
theorem dX5_isFull_131 : decode cX5_isFull 131 = .ok (.if_icmp .lt 7, 3) := by decide +kernel
theorem dX5_isFull_134 : decode cX5_isFull 134 = .ok (.iconst 1, 1) := by decide +kernel
theorem dX5_isFull_135 : decode cX5_isFull 135 = .ok (.goto 4, 3) := by decide +kernel
theorem dX5_isFull_138 : decode cX5_isFull 138 = .ok (.iconst 0, 1) := by decide +kernel
theorem dX5_isFull_139 : decode cX5_isFull 139 = .ok (.ireturn, 1) := by decide +kernel
theorem dX5_isFull_140 : decode cX5_isFull 140 = .ok (.iconst 0, 1) := by decide +kernel
theorem dX5_isFull_141 : decode cX5_isFull 141 = .ok (.ireturn, 1) := by decide +kernel
noncomputable def k_X5_isFull_86 (F : Nat) : AK := ak_aload 0 (ak_getf 5 0 (ak_getf 7 8 (ak_push (vI 8) (ak_cmplt (ak_push (vI 0) ak_ireturn) (ak_push (vI 1) ak_ireturn)))))
set_option maxRecDepth 20000 in
theorem sk_X5_isFull_86 (F : Nat) : Snd X0 RX5 cX5_isFull 2 0 86 (k_X5_isFull_86 F) := by
  unfold k_X5_isFull_86
  exact snd_aload_n (pc := 86) (i := 0) dX5_isFull_86 (snd_getf (pc := 87) cls5 (f := 0) (by decide) wd_351 dX5_isFull_87 (snd_getf (pc := 90) cls7 (f := 8) (by decide) wd_198 dX5_isFull_90 (snd_bipush (pc := 93) (by decide) dX5_isFull_93 (snd_icmplt (pc := 95) (off := 7) (tgt := 102) (by decide) dX5_isFull_95 (snd_iconst (pc := 102) dX5_isFull_102 (snd_ireturn dX5_isFull_103)) (snd_iconst (pc := 98) dX5_isFull_98 (snd_goto (pc := 99) (off := 4) (tgt := 103) (by decide) dX5_isFull_99 (snd_ireturn dX5_isFull_103)))))))
noncomputable def k_X5_isFull_122 (F : Nat) : AK := ak_aload 0 (ak_getf 5 1 (ak_getf 2 0 (ak_push (vI 40) (ak_cmplt (ak_push (vI 0) ak_ireturn) (ak_push (vI 1) ak_ireturn)))))
set_option maxRecDepth 20000 in
theorem sk_X5_isFull_122 (F : Nat) : Snd X0 RX5 cX5_isFull 2 0 122 (k_X5_isFull_122 F) := by
  unfold k_X5_isFull_122
  exact snd_aload_n (pc := 122) (i := 0) dX5_isFull_122 (snd_getf (pc := 123) cls5 (f := 1) (by decide) wd_353 dX5_isFull_123 (snd_getf (pc := 126) cls2 (f := 0) (by decide) wd_289 dX5_isFull_126 (snd_bipush (pc := 129) (by decide) dX5_isFull_129 (snd_icmplt (pc := 131) (off := 7) (tgt := 138) (by decide) dX5_isFull_131 (snd_iconst (pc := 138) dX5_isFull_138 (snd_ireturn dX5_isFull_139)) (snd_iconst (pc := 134) dX5_isFull_134 (snd_goto (pc := 135) (off := 4) (tgt := 139) (by decide) dX5_isFull_135 (snd_ireturn dX5_isFull_139)))))))
noncomputable def k_X5_isFull (F : Nat) : AK := ak_iload 1 (ak_switch 1 [ak_aload 0 (ak_getf 5 0 (ak_getf 7 1 (ak_push (vI 14) (ak_cmplt (ak_push (vI 0) ak_ireturn) (ak_push (vI 1) ak_ireturn))))), (k_X5_isFull_86 F), (k_X5_isFull_86 F), (k_X5_isFull_86 F), ak_aload 0 (ak_getf 5 0 (ak_getf 7 12 (ak_push (vI 12) (ak_cmplt (ak_push (vI 0) ak_ireturn) (ak_push (vI 1) ak_ireturn))))), ak_push (vI 0) ak_ireturn, ak_push (vI 0) ak_ireturn, ak_push (vI 0) ak_ireturn, ak_push (vI 0) ak_ireturn, ak_push (vI 0) ak_ireturn, ak_push (vI 0) ak_ireturn, (k_X5_isFull_122 F), (k_X5_isFull_122 F)] (ak_push (vI 0) ak_ireturn))
noncomputable def m_X5_isFull (F : Nat) : AF := mkF 2 2 (k_X5_isFull F)
set_option maxRecDepth 20000 in
theorem s_X5_isFull (F : Nat) : MA yX5_isFull cX5_isFull 2 (some .boolean) 0 (m_X5_isFull F) := met_of (Or.inr (Or.inr (Or.inl ⟨rfl, rfl⟩))) (by decide) (by
  unfold k_X5_isFull
  exact snd_iload_n (pc := 0) (i := 1) dX5_isFull_0 (snd_switchL (pc := 1) (ol := [67, 85, 85, 85, 103, 139, 139, 139, 139, 139, 139, 121, 121]) (tgd := 140) dX5_isFull_1 rfl (by decide) (snd_iconst (pc := 140) dX5_isFull_140 (snd_ireturn dX5_isFull_141)) (sw_cons (o := 67) (tgt := 68) (by decide) (snd_aload_n (pc := 68) (i := 0) dX5_isFull_68 (snd_getf (pc := 69) cls5 (f := 0) (by decide) wd_351 dX5_isFull_69 (snd_getf (pc := 72) cls7 (f := 1) (by decide) wd_168 dX5_isFull_72 (snd_bipush (pc := 75) (by decide) dX5_isFull_75 (snd_icmplt (pc := 77) (off := 7) (tgt := 84) (by decide) dX5_isFull_77 (snd_iconst (pc := 84) dX5_isFull_84 (snd_ireturn dX5_isFull_85)) (snd_iconst (pc := 80) dX5_isFull_80 (snd_goto (pc := 81) (off := 4) (tgt := 85) (by decide) dX5_isFull_81 (snd_ireturn dX5_isFull_85)))))))) (sw_cons (o := 85) (tgt := 86) (by decide) ((sk_X5_isFull_86 F)) (sw_cons (o := 85) (tgt := 86) (by decide) ((sk_X5_isFull_86 F)) (sw_cons (o := 85) (tgt := 86) (by decide) ((sk_X5_isFull_86 F)) (sw_cons (o := 103) (tgt := 104) (by decide) (snd_aload_n (pc := 104) (i := 0) dX5_isFull_104 (snd_getf (pc := 105) cls5 (f := 0) (by decide) wd_351 dX5_isFull_105 (snd_getf (pc := 108) cls7 (f := 12) (by decide) wd_216 dX5_isFull_108 (snd_bipush (pc := 111) (by decide) dX5_isFull_111 (snd_icmplt (pc := 113) (off := 7) (tgt := 120) (by decide) dX5_isFull_113 (snd_iconst (pc := 120) dX5_isFull_120 (snd_ireturn dX5_isFull_121)) (snd_iconst (pc := 116) dX5_isFull_116 (snd_goto (pc := 117) (off := 4) (tgt := 121) (by decide) dX5_isFull_117 (snd_ireturn dX5_isFull_121)))))))) (sw_cons (o := 139) (tgt := 140) (by decide) (snd_iconst (pc := 140) dX5_isFull_140 (snd_ireturn dX5_isFull_141)) (sw_cons (o := 139) (tgt := 140) (by decide) (snd_iconst (pc := 140) dX5_isFull_140 (snd_ireturn dX5_isFull_141)) (sw_cons (o := 139) (tgt := 140) (by decide) (snd_iconst (pc := 140) dX5_isFull_140 (snd_ireturn dX5_isFull_141)) (sw_cons (o := 139) (tgt := 140) (by decide) (snd_iconst (pc := 140) dX5_isFull_140 (snd_ireturn dX5_isFull_141)) (sw_cons (o := 139) (tgt := 140) (by decide) (snd_iconst (pc := 140) dX5_isFull_140 (snd_ireturn dX5_isFull_141)) (sw_cons (o := 139) (tgt := 140) (by decide) (snd_iconst (pc := 140) dX5_isFull_140 (snd_ireturn dX5_isFull_141)) (sw_cons (o := 121) (tgt := 122) (by decide) ((sk_X5_isFull_122 F)) (sw_cons (o := 121) (tgt := 122) (by decide) ((sk_X5_isFull_122 F)) (sw_nil))))))))))))))))

/-! LastWalker$Reader.canBe(II)Z -/
theorem dX5_canBe_0 : decode cX5_canBe 0 = .ok (.getstatic 184, 3) := by decide +kernel
theorem dX5_canBe_3 : decode cX5_canBe 3 = .ok (.iload_n 1, 1) := by decide +kernel
theorem dX5_canBe_4 : decode cX5_canBe 4 = .ok (.iconst 4, 1) := by decide +kernel
theorem dX5_canBe_5 : decode cX5_canBe 5 = .ok (.imul, 1) := by decide +kernel
theorem dX5_canBe_6 : decode cX5_canBe 6 = .ok (.iload_n 2, 1) := by decide +kernel
theorem dX5_canBe_7 : decode cX5_canBe 7 = .ok (.iadd, 1) := by decide +kernel
theorem dX5_canBe_8 : decode cX5_canBe 8 = .ok (.iaload, 1) := by decide +kernel
theorem dX5_canBe_9 : decode cX5_canBe 9 = .ok (.istore_n 3, 1) := by decide +kernel
theorem dX5_canBe_10 : decode cX5_canBe 10 = .ok (.iload_n 3, 1) := by decide +kernel
theorem dX5_canBe_11 : decode cX5_canBe 11 = .ok (.bipush (-2), 2) := by decide +kernel
theorem dX5_canBe_13 : decode cX5_canBe 13 = .ok (.if_icmp .ne 16, 3) := by decide +kernel
theorem dX5_canBe_16 : decode cX5_canBe 16 = .ok (.aload_n 0, 1) := by decide +kernel
theorem dX5_canBe_17 : decode cX5_canBe 17 = .ok (.getfield 12, 3) := by decide +kernel
theorem dX5_canBe_20 : decode cX5_canBe 20 = .ok (.getfield 178, 3) := by decide +kernel
theorem dX5_canBe_23 : decode cX5_canBe 23 = .ok (.iconst 1, 1) := by decide +kernel
theorem dX5_canBe_24 : decode cX5_canBe 24 = .ok (.isub, 1) := by decide +kernel
theorem dX5_canBe_25 : decode cX5_canBe 25 = .ok (.istore_n 3, 1) := by decide +kernel
theorem dX5_canBe_26 : decode cX5_canBe 26 = .ok (.goto 19, 3) := by decide +kernel
theorem dX5_canBe_29 : decode cX5_canBe 29 = .ok (.iload_n 3, 1) := by decide +kernel
theorem dX5_canBe_30 : decode cX5_canBe 30 = .ok (.bipush (-3), 2) := by decide +kernel
theorem dX5_canBe_32 : decode cX5_canBe 32 = .ok (.if_icmp .ne 13, 3) := by decide +kernel
theorem dX5_canBe_35 : decode cX5_canBe 35 = .ok (.aload_n 0, 1) := by decide +kernel
theorem dX5_canBe_36 : decode cX5_canBe 36 = .ok (.getfield 12, 3) := by decide +kernel
theorem dX5_canBe_39 : decode cX5_canBe 39 = .ok (.getfield 175, 3) := by decide +kernel
theorem dX5_canBe_42 : decode cX5_canBe 42 = .ok (.iconst 1, 1) := by decide +kernel
theorem dX5_canBe_43 : decode cX5_canBe 43 = .ok (.isub, 1) := by decide +kernel
theorem dX5_canBe_44 : decode cX5_canBe 44 = .ok (.istore_n 3, 1) := by decide +kernel
theorem dX5_canBe_45 : decode cX5_canBe 45 = .ok (.aload_n 0, 1) := by decide +kernel
theorem dX5_canBe_46 : decode cX5_canBe 46 = .ok (.getfield 29, 3) := by decide +kernel
theorem dX5_canBe_49 : decode cX5_canBe 49 = .ok (.iload_n 2, 1) := by decide +kernel
theorem dX5_canBe_50 : decode cX5_canBe 50 = .ok (.iaload, 1) := by decide +kernel
theorem dX5_canBe_51 : decode cX5_canBe 51 = .ok (.getstatic 187, 3) := by decide +kernel
theorem dX5_canBe_54 : decode cX5_canBe 54 = .ok (.iload_n 1, 1) := by decide +kernel
theorem dX5_canBe_55 : decode cX5_canBe 55 = .ok (.iconst 4, 1) := by decide +kernel
theorem dX5_canBe_56 : decode cX5_canBe 56 = .ok (.imul, 1) := by decide +kernel
theorem dX5_canBe_57 : decode cX5_canBe 57 = .ok (.iload_n 2, 1) := by decide +kernel
theorem dX5_canBe_58 : decode cX5_canBe 58 = .ok (.iadd, 1) := by decide +kernel
theorem dX5_canBe_59 : decode cX5_canBe 59 = .ok (.iaload, 1) := by decide +kernel
theorem dX5_canBe_60 : decode cX5_canBe 60 = .ok (.if_icmp .lt 13, 3) := by decide +kernel
theorem dX5_canBe_63 : decode cX5_canBe 63 = .ok (.aload_n 0, 1) := by decide +kernel
theorem dX5_canBe_64 : decode cX5_canBe 64 = .ok (.getfield 29, 3) := by decide +kernel
theorem dX5_canBe_67 : decode cX5_canBe 67 = .ok (.iload_n 2, 1) := by decide +kernel
theorem dX5_canBe_68 : decode cX5_canBe 68 = .ok (.iaload, 1) := by decide +kernel
theorem dX5_canBe_69 : decode cX5_canBe 69 = .ok (.iload_n 3, 1) := by decide +kernel
theorem dX5_canBe_70 : decode cX5_canBe 70 = .ok (.if_icmp .le 5, 3) := by decide +kernel
theorem dX5_canBe_73 : decode cX5_canBe 73 = .ok (.iconst 0, 1) := by decide +kernel
theorem dX5_canBe_74 : decode cX5_canBe 74 = .ok (.ireturn, 1) := by decide +kernel
theorem dX5_canBe_75 : decode cX5_canBe 75 = .ok (.iload_n 1, 1) := by decide +kernel
theorem dX5_canBe_76 : decode cX5_canBe 76 = .ok (.iconst 1, 1) := by decide +kernel
theorem dX5_canBe_77 : decode cX5_canBe 77 = .ok (.if_icmp .ne 23, 3) := by decide +kernel
theorem dX5_canBe_80 : decode cX5_canBe 80 = .ok (.iload_n 2, 1) := by decide +kernel
theorem dX5_canBe_81 : decode cX5_canBe 81 = .ok (.iconst 1, 1) := by decide +kernel
theorem dX5_canBe_82 : decode cX5_canBe 82 = .ok (.if_icmp .ne 18, 3) := by decide +kernel
theorem dX5_canBe_85 : decode cX5_canBe 85 = .ok (.aload_n 0, 1) := by decide +kernel
theorem dX5_canBe_86 : decode cX5_canBe 86 = .ok (.getfield 29, 3) := by decide +kernel
theorem dX5_canBe_89 : decode cX5_canBe 89 = .ok (.iconst 1, 1) := by decide +kernel
theorem dX5_canBe_90 : decode cX5_canBe 90 = .ok (.iaload, 1) := by decide +kernel
theorem dX5_canBe_91 : decode cX5_canBe 91 = .ok (.aload_n 0, 1) := by decide +kernel
theorem dX5_canBe_92 : decode cX5_canBe 92 = .ok (.getfield 29, 3) := by decide +kernel
theorem dX5_canBe_95 : decode cX5_canBe 95 = .ok (.iconst 0, 1) := by decide +kernel
theorem dX5_canBe_96 : decode cX5_canBe 96 = .ok (.iaload, 1) := by decide +kernel
theorem dX5_canBe_97 : decode cX5_canBe 97 = .ok (.if_icmp .eq 7, 3) := by decide +kernel
theorem dX5_canBe_100 : decode cX5_canBe 100 = .ok (.iconst 1, 1) := by decide +kernel
theorem dX5_canBe_101 : decode cX5_canBe 101 = .ok (.goto 4, 3) := by decide +kernel
theorem dX5_canBe_104 : decode cX5_canBe 104 = .ok (.iconst 0, 1) := by decide +kernel
theorem dX5_canBe_105 : decode cX5_canBe 105 = .ok (.ireturn, 1) := by decide +kernel
noncomputable def k_X5_canBe_100 (F : Nat) : AK := ak_push (vI 1) ak_ireturn
set_option maxRecDepth 20000 in
theorem sk_X5_canBe_100 (F : Nat) : Snd X0 RX5 cX5_canBe 4 0 100 (k_X5_canBe_100 F) := by
  unfold k_X5_canBe_100
  exact snd_iconst (pc := 100) dX5_canBe_100 (snd_goto (pc := 101) (off := 4) (tgt := 105) (by decide) dX5_canBe_101 (snd_ireturn dX5_canBe_105))
noncomputable def k_X5_canBe_45 (F : Nat) : AK := ak_aload 0 (ak_getf 5 11 (ak_iload 2 (ak_iald (ak_push (vR (300 + 1)) (ak_iload 1 (ak_push (vI 4) (ak_imul (ak_iload 2 (ak_iadd (ak_iald (ak_cmplt (ak_push (vI 0) ak_ireturn) (ak_aload 0 (ak_getf 5 11 (ak_iload 2 (ak_iald (ak_iload 3 (ak_cmpgt (ak_push (vI 0) ak_ireturn) (ak_iload 1 (ak_push (vI 1) (ak_cmpeq (ak_iload 2 (ak_push (vI 1) (ak_cmpeq (ak_aload 0 (ak_getf 5 11 (ak_push (vI 1) (ak_iald (ak_aload 0 (ak_getf 5 11 (ak_push (vI 0) (ak_iald (ak_cmpeq (ak_push (vI 0) ak_ireturn) ((k_X5_canBe_100 F))))))))))) ((k_X5_canBe_100 F))))) ((k_X5_canBe_100 F))))))))))))))))))))))
set_option maxRecDepth 20000 in
theorem sk_X5_canBe_45 (F : Nat) : Snd X0 RX5 cX5_canBe 4 0 45 (k_X5_canBe_45 F) := by
  unfold k_X5_canBe_45
  exact snd_aload_n (pc := 45) (i := 0) dX5_canBe_45 (snd_getf (pc := 46) cls5 (f := 11) (by decide) wd_366 dX5_canBe_46 (snd_iload_n (pc := 49) (i := 2) dX5_canBe_49 (snd_iald (pc := 50) dX5_canBe_50 (snd_gets (pc := 51) (e0 := 1) (by decide) wd_773 dX5_canBe_51 (snd_iload_n (pc := 54) (i := 1) dX5_canBe_54 (snd_iconst (pc := 55) dX5_canBe_55 (snd_imul (pc := 56) dX5_canBe_56 (snd_iload_n (pc := 57) (i := 2) dX5_canBe_57 (snd_iadd (pc := 58) dX5_canBe_58 (snd_iald (pc := 59) dX5_canBe_59 (snd_icmplt (pc := 60) (off := 13) (tgt := 73) (by decide) dX5_canBe_60 (snd_iconst (pc := 73) dX5_canBe_73 (snd_ireturn dX5_canBe_74)) (snd_aload_n (pc := 63) (i := 0) dX5_canBe_63 (snd_getf (pc := 64) cls5 (f := 11) (by decide) wd_366 dX5_canBe_64 (snd_iload_n (pc := 67) (i := 2) dX5_canBe_67 (snd_iald (pc := 68) dX5_canBe_68 (snd_iload_n (pc := 69) (i := 3) dX5_canBe_69 (snd_icmple (pc := 70) (off := 5) (tgt := 75) (by decide) dX5_canBe_70 (snd_iload_n (pc := 75) (i := 1) dX5_canBe_75 (snd_iconst (pc := 76) dX5_canBe_76 (snd_icmpne (pc := 77) (off := 23) (tgt := 100) (by decide) dX5_canBe_77 ((sk_X5_canBe_100 F)) (snd_iload_n (pc := 80) (i := 2) dX5_canBe_80 (snd_iconst (pc := 81) dX5_canBe_81 (snd_icmpne (pc := 82) (off := 18) (tgt := 100) (by decide) dX5_canBe_82 ((sk_X5_canBe_100 F)) (snd_aload_n (pc := 85) (i := 0) dX5_canBe_85 (snd_getf (pc := 86) cls5 (f := 11) (by decide) wd_366 dX5_canBe_86 (snd_iconst (pc := 89) dX5_canBe_89 (snd_iald (pc := 90) dX5_canBe_90 (snd_aload_n (pc := 91) (i := 0) dX5_canBe_91 (snd_getf (pc := 92) cls5 (f := 11) (by decide) wd_366 dX5_canBe_92 (snd_iconst (pc := 95) dX5_canBe_95 (snd_iald (pc := 96) dX5_canBe_96 (snd_icmpeq (pc := 97) (off := 7) (tgt := 104) (by decide) dX5_canBe_97 (snd_iconst (pc := 104) dX5_canBe_104 (snd_ireturn dX5_canBe_105)) ((sk_X5_canBe_100 F))))))))))))))))) (snd_iconst (pc := 73) dX5_canBe_73 (snd_ireturn dX5_canBe_74)))))))))))))))))))
noncomputable def k_X5_canBe (F : Nat) : AK := ak_push (vR (300 + 2)) (ak_iload 1 (ak_push (vI 4) (ak_imul (ak_iload 2 (ak_iadd (ak_iald (ak_istore 3 (ak_iload 3 (ak_push (vI (-2)) (ak_cmpeq (ak_aload 0 (ak_getf 5 0 (ak_getf 7 8 (ak_push (vI 1) (ak_isub (ak_istore 3 ((k_X5_canBe_45 F)))))))) (ak_iload 3 (ak_push (vI (-3)) (ak_cmpeq (ak_aload 0 (ak_getf 5 0 (ak_getf 7 1 (ak_push (vI 1) (ak_isub (ak_istore 3 ((k_X5_canBe_45 F)))))))) ((k_X5_canBe_45 F)))))))))))))))
noncomputable def m_X5_canBe (F : Nat) : AF := mkF 2 4 (k_X5_canBe F)
set_option maxRecDepth 20000 in
theorem s_X5_canBe (F : Nat) : MA yX5_canBe cX5_canBe 4 (some .boolean) 0 (m_X5_canBe F) := met_of (Or.inr (Or.inr (Or.inl ⟨rfl, rfl⟩))) (by decide) (by
  unfold k_X5_canBe
  exact snd_gets (pc := 0) (e0 := 2) (by decide) wd_771 dX5_canBe_0 (snd_iload_n (pc := 3) (i := 1) dX5_canBe_3 (snd_iconst (pc := 4) dX5_canBe_4 (snd_imul (pc := 5) dX5_canBe_5 (snd_iload_n (pc := 6) (i := 2) dX5_canBe_6 (snd_iadd (pc := 7) dX5_canBe_7 (snd_iald (pc := 8) dX5_canBe_8 (snd_istore_n (pc := 9) (i := 3) (by decide) dX5_canBe_9 (snd_iload_n (pc := 10) (i := 3) dX5_canBe_10 (snd_bipush (pc := 11) (by decide) dX5_canBe_11 (snd_icmpne (pc := 13) (off := 16) (tgt := 29) (by decide) dX5_canBe_13 (snd_iload_n (pc := 29) (i := 3) dX5_canBe_29 (snd_bipush (pc := 30) (by decide) dX5_canBe_30 (snd_icmpne (pc := 32) (off := 13) (tgt := 45) (by decide) dX5_canBe_32 ((sk_X5_canBe_45 F)) (snd_aload_n (pc := 35) (i := 0) dX5_canBe_35 (snd_getf (pc := 36) cls5 (f := 0) (by decide) wd_351 dX5_canBe_36 (snd_getf (pc := 39) cls7 (f := 1) (by decide) wd_168 dX5_canBe_39 (snd_iconst (pc := 42) dX5_canBe_42 (snd_isub (pc := 43) dX5_canBe_43 (snd_istore_n (pc := 44) (i := 3) (by decide) dX5_canBe_44 ((sk_X5_canBe_45 F))))))))))) (snd_aload_n (pc := 16) (i := 0) dX5_canBe_16 (snd_getf (pc := 17) cls5 (f := 0) (by decide) wd_351 dX5_canBe_17 (snd_getf (pc := 20) cls7 (f := 8) (by decide) wd_198 dX5_canBe_20 (snd_iconst (pc := 23) dX5_canBe_23 (snd_isub (pc := 24) dX5_canBe_24 (snd_istore_n (pc := 25) (i := 3) (by decide) dX5_canBe_25 (snd_goto (pc := 26) (off := 19) (tgt := 45) (by decide) dX5_canBe_26 ((sk_X5_canBe_45 F))))))))))))))))))))

/-! LastWalker$Reader.checkLine(I)V -/
theorem dX5_checkLine_0 : decode cX5_checkLine 0 = .ok (.aload_n 0, 1) := by decide +kernel
theorem dX5_checkLine_1 : decode cX5_checkLine 1 = .ok (.iload_n 1, 1) := by decide +kernel
theorem dX5_checkLine_2 : decode cX5_checkLine 2 = .ok (.invokevirtual 168, 3) := by decide +kernel
theorem dX5_checkLine_5 : decode cX5_checkLine 5 = .ok (.ifCond .eq 13, 3) := by decide +kernel
theorem dX5_checkLine_8 : decode cX5_checkLine 8 = .ok (.aload_n 0, 1) := by decide +kernel
theorem dX5_checkLine_9 : decode cX5_checkLine 9 = .ok (.iconst 3, 1) := by decide +kernel
theorem dX5_checkLine_10 : decode cX5_checkLine 10 = .ok (.aload_n 0, 1) := by decide +kernel
theorem dX5_checkLine_11 : decode cX5_checkLine 11 = .ok (.getfield 99, 3) := by decide +kernel
theorem dX5_checkLine_14 : decode cX5_checkLine 14 = .ok (.invokevirtual 58, 3) := by decide +kernel
theorem dX5_checkLine_17 : decode cX5_checkLine 17 = .ok (.return_, 1) := by decide +kernel
theorem dX5_checkLine_18 : decode cX5_checkLine 18 = .ok (.iconst 0, 1) := by decide +kernel
theorem dX5_checkLine_19 : decode cX5_checkLine 19 = .ok (.istore_n 2, 1) := by decide +kernel
theorem dX5_checkLine_20 : decode cX5_checkLine 20 = .ok (.iload_n 2, 1) := by decide +kernel
theorem dX5_checkLine_21 : decode cX5_checkLine 21 = .ok (.getstatic 147, 3) := by decide +kernel
theorem dX5_checkLine_24 : decode cX5_checkLine 24 = .ok (.iload_n 1, 1) := by decide +kernel
theorem dX5_checkLine_25 : decode cX5_checkLine 25 = .ok (.iaload, 1) := by decide +kernel
theorem dX5_checkLine_26 : decode cX5_checkLine 26 = .ok (.if_icmp .ge 30, 3) := by decide +kernel
theorem dX5_checkLine_29 : decode cX5_checkLine 29 = .ok (.aload_n 0, 1) := by decide +kernel
theorem dX5_checkLine_30 : decode cX5_checkLine 30 = .ok (.iload_n 1, 1) := by decide +kernel
theorem dX5_checkLine_31 : decode cX5_checkLine 31 = .ok (.iload_n 2, 1) := by decide +kernel
theorem dX5_checkLine_32 : decode cX5_checkLine 32 = .ok (.invokevirtual 171, 3) := by decide +kernel
theorem dX5_checkLine_35 : decode cX5_checkLine 35 = .ok (.ifCond .ne 15, 3) := by decide +kernel
theorem dX5_checkLine_38 : decode cX5_checkLine 38 = .ok (.aload_n 0, 1) := by decide +kernel
theorem dX5_checkLine_39 : decode cX5_checkLine 39 = .ok (.iconst 2, 1) := by decide +kernel
theorem dX5_checkLine_40 : decode cX5_checkLine 40 = .ok (.aload_n 0, 1) := by decide +kernel
theorem dX5_checkLine_41 : decode cX5_checkLine 41 = .ok (.getfield 33, 3) := by decide +kernel
theorem dX5_checkLine_44 : decode cX5_checkLine 44 = .ok (.iload_n 2, 1) := by decide +kernel
theorem dX5_checkLine_45 : decode cX5_checkLine 45 = .ok (.iaload, 1) := by decide +kernel
theorem dX5_checkLine_46 : decode cX5_checkLine 46 = .ok (.invokevirtual 58, 3) := by decide +kernel
theorem dX5_checkLine_49 : decode cX5_checkLine 49 = .ok (.return_, 1) := by decide +kernel
theorem dX5_checkLine_50 : decode cX5_checkLine 50 = .ok (.iinc 2 1, 3) := by decide +kernel
theorem dX5_checkLine_53 : decode cX5_checkLine 53 = .ok (.goto (-33), 3) := by decide +kernel
theorem dX5_checkLine_56 : decode cX5_checkLine 56 = .ok (.return_, 1) := by decide +kernel
noncomputable def kb_X5_checkLine_20 (F : Nat) (self : AK) : AK := ak_iload 2 (ak_push (vR (300 + 0)) (ak_iload 1 (ak_iald (ak_cmplt (ak_aload 0 (ak_iload 1 (ak_iload 2 (ak_callv 5 2 (m_X5_canBe F) (ak_ifeq (ak_aload 0 (ak_push (vI 2) (ak_aload 0 (ak_getf 5 12 (ak_iload 2 (ak_iald (ak_callv 5 2 (m_X5_putFault F) ak_return))))))) (ak_iinc 2 1 self)))))) (ak_return)))))
noncomputable def k_X5_checkLine_20 (F : Nat) (n : Nat) : AK := Nat.rec (motive := fun _ => AK) ak_none (fun _ self => kb_X5_checkLine_20 F self) n
set_option maxRecDepth 20000 in
theorem sk_X5_checkLine_20 (F : Nat) : ∀ n, Snd X0 RX5 cX5_checkLine 3 1 20 (k_X5_checkLine_20 F n) := by
  intro n
  induction n with
  | zero => exact snd_none
  | succ n ih =>
    show Snd X0 RX5 cX5_checkLine 3 1 20 (kb_X5_checkLine_20 F (k_X5_checkLine_20 F n))
    unfold kb_X5_checkLine_20
    exact snd_iload_n (pc := 20) (i := 2) dX5_checkLine_20 (snd_gets (pc := 21) (e0 := 0) (by decide) wd_753 dX5_checkLine_21 (snd_iload_n (pc := 24) (i := 1) dX5_checkLine_24 (snd_iald (pc := 25) dX5_checkLine_25 (snd_icmpge (pc := 26) (off := 30) (tgt := 56) (by decide) dX5_checkLine_26 (snd_return dX5_checkLine_56) (snd_aload_n (pc := 29) (i := 0) dX5_checkLine_29 (snd_iload_n (pc := 30) (i := 1) dX5_checkLine_30 (snd_iload_n (pc := 31) (i := 2) dX5_checkLine_31 (snd_callV (pc := 32) (n := 2) cls5 (s_X5_canBe F) (by decide) (by decide) wd_770 wd_767 wd_769 wd_12 wd_124 hy_X5_canBe dX5_checkLine_32 (snd_ifne (pc := 35) (off := 15) (tgt := 50) (by decide) dX5_checkLine_35 (snd_iinc (pc := 50) (i := 2) (n := 1) (by decide) dX5_checkLine_50 (snd_goto (pc := 53) (off := (-33)) (tgt := 20) (by decide) dX5_checkLine_53 (ih))) (snd_aload_n (pc := 38) (i := 0) dX5_checkLine_38 (snd_iconst (pc := 39) dX5_checkLine_39 (snd_aload_n (pc := 40) (i := 0) dX5_checkLine_40 (snd_getf (pc := 41) cls5 (f := 12) (by decide) wd_367 dX5_checkLine_41 (snd_iload_n (pc := 44) (i := 2) dX5_checkLine_44 (snd_iald (pc := 45) dX5_checkLine_45 (snd_callV (pc := 46) (n := 2) cls5 (s_X5_putFault F) (by decide) (by decide) wd_758 wd_755 wd_757 wd_9 wd_124 hy_X5_putFault dX5_checkLine_46 (snd_return dX5_checkLine_49)))))))))))))))))
noncomputable def k_X5_checkLine (F : Nat) : AK := ak_aload 0 (ak_iload 1 (ak_callv 5 1 (m_X5_isFull F) (ak_ifeq (ak_push (vI 0) (ak_istore 2 ((k_X5_checkLine_20 F F)))) (ak_aload 0 (ak_push (vI 3) (ak_aload 0 (ak_getf 5 10 (ak_callv 5 2 (m_X5_putFault F) ak_return))))))))
noncomputable def m_X5_checkLine (F : Nat) : AF := mkF 0 3 (k_X5_checkLine F)
set_option maxRecDepth 20000 in
theorem s_X5_checkLine (F : Nat) : MA yX5_checkLine cX5_checkLine 3 none 1 (m_X5_checkLine F) := met_of (Or.inl ⟨rfl, rfl⟩) (by decide) (by
  unfold k_X5_checkLine
  exact snd_aload_n (pc := 0) (i := 0) dX5_checkLine_0 (snd_iload_n (pc := 1) (i := 1) dX5_checkLine_1 (snd_callV (pc := 2) (n := 1) cls5 (s_X5_isFull F) (by decide) (by decide) wd_766 wd_763 wd_765 wd_11 wd_124 hy_X5_isFull dX5_checkLine_2 (snd_ifeq (pc := 5) (off := 13) (tgt := 18) (by decide) dX5_checkLine_5 (snd_iconst (pc := 18) dX5_checkLine_18 (snd_istore_n (pc := 19) (i := 2) (by decide) dX5_checkLine_19 ((sk_X5_checkLine_20 F F)))) (snd_aload_n (pc := 8) (i := 0) dX5_checkLine_8 (snd_iconst (pc := 9) dX5_checkLine_9 (snd_aload_n (pc := 10) (i := 0) dX5_checkLine_10 (snd_getf (pc := 11) cls5 (f := 10) (by decide) wd_365 dX5_checkLine_11 (snd_callV (pc := 14) (n := 2) cls5 (s_X5_putFault F) (by decide) (by decide) wd_758 wd_755 wd_757 wd_9 wd_124 hy_X5_putFault dX5_checkLine_14 (snd_return dX5_checkLine_17))))))))))

/-! LastWalker$Reader.addRoad()V -/
theorem dX5_addRoad_0 : decode cX5_addRoad 0 = .ok (.aload_n 0, 1) := by decide +kernel
theorem dX5_addRoad_1 : decode cX5_addRoad 1 = .ok (.getfield 12, 3) := by decide +kernel
theorem dX5_addRoad_4 : decode cX5_addRoad 4 = .ok (.getfield 175, 3) := by decide +kernel
theorem dX5_addRoad_7 : decode cX5_addRoad 7 = .ok (.istore_n 1, 1) := by decide +kernel
theorem dX5_addRoad_8 : decode cX5_addRoad 8 = .ok (.aload_n 0, 1) := by decide +kernel
theorem dX5_addRoad_9 : decode cX5_addRoad 9 = .ok (.getfield 12, 3) := by decide +kernel
theorem dX5_addRoad_12 : decode cX5_addRoad 12 = .ok (.getfield 214, 3) := by decide +kernel
theorem dX5_addRoad_15 : decode cX5_addRoad 15 = .ok (.iload_n 1, 1) := by decide +kernel
theorem dX5_addRoad_16 : decode cX5_addRoad 16 = .ok (.aload_n 0, 1) := by decide +kernel
theorem dX5_addRoad_17 : decode cX5_addRoad 17 = .ok (.getfield 29, 3) := by decide +kernel
theorem dX5_addRoad_20 : decode cX5_addRoad 20 = .ok (.iconst 0, 1) := by decide +kernel
theorem dX5_addRoad_21 : decode cX5_addRoad 21 = .ok (.iaload, 1) := by decide +kernel
theorem dX5_addRoad_22 : decode cX5_addRoad 22 = .ok (.iastore, 1) := by decide +kernel
theorem dX5_addRoad_23 : decode cX5_addRoad 23 = .ok (.aload_n 0, 1) := by decide +kernel
theorem dX5_addRoad_24 : decode cX5_addRoad 24 = .ok (.getfield 12, 3) := by decide +kernel
theorem dX5_addRoad_27 : decode cX5_addRoad 27 = .ok (.getfield 217, 3) := by decide +kernel
theorem dX5_addRoad_30 : decode cX5_addRoad 30 = .ok (.iload_n 1, 1) := by decide +kernel
theorem dX5_addRoad_31 : decode cX5_addRoad 31 = .ok (.aload_n 0, 1) := by decide +kernel
theorem dX5_addRoad_32 : decode cX5_addRoad 32 = .ok (.getfield 29, 3) := by decide +kernel
theorem dX5_addRoad_35 : decode cX5_addRoad 35 = .ok (.iconst 1, 1) := by decide +kernel
theorem dX5_addRoad_36 : decode cX5_addRoad 36 = .ok (.iaload, 1) := by decide +kernel
theorem dX5_addRoad_37 : decode cX5_addRoad 37 = .ok (.iastore, 1) := by decide +kernel
theorem dX5_addRoad_38 : decode cX5_addRoad 38 = .ok (.aload_n 0, 1) := by decide +kernel
theorem dX5_addRoad_39 : decode cX5_addRoad 39 = .ok (.getfield 12, 3) := by decide +kernel
theorem dX5_addRoad_42 : decode cX5_addRoad 42 = .ok (.getfield 220, 3) := by decide +kernel
theorem dX5_addRoad_45 : decode cX5_addRoad 45 = .ok (.iload_n 1, 1) := by decide +kernel
theorem dX5_addRoad_46 : decode cX5_addRoad 46 = .ok (.aload_n 0, 1) := by decide +kernel
theorem dX5_addRoad_47 : decode cX5_addRoad 47 = .ok (.getfield 29, 3) := by decide +kernel
theorem dX5_addRoad_50 : decode cX5_addRoad 50 = .ok (.iconst 2, 1) := by decide +kernel
theorem dX5_addRoad_51 : decode cX5_addRoad 51 = .ok (.iaload, 1) := by decide +kernel
theorem dX5_addRoad_52 : decode cX5_addRoad 52 = .ok (.iastore, 1) := by decide +kernel
theorem dX5_addRoad_53 : decode cX5_addRoad 53 = .ok (.aload_n 0, 1) := by decide +kernel
theorem dX5_addRoad_54 : decode cX5_addRoad 54 = .ok (.getfield 12, 3) := by decide +kernel
theorem dX5_addRoad_57 : decode cX5_addRoad 57 = .ok (.getfield 223, 3) := by decide +kernel
theorem dX5_addRoad_60 : decode cX5_addRoad 60 = .ok (.iload_n 1, 1) := by decide +kernel
theorem dX5_addRoad_61 : decode cX5_addRoad 61 = .ok (.aload_n 0, 1) := by decide +kernel
theorem dX5_addRoad_62 : decode cX5_addRoad 62 = .ok (.getfield 29, 3) := by decide +kernel
theorem dX5_addRoad_65 : decode cX5_addRoad 65 = .ok (.iconst 3, 1) := by decide +kernel
theorem dX5_addRoad_66 : decode cX5_addRoad 66 = .ok (.iaload, 1) := by decide +kernel
theorem dX5_addRoad_67 : decode cX5_addRoad 67 = .ok (.iastore, 1) := by decide +kernel
theorem dX5_addRoad_68 : decode cX5_addRoad 68 = .ok (.aload_n 0, 1) := by decide +kernel
theorem dX5_addRoad_69 : decode cX5_addRoad 69 = .ok (.getfield 12, 3) := by decide +kernel
theorem dX5_addRoad_72 : decode cX5_addRoad 72 = .ok (.dup, 1) := by decide +kernel
theorem dX5_addRoad_73 : decode cX5_addRoad 73 = .ok (.getfield 175, 3) := by decide +kernel
theorem dX5_addRoad_76 : decode cX5_addRoad 76 = .ok (.iconst 1, 1) := by decide +kernel
theorem dX5_addRoad_77 : decode cX5_addRoad 77 = .ok (.iadd, 1) := by decide +kernel
theorem dX5_addRoad_78 : decode cX5_addRoad 78 = .ok (.putfield 175, 3) := by decide +kernel
theorem dX5_addRoad_81 : decode cX5_addRoad 81 = .ok (.return_, 1) := by decide +kernel
noncomputable def k_X5_addRoad (F : Nat) : AK := ak_aload 0 (ak_getf 5 0 (ak_getf 7 1 (ak_istore 1 (ak_aload 0 (ak_getf 5 0 (ak_getf 7 2 (ak_iload 1 (ak_aload 0 (ak_getf 5 11 (ak_push (vI 0) (ak_iald (ak_iast (ak_aload 0 (ak_getf 5 0 (ak_getf 7 3 (ak_iload 1 (ak_aload 0 (ak_getf 5 11 (ak_push (vI 1) (ak_iald (ak_iast (ak_aload 0 (ak_getf 5 0 (ak_getf 7 4 (ak_iload 1 (ak_aload 0 (ak_getf 5 11 (ak_push (vI 2) (ak_iald (ak_iast (ak_aload 0 (ak_getf 5 0 (ak_getf 7 5 (ak_iload 1 (ak_aload 0 (ak_getf 5 11 (ak_push (vI 3) (ak_iald (ak_iast (ak_aload 0 (ak_getf 5 0 (ak_dup (ak_getf 7 1 (ak_push (vI 1) (ak_iadd (ak_putf 7 1 ak_return))))))))))))))))))))))))))))))))))))))))))))))
noncomputable def m_X5_addRoad (F : Nat) : AF := mkF 0 2 (k_X5_addRoad F)
set_option maxRecDepth 20000 in
theorem s_X5_addRoad (F : Nat) : MA yX5_addRoad cX5_addRoad 2 none 0 (m_X5_addRoad F) := met_of (Or.inl ⟨rfl, rfl⟩) (by decide) (by
  unfold k_X5_addRoad
  exact snd_aload_n (pc := 0) (i := 0) dX5_addRoad_0 (snd_getf (pc := 1) cls5 (f := 0) (by decide) wd_351 dX5_addRoad_1 (snd_getf (pc := 4) cls7 (f := 1) (by decide) wd_168 dX5_addRoad_4 (snd_istore_n (pc := 7) (i := 1) (by decide) dX5_addRoad_7 (snd_aload_n (pc := 8) (i := 0) dX5_addRoad_8 (snd_getf (pc := 9) cls5 (f := 0) (by decide) wd_351 dX5_addRoad_9 (snd_getf (pc := 12) cls7 (f := 2) (by decide) wd_172 dX5_addRoad_12 (snd_iload_n (pc := 15) (i := 1) dX5_addRoad_15 (snd_aload_n (pc := 16) (i := 0) dX5_addRoad_16 (snd_getf (pc := 17) cls5 (f := 11) (by decide) wd_366 dX5_addRoad_17 (snd_iconst (pc := 20) dX5_addRoad_20 (snd_iald (pc := 21) dX5_addRoad_21 (snd_iast (pc := 22) dX5_addRoad_22 (snd_aload_n (pc := 23) (i := 0) dX5_addRoad_23 (snd_getf (pc := 24) cls5 (f := 0) (by decide) wd_351 dX5_addRoad_24 (snd_getf (pc := 27) cls7 (f := 3) (by decide) wd_176 dX5_addRoad_27 (snd_iload_n (pc := 30) (i := 1) dX5_addRoad_30 (snd_aload_n (pc := 31) (i := 0) dX5_addRoad_31 (snd_getf (pc := 32) cls5 (f := 11) (by decide) wd_366 dX5_addRoad_32 (snd_iconst (pc := 35) dX5_addRoad_35 (snd_iald (pc := 36) dX5_addRoad_36 (snd_iast (pc := 37) dX5_addRoad_37 (snd_aload_n (pc := 38) (i := 0) dX5_addRoad_38 (snd_getf (pc := 39) cls5 (f := 0) (by decide) wd_351 dX5_addRoad_39 (snd_getf (pc := 42) cls7 (f := 4) (by decide) wd_182 dX5_addRoad_42 (snd_iload_n (pc := 45) (i := 1) dX5_addRoad_45 (snd_aload_n (pc := 46) (i := 0) dX5_addRoad_46 (snd_getf (pc := 47) cls5 (f := 11) (by decide) wd_366 dX5_addRoad_47 (snd_iconst (pc := 50) dX5_addRoad_50 (snd_iald (pc := 51) dX5_addRoad_51 (snd_iast (pc := 52) dX5_addRoad_52 (snd_aload_n (pc := 53) (i := 0) dX5_addRoad_53 (snd_getf (pc := 54) cls5 (f := 0) (by decide) wd_351 dX5_addRoad_54 (snd_getf (pc := 57) cls7 (f := 5) (by decide) wd_187 dX5_addRoad_57 (snd_iload_n (pc := 60) (i := 1) dX5_addRoad_60 (snd_aload_n (pc := 61) (i := 0) dX5_addRoad_61 (snd_getf (pc := 62) cls5 (f := 11) (by decide) wd_366 dX5_addRoad_62 (snd_iconst (pc := 65) dX5_addRoad_65 (snd_iald (pc := 66) dX5_addRoad_66 (snd_iast (pc := 67) dX5_addRoad_67 (snd_aload_n (pc := 68) (i := 0) dX5_addRoad_68 (snd_getf (pc := 69) cls5 (f := 0) (by decide) wd_351 dX5_addRoad_69 (snd_dup (pc := 72) dX5_addRoad_72 (snd_getf (pc := 73) cls7 (f := 1) (by decide) wd_168 dX5_addRoad_73 (snd_iconst (pc := 76) dX5_addRoad_76 (snd_iadd (pc := 77) dX5_addRoad_77 (snd_putf (pc := 78) cls7 (f := 1) (by decide) rfl rfl rfl wd_168 dX5_addRoad_78 (snd_return dX5_addRoad_81))))))))))))))))))))))))))))))))))))))))))))))))

/-! LastWalker$Reader.addPerson(I)V -/
theorem dX5_addPerson_0 : decode cX5_addPerson 0 = .ok (.aload_n 0, 1) := by decide +kernel
theorem dX5_addPerson_1 : decode cX5_addPerson 1 = .ok (.getfield 12, 3) := by decide +kernel
theorem dX5_addPerson_4 : decode cX5_addPerson 4 = .ok (.getfield 178, 3) := by decide +kernel
theorem dX5_addPerson_7 : decode cX5_addPerson 7 = .ok (.istore_n 2, 1) := by decide +kernel
theorem dX5_addPerson_8 : decode cX5_addPerson 8 = .ok (.aload_n 0, 1) := by decide +kernel
theorem dX5_addPerson_9 : decode cX5_addPerson 9 = .ok (.getfield 12, 3) := by decide +kernel
theorem dX5_addPerson_12 : decode cX5_addPerson 12 = .ok (.getfield 226, 3) := by decide +kernel
theorem dX5_addPerson_15 : decode cX5_addPerson 15 = .ok (.iload_n 2, 1) := by decide +kernel
theorem dX5_addPerson_16 : decode cX5_addPerson 16 = .ok (.aload_n 0, 1) := by decide +kernel
theorem dX5_addPerson_17 : decode cX5_addPerson 17 = .ok (.getfield 29, 3) := by decide +kernel
theorem dX5_addPerson_20 : decode cX5_addPerson 20 = .ok (.iconst 0, 1) := by decide +kernel
theorem dX5_addPerson_21 : decode cX5_addPerson 21 = .ok (.iaload, 1) := by decide +kernel
theorem dX5_addPerson_22 : decode cX5_addPerson 22 = .ok (.iastore, 1) := by decide +kernel
theorem dX5_addPerson_23 : decode cX5_addPerson 23 = .ok (.aload_n 0, 1) := by decide +kernel
theorem dX5_addPerson_24 : decode cX5_addPerson 24 = .ok (.getfield 12, 3) := by decide +kernel
theorem dX5_addPerson_27 : decode cX5_addPerson 27 = .ok (.getfield 229, 3) := by decide +kernel
theorem dX5_addPerson_30 : decode cX5_addPerson 30 = .ok (.iload_n 2, 1) := by decide +kernel
theorem dX5_addPerson_31 : decode cX5_addPerson 31 = .ok (.aload_n 0, 1) := by decide +kernel
theorem dX5_addPerson_32 : decode cX5_addPerson 32 = .ok (.getfield 29, 3) := by decide +kernel
theorem dX5_addPerson_35 : decode cX5_addPerson 35 = .ok (.iconst 1, 1) := by decide +kernel
theorem dX5_addPerson_36 : decode cX5_addPerson 36 = .ok (.iaload, 1) := by decide +kernel
theorem dX5_addPerson_37 : decode cX5_addPerson 37 = .ok (.iastore, 1) := by decide +kernel
theorem dX5_addPerson_38 : decode cX5_addPerson 38 = .ok (.aload_n 0, 1) := by decide +kernel
theorem dX5_addPerson_39 : decode cX5_addPerson 39 = .ok (.getfield 12, 3) := by decide +kernel
theorem dX5_addPerson_42 : decode cX5_addPerson 42 = .ok (.getfield 232, 3) := by decide +kernel
theorem dX5_addPerson_45 : decode cX5_addPerson 45 = .ok (.iload_n 2, 1) := by decide +kernel
theorem dX5_addPerson_46 : decode cX5_addPerson 46 = .ok (.iload_n 1, 1) := by decide +kernel
theorem dX5_addPerson_47 : decode cX5_addPerson 47 = .ok (.iastore, 1) := by decide +kernel
theorem dX5_addPerson_48 : decode cX5_addPerson 48 = .ok (.aload_n 0, 1) := by decide +kernel
theorem dX5_addPerson_49 : decode cX5_addPerson 49 = .ok (.getfield 12, 3) := by decide +kernel
theorem dX5_addPerson_52 : decode cX5_addPerson 52 = .ok (.dup, 1) := by decide +kernel
theorem dX5_addPerson_53 : decode cX5_addPerson 53 = .ok (.getfield 178, 3) := by decide +kernel
theorem dX5_addPerson_56 : decode cX5_addPerson 56 = .ok (.iconst 1, 1) := by decide +kernel
theorem dX5_addPerson_57 : decode cX5_addPerson 57 = .ok (.iadd, 1) := by decide +kernel
theorem dX5_addPerson_58 : decode cX5_addPerson 58 = .ok (.putfield 178, 3) := by decide +kernel
theorem dX5_addPerson_61 : decode cX5_addPerson 61 = .ok (.return_, 1) := by decide +kernel
noncomputable def k_X5_addPerson (F : Nat) : AK := ak_aload 0 (ak_getf 5 0 (ak_getf 7 8 (ak_istore 2 (ak_aload 0 (ak_getf 5 0 (ak_getf 7 9 (ak_iload 2 (ak_aload 0 (ak_getf 5 11 (ak_push (vI 0) (ak_iald (ak_iast (ak_aload 0 (ak_getf 5 0 (ak_getf 7 10 (ak_iload 2 (ak_aload 0 (ak_getf 5 11 (ak_push (vI 1) (ak_iald (ak_iast (ak_aload 0 (ak_getf 5 0 (ak_getf 7 11 (ak_iload 2 (ak_iload 1 (ak_iast (ak_aload 0 (ak_getf 5 0 (ak_dup (ak_getf 7 8 (ak_push (vI 1) (ak_iadd (ak_putf 7 8 ak_return))))))))))))))))))))))))))))))))))
noncomputable def m_X5_addPerson (F : Nat) : AF := mkF 0 3 (k_X5_addPerson F)
set_option maxRecDepth 20000 in
theorem s_X5_addPerson (F : Nat) : MA yX5_addPerson cX5_addPerson 3 none 0 (m_X5_addPerson F) := met_of (Or.inl ⟨rfl, rfl⟩) (by decide) (by
  unfold k_X5_addPerson
  exact snd_aload_n (pc := 0) (i := 0) dX5_addPerson_0 (snd_getf (pc := 1) cls5 (f := 0) (by decide) wd_351 dX5_addPerson_1 (snd_getf (pc := 4) cls7 (f := 8) (by decide) wd_198 dX5_addPerson_4 (snd_istore_n (pc := 7) (i := 2) (by decide) dX5_addPerson_7 (snd_aload_n (pc := 8) (i := 0) dX5_addPerson_8 (snd_getf (pc := 9) cls5 (f := 0) (by decide) wd_351 dX5_addPerson_9 (snd_getf (pc := 12) cls7 (f := 9) (by decide) wd_203 dX5_addPerson_12 (snd_iload_n (pc := 15) (i := 2) dX5_addPerson_15 (snd_aload_n (pc := 16) (i := 0) dX5_addPerson_16 (snd_getf (pc := 17) cls5 (f := 11) (by decide) wd_366 dX5_addPerson_17 (snd_iconst (pc := 20) dX5_addPerson_20 (snd_iald (pc := 21) dX5_addPerson_21 (snd_iast (pc := 22) dX5_addPerson_22 (snd_aload_n (pc := 23) (i := 0) dX5_addPerson_23 (snd_getf (pc := 24) cls5 (f := 0) (by decide) wd_351 dX5_addPerson_24 (snd_getf (pc := 27) cls7 (f := 10) (by decide) wd_208 dX5_addPerson_27 (snd_iload_n (pc := 30) (i := 2) dX5_addPerson_30 (snd_aload_n (pc := 31) (i := 0) dX5_addPerson_31 (snd_getf (pc := 32) cls5 (f := 11) (by decide) wd_366 dX5_addPerson_32 (snd_iconst (pc := 35) dX5_addPerson_35 (snd_iald (pc := 36) dX5_addPerson_36 (snd_iast (pc := 37) dX5_addPerson_37 (snd_aload_n (pc := 38) (i := 0) dX5_addPerson_38 (snd_getf (pc := 39) cls5 (f := 0) (by decide) wd_351 dX5_addPerson_39 (snd_getf (pc := 42) cls7 (f := 11) (by decide) wd_212 dX5_addPerson_42 (snd_iload_n (pc := 45) (i := 2) dX5_addPerson_45 (snd_iload_n (pc := 46) (i := 1) dX5_addPerson_46 (snd_iast (pc := 47) dX5_addPerson_47 (snd_aload_n (pc := 48) (i := 0) dX5_addPerson_48 (snd_getf (pc := 49) cls5 (f := 0) (by decide) wd_351 dX5_addPerson_49 (snd_dup (pc := 52) dX5_addPerson_52 (snd_getf (pc := 53) cls7 (f := 8) (by decide) wd_198 dX5_addPerson_53 (snd_iconst (pc := 56) dX5_addPerson_56 (snd_iadd (pc := 57) dX5_addPerson_57 (snd_putf (pc := 58) cls7 (f := 8) (by decide) rfl rfl rfl wd_198 dX5_addPerson_58 (snd_return dX5_addPerson_61))))))))))))))))))))))))))))))))))))

/-! LastWalker$Reader.addErrand()V -/
theorem dX5_addErrand_0 : decode cX5_addErrand 0 = .ok (.aload_n 0, 1) := by decide +kernel
theorem dX5_addErrand_1 : decode cX5_addErrand 1 = .ok (.getfield 12, 3) := by decide +kernel
theorem dX5_addErrand_4 : decode cX5_addErrand 4 = .ok (.getfield 181, 3) := by decide +kernel
theorem dX5_addErrand_7 : decode cX5_addErrand 7 = .ok (.istore_n 1, 1) := by decide +kernel
theorem dX5_addErrand_8 : decode cX5_addErrand 8 = .ok (.aload_n 0, 1) := by decide +kernel
theorem dX5_addErrand_9 : decode cX5_addErrand 9 = .ok (.getfield 12, 3) := by decide +kernel
theorem dX5_addErrand_12 : decode cX5_addErrand 12 = .ok (.getfield 235, 3) := by decide +kernel
theorem dX5_addErrand_15 : decode cX5_addErrand 15 = .ok (.iload_n 1, 1) := by decide +kernel
theorem dX5_addErrand_16 : decode cX5_addErrand 16 = .ok (.aload_n 0, 1) := by decide +kernel
theorem dX5_addErrand_17 : decode cX5_addErrand 17 = .ok (.getfield 29, 3) := by decide +kernel
theorem dX5_addErrand_20 : decode cX5_addErrand 20 = .ok (.iconst 0, 1) := by decide +kernel
theorem dX5_addErrand_21 : decode cX5_addErrand 21 = .ok (.iaload, 1) := by decide +kernel
theorem dX5_addErrand_22 : decode cX5_addErrand 22 = .ok (.iastore, 1) := by decide +kernel
theorem dX5_addErrand_23 : decode cX5_addErrand 23 = .ok (.aload_n 0, 1) := by decide +kernel
theorem dX5_addErrand_24 : decode cX5_addErrand 24 = .ok (.getfield 12, 3) := by decide +kernel
theorem dX5_addErrand_27 : decode cX5_addErrand 27 = .ok (.getfield 238, 3) := by decide +kernel
theorem dX5_addErrand_30 : decode cX5_addErrand 30 = .ok (.iload_n 1, 1) := by decide +kernel
theorem dX5_addErrand_31 : decode cX5_addErrand 31 = .ok (.aload_n 0, 1) := by decide +kernel
theorem dX5_addErrand_32 : decode cX5_addErrand 32 = .ok (.getfield 29, 3) := by decide +kernel
theorem dX5_addErrand_35 : decode cX5_addErrand 35 = .ok (.iconst 1, 1) := by decide +kernel
theorem dX5_addErrand_36 : decode cX5_addErrand 36 = .ok (.iaload, 1) := by decide +kernel
theorem dX5_addErrand_37 : decode cX5_addErrand 37 = .ok (.iastore, 1) := by decide +kernel
theorem dX5_addErrand_38 : decode cX5_addErrand 38 = .ok (.aload_n 0, 1) := by decide +kernel
theorem dX5_addErrand_39 : decode cX5_addErrand 39 = .ok (.getfield 12, 3) := by decide +kernel
theorem dX5_addErrand_42 : decode cX5_addErrand 42 = .ok (.getfield 241, 3) := by decide +kernel
theorem dX5_addErrand_45 : decode cX5_addErrand 45 = .ok (.iload_n 1, 1) := by decide +kernel
theorem dX5_addErrand_46 : decode cX5_addErrand 46 = .ok (.aload_n 0, 1) := by decide +kernel
theorem dX5_addErrand_47 : decode cX5_addErrand 47 = .ok (.getfield 29, 3) := by decide +kernel
theorem dX5_addErrand_50 : decode cX5_addErrand 50 = .ok (.iconst 2, 1) := by decide +kernel
theorem dX5_addErrand_51 : decode cX5_addErrand 51 = .ok (.iaload, 1) := by decide +kernel
theorem dX5_addErrand_52 : decode cX5_addErrand 52 = .ok (.iastore, 1) := by decide +kernel
theorem dX5_addErrand_53 : decode cX5_addErrand 53 = .ok (.aload_n 0, 1) := by decide +kernel
theorem dX5_addErrand_54 : decode cX5_addErrand 54 = .ok (.getfield 12, 3) := by decide +kernel
theorem dX5_addErrand_57 : decode cX5_addErrand 57 = .ok (.getfield 244, 3) := by decide +kernel
theorem dX5_addErrand_60 : decode cX5_addErrand 60 = .ok (.iload_n 1, 1) := by decide +kernel
theorem dX5_addErrand_61 : decode cX5_addErrand 61 = .ok (.aload_n 0, 1) := by decide +kernel
theorem dX5_addErrand_62 : decode cX5_addErrand 62 = .ok (.getfield 29, 3) := by decide +kernel
theorem dX5_addErrand_65 : decode cX5_addErrand 65 = .ok (.iconst 3, 1) := by decide +kernel
theorem dX5_addErrand_66 : decode cX5_addErrand 66 = .ok (.iaload, 1) := by decide +kernel
theorem dX5_addErrand_67 : decode cX5_addErrand 67 = .ok (.iastore, 1) := by decide +kernel
theorem dX5_addErrand_68 : decode cX5_addErrand 68 = .ok (.aload_n 0, 1) := by decide +kernel
theorem dX5_addErrand_69 : decode cX5_addErrand 69 = .ok (.getfield 12, 3) := by decide +kernel
theorem dX5_addErrand_72 : decode cX5_addErrand 72 = .ok (.dup, 1) := by decide +kernel
theorem dX5_addErrand_73 : decode cX5_addErrand 73 = .ok (.getfield 181, 3) := by decide +kernel
theorem dX5_addErrand_76 : decode cX5_addErrand 76 = .ok (.iconst 1, 1) := by decide +kernel
theorem dX5_addErrand_77 : decode cX5_addErrand 77 = .ok (.iadd, 1) := by decide +kernel
theorem dX5_addErrand_78 : decode cX5_addErrand 78 = .ok (.putfield 181, 3) := by decide +kernel
theorem dX5_addErrand_81 : decode cX5_addErrand 81 = .ok (.return_, 1) := by decide +kernel
noncomputable def k_X5_addErrand (F : Nat) : AK := ak_aload 0 (ak_getf 5 0 (ak_getf 7 12 (ak_istore 1 (ak_aload 0 (ak_getf 5 0 (ak_getf 7 13 (ak_iload 1 (ak_aload 0 (ak_getf 5 11 (ak_push (vI 0) (ak_iald (ak_iast (ak_aload 0 (ak_getf 5 0 (ak_getf 7 14 (ak_iload 1 (ak_aload 0 (ak_getf 5 11 (ak_push (vI 1) (ak_iald (ak_iast (ak_aload 0 (ak_getf 5 0 (ak_getf 7 15 (ak_iload 1 (ak_aload 0 (ak_getf 5 11 (ak_push (vI 2) (ak_iald (ak_iast (ak_aload 0 (ak_getf 5 0 (ak_getf 7 16 (ak_iload 1 (ak_aload 0 (ak_getf 5 11 (ak_push (vI 3) (ak_iald (ak_iast (ak_aload 0 (ak_getf 5 0 (ak_dup (ak_getf 7 12 (ak_push (vI 1) (ak_iadd (ak_putf 7 12 ak_return))))))))))))))))))))))))))))))))))))))))))))))
noncomputable def m_X5_addErrand (F : Nat) : AF := mkF 0 2 (k_X5_addErrand F)
set_option maxRecDepth 20000 in
theorem s_X5_addErrand (F : Nat) : MA yX5_addErrand cX5_addErrand 2 none 0 (m_X5_addErrand F) := met_of (Or.inl ⟨rfl, rfl⟩) (by decide) (by
  unfold k_X5_addErrand
  exact snd_aload_n (pc := 0) (i := 0) dX5_addErrand_0 (snd_getf (pc := 1) cls5 (f := 0) (by decide) wd_351 dX5_addErrand_1 (snd_getf (pc := 4) cls7 (f := 12) (by decide) wd_216 dX5_addErrand_4 (snd_istore_n (pc := 7) (i := 1) (by decide) dX5_addErrand_7 (snd_aload_n (pc := 8) (i := 0) dX5_addErrand_8 (snd_getf (pc := 9) cls5 (f := 0) (by decide) wd_351 dX5_addErrand_9 (snd_getf (pc := 12) cls7 (f := 13) (by decide) wd_220 dX5_addErrand_12 (snd_iload_n (pc := 15) (i := 1) dX5_addErrand_15 (snd_aload_n (pc := 16) (i := 0) dX5_addErrand_16 (snd_getf (pc := 17) cls5 (f := 11) (by decide) wd_366 dX5_addErrand_17 (snd_iconst (pc := 20) dX5_addErrand_20 (snd_iald (pc := 21) dX5_addErrand_21 (snd_iast (pc := 22) dX5_addErrand_22 (snd_aload_n (pc := 23) (i := 0) dX5_addErrand_23 (snd_getf (pc := 24) cls5 (f := 0) (by decide) wd_351 dX5_addErrand_24 (snd_getf (pc := 27) cls7 (f := 14) (by decide) wd_224 dX5_addErrand_27 (snd_iload_n (pc := 30) (i := 1) dX5_addErrand_30 (snd_aload_n (pc := 31) (i := 0) dX5_addErrand_31 (snd_getf (pc := 32) cls5 (f := 11) (by decide) wd_366 dX5_addErrand_32 (snd_iconst (pc := 35) dX5_addErrand_35 (snd_iald (pc := 36) dX5_addErrand_36 (snd_iast (pc := 37) dX5_addErrand_37 (snd_aload_n (pc := 38) (i := 0) dX5_addErrand_38 (snd_getf (pc := 39) cls5 (f := 0) (by decide) wd_351 dX5_addErrand_39 (snd_getf (pc := 42) cls7 (f := 15) (by decide) wd_228 dX5_addErrand_42 (snd_iload_n (pc := 45) (i := 1) dX5_addErrand_45 (snd_aload_n (pc := 46) (i := 0) dX5_addErrand_46 (snd_getf (pc := 47) cls5 (f := 11) (by decide) wd_366 dX5_addErrand_47 (snd_iconst (pc := 50) dX5_addErrand_50 (snd_iald (pc := 51) dX5_addErrand_51 (snd_iast (pc := 52) dX5_addErrand_52 (snd_aload_n (pc := 53) (i := 0) dX5_addErrand_53 (snd_getf (pc := 54) cls5 (f := 0) (by decide) wd_351 dX5_addErrand_54 (snd_getf (pc := 57) cls7 (f := 16) (by decide) wd_232 dX5_addErrand_57 (snd_iload_n (pc := 60) (i := 1) dX5_addErrand_60 (snd_aload_n (pc := 61) (i := 0) dX5_addErrand_61 (snd_getf (pc := 62) cls5 (f := 11) (by decide) wd_366 dX5_addErrand_62 (snd_iconst (pc := 65) dX5_addErrand_65 (snd_iald (pc := 66) dX5_addErrand_66 (snd_iast (pc := 67) dX5_addErrand_67 (snd_aload_n (pc := 68) (i := 0) dX5_addErrand_68 (snd_getf (pc := 69) cls5 (f := 0) (by decide) wd_351 dX5_addErrand_69 (snd_dup (pc := 72) dX5_addErrand_72 (snd_getf (pc := 73) cls7 (f := 12) (by decide) wd_216 dX5_addErrand_73 (snd_iconst (pc := 76) dX5_addErrand_76 (snd_iadd (pc := 77) dX5_addErrand_77 (snd_putf (pc := 78) cls7 (f := 12) (by decide) rfl rfl rfl wd_216 dX5_addErrand_78 (snd_return dX5_addErrand_81))))))))))))))))))))))))))))))))))))))))))))))))

/-! LastWalker$Reader.takeLine(I)V -/
theorem dX5_takeLine_0 : decode cX5_takeLine 0 = .ok (.iload_n 1, 1) := by decide +kernel
theorem dX5_takeLine_1 : decode cX5_takeLine 1 = .ok (.tableswitch 242 0 12 #[67, 83, 90, 90, 90, 100, 107, 130, 163, 174, 185, 209, 220], 67) := by decide +kernel
theorem dX5_takeLine_68 : decode cX5_takeLine 68 = .ok (.aload_n 0, 1) := by decide +kernel
theorem dX5_takeLine_69 : decode cX5_takeLine 69 = .ok (.getfield 12, 3) := by decide +kernel
theorem dX5_takeLine_72 : decode cX5_takeLine 72 = .ok (.aload_n 0, 1) := by decide +kernel
theorem dX5_takeLine_73 : decode cX5_takeLine 73 = .ok (.getfield 29, 3) := by decide +kernel
theorem dX5_takeLine_76 : decode cX5_takeLine 76 = .ok (.iconst 0, 1) := by decide +kernel
theorem dX5_takeLine_77 : decode cX5_takeLine 77 = .ok (.iaload, 1) := by decide +kernel
theorem dX5_takeLine_78 : decode cX5_takeLine 78 = .ok (.putfield 190, 3) := by decide +kernel
theorem dX5_takeLine_81 : decode cX5_takeLine 81 = .ok (.goto 176, 3) := by decide +kernel
theorem dX5_takeLine_84 : decode cX5_takeLine 84 = .ok (.aload_n 0, 1) := by decide +kernel
theorem dX5_takeLine_85 : decode cX5_takeLine 85 = .ok (.invokevirtual 192, 3) := by decide +kernel
theorem dX5_takeLine_88 : decode cX5_takeLine 88 = .ok (.goto 169, 3) := by decide +kernel
theorem dX5_takeLine_91 : decode cX5_takeLine 91 = .ok (.aload_n 0, 1) := by decide +kernel
theorem dX5_takeLine_92 : decode cX5_takeLine 92 = .ok (.iload_n 1, 1) := by decide +kernel
theorem dX5_takeLine_93 : decode cX5_takeLine 93 = .ok (.iconst 2, 1) := by decide +kernel
theorem dX5_takeLine_94 : decode cX5_takeLine 94 = .ok (.isub, 1) := by decide +kernel
theorem dX5_takeLine_95 : decode cX5_takeLine 95 = .ok (.invokevirtual 195, 3) := by decide +kernel
theorem dX5_takeLine_98 : decode cX5_takeLine 98 = .ok (.goto 159, 3) := by decide +kernel
theorem dX5_takeLine_101 : decode cX5_takeLine 101 = .ok (.aload_n 0, 1) := by decide +kernel
theorem dX5_takeLine_102 : decode cX5_takeLine 102 = .ok (.invokevirtual 198, 3) := by decide +kernel
theorem dX5_takeLine_105 : decode cX5_takeLine 105 = .ok (.goto 152, 3) := by decide +kernel
theorem dX5_takeLine_108 : decode cX5_takeLine 108 = .ok (.aload_n 0, 1) := by decide +kernel
theorem dX5_takeLine_109 : decode cX5_takeLine 109 = .ok (.getfield 12, 3) := by decide +kernel
theorem dX5_takeLine_112 : decode cX5_takeLine 112 = .ok (.getfield 201, 3) := by decide +kernel
theorem dX5_takeLine_115 : decode cX5_takeLine 115 = .ok (.aload_n 0, 1) := by decide +kernel
theorem dX5_takeLine_116 : decode cX5_takeLine 116 = .ok (.getfield 29, 3) := by decide +kernel
theorem dX5_takeLine_119 : decode cX5_takeLine 119 = .ok (.iconst 1, 1) := by decide +kernel
theorem dX5_takeLine_120 : decode cX5_takeLine 120 = .ok (.iaload, 1) := by decide +kernel
theorem dX5_takeLine_121 : decode cX5_takeLine 121 = .ok (.aload_n 0, 1) := by decide +kernel
theorem dX5_takeLine_122 : decode cX5_takeLine 122 = .ok (.getfield 29, 3) := by decide +kernel
theorem dX5_takeLine_125 : decode cX5_takeLine 125 = .ok (.iconst 0, 1) := by decide +kernel
theorem dX5_takeLine_126 : decode cX5_takeLine 126 = .ok (.iaload, 1) := by decide +kernel
theorem dX5_takeLine_127 : decode cX5_takeLine 127 = .ok (.iastore, 1) := by decide +kernel
theorem dX5_takeLine_128 : decode cX5_takeLine 128 = .ok (.goto 129, 3) := by decide +kernel
theorem dX5_takeLine_131 : decode cX5_takeLine 131 = .ok (.aload_n 0, 1) := by decide +kernel
theorem dX5_takeLine_132 : decode cX5_takeLine 132 = .ok (.getfield 12, 3) := by decide +kernel
theorem dX5_takeLine_135 : decode cX5_takeLine 135 = .ok (.getfield 203, 3) := by decide +kernel
theorem dX5_takeLine_138 : decode cX5_takeLine 138 = .ok (.aload_n 0, 1) := by decide +kernel
theorem dX5_takeLine_139 : decode cX5_takeLine 139 = .ok (.getfield 29, 3) := by decide +kernel
theorem dX5_takeLine_142 : decode cX5_takeLine 142 = .ok (.iconst 0, 1) := by decide +kernel
theorem dX5_takeLine_143 : decode cX5_takeLine 143 = .ok (.iaload, 1) := by decide +kernel
theorem dX5_takeLine_144 : decode cX5_takeLine 144 = .ok (.bipush 6, 2) := by decide +kernel
theorem dX5_takeLine_146 : decode cX5_takeLine 146 = .ok (.imul, 1) := by decide +kernel
theorem dX5_takeLine_147 : decode cX5_takeLine 147 = .ok (.aload_n 0, 1) := by decide +kernel
theorem dX5_takeLine_148 : decode cX5_takeLine 148 = .ok (.getfield 29, 3) := by decide +kernel
theorem dX5_takeLine_151 : decode cX5_takeLine 151 = .ok (.iconst 1, 1) := by decide +kernel
theorem dX5_takeLine_152 : decode cX5_takeLine 152 = .ok (.iaload, 1) := by decide +kernel
theorem dX5_takeLine_153 : decode cX5_takeLine 153 = .ok (.iadd, 1) := by decide +kernel
theorem dX5_takeLine_154 : decode cX5_takeLine 154 = .ok (.aload_n 0, 1) := by decide +kernel
theorem dX5_takeLine_155 : decode cX5_takeLine 155 = .ok (.getfield 29, 3) := by decide +kernel
theorem dX5_takeLine_158 : decode cX5_takeLine 158 = .ok (.iconst 2, 1) := by decide +kernel
theorem dX5_takeLine_159 : decode cX5_takeLine 159 = .ok (.iaload, 1) := by decide +kernel
theorem dX5_takeLine_160 : decode cX5_takeLine 160 = .ok (.iastore, 1) := by decide +kernel
theorem dX5_takeLine_161 : decode cX5_takeLine 161 = .ok (.goto 96, 3) := by decide +kernel
theorem dX5_takeLine_164 : decode cX5_takeLine 164 = .ok (.aload_n 0, 1) := by decide +kernel
theorem dX5_takeLine_165 : decode cX5_takeLine 165 = .ok (.getfield 12, 3) := by decide +kernel
theorem dX5_takeLine_168 : decode cX5_takeLine 168 = .ok (.iconst 0, 1) := by decide +kernel
theorem dX5_takeLine_169 : decode cX5_takeLine 169 = .ok (.putfield 206, 3) := by decide +kernel
theorem dX5_takeLine_172 : decode cX5_takeLine 172 = .ok (.goto 85, 3) := by decide +kernel
theorem dX5_takeLine_175 : decode cX5_takeLine 175 = .ok (.aload_n 0, 1) := by decide +kernel
theorem dX5_takeLine_176 : decode cX5_takeLine 176 = .ok (.getfield 12, 3) := by decide +kernel
theorem dX5_takeLine_179 : decode cX5_takeLine 179 = .ok (.iconst 1, 1) := by decide +kernel
theorem dX5_takeLine_180 : decode cX5_takeLine 180 = .ok (.putfield 206, 3) := by decide +kernel
theorem dX5_takeLine_183 : decode cX5_takeLine 183 = .ok (.goto 74, 3) := by decide +kernel
theorem dX5_takeLine_186 : decode cX5_takeLine 186 = .ok (.aload_n 0, 1) := by decide +kernel
theorem dX5_takeLine_187 : decode cX5_takeLine 187 = .ok (.getfield 12, 3) := by decide +kernel
theorem dX5_takeLine_190 : decode cX5_takeLine 190 = .ok (.iconst 2, 1) := by decide +kernel
theorem dX5_takeLine_191 : decode cX5_takeLine 191 = .ok (.putfield 206, 3) := by decide +kernel
theorem dX5_takeLine_194 : decode cX5_takeLine 194 = .ok (.aload_n 0, 1) := by decide +kernel
theorem dX5_takeLine_195 : decode cX5_takeLine 195 = .ok (.getfield 12, 3) := by decide +kernel
theorem dX5_takeLine_198 : decode cX5_takeLine 198 = .ok (.aload_n 0, 1) := by decide +kernel
theorem dX5_takeLine_199 : decode cX5_takeLine 199 = .ok (.getfield 29, 3) := by decide +kernel
theorem dX5_takeLine_202 : decode cX5_takeLine 202 = .ok (.iconst 0, 1) := by decide +kernel
theorem dX5_takeLine_203 : decode cX5_takeLine 203 = .ok (.iaload, 1) := by decide +kernel
theorem dX5_takeLine_204 : decode cX5_takeLine 204 = .ok (.putfield 209, 3) := by decide +kernel
theorem dX5_takeLine_207 : decode cX5_takeLine 207 = .ok (.goto 50, 3) := by decide +kernel
theorem dX5_takeLine_210 : decode cX5_takeLine 210 = .ok (.aload_n 0, 1) := by decide +kernel
theorem dX5_takeLine_211 : decode cX5_takeLine 211 = .ok (.getfield 12, 3) := by decide +kernel
theorem dX5_takeLine_214 : decode cX5_takeLine 214 = .ok (.iconst 3, 1) := by decide +kernel
theorem dX5_takeLine_215 : decode cX5_takeLine 215 = .ok (.putfield 206, 3) := by decide +kernel
theorem dX5_takeLine_218 : decode cX5_takeLine 218 = .ok (.goto 39, 3) := by decide +kernel
theorem dX5_takeLine_221 : decode cX5_takeLine 221 = .ok (.aload_n 0, 1) := by decide +kernel
theorem dX5_takeLine_222 : decode cX5_takeLine 222 = .ok (.getfield 21, 3) := by decide +kernel
theorem dX5_takeLine_225 : decode cX5_takeLine 225 = .ok (.aload_n 0, 1) := by decide +kernel
theorem dX5_takeLine_226 : decode cX5_takeLine 226 = .ok (.getfield 29, 3) := by decide +kernel
theorem dX5_takeLine_229 : decode cX5_takeLine 229 = .ok (.iconst 0, 1) := by decide +kernel
theorem dX5_takeLine_230 : decode cX5_takeLine 230 = .ok (.iaload, 1) := by decide +kernel
theorem dX5_takeLine_231 : decode cX5_takeLine 231 = .ok (.aload_n 0, 1) := by decide +kernel
theorem dX5_takeLine_232 : decode cX5_takeLine 232 = .ok (.getfield 29, 3) := by decide +kernel
theorem dX5_takeLine_235 : decode cX5_takeLine 235 = .ok (.iconst 1, 1) := by decide +kernel
theorem dX5_takeLine_236 : decode cX5_takeLine 236 = .ok (.iaload, 1) := by decide +kernel
theorem dX5_takeLine_237 : decode cX5_takeLine 237 = .ok (.invokevirtual 211, 3) := by decide +kernel
theorem dX5_takeLine_240 : decode cX5_takeLine 240 = .ok (.goto 17, 3) := by decide +kernel
theorem dX5_takeLine_243 : decode cX5_takeLine 243 = .ok (.aload_n 0, 1) := by decide +kernel
theorem dX5_takeLine_244 : decode cX5_takeLine 244 = .ok (.getfield 21, 3) := by decide +kernel
theorem dX5_takeLine_247 : decode cX5_takeLine 247 = .ok (.iconst (-1), 1) := by decide +kernel
theorem dX5_takeLine_248 : decode cX5_takeLine 248 = .ok (.aload_n 0, 1) := by decide +kernel
theorem dX5_takeLine_249 : decode cX5_takeLine 249 = .ok (.getfield 29, 3) := by decide +kernel
theorem dX5_takeLine_252 : decode cX5_takeLine 252 = .ok (.iconst 0, 1) := by decide +kernel
theorem dX5_takeLine_253 : decode cX5_takeLine 253 = .ok (.iaload, 1) := by decide +kernel
theorem dX5_takeLine_254 : decode cX5_takeLine 254 = .ok (.invokevirtual 211, 3) := by decide +kernel
theorem dX5_takeLine_257 : decode cX5_takeLine 257 = .ok (.return_, 1) := by decide +kernel
noncomputable def k_X5_takeLine_91 (F : Nat) : AK := ak_aload 0 (ak_iload 1 (ak_push (vI 2) (ak_isub (ak_callv 5 1 (m_X5_addPerson F) ak_return))))
set_option maxRecDepth 20000 in
theorem sk_X5_takeLine_91 (F : Nat) : Snd X0 RX5 cX5_takeLine 2 1 91 (k_X5_takeLine_91 F) := by
  unfold k_X5_takeLine_91
  exact snd_aload_n (pc := 91) (i := 0) dX5_takeLine_91 (snd_iload_n (pc := 92) (i := 1) dX5_takeLine_92 (snd_iconst (pc := 93) dX5_takeLine_93 (snd_isub (pc := 94) dX5_takeLine_94 (snd_callV (pc := 95) (n := 1) cls5 (s_X5_addPerson F) (by decide) (by decide) wd_786 wd_783 wd_785 wd_15 wd_124 hy_X5_addPerson dX5_takeLine_95 (snd_goto (pc := 98) (off := 159) (tgt := 257) (by decide) dX5_takeLine_98 (snd_return dX5_takeLine_257))))))
noncomputable def k_X5_takeLine (F : Nat) : AK := ak_iload 1 (ak_switch 0 [ak_aload 0 (ak_getf 5 0 (ak_aload 0 (ak_getf 5 11 (ak_push (vI 0) (ak_iald (ak_putf 7 0 ak_return)))))), ak_aload 0 (ak_callv 5 0 (m_X5_addRoad F) ak_return), (k_X5_takeLine_91 F), (k_X5_takeLine_91 F), (k_X5_takeLine_91 F), ak_aload 0 (ak_callv 5 0 (m_X5_addErrand F) ak_return), ak_aload 0 (ak_getf 5 0 (ak_getf 7 6 (ak_aload 0 (ak_getf 5 11 (ak_push (vI 1) (ak_iald (ak_aload 0 (ak_getf 5 11 (ak_push (vI 0) (ak_iald (ak_iast ak_return))))))))))), ak_aload 0 (ak_getf 5 0 (ak_getf 7 7 (ak_aload 0 (ak_getf 5 11 (ak_push (vI 0) (ak_iald (ak_push (vI 6) (ak_imul (ak_aload 0 (ak_getf 5 11 (ak_push (vI 1) (ak_iald (ak_iadd (ak_aload 0 (ak_getf 5 11 (ak_push (vI 2) (ak_iald (ak_iast ak_return)))))))))))))))))), ak_aload 0 (ak_getf 5 0 (ak_push (vI 0) (ak_putf 7 17 ak_return))), ak_aload 0 (ak_getf 5 0 (ak_push (vI 1) (ak_putf 7 17 ak_return))), ak_aload 0 (ak_getf 5 0 (ak_push (vI 2) (ak_putf 7 17 (ak_aload 0 (ak_getf 5 0 (ak_aload 0 (ak_getf 5 11 (ak_push (vI 0) (ak_iald (ak_putf 7 18 ak_return)))))))))), ak_aload 0 (ak_getf 5 0 (ak_push (vI 3) (ak_putf 7 17 ak_return))), ak_aload 0 (ak_getf 5 1 (ak_aload 0 (ak_getf 5 11 (ak_push (vI 0) (ak_iald (ak_aload 0 (ak_getf 5 11 (ak_push (vI 1) (ak_iald (ak_callv 2 2 (m_X2_add F) ak_return))))))))))] (ak_aload 0 (ak_getf 5 1 (ak_push (vI (-1)) (ak_aload 0 (ak_getf 5 11 (ak_push (vI 0) (ak_iald (ak_callv 2 2 (m_X2_add F) ak_return)))))))))
noncomputable def m_X5_takeLine (F : Nat) : AF := mkF 0 2 (k_X5_takeLine F)
set_option maxRecDepth 20000 in
theorem s_X5_takeLine (F : Nat) : MA yX5_takeLine cX5_takeLine 2 none 1 (m_X5_takeLine F) := met_of (Or.inl ⟨rfl, rfl⟩) (by decide) (by
  unfold k_X5_takeLine
  exact snd_iload_n (pc := 0) (i := 1) dX5_takeLine_0 (snd_switchL (pc := 1) (ol := [67, 83, 90, 90, 90, 100, 107, 130, 163, 174, 185, 209, 220]) (tgd := 243) dX5_takeLine_1 rfl (by decide) (snd_aload_n (pc := 243) (i := 0) dX5_takeLine_243 (snd_getf (pc := 244) cls5 (f := 1) (by decide) wd_353 dX5_takeLine_244 (snd_iconst (pc := 247) dX5_takeLine_247 (snd_aload_n (pc := 248) (i := 0) dX5_takeLine_248 (snd_getf (pc := 249) cls5 (f := 11) (by decide) wd_366 dX5_takeLine_249 (snd_iconst (pc := 252) dX5_takeLine_252 (snd_iald (pc := 253) dX5_takeLine_253 (snd_callV (pc := 254) (n := 2) cls2 (s_X2_add F) (by decide) (by decide) wd_794 wd_791 wd_792 wd_793 wd_123 hy_X2_add dX5_takeLine_254 (snd_return dX5_takeLine_257))))))))) (sw_cons (o := 67) (tgt := 68) (by decide) (snd_aload_n (pc := 68) (i := 0) dX5_takeLine_68 (snd_getf (pc := 69) cls5 (f := 0) (by decide) wd_351 dX5_takeLine_69 (snd_aload_n (pc := 72) (i := 0) dX5_takeLine_72 (snd_getf (pc := 73) cls5 (f := 11) (by decide) wd_366 dX5_takeLine_73 (snd_iconst (pc := 76) dX5_takeLine_76 (snd_iald (pc := 77) dX5_takeLine_77 (snd_putf (pc := 78) cls7 (f := 0) (by decide) rfl rfl rfl wd_162 dX5_takeLine_78 (snd_goto (pc := 81) (off := 176) (tgt := 257) (by decide) dX5_takeLine_81 (snd_return dX5_takeLine_257))))))))) (sw_cons (o := 83) (tgt := 84) (by decide) (snd_aload_n (pc := 84) (i := 0) dX5_takeLine_84 (snd_callV (pc := 85) (n := 0) cls5 (s_X5_addRoad F) (by decide) (by decide) wd_782 wd_779 wd_781 wd_14 wd_124 hy_X5_addRoad dX5_takeLine_85 (snd_goto (pc := 88) (off := 169) (tgt := 257) (by decide) dX5_takeLine_88 (snd_return dX5_takeLine_257)))) (sw_cons (o := 90) (tgt := 91) (by decide) ((sk_X5_takeLine_91 F)) (sw_cons (o := 90) (tgt := 91) (by decide) ((sk_X5_takeLine_91 F)) (sw_cons (o := 90) (tgt := 91) (by decide) ((sk_X5_takeLine_91 F)) (sw_cons (o := 100) (tgt := 101) (by decide) (snd_aload_n (pc := 101) (i := 0) dX5_takeLine_101 (snd_callV (pc := 102) (n := 0) cls5 (s_X5_addErrand F) (by decide) (by decide) wd_790 wd_787 wd_789 wd_16 wd_124 hy_X5_addErrand dX5_takeLine_102 (snd_goto (pc := 105) (off := 152) (tgt := 257) (by decide) dX5_takeLine_105 (snd_return dX5_takeLine_257)))) (sw_cons (o := 107) (tgt := 108) (by decide) (snd_aload_n (pc := 108) (i := 0) dX5_takeLine_108 (snd_getf (pc := 109) cls5 (f := 0) (by decide) wd_351 dX5_takeLine_109 (snd_getf (pc := 112) cls7 (f := 6) (by decide) wd_190 dX5_takeLine_112 (snd_aload_n (pc := 115) (i := 0) dX5_takeLine_115 (snd_getf (pc := 116) cls5 (f := 11) (by decide) wd_366 dX5_takeLine_116 (snd_iconst (pc := 119) dX5_takeLine_119 (snd_iald (pc := 120) dX5_takeLine_120 (snd_aload_n (pc := 121) (i := 0) dX5_takeLine_121 (snd_getf (pc := 122) cls5 (f := 11) (by decide) wd_366 dX5_takeLine_122 (snd_iconst (pc := 125) dX5_takeLine_125 (snd_iald (pc := 126) dX5_takeLine_126 (snd_iast (pc := 127) dX5_takeLine_127 (snd_goto (pc := 128) (off := 129) (tgt := 257) (by decide) dX5_takeLine_128 (snd_return dX5_takeLine_257)))))))))))))) (sw_cons (o := 130) (tgt := 131) (by decide) (snd_aload_n (pc := 131) (i := 0) dX5_takeLine_131 (snd_getf (pc := 132) cls5 (f := 0) (by decide) wd_351 dX5_takeLine_132 (snd_getf (pc := 135) cls7 (f := 7) (by decide) wd_193 dX5_takeLine_135 (snd_aload_n (pc := 138) (i := 0) dX5_takeLine_138 (snd_getf (pc := 139) cls5 (f := 11) (by decide) wd_366 dX5_takeLine_139 (snd_iconst (pc := 142) dX5_takeLine_142 (snd_iald (pc := 143) dX5_takeLine_143 (snd_bipush (pc := 144) (by decide) dX5_takeLine_144 (snd_imul (pc := 146) dX5_takeLine_146 (snd_aload_n (pc := 147) (i := 0) dX5_takeLine_147 (snd_getf (pc := 148) cls5 (f := 11) (by decide) wd_366 dX5_takeLine_148 (snd_iconst (pc := 151) dX5_takeLine_151 (snd_iald (pc := 152) dX5_takeLine_152 (snd_iadd (pc := 153) dX5_takeLine_153 (snd_aload_n (pc := 154) (i := 0) dX5_takeLine_154 (snd_getf (pc := 155) cls5 (f := 11) (by decide) wd_366 dX5_takeLine_155 (snd_iconst (pc := 158) dX5_takeLine_158 (snd_iald (pc := 159) dX5_takeLine_159 (snd_iast (pc := 160) dX5_takeLine_160 (snd_goto (pc := 161) (off := 96) (tgt := 257) (by decide) dX5_takeLine_161 (snd_return dX5_takeLine_257))))))))))))))))))))) (sw_cons (o := 163) (tgt := 164) (by decide) (snd_aload_n (pc := 164) (i := 0) dX5_takeLine_164 (snd_getf (pc := 165) cls5 (f := 0) (by decide) wd_351 dX5_takeLine_165 (snd_iconst (pc := 168) dX5_takeLine_168 (snd_putf (pc := 169) cls7 (f := 17) (by decide) rfl rfl rfl wd_235 dX5_takeLine_169 (snd_goto (pc := 172) (off := 85) (tgt := 257) (by decide) dX5_takeLine_172 (snd_return dX5_takeLine_257)))))) (sw_cons (o := 174) (tgt := 175) (by decide) (snd_aload_n (pc := 175) (i := 0) dX5_takeLine_175 (snd_getf (pc := 176) cls5 (f := 0) (by decide) wd_351 dX5_takeLine_176 (snd_iconst (pc := 179) dX5_takeLine_179 (snd_putf (pc := 180) cls7 (f := 17) (by decide) rfl rfl rfl wd_235 dX5_takeLine_180 (snd_goto (pc := 183) (off := 74) (tgt := 257) (by decide) dX5_takeLine_183 (snd_return dX5_takeLine_257)))))) (sw_cons (o := 185) (tgt := 186) (by decide) (snd_aload_n (pc := 186) (i := 0) dX5_takeLine_186 (snd_getf (pc := 187) cls5 (f := 0) (by decide) wd_351 dX5_takeLine_187 (snd_iconst (pc := 190) dX5_takeLine_190 (snd_putf (pc := 191) cls7 (f := 17) (by decide) rfl rfl rfl wd_235 dX5_takeLine_191 (snd_aload_n (pc := 194) (i := 0) dX5_takeLine_194 (snd_getf (pc := 195) cls5 (f := 0) (by decide) wd_351 dX5_takeLine_195 (snd_aload_n (pc := 198) (i := 0) dX5_takeLine_198 (snd_getf (pc := 199) cls5 (f := 11) (by decide) wd_366 dX5_takeLine_199 (snd_iconst (pc := 202) dX5_takeLine_202 (snd_iald (pc := 203) dX5_takeLine_203 (snd_putf (pc := 204) cls7 (f := 18) (by decide) rfl rfl rfl wd_238 dX5_takeLine_204 (snd_goto (pc := 207) (off := 50) (tgt := 257) (by decide) dX5_takeLine_207 (snd_return dX5_takeLine_257))))))))))))) (sw_cons (o := 209) (tgt := 210) (by decide) (snd_aload_n (pc := 210) (i := 0) dX5_takeLine_210 (snd_getf (pc := 211) cls5 (f := 0) (by decide) wd_351 dX5_takeLine_211 (snd_iconst (pc := 214) dX5_takeLine_214 (snd_putf (pc := 215) cls7 (f := 17) (by decide) rfl rfl rfl wd_235 dX5_takeLine_215 (snd_goto (pc := 218) (off := 39) (tgt := 257) (by decide) dX5_takeLine_218 (snd_return dX5_takeLine_257)))))) (sw_cons (o := 220) (tgt := 221) (by decide) (snd_aload_n (pc := 221) (i := 0) dX5_takeLine_221 (snd_getf (pc := 222) cls5 (f := 1) (by decide) wd_353 dX5_takeLine_222 (snd_aload_n (pc := 225) (i := 0) dX5_takeLine_225 (snd_getf (pc := 226) cls5 (f := 11) (by decide) wd_366 dX5_takeLine_226 (snd_iconst (pc := 229) dX5_takeLine_229 (snd_iald (pc := 230) dX5_takeLine_230 (snd_aload_n (pc := 231) (i := 0) dX5_takeLine_231 (snd_getf (pc := 232) cls5 (f := 11) (by decide) wd_366 dX5_takeLine_232 (snd_iconst (pc := 235) dX5_takeLine_235 (snd_iald (pc := 236) dX5_takeLine_236 (snd_callV (pc := 237) (n := 2) cls2 (s_X2_add F) (by decide) (by decide) wd_794 wd_791 wd_792 wd_793 wd_123 hy_X2_add dX5_takeLine_237 (snd_goto (pc := 240) (off := 17) (tgt := 257) (by decide) dX5_takeLine_240 (snd_return dX5_takeLine_257))))))))))))) (sw_nil))))))))))))))))

/-! LastWalker$Reader.readLines(II)V -/
theorem dX5_readLines_0 : decode cX5_readLines 0 = .ok (.iconst 0, 1) := by decide +kernel
theorem dX5_readLines_1 : decode cX5_readLines 1 = .ok (.istore_n 3, 1) := by decide +kernel
theorem dX5_readLines_2 : decode cX5_readLines 2 = .ok (.iload_n 3, 1) := by decide +kernel
theorem dX5_readLines_3 : decode cX5_readLines 3 = .ok (.aload_n 0, 1) := by decide +kernel
theorem dX5_readLines_4 : decode cX5_readLines 4 = .ok (.getfield 55, 3) := by decide +kernel
theorem dX5_readLines_7 : decode cX5_readLines 7 = .ok (.if_icmp .gt 80, 3) := by decide +kernel
theorem dX5_readLines_10 : decode cX5_readLines 10 = .ok (.aload_n 0, 1) := by decide +kernel
theorem dX5_readLines_11 : decode cX5_readLines 11 = .ok (.invokevirtual 76, 3) := by decide +kernel
theorem dX5_readLines_14 : decode cX5_readLines 14 = .ok (.aload_n 0, 1) := by decide +kernel
theorem dX5_readLines_15 : decode cX5_readLines 15 = .ok (.getfield 79, 3) := by decide +kernel
theorem dX5_readLines_18 : decode cX5_readLines 18 = .ok (.ifCond .ne 4, 3) := by decide +kernel
theorem dX5_readLines_21 : decode cX5_readLines 21 = .ok (.return_, 1) := by decide +kernel
theorem dX5_readLines_22 : decode cX5_readLines 22 = .ok (.aload_n 0, 1) := by decide +kernel
theorem dX5_readLines_23 : decode cX5_readLines 23 = .ok (.iload_n 1, 1) := by decide +kernel
theorem dX5_readLines_24 : decode cX5_readLines 24 = .ok (.iload_n 2, 1) := by decide +kernel
theorem dX5_readLines_25 : decode cX5_readLines 25 = .ok (.invokevirtual 82, 3) := by decide +kernel
theorem dX5_readLines_28 : decode cX5_readLines 28 = .ok (.istore 4, 2) := by decide +kernel
theorem dX5_readLines_30 : decode cX5_readLines 30 = .ok (.iload 4, 2) := by decide +kernel
theorem dX5_readLines_32 : decode cX5_readLines 32 = .ok (.iconst (-1), 1) := by decide +kernel
theorem dX5_readLines_33 : decode cX5_readLines 33 = .ok (.if_icmp .eq 12, 3) := by decide +kernel
theorem dX5_readLines_36 : decode cX5_readLines 36 = .ok (.aload_n 0, 1) := by decide +kernel
theorem dX5_readLines_37 : decode cX5_readLines 37 = .ok (.iload 4, 2) := by decide +kernel
theorem dX5_readLines_39 : decode cX5_readLines 39 = .ok (.invokevirtual 85, 3) := by decide +kernel
theorem dX5_readLines_42 : decode cX5_readLines 42 = .ok (.ifCond .ne 13, 3) := by decide +kernel
theorem dX5_readLines_45 : decode cX5_readLines 45 = .ok (.aload_n 0, 1) := by decide +kernel
theorem dX5_readLines_46 : decode cX5_readLines 46 = .ok (.iconst 1, 1) := by decide +kernel
theorem dX5_readLines_47 : decode cX5_readLines 47 = .ok (.aload_n 0, 1) := by decide +kernel
theorem dX5_readLines_48 : decode cX5_readLines 48 = .ok (.getfield 89, 3) := by decide +kernel
theorem dX5_readLines_51 : decode cX5_readLines 51 = .ok (.invokevirtual 58, 3) := by decide +kernel
theorem dX5_readLines_54 : decode cX5_readLines 54 = .ok (.return_, 1) := by decide +kernel
theorem dX5_readLines_55 : decode cX5_readLines 55 = .ok (.aload_n 0, 1) := by decide +kernel
theorem dX5_readLines_56 : decode cX5_readLines 56 = .ok (.getfield 47, 3) := by decide +kernel
theorem dX5_readLines_59 : decode cX5_readLines 59 = .ok (.ifCond .ne 9, 3) := by decide +kernel
theorem dX5_readLines_62 : decode cX5_readLines 62 = .ok (.aload_n 0, 1) := by decide +kernel
theorem dX5_readLines_63 : decode cX5_readLines 63 = .ok (.iload 4, 2) := by decide +kernel
theorem dX5_readLines_65 : decode cX5_readLines 65 = .ok (.invokevirtual 92, 3) := by decide +kernel
theorem dX5_readLines_68 : decode cX5_readLines 68 = .ok (.aload_n 0, 1) := by decide +kernel
theorem dX5_readLines_69 : decode cX5_readLines 69 = .ok (.getfield 47, 3) := by decide +kernel
theorem dX5_readLines_72 : decode cX5_readLines 72 = .ok (.ifCond .ne 9, 3) := by decide +kernel
theorem dX5_readLines_75 : decode cX5_readLines 75 = .ok (.aload_n 0, 1) := by decide +kernel
theorem dX5_readLines_76 : decode cX5_readLines 76 = .ok (.iload 4, 2) := by decide +kernel
theorem dX5_readLines_78 : decode cX5_readLines 78 = .ok (.invokevirtual 96, 3) := by decide +kernel
theorem dX5_readLines_81 : decode cX5_readLines 81 = .ok (.iinc 3 1, 3) := by decide +kernel
theorem dX5_readLines_84 : decode cX5_readLines 84 = .ok (.goto (-82), 3) := by decide +kernel
theorem dX5_readLines_87 : decode cX5_readLines 87 = .ok (.return_, 1) := by decide +kernel
noncomputable def k_X5_readLines_45 (F : Nat) : AK := ak_aload 0 (ak_push (vI 1) (ak_aload 0 (ak_getf 5 8 (ak_callv 5 2 (m_X5_putFault F) ak_return))))
set_option maxRecDepth 20000 in
theorem sk_X5_readLines_45 (F : Nat) : Snd X0 RX5 cX5_readLines 5 6 45 (k_X5_readLines_45 F) := by
  unfold k_X5_readLines_45
  exact snd_aload_n (pc := 45) (i := 0) dX5_readLines_45 (snd_iconst (pc := 46) dX5_readLines_46 (snd_aload_n (pc := 47) (i := 0) dX5_readLines_47 (snd_getf (pc := 48) cls5 (f := 8) (by decide) wd_363 dX5_readLines_48 (snd_callV (pc := 51) (n := 2) cls5 (s_X5_putFault F) (by decide) (by decide) wd_758 wd_755 wd_757 wd_9 wd_124 hy_X5_putFault dX5_readLines_51 (snd_return dX5_readLines_54)))))
noncomputable def k_X5_readLines_81 (F : Nat) (h2 : AK) : AK := ak_iinc 3 1 h2
set_option maxRecDepth 20000 in
theorem sk_X5_readLines_81 (F : Nat) {h2 : AK} (hh2 : Snd X0 RX5 cX5_readLines 5 6 2 h2) : Snd X0 RX5 cX5_readLines 5 6 81 (k_X5_readLines_81 F h2) := by
  unfold k_X5_readLines_81
  exact snd_iinc (pc := 81) (i := 3) (n := 1) (by decide) dX5_readLines_81 (snd_goto (pc := 84) (off := (-82)) (tgt := 2) (by decide) dX5_readLines_84 (hh2))
noncomputable def k_X5_readLines_68 (F : Nat) (h2 : AK) : AK := ak_aload 0 (ak_getf 5 2 (ak_ifeq (ak_aload 0 (ak_iload 4 (ak_callv 5 1 (m_X5_takeLine F) ((k_X5_readLines_81 F h2))))) ((k_X5_readLines_81 F h2))))
set_option maxRecDepth 20000 in
theorem sk_X5_readLines_68 (F : Nat) {h2 : AK} (hh2 : Snd X0 RX5 cX5_readLines 5 6 2 h2) : Snd X0 RX5 cX5_readLines 5 6 68 (k_X5_readLines_68 F h2) := by
  unfold k_X5_readLines_68
  exact snd_aload_n (pc := 68) (i := 0) dX5_readLines_68 (snd_getf (pc := 69) cls5 (f := 2) (by decide) wd_355 dX5_readLines_69 (snd_ifne (pc := 72) (off := 9) (tgt := 81) (by decide) dX5_readLines_72 ((sk_X5_readLines_81 F hh2)) (snd_aload_n (pc := 75) (i := 0) dX5_readLines_75 (snd_iload (pc := 76) (i := 4) dX5_readLines_76 (snd_callV (pc := 78) (n := 1) cls5 (s_X5_takeLine F) (by decide) (by decide) wd_778 wd_775 wd_777 wd_13 wd_124 hy_X5_takeLine dX5_readLines_78 ((sk_X5_readLines_81 F hh2)))))))
noncomputable def kb_X5_readLines_2 (F : Nat) (self : AK) : AK := ak_iload 3 (ak_aload 0 (ak_getf 5 5 (ak_cmpgt (ak_return) (ak_aload 0 (ak_callv 5 0 (m_X5_next F) (ak_aload 0 (ak_getf 5 7 (ak_ifeq (ak_return) (ak_aload 0 (ak_iload 1 (ak_iload 2 (ak_callv 5 2 (m_X5_lineOfWord F) (ak_istore 4 (ak_iload 4 (ak_push (vI (-1)) (ak_cmpeq ((k_X5_readLines_45 F)) (ak_aload 0 (ak_iload 4 (ak_callv 5 1 (m_X5_readNumbers F) (ak_ifeq ((k_X5_readLines_45 F)) (ak_aload 0 (ak_getf 5 2 (ak_ifeq (ak_aload 0 (ak_iload 4 (ak_callv 5 1 (m_X5_checkLine F) ((k_X5_readLines_68 F self))))) ((k_X5_readLines_68 F self)))))))))))))))))))))))))
noncomputable def k_X5_readLines_2 (F : Nat) (n : Nat) : AK := Nat.rec (motive := fun _ => AK) ak_none (fun _ self => kb_X5_readLines_2 F self) n
set_option maxRecDepth 20000 in
theorem sk_X5_readLines_2 (F : Nat) : ∀ n, Snd X0 RX5 cX5_readLines 5 6 2 (k_X5_readLines_2 F n) := by
  intro n
  induction n with
  | zero => exact snd_none
  | succ n ih =>
    show Snd X0 RX5 cX5_readLines 5 6 2 (kb_X5_readLines_2 F (k_X5_readLines_2 F n))
    unfold kb_X5_readLines_2
    exact snd_iload_n (pc := 2) (i := 3) dX5_readLines_2 (snd_aload_n (pc := 3) (i := 0) dX5_readLines_3 (snd_getf (pc := 4) cls5 (f := 5) (by decide) wd_360 dX5_readLines_4 (snd_icmpgt (pc := 7) (off := 80) (tgt := 87) (by decide) dX5_readLines_7 (snd_return dX5_readLines_87) (snd_aload_n (pc := 10) (i := 0) dX5_readLines_10 (snd_callV (pc := 11) (n := 0) cls5 (s_X5_next F) (by decide) (by decide) wd_658 wd_655 wd_657 wd_3 wd_124 hy_X5_next dX5_readLines_11 (snd_aload_n (pc := 14) (i := 0) dX5_readLines_14 (snd_getf (pc := 15) cls5 (f := 7) (by decide) wd_362 dX5_readLines_15 (snd_ifne (pc := 18) (off := 4) (tgt := 22) (by decide) dX5_readLines_18 (snd_aload_n (pc := 22) (i := 0) dX5_readLines_22 (snd_iload_n (pc := 23) (i := 1) dX5_readLines_23 (snd_iload_n (pc := 24) (i := 2) dX5_readLines_24 (snd_callV (pc := 25) (n := 2) cls5 (s_X5_lineOfWord F) (by decide) (by decide) wd_679 wd_676 wd_678 wd_6 wd_124 hy_X5_lineOfWord dX5_readLines_25 (snd_istore (pc := 28) (i := 4) (by decide) dX5_readLines_28 (snd_iload (pc := 30) (i := 4) dX5_readLines_30 (snd_iconst (pc := 32) dX5_readLines_32 (snd_icmpeq (pc := 33) (off := 12) (tgt := 45) (by decide) dX5_readLines_33 ((sk_X5_readLines_45 F)) (snd_aload_n (pc := 36) (i := 0) dX5_readLines_36 (snd_iload (pc := 37) (i := 4) dX5_readLines_37 (snd_callV (pc := 39) (n := 1) cls5 (s_X5_readNumbers F) (by decide) (by decide) wd_752 wd_749 wd_751 wd_8 wd_124 hy_X5_readNumbers dX5_readLines_39 (snd_ifne (pc := 42) (off := 13) (tgt := 55) (by decide) dX5_readLines_42 (snd_aload_n (pc := 55) (i := 0) dX5_readLines_55 (snd_getf (pc := 56) cls5 (f := 2) (by decide) wd_355 dX5_readLines_56 (snd_ifne (pc := 59) (off := 9) (tgt := 68) (by decide) dX5_readLines_59 ((sk_X5_readLines_68 F ih)) (snd_aload_n (pc := 62) (i := 0) dX5_readLines_62 (snd_iload (pc := 63) (i := 4) dX5_readLines_63 (snd_callV (pc := 65) (n := 1) cls5 (s_X5_checkLine F) (by decide) (by decide) wd_762 wd_759 wd_761 wd_10 wd_124 hy_X5_checkLine dX5_readLines_65 ((sk_X5_readLines_68 F ih)))))))) ((sk_X5_readLines_45 F)))))))))))))) (snd_return dX5_readLines_21)))))))))
noncomputable def k_X5_readLines (F : Nat) : AK := ak_push (vI 0) (ak_istore 3 ((k_X5_readLines_2 F F)))
noncomputable def m_X5_readLines (F : Nat) : AF := mkF 0 5 (k_X5_readLines F)
set_option maxRecDepth 20000 in
theorem s_X5_readLines (F : Nat) : MA yX5_readLines cX5_readLines 5 none 6 (m_X5_readLines F) := met_of (Or.inl ⟨rfl, rfl⟩) (by decide) (by
  unfold k_X5_readLines
  exact snd_iconst (pc := 0) dX5_readLines_0 (snd_istore_n (pc := 1) (i := 3) (by decide) dX5_readLines_1 ((sk_X5_readLines_2 F F))))
