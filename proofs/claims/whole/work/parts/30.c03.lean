/-! LastWalker$Reader.placesFit()Z -/
theorem dX5_placesFit_0 : decode cX5_placesFit 0 = .ok (.iconst 0, 1) := by decide +kernel
theorem dX5_placesFit_1 : decode cX5_placesFit 1 = .ok (.istore_n 1, 1) := by decide +kernel
theorem dX5_placesFit_2 : decode cX5_placesFit 2 = .ok (.iconst 0, 1) := by decide +kernel
theorem dX5_placesFit_3 : decode cX5_placesFit 3 = .ok (.istore_n 2, 1) := by decide +kernel
theorem dX5_placesFit_4 : decode cX5_placesFit 4 = .ok (.iload_n 2, 1) := by decide +kernel
theorem dX5_placesFit_5 : decode cX5_placesFit 5 = .ok (.aload_n 0, 1) := by decide +kernel
theorem dX5_placesFit_6 : decode cX5_placesFit 6 = .ok (.getfield 12, 3) := by decide +kernel
theorem dX5_placesFit_9 : decode cX5_placesFit 9 = .ok (.getfield 175, 3) := by decide +kernel
theorem dX5_placesFit_12 : decode cX5_placesFit 12 = .ok (.if_icmp .ge 35, 3) := by decide +kernel
theorem dX5_placesFit_15 : decode cX5_placesFit 15 = .ok (.iload_n 1, 1) := by decide +kernel
theorem dX5_placesFit_16 : decode cX5_placesFit 16 = .ok (.aload_n 0, 1) := by decide +kernel
theorem dX5_placesFit_17 : decode cX5_placesFit 17 = .ok (.getfield 12, 3) := by decide +kernel
theorem dX5_placesFit_20 : decode cX5_placesFit 20 = .ok (.getfield 214, 3) := by decide +kernel
theorem dX5_placesFit_23 : decode cX5_placesFit 23 = .ok (.iload_n 2, 1) := by decide +kernel
theorem dX5_placesFit_24 : decode cX5_placesFit 24 = .ok (.iaload, 1) := by decide +kernel
theorem dX5_placesFit_25 : decode cX5_placesFit 25 = .ok (.aload_n 0, 1) := by decide +kernel
theorem dX5_placesFit_26 : decode cX5_placesFit 26 = .ok (.getfield 12, 3) := by decide +kernel
theorem dX5_placesFit_29 : decode cX5_placesFit 29 = .ok (.getfield 217, 3) := by decide +kernel
theorem dX5_placesFit_32 : decode cX5_placesFit 32 = .ok (.iload_n 2, 1) := by decide +kernel
theorem dX5_placesFit_33 : decode cX5_placesFit 33 = .ok (.iaload, 1) := by decide +kernel
theorem dX5_placesFit_34 : decode cX5_placesFit 34 = .ok (.invokestatic 247, 3) := by decide +kernel
theorem dX5_placesFit_37 : decode cX5_placesFit 37 = .ok (.invokestatic 247, 3) := by decide +kernel
theorem dX5_placesFit_40 : decode cX5_placesFit 40 = .ok (.istore_n 1, 1) := by decide +kernel
theorem dX5_placesFit_41 : decode cX5_placesFit 41 = .ok (.iinc 2 1, 3) := by decide +kernel
theorem dX5_placesFit_44 : decode cX5_placesFit 44 = .ok (.goto (-40), 3) := by decide +kernel
theorem dX5_placesFit_47 : decode cX5_placesFit 47 = .ok (.iconst 0, 1) := by decide +kernel
theorem dX5_placesFit_48 : decode cX5_placesFit 48 = .ok (.istore_n 2, 1) := by decide +kernel
theorem dX5_placesFit_49 : decode cX5_placesFit 49 = .ok (.iload_n 2, 1) := by decide +kernel
theorem dX5_placesFit_50 : decode cX5_placesFit 50 = .ok (.aload_n 0, 1) := by decide +kernel
theorem dX5_placesFit_51 : decode cX5_placesFit 51 = .ok (.getfield 12, 3) := by decide +kernel
theorem dX5_placesFit_54 : decode cX5_placesFit 54 = .ok (.getfield 178, 3) := by decide +kernel
theorem dX5_placesFit_57 : decode cX5_placesFit 57 = .ok (.if_icmp .ge 23, 3) := by decide +kernel
theorem dX5_placesFit_60 : decode cX5_placesFit 60 = .ok (.iload_n 1, 1) := by decide +kernel
theorem dX5_placesFit_61 : decode cX5_placesFit 61 = .ok (.aload_n 0, 1) := by decide +kernel
theorem dX5_placesFit_62 : decode cX5_placesFit 62 = .ok (.getfield 12, 3) := by decide +kernel
theorem dX5_placesFit_65 : decode cX5_placesFit 65 = .ok (.getfield 226, 3) := by decide +kernel
theorem dX5_placesFit_68 : decode cX5_placesFit 68 = .ok (.iload_n 2, 1) := by decide +kernel
theorem dX5_placesFit_69 : decode cX5_placesFit 69 = .ok (.iaload, 1) := by decide +kernel
theorem dX5_placesFit_70 : decode cX5_placesFit 70 = .ok (.invokestatic 247, 3) := by decide +kernel
theorem dX5_placesFit_73 : decode cX5_placesFit 73 = .ok (.istore_n 1, 1) := by decide +kernel
theorem dX5_placesFit_74 : decode cX5_placesFit 74 = .ok (.iinc 2 1, 3) := by decide +kernel
theorem dX5_placesFit_77 : decode cX5_placesFit 77 = .ok (.goto (-28), 3) := by decide +kernel
theorem dX5_placesFit_80 : decode cX5_placesFit 80 = .ok (.iconst 0, 1) := by decide +kernel
theorem dX5_placesFit_81 : decode cX5_placesFit 81 = .ok (.istore_n 2, 1) := by decide +kernel
theorem dX5_placesFit_82 : decode cX5_placesFit 82 = .ok (.iload_n 2, 1) := by decide +kernel
theorem dX5_placesFit_83 : decode cX5_placesFit 83 = .ok (.aload_n 0, 1) := by decide +kernel
theorem dX5_placesFit_84 : decode cX5_placesFit 84 = .ok (.getfield 12, 3) := by decide +kernel
theorem dX5_placesFit_87 : decode cX5_placesFit 87 = .ok (.getfield 181, 3) := by decide +kernel
theorem dX5_placesFit_90 : decode cX5_placesFit 90 = .ok (.if_icmp .ge 23, 3) := by decide +kernel
theorem dX5_placesFit_93 : decode cX5_placesFit 93 = .ok (.iload_n 1, 1) := by decide +kernel
theorem dX5_placesFit_94 : decode cX5_placesFit 94 = .ok (.aload_n 0, 1) := by decide +kernel
theorem dX5_placesFit_95 : decode cX5_placesFit 95 = .ok (.getfield 12, 3) := by decide +kernel
theorem dX5_placesFit_98 : decode cX5_placesFit 98 = .ok (.getfield 238, 3) := by decide +kernel
theorem dX5_placesFit_101 : decode cX5_placesFit 101 = .ok (.iload_n 2, 1) := by decide +kernel
theorem dX5_placesFit_102 : decode cX5_placesFit 102 = .ok (.iaload, 1) := by decide +kernel
theorem dX5_placesFit_103 : decode cX5_placesFit 103 = .ok (.invokestatic 247, 3) := by decide +kernel
theorem dX5_placesFit_106 : decode cX5_placesFit 106 = .ok (.istore_n 1, 1) := by decide +kernel
theorem dX5_placesFit_107 : decode cX5_placesFit 107 = .ok (.iinc 2 1, 3) := by decide +kernel
theorem dX5_placesFit_110 : decode cX5_placesFit 110 = .ok (.goto (-28), 3) := by decide +kernel
theorem dX5_placesFit_113 : decode cX5_placesFit 113 = .ok (.iload_n 1, 1) := by decide +kernel
theorem dX5_placesFit_114 : decode cX5_placesFit 114 = .ok (.aload_n 0, 1) := by decide +kernel
theorem dX5_placesFit_115 : decode cX5_placesFit 115 = .ok (.getfield 12, 3) := by decide +kernel
theorem dX5_placesFit_118 : decode cX5_placesFit 118 = .ok (.getfield 190, 3) := by decide +kernel
theorem dX5_placesFit_121 : decode cX5_placesFit 121 = .ok (.if_icmp .ge 7, 3) := by decide +kernel
theorem dX5_placesFit_124 : decode cX5_placesFit 124 = .ok (.iconst 1, 1) := by decide +kernel
theorem dX5_placesFit_125 : decode cX5_placesFit 125 = .ok (.goto 4, 3) := by decide +kernel
theorem dX5_placesFit_128 : decode cX5_placesFit 128 = .ok (.iconst 0, 1) := by decide +kernel
theorem dX5_placesFit_129 : decode cX5_placesFit 129 = .ok (.ireturn, 1) := by decide +kernel
noncomputable def kb_X5_placesFit_82 (F : Nat) (self : AK) : AK := ak_iload 2 (ak_aload 0 (ak_getf 5 0 (ak_getf 7 12 (ak_cmplt (ak_iload 1 (ak_aload 0 (ak_getf 5 0 (ak_getf 7 14 (ak_iload 2 (ak_iald (ak_imax (ak_istore 1 (ak_iinc 2 1 self))))))))) (ak_iload 1 (ak_aload 0 (ak_getf 5 0 (ak_getf 7 0 (ak_cmplt (ak_push (vI 1) ak_ireturn) (ak_push (vI 0) ak_ireturn))))))))))
noncomputable def k_X5_placesFit_82 (F : Nat) (n : Nat) : AK := Nat.rec (motive := fun _ => AK) ak_none (fun _ self => kb_X5_placesFit_82 F self) n
set_option maxRecDepth 20000 in
theorem sk_X5_placesFit_82 (F : Nat) : ∀ n, Snd X0 RX5 cX5_placesFit 3 1 82 (k_X5_placesFit_82 F n) := by
  intro n
  induction n with
  | zero => exact snd_none
  | succ n ih =>
    show Snd X0 RX5 cX5_placesFit 3 1 82 (kb_X5_placesFit_82 F (k_X5_placesFit_82 F n))
    unfold kb_X5_placesFit_82
    exact snd_iload_n (pc := 82) (i := 2) dX5_placesFit_82 (snd_aload_n (pc := 83) (i := 0) dX5_placesFit_83 (snd_getf (pc := 84) cls5 (f := 0) (by decide) wd_351 dX5_placesFit_84 (snd_getf (pc := 87) cls7 (f := 12) (by decide) wd_216 dX5_placesFit_87 (snd_icmpge (pc := 90) (off := 23) (tgt := 113) (by decide) dX5_placesFit_90 (snd_iload_n (pc := 113) (i := 1) dX5_placesFit_113 (snd_aload_n (pc := 114) (i := 0) dX5_placesFit_114 (snd_getf (pc := 115) cls5 (f := 0) (by decide) wd_351 dX5_placesFit_115 (snd_getf (pc := 118) cls7 (f := 0) (by decide) wd_162 dX5_placesFit_118 (snd_icmpge (pc := 121) (off := 7) (tgt := 128) (by decide) dX5_placesFit_121 (snd_iconst (pc := 128) dX5_placesFit_128 (snd_ireturn dX5_placesFit_129)) (snd_iconst (pc := 124) dX5_placesFit_124 (snd_goto (pc := 125) (off := 4) (tgt := 129) (by decide) dX5_placesFit_125 (snd_ireturn dX5_placesFit_129)))))))) (snd_iload_n (pc := 93) (i := 1) dX5_placesFit_93 (snd_aload_n (pc := 94) (i := 0) dX5_placesFit_94 (snd_getf (pc := 95) cls5 (f := 0) (by decide) wd_351 dX5_placesFit_95 (snd_getf (pc := 98) cls7 (f := 14) (by decide) wd_224 dX5_placesFit_98 (snd_iload_n (pc := 101) (i := 2) dX5_placesFit_101 (snd_iald (pc := 102) dX5_placesFit_102 (snd_imax (pc := 103) (by decide) wd_799 wd_800 wd_130 wd_801 dX5_placesFit_103 (snd_istore_n (pc := 106) (i := 1) (by decide) dX5_placesFit_106 (snd_iinc (pc := 107) (i := 2) (n := 1) (by decide) dX5_placesFit_107 (snd_goto (pc := 110) (off := (-28)) (tgt := 82) (by decide) dX5_placesFit_110 (ih)))))))))))))))
noncomputable def kb_X5_placesFit_49 (F : Nat) (self : AK) : AK := ak_iload 2 (ak_aload 0 (ak_getf 5 0 (ak_getf 7 8 (ak_cmplt (ak_iload 1 (ak_aload 0 (ak_getf 5 0 (ak_getf 7 9 (ak_iload 2 (ak_iald (ak_imax (ak_istore 1 (ak_iinc 2 1 self))))))))) (ak_push (vI 0) (ak_istore 2 ((k_X5_placesFit_82 F F))))))))
noncomputable def k_X5_placesFit_49 (F : Nat) (n : Nat) : AK := Nat.rec (motive := fun _ => AK) ak_none (fun _ self => kb_X5_placesFit_49 F self) n
set_option maxRecDepth 20000 in
theorem sk_X5_placesFit_49 (F : Nat) : ∀ n, Snd X0 RX5 cX5_placesFit 3 1 49 (k_X5_placesFit_49 F n) := by
  intro n
  induction n with
  | zero => exact snd_none
  | succ n ih =>
    show Snd X0 RX5 cX5_placesFit 3 1 49 (kb_X5_placesFit_49 F (k_X5_placesFit_49 F n))
    unfold kb_X5_placesFit_49
    exact snd_iload_n (pc := 49) (i := 2) dX5_placesFit_49 (snd_aload_n (pc := 50) (i := 0) dX5_placesFit_50 (snd_getf (pc := 51) cls5 (f := 0) (by decide) wd_351 dX5_placesFit_51 (snd_getf (pc := 54) cls7 (f := 8) (by decide) wd_198 dX5_placesFit_54 (snd_icmpge (pc := 57) (off := 23) (tgt := 80) (by decide) dX5_placesFit_57 (snd_iconst (pc := 80) dX5_placesFit_80 (snd_istore_n (pc := 81) (i := 2) (by decide) dX5_placesFit_81 ((sk_X5_placesFit_82 F F)))) (snd_iload_n (pc := 60) (i := 1) dX5_placesFit_60 (snd_aload_n (pc := 61) (i := 0) dX5_placesFit_61 (snd_getf (pc := 62) cls5 (f := 0) (by decide) wd_351 dX5_placesFit_62 (snd_getf (pc := 65) cls7 (f := 9) (by decide) wd_203 dX5_placesFit_65 (snd_iload_n (pc := 68) (i := 2) dX5_placesFit_68 (snd_iald (pc := 69) dX5_placesFit_69 (snd_imax (pc := 70) (by decide) wd_799 wd_800 wd_130 wd_801 dX5_placesFit_70 (snd_istore_n (pc := 73) (i := 1) (by decide) dX5_placesFit_73 (snd_iinc (pc := 74) (i := 2) (n := 1) (by decide) dX5_placesFit_74 (snd_goto (pc := 77) (off := (-28)) (tgt := 49) (by decide) dX5_placesFit_77 (ih)))))))))))))))
noncomputable def kb_X5_placesFit_4 (F : Nat) (self : AK) : AK := ak_iload 2 (ak_aload 0 (ak_getf 5 0 (ak_getf 7 1 (ak_cmplt (ak_iload 1 (ak_aload 0 (ak_getf 5 0 (ak_getf 7 2 (ak_iload 2 (ak_iald (ak_aload 0 (ak_getf 5 0 (ak_getf 7 3 (ak_iload 2 (ak_iald (ak_imax (ak_imax (ak_istore 1 (ak_iinc 2 1 self))))))))))))))) (ak_push (vI 0) (ak_istore 2 ((k_X5_placesFit_49 F F))))))))
noncomputable def k_X5_placesFit_4 (F : Nat) (n : Nat) : AK := Nat.rec (motive := fun _ => AK) ak_none (fun _ self => kb_X5_placesFit_4 F self) n
set_option maxRecDepth 20000 in
theorem sk_X5_placesFit_4 (F : Nat) : ∀ n, Snd X0 RX5 cX5_placesFit 3 1 4 (k_X5_placesFit_4 F n) := by
  intro n
  induction n with
  | zero => exact snd_none
  | succ n ih =>
    show Snd X0 RX5 cX5_placesFit 3 1 4 (kb_X5_placesFit_4 F (k_X5_placesFit_4 F n))
    unfold kb_X5_placesFit_4
    exact snd_iload_n (pc := 4) (i := 2) dX5_placesFit_4 (snd_aload_n (pc := 5) (i := 0) dX5_placesFit_5 (snd_getf (pc := 6) cls5 (f := 0) (by decide) wd_351 dX5_placesFit_6 (snd_getf (pc := 9) cls7 (f := 1) (by decide) wd_168 dX5_placesFit_9 (snd_icmpge (pc := 12) (off := 35) (tgt := 47) (by decide) dX5_placesFit_12 (snd_iconst (pc := 47) dX5_placesFit_47 (snd_istore_n (pc := 48) (i := 2) (by decide) dX5_placesFit_48 ((sk_X5_placesFit_49 F F)))) (snd_iload_n (pc := 15) (i := 1) dX5_placesFit_15 (snd_aload_n (pc := 16) (i := 0) dX5_placesFit_16 (snd_getf (pc := 17) cls5 (f := 0) (by decide) wd_351 dX5_placesFit_17 (snd_getf (pc := 20) cls7 (f := 2) (by decide) wd_172 dX5_placesFit_20 (snd_iload_n (pc := 23) (i := 2) dX5_placesFit_23 (snd_iald (pc := 24) dX5_placesFit_24 (snd_aload_n (pc := 25) (i := 0) dX5_placesFit_25 (snd_getf (pc := 26) cls5 (f := 0) (by decide) wd_351 dX5_placesFit_26 (snd_getf (pc := 29) cls7 (f := 3) (by decide) wd_176 dX5_placesFit_29 (snd_iload_n (pc := 32) (i := 2) dX5_placesFit_32 (snd_iald (pc := 33) dX5_placesFit_33 (snd_imax (pc := 34) (by decide) wd_799 wd_800 wd_130 wd_801 dX5_placesFit_34 (snd_imax (pc := 37) (by decide) wd_799 wd_800 wd_130 wd_801 dX5_placesFit_37 (snd_istore_n (pc := 40) (i := 1) (by decide) dX5_placesFit_40 (snd_iinc (pc := 41) (i := 2) (n := 1) (by decide) dX5_placesFit_41 (snd_goto (pc := 44) (off := (-40)) (tgt := 4) (by decide) dX5_placesFit_44 (ih)))))))))))))))))))))
noncomputable def k_X5_placesFit (F : Nat) : AK := ak_push (vI 0) (ak_istore 1 (ak_push (vI 0) (ak_istore 2 ((k_X5_placesFit_4 F F)))))
noncomputable def m_X5_placesFit (F : Nat) : AF := mkF 2 3 (k_X5_placesFit F)
set_option maxRecDepth 20000 in
theorem s_X5_placesFit (F : Nat) : MA yX5_placesFit cX5_placesFit 3 (some .boolean) 1 (m_X5_placesFit F) := met_of (Or.inr (Or.inr (Or.inl ⟨rfl, rfl⟩))) (by decide) (by
  unfold k_X5_placesFit
  exact snd_iconst (pc := 0) dX5_placesFit_0 (snd_istore_n (pc := 1) (i := 1) (by decide) dX5_placesFit_1 (snd_iconst (pc := 2) dX5_placesFit_2 (snd_istore_n (pc := 3) (i := 2) (by decide) dX5_placesFit_3 ((sk_X5_placesFit_4 F F))))))

/-! LastWalker$Reader.readTown([BI)Z -/
theorem dX5_readTown_0 : decode cX5_readTown 0 = .ok (.aload_n 0, 1) := by decide +kernel
theorem dX5_readTown_1 : decode cX5_readTown 1 = .ok (.aload_n 1, 1) := by decide +kernel
theorem dX5_readTown_2 : decode cX5_readTown 2 = .ok (.iload_n 2, 1) := by decide +kernel
theorem dX5_readTown_3 : decode cX5_readTown 3 = .ok (.invokevirtual 36, 3) := by decide +kernel
theorem dX5_readTown_6 : decode cX5_readTown 6 = .ok (.aload_n 0, 1) := by decide +kernel
theorem dX5_readTown_7 : decode cX5_readTown 7 = .ok (.getfield 12, 3) := by decide +kernel
theorem dX5_readTown_10 : decode cX5_readTown 10 = .ok (.invokevirtual 40, 3) := by decide +kernel
theorem dX5_readTown_13 : decode cX5_readTown 13 = .ok (.aload_n 0, 1) := by decide +kernel
theorem dX5_readTown_14 : decode cX5_readTown 14 = .ok (.iconst 0, 1) := by decide +kernel
theorem dX5_readTown_15 : decode cX5_readTown 15 = .ok (.bipush 11, 2) := by decide +kernel
theorem dX5_readTown_17 : decode cX5_readTown 17 = .ok (.invokevirtual 43, 3) := by decide +kernel
theorem dX5_readTown_20 : decode cX5_readTown 20 = .ok (.aload_n 0, 1) := by decide +kernel
theorem dX5_readTown_21 : decode cX5_readTown 21 = .ok (.getfield 47, 3) := by decide +kernel
theorem dX5_readTown_24 : decode cX5_readTown 24 = .ok (.ifCond .ne 19, 3) := by decide +kernel
theorem dX5_readTown_27 : decode cX5_readTown 27 = .ok (.aload_n 0, 1) := by decide +kernel
theorem dX5_readTown_28 : decode cX5_readTown 28 = .ok (.invokevirtual 51, 3) := by decide +kernel
theorem dX5_readTown_31 : decode cX5_readTown 31 = .ok (.ifCond .ne 12, 3) := by decide +kernel
theorem dX5_readTown_34 : decode cX5_readTown 34 = .ok (.aload_n 0, 1) := by decide +kernel
theorem dX5_readTown_35 : decode cX5_readTown 35 = .ok (.iconst 4, 1) := by decide +kernel
theorem dX5_readTown_36 : decode cX5_readTown 36 = .ok (.aload_n 0, 1) := by decide +kernel
theorem dX5_readTown_37 : decode cX5_readTown 37 = .ok (.getfield 55, 3) := by decide +kernel
theorem dX5_readTown_40 : decode cX5_readTown 40 = .ok (.invokevirtual 58, 3) := by decide +kernel
theorem dX5_readTown_43 : decode cX5_readTown 43 = .ok (.aload_n 0, 1) := by decide +kernel
theorem dX5_readTown_44 : decode cX5_readTown 44 = .ok (.getfield 47, 3) := by decide +kernel
theorem dX5_readTown_47 : decode cX5_readTown 47 = .ok (.ifCond .ne 7, 3) := by decide +kernel
theorem dX5_readTown_50 : decode cX5_readTown 50 = .ok (.iconst 1, 1) := by decide +kernel
theorem dX5_readTown_51 : decode cX5_readTown 51 = .ok (.goto 4, 3) := by decide +kernel
theorem dX5_readTown_54 : decode cX5_readTown 54 = .ok (.iconst 0, 1) := by decide +kernel
theorem dX5_readTown_55 : decode cX5_readTown 55 = .ok (.ireturn, 1) := by decide +kernel
noncomputable def k_X5_readTown_43 (F : Nat) : AK := ak_aload 0 (ak_getf 5 2 (ak_ifeq (ak_push (vI 1) ak_ireturn) (ak_push (vI 0) ak_ireturn)))
set_option maxRecDepth 20000 in
theorem sk_X5_readTown_43 (F : Nat) : Snd X0 RX5 cX5_readTown 3 7 43 (k_X5_readTown_43 F) := by
  unfold k_X5_readTown_43
  exact snd_aload_n (pc := 43) (i := 0) dX5_readTown_43 (snd_getf (pc := 44) cls5 (f := 2) (by decide) wd_355 dX5_readTown_44 (snd_ifne (pc := 47) (off := 7) (tgt := 54) (by decide) dX5_readTown_47 (snd_iconst (pc := 54) dX5_readTown_54 (snd_ireturn dX5_readTown_55)) (snd_iconst (pc := 50) dX5_readTown_50 (snd_goto (pc := 51) (off := 4) (tgt := 55) (by decide) dX5_readTown_51 (snd_ireturn dX5_readTown_55)))))
noncomputable def k_X5_readTown (F : Nat) : AK := ak_aload 0 (ak_aload 1 (ak_iload 2 (ak_callv 5 2 (m_X5_open F) (ak_aload 0 (ak_getf 5 0 (ak_callv 7 0 (m_X7_clear F) (ak_aload 0 (ak_push (vI 0) (ak_push (vI 11) (ak_callv 5 2 (m_X5_readLines F) (ak_aload 0 (ak_getf 5 2 (ak_ifeq (ak_aload 0 (ak_callv 5 0 (m_X5_placesFit F) (ak_ifeq (ak_aload 0 (ak_push (vI 4) (ak_aload 0 (ak_getf 5 5 (ak_callv 5 2 (m_X5_putFault F) ((k_X5_readTown_43 F))))))) ((k_X5_readTown_43 F))))) ((k_X5_readTown_43 F)))))))))))))))
noncomputable def m_X5_readTown (F : Nat) : AF := mkF 2 3 (k_X5_readTown F)
set_option maxRecDepth 20000 in
theorem s_X5_readTown (F : Nat) : MA yX5_readTown cX5_readTown 3 (some .boolean) 7 (m_X5_readTown F) := met_of (Or.inr (Or.inr (Or.inl ⟨rfl, rfl⟩))) (by decide) (by
  unfold k_X5_readTown
  exact snd_aload_n (pc := 0) (i := 0) dX5_readTown_0 (snd_aload_n (pc := 1) (i := 1) dX5_readTown_1 (snd_iload_n (pc := 2) (i := 2) dX5_readTown_2 (snd_callV (pc := 3) (n := 2) cls5 (s_X5_open F) (by decide) (by decide) wd_640 wd_637 wd_639 wd_1 wd_124 hy_X5_open dX5_readTown_3 (snd_aload_n (pc := 6) (i := 0) dX5_readTown_6 (snd_getf (pc := 7) cls5 (f := 0) (by decide) wd_351 dX5_readTown_7 (snd_callV (pc := 10) (n := 0) cls7 (s_X7_clear F) (by decide) (by decide) wd_647 wd_644 wd_645 wd_646 wd_122 hy_X7_clear dX5_readTown_10 (snd_aload_n (pc := 13) (i := 0) dX5_readTown_13 (snd_iconst (pc := 14) dX5_readTown_14 (snd_bipush (pc := 15) (by decide) dX5_readTown_15 (snd_callV (pc := 17) (n := 2) cls5 (s_X5_readLines F) (by decide) (by decide) wd_654 wd_651 wd_653 wd_2 wd_124 hy_X5_readLines dX5_readTown_17 (snd_aload_n (pc := 20) (i := 0) dX5_readTown_20 (snd_getf (pc := 21) cls5 (f := 2) (by decide) wd_355 dX5_readTown_21 (snd_ifne (pc := 24) (off := 19) (tgt := 43) (by decide) dX5_readTown_24 ((sk_X5_readTown_43 F)) (snd_aload_n (pc := 27) (i := 0) dX5_readTown_27 (snd_callV (pc := 28) (n := 0) cls5 (s_X5_placesFit F) (by decide) (by decide) wd_798 wd_795 wd_797 wd_17 wd_124 hy_X5_placesFit dX5_readTown_28 (snd_ifne (pc := 31) (off := 12) (tgt := 43) (by decide) dX5_readTown_31 ((sk_X5_readTown_43 F)) (snd_aload_n (pc := 34) (i := 0) dX5_readTown_34 (snd_iconst (pc := 35) dX5_readTown_35 (snd_aload_n (pc := 36) (i := 0) dX5_readTown_36 (snd_getf (pc := 37) cls5 (f := 5) (by decide) wd_360 dX5_readTown_37 (snd_callV (pc := 40) (n := 2) cls5 (s_X5_putFault F) (by decide) (by decide) wd_758 wd_755 wd_757 wd_9 wd_124 hy_X5_putFault dX5_readTown_40 ((sk_X5_readTown_43 F))))))))))))))))))))))))

/-! LastWalker$Reader.readDay([BI)Z -/
theorem dX5_readDay_0 : decode cX5_readDay 0 = .ok (.aload_n 0, 1) := by decide +kernel
theorem dX5_readDay_1 : decode cX5_readDay 1 = .ok (.aload_n 1, 1) := by decide +kernel
theorem dX5_readDay_2 : decode cX5_readDay 2 = .ok (.iload_n 2, 1) := by decide +kernel
theorem dX5_readDay_3 : decode cX5_readDay 3 = .ok (.invokevirtual 36, 3) := by decide +kernel
theorem dX5_readDay_6 : decode cX5_readDay 6 = .ok (.aload_n 0, 1) := by decide +kernel
theorem dX5_readDay_7 : decode cX5_readDay 7 = .ok (.getfield 21, 3) := by decide +kernel
theorem dX5_readDay_10 : decode cX5_readDay 10 = .ok (.iconst 0, 1) := by decide +kernel
theorem dX5_readDay_11 : decode cX5_readDay 11 = .ok (.putfield 61, 3) := by decide +kernel
theorem dX5_readDay_14 : decode cX5_readDay 14 = .ok (.aload_n 0, 1) := by decide +kernel
theorem dX5_readDay_15 : decode cX5_readDay 15 = .ok (.bipush 12, 2) := by decide +kernel
theorem dX5_readDay_17 : decode cX5_readDay 17 = .ok (.bipush 13, 2) := by decide +kernel
theorem dX5_readDay_19 : decode cX5_readDay 19 = .ok (.invokevirtual 43, 3) := by decide +kernel
theorem dX5_readDay_22 : decode cX5_readDay 22 = .ok (.aload_n 0, 1) := by decide +kernel
theorem dX5_readDay_23 : decode cX5_readDay 23 = .ok (.getfield 47, 3) := by decide +kernel
theorem dX5_readDay_26 : decode cX5_readDay 26 = .ok (.ifCond .ne 7, 3) := by decide +kernel
theorem dX5_readDay_29 : decode cX5_readDay 29 = .ok (.iconst 1, 1) := by decide +kernel
theorem dX5_readDay_30 : decode cX5_readDay 30 = .ok (.goto 4, 3) := by decide +kernel
theorem dX5_readDay_33 : decode cX5_readDay 33 = .ok (.iconst 0, 1) := by decide +kernel
theorem dX5_readDay_34 : decode cX5_readDay 34 = .ok (.ireturn, 1) := by decide +kernel
noncomputable def k_X5_readDay (F : Nat) : AK := ak_aload 0 (ak_aload 1 (ak_iload 2 (ak_callv 5 2 (m_X5_open F) (ak_aload 0 (ak_getf 5 1 (ak_push (vI 0) (ak_putf 2 0 (ak_aload 0 (ak_push (vI 12) (ak_push (vI 13) (ak_callv 5 2 (m_X5_readLines F) (ak_aload 0 (ak_getf 5 2 (ak_ifeq (ak_push (vI 1) ak_ireturn) (ak_push (vI 0) ak_ireturn)))))))))))))))
noncomputable def m_X5_readDay (F : Nat) : AF := mkF 2 3 (k_X5_readDay F)
set_option maxRecDepth 20000 in
theorem s_X5_readDay (F : Nat) : MA yX5_readDay cX5_readDay 3 (some .boolean) 7 (m_X5_readDay F) := met_of (Or.inr (Or.inr (Or.inl ⟨rfl, rfl⟩))) (by decide) (by
  unfold k_X5_readDay
  exact snd_aload_n (pc := 0) (i := 0) dX5_readDay_0 (snd_aload_n (pc := 1) (i := 1) dX5_readDay_1 (snd_iload_n (pc := 2) (i := 2) dX5_readDay_2 (snd_callV (pc := 3) (n := 2) cls5 (s_X5_open F) (by decide) (by decide) wd_640 wd_637 wd_639 wd_1 wd_124 hy_X5_open dX5_readDay_3 (snd_aload_n (pc := 6) (i := 0) dX5_readDay_6 (snd_getf (pc := 7) cls5 (f := 1) (by decide) wd_353 dX5_readDay_7 (snd_iconst (pc := 10) dX5_readDay_10 (snd_putf (pc := 11) cls2 (f := 0) (by decide) rfl rfl rfl wd_289 dX5_readDay_11 (snd_aload_n (pc := 14) (i := 0) dX5_readDay_14 (snd_bipush (pc := 15) (by decide) dX5_readDay_15 (snd_bipush (pc := 17) (by decide) dX5_readDay_17 (snd_callV (pc := 19) (n := 2) cls5 (s_X5_readLines F) (by decide) (by decide) wd_654 wd_651 wd_653 wd_2 wd_124 hy_X5_readLines dX5_readDay_19 (snd_aload_n (pc := 22) (i := 0) dX5_readDay_22 (snd_getf (pc := 23) cls5 (f := 2) (by decide) wd_355 dX5_readDay_23 (snd_ifne (pc := 26) (off := 7) (tgt := 33) (by decide) dX5_readDay_26 (snd_iconst (pc := 33) dX5_readDay_33 (snd_ireturn dX5_readDay_34)) (snd_iconst (pc := 29) dX5_readDay_29 (snd_goto (pc := 30) (off := 4) (tgt := 34) (by decide) dX5_readDay_30 (snd_ireturn dX5_readDay_34))))))))))))))))))

/-! LastWalker$Runner.begin(LLastWalker$Town;)V -/
theorem dX6_begin_0 : decode cX6_begin 0 = .ok (.aload_n 0, 1) := by decide +kernel
theorem dX6_begin_1 : decode cX6_begin 1 = .ok (.iconst 0, 1) := by decide +kernel
theorem dX6_begin_2 : decode cX6_begin 2 = .ok (.putfield 27, 3) := by decide +kernel
theorem dX6_begin_5 : decode cX6_begin 5 = .ok (.aload_n 0, 1) := by decide +kernel
theorem dX6_begin_6 : decode cX6_begin 6 = .ok (.iconst 0, 1) := by decide +kernel
theorem dX6_begin_7 : decode cX6_begin 7 = .ok (.putfield 31, 3) := by decide +kernel
theorem dX6_begin_10 : decode cX6_begin 10 = .ok (.aload_n 0, 1) := by decide +kernel
theorem dX6_begin_11 : decode cX6_begin 11 = .ok (.iconst 0, 1) := by decide +kernel
theorem dX6_begin_12 : decode cX6_begin 12 = .ok (.putfield 34, 3) := by decide +kernel
theorem dX6_begin_15 : decode cX6_begin 15 = .ok (.aload_n 1, 1) := by decide +kernel
theorem dX6_begin_16 : decode cX6_begin 16 = .ok (.aload_n 0, 1) := by decide +kernel
theorem dX6_begin_17 : decode cX6_begin 17 = .ok (.getfield 9, 3) := by decide +kernel
theorem dX6_begin_20 : decode cX6_begin 20 = .ok (.invokevirtual 37, 3) := by decide +kernel
theorem dX6_begin_23 : decode cX6_begin 23 = .ok (.aload_n 1, 1) := by decide +kernel
theorem dX6_begin_24 : decode cX6_begin 24 = .ok (.getfield 43, 3) := by decide +kernel
theorem dX6_begin_27 : decode cX6_begin 27 = .ok (.iconst 0, 1) := by decide +kernel
theorem dX6_begin_28 : decode cX6_begin 28 = .ok (.aload_n 0, 1) := by decide +kernel
theorem dX6_begin_29 : decode cX6_begin 29 = .ok (.getfield 15, 3) := by decide +kernel
theorem dX6_begin_32 : decode cX6_begin 32 = .ok (.iconst 0, 1) := by decide +kernel
theorem dX6_begin_33 : decode cX6_begin 33 = .ok (.bipush 8, 2) := by decide +kernel
theorem dX6_begin_35 : decode cX6_begin 35 = .ok (.invokestatic 46, 3) := by decide +kernel
theorem dX6_begin_38 : decode cX6_begin 38 = .ok (.aload_n 0, 1) := by decide +kernel
theorem dX6_begin_39 : decode cX6_begin 39 = .ok (.getfield 18, 3) := by decide +kernel
theorem dX6_begin_42 : decode cX6_begin 42 = .ok (.iconst 0, 1) := by decide +kernel
theorem dX6_begin_43 : decode cX6_begin 43 = .ok (.invokestatic 52, 3) := by decide +kernel
theorem dX6_begin_46 : decode cX6_begin 46 = .ok (.aload_n 0, 1) := by decide +kernel
theorem dX6_begin_47 : decode cX6_begin 47 = .ok (.getfield 21, 3) := by decide +kernel
theorem dX6_begin_50 : decode cX6_begin 50 = .ok (.iconst (-1), 1) := by decide +kernel
theorem dX6_begin_51 : decode cX6_begin 51 = .ok (.invokestatic 52, 3) := by decide +kernel
theorem dX6_begin_54 : decode cX6_begin 54 = .ok (.aload_n 0, 1) := by decide +kernel
theorem dX6_begin_55 : decode cX6_begin 55 = .ok (.getfield 24, 3) := by decide +kernel
theorem dX6_begin_58 : decode cX6_begin 58 = .ok (.iconst 0, 1) := by decide +kernel
theorem dX6_begin_59 : decode cX6_begin 59 = .ok (.invokestatic 52, 3) := by decide +kernel
theorem dX6_begin_62 : decode cX6_begin 62 = .ok (.return_, 1) := by decide +kernel
noncomputable def k_X6_begin (F : Nat) : AK := ak_aload 0 (ak_push (vI 0) (ak_putf 6 0 (ak_aload 0 (ak_push (vI 0) (ak_putf 6 1 (ak_aload 0 (ak_push (vI 0) (ak_putf 6 2 (ak_aload 1 (ak_aload 0 (ak_getf 6 3 (ak_callv 7 1 (m_X7_putFirstOwners F) (ak_aload 1 (ak_getf 7 9 (ak_push (vI 0) (ak_aload 0 (ak_getf 6 4 (ak_push (vI 0) (ak_push (vI 8) (ak_copy0 (ak_aload 0 (ak_getf 6 5 (ak_push (vI 0) (ak_call 2 (m_J7_fill_53178 F) (ak_aload 0 (ak_getf 6 6 (ak_push (vI (-1)) (ak_call 2 (m_J7_fill_53178 F) (ak_aload 0 (ak_getf 6 7 (ak_push (vI 0) (ak_call 2 (m_J7_fill_53178 F) ak_return))))))))))))))))))))))))))))))))
noncomputable def m_X6_begin (F : Nat) : AF := mkF 0 2 (k_X6_begin F)
set_option maxRecDepth 20000 in
theorem s_X6_begin (F : Nat) : MA yX6_begin cX6_begin 2 none 1 (m_X6_begin F) := met_of (Or.inl ⟨rfl, rfl⟩) (by decide) (by
  unfold k_X6_begin
  exact snd_aload_n (pc := 0) (i := 0) dX6_begin_0 (snd_iconst (pc := 1) dX6_begin_1 (snd_putf (pc := 2) cls6 (f := 0) (by decide) rfl rfl rfl wd_401 dX6_begin_2 (snd_aload_n (pc := 5) (i := 0) dX6_begin_5 (snd_iconst (pc := 6) dX6_begin_6 (snd_putf (pc := 7) cls6 (f := 1) (by decide) rfl rfl rfl wd_403 dX6_begin_7 (snd_aload_n (pc := 10) (i := 0) dX6_begin_10 (snd_iconst (pc := 11) dX6_begin_11 (snd_putf (pc := 12) cls6 (f := 2) (by decide) rfl rfl rfl wd_405 dX6_begin_12 (snd_aload_n (pc := 15) (i := 1) dX6_begin_15 (snd_aload_n (pc := 16) (i := 0) dX6_begin_16 (snd_getf (pc := 17) cls6 (f := 3) (by decide) wd_407 dX6_begin_17 (snd_callV (pc := 20) (n := 1) cls7 (s_X7_putFirstOwners F) (by decide) (by decide) wd_905 wd_902 wd_903 wd_904 wd_122 hy_X7_putFirstOwners dX6_begin_20 (snd_aload_n (pc := 23) (i := 1) dX6_begin_23 (snd_getf (pc := 24) cls7 (f := 9) (by decide) wd_200 dX6_begin_24 (snd_iconst (pc := 27) dX6_begin_27 (snd_aload_n (pc := 28) (i := 0) dX6_begin_28 (snd_getf (pc := 29) cls6 (f := 4) (by decide) wd_409 dX6_begin_29 (snd_iconst (pc := 32) dX6_begin_32 (snd_bipush (pc := 33) (by decide) dX6_begin_33 (snd_copy (pc := 35) (by decide) wd_906 wd_812 wd_811 wd_136 dX6_begin_35 (snd_aload_n (pc := 38) (i := 0) dX6_begin_38 (snd_getf (pc := 39) cls6 (f := 5) (by decide) wd_411 dX6_begin_39 (snd_iconst (pc := 42) dX6_begin_42 (snd_callS (pc := 43) (n := 2) (s_J7_fill_53178 F) (by decide) (by decide) wd_650 wd_907 wd_649 wd_131 hy_J7_fill_53178 dX6_begin_43 (snd_aload_n (pc := 46) (i := 0) dX6_begin_46 (snd_getf (pc := 47) cls6 (f := 6) (by decide) wd_413 dX6_begin_47 (snd_iconst (pc := 50) dX6_begin_50 (snd_callS (pc := 51) (n := 2) (s_J7_fill_53178 F) (by decide) (by decide) wd_650 wd_907 wd_649 wd_131 hy_J7_fill_53178 dX6_begin_51 (snd_aload_n (pc := 54) (i := 0) dX6_begin_54 (snd_getf (pc := 55) cls6 (f := 7) (by decide) wd_414 dX6_begin_55 (snd_iconst (pc := 58) dX6_begin_58 (snd_callS (pc := 59) (n := 2) (s_J7_fill_53178 F) (by decide) (by decide) wd_650 wd_907 wd_649 wd_131 hy_J7_fill_53178 dX6_begin_59 (snd_return dX6_begin_62))))))))))))))))))))))))))))))))))

/-! LastWalker$Town.hasPerson(I)Z -/
theorem dX7_hasPerson_0 : decode cX7_hasPerson 0 = .ok (.iload_n 1, 1) := by decide +kernel
theorem dX7_hasPerson_1 : decode cX7_hasPerson 1 = .ok (.ifCond .lt 15, 3) := by decide +kernel
theorem dX7_hasPerson_4 : decode cX7_hasPerson 4 = .ok (.iload_n 1, 1) := by decide +kernel
theorem dX7_hasPerson_5 : decode cX7_hasPerson 5 = .ok (.aload_n 0, 1) := by decide +kernel
theorem dX7_hasPerson_6 : decode cX7_hasPerson 6 = .ok (.getfield 58, 3) := by decide +kernel
theorem dX7_hasPerson_9 : decode cX7_hasPerson 9 = .ok (.if_icmp .ge 7, 3) := by decide +kernel
theorem dX7_hasPerson_12 : decode cX7_hasPerson 12 = .ok (.iconst 1, 1) := by decide +kernel
theorem dX7_hasPerson_13 : decode cX7_hasPerson 13 = .ok (.goto 4, 3) := by decide +kernel
theorem dX7_hasPerson_16 : decode cX7_hasPerson 16 = .ok (.iconst 0, 1) := by decide +kernel
theorem dX7_hasPerson_17 : decode cX7_hasPerson 17 = .ok (.ireturn, 1) := by decide +kernel
noncomputable def k_X7_hasPerson (F : Nat) : AK := ak_iload 1 (ak_iflt (ak_push (vI 0) ak_ireturn) (ak_iload 1 (ak_aload 0 (ak_getf 7 8 (ak_cmplt (ak_push (vI 1) ak_ireturn) (ak_push (vI 0) ak_ireturn))))))
noncomputable def m_X7_hasPerson (F : Nat) : AF := mkF 2 2 (k_X7_hasPerson F)
set_option maxRecDepth 20000 in
theorem s_X7_hasPerson (F : Nat) : MA yX7_hasPerson cX7_hasPerson 2 (some .boolean) 0 (m_X7_hasPerson F) := met_of (Or.inr (Or.inr (Or.inl ⟨rfl, rfl⟩))) (by decide) (by
  unfold k_X7_hasPerson
  exact snd_iload_n (pc := 0) (i := 1) dX7_hasPerson_0 (snd_iflt (pc := 1) (off := 15) (tgt := 16) (by decide) dX7_hasPerson_1 (snd_iconst (pc := 16) dX7_hasPerson_16 (snd_ireturn dX7_hasPerson_17)) (snd_iload_n (pc := 4) (i := 1) dX7_hasPerson_4 (snd_aload_n (pc := 5) (i := 0) dX7_hasPerson_5 (snd_getf (pc := 6) cls7 (f := 8) (by decide) wd_194 dX7_hasPerson_6 (snd_icmpge (pc := 9) (off := 7) (tgt := 16) (by decide) dX7_hasPerson_9 (snd_iconst (pc := 16) dX7_hasPerson_16 (snd_ireturn dX7_hasPerson_17)) (snd_iconst (pc := 12) dX7_hasPerson_12 (snd_goto (pc := 13) (off := 4) (tgt := 17) (by decide) dX7_hasPerson_13 (snd_ireturn dX7_hasPerson_17)))))))))

/-! LastWalker$Town.hasRoad(I)Z -/
theorem dX7_hasRoad_0 : decode cX7_hasRoad 0 = .ok (.iload_n 1, 1) := by decide +kernel
theorem dX7_hasRoad_1 : decode cX7_hasRoad 1 = .ok (.ifCond .lt 15, 3) := by decide +kernel
theorem dX7_hasRoad_4 : decode cX7_hasRoad 4 = .ok (.iload_n 1, 1) := by decide +kernel
theorem dX7_hasRoad_5 : decode cX7_hasRoad 5 = .ok (.aload_n 0, 1) := by decide +kernel
theorem dX7_hasRoad_6 : decode cX7_hasRoad 6 = .ok (.getfield 55, 3) := by decide +kernel
theorem dX7_hasRoad_9 : decode cX7_hasRoad 9 = .ok (.if_icmp .ge 7, 3) := by decide +kernel
theorem dX7_hasRoad_12 : decode cX7_hasRoad 12 = .ok (.iconst 1, 1) := by decide +kernel
theorem dX7_hasRoad_13 : decode cX7_hasRoad 13 = .ok (.goto 4, 3) := by decide +kernel
theorem dX7_hasRoad_16 : decode cX7_hasRoad 16 = .ok (.iconst 0, 1) := by decide +kernel
theorem dX7_hasRoad_17 : decode cX7_hasRoad 17 = .ok (.ireturn, 1) := by decide +kernel
noncomputable def k_X7_hasRoad (F : Nat) : AK := ak_iload 1 (ak_iflt (ak_push (vI 0) ak_ireturn) (ak_iload 1 (ak_aload 0 (ak_getf 7 1 (ak_cmplt (ak_push (vI 1) ak_ireturn) (ak_push (vI 0) ak_ireturn))))))
noncomputable def m_X7_hasRoad (F : Nat) : AF := mkF 2 2 (k_X7_hasRoad F)
set_option maxRecDepth 20000 in
theorem s_X7_hasRoad (F : Nat) : MA yX7_hasRoad cX7_hasRoad 2 (some .boolean) 0 (m_X7_hasRoad F) := met_of (Or.inr (Or.inr (Or.inl ⟨rfl, rfl⟩))) (by decide) (by
  unfold k_X7_hasRoad
  exact snd_iload_n (pc := 0) (i := 1) dX7_hasRoad_0 (snd_iflt (pc := 1) (off := 15) (tgt := 16) (by decide) dX7_hasRoad_1 (snd_iconst (pc := 16) dX7_hasRoad_16 (snd_ireturn dX7_hasRoad_17)) (snd_iload_n (pc := 4) (i := 1) dX7_hasRoad_4 (snd_aload_n (pc := 5) (i := 0) dX7_hasRoad_5 (snd_getf (pc := 6) cls7 (f := 1) (by decide) wd_163 dX7_hasRoad_6 (snd_icmpge (pc := 9) (off := 7) (tgt := 16) (by decide) dX7_hasRoad_9 (snd_iconst (pc := 16) dX7_hasRoad_16 (snd_ireturn dX7_hasRoad_17)) (snd_iconst (pc := 12) dX7_hasRoad_12 (snd_goto (pc := 13) (off := 4) (tgt := 17) (by decide) dX7_hasRoad_13 (snd_ireturn dX7_hasRoad_17)))))))))

/-! LastWalker$Town.farEnd(II)I -/
theorem dX7_farEnd_0 : decode cX7_farEnd 0 = .ok (.aload_n 0, 1) := by decide +kernel
theorem dX7_farEnd_1 : decode cX7_farEnd 1 = .ok (.getfield 9, 3) := by decide +kernel
theorem dX7_farEnd_4 : decode cX7_farEnd 4 = .ok (.iload_n 1, 1) := by decide +kernel
theorem dX7_farEnd_5 : decode cX7_farEnd 5 = .ok (.iaload, 1) := by decide +kernel
theorem dX7_farEnd_6 : decode cX7_farEnd 6 = .ok (.iload_n 2, 1) := by decide +kernel
theorem dX7_farEnd_7 : decode cX7_farEnd 7 = .ok (.if_icmp .ne 10, 3) := by decide +kernel
theorem dX7_farEnd_10 : decode cX7_farEnd 10 = .ok (.aload_n 0, 1) := by decide +kernel
theorem dX7_farEnd_11 : decode cX7_farEnd 11 = .ok (.getfield 15, 3) := by decide +kernel
theorem dX7_farEnd_14 : decode cX7_farEnd 14 = .ok (.iload_n 1, 1) := by decide +kernel
theorem dX7_farEnd_15 : decode cX7_farEnd 15 = .ok (.iaload, 1) := by decide +kernel
theorem dX7_farEnd_16 : decode cX7_farEnd 16 = .ok (.ireturn, 1) := by decide +kernel
theorem dX7_farEnd_17 : decode cX7_farEnd 17 = .ok (.aload_n 0, 1) := by decide +kernel
theorem dX7_farEnd_18 : decode cX7_farEnd 18 = .ok (.getfield 15, 3) := by decide +kernel
theorem dX7_farEnd_21 : decode cX7_farEnd 21 = .ok (.iload_n 1, 1) := by decide +kernel
theorem dX7_farEnd_22 : decode cX7_farEnd 22 = .ok (.iaload, 1) := by decide +kernel
theorem dX7_farEnd_23 : decode cX7_farEnd 23 = .ok (.iload_n 2, 1) := by decide +kernel
theorem dX7_farEnd_24 : decode cX7_farEnd 24 = .ok (.if_icmp .ne 12, 3) := by decide +kernel
theorem dX7_farEnd_27 : decode cX7_farEnd 27 = .ok (.aload_n 0, 1) := by decide +kernel
theorem dX7_farEnd_28 : decode cX7_farEnd 28 = .ok (.getfield 9, 3) := by decide +kernel
theorem dX7_farEnd_31 : decode cX7_farEnd 31 = .ok (.iload_n 1, 1) := by decide +kernel
theorem dX7_farEnd_32 : decode cX7_farEnd 32 = .ok (.iaload, 1) := by decide +kernel
theorem dX7_farEnd_33 : decode cX7_farEnd 33 = .ok (.goto 4, 3) := by decide +kernel
theorem dX7_farEnd_36 : decode cX7_farEnd 36 = .ok (.iconst (-1), 1) := by decide +kernel
theorem dX7_farEnd_37 : decode cX7_farEnd 37 = .ok (.ireturn, 1) := by decide +kernel
noncomputable def k_X7_farEnd (F : Nat) : AK := ak_aload 0 (ak_getf 7 2 (ak_iload 1 (ak_iald (ak_iload 2 (ak_cmpeq (ak_aload 0 (ak_getf 7 3 (ak_iload 1 (ak_iald ak_ireturn)))) (ak_aload 0 (ak_getf 7 3 (ak_iload 1 (ak_iald (ak_iload 2 (ak_cmpeq (ak_aload 0 (ak_getf 7 2 (ak_iload 1 (ak_iald ak_ireturn)))) (ak_push (vI (-1)) ak_ireturn))))))))))))
noncomputable def m_X7_farEnd (F : Nat) : AF := mkF 1 3 (k_X7_farEnd F)
set_option maxRecDepth 20000 in
theorem s_X7_farEnd (F : Nat) : MA yX7_farEnd cX7_farEnd 3 (some .int) 0 (m_X7_farEnd F) := met_of (Or.inr (Or.inl ⟨rfl, rfl⟩)) (by decide) (by
  unfold k_X7_farEnd
  exact snd_aload_n (pc := 0) (i := 0) dX7_farEnd_0 (snd_getf (pc := 1) cls7 (f := 2) (by decide) wd_169 dX7_farEnd_1 (snd_iload_n (pc := 4) (i := 1) dX7_farEnd_4 (snd_iald (pc := 5) dX7_farEnd_5 (snd_iload_n (pc := 6) (i := 2) dX7_farEnd_6 (snd_icmpne (pc := 7) (off := 10) (tgt := 17) (by decide) dX7_farEnd_7 (snd_aload_n (pc := 17) (i := 0) dX7_farEnd_17 (snd_getf (pc := 18) cls7 (f := 3) (by decide) wd_173 dX7_farEnd_18 (snd_iload_n (pc := 21) (i := 1) dX7_farEnd_21 (snd_iald (pc := 22) dX7_farEnd_22 (snd_iload_n (pc := 23) (i := 2) dX7_farEnd_23 (snd_icmpne (pc := 24) (off := 12) (tgt := 36) (by decide) dX7_farEnd_24 (snd_iconst (pc := 36) dX7_farEnd_36 (snd_ireturn dX7_farEnd_37)) (snd_aload_n (pc := 27) (i := 0) dX7_farEnd_27 (snd_getf (pc := 28) cls7 (f := 2) (by decide) wd_169 dX7_farEnd_28 (snd_iload_n (pc := 31) (i := 1) dX7_farEnd_31 (snd_iald (pc := 32) dX7_farEnd_32 (snd_goto (pc := 33) (off := 4) (tgt := 37) (by decide) dX7_farEnd_33 (snd_ireturn dX7_farEnd_37)))))))))))) (snd_aload_n (pc := 10) (i := 0) dX7_farEnd_10 (snd_getf (pc := 11) cls7 (f := 3) (by decide) wd_173 dX7_farEnd_11 (snd_iload_n (pc := 14) (i := 1) dX7_farEnd_14 (snd_iald (pc := 15) dX7_farEnd_15 (snd_ireturn dX7_farEnd_16)))))))))))

/-! LastWalker$Runner.isWalkedByAnother(LLastWalker$Town;II)Z -/
theorem dX6_isWalkedByAnother_0 : decode cX6_isWalkedByAnother 0 = .ok (.iconst 0, 1) := by decide +kernel
theorem dX6_isWalkedByAnother_1 : decode cX6_isWalkedByAnother 1 = .ok (.istore 4, 2) := by decide +kernel
theorem dX6_isWalkedByAnother_3 : decode cX6_isWalkedByAnother 3 = .ok (.iload 4, 2) := by decide +kernel
theorem dX6_isWalkedByAnother_5 : decode cX6_isWalkedByAnother 5 = .ok (.aload_n 1, 1) := by decide +kernel
theorem dX6_isWalkedByAnother_6 : decode cX6_isWalkedByAnother 6 = .ok (.getfield 108, 3) := by decide +kernel
theorem dX6_isWalkedByAnother_9 : decode cX6_isWalkedByAnother 9 = .ok (.if_icmp .ge 42, 3) := by decide +kernel
theorem dX6_isWalkedByAnother_12 : decode cX6_isWalkedByAnother 12 = .ok (.iload 4, 2) := by decide +kernel
theorem dX6_isWalkedByAnother_14 : decode cX6_isWalkedByAnother 14 = .ok (.iload_n 3, 1) := by decide +kernel
theorem dX6_isWalkedByAnother_15 : decode cX6_isWalkedByAnother 15 = .ok (.if_icmp .eq 30, 3) := by decide +kernel
theorem dX6_isWalkedByAnother_18 : decode cX6_isWalkedByAnother 18 = .ok (.aload_n 0, 1) := by decide +kernel
theorem dX6_isWalkedByAnother_19 : decode cX6_isWalkedByAnother 19 = .ok (.getfield 21, 3) := by decide +kernel
theorem dX6_isWalkedByAnother_22 : decode cX6_isWalkedByAnother 22 = .ok (.iload 4, 2) := by decide +kernel
theorem dX6_isWalkedByAnother_24 : decode cX6_isWalkedByAnother 24 = .ok (.iaload, 1) := by decide +kernel
theorem dX6_isWalkedByAnother_25 : decode cX6_isWalkedByAnother 25 = .ok (.iload_n 2, 1) := by decide +kernel
theorem dX6_isWalkedByAnother_26 : decode cX6_isWalkedByAnother 26 = .ok (.if_icmp .ne 19, 3) := by decide +kernel
theorem dX6_isWalkedByAnother_29 : decode cX6_isWalkedByAnother 29 = .ok (.aload_n 0, 1) := by decide +kernel
theorem dX6_isWalkedByAnother_30 : decode cX6_isWalkedByAnother 30 = .ok (.getfield 18, 3) := by decide +kernel
theorem dX6_isWalkedByAnother_33 : decode cX6_isWalkedByAnother 33 = .ok (.iload 4, 2) := by decide +kernel
theorem dX6_isWalkedByAnother_35 : decode cX6_isWalkedByAnother 35 = .ok (.iaload, 1) := by decide +kernel
theorem dX6_isWalkedByAnother_36 : decode cX6_isWalkedByAnother 36 = .ok (.aload_n 0, 1) := by decide +kernel
theorem dX6_isWalkedByAnother_37 : decode cX6_isWalkedByAnother 37 = .ok (.getfield 27, 3) := by decide +kernel
theorem dX6_isWalkedByAnother_40 : decode cX6_isWalkedByAnother 40 = .ok (.if_icmp .le 5, 3) := by decide +kernel
theorem dX6_isWalkedByAnother_43 : decode cX6_isWalkedByAnother 43 = .ok (.iconst 1, 1) := by decide +kernel
theorem dX6_isWalkedByAnother_44 : decode cX6_isWalkedByAnother 44 = .ok (.ireturn, 1) := by decide +kernel
theorem dX6_isWalkedByAnother_45 : decode cX6_isWalkedByAnother 45 = .ok (.iinc 4 1, 3) := by decide +kernel
theorem dX6_isWalkedByAnother_48 : decode cX6_isWalkedByAnother 48 = .ok (.goto (-45), 3) := by decide +kernel
theorem dX6_isWalkedByAnother_51 : decode cX6_isWalkedByAnother 51 = .ok (.iconst 0, 1) := by decide +kernel
theorem dX6_isWalkedByAnother_52 : decode cX6_isWalkedByAnother 52 = .ok (.ireturn, 1) := by decide +kernel
noncomputable def k_X6_isWalkedByAnother_45 (F : Nat) (h3 : AK) : AK := ak_iinc 4 1 h3
set_option maxRecDepth 20000 in
theorem sk_X6_isWalkedByAnother_45 (F : Nat) {h3 : AK} (hh3 : Snd X0 RX6 cX6_isWalkedByAnother 5 0 3 h3) : Snd X0 RX6 cX6_isWalkedByAnother 5 0 45 (k_X6_isWalkedByAnother_45 F h3) := by
  unfold k_X6_isWalkedByAnother_45
  exact snd_iinc (pc := 45) (i := 4) (n := 1) (by decide) dX6_isWalkedByAnother_45 (snd_goto (pc := 48) (off := (-45)) (tgt := 3) (by decide) dX6_isWalkedByAnother_48 (hh3))
noncomputable def kb_X6_isWalkedByAnother_3 (F : Nat) (self : AK) : AK := ak_iload 4 (ak_aload 1 (ak_getf 7 8 (ak_cmplt (ak_iload 4 (ak_iload 3 (ak_cmpeq ((k_X6_isWalkedByAnother_45 F self)) (ak_aload 0 (ak_getf 6 6 (ak_iload 4 (ak_iald (ak_iload 2 (ak_cmpeq (ak_aload 0 (ak_getf 6 5 (ak_iload 4 (ak_iald (ak_aload 0 (ak_getf 6 0 (ak_cmpgt (ak_push (vI 1) ak_ireturn) ((k_X6_isWalkedByAnother_45 F self))))))))) ((k_X6_isWalkedByAnother_45 F self))))))))))) (ak_push (vI 0) ak_ireturn))))
noncomputable def k_X6_isWalkedByAnother_3 (F : Nat) (n : Nat) : AK := Nat.rec (motive := fun _ => AK) ak_none (fun _ self => kb_X6_isWalkedByAnother_3 F self) n
set_option maxRecDepth 20000 in
theorem sk_X6_isWalkedByAnother_3 (F : Nat) : ∀ n, Snd X0 RX6 cX6_isWalkedByAnother 5 0 3 (k_X6_isWalkedByAnother_3 F n) := by
  intro n
  induction n with
  | zero => exact snd_none
  | succ n ih =>
    show Snd X0 RX6 cX6_isWalkedByAnother 5 0 3 (kb_X6_isWalkedByAnother_3 F (k_X6_isWalkedByAnother_3 F n))
    unfold kb_X6_isWalkedByAnother_3
    exact snd_iload (pc := 3) (i := 4) dX6_isWalkedByAnother_3 (snd_aload_n (pc := 5) (i := 1) dX6_isWalkedByAnother_5 (snd_getf (pc := 6) cls7 (f := 8) (by decide) wd_195 dX6_isWalkedByAnother_6 (snd_icmpge (pc := 9) (off := 42) (tgt := 51) (by decide) dX6_isWalkedByAnother_9 (snd_iconst (pc := 51) dX6_isWalkedByAnother_51 (snd_ireturn dX6_isWalkedByAnother_52)) (snd_iload (pc := 12) (i := 4) dX6_isWalkedByAnother_12 (snd_iload_n (pc := 14) (i := 3) dX6_isWalkedByAnother_14 (snd_icmpeq (pc := 15) (off := 30) (tgt := 45) (by decide) dX6_isWalkedByAnother_15 ((sk_X6_isWalkedByAnother_45 F ih)) (snd_aload_n (pc := 18) (i := 0) dX6_isWalkedByAnother_18 (snd_getf (pc := 19) cls6 (f := 6) (by decide) wd_413 dX6_isWalkedByAnother_19 (snd_iload (pc := 22) (i := 4) dX6_isWalkedByAnother_22 (snd_iald (pc := 24) dX6_isWalkedByAnother_24 (snd_iload_n (pc := 25) (i := 2) dX6_isWalkedByAnother_25 (snd_icmpne (pc := 26) (off := 19) (tgt := 45) (by decide) dX6_isWalkedByAnother_26 ((sk_X6_isWalkedByAnother_45 F ih)) (snd_aload_n (pc := 29) (i := 0) dX6_isWalkedByAnother_29 (snd_getf (pc := 30) cls6 (f := 5) (by decide) wd_411 dX6_isWalkedByAnother_30 (snd_iload (pc := 33) (i := 4) dX6_isWalkedByAnother_33 (snd_iald (pc := 35) dX6_isWalkedByAnother_35 (snd_aload_n (pc := 36) (i := 0) dX6_isWalkedByAnother_36 (snd_getf (pc := 37) cls6 (f := 0) (by decide) wd_401 dX6_isWalkedByAnother_37 (snd_icmple (pc := 40) (off := 5) (tgt := 45) (by decide) dX6_isWalkedByAnother_40 ((sk_X6_isWalkedByAnother_45 F ih)) (snd_iconst (pc := 43) dX6_isWalkedByAnother_43 (snd_ireturn dX6_isWalkedByAnother_44)))))))))))))))))))))
noncomputable def k_X6_isWalkedByAnother (F : Nat) : AK := ak_push (vI 0) (ak_istore 4 ((k_X6_isWalkedByAnother_3 F F)))
noncomputable def m_X6_isWalkedByAnother (F : Nat) : AF := mkF 2 5 (k_X6_isWalkedByAnother F)
set_option maxRecDepth 20000 in
theorem s_X6_isWalkedByAnother (F : Nat) : MA yX6_isWalkedByAnother cX6_isWalkedByAnother 5 (some .boolean) 0 (m_X6_isWalkedByAnother F) := met_of (Or.inr (Or.inr (Or.inl ⟨rfl, rfl⟩))) (by decide) (by
  unfold k_X6_isWalkedByAnother
  exact snd_iconst (pc := 0) dX6_isWalkedByAnother_0 (snd_istore (pc := 1) (i := 4) (by decide) dX6_isWalkedByAnother_1 ((sk_X6_isWalkedByAnother_3 F F))))

/-! LastWalker$Runner.payFor(LLastWalker$Town;II)V -/
theorem dX6_payFor_0 : decode cX6_payFor 0 = .ok (.aload_n 0, 1) := by decide +kernel
theorem dX6_payFor_1 : decode cX6_payFor 1 = .ok (.getfield 9, 3) := by decide +kernel
theorem dX6_payFor_4 : decode cX6_payFor 4 = .ok (.iload_n 2, 1) := by decide +kernel
theorem dX6_payFor_5 : decode cX6_payFor 5 = .ok (.iaload, 1) := by decide +kernel
theorem dX6_payFor_6 : decode cX6_payFor 6 = .ok (.istore 4, 2) := by decide +kernel
theorem dX6_payFor_8 : decode cX6_payFor 8 = .ok (.iload 4, 2) := by decide +kernel
theorem dX6_payFor_10 : decode cX6_payFor 10 = .ok (.iconst (-1), 1) := by decide +kernel
theorem dX6_payFor_11 : decode cX6_payFor 11 = .ok (.if_icmp .eq 45, 3) := by decide +kernel
theorem dX6_payFor_14 : decode cX6_payFor 14 = .ok (.iload 4, 2) := by decide +kernel
theorem dX6_payFor_16 : decode cX6_payFor 16 = .ok (.iload_n 3, 1) := by decide +kernel
theorem dX6_payFor_17 : decode cX6_payFor 17 = .ok (.if_icmp .eq 39, 3) := by decide +kernel
theorem dX6_payFor_20 : decode cX6_payFor 20 = .ok (.aload_n 0, 1) := by decide +kernel
theorem dX6_payFor_21 : decode cX6_payFor 21 = .ok (.getfield 24, 3) := by decide +kernel
theorem dX6_payFor_24 : decode cX6_payFor 24 = .ok (.iload_n 3, 1) := by decide +kernel
theorem dX6_payFor_25 : decode cX6_payFor 25 = .ok (.bipush 8, 2) := by decide +kernel
theorem dX6_payFor_27 : decode cX6_payFor 27 = .ok (.imul, 1) := by decide +kernel
theorem dX6_payFor_28 : decode cX6_payFor 28 = .ok (.iload 4, 2) := by decide +kernel
theorem dX6_payFor_30 : decode cX6_payFor 30 = .ok (.iadd, 1) := by decide +kernel
theorem dX6_payFor_31 : decode cX6_payFor 31 = .ok (.dup2, 1) := by decide +kernel
theorem dX6_payFor_32 : decode cX6_payFor 32 = .ok (.iaload, 1) := by decide +kernel
theorem dX6_payFor_33 : decode cX6_payFor 33 = .ok (.aload_n 1, 1) := by decide +kernel
theorem dX6_payFor_34 : decode cX6_payFor 34 = .ok (.getfield 111, 3) := by decide +kernel
theorem dX6_payFor_37 : decode cX6_payFor 37 = .ok (.iload_n 2, 1) := by decide +kernel
theorem dX6_payFor_38 : decode cX6_payFor 38 = .ok (.iaload, 1) := by decide +kernel
theorem dX6_payFor_39 : decode cX6_payFor 39 = .ok (.iadd, 1) := by decide +kernel
theorem dX6_payFor_40 : decode cX6_payFor 40 = .ok (.iastore, 1) := by decide +kernel
theorem dX6_payFor_41 : decode cX6_payFor 41 = .ok (.aload_n 0, 1) := by decide +kernel
theorem dX6_payFor_42 : decode cX6_payFor 42 = .ok (.dup, 1) := by decide +kernel
theorem dX6_payFor_43 : decode cX6_payFor 43 = .ok (.getfield 31, 3) := by decide +kernel
theorem dX6_payFor_46 : decode cX6_payFor 46 = .ok (.aload_n 1, 1) := by decide +kernel
theorem dX6_payFor_47 : decode cX6_payFor 47 = .ok (.getfield 111, 3) := by decide +kernel
theorem dX6_payFor_50 : decode cX6_payFor 50 = .ok (.iload_n 2, 1) := by decide +kernel
theorem dX6_payFor_51 : decode cX6_payFor 51 = .ok (.iaload, 1) := by decide +kernel
theorem dX6_payFor_52 : decode cX6_payFor 52 = .ok (.iadd, 1) := by decide +kernel
theorem dX6_payFor_53 : decode cX6_payFor 53 = .ok (.putfield 31, 3) := by decide +kernel
theorem dX6_payFor_56 : decode cX6_payFor 56 = .ok (.return_, 1) := by decide +kernel
noncomputable def k_X6_payFor (F : Nat) : AK := ak_aload 0 (ak_getf 6 3 (ak_iload 2 (ak_iald (ak_istore 4 (ak_iload 4 (ak_push (vI (-1)) (ak_cmpeq (ak_return) (ak_iload 4 (ak_iload 3 (ak_cmpeq (ak_return) (ak_aload 0 (ak_getf 6 7 (ak_iload 3 (ak_push (vI 8) (ak_imul (ak_iload 4 (ak_iadd (ak_dup2 (ak_iald (ak_aload 1 (ak_getf 7 5 (ak_iload 2 (ak_iald (ak_iadd (ak_iast (ak_aload 0 (ak_dup (ak_getf 6 1 (ak_aload 1 (ak_getf 7 5 (ak_iload 2 (ak_iald (ak_iadd (ak_putf 6 1 ak_return))))))))))))))))))))))))))))))))))
noncomputable def m_X6_payFor (F : Nat) : AF := mkF 0 5 (k_X6_payFor F)
set_option maxRecDepth 20000 in
theorem s_X6_payFor (F : Nat) : MA yX6_payFor cX6_payFor 5 none 0 (m_X6_payFor F) := met_of (Or.inl ⟨rfl, rfl⟩) (by decide) (by
  unfold k_X6_payFor
  exact snd_aload_n (pc := 0) (i := 0) dX6_payFor_0 (snd_getf (pc := 1) cls6 (f := 3) (by decide) wd_407 dX6_payFor_1 (snd_iload_n (pc := 4) (i := 2) dX6_payFor_4 (snd_iald (pc := 5) dX6_payFor_5 (snd_istore (pc := 6) (i := 4) (by decide) dX6_payFor_6 (snd_iload (pc := 8) (i := 4) dX6_payFor_8 (snd_iconst (pc := 10) dX6_payFor_10 (snd_icmpeq (pc := 11) (off := 45) (tgt := 56) (by decide) dX6_payFor_11 (snd_return dX6_payFor_56) (snd_iload (pc := 14) (i := 4) dX6_payFor_14 (snd_iload_n (pc := 16) (i := 3) dX6_payFor_16 (snd_icmpeq (pc := 17) (off := 39) (tgt := 56) (by decide) dX6_payFor_17 (snd_return dX6_payFor_56) (snd_aload_n (pc := 20) (i := 0) dX6_payFor_20 (snd_getf (pc := 21) cls6 (f := 7) (by decide) wd_414 dX6_payFor_21 (snd_iload_n (pc := 24) (i := 3) dX6_payFor_24 (snd_bipush (pc := 25) (by decide) dX6_payFor_25 (snd_imul (pc := 27) dX6_payFor_27 (snd_iload (pc := 28) (i := 4) dX6_payFor_28 (snd_iadd (pc := 30) dX6_payFor_30 (snd_dup2 (pc := 31) dX6_payFor_31 (snd_iald (pc := 32) dX6_payFor_32 (snd_aload_n (pc := 33) (i := 1) dX6_payFor_33 (snd_getf (pc := 34) cls7 (f := 5) (by decide) wd_185 dX6_payFor_34 (snd_iload_n (pc := 37) (i := 2) dX6_payFor_37 (snd_iald (pc := 38) dX6_payFor_38 (snd_iadd (pc := 39) dX6_payFor_39 (snd_iast (pc := 40) dX6_payFor_40 (snd_aload_n (pc := 41) (i := 0) dX6_payFor_41 (snd_dup (pc := 42) dX6_payFor_42 (snd_getf (pc := 43) cls6 (f := 1) (by decide) wd_403 dX6_payFor_43 (snd_aload_n (pc := 46) (i := 1) dX6_payFor_46 (snd_getf (pc := 47) cls7 (f := 5) (by decide) wd_185 dX6_payFor_47 (snd_iload_n (pc := 50) (i := 2) dX6_payFor_50 (snd_iald (pc := 51) dX6_payFor_51 (snd_iadd (pc := 52) dX6_payFor_52 (snd_putf (pc := 53) cls6 (f := 1) (by decide) rfl rfl rfl wd_403 dX6_payFor_53 (snd_return dX6_payFor_56))))))))))))))))))))))))))))))))))))

/-! LastWalker$Runner.step(LLastWalker$Town;LLastWalker$Day;I)Z -/
theorem dX6_step_0 : decode cX6_step 0 = .ok (.aload_n 2, 1) := by decide +kernel
theorem dX6_step_1 : decode cX6_step 1 = .ok (.getfield 77, 3) := by decide +kernel
theorem dX6_step_4 : decode cX6_step 4 = .ok (.iload_n 3, 1) := by decide +kernel
theorem dX6_step_5 : decode cX6_step 5 = .ok (.iaload, 1) := by decide +kernel
theorem dX6_step_6 : decode cX6_step 6 = .ok (.istore 4, 2) := by decide +kernel
theorem dX6_step_8 : decode cX6_step 8 = .ok (.iload 4, 2) := by decide +kernel
theorem dX6_step_10 : decode cX6_step 10 = .ok (.iconst (-1), 1) := by decide +kernel
theorem dX6_step_11 : decode cX6_step 11 = .ok (.if_icmp .ne 20, 3) := by decide +kernel
theorem dX6_step_14 : decode cX6_step 14 = .ok (.aload_n 0, 1) := by decide +kernel
theorem dX6_step_15 : decode cX6_step 15 = .ok (.dup, 1) := by decide +kernel
theorem dX6_step_16 : decode cX6_step 16 = .ok (.getfield 27, 3) := by decide +kernel
theorem dX6_step_19 : decode cX6_step 19 = .ok (.aload_n 2, 1) := by decide +kernel
theorem dX6_step_20 : decode cX6_step 20 = .ok (.getfield 80, 3) := by decide +kernel
theorem dX6_step_23 : decode cX6_step 23 = .ok (.iload_n 3, 1) := by decide +kernel
theorem dX6_step_24 : decode cX6_step 24 = .ok (.iaload, 1) := by decide +kernel
theorem dX6_step_25 : decode cX6_step 25 = .ok (.iadd, 1) := by decide +kernel
theorem dX6_step_26 : decode cX6_step 26 = .ok (.putfield 27, 3) := by decide +kernel
theorem dX6_step_29 : decode cX6_step 29 = .ok (.iconst 1, 1) := by decide +kernel
theorem dX6_step_30 : decode cX6_step 30 = .ok (.ireturn, 1) := by decide +kernel
theorem dX6_step_31 : decode cX6_step 31 = .ok (.aload_n 2, 1) := by decide +kernel
theorem dX6_step_32 : decode cX6_step 32 = .ok (.getfield 80, 3) := by decide +kernel
theorem dX6_step_35 : decode cX6_step 35 = .ok (.iload_n 3, 1) := by decide +kernel
theorem dX6_step_36 : decode cX6_step 36 = .ok (.iaload, 1) := by decide +kernel
theorem dX6_step_37 : decode cX6_step 37 = .ok (.istore 5, 2) := by decide +kernel
theorem dX6_step_39 : decode cX6_step 39 = .ok (.aload_n 1, 1) := by decide +kernel
theorem dX6_step_40 : decode cX6_step 40 = .ok (.iload 4, 2) := by decide +kernel
theorem dX6_step_42 : decode cX6_step 42 = .ok (.invokevirtual 83, 3) := by decide +kernel
theorem dX6_step_45 : decode cX6_step 45 = .ok (.ifCond .eq 12, 3) := by decide +kernel
theorem dX6_step_48 : decode cX6_step 48 = .ok (.aload_n 1, 1) := by decide +kernel
theorem dX6_step_49 : decode cX6_step 49 = .ok (.iload 5, 2) := by decide +kernel
theorem dX6_step_51 : decode cX6_step 51 = .ok (.invokevirtual 87, 3) := by decide +kernel
theorem dX6_step_54 : decode cX6_step 54 = .ok (.ifCond .ne 5, 3) := by decide +kernel
theorem dX6_step_57 : decode cX6_step 57 = .ok (.iconst 0, 1) := by decide +kernel
theorem dX6_step_58 : decode cX6_step 58 = .ok (.ireturn, 1) := by decide +kernel
theorem dX6_step_59 : decode cX6_step 59 = .ok (.aload_n 1, 1) := by decide +kernel
theorem dX6_step_60 : decode cX6_step 60 = .ok (.iload 5, 2) := by decide +kernel
theorem dX6_step_62 : decode cX6_step 62 = .ok (.aload_n 0, 1) := by decide +kernel
theorem dX6_step_63 : decode cX6_step 63 = .ok (.getfield 15, 3) := by decide +kernel
theorem dX6_step_66 : decode cX6_step 66 = .ok (.iload 4, 2) := by decide +kernel
theorem dX6_step_68 : decode cX6_step 68 = .ok (.iaload, 1) := by decide +kernel
theorem dX6_step_69 : decode cX6_step 69 = .ok (.invokevirtual 90, 3) := by decide +kernel
theorem dX6_step_72 : decode cX6_step 72 = .ok (.istore 6, 2) := by decide +kernel
theorem dX6_step_74 : decode cX6_step 74 = .ok (.iload 6, 2) := by decide +kernel
theorem dX6_step_76 : decode cX6_step 76 = .ok (.iconst (-1), 1) := by decide +kernel
theorem dX6_step_77 : decode cX6_step 77 = .ok (.if_icmp .eq 17, 3) := by decide +kernel
theorem dX6_step_80 : decode cX6_step 80 = .ok (.aload_n 0, 1) := by decide +kernel
theorem dX6_step_81 : decode cX6_step 81 = .ok (.getfield 27, 3) := by decide +kernel
theorem dX6_step_84 : decode cX6_step 84 = .ok (.aload_n 0, 1) := by decide +kernel
theorem dX6_step_85 : decode cX6_step 85 = .ok (.getfield 18, 3) := by decide +kernel
theorem dX6_step_88 : decode cX6_step 88 = .ok (.iload 4, 2) := by decide +kernel
theorem dX6_step_90 : decode cX6_step 90 = .ok (.iaload, 1) := by decide +kernel
theorem dX6_step_91 : decode cX6_step 91 = .ok (.if_icmp .ge 5, 3) := by decide +kernel
theorem dX6_step_94 : decode cX6_step 94 = .ok (.iconst 0, 1) := by decide +kernel
theorem dX6_step_95 : decode cX6_step 95 = .ok (.ireturn, 1) := by decide +kernel
theorem dX6_step_96 : decode cX6_step 96 = .ok (.aload_n 0, 1) := by decide +kernel
theorem dX6_step_97 : decode cX6_step 97 = .ok (.aload_n 1, 1) := by decide +kernel
theorem dX6_step_98 : decode cX6_step 98 = .ok (.iload 5, 2) := by decide +kernel
theorem dX6_step_100 : decode cX6_step 100 = .ok (.iload 4, 2) := by decide +kernel
theorem dX6_step_102 : decode cX6_step 102 = .ok (.invokevirtual 93, 3) := by decide +kernel
theorem dX6_step_105 : decode cX6_step 105 = .ok (.ifCond .eq 13, 3) := by decide +kernel
theorem dX6_step_108 : decode cX6_step 108 = .ok (.aload_n 0, 1) := by decide +kernel
theorem dX6_step_109 : decode cX6_step 109 = .ok (.dup, 1) := by decide +kernel
theorem dX6_step_110 : decode cX6_step 110 = .ok (.getfield 34, 3) := by decide +kernel
theorem dX6_step_113 : decode cX6_step 113 = .ok (.iconst 1, 1) := by decide +kernel
theorem dX6_step_114 : decode cX6_step 114 = .ok (.iadd, 1) := by decide +kernel
theorem dX6_step_115 : decode cX6_step 115 = .ok (.putfield 34, 3) := by decide +kernel
theorem dX6_step_118 : decode cX6_step 118 = .ok (.aload_n 0, 1) := by decide +kernel
theorem dX6_step_119 : decode cX6_step 119 = .ok (.aload_n 1, 1) := by decide +kernel
theorem dX6_step_120 : decode cX6_step 120 = .ok (.iload 5, 2) := by decide +kernel
theorem dX6_step_122 : decode cX6_step 122 = .ok (.iload 4, 2) := by decide +kernel
theorem dX6_step_124 : decode cX6_step 124 = .ok (.invokevirtual 97, 3) := by decide +kernel
theorem dX6_step_127 : decode cX6_step 127 = .ok (.aload_n 0, 1) := by decide +kernel
theorem dX6_step_128 : decode cX6_step 128 = .ok (.getfield 9, 3) := by decide +kernel
theorem dX6_step_131 : decode cX6_step 131 = .ok (.iload 5, 2) := by decide +kernel
theorem dX6_step_133 : decode cX6_step 133 = .ok (.aload_n 1, 1) := by decide +kernel
theorem dX6_step_134 : decode cX6_step 134 = .ok (.aload_n 0, 1) := by decide +kernel
theorem dX6_step_135 : decode cX6_step 135 = .ok (.getfield 9, 3) := by decide +kernel
theorem dX6_step_138 : decode cX6_step 138 = .ok (.iload 5, 2) := by decide +kernel
theorem dX6_step_140 : decode cX6_step 140 = .ok (.iaload, 1) := by decide +kernel
theorem dX6_step_141 : decode cX6_step 141 = .ok (.iload 4, 2) := by decide +kernel
theorem dX6_step_143 : decode cX6_step 143 = .ok (.aload_n 0, 1) := by decide +kernel
theorem dX6_step_144 : decode cX6_step 144 = .ok (.getfield 27, 3) := by decide +kernel
theorem dX6_step_147 : decode cX6_step 147 = .ok (.invokevirtual 101, 3) := by decide +kernel
theorem dX6_step_150 : decode cX6_step 150 = .ok (.iastore, 1) := by decide +kernel
theorem dX6_step_151 : decode cX6_step 151 = .ok (.aload_n 0, 1) := by decide +kernel
theorem dX6_step_152 : decode cX6_step 152 = .ok (.getfield 15, 3) := by decide +kernel
theorem dX6_step_155 : decode cX6_step 155 = .ok (.iload 4, 2) := by decide +kernel
theorem dX6_step_157 : decode cX6_step 157 = .ok (.iload 6, 2) := by decide +kernel
theorem dX6_step_159 : decode cX6_step 159 = .ok (.iastore, 1) := by decide +kernel
theorem dX6_step_160 : decode cX6_step 160 = .ok (.aload_n 0, 1) := by decide +kernel
theorem dX6_step_161 : decode cX6_step 161 = .ok (.getfield 18, 3) := by decide +kernel
theorem dX6_step_164 : decode cX6_step 164 = .ok (.iload 4, 2) := by decide +kernel
theorem dX6_step_166 : decode cX6_step 166 = .ok (.aload_n 0, 1) := by decide +kernel
theorem dX6_step_167 : decode cX6_step 167 = .ok (.getfield 27, 3) := by decide +kernel
theorem dX6_step_170 : decode cX6_step 170 = .ok (.aload_n 1, 1) := by decide +kernel
theorem dX6_step_171 : decode cX6_step 171 = .ok (.getfield 105, 3) := by decide +kernel
theorem dX6_step_174 : decode cX6_step 174 = .ok (.iload 5, 2) := by decide +kernel
theorem dX6_step_176 : decode cX6_step 176 = .ok (.iaload, 1) := by decide +kernel
theorem dX6_step_177 : decode cX6_step 177 = .ok (.iadd, 1) := by decide +kernel
theorem dX6_step_178 : decode cX6_step 178 = .ok (.iastore, 1) := by decide +kernel
theorem dX6_step_179 : decode cX6_step 179 = .ok (.aload_n 0, 1) := by decide +kernel
theorem dX6_step_180 : decode cX6_step 180 = .ok (.getfield 21, 3) := by decide +kernel
theorem dX6_step_183 : decode cX6_step 183 = .ok (.iload 4, 2) := by decide +kernel
theorem dX6_step_185 : decode cX6_step 185 = .ok (.iload 5, 2) := by decide +kernel
theorem dX6_step_187 : decode cX6_step 187 = .ok (.iastore, 1) := by decide +kernel
theorem dX6_step_188 : decode cX6_step 188 = .ok (.iconst 1, 1) := by decide +kernel
theorem dX6_step_189 : decode cX6_step 189 = .ok (.ireturn, 1) := by decide +kernel
noncomputable def k_X6_step_118 (F : Nat) : AK := ak_aload 0 (ak_aload 1 (ak_iload 5 (ak_iload 4 (ak_callv 6 3 (m_X6_payFor F) (ak_aload 0 (ak_getf 6 3 (ak_iload 5 (ak_aload 1 (ak_aload 0 (ak_getf 6 3 (ak_iload 5 (ak_iald (ak_iload 4 (ak_aload 0 (ak_getf 6 0 (ak_callv 7 3 (m_X7_ownerBehind F) (ak_iast (ak_aload 0 (ak_getf 6 4 (ak_iload 4 (ak_iload 6 (ak_iast (ak_aload 0 (ak_getf 6 5 (ak_iload 4 (ak_aload 0 (ak_getf 6 0 (ak_aload 1 (ak_getf 7 4 (ak_iload 5 (ak_iald (ak_iadd (ak_iast (ak_aload 0 (ak_getf 6 6 (ak_iload 4 (ak_iload 5 (ak_iast (ak_push (vI 1) ak_ireturn)))))))))))))))))))))))))))))))))))))))
set_option maxRecDepth 20000 in
theorem sk_X6_step_118 (F : Nat) : Snd X0 RX6 cX6_step 7 1 118 (k_X6_step_118 F) := by
  unfold k_X6_step_118
  exact snd_aload_n (pc := 118) (i := 0) dX6_step_118 (snd_aload_n (pc := 119) (i := 1) dX6_step_119 (snd_iload (pc := 120) (i := 5) dX6_step_120 (snd_iload (pc := 122) (i := 4) dX6_step_122 (snd_callV (pc := 124) (n := 3) cls6 (s_X6_payFor F) (by decide) (by decide) wd_926 wd_923 wd_925 wd_22 wd_125 hy_X6_payFor dX6_step_124 (snd_aload_n (pc := 127) (i := 0) dX6_step_127 (snd_getf (pc := 128) cls6 (f := 3) (by decide) wd_407 dX6_step_128 (snd_iload (pc := 131) (i := 5) dX6_step_131 (snd_aload_n (pc := 133) (i := 1) dX6_step_133 (snd_aload_n (pc := 134) (i := 0) dX6_step_134 (snd_getf (pc := 135) cls6 (f := 3) (by decide) wd_407 dX6_step_135 (snd_iload (pc := 138) (i := 5) dX6_step_138 (snd_iald (pc := 140) dX6_step_140 (snd_iload (pc := 141) (i := 4) dX6_step_141 (snd_aload_n (pc := 143) (i := 0) dX6_step_143 (snd_getf (pc := 144) cls6 (f := 0) (by decide) wd_401 dX6_step_144 (snd_callV (pc := 147) (n := 3) cls7 (s_X7_ownerBehind F) (by decide) (by decide) wd_930 wd_927 wd_928 wd_929 wd_122 hy_X7_ownerBehind dX6_step_147 (snd_iast (pc := 150) dX6_step_150 (snd_aload_n (pc := 151) (i := 0) dX6_step_151 (snd_getf (pc := 152) cls6 (f := 4) (by decide) wd_409 dX6_step_152 (snd_iload (pc := 155) (i := 4) dX6_step_155 (snd_iload (pc := 157) (i := 6) dX6_step_157 (snd_iast (pc := 159) dX6_step_159 (snd_aload_n (pc := 160) (i := 0) dX6_step_160 (snd_getf (pc := 161) cls6 (f := 5) (by decide) wd_411 dX6_step_161 (snd_iload (pc := 164) (i := 4) dX6_step_164 (snd_aload_n (pc := 166) (i := 0) dX6_step_166 (snd_getf (pc := 167) cls6 (f := 0) (by decide) wd_401 dX6_step_167 (snd_aload_n (pc := 170) (i := 1) dX6_step_170 (snd_getf (pc := 171) cls7 (f := 4) (by decide) wd_179 dX6_step_171 (snd_iload (pc := 174) (i := 5) dX6_step_174 (snd_iald (pc := 176) dX6_step_176 (snd_iadd (pc := 177) dX6_step_177 (snd_iast (pc := 178) dX6_step_178 (snd_aload_n (pc := 179) (i := 0) dX6_step_179 (snd_getf (pc := 180) cls6 (f := 6) (by decide) wd_413 dX6_step_180 (snd_iload (pc := 183) (i := 4) dX6_step_183 (snd_iload (pc := 185) (i := 5) dX6_step_185 (snd_iast (pc := 187) dX6_step_187 (snd_iconst (pc := 188) dX6_step_188 (snd_ireturn dX6_step_189))))))))))))))))))))))))))))))))))))))))
noncomputable def k_X6_step (F : Nat) : AK := ak_aload 2 (ak_getf 2 1 (ak_iload 3 (ak_iald (ak_istore 4 (ak_iload 4 (ak_push (vI (-1)) (ak_cmpeq (ak_aload 0 (ak_dup (ak_getf 6 0 (ak_aload 2 (ak_getf 2 2 (ak_iload 3 (ak_iald (ak_iadd (ak_putf 6 0 (ak_push (vI 1) ak_ireturn)))))))))) (ak_aload 2 (ak_getf 2 2 (ak_iload 3 (ak_iald (ak_istore 5 (ak_aload 1 (ak_iload 4 (ak_callv 7 1 (m_X7_hasPerson F) (ak_ifeq (ak_push (vI 0) ak_ireturn) (ak_aload 1 (ak_iload 5 (ak_callv 7 1 (m_X7_hasRoad F) (ak_ifeq (ak_push (vI 0) ak_ireturn) (ak_aload 1 (ak_iload 5 (ak_aload 0 (ak_getf 6 4 (ak_iload 4 (ak_iald (ak_callv 7 2 (m_X7_farEnd F) (ak_istore 6 (ak_iload 6 (ak_push (vI (-1)) (ak_cmpeq (ak_push (vI 0) ak_ireturn) (ak_aload 0 (ak_getf 6 0 (ak_aload 0 (ak_getf 6 5 (ak_iload 4 (ak_iald (ak_cmplt (ak_push (vI 0) ak_ireturn) (ak_aload 0 (ak_aload 1 (ak_iload 5 (ak_iload 4 (ak_callv 6 3 (m_X6_isWalkedByAnother F) (ak_ifeq ((k_X6_step_118 F)) (ak_aload 0 (ak_dup (ak_getf 6 2 (ak_push (vI 1) (ak_iadd (ak_putf 6 2 ((k_X6_step_118 F))))))))))))))))))))))))))))))))))))))))))))))))))))
noncomputable def m_X6_step (F : Nat) : AF := mkF 2 7 (k_X6_step F)
set_option maxRecDepth 20000 in
theorem s_X6_step (F : Nat) : MA yX6_step cX6_step 7 (some .boolean) 1 (m_X6_step F) := met_of (Or.inr (Or.inr (Or.inl ⟨rfl, rfl⟩))) (by decide) (by
  unfold k_X6_step
  exact snd_aload_n (pc := 0) (i := 2) dX6_step_0 (snd_getf (pc := 1) cls2 (f := 1) (by decide) wd_292 dX6_step_1 (snd_iload_n (pc := 4) (i := 3) dX6_step_4 (snd_iald (pc := 5) dX6_step_5 (snd_istore (pc := 6) (i := 4) (by decide) dX6_step_6 (snd_iload (pc := 8) (i := 4) dX6_step_8 (snd_iconst (pc := 10) dX6_step_10 (snd_icmpne (pc := 11) (off := 20) (tgt := 31) (by decide) dX6_step_11 (snd_aload_n (pc := 31) (i := 2) dX6_step_31 (snd_getf (pc := 32) cls2 (f := 2) (by decide) wd_295 dX6_step_32 (snd_iload_n (pc := 35) (i := 3) dX6_step_35 (snd_iald (pc := 36) dX6_step_36 (snd_istore (pc := 37) (i := 5) (by decide) dX6_step_37 (snd_aload_n (pc := 39) (i := 1) dX6_step_39 (snd_iload (pc := 40) (i := 4) dX6_step_40 (snd_callV (pc := 42) (n := 1) cls7 (s_X7_hasPerson F) (by decide) (by decide) wd_854 wd_913 wd_852 wd_853 wd_122 hy_X7_hasPerson dX6_step_42 (snd_ifeq (pc := 45) (off := 12) (tgt := 57) (by decide) dX6_step_45 (snd_iconst (pc := 57) dX6_step_57 (snd_ireturn dX6_step_58)) (snd_aload_n (pc := 48) (i := 1) dX6_step_48 (snd_iload (pc := 49) (i := 5) dX6_step_49 (snd_callV (pc := 51) (n := 1) cls7 (s_X7_hasRoad F) (by decide) (by decide) wd_846 wd_914 wd_844 wd_845 wd_122 hy_X7_hasRoad dX6_step_51 (snd_ifne (pc := 54) (off := 5) (tgt := 59) (by decide) dX6_step_54 (snd_aload_n (pc := 59) (i := 1) dX6_step_59 (snd_iload (pc := 60) (i := 5) dX6_step_60 (snd_aload_n (pc := 62) (i := 0) dX6_step_62 (snd_getf (pc := 63) cls6 (f := 4) (by decide) wd_409 dX6_step_63 (snd_iload (pc := 66) (i := 4) dX6_step_66 (snd_iald (pc := 68) dX6_step_68 (snd_callV (pc := 69) (n := 2) cls7 (s_X7_farEnd F) (by decide) (by decide) wd_918 wd_915 wd_916 wd_917 wd_122 hy_X7_farEnd dX6_step_69 (snd_istore (pc := 72) (i := 6) (by decide) dX6_step_72 (snd_iload (pc := 74) (i := 6) dX6_step_74 (snd_iconst (pc := 76) dX6_step_76 (snd_icmpeq (pc := 77) (off := 17) (tgt := 94) (by decide) dX6_step_77 (snd_iconst (pc := 94) dX6_step_94 (snd_ireturn dX6_step_95)) (snd_aload_n (pc := 80) (i := 0) dX6_step_80 (snd_getf (pc := 81) cls6 (f := 0) (by decide) wd_401 dX6_step_81 (snd_aload_n (pc := 84) (i := 0) dX6_step_84 (snd_getf (pc := 85) cls6 (f := 5) (by decide) wd_411 dX6_step_85 (snd_iload (pc := 88) (i := 4) dX6_step_88 (snd_iald (pc := 90) dX6_step_90 (snd_icmpge (pc := 91) (off := 5) (tgt := 96) (by decide) dX6_step_91 (snd_aload_n (pc := 96) (i := 0) dX6_step_96 (snd_aload_n (pc := 97) (i := 1) dX6_step_97 (snd_iload (pc := 98) (i := 5) dX6_step_98 (snd_iload (pc := 100) (i := 4) dX6_step_100 (snd_callV (pc := 102) (n := 3) cls6 (s_X6_isWalkedByAnother F) (by decide) (by decide) wd_922 wd_919 wd_921 wd_21 wd_125 hy_X6_isWalkedByAnother dX6_step_102 (snd_ifeq (pc := 105) (off := 13) (tgt := 118) (by decide) dX6_step_105 ((sk_X6_step_118 F)) (snd_aload_n (pc := 108) (i := 0) dX6_step_108 (snd_dup (pc := 109) dX6_step_109 (snd_getf (pc := 110) cls6 (f := 2) (by decide) wd_405 dX6_step_110 (snd_iconst (pc := 113) dX6_step_113 (snd_iadd (pc := 114) dX6_step_114 (snd_putf (pc := 115) cls6 (f := 2) (by decide) rfl rfl rfl wd_405 dX6_step_115 ((sk_X6_step_118 F)))))))))))))) (snd_iconst (pc := 94) dX6_step_94 (snd_ireturn dX6_step_95)))))))))))))))))))) (snd_iconst (pc := 57) dX6_step_57 (snd_ireturn dX6_step_58))))))))))))))) (snd_aload_n (pc := 14) (i := 0) dX6_step_14 (snd_dup (pc := 15) dX6_step_15 (snd_getf (pc := 16) cls6 (f := 0) (by decide) wd_401 dX6_step_16 (snd_aload_n (pc := 19) (i := 2) dX6_step_19 (snd_getf (pc := 20) cls2 (f := 2) (by decide) wd_295 dX6_step_20 (snd_iload_n (pc := 23) (i := 3) dX6_step_23 (snd_iald (pc := 24) dX6_step_24 (snd_iadd (pc := 25) dX6_step_25 (snd_putf (pc := 26) cls6 (f := 0) (by decide) rfl rfl rfl wd_401 dX6_step_26 (snd_iconst (pc := 29) dX6_step_29 (snd_ireturn dX6_step_30)))))))))))))))))))

/-! LastWalker$Runner.play(LLastWalker$Town;LLastWalker$Day;I)I -/
theorem dX6_play_0 : decode cX6_play 0 = .ok (.aload_n 0, 1) := by decide +kernel
theorem dX6_play_1 : decode cX6_play 1 = .ok (.aload_n 1, 1) := by decide +kernel
theorem dX6_play_2 : decode cX6_play 2 = .ok (.invokevirtual 58, 3) := by decide +kernel
theorem dX6_play_5 : decode cX6_play 5 = .ok (.iload_n 3, 1) := by decide +kernel
theorem dX6_play_6 : decode cX6_play 6 = .ok (.aload_n 2, 1) := by decide +kernel
theorem dX6_play_7 : decode cX6_play 7 = .ok (.getfield 62, 3) := by decide +kernel
theorem dX6_play_10 : decode cX6_play 10 = .ok (.invokestatic 67, 3) := by decide +kernel
theorem dX6_play_13 : decode cX6_play 13 = .ok (.istore 4, 2) := by decide +kernel
theorem dX6_play_15 : decode cX6_play 15 = .ok (.iconst 0, 1) := by decide +kernel
theorem dX6_play_16 : decode cX6_play 16 = .ok (.istore 5, 2) := by decide +kernel
theorem dX6_play_18 : decode cX6_play 18 = .ok (.iload 5, 2) := by decide +kernel
theorem dX6_play_20 : decode cX6_play 20 = .ok (.iload 4, 2) := by decide +kernel
theorem dX6_play_22 : decode cX6_play 22 = .ok (.if_icmp .ge 23, 3) := by decide +kernel
theorem dX6_play_25 : decode cX6_play 25 = .ok (.aload_n 0, 1) := by decide +kernel
theorem dX6_play_26 : decode cX6_play 26 = .ok (.aload_n 1, 1) := by decide +kernel
theorem dX6_play_27 : decode cX6_play 27 = .ok (.aload_n 2, 1) := by decide +kernel
theorem dX6_play_28 : decode cX6_play 28 = .ok (.iload 5, 2) := by decide +kernel
theorem dX6_play_30 : decode cX6_play 30 = .ok (.invokevirtual 73, 3) := by decide +kernel
theorem dX6_play_33 : decode cX6_play 33 = .ok (.ifCond .ne 6, 3) := by decide +kernel
theorem dX6_play_36 : decode cX6_play 36 = .ok (.iload 5, 2) := by decide +kernel
theorem dX6_play_38 : decode cX6_play 38 = .ok (.ireturn, 1) := by decide +kernel
theorem dX6_play_39 : decode cX6_play 39 = .ok (.iinc 5 1, 3) := by decide +kernel
theorem dX6_play_42 : decode cX6_play 42 = .ok (.goto (-24), 3) := by decide +kernel
theorem dX6_play_45 : decode cX6_play 45 = .ok (.iload 4, 2) := by decide +kernel
theorem dX6_play_47 : decode cX6_play 47 = .ok (.ireturn, 1) := by decide +kernel
noncomputable def kb_X6_play_18 (F : Nat) (self : AK) : AK := ak_iload 5 (ak_iload 4 (ak_cmplt (ak_aload 0 (ak_aload 1 (ak_aload 2 (ak_iload 5 (ak_callv 6 3 (m_X6_step F) (ak_ifeq (ak_iload 5 ak_ireturn) (ak_iinc 5 1 self))))))) (ak_iload 4 ak_ireturn)))
noncomputable def k_X6_play_18 (F : Nat) (n : Nat) : AK := Nat.rec (motive := fun _ => AK) ak_none (fun _ self => kb_X6_play_18 F self) n
set_option maxRecDepth 20000 in
theorem sk_X6_play_18 (F : Nat) : ∀ n, Snd X0 RX6 cX6_play 6 2 18 (k_X6_play_18 F n) := by
  intro n
  induction n with
  | zero => exact snd_none
  | succ n ih =>
    show Snd X0 RX6 cX6_play 6 2 18 (kb_X6_play_18 F (k_X6_play_18 F n))
    unfold kb_X6_play_18
    exact snd_iload (pc := 18) (i := 5) dX6_play_18 (snd_iload (pc := 20) (i := 4) dX6_play_20 (snd_icmpge (pc := 22) (off := 23) (tgt := 45) (by decide) dX6_play_22 (snd_iload (pc := 45) (i := 4) dX6_play_45 (snd_ireturn dX6_play_47)) (snd_aload_n (pc := 25) (i := 0) dX6_play_25 (snd_aload_n (pc := 26) (i := 1) dX6_play_26 (snd_aload_n (pc := 27) (i := 2) dX6_play_27 (snd_iload (pc := 28) (i := 5) dX6_play_28 (snd_callV (pc := 30) (n := 3) cls6 (s_X6_step F) (by decide) (by decide) wd_912 wd_909 wd_911 wd_20 wd_125 hy_X6_step dX6_play_30 (snd_ifne (pc := 33) (off := 6) (tgt := 39) (by decide) dX6_play_33 (snd_iinc (pc := 39) (i := 5) (n := 1) (by decide) dX6_play_39 (snd_goto (pc := 42) (off := (-24)) (tgt := 18) (by decide) dX6_play_42 (ih))) (snd_iload (pc := 36) (i := 5) dX6_play_36 (snd_ireturn dX6_play_38))))))))))
noncomputable def k_X6_play (F : Nat) : AK := ak_aload 0 (ak_aload 1 (ak_callv 6 1 (m_X6_begin F) (ak_iload 3 (ak_aload 2 (ak_getf 2 0 (ak_imin (ak_istore 4 (ak_push (vI 0) (ak_istore 5 ((k_X6_play_18 F F)))))))))))
noncomputable def m_X6_play (F : Nat) : AF := mkF 1 6 (k_X6_play F)
set_option maxRecDepth 20000 in
theorem s_X6_play (F : Nat) : MA yX6_play cX6_play 6 (some .int) 2 (m_X6_play F) := met_of (Or.inr (Or.inl ⟨rfl, rfl⟩)) (by decide) (by
  unfold k_X6_play
  exact snd_aload_n (pc := 0) (i := 0) dX6_play_0 (snd_aload_n (pc := 1) (i := 1) dX6_play_1 (snd_callV (pc := 2) (n := 1) cls6 (s_X6_begin F) (by decide) (by decide) wd_901 wd_898 wd_899 wd_900 wd_125 hy_X6_begin dX6_play_2 (snd_iload_n (pc := 5) (i := 3) dX6_play_5 (snd_aload_n (pc := 6) (i := 2) dX6_play_6 (snd_getf (pc := 7) cls2 (f := 0) (by decide) wd_288 dX6_play_7 (snd_imin (pc := 10) (by decide) wd_908 wd_642 wd_130 wd_643 dX6_play_10 (snd_istore (pc := 13) (i := 4) (by decide) dX6_play_13 (snd_iconst (pc := 15) dX6_play_15 (snd_istore (pc := 16) (i := 5) (by decide) dX6_play_16 ((sk_X6_play_18 F F))))))))))))

/-! LastWalker$Runner.broughtFrom(LLastWalker$Town;LLastWalker$Day;II)I -/
theorem dX6_broughtFrom_0 : decode cX6_broughtFrom 0 = .ok (.aload_n 0, 1) := by decide +kernel
theorem dX6_broughtFrom_1 : decode cX6_broughtFrom 1 = .ok (.getfield 9, 3) := by decide +kernel
theorem dX6_broughtFrom_4 : decode cX6_broughtFrom 4 = .ok (.iload 4, 2) := by decide +kernel
theorem dX6_broughtFrom_6 : decode cX6_broughtFrom 6 = .ok (.iaload, 1) := by decide +kernel
theorem dX6_broughtFrom_7 : decode cX6_broughtFrom 7 = .ok (.istore 5, 2) := by decide +kernel
theorem dX6_broughtFrom_9 : decode cX6_broughtFrom 9 = .ok (.iconst 0, 1) := by decide +kernel
theorem dX6_broughtFrom_10 : decode cX6_broughtFrom 10 = .ok (.istore 6, 2) := by decide +kernel
theorem dX6_broughtFrom_12 : decode cX6_broughtFrom 12 = .ok (.iload_n 3, 1) := by decide +kernel
theorem dX6_broughtFrom_13 : decode cX6_broughtFrom 13 = .ok (.istore 7, 2) := by decide +kernel
theorem dX6_broughtFrom_15 : decode cX6_broughtFrom 15 = .ok (.iload 7, 2) := by decide +kernel
theorem dX6_broughtFrom_17 : decode cX6_broughtFrom 17 = .ok (.aload_n 2, 1) := by decide +kernel
theorem dX6_broughtFrom_18 : decode cX6_broughtFrom 18 = .ok (.getfield 62, 3) := by decide +kernel
theorem dX6_broughtFrom_21 : decode cX6_broughtFrom 21 = .ok (.if_icmp .ge 76, 3) := by decide +kernel
theorem dX6_broughtFrom_24 : decode cX6_broughtFrom 24 = .ok (.aload_n 0, 1) := by decide +kernel
theorem dX6_broughtFrom_25 : decode cX6_broughtFrom 25 = .ok (.getfield 9, 3) := by decide +kernel
theorem dX6_broughtFrom_28 : decode cX6_broughtFrom 28 = .ok (.iload 4, 2) := by decide +kernel
theorem dX6_broughtFrom_30 : decode cX6_broughtFrom 30 = .ok (.iaload, 1) := by decide +kernel
theorem dX6_broughtFrom_31 : decode cX6_broughtFrom 31 = .ok (.iload 5, 2) := by decide +kernel
theorem dX6_broughtFrom_33 : decode cX6_broughtFrom 33 = .ok (.if_icmp .ne 64, 3) := by decide +kernel
theorem dX6_broughtFrom_36 : decode cX6_broughtFrom 36 = .ok (.aload_n 0, 1) := by decide +kernel
theorem dX6_broughtFrom_37 : decode cX6_broughtFrom 37 = .ok (.getfield 31, 3) := by decide +kernel
theorem dX6_broughtFrom_40 : decode cX6_broughtFrom 40 = .ok (.istore 8, 2) := by decide +kernel
theorem dX6_broughtFrom_42 : decode cX6_broughtFrom 42 = .ok (.aload_n 0, 1) := by decide +kernel
theorem dX6_broughtFrom_43 : decode cX6_broughtFrom 43 = .ok (.aload_n 1, 1) := by decide +kernel
theorem dX6_broughtFrom_44 : decode cX6_broughtFrom 44 = .ok (.aload_n 2, 1) := by decide +kernel
theorem dX6_broughtFrom_45 : decode cX6_broughtFrom 45 = .ok (.iload 7, 2) := by decide +kernel
theorem dX6_broughtFrom_47 : decode cX6_broughtFrom 47 = .ok (.invokevirtual 73, 3) := by decide +kernel
theorem dX6_broughtFrom_50 : decode cX6_broughtFrom 50 = .ok (.ifCond .ne 6, 3) := by decide +kernel
theorem dX6_broughtFrom_53 : decode cX6_broughtFrom 53 = .ok (.iload 6, 2) := by decide +kernel
theorem dX6_broughtFrom_55 : decode cX6_broughtFrom 55 = .ok (.ireturn, 1) := by decide +kernel
theorem dX6_broughtFrom_56 : decode cX6_broughtFrom 56 = .ok (.aload_n 2, 1) := by decide +kernel
theorem dX6_broughtFrom_57 : decode cX6_broughtFrom 57 = .ok (.getfield 77, 3) := by decide +kernel
theorem dX6_broughtFrom_60 : decode cX6_broughtFrom 60 = .ok (.iload 7, 2) := by decide +kernel
theorem dX6_broughtFrom_62 : decode cX6_broughtFrom 62 = .ok (.iaload, 1) := by decide +kernel
theorem dX6_broughtFrom_63 : decode cX6_broughtFrom 63 = .ok (.iconst (-1), 1) := by decide +kernel
theorem dX6_broughtFrom_64 : decode cX6_broughtFrom 64 = .ok (.if_icmp .eq 27, 3) := by decide +kernel
theorem dX6_broughtFrom_67 : decode cX6_broughtFrom 67 = .ok (.aload_n 2, 1) := by decide +kernel
theorem dX6_broughtFrom_68 : decode cX6_broughtFrom 68 = .ok (.getfield 80, 3) := by decide +kernel
theorem dX6_broughtFrom_71 : decode cX6_broughtFrom 71 = .ok (.iload 7, 2) := by decide +kernel
theorem dX6_broughtFrom_73 : decode cX6_broughtFrom 73 = .ok (.iaload, 1) := by decide +kernel
theorem dX6_broughtFrom_74 : decode cX6_broughtFrom 74 = .ok (.iload 4, 2) := by decide +kernel
theorem dX6_broughtFrom_76 : decode cX6_broughtFrom 76 = .ok (.if_icmp .ne 15, 3) := by decide +kernel
theorem dX6_broughtFrom_79 : decode cX6_broughtFrom 79 = .ok (.iload 6, 2) := by decide +kernel
theorem dX6_broughtFrom_81 : decode cX6_broughtFrom 81 = .ok (.aload_n 0, 1) := by decide +kernel
theorem dX6_broughtFrom_82 : decode cX6_broughtFrom 82 = .ok (.getfield 31, 3) := by decide +kernel
theorem dX6_broughtFrom_85 : decode cX6_broughtFrom 85 = .ok (.iload 8, 2) := by decide +kernel
theorem dX6_broughtFrom_87 : decode cX6_broughtFrom 87 = .ok (.isub, 1) := by decide +kernel
theorem dX6_broughtFrom_88 : decode cX6_broughtFrom 88 = .ok (.iadd, 1) := by decide +kernel
theorem dX6_broughtFrom_89 : decode cX6_broughtFrom 89 = .ok (.istore 6, 2) := by decide +kernel
theorem dX6_broughtFrom_91 : decode cX6_broughtFrom 91 = .ok (.iinc 7 1, 3) := by decide +kernel
theorem dX6_broughtFrom_94 : decode cX6_broughtFrom 94 = .ok (.goto (-79), 3) := by decide +kernel
theorem dX6_broughtFrom_97 : decode cX6_broughtFrom 97 = .ok (.iload 6, 2) := by decide +kernel
theorem dX6_broughtFrom_99 : decode cX6_broughtFrom 99 = .ok (.ireturn, 1) := by decide +kernel
noncomputable def k_X6_broughtFrom_91 (F : Nat) (h15 : AK) : AK := ak_iinc 7 1 h15
set_option maxRecDepth 20000 in
theorem sk_X6_broughtFrom_91 (F : Nat) {h15 : AK} (hh15 : Snd X0 RX6 cX6_broughtFrom 9 2 15 h15) : Snd X0 RX6 cX6_broughtFrom 9 2 91 (k_X6_broughtFrom_91 F h15) := by
  unfold k_X6_broughtFrom_91
  exact snd_iinc (pc := 91) (i := 7) (n := 1) (by decide) dX6_broughtFrom_91 (snd_goto (pc := 94) (off := (-79)) (tgt := 15) (by decide) dX6_broughtFrom_94 (hh15))
noncomputable def kb_X6_broughtFrom_15 (F : Nat) (self : AK) : AK := ak_iload 7 (ak_aload 2 (ak_getf 2 0 (ak_cmplt (ak_aload 0 (ak_getf 6 3 (ak_iload 4 (ak_iald (ak_iload 5 (ak_cmpeq (ak_aload 0 (ak_getf 6 1 (ak_istore 8 (ak_aload 0 (ak_aload 1 (ak_aload 2 (ak_iload 7 (ak_callv 6 3 (m_X6_step F) (ak_ifeq (ak_iload 6 ak_ireturn) (ak_aload 2 (ak_getf 2 1 (ak_iload 7 (ak_iald (ak_push (vI (-1)) (ak_cmpeq ((k_X6_broughtFrom_91 F self)) (ak_aload 2 (ak_getf 2 2 (ak_iload 7 (ak_iald (ak_iload 4 (ak_cmpeq (ak_iload 6 (ak_aload 0 (ak_getf 6 1 (ak_iload 8 (ak_isub (ak_iadd (ak_istore 6 ((k_X6_broughtFrom_91 F self))))))))) ((k_X6_broughtFrom_91 F self))))))))))))))))))))))) (ak_iload 6 ak_ireturn))))))) (ak_iload 6 ak_ireturn))))
noncomputable def k_X6_broughtFrom_15 (F : Nat) (n : Nat) : AK := Nat.rec (motive := fun _ => AK) ak_none (fun _ self => kb_X6_broughtFrom_15 F self) n
set_option maxRecDepth 20000 in
theorem sk_X6_broughtFrom_15 (F : Nat) : ∀ n, Snd X0 RX6 cX6_broughtFrom 9 2 15 (k_X6_broughtFrom_15 F n) := by
  intro n
  induction n with
  | zero => exact snd_none
  | succ n ih =>
    show Snd X0 RX6 cX6_broughtFrom 9 2 15 (kb_X6_broughtFrom_15 F (k_X6_broughtFrom_15 F n))
    unfold kb_X6_broughtFrom_15
    exact snd_iload (pc := 15) (i := 7) dX6_broughtFrom_15 (snd_aload_n (pc := 17) (i := 2) dX6_broughtFrom_17 (snd_getf (pc := 18) cls2 (f := 0) (by decide) wd_288 dX6_broughtFrom_18 (snd_icmpge (pc := 21) (off := 76) (tgt := 97) (by decide) dX6_broughtFrom_21 (snd_iload (pc := 97) (i := 6) dX6_broughtFrom_97 (snd_ireturn dX6_broughtFrom_99)) (snd_aload_n (pc := 24) (i := 0) dX6_broughtFrom_24 (snd_getf (pc := 25) cls6 (f := 3) (by decide) wd_407 dX6_broughtFrom_25 (snd_iload (pc := 28) (i := 4) dX6_broughtFrom_28 (snd_iald (pc := 30) dX6_broughtFrom_30 (snd_iload (pc := 31) (i := 5) dX6_broughtFrom_31 (snd_icmpne (pc := 33) (off := 64) (tgt := 97) (by decide) dX6_broughtFrom_33 (snd_iload (pc := 97) (i := 6) dX6_broughtFrom_97 (snd_ireturn dX6_broughtFrom_99)) (snd_aload_n (pc := 36) (i := 0) dX6_broughtFrom_36 (snd_getf (pc := 37) cls6 (f := 1) (by decide) wd_403 dX6_broughtFrom_37 (snd_istore (pc := 40) (i := 8) (by decide) dX6_broughtFrom_40 (snd_aload_n (pc := 42) (i := 0) dX6_broughtFrom_42 (snd_aload_n (pc := 43) (i := 1) dX6_broughtFrom_43 (snd_aload_n (pc := 44) (i := 2) dX6_broughtFrom_44 (snd_iload (pc := 45) (i := 7) dX6_broughtFrom_45 (snd_callV (pc := 47) (n := 3) cls6 (s_X6_step F) (by decide) (by decide) wd_912 wd_909 wd_911 wd_20 wd_125 hy_X6_step dX6_broughtFrom_47 (snd_ifne (pc := 50) (off := 6) (tgt := 56) (by decide) dX6_broughtFrom_50 (snd_aload_n (pc := 56) (i := 2) dX6_broughtFrom_56 (snd_getf (pc := 57) cls2 (f := 1) (by decide) wd_292 dX6_broughtFrom_57 (snd_iload (pc := 60) (i := 7) dX6_broughtFrom_60 (snd_iald (pc := 62) dX6_broughtFrom_62 (snd_iconst (pc := 63) dX6_broughtFrom_63 (snd_icmpeq (pc := 64) (off := 27) (tgt := 91) (by decide) dX6_broughtFrom_64 ((sk_X6_broughtFrom_91 F ih)) (snd_aload_n (pc := 67) (i := 2) dX6_broughtFrom_67 (snd_getf (pc := 68) cls2 (f := 2) (by decide) wd_295 dX6_broughtFrom_68 (snd_iload (pc := 71) (i := 7) dX6_broughtFrom_71 (snd_iald (pc := 73) dX6_broughtFrom_73 (snd_iload (pc := 74) (i := 4) dX6_broughtFrom_74 (snd_icmpne (pc := 76) (off := 15) (tgt := 91) (by decide) dX6_broughtFrom_76 ((sk_X6_broughtFrom_91 F ih)) (snd_iload (pc := 79) (i := 6) dX6_broughtFrom_79 (snd_aload_n (pc := 81) (i := 0) dX6_broughtFrom_81 (snd_getf (pc := 82) cls6 (f := 1) (by decide) wd_403 dX6_broughtFrom_82 (snd_iload (pc := 85) (i := 8) dX6_broughtFrom_85 (snd_isub (pc := 87) dX6_broughtFrom_87 (snd_iadd (pc := 88) dX6_broughtFrom_88 (snd_istore (pc := 89) (i := 6) (by decide) dX6_broughtFrom_89 ((sk_X6_broughtFrom_91 F ih))))))))))))))))))))) (snd_iload (pc := 53) (i := 6) dX6_broughtFrom_53 (snd_ireturn dX6_broughtFrom_55))))))))))))))))))))
noncomputable def k_X6_broughtFrom (F : Nat) : AK := ak_aload 0 (ak_getf 6 3 (ak_iload 4 (ak_iald (ak_istore 5 (ak_push (vI 0) (ak_istore 6 (ak_iload 3 (ak_istore 7 ((k_X6_broughtFrom_15 F F))))))))))
noncomputable def m_X6_broughtFrom (F : Nat) : AF := mkF 1 9 (k_X6_broughtFrom F)
set_option maxRecDepth 20000 in
theorem s_X6_broughtFrom (F : Nat) : MA yX6_broughtFrom cX6_broughtFrom 9 (some .int) 2 (m_X6_broughtFrom F) := met_of (Or.inr (Or.inl ⟨rfl, rfl⟩)) (by decide) (by
  unfold k_X6_broughtFrom
  exact snd_aload_n (pc := 0) (i := 0) dX6_broughtFrom_0 (snd_getf (pc := 1) cls6 (f := 3) (by decide) wd_407 dX6_broughtFrom_1 (snd_iload (pc := 4) (i := 4) dX6_broughtFrom_4 (snd_iald (pc := 6) dX6_broughtFrom_6 (snd_istore (pc := 7) (i := 5) (by decide) dX6_broughtFrom_7 (snd_iconst (pc := 9) dX6_broughtFrom_9 (snd_istore (pc := 10) (i := 6) (by decide) dX6_broughtFrom_10 (snd_iload_n (pc := 12) (i := 3) dX6_broughtFrom_12 (snd_istore (pc := 13) (i := 7) (by decide) dX6_broughtFrom_13 ((sk_X6_broughtFrom_15 F F)))))))))))

/-! LastWalker$Town.hasPlace(I)Z -/
theorem dX7_hasPlace_0 : decode cX7_hasPlace 0 = .ok (.iload_n 1, 1) := by decide +kernel
theorem dX7_hasPlace_1 : decode cX7_hasPlace 1 = .ok (.ifCond .lt 15, 3) := by decide +kernel
theorem dX7_hasPlace_4 : decode cX7_hasPlace 4 = .ok (.iload_n 1, 1) := by decide +kernel
theorem dX7_hasPlace_5 : decode cX7_hasPlace 5 = .ok (.aload_n 0, 1) := by decide +kernel
theorem dX7_hasPlace_6 : decode cX7_hasPlace 6 = .ok (.getfield 51, 3) := by decide +kernel
theorem dX7_hasPlace_9 : decode cX7_hasPlace 9 = .ok (.if_icmp .ge 7, 3) := by decide +kernel
theorem dX7_hasPlace_12 : decode cX7_hasPlace 12 = .ok (.iconst 1, 1) := by decide +kernel
theorem dX7_hasPlace_13 : decode cX7_hasPlace 13 = .ok (.goto 4, 3) := by decide +kernel
theorem dX7_hasPlace_16 : decode cX7_hasPlace 16 = .ok (.iconst 0, 1) := by decide +kernel
theorem dX7_hasPlace_17 : decode cX7_hasPlace 17 = .ok (.ireturn, 1) := by decide +kernel
noncomputable def k_X7_hasPlace (F : Nat) : AK := ak_iload 1 (ak_iflt (ak_push (vI 0) ak_ireturn) (ak_iload 1 (ak_aload 0 (ak_getf 7 0 (ak_cmplt (ak_push (vI 1) ak_ireturn) (ak_push (vI 0) ak_ireturn))))))
noncomputable def m_X7_hasPlace (F : Nat) : AF := mkF 2 2 (k_X7_hasPlace F)
set_option maxRecDepth 20000 in
theorem s_X7_hasPlace (F : Nat) : MA yX7_hasPlace cX7_hasPlace 2 (some .boolean) 0 (m_X7_hasPlace F) := met_of (Or.inr (Or.inr (Or.inl ⟨rfl, rfl⟩))) (by decide) (by
  unfold k_X7_hasPlace
  exact snd_iload_n (pc := 0) (i := 1) dX7_hasPlace_0 (snd_iflt (pc := 1) (off := 15) (tgt := 16) (by decide) dX7_hasPlace_1 (snd_iconst (pc := 16) dX7_hasPlace_16 (snd_ireturn dX7_hasPlace_17)) (snd_iload_n (pc := 4) (i := 1) dX7_hasPlace_4 (snd_aload_n (pc := 5) (i := 0) dX7_hasPlace_5 (snd_getf (pc := 6) cls7 (f := 0) (by decide) wd_159 dX7_hasPlace_6 (snd_icmpge (pc := 9) (off := 7) (tgt := 16) (by decide) dX7_hasPlace_9 (snd_iconst (pc := 16) dX7_hasPlace_16 (snd_ireturn dX7_hasPlace_17)) (snd_iconst (pc := 12) dX7_hasPlace_12 (snd_goto (pc := 13) (off := 4) (tgt := 17) (by decide) dX7_hasPlace_13 (snd_ireturn dX7_hasPlace_17)))))))))

/-! LastWalker$Town.hasErrand(I)Z -/
theorem dX7_hasErrand_0 : decode cX7_hasErrand 0 = .ok (.iload_n 1, 1) := by decide +kernel
theorem dX7_hasErrand_1 : decode cX7_hasErrand 1 = .ok (.ifCond .lt 15, 3) := by decide +kernel
theorem dX7_hasErrand_4 : decode cX7_hasErrand 4 = .ok (.iload_n 1, 1) := by decide +kernel
theorem dX7_hasErrand_5 : decode cX7_hasErrand 5 = .ok (.aload_n 0, 1) := by decide +kernel
theorem dX7_hasErrand_6 : decode cX7_hasErrand 6 = .ok (.getfield 61, 3) := by decide +kernel
theorem dX7_hasErrand_9 : decode cX7_hasErrand 9 = .ok (.if_icmp .ge 7, 3) := by decide +kernel
theorem dX7_hasErrand_12 : decode cX7_hasErrand 12 = .ok (.iconst 1, 1) := by decide +kernel
theorem dX7_hasErrand_13 : decode cX7_hasErrand 13 = .ok (.goto 4, 3) := by decide +kernel
theorem dX7_hasErrand_16 : decode cX7_hasErrand 16 = .ok (.iconst 0, 1) := by decide +kernel
theorem dX7_hasErrand_17 : decode cX7_hasErrand 17 = .ok (.ireturn, 1) := by decide +kernel
noncomputable def k_X7_hasErrand (F : Nat) : AK := ak_iload 1 (ak_iflt (ak_push (vI 0) ak_ireturn) (ak_iload 1 (ak_aload 0 (ak_getf 7 12 (ak_cmplt (ak_push (vI 1) ak_ireturn) (ak_push (vI 0) ak_ireturn))))))
noncomputable def m_X7_hasErrand (F : Nat) : AF := mkF 2 2 (k_X7_hasErrand F)
set_option maxRecDepth 20000 in
theorem s_X7_hasErrand (F : Nat) : MA yX7_hasErrand cX7_hasErrand 2 (some .boolean) 0 (m_X7_hasErrand F) := met_of (Or.inr (Or.inr (Or.inl ⟨rfl, rfl⟩))) (by decide) (by
  unfold k_X7_hasErrand
  exact snd_iload_n (pc := 0) (i := 1) dX7_hasErrand_0 (snd_iflt (pc := 1) (off := 15) (tgt := 16) (by decide) dX7_hasErrand_1 (snd_iconst (pc := 16) dX7_hasErrand_16 (snd_ireturn dX7_hasErrand_17)) (snd_iload_n (pc := 4) (i := 1) dX7_hasErrand_4 (snd_aload_n (pc := 5) (i := 0) dX7_hasErrand_5 (snd_getf (pc := 6) cls7 (f := 12) (by decide) wd_213 dX7_hasErrand_6 (snd_icmpge (pc := 9) (off := 7) (tgt := 16) (by decide) dX7_hasErrand_9 (snd_iconst (pc := 16) dX7_hasErrand_16 (snd_ireturn dX7_hasErrand_17)) (snd_iconst (pc := 12) dX7_hasErrand_12 (snd_goto (pc := 13) (off := 4) (tgt := 17) (by decide) dX7_hasErrand_13 (snd_ireturn dX7_hasErrand_17)))))))))

/-! LastWalker$Town.reachedFrom(II)I -/
theorem dX7_reachedFrom_0 : decode cX7_reachedFrom 0 = .ok (.iconst 1, 1) := by decide +kernel
theorem dX7_reachedFrom_1 : decode cX7_reachedFrom 1 = .ok (.iload_n 1, 1) := by decide +kernel
theorem dX7_reachedFrom_2 : decode cX7_reachedFrom 2 = .ok (.ishl, 1) := by decide +kernel
theorem dX7_reachedFrom_3 : decode cX7_reachedFrom 3 = .ok (.istore_n 3, 1) := by decide +kernel
theorem dX7_reachedFrom_4 : decode cX7_reachedFrom 4 = .ok (.iconst 1, 1) := by decide +kernel
theorem dX7_reachedFrom_5 : decode cX7_reachedFrom 5 = .ok (.istore 4, 2) := by decide +kernel
theorem dX7_reachedFrom_7 : decode cX7_reachedFrom 7 = .ok (.iload 4, 2) := by decide +kernel
theorem dX7_reachedFrom_9 : decode cX7_reachedFrom 9 = .ok (.aload_n 0, 1) := by decide +kernel
theorem dX7_reachedFrom_10 : decode cX7_reachedFrom 10 = .ok (.getfield 51, 3) := by decide +kernel
theorem dX7_reachedFrom_13 : decode cX7_reachedFrom 13 = .ok (.if_icmp .ge 66, 3) := by decide +kernel
theorem dX7_reachedFrom_16 : decode cX7_reachedFrom 16 = .ok (.iconst 0, 1) := by decide +kernel
theorem dX7_reachedFrom_17 : decode cX7_reachedFrom 17 = .ok (.istore 5, 2) := by decide +kernel
theorem dX7_reachedFrom_19 : decode cX7_reachedFrom 19 = .ok (.iload 5, 2) := by decide +kernel
theorem dX7_reachedFrom_21 : decode cX7_reachedFrom 21 = .ok (.aload_n 0, 1) := by decide +kernel
theorem dX7_reachedFrom_22 : decode cX7_reachedFrom 22 = .ok (.getfield 55, 3) := by decide +kernel
theorem dX7_reachedFrom_25 : decode cX7_reachedFrom 25 = .ok (.if_icmp .ge 48, 3) := by decide +kernel
theorem dX7_reachedFrom_28 : decode cX7_reachedFrom 28 = .ok (.iconst 1, 1) := by decide +kernel
theorem dX7_reachedFrom_29 : decode cX7_reachedFrom 29 = .ok (.aload_n 0, 1) := by decide +kernel
theorem dX7_reachedFrom_30 : decode cX7_reachedFrom 30 = .ok (.getfield 9, 3) := by decide +kernel
theorem dX7_reachedFrom_33 : decode cX7_reachedFrom 33 = .ok (.iload 5, 2) := by decide +kernel
theorem dX7_reachedFrom_35 : decode cX7_reachedFrom 35 = .ok (.iaload, 1) := by decide +kernel
theorem dX7_reachedFrom_36 : decode cX7_reachedFrom 36 = .ok (.ishl, 1) := by decide +kernel
theorem dX7_reachedFrom_37 : decode cX7_reachedFrom 37 = .ok (.iconst 1, 1) := by decide +kernel
theorem dX7_reachedFrom_38 : decode cX7_reachedFrom 38 = .ok (.aload_n 0, 1) := by decide +kernel
theorem dX7_reachedFrom_39 : decode cX7_reachedFrom 39 = .ok (.getfield 15, 3) := by decide +kernel
theorem dX7_reachedFrom_42 : decode cX7_reachedFrom 42 = .ok (.iload 5, 2) := by decide +kernel
theorem dX7_reachedFrom_44 : decode cX7_reachedFrom 44 = .ok (.iaload, 1) := by decide +kernel
theorem dX7_reachedFrom_45 : decode cX7_reachedFrom 45 = .ok (.ishl, 1) := by decide +kernel
theorem dX7_reachedFrom_46 : decode cX7_reachedFrom 46 = .ok (.ior, 1) := by decide +kernel
theorem dX7_reachedFrom_47 : decode cX7_reachedFrom 47 = .ok (.istore 6, 2) := by decide +kernel
theorem dX7_reachedFrom_49 : decode cX7_reachedFrom 49 = .ok (.iload 5, 2) := by decide +kernel
theorem dX7_reachedFrom_51 : decode cX7_reachedFrom 51 = .ok (.iload_n 2, 1) := by decide +kernel
theorem dX7_reachedFrom_52 : decode cX7_reachedFrom 52 = .ok (.if_icmp .eq 15, 3) := by decide +kernel
theorem dX7_reachedFrom_55 : decode cX7_reachedFrom 55 = .ok (.iload_n 3, 1) := by decide +kernel
theorem dX7_reachedFrom_56 : decode cX7_reachedFrom 56 = .ok (.iload 6, 2) := by decide +kernel
theorem dX7_reachedFrom_58 : decode cX7_reachedFrom 58 = .ok (.iand, 1) := by decide +kernel
theorem dX7_reachedFrom_59 : decode cX7_reachedFrom 59 = .ok (.ifCond .eq 8, 3) := by decide +kernel
theorem dX7_reachedFrom_62 : decode cX7_reachedFrom 62 = .ok (.iload_n 3, 1) := by decide +kernel
theorem dX7_reachedFrom_63 : decode cX7_reachedFrom 63 = .ok (.iload 6, 2) := by decide +kernel
theorem dX7_reachedFrom_65 : decode cX7_reachedFrom 65 = .ok (.ior, 1) := by decide +kernel
theorem dX7_reachedFrom_66 : decode cX7_reachedFrom 66 = .ok (.istore_n 3, 1) := by decide +kernel
theorem dX7_reachedFrom_67 : decode cX7_reachedFrom 67 = .ok (.iinc 5 1, 3) := by decide +kernel
theorem dX7_reachedFrom_70 : decode cX7_reachedFrom 70 = .ok (.goto (-51), 3) := by decide +kernel
theorem dX7_reachedFrom_73 : decode cX7_reachedFrom 73 = .ok (.iinc 4 1, 3) := by decide +kernel
theorem dX7_reachedFrom_76 : decode cX7_reachedFrom 76 = .ok (.goto (-69), 3) := by decide +kernel
theorem dX7_reachedFrom_79 : decode cX7_reachedFrom 79 = .ok (.iload_n 3, 1) := by decide +kernel
theorem dX7_reachedFrom_80 : decode cX7_reachedFrom 80 = .ok (.ireturn, 1) := by decide +kernel
noncomputable def k_X7_reachedFrom_67 (F : Nat) (h7 : AK) (h19 : AK) : AK := ak_iinc 5 1 h19
set_option maxRecDepth 20000 in
theorem sk_X7_reachedFrom_67 (F : Nat) {h7 h19 : AK} (hh7 : Snd X0 RX7 cX7_reachedFrom 7 0 7 h7) (hh19 : Snd X0 RX7 cX7_reachedFrom 7 0 19 h19) : Snd X0 RX7 cX7_reachedFrom 7 0 67 (k_X7_reachedFrom_67 F h7 h19) := by
  unfold k_X7_reachedFrom_67
  exact snd_iinc (pc := 67) (i := 5) (n := 1) (by decide) dX7_reachedFrom_67 (snd_goto (pc := 70) (off := (-51)) (tgt := 19) (by decide) dX7_reachedFrom_70 (hh19))
noncomputable def kb_X7_reachedFrom_19 (F : Nat) (h7 : AK) (self : AK) : AK := ak_iload 5 (ak_aload 0 (ak_getf 7 1 (ak_cmplt (ak_push (vI 1) (ak_aload 0 (ak_getf 7 2 (ak_iload 5 (ak_iald (ak_ishl (ak_push (vI 1) (ak_aload 0 (ak_getf 7 3 (ak_iload 5 (ak_iald (ak_ishl (ak_ior (ak_istore 6 (ak_iload 5 (ak_iload 2 (ak_cmpeq ((k_X7_reachedFrom_67 F h7 self)) (ak_iload 3 (ak_iload 6 (ak_iand (ak_ifeq ((k_X7_reachedFrom_67 F h7 self)) (ak_iload 3 (ak_iload 6 (ak_ior (ak_istore 3 ((k_X7_reachedFrom_67 F h7 self))))))))))))))))))))))))))) (ak_iinc 4 1 h7))))
noncomputable def k_X7_reachedFrom_19 (F : Nat) (h7 : AK) (n : Nat) : AK := Nat.rec (motive := fun _ => AK) ak_none (fun _ self => kb_X7_reachedFrom_19 F h7 self) n
set_option maxRecDepth 20000 in
theorem sk_X7_reachedFrom_19 (F : Nat) {h7 : AK} (hh7 : Snd X0 RX7 cX7_reachedFrom 7 0 7 h7) : ∀ n, Snd X0 RX7 cX7_reachedFrom 7 0 19 (k_X7_reachedFrom_19 F h7 n) := by
  intro n
  induction n with
  | zero => exact snd_none
  | succ n ih =>
    show Snd X0 RX7 cX7_reachedFrom 7 0 19 (kb_X7_reachedFrom_19 F h7 (k_X7_reachedFrom_19 F h7 n))
    unfold kb_X7_reachedFrom_19
    exact snd_iload (pc := 19) (i := 5) dX7_reachedFrom_19 (snd_aload_n (pc := 21) (i := 0) dX7_reachedFrom_21 (snd_getf (pc := 22) cls7 (f := 1) (by decide) wd_163 dX7_reachedFrom_22 (snd_icmpge (pc := 25) (off := 48) (tgt := 73) (by decide) dX7_reachedFrom_25 (snd_iinc (pc := 73) (i := 4) (n := 1) (by decide) dX7_reachedFrom_73 (snd_goto (pc := 76) (off := (-69)) (tgt := 7) (by decide) dX7_reachedFrom_76 (hh7))) (snd_iconst (pc := 28) dX7_reachedFrom_28 (snd_aload_n (pc := 29) (i := 0) dX7_reachedFrom_29 (snd_getf (pc := 30) cls7 (f := 2) (by decide) wd_169 dX7_reachedFrom_30 (snd_iload (pc := 33) (i := 5) dX7_reachedFrom_33 (snd_iald (pc := 35) dX7_reachedFrom_35 (snd_ishl (pc := 36) dX7_reachedFrom_36 (snd_iconst (pc := 37) dX7_reachedFrom_37 (snd_aload_n (pc := 38) (i := 0) dX7_reachedFrom_38 (snd_getf (pc := 39) cls7 (f := 3) (by decide) wd_173 dX7_reachedFrom_39 (snd_iload (pc := 42) (i := 5) dX7_reachedFrom_42 (snd_iald (pc := 44) dX7_reachedFrom_44 (snd_ishl (pc := 45) dX7_reachedFrom_45 (snd_ior (pc := 46) dX7_reachedFrom_46 (snd_istore (pc := 47) (i := 6) (by decide) dX7_reachedFrom_47 (snd_iload (pc := 49) (i := 5) dX7_reachedFrom_49 (snd_iload_n (pc := 51) (i := 2) dX7_reachedFrom_51 (snd_icmpeq (pc := 52) (off := 15) (tgt := 67) (by decide) dX7_reachedFrom_52 ((sk_X7_reachedFrom_67 F hh7 ih)) (snd_iload_n (pc := 55) (i := 3) dX7_reachedFrom_55 (snd_iload (pc := 56) (i := 6) dX7_reachedFrom_56 (snd_iand (pc := 58) dX7_reachedFrom_58 (snd_ifeq (pc := 59) (off := 8) (tgt := 67) (by decide) dX7_reachedFrom_59 ((sk_X7_reachedFrom_67 F hh7 ih)) (snd_iload_n (pc := 62) (i := 3) dX7_reachedFrom_62 (snd_iload (pc := 63) (i := 6) dX7_reachedFrom_63 (snd_ior (pc := 65) dX7_reachedFrom_65 (snd_istore_n (pc := 66) (i := 3) (by decide) dX7_reachedFrom_66 ((sk_X7_reachedFrom_67 F hh7 ih))))))))))))))))))))))))))))))
noncomputable def kb_X7_reachedFrom_7 (F : Nat) (self : AK) : AK := ak_iload 4 (ak_aload 0 (ak_getf 7 0 (ak_cmplt (ak_push (vI 0) (ak_istore 5 ((k_X7_reachedFrom_19 F self F)))) (ak_iload 3 ak_ireturn))))
noncomputable def k_X7_reachedFrom_7 (F : Nat) (n : Nat) : AK := Nat.rec (motive := fun _ => AK) ak_none (fun _ self => kb_X7_reachedFrom_7 F self) n
set_option maxRecDepth 20000 in
theorem sk_X7_reachedFrom_7 (F : Nat) : ∀ n, Snd X0 RX7 cX7_reachedFrom 7 0 7 (k_X7_reachedFrom_7 F n) := by
  intro n
  induction n with
  | zero => exact snd_none
  | succ n ih =>
    show Snd X0 RX7 cX7_reachedFrom 7 0 7 (kb_X7_reachedFrom_7 F (k_X7_reachedFrom_7 F n))
    unfold kb_X7_reachedFrom_7
    exact snd_iload (pc := 7) (i := 4) dX7_reachedFrom_7 (snd_aload_n (pc := 9) (i := 0) dX7_reachedFrom_9 (snd_getf (pc := 10) cls7 (f := 0) (by decide) wd_159 dX7_reachedFrom_10 (snd_icmpge (pc := 13) (off := 66) (tgt := 79) (by decide) dX7_reachedFrom_13 (snd_iload_n (pc := 79) (i := 3) dX7_reachedFrom_79 (snd_ireturn dX7_reachedFrom_80)) (snd_iconst (pc := 16) dX7_reachedFrom_16 (snd_istore (pc := 17) (i := 5) (by decide) dX7_reachedFrom_17 ((sk_X7_reachedFrom_19 F ih F)))))))
noncomputable def k_X7_reachedFrom (F : Nat) : AK := ak_push (vI 1) (ak_iload 1 (ak_ishl (ak_istore 3 (ak_push (vI 1) (ak_istore 4 ((k_X7_reachedFrom_7 F F)))))))
noncomputable def m_X7_reachedFrom (F : Nat) : AF := mkF 1 7 (k_X7_reachedFrom F)
set_option maxRecDepth 20000 in
theorem s_X7_reachedFrom (F : Nat) : MA yX7_reachedFrom cX7_reachedFrom 7 (some .int) 0 (m_X7_reachedFrom F) := met_of (Or.inr (Or.inl ⟨rfl, rfl⟩)) (by decide) (by
  unfold k_X7_reachedFrom
  exact snd_iconst (pc := 0) dX7_reachedFrom_0 (snd_iload_n (pc := 1) (i := 1) dX7_reachedFrom_1 (snd_ishl (pc := 2) dX7_reachedFrom_2 (snd_istore_n (pc := 3) (i := 3) (by decide) dX7_reachedFrom_3 (snd_iconst (pc := 4) dX7_reachedFrom_4 (snd_istore (pc := 5) (i := 4) (by decide) dX7_reachedFrom_5 ((sk_X7_reachedFrom_7 F F))))))))

/-! LastWalker$Town.errandsOf(I)I -/
theorem dX7_errandsOf_0 : decode cX7_errandsOf 0 = .ok (.iconst 0, 1) := by decide +kernel
theorem dX7_errandsOf_1 : decode cX7_errandsOf 1 = .ok (.istore_n 2, 1) := by decide +kernel
theorem dX7_errandsOf_2 : decode cX7_errandsOf 2 = .ok (.iconst 0, 1) := by decide +kernel
theorem dX7_errandsOf_3 : decode cX7_errandsOf 3 = .ok (.istore_n 3, 1) := by decide +kernel
theorem dX7_errandsOf_4 : decode cX7_errandsOf 4 = .ok (.iload_n 3, 1) := by decide +kernel
theorem dX7_errandsOf_5 : decode cX7_errandsOf 5 = .ok (.aload_n 0, 1) := by decide +kernel
theorem dX7_errandsOf_6 : decode cX7_errandsOf 6 = .ok (.getfield 61, 3) := by decide +kernel
theorem dX7_errandsOf_9 : decode cX7_errandsOf 9 = .ok (.if_icmp .ge 25, 3) := by decide +kernel
theorem dX7_errandsOf_12 : decode cX7_errandsOf 12 = .ok (.aload_n 0, 1) := by decide +kernel
theorem dX7_errandsOf_13 : decode cX7_errandsOf 13 = .ok (.getfield 39, 3) := by decide +kernel
theorem dX7_errandsOf_16 : decode cX7_errandsOf 16 = .ok (.iload_n 3, 1) := by decide +kernel
theorem dX7_errandsOf_17 : decode cX7_errandsOf 17 = .ok (.iaload, 1) := by decide +kernel
theorem dX7_errandsOf_18 : decode cX7_errandsOf 18 = .ok (.iload_n 1, 1) := by decide +kernel
theorem dX7_errandsOf_19 : decode cX7_errandsOf 19 = .ok (.if_icmp .ne 9, 3) := by decide +kernel
theorem dX7_errandsOf_22 : decode cX7_errandsOf 22 = .ok (.iload_n 2, 1) := by decide +kernel
theorem dX7_errandsOf_23 : decode cX7_errandsOf 23 = .ok (.iconst 1, 1) := by decide +kernel
theorem dX7_errandsOf_24 : decode cX7_errandsOf 24 = .ok (.iload_n 3, 1) := by decide +kernel
theorem dX7_errandsOf_25 : decode cX7_errandsOf 25 = .ok (.ishl, 1) := by decide +kernel
theorem dX7_errandsOf_26 : decode cX7_errandsOf 26 = .ok (.ior, 1) := by decide +kernel
theorem dX7_errandsOf_27 : decode cX7_errandsOf 27 = .ok (.istore_n 2, 1) := by decide +kernel
theorem dX7_errandsOf_28 : decode cX7_errandsOf 28 = .ok (.iinc 3 1, 3) := by decide +kernel
theorem dX7_errandsOf_31 : decode cX7_errandsOf 31 = .ok (.goto (-27), 3) := by decide +kernel
theorem dX7_errandsOf_34 : decode cX7_errandsOf 34 = .ok (.iload_n 2, 1) := by decide +kernel
theorem dX7_errandsOf_35 : decode cX7_errandsOf 35 = .ok (.ireturn, 1) := by decide +kernel
noncomputable def k_X7_errandsOf_28 (F : Nat) (h4 : AK) : AK := ak_iinc 3 1 h4
set_option maxRecDepth 20000 in
theorem sk_X7_errandsOf_28 (F : Nat) {h4 : AK} (hh4 : Snd X0 RX7 cX7_errandsOf 4 0 4 h4) : Snd X0 RX7 cX7_errandsOf 4 0 28 (k_X7_errandsOf_28 F h4) := by
  unfold k_X7_errandsOf_28
  exact snd_iinc (pc := 28) (i := 3) (n := 1) (by decide) dX7_errandsOf_28 (snd_goto (pc := 31) (off := (-27)) (tgt := 4) (by decide) dX7_errandsOf_31 (hh4))
noncomputable def kb_X7_errandsOf_4 (F : Nat) (self : AK) : AK := ak_iload 3 (ak_aload 0 (ak_getf 7 12 (ak_cmplt (ak_aload 0 (ak_getf 7 13 (ak_iload 3 (ak_iald (ak_iload 1 (ak_cmpeq (ak_iload 2 (ak_push (vI 1) (ak_iload 3 (ak_ishl (ak_ior (ak_istore 2 ((k_X7_errandsOf_28 F self)))))))) ((k_X7_errandsOf_28 F self)))))))) (ak_iload 2 ak_ireturn))))
noncomputable def k_X7_errandsOf_4 (F : Nat) (n : Nat) : AK := Nat.rec (motive := fun _ => AK) ak_none (fun _ self => kb_X7_errandsOf_4 F self) n
set_option maxRecDepth 20000 in
theorem sk_X7_errandsOf_4 (F : Nat) : ∀ n, Snd X0 RX7 cX7_errandsOf 4 0 4 (k_X7_errandsOf_4 F n) := by
  intro n
  induction n with
  | zero => exact snd_none
  | succ n ih =>
    show Snd X0 RX7 cX7_errandsOf 4 0 4 (kb_X7_errandsOf_4 F (k_X7_errandsOf_4 F n))
    unfold kb_X7_errandsOf_4
    exact snd_iload_n (pc := 4) (i := 3) dX7_errandsOf_4 (snd_aload_n (pc := 5) (i := 0) dX7_errandsOf_5 (snd_getf (pc := 6) cls7 (f := 12) (by decide) wd_213 dX7_errandsOf_6 (snd_icmpge (pc := 9) (off := 25) (tgt := 34) (by decide) dX7_errandsOf_9 (snd_iload_n (pc := 34) (i := 2) dX7_errandsOf_34 (snd_ireturn dX7_errandsOf_35)) (snd_aload_n (pc := 12) (i := 0) dX7_errandsOf_12 (snd_getf (pc := 13) cls7 (f := 13) (by decide) wd_217 dX7_errandsOf_13 (snd_iload_n (pc := 16) (i := 3) dX7_errandsOf_16 (snd_iald (pc := 17) dX7_errandsOf_17 (snd_iload_n (pc := 18) (i := 1) dX7_errandsOf_18 (snd_icmpne (pc := 19) (off := 9) (tgt := 28) (by decide) dX7_errandsOf_19 ((sk_X7_errandsOf_28 F ih)) (snd_iload_n (pc := 22) (i := 2) dX7_errandsOf_22 (snd_iconst (pc := 23) dX7_errandsOf_23 (snd_iload_n (pc := 24) (i := 3) dX7_errandsOf_24 (snd_ishl (pc := 25) dX7_errandsOf_25 (snd_ior (pc := 26) dX7_errandsOf_26 (snd_istore_n (pc := 27) (i := 2) (by decide) dX7_errandsOf_27 ((sk_X7_errandsOf_28 F ih)))))))))))))))))
noncomputable def k_X7_errandsOf (F : Nat) : AK := ak_push (vI 0) (ak_istore 2 (ak_push (vI 0) (ak_istore 3 ((k_X7_errandsOf_4 F F)))))
noncomputable def m_X7_errandsOf (F : Nat) : AF := mkF 1 4 (k_X7_errandsOf F)
set_option maxRecDepth 20000 in
theorem s_X7_errandsOf (F : Nat) : MA yX7_errandsOf cX7_errandsOf 4 (some .int) 0 (m_X7_errandsOf F) := met_of (Or.inr (Or.inl ⟨rfl, rfl⟩)) (by decide) (by
  unfold k_X7_errandsOf
  exact snd_iconst (pc := 0) dX7_errandsOf_0 (snd_istore_n (pc := 1) (i := 2) (by decide) dX7_errandsOf_1 (snd_iconst (pc := 2) dX7_errandsOf_2 (snd_istore_n (pc := 3) (i := 3) (by decide) dX7_errandsOf_3 ((sk_X7_errandsOf_4 F F))))))

/-! LastWalker$Town.kindsByThree()I -/
theorem dX7_kindsByThree_0 : decode cX7_kindsByThree 0 = .ok (.iconst 0, 1) := by decide +kernel
theorem dX7_kindsByThree_1 : decode cX7_kindsByThree 1 = .ok (.istore_n 1, 1) := by decide +kernel
theorem dX7_kindsByThree_2 : decode cX7_kindsByThree 2 = .ok (.aload_n 0, 1) := by decide +kernel
theorem dX7_kindsByThree_3 : decode cX7_kindsByThree 3 = .ok (.getfield 58, 3) := by decide +kernel
theorem dX7_kindsByThree_6 : decode cX7_kindsByThree 6 = .ok (.iconst 1, 1) := by decide +kernel
theorem dX7_kindsByThree_7 : decode cX7_kindsByThree 7 = .ok (.isub, 1) := by decide +kernel
theorem dX7_kindsByThree_8 : decode cX7_kindsByThree 8 = .ok (.istore_n 2, 1) := by decide +kernel
theorem dX7_kindsByThree_9 : decode cX7_kindsByThree 9 = .ok (.iload_n 2, 1) := by decide +kernel
theorem dX7_kindsByThree_10 : decode cX7_kindsByThree 10 = .ok (.ifCond .lt 20, 3) := by decide +kernel
theorem dX7_kindsByThree_13 : decode cX7_kindsByThree 13 = .ok (.iload_n 1, 1) := by decide +kernel
theorem dX7_kindsByThree_14 : decode cX7_kindsByThree 14 = .ok (.iconst 3, 1) := by decide +kernel
theorem dX7_kindsByThree_15 : decode cX7_kindsByThree 15 = .ok (.imul, 1) := by decide +kernel
theorem dX7_kindsByThree_16 : decode cX7_kindsByThree 16 = .ok (.aload_n 0, 1) := by decide +kernel
theorem dX7_kindsByThree_17 : decode cX7_kindsByThree 17 = .ok (.getfield 36, 3) := by decide +kernel
theorem dX7_kindsByThree_20 : decode cX7_kindsByThree 20 = .ok (.iload_n 2, 1) := by decide +kernel
theorem dX7_kindsByThree_21 : decode cX7_kindsByThree 21 = .ok (.iaload, 1) := by decide +kernel
theorem dX7_kindsByThree_22 : decode cX7_kindsByThree 22 = .ok (.iadd, 1) := by decide +kernel
theorem dX7_kindsByThree_23 : decode cX7_kindsByThree 23 = .ok (.istore_n 1, 1) := by decide +kernel
theorem dX7_kindsByThree_24 : decode cX7_kindsByThree 24 = .ok (.iinc 2 (-1), 3) := by decide +kernel
theorem dX7_kindsByThree_27 : decode cX7_kindsByThree 27 = .ok (.goto (-18), 3) := by decide +kernel
theorem dX7_kindsByThree_30 : decode cX7_kindsByThree 30 = .ok (.iload_n 1, 1) := by decide +kernel
theorem dX7_kindsByThree_31 : decode cX7_kindsByThree 31 = .ok (.ireturn, 1) := by decide +kernel
noncomputable def kb_X7_kindsByThree_9 (F : Nat) (self : AK) : AK := ak_iload 2 (ak_iflt (ak_iload 1 ak_ireturn) (ak_iload 1 (ak_push (vI 3) (ak_imul (ak_aload 0 (ak_getf 7 11 (ak_iload 2 (ak_iald (ak_iadd (ak_istore 1 (ak_iinc 2 (-1) self)))))))))))
noncomputable def k_X7_kindsByThree_9 (F : Nat) (n : Nat) : AK := Nat.rec (motive := fun _ => AK) ak_none (fun _ self => kb_X7_kindsByThree_9 F self) n
set_option maxRecDepth 20000 in
theorem sk_X7_kindsByThree_9 (F : Nat) : ∀ n, Snd X0 RX7 cX7_kindsByThree 3 0 9 (k_X7_kindsByThree_9 F n) := by
  intro n
  induction n with
  | zero => exact snd_none
  | succ n ih =>
    show Snd X0 RX7 cX7_kindsByThree 3 0 9 (kb_X7_kindsByThree_9 F (k_X7_kindsByThree_9 F n))
    unfold kb_X7_kindsByThree_9
    exact snd_iload_n (pc := 9) (i := 2) dX7_kindsByThree_9 (snd_iflt (pc := 10) (off := 20) (tgt := 30) (by decide) dX7_kindsByThree_10 (snd_iload_n (pc := 30) (i := 1) dX7_kindsByThree_30 (snd_ireturn dX7_kindsByThree_31)) (snd_iload_n (pc := 13) (i := 1) dX7_kindsByThree_13 (snd_iconst (pc := 14) dX7_kindsByThree_14 (snd_imul (pc := 15) dX7_kindsByThree_15 (snd_aload_n (pc := 16) (i := 0) dX7_kindsByThree_16 (snd_getf (pc := 17) cls7 (f := 11) (by decide) wd_209 dX7_kindsByThree_17 (snd_iload_n (pc := 20) (i := 2) dX7_kindsByThree_20 (snd_iald (pc := 21) dX7_kindsByThree_21 (snd_iadd (pc := 22) dX7_kindsByThree_22 (snd_istore_n (pc := 23) (i := 1) (by decide) dX7_kindsByThree_23 (snd_iinc (pc := 24) (i := 2) (n := (-1)) (by decide) dX7_kindsByThree_24 (snd_goto (pc := 27) (off := (-18)) (tgt := 9) (by decide) dX7_kindsByThree_27 (ih)))))))))))))
noncomputable def k_X7_kindsByThree (F : Nat) : AK := ak_push (vI 0) (ak_istore 1 (ak_aload 0 (ak_getf 7 8 (ak_push (vI 1) (ak_isub (ak_istore 2 ((k_X7_kindsByThree_9 F F))))))))
noncomputable def m_X7_kindsByThree (F : Nat) : AF := mkF 1 3 (k_X7_kindsByThree F)
set_option maxRecDepth 20000 in
theorem s_X7_kindsByThree (F : Nat) : MA yX7_kindsByThree cX7_kindsByThree 3 (some .int) 0 (m_X7_kindsByThree F) := met_of (Or.inr (Or.inl ⟨rfl, rfl⟩)) (by decide) (by
  unfold k_X7_kindsByThree
  exact snd_iconst (pc := 0) dX7_kindsByThree_0 (snd_istore_n (pc := 1) (i := 1) (by decide) dX7_kindsByThree_1 (snd_aload_n (pc := 2) (i := 0) dX7_kindsByThree_2 (snd_getf (pc := 3) cls7 (f := 8) (by decide) wd_194 dX7_kindsByThree_3 (snd_iconst (pc := 6) dX7_kindsByThree_6 (snd_isub (pc := 7) dX7_kindsByThree_7 (snd_istore_n (pc := 8) (i := 2) (by decide) dX7_kindsByThree_8 ((sk_X7_kindsByThree_9 F F)))))))))

/-! LastWalker.feed(IIIII)I -/
theorem dX8_feed_0 : decode cX8_feed 0 = .ok (.aload_n 0, 1) := by decide +kernel
theorem dX8_feed_1 : decode cX8_feed 1 = .ok (.getfield 10, 3) := by decide +kernel
theorem dX8_feed_4 : decode cX8_feed 4 = .ok (.getfield 57, 3) := by decide +kernel
theorem dX8_feed_7 : decode cX8_feed 7 = .ok (.bipush 20, 2) := by decide +kernel
theorem dX8_feed_9 : decode cX8_feed 9 = .ok (.iadd, 1) := by decide +kernel
theorem dX8_feed_10 : decode cX8_feed 10 = .ok (.sipush 600, 3) := by decide +kernel
theorem dX8_feed_13 : decode cX8_feed 13 = .ok (.if_icmp .le 5, 3) := by decide +kernel
theorem dX8_feed_16 : decode cX8_feed 16 = .ok (.iconst (-1), 1) := by decide +kernel
theorem dX8_feed_17 : decode cX8_feed 17 = .ok (.ireturn, 1) := by decide +kernel
theorem dX8_feed_18 : decode cX8_feed 18 = .ok (.aload_n 0, 1) := by decide +kernel
theorem dX8_feed_19 : decode cX8_feed 19 = .ok (.getfield 10, 3) := by decide +kernel
theorem dX8_feed_22 : decode cX8_feed 22 = .ok (.iload_n 1, 1) := by decide +kernel
theorem dX8_feed_23 : decode cX8_feed 23 = .ok (.invokevirtual 61, 3) := by decide +kernel
theorem dX8_feed_26 : decode cX8_feed 26 = .ok (.aload_n 0, 1) := by decide +kernel
theorem dX8_feed_27 : decode cX8_feed 27 = .ok (.getfield 10, 3) := by decide +kernel
theorem dX8_feed_30 : decode cX8_feed 30 = .ok (.iload_n 2, 1) := by decide +kernel
theorem dX8_feed_31 : decode cX8_feed 31 = .ok (.invokevirtual 61, 3) := by decide +kernel
theorem dX8_feed_34 : decode cX8_feed 34 = .ok (.aload_n 0, 1) := by decide +kernel
theorem dX8_feed_35 : decode cX8_feed 35 = .ok (.getfield 10, 3) := by decide +kernel
theorem dX8_feed_38 : decode cX8_feed 38 = .ok (.iload_n 3, 1) := by decide +kernel
theorem dX8_feed_39 : decode cX8_feed 39 = .ok (.invokevirtual 61, 3) := by decide +kernel
theorem dX8_feed_42 : decode cX8_feed 42 = .ok (.aload_n 0, 1) := by decide +kernel
theorem dX8_feed_43 : decode cX8_feed 43 = .ok (.getfield 10, 3) := by decide +kernel
theorem dX8_feed_46 : decode cX8_feed 46 = .ok (.iload 4, 2) := by decide +kernel
theorem dX8_feed_48 : decode cX8_feed 48 = .ok (.invokevirtual 61, 3) := by decide +kernel
theorem dX8_feed_51 : decode cX8_feed 51 = .ok (.aload_n 0, 1) := by decide +kernel
theorem dX8_feed_52 : decode cX8_feed 52 = .ok (.getfield 10, 3) := by decide +kernel
theorem dX8_feed_55 : decode cX8_feed 55 = .ok (.iload 5, 2) := by decide +kernel
theorem dX8_feed_57 : decode cX8_feed 57 = .ok (.invokevirtual 61, 3) := by decide +kernel
theorem dX8_feed_60 : decode cX8_feed 60 = .ok (.aload_n 0, 1) := by decide +kernel
theorem dX8_feed_61 : decode cX8_feed 61 = .ok (.getfield 10, 3) := by decide +kernel
theorem dX8_feed_64 : decode cX8_feed 64 = .ok (.getfield 57, 3) := by decide +kernel
theorem dX8_feed_67 : decode cX8_feed 67 = .ok (.ireturn, 1) := by decide +kernel
noncomputable def k_X8_feed (F : Nat) : AK := ak_aload 0 (ak_getf 8 0 (ak_getf 0 1 (ak_push (vI 20) (ak_iadd (ak_push (vI 600) (ak_cmpgt (ak_push (vI (-1)) ak_ireturn) (ak_aload 0 (ak_getf 8 0 (ak_iload 1 (ak_callv 0 1 (m_X0_push F) (ak_aload 0 (ak_getf 8 0 (ak_iload 2 (ak_callv 0 1 (m_X0_push F) (ak_aload 0 (ak_getf 8 0 (ak_iload 3 (ak_callv 0 1 (m_X0_push F) (ak_aload 0 (ak_getf 8 0 (ak_iload 4 (ak_callv 0 1 (m_X0_push F) (ak_aload 0 (ak_getf 8 0 (ak_iload 5 (ak_callv 0 1 (m_X0_push F) (ak_aload 0 (ak_getf 8 0 (ak_getf 0 1 ak_ireturn)))))))))))))))))))))))))))))
noncomputable def m_X8_feed (F : Nat) : AF := mkF 1 6 (k_X8_feed F)
set_option maxRecDepth 20000 in
theorem s_X8_feed (F : Nat) : MA yX8_feed cX8_feed 6 (some .int) 1 (m_X8_feed F) := met_of (Or.inr (Or.inl ⟨rfl, rfl⟩)) (by decide) (by
  unfold k_X8_feed
  exact snd_aload_n (pc := 0) (i := 0) dX8_feed_0 (snd_getf (pc := 1) cls8 (f := 0) (by decide) wd_588 dX8_feed_1 (snd_getf (pc := 4) cls0 (f := 1) (by decide) wd_306 dX8_feed_4 (snd_bipush (pc := 7) (by decide) dX8_feed_7 (snd_iadd (pc := 9) dX8_feed_9 (snd_sipush (pc := 10) (by decide) dX8_feed_10 (snd_icmple (pc := 13) (off := 5) (tgt := 18) (by decide) dX8_feed_13 (snd_aload_n (pc := 18) (i := 0) dX8_feed_18 (snd_getf (pc := 19) cls8 (f := 0) (by decide) wd_588 dX8_feed_19 (snd_iload_n (pc := 22) (i := 1) dX8_feed_22 (snd_callV (pc := 23) (n := 1) cls0 (s_X0_push F) (by decide) (by decide) wd_617 wd_614 wd_615 wd_616 wd_121 hy_X0_push dX8_feed_23 (snd_aload_n (pc := 26) (i := 0) dX8_feed_26 (snd_getf (pc := 27) cls8 (f := 0) (by decide) wd_588 dX8_feed_27 (snd_iload_n (pc := 30) (i := 2) dX8_feed_30 (snd_callV (pc := 31) (n := 1) cls0 (s_X0_push F) (by decide) (by decide) wd_617 wd_614 wd_615 wd_616 wd_121 hy_X0_push dX8_feed_31 (snd_aload_n (pc := 34) (i := 0) dX8_feed_34 (snd_getf (pc := 35) cls8 (f := 0) (by decide) wd_588 dX8_feed_35 (snd_iload_n (pc := 38) (i := 3) dX8_feed_38 (snd_callV (pc := 39) (n := 1) cls0 (s_X0_push F) (by decide) (by decide) wd_617 wd_614 wd_615 wd_616 wd_121 hy_X0_push dX8_feed_39 (snd_aload_n (pc := 42) (i := 0) dX8_feed_42 (snd_getf (pc := 43) cls8 (f := 0) (by decide) wd_588 dX8_feed_43 (snd_iload (pc := 46) (i := 4) dX8_feed_46 (snd_callV (pc := 48) (n := 1) cls0 (s_X0_push F) (by decide) (by decide) wd_617 wd_614 wd_615 wd_616 wd_121 hy_X0_push dX8_feed_48 (snd_aload_n (pc := 51) (i := 0) dX8_feed_51 (snd_getf (pc := 52) cls8 (f := 0) (by decide) wd_588 dX8_feed_52 (snd_iload (pc := 55) (i := 5) dX8_feed_55 (snd_callV (pc := 57) (n := 1) cls0 (s_X0_push F) (by decide) (by decide) wd_617 wd_614 wd_615 wd_616 wd_121 hy_X0_push dX8_feed_57 (snd_aload_n (pc := 60) (i := 0) dX8_feed_60 (snd_getf (pc := 61) cls8 (f := 0) (by decide) wd_588 dX8_feed_61 (snd_getf (pc := 64) cls0 (f := 1) (by decide) wd_306 dX8_feed_64 (snd_ireturn dX8_feed_67)))))))))))))))))))))))) (snd_iconst (pc := 16) dX8_feed_16 (snd_ireturn dX8_feed_17)))))))))

/-! LastWalker.end(I)I -/
theorem dX8_end_0 : decode cX8_end 0 = .ok (.iload_n 1, 1) := by decide +kernel
theorem dX8_end_1 : decode cX8_end 1 = .ok (.ifCond .lt 14, 3) := by decide +kernel
theorem dX8_end_4 : decode cX8_end 4 = .ok (.iload_n 1, 1) := by decide +kernel
theorem dX8_end_5 : decode cX8_end 5 = .ok (.aload_n 0, 1) := by decide +kernel
theorem dX8_end_6 : decode cX8_end 6 = .ok (.getfield 10, 3) := by decide +kernel
theorem dX8_end_9 : decode cX8_end 9 = .ok (.getfield 57, 3) := by decide +kernel
theorem dX8_end_12 : decode cX8_end 12 = .ok (.if_icmp .le 5, 3) := by decide +kernel
theorem dX8_end_15 : decode cX8_end 15 = .ok (.iconst (-1), 1) := by decide +kernel
theorem dX8_end_16 : decode cX8_end 16 = .ok (.ireturn, 1) := by decide +kernel
theorem dX8_end_17 : decode cX8_end 17 = .ok (.aload_n 0, 1) := by decide +kernel
theorem dX8_end_18 : decode cX8_end 18 = .ok (.getfield 10, 3) := by decide +kernel
theorem dX8_end_21 : decode cX8_end 21 = .ok (.iload_n 1, 1) := by decide +kernel
theorem dX8_end_22 : decode cX8_end 22 = .ok (.putfield 57, 3) := by decide +kernel
theorem dX8_end_25 : decode cX8_end 25 = .ok (.iload_n 1, 1) := by decide +kernel
theorem dX8_end_26 : decode cX8_end 26 = .ok (.ireturn, 1) := by decide +kernel
noncomputable def k_X8_end (F : Nat) : AK := ak_iload 1 (ak_iflt (ak_push (vI (-1)) ak_ireturn) (ak_iload 1 (ak_aload 0 (ak_getf 8 0 (ak_getf 0 1 (ak_cmpgt (ak_push (vI (-1)) ak_ireturn) (ak_aload 0 (ak_getf 8 0 (ak_iload 1 (ak_putf 0 1 (ak_iload 1 ak_ireturn)))))))))))
noncomputable def m_X8_end (F : Nat) : AF := mkF 1 2 (k_X8_end F)
set_option maxRecDepth 20000 in
theorem s_X8_end (F : Nat) : MA yX8_end cX8_end 2 (some .int) 0 (m_X8_end F) := met_of (Or.inr (Or.inl ⟨rfl, rfl⟩)) (by decide) (by
  unfold k_X8_end
  exact snd_iload_n (pc := 0) (i := 1) dX8_end_0 (snd_iflt (pc := 1) (off := 14) (tgt := 15) (by decide) dX8_end_1 (snd_iconst (pc := 15) dX8_end_15 (snd_ireturn dX8_end_16)) (snd_iload_n (pc := 4) (i := 1) dX8_end_4 (snd_aload_n (pc := 5) (i := 0) dX8_end_5 (snd_getf (pc := 6) cls8 (f := 0) (by decide) wd_588 dX8_end_6 (snd_getf (pc := 9) cls0 (f := 1) (by decide) wd_306 dX8_end_9 (snd_icmple (pc := 12) (off := 5) (tgt := 17) (by decide) dX8_end_12 (snd_aload_n (pc := 17) (i := 0) dX8_end_17 (snd_getf (pc := 18) cls8 (f := 0) (by decide) wd_588 dX8_end_18 (snd_iload_n (pc := 21) (i := 1) dX8_end_21 (snd_putf (pc := 22) cls0 (f := 1) (by decide) rfl rfl rfl wd_306 dX8_end_22 (snd_iload_n (pc := 25) (i := 1) dX8_end_25 (snd_ireturn dX8_end_26)))))) (snd_iconst (pc := 15) dX8_end_15 (snd_ireturn dX8_end_16)))))))))

/-! LastWalker.placeFor(III)I -/
theorem dX8_placeFor_0 : decode cX8_placeFor 0 = .ok (.iload_n 0, 1) := by decide +kernel
theorem dX8_placeFor_1 : decode cX8_placeFor 1 = .ok (.iconst (-1), 1) := by decide +kernel
theorem dX8_placeFor_2 : decode cX8_placeFor 2 = .ok (.if_icmp .ne 14, 3) := by decide +kernel
theorem dX8_placeFor_5 : decode cX8_placeFor 5 = .ok (.iload_n 1, 1) := by decide +kernel
theorem dX8_placeFor_6 : decode cX8_placeFor 6 = .ok (.iload_n 2, 1) := by decide +kernel
theorem dX8_placeFor_7 : decode cX8_placeFor 7 = .ok (.if_icmp .ge 7, 3) := by decide +kernel
theorem dX8_placeFor_10 : decode cX8_placeFor 10 = .ok (.iload_n 1, 1) := by decide +kernel
theorem dX8_placeFor_11 : decode cX8_placeFor 11 = .ok (.goto 4, 3) := by decide +kernel
theorem dX8_placeFor_14 : decode cX8_placeFor 14 = .ok (.iconst (-1), 1) := by decide +kernel
theorem dX8_placeFor_15 : decode cX8_placeFor 15 = .ok (.ireturn, 1) := by decide +kernel
theorem dX8_placeFor_16 : decode cX8_placeFor 16 = .ok (.iload_n 0, 1) := by decide +kernel
theorem dX8_placeFor_17 : decode cX8_placeFor 17 = .ok (.ifCond .lt 12, 3) := by decide +kernel
theorem dX8_placeFor_20 : decode cX8_placeFor 20 = .ok (.iload_n 0, 1) := by decide +kernel
theorem dX8_placeFor_21 : decode cX8_placeFor 21 = .ok (.iload_n 1, 1) := by decide +kernel
theorem dX8_placeFor_22 : decode cX8_placeFor 22 = .ok (.if_icmp .ge 7, 3) := by decide +kernel
theorem dX8_placeFor_25 : decode cX8_placeFor 25 = .ok (.iload_n 0, 1) := by decide +kernel
theorem dX8_placeFor_26 : decode cX8_placeFor 26 = .ok (.goto 4, 3) := by decide +kernel
theorem dX8_placeFor_29 : decode cX8_placeFor 29 = .ok (.iconst (-1), 1) := by decide +kernel
theorem dX8_placeFor_30 : decode cX8_placeFor 30 = .ok (.ireturn, 1) := by decide +kernel
noncomputable def k_X8_placeFor (F : Nat) : AK := ak_iload 0 (ak_push (vI (-1)) (ak_cmpeq (ak_iload 1 (ak_iload 2 (ak_cmplt (ak_iload 1 ak_ireturn) (ak_push (vI (-1)) ak_ireturn)))) (ak_iload 0 (ak_iflt (ak_push (vI (-1)) ak_ireturn) (ak_iload 0 (ak_iload 1 (ak_cmplt (ak_iload 0 ak_ireturn) (ak_push (vI (-1)) ak_ireturn))))))))
noncomputable def m_X8_placeFor (F : Nat) : AF := mkF 1 3 (k_X8_placeFor F)
set_option maxRecDepth 20000 in
theorem s_X8_placeFor (F : Nat) : MA yX8_placeFor cX8_placeFor 3 (some .int) 0 (m_X8_placeFor F) := met_of (Or.inr (Or.inl ⟨rfl, rfl⟩)) (by decide) (by
  unfold k_X8_placeFor
  exact snd_iload_n (pc := 0) (i := 0) dX8_placeFor_0 (snd_iconst (pc := 1) dX8_placeFor_1 (snd_icmpne (pc := 2) (off := 14) (tgt := 16) (by decide) dX8_placeFor_2 (snd_iload_n (pc := 16) (i := 0) dX8_placeFor_16 (snd_iflt (pc := 17) (off := 12) (tgt := 29) (by decide) dX8_placeFor_17 (snd_iconst (pc := 29) dX8_placeFor_29 (snd_ireturn dX8_placeFor_30)) (snd_iload_n (pc := 20) (i := 0) dX8_placeFor_20 (snd_iload_n (pc := 21) (i := 1) dX8_placeFor_21 (snd_icmpge (pc := 22) (off := 7) (tgt := 29) (by decide) dX8_placeFor_22 (snd_iconst (pc := 29) dX8_placeFor_29 (snd_ireturn dX8_placeFor_30)) (snd_iload_n (pc := 25) (i := 0) dX8_placeFor_25 (snd_goto (pc := 26) (off := 4) (tgt := 30) (by decide) dX8_placeFor_26 (snd_ireturn dX8_placeFor_30)))))))) (snd_iload_n (pc := 5) (i := 1) dX8_placeFor_5 (snd_iload_n (pc := 6) (i := 2) dX8_placeFor_6 (snd_icmpge (pc := 7) (off := 7) (tgt := 14) (by decide) dX8_placeFor_7 (snd_iconst (pc := 14) dX8_placeFor_14 (snd_ireturn dX8_placeFor_15)) (snd_iload_n (pc := 10) (i := 1) dX8_placeFor_10 (snd_goto (pc := 11) (off := 4) (tgt := 15) (by decide) dX8_placeFor_11 (snd_ireturn dX8_placeFor_15)))))))))

/-! LastWalker.keepFault()I -/
theorem dX8_keepFault_0 : decode cX8_keepFault 0 = .ok (.aload_n 0, 1) := by decide +kernel
theorem dX8_keepFault_1 : decode cX8_keepFault 1 = .ok (.getfield 10, 3) := by decide +kernel
theorem dX8_keepFault_4 : decode cX8_keepFault 4 = .ok (.aload_n 0, 1) := by decide +kernel
theorem dX8_keepFault_5 : decode cX8_keepFault 5 = .ok (.getfield 23, 3) := by decide +kernel
theorem dX8_keepFault_8 : decode cX8_keepFault 8 = .ok (.getfield 130, 3) := by decide +kernel
theorem dX8_keepFault_11 : decode cX8_keepFault 11 = .ok (.putfield 65, 3) := by decide +kernel
theorem dX8_keepFault_14 : decode cX8_keepFault 14 = .ok (.aload_n 0, 1) := by decide +kernel
theorem dX8_keepFault_15 : decode cX8_keepFault 15 = .ok (.getfield 10, 3) := by decide +kernel
theorem dX8_keepFault_18 : decode cX8_keepFault 18 = .ok (.aload_n 0, 1) := by decide +kernel
theorem dX8_keepFault_19 : decode cX8_keepFault 19 = .ok (.getfield 23, 3) := by decide +kernel
theorem dX8_keepFault_22 : decode cX8_keepFault 22 = .ok (.getfield 131, 3) := by decide +kernel
theorem dX8_keepFault_25 : decode cX8_keepFault 25 = .ok (.putfield 68, 3) := by decide +kernel
theorem dX8_keepFault_28 : decode cX8_keepFault 28 = .ok (.iconst (-1), 1) := by decide +kernel
theorem dX8_keepFault_29 : decode cX8_keepFault 29 = .ok (.ireturn, 1) := by decide +kernel
noncomputable def k_X8_keepFault (F : Nat) : AK := ak_aload 0 (ak_getf 8 0 (ak_aload 0 (ak_getf 8 2 (ak_getf 5 2 (ak_putf 0 2 (ak_aload 0 (ak_getf 8 0 (ak_aload 0 (ak_getf 8 2 (ak_getf 5 3 (ak_putf 0 3 (ak_push (vI (-1)) ak_ireturn))))))))))))
noncomputable def m_X8_keepFault (F : Nat) : AF := mkF 1 1 (k_X8_keepFault F)
set_option maxRecDepth 20000 in
theorem s_X8_keepFault (F : Nat) : MA yX8_keepFault cX8_keepFault 1 (some .int) 0 (m_X8_keepFault F) := met_of (Or.inr (Or.inl ⟨rfl, rfl⟩)) (by decide) (by
  unfold k_X8_keepFault
  exact snd_aload_n (pc := 0) (i := 0) dX8_keepFault_0 (snd_getf (pc := 1) cls8 (f := 0) (by decide) wd_588 dX8_keepFault_1 (snd_aload_n (pc := 4) (i := 0) dX8_keepFault_4 (snd_getf (pc := 5) cls8 (f := 2) (by decide) wd_590 dX8_keepFault_5 (snd_getf (pc := 8) cls5 (f := 2) (by decide) wd_356 dX8_keepFault_8 (snd_putf (pc := 11) cls0 (f := 2) (by decide) rfl rfl rfl wd_309 dX8_keepFault_11 (snd_aload_n (pc := 14) (i := 0) dX8_keepFault_14 (snd_getf (pc := 15) cls8 (f := 0) (by decide) wd_588 dX8_keepFault_15 (snd_aload_n (pc := 18) (i := 0) dX8_keepFault_18 (snd_getf (pc := 19) cls8 (f := 2) (by decide) wd_590 dX8_keepFault_19 (snd_getf (pc := 22) cls5 (f := 3) (by decide) wd_358 dX8_keepFault_22 (snd_putf (pc := 25) cls0 (f := 3) (by decide) rfl rfl rfl wd_311 dX8_keepFault_25 (snd_iconst (pc := 28) dX8_keepFault_28 (snd_ireturn dX8_keepFault_29))))))))))))))

/-! LastWalker.takeTown(II)I -/
theorem dX8_takeTown_0 : decode cX8_takeTown 0 = .ok (.iload_n 2, 1) := by decide +kernel
theorem dX8_takeTown_1 : decode cX8_takeTown 1 = .ok (.aload_n 0, 1) := by decide +kernel
theorem dX8_takeTown_2 : decode cX8_takeTown 2 = .ok (.getfield 10, 3) := by decide +kernel
theorem dX8_takeTown_5 : decode cX8_takeTown 5 = .ok (.getfield 78, 3) := by decide +kernel
theorem dX8_takeTown_8 : decode cX8_takeTown 8 = .ok (.iconst 2, 1) := by decide +kernel
theorem dX8_takeTown_9 : decode cX8_takeTown 9 = .ok (.invokestatic 81, 3) := by decide +kernel
theorem dX8_takeTown_12 : decode cX8_takeTown 12 = .ok (.istore_n 3, 1) := by decide +kernel
theorem dX8_takeTown_13 : decode cX8_takeTown 13 = .ok (.iload_n 3, 1) := by decide +kernel
theorem dX8_takeTown_14 : decode cX8_takeTown 14 = .ok (.iconst (-1), 1) := by decide +kernel
theorem dX8_takeTown_15 : decode cX8_takeTown 15 = .ok (.if_icmp .ne 6, 3) := by decide +kernel
theorem dX8_takeTown_18 : decode cX8_takeTown 18 = .ok (.bipush (-2), 2) := by decide +kernel
theorem dX8_takeTown_20 : decode cX8_takeTown 20 = .ok (.ireturn, 1) := by decide +kernel
theorem dX8_takeTown_21 : decode cX8_takeTown 21 = .ok (.aload_n 0, 1) := by decide +kernel
theorem dX8_takeTown_22 : decode cX8_takeTown 22 = .ok (.getfield 23, 3) := by decide +kernel
theorem dX8_takeTown_25 : decode cX8_takeTown 25 = .ok (.aload_n 0, 1) := by decide +kernel
theorem dX8_takeTown_26 : decode cX8_takeTown 26 = .ok (.getfield 10, 3) := by decide +kernel
theorem dX8_takeTown_29 : decode cX8_takeTown 29 = .ok (.getfield 85, 3) := by decide +kernel
theorem dX8_takeTown_32 : decode cX8_takeTown 32 = .ok (.iload_n 1, 1) := by decide +kernel
theorem dX8_takeTown_33 : decode cX8_takeTown 33 = .ok (.invokevirtual 89, 3) := by decide +kernel
theorem dX8_takeTown_36 : decode cX8_takeTown 36 = .ok (.ifCond .ne 8, 3) := by decide +kernel
theorem dX8_takeTown_39 : decode cX8_takeTown 39 = .ok (.aload_n 0, 1) := by decide +kernel
theorem dX8_takeTown_40 : decode cX8_takeTown 40 = .ok (.invokevirtual 93, 3) := by decide +kernel
theorem dX8_takeTown_43 : decode cX8_takeTown 43 = .ok (.ireturn, 1) := by decide +kernel
theorem dX8_takeTown_44 : decode cX8_takeTown 44 = .ok (.aload_n 0, 1) := by decide +kernel
theorem dX8_takeTown_45 : decode cX8_takeTown 45 = .ok (.getfield 10, 3) := by decide +kernel
theorem dX8_takeTown_48 : decode cX8_takeTown 48 = .ok (.getfield 97, 3) := by decide +kernel
theorem dX8_takeTown_51 : decode cX8_takeTown 51 = .ok (.iload_n 3, 1) := by decide +kernel
theorem dX8_takeTown_52 : decode cX8_takeTown 52 = .ok (.aaload, 1) := by decide +kernel
theorem dX8_takeTown_53 : decode cX8_takeTown 53 = .ok (.aload_n 0, 1) := by decide +kernel
theorem dX8_takeTown_54 : decode cX8_takeTown 54 = .ok (.getfield 23, 3) := by decide +kernel
theorem dX8_takeTown_57 : decode cX8_takeTown 57 = .ok (.getfield 101, 3) := by decide +kernel
theorem dX8_takeTown_60 : decode cX8_takeTown 60 = .ok (.invokevirtual 103, 3) := by decide +kernel
theorem dX8_takeTown_63 : decode cX8_takeTown 63 = .ok (.aload_n 0, 1) := by decide +kernel
theorem dX8_takeTown_64 : decode cX8_takeTown 64 = .ok (.getfield 10, 3) := by decide +kernel
theorem dX8_takeTown_67 : decode cX8_takeTown 67 = .ok (.aload_n 0, 1) := by decide +kernel
theorem dX8_takeTown_68 : decode cX8_takeTown 68 = .ok (.getfield 10, 3) := by decide +kernel
theorem dX8_takeTown_71 : decode cX8_takeTown 71 = .ok (.getfield 78, 3) := by decide +kernel
theorem dX8_takeTown_74 : decode cX8_takeTown 74 = .ok (.iload_n 3, 1) := by decide +kernel
theorem dX8_takeTown_75 : decode cX8_takeTown 75 = .ok (.iconst 1, 1) := by decide +kernel
theorem dX8_takeTown_76 : decode cX8_takeTown 76 = .ok (.iadd, 1) := by decide +kernel
theorem dX8_takeTown_77 : decode cX8_takeTown 77 = .ok (.invokestatic 107, 3) := by decide +kernel
theorem dX8_takeTown_80 : decode cX8_takeTown 80 = .ok (.putfield 78, 3) := by decide +kernel
theorem dX8_takeTown_83 : decode cX8_takeTown 83 = .ok (.iload_n 3, 1) := by decide +kernel
theorem dX8_takeTown_84 : decode cX8_takeTown 84 = .ok (.ireturn, 1) := by decide +kernel
noncomputable def k_X8_takeTown (F : Nat) : AK := ak_iload 2 (ak_aload 0 (ak_getf 8 0 (ak_getf 0 5 (ak_push (vI 2) (ak_call 3 (m_X8_placeFor F) (ak_istore 3 (ak_iload 3 (ak_push (vI (-1)) (ak_cmpeq (ak_push (vI (-2)) ak_ireturn) (ak_aload 0 (ak_getf 8 2 (ak_aload 0 (ak_getf 8 0 (ak_getf 0 0 (ak_iload 1 (ak_callv 5 2 (m_X5_readTown F) (ak_ifeq (ak_aload 0 (ak_callv 8 0 (m_X8_keepFault F) ak_ireturn)) (ak_aload 0 (ak_getf 8 0 (ak_getf 0 4 (ak_iload 3 (ak_aald (ak_aload 0 (ak_getf 8 2 (ak_getf 5 0 (ak_callv 7 1 (m_X7_copyFrom F) (ak_aload 0 (ak_getf 8 0 (ak_aload 0 (ak_getf 8 0 (ak_getf 0 5 (ak_iload 3 (ak_push (vI 1) (ak_iadd (ak_imax (ak_putf 0 5 (ak_iload 3 ak_ireturn)))))))))))))))))))))))))))))))))))))
noncomputable def m_X8_takeTown (F : Nat) : AF := mkF 1 4 (k_X8_takeTown F)
set_option maxRecDepth 20000 in
theorem s_X8_takeTown (F : Nat) : MA yX8_takeTown cX8_takeTown 4 (some .int) 8 (m_X8_takeTown F) := met_of (Or.inr (Or.inl ⟨rfl, rfl⟩)) (by decide) (by
  unfold k_X8_takeTown
  exact snd_iload_n (pc := 0) (i := 2) dX8_takeTown_0 (snd_aload_n (pc := 1) (i := 0) dX8_takeTown_1 (snd_getf (pc := 2) cls8 (f := 0) (by decide) wd_588 dX8_takeTown_2 (snd_getf (pc := 5) cls0 (f := 5) (by decide) wd_315 dX8_takeTown_5 (snd_iconst (pc := 8) dX8_takeTown_8 (snd_callS (pc := 9) (n := 3) (s_X8_placeFor F) (by decide) (by decide) wd_632 wd_630 wd_631 wd_120 hy_X8_placeFor dX8_takeTown_9 (snd_istore_n (pc := 12) (i := 3) (by decide) dX8_takeTown_12 (snd_iload_n (pc := 13) (i := 3) dX8_takeTown_13 (snd_iconst (pc := 14) dX8_takeTown_14 (snd_icmpne (pc := 15) (off := 6) (tgt := 21) (by decide) dX8_takeTown_15 (snd_aload_n (pc := 21) (i := 0) dX8_takeTown_21 (snd_getf (pc := 22) cls8 (f := 2) (by decide) wd_590 dX8_takeTown_22 (snd_aload_n (pc := 25) (i := 0) dX8_takeTown_25 (snd_getf (pc := 26) cls8 (f := 0) (by decide) wd_588 dX8_takeTown_26 (snd_getf (pc := 29) cls0 (f := 0) (by decide) wd_305 dX8_takeTown_29 (snd_iload_n (pc := 32) (i := 1) dX8_takeTown_32 (snd_callV (pc := 33) (n := 2) cls5 (s_X5_readTown F) (by decide) (by decide) wd_636 wd_633 wd_634 wd_635 wd_124 hy_X5_readTown dX8_takeTown_33 (snd_ifne (pc := 36) (off := 8) (tgt := 44) (by decide) dX8_takeTown_36 (snd_aload_n (pc := 44) (i := 0) dX8_takeTown_44 (snd_getf (pc := 45) cls8 (f := 0) (by decide) wd_588 dX8_takeTown_45 (snd_getf (pc := 48) cls0 (f := 4) (by decide) wd_313 dX8_takeTown_48 (snd_iload_n (pc := 51) (i := 3) dX8_takeTown_51 (snd_aald (pc := 52) dX8_takeTown_52 (snd_aload_n (pc := 53) (i := 0) dX8_takeTown_53 (snd_getf (pc := 54) cls8 (f := 2) (by decide) wd_590 dX8_takeTown_54 (snd_getf (pc := 57) cls5 (f := 0) (by decide) wd_352 dX8_takeTown_57 (snd_callV (pc := 60) (n := 1) cls7 (s_X7_copyFrom F) (by decide) (by decide) wd_809 wd_806 wd_807 wd_808 wd_122 hy_X7_copyFrom dX8_takeTown_60 (snd_aload_n (pc := 63) (i := 0) dX8_takeTown_63 (snd_getf (pc := 64) cls8 (f := 0) (by decide) wd_588 dX8_takeTown_64 (snd_aload_n (pc := 67) (i := 0) dX8_takeTown_67 (snd_getf (pc := 68) cls8 (f := 0) (by decide) wd_588 dX8_takeTown_68 (snd_getf (pc := 71) cls0 (f := 5) (by decide) wd_315 dX8_takeTown_71 (snd_iload_n (pc := 74) (i := 3) dX8_takeTown_74 (snd_iconst (pc := 75) dX8_takeTown_75 (snd_iadd (pc := 76) dX8_takeTown_76 (snd_imax (pc := 77) (by decide) wd_813 wd_800 wd_130 wd_801 dX8_takeTown_77 (snd_putf (pc := 80) cls0 (f := 5) (by decide) rfl rfl rfl wd_315 dX8_takeTown_80 (snd_iload_n (pc := 83) (i := 3) dX8_takeTown_83 (snd_ireturn dX8_takeTown_84))))))))))))))))))))) (snd_aload_n (pc := 39) (i := 0) dX8_takeTown_39 (snd_callV (pc := 40) (n := 0) cls8 (s_X8_keepFault F) (by decide) (by decide) wd_805 wd_802 wd_804 wd_18 wd_120 hy_X8_keepFault dX8_takeTown_40 (snd_ireturn dX8_takeTown_43))))))))))) (snd_bipush (pc := 18) (by decide) dX8_takeTown_18 (snd_ireturn dX8_takeTown_20))))))))))))

/-! LastWalker.takeDay(II)I -/
theorem dX8_takeDay_0 : decode cX8_takeDay 0 = .ok (.iload_n 2, 1) := by decide +kernel
theorem dX8_takeDay_1 : decode cX8_takeDay 1 = .ok (.aload_n 0, 1) := by decide +kernel
theorem dX8_takeDay_2 : decode cX8_takeDay 2 = .ok (.getfield 10, 3) := by decide +kernel
theorem dX8_takeDay_5 : decode cX8_takeDay 5 = .ok (.getfield 112, 3) := by decide +kernel
theorem dX8_takeDay_8 : decode cX8_takeDay 8 = .ok (.iconst 3, 1) := by decide +kernel
theorem dX8_takeDay_9 : decode cX8_takeDay 9 = .ok (.invokestatic 81, 3) := by decide +kernel
theorem dX8_takeDay_12 : decode cX8_takeDay 12 = .ok (.istore_n 3, 1) := by decide +kernel
theorem dX8_takeDay_13 : decode cX8_takeDay 13 = .ok (.iload_n 3, 1) := by decide +kernel
theorem dX8_takeDay_14 : decode cX8_takeDay 14 = .ok (.iconst (-1), 1) := by decide +kernel
theorem dX8_takeDay_15 : decode cX8_takeDay 15 = .ok (.if_icmp .ne 6, 3) := by decide +kernel
theorem dX8_takeDay_18 : decode cX8_takeDay 18 = .ok (.bipush (-2), 2) := by decide +kernel
theorem dX8_takeDay_20 : decode cX8_takeDay 20 = .ok (.ireturn, 1) := by decide +kernel
theorem dX8_takeDay_21 : decode cX8_takeDay 21 = .ok (.aload_n 0, 1) := by decide +kernel
theorem dX8_takeDay_22 : decode cX8_takeDay 22 = .ok (.getfield 23, 3) := by decide +kernel
theorem dX8_takeDay_25 : decode cX8_takeDay 25 = .ok (.aload_n 0, 1) := by decide +kernel
theorem dX8_takeDay_26 : decode cX8_takeDay 26 = .ok (.getfield 10, 3) := by decide +kernel
theorem dX8_takeDay_29 : decode cX8_takeDay 29 = .ok (.getfield 85, 3) := by decide +kernel
theorem dX8_takeDay_32 : decode cX8_takeDay 32 = .ok (.iload_n 1, 1) := by decide +kernel
theorem dX8_takeDay_33 : decode cX8_takeDay 33 = .ok (.invokevirtual 115, 3) := by decide +kernel
theorem dX8_takeDay_36 : decode cX8_takeDay 36 = .ok (.ifCond .ne 8, 3) := by decide +kernel
theorem dX8_takeDay_39 : decode cX8_takeDay 39 = .ok (.aload_n 0, 1) := by decide +kernel
theorem dX8_takeDay_40 : decode cX8_takeDay 40 = .ok (.invokevirtual 93, 3) := by decide +kernel
theorem dX8_takeDay_43 : decode cX8_takeDay 43 = .ok (.ireturn, 1) := by decide +kernel
theorem dX8_takeDay_44 : decode cX8_takeDay 44 = .ok (.aload_n 0, 1) := by decide +kernel
theorem dX8_takeDay_45 : decode cX8_takeDay 45 = .ok (.getfield 10, 3) := by decide +kernel
theorem dX8_takeDay_48 : decode cX8_takeDay 48 = .ok (.getfield 118, 3) := by decide +kernel
theorem dX8_takeDay_51 : decode cX8_takeDay 51 = .ok (.iload_n 3, 1) := by decide +kernel
theorem dX8_takeDay_52 : decode cX8_takeDay 52 = .ok (.aaload, 1) := by decide +kernel
theorem dX8_takeDay_53 : decode cX8_takeDay 53 = .ok (.aload_n 0, 1) := by decide +kernel
theorem dX8_takeDay_54 : decode cX8_takeDay 54 = .ok (.getfield 23, 3) := by decide +kernel
theorem dX8_takeDay_57 : decode cX8_takeDay 57 = .ok (.getfield 122, 3) := by decide +kernel
theorem dX8_takeDay_60 : decode cX8_takeDay 60 = .ok (.invokevirtual 125, 3) := by decide +kernel
theorem dX8_takeDay_63 : decode cX8_takeDay 63 = .ok (.aload_n 0, 1) := by decide +kernel
theorem dX8_takeDay_64 : decode cX8_takeDay 64 = .ok (.getfield 10, 3) := by decide +kernel
theorem dX8_takeDay_67 : decode cX8_takeDay 67 = .ok (.aload_n 0, 1) := by decide +kernel
theorem dX8_takeDay_68 : decode cX8_takeDay 68 = .ok (.getfield 10, 3) := by decide +kernel
theorem dX8_takeDay_71 : decode cX8_takeDay 71 = .ok (.getfield 112, 3) := by decide +kernel
theorem dX8_takeDay_74 : decode cX8_takeDay 74 = .ok (.iload_n 3, 1) := by decide +kernel
theorem dX8_takeDay_75 : decode cX8_takeDay 75 = .ok (.iconst 1, 1) := by decide +kernel
theorem dX8_takeDay_76 : decode cX8_takeDay 76 = .ok (.iadd, 1) := by decide +kernel
theorem dX8_takeDay_77 : decode cX8_takeDay 77 = .ok (.invokestatic 107, 3) := by decide +kernel
theorem dX8_takeDay_80 : decode cX8_takeDay 80 = .ok (.putfield 112, 3) := by decide +kernel
theorem dX8_takeDay_83 : decode cX8_takeDay 83 = .ok (.iload_n 3, 1) := by decide +kernel
theorem dX8_takeDay_84 : decode cX8_takeDay 84 = .ok (.ireturn, 1) := by decide +kernel
noncomputable def k_X8_takeDay (F : Nat) : AK := ak_iload 2 (ak_aload 0 (ak_getf 8 0 (ak_getf 0 7 (ak_push (vI 3) (ak_call 3 (m_X8_placeFor F) (ak_istore 3 (ak_iload 3 (ak_push (vI (-1)) (ak_cmpeq (ak_push (vI (-2)) ak_ireturn) (ak_aload 0 (ak_getf 8 2 (ak_aload 0 (ak_getf 8 0 (ak_getf 0 0 (ak_iload 1 (ak_callv 5 2 (m_X5_readDay F) (ak_ifeq (ak_aload 0 (ak_callv 8 0 (m_X8_keepFault F) ak_ireturn)) (ak_aload 0 (ak_getf 8 0 (ak_getf 0 6 (ak_iload 3 (ak_aald (ak_aload 0 (ak_getf 8 2 (ak_getf 5 1 (ak_callv 2 1 (m_X2_copyFrom F) (ak_aload 0 (ak_getf 8 0 (ak_aload 0 (ak_getf 8 0 (ak_getf 0 7 (ak_iload 3 (ak_push (vI 1) (ak_iadd (ak_imax (ak_putf 0 7 (ak_iload 3 ak_ireturn)))))))))))))))))))))))))))))))))))))
noncomputable def m_X8_takeDay (F : Nat) : AF := mkF 1 4 (k_X8_takeDay F)
set_option maxRecDepth 20000 in
theorem s_X8_takeDay (F : Nat) : MA yX8_takeDay cX8_takeDay 4 (some .int) 8 (m_X8_takeDay F) := met_of (Or.inr (Or.inl ⟨rfl, rfl⟩)) (by decide) (by
  unfold k_X8_takeDay
  exact snd_iload_n (pc := 0) (i := 2) dX8_takeDay_0 (snd_aload_n (pc := 1) (i := 0) dX8_takeDay_1 (snd_getf (pc := 2) cls8 (f := 0) (by decide) wd_588 dX8_takeDay_2 (snd_getf (pc := 5) cls0 (f := 7) (by decide) wd_319 dX8_takeDay_5 (snd_iconst (pc := 8) dX8_takeDay_8 (snd_callS (pc := 9) (n := 3) (s_X8_placeFor F) (by decide) (by decide) wd_632 wd_630 wd_631 wd_120 hy_X8_placeFor dX8_takeDay_9 (snd_istore_n (pc := 12) (i := 3) (by decide) dX8_takeDay_12 (snd_iload_n (pc := 13) (i := 3) dX8_takeDay_13 (snd_iconst (pc := 14) dX8_takeDay_14 (snd_icmpne (pc := 15) (off := 6) (tgt := 21) (by decide) dX8_takeDay_15 (snd_aload_n (pc := 21) (i := 0) dX8_takeDay_21 (snd_getf (pc := 22) cls8 (f := 2) (by decide) wd_590 dX8_takeDay_22 (snd_aload_n (pc := 25) (i := 0) dX8_takeDay_25 (snd_getf (pc := 26) cls8 (f := 0) (by decide) wd_588 dX8_takeDay_26 (snd_getf (pc := 29) cls0 (f := 0) (by decide) wd_305 dX8_takeDay_29 (snd_iload_n (pc := 32) (i := 1) dX8_takeDay_32 (snd_callV (pc := 33) (n := 2) cls5 (s_X5_readDay F) (by decide) (by decide) wd_821 wd_818 wd_819 wd_820 wd_124 hy_X5_readDay dX8_takeDay_33 (snd_ifne (pc := 36) (off := 8) (tgt := 44) (by decide) dX8_takeDay_36 (snd_aload_n (pc := 44) (i := 0) dX8_takeDay_44 (snd_getf (pc := 45) cls8 (f := 0) (by decide) wd_588 dX8_takeDay_45 (snd_getf (pc := 48) cls0 (f := 6) (by decide) wd_317 dX8_takeDay_48 (snd_iload_n (pc := 51) (i := 3) dX8_takeDay_51 (snd_aald (pc := 52) dX8_takeDay_52 (snd_aload_n (pc := 53) (i := 0) dX8_takeDay_53 (snd_getf (pc := 54) cls8 (f := 2) (by decide) wd_590 dX8_takeDay_54 (snd_getf (pc := 57) cls5 (f := 1) (by decide) wd_354 dX8_takeDay_57 (snd_callV (pc := 60) (n := 1) cls2 (s_X2_copyFrom F) (by decide) (by decide) wd_825 wd_822 wd_823 wd_824 wd_123 hy_X2_copyFrom dX8_takeDay_60 (snd_aload_n (pc := 63) (i := 0) dX8_takeDay_63 (snd_getf (pc := 64) cls8 (f := 0) (by decide) wd_588 dX8_takeDay_64 (snd_aload_n (pc := 67) (i := 0) dX8_takeDay_67 (snd_getf (pc := 68) cls8 (f := 0) (by decide) wd_588 dX8_takeDay_68 (snd_getf (pc := 71) cls0 (f := 7) (by decide) wd_319 dX8_takeDay_71 (snd_iload_n (pc := 74) (i := 3) dX8_takeDay_74 (snd_iconst (pc := 75) dX8_takeDay_75 (snd_iadd (pc := 76) dX8_takeDay_76 (snd_imax (pc := 77) (by decide) wd_813 wd_800 wd_130 wd_801 dX8_takeDay_77 (snd_putf (pc := 80) cls0 (f := 7) (by decide) rfl rfl rfl wd_319 dX8_takeDay_80 (snd_iload_n (pc := 83) (i := 3) dX8_takeDay_83 (snd_ireturn dX8_takeDay_84))))))))))))))))))))) (snd_aload_n (pc := 39) (i := 0) dX8_takeDay_39 (snd_callV (pc := 40) (n := 0) cls8 (s_X8_keepFault F) (by decide) (by decide) wd_805 wd_802 wd_804 wd_18 wd_120 hy_X8_keepFault dX8_takeDay_40 (snd_ireturn dX8_takeDay_43))))))))))) (snd_bipush (pc := 18) (by decide) dX8_takeDay_18 (snd_ireturn dX8_takeDay_20))))))))))))

/-! LastWalker.text(II)I -/
theorem dX8_text_0 : decode cX8_text 0 = .ok (.aload_n 0, 1) := by decide +kernel
theorem dX8_text_1 : decode cX8_text 1 = .ok (.getfield 10, 3) := by decide +kernel
theorem dX8_text_4 : decode cX8_text 4 = .ok (.getfield 57, 3) := by decide +kernel
theorem dX8_text_7 : decode cX8_text 7 = .ok (.istore_n 3, 1) := by decide +kernel
theorem dX8_text_8 : decode cX8_text 8 = .ok (.aload_n 0, 1) := by decide +kernel
theorem dX8_text_9 : decode cX8_text 9 = .ok (.getfield 10, 3) := by decide +kernel
theorem dX8_text_12 : decode cX8_text 12 = .ok (.iconst 0, 1) := by decide +kernel
theorem dX8_text_13 : decode cX8_text 13 = .ok (.putfield 57, 3) := by decide +kernel
theorem dX8_text_16 : decode cX8_text 16 = .ok (.aload_n 0, 1) := by decide +kernel
theorem dX8_text_17 : decode cX8_text 17 = .ok (.getfield 10, 3) := by decide +kernel
theorem dX8_text_20 : decode cX8_text 20 = .ok (.iconst 0, 1) := by decide +kernel
theorem dX8_text_21 : decode cX8_text 21 = .ok (.putfield 65, 3) := by decide +kernel
theorem dX8_text_24 : decode cX8_text 24 = .ok (.aload_n 0, 1) := by decide +kernel
theorem dX8_text_25 : decode cX8_text 25 = .ok (.getfield 10, 3) := by decide +kernel
theorem dX8_text_28 : decode cX8_text 28 = .ok (.iconst (-1), 1) := by decide +kernel
theorem dX8_text_29 : decode cX8_text 29 = .ok (.putfield 68, 3) := by decide +kernel
theorem dX8_text_32 : decode cX8_text 32 = .ok (.iload_n 1, 1) := by decide +kernel
theorem dX8_text_33 : decode cX8_text 33 = .ok (.ifCond .ne 10, 3) := by decide +kernel
theorem dX8_text_36 : decode cX8_text 36 = .ok (.aload_n 0, 1) := by decide +kernel
theorem dX8_text_37 : decode cX8_text 37 = .ok (.iload_n 3, 1) := by decide +kernel
theorem dX8_text_38 : decode cX8_text 38 = .ok (.iload_n 2, 1) := by decide +kernel
theorem dX8_text_39 : decode cX8_text 39 = .ok (.invokevirtual 71, 3) := by decide +kernel
theorem dX8_text_42 : decode cX8_text 42 = .ok (.ireturn, 1) := by decide +kernel
theorem dX8_text_43 : decode cX8_text 43 = .ok (.iload_n 1, 1) := by decide +kernel
theorem dX8_text_44 : decode cX8_text 44 = .ok (.iconst 1, 1) := by decide +kernel
theorem dX8_text_45 : decode cX8_text 45 = .ok (.if_icmp .ne 12, 3) := by decide +kernel
theorem dX8_text_48 : decode cX8_text 48 = .ok (.aload_n 0, 1) := by decide +kernel
theorem dX8_text_49 : decode cX8_text 49 = .ok (.iload_n 3, 1) := by decide +kernel
theorem dX8_text_50 : decode cX8_text 50 = .ok (.iload_n 2, 1) := by decide +kernel
theorem dX8_text_51 : decode cX8_text 51 = .ok (.invokevirtual 75, 3) := by decide +kernel
theorem dX8_text_54 : decode cX8_text 54 = .ok (.goto 5, 3) := by decide +kernel
theorem dX8_text_57 : decode cX8_text 57 = .ok (.bipush (-2), 2) := by decide +kernel
theorem dX8_text_59 : decode cX8_text 59 = .ok (.ireturn, 1) := by decide +kernel
noncomputable def k_X8_text (F : Nat) : AK := ak_aload 0 (ak_getf 8 0 (ak_getf 0 1 (ak_istore 3 (ak_aload 0 (ak_getf 8 0 (ak_push (vI 0) (ak_putf 0 1 (ak_aload 0 (ak_getf 8 0 (ak_push (vI 0) (ak_putf 0 2 (ak_aload 0 (ak_getf 8 0 (ak_push (vI (-1)) (ak_putf 0 3 (ak_iload 1 (ak_ifeq (ak_aload 0 (ak_iload 3 (ak_iload 2 (ak_callv 8 2 (m_X8_takeTown F) ak_ireturn)))) (ak_iload 1 (ak_push (vI 1) (ak_cmpeq (ak_aload 0 (ak_iload 3 (ak_iload 2 (ak_callv 8 2 (m_X8_takeDay F) ak_ireturn)))) (ak_push (vI (-2)) ak_ireturn)))))))))))))))))))))
noncomputable def m_X8_text (F : Nat) : AF := mkF 1 4 (k_X8_text F)
set_option maxRecDepth 20000 in
theorem s_X8_text (F : Nat) : MA yX8_text cX8_text 4 (some .int) 9 (m_X8_text F) := met_of (Or.inr (Or.inl ⟨rfl, rfl⟩)) (by decide) (by
  unfold k_X8_text
  exact snd_aload_n (pc := 0) (i := 0) dX8_text_0 (snd_getf (pc := 1) cls8 (f := 0) (by decide) wd_588 dX8_text_1 (snd_getf (pc := 4) cls0 (f := 1) (by decide) wd_306 dX8_text_4 (snd_istore_n (pc := 7) (i := 3) (by decide) dX8_text_7 (snd_aload_n (pc := 8) (i := 0) dX8_text_8 (snd_getf (pc := 9) cls8 (f := 0) (by decide) wd_588 dX8_text_9 (snd_iconst (pc := 12) dX8_text_12 (snd_putf (pc := 13) cls0 (f := 1) (by decide) rfl rfl rfl wd_306 dX8_text_13 (snd_aload_n (pc := 16) (i := 0) dX8_text_16 (snd_getf (pc := 17) cls8 (f := 0) (by decide) wd_588 dX8_text_17 (snd_iconst (pc := 20) dX8_text_20 (snd_putf (pc := 21) cls0 (f := 2) (by decide) rfl rfl rfl wd_309 dX8_text_21 (snd_aload_n (pc := 24) (i := 0) dX8_text_24 (snd_getf (pc := 25) cls8 (f := 0) (by decide) wd_588 dX8_text_25 (snd_iconst (pc := 28) dX8_text_28 (snd_putf (pc := 29) cls0 (f := 3) (by decide) rfl rfl rfl wd_311 dX8_text_29 (snd_iload_n (pc := 32) (i := 1) dX8_text_32 (snd_ifne (pc := 33) (off := 10) (tgt := 43) (by decide) dX8_text_33 (snd_iload_n (pc := 43) (i := 1) dX8_text_43 (snd_iconst (pc := 44) dX8_text_44 (snd_icmpne (pc := 45) (off := 12) (tgt := 57) (by decide) dX8_text_45 (snd_bipush (pc := 57) (by decide) dX8_text_57 (snd_ireturn dX8_text_59)) (snd_aload_n (pc := 48) (i := 0) dX8_text_48 (snd_iload_n (pc := 49) (i := 3) dX8_text_49 (snd_iload_n (pc := 50) (i := 2) dX8_text_50 (snd_callV (pc := 51) (n := 2) cls8 (s_X8_takeDay F) (by decide) (by decide) wd_817 wd_814 wd_816 wd_19 wd_120 hy_X8_takeDay dX8_text_51 (snd_goto (pc := 54) (off := 5) (tgt := 59) (by decide) dX8_text_54 (snd_ireturn dX8_text_59))))))))) (snd_aload_n (pc := 36) (i := 0) dX8_text_36 (snd_iload_n (pc := 37) (i := 3) dX8_text_37 (snd_iload_n (pc := 38) (i := 2) dX8_text_38 (snd_callV (pc := 39) (n := 2) cls8 (s_X8_takeTown F) (by decide) (by decide) wd_629 wd_626 wd_628 wd_0 wd_120 hy_X8_takeTown dX8_text_39 (snd_ireturn dX8_text_42)))))))))))))))))))))))

/-! LastWalker.fault(I)I -/
theorem dX8_fault_0 : decode cX8_fault 0 = .ok (.iload_n 1, 1) := by decide +kernel
theorem dX8_fault_1 : decode cX8_fault 1 = .ok (.ifCond .ne 11, 3) := by decide +kernel
theorem dX8_fault_4 : decode cX8_fault 4 = .ok (.aload_n 0, 1) := by decide +kernel
theorem dX8_fault_5 : decode cX8_fault 5 = .ok (.getfield 10, 3) := by decide +kernel
theorem dX8_fault_8 : decode cX8_fault 8 = .ok (.getfield 65, 3) := by decide +kernel
theorem dX8_fault_11 : decode cX8_fault 11 = .ok (.ireturn, 1) := by decide +kernel
theorem dX8_fault_12 : decode cX8_fault 12 = .ok (.iload_n 1, 1) := by decide +kernel
theorem dX8_fault_13 : decode cX8_fault 13 = .ok (.iconst 1, 1) := by decide +kernel
theorem dX8_fault_14 : decode cX8_fault 14 = .ok (.if_icmp .ne 13, 3) := by decide +kernel
theorem dX8_fault_17 : decode cX8_fault 17 = .ok (.aload_n 0, 1) := by decide +kernel
theorem dX8_fault_18 : decode cX8_fault 18 = .ok (.getfield 10, 3) := by decide +kernel
theorem dX8_fault_21 : decode cX8_fault 21 = .ok (.getfield 68, 3) := by decide +kernel
theorem dX8_fault_24 : decode cX8_fault 24 = .ok (.goto 4, 3) := by decide +kernel
theorem dX8_fault_27 : decode cX8_fault 27 = .ok (.iconst (-1), 1) := by decide +kernel
theorem dX8_fault_28 : decode cX8_fault 28 = .ok (.ireturn, 1) := by decide +kernel
noncomputable def k_X8_fault (F : Nat) : AK := ak_iload 1 (ak_ifeq (ak_aload 0 (ak_getf 8 0 (ak_getf 0 2 ak_ireturn))) (ak_iload 1 (ak_push (vI 1) (ak_cmpeq (ak_aload 0 (ak_getf 8 0 (ak_getf 0 3 ak_ireturn))) (ak_push (vI (-1)) ak_ireturn)))))
noncomputable def m_X8_fault (F : Nat) : AF := mkF 1 2 (k_X8_fault F)
set_option maxRecDepth 20000 in
theorem s_X8_fault (F : Nat) : MA yX8_fault cX8_fault 2 (some .int) 0 (m_X8_fault F) := met_of (Or.inr (Or.inl ⟨rfl, rfl⟩)) (by decide) (by
  unfold k_X8_fault
  exact snd_iload_n (pc := 0) (i := 1) dX8_fault_0 (snd_ifne (pc := 1) (off := 11) (tgt := 12) (by decide) dX8_fault_1 (snd_iload_n (pc := 12) (i := 1) dX8_fault_12 (snd_iconst (pc := 13) dX8_fault_13 (snd_icmpne (pc := 14) (off := 13) (tgt := 27) (by decide) dX8_fault_14 (snd_iconst (pc := 27) dX8_fault_27 (snd_ireturn dX8_fault_28)) (snd_aload_n (pc := 17) (i := 0) dX8_fault_17 (snd_getf (pc := 18) cls8 (f := 0) (by decide) wd_588 dX8_fault_18 (snd_getf (pc := 21) cls0 (f := 3) (by decide) wd_311 dX8_fault_21 (snd_goto (pc := 24) (off := 4) (tgt := 28) (by decide) dX8_fault_24 (snd_ireturn dX8_fault_28)))))))) (snd_aload_n (pc := 4) (i := 0) dX8_fault_4 (snd_getf (pc := 5) cls8 (f := 0) (by decide) wd_588 dX8_fault_5 (snd_getf (pc := 8) cls0 (f := 2) (by decide) wd_309 dX8_fault_8 (snd_ireturn dX8_fault_11))))))

/-! LastWalker.town(II)I -/
theorem dX8_town_0 : decode cX8_town 0 = .ok (.aload_n 0, 1) := by decide +kernel
theorem dX8_town_1 : decode cX8_town 1 = .ok (.getfield 10, 3) := by decide +kernel
theorem dX8_town_4 : decode cX8_town 4 = .ok (.iload_n 1, 1) := by decide +kernel
theorem dX8_town_5 : decode cX8_town 5 = .ok (.invokevirtual 132, 3) := by decide +kernel
theorem dX8_town_8 : decode cX8_town 8 = .ok (.astore_n 3, 1) := by decide +kernel
theorem dX8_town_9 : decode cX8_town 9 = .ok (.aload_n 3, 1) := by decide +kernel
theorem dX8_town_10 : decode cX8_town 10 = .ok (.ifnonnull 5, 3) := by decide +kernel
theorem dX8_town_13 : decode cX8_town 13 = .ok (.iconst (-1), 1) := by decide +kernel
theorem dX8_town_14 : decode cX8_town 14 = .ok (.ireturn, 1) := by decide +kernel
theorem dX8_town_15 : decode cX8_town 15 = .ok (.iload_n 2, 1) := by decide +kernel
theorem dX8_town_16 : decode cX8_town 16 = .ok (.tableswitch 70 0 5 #[40, 45, 50, 55, 60, 65], 40) := by decide +kernel
theorem dX8_town_56 : decode cX8_town 56 = .ok (.aload_n 3, 1) := by decide +kernel
theorem dX8_town_57 : decode cX8_town 57 = .ok (.getfield 136, 3) := by decide +kernel
theorem dX8_town_60 : decode cX8_town 60 = .ok (.ireturn, 1) := by decide +kernel
theorem dX8_town_61 : decode cX8_town 61 = .ok (.aload_n 3, 1) := by decide +kernel
theorem dX8_town_62 : decode cX8_town 62 = .ok (.getfield 139, 3) := by decide +kernel
theorem dX8_town_65 : decode cX8_town 65 = .ok (.ireturn, 1) := by decide +kernel
theorem dX8_town_66 : decode cX8_town 66 = .ok (.aload_n 3, 1) := by decide +kernel
theorem dX8_town_67 : decode cX8_town 67 = .ok (.getfield 142, 3) := by decide +kernel
theorem dX8_town_70 : decode cX8_town 70 = .ok (.ireturn, 1) := by decide +kernel
theorem dX8_town_71 : decode cX8_town 71 = .ok (.aload_n 3, 1) := by decide +kernel
theorem dX8_town_72 : decode cX8_town 72 = .ok (.getfield 145, 3) := by decide +kernel
theorem dX8_town_75 : decode cX8_town 75 = .ok (.ireturn, 1) := by decide +kernel
theorem dX8_town_76 : decode cX8_town 76 = .ok (.aload_n 3, 1) := by decide +kernel
theorem dX8_town_77 : decode cX8_town 77 = .ok (.getfield 148, 3) := by decide +kernel
theorem dX8_town_80 : decode cX8_town 80 = .ok (.ireturn, 1) := by decide +kernel
theorem dX8_town_81 : decode cX8_town 81 = .ok (.aload_n 3, 1) := by decide +kernel
theorem dX8_town_82 : decode cX8_town 82 = .ok (.getfield 151, 3) := by decide +kernel
theorem dX8_town_85 : decode cX8_town 85 = .ok (.ireturn, 1) := by decide +kernel
theorem dX8_town_86 : decode cX8_town 86 = .ok (.iconst (-1), 1) := by decide +kernel
theorem dX8_town_87 : decode cX8_town 87 = .ok (.ireturn, 1) := by decide +kernel
noncomputable def k_X8_town (F : Nat) : AK := ak_aload 0 (ak_getf 8 0 (ak_iload 1 (ak_callv 0 1 (m_X0_townAt F) (ak_astore 3 (ak_aload 3 (ak_ifnull (ak_push (vI (-1)) ak_ireturn) (ak_iload 2 (ak_switch 0 [ak_aload 3 (ak_getf 7 0 ak_ireturn), ak_aload 3 (ak_getf 7 1 ak_ireturn), ak_aload 3 (ak_getf 7 8 ak_ireturn), ak_aload 3 (ak_getf 7 12 ak_ireturn), ak_aload 3 (ak_getf 7 17 ak_ireturn), ak_aload 3 (ak_getf 7 18 ak_ireturn)] (ak_push (vI (-1)) ak_ireturn)))))))))
noncomputable def m_X8_town (F : Nat) : AF := mkF 1 4 (k_X8_town F)
set_option maxRecDepth 20000 in
theorem s_X8_town (F : Nat) : MA yX8_town cX8_town 4 (some .int) 1 (m_X8_town F) := met_of (Or.inr (Or.inl ⟨rfl, rfl⟩)) (by decide) (by
  unfold k_X8_town
  exact snd_aload_n (pc := 0) (i := 0) dX8_town_0 (snd_getf (pc := 1) cls8 (f := 0) (by decide) wd_588 dX8_town_1 (snd_iload_n (pc := 4) (i := 1) dX8_town_4 (snd_callV (pc := 5) (n := 1) cls0 (s_X0_townAt F) (by decide) (by decide) wd_838 wd_835 wd_836 wd_837 wd_121 hy_X0_townAt dX8_town_5 (snd_astore_n (pc := 8) (i := 3) (by decide) dX8_town_8 (snd_aload_n (pc := 9) (i := 3) dX8_town_9 (snd_ifnonnull (pc := 10) (off := 5) (tgt := 15) (by decide) dX8_town_10 (snd_iload_n (pc := 15) (i := 2) dX8_town_15 (snd_switchL (pc := 16) (ol := [40, 45, 50, 55, 60, 65]) (tgd := 86) dX8_town_16 rfl (by decide) (snd_iconst (pc := 86) dX8_town_86 (snd_ireturn dX8_town_87)) (sw_cons (o := 40) (tgt := 56) (by decide) (snd_aload_n (pc := 56) (i := 3) dX8_town_56 (snd_getf (pc := 57) cls7 (f := 0) (by decide) wd_161 dX8_town_57 (snd_ireturn dX8_town_60))) (sw_cons (o := 45) (tgt := 61) (by decide) (snd_aload_n (pc := 61) (i := 3) dX8_town_61 (snd_getf (pc := 62) cls7 (f := 1) (by decide) wd_166 dX8_town_62 (snd_ireturn dX8_town_65))) (sw_cons (o := 50) (tgt := 66) (by decide) (snd_aload_n (pc := 66) (i := 3) dX8_town_66 (snd_getf (pc := 67) cls7 (f := 8) (by decide) wd_197 dX8_town_67 (snd_ireturn dX8_town_70))) (sw_cons (o := 55) (tgt := 71) (by decide) (snd_aload_n (pc := 71) (i := 3) dX8_town_71 (snd_getf (pc := 72) cls7 (f := 12) (by decide) wd_215 dX8_town_72 (snd_ireturn dX8_town_75))) (sw_cons (o := 60) (tgt := 76) (by decide) (snd_aload_n (pc := 76) (i := 3) dX8_town_76 (snd_getf (pc := 77) cls7 (f := 17) (by decide) wd_234 dX8_town_77 (snd_ireturn dX8_town_80))) (sw_cons (o := 65) (tgt := 81) (by decide) (snd_aload_n (pc := 81) (i := 3) dX8_town_81 (snd_getf (pc := 82) cls7 (f := 18) (by decide) wd_237 dX8_town_82 (snd_ireturn dX8_town_85))) (sw_nil))))))))) (snd_iconst (pc := 13) dX8_town_13 (snd_ireturn dX8_town_14)))))))))

/-! LastWalker.road(III)I -/
theorem dX8_road_0 : decode cX8_road 0 = .ok (.aload_n 0, 1) := by decide +kernel
theorem dX8_road_1 : decode cX8_road 1 = .ok (.getfield 10, 3) := by decide +kernel
theorem dX8_road_4 : decode cX8_road 4 = .ok (.iload_n 1, 1) := by decide +kernel
theorem dX8_road_5 : decode cX8_road 5 = .ok (.invokevirtual 132, 3) := by decide +kernel
theorem dX8_road_8 : decode cX8_road 8 = .ok (.astore 4, 2) := by decide +kernel
theorem dX8_road_10 : decode cX8_road 10 = .ok (.aload 4, 2) := by decide +kernel
theorem dX8_road_12 : decode cX8_road 12 = .ok (.ifnull 12, 3) := by decide +kernel
theorem dX8_road_15 : decode cX8_road 15 = .ok (.aload 4, 2) := by decide +kernel
theorem dX8_road_17 : decode cX8_road 17 = .ok (.iload_n 2, 1) := by decide +kernel
theorem dX8_road_18 : decode cX8_road 18 = .ok (.invokevirtual 154, 3) := by decide +kernel
theorem dX8_road_21 : decode cX8_road 21 = .ok (.ifCond .ne 6, 3) := by decide +kernel
theorem dX8_road_24 : decode cX8_road 24 = .ok (.bipush (-2), 2) := by decide +kernel
theorem dX8_road_26 : decode cX8_road 26 = .ok (.ireturn, 1) := by decide +kernel
theorem dX8_road_27 : decode cX8_road 27 = .ok (.iload_n 3, 1) := by decide +kernel
theorem dX8_road_28 : decode cX8_road 28 = .ok (.bipush 10, 2) := by decide +kernel
theorem dX8_road_30 : decode cX8_road 30 = .ok (.if_icmp .lt 25, 3) := by decide +kernel
theorem dX8_road_33 : decode cX8_road 33 = .ok (.iload_n 3, 1) := by decide +kernel
theorem dX8_road_34 : decode cX8_road 34 = .ok (.bipush 16, 2) := by decide +kernel
theorem dX8_road_36 : decode cX8_road 36 = .ok (.if_icmp .ge 19, 3) := by decide +kernel
theorem dX8_road_39 : decode cX8_road 39 = .ok (.aload 4, 2) := by decide +kernel
theorem dX8_road_41 : decode cX8_road 41 = .ok (.getfield 158, 3) := by decide +kernel
theorem dX8_road_44 : decode cX8_road 44 = .ok (.iload_n 2, 1) := by decide +kernel
theorem dX8_road_45 : decode cX8_road 45 = .ok (.bipush 6, 2) := by decide +kernel
theorem dX8_road_47 : decode cX8_road 47 = .ok (.imul, 1) := by decide +kernel
theorem dX8_road_48 : decode cX8_road 48 = .ok (.iload_n 3, 1) := by decide +kernel
theorem dX8_road_49 : decode cX8_road 49 = .ok (.iadd, 1) := by decide +kernel
theorem dX8_road_50 : decode cX8_road 50 = .ok (.bipush 10, 2) := by decide +kernel
theorem dX8_road_52 : decode cX8_road 52 = .ok (.isub, 1) := by decide +kernel
theorem dX8_road_53 : decode cX8_road 53 = .ok (.iaload, 1) := by decide +kernel
theorem dX8_road_54 : decode cX8_road 54 = .ok (.ireturn, 1) := by decide +kernel
theorem dX8_road_55 : decode cX8_road 55 = .ok (.iload_n 3, 1) := by decide +kernel
theorem dX8_road_56 : decode cX8_road 56 = .ok (.tableswitch 76 0 4 #[36, 44, 52, 60, 68], 36) := by decide +kernel
theorem dX8_road_92 : decode cX8_road 92 = .ok (.aload 4, 2) := by decide +kernel
theorem dX8_road_94 : decode cX8_road 94 = .ok (.getfield 162, 3) := by decide +kernel
theorem dX8_road_97 : decode cX8_road 97 = .ok (.iload_n 2, 1) := by decide +kernel
theorem dX8_road_98 : decode cX8_road 98 = .ok (.iaload, 1) := by decide +kernel
theorem dX8_road_99 : decode cX8_road 99 = .ok (.ireturn, 1) := by decide +kernel
theorem dX8_road_100 : decode cX8_road 100 = .ok (.aload 4, 2) := by decide +kernel
theorem dX8_road_102 : decode cX8_road 102 = .ok (.getfield 165, 3) := by decide +kernel
theorem dX8_road_105 : decode cX8_road 105 = .ok (.iload_n 2, 1) := by decide +kernel
theorem dX8_road_106 : decode cX8_road 106 = .ok (.iaload, 1) := by decide +kernel
theorem dX8_road_107 : decode cX8_road 107 = .ok (.ireturn, 1) := by decide +kernel
theorem dX8_road_108 : decode cX8_road 108 = .ok (.aload 4, 2) := by decide +kernel
theorem dX8_road_110 : decode cX8_road 110 = .ok (.getfield 168, 3) := by decide +kernel
theorem dX8_road_113 : decode cX8_road 113 = .ok (.iload_n 2, 1) := by decide +kernel
theorem dX8_road_114 : decode cX8_road 114 = .ok (.iaload, 1) := by decide +kernel
theorem dX8_road_115 : decode cX8_road 115 = .ok (.ireturn, 1) := by decide +kernel
theorem dX8_road_116 : decode cX8_road 116 = .ok (.aload 4, 2) := by decide +kernel
theorem dX8_road_118 : decode cX8_road 118 = .ok (.getfield 171, 3) := by decide +kernel
theorem dX8_road_121 : decode cX8_road 121 = .ok (.iload_n 2, 1) := by decide +kernel
theorem dX8_road_122 : decode cX8_road 122 = .ok (.iaload, 1) := by decide +kernel
theorem dX8_road_123 : decode cX8_road 123 = .ok (.ireturn, 1) := by decide +kernel
theorem dX8_road_124 : decode cX8_road 124 = .ok (.aload 4, 2) := by decide +kernel
theorem dX8_road_126 : decode cX8_road 126 = .ok (.getfield 174, 3) := by decide +kernel
theorem dX8_road_129 : decode cX8_road 129 = .ok (.iload_n 2, 1) := by decide +kernel
theorem dX8_road_130 : decode cX8_road 130 = .ok (.iaload, 1) := by decide +kernel
theorem dX8_road_131 : decode cX8_road 131 = .ok (.ireturn, 1) := by decide +kernel
theorem dX8_road_132 : decode cX8_road 132 = .ok (.bipush (-2), 2) := by decide +kernel
theorem dX8_road_134 : decode cX8_road 134 = .ok (.ireturn, 1) := by decide +kernel
noncomputable def k_X8_road_55 (F : Nat) : AK := ak_iload 3 (ak_switch 0 [ak_aload 4 (ak_getf 7 2 (ak_iload 2 (ak_iald ak_ireturn))), ak_aload 4 (ak_getf 7 3 (ak_iload 2 (ak_iald ak_ireturn))), ak_aload 4 (ak_getf 7 4 (ak_iload 2 (ak_iald ak_ireturn))), ak_aload 4 (ak_getf 7 5 (ak_iload 2 (ak_iald ak_ireturn))), ak_aload 4 (ak_getf 7 6 (ak_iload 2 (ak_iald ak_ireturn)))] (ak_push (vI (-2)) ak_ireturn))
set_option maxRecDepth 20000 in
theorem sk_X8_road_55 (F : Nat) : Snd X0 RX8 cX8_road 5 1 55 (k_X8_road_55 F) := by
  unfold k_X8_road_55
  exact snd_iload_n (pc := 55) (i := 3) dX8_road_55 (snd_switchL (pc := 56) (ol := [36, 44, 52, 60, 68]) (tgd := 132) dX8_road_56 rfl (by decide) (snd_bipush (pc := 132) (by decide) dX8_road_132 (snd_ireturn dX8_road_134)) (sw_cons (o := 36) (tgt := 92) (by decide) (snd_aload (pc := 92) (i := 4) dX8_road_92 (snd_getf (pc := 94) cls7 (f := 2) (by decide) wd_171 dX8_road_94 (snd_iload_n (pc := 97) (i := 2) dX8_road_97 (snd_iald (pc := 98) dX8_road_98 (snd_ireturn dX8_road_99))))) (sw_cons (o := 44) (tgt := 100) (by decide) (snd_aload (pc := 100) (i := 4) dX8_road_100 (snd_getf (pc := 102) cls7 (f := 3) (by decide) wd_175 dX8_road_102 (snd_iload_n (pc := 105) (i := 2) dX8_road_105 (snd_iald (pc := 106) dX8_road_106 (snd_ireturn dX8_road_107))))) (sw_cons (o := 52) (tgt := 108) (by decide) (snd_aload (pc := 108) (i := 4) dX8_road_108 (snd_getf (pc := 110) cls7 (f := 4) (by decide) wd_181 dX8_road_110 (snd_iload_n (pc := 113) (i := 2) dX8_road_113 (snd_iald (pc := 114) dX8_road_114 (snd_ireturn dX8_road_115))))) (sw_cons (o := 60) (tgt := 116) (by decide) (snd_aload (pc := 116) (i := 4) dX8_road_116 (snd_getf (pc := 118) cls7 (f := 5) (by decide) wd_186 dX8_road_118 (snd_iload_n (pc := 121) (i := 2) dX8_road_121 (snd_iald (pc := 122) dX8_road_122 (snd_ireturn dX8_road_123))))) (sw_cons (o := 68) (tgt := 124) (by decide) (snd_aload (pc := 124) (i := 4) dX8_road_124 (snd_getf (pc := 126) cls7 (f := 6) (by decide) wd_189 dX8_road_126 (snd_iload_n (pc := 129) (i := 2) dX8_road_129 (snd_iald (pc := 130) dX8_road_130 (snd_ireturn dX8_road_131))))) (sw_nil)))))))
noncomputable def k_X8_road (F : Nat) : AK := ak_aload 0 (ak_getf 8 0 (ak_iload 1 (ak_callv 0 1 (m_X0_townAt F) (ak_astore 4 (ak_aload 4 (ak_ifnull (ak_push (vI (-2)) ak_ireturn) (ak_aload 4 (ak_iload 2 (ak_callv 7 1 (m_X7_hasRoad F) (ak_ifeq (ak_push (vI (-2)) ak_ireturn) (ak_iload 3 (ak_push (vI 10) (ak_cmplt ((k_X8_road_55 F)) (ak_iload 3 (ak_push (vI 16) (ak_cmplt (ak_aload 4 (ak_getf 7 7 (ak_iload 2 (ak_push (vI 6) (ak_imul (ak_iload 3 (ak_iadd (ak_push (vI 10) (ak_isub (ak_iald ak_ireturn)))))))))) ((k_X8_road_55 F))))))))))))))))))
noncomputable def m_X8_road (F : Nat) : AF := mkF 1 5 (k_X8_road F)
set_option maxRecDepth 20000 in
theorem s_X8_road (F : Nat) : MA yX8_road cX8_road 5 (some .int) 1 (m_X8_road F) := met_of (Or.inr (Or.inl ⟨rfl, rfl⟩)) (by decide) (by
  unfold k_X8_road
  exact snd_aload_n (pc := 0) (i := 0) dX8_road_0 (snd_getf (pc := 1) cls8 (f := 0) (by decide) wd_588 dX8_road_1 (snd_iload_n (pc := 4) (i := 1) dX8_road_4 (snd_callV (pc := 5) (n := 1) cls0 (s_X0_townAt F) (by decide) (by decide) wd_838 wd_835 wd_836 wd_837 wd_121 hy_X0_townAt dX8_road_5 (snd_astore (pc := 8) (i := 4) (by decide) dX8_road_8 (snd_aload (pc := 10) (i := 4) dX8_road_10 (snd_ifnull (pc := 12) (off := 12) (tgt := 24) (by decide) dX8_road_12 (snd_bipush (pc := 24) (by decide) dX8_road_24 (snd_ireturn dX8_road_26)) (snd_aload (pc := 15) (i := 4) dX8_road_15 (snd_iload_n (pc := 17) (i := 2) dX8_road_17 (snd_callV (pc := 18) (n := 1) cls7 (s_X7_hasRoad F) (by decide) (by decide) wd_846 wd_843 wd_844 wd_845 wd_122 hy_X7_hasRoad dX8_road_18 (snd_ifne (pc := 21) (off := 6) (tgt := 27) (by decide) dX8_road_21 (snd_iload_n (pc := 27) (i := 3) dX8_road_27 (snd_bipush (pc := 28) (by decide) dX8_road_28 (snd_icmplt (pc := 30) (off := 25) (tgt := 55) (by decide) dX8_road_30 ((sk_X8_road_55 F)) (snd_iload_n (pc := 33) (i := 3) dX8_road_33 (snd_bipush (pc := 34) (by decide) dX8_road_34 (snd_icmpge (pc := 36) (off := 19) (tgt := 55) (by decide) dX8_road_36 ((sk_X8_road_55 F)) (snd_aload (pc := 39) (i := 4) dX8_road_39 (snd_getf (pc := 41) cls7 (f := 7) (by decide) wd_192 dX8_road_41 (snd_iload_n (pc := 44) (i := 2) dX8_road_44 (snd_bipush (pc := 45) (by decide) dX8_road_45 (snd_imul (pc := 47) dX8_road_47 (snd_iload_n (pc := 48) (i := 3) dX8_road_48 (snd_iadd (pc := 49) dX8_road_49 (snd_bipush (pc := 50) (by decide) dX8_road_50 (snd_isub (pc := 52) dX8_road_52 (snd_iald (pc := 53) dX8_road_53 (snd_ireturn dX8_road_54))))))))))))))))) (snd_bipush (pc := 24) (by decide) dX8_road_24 (snd_ireturn dX8_road_26)))))))))))))

/-! LastWalker.person(III)I -/
theorem dX8_person_0 : decode cX8_person 0 = .ok (.aload_n 0, 1) := by decide +kernel
theorem dX8_person_1 : decode cX8_person 1 = .ok (.getfield 10, 3) := by decide +kernel
theorem dX8_person_4 : decode cX8_person 4 = .ok (.iload_n 1, 1) := by decide +kernel
theorem dX8_person_5 : decode cX8_person 5 = .ok (.invokevirtual 132, 3) := by decide +kernel
theorem dX8_person_8 : decode cX8_person 8 = .ok (.astore 4, 2) := by decide +kernel
theorem dX8_person_10 : decode cX8_person 10 = .ok (.aload 4, 2) := by decide +kernel
theorem dX8_person_12 : decode cX8_person 12 = .ok (.ifnull 12, 3) := by decide +kernel
theorem dX8_person_15 : decode cX8_person 15 = .ok (.aload 4, 2) := by decide +kernel
theorem dX8_person_17 : decode cX8_person 17 = .ok (.iload_n 2, 1) := by decide +kernel
theorem dX8_person_18 : decode cX8_person 18 = .ok (.invokevirtual 177, 3) := by decide +kernel
theorem dX8_person_21 : decode cX8_person 21 = .ok (.ifCond .ne 5, 3) := by decide +kernel
theorem dX8_person_24 : decode cX8_person 24 = .ok (.iconst (-1), 1) := by decide +kernel
theorem dX8_person_25 : decode cX8_person 25 = .ok (.ireturn, 1) := by decide +kernel
theorem dX8_person_26 : decode cX8_person 26 = .ok (.iload_n 3, 1) := by decide +kernel
theorem dX8_person_27 : decode cX8_person 27 = .ok (.tableswitch 49 0 2 #[25, 33, 41], 25) := by decide +kernel
theorem dX8_person_52 : decode cX8_person 52 = .ok (.aload 4, 2) := by decide +kernel
theorem dX8_person_54 : decode cX8_person 54 = .ok (.getfield 180, 3) := by decide +kernel
theorem dX8_person_57 : decode cX8_person 57 = .ok (.iload_n 2, 1) := by decide +kernel
theorem dX8_person_58 : decode cX8_person 58 = .ok (.iaload, 1) := by decide +kernel
theorem dX8_person_59 : decode cX8_person 59 = .ok (.ireturn, 1) := by decide +kernel
theorem dX8_person_60 : decode cX8_person 60 = .ok (.aload 4, 2) := by decide +kernel
theorem dX8_person_62 : decode cX8_person 62 = .ok (.getfield 183, 3) := by decide +kernel
theorem dX8_person_65 : decode cX8_person 65 = .ok (.iload_n 2, 1) := by decide +kernel
theorem dX8_person_66 : decode cX8_person 66 = .ok (.iaload, 1) := by decide +kernel
theorem dX8_person_67 : decode cX8_person 67 = .ok (.ireturn, 1) := by decide +kernel
theorem dX8_person_68 : decode cX8_person 68 = .ok (.aload 4, 2) := by decide +kernel
theorem dX8_person_70 : decode cX8_person 70 = .ok (.getfield 186, 3) := by decide +kernel
theorem dX8_person_73 : decode cX8_person 73 = .ok (.iload_n 2, 1) := by decide +kernel
theorem dX8_person_74 : decode cX8_person 74 = .ok (.iaload, 1) := by decide +kernel
theorem dX8_person_75 : decode cX8_person 75 = .ok (.ireturn, 1) := by decide +kernel
theorem dX8_person_76 : decode cX8_person 76 = .ok (.iconst (-1), 1) := by decide +kernel
theorem dX8_person_77 : decode cX8_person 77 = .ok (.ireturn, 1) := by decide +kernel
noncomputable def k_X8_person (F : Nat) : AK := ak_aload 0 (ak_getf 8 0 (ak_iload 1 (ak_callv 0 1 (m_X0_townAt F) (ak_astore 4 (ak_aload 4 (ak_ifnull (ak_push (vI (-1)) ak_ireturn) (ak_aload 4 (ak_iload 2 (ak_callv 7 1 (m_X7_hasPerson F) (ak_ifeq (ak_push (vI (-1)) ak_ireturn) (ak_iload 3 (ak_switch 0 [ak_aload 4 (ak_getf 7 9 (ak_iload 2 (ak_iald ak_ireturn))), ak_aload 4 (ak_getf 7 10 (ak_iload 2 (ak_iald ak_ireturn))), ak_aload 4 (ak_getf 7 11 (ak_iload 2 (ak_iald ak_ireturn)))] (ak_push (vI (-1)) ak_ireturn)))))))))))))
noncomputable def m_X8_person (F : Nat) : AF := mkF 1 5 (k_X8_person F)
set_option maxRecDepth 20000 in
theorem s_X8_person (F : Nat) : MA yX8_person cX8_person 5 (some .int) 1 (m_X8_person F) := met_of (Or.inr (Or.inl ⟨rfl, rfl⟩)) (by decide) (by
  unfold k_X8_person
  exact snd_aload_n (pc := 0) (i := 0) dX8_person_0 (snd_getf (pc := 1) cls8 (f := 0) (by decide) wd_588 dX8_person_1 (snd_iload_n (pc := 4) (i := 1) dX8_person_4 (snd_callV (pc := 5) (n := 1) cls0 (s_X0_townAt F) (by decide) (by decide) wd_838 wd_835 wd_836 wd_837 wd_121 hy_X0_townAt dX8_person_5 (snd_astore (pc := 8) (i := 4) (by decide) dX8_person_8 (snd_aload (pc := 10) (i := 4) dX8_person_10 (snd_ifnull (pc := 12) (off := 12) (tgt := 24) (by decide) dX8_person_12 (snd_iconst (pc := 24) dX8_person_24 (snd_ireturn dX8_person_25)) (snd_aload (pc := 15) (i := 4) dX8_person_15 (snd_iload_n (pc := 17) (i := 2) dX8_person_17 (snd_callV (pc := 18) (n := 1) cls7 (s_X7_hasPerson F) (by decide) (by decide) wd_854 wd_851 wd_852 wd_853 wd_122 hy_X7_hasPerson dX8_person_18 (snd_ifne (pc := 21) (off := 5) (tgt := 26) (by decide) dX8_person_21 (snd_iload_n (pc := 26) (i := 3) dX8_person_26 (snd_switchL (pc := 27) (ol := [25, 33, 41]) (tgd := 76) dX8_person_27 rfl (by decide) (snd_iconst (pc := 76) dX8_person_76 (snd_ireturn dX8_person_77)) (sw_cons (o := 25) (tgt := 52) (by decide) (snd_aload (pc := 52) (i := 4) dX8_person_52 (snd_getf (pc := 54) cls7 (f := 9) (by decide) wd_202 dX8_person_54 (snd_iload_n (pc := 57) (i := 2) dX8_person_57 (snd_iald (pc := 58) dX8_person_58 (snd_ireturn dX8_person_59))))) (sw_cons (o := 33) (tgt := 60) (by decide) (snd_aload (pc := 60) (i := 4) dX8_person_60 (snd_getf (pc := 62) cls7 (f := 10) (by decide) wd_207 dX8_person_62 (snd_iload_n (pc := 65) (i := 2) dX8_person_65 (snd_iald (pc := 66) dX8_person_66 (snd_ireturn dX8_person_67))))) (sw_cons (o := 41) (tgt := 68) (by decide) (snd_aload (pc := 68) (i := 4) dX8_person_68 (snd_getf (pc := 70) cls7 (f := 11) (by decide) wd_211 dX8_person_70 (snd_iload_n (pc := 73) (i := 2) dX8_person_73 (snd_iald (pc := 74) dX8_person_74 (snd_ireturn dX8_person_75))))) (sw_nil)))))) (snd_iconst (pc := 24) dX8_person_24 (snd_ireturn dX8_person_25)))))))))))))
