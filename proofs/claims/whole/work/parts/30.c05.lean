/-! LastWalker.regret(III)I -/
theorem dX8_regret_0 : decode cX8_regret 0 = .ok (.aload_n 0, 1) := by decide +kernel
theorem dX8_regret_1 : decode cX8_regret 1 = .ok (.iload_n 1, 1) := by decide +kernel
theorem dX8_regret_2 : decode cX8_regret 2 = .ok (.iload_n 2, 1) := by decide +kernel
theorem dX8_regret_3 : decode cX8_regret 3 = .ok (.invokevirtual 321, 3) := by decide +kernel
theorem dX8_regret_6 : decode cX8_regret 6 = .ok (.astore 4, 2) := by decide +kernel
theorem dX8_regret_8 : decode cX8_regret 8 = .ok (.aload 4, 2) := by decide +kernel
theorem dX8_regret_10 : decode cX8_regret 10 = .ok (.ifnull 12, 3) := by decide +kernel
theorem dX8_regret_13 : decode cX8_regret 13 = .ok (.aload 4, 2) := by decide +kernel
theorem dX8_regret_15 : decode cX8_regret 15 = .ok (.iload_n 3, 1) := by decide +kernel
theorem dX8_regret_16 : decode cX8_regret 16 = .ok (.invokevirtual 177, 3) := by decide +kernel
theorem dX8_regret_19 : decode cX8_regret 19 = .ok (.ifCond .ne 5, 3) := by decide +kernel
theorem dX8_regret_22 : decode cX8_regret 22 = .ok (.iconst (-1), 1) := by decide +kernel
theorem dX8_regret_23 : decode cX8_regret 23 = .ok (.ireturn, 1) := by decide +kernel
theorem dX8_regret_24 : decode cX8_regret 24 = .ok (.aload_n 0, 1) := by decide +kernel
theorem dX8_regret_25 : decode cX8_regret 25 = .ok (.aload 4, 2) := by decide +kernel
theorem dX8_regret_27 : decode cX8_regret 27 = .ok (.iload_n 2, 1) := by decide +kernel
theorem dX8_regret_28 : decode cX8_regret 28 = .ok (.iload_n 3, 1) := by decide +kernel
theorem dX8_regret_29 : decode cX8_regret 29 = .ok (.invokevirtual 352, 3) := by decide +kernel
theorem dX8_regret_32 : decode cX8_regret 32 = .ok (.ireturn, 1) := by decide +kernel
noncomputable def k_X8_regret (F : Nat) : AK := ak_aload 0 (ak_iload 1 (ak_iload 2 (ak_callv 8 2 (m_X8_planFor F) (ak_astore 4 (ak_aload 4 (ak_ifnull (ak_push (vI (-1)) ak_ireturn) (ak_aload 4 (ak_iload 3 (ak_callv 7 1 (m_X7_hasPerson F) (ak_ifeq (ak_push (vI (-1)) ak_ireturn) (ak_aload 0 (ak_aload 4 (ak_iload 2 (ak_iload 3 (ak_callv 8 3 (m_X8_bestKind F) ak_ireturn)))))))))))))))
noncomputable def m_X8_regret (F : Nat) : AF := mkF 1 5 (k_X8_regret F)
set_option maxRecDepth 20000 in
theorem s_X8_regret (F : Nat) : MA yX8_regret cX8_regret 5 (some .int) 20 (m_X8_regret F) := met_of (Or.inr (Or.inl ⟨rfl, rfl⟩)) (by decide) (by
  unfold k_X8_regret
  exact snd_aload_n (pc := 0) (i := 0) dX8_regret_0 (snd_iload_n (pc := 1) (i := 1) dX8_regret_1 (snd_iload_n (pc := 2) (i := 2) dX8_regret_2 (snd_callV (pc := 3) (n := 2) cls8 (s_X8_planFor F) (by decide) (by decide) wd_1102 wd_1099 wd_1101 wd_35 wd_120 hy_X8_planFor dX8_regret_3 (snd_astore (pc := 6) (i := 4) (by decide) dX8_regret_6 (snd_aload (pc := 8) (i := 4) dX8_regret_8 (snd_ifnull (pc := 10) (off := 12) (tgt := 22) (by decide) dX8_regret_10 (snd_iconst (pc := 22) dX8_regret_22 (snd_ireturn dX8_regret_23)) (snd_aload (pc := 13) (i := 4) dX8_regret_13 (snd_iload_n (pc := 15) (i := 3) dX8_regret_15 (snd_callV (pc := 16) (n := 1) cls7 (s_X7_hasPerson F) (by decide) (by decide) wd_854 wd_851 wd_852 wd_853 wd_122 hy_X7_hasPerson dX8_regret_16 (snd_ifne (pc := 19) (off := 5) (tgt := 24) (by decide) dX8_regret_19 (snd_aload_n (pc := 24) (i := 0) dX8_regret_24 (snd_aload (pc := 25) (i := 4) dX8_regret_25 (snd_iload_n (pc := 27) (i := 2) dX8_regret_27 (snd_iload_n (pc := 28) (i := 3) dX8_regret_28 (snd_callV (pc := 29) (n := 3) cls8 (s_X8_bestKind F) (by decide) (by decide) wd_1178 wd_1175 wd_1177 wd_43 wd_120 hy_X8_bestKind dX8_regret_29 (snd_ireturn dX8_regret_32)))))) (snd_iconst (pc := 22) dX8_regret_22 (snd_ireturn dX8_regret_23)))))))))))))

/-! LastWalker.wouldChange(LLastWalker$Town;II)Z -/
theorem dX8_wouldChange_0 : decode cX8_wouldChange 0 = .ok (.iload_n 2, 1) := by decide +kernel
theorem dX8_wouldChange_1 : decode cX8_wouldChange 1 = .ok (.aload_n 1, 1) := by decide +kernel
theorem dX8_wouldChange_2 : decode cX8_wouldChange 2 = .ok (.iload_n 3, 1) := by decide +kernel
theorem dX8_wouldChange_3 : decode cX8_wouldChange 3 = .ok (.invokevirtual 359, 3) := by decide +kernel
theorem dX8_wouldChange_6 : decode cX8_wouldChange 6 = .ok (.iand, 1) := by decide +kernel
theorem dX8_wouldChange_7 : decode cX8_wouldChange 7 = .ok (.ifCond .ne 5, 3) := by decide +kernel
theorem dX8_wouldChange_10 : decode cX8_wouldChange 10 = .ok (.iconst 0, 1) := by decide +kernel
theorem dX8_wouldChange_11 : decode cX8_wouldChange 11 = .ok (.ireturn, 1) := by decide +kernel
theorem dX8_wouldChange_12 : decode cX8_wouldChange 12 = .ok (.aload_n 0, 1) := by decide +kernel
theorem dX8_wouldChange_13 : decode cX8_wouldChange 13 = .ok (.aload_n 1, 1) := by decide +kernel
theorem dX8_wouldChange_14 : decode cX8_wouldChange 14 = .ok (.iload_n 2, 1) := by decide +kernel
theorem dX8_wouldChange_15 : decode cX8_wouldChange 15 = .ok (.iload_n 3, 1) := by decide +kernel
theorem dX8_wouldChange_16 : decode cX8_wouldChange 16 = .ok (.aload_n 1, 1) := by decide +kernel
theorem dX8_wouldChange_17 : decode cX8_wouldChange 17 = .ok (.getfield 186, 3) := by decide +kernel
theorem dX8_wouldChange_20 : decode cX8_wouldChange 20 = .ok (.iload_n 3, 1) := by decide +kernel
theorem dX8_wouldChange_21 : decode cX8_wouldChange 21 = .ok (.iaload, 1) := by decide +kernel
theorem dX8_wouldChange_22 : decode cX8_wouldChange 22 = .ok (.invokevirtual 349, 3) := by decide +kernel
theorem dX8_wouldChange_25 : decode cX8_wouldChange 25 = .ok (.istore 4, 2) := by decide +kernel
theorem dX8_wouldChange_27 : decode cX8_wouldChange 27 = .ok (.iconst 0, 1) := by decide +kernel
theorem dX8_wouldChange_28 : decode cX8_wouldChange 28 = .ok (.istore 5, 2) := by decide +kernel
theorem dX8_wouldChange_30 : decode cX8_wouldChange 30 = .ok (.iload 5, 2) := by decide +kernel
theorem dX8_wouldChange_32 : decode cX8_wouldChange 32 = .ok (.iconst 3, 1) := by decide +kernel
theorem dX8_wouldChange_33 : decode cX8_wouldChange 33 = .ok (.if_icmp .ge 36, 3) := by decide +kernel
theorem dX8_wouldChange_36 : decode cX8_wouldChange 36 = .ok (.iload 5, 2) := by decide +kernel
theorem dX8_wouldChange_38 : decode cX8_wouldChange 38 = .ok (.aload_n 1, 1) := by decide +kernel
theorem dX8_wouldChange_39 : decode cX8_wouldChange 39 = .ok (.getfield 186, 3) := by decide +kernel
theorem dX8_wouldChange_42 : decode cX8_wouldChange 42 = .ok (.iload_n 3, 1) := by decide +kernel
theorem dX8_wouldChange_43 : decode cX8_wouldChange 43 = .ok (.iaload, 1) := by decide +kernel
theorem dX8_wouldChange_44 : decode cX8_wouldChange 44 = .ok (.if_icmp .eq 19, 3) := by decide +kernel
theorem dX8_wouldChange_47 : decode cX8_wouldChange 47 = .ok (.aload_n 0, 1) := by decide +kernel
theorem dX8_wouldChange_48 : decode cX8_wouldChange 48 = .ok (.aload_n 1, 1) := by decide +kernel
theorem dX8_wouldChange_49 : decode cX8_wouldChange 49 = .ok (.iload_n 2, 1) := by decide +kernel
theorem dX8_wouldChange_50 : decode cX8_wouldChange 50 = .ok (.iload_n 3, 1) := by decide +kernel
theorem dX8_wouldChange_51 : decode cX8_wouldChange 51 = .ok (.iload 5, 2) := by decide +kernel
theorem dX8_wouldChange_53 : decode cX8_wouldChange 53 = .ok (.invokevirtual 349, 3) := by decide +kernel
theorem dX8_wouldChange_56 : decode cX8_wouldChange 56 = .ok (.iload 4, 2) := by decide +kernel
theorem dX8_wouldChange_58 : decode cX8_wouldChange 58 = .ok (.if_icmp .ge 5, 3) := by decide +kernel
theorem dX8_wouldChange_61 : decode cX8_wouldChange 61 = .ok (.iconst 1, 1) := by decide +kernel
theorem dX8_wouldChange_62 : decode cX8_wouldChange 62 = .ok (.ireturn, 1) := by decide +kernel
theorem dX8_wouldChange_63 : decode cX8_wouldChange 63 = .ok (.iinc 5 1, 3) := by decide +kernel
theorem dX8_wouldChange_66 : decode cX8_wouldChange 66 = .ok (.goto (-36), 3) := by decide +kernel
theorem dX8_wouldChange_69 : decode cX8_wouldChange 69 = .ok (.iconst 0, 1) := by decide +kernel
theorem dX8_wouldChange_70 : decode cX8_wouldChange 70 = .ok (.ireturn, 1) := by decide +kernel
noncomputable def k_X8_wouldChange_63 (F : Nat) (h30 : AK) : AK := ak_iinc 5 1 h30
set_option maxRecDepth 20000 in
theorem sk_X8_wouldChange_63 (F : Nat) {h30 : AK} (hh30 : Snd X0 RX8 cX8_wouldChange 6 19 30 h30) : Snd X0 RX8 cX8_wouldChange 6 19 63 (k_X8_wouldChange_63 F h30) := by
  unfold k_X8_wouldChange_63
  exact snd_iinc (pc := 63) (i := 5) (n := 1) (by decide) dX8_wouldChange_63 (snd_goto (pc := 66) (off := (-36)) (tgt := 30) (by decide) dX8_wouldChange_66 (hh30))
noncomputable def kb_X8_wouldChange_30 (F : Nat) (self : AK) : AK := ak_iload 5 (ak_push (vI 3) (ak_cmplt (ak_iload 5 (ak_aload 1 (ak_getf 7 11 (ak_iload 3 (ak_iald (ak_cmpeq ((k_X8_wouldChange_63 F self)) (ak_aload 0 (ak_aload 1 (ak_iload 2 (ak_iload 3 (ak_iload 5 (ak_callv 8 4 (m_X8_netByKind F) (ak_iload 4 (ak_cmplt (ak_push (vI 1) ak_ireturn) ((k_X8_wouldChange_63 F self)))))))))))))))) (ak_push (vI 0) ak_ireturn)))
noncomputable def k_X8_wouldChange_30 (F : Nat) (n : Nat) : AK := Nat.rec (motive := fun _ => AK) ak_none (fun _ self => kb_X8_wouldChange_30 F self) n
set_option maxRecDepth 20000 in
theorem sk_X8_wouldChange_30 (F : Nat) : ∀ n, Snd X0 RX8 cX8_wouldChange 6 19 30 (k_X8_wouldChange_30 F n) := by
  intro n
  induction n with
  | zero => exact snd_none
  | succ n ih =>
    show Snd X0 RX8 cX8_wouldChange 6 19 30 (kb_X8_wouldChange_30 F (k_X8_wouldChange_30 F n))
    unfold kb_X8_wouldChange_30
    exact snd_iload (pc := 30) (i := 5) dX8_wouldChange_30 (snd_iconst (pc := 32) dX8_wouldChange_32 (snd_icmpge (pc := 33) (off := 36) (tgt := 69) (by decide) dX8_wouldChange_33 (snd_iconst (pc := 69) dX8_wouldChange_69 (snd_ireturn dX8_wouldChange_70)) (snd_iload (pc := 36) (i := 5) dX8_wouldChange_36 (snd_aload_n (pc := 38) (i := 1) dX8_wouldChange_38 (snd_getf (pc := 39) cls7 (f := 11) (by decide) wd_211 dX8_wouldChange_39 (snd_iload_n (pc := 42) (i := 3) dX8_wouldChange_42 (snd_iald (pc := 43) dX8_wouldChange_43 (snd_icmpeq (pc := 44) (off := 19) (tgt := 63) (by decide) dX8_wouldChange_44 ((sk_X8_wouldChange_63 F ih)) (snd_aload_n (pc := 47) (i := 0) dX8_wouldChange_47 (snd_aload_n (pc := 48) (i := 1) dX8_wouldChange_48 (snd_iload_n (pc := 49) (i := 2) dX8_wouldChange_49 (snd_iload_n (pc := 50) (i := 3) dX8_wouldChange_50 (snd_iload (pc := 51) (i := 5) dX8_wouldChange_51 (snd_callV (pc := 53) (n := 4) cls8 (s_X8_netByKind F) (by decide) (by decide) wd_1170 wd_1167 wd_1169 wd_42 wd_120 hy_X8_netByKind dX8_wouldChange_53 (snd_iload (pc := 56) (i := 4) dX8_wouldChange_56 (snd_icmpge (pc := 58) (off := 5) (tgt := 63) (by decide) dX8_wouldChange_58 ((sk_X8_wouldChange_63 F ih)) (snd_iconst (pc := 61) dX8_wouldChange_61 (snd_ireturn dX8_wouldChange_62))))))))))))))))))
noncomputable def k_X8_wouldChange (F : Nat) : AK := ak_iload 2 (ak_aload 1 (ak_iload 3 (ak_callv 7 1 (m_X7_errandsOf F) (ak_iand (ak_ifeq (ak_push (vI 0) ak_ireturn) (ak_aload 0 (ak_aload 1 (ak_iload 2 (ak_iload 3 (ak_aload 1 (ak_getf 7 11 (ak_iload 3 (ak_iald (ak_callv 8 4 (m_X8_netByKind F) (ak_istore 4 (ak_push (vI 0) (ak_istore 5 ((k_X8_wouldChange_30 F F)))))))))))))))))))
noncomputable def m_X8_wouldChange (F : Nat) : AF := mkF 2 6 (k_X8_wouldChange F)
set_option maxRecDepth 20000 in
theorem s_X8_wouldChange (F : Nat) : MA yX8_wouldChange cX8_wouldChange 6 (some .boolean) 19 (m_X8_wouldChange F) := met_of (Or.inr (Or.inr (Or.inl ⟨rfl, rfl⟩))) (by decide) (by
  unfold k_X8_wouldChange
  exact snd_iload_n (pc := 0) (i := 2) dX8_wouldChange_0 (snd_aload_n (pc := 1) (i := 1) dX8_wouldChange_1 (snd_iload_n (pc := 2) (i := 3) dX8_wouldChange_2 (snd_callV (pc := 3) (n := 1) cls7 (s_X7_errandsOf F) (by decide) (by decide) wd_1190 wd_1187 wd_1188 wd_1189 wd_122 hy_X7_errandsOf dX8_wouldChange_3 (snd_iand (pc := 6) dX8_wouldChange_6 (snd_ifne (pc := 7) (off := 5) (tgt := 12) (by decide) dX8_wouldChange_7 (snd_aload_n (pc := 12) (i := 0) dX8_wouldChange_12 (snd_aload_n (pc := 13) (i := 1) dX8_wouldChange_13 (snd_iload_n (pc := 14) (i := 2) dX8_wouldChange_14 (snd_iload_n (pc := 15) (i := 3) dX8_wouldChange_15 (snd_aload_n (pc := 16) (i := 1) dX8_wouldChange_16 (snd_getf (pc := 17) cls7 (f := 11) (by decide) wd_211 dX8_wouldChange_17 (snd_iload_n (pc := 20) (i := 3) dX8_wouldChange_20 (snd_iald (pc := 21) dX8_wouldChange_21 (snd_callV (pc := 22) (n := 4) cls8 (s_X8_netByKind F) (by decide) (by decide) wd_1170 wd_1167 wd_1169 wd_42 wd_120 hy_X8_netByKind dX8_wouldChange_22 (snd_istore (pc := 25) (i := 4) (by decide) dX8_wouldChange_25 (snd_iconst (pc := 27) dX8_wouldChange_27 (snd_istore (pc := 28) (i := 5) (by decide) dX8_wouldChange_28 ((sk_X8_wouldChange_30 F F)))))))))))))) (snd_iconst (pc := 10) dX8_wouldChange_10 (snd_ireturn dX8_wouldChange_11))))))))

/-! LastWalker.sooner(II)I -/
theorem dX8_sooner_0 : decode cX8_sooner 0 = .ok (.aload_n 0, 1) := by decide +kernel
theorem dX8_sooner_1 : decode cX8_sooner 1 = .ok (.iload_n 1, 1) := by decide +kernel
theorem dX8_sooner_2 : decode cX8_sooner 2 = .ok (.iload_n 2, 1) := by decide +kernel
theorem dX8_sooner_3 : decode cX8_sooner 3 = .ok (.invokevirtual 321, 3) := by decide +kernel
theorem dX8_sooner_6 : decode cX8_sooner 6 = .ok (.astore_n 3, 1) := by decide +kernel
theorem dX8_sooner_7 : decode cX8_sooner 7 = .ok (.aload_n 3, 1) := by decide +kernel
theorem dX8_sooner_8 : decode cX8_sooner 8 = .ok (.ifnonnull 5, 3) := by decide +kernel
theorem dX8_sooner_11 : decode cX8_sooner 11 = .ok (.iconst (-1), 1) := by decide +kernel
theorem dX8_sooner_12 : decode cX8_sooner 12 = .ok (.ireturn, 1) := by decide +kernel
theorem dX8_sooner_13 : decode cX8_sooner 13 = .ok (.iconst 0, 1) := by decide +kernel
theorem dX8_sooner_14 : decode cX8_sooner 14 = .ok (.istore 4, 2) := by decide +kernel
theorem dX8_sooner_16 : decode cX8_sooner 16 = .ok (.iconst 0, 1) := by decide +kernel
theorem dX8_sooner_17 : decode cX8_sooner 17 = .ok (.istore 5, 2) := by decide +kernel
theorem dX8_sooner_19 : decode cX8_sooner 19 = .ok (.iload 5, 2) := by decide +kernel
theorem dX8_sooner_21 : decode cX8_sooner 21 = .ok (.aload_n 3, 1) := by decide +kernel
theorem dX8_sooner_22 : decode cX8_sooner 22 = .ok (.getfield 142, 3) := by decide +kernel
theorem dX8_sooner_25 : decode cX8_sooner 25 = .ok (.if_icmp .ge 29, 3) := by decide +kernel
theorem dX8_sooner_28 : decode cX8_sooner 28 = .ok (.aload_n 0, 1) := by decide +kernel
theorem dX8_sooner_29 : decode cX8_sooner 29 = .ok (.aload_n 3, 1) := by decide +kernel
theorem dX8_sooner_30 : decode cX8_sooner 30 = .ok (.iload_n 2, 1) := by decide +kernel
theorem dX8_sooner_31 : decode cX8_sooner 31 = .ok (.iload 5, 2) := by decide +kernel
theorem dX8_sooner_33 : decode cX8_sooner 33 = .ok (.invokevirtual 355, 3) := by decide +kernel
theorem dX8_sooner_36 : decode cX8_sooner 36 = .ok (.ifCond .eq 12, 3) := by decide +kernel
theorem dX8_sooner_39 : decode cX8_sooner 39 = .ok (.iload 4, 2) := by decide +kernel
theorem dX8_sooner_41 : decode cX8_sooner 41 = .ok (.iconst 1, 1) := by decide +kernel
theorem dX8_sooner_42 : decode cX8_sooner 42 = .ok (.iload 5, 2) := by decide +kernel
theorem dX8_sooner_44 : decode cX8_sooner 44 = .ok (.ishl, 1) := by decide +kernel
theorem dX8_sooner_45 : decode cX8_sooner 45 = .ok (.ior, 1) := by decide +kernel
theorem dX8_sooner_46 : decode cX8_sooner 46 = .ok (.istore 4, 2) := by decide +kernel
theorem dX8_sooner_48 : decode cX8_sooner 48 = .ok (.iinc 5 1, 3) := by decide +kernel
theorem dX8_sooner_51 : decode cX8_sooner 51 = .ok (.goto (-32), 3) := by decide +kernel
theorem dX8_sooner_54 : decode cX8_sooner 54 = .ok (.iload 4, 2) := by decide +kernel
theorem dX8_sooner_56 : decode cX8_sooner 56 = .ok (.ireturn, 1) := by decide +kernel
noncomputable def k_X8_sooner_48 (F : Nat) (h19 : AK) : AK := ak_iinc 5 1 h19
set_option maxRecDepth 20000 in
theorem sk_X8_sooner_48 (F : Nat) {h19 : AK} (hh19 : Snd X0 RX8 cX8_sooner 6 20 19 h19) : Snd X0 RX8 cX8_sooner 6 20 48 (k_X8_sooner_48 F h19) := by
  unfold k_X8_sooner_48
  exact snd_iinc (pc := 48) (i := 5) (n := 1) (by decide) dX8_sooner_48 (snd_goto (pc := 51) (off := (-32)) (tgt := 19) (by decide) dX8_sooner_51 (hh19))
noncomputable def kb_X8_sooner_19 (F : Nat) (self : AK) : AK := ak_iload 5 (ak_aload 3 (ak_getf 7 8 (ak_cmplt (ak_aload 0 (ak_aload 3 (ak_iload 2 (ak_iload 5 (ak_callv 8 3 (m_X8_wouldChange F) (ak_ifeq ((k_X8_sooner_48 F self)) (ak_iload 4 (ak_push (vI 1) (ak_iload 5 (ak_ishl (ak_ior (ak_istore 4 ((k_X8_sooner_48 F self)))))))))))))) (ak_iload 4 ak_ireturn))))
noncomputable def k_X8_sooner_19 (F : Nat) (n : Nat) : AK := Nat.rec (motive := fun _ => AK) ak_none (fun _ self => kb_X8_sooner_19 F self) n
set_option maxRecDepth 20000 in
theorem sk_X8_sooner_19 (F : Nat) : ∀ n, Snd X0 RX8 cX8_sooner 6 20 19 (k_X8_sooner_19 F n) := by
  intro n
  induction n with
  | zero => exact snd_none
  | succ n ih =>
    show Snd X0 RX8 cX8_sooner 6 20 19 (kb_X8_sooner_19 F (k_X8_sooner_19 F n))
    unfold kb_X8_sooner_19
    exact snd_iload (pc := 19) (i := 5) dX8_sooner_19 (snd_aload_n (pc := 21) (i := 3) dX8_sooner_21 (snd_getf (pc := 22) cls7 (f := 8) (by decide) wd_197 dX8_sooner_22 (snd_icmpge (pc := 25) (off := 29) (tgt := 54) (by decide) dX8_sooner_25 (snd_iload (pc := 54) (i := 4) dX8_sooner_54 (snd_ireturn dX8_sooner_56)) (snd_aload_n (pc := 28) (i := 0) dX8_sooner_28 (snd_aload_n (pc := 29) (i := 3) dX8_sooner_29 (snd_iload_n (pc := 30) (i := 2) dX8_sooner_30 (snd_iload (pc := 31) (i := 5) dX8_sooner_31 (snd_callV (pc := 33) (n := 3) cls8 (s_X8_wouldChange F) (by decide) (by decide) wd_1186 wd_1183 wd_1185 wd_44 wd_120 hy_X8_wouldChange dX8_sooner_33 (snd_ifeq (pc := 36) (off := 12) (tgt := 48) (by decide) dX8_sooner_36 ((sk_X8_sooner_48 F ih)) (snd_iload (pc := 39) (i := 4) dX8_sooner_39 (snd_iconst (pc := 41) dX8_sooner_41 (snd_iload (pc := 42) (i := 5) dX8_sooner_42 (snd_ishl (pc := 44) dX8_sooner_44 (snd_ior (pc := 45) dX8_sooner_45 (snd_istore (pc := 46) (i := 4) (by decide) dX8_sooner_46 ((sk_X8_sooner_48 F ih)))))))))))))))))
noncomputable def k_X8_sooner (F : Nat) : AK := ak_aload 0 (ak_iload 1 (ak_iload 2 (ak_callv 8 2 (m_X8_planFor F) (ak_astore 3 (ak_aload 3 (ak_ifnull (ak_push (vI (-1)) ak_ireturn) (ak_push (vI 0) (ak_istore 4 (ak_push (vI 0) (ak_istore 5 ((k_X8_sooner_19 F F))))))))))))
noncomputable def m_X8_sooner (F : Nat) : AF := mkF 1 6 (k_X8_sooner F)
set_option maxRecDepth 20000 in
theorem s_X8_sooner (F : Nat) : MA yX8_sooner cX8_sooner 6 (some .int) 20 (m_X8_sooner F) := met_of (Or.inr (Or.inl ⟨rfl, rfl⟩)) (by decide) (by
  unfold k_X8_sooner
  exact snd_aload_n (pc := 0) (i := 0) dX8_sooner_0 (snd_iload_n (pc := 1) (i := 1) dX8_sooner_1 (snd_iload_n (pc := 2) (i := 2) dX8_sooner_2 (snd_callV (pc := 3) (n := 2) cls8 (s_X8_planFor F) (by decide) (by decide) wd_1102 wd_1099 wd_1101 wd_35 wd_120 hy_X8_planFor dX8_sooner_3 (snd_astore_n (pc := 6) (i := 3) (by decide) dX8_sooner_6 (snd_aload_n (pc := 7) (i := 3) dX8_sooner_7 (snd_ifnonnull (pc := 8) (off := 5) (tgt := 13) (by decide) dX8_sooner_8 (snd_iconst (pc := 13) dX8_sooner_13 (snd_istore (pc := 14) (i := 4) (by decide) dX8_sooner_14 (snd_iconst (pc := 16) dX8_sooner_16 (snd_istore (pc := 17) (i := 5) (by decide) dX8_sooner_17 ((sk_X8_sooner_19 F F)))))) (snd_iconst (pc := 11) dX8_sooner_11 (snd_ireturn dX8_sooner_12)))))))))

/-! LastWalker.rests(IIZ)I -/
theorem dX8_rests_0 : decode cX8_rests 0 = .ok (.aload_n 0, 1) := by decide +kernel
theorem dX8_rests_1 : decode cX8_rests 1 = .ok (.iload_n 1, 1) := by decide +kernel
theorem dX8_rests_2 : decode cX8_rests 2 = .ok (.iload_n 2, 1) := by decide +kernel
theorem dX8_rests_3 : decode cX8_rests 3 = .ok (.invokevirtual 321, 3) := by decide +kernel
theorem dX8_rests_6 : decode cX8_rests 6 = .ok (.astore 4, 2) := by decide +kernel
theorem dX8_rests_8 : decode cX8_rests 8 = .ok (.aload 4, 2) := by decide +kernel
theorem dX8_rests_10 : decode cX8_rests 10 = .ok (.ifnonnull 5, 3) := by decide +kernel
theorem dX8_rests_13 : decode cX8_rests 13 = .ok (.iconst (-1), 1) := by decide +kernel
theorem dX8_rests_14 : decode cX8_rests 14 = .ok (.ireturn, 1) := by decide +kernel
theorem dX8_rests_15 : decode cX8_rests 15 = .ok (.iconst 0, 1) := by decide +kernel
theorem dX8_rests_16 : decode cX8_rests 16 = .ok (.istore 5, 2) := by decide +kernel
theorem dX8_rests_18 : decode cX8_rests 18 = .ok (.iload 5, 2) := by decide +kernel
theorem dX8_rests_20 : decode cX8_rests 20 = .ok (.bipush 20, 2) := by decide +kernel
theorem dX8_rests_22 : decode cX8_rests 22 = .ok (.if_icmp .gt 89, 3) := by decide +kernel
theorem dX8_rests_25 : decode cX8_rests 25 = .ok (.iconst 0, 1) := by decide +kernel
theorem dX8_rests_26 : decode cX8_rests 26 = .ok (.istore 6, 2) := by decide +kernel
theorem dX8_rests_28 : decode cX8_rests 28 = .ok (.iload 6, 2) := by decide +kernel
theorem dX8_rests_30 : decode cX8_rests 30 = .ok (.aload 4, 2) := by decide +kernel
theorem dX8_rests_32 : decode cX8_rests 32 = .ok (.getfield 142, 3) := by decide +kernel
theorem dX8_rests_35 : decode cX8_rests 35 = .ok (.if_icmp .ge 21, 3) := by decide +kernel
theorem dX8_rests_38 : decode cX8_rests 38 = .ok (.aload_n 0, 1) := by decide +kernel
theorem dX8_rests_39 : decode cX8_rests 39 = .ok (.aload 4, 2) := by decide +kernel
theorem dX8_rests_41 : decode cX8_rests 41 = .ok (.iload_n 2, 1) := by decide +kernel
theorem dX8_rests_42 : decode cX8_rests 42 = .ok (.iload 6, 2) := by decide +kernel
theorem dX8_rests_44 : decode cX8_rests 44 = .ok (.invokevirtual 355, 3) := by decide +kernel
theorem dX8_rests_47 : decode cX8_rests 47 = .ok (.ifCond .ne 9, 3) := by decide +kernel
theorem dX8_rests_50 : decode cX8_rests 50 = .ok (.iinc 6 1, 3) := by decide +kernel
theorem dX8_rests_53 : decode cX8_rests 53 = .ok (.goto (-25), 3) := by decide +kernel
theorem dX8_rests_56 : decode cX8_rests 56 = .ok (.iload 6, 2) := by decide +kernel
theorem dX8_rests_58 : decode cX8_rests 58 = .ok (.aload 4, 2) := by decide +kernel
theorem dX8_rests_60 : decode cX8_rests 60 = .ok (.getfield 142, 3) := by decide +kernel
theorem dX8_rests_63 : decode cX8_rests 63 = .ok (.if_icmp .lt 18, 3) := by decide +kernel
theorem dX8_rests_66 : decode cX8_rests 66 = .ok (.iload_n 3, 1) := by decide +kernel
theorem dX8_rests_67 : decode cX8_rests 67 = .ok (.ifCond .eq 11, 3) := by decide +kernel
theorem dX8_rests_70 : decode cX8_rests 70 = .ok (.aload 4, 2) := by decide +kernel
theorem dX8_rests_72 : decode cX8_rests 72 = .ok (.invokevirtual 363, 3) := by decide +kernel
theorem dX8_rests_75 : decode cX8_rests 75 = .ok (.goto 5, 3) := by decide +kernel
theorem dX8_rests_78 : decode cX8_rests 78 = .ok (.iload 5, 2) := by decide +kernel
theorem dX8_rests_80 : decode cX8_rests 80 = .ok (.ireturn, 1) := by decide +kernel
theorem dX8_rests_81 : decode cX8_rests 81 = .ok (.iload 5, 2) := by decide +kernel
theorem dX8_rests_83 : decode cX8_rests 83 = .ok (.bipush 20, 2) := by decide +kernel
theorem dX8_rests_85 : decode cX8_rests 85 = .ok (.if_icmp .ge 20, 3) := by decide +kernel
theorem dX8_rests_88 : decode cX8_rests 88 = .ok (.aload 4, 2) := by decide +kernel
theorem dX8_rests_90 : decode cX8_rests 90 = .ok (.getfield 186, 3) := by decide +kernel
theorem dX8_rests_93 : decode cX8_rests 93 = .ok (.iload 6, 2) := by decide +kernel
theorem dX8_rests_95 : decode cX8_rests 95 = .ok (.aload_n 0, 1) := by decide +kernel
theorem dX8_rests_96 : decode cX8_rests 96 = .ok (.aload 4, 2) := by decide +kernel
theorem dX8_rests_98 : decode cX8_rests 98 = .ok (.iload_n 2, 1) := by decide +kernel
theorem dX8_rests_99 : decode cX8_rests 99 = .ok (.iload 6, 2) := by decide +kernel
theorem dX8_rests_101 : decode cX8_rests 101 = .ok (.invokevirtual 352, 3) := by decide +kernel
theorem dX8_rests_104 : decode cX8_rests 104 = .ok (.iastore, 1) := by decide +kernel
theorem dX8_rests_105 : decode cX8_rests 105 = .ok (.iinc 5 1, 3) := by decide +kernel
theorem dX8_rests_108 : decode cX8_rests 108 = .ok (.goto (-90), 3) := by decide +kernel
theorem dX8_rests_111 : decode cX8_rests 111 = .ok (.iload_n 3, 1) := by decide +kernel
theorem dX8_rests_112 : decode cX8_rests 112 = .ok (.ifCond .eq 11, 3) := by decide +kernel
theorem dX8_rests_115 : decode cX8_rests 115 = .ok (.aload 4, 2) := by decide +kernel
theorem dX8_rests_117 : decode cX8_rests 117 = .ok (.invokevirtual 363, 3) := by decide +kernel
theorem dX8_rests_120 : decode cX8_rests 120 = .ok (.goto 4, 3) := by decide +kernel
theorem dX8_rests_123 : decode cX8_rests 123 = .ok (.iconst (-1), 1) := by decide +kernel
theorem dX8_rests_124 : decode cX8_rests 124 = .ok (.ireturn, 1) := by decide +kernel
noncomputable def k_X8_rests_105 (F : Nat) (h18 : AK) : AK := ak_iinc 5 1 h18
set_option maxRecDepth 20000 in
theorem sk_X8_rests_105 (F : Nat) {h18 : AK} (hh18 : Snd X0 RX8 cX8_rests 7 20 18 h18) : Snd X0 RX8 cX8_rests 7 20 105 (k_X8_rests_105 F h18) := by
  unfold k_X8_rests_105
  exact snd_iinc (pc := 105) (i := 5) (n := 1) (by decide) dX8_rests_105 (snd_goto (pc := 108) (off := (-90)) (tgt := 18) (by decide) dX8_rests_108 (hh18))
noncomputable def k_X8_rests_56 (F : Nat) (h18 : AK) : AK := ak_iload 6 (ak_aload 4 (ak_getf 7 8 (ak_cmplt (ak_iload 5 (ak_push (vI 20) (ak_cmplt (ak_aload 4 (ak_getf 7 11 (ak_iload 6 (ak_aload 0 (ak_aload 4 (ak_iload 2 (ak_iload 6 (ak_callv 8 3 (m_X8_bestKind F) (ak_iast ((k_X8_rests_105 F h18))))))))))) ((k_X8_rests_105 F h18))))) (ak_iload 3 (ak_ifeq (ak_iload 5 ak_ireturn) (ak_aload 4 (ak_callv 7 0 (m_X7_kindsByThree F) ak_ireturn)))))))
set_option maxRecDepth 20000 in
theorem sk_X8_rests_56 (F : Nat) {h18 : AK} (hh18 : Snd X0 RX8 cX8_rests 7 20 18 h18) : Snd X0 RX8 cX8_rests 7 20 56 (k_X8_rests_56 F h18) := by
  unfold k_X8_rests_56
  exact snd_iload (pc := 56) (i := 6) dX8_rests_56 (snd_aload (pc := 58) (i := 4) dX8_rests_58 (snd_getf (pc := 60) cls7 (f := 8) (by decide) wd_197 dX8_rests_60 (snd_icmplt (pc := 63) (off := 18) (tgt := 81) (by decide) dX8_rests_63 (snd_iload (pc := 81) (i := 5) dX8_rests_81 (snd_bipush (pc := 83) (by decide) dX8_rests_83 (snd_icmpge (pc := 85) (off := 20) (tgt := 105) (by decide) dX8_rests_85 ((sk_X8_rests_105 F hh18)) (snd_aload (pc := 88) (i := 4) dX8_rests_88 (snd_getf (pc := 90) cls7 (f := 11) (by decide) wd_211 dX8_rests_90 (snd_iload (pc := 93) (i := 6) dX8_rests_93 (snd_aload_n (pc := 95) (i := 0) dX8_rests_95 (snd_aload (pc := 96) (i := 4) dX8_rests_96 (snd_iload_n (pc := 98) (i := 2) dX8_rests_98 (snd_iload (pc := 99) (i := 6) dX8_rests_99 (snd_callV (pc := 101) (n := 3) cls8 (s_X8_bestKind F) (by decide) (by decide) wd_1178 wd_1175 wd_1177 wd_43 wd_120 hy_X8_bestKind dX8_rests_101 (snd_iast (pc := 104) dX8_rests_104 ((sk_X8_rests_105 F hh18)))))))))))))) (snd_iload_n (pc := 66) (i := 3) dX8_rests_66 (snd_ifeq (pc := 67) (off := 11) (tgt := 78) (by decide) dX8_rests_67 (snd_iload (pc := 78) (i := 5) dX8_rests_78 (snd_ireturn dX8_rests_80)) (snd_aload (pc := 70) (i := 4) dX8_rests_70 (snd_callV (pc := 72) (n := 0) cls7 (s_X7_kindsByThree F) (by decide) (by decide) wd_1198 wd_1195 wd_1196 wd_1197 wd_122 hy_X7_kindsByThree dX8_rests_72 (snd_goto (pc := 75) (off := 5) (tgt := 80) (by decide) dX8_rests_75 (snd_ireturn dX8_rests_80)))))))))
noncomputable def kb_X8_rests_28 (F : Nat) (h18 : AK) (self : AK) : AK := ak_iload 6 (ak_aload 4 (ak_getf 7 8 (ak_cmplt (ak_aload 0 (ak_aload 4 (ak_iload 2 (ak_iload 6 (ak_callv 8 3 (m_X8_wouldChange F) (ak_ifeq (ak_iinc 6 1 self) ((k_X8_rests_56 F h18)))))))) ((k_X8_rests_56 F h18)))))
noncomputable def k_X8_rests_28 (F : Nat) (h18 : AK) (n : Nat) : AK := Nat.rec (motive := fun _ => AK) ak_none (fun _ self => kb_X8_rests_28 F h18 self) n
set_option maxRecDepth 20000 in
theorem sk_X8_rests_28 (F : Nat) {h18 : AK} (hh18 : Snd X0 RX8 cX8_rests 7 20 18 h18) : ∀ n, Snd X0 RX8 cX8_rests 7 20 28 (k_X8_rests_28 F h18 n) := by
  intro n
  induction n with
  | zero => exact snd_none
  | succ n ih =>
    show Snd X0 RX8 cX8_rests 7 20 28 (kb_X8_rests_28 F h18 (k_X8_rests_28 F h18 n))
    unfold kb_X8_rests_28
    exact snd_iload (pc := 28) (i := 6) dX8_rests_28 (snd_aload (pc := 30) (i := 4) dX8_rests_30 (snd_getf (pc := 32) cls7 (f := 8) (by decide) wd_197 dX8_rests_32 (snd_icmpge (pc := 35) (off := 21) (tgt := 56) (by decide) dX8_rests_35 ((sk_X8_rests_56 F hh18)) (snd_aload_n (pc := 38) (i := 0) dX8_rests_38 (snd_aload (pc := 39) (i := 4) dX8_rests_39 (snd_iload_n (pc := 41) (i := 2) dX8_rests_41 (snd_iload (pc := 42) (i := 6) dX8_rests_42 (snd_callV (pc := 44) (n := 3) cls8 (s_X8_wouldChange F) (by decide) (by decide) wd_1186 wd_1183 wd_1185 wd_44 wd_120 hy_X8_wouldChange dX8_rests_44 (snd_ifne (pc := 47) (off := 9) (tgt := 56) (by decide) dX8_rests_47 ((sk_X8_rests_56 F hh18)) (snd_iinc (pc := 50) (i := 6) (n := 1) (by decide) dX8_rests_50 (snd_goto (pc := 53) (off := (-25)) (tgt := 28) (by decide) dX8_rests_53 (ih))))))))))))
noncomputable def kb_X8_rests_18 (F : Nat) (self : AK) : AK := ak_iload 5 (ak_push (vI 20) (ak_cmpgt (ak_iload 3 (ak_ifeq (ak_push (vI (-1)) ak_ireturn) (ak_aload 4 (ak_callv 7 0 (m_X7_kindsByThree F) ak_ireturn)))) (ak_push (vI 0) (ak_istore 6 ((k_X8_rests_28 F self F))))))
noncomputable def k_X8_rests_18 (F : Nat) (n : Nat) : AK := Nat.rec (motive := fun _ => AK) ak_none (fun _ self => kb_X8_rests_18 F self) n
set_option maxRecDepth 20000 in
theorem sk_X8_rests_18 (F : Nat) : ∀ n, Snd X0 RX8 cX8_rests 7 20 18 (k_X8_rests_18 F n) := by
  intro n
  induction n with
  | zero => exact snd_none
  | succ n ih =>
    show Snd X0 RX8 cX8_rests 7 20 18 (kb_X8_rests_18 F (k_X8_rests_18 F n))
    unfold kb_X8_rests_18
    exact snd_iload (pc := 18) (i := 5) dX8_rests_18 (snd_bipush (pc := 20) (by decide) dX8_rests_20 (snd_icmpgt (pc := 22) (off := 89) (tgt := 111) (by decide) dX8_rests_22 (snd_iload_n (pc := 111) (i := 3) dX8_rests_111 (snd_ifeq (pc := 112) (off := 11) (tgt := 123) (by decide) dX8_rests_112 (snd_iconst (pc := 123) dX8_rests_123 (snd_ireturn dX8_rests_124)) (snd_aload (pc := 115) (i := 4) dX8_rests_115 (snd_callV (pc := 117) (n := 0) cls7 (s_X7_kindsByThree F) (by decide) (by decide) wd_1198 wd_1195 wd_1196 wd_1197 wd_122 hy_X7_kindsByThree dX8_rests_117 (snd_goto (pc := 120) (off := 4) (tgt := 124) (by decide) dX8_rests_120 (snd_ireturn dX8_rests_124)))))) (snd_iconst (pc := 25) dX8_rests_25 (snd_istore (pc := 26) (i := 6) (by decide) dX8_rests_26 ((sk_X8_rests_28 F ih F))))))
noncomputable def k_X8_rests (F : Nat) : AK := ak_aload 0 (ak_iload 1 (ak_iload 2 (ak_callv 8 2 (m_X8_planFor F) (ak_astore 4 (ak_aload 4 (ak_ifnull (ak_push (vI (-1)) ak_ireturn) (ak_push (vI 0) (ak_istore 5 ((k_X8_rests_18 F F))))))))))
noncomputable def m_X8_rests (F : Nat) : AF := mkF 1 7 (k_X8_rests F)
set_option maxRecDepth 20000 in
theorem s_X8_rests (F : Nat) : MA yX8_rests cX8_rests 7 (some .int) 20 (m_X8_rests F) := met_of (Or.inr (Or.inl ⟨rfl, rfl⟩)) (by decide) (by
  unfold k_X8_rests
  exact snd_aload_n (pc := 0) (i := 0) dX8_rests_0 (snd_iload_n (pc := 1) (i := 1) dX8_rests_1 (snd_iload_n (pc := 2) (i := 2) dX8_rests_2 (snd_callV (pc := 3) (n := 2) cls8 (s_X8_planFor F) (by decide) (by decide) wd_1102 wd_1099 wd_1101 wd_35 wd_120 hy_X8_planFor dX8_rests_3 (snd_astore (pc := 6) (i := 4) (by decide) dX8_rests_6 (snd_aload (pc := 8) (i := 4) dX8_rests_8 (snd_ifnonnull (pc := 10) (off := 5) (tgt := 15) (by decide) dX8_rests_10 (snd_iconst (pc := 15) dX8_rests_15 (snd_istore (pc := 16) (i := 5) (by decide) dX8_rests_16 ((sk_X8_rests_18 F F)))) (snd_iconst (pc := 13) dX8_rests_13 (snd_ireturn dX8_rests_14)))))))))

/-! LastWalker.walkedIfFree(LLastWalker$Town;II)I -/
theorem dX8_walkedIfFree_0 : decode cX8_walkedIfFree 0 = .ok (.aload_n 1, 1) := by decide +kernel
theorem dX8_walkedIfFree_1 : decode cX8_walkedIfFree 1 = .ok (.getfield 171, 3) := by decide +kernel
theorem dX8_walkedIfFree_4 : decode cX8_walkedIfFree 4 = .ok (.iload_n 3, 1) := by decide +kernel
theorem dX8_walkedIfFree_5 : decode cX8_walkedIfFree 5 = .ok (.iaload, 1) := by decide +kernel
theorem dX8_walkedIfFree_6 : decode cX8_walkedIfFree 6 = .ok (.istore 4, 2) := by decide +kernel
theorem dX8_walkedIfFree_8 : decode cX8_walkedIfFree 8 = .ok (.aload_n 1, 1) := by decide +kernel
theorem dX8_walkedIfFree_9 : decode cX8_walkedIfFree 9 = .ok (.getfield 171, 3) := by decide +kernel
theorem dX8_walkedIfFree_12 : decode cX8_walkedIfFree 12 = .ok (.iload_n 3, 1) := by decide +kernel
theorem dX8_walkedIfFree_13 : decode cX8_walkedIfFree 13 = .ok (.iconst 0, 1) := by decide +kernel
theorem dX8_walkedIfFree_14 : decode cX8_walkedIfFree 14 = .ok (.iastore, 1) := by decide +kernel
theorem dX8_walkedIfFree_15 : decode cX8_walkedIfFree 15 = .ok (.aload_n 0, 1) := by decide +kernel
theorem dX8_walkedIfFree_16 : decode cX8_walkedIfFree 16 = .ok (.getfield 37, 3) := by decide +kernel
theorem dX8_walkedIfFree_19 : decode cX8_walkedIfFree 19 = .ok (.getfield 268, 3) := by decide +kernel
theorem dX8_walkedIfFree_22 : decode cX8_walkedIfFree 22 = .ok (.aload_n 1, 1) := by decide +kernel
theorem dX8_walkedIfFree_23 : decode cX8_walkedIfFree 23 = .ok (.invokevirtual 346, 3) := by decide +kernel
theorem dX8_walkedIfFree_26 : decode cX8_walkedIfFree 26 = .ok (.aload_n 0, 1) := by decide +kernel
theorem dX8_walkedIfFree_27 : decode cX8_walkedIfFree 27 = .ok (.getfield 46, 3) := by decide +kernel
theorem dX8_walkedIfFree_30 : decode cX8_walkedIfFree 30 = .ok (.aload_n 1, 1) := by decide +kernel
theorem dX8_walkedIfFree_31 : decode cX8_walkedIfFree 31 = .ok (.iload_n 2, 1) := by decide +kernel
theorem dX8_walkedIfFree_32 : decode cX8_walkedIfFree 32 = .ok (.invokevirtual 326, 3) := by decide +kernel
theorem dX8_walkedIfFree_35 : decode cX8_walkedIfFree 35 = .ok (.aload_n 1, 1) := by decide +kernel
theorem dX8_walkedIfFree_36 : decode cX8_walkedIfFree 36 = .ok (.getfield 171, 3) := by decide +kernel
theorem dX8_walkedIfFree_39 : decode cX8_walkedIfFree 39 = .ok (.iload_n 3, 1) := by decide +kernel
theorem dX8_walkedIfFree_40 : decode cX8_walkedIfFree 40 = .ok (.iload 4, 2) := by decide +kernel
theorem dX8_walkedIfFree_42 : decode cX8_walkedIfFree 42 = .ok (.iastore, 1) := by decide +kernel
theorem dX8_walkedIfFree_43 : decode cX8_walkedIfFree 43 = .ok (.aload_n 0, 1) := by decide +kernel
theorem dX8_walkedIfFree_44 : decode cX8_walkedIfFree 44 = .ok (.getfield 46, 3) := by decide +kernel
theorem dX8_walkedIfFree_47 : decode cX8_walkedIfFree 47 = .ok (.aload_n 1, 1) := by decide +kernel
theorem dX8_walkedIfFree_48 : decode cX8_walkedIfFree 48 = .ok (.iconst 0, 1) := by decide +kernel
theorem dX8_walkedIfFree_49 : decode cX8_walkedIfFree 49 = .ok (.invokevirtual 330, 3) := by decide +kernel
theorem dX8_walkedIfFree_52 : decode cX8_walkedIfFree 52 = .ok (.ireturn, 1) := by decide +kernel
noncomputable def k_X8_walkedIfFree (F : Nat) : AK := ak_aload 1 (ak_getf 7 5 (ak_iload 3 (ak_iald (ak_istore 4 (ak_aload 1 (ak_getf 7 5 (ak_iload 3 (ak_push (vI 0) (ak_iast (ak_aload 0 (ak_getf 8 4 (ak_getf 3 0 (ak_aload 1 (ak_callv 1 1 (m_X1_layWorths F) (ak_aload 0 (ak_getf 8 5 (ak_aload 1 (ak_iload 2 (ak_callv 4 2 (m_X4_goAll F) (ak_aload 1 (ak_getf 7 5 (ak_iload 3 (ak_iload 4 (ak_iast (ak_aload 0 (ak_getf 8 5 (ak_aload 1 (ak_push (vI 0) (ak_callv 4 2 (m_X4_sumOf F) ak_ireturn)))))))))))))))))))))))))))))
noncomputable def m_X8_walkedIfFree (F : Nat) : AF := mkF 1 5 (k_X8_walkedIfFree F)
set_option maxRecDepth 20000 in
theorem s_X8_walkedIfFree (F : Nat) : MA yX8_walkedIfFree cX8_walkedIfFree 5 (some .int) 18 (m_X8_walkedIfFree F) := met_of (Or.inr (Or.inl ⟨rfl, rfl⟩)) (by decide) (by
  unfold k_X8_walkedIfFree
  exact snd_aload_n (pc := 0) (i := 1) dX8_walkedIfFree_0 (snd_getf (pc := 1) cls7 (f := 5) (by decide) wd_186 dX8_walkedIfFree_1 (snd_iload_n (pc := 4) (i := 3) dX8_walkedIfFree_4 (snd_iald (pc := 5) dX8_walkedIfFree_5 (snd_istore (pc := 6) (i := 4) (by decide) dX8_walkedIfFree_6 (snd_aload_n (pc := 8) (i := 1) dX8_walkedIfFree_8 (snd_getf (pc := 9) cls7 (f := 5) (by decide) wd_186 dX8_walkedIfFree_9 (snd_iload_n (pc := 12) (i := 3) dX8_walkedIfFree_12 (snd_iconst (pc := 13) dX8_walkedIfFree_13 (snd_iast (pc := 14) dX8_walkedIfFree_14 (snd_aload_n (pc := 15) (i := 0) dX8_walkedIfFree_15 (snd_getf (pc := 16) cls8 (f := 4) (by decide) wd_592 dX8_walkedIfFree_16 (snd_getf (pc := 19) cls3 (f := 0) (by decide) wd_473 dX8_walkedIfFree_19 (snd_aload_n (pc := 22) (i := 1) dX8_walkedIfFree_22 (snd_callV (pc := 23) (n := 1) cls1 (s_X1_layWorths F) (by decide) (by decide) wd_1006 wd_1162 wd_1004 wd_1005 wd_127 hy_X1_layWorths dX8_walkedIfFree_23 (snd_aload_n (pc := 26) (i := 0) dX8_walkedIfFree_26 (snd_getf (pc := 27) cls8 (f := 5) (by decide) wd_593 dX8_walkedIfFree_27 (snd_aload_n (pc := 30) (i := 1) dX8_walkedIfFree_30 (snd_iload_n (pc := 31) (i := 2) dX8_walkedIfFree_31 (snd_callV (pc := 32) (n := 2) cls4 (s_X4_goAll F) (by decide) (by decide) wd_1107 wd_1104 wd_1105 wd_1106 wd_128 hy_X4_goAll dX8_walkedIfFree_32 (snd_aload_n (pc := 35) (i := 1) dX8_walkedIfFree_35 (snd_getf (pc := 36) cls7 (f := 5) (by decide) wd_186 dX8_walkedIfFree_36 (snd_iload_n (pc := 39) (i := 3) dX8_walkedIfFree_39 (snd_iload (pc := 40) (i := 4) dX8_walkedIfFree_40 (snd_iast (pc := 42) dX8_walkedIfFree_42 (snd_aload_n (pc := 43) (i := 0) dX8_walkedIfFree_43 (snd_getf (pc := 44) cls8 (f := 5) (by decide) wd_593 dX8_walkedIfFree_44 (snd_aload_n (pc := 47) (i := 1) dX8_walkedIfFree_47 (snd_iconst (pc := 48) dX8_walkedIfFree_48 (snd_callV (pc := 49) (n := 2) cls4 (s_X4_sumOf F) (by decide) (by decide) wd_1139 wd_1136 wd_1137 wd_1138 wd_128 hy_X4_sumOf dX8_walkedIfFree_49 (snd_ireturn dX8_walkedIfFree_52)))))))))))))))))))))))))))))))

/-! LastWalker.free(II)I -/
theorem dX8_free_0 : decode cX8_free 0 = .ok (.aload_n 0, 1) := by decide +kernel
theorem dX8_free_1 : decode cX8_free 1 = .ok (.iload_n 1, 1) := by decide +kernel
theorem dX8_free_2 : decode cX8_free 2 = .ok (.iload_n 2, 1) := by decide +kernel
theorem dX8_free_3 : decode cX8_free 3 = .ok (.invokevirtual 321, 3) := by decide +kernel
theorem dX8_free_6 : decode cX8_free 6 = .ok (.astore_n 3, 1) := by decide +kernel
theorem dX8_free_7 : decode cX8_free 7 = .ok (.aload_n 3, 1) := by decide +kernel
theorem dX8_free_8 : decode cX8_free 8 = .ok (.ifnonnull 5, 3) := by decide +kernel
theorem dX8_free_11 : decode cX8_free 11 = .ok (.iconst (-1), 1) := by decide +kernel
theorem dX8_free_12 : decode cX8_free 12 = .ok (.ireturn, 1) := by decide +kernel
theorem dX8_free_13 : decode cX8_free 13 = .ok (.aload_n 0, 1) := by decide +kernel
theorem dX8_free_14 : decode cX8_free 14 = .ok (.getfield 46, 3) := by decide +kernel
theorem dX8_free_17 : decode cX8_free 17 = .ok (.aload_n 3, 1) := by decide +kernel
theorem dX8_free_18 : decode cX8_free 18 = .ok (.iload_n 2, 1) := by decide +kernel
theorem dX8_free_19 : decode cX8_free 19 = .ok (.invokevirtual 326, 3) := by decide +kernel
theorem dX8_free_22 : decode cX8_free 22 = .ok (.aload_n 0, 1) := by decide +kernel
theorem dX8_free_23 : decode cX8_free 23 = .ok (.getfield 46, 3) := by decide +kernel
theorem dX8_free_26 : decode cX8_free 26 = .ok (.aload_n 3, 1) := by decide +kernel
theorem dX8_free_27 : decode cX8_free 27 = .ok (.iconst 0, 1) := by decide +kernel
theorem dX8_free_28 : decode cX8_free 28 = .ok (.invokevirtual 330, 3) := by decide +kernel
theorem dX8_free_31 : decode cX8_free 31 = .ok (.istore 4, 2) := by decide +kernel
theorem dX8_free_33 : decode cX8_free 33 = .ok (.iconst (-1), 1) := by decide +kernel
theorem dX8_free_34 : decode cX8_free 34 = .ok (.istore 5, 2) := by decide +kernel
theorem dX8_free_36 : decode cX8_free 36 = .ok (.iconst 0, 1) := by decide +kernel
theorem dX8_free_37 : decode cX8_free 37 = .ok (.istore 6, 2) := by decide +kernel
theorem dX8_free_39 : decode cX8_free 39 = .ok (.iload 6, 2) := by decide +kernel
theorem dX8_free_41 : decode cX8_free 41 = .ok (.aload_n 3, 1) := by decide +kernel
theorem dX8_free_42 : decode cX8_free 42 = .ok (.getfield 139, 3) := by decide +kernel
theorem dX8_free_45 : decode cX8_free 45 = .ok (.if_icmp .ge 34, 3) := by decide +kernel
theorem dX8_free_48 : decode cX8_free 48 = .ok (.aload_n 0, 1) := by decide +kernel
theorem dX8_free_49 : decode cX8_free 49 = .ok (.aload_n 3, 1) := by decide +kernel
theorem dX8_free_50 : decode cX8_free 50 = .ok (.iload_n 2, 1) := by decide +kernel
theorem dX8_free_51 : decode cX8_free 51 = .ok (.iload 6, 2) := by decide +kernel
theorem dX8_free_53 : decode cX8_free 53 = .ok (.invokevirtual 366, 3) := by decide +kernel
theorem dX8_free_56 : decode cX8_free 56 = .ok (.istore 7, 2) := by decide +kernel
theorem dX8_free_58 : decode cX8_free 58 = .ok (.iload 7, 2) := by decide +kernel
theorem dX8_free_60 : decode cX8_free 60 = .ok (.iload 4, 2) := by decide +kernel
theorem dX8_free_62 : decode cX8_free 62 = .ok (.if_icmp .ge 11, 3) := by decide +kernel
theorem dX8_free_65 : decode cX8_free 65 = .ok (.iload 7, 2) := by decide +kernel
theorem dX8_free_67 : decode cX8_free 67 = .ok (.istore 4, 2) := by decide +kernel
theorem dX8_free_69 : decode cX8_free 69 = .ok (.iload 6, 2) := by decide +kernel
theorem dX8_free_71 : decode cX8_free 71 = .ok (.istore 5, 2) := by decide +kernel
theorem dX8_free_73 : decode cX8_free 73 = .ok (.iinc 6 1, 3) := by decide +kernel
theorem dX8_free_76 : decode cX8_free 76 = .ok (.goto (-37), 3) := by decide +kernel
theorem dX8_free_79 : decode cX8_free 79 = .ok (.iload 5, 2) := by decide +kernel
theorem dX8_free_81 : decode cX8_free 81 = .ok (.ireturn, 1) := by decide +kernel
noncomputable def k_X8_free_73 (F : Nat) (h39 : AK) : AK := ak_iinc 6 1 h39
set_option maxRecDepth 20000 in
theorem sk_X8_free_73 (F : Nat) {h39 : AK} (hh39 : Snd X0 RX8 cX8_free 8 19 39 h39) : Snd X0 RX8 cX8_free 8 19 73 (k_X8_free_73 F h39) := by
  unfold k_X8_free_73
  exact snd_iinc (pc := 73) (i := 6) (n := 1) (by decide) dX8_free_73 (snd_goto (pc := 76) (off := (-37)) (tgt := 39) (by decide) dX8_free_76 (hh39))
noncomputable def kb_X8_free_39 (F : Nat) (self : AK) : AK := ak_iload 6 (ak_aload 3 (ak_getf 7 1 (ak_cmplt (ak_aload 0 (ak_aload 3 (ak_iload 2 (ak_iload 6 (ak_callv 8 3 (m_X8_walkedIfFree F) (ak_istore 7 (ak_iload 7 (ak_iload 4 (ak_cmplt (ak_iload 7 (ak_istore 4 (ak_iload 6 (ak_istore 5 ((k_X8_free_73 F self)))))) ((k_X8_free_73 F self))))))))))) (ak_iload 5 ak_ireturn))))
noncomputable def k_X8_free_39 (F : Nat) (n : Nat) : AK := Nat.rec (motive := fun _ => AK) ak_none (fun _ self => kb_X8_free_39 F self) n
set_option maxRecDepth 20000 in
theorem sk_X8_free_39 (F : Nat) : ∀ n, Snd X0 RX8 cX8_free 8 19 39 (k_X8_free_39 F n) := by
  intro n
  induction n with
  | zero => exact snd_none
  | succ n ih =>
    show Snd X0 RX8 cX8_free 8 19 39 (kb_X8_free_39 F (k_X8_free_39 F n))
    unfold kb_X8_free_39
    exact snd_iload (pc := 39) (i := 6) dX8_free_39 (snd_aload_n (pc := 41) (i := 3) dX8_free_41 (snd_getf (pc := 42) cls7 (f := 1) (by decide) wd_166 dX8_free_42 (snd_icmpge (pc := 45) (off := 34) (tgt := 79) (by decide) dX8_free_45 (snd_iload (pc := 79) (i := 5) dX8_free_79 (snd_ireturn dX8_free_81)) (snd_aload_n (pc := 48) (i := 0) dX8_free_48 (snd_aload_n (pc := 49) (i := 3) dX8_free_49 (snd_iload_n (pc := 50) (i := 2) dX8_free_50 (snd_iload (pc := 51) (i := 6) dX8_free_51 (snd_callV (pc := 53) (n := 3) cls8 (s_X8_walkedIfFree F) (by decide) (by decide) wd_1206 wd_1203 wd_1205 wd_45 wd_120 hy_X8_walkedIfFree dX8_free_53 (snd_istore (pc := 56) (i := 7) (by decide) dX8_free_56 (snd_iload (pc := 58) (i := 7) dX8_free_58 (snd_iload (pc := 60) (i := 4) dX8_free_60 (snd_icmpge (pc := 62) (off := 11) (tgt := 73) (by decide) dX8_free_62 ((sk_X8_free_73 F ih)) (snd_iload (pc := 65) (i := 7) dX8_free_65 (snd_istore (pc := 67) (i := 4) (by decide) dX8_free_67 (snd_iload (pc := 69) (i := 6) dX8_free_69 (snd_istore (pc := 71) (i := 5) (by decide) dX8_free_71 ((sk_X8_free_73 F ih))))))))))))))))))
noncomputable def k_X8_free (F : Nat) : AK := ak_aload 0 (ak_iload 1 (ak_iload 2 (ak_callv 8 2 (m_X8_planFor F) (ak_astore 3 (ak_aload 3 (ak_ifnull (ak_push (vI (-1)) ak_ireturn) (ak_aload 0 (ak_getf 8 5 (ak_aload 3 (ak_iload 2 (ak_callv 4 2 (m_X4_goAll F) (ak_aload 0 (ak_getf 8 5 (ak_aload 3 (ak_push (vI 0) (ak_callv 4 2 (m_X4_sumOf F) (ak_istore 4 (ak_push (vI (-1)) (ak_istore 5 (ak_push (vI 0) (ak_istore 6 ((k_X8_free_39 F F)))))))))))))))))))))))
noncomputable def m_X8_free (F : Nat) : AF := mkF 1 8 (k_X8_free F)
set_option maxRecDepth 20000 in
theorem s_X8_free (F : Nat) : MA yX8_free cX8_free 8 (some .int) 19 (m_X8_free F) := met_of (Or.inr (Or.inl ⟨rfl, rfl⟩)) (by decide) (by
  unfold k_X8_free
  exact snd_aload_n (pc := 0) (i := 0) dX8_free_0 (snd_iload_n (pc := 1) (i := 1) dX8_free_1 (snd_iload_n (pc := 2) (i := 2) dX8_free_2 (snd_callV (pc := 3) (n := 2) cls8 (s_X8_planFor F) (by decide) (by decide) wd_1102 wd_1099 wd_1101 wd_35 wd_120 hy_X8_planFor dX8_free_3 (snd_astore_n (pc := 6) (i := 3) (by decide) dX8_free_6 (snd_aload_n (pc := 7) (i := 3) dX8_free_7 (snd_ifnonnull (pc := 8) (off := 5) (tgt := 13) (by decide) dX8_free_8 (snd_aload_n (pc := 13) (i := 0) dX8_free_13 (snd_getf (pc := 14) cls8 (f := 5) (by decide) wd_593 dX8_free_14 (snd_aload_n (pc := 17) (i := 3) dX8_free_17 (snd_iload_n (pc := 18) (i := 2) dX8_free_18 (snd_callV (pc := 19) (n := 2) cls4 (s_X4_goAll F) (by decide) (by decide) wd_1107 wd_1104 wd_1105 wd_1106 wd_128 hy_X4_goAll dX8_free_19 (snd_aload_n (pc := 22) (i := 0) dX8_free_22 (snd_getf (pc := 23) cls8 (f := 5) (by decide) wd_593 dX8_free_23 (snd_aload_n (pc := 26) (i := 3) dX8_free_26 (snd_iconst (pc := 27) dX8_free_27 (snd_callV (pc := 28) (n := 2) cls4 (s_X4_sumOf F) (by decide) (by decide) wd_1139 wd_1136 wd_1137 wd_1138 wd_128 hy_X4_sumOf dX8_free_28 (snd_istore (pc := 31) (i := 4) (by decide) dX8_free_31 (snd_iconst (pc := 33) dX8_free_33 (snd_istore (pc := 34) (i := 5) (by decide) dX8_free_34 (snd_iconst (pc := 36) dX8_free_36 (snd_istore (pc := 37) (i := 6) (by decide) dX8_free_37 ((sk_X8_free_39 F F))))))))))))))))) (snd_iconst (pc := 11) dX8_free_11 (snd_ireturn dX8_free_12)))))))))

/-! LastWalker.visits(IIIZ)I -/
theorem dX8_visits_0 : decode cX8_visits 0 = .ok (.aload_n 0, 1) := by decide +kernel
theorem dX8_visits_1 : decode cX8_visits 1 = .ok (.iload_n 1, 1) := by decide +kernel
theorem dX8_visits_2 : decode cX8_visits 2 = .ok (.iload_n 2, 1) := by decide +kernel
theorem dX8_visits_3 : decode cX8_visits 3 = .ok (.invokevirtual 321, 3) := by decide +kernel
theorem dX8_visits_6 : decode cX8_visits 6 = .ok (.astore 5, 2) := by decide +kernel
theorem dX8_visits_8 : decode cX8_visits 8 = .ok (.aload 5, 2) := by decide +kernel
theorem dX8_visits_10 : decode cX8_visits 10 = .ok (.ifnull 12, 3) := by decide +kernel
theorem dX8_visits_13 : decode cX8_visits 13 = .ok (.aload 5, 2) := by decide +kernel
theorem dX8_visits_15 : decode cX8_visits 15 = .ok (.iload_n 3, 1) := by decide +kernel
theorem dX8_visits_16 : decode cX8_visits 16 = .ok (.invokevirtual 154, 3) := by decide +kernel
theorem dX8_visits_19 : decode cX8_visits 19 = .ok (.ifCond .ne 5, 3) := by decide +kernel
theorem dX8_visits_22 : decode cX8_visits 22 = .ok (.iconst (-1), 1) := by decide +kernel
theorem dX8_visits_23 : decode cX8_visits 23 = .ok (.ireturn, 1) := by decide +kernel
theorem dX8_visits_24 : decode cX8_visits 24 = .ok (.aload_n 0, 1) := by decide +kernel
theorem dX8_visits_25 : decode cX8_visits 25 = .ok (.getfield 46, 3) := by decide +kernel
theorem dX8_visits_28 : decode cX8_visits 28 = .ok (.aload 5, 2) := by decide +kernel
theorem dX8_visits_30 : decode cX8_visits 30 = .ok (.iload_n 2, 1) := by decide +kernel
theorem dX8_visits_31 : decode cX8_visits 31 = .ok (.invokevirtual 326, 3) := by decide +kernel
theorem dX8_visits_34 : decode cX8_visits 34 = .ok (.iload 4, 2) := by decide +kernel
theorem dX8_visits_36 : decode cX8_visits 36 = .ok (.ifCond .eq 15, 3) := by decide +kernel
theorem dX8_visits_39 : decode cX8_visits 39 = .ok (.aload_n 0, 1) := by decide +kernel
theorem dX8_visits_40 : decode cX8_visits 40 = .ok (.getfield 46, 3) := by decide +kernel
theorem dX8_visits_43 : decode cX8_visits 43 = .ok (.getfield 369, 3) := by decide +kernel
theorem dX8_visits_46 : decode cX8_visits 46 = .ok (.iload_n 3, 1) := by decide +kernel
theorem dX8_visits_47 : decode cX8_visits 47 = .ok (.iaload, 1) := by decide +kernel
theorem dX8_visits_48 : decode cX8_visits 48 = .ok (.goto 12, 3) := by decide +kernel
theorem dX8_visits_51 : decode cX8_visits 51 = .ok (.aload_n 0, 1) := by decide +kernel
theorem dX8_visits_52 : decode cX8_visits 52 = .ok (.getfield 46, 3) := by decide +kernel
theorem dX8_visits_55 : decode cX8_visits 55 = .ok (.getfield 372, 3) := by decide +kernel
theorem dX8_visits_58 : decode cX8_visits 58 = .ok (.iload_n 3, 1) := by decide +kernel
theorem dX8_visits_59 : decode cX8_visits 59 = .ok (.iaload, 1) := by decide +kernel
theorem dX8_visits_60 : decode cX8_visits 60 = .ok (.ireturn, 1) := by decide +kernel
noncomputable def k_X8_visits (F : Nat) : AK := ak_aload 0 (ak_iload 1 (ak_iload 2 (ak_callv 8 2 (m_X8_planFor F) (ak_astore 5 (ak_aload 5 (ak_ifnull (ak_push (vI (-1)) ak_ireturn) (ak_aload 5 (ak_iload 3 (ak_callv 7 1 (m_X7_hasRoad F) (ak_ifeq (ak_push (vI (-1)) ak_ireturn) (ak_aload 0 (ak_getf 8 5 (ak_aload 5 (ak_iload 2 (ak_callv 4 2 (m_X4_goAll F) (ak_iload 4 (ak_ifeq (ak_aload 0 (ak_getf 8 5 (ak_getf 4 2 (ak_iload 3 (ak_iald ak_ireturn))))) (ak_aload 0 (ak_getf 8 5 (ak_getf 4 1 (ak_iload 3 (ak_iald ak_ireturn))))))))))))))))))))))
noncomputable def m_X8_visits (F : Nat) : AF := mkF 1 6 (k_X8_visits F)
set_option maxRecDepth 20000 in
theorem s_X8_visits (F : Nat) : MA yX8_visits cX8_visits 6 (some .int) 18 (m_X8_visits F) := met_of (Or.inr (Or.inl ⟨rfl, rfl⟩)) (by decide) (by
  unfold k_X8_visits
  exact snd_aload_n (pc := 0) (i := 0) dX8_visits_0 (snd_iload_n (pc := 1) (i := 1) dX8_visits_1 (snd_iload_n (pc := 2) (i := 2) dX8_visits_2 (snd_callV (pc := 3) (n := 2) cls8 (s_X8_planFor F) (by decide) (by decide) wd_1102 wd_1099 wd_1101 wd_35 wd_120 hy_X8_planFor dX8_visits_3 (snd_astore (pc := 6) (i := 5) (by decide) dX8_visits_6 (snd_aload (pc := 8) (i := 5) dX8_visits_8 (snd_ifnull (pc := 10) (off := 12) (tgt := 22) (by decide) dX8_visits_10 (snd_iconst (pc := 22) dX8_visits_22 (snd_ireturn dX8_visits_23)) (snd_aload (pc := 13) (i := 5) dX8_visits_13 (snd_iload_n (pc := 15) (i := 3) dX8_visits_15 (snd_callV (pc := 16) (n := 1) cls7 (s_X7_hasRoad F) (by decide) (by decide) wd_846 wd_843 wd_844 wd_845 wd_122 hy_X7_hasRoad dX8_visits_16 (snd_ifne (pc := 19) (off := 5) (tgt := 24) (by decide) dX8_visits_19 (snd_aload_n (pc := 24) (i := 0) dX8_visits_24 (snd_getf (pc := 25) cls8 (f := 5) (by decide) wd_593 dX8_visits_25 (snd_aload (pc := 28) (i := 5) dX8_visits_28 (snd_iload_n (pc := 30) (i := 2) dX8_visits_30 (snd_callV (pc := 31) (n := 2) cls4 (s_X4_goAll F) (by decide) (by decide) wd_1107 wd_1104 wd_1105 wd_1106 wd_128 hy_X4_goAll dX8_visits_31 (snd_iload (pc := 34) (i := 4) dX8_visits_34 (snd_ifeq (pc := 36) (off := 15) (tgt := 51) (by decide) dX8_visits_36 (snd_aload_n (pc := 51) (i := 0) dX8_visits_51 (snd_getf (pc := 52) cls8 (f := 5) (by decide) wd_593 dX8_visits_52 (snd_getf (pc := 55) cls4 (f := 2) (by decide) wd_546 dX8_visits_55 (snd_iload_n (pc := 58) (i := 3) dX8_visits_58 (snd_iald (pc := 59) dX8_visits_59 (snd_ireturn dX8_visits_60)))))) (snd_aload_n (pc := 39) (i := 0) dX8_visits_39 (snd_getf (pc := 40) cls8 (f := 5) (by decide) wd_593 dX8_visits_40 (snd_getf (pc := 43) cls4 (f := 1) (by decide) wd_544 dX8_visits_43 (snd_iload_n (pc := 46) (i := 3) dX8_visits_46 (snd_iald (pc := 47) dX8_visits_47 (snd_goto (pc := 48) (off := 12) (tgt := 60) (by decide) dX8_visits_48 (snd_ireturn dX8_visits_60)))))))))))))) (snd_iconst (pc := 22) dX8_visits_22 (snd_ireturn dX8_visits_23)))))))))))))

/-! LastWalker.bestLaw(LLastWalker$Town;I)I -/
theorem dX8_bestLaw_0 : decode cX8_bestLaw 0 = .ok (.iconst 0, 1) := by decide +kernel
theorem dX8_bestLaw_1 : decode cX8_bestLaw 1 = .ok (.istore_n 3, 1) := by decide +kernel
theorem dX8_bestLaw_2 : decode cX8_bestLaw 2 = .ok (.aload_n 0, 1) := by decide +kernel
theorem dX8_bestLaw_3 : decode cX8_bestLaw 3 = .ok (.aload_n 1, 1) := by decide +kernel
theorem dX8_bestLaw_4 : decode cX8_bestLaw 4 = .ok (.iload_n 2, 1) := by decide +kernel
theorem dX8_bestLaw_5 : decode cX8_bestLaw 5 = .ok (.iconst 0, 1) := by decide +kernel
theorem dX8_bestLaw_6 : decode cX8_bestLaw 6 = .ok (.iconst 3, 1) := by decide +kernel
theorem dX8_bestLaw_7 : decode cX8_bestLaw 7 = .ok (.invokevirtual 342, 3) := by decide +kernel
theorem dX8_bestLaw_10 : decode cX8_bestLaw 10 = .ok (.istore 4, 2) := by decide +kernel
theorem dX8_bestLaw_12 : decode cX8_bestLaw 12 = .ok (.iconst 1, 1) := by decide +kernel
theorem dX8_bestLaw_13 : decode cX8_bestLaw 13 = .ok (.istore 5, 2) := by decide +kernel
theorem dX8_bestLaw_15 : decode cX8_bestLaw 15 = .ok (.iload 5, 2) := by decide +kernel
theorem dX8_bestLaw_17 : decode cX8_bestLaw 17 = .ok (.iconst 3, 1) := by decide +kernel
theorem dX8_bestLaw_18 : decode cX8_bestLaw 18 = .ok (.if_icmp .gt 34, 3) := by decide +kernel
theorem dX8_bestLaw_21 : decode cX8_bestLaw 21 = .ok (.aload_n 0, 1) := by decide +kernel
theorem dX8_bestLaw_22 : decode cX8_bestLaw 22 = .ok (.aload_n 1, 1) := by decide +kernel
theorem dX8_bestLaw_23 : decode cX8_bestLaw 23 = .ok (.iload_n 2, 1) := by decide +kernel
theorem dX8_bestLaw_24 : decode cX8_bestLaw 24 = .ok (.iload 5, 2) := by decide +kernel
theorem dX8_bestLaw_26 : decode cX8_bestLaw 26 = .ok (.iconst 3, 1) := by decide +kernel
theorem dX8_bestLaw_27 : decode cX8_bestLaw 27 = .ok (.invokevirtual 342, 3) := by decide +kernel
theorem dX8_bestLaw_30 : decode cX8_bestLaw 30 = .ok (.istore 6, 2) := by decide +kernel
theorem dX8_bestLaw_32 : decode cX8_bestLaw 32 = .ok (.iload 6, 2) := by decide +kernel
theorem dX8_bestLaw_34 : decode cX8_bestLaw 34 = .ok (.iload 4, 2) := by decide +kernel
theorem dX8_bestLaw_36 : decode cX8_bestLaw 36 = .ok (.if_icmp .ge 10, 3) := by decide +kernel
theorem dX8_bestLaw_39 : decode cX8_bestLaw 39 = .ok (.iload 6, 2) := by decide +kernel
theorem dX8_bestLaw_41 : decode cX8_bestLaw 41 = .ok (.istore 4, 2) := by decide +kernel
theorem dX8_bestLaw_43 : decode cX8_bestLaw 43 = .ok (.iload 5, 2) := by decide +kernel
theorem dX8_bestLaw_45 : decode cX8_bestLaw 45 = .ok (.istore_n 3, 1) := by decide +kernel
theorem dX8_bestLaw_46 : decode cX8_bestLaw 46 = .ok (.iinc 5 1, 3) := by decide +kernel
theorem dX8_bestLaw_49 : decode cX8_bestLaw 49 = .ok (.goto (-34), 3) := by decide +kernel
theorem dX8_bestLaw_52 : decode cX8_bestLaw 52 = .ok (.iload_n 3, 1) := by decide +kernel
theorem dX8_bestLaw_53 : decode cX8_bestLaw 53 = .ok (.ireturn, 1) := by decide +kernel
noncomputable def k_X8_bestLaw_46 (F : Nat) (h15 : AK) : AK := ak_iinc 5 1 h15
set_option maxRecDepth 20000 in
theorem sk_X8_bestLaw_46 (F : Nat) {h15 : AK} (hh15 : Snd X0 RX8 cX8_bestLaw 7 19 15 h15) : Snd X0 RX8 cX8_bestLaw 7 19 46 (k_X8_bestLaw_46 F h15) := by
  unfold k_X8_bestLaw_46
  exact snd_iinc (pc := 46) (i := 5) (n := 1) (by decide) dX8_bestLaw_46 (snd_goto (pc := 49) (off := (-34)) (tgt := 15) (by decide) dX8_bestLaw_49 (hh15))
noncomputable def kb_X8_bestLaw_15 (F : Nat) (self : AK) : AK := ak_iload 5 (ak_push (vI 3) (ak_cmpgt (ak_iload 3 ak_ireturn) (ak_aload 0 (ak_aload 1 (ak_iload 2 (ak_iload 5 (ak_push (vI 3) (ak_callv 8 4 (m_X8_sumByLaw F) (ak_istore 6 (ak_iload 6 (ak_iload 4 (ak_cmplt (ak_iload 6 (ak_istore 4 (ak_iload 5 (ak_istore 3 ((k_X8_bestLaw_46 F self)))))) ((k_X8_bestLaw_46 F self))))))))))))))
noncomputable def k_X8_bestLaw_15 (F : Nat) (n : Nat) : AK := Nat.rec (motive := fun _ => AK) ak_none (fun _ self => kb_X8_bestLaw_15 F self) n
set_option maxRecDepth 20000 in
theorem sk_X8_bestLaw_15 (F : Nat) : ∀ n, Snd X0 RX8 cX8_bestLaw 7 19 15 (k_X8_bestLaw_15 F n) := by
  intro n
  induction n with
  | zero => exact snd_none
  | succ n ih =>
    show Snd X0 RX8 cX8_bestLaw 7 19 15 (kb_X8_bestLaw_15 F (k_X8_bestLaw_15 F n))
    unfold kb_X8_bestLaw_15
    exact snd_iload (pc := 15) (i := 5) dX8_bestLaw_15 (snd_iconst (pc := 17) dX8_bestLaw_17 (snd_icmpgt (pc := 18) (off := 34) (tgt := 52) (by decide) dX8_bestLaw_18 (snd_iload_n (pc := 52) (i := 3) dX8_bestLaw_52 (snd_ireturn dX8_bestLaw_53)) (snd_aload_n (pc := 21) (i := 0) dX8_bestLaw_21 (snd_aload_n (pc := 22) (i := 1) dX8_bestLaw_22 (snd_iload_n (pc := 23) (i := 2) dX8_bestLaw_23 (snd_iload (pc := 24) (i := 5) dX8_bestLaw_24 (snd_iconst (pc := 26) dX8_bestLaw_26 (snd_callV (pc := 27) (n := 4) cls8 (s_X8_sumByLaw F) (by decide) (by decide) wd_1161 wd_1158 wd_1160 wd_41 wd_120 hy_X8_sumByLaw dX8_bestLaw_27 (snd_istore (pc := 30) (i := 6) (by decide) dX8_bestLaw_30 (snd_iload (pc := 32) (i := 6) dX8_bestLaw_32 (snd_iload (pc := 34) (i := 4) dX8_bestLaw_34 (snd_icmpge (pc := 36) (off := 10) (tgt := 46) (by decide) dX8_bestLaw_36 ((sk_X8_bestLaw_46 F ih)) (snd_iload (pc := 39) (i := 6) dX8_bestLaw_39 (snd_istore (pc := 41) (i := 4) (by decide) dX8_bestLaw_41 (snd_iload (pc := 43) (i := 5) dX8_bestLaw_43 (snd_istore_n (pc := 45) (i := 3) (by decide) dX8_bestLaw_45 ((sk_X8_bestLaw_46 F ih))))))))))))))))))
noncomputable def k_X8_bestLaw (F : Nat) : AK := ak_push (vI 0) (ak_istore 3 (ak_aload 0 (ak_aload 1 (ak_iload 2 (ak_push (vI 0) (ak_push (vI 3) (ak_callv 8 4 (m_X8_sumByLaw F) (ak_istore 4 (ak_push (vI 1) (ak_istore 5 ((k_X8_bestLaw_15 F F))))))))))))
noncomputable def m_X8_bestLaw (F : Nat) : AF := mkF 1 7 (k_X8_bestLaw F)
set_option maxRecDepth 20000 in
theorem s_X8_bestLaw (F : Nat) : MA yX8_bestLaw cX8_bestLaw 7 (some .int) 19 (m_X8_bestLaw F) := met_of (Or.inr (Or.inl ⟨rfl, rfl⟩)) (by decide) (by
  unfold k_X8_bestLaw
  exact snd_iconst (pc := 0) dX8_bestLaw_0 (snd_istore_n (pc := 1) (i := 3) (by decide) dX8_bestLaw_1 (snd_aload_n (pc := 2) (i := 0) dX8_bestLaw_2 (snd_aload_n (pc := 3) (i := 1) dX8_bestLaw_3 (snd_iload_n (pc := 4) (i := 2) dX8_bestLaw_4 (snd_iconst (pc := 5) dX8_bestLaw_5 (snd_iconst (pc := 6) dX8_bestLaw_6 (snd_callV (pc := 7) (n := 4) cls8 (s_X8_sumByLaw F) (by decide) (by decide) wd_1161 wd_1158 wd_1160 wd_41 wd_120 hy_X8_sumByLaw dX8_bestLaw_7 (snd_istore (pc := 10) (i := 4) (by decide) dX8_bestLaw_10 (snd_iconst (pc := 12) dX8_bestLaw_12 (snd_istore (pc := 13) (i := 5) (by decide) dX8_bestLaw_13 ((sk_X8_bestLaw_15 F F)))))))))))))

/-! LastWalker.whole(III)I -/
theorem dX8_whole_0 : decode cX8_whole 0 = .ok (.aload_n 0, 1) := by decide +kernel
theorem dX8_whole_1 : decode cX8_whole 1 = .ok (.iload_n 1, 1) := by decide +kernel
theorem dX8_whole_2 : decode cX8_whole 2 = .ok (.iload_n 2, 1) := by decide +kernel
theorem dX8_whole_3 : decode cX8_whole 3 = .ok (.invokevirtual 321, 3) := by decide +kernel
theorem dX8_whole_6 : decode cX8_whole 6 = .ok (.astore 4, 2) := by decide +kernel
theorem dX8_whole_8 : decode cX8_whole 8 = .ok (.aload 4, 2) := by decide +kernel
theorem dX8_whole_10 : decode cX8_whole 10 = .ok (.ifnonnull 5, 3) := by decide +kernel
theorem dX8_whole_13 : decode cX8_whole 13 = .ok (.iconst (-1), 1) := by decide +kernel
theorem dX8_whole_14 : decode cX8_whole 14 = .ok (.ireturn, 1) := by decide +kernel
theorem dX8_whole_15 : decode cX8_whole 15 = .ok (.iload_n 3, 1) := by decide +kernel
theorem dX8_whole_16 : decode cX8_whole 16 = .ok (.iconst 3, 1) := by decide +kernel
theorem dX8_whole_17 : decode cX8_whole 17 = .ok (.if_icmp .ne 11, 3) := by decide +kernel
theorem dX8_whole_20 : decode cX8_whole 20 = .ok (.aload_n 0, 1) := by decide +kernel
theorem dX8_whole_21 : decode cX8_whole 21 = .ok (.aload 4, 2) := by decide +kernel
theorem dX8_whole_23 : decode cX8_whole 23 = .ok (.iload_n 2, 1) := by decide +kernel
theorem dX8_whole_24 : decode cX8_whole 24 = .ok (.invokevirtual 375, 3) := by decide +kernel
theorem dX8_whole_27 : decode cX8_whole 27 = .ok (.ireturn, 1) := by decide +kernel
theorem dX8_whole_28 : decode cX8_whole 28 = .ok (.aload_n 0, 1) := by decide +kernel
theorem dX8_whole_29 : decode cX8_whole 29 = .ok (.getfield 46, 3) := by decide +kernel
theorem dX8_whole_32 : decode cX8_whole 32 = .ok (.aload 4, 2) := by decide +kernel
theorem dX8_whole_34 : decode cX8_whole 34 = .ok (.iload_n 2, 1) := by decide +kernel
theorem dX8_whole_35 : decode cX8_whole 35 = .ok (.invokevirtual 326, 3) := by decide +kernel
theorem dX8_whole_38 : decode cX8_whole 38 = .ok (.iload_n 3, 1) := by decide +kernel
theorem dX8_whole_39 : decode cX8_whole 39 = .ok (.tableswitch 51 0 2 #[25, 35, 43], 25) := by decide +kernel
theorem dX8_whole_64 : decode cX8_whole 64 = .ok (.aload_n 0, 1) := by decide +kernel
theorem dX8_whole_65 : decode cX8_whole 65 = .ok (.getfield 46, 3) := by decide +kernel
theorem dX8_whole_68 : decode cX8_whole 68 = .ok (.aload 4, 2) := by decide +kernel
theorem dX8_whole_70 : decode cX8_whole 70 = .ok (.invokevirtual 378, 3) := by decide +kernel
theorem dX8_whole_73 : decode cX8_whole 73 = .ok (.ireturn, 1) := by decide +kernel
theorem dX8_whole_74 : decode cX8_whole 74 = .ok (.aload_n 0, 1) := by decide +kernel
theorem dX8_whole_75 : decode cX8_whole 75 = .ok (.getfield 46, 3) := by decide +kernel
theorem dX8_whole_78 : decode cX8_whole 78 = .ok (.getfield 382, 3) := by decide +kernel
theorem dX8_whole_81 : decode cX8_whole 81 = .ok (.ireturn, 1) := by decide +kernel
theorem dX8_whole_82 : decode cX8_whole 82 = .ok (.aload_n 0, 1) := by decide +kernel
theorem dX8_whole_83 : decode cX8_whole 83 = .ok (.getfield 46, 3) := by decide +kernel
theorem dX8_whole_86 : decode cX8_whole 86 = .ok (.getfield 385, 3) := by decide +kernel
theorem dX8_whole_89 : decode cX8_whole 89 = .ok (.ireturn, 1) := by decide +kernel
theorem dX8_whole_90 : decode cX8_whole 90 = .ok (.iconst (-1), 1) := by decide +kernel
theorem dX8_whole_91 : decode cX8_whole 91 = .ok (.ireturn, 1) := by decide +kernel
noncomputable def k_X8_whole (F : Nat) : AK := ak_aload 0 (ak_iload 1 (ak_iload 2 (ak_callv 8 2 (m_X8_planFor F) (ak_astore 4 (ak_aload 4 (ak_ifnull (ak_push (vI (-1)) ak_ireturn) (ak_iload 3 (ak_push (vI 3) (ak_cmpeq (ak_aload 0 (ak_aload 4 (ak_iload 2 (ak_callv 8 2 (m_X8_bestLaw F) ak_ireturn)))) (ak_aload 0 (ak_getf 8 5 (ak_aload 4 (ak_iload 2 (ak_callv 4 2 (m_X4_goAll F) (ak_iload 3 (ak_switch 0 [ak_aload 0 (ak_getf 8 5 (ak_aload 4 (ak_callv 4 1 (m_X4_idleRoads F) ak_ireturn))), ak_aload 0 (ak_getf 8 5 (ak_getf 4 3 ak_ireturn)), ak_aload 0 (ak_getf 8 5 (ak_getf 4 4 ak_ireturn))] (ak_push (vI (-1)) ak_ireturn)))))))))))))))))
noncomputable def m_X8_whole (F : Nat) : AF := mkF 1 5 (k_X8_whole F)
set_option maxRecDepth 20000 in
theorem s_X8_whole (F : Nat) : MA yX8_whole cX8_whole 5 (some .int) 20 (m_X8_whole F) := met_of (Or.inr (Or.inl ⟨rfl, rfl⟩)) (by decide) (by
  unfold k_X8_whole
  exact snd_aload_n (pc := 0) (i := 0) dX8_whole_0 (snd_iload_n (pc := 1) (i := 1) dX8_whole_1 (snd_iload_n (pc := 2) (i := 2) dX8_whole_2 (snd_callV (pc := 3) (n := 2) cls8 (s_X8_planFor F) (by decide) (by decide) wd_1102 wd_1099 wd_1101 wd_35 wd_120 hy_X8_planFor dX8_whole_3 (snd_astore (pc := 6) (i := 4) (by decide) dX8_whole_6 (snd_aload (pc := 8) (i := 4) dX8_whole_8 (snd_ifnonnull (pc := 10) (off := 5) (tgt := 15) (by decide) dX8_whole_10 (snd_iload_n (pc := 15) (i := 3) dX8_whole_15 (snd_iconst (pc := 16) dX8_whole_16 (snd_icmpne (pc := 17) (off := 11) (tgt := 28) (by decide) dX8_whole_17 (snd_aload_n (pc := 28) (i := 0) dX8_whole_28 (snd_getf (pc := 29) cls8 (f := 5) (by decide) wd_593 dX8_whole_29 (snd_aload (pc := 32) (i := 4) dX8_whole_32 (snd_iload_n (pc := 34) (i := 2) dX8_whole_34 (snd_callV (pc := 35) (n := 2) cls4 (s_X4_goAll F) (by decide) (by decide) wd_1107 wd_1104 wd_1105 wd_1106 wd_128 hy_X4_goAll dX8_whole_35 (snd_iload_n (pc := 38) (i := 3) dX8_whole_38 (snd_switchL (pc := 39) (ol := [25, 35, 43]) (tgd := 90) dX8_whole_39 rfl (by decide) (snd_iconst (pc := 90) dX8_whole_90 (snd_ireturn dX8_whole_91)) (sw_cons (o := 25) (tgt := 64) (by decide) (snd_aload_n (pc := 64) (i := 0) dX8_whole_64 (snd_getf (pc := 65) cls8 (f := 5) (by decide) wd_593 dX8_whole_65 (snd_aload (pc := 68) (i := 4) dX8_whole_68 (snd_callV (pc := 70) (n := 1) cls4 (s_X4_idleRoads F) (by decide) (by decide) wd_1222 wd_1219 wd_1220 wd_1221 wd_128 hy_X4_idleRoads dX8_whole_70 (snd_ireturn dX8_whole_73))))) (sw_cons (o := 35) (tgt := 74) (by decide) (snd_aload_n (pc := 74) (i := 0) dX8_whole_74 (snd_getf (pc := 75) cls8 (f := 5) (by decide) wd_593 dX8_whole_75 (snd_getf (pc := 78) cls4 (f := 3) (by decide) wd_548 dX8_whole_78 (snd_ireturn dX8_whole_81)))) (sw_cons (o := 43) (tgt := 82) (by decide) (snd_aload_n (pc := 82) (i := 0) dX8_whole_82 (snd_getf (pc := 83) cls8 (f := 5) (by decide) wd_593 dX8_whole_83 (snd_getf (pc := 86) cls4 (f := 4) (by decide) wd_550 dX8_whole_86 (snd_ireturn dX8_whole_89)))) (sw_nil))))))))))) (snd_aload_n (pc := 20) (i := 0) dX8_whole_20 (snd_aload (pc := 21) (i := 4) dX8_whole_21 (snd_iload_n (pc := 23) (i := 2) dX8_whole_23 (snd_callV (pc := 24) (n := 2) cls8 (s_X8_bestLaw F) (by decide) (by decide) wd_1218 wd_1215 wd_1217 wd_46 wd_120 hy_X8_bestLaw dX8_whole_24 (snd_ireturn dX8_whole_27)))))))) (snd_iconst (pc := 13) dX8_whole_13 (snd_ireturn dX8_whole_14)))))))))

/-! LastWalker.still(III)I -/
theorem dX8_still_0 : decode cX8_still 0 = .ok (.aload_n 0, 1) := by decide +kernel
theorem dX8_still_1 : decode cX8_still 1 = .ok (.iload_n 1, 1) := by decide +kernel
theorem dX8_still_2 : decode cX8_still 2 = .ok (.iload_n 2, 1) := by decide +kernel
theorem dX8_still_3 : decode cX8_still 3 = .ok (.invokevirtual 321, 3) := by decide +kernel
theorem dX8_still_6 : decode cX8_still 6 = .ok (.astore 4, 2) := by decide +kernel
theorem dX8_still_8 : decode cX8_still 8 = .ok (.aload 4, 2) := by decide +kernel
theorem dX8_still_10 : decode cX8_still 10 = .ok (.ifnull 12, 3) := by decide +kernel
theorem dX8_still_13 : decode cX8_still 13 = .ok (.aload 4, 2) := by decide +kernel
theorem dX8_still_15 : decode cX8_still 15 = .ok (.iload_n 3, 1) := by decide +kernel
theorem dX8_still_16 : decode cX8_still 16 = .ok (.invokevirtual 177, 3) := by decide +kernel
theorem dX8_still_19 : decode cX8_still 19 = .ok (.ifCond .ne 7, 3) := by decide +kernel
theorem dX8_still_22 : decode cX8_still 22 = .ok (.ldc_w 325, 3) := by decide +kernel
theorem dX8_still_25 : decode cX8_still 25 = .ok (.ireturn, 1) := by decide +kernel
theorem dX8_still_26 : decode cX8_still 26 = .ok (.aload_n 0, 1) := by decide +kernel
theorem dX8_still_27 : decode cX8_still 27 = .ok (.aload 4, 2) := by decide +kernel
theorem dX8_still_29 : decode cX8_still 29 = .ok (.iload_n 2, 1) := by decide +kernel
theorem dX8_still_30 : decode cX8_still 30 = .ok (.aload 4, 2) := by decide +kernel
theorem dX8_still_32 : decode cX8_still 32 = .ok (.iload_n 3, 1) := by decide +kernel
theorem dX8_still_33 : decode cX8_still 33 = .ok (.invokevirtual 359, 3) := by decide +kernel
theorem dX8_still_36 : decode cX8_still 36 = .ok (.iconst (-1), 1) := by decide +kernel
theorem dX8_still_37 : decode cX8_still 37 = .ok (.ixor, 1) := by decide +kernel
theorem dX8_still_38 : decode cX8_still 38 = .ok (.iand, 1) := by decide +kernel
theorem dX8_still_39 : decode cX8_still 39 = .ok (.iload_n 3, 1) := by decide +kernel
theorem dX8_still_40 : decode cX8_still 40 = .ok (.invokevirtual 388, 3) := by decide +kernel
theorem dX8_still_43 : decode cX8_still 43 = .ok (.ireturn, 1) := by decide +kernel
noncomputable def k_X8_still (F : Nat) : AK := ak_aload 0 (ak_iload 1 (ak_iload 2 (ak_callv 8 2 (m_X8_planFor F) (ak_astore 4 (ak_aload 4 (ak_ifnull (ak_push (vI (-100000)) ak_ireturn) (ak_aload 4 (ak_iload 3 (ak_callv 7 1 (m_X7_hasPerson F) (ak_ifeq (ak_push (vI (-100000)) ak_ireturn) (ak_aload 0 (ak_aload 4 (ak_iload 2 (ak_aload 4 (ak_iload 3 (ak_callv 7 1 (m_X7_errandsOf F) (ak_push (vI (-1)) (ak_ixor (ak_iand (ak_iload 3 (ak_callv 8 3 (m_X8_netOf F) ak_ireturn)))))))))))))))))))))
noncomputable def m_X8_still (F : Nat) : AF := mkF 1 5 (k_X8_still F)
set_option maxRecDepth 20000 in
theorem s_X8_still (F : Nat) : MA yX8_still cX8_still 5 (some .int) 19 (m_X8_still F) := met_of (Or.inr (Or.inl ⟨rfl, rfl⟩)) (by decide) (by
  unfold k_X8_still
  exact snd_aload_n (pc := 0) (i := 0) dX8_still_0 (snd_iload_n (pc := 1) (i := 1) dX8_still_1 (snd_iload_n (pc := 2) (i := 2) dX8_still_2 (snd_callV (pc := 3) (n := 2) cls8 (s_X8_planFor F) (by decide) (by decide) wd_1102 wd_1099 wd_1101 wd_35 wd_120 hy_X8_planFor dX8_still_3 (snd_astore (pc := 6) (i := 4) (by decide) dX8_still_6 (snd_aload (pc := 8) (i := 4) dX8_still_8 (snd_ifnull (pc := 10) (off := 12) (tgt := 22) (by decide) dX8_still_10 (snd_ldcw (pc := 22) (z := (-100000)) (by decide) wd_1103 dX8_still_22 (snd_ireturn dX8_still_25)) (snd_aload (pc := 13) (i := 4) dX8_still_13 (snd_iload_n (pc := 15) (i := 3) dX8_still_15 (snd_callV (pc := 16) (n := 1) cls7 (s_X7_hasPerson F) (by decide) (by decide) wd_854 wd_851 wd_852 wd_853 wd_122 hy_X7_hasPerson dX8_still_16 (snd_ifne (pc := 19) (off := 7) (tgt := 26) (by decide) dX8_still_19 (snd_aload_n (pc := 26) (i := 0) dX8_still_26 (snd_aload (pc := 27) (i := 4) dX8_still_27 (snd_iload_n (pc := 29) (i := 2) dX8_still_29 (snd_aload (pc := 30) (i := 4) dX8_still_30 (snd_iload_n (pc := 32) (i := 3) dX8_still_32 (snd_callV (pc := 33) (n := 1) cls7 (s_X7_errandsOf F) (by decide) (by decide) wd_1190 wd_1187 wd_1188 wd_1189 wd_122 hy_X7_errandsOf dX8_still_33 (snd_iconst (pc := 36) dX8_still_36 (snd_ixor (pc := 37) dX8_still_37 (snd_iand (pc := 38) dX8_still_38 (snd_iload_n (pc := 39) (i := 3) dX8_still_39 (snd_callV (pc := 40) (n := 3) cls8 (s_X8_netOf F) (by decide) (by decide) wd_1230 wd_1227 wd_1229 wd_47 wd_120 hy_X8_netOf dX8_still_40 (snd_ireturn dX8_still_43)))))))))))) (snd_ldcw (pc := 22) (z := (-100000)) (by decide) wd_1103 dX8_still_22 (snd_ireturn dX8_still_25)))))))))))))

/-! LastWalker.bestGift(LLastWalker$Town;II)I -/
theorem dX8_bestGift_0 : decode cX8_bestGift 0 = .ok (.iconst (-1), 1) := by decide +kernel
theorem dX8_bestGift_1 : decode cX8_bestGift 1 = .ok (.istore 4, 2) := by decide +kernel
theorem dX8_bestGift_3 : decode cX8_bestGift 3 = .ok (.aload_n 0, 1) := by decide +kernel
theorem dX8_bestGift_4 : decode cX8_bestGift 4 = .ok (.aload_n 1, 1) := by decide +kernel
theorem dX8_bestGift_5 : decode cX8_bestGift 5 = .ok (.iload_n 2, 1) := by decide +kernel
theorem dX8_bestGift_6 : decode cX8_bestGift 6 = .ok (.iload_n 3, 1) := by decide +kernel
theorem dX8_bestGift_7 : decode cX8_bestGift 7 = .ok (.invokevirtual 388, 3) := by decide +kernel
theorem dX8_bestGift_10 : decode cX8_bestGift 10 = .ok (.istore 5, 2) := by decide +kernel
theorem dX8_bestGift_12 : decode cX8_bestGift 12 = .ok (.iconst 0, 1) := by decide +kernel
theorem dX8_bestGift_13 : decode cX8_bestGift 13 = .ok (.istore 6, 2) := by decide +kernel
theorem dX8_bestGift_15 : decode cX8_bestGift 15 = .ok (.iload 6, 2) := by decide +kernel
theorem dX8_bestGift_17 : decode cX8_bestGift 17 = .ok (.aload_n 1, 1) := by decide +kernel
theorem dX8_bestGift_18 : decode cX8_bestGift 18 = .ok (.getfield 139, 3) := by decide +kernel
theorem dX8_bestGift_21 : decode cX8_bestGift 21 = .ok (.if_icmp .ge 59, 3) := by decide +kernel
theorem dX8_bestGift_24 : decode cX8_bestGift 24 = .ok (.aload_n 1, 1) := by decide +kernel
theorem dX8_bestGift_25 : decode cX8_bestGift 25 = .ok (.getfield 174, 3) := by decide +kernel
theorem dX8_bestGift_28 : decode cX8_bestGift 28 = .ok (.iload 6, 2) := by decide +kernel
theorem dX8_bestGift_30 : decode cX8_bestGift 30 = .ok (.iaload, 1) := by decide +kernel
theorem dX8_bestGift_31 : decode cX8_bestGift 31 = .ok (.istore 7, 2) := by decide +kernel
theorem dX8_bestGift_33 : decode cX8_bestGift 33 = .ok (.aload_n 1, 1) := by decide +kernel
theorem dX8_bestGift_34 : decode cX8_bestGift 34 = .ok (.getfield 174, 3) := by decide +kernel
theorem dX8_bestGift_37 : decode cX8_bestGift 37 = .ok (.iload 6, 2) := by decide +kernel
theorem dX8_bestGift_39 : decode cX8_bestGift 39 = .ok (.iload_n 3, 1) := by decide +kernel
theorem dX8_bestGift_40 : decode cX8_bestGift 40 = .ok (.iastore, 1) := by decide +kernel
theorem dX8_bestGift_41 : decode cX8_bestGift 41 = .ok (.aload_n 0, 1) := by decide +kernel
theorem dX8_bestGift_42 : decode cX8_bestGift 42 = .ok (.aload_n 1, 1) := by decide +kernel
theorem dX8_bestGift_43 : decode cX8_bestGift 43 = .ok (.iload_n 2, 1) := by decide +kernel
theorem dX8_bestGift_44 : decode cX8_bestGift 44 = .ok (.iload_n 3, 1) := by decide +kernel
theorem dX8_bestGift_45 : decode cX8_bestGift 45 = .ok (.invokevirtual 388, 3) := by decide +kernel
theorem dX8_bestGift_48 : decode cX8_bestGift 48 = .ok (.istore 8, 2) := by decide +kernel
theorem dX8_bestGift_50 : decode cX8_bestGift 50 = .ok (.aload_n 1, 1) := by decide +kernel
theorem dX8_bestGift_51 : decode cX8_bestGift 51 = .ok (.getfield 174, 3) := by decide +kernel
theorem dX8_bestGift_54 : decode cX8_bestGift 54 = .ok (.iload 6, 2) := by decide +kernel
theorem dX8_bestGift_56 : decode cX8_bestGift 56 = .ok (.iload 7, 2) := by decide +kernel
theorem dX8_bestGift_58 : decode cX8_bestGift 58 = .ok (.iastore, 1) := by decide +kernel
theorem dX8_bestGift_59 : decode cX8_bestGift 59 = .ok (.iload 8, 2) := by decide +kernel
theorem dX8_bestGift_61 : decode cX8_bestGift 61 = .ok (.iload 5, 2) := by decide +kernel
theorem dX8_bestGift_63 : decode cX8_bestGift 63 = .ok (.if_icmp .ge 11, 3) := by decide +kernel
theorem dX8_bestGift_66 : decode cX8_bestGift 66 = .ok (.iload 8, 2) := by decide +kernel
theorem dX8_bestGift_68 : decode cX8_bestGift 68 = .ok (.istore 5, 2) := by decide +kernel
theorem dX8_bestGift_70 : decode cX8_bestGift 70 = .ok (.iload 6, 2) := by decide +kernel
theorem dX8_bestGift_72 : decode cX8_bestGift 72 = .ok (.istore 4, 2) := by decide +kernel
theorem dX8_bestGift_74 : decode cX8_bestGift 74 = .ok (.iinc 6 1, 3) := by decide +kernel
theorem dX8_bestGift_77 : decode cX8_bestGift 77 = .ok (.goto (-62), 3) := by decide +kernel
theorem dX8_bestGift_80 : decode cX8_bestGift 80 = .ok (.iload 4, 2) := by decide +kernel
theorem dX8_bestGift_82 : decode cX8_bestGift 82 = .ok (.ireturn, 1) := by decide +kernel
noncomputable def k_X8_bestGift_74 (F : Nat) (h15 : AK) : AK := ak_iinc 6 1 h15
set_option maxRecDepth 20000 in
theorem sk_X8_bestGift_74 (F : Nat) {h15 : AK} (hh15 : Snd X0 RX8 cX8_bestGift 9 19 15 h15) : Snd X0 RX8 cX8_bestGift 9 19 74 (k_X8_bestGift_74 F h15) := by
  unfold k_X8_bestGift_74
  exact snd_iinc (pc := 74) (i := 6) (n := 1) (by decide) dX8_bestGift_74 (snd_goto (pc := 77) (off := (-62)) (tgt := 15) (by decide) dX8_bestGift_77 (hh15))
noncomputable def kb_X8_bestGift_15 (F : Nat) (self : AK) : AK := ak_iload 6 (ak_aload 1 (ak_getf 7 1 (ak_cmplt (ak_aload 1 (ak_getf 7 6 (ak_iload 6 (ak_iald (ak_istore 7 (ak_aload 1 (ak_getf 7 6 (ak_iload 6 (ak_iload 3 (ak_iast (ak_aload 0 (ak_aload 1 (ak_iload 2 (ak_iload 3 (ak_callv 8 3 (m_X8_netOf F) (ak_istore 8 (ak_aload 1 (ak_getf 7 6 (ak_iload 6 (ak_iload 7 (ak_iast (ak_iload 8 (ak_iload 5 (ak_cmplt (ak_iload 8 (ak_istore 5 (ak_iload 6 (ak_istore 4 ((k_X8_bestGift_74 F self)))))) ((k_X8_bestGift_74 F self)))))))))))))))))))))))))) (ak_iload 4 ak_ireturn))))
noncomputable def k_X8_bestGift_15 (F : Nat) (n : Nat) : AK := Nat.rec (motive := fun _ => AK) ak_none (fun _ self => kb_X8_bestGift_15 F self) n
set_option maxRecDepth 20000 in
theorem sk_X8_bestGift_15 (F : Nat) : ∀ n, Snd X0 RX8 cX8_bestGift 9 19 15 (k_X8_bestGift_15 F n) := by
  intro n
  induction n with
  | zero => exact snd_none
  | succ n ih =>
    show Snd X0 RX8 cX8_bestGift 9 19 15 (kb_X8_bestGift_15 F (k_X8_bestGift_15 F n))
    unfold kb_X8_bestGift_15
    exact snd_iload (pc := 15) (i := 6) dX8_bestGift_15 (snd_aload_n (pc := 17) (i := 1) dX8_bestGift_17 (snd_getf (pc := 18) cls7 (f := 1) (by decide) wd_166 dX8_bestGift_18 (snd_icmpge (pc := 21) (off := 59) (tgt := 80) (by decide) dX8_bestGift_21 (snd_iload (pc := 80) (i := 4) dX8_bestGift_80 (snd_ireturn dX8_bestGift_82)) (snd_aload_n (pc := 24) (i := 1) dX8_bestGift_24 (snd_getf (pc := 25) cls7 (f := 6) (by decide) wd_189 dX8_bestGift_25 (snd_iload (pc := 28) (i := 6) dX8_bestGift_28 (snd_iald (pc := 30) dX8_bestGift_30 (snd_istore (pc := 31) (i := 7) (by decide) dX8_bestGift_31 (snd_aload_n (pc := 33) (i := 1) dX8_bestGift_33 (snd_getf (pc := 34) cls7 (f := 6) (by decide) wd_189 dX8_bestGift_34 (snd_iload (pc := 37) (i := 6) dX8_bestGift_37 (snd_iload_n (pc := 39) (i := 3) dX8_bestGift_39 (snd_iast (pc := 40) dX8_bestGift_40 (snd_aload_n (pc := 41) (i := 0) dX8_bestGift_41 (snd_aload_n (pc := 42) (i := 1) dX8_bestGift_42 (snd_iload_n (pc := 43) (i := 2) dX8_bestGift_43 (snd_iload_n (pc := 44) (i := 3) dX8_bestGift_44 (snd_callV (pc := 45) (n := 3) cls8 (s_X8_netOf F) (by decide) (by decide) wd_1230 wd_1227 wd_1229 wd_47 wd_120 hy_X8_netOf dX8_bestGift_45 (snd_istore (pc := 48) (i := 8) (by decide) dX8_bestGift_48 (snd_aload_n (pc := 50) (i := 1) dX8_bestGift_50 (snd_getf (pc := 51) cls7 (f := 6) (by decide) wd_189 dX8_bestGift_51 (snd_iload (pc := 54) (i := 6) dX8_bestGift_54 (snd_iload (pc := 56) (i := 7) dX8_bestGift_56 (snd_iast (pc := 58) dX8_bestGift_58 (snd_iload (pc := 59) (i := 8) dX8_bestGift_59 (snd_iload (pc := 61) (i := 5) dX8_bestGift_61 (snd_icmpge (pc := 63) (off := 11) (tgt := 74) (by decide) dX8_bestGift_63 ((sk_X8_bestGift_74 F ih)) (snd_iload (pc := 66) (i := 8) dX8_bestGift_66 (snd_istore (pc := 68) (i := 5) (by decide) dX8_bestGift_68 (snd_iload (pc := 70) (i := 6) dX8_bestGift_70 (snd_istore (pc := 72) (i := 4) (by decide) dX8_bestGift_72 ((sk_X8_bestGift_74 F ih)))))))))))))))))))))))))))))))))
noncomputable def k_X8_bestGift (F : Nat) : AK := ak_push (vI (-1)) (ak_istore 4 (ak_aload 0 (ak_aload 1 (ak_iload 2 (ak_iload 3 (ak_callv 8 3 (m_X8_netOf F) (ak_istore 5 (ak_push (vI 0) (ak_istore 6 ((k_X8_bestGift_15 F F)))))))))))
noncomputable def m_X8_bestGift (F : Nat) : AF := mkF 1 9 (k_X8_bestGift F)
set_option maxRecDepth 20000 in
theorem s_X8_bestGift (F : Nat) : MA yX8_bestGift cX8_bestGift 9 (some .int) 19 (m_X8_bestGift F) := met_of (Or.inr (Or.inl ⟨rfl, rfl⟩)) (by decide) (by
  unfold k_X8_bestGift
  exact snd_iconst (pc := 0) dX8_bestGift_0 (snd_istore (pc := 1) (i := 4) (by decide) dX8_bestGift_1 (snd_aload_n (pc := 3) (i := 0) dX8_bestGift_3 (snd_aload_n (pc := 4) (i := 1) dX8_bestGift_4 (snd_iload_n (pc := 5) (i := 2) dX8_bestGift_5 (snd_iload_n (pc := 6) (i := 3) dX8_bestGift_6 (snd_callV (pc := 7) (n := 3) cls8 (s_X8_netOf F) (by decide) (by decide) wd_1230 wd_1227 wd_1229 wd_47 wd_120 hy_X8_netOf dX8_bestGift_7 (snd_istore (pc := 10) (i := 5) (by decide) dX8_bestGift_10 (snd_iconst (pc := 12) dX8_bestGift_12 (snd_istore (pc := 13) (i := 6) (by decide) dX8_bestGift_13 ((sk_X8_bestGift_15 F F))))))))))))

/-! LastWalker.bestHouse(LLastWalker$Town;II)I -/
theorem dX8_bestHouse_0 : decode cX8_bestHouse 0 = .ok (.iconst (-1), 1) := by decide +kernel
theorem dX8_bestHouse_1 : decode cX8_bestHouse 1 = .ok (.istore 4, 2) := by decide +kernel
theorem dX8_bestHouse_3 : decode cX8_bestHouse 3 = .ok (.iconst 0, 1) := by decide +kernel
theorem dX8_bestHouse_4 : decode cX8_bestHouse 4 = .ok (.istore 5, 2) := by decide +kernel
theorem dX8_bestHouse_6 : decode cX8_bestHouse 6 = .ok (.iconst 0, 1) := by decide +kernel
theorem dX8_bestHouse_7 : decode cX8_bestHouse 7 = .ok (.istore 6, 2) := by decide +kernel
theorem dX8_bestHouse_9 : decode cX8_bestHouse 9 = .ok (.iload 6, 2) := by decide +kernel
theorem dX8_bestHouse_11 : decode cX8_bestHouse 11 = .ok (.aload_n 1, 1) := by decide +kernel
theorem dX8_bestHouse_12 : decode cX8_bestHouse 12 = .ok (.getfield 136, 3) := by decide +kernel
theorem dX8_bestHouse_15 : decode cX8_bestHouse 15 = .ok (.if_icmp .ge 47, 3) := by decide +kernel
theorem dX8_bestHouse_18 : decode cX8_bestHouse 18 = .ok (.aload_n 1, 1) := by decide +kernel
theorem dX8_bestHouse_19 : decode cX8_bestHouse 19 = .ok (.getfield 180, 3) := by decide +kernel
theorem dX8_bestHouse_22 : decode cX8_bestHouse 22 = .ok (.iload_n 3, 1) := by decide +kernel
theorem dX8_bestHouse_23 : decode cX8_bestHouse 23 = .ok (.iload 6, 2) := by decide +kernel
theorem dX8_bestHouse_25 : decode cX8_bestHouse 25 = .ok (.iastore, 1) := by decide +kernel
theorem dX8_bestHouse_26 : decode cX8_bestHouse 26 = .ok (.aload_n 0, 1) := by decide +kernel
theorem dX8_bestHouse_27 : decode cX8_bestHouse 27 = .ok (.aload_n 1, 1) := by decide +kernel
theorem dX8_bestHouse_28 : decode cX8_bestHouse 28 = .ok (.iload_n 2, 1) := by decide +kernel
theorem dX8_bestHouse_29 : decode cX8_bestHouse 29 = .ok (.iload_n 3, 1) := by decide +kernel
theorem dX8_bestHouse_30 : decode cX8_bestHouse 30 = .ok (.invokevirtual 388, 3) := by decide +kernel
theorem dX8_bestHouse_33 : decode cX8_bestHouse 33 = .ok (.istore 7, 2) := by decide +kernel
theorem dX8_bestHouse_35 : decode cX8_bestHouse 35 = .ok (.iload 4, 2) := by decide +kernel
theorem dX8_bestHouse_37 : decode cX8_bestHouse 37 = .ok (.iconst (-1), 1) := by decide +kernel
theorem dX8_bestHouse_38 : decode cX8_bestHouse 38 = .ok (.if_icmp .eq 10, 3) := by decide +kernel
theorem dX8_bestHouse_41 : decode cX8_bestHouse 41 = .ok (.iload 7, 2) := by decide +kernel
theorem dX8_bestHouse_43 : decode cX8_bestHouse 43 = .ok (.iload 5, 2) := by decide +kernel
theorem dX8_bestHouse_45 : decode cX8_bestHouse 45 = .ok (.if_icmp .ge 11, 3) := by decide +kernel
theorem dX8_bestHouse_48 : decode cX8_bestHouse 48 = .ok (.iload 7, 2) := by decide +kernel
theorem dX8_bestHouse_50 : decode cX8_bestHouse 50 = .ok (.istore 5, 2) := by decide +kernel
theorem dX8_bestHouse_52 : decode cX8_bestHouse 52 = .ok (.iload 6, 2) := by decide +kernel
theorem dX8_bestHouse_54 : decode cX8_bestHouse 54 = .ok (.istore 4, 2) := by decide +kernel
theorem dX8_bestHouse_56 : decode cX8_bestHouse 56 = .ok (.iinc 6 1, 3) := by decide +kernel
theorem dX8_bestHouse_59 : decode cX8_bestHouse 59 = .ok (.goto (-50), 3) := by decide +kernel
theorem dX8_bestHouse_62 : decode cX8_bestHouse 62 = .ok (.iload 4, 2) := by decide +kernel
theorem dX8_bestHouse_64 : decode cX8_bestHouse 64 = .ok (.ireturn, 1) := by decide +kernel
noncomputable def k_X8_bestHouse_56 (F : Nat) (h9 : AK) : AK := ak_iinc 6 1 h9
set_option maxRecDepth 20000 in
theorem sk_X8_bestHouse_56 (F : Nat) {h9 : AK} (hh9 : Snd X0 RX8 cX8_bestHouse 8 19 9 h9) : Snd X0 RX8 cX8_bestHouse 8 19 56 (k_X8_bestHouse_56 F h9) := by
  unfold k_X8_bestHouse_56
  exact snd_iinc (pc := 56) (i := 6) (n := 1) (by decide) dX8_bestHouse_56 (snd_goto (pc := 59) (off := (-50)) (tgt := 9) (by decide) dX8_bestHouse_59 (hh9))
noncomputable def k_X8_bestHouse_48 (F : Nat) (h9 : AK) : AK := ak_iload 7 (ak_istore 5 (ak_iload 6 (ak_istore 4 ((k_X8_bestHouse_56 F h9)))))
set_option maxRecDepth 20000 in
theorem sk_X8_bestHouse_48 (F : Nat) {h9 : AK} (hh9 : Snd X0 RX8 cX8_bestHouse 8 19 9 h9) : Snd X0 RX8 cX8_bestHouse 8 19 48 (k_X8_bestHouse_48 F h9) := by
  unfold k_X8_bestHouse_48
  exact snd_iload (pc := 48) (i := 7) dX8_bestHouse_48 (snd_istore (pc := 50) (i := 5) (by decide) dX8_bestHouse_50 (snd_iload (pc := 52) (i := 6) dX8_bestHouse_52 (snd_istore (pc := 54) (i := 4) (by decide) dX8_bestHouse_54 ((sk_X8_bestHouse_56 F hh9)))))
noncomputable def kb_X8_bestHouse_9 (F : Nat) (self : AK) : AK := ak_iload 6 (ak_aload 1 (ak_getf 7 0 (ak_cmplt (ak_aload 1 (ak_getf 7 9 (ak_iload 3 (ak_iload 6 (ak_iast (ak_aload 0 (ak_aload 1 (ak_iload 2 (ak_iload 3 (ak_callv 8 3 (m_X8_netOf F) (ak_istore 7 (ak_iload 4 (ak_push (vI (-1)) (ak_cmpeq ((k_X8_bestHouse_48 F self)) (ak_iload 7 (ak_iload 5 (ak_cmplt ((k_X8_bestHouse_48 F self)) ((k_X8_bestHouse_56 F self))))))))))))))))))) (ak_iload 4 ak_ireturn))))
noncomputable def k_X8_bestHouse_9 (F : Nat) (n : Nat) : AK := Nat.rec (motive := fun _ => AK) ak_none (fun _ self => kb_X8_bestHouse_9 F self) n
set_option maxRecDepth 20000 in
theorem sk_X8_bestHouse_9 (F : Nat) : ∀ n, Snd X0 RX8 cX8_bestHouse 8 19 9 (k_X8_bestHouse_9 F n) := by
  intro n
  induction n with
  | zero => exact snd_none
  | succ n ih =>
    show Snd X0 RX8 cX8_bestHouse 8 19 9 (kb_X8_bestHouse_9 F (k_X8_bestHouse_9 F n))
    unfold kb_X8_bestHouse_9
    exact snd_iload (pc := 9) (i := 6) dX8_bestHouse_9 (snd_aload_n (pc := 11) (i := 1) dX8_bestHouse_11 (snd_getf (pc := 12) cls7 (f := 0) (by decide) wd_161 dX8_bestHouse_12 (snd_icmpge (pc := 15) (off := 47) (tgt := 62) (by decide) dX8_bestHouse_15 (snd_iload (pc := 62) (i := 4) dX8_bestHouse_62 (snd_ireturn dX8_bestHouse_64)) (snd_aload_n (pc := 18) (i := 1) dX8_bestHouse_18 (snd_getf (pc := 19) cls7 (f := 9) (by decide) wd_202 dX8_bestHouse_19 (snd_iload_n (pc := 22) (i := 3) dX8_bestHouse_22 (snd_iload (pc := 23) (i := 6) dX8_bestHouse_23 (snd_iast (pc := 25) dX8_bestHouse_25 (snd_aload_n (pc := 26) (i := 0) dX8_bestHouse_26 (snd_aload_n (pc := 27) (i := 1) dX8_bestHouse_27 (snd_iload_n (pc := 28) (i := 2) dX8_bestHouse_28 (snd_iload_n (pc := 29) (i := 3) dX8_bestHouse_29 (snd_callV (pc := 30) (n := 3) cls8 (s_X8_netOf F) (by decide) (by decide) wd_1230 wd_1227 wd_1229 wd_47 wd_120 hy_X8_netOf dX8_bestHouse_30 (snd_istore (pc := 33) (i := 7) (by decide) dX8_bestHouse_33 (snd_iload (pc := 35) (i := 4) dX8_bestHouse_35 (snd_iconst (pc := 37) dX8_bestHouse_37 (snd_icmpeq (pc := 38) (off := 10) (tgt := 48) (by decide) dX8_bestHouse_38 ((sk_X8_bestHouse_48 F ih)) (snd_iload (pc := 41) (i := 7) dX8_bestHouse_41 (snd_iload (pc := 43) (i := 5) dX8_bestHouse_43 (snd_icmpge (pc := 45) (off := 11) (tgt := 56) (by decide) dX8_bestHouse_45 ((sk_X8_bestHouse_56 F ih)) ((sk_X8_bestHouse_48 F ih))))))))))))))))))))))
noncomputable def k_X8_bestHouse (F : Nat) : AK := ak_push (vI (-1)) (ak_istore 4 (ak_push (vI 0) (ak_istore 5 (ak_push (vI 0) (ak_istore 6 ((k_X8_bestHouse_9 F F)))))))
noncomputable def m_X8_bestHouse (F : Nat) : AF := mkF 1 8 (k_X8_bestHouse F)
set_option maxRecDepth 20000 in
theorem s_X8_bestHouse (F : Nat) : MA yX8_bestHouse cX8_bestHouse 8 (some .int) 19 (m_X8_bestHouse F) := met_of (Or.inr (Or.inl ⟨rfl, rfl⟩)) (by decide) (by
  unfold k_X8_bestHouse
  exact snd_iconst (pc := 0) dX8_bestHouse_0 (snd_istore (pc := 1) (i := 4) (by decide) dX8_bestHouse_1 (snd_iconst (pc := 3) dX8_bestHouse_3 (snd_istore (pc := 4) (i := 5) (by decide) dX8_bestHouse_4 (snd_iconst (pc := 6) dX8_bestHouse_6 (snd_istore (pc := 7) (i := 6) (by decide) dX8_bestHouse_7 ((sk_X8_bestHouse_9 F F))))))))

/-! LastWalker.house(IIIZ)I -/
theorem dX8_house_0 : decode cX8_house 0 = .ok (.aload_n 0, 1) := by decide +kernel
theorem dX8_house_1 : decode cX8_house 1 = .ok (.iload_n 1, 1) := by decide +kernel
theorem dX8_house_2 : decode cX8_house 2 = .ok (.iload_n 2, 1) := by decide +kernel
theorem dX8_house_3 : decode cX8_house 3 = .ok (.invokevirtual 321, 3) := by decide +kernel
theorem dX8_house_6 : decode cX8_house 6 = .ok (.astore 5, 2) := by decide +kernel
theorem dX8_house_8 : decode cX8_house 8 = .ok (.aload 5, 2) := by decide +kernel
theorem dX8_house_10 : decode cX8_house 10 = .ok (.ifnull 12, 3) := by decide +kernel
theorem dX8_house_13 : decode cX8_house 13 = .ok (.aload 5, 2) := by decide +kernel
theorem dX8_house_15 : decode cX8_house 15 = .ok (.iload_n 3, 1) := by decide +kernel
theorem dX8_house_16 : decode cX8_house 16 = .ok (.invokevirtual 177, 3) := by decide +kernel
theorem dX8_house_19 : decode cX8_house 19 = .ok (.ifCond .ne 5, 3) := by decide +kernel
theorem dX8_house_22 : decode cX8_house 22 = .ok (.iconst (-1), 1) := by decide +kernel
theorem dX8_house_23 : decode cX8_house 23 = .ok (.ireturn, 1) := by decide +kernel
theorem dX8_house_24 : decode cX8_house 24 = .ok (.iload 4, 2) := by decide +kernel
theorem dX8_house_26 : decode cX8_house 26 = .ok (.ifCond .eq 14, 3) := by decide +kernel
theorem dX8_house_29 : decode cX8_house 29 = .ok (.aload_n 0, 1) := by decide +kernel
theorem dX8_house_30 : decode cX8_house 30 = .ok (.aload 5, 2) := by decide +kernel
theorem dX8_house_32 : decode cX8_house 32 = .ok (.iload_n 2, 1) := by decide +kernel
theorem dX8_house_33 : decode cX8_house 33 = .ok (.iload_n 3, 1) := by decide +kernel
theorem dX8_house_34 : decode cX8_house 34 = .ok (.invokevirtual 391, 3) := by decide +kernel
theorem dX8_house_37 : decode cX8_house 37 = .ok (.goto 11, 3) := by decide +kernel
theorem dX8_house_40 : decode cX8_house 40 = .ok (.aload_n 0, 1) := by decide +kernel
theorem dX8_house_41 : decode cX8_house 41 = .ok (.aload 5, 2) := by decide +kernel
theorem dX8_house_43 : decode cX8_house 43 = .ok (.iload_n 2, 1) := by decide +kernel
theorem dX8_house_44 : decode cX8_house 44 = .ok (.iload_n 3, 1) := by decide +kernel
theorem dX8_house_45 : decode cX8_house 45 = .ok (.invokevirtual 394, 3) := by decide +kernel
theorem dX8_house_48 : decode cX8_house 48 = .ok (.ireturn, 1) := by decide +kernel
noncomputable def k_X8_house (F : Nat) : AK := ak_aload 0 (ak_iload 1 (ak_iload 2 (ak_callv 8 2 (m_X8_planFor F) (ak_astore 5 (ak_aload 5 (ak_ifnull (ak_push (vI (-1)) ak_ireturn) (ak_aload 5 (ak_iload 3 (ak_callv 7 1 (m_X7_hasPerson F) (ak_ifeq (ak_push (vI (-1)) ak_ireturn) (ak_iload 4 (ak_ifeq (ak_aload 0 (ak_aload 5 (ak_iload 2 (ak_iload 3 (ak_callv 8 3 (m_X8_bestHouse F) ak_ireturn))))) (ak_aload 0 (ak_aload 5 (ak_iload 2 (ak_iload 3 (ak_callv 8 3 (m_X8_bestGift F) ak_ireturn)))))))))))))))))
noncomputable def m_X8_house (F : Nat) : AF := mkF 1 6 (k_X8_house F)
set_option maxRecDepth 20000 in
theorem s_X8_house (F : Nat) : MA yX8_house cX8_house 6 (some .int) 20 (m_X8_house F) := met_of (Or.inr (Or.inl ⟨rfl, rfl⟩)) (by decide) (by
  unfold k_X8_house
  exact snd_aload_n (pc := 0) (i := 0) dX8_house_0 (snd_iload_n (pc := 1) (i := 1) dX8_house_1 (snd_iload_n (pc := 2) (i := 2) dX8_house_2 (snd_callV (pc := 3) (n := 2) cls8 (s_X8_planFor F) (by decide) (by decide) wd_1102 wd_1099 wd_1101 wd_35 wd_120 hy_X8_planFor dX8_house_3 (snd_astore (pc := 6) (i := 5) (by decide) dX8_house_6 (snd_aload (pc := 8) (i := 5) dX8_house_8 (snd_ifnull (pc := 10) (off := 12) (tgt := 22) (by decide) dX8_house_10 (snd_iconst (pc := 22) dX8_house_22 (snd_ireturn dX8_house_23)) (snd_aload (pc := 13) (i := 5) dX8_house_13 (snd_iload_n (pc := 15) (i := 3) dX8_house_15 (snd_callV (pc := 16) (n := 1) cls7 (s_X7_hasPerson F) (by decide) (by decide) wd_854 wd_851 wd_852 wd_853 wd_122 hy_X7_hasPerson dX8_house_16 (snd_ifne (pc := 19) (off := 5) (tgt := 24) (by decide) dX8_house_19 (snd_iload (pc := 24) (i := 4) dX8_house_24 (snd_ifeq (pc := 26) (off := 14) (tgt := 40) (by decide) dX8_house_26 (snd_aload_n (pc := 40) (i := 0) dX8_house_40 (snd_aload (pc := 41) (i := 5) dX8_house_41 (snd_iload_n (pc := 43) (i := 2) dX8_house_43 (snd_iload_n (pc := 44) (i := 3) dX8_house_44 (snd_callV (pc := 45) (n := 3) cls8 (s_X8_bestHouse F) (by decide) (by decide) wd_1242 wd_1239 wd_1241 wd_49 wd_120 hy_X8_bestHouse dX8_house_45 (snd_ireturn dX8_house_48)))))) (snd_aload_n (pc := 29) (i := 0) dX8_house_29 (snd_aload (pc := 30) (i := 5) dX8_house_30 (snd_iload_n (pc := 32) (i := 2) dX8_house_32 (snd_iload_n (pc := 33) (i := 3) dX8_house_33 (snd_callV (pc := 34) (n := 3) cls8 (s_X8_bestGift F) (by decide) (by decide) wd_1238 wd_1235 wd_1237 wd_48 wd_120 hy_X8_bestGift dX8_house_34 (snd_goto (pc := 37) (off := 11) (tgt := 48) (by decide) dX8_house_37 (snd_ireturn dX8_house_48))))))))) (snd_iconst (pc := 22) dX8_house_22 (snd_ireturn dX8_house_23)))))))))))))

/-! LastWalker.moved(IIII)I -/
theorem dX8_moved_0 : decode cX8_moved 0 = .ok (.aload_n 0, 1) := by decide +kernel
theorem dX8_moved_1 : decode cX8_moved 1 = .ok (.iload_n 1, 1) := by decide +kernel
theorem dX8_moved_2 : decode cX8_moved 2 = .ok (.iload_n 2, 1) := by decide +kernel
theorem dX8_moved_3 : decode cX8_moved 3 = .ok (.invokevirtual 321, 3) := by decide +kernel
theorem dX8_moved_6 : decode cX8_moved 6 = .ok (.astore 5, 2) := by decide +kernel
theorem dX8_moved_8 : decode cX8_moved 8 = .ok (.aload 5, 2) := by decide +kernel
theorem dX8_moved_10 : decode cX8_moved 10 = .ok (.ifnull 20, 3) := by decide +kernel
theorem dX8_moved_13 : decode cX8_moved 13 = .ok (.aload 5, 2) := by decide +kernel
theorem dX8_moved_15 : decode cX8_moved 15 = .ok (.iload_n 3, 1) := by decide +kernel
theorem dX8_moved_16 : decode cX8_moved 16 = .ok (.invokevirtual 189, 3) := by decide +kernel
theorem dX8_moved_19 : decode cX8_moved 19 = .ok (.ifCond .eq 11, 3) := by decide +kernel
theorem dX8_moved_22 : decode cX8_moved 22 = .ok (.iload_n 2, 1) := by decide +kernel
theorem dX8_moved_23 : decode cX8_moved 23 = .ok (.iload_n 3, 1) := by decide +kernel
theorem dX8_moved_24 : decode cX8_moved 24 = .ok (.ishr, 1) := by decide +kernel
theorem dX8_moved_25 : decode cX8_moved 25 = .ok (.iconst 1, 1) := by decide +kernel
theorem dX8_moved_26 : decode cX8_moved 26 = .ok (.iand, 1) := by decide +kernel
theorem dX8_moved_27 : decode cX8_moved 27 = .ok (.ifCond .ne 7, 3) := by decide +kernel
theorem dX8_moved_30 : decode cX8_moved 30 = .ok (.ldc_w 325, 3) := by decide +kernel
theorem dX8_moved_33 : decode cX8_moved 33 = .ok (.ireturn, 1) := by decide +kernel
theorem dX8_moved_34 : decode cX8_moved 34 = .ok (.iload 4, 2) := by decide +kernel
theorem dX8_moved_36 : decode cX8_moved 36 = .ok (.ifCond .lt 11, 3) := by decide +kernel
theorem dX8_moved_39 : decode cX8_moved 39 = .ok (.iload 4, 2) := by decide +kernel
theorem dX8_moved_41 : decode cX8_moved 41 = .ok (.sipush 359, 3) := by decide +kernel
theorem dX8_moved_44 : decode cX8_moved 44 = .ok (.if_icmp .le 7, 3) := by decide +kernel
theorem dX8_moved_47 : decode cX8_moved 47 = .ok (.ldc_w 325, 3) := by decide +kernel
theorem dX8_moved_50 : decode cX8_moved 50 = .ok (.ireturn, 1) := by decide +kernel
theorem dX8_moved_51 : decode cX8_moved 51 = .ok (.aload 5, 2) := by decide +kernel
theorem dX8_moved_53 : decode cX8_moved 53 = .ok (.getfield 198, 3) := by decide +kernel
theorem dX8_moved_56 : decode cX8_moved 56 = .ok (.iload_n 3, 1) := by decide +kernel
theorem dX8_moved_57 : decode cX8_moved 57 = .ok (.iload 4, 2) := by decide +kernel
theorem dX8_moved_59 : decode cX8_moved 59 = .ok (.iastore, 1) := by decide +kernel
theorem dX8_moved_60 : decode cX8_moved 60 = .ok (.aload_n 0, 1) := by decide +kernel
theorem dX8_moved_61 : decode cX8_moved 61 = .ok (.aload 5, 2) := by decide +kernel
theorem dX8_moved_63 : decode cX8_moved 63 = .ok (.iload_n 2, 1) := by decide +kernel
theorem dX8_moved_64 : decode cX8_moved 64 = .ok (.aload 5, 2) := by decide +kernel
theorem dX8_moved_66 : decode cX8_moved 66 = .ok (.getfield 192, 3) := by decide +kernel
theorem dX8_moved_69 : decode cX8_moved 69 = .ok (.iload_n 3, 1) := by decide +kernel
theorem dX8_moved_70 : decode cX8_moved 70 = .ok (.iaload, 1) := by decide +kernel
theorem dX8_moved_71 : decode cX8_moved 71 = .ok (.invokevirtual 388, 3) := by decide +kernel
theorem dX8_moved_74 : decode cX8_moved 74 = .ok (.ireturn, 1) := by decide +kernel
noncomputable def k_X8_moved (F : Nat) : AK := ak_aload 0 (ak_iload 1 (ak_iload 2 (ak_callv 8 2 (m_X8_planFor F) (ak_astore 5 (ak_aload 5 (ak_ifnull (ak_push (vI (-100000)) ak_ireturn) (ak_aload 5 (ak_iload 3 (ak_callv 7 1 (m_X7_hasErrand F) (ak_ifeq (ak_push (vI (-100000)) ak_ireturn) (ak_iload 2 (ak_iload 3 (ak_ishr (ak_push (vI 1) (ak_iand (ak_ifeq (ak_push (vI (-100000)) ak_ireturn) (ak_iload 4 (ak_iflt (ak_push (vI (-100000)) ak_ireturn) (ak_iload 4 (ak_push (vI 359) (ak_cmpgt (ak_push (vI (-100000)) ak_ireturn) (ak_aload 5 (ak_getf 7 15 (ak_iload 3 (ak_iload 4 (ak_iast (ak_aload 0 (ak_aload 5 (ak_iload 2 (ak_aload 5 (ak_getf 7 13 (ak_iload 3 (ak_iald (ak_callv 8 3 (m_X8_netOf F) ak_ireturn))))))))))))))))))))))))))))))))))
noncomputable def m_X8_moved (F : Nat) : AF := mkF 1 6 (k_X8_moved F)
set_option maxRecDepth 20000 in
theorem s_X8_moved (F : Nat) : MA yX8_moved cX8_moved 6 (some .int) 19 (m_X8_moved F) := met_of (Or.inr (Or.inl ⟨rfl, rfl⟩)) (by decide) (by
  unfold k_X8_moved
  exact snd_aload_n (pc := 0) (i := 0) dX8_moved_0 (snd_iload_n (pc := 1) (i := 1) dX8_moved_1 (snd_iload_n (pc := 2) (i := 2) dX8_moved_2 (snd_callV (pc := 3) (n := 2) cls8 (s_X8_planFor F) (by decide) (by decide) wd_1102 wd_1099 wd_1101 wd_35 wd_120 hy_X8_planFor dX8_moved_3 (snd_astore (pc := 6) (i := 5) (by decide) dX8_moved_6 (snd_aload (pc := 8) (i := 5) dX8_moved_8 (snd_ifnull (pc := 10) (off := 20) (tgt := 30) (by decide) dX8_moved_10 (snd_ldcw (pc := 30) (z := (-100000)) (by decide) wd_1103 dX8_moved_30 (snd_ireturn dX8_moved_33)) (snd_aload (pc := 13) (i := 5) dX8_moved_13 (snd_iload_n (pc := 15) (i := 3) dX8_moved_15 (snd_callV (pc := 16) (n := 1) cls7 (s_X7_hasErrand F) (by decide) (by decide) wd_862 wd_859 wd_860 wd_861 wd_122 hy_X7_hasErrand dX8_moved_16 (snd_ifeq (pc := 19) (off := 11) (tgt := 30) (by decide) dX8_moved_19 (snd_ldcw (pc := 30) (z := (-100000)) (by decide) wd_1103 dX8_moved_30 (snd_ireturn dX8_moved_33)) (snd_iload_n (pc := 22) (i := 2) dX8_moved_22 (snd_iload_n (pc := 23) (i := 3) dX8_moved_23 (snd_ishr (pc := 24) dX8_moved_24 (snd_iconst (pc := 25) dX8_moved_25 (snd_iand (pc := 26) dX8_moved_26 (snd_ifne (pc := 27) (off := 7) (tgt := 34) (by decide) dX8_moved_27 (snd_iload (pc := 34) (i := 4) dX8_moved_34 (snd_iflt (pc := 36) (off := 11) (tgt := 47) (by decide) dX8_moved_36 (snd_ldcw (pc := 47) (z := (-100000)) (by decide) wd_1103 dX8_moved_47 (snd_ireturn dX8_moved_50)) (snd_iload (pc := 39) (i := 4) dX8_moved_39 (snd_sipush (pc := 41) (by decide) dX8_moved_41 (snd_icmple (pc := 44) (off := 7) (tgt := 51) (by decide) dX8_moved_44 (snd_aload (pc := 51) (i := 5) dX8_moved_51 (snd_getf (pc := 53) cls7 (f := 15) (by decide) wd_227 dX8_moved_53 (snd_iload_n (pc := 56) (i := 3) dX8_moved_56 (snd_iload (pc := 57) (i := 4) dX8_moved_57 (snd_iast (pc := 59) dX8_moved_59 (snd_aload_n (pc := 60) (i := 0) dX8_moved_60 (snd_aload (pc := 61) (i := 5) dX8_moved_61 (snd_iload_n (pc := 63) (i := 2) dX8_moved_63 (snd_aload (pc := 64) (i := 5) dX8_moved_64 (snd_getf (pc := 66) cls7 (f := 13) (by decide) wd_219 dX8_moved_66 (snd_iload_n (pc := 69) (i := 3) dX8_moved_69 (snd_iald (pc := 70) dX8_moved_70 (snd_callV (pc := 71) (n := 3) cls8 (s_X8_netOf F) (by decide) (by decide) wd_1230 wd_1227 wd_1229 wd_47 wd_120 hy_X8_netOf dX8_moved_71 (snd_ireturn dX8_moved_74)))))))))))))) (snd_ldcw (pc := 47) (z := (-100000)) (by decide) wd_1103 dX8_moved_47 (snd_ireturn dX8_moved_50))))))) (snd_ldcw (pc := 30) (z := (-100000)) (by decide) wd_1103 dX8_moved_30 (snd_ireturn dX8_moved_33)))))))))))))))))))

/-! LastWalker.walkedByOthers(LLastWalker$Town;II)I -/
theorem dX8_walkedByOthers_0 : decode cX8_walkedByOthers 0 = .ok (.aload_n 0, 1) := by decide +kernel
theorem dX8_walkedByOthers_1 : decode cX8_walkedByOthers 1 = .ok (.getfield 46, 3) := by decide +kernel
theorem dX8_walkedByOthers_4 : decode cX8_walkedByOthers 4 = .ok (.aload_n 1, 1) := by decide +kernel
theorem dX8_walkedByOthers_5 : decode cX8_walkedByOthers 5 = .ok (.iload_n 2, 1) := by decide +kernel
theorem dX8_walkedByOthers_6 : decode cX8_walkedByOthers 6 = .ok (.invokevirtual 326, 3) := by decide +kernel
theorem dX8_walkedByOthers_9 : decode cX8_walkedByOthers 9 = .ok (.aload_n 0, 1) := by decide +kernel
theorem dX8_walkedByOthers_10 : decode cX8_walkedByOthers 10 = .ok (.getfield 46, 3) := by decide +kernel
theorem dX8_walkedByOthers_13 : decode cX8_walkedByOthers 13 = .ok (.aload_n 1, 1) := by decide +kernel
theorem dX8_walkedByOthers_14 : decode cX8_walkedByOthers 14 = .ok (.iconst 0, 1) := by decide +kernel
theorem dX8_walkedByOthers_15 : decode cX8_walkedByOthers 15 = .ok (.invokevirtual 330, 3) := by decide +kernel
theorem dX8_walkedByOthers_18 : decode cX8_walkedByOthers 18 = .ok (.aload_n 0, 1) := by decide +kernel
theorem dX8_walkedByOthers_19 : decode cX8_walkedByOthers 19 = .ok (.getfield 46, 3) := by decide +kernel
theorem dX8_walkedByOthers_22 : decode cX8_walkedByOthers 22 = .ok (.aload_n 1, 1) := by decide +kernel
theorem dX8_walkedByOthers_23 : decode cX8_walkedByOthers 23 = .ok (.iload_n 3, 1) := by decide +kernel
theorem dX8_walkedByOthers_24 : decode cX8_walkedByOthers 24 = .ok (.iconst 0, 1) := by decide +kernel
theorem dX8_walkedByOthers_25 : decode cX8_walkedByOthers 25 = .ok (.invokevirtual 334, 3) := by decide +kernel
theorem dX8_walkedByOthers_28 : decode cX8_walkedByOthers 28 = .ok (.isub, 1) := by decide +kernel
theorem dX8_walkedByOthers_29 : decode cX8_walkedByOthers 29 = .ok (.ireturn, 1) := by decide +kernel
noncomputable def k_X8_walkedByOthers (F : Nat) : AK := ak_aload 0 (ak_getf 8 5 (ak_aload 1 (ak_iload 2 (ak_callv 4 2 (m_X4_goAll F) (ak_aload 0 (ak_getf 8 5 (ak_aload 1 (ak_push (vI 0) (ak_callv 4 2 (m_X4_sumOf F) (ak_aload 0 (ak_getf 8 5 (ak_aload 1 (ak_iload 3 (ak_push (vI 0) (ak_callv 4 3 (m_X4_figure F) (ak_isub ak_ireturn))))))))))))))))
noncomputable def m_X8_walkedByOthers (F : Nat) : AF := mkF 1 4 (k_X8_walkedByOthers F)
set_option maxRecDepth 20000 in
theorem s_X8_walkedByOthers (F : Nat) : MA yX8_walkedByOthers cX8_walkedByOthers 4 (some .int) 18 (m_X8_walkedByOthers F) := met_of (Or.inr (Or.inl ⟨rfl, rfl⟩)) (by decide) (by
  unfold k_X8_walkedByOthers
  exact snd_aload_n (pc := 0) (i := 0) dX8_walkedByOthers_0 (snd_getf (pc := 1) cls8 (f := 5) (by decide) wd_593 dX8_walkedByOthers_1 (snd_aload_n (pc := 4) (i := 1) dX8_walkedByOthers_4 (snd_iload_n (pc := 5) (i := 2) dX8_walkedByOthers_5 (snd_callV (pc := 6) (n := 2) cls4 (s_X4_goAll F) (by decide) (by decide) wd_1107 wd_1104 wd_1105 wd_1106 wd_128 hy_X4_goAll dX8_walkedByOthers_6 (snd_aload_n (pc := 9) (i := 0) dX8_walkedByOthers_9 (snd_getf (pc := 10) cls8 (f := 5) (by decide) wd_593 dX8_walkedByOthers_10 (snd_aload_n (pc := 13) (i := 1) dX8_walkedByOthers_13 (snd_iconst (pc := 14) dX8_walkedByOthers_14 (snd_callV (pc := 15) (n := 2) cls4 (s_X4_sumOf F) (by decide) (by decide) wd_1139 wd_1136 wd_1137 wd_1138 wd_128 hy_X4_sumOf dX8_walkedByOthers_15 (snd_aload_n (pc := 18) (i := 0) dX8_walkedByOthers_18 (snd_getf (pc := 19) cls8 (f := 5) (by decide) wd_593 dX8_walkedByOthers_19 (snd_aload_n (pc := 22) (i := 1) dX8_walkedByOthers_22 (snd_iload_n (pc := 23) (i := 3) dX8_walkedByOthers_23 (snd_iconst (pc := 24) dX8_walkedByOthers_24 (snd_callV (pc := 25) (n := 3) cls4 (s_X4_figure F) (by decide) (by decide) wd_1144 wd_1145 wd_1142 wd_1143 wd_128 hy_X4_figure dX8_walkedByOthers_25 (snd_isub (pc := 28) dX8_walkedByOthers_28 (snd_ireturn dX8_walkedByOthers_29))))))))))))))))))

/-! LastWalker.without(III)I -/
theorem dX8_without_0 : decode cX8_without 0 = .ok (.aload_n 0, 1) := by decide +kernel
theorem dX8_without_1 : decode cX8_without 1 = .ok (.iload_n 1, 1) := by decide +kernel
theorem dX8_without_2 : decode cX8_without 2 = .ok (.iload_n 2, 1) := by decide +kernel
theorem dX8_without_3 : decode cX8_without 3 = .ok (.invokevirtual 321, 3) := by decide +kernel
theorem dX8_without_6 : decode cX8_without 6 = .ok (.astore 4, 2) := by decide +kernel
theorem dX8_without_8 : decode cX8_without 8 = .ok (.aload 4, 2) := by decide +kernel
theorem dX8_without_10 : decode cX8_without 10 = .ok (.ifnull 12, 3) := by decide +kernel
theorem dX8_without_13 : decode cX8_without 13 = .ok (.aload 4, 2) := by decide +kernel
theorem dX8_without_15 : decode cX8_without 15 = .ok (.iload_n 3, 1) := by decide +kernel
theorem dX8_without_16 : decode cX8_without 16 = .ok (.invokevirtual 177, 3) := by decide +kernel
theorem dX8_without_19 : decode cX8_without 19 = .ok (.ifCond .ne 7, 3) := by decide +kernel
theorem dX8_without_22 : decode cX8_without 22 = .ok (.ldc_w 325, 3) := by decide +kernel
theorem dX8_without_25 : decode cX8_without 25 = .ok (.ireturn, 1) := by decide +kernel
theorem dX8_without_26 : decode cX8_without 26 = .ok (.aload_n 0, 1) := by decide +kernel
theorem dX8_without_27 : decode cX8_without 27 = .ok (.aload 4, 2) := by decide +kernel
theorem dX8_without_29 : decode cX8_without 29 = .ok (.iload_n 2, 1) := by decide +kernel
theorem dX8_without_30 : decode cX8_without 30 = .ok (.aload 4, 2) := by decide +kernel
theorem dX8_without_32 : decode cX8_without 32 = .ok (.iload_n 3, 1) := by decide +kernel
theorem dX8_without_33 : decode cX8_without 33 = .ok (.invokevirtual 359, 3) := by decide +kernel
theorem dX8_without_36 : decode cX8_without 36 = .ok (.iconst (-1), 1) := by decide +kernel
theorem dX8_without_37 : decode cX8_without 37 = .ok (.ixor, 1) := by decide +kernel
theorem dX8_without_38 : decode cX8_without 38 = .ok (.iand, 1) := by decide +kernel
theorem dX8_without_39 : decode cX8_without 39 = .ok (.iload_n 3, 1) := by decide +kernel
theorem dX8_without_40 : decode cX8_without 40 = .ok (.invokevirtual 397, 3) := by decide +kernel
theorem dX8_without_43 : decode cX8_without 43 = .ok (.aload_n 0, 1) := by decide +kernel
theorem dX8_without_44 : decode cX8_without 44 = .ok (.aload 4, 2) := by decide +kernel
theorem dX8_without_46 : decode cX8_without 46 = .ok (.iload_n 2, 1) := by decide +kernel
theorem dX8_without_47 : decode cX8_without 47 = .ok (.iload_n 3, 1) := by decide +kernel
theorem dX8_without_48 : decode cX8_without 48 = .ok (.invokevirtual 397, 3) := by decide +kernel
theorem dX8_without_51 : decode cX8_without 51 = .ok (.isub, 1) := by decide +kernel
theorem dX8_without_52 : decode cX8_without 52 = .ok (.ireturn, 1) := by decide +kernel
noncomputable def k_X8_without (F : Nat) : AK := ak_aload 0 (ak_iload 1 (ak_iload 2 (ak_callv 8 2 (m_X8_planFor F) (ak_astore 4 (ak_aload 4 (ak_ifnull (ak_push (vI (-100000)) ak_ireturn) (ak_aload 4 (ak_iload 3 (ak_callv 7 1 (m_X7_hasPerson F) (ak_ifeq (ak_push (vI (-100000)) ak_ireturn) (ak_aload 0 (ak_aload 4 (ak_iload 2 (ak_aload 4 (ak_iload 3 (ak_callv 7 1 (m_X7_errandsOf F) (ak_push (vI (-1)) (ak_ixor (ak_iand (ak_iload 3 (ak_callv 8 3 (m_X8_walkedByOthers F) (ak_aload 0 (ak_aload 4 (ak_iload 2 (ak_iload 3 (ak_callv 8 3 (m_X8_walkedByOthers F) (ak_isub ak_ireturn)))))))))))))))))))))))))))
noncomputable def m_X8_without (F : Nat) : AF := mkF 1 5 (k_X8_without F)
set_option maxRecDepth 20000 in
theorem s_X8_without (F : Nat) : MA yX8_without cX8_without 5 (some .int) 19 (m_X8_without F) := met_of (Or.inr (Or.inl ⟨rfl, rfl⟩)) (by decide) (by
  unfold k_X8_without
  exact snd_aload_n (pc := 0) (i := 0) dX8_without_0 (snd_iload_n (pc := 1) (i := 1) dX8_without_1 (snd_iload_n (pc := 2) (i := 2) dX8_without_2 (snd_callV (pc := 3) (n := 2) cls8 (s_X8_planFor F) (by decide) (by decide) wd_1102 wd_1099 wd_1101 wd_35 wd_120 hy_X8_planFor dX8_without_3 (snd_astore (pc := 6) (i := 4) (by decide) dX8_without_6 (snd_aload (pc := 8) (i := 4) dX8_without_8 (snd_ifnull (pc := 10) (off := 12) (tgt := 22) (by decide) dX8_without_10 (snd_ldcw (pc := 22) (z := (-100000)) (by decide) wd_1103 dX8_without_22 (snd_ireturn dX8_without_25)) (snd_aload (pc := 13) (i := 4) dX8_without_13 (snd_iload_n (pc := 15) (i := 3) dX8_without_15 (snd_callV (pc := 16) (n := 1) cls7 (s_X7_hasPerson F) (by decide) (by decide) wd_854 wd_851 wd_852 wd_853 wd_122 hy_X7_hasPerson dX8_without_16 (snd_ifne (pc := 19) (off := 7) (tgt := 26) (by decide) dX8_without_19 (snd_aload_n (pc := 26) (i := 0) dX8_without_26 (snd_aload (pc := 27) (i := 4) dX8_without_27 (snd_iload_n (pc := 29) (i := 2) dX8_without_29 (snd_aload (pc := 30) (i := 4) dX8_without_30 (snd_iload_n (pc := 32) (i := 3) dX8_without_32 (snd_callV (pc := 33) (n := 1) cls7 (s_X7_errandsOf F) (by decide) (by decide) wd_1190 wd_1187 wd_1188 wd_1189 wd_122 hy_X7_errandsOf dX8_without_33 (snd_iconst (pc := 36) dX8_without_36 (snd_ixor (pc := 37) dX8_without_37 (snd_iand (pc := 38) dX8_without_38 (snd_iload_n (pc := 39) (i := 3) dX8_without_39 (snd_callV (pc := 40) (n := 3) cls8 (s_X8_walkedByOthers F) (by decide) (by decide) wd_1254 wd_1251 wd_1253 wd_50 wd_120 hy_X8_walkedByOthers dX8_without_40 (snd_aload_n (pc := 43) (i := 0) dX8_without_43 (snd_aload (pc := 44) (i := 4) dX8_without_44 (snd_iload_n (pc := 46) (i := 2) dX8_without_46 (snd_iload_n (pc := 47) (i := 3) dX8_without_47 (snd_callV (pc := 48) (n := 3) cls8 (s_X8_walkedByOthers F) (by decide) (by decide) wd_1254 wd_1251 wd_1253 wd_50 wd_120 hy_X8_walkedByOthers dX8_without_48 (snd_isub (pc := 51) dX8_without_51 (snd_ireturn dX8_without_52)))))))))))))))))) (snd_ldcw (pc := 22) (z := (-100000)) (by decide) wd_1103 dX8_without_22 (snd_ireturn dX8_without_25)))))))))))))

/-! LastWalker.days(IIII)I -/
theorem dX8_days_0 : decode cX8_days 0 = .ok (.aload_n 0, 1) := by decide +kernel
theorem dX8_days_1 : decode cX8_days 1 = .ok (.iload_n 1, 1) := by decide +kernel
theorem dX8_days_2 : decode cX8_days 2 = .ok (.iconst 0, 1) := by decide +kernel
theorem dX8_days_3 : decode cX8_days 3 = .ok (.invokevirtual 321, 3) := by decide +kernel
theorem dX8_days_6 : decode cX8_days 6 = .ok (.astore 5, 2) := by decide +kernel
theorem dX8_days_8 : decode cX8_days 8 = .ok (.aload 5, 2) := by decide +kernel
theorem dX8_days_10 : decode cX8_days 10 = .ok (.ifnull 14, 3) := by decide +kernel
theorem dX8_days_13 : decode cX8_days 13 = .ok (.iload_n 3, 1) := by decide +kernel
theorem dX8_days_14 : decode cX8_days 14 = .ok (.iconst 1, 1) := by decide +kernel
theorem dX8_days_15 : decode cX8_days 15 = .ok (.if_icmp .lt 9, 3) := by decide +kernel
theorem dX8_days_18 : decode cX8_days 18 = .ok (.iload_n 3, 1) := by decide +kernel
theorem dX8_days_19 : decode cX8_days 19 = .ok (.bipush 30, 2) := by decide +kernel
theorem dX8_days_21 : decode cX8_days 21 = .ok (.if_icmp .le 7, 3) := by decide +kernel
theorem dX8_days_24 : decode cX8_days 24 = .ok (.ldc_w 325, 3) := by decide +kernel
theorem dX8_days_27 : decode cX8_days 27 = .ok (.ireturn, 1) := by decide +kernel
theorem dX8_days_28 : decode cX8_days 28 = .ok (.aload_n 0, 1) := by decide +kernel
theorem dX8_days_29 : decode cX8_days 29 = .ok (.getfield 46, 3) := by decide +kernel
theorem dX8_days_32 : decode cX8_days 32 = .ok (.aload 5, 2) := by decide +kernel
theorem dX8_days_34 : decode cX8_days 34 = .ok (.iload_n 2, 1) := by decide +kernel
theorem dX8_days_35 : decode cX8_days 35 = .ok (.iload_n 3, 1) := by decide +kernel
theorem dX8_days_36 : decode cX8_days 36 = .ok (.invokevirtual 400, 3) := by decide +kernel
theorem dX8_days_39 : decode cX8_days 39 = .ok (.iload 4, 2) := by decide +kernel
theorem dX8_days_41 : decode cX8_days 41 = .ok (.ifCond .eq 15, 3) := by decide +kernel
theorem dX8_days_44 : decode cX8_days 44 = .ok (.iload 4, 2) := by decide +kernel
theorem dX8_days_46 : decode cX8_days 46 = .ok (.iconst 1, 1) := by decide +kernel
theorem dX8_days_47 : decode cX8_days 47 = .ok (.if_icmp .eq 9, 3) := by decide +kernel
theorem dX8_days_50 : decode cX8_days 50 = .ok (.iload 4, 2) := by decide +kernel
theorem dX8_days_52 : decode cX8_days 52 = .ok (.iconst 3, 1) := by decide +kernel
theorem dX8_days_53 : decode cX8_days 53 = .ok (.if_icmp .ne 15, 3) := by decide +kernel
theorem dX8_days_56 : decode cX8_days 56 = .ok (.aload_n 0, 1) := by decide +kernel
theorem dX8_days_57 : decode cX8_days 57 = .ok (.getfield 46, 3) := by decide +kernel
theorem dX8_days_60 : decode cX8_days 60 = .ok (.aload 5, 2) := by decide +kernel
theorem dX8_days_62 : decode cX8_days 62 = .ok (.iload 4, 2) := by decide +kernel
theorem dX8_days_64 : decode cX8_days 64 = .ok (.invokevirtual 330, 3) := by decide +kernel
theorem dX8_days_67 : decode cX8_days 67 = .ok (.ireturn, 1) := by decide +kernel
theorem dX8_days_68 : decode cX8_days 68 = .ok (.iload 4, 2) := by decide +kernel
theorem dX8_days_70 : decode cX8_days 70 = .ok (.bipush 10, 2) := by decide +kernel
theorem dX8_days_72 : decode cX8_days 72 = .ok (.if_icmp .lt 30, 3) := by decide +kernel
theorem dX8_days_75 : decode cX8_days 75 = .ok (.iload 4, 2) := by decide +kernel
theorem dX8_days_77 : decode cX8_days 77 = .ok (.bipush 10, 2) := by decide +kernel
theorem dX8_days_79 : decode cX8_days 79 = .ok (.aload 5, 2) := by decide +kernel
theorem dX8_days_81 : decode cX8_days 81 = .ok (.getfield 139, 3) := by decide +kernel
theorem dX8_days_84 : decode cX8_days 84 = .ok (.iadd, 1) := by decide +kernel
theorem dX8_days_85 : decode cX8_days 85 = .ok (.if_icmp .ge 17, 3) := by decide +kernel
theorem dX8_days_88 : decode cX8_days 88 = .ok (.aload_n 0, 1) := by decide +kernel
theorem dX8_days_89 : decode cX8_days 89 = .ok (.getfield 46, 3) := by decide +kernel
theorem dX8_days_92 : decode cX8_days 92 = .ok (.getfield 341, 3) := by decide +kernel
theorem dX8_days_95 : decode cX8_days 95 = .ok (.iload 4, 2) := by decide +kernel
theorem dX8_days_97 : decode cX8_days 97 = .ok (.bipush 10, 2) := by decide +kernel
theorem dX8_days_99 : decode cX8_days 99 = .ok (.isub, 1) := by decide +kernel
theorem dX8_days_100 : decode cX8_days 100 = .ok (.iaload, 1) := by decide +kernel
theorem dX8_days_101 : decode cX8_days 101 = .ok (.ireturn, 1) := by decide +kernel
theorem dX8_days_102 : decode cX8_days 102 = .ok (.iload 4, 2) := by decide +kernel
theorem dX8_days_104 : decode cX8_days 104 = .ok (.bipush 30, 2) := by decide +kernel
theorem dX8_days_106 : decode cX8_days 106 = .ok (.if_icmp .lt 48, 3) := by decide +kernel
theorem dX8_days_109 : decode cX8_days 109 = .ok (.iload 4, 2) := by decide +kernel
theorem dX8_days_111 : decode cX8_days 111 = .ok (.bipush 30, 2) := by decide +kernel
theorem dX8_days_113 : decode cX8_days 113 = .ok (.aload 5, 2) := by decide +kernel
theorem dX8_days_115 : decode cX8_days 115 = .ok (.getfield 142, 3) := by decide +kernel
theorem dX8_days_118 : decode cX8_days 118 = .ok (.iadd, 1) := by decide +kernel
theorem dX8_days_119 : decode cX8_days 119 = .ok (.if_icmp .ge 35, 3) := by decide +kernel
theorem dX8_days_122 : decode cX8_days 122 = .ok (.aload_n 0, 1) := by decide +kernel
theorem dX8_days_123 : decode cX8_days 123 = .ok (.getfield 46, 3) := by decide +kernel
theorem dX8_days_126 : decode cX8_days 126 = .ok (.aload 5, 2) := by decide +kernel
theorem dX8_days_128 : decode cX8_days 128 = .ok (.iload 4, 2) := by decide +kernel
theorem dX8_days_130 : decode cX8_days 130 = .ok (.bipush 30, 2) := by decide +kernel
theorem dX8_days_132 : decode cX8_days 132 = .ok (.isub, 1) := by decide +kernel
theorem dX8_days_133 : decode cX8_days 133 = .ok (.iconst 2, 1) := by decide +kernel
theorem dX8_days_134 : decode cX8_days 134 = .ok (.invokevirtual 334, 3) := by decide +kernel
theorem dX8_days_137 : decode cX8_days 137 = .ok (.aload_n 0, 1) := by decide +kernel
theorem dX8_days_138 : decode cX8_days 138 = .ok (.getfield 46, 3) := by decide +kernel
theorem dX8_days_141 : decode cX8_days 141 = .ok (.aload 5, 2) := by decide +kernel
theorem dX8_days_143 : decode cX8_days 143 = .ok (.iload 4, 2) := by decide +kernel
theorem dX8_days_145 : decode cX8_days 145 = .ok (.bipush 30, 2) := by decide +kernel
theorem dX8_days_147 : decode cX8_days 147 = .ok (.isub, 1) := by decide +kernel
theorem dX8_days_148 : decode cX8_days 148 = .ok (.iconst 1, 1) := by decide +kernel
theorem dX8_days_149 : decode cX8_days 149 = .ok (.invokevirtual 334, 3) := by decide +kernel
theorem dX8_days_152 : decode cX8_days 152 = .ok (.isub, 1) := by decide +kernel
theorem dX8_days_153 : decode cX8_days 153 = .ok (.ireturn, 1) := by decide +kernel
theorem dX8_days_154 : decode cX8_days 154 = .ok (.ldc_w 325, 3) := by decide +kernel
theorem dX8_days_157 : decode cX8_days 157 = .ok (.ireturn, 1) := by decide +kernel
noncomputable def k_X8_days_56 (F : Nat) : AK := ak_aload 0 (ak_getf 8 5 (ak_aload 5 (ak_iload 4 (ak_callv 4 2 (m_X4_sumOf F) ak_ireturn))))
set_option maxRecDepth 20000 in
theorem sk_X8_days_56 (F : Nat) : Snd X0 RX8 cX8_days 6 18 56 (k_X8_days_56 F) := by
  unfold k_X8_days_56
  exact snd_aload_n (pc := 56) (i := 0) dX8_days_56 (snd_getf (pc := 57) cls8 (f := 5) (by decide) wd_593 dX8_days_57 (snd_aload (pc := 60) (i := 5) dX8_days_60 (snd_iload (pc := 62) (i := 4) dX8_days_62 (snd_callV (pc := 64) (n := 2) cls4 (s_X4_sumOf F) (by decide) (by decide) wd_1139 wd_1136 wd_1137 wd_1138 wd_128 hy_X4_sumOf dX8_days_64 (snd_ireturn dX8_days_67)))))
noncomputable def k_X8_days_102 (F : Nat) : AK := ak_iload 4 (ak_push (vI 30) (ak_cmplt (ak_push (vI (-100000)) ak_ireturn) (ak_iload 4 (ak_push (vI 30) (ak_aload 5 (ak_getf 7 8 (ak_iadd (ak_cmplt (ak_aload 0 (ak_getf 8 5 (ak_aload 5 (ak_iload 4 (ak_push (vI 30) (ak_isub (ak_push (vI 2) (ak_callv 4 3 (m_X4_figure F) (ak_aload 0 (ak_getf 8 5 (ak_aload 5 (ak_iload 4 (ak_push (vI 30) (ak_isub (ak_push (vI 1) (ak_callv 4 3 (m_X4_figure F) (ak_isub ak_ireturn))))))))))))))))) (ak_push (vI (-100000)) ak_ireturn)))))))))
set_option maxRecDepth 20000 in
theorem sk_X8_days_102 (F : Nat) : Snd X0 RX8 cX8_days 6 18 102 (k_X8_days_102 F) := by
  unfold k_X8_days_102
  exact snd_iload (pc := 102) (i := 4) dX8_days_102 (snd_bipush (pc := 104) (by decide) dX8_days_104 (snd_icmplt (pc := 106) (off := 48) (tgt := 154) (by decide) dX8_days_106 (snd_ldcw (pc := 154) (z := (-100000)) (by decide) wd_1103 dX8_days_154 (snd_ireturn dX8_days_157)) (snd_iload (pc := 109) (i := 4) dX8_days_109 (snd_bipush (pc := 111) (by decide) dX8_days_111 (snd_aload (pc := 113) (i := 5) dX8_days_113 (snd_getf (pc := 115) cls7 (f := 8) (by decide) wd_197 dX8_days_115 (snd_iadd (pc := 118) dX8_days_118 (snd_icmpge (pc := 119) (off := 35) (tgt := 154) (by decide) dX8_days_119 (snd_ldcw (pc := 154) (z := (-100000)) (by decide) wd_1103 dX8_days_154 (snd_ireturn dX8_days_157)) (snd_aload_n (pc := 122) (i := 0) dX8_days_122 (snd_getf (pc := 123) cls8 (f := 5) (by decide) wd_593 dX8_days_123 (snd_aload (pc := 126) (i := 5) dX8_days_126 (snd_iload (pc := 128) (i := 4) dX8_days_128 (snd_bipush (pc := 130) (by decide) dX8_days_130 (snd_isub (pc := 132) dX8_days_132 (snd_iconst (pc := 133) dX8_days_133 (snd_callV (pc := 134) (n := 3) cls4 (s_X4_figure F) (by decide) (by decide) wd_1144 wd_1145 wd_1142 wd_1143 wd_128 hy_X4_figure dX8_days_134 (snd_aload_n (pc := 137) (i := 0) dX8_days_137 (snd_getf (pc := 138) cls8 (f := 5) (by decide) wd_593 dX8_days_138 (snd_aload (pc := 141) (i := 5) dX8_days_141 (snd_iload (pc := 143) (i := 4) dX8_days_143 (snd_bipush (pc := 145) (by decide) dX8_days_145 (snd_isub (pc := 147) dX8_days_147 (snd_iconst (pc := 148) dX8_days_148 (snd_callV (pc := 149) (n := 3) cls4 (s_X4_figure F) (by decide) (by decide) wd_1144 wd_1145 wd_1142 wd_1143 wd_128 hy_X4_figure dX8_days_149 (snd_isub (pc := 152) dX8_days_152 (snd_ireturn dX8_days_153))))))))))))))))))))))))))
noncomputable def k_X8_days (F : Nat) : AK := ak_aload 0 (ak_iload 1 (ak_push (vI 0) (ak_callv 8 2 (m_X8_planFor F) (ak_astore 5 (ak_aload 5 (ak_ifnull (ak_push (vI (-100000)) ak_ireturn) (ak_iload 3 (ak_push (vI 1) (ak_cmplt (ak_push (vI (-100000)) ak_ireturn) (ak_iload 3 (ak_push (vI 30) (ak_cmpgt (ak_push (vI (-100000)) ak_ireturn) (ak_aload 0 (ak_getf 8 5 (ak_aload 5 (ak_iload 2 (ak_iload 3 (ak_callv 4 3 (m_X4_goDays F) (ak_iload 4 (ak_ifeq ((k_X8_days_56 F)) (ak_iload 4 (ak_push (vI 1) (ak_cmpeq ((k_X8_days_56 F)) (ak_iload 4 (ak_push (vI 3) (ak_cmpeq ((k_X8_days_56 F)) (ak_iload 4 (ak_push (vI 10) (ak_cmplt ((k_X8_days_102 F)) (ak_iload 4 (ak_push (vI 10) (ak_aload 5 (ak_getf 7 1 (ak_iadd (ak_cmplt (ak_aload 0 (ak_getf 8 5 (ak_getf 4 0 (ak_iload 4 (ak_push (vI 10) (ak_isub (ak_iald ak_ireturn))))))) ((k_X8_days_102 F)))))))))))))))))))))))))))))))))))))
noncomputable def m_X8_days (F : Nat) : AF := mkF 1 6 (k_X8_days F)
set_option maxRecDepth 20000 in
theorem s_X8_days (F : Nat) : MA yX8_days cX8_days 6 (some .int) 18 (m_X8_days F) := met_of (Or.inr (Or.inl ⟨rfl, rfl⟩)) (by decide) (by
  unfold k_X8_days
  exact snd_aload_n (pc := 0) (i := 0) dX8_days_0 (snd_iload_n (pc := 1) (i := 1) dX8_days_1 (snd_iconst (pc := 2) dX8_days_2 (snd_callV (pc := 3) (n := 2) cls8 (s_X8_planFor F) (by decide) (by decide) wd_1102 wd_1099 wd_1101 wd_35 wd_120 hy_X8_planFor dX8_days_3 (snd_astore (pc := 6) (i := 5) (by decide) dX8_days_6 (snd_aload (pc := 8) (i := 5) dX8_days_8 (snd_ifnull (pc := 10) (off := 14) (tgt := 24) (by decide) dX8_days_10 (snd_ldcw (pc := 24) (z := (-100000)) (by decide) wd_1103 dX8_days_24 (snd_ireturn dX8_days_27)) (snd_iload_n (pc := 13) (i := 3) dX8_days_13 (snd_iconst (pc := 14) dX8_days_14 (snd_icmplt (pc := 15) (off := 9) (tgt := 24) (by decide) dX8_days_15 (snd_ldcw (pc := 24) (z := (-100000)) (by decide) wd_1103 dX8_days_24 (snd_ireturn dX8_days_27)) (snd_iload_n (pc := 18) (i := 3) dX8_days_18 (snd_bipush (pc := 19) (by decide) dX8_days_19 (snd_icmple (pc := 21) (off := 7) (tgt := 28) (by decide) dX8_days_21 (snd_aload_n (pc := 28) (i := 0) dX8_days_28 (snd_getf (pc := 29) cls8 (f := 5) (by decide) wd_593 dX8_days_29 (snd_aload (pc := 32) (i := 5) dX8_days_32 (snd_iload_n (pc := 34) (i := 2) dX8_days_34 (snd_iload_n (pc := 35) (i := 3) dX8_days_35 (snd_callV (pc := 36) (n := 3) cls4 (s_X4_goDays F) (by decide) (by decide) wd_1262 wd_1259 wd_1260 wd_1261 wd_128 hy_X4_goDays dX8_days_36 (snd_iload (pc := 39) (i := 4) dX8_days_39 (snd_ifeq (pc := 41) (off := 15) (tgt := 56) (by decide) dX8_days_41 ((sk_X8_days_56 F)) (snd_iload (pc := 44) (i := 4) dX8_days_44 (snd_iconst (pc := 46) dX8_days_46 (snd_icmpeq (pc := 47) (off := 9) (tgt := 56) (by decide) dX8_days_47 ((sk_X8_days_56 F)) (snd_iload (pc := 50) (i := 4) dX8_days_50 (snd_iconst (pc := 52) dX8_days_52 (snd_icmpne (pc := 53) (off := 15) (tgt := 68) (by decide) dX8_days_53 (snd_iload (pc := 68) (i := 4) dX8_days_68 (snd_bipush (pc := 70) (by decide) dX8_days_70 (snd_icmplt (pc := 72) (off := 30) (tgt := 102) (by decide) dX8_days_72 ((sk_X8_days_102 F)) (snd_iload (pc := 75) (i := 4) dX8_days_75 (snd_bipush (pc := 77) (by decide) dX8_days_77 (snd_aload (pc := 79) (i := 5) dX8_days_79 (snd_getf (pc := 81) cls7 (f := 1) (by decide) wd_166 dX8_days_81 (snd_iadd (pc := 84) dX8_days_84 (snd_icmpge (pc := 85) (off := 17) (tgt := 102) (by decide) dX8_days_85 ((sk_X8_days_102 F)) (snd_aload_n (pc := 88) (i := 0) dX8_days_88 (snd_getf (pc := 89) cls8 (f := 5) (by decide) wd_593 dX8_days_89 (snd_getf (pc := 92) cls4 (f := 0) (by decide) wd_542 dX8_days_92 (snd_iload (pc := 95) (i := 4) dX8_days_95 (snd_bipush (pc := 97) (by decide) dX8_days_97 (snd_isub (pc := 99) dX8_days_99 (snd_iald (pc := 100) dX8_days_100 (snd_ireturn dX8_days_101))))))))))))))))) ((sk_X8_days_56 F)))))))))))))))) (snd_ldcw (pc := 24) (z := (-100000)) (by decide) wd_1103 dX8_days_24 (snd_ireturn dX8_days_27)))))))))))))))

/-! LastWalker.errandsThatNeed(LLastWalker$Town;I)I -/
theorem dX8_errandsThatNeed_0 : decode cX8_errandsThatNeed 0 = .ok (.iconst 0, 1) := by decide +kernel
theorem dX8_errandsThatNeed_1 : decode cX8_errandsThatNeed 1 = .ok (.istore_n 2, 1) := by decide +kernel
theorem dX8_errandsThatNeed_2 : decode cX8_errandsThatNeed 2 = .ok (.iconst 0, 1) := by decide +kernel
theorem dX8_errandsThatNeed_3 : decode cX8_errandsThatNeed 3 = .ok (.istore_n 3, 1) := by decide +kernel
theorem dX8_errandsThatNeed_4 : decode cX8_errandsThatNeed 4 = .ok (.iload_n 3, 1) := by decide +kernel
theorem dX8_errandsThatNeed_5 : decode cX8_errandsThatNeed 5 = .ok (.aload_n 0, 1) := by decide +kernel
theorem dX8_errandsThatNeed_6 : decode cX8_errandsThatNeed 6 = .ok (.getfield 145, 3) := by decide +kernel
theorem dX8_errandsThatNeed_9 : decode cX8_errandsThatNeed 9 = .ok (.if_icmp .ge 76, 3) := by decide +kernel
theorem dX8_errandsThatNeed_12 : decode cX8_errandsThatNeed 12 = .ok (.aload_n 0, 1) := by decide +kernel
theorem dX8_errandsThatNeed_13 : decode cX8_errandsThatNeed 13 = .ok (.getfield 180, 3) := by decide +kernel
theorem dX8_errandsThatNeed_16 : decode cX8_errandsThatNeed 16 = .ok (.aload_n 0, 1) := by decide +kernel
theorem dX8_errandsThatNeed_17 : decode cX8_errandsThatNeed 17 = .ok (.getfield 192, 3) := by decide +kernel
theorem dX8_errandsThatNeed_20 : decode cX8_errandsThatNeed 20 = .ok (.iload_n 3, 1) := by decide +kernel
theorem dX8_errandsThatNeed_21 : decode cX8_errandsThatNeed 21 = .ok (.iaload, 1) := by decide +kernel
theorem dX8_errandsThatNeed_22 : decode cX8_errandsThatNeed 22 = .ok (.iaload, 1) := by decide +kernel
theorem dX8_errandsThatNeed_23 : decode cX8_errandsThatNeed 23 = .ok (.istore 4, 2) := by decide +kernel
theorem dX8_errandsThatNeed_25 : decode cX8_errandsThatNeed 25 = .ok (.iconst 1, 1) := by decide +kernel
theorem dX8_errandsThatNeed_26 : decode cX8_errandsThatNeed 26 = .ok (.aload_n 0, 1) := by decide +kernel
theorem dX8_errandsThatNeed_27 : decode cX8_errandsThatNeed 27 = .ok (.getfield 195, 3) := by decide +kernel
theorem dX8_errandsThatNeed_30 : decode cX8_errandsThatNeed 30 = .ok (.iload_n 3, 1) := by decide +kernel
theorem dX8_errandsThatNeed_31 : decode cX8_errandsThatNeed 31 = .ok (.iaload, 1) := by decide +kernel
theorem dX8_errandsThatNeed_32 : decode cX8_errandsThatNeed 32 = .ok (.ishl, 1) := by decide +kernel
theorem dX8_errandsThatNeed_33 : decode cX8_errandsThatNeed 33 = .ok (.istore 5, 2) := by decide +kernel
theorem dX8_errandsThatNeed_35 : decode cX8_errandsThatNeed 35 = .ok (.aload_n 0, 1) := by decide +kernel
theorem dX8_errandsThatNeed_36 : decode cX8_errandsThatNeed 36 = .ok (.iload 4, 2) := by decide +kernel
theorem dX8_errandsThatNeed_38 : decode cX8_errandsThatNeed 38 = .ok (.iconst (-1), 1) := by decide +kernel
theorem dX8_errandsThatNeed_39 : decode cX8_errandsThatNeed 39 = .ok (.invokevirtual 407, 3) := by decide +kernel
theorem dX8_errandsThatNeed_42 : decode cX8_errandsThatNeed 42 = .ok (.iload 5, 2) := by decide +kernel
theorem dX8_errandsThatNeed_44 : decode cX8_errandsThatNeed 44 = .ok (.iand, 1) := by decide +kernel
theorem dX8_errandsThatNeed_45 : decode cX8_errandsThatNeed 45 = .ok (.ifCond .eq 7, 3) := by decide +kernel
theorem dX8_errandsThatNeed_48 : decode cX8_errandsThatNeed 48 = .ok (.iconst 1, 1) := by decide +kernel
theorem dX8_errandsThatNeed_49 : decode cX8_errandsThatNeed 49 = .ok (.goto 4, 3) := by decide +kernel
theorem dX8_errandsThatNeed_52 : decode cX8_errandsThatNeed 52 = .ok (.iconst 0, 1) := by decide +kernel
theorem dX8_errandsThatNeed_53 : decode cX8_errandsThatNeed 53 = .ok (.istore 6, 2) := by decide +kernel
theorem dX8_errandsThatNeed_55 : decode cX8_errandsThatNeed 55 = .ok (.iload 6, 2) := by decide +kernel
theorem dX8_errandsThatNeed_57 : decode cX8_errandsThatNeed 57 = .ok (.ifCond .eq 22, 3) := by decide +kernel
theorem dX8_errandsThatNeed_60 : decode cX8_errandsThatNeed 60 = .ok (.aload_n 0, 1) := by decide +kernel
theorem dX8_errandsThatNeed_61 : decode cX8_errandsThatNeed 61 = .ok (.iload 4, 2) := by decide +kernel
theorem dX8_errandsThatNeed_63 : decode cX8_errandsThatNeed 63 = .ok (.iload_n 1, 1) := by decide +kernel
theorem dX8_errandsThatNeed_64 : decode cX8_errandsThatNeed 64 = .ok (.invokevirtual 407, 3) := by decide +kernel
theorem dX8_errandsThatNeed_67 : decode cX8_errandsThatNeed 67 = .ok (.iload 5, 2) := by decide +kernel
theorem dX8_errandsThatNeed_69 : decode cX8_errandsThatNeed 69 = .ok (.iand, 1) := by decide +kernel
theorem dX8_errandsThatNeed_70 : decode cX8_errandsThatNeed 70 = .ok (.ifCond .ne 9, 3) := by decide +kernel
theorem dX8_errandsThatNeed_73 : decode cX8_errandsThatNeed 73 = .ok (.iload_n 2, 1) := by decide +kernel
theorem dX8_errandsThatNeed_74 : decode cX8_errandsThatNeed 74 = .ok (.iconst 1, 1) := by decide +kernel
theorem dX8_errandsThatNeed_75 : decode cX8_errandsThatNeed 75 = .ok (.iload_n 3, 1) := by decide +kernel
theorem dX8_errandsThatNeed_76 : decode cX8_errandsThatNeed 76 = .ok (.ishl, 1) := by decide +kernel
theorem dX8_errandsThatNeed_77 : decode cX8_errandsThatNeed 77 = .ok (.ior, 1) := by decide +kernel
theorem dX8_errandsThatNeed_78 : decode cX8_errandsThatNeed 78 = .ok (.istore_n 2, 1) := by decide +kernel
theorem dX8_errandsThatNeed_79 : decode cX8_errandsThatNeed 79 = .ok (.iinc 3 1, 3) := by decide +kernel
theorem dX8_errandsThatNeed_82 : decode cX8_errandsThatNeed 82 = .ok (.goto (-78), 3) := by decide +kernel
theorem dX8_errandsThatNeed_85 : decode cX8_errandsThatNeed 85 = .ok (.iload_n 2, 1) := by decide +kernel
theorem dX8_errandsThatNeed_86 : decode cX8_errandsThatNeed 86 = .ok (.ireturn, 1) := by decide +kernel
noncomputable def k_X8_errandsThatNeed_79 (F : Nat) (h4 : AK) : AK := ak_iinc 3 1 h4
set_option maxRecDepth 20000 in
theorem sk_X8_errandsThatNeed_79 (F : Nat) {h4 : AK} (hh4 : Snd X0 RX8 cX8_errandsThatNeed 7 1 4 h4) : Snd X0 RX8 cX8_errandsThatNeed 7 1 79 (k_X8_errandsThatNeed_79 F h4) := by
  unfold k_X8_errandsThatNeed_79
  exact snd_iinc (pc := 79) (i := 3) (n := 1) (by decide) dX8_errandsThatNeed_79 (snd_goto (pc := 82) (off := (-78)) (tgt := 4) (by decide) dX8_errandsThatNeed_82 (hh4))
noncomputable def k_X8_errandsThatNeed_53 (F : Nat) (h4 : AK) : AK := ak_istore 6 (ak_iload 6 (ak_ifeq ((k_X8_errandsThatNeed_79 F h4)) (ak_aload 0 (ak_iload 4 (ak_iload 1 (ak_callv 7 2 (m_X7_reachedFrom F) (ak_iload 5 (ak_iand (ak_ifeq (ak_iload 2 (ak_push (vI 1) (ak_iload 3 (ak_ishl (ak_ior (ak_istore 2 ((k_X8_errandsThatNeed_79 F h4)))))))) ((k_X8_errandsThatNeed_79 F h4)))))))))))
set_option maxRecDepth 20000 in
theorem sk_X8_errandsThatNeed_53 (F : Nat) {h4 : AK} (hh4 : Snd X0 RX8 cX8_errandsThatNeed 7 1 4 h4) : Snd X0 RX8 cX8_errandsThatNeed 7 1 53 (k_X8_errandsThatNeed_53 F h4) := by
  unfold k_X8_errandsThatNeed_53
  exact snd_istore (pc := 53) (i := 6) (by decide) dX8_errandsThatNeed_53 (snd_iload (pc := 55) (i := 6) dX8_errandsThatNeed_55 (snd_ifeq (pc := 57) (off := 22) (tgt := 79) (by decide) dX8_errandsThatNeed_57 ((sk_X8_errandsThatNeed_79 F hh4)) (snd_aload_n (pc := 60) (i := 0) dX8_errandsThatNeed_60 (snd_iload (pc := 61) (i := 4) dX8_errandsThatNeed_61 (snd_iload_n (pc := 63) (i := 1) dX8_errandsThatNeed_63 (snd_callV (pc := 64) (n := 2) cls7 (s_X7_reachedFrom F) (by decide) (by decide) wd_1274 wd_1271 wd_1272 wd_1273 wd_122 hy_X7_reachedFrom dX8_errandsThatNeed_64 (snd_iload (pc := 67) (i := 5) dX8_errandsThatNeed_67 (snd_iand (pc := 69) dX8_errandsThatNeed_69 (snd_ifne (pc := 70) (off := 9) (tgt := 79) (by decide) dX8_errandsThatNeed_70 ((sk_X8_errandsThatNeed_79 F hh4)) (snd_iload_n (pc := 73) (i := 2) dX8_errandsThatNeed_73 (snd_iconst (pc := 74) dX8_errandsThatNeed_74 (snd_iload_n (pc := 75) (i := 3) dX8_errandsThatNeed_75 (snd_ishl (pc := 76) dX8_errandsThatNeed_76 (snd_ior (pc := 77) dX8_errandsThatNeed_77 (snd_istore_n (pc := 78) (i := 2) (by decide) dX8_errandsThatNeed_78 ((sk_X8_errandsThatNeed_79 F hh4)))))))))))))))))
noncomputable def kb_X8_errandsThatNeed_4 (F : Nat) (self : AK) : AK := ak_iload 3 (ak_aload 0 (ak_getf 7 12 (ak_cmplt (ak_aload 0 (ak_getf 7 9 (ak_aload 0 (ak_getf 7 13 (ak_iload 3 (ak_iald (ak_iald (ak_istore 4 (ak_push (vI 1) (ak_aload 0 (ak_getf 7 14 (ak_iload 3 (ak_iald (ak_ishl (ak_istore 5 (ak_aload 0 (ak_iload 4 (ak_push (vI (-1)) (ak_callv 7 2 (m_X7_reachedFrom F) (ak_iload 5 (ak_iand (ak_ifeq (ak_push (vI 0) ((k_X8_errandsThatNeed_53 F self))) (ak_push (vI 1) ((k_X8_errandsThatNeed_53 F self))))))))))))))))))))))))) (ak_iload 2 ak_ireturn))))
noncomputable def k_X8_errandsThatNeed_4 (F : Nat) (n : Nat) : AK := Nat.rec (motive := fun _ => AK) ak_none (fun _ self => kb_X8_errandsThatNeed_4 F self) n
set_option maxRecDepth 20000 in
theorem sk_X8_errandsThatNeed_4 (F : Nat) : ∀ n, Snd X0 RX8 cX8_errandsThatNeed 7 1 4 (k_X8_errandsThatNeed_4 F n) := by
  intro n
  induction n with
  | zero => exact snd_none
  | succ n ih =>
    show Snd X0 RX8 cX8_errandsThatNeed 7 1 4 (kb_X8_errandsThatNeed_4 F (k_X8_errandsThatNeed_4 F n))
    unfold kb_X8_errandsThatNeed_4
    exact snd_iload_n (pc := 4) (i := 3) dX8_errandsThatNeed_4 (snd_aload_n (pc := 5) (i := 0) dX8_errandsThatNeed_5 (snd_getf (pc := 6) cls7 (f := 12) (by decide) wd_215 dX8_errandsThatNeed_6 (snd_icmpge (pc := 9) (off := 76) (tgt := 85) (by decide) dX8_errandsThatNeed_9 (snd_iload_n (pc := 85) (i := 2) dX8_errandsThatNeed_85 (snd_ireturn dX8_errandsThatNeed_86)) (snd_aload_n (pc := 12) (i := 0) dX8_errandsThatNeed_12 (snd_getf (pc := 13) cls7 (f := 9) (by decide) wd_202 dX8_errandsThatNeed_13 (snd_aload_n (pc := 16) (i := 0) dX8_errandsThatNeed_16 (snd_getf (pc := 17) cls7 (f := 13) (by decide) wd_219 dX8_errandsThatNeed_17 (snd_iload_n (pc := 20) (i := 3) dX8_errandsThatNeed_20 (snd_iald (pc := 21) dX8_errandsThatNeed_21 (snd_iald (pc := 22) dX8_errandsThatNeed_22 (snd_istore (pc := 23) (i := 4) (by decide) dX8_errandsThatNeed_23 (snd_iconst (pc := 25) dX8_errandsThatNeed_25 (snd_aload_n (pc := 26) (i := 0) dX8_errandsThatNeed_26 (snd_getf (pc := 27) cls7 (f := 14) (by decide) wd_223 dX8_errandsThatNeed_27 (snd_iload_n (pc := 30) (i := 3) dX8_errandsThatNeed_30 (snd_iald (pc := 31) dX8_errandsThatNeed_31 (snd_ishl (pc := 32) dX8_errandsThatNeed_32 (snd_istore (pc := 33) (i := 5) (by decide) dX8_errandsThatNeed_33 (snd_aload_n (pc := 35) (i := 0) dX8_errandsThatNeed_35 (snd_iload (pc := 36) (i := 4) dX8_errandsThatNeed_36 (snd_iconst (pc := 38) dX8_errandsThatNeed_38 (snd_callV (pc := 39) (n := 2) cls7 (s_X7_reachedFrom F) (by decide) (by decide) wd_1274 wd_1271 wd_1272 wd_1273 wd_122 hy_X7_reachedFrom dX8_errandsThatNeed_39 (snd_iload (pc := 42) (i := 5) dX8_errandsThatNeed_42 (snd_iand (pc := 44) dX8_errandsThatNeed_44 (snd_ifeq (pc := 45) (off := 7) (tgt := 52) (by decide) dX8_errandsThatNeed_45 (snd_iconst (pc := 52) dX8_errandsThatNeed_52 ((sk_X8_errandsThatNeed_53 F ih))) (snd_iconst (pc := 48) dX8_errandsThatNeed_48 (snd_goto (pc := 49) (off := 4) (tgt := 53) (by decide) dX8_errandsThatNeed_49 ((sk_X8_errandsThatNeed_53 F ih)))))))))))))))))))))))))))))
noncomputable def k_X8_errandsThatNeed (F : Nat) : AK := ak_push (vI 0) (ak_istore 2 (ak_push (vI 0) (ak_istore 3 ((k_X8_errandsThatNeed_4 F F)))))
noncomputable def m_X8_errandsThatNeed (F : Nat) : AF := mkF 1 7 (k_X8_errandsThatNeed F)
set_option maxRecDepth 20000 in
theorem s_X8_errandsThatNeed (F : Nat) : MA yX8_errandsThatNeed cX8_errandsThatNeed 7 (some .int) 1 (m_X8_errandsThatNeed F) := met_of (Or.inr (Or.inl ⟨rfl, rfl⟩)) (by decide) (by
  unfold k_X8_errandsThatNeed
  exact snd_iconst (pc := 0) dX8_errandsThatNeed_0 (snd_istore_n (pc := 1) (i := 2) (by decide) dX8_errandsThatNeed_1 (snd_iconst (pc := 2) dX8_errandsThatNeed_2 (snd_istore_n (pc := 3) (i := 3) (by decide) dX8_errandsThatNeed_3 ((sk_X8_errandsThatNeed_4 F F))))))

/-! LastWalker.needs(II)I -/
theorem dX8_needs_0 : decode cX8_needs 0 = .ok (.aload_n 0, 1) := by decide +kernel
theorem dX8_needs_1 : decode cX8_needs 1 = .ok (.getfield 10, 3) := by decide +kernel
theorem dX8_needs_4 : decode cX8_needs 4 = .ok (.iload_n 1, 1) := by decide +kernel
theorem dX8_needs_5 : decode cX8_needs 5 = .ok (.invokevirtual 132, 3) := by decide +kernel
theorem dX8_needs_8 : decode cX8_needs 8 = .ok (.astore_n 3, 1) := by decide +kernel
theorem dX8_needs_9 : decode cX8_needs 9 = .ok (.aload_n 3, 1) := by decide +kernel
theorem dX8_needs_10 : decode cX8_needs 10 = .ok (.ifnull 16, 3) := by decide +kernel
theorem dX8_needs_13 : decode cX8_needs 13 = .ok (.iload_n 2, 1) := by decide +kernel
theorem dX8_needs_14 : decode cX8_needs 14 = .ok (.iconst (-1), 1) := by decide +kernel
theorem dX8_needs_15 : decode cX8_needs 15 = .ok (.if_icmp .eq 13, 3) := by decide +kernel
theorem dX8_needs_18 : decode cX8_needs 18 = .ok (.aload_n 3, 1) := by decide +kernel
theorem dX8_needs_19 : decode cX8_needs 19 = .ok (.iload_n 2, 1) := by decide +kernel
theorem dX8_needs_20 : decode cX8_needs 20 = .ok (.invokevirtual 154, 3) := by decide +kernel
theorem dX8_needs_23 : decode cX8_needs 23 = .ok (.ifCond .ne 5, 3) := by decide +kernel
theorem dX8_needs_26 : decode cX8_needs 26 = .ok (.iconst (-1), 1) := by decide +kernel
theorem dX8_needs_27 : decode cX8_needs 27 = .ok (.ireturn, 1) := by decide +kernel
theorem dX8_needs_28 : decode cX8_needs 28 = .ok (.iload_n 2, 1) := by decide +kernel
theorem dX8_needs_29 : decode cX8_needs 29 = .ok (.iconst (-1), 1) := by decide +kernel
theorem dX8_needs_30 : decode cX8_needs 30 = .ok (.if_icmp .eq 9, 3) := by decide +kernel
theorem dX8_needs_33 : decode cX8_needs 33 = .ok (.aload_n 3, 1) := by decide +kernel
theorem dX8_needs_34 : decode cX8_needs 34 = .ok (.iload_n 2, 1) := by decide +kernel
theorem dX8_needs_35 : decode cX8_needs 35 = .ok (.invokestatic 404, 3) := by decide +kernel
theorem dX8_needs_38 : decode cX8_needs 38 = .ok (.ireturn, 1) := by decide +kernel
theorem dX8_needs_39 : decode cX8_needs 39 = .ok (.iconst 0, 1) := by decide +kernel
theorem dX8_needs_40 : decode cX8_needs 40 = .ok (.istore 4, 2) := by decide +kernel
theorem dX8_needs_42 : decode cX8_needs 42 = .ok (.iconst 0, 1) := by decide +kernel
theorem dX8_needs_43 : decode cX8_needs 43 = .ok (.istore 5, 2) := by decide +kernel
theorem dX8_needs_45 : decode cX8_needs 45 = .ok (.iload 5, 2) := by decide +kernel
theorem dX8_needs_47 : decode cX8_needs 47 = .ok (.aload_n 3, 1) := by decide +kernel
theorem dX8_needs_48 : decode cX8_needs 48 = .ok (.getfield 139, 3) := by decide +kernel
theorem dX8_needs_51 : decode cX8_needs 51 = .ok (.if_icmp .ge 27, 3) := by decide +kernel
theorem dX8_needs_54 : decode cX8_needs 54 = .ok (.aload_n 3, 1) := by decide +kernel
theorem dX8_needs_55 : decode cX8_needs 55 = .ok (.iload 5, 2) := by decide +kernel
theorem dX8_needs_57 : decode cX8_needs 57 = .ok (.invokestatic 404, 3) := by decide +kernel
theorem dX8_needs_60 : decode cX8_needs 60 = .ok (.ifCond .eq 12, 3) := by decide +kernel
theorem dX8_needs_63 : decode cX8_needs 63 = .ok (.iload 4, 2) := by decide +kernel
theorem dX8_needs_65 : decode cX8_needs 65 = .ok (.iconst 1, 1) := by decide +kernel
theorem dX8_needs_66 : decode cX8_needs 66 = .ok (.iload 5, 2) := by decide +kernel
theorem dX8_needs_68 : decode cX8_needs 68 = .ok (.ishl, 1) := by decide +kernel
theorem dX8_needs_69 : decode cX8_needs 69 = .ok (.ior, 1) := by decide +kernel
theorem dX8_needs_70 : decode cX8_needs 70 = .ok (.istore 4, 2) := by decide +kernel
theorem dX8_needs_72 : decode cX8_needs 72 = .ok (.iinc 5 1, 3) := by decide +kernel
theorem dX8_needs_75 : decode cX8_needs 75 = .ok (.goto (-30), 3) := by decide +kernel
theorem dX8_needs_78 : decode cX8_needs 78 = .ok (.iload 4, 2) := by decide +kernel
theorem dX8_needs_80 : decode cX8_needs 80 = .ok (.ireturn, 1) := by decide +kernel
noncomputable def k_X8_needs_72 (F : Nat) (h45 : AK) : AK := ak_iinc 5 1 h45
set_option maxRecDepth 20000 in
theorem sk_X8_needs_72 (F : Nat) {h45 : AK} (hh45 : Snd X0 RX8 cX8_needs 6 2 45 h45) : Snd X0 RX8 cX8_needs 6 2 72 (k_X8_needs_72 F h45) := by
  unfold k_X8_needs_72
  exact snd_iinc (pc := 72) (i := 5) (n := 1) (by decide) dX8_needs_72 (snd_goto (pc := 75) (off := (-30)) (tgt := 45) (by decide) dX8_needs_75 (hh45))
noncomputable def kb_X8_needs_45 (F : Nat) (self : AK) : AK := ak_iload 5 (ak_aload 3 (ak_getf 7 1 (ak_cmplt (ak_aload 3 (ak_iload 5 (ak_call 2 (m_X8_errandsThatNeed F) (ak_ifeq ((k_X8_needs_72 F self)) (ak_iload 4 (ak_push (vI 1) (ak_iload 5 (ak_ishl (ak_ior (ak_istore 4 ((k_X8_needs_72 F self)))))))))))) (ak_iload 4 ak_ireturn))))
noncomputable def k_X8_needs_45 (F : Nat) (n : Nat) : AK := Nat.rec (motive := fun _ => AK) ak_none (fun _ self => kb_X8_needs_45 F self) n
set_option maxRecDepth 20000 in
theorem sk_X8_needs_45 (F : Nat) : ∀ n, Snd X0 RX8 cX8_needs 6 2 45 (k_X8_needs_45 F n) := by
  intro n
  induction n with
  | zero => exact snd_none
  | succ n ih =>
    show Snd X0 RX8 cX8_needs 6 2 45 (kb_X8_needs_45 F (k_X8_needs_45 F n))
    unfold kb_X8_needs_45
    exact snd_iload (pc := 45) (i := 5) dX8_needs_45 (snd_aload_n (pc := 47) (i := 3) dX8_needs_47 (snd_getf (pc := 48) cls7 (f := 1) (by decide) wd_166 dX8_needs_48 (snd_icmpge (pc := 51) (off := 27) (tgt := 78) (by decide) dX8_needs_51 (snd_iload (pc := 78) (i := 4) dX8_needs_78 (snd_ireturn dX8_needs_80)) (snd_aload_n (pc := 54) (i := 3) dX8_needs_54 (snd_iload (pc := 55) (i := 5) dX8_needs_55 (snd_callS (pc := 57) (n := 2) (s_X8_errandsThatNeed F) (by decide) (by decide) wd_1270 wd_1268 wd_1269 wd_120 hy_X8_errandsThatNeed dX8_needs_57 (snd_ifeq (pc := 60) (off := 12) (tgt := 72) (by decide) dX8_needs_60 ((sk_X8_needs_72 F ih)) (snd_iload (pc := 63) (i := 4) dX8_needs_63 (snd_iconst (pc := 65) dX8_needs_65 (snd_iload (pc := 66) (i := 5) dX8_needs_66 (snd_ishl (pc := 68) dX8_needs_68 (snd_ior (pc := 69) dX8_needs_69 (snd_istore (pc := 70) (i := 4) (by decide) dX8_needs_70 ((sk_X8_needs_72 F ih)))))))))))))))
noncomputable def k_X8_needs_28 (F : Nat) : AK := ak_iload 2 (ak_push (vI (-1)) (ak_cmpeq (ak_push (vI 0) (ak_istore 4 (ak_push (vI 0) (ak_istore 5 ((k_X8_needs_45 F F)))))) (ak_aload 3 (ak_iload 2 (ak_call 2 (m_X8_errandsThatNeed F) ak_ireturn)))))
set_option maxRecDepth 20000 in
theorem sk_X8_needs_28 (F : Nat) : Snd X0 RX8 cX8_needs 6 2 28 (k_X8_needs_28 F) := by
  unfold k_X8_needs_28
  exact snd_iload_n (pc := 28) (i := 2) dX8_needs_28 (snd_iconst (pc := 29) dX8_needs_29 (snd_icmpeq (pc := 30) (off := 9) (tgt := 39) (by decide) dX8_needs_30 (snd_iconst (pc := 39) dX8_needs_39 (snd_istore (pc := 40) (i := 4) (by decide) dX8_needs_40 (snd_iconst (pc := 42) dX8_needs_42 (snd_istore (pc := 43) (i := 5) (by decide) dX8_needs_43 ((sk_X8_needs_45 F F)))))) (snd_aload_n (pc := 33) (i := 3) dX8_needs_33 (snd_iload_n (pc := 34) (i := 2) dX8_needs_34 (snd_callS (pc := 35) (n := 2) (s_X8_errandsThatNeed F) (by decide) (by decide) wd_1270 wd_1268 wd_1269 wd_120 hy_X8_errandsThatNeed dX8_needs_35 (snd_ireturn dX8_needs_38))))))
noncomputable def k_X8_needs (F : Nat) : AK := ak_aload 0 (ak_getf 8 0 (ak_iload 1 (ak_callv 0 1 (m_X0_townAt F) (ak_astore 3 (ak_aload 3 (ak_ifnull (ak_push (vI (-1)) ak_ireturn) (ak_iload 2 (ak_push (vI (-1)) (ak_cmpeq ((k_X8_needs_28 F)) (ak_aload 3 (ak_iload 2 (ak_callv 7 1 (m_X7_hasRoad F) (ak_ifeq (ak_push (vI (-1)) ak_ireturn) ((k_X8_needs_28 F)))))))))))))))
noncomputable def m_X8_needs (F : Nat) : AF := mkF 1 6 (k_X8_needs F)
set_option maxRecDepth 20000 in
theorem s_X8_needs (F : Nat) : MA yX8_needs cX8_needs 6 (some .int) 2 (m_X8_needs F) := met_of (Or.inr (Or.inl ⟨rfl, rfl⟩)) (by decide) (by
  unfold k_X8_needs
  exact snd_aload_n (pc := 0) (i := 0) dX8_needs_0 (snd_getf (pc := 1) cls8 (f := 0) (by decide) wd_588 dX8_needs_1 (snd_iload_n (pc := 4) (i := 1) dX8_needs_4 (snd_callV (pc := 5) (n := 1) cls0 (s_X0_townAt F) (by decide) (by decide) wd_838 wd_835 wd_836 wd_837 wd_121 hy_X0_townAt dX8_needs_5 (snd_astore_n (pc := 8) (i := 3) (by decide) dX8_needs_8 (snd_aload_n (pc := 9) (i := 3) dX8_needs_9 (snd_ifnull (pc := 10) (off := 16) (tgt := 26) (by decide) dX8_needs_10 (snd_iconst (pc := 26) dX8_needs_26 (snd_ireturn dX8_needs_27)) (snd_iload_n (pc := 13) (i := 2) dX8_needs_13 (snd_iconst (pc := 14) dX8_needs_14 (snd_icmpeq (pc := 15) (off := 13) (tgt := 28) (by decide) dX8_needs_15 ((sk_X8_needs_28 F)) (snd_aload_n (pc := 18) (i := 3) dX8_needs_18 (snd_iload_n (pc := 19) (i := 2) dX8_needs_19 (snd_callV (pc := 20) (n := 1) cls7 (s_X7_hasRoad F) (by decide) (by decide) wd_846 wd_843 wd_844 wd_845 wd_122 hy_X7_hasRoad dX8_needs_20 (snd_ifne (pc := 23) (off := 5) (tgt := 28) (by decide) dX8_needs_23 ((sk_X8_needs_28 F)) (snd_iconst (pc := 26) dX8_needs_26 (snd_ireturn dX8_needs_27))))))))))))))))

/-! LastWalker.minutesToErrands(LLastWalker$Town;II)I -/
theorem dX8_minutesToErrands_0 : decode cX8_minutesToErrands 0 = .ok (.iconst 0, 1) := by decide +kernel
theorem dX8_minutesToErrands_1 : decode cX8_minutesToErrands 1 = .ok (.istore 4, 2) := by decide +kernel
theorem dX8_minutesToErrands_3 : decode cX8_minutesToErrands 3 = .ok (.iconst 0, 1) := by decide +kernel
theorem dX8_minutesToErrands_4 : decode cX8_minutesToErrands 4 = .ok (.istore 5, 2) := by decide +kernel
theorem dX8_minutesToErrands_6 : decode cX8_minutesToErrands 6 = .ok (.iload 5, 2) := by decide +kernel
theorem dX8_minutesToErrands_8 : decode cX8_minutesToErrands 8 = .ok (.aload_n 1, 1) := by decide +kernel
theorem dX8_minutesToErrands_9 : decode cX8_minutesToErrands 9 = .ok (.getfield 145, 3) := by decide +kernel
theorem dX8_minutesToErrands_12 : decode cX8_minutesToErrands 12 = .ok (.if_icmp .ge 60, 3) := by decide +kernel
theorem dX8_minutesToErrands_15 : decode cX8_minutesToErrands 15 = .ok (.aload_n 1, 1) := by decide +kernel
theorem dX8_minutesToErrands_16 : decode cX8_minutesToErrands 16 = .ok (.getfield 192, 3) := by decide +kernel
theorem dX8_minutesToErrands_19 : decode cX8_minutesToErrands 19 = .ok (.iload 5, 2) := by decide +kernel
theorem dX8_minutesToErrands_21 : decode cX8_minutesToErrands 21 = .ok (.iaload, 1) := by decide +kernel
theorem dX8_minutesToErrands_22 : decode cX8_minutesToErrands 22 = .ok (.iload_n 2, 1) := by decide +kernel
theorem dX8_minutesToErrands_23 : decode cX8_minutesToErrands 23 = .ok (.if_icmp .ne 43, 3) := by decide +kernel
theorem dX8_minutesToErrands_26 : decode cX8_minutesToErrands 26 = .ok (.aload_n 0, 1) := by decide +kernel
theorem dX8_minutesToErrands_27 : decode cX8_minutesToErrands 27 = .ok (.getfield 37, 3) := by decide +kernel
theorem dX8_minutesToErrands_30 : decode cX8_minutesToErrands 30 = .ok (.getfield 268, 3) := by decide +kernel
theorem dX8_minutesToErrands_33 : decode cX8_minutesToErrands 33 = .ok (.getfield 413, 3) := by decide +kernel
theorem dX8_minutesToErrands_36 : decode cX8_minutesToErrands 36 = .ok (.iload_n 3, 1) := by decide +kernel
theorem dX8_minutesToErrands_37 : decode cX8_minutesToErrands 37 = .ok (.bipush 9, 2) := by decide +kernel
theorem dX8_minutesToErrands_39 : decode cX8_minutesToErrands 39 = .ok (.imul, 1) := by decide +kernel
theorem dX8_minutesToErrands_40 : decode cX8_minutesToErrands 40 = .ok (.aload_n 1, 1) := by decide +kernel
theorem dX8_minutesToErrands_41 : decode cX8_minutesToErrands 41 = .ok (.getfield 195, 3) := by decide +kernel
theorem dX8_minutesToErrands_44 : decode cX8_minutesToErrands 44 = .ok (.iload 5, 2) := by decide +kernel
theorem dX8_minutesToErrands_46 : decode cX8_minutesToErrands 46 = .ok (.iaload, 1) := by decide +kernel
theorem dX8_minutesToErrands_47 : decode cX8_minutesToErrands 47 = .ok (.iadd, 1) := by decide +kernel
theorem dX8_minutesToErrands_48 : decode cX8_minutesToErrands 48 = .ok (.iaload, 1) := by decide +kernel
theorem dX8_minutesToErrands_49 : decode cX8_minutesToErrands 49 = .ok (.istore 6, 2) := by decide +kernel
theorem dX8_minutesToErrands_51 : decode cX8_minutesToErrands 51 = .ok (.iload 6, 2) := by decide +kernel
theorem dX8_minutesToErrands_53 : decode cX8_minutesToErrands 53 = .ok (.iconst (-1), 1) := by decide +kernel
theorem dX8_minutesToErrands_54 : decode cX8_minutesToErrands 54 = .ok (.if_icmp .ne 5, 3) := by decide +kernel
theorem dX8_minutesToErrands_57 : decode cX8_minutesToErrands 57 = .ok (.iconst (-1), 1) := by decide +kernel
theorem dX8_minutesToErrands_58 : decode cX8_minutesToErrands 58 = .ok (.ireturn, 1) := by decide +kernel
theorem dX8_minutesToErrands_59 : decode cX8_minutesToErrands 59 = .ok (.iload 4, 2) := by decide +kernel
theorem dX8_minutesToErrands_61 : decode cX8_minutesToErrands 61 = .ok (.iload 6, 2) := by decide +kernel
theorem dX8_minutesToErrands_63 : decode cX8_minutesToErrands 63 = .ok (.iadd, 1) := by decide +kernel
theorem dX8_minutesToErrands_64 : decode cX8_minutesToErrands 64 = .ok (.istore 4, 2) := by decide +kernel
theorem dX8_minutesToErrands_66 : decode cX8_minutesToErrands 66 = .ok (.iinc 5 1, 3) := by decide +kernel
theorem dX8_minutesToErrands_69 : decode cX8_minutesToErrands 69 = .ok (.goto (-63), 3) := by decide +kernel
theorem dX8_minutesToErrands_72 : decode cX8_minutesToErrands 72 = .ok (.iload 4, 2) := by decide +kernel
theorem dX8_minutesToErrands_74 : decode cX8_minutesToErrands 74 = .ok (.ireturn, 1) := by decide +kernel
noncomputable def k_X8_minutesToErrands_66 (F : Nat) (h6 : AK) : AK := ak_iinc 5 1 h6
set_option maxRecDepth 20000 in
theorem sk_X8_minutesToErrands_66 (F : Nat) {h6 : AK} (hh6 : Snd X0 RX8 cX8_minutesToErrands 7 0 6 h6) : Snd X0 RX8 cX8_minutesToErrands 7 0 66 (k_X8_minutesToErrands_66 F h6) := by
  unfold k_X8_minutesToErrands_66
  exact snd_iinc (pc := 66) (i := 5) (n := 1) (by decide) dX8_minutesToErrands_66 (snd_goto (pc := 69) (off := (-63)) (tgt := 6) (by decide) dX8_minutesToErrands_69 (hh6))
noncomputable def kb_X8_minutesToErrands_6 (F : Nat) (self : AK) : AK := ak_iload 5 (ak_aload 1 (ak_getf 7 12 (ak_cmplt (ak_aload 1 (ak_getf 7 13 (ak_iload 5 (ak_iald (ak_iload 2 (ak_cmpeq (ak_aload 0 (ak_getf 8 4 (ak_getf 3 0 (ak_getf 1 3 (ak_iload 3 (ak_push (vI 9) (ak_imul (ak_aload 1 (ak_getf 7 14 (ak_iload 5 (ak_iald (ak_iadd (ak_iald (ak_istore 6 (ak_iload 6 (ak_push (vI (-1)) (ak_cmpeq (ak_push (vI (-1)) ak_ireturn) (ak_iload 4 (ak_iload 6 (ak_iadd (ak_istore 4 ((k_X8_minutesToErrands_66 F self))))))))))))))))))))))) ((k_X8_minutesToErrands_66 F self)))))))) (ak_iload 4 ak_ireturn))))
noncomputable def k_X8_minutesToErrands_6 (F : Nat) (n : Nat) : AK := Nat.rec (motive := fun _ => AK) ak_none (fun _ self => kb_X8_minutesToErrands_6 F self) n
set_option maxRecDepth 20000 in
theorem sk_X8_minutesToErrands_6 (F : Nat) : ∀ n, Snd X0 RX8 cX8_minutesToErrands 7 0 6 (k_X8_minutesToErrands_6 F n) := by
  intro n
  induction n with
  | zero => exact snd_none
  | succ n ih =>
    show Snd X0 RX8 cX8_minutesToErrands 7 0 6 (kb_X8_minutesToErrands_6 F (k_X8_minutesToErrands_6 F n))
    unfold kb_X8_minutesToErrands_6
    exact snd_iload (pc := 6) (i := 5) dX8_minutesToErrands_6 (snd_aload_n (pc := 8) (i := 1) dX8_minutesToErrands_8 (snd_getf (pc := 9) cls7 (f := 12) (by decide) wd_215 dX8_minutesToErrands_9 (snd_icmpge (pc := 12) (off := 60) (tgt := 72) (by decide) dX8_minutesToErrands_12 (snd_iload (pc := 72) (i := 4) dX8_minutesToErrands_72 (snd_ireturn dX8_minutesToErrands_74)) (snd_aload_n (pc := 15) (i := 1) dX8_minutesToErrands_15 (snd_getf (pc := 16) cls7 (f := 13) (by decide) wd_219 dX8_minutesToErrands_16 (snd_iload (pc := 19) (i := 5) dX8_minutesToErrands_19 (snd_iald (pc := 21) dX8_minutesToErrands_21 (snd_iload_n (pc := 22) (i := 2) dX8_minutesToErrands_22 (snd_icmpne (pc := 23) (off := 43) (tgt := 66) (by decide) dX8_minutesToErrands_23 ((sk_X8_minutesToErrands_66 F ih)) (snd_aload_n (pc := 26) (i := 0) dX8_minutesToErrands_26 (snd_getf (pc := 27) cls8 (f := 4) (by decide) wd_592 dX8_minutesToErrands_27 (snd_getf (pc := 30) cls3 (f := 0) (by decide) wd_473 dX8_minutesToErrands_30 (snd_getf (pc := 33) cls1 (f := 3) (by decide) wd_454 dX8_minutesToErrands_33 (snd_iload_n (pc := 36) (i := 3) dX8_minutesToErrands_36 (snd_bipush (pc := 37) (by decide) dX8_minutesToErrands_37 (snd_imul (pc := 39) dX8_minutesToErrands_39 (snd_aload_n (pc := 40) (i := 1) dX8_minutesToErrands_40 (snd_getf (pc := 41) cls7 (f := 14) (by decide) wd_223 dX8_minutesToErrands_41 (snd_iload (pc := 44) (i := 5) dX8_minutesToErrands_44 (snd_iald (pc := 46) dX8_minutesToErrands_46 (snd_iadd (pc := 47) dX8_minutesToErrands_47 (snd_iald (pc := 48) dX8_minutesToErrands_48 (snd_istore (pc := 49) (i := 6) (by decide) dX8_minutesToErrands_49 (snd_iload (pc := 51) (i := 6) dX8_minutesToErrands_51 (snd_iconst (pc := 53) dX8_minutesToErrands_53 (snd_icmpne (pc := 54) (off := 5) (tgt := 59) (by decide) dX8_minutesToErrands_54 (snd_iload (pc := 59) (i := 4) dX8_minutesToErrands_59 (snd_iload (pc := 61) (i := 6) dX8_minutesToErrands_61 (snd_iadd (pc := 63) dX8_minutesToErrands_63 (snd_istore (pc := 64) (i := 4) (by decide) dX8_minutesToErrands_64 ((sk_X8_minutesToErrands_66 F ih)))))) (snd_iconst (pc := 57) dX8_minutesToErrands_57 (snd_ireturn dX8_minutesToErrands_58))))))))))))))))))))))))))))
noncomputable def k_X8_minutesToErrands (F : Nat) : AK := ak_push (vI 0) (ak_istore 4 (ak_push (vI 0) (ak_istore 5 ((k_X8_minutesToErrands_6 F F)))))
noncomputable def m_X8_minutesToErrands (F : Nat) : AF := mkF 1 7 (k_X8_minutesToErrands F)
set_option maxRecDepth 20000 in
theorem s_X8_minutesToErrands (F : Nat) : MA yX8_minutesToErrands cX8_minutesToErrands 7 (some .int) 0 (m_X8_minutesToErrands F) := met_of (Or.inr (Or.inl ⟨rfl, rfl⟩)) (by decide) (by
  unfold k_X8_minutesToErrands
  exact snd_iconst (pc := 0) dX8_minutesToErrands_0 (snd_istore (pc := 1) (i := 4) (by decide) dX8_minutesToErrands_1 (snd_iconst (pc := 3) dX8_minutesToErrands_3 (snd_istore (pc := 4) (i := 5) (by decide) dX8_minutesToErrands_4 ((sk_X8_minutesToErrands_6 F F))))))

/-! LastWalker.live(IIZ)I -/
theorem dX8_live_0 : decode cX8_live 0 = .ok (.aload_n 0, 1) := by decide +kernel
theorem dX8_live_1 : decode cX8_live 1 = .ok (.getfield 10, 3) := by decide +kernel
theorem dX8_live_4 : decode cX8_live 4 = .ok (.iload_n 1, 1) := by decide +kernel
theorem dX8_live_5 : decode cX8_live 5 = .ok (.invokevirtual 132, 3) := by decide +kernel
theorem dX8_live_8 : decode cX8_live 8 = .ok (.astore 4, 2) := by decide +kernel
theorem dX8_live_10 : decode cX8_live 10 = .ok (.aload 4, 2) := by decide +kernel
theorem dX8_live_12 : decode cX8_live 12 = .ok (.ifnull 12, 3) := by decide +kernel
theorem dX8_live_15 : decode cX8_live 15 = .ok (.aload 4, 2) := by decide +kernel
theorem dX8_live_17 : decode cX8_live 17 = .ok (.iload_n 2, 1) := by decide +kernel
theorem dX8_live_18 : decode cX8_live 18 = .ok (.invokevirtual 177, 3) := by decide +kernel
theorem dX8_live_21 : decode cX8_live 21 = .ok (.ifCond .ne 5, 3) := by decide +kernel
theorem dX8_live_24 : decode cX8_live 24 = .ok (.iconst (-1), 1) := by decide +kernel
theorem dX8_live_25 : decode cX8_live 25 = .ok (.ireturn, 1) := by decide +kernel
theorem dX8_live_26 : decode cX8_live 26 = .ok (.aload_n 0, 1) := by decide +kernel
theorem dX8_live_27 : decode cX8_live 27 = .ok (.getfield 37, 3) := by decide +kernel
theorem dX8_live_30 : decode cX8_live 30 = .ok (.getfield 268, 3) := by decide +kernel
theorem dX8_live_33 : decode cX8_live 33 = .ok (.aload 4, 2) := by decide +kernel
theorem dX8_live_35 : decode cX8_live 35 = .ok (.invokevirtual 272, 3) := by decide +kernel
theorem dX8_live_38 : decode cX8_live 38 = .ok (.iconst (-1), 1) := by decide +kernel
theorem dX8_live_39 : decode cX8_live 39 = .ok (.istore 5, 2) := by decide +kernel
theorem dX8_live_41 : decode cX8_live 41 = .ok (.iconst (-1), 1) := by decide +kernel
theorem dX8_live_42 : decode cX8_live 42 = .ok (.istore 6, 2) := by decide +kernel
theorem dX8_live_44 : decode cX8_live 44 = .ok (.iconst 0, 1) := by decide +kernel
theorem dX8_live_45 : decode cX8_live 45 = .ok (.istore 7, 2) := by decide +kernel
theorem dX8_live_47 : decode cX8_live 47 = .ok (.iload 7, 2) := by decide +kernel
theorem dX8_live_49 : decode cX8_live 49 = .ok (.aload 4, 2) := by decide +kernel
theorem dX8_live_51 : decode cX8_live 51 = .ok (.getfield 136, 3) := by decide +kernel
theorem dX8_live_54 : decode cX8_live 54 = .ok (.if_icmp .ge 47, 3) := by decide +kernel
theorem dX8_live_57 : decode cX8_live 57 = .ok (.aload_n 0, 1) := by decide +kernel
theorem dX8_live_58 : decode cX8_live 58 = .ok (.aload 4, 2) := by decide +kernel
theorem dX8_live_60 : decode cX8_live 60 = .ok (.iload_n 2, 1) := by decide +kernel
theorem dX8_live_61 : decode cX8_live 61 = .ok (.iload 7, 2) := by decide +kernel
theorem dX8_live_63 : decode cX8_live 63 = .ok (.invokevirtual 410, 3) := by decide +kernel
theorem dX8_live_66 : decode cX8_live 66 = .ok (.istore 8, 2) := by decide +kernel
theorem dX8_live_68 : decode cX8_live 68 = .ok (.iload 8, 2) := by decide +kernel
theorem dX8_live_70 : decode cX8_live 70 = .ok (.iconst (-1), 1) := by decide +kernel
theorem dX8_live_71 : decode cX8_live 71 = .ok (.if_icmp .eq 24, 3) := by decide +kernel
theorem dX8_live_74 : decode cX8_live 74 = .ok (.iload 5, 2) := by decide +kernel
theorem dX8_live_76 : decode cX8_live 76 = .ok (.iconst (-1), 1) := by decide +kernel
theorem dX8_live_77 : decode cX8_live 77 = .ok (.if_icmp .eq 10, 3) := by decide +kernel
theorem dX8_live_80 : decode cX8_live 80 = .ok (.iload 8, 2) := by decide +kernel
theorem dX8_live_82 : decode cX8_live 82 = .ok (.iload 6, 2) := by decide +kernel
theorem dX8_live_84 : decode cX8_live 84 = .ok (.if_icmp .ge 11, 3) := by decide +kernel
theorem dX8_live_87 : decode cX8_live 87 = .ok (.iload 8, 2) := by decide +kernel
theorem dX8_live_89 : decode cX8_live 89 = .ok (.istore 6, 2) := by decide +kernel
theorem dX8_live_91 : decode cX8_live 91 = .ok (.iload 7, 2) := by decide +kernel
theorem dX8_live_93 : decode cX8_live 93 = .ok (.istore 5, 2) := by decide +kernel
theorem dX8_live_95 : decode cX8_live 95 = .ok (.iinc 7 1, 3) := by decide +kernel
theorem dX8_live_98 : decode cX8_live 98 = .ok (.goto (-51), 3) := by decide +kernel
theorem dX8_live_101 : decode cX8_live 101 = .ok (.iload_n 3, 1) := by decide +kernel
theorem dX8_live_102 : decode cX8_live 102 = .ok (.ifCond .eq 8, 3) := by decide +kernel
theorem dX8_live_105 : decode cX8_live 105 = .ok (.iload 6, 2) := by decide +kernel
theorem dX8_live_107 : decode cX8_live 107 = .ok (.goto 5, 3) := by decide +kernel
theorem dX8_live_110 : decode cX8_live 110 = .ok (.iload 5, 2) := by decide +kernel
theorem dX8_live_112 : decode cX8_live 112 = .ok (.ireturn, 1) := by decide +kernel
noncomputable def k_X8_live_95 (F : Nat) (h47 : AK) : AK := ak_iinc 7 1 h47
set_option maxRecDepth 20000 in
theorem sk_X8_live_95 (F : Nat) {h47 : AK} (hh47 : Snd X0 RX8 cX8_live 9 4 47 h47) : Snd X0 RX8 cX8_live 9 4 95 (k_X8_live_95 F h47) := by
  unfold k_X8_live_95
  exact snd_iinc (pc := 95) (i := 7) (n := 1) (by decide) dX8_live_95 (snd_goto (pc := 98) (off := (-51)) (tgt := 47) (by decide) dX8_live_98 (hh47))
noncomputable def k_X8_live_87 (F : Nat) (h47 : AK) : AK := ak_iload 8 (ak_istore 6 (ak_iload 7 (ak_istore 5 ((k_X8_live_95 F h47)))))
set_option maxRecDepth 20000 in
theorem sk_X8_live_87 (F : Nat) {h47 : AK} (hh47 : Snd X0 RX8 cX8_live 9 4 47 h47) : Snd X0 RX8 cX8_live 9 4 87 (k_X8_live_87 F h47) := by
  unfold k_X8_live_87
  exact snd_iload (pc := 87) (i := 8) dX8_live_87 (snd_istore (pc := 89) (i := 6) (by decide) dX8_live_89 (snd_iload (pc := 91) (i := 7) dX8_live_91 (snd_istore (pc := 93) (i := 5) (by decide) dX8_live_93 ((sk_X8_live_95 F hh47)))))
noncomputable def kb_X8_live_47 (F : Nat) (self : AK) : AK := ak_iload 7 (ak_aload 4 (ak_getf 7 0 (ak_cmplt (ak_aload 0 (ak_aload 4 (ak_iload 2 (ak_iload 7 (ak_callv 8 3 (m_X8_minutesToErrands F) (ak_istore 8 (ak_iload 8 (ak_push (vI (-1)) (ak_cmpeq ((k_X8_live_95 F self)) (ak_iload 5 (ak_push (vI (-1)) (ak_cmpeq ((k_X8_live_87 F self)) (ak_iload 8 (ak_iload 6 (ak_cmplt ((k_X8_live_87 F self)) ((k_X8_live_95 F self))))))))))))))))) (ak_iload 3 (ak_ifeq (ak_iload 5 ak_ireturn) (ak_iload 6 ak_ireturn))))))
noncomputable def k_X8_live_47 (F : Nat) (n : Nat) : AK := Nat.rec (motive := fun _ => AK) ak_none (fun _ self => kb_X8_live_47 F self) n
set_option maxRecDepth 20000 in
theorem sk_X8_live_47 (F : Nat) : ∀ n, Snd X0 RX8 cX8_live 9 4 47 (k_X8_live_47 F n) := by
  intro n
  induction n with
  | zero => exact snd_none
  | succ n ih =>
    show Snd X0 RX8 cX8_live 9 4 47 (kb_X8_live_47 F (k_X8_live_47 F n))
    unfold kb_X8_live_47
    exact snd_iload (pc := 47) (i := 7) dX8_live_47 (snd_aload (pc := 49) (i := 4) dX8_live_49 (snd_getf (pc := 51) cls7 (f := 0) (by decide) wd_161 dX8_live_51 (snd_icmpge (pc := 54) (off := 47) (tgt := 101) (by decide) dX8_live_54 (snd_iload_n (pc := 101) (i := 3) dX8_live_101 (snd_ifeq (pc := 102) (off := 8) (tgt := 110) (by decide) dX8_live_102 (snd_iload (pc := 110) (i := 5) dX8_live_110 (snd_ireturn dX8_live_112)) (snd_iload (pc := 105) (i := 6) dX8_live_105 (snd_goto (pc := 107) (off := 5) (tgt := 112) (by decide) dX8_live_107 (snd_ireturn dX8_live_112))))) (snd_aload_n (pc := 57) (i := 0) dX8_live_57 (snd_aload (pc := 58) (i := 4) dX8_live_58 (snd_iload_n (pc := 60) (i := 2) dX8_live_60 (snd_iload (pc := 61) (i := 7) dX8_live_61 (snd_callV (pc := 63) (n := 3) cls8 (s_X8_minutesToErrands F) (by decide) (by decide) wd_1282 wd_1279 wd_1281 wd_51 wd_120 hy_X8_minutesToErrands dX8_live_63 (snd_istore (pc := 66) (i := 8) (by decide) dX8_live_66 (snd_iload (pc := 68) (i := 8) dX8_live_68 (snd_iconst (pc := 70) dX8_live_70 (snd_icmpeq (pc := 71) (off := 24) (tgt := 95) (by decide) dX8_live_71 ((sk_X8_live_95 F ih)) (snd_iload (pc := 74) (i := 5) dX8_live_74 (snd_iconst (pc := 76) dX8_live_76 (snd_icmpeq (pc := 77) (off := 10) (tgt := 87) (by decide) dX8_live_77 ((sk_X8_live_87 F ih)) (snd_iload (pc := 80) (i := 8) dX8_live_80 (snd_iload (pc := 82) (i := 6) dX8_live_82 (snd_icmpge (pc := 84) (off := 11) (tgt := 95) (by decide) dX8_live_84 ((sk_X8_live_95 F ih)) ((sk_X8_live_87 F ih))))))))))))))))))))
noncomputable def k_X8_live (F : Nat) : AK := ak_aload 0 (ak_getf 8 0 (ak_iload 1 (ak_callv 0 1 (m_X0_townAt F) (ak_astore 4 (ak_aload 4 (ak_ifnull (ak_push (vI (-1)) ak_ireturn) (ak_aload 4 (ak_iload 2 (ak_callv 7 1 (m_X7_hasPerson F) (ak_ifeq (ak_push (vI (-1)) ak_ireturn) (ak_aload 0 (ak_getf 8 4 (ak_getf 3 0 (ak_aload 4 (ak_callv 1 1 (m_X1_layOut F) (ak_push (vI (-1)) (ak_istore 5 (ak_push (vI (-1)) (ak_istore 6 (ak_push (vI 0) (ak_istore 7 ((k_X8_live_47 F F)))))))))))))))))))))))
noncomputable def m_X8_live (F : Nat) : AF := mkF 1 9 (k_X8_live F)
set_option maxRecDepth 20000 in
theorem s_X8_live (F : Nat) : MA yX8_live cX8_live 9 (some .int) 4 (m_X8_live F) := met_of (Or.inr (Or.inl ⟨rfl, rfl⟩)) (by decide) (by
  unfold k_X8_live
  exact snd_aload_n (pc := 0) (i := 0) dX8_live_0 (snd_getf (pc := 1) cls8 (f := 0) (by decide) wd_588 dX8_live_1 (snd_iload_n (pc := 4) (i := 1) dX8_live_4 (snd_callV (pc := 5) (n := 1) cls0 (s_X0_townAt F) (by decide) (by decide) wd_838 wd_835 wd_836 wd_837 wd_121 hy_X0_townAt dX8_live_5 (snd_astore (pc := 8) (i := 4) (by decide) dX8_live_8 (snd_aload (pc := 10) (i := 4) dX8_live_10 (snd_ifnull (pc := 12) (off := 12) (tgt := 24) (by decide) dX8_live_12 (snd_iconst (pc := 24) dX8_live_24 (snd_ireturn dX8_live_25)) (snd_aload (pc := 15) (i := 4) dX8_live_15 (snd_iload_n (pc := 17) (i := 2) dX8_live_17 (snd_callV (pc := 18) (n := 1) cls7 (s_X7_hasPerson F) (by decide) (by decide) wd_854 wd_851 wd_852 wd_853 wd_122 hy_X7_hasPerson dX8_live_18 (snd_ifne (pc := 21) (off := 5) (tgt := 26) (by decide) dX8_live_21 (snd_aload_n (pc := 26) (i := 0) dX8_live_26 (snd_getf (pc := 27) cls8 (f := 4) (by decide) wd_592 dX8_live_27 (snd_getf (pc := 30) cls3 (f := 0) (by decide) wd_473 dX8_live_30 (snd_aload (pc := 33) (i := 4) dX8_live_33 (snd_callV (pc := 35) (n := 1) cls1 (s_X1_layOut F) (by decide) (by decide) wd_981 wd_978 wd_979 wd_980 wd_127 hy_X1_layOut dX8_live_35 (snd_iconst (pc := 38) dX8_live_38 (snd_istore (pc := 39) (i := 5) (by decide) dX8_live_39 (snd_iconst (pc := 41) dX8_live_41 (snd_istore (pc := 42) (i := 6) (by decide) dX8_live_42 (snd_iconst (pc := 44) dX8_live_44 (snd_istore (pc := 45) (i := 7) (by decide) dX8_live_45 ((sk_X8_live_47 F F))))))))))))) (snd_iconst (pc := 24) dX8_live_24 (snd_ireturn dX8_live_25)))))))))))))

/-! LastWalker.left(II)I -/
theorem dX8_left_0 : decode cX8_left 0 = .ok (.aload_n 0, 1) := by decide +kernel
theorem dX8_left_1 : decode cX8_left 1 = .ok (.getfield 10, 3) := by decide +kernel
theorem dX8_left_4 : decode cX8_left 4 = .ok (.iload_n 1, 1) := by decide +kernel
theorem dX8_left_5 : decode cX8_left 5 = .ok (.invokevirtual 132, 3) := by decide +kernel
theorem dX8_left_8 : decode cX8_left 8 = .ok (.astore_n 3, 1) := by decide +kernel
theorem dX8_left_9 : decode cX8_left 9 = .ok (.aload_n 3, 1) := by decide +kernel
theorem dX8_left_10 : decode cX8_left 10 = .ok (.ifnull 11, 3) := by decide +kernel
theorem dX8_left_13 : decode cX8_left 13 = .ok (.aload_n 3, 1) := by decide +kernel
theorem dX8_left_14 : decode cX8_left 14 = .ok (.iload_n 2, 1) := by decide +kernel
theorem dX8_left_15 : decode cX8_left 15 = .ok (.invokevirtual 265, 3) := by decide +kernel
theorem dX8_left_18 : decode cX8_left 18 = .ok (.ifCond .ne 5, 3) := by decide +kernel
theorem dX8_left_21 : decode cX8_left 21 = .ok (.iconst (-1), 1) := by decide +kernel
theorem dX8_left_22 : decode cX8_left 22 = .ok (.ireturn, 1) := by decide +kernel
theorem dX8_left_23 : decode cX8_left 23 = .ok (.aload_n 3, 1) := by decide +kernel
theorem dX8_left_24 : decode cX8_left 24 = .ok (.getfield 136, 3) := by decide +kernel
theorem dX8_left_27 : decode cX8_left 27 = .ok (.aload_n 3, 1) := by decide +kernel
theorem dX8_left_28 : decode cX8_left 28 = .ok (.iload_n 2, 1) := by decide +kernel
theorem dX8_left_29 : decode cX8_left 29 = .ok (.iconst (-1), 1) := by decide +kernel
theorem dX8_left_30 : decode cX8_left 30 = .ok (.invokevirtual 407, 3) := by decide +kernel
theorem dX8_left_33 : decode cX8_left 33 = .ok (.invokestatic 416, 3) := by decide +kernel
theorem dX8_left_36 : decode cX8_left 36 = .ok (.isub, 1) := by decide +kernel
theorem dX8_left_37 : decode cX8_left 37 = .ok (.ireturn, 1) := by decide +kernel
noncomputable def k_X8_left (F : Nat) : AK := ak_aload 0 (ak_getf 8 0 (ak_iload 1 (ak_callv 0 1 (m_X0_townAt F) (ak_astore 3 (ak_aload 3 (ak_ifnull (ak_push (vI (-1)) ak_ireturn) (ak_aload 3 (ak_iload 2 (ak_callv 7 1 (m_X7_hasPlace F) (ak_ifeq (ak_push (vI (-1)) ak_ireturn) (ak_aload 3 (ak_getf 7 0 (ak_aload 3 (ak_iload 2 (ak_push (vI (-1)) (ak_callv 7 2 (m_X7_reachedFrom F) (ak_call 1 (m_J6_bitCount_0f7a4 F) (ak_isub ak_ireturn))))))))))))))))))
noncomputable def m_X8_left (F : Nat) : AF := mkF 1 4 (k_X8_left F)
set_option maxRecDepth 20000 in
theorem s_X8_left (F : Nat) : MA yX8_left cX8_left 4 (some .int) 1 (m_X8_left F) := met_of (Or.inr (Or.inl ⟨rfl, rfl⟩)) (by decide) (by
  unfold k_X8_left
  exact snd_aload_n (pc := 0) (i := 0) dX8_left_0 (snd_getf (pc := 1) cls8 (f := 0) (by decide) wd_588 dX8_left_1 (snd_iload_n (pc := 4) (i := 1) dX8_left_4 (snd_callV (pc := 5) (n := 1) cls0 (s_X0_townAt F) (by decide) (by decide) wd_838 wd_835 wd_836 wd_837 wd_121 hy_X0_townAt dX8_left_5 (snd_astore_n (pc := 8) (i := 3) (by decide) dX8_left_8 (snd_aload_n (pc := 9) (i := 3) dX8_left_9 (snd_ifnull (pc := 10) (off := 11) (tgt := 21) (by decide) dX8_left_10 (snd_iconst (pc := 21) dX8_left_21 (snd_ireturn dX8_left_22)) (snd_aload_n (pc := 13) (i := 3) dX8_left_13 (snd_iload_n (pc := 14) (i := 2) dX8_left_14 (snd_callV (pc := 15) (n := 1) cls7 (s_X7_hasPlace F) (by decide) (by decide) wd_977 wd_974 wd_975 wd_976 wd_122 hy_X7_hasPlace dX8_left_15 (snd_ifne (pc := 18) (off := 5) (tgt := 23) (by decide) dX8_left_18 (snd_aload_n (pc := 23) (i := 3) dX8_left_23 (snd_getf (pc := 24) cls7 (f := 0) (by decide) wd_161 dX8_left_24 (snd_aload_n (pc := 27) (i := 3) dX8_left_27 (snd_iload_n (pc := 28) (i := 2) dX8_left_28 (snd_iconst (pc := 29) dX8_left_29 (snd_callV (pc := 30) (n := 2) cls7 (s_X7_reachedFrom F) (by decide) (by decide) wd_1274 wd_1271 wd_1272 wd_1273 wd_122 hy_X7_reachedFrom dX8_left_30 (snd_callS (pc := 33) (n := 1) (s_J6_bitCount_0f7a4 F) (by decide) (by decide) wd_1289 wd_1287 wd_1288 wd_137 hy_J6_bitCount_0f7a4 dX8_left_33 (snd_isub (pc := 36) dX8_left_36 (snd_ireturn dX8_left_37))))))))) (snd_iconst (pc := 21) dX8_left_21 (snd_ireturn dX8_left_22)))))))))))))

/-! LastWalker.minutes(III)I -/
theorem dX8_minutes_0 : decode cX8_minutes 0 = .ok (.aload_n 0, 1) := by decide +kernel
theorem dX8_minutes_1 : decode cX8_minutes 1 = .ok (.getfield 10, 3) := by decide +kernel
theorem dX8_minutes_4 : decode cX8_minutes 4 = .ok (.iload_n 1, 1) := by decide +kernel
theorem dX8_minutes_5 : decode cX8_minutes 5 = .ok (.invokevirtual 132, 3) := by decide +kernel
theorem dX8_minutes_8 : decode cX8_minutes 8 = .ok (.astore 4, 2) := by decide +kernel
theorem dX8_minutes_10 : decode cX8_minutes 10 = .ok (.aload 4, 2) := by decide +kernel
theorem dX8_minutes_12 : decode cX8_minutes 12 = .ok (.ifnull 21, 3) := by decide +kernel
theorem dX8_minutes_15 : decode cX8_minutes 15 = .ok (.aload 4, 2) := by decide +kernel
theorem dX8_minutes_17 : decode cX8_minutes 17 = .ok (.iload_n 2, 1) := by decide +kernel
theorem dX8_minutes_18 : decode cX8_minutes 18 = .ok (.invokevirtual 265, 3) := by decide +kernel
theorem dX8_minutes_21 : decode cX8_minutes 21 = .ok (.ifCond .eq 12, 3) := by decide +kernel
theorem dX8_minutes_24 : decode cX8_minutes 24 = .ok (.aload 4, 2) := by decide +kernel
theorem dX8_minutes_26 : decode cX8_minutes 26 = .ok (.iload_n 3, 1) := by decide +kernel
theorem dX8_minutes_27 : decode cX8_minutes 27 = .ok (.invokevirtual 265, 3) := by decide +kernel
theorem dX8_minutes_30 : decode cX8_minutes 30 = .ok (.ifCond .ne 5, 3) := by decide +kernel
theorem dX8_minutes_33 : decode cX8_minutes 33 = .ok (.iconst (-1), 1) := by decide +kernel
theorem dX8_minutes_34 : decode cX8_minutes 34 = .ok (.ireturn, 1) := by decide +kernel
theorem dX8_minutes_35 : decode cX8_minutes 35 = .ok (.aload_n 0, 1) := by decide +kernel
theorem dX8_minutes_36 : decode cX8_minutes 36 = .ok (.getfield 37, 3) := by decide +kernel
theorem dX8_minutes_39 : decode cX8_minutes 39 = .ok (.getfield 268, 3) := by decide +kernel
theorem dX8_minutes_42 : decode cX8_minutes 42 = .ok (.aload 4, 2) := by decide +kernel
theorem dX8_minutes_44 : decode cX8_minutes 44 = .ok (.invokevirtual 272, 3) := by decide +kernel
theorem dX8_minutes_47 : decode cX8_minutes 47 = .ok (.aload_n 0, 1) := by decide +kernel
theorem dX8_minutes_48 : decode cX8_minutes 48 = .ok (.getfield 37, 3) := by decide +kernel
theorem dX8_minutes_51 : decode cX8_minutes 51 = .ok (.getfield 268, 3) := by decide +kernel
theorem dX8_minutes_54 : decode cX8_minutes 54 = .ok (.getfield 413, 3) := by decide +kernel
theorem dX8_minutes_57 : decode cX8_minutes 57 = .ok (.iload_n 2, 1) := by decide +kernel
theorem dX8_minutes_58 : decode cX8_minutes 58 = .ok (.bipush 9, 2) := by decide +kernel
theorem dX8_minutes_60 : decode cX8_minutes 60 = .ok (.imul, 1) := by decide +kernel
theorem dX8_minutes_61 : decode cX8_minutes 61 = .ok (.iload_n 3, 1) := by decide +kernel
theorem dX8_minutes_62 : decode cX8_minutes 62 = .ok (.iadd, 1) := by decide +kernel
theorem dX8_minutes_63 : decode cX8_minutes 63 = .ok (.iaload, 1) := by decide +kernel
theorem dX8_minutes_64 : decode cX8_minutes 64 = .ok (.ireturn, 1) := by decide +kernel
noncomputable def k_X8_minutes (F : Nat) : AK := ak_aload 0 (ak_getf 8 0 (ak_iload 1 (ak_callv 0 1 (m_X0_townAt F) (ak_astore 4 (ak_aload 4 (ak_ifnull (ak_push (vI (-1)) ak_ireturn) (ak_aload 4 (ak_iload 2 (ak_callv 7 1 (m_X7_hasPlace F) (ak_ifeq (ak_push (vI (-1)) ak_ireturn) (ak_aload 4 (ak_iload 3 (ak_callv 7 1 (m_X7_hasPlace F) (ak_ifeq (ak_push (vI (-1)) ak_ireturn) (ak_aload 0 (ak_getf 8 4 (ak_getf 3 0 (ak_aload 4 (ak_callv 1 1 (m_X1_layOut F) (ak_aload 0 (ak_getf 8 4 (ak_getf 3 0 (ak_getf 1 3 (ak_iload 2 (ak_push (vI 9) (ak_imul (ak_iload 3 (ak_iadd (ak_iald ak_ireturn)))))))))))))))))))))))))))))
noncomputable def m_X8_minutes (F : Nat) : AF := mkF 1 5 (k_X8_minutes F)
set_option maxRecDepth 20000 in
theorem s_X8_minutes (F : Nat) : MA yX8_minutes cX8_minutes 5 (some .int) 4 (m_X8_minutes F) := met_of (Or.inr (Or.inl ⟨rfl, rfl⟩)) (by decide) (by
  unfold k_X8_minutes
  exact snd_aload_n (pc := 0) (i := 0) dX8_minutes_0 (snd_getf (pc := 1) cls8 (f := 0) (by decide) wd_588 dX8_minutes_1 (snd_iload_n (pc := 4) (i := 1) dX8_minutes_4 (snd_callV (pc := 5) (n := 1) cls0 (s_X0_townAt F) (by decide) (by decide) wd_838 wd_835 wd_836 wd_837 wd_121 hy_X0_townAt dX8_minutes_5 (snd_astore (pc := 8) (i := 4) (by decide) dX8_minutes_8 (snd_aload (pc := 10) (i := 4) dX8_minutes_10 (snd_ifnull (pc := 12) (off := 21) (tgt := 33) (by decide) dX8_minutes_12 (snd_iconst (pc := 33) dX8_minutes_33 (snd_ireturn dX8_minutes_34)) (snd_aload (pc := 15) (i := 4) dX8_minutes_15 (snd_iload_n (pc := 17) (i := 2) dX8_minutes_17 (snd_callV (pc := 18) (n := 1) cls7 (s_X7_hasPlace F) (by decide) (by decide) wd_977 wd_974 wd_975 wd_976 wd_122 hy_X7_hasPlace dX8_minutes_18 (snd_ifeq (pc := 21) (off := 12) (tgt := 33) (by decide) dX8_minutes_21 (snd_iconst (pc := 33) dX8_minutes_33 (snd_ireturn dX8_minutes_34)) (snd_aload (pc := 24) (i := 4) dX8_minutes_24 (snd_iload_n (pc := 26) (i := 3) dX8_minutes_26 (snd_callV (pc := 27) (n := 1) cls7 (s_X7_hasPlace F) (by decide) (by decide) wd_977 wd_974 wd_975 wd_976 wd_122 hy_X7_hasPlace dX8_minutes_27 (snd_ifne (pc := 30) (off := 5) (tgt := 35) (by decide) dX8_minutes_30 (snd_aload_n (pc := 35) (i := 0) dX8_minutes_35 (snd_getf (pc := 36) cls8 (f := 4) (by decide) wd_592 dX8_minutes_36 (snd_getf (pc := 39) cls3 (f := 0) (by decide) wd_473 dX8_minutes_39 (snd_aload (pc := 42) (i := 4) dX8_minutes_42 (snd_callV (pc := 44) (n := 1) cls1 (s_X1_layOut F) (by decide) (by decide) wd_981 wd_978 wd_979 wd_980 wd_127 hy_X1_layOut dX8_minutes_44 (snd_aload_n (pc := 47) (i := 0) dX8_minutes_47 (snd_getf (pc := 48) cls8 (f := 4) (by decide) wd_592 dX8_minutes_48 (snd_getf (pc := 51) cls3 (f := 0) (by decide) wd_473 dX8_minutes_51 (snd_getf (pc := 54) cls1 (f := 3) (by decide) wd_454 dX8_minutes_54 (snd_iload_n (pc := 57) (i := 2) dX8_minutes_57 (snd_bipush (pc := 58) (by decide) dX8_minutes_58 (snd_imul (pc := 60) dX8_minutes_60 (snd_iload_n (pc := 61) (i := 3) dX8_minutes_61 (snd_iadd (pc := 62) dX8_minutes_62 (snd_iald (pc := 63) dX8_minutes_63 (snd_ireturn dX8_minutes_64)))))))))))))))) (snd_iconst (pc := 33) dX8_minutes_33 (snd_ireturn dX8_minutes_34)))))))))))))))))
