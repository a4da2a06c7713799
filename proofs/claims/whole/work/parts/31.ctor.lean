theorem na_10 : ∀ (sz : Nat) (cA : Nat → ClassId) (n : Nat), ∃ a0 : vp_A, gelt sz cA (garr 10 n) = .inl (cA 10, a0) ∧ ∀ cX : ClassId, vp_cell cX a0 = arrV cX n (fun _ => defaultValue .int) := fun sz cA n => ⟨(n, .inl (fun _ => Int32.ofInt 0)), rfl, fun _ => rfl⟩
theorem na_11 : ∀ (sz : Nat) (cA : Nat → ClassId) (n : Nat), ∃ a0 : vp_A, gelt sz cA (garr 11 n) = .inl (cA 11, a0) ∧ ∀ cX : ClassId, vp_cell cX a0 = arrV cX n (fun _ => defaultValue .byte) := fun sz cA n => ⟨(n, .inl (fun _ => Int32.ofInt 0)), rfl, fun _ => rfl⟩
theorem na_12 : ∀ (sz : Nat) (cA : Nat → ClassId) (n : Nat), ∃ a0 : vp_A, gelt sz cA (garr 12 n) = .inl (cA 12, a0) ∧ ∀ cX : ClassId, vp_cell cX a0 = arrV cX n (fun _ => defaultValue .boolean) := fun sz cA n => ⟨(n, .inl (fun _ => Int32.ofInt 0)), rfl, fun _ => rfl⟩
theorem na_13 : ∀ (sz : Nat) (cA : Nat → ClassId) (n : Nat), ∃ a0 : vp_A, gelt sz cA (garr 13 n) = .inl (cA 13, a0) ∧ ∀ cX : ClassId, vp_cell cX a0 = arrV cX n (fun _ => defaultValue .long) := fun sz cA n => ⟨(n, .inr (.inl (fun _ => Int64.ofInt 0))), rfl, fun _ => rfl⟩
theorem df_0 : ∀ j, j < 9 → defaultValue (tyX0 j) = cv id (gdef (fty 0 j)) := by decide +kernel
theorem df_1 : ∀ j, j < 5 → defaultValue (tyX1 j) = cv id (gdef (fty 1 j)) := by decide +kernel
theorem df_2 : ∀ j, j < 3 → defaultValue (tyX2 j) = cv id (gdef (fty 2 j)) := by decide +kernel
theorem df_3 : ∀ j, j < 18 → defaultValue (tyX3 j) = cv id (gdef (fty 3 j)) := by decide +kernel
theorem df_4 : ∀ j, j < 13 → defaultValue (tyX4 j) = cv id (gdef (fty 4 j)) := by decide +kernel
theorem df_5 : ∀ j, j < 13 → defaultValue (tyX5 j) = cv id (gdef (fty 5 j)) := by decide +kernel
theorem df_6 : ∀ j, j < 8 → defaultValue (tyX6 j) = cv id (gdef (fty 6 j)) := by decide +kernel
theorem df_7 : ∀ j, j < 19 → defaultValue (tyX7 j) = cv id (gdef (fty 7 j)) := by decide +kernel
theorem df_8 : ∀ j, j < 7 → defaultValue (tyX8 j) = cv id (gdef (fty 8 j)) := by decide +kernel
theorem df_9 : ∀ j, j < 64 → defaultValue (tyX9 j) = cv id (gdef (fty 9 j)) := by decide +kernel
theorem dX2_init_0 : decode cX2_init 0 = .ok (.aload_n 0, 1) := by decide +kernel
theorem dX2_init_1 : decode cX2_init 1 = .ok (.invokespecial 3, 3) := by decide +kernel
theorem dX2_init_4 : decode cX2_init 4 = .ok (.aload_n 0, 1) := by decide +kernel
theorem dX2_init_5 : decode cX2_init 5 = .ok (.bipush 40, 2) := by decide +kernel
theorem dX2_init_7 : decode cX2_init 7 = .ok (.newarray .int, 2) := by decide +kernel
theorem dX2_init_9 : decode cX2_init 9 = .ok (.putfield 9, 3) := by decide +kernel
theorem dX2_init_12 : decode cX2_init 12 = .ok (.aload_n 0, 1) := by decide +kernel
theorem dX2_init_13 : decode cX2_init 13 = .ok (.bipush 40, 2) := by decide +kernel
theorem dX2_init_15 : decode cX2_init 15 = .ok (.newarray .int, 2) := by decide +kernel
theorem dX2_init_17 : decode cX2_init 17 = .ok (.putfield 15, 3) := by decide +kernel
theorem dX2_init_20 : decode cX2_init 20 = .ok (.return_, 1) := by decide +kernel
def k_X2_init : GK := gk_aload 0 (gk_obj (gk_aload 0 (gk_push (vI 40) (gk_newa 10 (gk_put2 2 1 (gk_aload 0 (gk_push (vI 40) (gk_newa 10 (gk_put2 2 2 (gk_end 20))))))))))
def g_X2_init : GF := mkG 1 20 k_X2_init
set_option maxRecDepth 20000 in
theorem sg_X2_init : MG yX2_init cX2_init 1 1 g_X2_init := metG (by decide) rfl dX2_init_20 (by
  unfold k_X2_init
  exact sg_aload_n (pc := 0) (i := 0) dX2_init_0 (sg_obj (pc := 1) (by decide) wd_286 wd_144 wd_145 dX2_init_1 (sg_aload_n (pc := 4) (i := 0) dX2_init_4 (sg_bipush (pc := 5) (by decide) dX2_init_5 (sg_newa (pc := 7) (atype := .int) (ty := .int) (t := 10) (t0 := 0) rfl (fun _ => rfl) (fun _ h => by cases h) (by decide) na_10 wd_279 dX2_init_7 (sg_put2F (pc := 9) cls2 (f := 1) (by decide) (fun _ _ => ⟨rfl, rfl⟩) rfl (by decide) rfl wd_291 dX2_init_9 (sg_aload_n (pc := 12) (i := 0) dX2_init_12 (sg_bipush (pc := 13) (by decide) dX2_init_13 (sg_newa (pc := 15) (atype := .int) (ty := .int) (t := 10) (t0 := 0) rfl (fun _ => rfl) (fun _ h => by cases h) (by decide) na_10 wd_279 dX2_init_15 (sg_put2F (pc := 17) cls2 (f := 2) (by decide) (fun _ _ => ⟨rfl, rfl⟩) rfl (by decide) rfl wd_294 dX2_init_17 (sg_end)))))))))))

theorem dX7_init_0 : decode cX7_init 0 = .ok (.aload_n 0, 1) := by decide +kernel
theorem dX7_init_1 : decode cX7_init 1 = .ok (.invokespecial 3, 3) := by decide +kernel
theorem dX7_init_4 : decode cX7_init 4 = .ok (.aload_n 0, 1) := by decide +kernel
theorem dX7_init_5 : decode cX7_init 5 = .ok (.bipush 14, 2) := by decide +kernel
theorem dX7_init_7 : decode cX7_init 7 = .ok (.newarray .int, 2) := by decide +kernel
theorem dX7_init_9 : decode cX7_init 9 = .ok (.putfield 9, 3) := by decide +kernel
theorem dX7_init_12 : decode cX7_init 12 = .ok (.aload_n 0, 1) := by decide +kernel
theorem dX7_init_13 : decode cX7_init 13 = .ok (.bipush 14, 2) := by decide +kernel
theorem dX7_init_15 : decode cX7_init 15 = .ok (.newarray .int, 2) := by decide +kernel
theorem dX7_init_17 : decode cX7_init 17 = .ok (.putfield 15, 3) := by decide +kernel
theorem dX7_init_20 : decode cX7_init 20 = .ok (.aload_n 0, 1) := by decide +kernel
theorem dX7_init_21 : decode cX7_init 21 = .ok (.bipush 14, 2) := by decide +kernel
theorem dX7_init_23 : decode cX7_init 23 = .ok (.newarray .int, 2) := by decide +kernel
theorem dX7_init_25 : decode cX7_init 25 = .ok (.putfield 18, 3) := by decide +kernel
theorem dX7_init_28 : decode cX7_init 28 = .ok (.aload_n 0, 1) := by decide +kernel
theorem dX7_init_29 : decode cX7_init 29 = .ok (.bipush 14, 2) := by decide +kernel
theorem dX7_init_31 : decode cX7_init 31 = .ok (.newarray .int, 2) := by decide +kernel
theorem dX7_init_33 : decode cX7_init 33 = .ok (.putfield 21, 3) := by decide +kernel
theorem dX7_init_36 : decode cX7_init 36 = .ok (.aload_n 0, 1) := by decide +kernel
theorem dX7_init_37 : decode cX7_init 37 = .ok (.bipush 14, 2) := by decide +kernel
theorem dX7_init_39 : decode cX7_init 39 = .ok (.newarray .int, 2) := by decide +kernel
theorem dX7_init_41 : decode cX7_init 41 = .ok (.putfield 24, 3) := by decide +kernel
theorem dX7_init_44 : decode cX7_init 44 = .ok (.aload_n 0, 1) := by decide +kernel
theorem dX7_init_45 : decode cX7_init 45 = .ok (.bipush 84, 2) := by decide +kernel
theorem dX7_init_47 : decode cX7_init 47 = .ok (.newarray .int, 2) := by decide +kernel
theorem dX7_init_49 : decode cX7_init 49 = .ok (.putfield 27, 3) := by decide +kernel
theorem dX7_init_52 : decode cX7_init 52 = .ok (.aload_n 0, 1) := by decide +kernel
theorem dX7_init_53 : decode cX7_init 53 = .ok (.bipush 8, 2) := by decide +kernel
theorem dX7_init_55 : decode cX7_init 55 = .ok (.newarray .int, 2) := by decide +kernel
theorem dX7_init_57 : decode cX7_init 57 = .ok (.putfield 30, 3) := by decide +kernel
theorem dX7_init_60 : decode cX7_init 60 = .ok (.aload_n 0, 1) := by decide +kernel
theorem dX7_init_61 : decode cX7_init 61 = .ok (.bipush 8, 2) := by decide +kernel
theorem dX7_init_63 : decode cX7_init 63 = .ok (.newarray .int, 2) := by decide +kernel
theorem dX7_init_65 : decode cX7_init 65 = .ok (.putfield 33, 3) := by decide +kernel
theorem dX7_init_68 : decode cX7_init 68 = .ok (.aload_n 0, 1) := by decide +kernel
theorem dX7_init_69 : decode cX7_init 69 = .ok (.bipush 8, 2) := by decide +kernel
theorem dX7_init_71 : decode cX7_init 71 = .ok (.newarray .int, 2) := by decide +kernel
theorem dX7_init_73 : decode cX7_init 73 = .ok (.putfield 36, 3) := by decide +kernel
theorem dX7_init_76 : decode cX7_init 76 = .ok (.aload_n 0, 1) := by decide +kernel
theorem dX7_init_77 : decode cX7_init 77 = .ok (.bipush 12, 2) := by decide +kernel
theorem dX7_init_79 : decode cX7_init 79 = .ok (.newarray .int, 2) := by decide +kernel
theorem dX7_init_81 : decode cX7_init 81 = .ok (.putfield 39, 3) := by decide +kernel
theorem dX7_init_84 : decode cX7_init 84 = .ok (.aload_n 0, 1) := by decide +kernel
theorem dX7_init_85 : decode cX7_init 85 = .ok (.bipush 12, 2) := by decide +kernel
theorem dX7_init_87 : decode cX7_init 87 = .ok (.newarray .int, 2) := by decide +kernel
theorem dX7_init_89 : decode cX7_init 89 = .ok (.putfield 42, 3) := by decide +kernel
theorem dX7_init_92 : decode cX7_init 92 = .ok (.aload_n 0, 1) := by decide +kernel
theorem dX7_init_93 : decode cX7_init 93 = .ok (.bipush 12, 2) := by decide +kernel
theorem dX7_init_95 : decode cX7_init 95 = .ok (.newarray .int, 2) := by decide +kernel
theorem dX7_init_97 : decode cX7_init 97 = .ok (.putfield 45, 3) := by decide +kernel
theorem dX7_init_100 : decode cX7_init 100 = .ok (.aload_n 0, 1) := by decide +kernel
theorem dX7_init_101 : decode cX7_init 101 = .ok (.bipush 12, 2) := by decide +kernel
theorem dX7_init_103 : decode cX7_init 103 = .ok (.newarray .int, 2) := by decide +kernel
theorem dX7_init_105 : decode cX7_init 105 = .ok (.putfield 48, 3) := by decide +kernel
theorem dX7_init_108 : decode cX7_init 108 = .ok (.return_, 1) := by decide +kernel
def k_X7_init : GK := gk_aload 0 (gk_obj (gk_aload 0 (gk_push (vI 14) (gk_newa 10 (gk_put2 7 2 (gk_aload 0 (gk_push (vI 14) (gk_newa 10 (gk_put2 7 3 (gk_aload 0 (gk_push (vI 14) (gk_newa 10 (gk_put2 7 4 (gk_aload 0 (gk_push (vI 14) (gk_newa 10 (gk_put2 7 5 (gk_aload 0 (gk_push (vI 14) (gk_newa 10 (gk_put2 7 6 (gk_aload 0 (gk_push (vI 84) (gk_newa 10 (gk_put2 7 7 (gk_aload 0 (gk_push (vI 8) (gk_newa 10 (gk_put2 7 9 (gk_aload 0 (gk_push (vI 8) (gk_newa 10 (gk_put2 7 10 (gk_aload 0 (gk_push (vI 8) (gk_newa 10 (gk_put2 7 11 (gk_aload 0 (gk_push (vI 12) (gk_newa 10 (gk_put2 7 13 (gk_aload 0 (gk_push (vI 12) (gk_newa 10 (gk_put2 7 14 (gk_aload 0 (gk_push (vI 12) (gk_newa 10 (gk_put2 7 15 (gk_aload 0 (gk_push (vI 12) (gk_newa 10 (gk_put2 7 16 (gk_end 108))))))))))))))))))))))))))))))))))))))))))))))))))))))
def g_X7_init : GF := mkG 1 108 k_X7_init
set_option maxRecDepth 20000 in
theorem sg_X7_init : MG yX7_init cX7_init 1 1 g_X7_init := metG (by decide) rfl dX7_init_108 (by
  unfold k_X7_init
  exact sg_aload_n (pc := 0) (i := 0) dX7_init_0 (sg_obj (pc := 1) (by decide) wd_158 wd_144 wd_145 dX7_init_1 (sg_aload_n (pc := 4) (i := 0) dX7_init_4 (sg_bipush (pc := 5) (by decide) dX7_init_5 (sg_newa (pc := 7) (atype := .int) (ty := .int) (t := 10) (t0 := 0) rfl (fun _ => rfl) (fun _ h => by cases h) (by decide) na_10 wd_279 dX7_init_7 (sg_put2F (pc := 9) cls7 (f := 2) (by decide) (fun _ _ => ⟨rfl, rfl⟩) rfl (by decide) rfl wd_169 dX7_init_9 (sg_aload_n (pc := 12) (i := 0) dX7_init_12 (sg_bipush (pc := 13) (by decide) dX7_init_13 (sg_newa (pc := 15) (atype := .int) (ty := .int) (t := 10) (t0 := 0) rfl (fun _ => rfl) (fun _ h => by cases h) (by decide) na_10 wd_279 dX7_init_15 (sg_put2F (pc := 17) cls7 (f := 3) (by decide) (fun _ _ => ⟨rfl, rfl⟩) rfl (by decide) rfl wd_173 dX7_init_17 (sg_aload_n (pc := 20) (i := 0) dX7_init_20 (sg_bipush (pc := 21) (by decide) dX7_init_21 (sg_newa (pc := 23) (atype := .int) (ty := .int) (t := 10) (t0 := 0) rfl (fun _ => rfl) (fun _ h => by cases h) (by decide) na_10 wd_279 dX7_init_23 (sg_put2F (pc := 25) cls7 (f := 4) (by decide) (fun _ _ => ⟨rfl, rfl⟩) rfl (by decide) rfl wd_177 dX7_init_25 (sg_aload_n (pc := 28) (i := 0) dX7_init_28 (sg_bipush (pc := 29) (by decide) dX7_init_29 (sg_newa (pc := 31) (atype := .int) (ty := .int) (t := 10) (t0 := 0) rfl (fun _ => rfl) (fun _ h => by cases h) (by decide) na_10 wd_279 dX7_init_31 (sg_put2F (pc := 33) cls7 (f := 5) (by decide) (fun _ _ => ⟨rfl, rfl⟩) rfl (by decide) rfl wd_183 dX7_init_33 (sg_aload_n (pc := 36) (i := 0) dX7_init_36 (sg_bipush (pc := 37) (by decide) dX7_init_37 (sg_newa (pc := 39) (atype := .int) (ty := .int) (t := 10) (t0 := 0) rfl (fun _ => rfl) (fun _ h => by cases h) (by decide) na_10 wd_279 dX7_init_39 (sg_put2F (pc := 41) cls7 (f := 6) (by decide) (fun _ _ => ⟨rfl, rfl⟩) rfl (by decide) rfl wd_188 dX7_init_41 (sg_aload_n (pc := 44) (i := 0) dX7_init_44 (sg_bipush (pc := 45) (by decide) dX7_init_45 (sg_newa (pc := 47) (atype := .int) (ty := .int) (t := 10) (t0 := 0) rfl (fun _ => rfl) (fun _ h => by cases h) (by decide) na_10 wd_279 dX7_init_47 (sg_put2F (pc := 49) cls7 (f := 7) (by decide) (fun _ _ => ⟨rfl, rfl⟩) rfl (by decide) rfl wd_191 dX7_init_49 (sg_aload_n (pc := 52) (i := 0) dX7_init_52 (sg_bipush (pc := 53) (by decide) dX7_init_53 (sg_newa (pc := 55) (atype := .int) (ty := .int) (t := 10) (t0 := 0) rfl (fun _ => rfl) (fun _ h => by cases h) (by decide) na_10 wd_279 dX7_init_55 (sg_put2F (pc := 57) cls7 (f := 9) (by decide) (fun _ _ => ⟨rfl, rfl⟩) rfl (by decide) rfl wd_199 dX7_init_57 (sg_aload_n (pc := 60) (i := 0) dX7_init_60 (sg_bipush (pc := 61) (by decide) dX7_init_61 (sg_newa (pc := 63) (atype := .int) (ty := .int) (t := 10) (t0 := 0) rfl (fun _ => rfl) (fun _ h => by cases h) (by decide) na_10 wd_279 dX7_init_63 (sg_put2F (pc := 65) cls7 (f := 10) (by decide) (fun _ _ => ⟨rfl, rfl⟩) rfl (by decide) rfl wd_204 dX7_init_65 (sg_aload_n (pc := 68) (i := 0) dX7_init_68 (sg_bipush (pc := 69) (by decide) dX7_init_69 (sg_newa (pc := 71) (atype := .int) (ty := .int) (t := 10) (t0 := 0) rfl (fun _ => rfl) (fun _ h => by cases h) (by decide) na_10 wd_279 dX7_init_71 (sg_put2F (pc := 73) cls7 (f := 11) (by decide) (fun _ _ => ⟨rfl, rfl⟩) rfl (by decide) rfl wd_209 dX7_init_73 (sg_aload_n (pc := 76) (i := 0) dX7_init_76 (sg_bipush (pc := 77) (by decide) dX7_init_77 (sg_newa (pc := 79) (atype := .int) (ty := .int) (t := 10) (t0 := 0) rfl (fun _ => rfl) (fun _ h => by cases h) (by decide) na_10 wd_279 dX7_init_79 (sg_put2F (pc := 81) cls7 (f := 13) (by decide) (fun _ _ => ⟨rfl, rfl⟩) rfl (by decide) rfl wd_217 dX7_init_81 (sg_aload_n (pc := 84) (i := 0) dX7_init_84 (sg_bipush (pc := 85) (by decide) dX7_init_85 (sg_newa (pc := 87) (atype := .int) (ty := .int) (t := 10) (t0 := 0) rfl (fun _ => rfl) (fun _ h => by cases h) (by decide) na_10 wd_279 dX7_init_87 (sg_put2F (pc := 89) cls7 (f := 14) (by decide) (fun _ _ => ⟨rfl, rfl⟩) rfl (by decide) rfl wd_221 dX7_init_89 (sg_aload_n (pc := 92) (i := 0) dX7_init_92 (sg_bipush (pc := 93) (by decide) dX7_init_93 (sg_newa (pc := 95) (atype := .int) (ty := .int) (t := 10) (t0 := 0) rfl (fun _ => rfl) (fun _ h => by cases h) (by decide) na_10 wd_279 dX7_init_95 (sg_put2F (pc := 97) cls7 (f := 15) (by decide) (fun _ _ => ⟨rfl, rfl⟩) rfl (by decide) rfl wd_225 dX7_init_97 (sg_aload_n (pc := 100) (i := 0) dX7_init_100 (sg_bipush (pc := 101) (by decide) dX7_init_101 (sg_newa (pc := 103) (atype := .int) (ty := .int) (t := 10) (t0 := 0) rfl (fun _ => rfl) (fun _ h => by cases h) (by decide) na_10 wd_279 dX7_init_103 (sg_put2F (pc := 105) cls7 (f := 16) (by decide) (fun _ _ => ⟨rfl, rfl⟩) rfl (by decide) rfl wd_229 dX7_init_105 (sg_end)))))))))))))))))))))))))))))))))))))))))))))))))))))))

theorem dX0_init_0 : decode cX0_init 0 = .ok (.aload_n 0, 1) := by decide +kernel
theorem dX0_init_1 : decode cX0_init 1 = .ok (.invokespecial 3, 3) := by decide +kernel
theorem dX0_init_4 : decode cX0_init 4 = .ok (.aload_n 0, 1) := by decide +kernel
theorem dX0_init_5 : decode cX0_init 5 = .ok (.sipush 600, 3) := by decide +kernel
theorem dX0_init_8 : decode cX0_init 8 = .ok (.newarray .byte, 2) := by decide +kernel
theorem dX0_init_10 : decode cX0_init 10 = .ok (.putfield 9, 3) := by decide +kernel
theorem dX0_init_13 : decode cX0_init 13 = .ok (.aload_n 0, 1) := by decide +kernel
theorem dX0_init_14 : decode cX0_init 14 = .ok (.iconst (-1), 1) := by decide +kernel
theorem dX0_init_15 : decode cX0_init 15 = .ok (.putfield 15, 3) := by decide +kernel
theorem dX0_init_18 : decode cX0_init 18 = .ok (.aload_n 0, 1) := by decide +kernel
theorem dX0_init_19 : decode cX0_init 19 = .ok (.iconst 2, 1) := by decide +kernel
theorem dX0_init_20 : decode cX0_init 20 = .ok (.anewarray 19, 3) := by decide +kernel
theorem dX0_init_23 : decode cX0_init 23 = .ok (.putfield 21, 3) := by decide +kernel
theorem dX0_init_26 : decode cX0_init 26 = .ok (.iconst 0, 1) := by decide +kernel
theorem dX0_init_27 : decode cX0_init 27 = .ok (.istore_n 1, 1) := by decide +kernel
theorem dX0_init_28 : decode cX0_init 28 = .ok (.iload_n 1, 1) := by decide +kernel
theorem dX0_init_29 : decode cX0_init 29 = .ok (.iconst 2, 1) := by decide +kernel
theorem dX0_init_30 : decode cX0_init 30 = .ok (.if_icmp .ge 22, 3) := by decide +kernel
theorem dX0_init_33 : decode cX0_init 33 = .ok (.aload_n 0, 1) := by decide +kernel
theorem dX0_init_34 : decode cX0_init 34 = .ok (.getfield 21, 3) := by decide +kernel
theorem dX0_init_37 : decode cX0_init 37 = .ok (.iload_n 1, 1) := by decide +kernel
theorem dX0_init_38 : decode cX0_init 38 = .ok (.new 19, 3) := by decide +kernel
theorem dX0_init_41 : decode cX0_init 41 = .ok (.dup, 1) := by decide +kernel
theorem dX0_init_42 : decode cX0_init 42 = .ok (.invokespecial 25, 3) := by decide +kernel
theorem dX0_init_45 : decode cX0_init 45 = .ok (.aastore, 1) := by decide +kernel
theorem dX0_init_46 : decode cX0_init 46 = .ok (.iinc 1 1, 3) := by decide +kernel
theorem dX0_init_49 : decode cX0_init 49 = .ok (.goto (-21), 3) := by decide +kernel
theorem dX0_init_52 : decode cX0_init 52 = .ok (.aload_n 0, 1) := by decide +kernel
theorem dX0_init_53 : decode cX0_init 53 = .ok (.iconst 3, 1) := by decide +kernel
theorem dX0_init_54 : decode cX0_init 54 = .ok (.anewarray 26, 3) := by decide +kernel
theorem dX0_init_57 : decode cX0_init 57 = .ok (.putfield 28, 3) := by decide +kernel
theorem dX0_init_60 : decode cX0_init 60 = .ok (.iconst 0, 1) := by decide +kernel
theorem dX0_init_61 : decode cX0_init 61 = .ok (.istore_n 1, 1) := by decide +kernel
theorem dX0_init_62 : decode cX0_init 62 = .ok (.iload_n 1, 1) := by decide +kernel
theorem dX0_init_63 : decode cX0_init 63 = .ok (.iconst 3, 1) := by decide +kernel
theorem dX0_init_64 : decode cX0_init 64 = .ok (.if_icmp .ge 22, 3) := by decide +kernel
theorem dX0_init_67 : decode cX0_init 67 = .ok (.aload_n 0, 1) := by decide +kernel
theorem dX0_init_68 : decode cX0_init 68 = .ok (.getfield 28, 3) := by decide +kernel
theorem dX0_init_71 : decode cX0_init 71 = .ok (.iload_n 1, 1) := by decide +kernel
theorem dX0_init_72 : decode cX0_init 72 = .ok (.new 26, 3) := by decide +kernel
theorem dX0_init_75 : decode cX0_init 75 = .ok (.dup, 1) := by decide +kernel
theorem dX0_init_76 : decode cX0_init 76 = .ok (.invokespecial 32, 3) := by decide +kernel
theorem dX0_init_79 : decode cX0_init 79 = .ok (.aastore, 1) := by decide +kernel
theorem dX0_init_80 : decode cX0_init 80 = .ok (.iinc 1 1, 3) := by decide +kernel
theorem dX0_init_83 : decode cX0_init 83 = .ok (.goto (-21), 3) := by decide +kernel
theorem dX0_init_86 : decode cX0_init 86 = .ok (.return_, 1) := by decide +kernel
def k_X0_init_62 : Nat → GK
  | 0 => gk_none
  | n + 1 => gk_iload 1 (gk_push (vI 3) (gk_cmplt (gk_aload 0 (gk_getf 0 6 (gk_iload 1 (gk_new 2 (gk_dup (gk_ctor 0 (g_X2_init) (gk_aast 16 2 (gk_iinc 1 1 ((k_X0_init_62 n)))))))))) (gk_end 86)))
set_option maxRecDepth 20000 in
theorem sk_X0_init_62 : ∀ n, SndG RX0 cX0_init 2 2 62 (k_X0_init_62 n) := by
  intro n
  induction n with
  | zero => exact sg_none
  | succ n ih =>
    unfold k_X0_init_62
    exact sg_iload_n (pc := 62) (i := 1) dX0_init_62 (sg_iconst (pc := 63) dX0_init_63 (sg_icmpge (pc := 64) (off := 22) (tgt := 86) (by decide) dX0_init_64 (sg_end) (sg_aload_n (pc := 67) (i := 0) dX0_init_67 (sg_getf (pc := 68) cls0 (f := 6) (by decide) wd_316 dX0_init_68 (sg_iload_n (pc := 71) (i := 1) dX0_init_71 (sg_new (pc := 72) cls2 df_2 wd_280 wd_282 wd_123 dX0_init_72 (sg_dup (pc := 75) dX0_init_75 (sg_ctor (pc := 76) (n := 0) sg_X2_init (by decide) (by decide) wd_285 wd_283 wd_284 wd_123 rfl hy_X2_init dX0_init_76 (sg_aast (pc := 79) (t := 16) (t0 := 6) cls2 (by decide) (fun _ => rfl) dX0_init_79 (sg_iinc (pc := 80) (i := 1) (n := 1) (by decide) dX0_init_80 (sg_goto (pc := 83) (off := (-21)) (tgt := 62) (by decide) dX0_init_83 (ih))))))))))))
def k_X0_init_28 : Nat → GK
  | 0 => gk_none
  | n + 1 => gk_iload 1 (gk_push (vI 2) (gk_cmplt (gk_aload 0 (gk_getf 0 4 (gk_iload 1 (gk_new 7 (gk_dup (gk_ctor 0 (g_X7_init) (gk_aast 15 7 (gk_iinc 1 1 ((k_X0_init_28 n)))))))))) (gk_aload 0 (gk_push (vI 3) (gk_anew 16 (gk_put2 0 6 (gk_push (vI 0) (gk_istore 1 ((k_X0_init_62 10))))))))))
set_option maxRecDepth 20000 in
theorem sk_X0_init_28 : ∀ n, SndG RX0 cX0_init 2 2 28 (k_X0_init_28 n) := by
  intro n
  induction n with
  | zero => exact sg_none
  | succ n ih =>
    unfold k_X0_init_28
    exact sg_iload_n (pc := 28) (i := 1) dX0_init_28 (sg_iconst (pc := 29) dX0_init_29 (sg_icmpge (pc := 30) (off := 22) (tgt := 52) (by decide) dX0_init_30 (sg_aload_n (pc := 52) (i := 0) dX0_init_52 (sg_iconst (pc := 53) dX0_init_53 (sg_anew (pc := 54) (t := 16) (t0 := 6) (CS := "LastWalker$Day") (by decide) (fun _ => rfl) (by decide) wd_280 dX0_init_54 (sg_put2F (pc := 57) cls0 (f := 6) (by decide) (fun _ _ => ⟨rfl, rfl⟩) rfl (by decide) rfl wd_316 dX0_init_57 (sg_iconst (pc := 60) dX0_init_60 (sg_istore_n (pc := 61) (i := 1) (by decide) dX0_init_61 ((sk_X0_init_62 10)))))))) (sg_aload_n (pc := 33) (i := 0) dX0_init_33 (sg_getf (pc := 34) cls0 (f := 4) (by decide) wd_312 dX0_init_34 (sg_iload_n (pc := 37) (i := 1) dX0_init_37 (sg_new (pc := 38) cls7 df_7 wd_152 wd_154 wd_122 dX0_init_38 (sg_dup (pc := 41) dX0_init_41 (sg_ctor (pc := 42) (n := 0) sg_X7_init (by decide) (by decide) wd_157 wd_155 wd_156 wd_122 rfl hy_X7_init dX0_init_42 (sg_aast (pc := 45) (t := 15) (t0 := 5) cls7 (by decide) (fun _ => rfl) dX0_init_45 (sg_iinc (pc := 46) (i := 1) (n := 1) (by decide) dX0_init_46 (sg_goto (pc := 49) (off := (-21)) (tgt := 28) (by decide) dX0_init_49 (ih))))))))))))
def k_X0_init : GK := gk_aload 0 (gk_obj (gk_aload 0 (gk_push (vI 600) (gk_newa 11 (gk_put2 0 0 (gk_aload 0 (gk_push (vI (-1)) (gk_put0 0 3 (gk_aload 0 (gk_push (vI 2) (gk_anew 15 (gk_put2 0 4 (gk_push (vI 0) (gk_istore 1 ((k_X0_init_28 10))))))))))))))))
def g_X0_init : GF := mkG 2 86 k_X0_init
set_option maxRecDepth 20000 in
theorem sg_X0_init : MG yX0_init cX0_init 2 2 g_X0_init := metG (by decide) rfl dX0_init_86 (by
  unfold k_X0_init
  exact sg_aload_n (pc := 0) (i := 0) dX0_init_0 (sg_obj (pc := 1) (by decide) wd_151 wd_144 wd_145 dX0_init_1 (sg_aload_n (pc := 4) (i := 0) dX0_init_4 (sg_sipush (pc := 5) (by decide) dX0_init_5 (sg_newa (pc := 8) (atype := .byte) (ty := .byte) (t := 11) (t0 := 1) rfl (fun _ => rfl) (fun _ h => by cases h) (by decide) na_11 wd_278 dX0_init_8 (sg_put2F (pc := 10) cls0 (f := 0) (by decide) (fun _ _ => ⟨rfl, rfl⟩) rfl (by decide) rfl wd_304 dX0_init_10 (sg_aload_n (pc := 13) (i := 0) dX0_init_13 (sg_iconst (pc := 14) dX0_init_14 (sg_put0 (pc := 15) cls0 (f := 3) (by decide) (fun _ _ => ⟨rfl, rfl⟩) rfl wd_310 dX0_init_15 (sg_aload_n (pc := 18) (i := 0) dX0_init_18 (sg_iconst (pc := 19) dX0_init_19 (sg_anew (pc := 20) (t := 15) (t0 := 5) (CS := "LastWalker$Town") (by decide) (fun _ => rfl) (by decide) wd_152 dX0_init_20 (sg_put2F (pc := 23) cls0 (f := 4) (by decide) (fun _ _ => ⟨rfl, rfl⟩) rfl (by decide) rfl wd_312 dX0_init_23 (sg_iconst (pc := 26) dX0_init_26 (sg_istore_n (pc := 27) (i := 1) (by decide) dX0_init_27 ((sk_X0_init_28 10)))))))))))))))))

theorem dX1_init_0 : decode cX1_init 0 = .ok (.aload_n 0, 1) := by decide +kernel
theorem dX1_init_1 : decode cX1_init 1 = .ok (.invokespecial 3, 3) := by decide +kernel
theorem dX1_init_4 : decode cX1_init 4 = .ok (.aload_n 0, 1) := by decide +kernel
theorem dX1_init_5 : decode cX1_init 5 = .ok (.bipush 9, 2) := by decide +kernel
theorem dX1_init_7 : decode cX1_init 7 = .ok (.newarray .int, 2) := by decide +kernel
theorem dX1_init_9 : decode cX1_init 9 = .ok (.putfield 9, 3) := by decide +kernel
theorem dX1_init_12 : decode cX1_init 12 = .ok (.aload_n 0, 1) := by decide +kernel
theorem dX1_init_13 : decode cX1_init 13 = .ok (.bipush 126, 2) := by decide +kernel
theorem dX1_init_15 : decode cX1_init 15 = .ok (.newarray .int, 2) := by decide +kernel
theorem dX1_init_17 : decode cX1_init 17 = .ok (.putfield 15, 3) := by decide +kernel
theorem dX1_init_20 : decode cX1_init 20 = .ok (.aload_n 0, 1) := by decide +kernel
theorem dX1_init_21 : decode cX1_init 21 = .ok (.bipush 126, 2) := by decide +kernel
theorem dX1_init_23 : decode cX1_init 23 = .ok (.newarray .int, 2) := by decide +kernel
theorem dX1_init_25 : decode cX1_init 25 = .ok (.putfield 18, 3) := by decide +kernel
theorem dX1_init_28 : decode cX1_init 28 = .ok (.aload_n 0, 1) := by decide +kernel
theorem dX1_init_29 : decode cX1_init 29 = .ok (.bipush 81, 2) := by decide +kernel
theorem dX1_init_31 : decode cX1_init 31 = .ok (.newarray .int, 2) := by decide +kernel
theorem dX1_init_33 : decode cX1_init 33 = .ok (.putfield 21, 3) := by decide +kernel
theorem dX1_init_36 : decode cX1_init 36 = .ok (.aload_n 0, 1) := by decide +kernel
theorem dX1_init_37 : decode cX1_init 37 = .ok (.bipush 98, 2) := by decide +kernel
theorem dX1_init_39 : decode cX1_init 39 = .ok (.newarray .long, 2) := by decide +kernel
theorem dX1_init_41 : decode cX1_init 41 = .ok (.putfield 24, 3) := by decide +kernel
theorem dX1_init_44 : decode cX1_init 44 = .ok (.return_, 1) := by decide +kernel
def k_X1_init : GK := gk_aload 0 (gk_obj (gk_aload 0 (gk_push (vI 9) (gk_newa 10 (gk_put2 1 0 (gk_aload 0 (gk_push (vI 126) (gk_newa 10 (gk_put2 1 1 (gk_aload 0 (gk_push (vI 126) (gk_newa 10 (gk_put2 1 2 (gk_aload 0 (gk_push (vI 81) (gk_newa 10 (gk_put2 1 3 (gk_aload 0 (gk_push (vI 98) (gk_newa 13 (gk_put2 1 4 (gk_end 44))))))))))))))))))))))
def g_X1_init : GF := mkG 1 44 k_X1_init
set_option maxRecDepth 20000 in
theorem sg_X1_init : MG yX1_init cX1_init 1 1 g_X1_init := metG (by decide) rfl dX1_init_44 (by
  unfold k_X1_init
  exact sg_aload_n (pc := 0) (i := 0) dX1_init_0 (sg_obj (pc := 1) (by decide) wd_444 wd_144 wd_145 dX1_init_1 (sg_aload_n (pc := 4) (i := 0) dX1_init_4 (sg_bipush (pc := 5) (by decide) dX1_init_5 (sg_newa (pc := 7) (atype := .int) (ty := .int) (t := 10) (t0 := 0) rfl (fun _ => rfl) (fun _ h => by cases h) (by decide) na_10 wd_279 dX1_init_7 (sg_put2F (pc := 9) cls1 (f := 0) (by decide) (fun _ _ => ⟨rfl, rfl⟩) rfl (by decide) rfl wd_445 dX1_init_9 (sg_aload_n (pc := 12) (i := 0) dX1_init_12 (sg_bipush (pc := 13) (by decide) dX1_init_13 (sg_newa (pc := 15) (atype := .int) (ty := .int) (t := 10) (t0 := 0) rfl (fun _ => rfl) (fun _ h => by cases h) (by decide) na_10 wd_279 dX1_init_15 (sg_put2F (pc := 17) cls1 (f := 1) (by decide) (fun _ _ => ⟨rfl, rfl⟩) rfl (by decide) rfl wd_447 dX1_init_17 (sg_aload_n (pc := 20) (i := 0) dX1_init_20 (sg_bipush (pc := 21) (by decide) dX1_init_21 (sg_newa (pc := 23) (atype := .int) (ty := .int) (t := 10) (t0 := 0) rfl (fun _ => rfl) (fun _ h => by cases h) (by decide) na_10 wd_279 dX1_init_23 (sg_put2F (pc := 25) cls1 (f := 2) (by decide) (fun _ _ => ⟨rfl, rfl⟩) rfl (by decide) rfl wd_449 dX1_init_25 (sg_aload_n (pc := 28) (i := 0) dX1_init_28 (sg_bipush (pc := 29) (by decide) dX1_init_29 (sg_newa (pc := 31) (atype := .int) (ty := .int) (t := 10) (t0 := 0) rfl (fun _ => rfl) (fun _ h => by cases h) (by decide) na_10 wd_279 dX1_init_31 (sg_put2F (pc := 33) cls1 (f := 3) (by decide) (fun _ _ => ⟨rfl, rfl⟩) rfl (by decide) rfl wd_451 dX1_init_33 (sg_aload_n (pc := 36) (i := 0) dX1_init_36 (sg_bipush (pc := 37) (by decide) dX1_init_37 (sg_newa (pc := 39) (atype := .long) (ty := .long) (t := 13) (t0 := 3) rfl (fun _ => rfl) (fun _ h => by cases h) (by decide) na_13 wd_468 dX1_init_39 (sg_put2F (pc := 41) cls1 (f := 4) (by decide) (fun _ _ => ⟨rfl, rfl⟩) rfl (by decide) rfl wd_455 dX1_init_41 (sg_end)))))))))))))))))))))))

theorem dX5_init_0 : decode cX5_init 0 = .ok (.aload_n 0, 1) := by decide +kernel
theorem dX5_init_1 : decode cX5_init 1 = .ok (.invokespecial 3, 3) := by decide +kernel
theorem dX5_init_4 : decode cX5_init 4 = .ok (.aload_n 0, 1) := by decide +kernel
theorem dX5_init_5 : decode cX5_init 5 = .ok (.new 9, 3) := by decide +kernel
theorem dX5_init_8 : decode cX5_init 8 = .ok (.dup, 1) := by decide +kernel
theorem dX5_init_9 : decode cX5_init 9 = .ok (.invokespecial 11, 3) := by decide +kernel
theorem dX5_init_12 : decode cX5_init 12 = .ok (.putfield 12, 3) := by decide +kernel
theorem dX5_init_15 : decode cX5_init 15 = .ok (.aload_n 0, 1) := by decide +kernel
theorem dX5_init_16 : decode cX5_init 16 = .ok (.new 18, 3) := by decide +kernel
theorem dX5_init_19 : decode cX5_init 19 = .ok (.dup, 1) := by decide +kernel
theorem dX5_init_20 : decode cX5_init 20 = .ok (.invokespecial 20, 3) := by decide +kernel
theorem dX5_init_23 : decode cX5_init 23 = .ok (.putfield 21, 3) := by decide +kernel
theorem dX5_init_26 : decode cX5_init 26 = .ok (.aload_n 0, 1) := by decide +kernel
theorem dX5_init_27 : decode cX5_init 27 = .ok (.iconst 0, 1) := by decide +kernel
theorem dX5_init_28 : decode cX5_init 28 = .ok (.newarray .byte, 2) := by decide +kernel
theorem dX5_init_30 : decode cX5_init 30 = .ok (.putfield 25, 3) := by decide +kernel
theorem dX5_init_33 : decode cX5_init 33 = .ok (.aload_n 0, 1) := by decide +kernel
theorem dX5_init_34 : decode cX5_init 34 = .ok (.iconst 4, 1) := by decide +kernel
theorem dX5_init_35 : decode cX5_init 35 = .ok (.newarray .int, 2) := by decide +kernel
theorem dX5_init_37 : decode cX5_init 37 = .ok (.putfield 29, 3) := by decide +kernel
theorem dX5_init_40 : decode cX5_init 40 = .ok (.aload_n 0, 1) := by decide +kernel
theorem dX5_init_41 : decode cX5_init 41 = .ok (.iconst 4, 1) := by decide +kernel
theorem dX5_init_42 : decode cX5_init 42 = .ok (.newarray .int, 2) := by decide +kernel
theorem dX5_init_44 : decode cX5_init 44 = .ok (.putfield 33, 3) := by decide +kernel
theorem dX5_init_47 : decode cX5_init 47 = .ok (.return_, 1) := by decide +kernel
def k_X5_init : GK := gk_aload 0 (gk_obj (gk_aload 0 (gk_new 7 (gk_dup (gk_ctor 0 (g_X7_init) (gk_put2 5 0 (gk_aload 0 (gk_new 2 (gk_dup (gk_ctor 0 (g_X2_init) (gk_put2 5 1 (gk_aload 0 (gk_push (vI 0) (gk_newa 11 (gk_put2 5 4 (gk_aload 0 (gk_push (vI 4) (gk_newa 10 (gk_put2 5 11 (gk_aload 0 (gk_push (vI 4) (gk_newa 10 (gk_put2 5 12 (gk_end 47))))))))))))))))))))))))
def g_X5_init : GF := mkG 1 47 k_X5_init
set_option maxRecDepth 20000 in
theorem sg_X5_init : MG yX5_init cX5_init 1 2 g_X5_init := metG (by decide) rfl dX5_init_47 (by
  unfold k_X5_init
  exact sg_aload_n (pc := 0) (i := 0) dX5_init_0 (sg_obj (pc := 1) (by decide) wd_346 wd_144 wd_145 dX5_init_1 (sg_aload_n (pc := 4) (i := 0) dX5_init_4 (sg_new (pc := 5) cls7 df_7 wd_347 wd_154 wd_122 dX5_init_5 (sg_dup (pc := 8) dX5_init_8 (sg_ctor (pc := 9) (n := 0) sg_X7_init (by decide) (by decide) wd_157 wd_348 wd_156 wd_122 rfl hy_X7_init dX5_init_9 (sg_put2F (pc := 12) cls5 (f := 0) (by decide) (fun _ _ => ⟨rfl, rfl⟩) rfl (by decide) rfl wd_351 dX5_init_12 (sg_aload_n (pc := 15) (i := 0) dX5_init_15 (sg_new (pc := 16) cls2 df_2 wd_349 wd_282 wd_123 dX5_init_16 (sg_dup (pc := 19) dX5_init_19 (sg_ctor (pc := 20) (n := 0) sg_X2_init (by decide) (by decide) wd_285 wd_350 wd_284 wd_123 rfl hy_X2_init dX5_init_20 (sg_put2F (pc := 23) cls5 (f := 1) (by decide) (fun _ _ => ⟨rfl, rfl⟩) rfl (by decide) rfl wd_353 dX5_init_23 (sg_aload_n (pc := 26) (i := 0) dX5_init_26 (sg_iconst (pc := 27) dX5_init_27 (sg_newa (pc := 28) (atype := .byte) (ty := .byte) (t := 11) (t0 := 1) rfl (fun _ => rfl) (fun _ h => by cases h) (by decide) na_11 wd_278 dX5_init_28 (sg_put2 (pc := 30) cls5 (f := 4) (by decide) (fun _ _ => ⟨rfl, rfl⟩) rfl wd_359 dX5_init_30 (sg_aload_n (pc := 33) (i := 0) dX5_init_33 (sg_iconst (pc := 34) dX5_init_34 (sg_newa (pc := 35) (atype := .int) (ty := .int) (t := 10) (t0 := 0) rfl (fun _ => rfl) (fun _ h => by cases h) (by decide) na_10 wd_279 dX5_init_35 (sg_put2F (pc := 37) cls5 (f := 11) (by decide) (fun _ _ => ⟨rfl, rfl⟩) rfl (by decide) rfl wd_366 dX5_init_37 (sg_aload_n (pc := 40) (i := 0) dX5_init_40 (sg_iconst (pc := 41) dX5_init_41 (sg_newa (pc := 42) (atype := .int) (ty := .int) (t := 10) (t0 := 0) rfl (fun _ => rfl) (fun _ h => by cases h) (by decide) na_10 wd_279 dX5_init_42 (sg_put2F (pc := 44) cls5 (f := 12) (by decide) (fun _ _ => ⟨rfl, rfl⟩) rfl (by decide) rfl wd_367 dX5_init_44 (sg_end)))))))))))))))))))))))))

theorem dX6_init_0 : decode cX6_init 0 = .ok (.aload_n 0, 1) := by decide +kernel
theorem dX6_init_1 : decode cX6_init 1 = .ok (.invokespecial 3, 3) := by decide +kernel
theorem dX6_init_4 : decode cX6_init 4 = .ok (.aload_n 0, 1) := by decide +kernel
theorem dX6_init_5 : decode cX6_init 5 = .ok (.bipush 14, 2) := by decide +kernel
theorem dX6_init_7 : decode cX6_init 7 = .ok (.newarray .int, 2) := by decide +kernel
theorem dX6_init_9 : decode cX6_init 9 = .ok (.putfield 9, 3) := by decide +kernel
theorem dX6_init_12 : decode cX6_init 12 = .ok (.aload_n 0, 1) := by decide +kernel
theorem dX6_init_13 : decode cX6_init 13 = .ok (.bipush 8, 2) := by decide +kernel
theorem dX6_init_15 : decode cX6_init 15 = .ok (.newarray .int, 2) := by decide +kernel
theorem dX6_init_17 : decode cX6_init 17 = .ok (.putfield 15, 3) := by decide +kernel
theorem dX6_init_20 : decode cX6_init 20 = .ok (.aload_n 0, 1) := by decide +kernel
theorem dX6_init_21 : decode cX6_init 21 = .ok (.bipush 8, 2) := by decide +kernel
theorem dX6_init_23 : decode cX6_init 23 = .ok (.newarray .int, 2) := by decide +kernel
theorem dX6_init_25 : decode cX6_init 25 = .ok (.putfield 18, 3) := by decide +kernel
theorem dX6_init_28 : decode cX6_init 28 = .ok (.aload_n 0, 1) := by decide +kernel
theorem dX6_init_29 : decode cX6_init 29 = .ok (.bipush 8, 2) := by decide +kernel
theorem dX6_init_31 : decode cX6_init 31 = .ok (.newarray .int, 2) := by decide +kernel
theorem dX6_init_33 : decode cX6_init 33 = .ok (.putfield 21, 3) := by decide +kernel
theorem dX6_init_36 : decode cX6_init 36 = .ok (.aload_n 0, 1) := by decide +kernel
theorem dX6_init_37 : decode cX6_init 37 = .ok (.bipush 64, 2) := by decide +kernel
theorem dX6_init_39 : decode cX6_init 39 = .ok (.newarray .int, 2) := by decide +kernel
theorem dX6_init_41 : decode cX6_init 41 = .ok (.putfield 24, 3) := by decide +kernel
theorem dX6_init_44 : decode cX6_init 44 = .ok (.return_, 1) := by decide +kernel
def k_X6_init : GK := gk_aload 0 (gk_obj (gk_aload 0 (gk_push (vI 14) (gk_newa 10 (gk_put2 6 3 (gk_aload 0 (gk_push (vI 8) (gk_newa 10 (gk_put2 6 4 (gk_aload 0 (gk_push (vI 8) (gk_newa 10 (gk_put2 6 5 (gk_aload 0 (gk_push (vI 8) (gk_newa 10 (gk_put2 6 6 (gk_aload 0 (gk_push (vI 64) (gk_newa 10 (gk_put2 6 7 (gk_end 44))))))))))))))))))))))
def g_X6_init : GF := mkG 1 44 k_X6_init
set_option maxRecDepth 20000 in
theorem sg_X6_init : MG yX6_init cX6_init 1 1 g_X6_init := metG (by decide) rfl dX6_init_44 (by
  unfold k_X6_init
  exact sg_aload_n (pc := 0) (i := 0) dX6_init_0 (sg_obj (pc := 1) (by decide) wd_400 wd_144 wd_145 dX6_init_1 (sg_aload_n (pc := 4) (i := 0) dX6_init_4 (sg_bipush (pc := 5) (by decide) dX6_init_5 (sg_newa (pc := 7) (atype := .int) (ty := .int) (t := 10) (t0 := 0) rfl (fun _ => rfl) (fun _ h => by cases h) (by decide) na_10 wd_279 dX6_init_7 (sg_put2F (pc := 9) cls6 (f := 3) (by decide) (fun _ _ => ⟨rfl, rfl⟩) rfl (by decide) rfl wd_407 dX6_init_9 (sg_aload_n (pc := 12) (i := 0) dX6_init_12 (sg_bipush (pc := 13) (by decide) dX6_init_13 (sg_newa (pc := 15) (atype := .int) (ty := .int) (t := 10) (t0 := 0) rfl (fun _ => rfl) (fun _ h => by cases h) (by decide) na_10 wd_279 dX6_init_15 (sg_put2F (pc := 17) cls6 (f := 4) (by decide) (fun _ _ => ⟨rfl, rfl⟩) rfl (by decide) rfl wd_409 dX6_init_17 (sg_aload_n (pc := 20) (i := 0) dX6_init_20 (sg_bipush (pc := 21) (by decide) dX6_init_21 (sg_newa (pc := 23) (atype := .int) (ty := .int) (t := 10) (t0 := 0) rfl (fun _ => rfl) (fun _ h => by cases h) (by decide) na_10 wd_279 dX6_init_23 (sg_put2F (pc := 25) cls6 (f := 5) (by decide) (fun _ _ => ⟨rfl, rfl⟩) rfl (by decide) rfl wd_411 dX6_init_25 (sg_aload_n (pc := 28) (i := 0) dX6_init_28 (sg_bipush (pc := 29) (by decide) dX6_init_29 (sg_newa (pc := 31) (atype := .int) (ty := .int) (t := 10) (t0 := 0) rfl (fun _ => rfl) (fun _ h => by cases h) (by decide) na_10 wd_279 dX6_init_31 (sg_put2F (pc := 33) cls6 (f := 6) (by decide) (fun _ _ => ⟨rfl, rfl⟩) rfl (by decide) rfl wd_413 dX6_init_33 (sg_aload_n (pc := 36) (i := 0) dX6_init_36 (sg_bipush (pc := 37) (by decide) dX6_init_37 (sg_newa (pc := 39) (atype := .int) (ty := .int) (t := 10) (t0 := 0) rfl (fun _ => rfl) (fun _ h => by cases h) (by decide) na_10 wd_279 dX6_init_39 (sg_put2F (pc := 41) cls6 (f := 7) (by decide) (fun _ _ => ⟨rfl, rfl⟩) rfl (by decide) rfl wd_414 dX6_init_41 (sg_end)))))))))))))))))))))))

theorem dX3_init_0 : decode cX3_init 0 = .ok (.aload_n 0, 1) := by decide +kernel
theorem dX3_init_1 : decode cX3_init 1 = .ok (.invokespecial 3, 3) := by decide +kernel
theorem dX3_init_4 : decode cX3_init 4 = .ok (.aload_n 0, 1) := by decide +kernel
theorem dX3_init_5 : decode cX3_init 5 = .ok (.new 9, 3) := by decide +kernel
theorem dX3_init_8 : decode cX3_init 8 = .ok (.dup, 1) := by decide +kernel
theorem dX3_init_9 : decode cX3_init 9 = .ok (.invokespecial 11, 3) := by decide +kernel
theorem dX3_init_12 : decode cX3_init 12 = .ok (.putfield 12, 3) := by decide +kernel
theorem dX3_init_15 : decode cX3_init 15 = .ok (.aload_n 0, 1) := by decide +kernel
theorem dX3_init_16 : decode cX3_init 16 = .ok (.bipush 9, 2) := by decide +kernel
theorem dX3_init_18 : decode cX3_init 18 = .ok (.newarray .int, 2) := by decide +kernel
theorem dX3_init_20 : decode cX3_init 20 = .ok (.putfield 18, 3) := by decide +kernel
theorem dX3_init_23 : decode cX3_init 23 = .ok (.aload_n 0, 1) := by decide +kernel
theorem dX3_init_24 : decode cX3_init 24 = .ok (.bipush 9, 2) := by decide +kernel
theorem dX3_init_26 : decode cX3_init 26 = .ok (.newarray .int, 2) := by decide +kernel
theorem dX3_init_28 : decode cX3_init 28 = .ok (.putfield 22, 3) := by decide +kernel
theorem dX3_init_31 : decode cX3_init 31 = .ok (.aload_n 0, 1) := by decide +kernel
theorem dX3_init_32 : decode cX3_init 32 = .ok (.bipush 14, 2) := by decide +kernel
theorem dX3_init_34 : decode cX3_init 34 = .ok (.newarray .long, 2) := by decide +kernel
theorem dX3_init_36 : decode cX3_init 36 = .ok (.putfield 25, 3) := by decide +kernel
theorem dX3_init_39 : decode cX3_init 39 = .ok (.aload_n 0, 1) := by decide +kernel
theorem dX3_init_40 : decode cX3_init 40 = .ok (.bipush 14, 2) := by decide +kernel
theorem dX3_init_42 : decode cX3_init 42 = .ok (.newarray .int, 2) := by decide +kernel
theorem dX3_init_44 : decode cX3_init 44 = .ok (.putfield 29, 3) := by decide +kernel
theorem dX3_init_47 : decode cX3_init 47 = .ok (.aload_n 0, 1) := by decide +kernel
theorem dX3_init_48 : decode cX3_init 48 = .ok (.bipush 14, 2) := by decide +kernel
theorem dX3_init_50 : decode cX3_init 50 = .ok (.newarray .long, 2) := by decide +kernel
theorem dX3_init_52 : decode cX3_init 52 = .ok (.putfield 32, 3) := by decide +kernel
theorem dX3_init_55 : decode cX3_init 55 = .ok (.aload_n 0, 1) := by decide +kernel
theorem dX3_init_56 : decode cX3_init 56 = .ok (.new 35, 3) := by decide +kernel
theorem dX3_init_59 : decode cX3_init 59 = .ok (.dup, 1) := by decide +kernel
theorem dX3_init_60 : decode cX3_init 60 = .ok (.invokespecial 37, 3) := by decide +kernel
theorem dX3_init_63 : decode cX3_init 63 = .ok (.putfield 38, 3) := by decide +kernel
theorem dX3_init_66 : decode cX3_init 66 = .ok (.aload_n 0, 1) := by decide +kernel
theorem dX3_init_67 : decode cX3_init 67 = .ok (.bipush 14, 2) := by decide +kernel
theorem dX3_init_69 : decode cX3_init 69 = .ok (.newarray .int, 2) := by decide +kernel
theorem dX3_init_71 : decode cX3_init 71 = .ok (.putfield 42, 3) := by decide +kernel
theorem dX3_init_74 : decode cX3_init 74 = .ok (.return_, 1) := by decide +kernel
def k_X3_init : GK := gk_aload 0 (gk_obj (gk_aload 0 (gk_new 1 (gk_dup (gk_ctor 0 (g_X1_init) (gk_put2 3 0 (gk_aload 0 (gk_push (vI 9) (gk_newa 10 (gk_put2 3 1 (gk_aload 0 (gk_push (vI 9) (gk_newa 10 (gk_put2 3 6 (gk_aload 0 (gk_push (vI 14) (gk_newa 13 (gk_put2 3 7 (gk_aload 0 (gk_push (vI 14) (gk_newa 10 (gk_put2 3 8 (gk_aload 0 (gk_push (vI 14) (gk_newa 13 (gk_put2 3 9 (gk_aload 0 (gk_new 7 (gk_dup (gk_ctor 0 (g_X7_init) (gk_put2 3 10 (gk_aload 0 (gk_push (vI 14) (gk_newa 10 (gk_put2 3 11 (gk_end 74))))))))))))))))))))))))))))))))))))
def g_X3_init : GF := mkG 1 74 k_X3_init
set_option maxRecDepth 20000 in
theorem sg_X3_init : MG yX3_init cX3_init 1 2 g_X3_init := metG (by decide) rfl dX3_init_74 (by
  unfold k_X3_init
  exact sg_aload_n (pc := 0) (i := 0) dX3_init_0 (sg_obj (pc := 1) (by decide) wd_438 wd_144 wd_145 dX3_init_1 (sg_aload_n (pc := 4) (i := 0) dX3_init_4 (sg_new (pc := 5) cls1 df_1 wd_439 wd_440 wd_127 dX3_init_5 (sg_dup (pc := 8) dX3_init_8 (sg_ctor (pc := 9) (n := 0) sg_X1_init (by decide) (by decide) wd_443 wd_441 wd_442 wd_127 rfl hy_X1_init dX3_init_9 (sg_put2F (pc := 12) cls3 (f := 0) (by decide) (fun _ _ => ⟨rfl, rfl⟩) rfl (by decide) rfl wd_471 dX3_init_12 (sg_aload_n (pc := 15) (i := 0) dX3_init_15 (sg_bipush (pc := 16) (by decide) dX3_init_16 (sg_newa (pc := 18) (atype := .int) (ty := .int) (t := 10) (t0 := 0) rfl (fun _ => rfl) (fun _ h => by cases h) (by decide) na_10 wd_279 dX3_init_18 (sg_put2F (pc := 20) cls3 (f := 1) (by decide) (fun _ _ => ⟨rfl, rfl⟩) rfl (by decide) rfl wd_474 dX3_init_20 (sg_aload_n (pc := 23) (i := 0) dX3_init_23 (sg_bipush (pc := 24) (by decide) dX3_init_24 (sg_newa (pc := 26) (atype := .int) (ty := .int) (t := 10) (t0 := 0) rfl (fun _ => rfl) (fun _ h => by cases h) (by decide) na_10 wd_279 dX3_init_26 (sg_put2F (pc := 28) cls3 (f := 6) (by decide) (fun _ _ => ⟨rfl, rfl⟩) rfl (by decide) rfl wd_486 dX3_init_28 (sg_aload_n (pc := 31) (i := 0) dX3_init_31 (sg_bipush (pc := 32) (by decide) dX3_init_32 (sg_newa (pc := 34) (atype := .long) (ty := .long) (t := 13) (t0 := 3) rfl (fun _ => rfl) (fun _ h => by cases h) (by decide) na_13 wd_468 dX3_init_34 (sg_put2F (pc := 36) cls3 (f := 7) (by decide) (fun _ _ => ⟨rfl, rfl⟩) rfl (by decide) rfl wd_487 dX3_init_36 (sg_aload_n (pc := 39) (i := 0) dX3_init_39 (sg_bipush (pc := 40) (by decide) dX3_init_40 (sg_newa (pc := 42) (atype := .int) (ty := .int) (t := 10) (t0 := 0) rfl (fun _ => rfl) (fun _ h => by cases h) (by decide) na_10 wd_279 dX3_init_42 (sg_put2F (pc := 44) cls3 (f := 8) (by decide) (fun _ _ => ⟨rfl, rfl⟩) rfl (by decide) rfl wd_488 dX3_init_44 (sg_aload_n (pc := 47) (i := 0) dX3_init_47 (sg_bipush (pc := 48) (by decide) dX3_init_48 (sg_newa (pc := 50) (atype := .long) (ty := .long) (t := 13) (t0 := 3) rfl (fun _ => rfl) (fun _ h => by cases h) (by decide) na_13 wd_468 dX3_init_50 (sg_put2F (pc := 52) cls3 (f := 9) (by decide) (fun _ _ => ⟨rfl, rfl⟩) rfl (by decide) rfl wd_489 dX3_init_52 (sg_aload_n (pc := 55) (i := 0) dX3_init_55 (sg_new (pc := 56) cls7 df_7 wd_469 wd_154 wd_122 dX3_init_56 (sg_dup (pc := 59) dX3_init_59 (sg_ctor (pc := 60) (n := 0) sg_X7_init (by decide) (by decide) wd_157 wd_470 wd_156 wd_122 rfl hy_X7_init dX3_init_60 (sg_put2 (pc := 63) cls3 (f := 10) (by decide) (fun _ _ => ⟨rfl, rfl⟩) rfl wd_490 dX3_init_63 (sg_aload_n (pc := 66) (i := 0) dX3_init_66 (sg_bipush (pc := 67) (by decide) dX3_init_67 (sg_newa (pc := 69) (atype := .int) (ty := .int) (t := 10) (t0 := 0) rfl (fun _ => rfl) (fun _ h => by cases h) (by decide) na_10 wd_279 dX3_init_69 (sg_put2 (pc := 71) cls3 (f := 11) (by decide) (fun _ _ => ⟨rfl, rfl⟩) rfl wd_491 dX3_init_71 (sg_end)))))))))))))))))))))))))))))))))))))

theorem dX4_init_0 : decode cX4_init 0 = .ok (.aload_n 0, 1) := by decide +kernel
theorem dX4_init_1 : decode cX4_init 1 = .ok (.invokespecial 3, 3) := by decide +kernel
theorem dX4_init_4 : decode cX4_init 4 = .ok (.aload_n 0, 1) := by decide +kernel
theorem dX4_init_5 : decode cX4_init 5 = .ok (.aload_n 1, 1) := by decide +kernel
theorem dX4_init_6 : decode cX4_init 6 = .ok (.putfield 9, 3) := by decide +kernel
theorem dX4_init_9 : decode cX4_init 9 = .ok (.aload_n 0, 1) := by decide +kernel
theorem dX4_init_10 : decode cX4_init 10 = .ok (.bipush 14, 2) := by decide +kernel
theorem dX4_init_12 : decode cX4_init 12 = .ok (.newarray .int, 2) := by decide +kernel
theorem dX4_init_14 : decode cX4_init 14 = .ok (.putfield 15, 3) := by decide +kernel
theorem dX4_init_17 : decode cX4_init 17 = .ok (.aload_n 0, 1) := by decide +kernel
theorem dX4_init_18 : decode cX4_init 18 = .ok (.bipush 14, 2) := by decide +kernel
theorem dX4_init_20 : decode cX4_init 20 = .ok (.newarray .int, 2) := by decide +kernel
theorem dX4_init_22 : decode cX4_init 22 = .ok (.putfield 19, 3) := by decide +kernel
theorem dX4_init_25 : decode cX4_init 25 = .ok (.aload_n 0, 1) := by decide +kernel
theorem dX4_init_26 : decode cX4_init 26 = .ok (.bipush 14, 2) := by decide +kernel
theorem dX4_init_28 : decode cX4_init 28 = .ok (.newarray .int, 2) := by decide +kernel
theorem dX4_init_30 : decode cX4_init 30 = .ok (.putfield 22, 3) := by decide +kernel
theorem dX4_init_33 : decode cX4_init 33 = .ok (.aload_n 0, 1) := by decide +kernel
theorem dX4_init_34 : decode cX4_init 34 = .ok (.bipush 8, 2) := by decide +kernel
theorem dX4_init_36 : decode cX4_init 36 = .ok (.newarray .int, 2) := by decide +kernel
theorem dX4_init_38 : decode cX4_init 38 = .ok (.putfield 25, 3) := by decide +kernel
theorem dX4_init_41 : decode cX4_init 41 = .ok (.aload_n 0, 1) := by decide +kernel
theorem dX4_init_42 : decode cX4_init 42 = .ok (.bipush 8, 2) := by decide +kernel
theorem dX4_init_44 : decode cX4_init 44 = .ok (.newarray .int, 2) := by decide +kernel
theorem dX4_init_46 : decode cX4_init 46 = .ok (.putfield 28, 3) := by decide +kernel
theorem dX4_init_49 : decode cX4_init 49 = .ok (.aload_n 0, 1) := by decide +kernel
theorem dX4_init_50 : decode cX4_init 50 = .ok (.bipush 8, 2) := by decide +kernel
theorem dX4_init_52 : decode cX4_init 52 = .ok (.newarray .int, 2) := by decide +kernel
theorem dX4_init_54 : decode cX4_init 54 = .ok (.putfield 31, 3) := by decide +kernel
theorem dX4_init_57 : decode cX4_init 57 = .ok (.aload_n 0, 1) := by decide +kernel
theorem dX4_init_58 : decode cX4_init 58 = .ok (.bipush 8, 2) := by decide +kernel
theorem dX4_init_60 : decode cX4_init 60 = .ok (.newarray .int, 2) := by decide +kernel
theorem dX4_init_62 : decode cX4_init 62 = .ok (.putfield 34, 3) := by decide +kernel
theorem dX4_init_65 : decode cX4_init 65 = .ok (.aload_n 0, 1) := by decide +kernel
theorem dX4_init_66 : decode cX4_init 66 = .ok (.bipush 8, 2) := by decide +kernel
theorem dX4_init_68 : decode cX4_init 68 = .ok (.newarray .int, 2) := by decide +kernel
theorem dX4_init_70 : decode cX4_init 70 = .ok (.putfield 37, 3) := by decide +kernel
theorem dX4_init_73 : decode cX4_init 73 = .ok (.aload_n 0, 1) := by decide +kernel
theorem dX4_init_74 : decode cX4_init 74 = .ok (.bipush 8, 2) := by decide +kernel
theorem dX4_init_76 : decode cX4_init 76 = .ok (.newarray .int, 2) := by decide +kernel
theorem dX4_init_78 : decode cX4_init 78 = .ok (.putfield 40, 3) := by decide +kernel
theorem dX4_init_81 : decode cX4_init 81 = .ok (.aload_n 0, 1) := by decide +kernel
theorem dX4_init_82 : decode cX4_init 82 = .ok (.bipush 12, 2) := by decide +kernel
theorem dX4_init_84 : decode cX4_init 84 = .ok (.newarray .int, 2) := by decide +kernel
theorem dX4_init_86 : decode cX4_init 86 = .ok (.putfield 43, 3) := by decide +kernel
theorem dX4_init_89 : decode cX4_init 89 = .ok (.return_, 1) := by decide +kernel
def k_X4_init : GK := gk_aload 0 (gk_obj (gk_aload 0 (gk_aload 1 (gk_put2 4 5 (gk_aload 0 (gk_push (vI 14) (gk_newa 10 (gk_put2 4 0 (gk_aload 0 (gk_push (vI 14) (gk_newa 10 (gk_put2 4 1 (gk_aload 0 (gk_push (vI 14) (gk_newa 10 (gk_put2 4 2 (gk_aload 0 (gk_push (vI 8) (gk_newa 10 (gk_put2 4 6 (gk_aload 0 (gk_push (vI 8) (gk_newa 10 (gk_put2 4 7 (gk_aload 0 (gk_push (vI 8) (gk_newa 10 (gk_put2 4 8 (gk_aload 0 (gk_push (vI 8) (gk_newa 10 (gk_put2 4 9 (gk_aload 0 (gk_push (vI 8) (gk_newa 10 (gk_put2 4 10 (gk_aload 0 (gk_push (vI 8) (gk_newa 10 (gk_put2 4 11 (gk_aload 0 (gk_push (vI 12) (gk_newa 10 (gk_put2 4 12 (gk_end 89)))))))))))))))))))))))))))))))))))))))))))))
def g_X4_init : GF := mkG 2 89 k_X4_init
set_option maxRecDepth 20000 in
theorem sg_X4_init : MG yX4_init cX4_init 2 1 g_X4_init := metG (by decide) rfl dX4_init_89 (by
  unfold k_X4_init
  exact sg_aload_n (pc := 0) (i := 0) dX4_init_0 (sg_obj (pc := 1) (by decide) wd_540 wd_144 wd_145 dX4_init_1 (sg_aload_n (pc := 4) (i := 0) dX4_init_4 (sg_aload_n (pc := 5) (i := 1) dX4_init_5 (sg_put2F (pc := 6) cls4 (f := 5) (by decide) (fun _ _ => ⟨rfl, rfl⟩) rfl (by decide) rfl wd_551 dX4_init_6 (sg_aload_n (pc := 9) (i := 0) dX4_init_9 (sg_bipush (pc := 10) (by decide) dX4_init_10 (sg_newa (pc := 12) (atype := .int) (ty := .int) (t := 10) (t0 := 0) rfl (fun _ => rfl) (fun _ h => by cases h) (by decide) na_10 wd_279 dX4_init_12 (sg_put2F (pc := 14) cls4 (f := 0) (by decide) (fun _ _ => ⟨rfl, rfl⟩) rfl (by decide) rfl wd_541 dX4_init_14 (sg_aload_n (pc := 17) (i := 0) dX4_init_17 (sg_bipush (pc := 18) (by decide) dX4_init_18 (sg_newa (pc := 20) (atype := .int) (ty := .int) (t := 10) (t0 := 0) rfl (fun _ => rfl) (fun _ h => by cases h) (by decide) na_10 wd_279 dX4_init_20 (sg_put2F (pc := 22) cls4 (f := 1) (by decide) (fun _ _ => ⟨rfl, rfl⟩) rfl (by decide) rfl wd_543 dX4_init_22 (sg_aload_n (pc := 25) (i := 0) dX4_init_25 (sg_bipush (pc := 26) (by decide) dX4_init_26 (sg_newa (pc := 28) (atype := .int) (ty := .int) (t := 10) (t0 := 0) rfl (fun _ => rfl) (fun _ h => by cases h) (by decide) na_10 wd_279 dX4_init_28 (sg_put2F (pc := 30) cls4 (f := 2) (by decide) (fun _ _ => ⟨rfl, rfl⟩) rfl (by decide) rfl wd_545 dX4_init_30 (sg_aload_n (pc := 33) (i := 0) dX4_init_33 (sg_bipush (pc := 34) (by decide) dX4_init_34 (sg_newa (pc := 36) (atype := .int) (ty := .int) (t := 10) (t0 := 0) rfl (fun _ => rfl) (fun _ h => by cases h) (by decide) na_10 wd_279 dX4_init_36 (sg_put2F (pc := 38) cls4 (f := 6) (by decide) (fun _ _ => ⟨rfl, rfl⟩) rfl (by decide) rfl wd_552 dX4_init_38 (sg_aload_n (pc := 41) (i := 0) dX4_init_41 (sg_bipush (pc := 42) (by decide) dX4_init_42 (sg_newa (pc := 44) (atype := .int) (ty := .int) (t := 10) (t0 := 0) rfl (fun _ => rfl) (fun _ h => by cases h) (by decide) na_10 wd_279 dX4_init_44 (sg_put2F (pc := 46) cls4 (f := 7) (by decide) (fun _ _ => ⟨rfl, rfl⟩) rfl (by decide) rfl wd_553 dX4_init_46 (sg_aload_n (pc := 49) (i := 0) dX4_init_49 (sg_bipush (pc := 50) (by decide) dX4_init_50 (sg_newa (pc := 52) (atype := .int) (ty := .int) (t := 10) (t0 := 0) rfl (fun _ => rfl) (fun _ h => by cases h) (by decide) na_10 wd_279 dX4_init_52 (sg_put2F (pc := 54) cls4 (f := 8) (by decide) (fun _ _ => ⟨rfl, rfl⟩) rfl (by decide) rfl wd_554 dX4_init_54 (sg_aload_n (pc := 57) (i := 0) dX4_init_57 (sg_bipush (pc := 58) (by decide) dX4_init_58 (sg_newa (pc := 60) (atype := .int) (ty := .int) (t := 10) (t0 := 0) rfl (fun _ => rfl) (fun _ h => by cases h) (by decide) na_10 wd_279 dX4_init_60 (sg_put2F (pc := 62) cls4 (f := 9) (by decide) (fun _ _ => ⟨rfl, rfl⟩) rfl (by decide) rfl wd_555 dX4_init_62 (sg_aload_n (pc := 65) (i := 0) dX4_init_65 (sg_bipush (pc := 66) (by decide) dX4_init_66 (sg_newa (pc := 68) (atype := .int) (ty := .int) (t := 10) (t0 := 0) rfl (fun _ => rfl) (fun _ h => by cases h) (by decide) na_10 wd_279 dX4_init_68 (sg_put2F (pc := 70) cls4 (f := 10) (by decide) (fun _ _ => ⟨rfl, rfl⟩) rfl (by decide) rfl wd_556 dX4_init_70 (sg_aload_n (pc := 73) (i := 0) dX4_init_73 (sg_bipush (pc := 74) (by decide) dX4_init_74 (sg_newa (pc := 76) (atype := .int) (ty := .int) (t := 10) (t0 := 0) rfl (fun _ => rfl) (fun _ h => by cases h) (by decide) na_10 wd_279 dX4_init_76 (sg_put2F (pc := 78) cls4 (f := 11) (by decide) (fun _ _ => ⟨rfl, rfl⟩) rfl (by decide) rfl wd_557 dX4_init_78 (sg_aload_n (pc := 81) (i := 0) dX4_init_81 (sg_bipush (pc := 82) (by decide) dX4_init_82 (sg_newa (pc := 84) (atype := .int) (ty := .int) (t := 10) (t0 := 0) rfl (fun _ => rfl) (fun _ h => by cases h) (by decide) na_10 wd_279 dX4_init_84 (sg_put2F (pc := 86) cls4 (f := 12) (by decide) (fun _ _ => ⟨rfl, rfl⟩) rfl (by decide) rfl wd_558 dX4_init_86 (sg_end))))))))))))))))))))))))))))))))))))))))))))))

theorem dX8_init_0 : decode cX8_init 0 = .ok (.aload_n 0, 1) := by decide +kernel
theorem dX8_init_1 : decode cX8_init 1 = .ok (.invokespecial 1, 3) := by decide +kernel
theorem dX8_init_4 : decode cX8_init 4 = .ok (.aload_n 0, 1) := by decide +kernel
theorem dX8_init_5 : decode cX8_init 5 = .ok (.new 7, 3) := by decide +kernel
theorem dX8_init_8 : decode cX8_init 8 = .ok (.dup, 1) := by decide +kernel
theorem dX8_init_9 : decode cX8_init 9 = .ok (.invokespecial 9, 3) := by decide +kernel
theorem dX8_init_12 : decode cX8_init 12 = .ok (.putfield 10, 3) := by decide +kernel
theorem dX8_init_15 : decode cX8_init 15 = .ok (.aload_n 0, 1) := by decide +kernel
theorem dX8_init_16 : decode cX8_init 16 = .ok (.iconst 3, 1) := by decide +kernel
theorem dX8_init_17 : decode cX8_init 17 = .ok (.anewarray 7, 3) := by decide +kernel
theorem dX8_init_20 : decode cX8_init 20 = .ok (.putfield 16, 3) := by decide +kernel
theorem dX8_init_23 : decode cX8_init 23 = .ok (.iconst 0, 1) := by decide +kernel
theorem dX8_init_24 : decode cX8_init 24 = .ok (.istore_n 1, 1) := by decide +kernel
theorem dX8_init_25 : decode cX8_init 25 = .ok (.iload_n 1, 1) := by decide +kernel
theorem dX8_init_26 : decode cX8_init 26 = .ok (.iconst 3, 1) := by decide +kernel
theorem dX8_init_27 : decode cX8_init 27 = .ok (.if_icmp .ge 22, 3) := by decide +kernel
theorem dX8_init_30 : decode cX8_init 30 = .ok (.aload_n 0, 1) := by decide +kernel
theorem dX8_init_31 : decode cX8_init 31 = .ok (.getfield 16, 3) := by decide +kernel
theorem dX8_init_34 : decode cX8_init 34 = .ok (.iload_n 1, 1) := by decide +kernel
theorem dX8_init_35 : decode cX8_init 35 = .ok (.new 7, 3) := by decide +kernel
theorem dX8_init_38 : decode cX8_init 38 = .ok (.dup, 1) := by decide +kernel
theorem dX8_init_39 : decode cX8_init 39 = .ok (.invokespecial 9, 3) := by decide +kernel
theorem dX8_init_42 : decode cX8_init 42 = .ok (.aastore, 1) := by decide +kernel
theorem dX8_init_43 : decode cX8_init 43 = .ok (.iinc 1 1, 3) := by decide +kernel
theorem dX8_init_46 : decode cX8_init 46 = .ok (.goto (-21), 3) := by decide +kernel
theorem dX8_init_49 : decode cX8_init 49 = .ok (.aload_n 0, 1) := by decide +kernel
theorem dX8_init_50 : decode cX8_init 50 = .ok (.new 20, 3) := by decide +kernel
theorem dX8_init_53 : decode cX8_init 53 = .ok (.dup, 1) := by decide +kernel
theorem dX8_init_54 : decode cX8_init 54 = .ok (.invokespecial 22, 3) := by decide +kernel
theorem dX8_init_57 : decode cX8_init 57 = .ok (.putfield 23, 3) := by decide +kernel
theorem dX8_init_60 : decode cX8_init 60 = .ok (.aload_n 0, 1) := by decide +kernel
theorem dX8_init_61 : decode cX8_init 61 = .ok (.new 27, 3) := by decide +kernel
theorem dX8_init_64 : decode cX8_init 64 = .ok (.dup, 1) := by decide +kernel
theorem dX8_init_65 : decode cX8_init 65 = .ok (.invokespecial 29, 3) := by decide +kernel
theorem dX8_init_68 : decode cX8_init 68 = .ok (.putfield 30, 3) := by decide +kernel
theorem dX8_init_71 : decode cX8_init 71 = .ok (.aload_n 0, 1) := by decide +kernel
theorem dX8_init_72 : decode cX8_init 72 = .ok (.new 34, 3) := by decide +kernel
theorem dX8_init_75 : decode cX8_init 75 = .ok (.dup, 1) := by decide +kernel
theorem dX8_init_76 : decode cX8_init 76 = .ok (.invokespecial 36, 3) := by decide +kernel
theorem dX8_init_79 : decode cX8_init 79 = .ok (.putfield 37, 3) := by decide +kernel
theorem dX8_init_82 : decode cX8_init 82 = .ok (.aload_n 0, 1) := by decide +kernel
theorem dX8_init_83 : decode cX8_init 83 = .ok (.new 41, 3) := by decide +kernel
theorem dX8_init_86 : decode cX8_init 86 = .ok (.dup, 1) := by decide +kernel
theorem dX8_init_87 : decode cX8_init 87 = .ok (.aload_n 0, 1) := by decide +kernel
theorem dX8_init_88 : decode cX8_init 88 = .ok (.getfield 37, 3) := by decide +kernel
theorem dX8_init_91 : decode cX8_init 91 = .ok (.invokespecial 43, 3) := by decide +kernel
theorem dX8_init_94 : decode cX8_init 94 = .ok (.putfield 46, 3) := by decide +kernel
theorem dX8_init_97 : decode cX8_init 97 = .ok (.aload_n 0, 1) := by decide +kernel
theorem dX8_init_98 : decode cX8_init 98 = .ok (.new 50, 3) := by decide +kernel
theorem dX8_init_101 : decode cX8_init 101 = .ok (.dup, 1) := by decide +kernel
theorem dX8_init_102 : decode cX8_init 102 = .ok (.invokespecial 52, 3) := by decide +kernel
theorem dX8_init_105 : decode cX8_init 105 = .ok (.putfield 53, 3) := by decide +kernel
theorem dX8_init_108 : decode cX8_init 108 = .ok (.return_, 1) := by decide +kernel
def k_X8_init_25 : Nat → GK
  | 0 => gk_none
  | n + 1 => gk_iload 1 (gk_push (vI 3) (gk_cmplt (gk_aload 0 (gk_getf 8 1 (gk_iload 1 (gk_new 0 (gk_dup (gk_ctor 0 (g_X0_init) (gk_aast 14 0 (gk_iinc 1 1 ((k_X8_init_25 n)))))))))) (gk_aload 0 (gk_new 5 (gk_dup (gk_ctor 0 (g_X5_init) (gk_put2 8 2 (gk_aload 0 (gk_new 6 (gk_dup (gk_ctor 0 (g_X6_init) (gk_put2 8 3 (gk_aload 0 (gk_new 3 (gk_dup (gk_ctor 0 (g_X3_init) (gk_put2 8 4 (gk_aload 0 (gk_new 4 (gk_dup (gk_aload 0 (gk_getf 8 4 (gk_ctor 1 (g_X4_init) (gk_put2 8 5 (gk_aload 0 (gk_new 7 (gk_dup (gk_ctor 0 (g_X7_init) (gk_put2 8 6 (gk_end 108))))))))))))))))))))))))))))))
set_option maxRecDepth 20000 in
theorem sk_X8_init_25 : ∀ n, SndG RX8 cX8_init 2 3 25 (k_X8_init_25 n) := by
  intro n
  induction n with
  | zero => exact sg_none
  | succ n ih =>
    unfold k_X8_init_25
    exact sg_iload_n (pc := 25) (i := 1) dX8_init_25 (sg_iconst (pc := 26) dX8_init_26 (sg_icmpge (pc := 27) (off := 22) (tgt := 49) (by decide) dX8_init_27 (sg_aload_n (pc := 49) (i := 0) dX8_init_49 (sg_new (pc := 50) cls5 df_5 wd_341 wd_342 wd_124 dX8_init_50 (sg_dup (pc := 53) dX8_init_53 (sg_ctor (pc := 54) (n := 0) sg_X5_init (by decide) (by decide) wd_345 wd_343 wd_344 wd_124 rfl hy_X5_init dX8_init_54 (sg_put2F (pc := 57) cls8 (f := 2) (by decide) (fun _ _ => ⟨rfl, rfl⟩) rfl (by decide) rfl wd_590 dX8_init_57 (sg_aload_n (pc := 60) (i := 0) dX8_init_60 (sg_new (pc := 61) cls6 df_6 wd_395 wd_396 wd_125 dX8_init_61 (sg_dup (pc := 64) dX8_init_64 (sg_ctor (pc := 65) (n := 0) sg_X6_init (by decide) (by decide) wd_399 wd_397 wd_398 wd_125 rfl hy_X6_init dX8_init_65 (sg_put2F (pc := 68) cls8 (f := 3) (by decide) (fun _ _ => ⟨rfl, rfl⟩) rfl (by decide) rfl wd_591 dX8_init_68 (sg_aload_n (pc := 71) (i := 0) dX8_init_71 (sg_new (pc := 72) cls3 df_3 wd_433 wd_434 wd_126 dX8_init_72 (sg_dup (pc := 75) dX8_init_75 (sg_ctor (pc := 76) (n := 0) sg_X3_init (by decide) (by decide) wd_437 wd_435 wd_436 wd_126 rfl hy_X3_init dX8_init_76 (sg_put2F (pc := 79) cls8 (f := 4) (by decide) (fun _ _ => ⟨rfl, rfl⟩) rfl (by decide) rfl wd_592 dX8_init_79 (sg_aload_n (pc := 82) (i := 0) dX8_init_82 (sg_new (pc := 83) cls4 df_4 wd_535 wd_536 wd_128 dX8_init_83 (sg_dup (pc := 86) dX8_init_86 (sg_aload_n (pc := 87) (i := 0) dX8_init_87 (sg_getf (pc := 88) cls8 (f := 4) (by decide) wd_592 dX8_init_88 (sg_ctor (pc := 91) (n := 1) sg_X4_init (by decide) (by decide) wd_539 wd_537 wd_538 wd_128 rfl hy_X4_init dX8_init_91 (sg_put2F (pc := 94) cls8 (f := 5) (by decide) (fun _ _ => ⟨rfl, rfl⟩) rfl (by decide) rfl wd_593 dX8_init_94 (sg_aload_n (pc := 97) (i := 0) dX8_init_97 (sg_new (pc := 98) cls7 df_7 wd_586 wd_154 wd_122 dX8_init_98 (sg_dup (pc := 101) dX8_init_101 (sg_ctor (pc := 102) (n := 0) sg_X7_init (by decide) (by decide) wd_157 wd_587 wd_156 wd_122 rfl hy_X7_init dX8_init_102 (sg_put2F (pc := 105) cls8 (f := 6) (by decide) (fun _ _ => ⟨rfl, rfl⟩) rfl (by decide) rfl wd_594 dX8_init_105 (sg_end)))))))))))))))))))))))))))) (sg_aload_n (pc := 30) (i := 0) dX8_init_30 (sg_getf (pc := 31) cls8 (f := 1) (by decide) wd_589 dX8_init_31 (sg_iload_n (pc := 34) (i := 1) dX8_init_34 (sg_new (pc := 35) cls0 df_0 wd_146 wd_147 wd_121 dX8_init_35 (sg_dup (pc := 38) dX8_init_38 (sg_ctor (pc := 39) (n := 0) sg_X0_init (by decide) (by decide) wd_150 wd_148 wd_149 wd_121 rfl hy_X0_init dX8_init_39 (sg_aast (pc := 42) (t := 14) (t0 := 4) cls0 (by decide) (fun _ => rfl) dX8_init_42 (sg_iinc (pc := 43) (i := 1) (n := 1) (by decide) dX8_init_43 (sg_goto (pc := 46) (off := (-21)) (tgt := 25) (by decide) dX8_init_46 (ih))))))))))))
def k_X8_init : GK := gk_aload 0 (gk_obj (gk_aload 0 (gk_new 0 (gk_dup (gk_ctor 0 (g_X0_init) (gk_put2 8 0 (gk_aload 0 (gk_push (vI 3) (gk_anew 14 (gk_put2 8 1 (gk_push (vI 0) (gk_istore 1 ((k_X8_init_25 10))))))))))))))
def g_X8_init : GF := mkG 2 108 k_X8_init
set_option maxRecDepth 20000 in
theorem sg_X8_init : MG yX8_init cX8_init 2 3 g_X8_init := metG (by decide) rfl dX8_init_108 (by
  unfold k_X8_init
  exact sg_aload_n (pc := 0) (i := 0) dX8_init_0 (sg_obj (pc := 1) (by decide) wd_143 wd_144 wd_145 dX8_init_1 (sg_aload_n (pc := 4) (i := 0) dX8_init_4 (sg_new (pc := 5) cls0 df_0 wd_146 wd_147 wd_121 dX8_init_5 (sg_dup (pc := 8) dX8_init_8 (sg_ctor (pc := 9) (n := 0) sg_X0_init (by decide) (by decide) wd_150 wd_148 wd_149 wd_121 rfl hy_X0_init dX8_init_9 (sg_put2F (pc := 12) cls8 (f := 0) (by decide) (fun _ _ => ⟨rfl, rfl⟩) rfl (by decide) rfl wd_588 dX8_init_12 (sg_aload_n (pc := 15) (i := 0) dX8_init_15 (sg_iconst (pc := 16) dX8_init_16 (sg_anew (pc := 17) (t := 14) (t0 := 4) (CS := "LastWalker$Book") (by decide) (fun _ => rfl) (by decide) wd_146 dX8_init_17 (sg_put2F (pc := 20) cls8 (f := 1) (by decide) (fun _ _ => ⟨rfl, rfl⟩) rfl (by decide) rfl wd_589 dX8_init_20 (sg_iconst (pc := 23) dX8_init_23 (sg_istore_n (pc := 24) (i := 1) (by decide) dX8_init_24 ((sk_X8_init_25 10)))))))))))))))

theorem dX9_init_0 : decode cX9_init 0 = .ok (.aload_n 0, 1) := by decide +kernel
theorem dX9_init_1 : decode cX9_init 1 = .ok (.invokespecial 1, 3) := by decide +kernel
theorem dX9_init_4 : decode cX9_init 4 = .ok (.aload_n 0, 1) := by decide +kernel
theorem dX9_init_5 : decode cX9_init 5 = .ok (.sipush 2400, 3) := by decide +kernel
theorem dX9_init_8 : decode cX9_init 8 = .ok (.newarray .byte, 2) := by decide +kernel
theorem dX9_init_10 : decode cX9_init 10 = .ok (.putfield 7, 3) := by decide +kernel
theorem dX9_init_13 : decode cX9_init 13 = .ok (.aload_n 0, 1) := by decide +kernel
theorem dX9_init_14 : decode cX9_init 14 = .ok (.iconst 4, 1) := by decide +kernel
theorem dX9_init_15 : decode cX9_init 15 = .ok (.newarray .int, 2) := by decide +kernel
theorem dX9_init_17 : decode cX9_init 17 = .ok (.putfield 13, 3) := by decide +kernel
theorem dX9_init_20 : decode cX9_init 20 = .ok (.aload_n 0, 1) := by decide +kernel
theorem dX9_init_21 : decode cX9_init 21 = .ok (.iconst 4, 1) := by decide +kernel
theorem dX9_init_22 : decode cX9_init 22 = .ok (.newarray .int, 2) := by decide +kernel
theorem dX9_init_24 : decode cX9_init 24 = .ok (.putfield 17, 3) := by decide +kernel
theorem dX9_init_27 : decode cX9_init 27 = .ok (.aload_n 0, 1) := by decide +kernel
theorem dX9_init_28 : decode cX9_init 28 = .ok (.iconst 4, 1) := by decide +kernel
theorem dX9_init_29 : decode cX9_init 29 = .ok (.newarray .int, 2) := by decide +kernel
theorem dX9_init_31 : decode cX9_init 31 = .ok (.putfield 20, 3) := by decide +kernel
theorem dX9_init_34 : decode cX9_init 34 = .ok (.aload_n 0, 1) := by decide +kernel
theorem dX9_init_35 : decode cX9_init 35 = .ok (.bipush 8, 2) := by decide +kernel
theorem dX9_init_37 : decode cX9_init 37 = .ok (.newarray .int, 2) := by decide +kernel
theorem dX9_init_39 : decode cX9_init 39 = .ok (.putfield 23, 3) := by decide +kernel
theorem dX9_init_42 : decode cX9_init 42 = .ok (.aload_n 0, 1) := by decide +kernel
theorem dX9_init_43 : decode cX9_init 43 = .ok (.sipush 1856, 3) := by decide +kernel
theorem dX9_init_46 : decode cX9_init 46 = .ok (.newarray .int, 2) := by decide +kernel
theorem dX9_init_48 : decode cX9_init 48 = .ok (.putfield 26, 3) := by decide +kernel
theorem dX9_init_51 : decode cX9_init 51 = .ok (.aload_n 0, 1) := by decide +kernel
theorem dX9_init_52 : decode cX9_init 52 = .ok (.sipush 1452, 3) := by decide +kernel
theorem dX9_init_55 : decode cX9_init 55 = .ok (.newarray .int, 2) := by decide +kernel
theorem dX9_init_57 : decode cX9_init 57 = .ok (.putfield 29, 3) := by decide +kernel
theorem dX9_init_60 : decode cX9_init 60 = .ok (.aload_n 0, 1) := by decide +kernel
theorem dX9_init_61 : decode cX9_init 61 = .ok (.sipush 232, 3) := by decide +kernel
theorem dX9_init_64 : decode cX9_init 64 = .ok (.newarray .int, 2) := by decide +kernel
theorem dX9_init_66 : decode cX9_init 66 = .ok (.putfield 32, 3) := by decide +kernel
theorem dX9_init_69 : decode cX9_init 69 = .ok (.aload_n 0, 1) := by decide +kernel
theorem dX9_init_70 : decode cX9_init 70 = .ok (.iconst 4, 1) := by decide +kernel
theorem dX9_init_71 : decode cX9_init 71 = .ok (.newarray .int, 2) := by decide +kernel
theorem dX9_init_73 : decode cX9_init 73 = .ok (.putfield 35, 3) := by decide +kernel
theorem dX9_init_76 : decode cX9_init 76 = .ok (.aload_n 0, 1) := by decide +kernel
theorem dX9_init_77 : decode cX9_init 77 = .ok (.bipush 14, 2) := by decide +kernel
theorem dX9_init_79 : decode cX9_init 79 = .ok (.newarray .int, 2) := by decide +kernel
theorem dX9_init_81 : decode cX9_init 81 = .ok (.putfield 38, 3) := by decide +kernel
theorem dX9_init_84 : decode cX9_init 84 = .ok (.aload_n 0, 1) := by decide +kernel
theorem dX9_init_85 : decode cX9_init 85 = .ok (.bipush 8, 2) := by decide +kernel
theorem dX9_init_87 : decode cX9_init 87 = .ok (.newarray .int, 2) := by decide +kernel
theorem dX9_init_89 : decode cX9_init 89 = .ok (.putfield 41, 3) := by decide +kernel
theorem dX9_init_92 : decode cX9_init 92 = .ok (.aload_n 0, 1) := by decide +kernel
theorem dX9_init_93 : decode cX9_init 93 = .ok (.bipush 8, 2) := by decide +kernel
theorem dX9_init_95 : decode cX9_init 95 = .ok (.newarray .int, 2) := by decide +kernel
theorem dX9_init_97 : decode cX9_init 97 = .ok (.putfield 44, 3) := by decide +kernel
theorem dX9_init_100 : decode cX9_init 100 = .ok (.aload_n 0, 1) := by decide +kernel
theorem dX9_init_101 : decode cX9_init 101 = .ok (.bipush 8, 2) := by decide +kernel
theorem dX9_init_103 : decode cX9_init 103 = .ok (.newarray .int, 2) := by decide +kernel
theorem dX9_init_105 : decode cX9_init 105 = .ok (.putfield 47, 3) := by decide +kernel
theorem dX9_init_108 : decode cX9_init 108 = .ok (.aload_n 0, 1) := by decide +kernel
theorem dX9_init_109 : decode cX9_init 109 = .ok (.bipush 8, 2) := by decide +kernel
theorem dX9_init_111 : decode cX9_init 111 = .ok (.newarray .int, 2) := by decide +kernel
theorem dX9_init_113 : decode cX9_init 113 = .ok (.putfield 50, 3) := by decide +kernel
theorem dX9_init_116 : decode cX9_init 116 = .ok (.aload_n 0, 1) := by decide +kernel
theorem dX9_init_117 : decode cX9_init 117 = .ok (.bipush 64, 2) := by decide +kernel
theorem dX9_init_119 : decode cX9_init 119 = .ok (.newarray .int, 2) := by decide +kernel
theorem dX9_init_121 : decode cX9_init 121 = .ok (.putfield 53, 3) := by decide +kernel
theorem dX9_init_124 : decode cX9_init 124 = .ok (.aload_n 0, 1) := by decide +kernel
theorem dX9_init_125 : decode cX9_init 125 = .ok (.bipush 9, 2) := by decide +kernel
theorem dX9_init_127 : decode cX9_init 127 = .ok (.newarray .int, 2) := by decide +kernel
theorem dX9_init_129 : decode cX9_init 129 = .ok (.putfield 56, 3) := by decide +kernel
theorem dX9_init_132 : decode cX9_init 132 = .ok (.aload_n 0, 1) := by decide +kernel
theorem dX9_init_133 : decode cX9_init 133 = .ok (.bipush 9, 2) := by decide +kernel
theorem dX9_init_135 : decode cX9_init 135 = .ok (.newarray .int, 2) := by decide +kernel
theorem dX9_init_137 : decode cX9_init 137 = .ok (.putfield 59, 3) := by decide +kernel
theorem dX9_init_140 : decode cX9_init 140 = .ok (.aload_n 0, 1) := by decide +kernel
theorem dX9_init_141 : decode cX9_init 141 = .ok (.bipush 9, 2) := by decide +kernel
theorem dX9_init_143 : decode cX9_init 143 = .ok (.newarray .int, 2) := by decide +kernel
theorem dX9_init_145 : decode cX9_init 145 = .ok (.putfield 62, 3) := by decide +kernel
theorem dX9_init_148 : decode cX9_init 148 = .ok (.aload_n 0, 1) := by decide +kernel
theorem dX9_init_149 : decode cX9_init 149 = .ok (.bipush 9, 2) := by decide +kernel
theorem dX9_init_151 : decode cX9_init 151 = .ok (.newarray .int, 2) := by decide +kernel
theorem dX9_init_153 : decode cX9_init 153 = .ok (.putfield 65, 3) := by decide +kernel
theorem dX9_init_156 : decode cX9_init 156 = .ok (.aload_n 0, 1) := by decide +kernel
theorem dX9_init_157 : decode cX9_init 157 = .ok (.bipush 9, 2) := by decide +kernel
theorem dX9_init_159 : decode cX9_init 159 = .ok (.newarray .long, 2) := by decide +kernel
theorem dX9_init_161 : decode cX9_init 161 = .ok (.putfield 68, 3) := by decide +kernel
theorem dX9_init_164 : decode cX9_init 164 = .ok (.aload_n 0, 1) := by decide +kernel
theorem dX9_init_165 : decode cX9_init 165 = .ok (.bipush 9, 2) := by decide +kernel
theorem dX9_init_167 : decode cX9_init 167 = .ok (.newarray .int, 2) := by decide +kernel
theorem dX9_init_169 : decode cX9_init 169 = .ok (.putfield 72, 3) := by decide +kernel
theorem dX9_init_172 : decode cX9_init 172 = .ok (.aload_n 0, 1) := by decide +kernel
theorem dX9_init_173 : decode cX9_init 173 = .ok (.bipush 81, 2) := by decide +kernel
theorem dX9_init_175 : decode cX9_init 175 = .ok (.newarray .int, 2) := by decide +kernel
theorem dX9_init_177 : decode cX9_init 177 = .ok (.putfield 75, 3) := by decide +kernel
theorem dX9_init_180 : decode cX9_init 180 = .ok (.aload_n 0, 1) := by decide +kernel
theorem dX9_init_181 : decode cX9_init 181 = .ok (.bipush 8, 2) := by decide +kernel
theorem dX9_init_183 : decode cX9_init 183 = .ok (.newarray .int, 2) := by decide +kernel
theorem dX9_init_185 : decode cX9_init 185 = .ok (.putfield 78, 3) := by decide +kernel
theorem dX9_init_188 : decode cX9_init 188 = .ok (.aload_n 0, 1) := by decide +kernel
theorem dX9_init_189 : decode cX9_init 189 = .ok (.bipush 12, 2) := by decide +kernel
theorem dX9_init_191 : decode cX9_init 191 = .ok (.newarray .int, 2) := by decide +kernel
theorem dX9_init_193 : decode cX9_init 193 = .ok (.putfield 81, 3) := by decide +kernel
theorem dX9_init_196 : decode cX9_init 196 = .ok (.aload_n 0, 1) := by decide +kernel
theorem dX9_init_197 : decode cX9_init 197 = .ok (.bipush 8, 2) := by decide +kernel
theorem dX9_init_199 : decode cX9_init 199 = .ok (.newarray .int, 2) := by decide +kernel
theorem dX9_init_201 : decode cX9_init 201 = .ok (.putfield 84, 3) := by decide +kernel
theorem dX9_init_204 : decode cX9_init 204 = .ok (.aload_n 0, 1) := by decide +kernel
theorem dX9_init_205 : decode cX9_init 205 = .ok (.bipush 8, 2) := by decide +kernel
theorem dX9_init_207 : decode cX9_init 207 = .ok (.newarray .int, 2) := by decide +kernel
theorem dX9_init_209 : decode cX9_init 209 = .ok (.putfield 87, 3) := by decide +kernel
theorem dX9_init_212 : decode cX9_init 212 = .ok (.aload_n 0, 1) := by decide +kernel
theorem dX9_init_213 : decode cX9_init 213 = .ok (.bipush 8, 2) := by decide +kernel
theorem dX9_init_215 : decode cX9_init 215 = .ok (.newarray .int, 2) := by decide +kernel
theorem dX9_init_217 : decode cX9_init 217 = .ok (.putfield 90, 3) := by decide +kernel
theorem dX9_init_220 : decode cX9_init 220 = .ok (.aload_n 0, 1) := by decide +kernel
theorem dX9_init_221 : decode cX9_init 221 = .ok (.bipush 8, 2) := by decide +kernel
theorem dX9_init_223 : decode cX9_init 223 = .ok (.newarray .int, 2) := by decide +kernel
theorem dX9_init_225 : decode cX9_init 225 = .ok (.putfield 93, 3) := by decide +kernel
theorem dX9_init_228 : decode cX9_init 228 = .ok (.aload_n 0, 1) := by decide +kernel
theorem dX9_init_229 : decode cX9_init 229 = .ok (.bipush 8, 2) := by decide +kernel
theorem dX9_init_231 : decode cX9_init 231 = .ok (.newarray .int, 2) := by decide +kernel
theorem dX9_init_233 : decode cX9_init 233 = .ok (.putfield 96, 3) := by decide +kernel
theorem dX9_init_236 : decode cX9_init 236 = .ok (.aload_n 0, 1) := by decide +kernel
theorem dX9_init_237 : decode cX9_init 237 = .ok (.bipush 8, 2) := by decide +kernel
theorem dX9_init_239 : decode cX9_init 239 = .ok (.newarray .int, 2) := by decide +kernel
theorem dX9_init_241 : decode cX9_init 241 = .ok (.putfield 99, 3) := by decide +kernel
theorem dX9_init_244 : decode cX9_init 244 = .ok (.aload_n 0, 1) := by decide +kernel
theorem dX9_init_245 : decode cX9_init 245 = .ok (.bipush 14, 2) := by decide +kernel
theorem dX9_init_247 : decode cX9_init 247 = .ok (.newarray .int, 2) := by decide +kernel
theorem dX9_init_249 : decode cX9_init 249 = .ok (.putfield 102, 3) := by decide +kernel
theorem dX9_init_252 : decode cX9_init 252 = .ok (.aload_n 0, 1) := by decide +kernel
theorem dX9_init_253 : decode cX9_init 253 = .ok (.bipush 14, 2) := by decide +kernel
theorem dX9_init_255 : decode cX9_init 255 = .ok (.newarray .int, 2) := by decide +kernel
theorem dX9_init_257 : decode cX9_init 257 = .ok (.putfield 105, 3) := by decide +kernel
theorem dX9_init_260 : decode cX9_init 260 = .ok (.aload_n 0, 1) := by decide +kernel
theorem dX9_init_261 : decode cX9_init 261 = .ok (.iconst 3, 1) := by decide +kernel
theorem dX9_init_262 : decode cX9_init 262 = .ok (.newarray .boolean, 2) := by decide +kernel
theorem dX9_init_264 : decode cX9_init 264 = .ok (.putfield 108, 3) := by decide +kernel
theorem dX9_init_267 : decode cX9_init 267 = .ok (.aload_n 0, 1) := by decide +kernel
theorem dX9_init_268 : decode cX9_init 268 = .ok (.getfield 20, 3) := by decide +kernel
theorem dX9_init_271 : decode cX9_init 271 = .ok (.iconst 0, 1) := by decide +kernel
theorem dX9_init_272 : decode cX9_init 272 = .ok (.iconst (-1), 1) := by decide +kernel
theorem dX9_init_273 : decode cX9_init 273 = .ok (.iastore, 1) := by decide +kernel
theorem dX9_init_274 : decode cX9_init 274 = .ok (.return_, 1) := by decide +kernel
def k_X9_init : GK := gk_aload 0 (gk_obj (gk_aload 0 (gk_push (vI 2400) (gk_newa 11 (gk_put2 9 1 (gk_aload 0 (gk_push (vI 4) (gk_newa 10 (gk_put2 9 2 (gk_aload 0 (gk_push (vI 4) (gk_newa 10 (gk_put2 9 3 (gk_aload 0 (gk_push (vI 4) (gk_newa 10 (gk_put2 9 4 (gk_aload 0 (gk_push (vI 8) (gk_newa 10 (gk_put2 9 5 (gk_aload 0 (gk_push (vI 1856) (gk_newa 10 (gk_put2 9 6 (gk_aload 0 (gk_push (vI 1452) (gk_newa 10 (gk_put2 9 7 (gk_aload 0 (gk_push (vI 232) (gk_newa 10 (gk_put2 9 18 (gk_aload 0 (gk_push (vI 4) (gk_newa 10 (gk_put2 9 19 (gk_aload 0 (gk_push (vI 14) (gk_newa 10 (gk_put2 9 31 (gk_aload 0 (gk_push (vI 8) (gk_newa 10 (gk_put2 9 32 (gk_aload 0 (gk_push (vI 8) (gk_newa 10 (gk_put2 9 36 (gk_aload 0 (gk_push (vI 8) (gk_newa 10 (gk_put2 9 37 (gk_aload 0 (gk_push (vI 8) (gk_newa 10 (gk_put2 9 38 (gk_aload 0 (gk_push (vI 64) (gk_newa 10 (gk_put2 9 39 (gk_aload 0 (gk_push (vI 9) (gk_newa 10 (gk_put2 9 40 (gk_aload 0 (gk_push (vI 9) (gk_newa 10 (gk_put2 9 41 (gk_aload 0 (gk_push (vI 9) (gk_newa 10 (gk_put2 9 42 (gk_aload 0 (gk_push (vI 9) (gk_newa 10 (gk_put2 9 43 (gk_aload 0 (gk_push (vI 9) (gk_newa 13 (gk_put2 9 44 (gk_aload 0 (gk_push (vI 9) (gk_newa 10 (gk_put2 9 45 (gk_aload 0 (gk_push (vI 81) (gk_newa 10 (gk_put2 9 49 (gk_aload 0 (gk_push (vI 8) (gk_newa 10 (gk_put2 9 50 (gk_aload 0 (gk_push (vI 12) (gk_newa 10 (gk_put2 9 51 (gk_aload 0 (gk_push (vI 8) (gk_newa 10 (gk_put2 9 52 (gk_aload 0 (gk_push (vI 8) (gk_newa 10 (gk_put2 9 53 (gk_aload 0 (gk_push (vI 8) (gk_newa 10 (gk_put2 9 54 (gk_aload 0 (gk_push (vI 8) (gk_newa 10 (gk_put2 9 55 (gk_aload 0 (gk_push (vI 8) (gk_newa 10 (gk_put2 9 56 (gk_aload 0 (gk_push (vI 8) (gk_newa 10 (gk_put2 9 57 (gk_aload 0 (gk_push (vI 14) (gk_newa 10 (gk_put2 9 58 (gk_aload 0 (gk_push (vI 14) (gk_newa 10 (gk_put2 9 59 (gk_aload 0 (gk_push (vI 3) (gk_newa 12 (gk_put2 9 63 (gk_aload 0 (gk_getf 9 4 (gk_push (vI 0) (gk_push (vI (-1)) (gk_iast (gk_end 274)))))))))))))))))))))))))))))))))))))))))))))))))))))))))))))))))))))))))))))))))))))))))))))))))))))))))))))))))))))))))))))))))))))))))))
def g_X9_init : GF := mkG 1 274 k_X9_init
set_option maxRecDepth 20000 in
theorem sg_X9_init : MG yX9_init cX9_init 1 1 g_X9_init := metG (by decide) rfl dX9_init_274 (by
  unfold k_X9_init
  exact sg_aload_n (pc := 0) (i := 0) dX9_init_0 (sg_obj (pc := 1) (by decide) wd_1302 wd_144 wd_145 dX9_init_1 (sg_aload_n (pc := 4) (i := 0) dX9_init_4 (sg_sipush (pc := 5) (by decide) dX9_init_5 (sg_newa (pc := 8) (atype := .byte) (ty := .byte) (t := 11) (t0 := 1) rfl (fun _ => rfl) (fun _ h => by cases h) (by decide) na_11 wd_278 dX9_init_8 (sg_put2F (pc := 10) cls9 (f := 1) (by decide) (fun _ _ => ⟨rfl, rfl⟩) rfl (by decide) rfl wd_1304 dX9_init_10 (sg_aload_n (pc := 13) (i := 0) dX9_init_13 (sg_iconst (pc := 14) dX9_init_14 (sg_newa (pc := 15) (atype := .int) (ty := .int) (t := 10) (t0 := 0) rfl (fun _ => rfl) (fun _ h => by cases h) (by decide) na_10 wd_279 dX9_init_15 (sg_put2F (pc := 17) cls9 (f := 2) (by decide) (fun _ _ => ⟨rfl, rfl⟩) rfl (by decide) rfl wd_1305 dX9_init_17 (sg_aload_n (pc := 20) (i := 0) dX9_init_20 (sg_iconst (pc := 21) dX9_init_21 (sg_newa (pc := 22) (atype := .int) (ty := .int) (t := 10) (t0 := 0) rfl (fun _ => rfl) (fun _ h => by cases h) (by decide) na_10 wd_279 dX9_init_22 (sg_put2F (pc := 24) cls9 (f := 3) (by decide) (fun _ _ => ⟨rfl, rfl⟩) rfl (by decide) rfl wd_1306 dX9_init_24 (sg_aload_n (pc := 27) (i := 0) dX9_init_27 (sg_iconst (pc := 28) dX9_init_28 (sg_newa (pc := 29) (atype := .int) (ty := .int) (t := 10) (t0 := 0) rfl (fun _ => rfl) (fun _ h => by cases h) (by decide) na_10 wd_279 dX9_init_29 (sg_put2F (pc := 31) cls9 (f := 4) (by decide) (fun _ _ => ⟨rfl, rfl⟩) rfl (by decide) rfl wd_1307 dX9_init_31 (sg_aload_n (pc := 34) (i := 0) dX9_init_34 (sg_bipush (pc := 35) (by decide) dX9_init_35 (sg_newa (pc := 37) (atype := .int) (ty := .int) (t := 10) (t0 := 0) rfl (fun _ => rfl) (fun _ h => by cases h) (by decide) na_10 wd_279 dX9_init_37 (sg_put2F (pc := 39) cls9 (f := 5) (by decide) (fun _ _ => ⟨rfl, rfl⟩) rfl (by decide) rfl wd_1308 dX9_init_39 (sg_aload_n (pc := 42) (i := 0) dX9_init_42 (sg_sipush (pc := 43) (by decide) dX9_init_43 (sg_newa (pc := 46) (atype := .int) (ty := .int) (t := 10) (t0 := 0) rfl (fun _ => rfl) (fun _ h => by cases h) (by decide) na_10 wd_279 dX9_init_46 (sg_put2F (pc := 48) cls9 (f := 6) (by decide) (fun _ _ => ⟨rfl, rfl⟩) rfl (by decide) rfl wd_1309 dX9_init_48 (sg_aload_n (pc := 51) (i := 0) dX9_init_51 (sg_sipush (pc := 52) (by decide) dX9_init_52 (sg_newa (pc := 55) (atype := .int) (ty := .int) (t := 10) (t0 := 0) rfl (fun _ => rfl) (fun _ h => by cases h) (by decide) na_10 wd_279 dX9_init_55 (sg_put2F (pc := 57) cls9 (f := 7) (by decide) (fun _ _ => ⟨rfl, rfl⟩) rfl (by decide) rfl wd_1310 dX9_init_57 (sg_aload_n (pc := 60) (i := 0) dX9_init_60 (sg_sipush (pc := 61) (by decide) dX9_init_61 (sg_newa (pc := 64) (atype := .int) (ty := .int) (t := 10) (t0 := 0) rfl (fun _ => rfl) (fun _ h => by cases h) (by decide) na_10 wd_279 dX9_init_64 (sg_put2F (pc := 66) cls9 (f := 18) (by decide) (fun _ _ => ⟨rfl, rfl⟩) rfl (by decide) rfl wd_1321 dX9_init_66 (sg_aload_n (pc := 69) (i := 0) dX9_init_69 (sg_iconst (pc := 70) dX9_init_70 (sg_newa (pc := 71) (atype := .int) (ty := .int) (t := 10) (t0 := 0) rfl (fun _ => rfl) (fun _ h => by cases h) (by decide) na_10 wd_279 dX9_init_71 (sg_put2F (pc := 73) cls9 (f := 19) (by decide) (fun _ _ => ⟨rfl, rfl⟩) rfl (by decide) rfl wd_1322 dX9_init_73 (sg_aload_n (pc := 76) (i := 0) dX9_init_76 (sg_bipush (pc := 77) (by decide) dX9_init_77 (sg_newa (pc := 79) (atype := .int) (ty := .int) (t := 10) (t0 := 0) rfl (fun _ => rfl) (fun _ h => by cases h) (by decide) na_10 wd_279 dX9_init_79 (sg_put2F (pc := 81) cls9 (f := 31) (by decide) (fun _ _ => ⟨rfl, rfl⟩) rfl (by decide) rfl wd_1334 dX9_init_81 (sg_aload_n (pc := 84) (i := 0) dX9_init_84 (sg_bipush (pc := 85) (by decide) dX9_init_85 (sg_newa (pc := 87) (atype := .int) (ty := .int) (t := 10) (t0 := 0) rfl (fun _ => rfl) (fun _ h => by cases h) (by decide) na_10 wd_279 dX9_init_87 (sg_put2F (pc := 89) cls9 (f := 32) (by decide) (fun _ _ => ⟨rfl, rfl⟩) rfl (by decide) rfl wd_1335 dX9_init_89 (sg_aload_n (pc := 92) (i := 0) dX9_init_92 (sg_bipush (pc := 93) (by decide) dX9_init_93 (sg_newa (pc := 95) (atype := .int) (ty := .int) (t := 10) (t0 := 0) rfl (fun _ => rfl) (fun _ h => by cases h) (by decide) na_10 wd_279 dX9_init_95 (sg_put2F (pc := 97) cls9 (f := 36) (by decide) (fun _ _ => ⟨rfl, rfl⟩) rfl (by decide) rfl wd_1339 dX9_init_97 (sg_aload_n (pc := 100) (i := 0) dX9_init_100 (sg_bipush (pc := 101) (by decide) dX9_init_101 (sg_newa (pc := 103) (atype := .int) (ty := .int) (t := 10) (t0 := 0) rfl (fun _ => rfl) (fun _ h => by cases h) (by decide) na_10 wd_279 dX9_init_103 (sg_put2F (pc := 105) cls9 (f := 37) (by decide) (fun _ _ => ⟨rfl, rfl⟩) rfl (by decide) rfl wd_1340 dX9_init_105 (sg_aload_n (pc := 108) (i := 0) dX9_init_108 (sg_bipush (pc := 109) (by decide) dX9_init_109 (sg_newa (pc := 111) (atype := .int) (ty := .int) (t := 10) (t0 := 0) rfl (fun _ => rfl) (fun _ h => by cases h) (by decide) na_10 wd_279 dX9_init_111 (sg_put2F (pc := 113) cls9 (f := 38) (by decide) (fun _ _ => ⟨rfl, rfl⟩) rfl (by decide) rfl wd_1341 dX9_init_113 (sg_aload_n (pc := 116) (i := 0) dX9_init_116 (sg_bipush (pc := 117) (by decide) dX9_init_117 (sg_newa (pc := 119) (atype := .int) (ty := .int) (t := 10) (t0 := 0) rfl (fun _ => rfl) (fun _ h => by cases h) (by decide) na_10 wd_279 dX9_init_119 (sg_put2F (pc := 121) cls9 (f := 39) (by decide) (fun _ _ => ⟨rfl, rfl⟩) rfl (by decide) rfl wd_1342 dX9_init_121 (sg_aload_n (pc := 124) (i := 0) dX9_init_124 (sg_bipush (pc := 125) (by decide) dX9_init_125 (sg_newa (pc := 127) (atype := .int) (ty := .int) (t := 10) (t0 := 0) rfl (fun _ => rfl) (fun _ h => by cases h) (by decide) na_10 wd_279 dX9_init_127 (sg_put2F (pc := 129) cls9 (f := 40) (by decide) (fun _ _ => ⟨rfl, rfl⟩) rfl (by decide) rfl wd_1343 dX9_init_129 (sg_aload_n (pc := 132) (i := 0) dX9_init_132 (sg_bipush (pc := 133) (by decide) dX9_init_133 (sg_newa (pc := 135) (atype := .int) (ty := .int) (t := 10) (t0 := 0) rfl (fun _ => rfl) (fun _ h => by cases h) (by decide) na_10 wd_279 dX9_init_135 (sg_put2F (pc := 137) cls9 (f := 41) (by decide) (fun _ _ => ⟨rfl, rfl⟩) rfl (by decide) rfl wd_1344 dX9_init_137 (sg_aload_n (pc := 140) (i := 0) dX9_init_140 (sg_bipush (pc := 141) (by decide) dX9_init_141 (sg_newa (pc := 143) (atype := .int) (ty := .int) (t := 10) (t0 := 0) rfl (fun _ => rfl) (fun _ h => by cases h) (by decide) na_10 wd_279 dX9_init_143 (sg_put2F (pc := 145) cls9 (f := 42) (by decide) (fun _ _ => ⟨rfl, rfl⟩) rfl (by decide) rfl wd_1345 dX9_init_145 (sg_aload_n (pc := 148) (i := 0) dX9_init_148 (sg_bipush (pc := 149) (by decide) dX9_init_149 (sg_newa (pc := 151) (atype := .int) (ty := .int) (t := 10) (t0 := 0) rfl (fun _ => rfl) (fun _ h => by cases h) (by decide) na_10 wd_279 dX9_init_151 (sg_put2F (pc := 153) cls9 (f := 43) (by decide) (fun _ _ => ⟨rfl, rfl⟩) rfl (by decide) rfl wd_1346 dX9_init_153 (sg_aload_n (pc := 156) (i := 0) dX9_init_156 (sg_bipush (pc := 157) (by decide) dX9_init_157 (sg_newa (pc := 159) (atype := .long) (ty := .long) (t := 13) (t0 := 3) rfl (fun _ => rfl) (fun _ h => by cases h) (by decide) na_13 wd_468 dX9_init_159 (sg_put2F (pc := 161) cls9 (f := 44) (by decide) (fun _ _ => ⟨rfl, rfl⟩) rfl (by decide) rfl wd_1347 dX9_init_161 (sg_aload_n (pc := 164) (i := 0) dX9_init_164 (sg_bipush (pc := 165) (by decide) dX9_init_165 (sg_newa (pc := 167) (atype := .int) (ty := .int) (t := 10) (t0 := 0) rfl (fun _ => rfl) (fun _ h => by cases h) (by decide) na_10 wd_279 dX9_init_167 (sg_put2F (pc := 169) cls9 (f := 45) (by decide) (fun _ _ => ⟨rfl, rfl⟩) rfl (by decide) rfl wd_1348 dX9_init_169 (sg_aload_n (pc := 172) (i := 0) dX9_init_172 (sg_bipush (pc := 173) (by decide) dX9_init_173 (sg_newa (pc := 175) (atype := .int) (ty := .int) (t := 10) (t0 := 0) rfl (fun _ => rfl) (fun _ h => by cases h) (by decide) na_10 wd_279 dX9_init_175 (sg_put2F (pc := 177) cls9 (f := 49) (by decide) (fun _ _ => ⟨rfl, rfl⟩) rfl (by decide) rfl wd_1352 dX9_init_177 (sg_aload_n (pc := 180) (i := 0) dX9_init_180 (sg_bipush (pc := 181) (by decide) dX9_init_181 (sg_newa (pc := 183) (atype := .int) (ty := .int) (t := 10) (t0 := 0) rfl (fun _ => rfl) (fun _ h => by cases h) (by decide) na_10 wd_279 dX9_init_183 (sg_put2F (pc := 185) cls9 (f := 50) (by decide) (fun _ _ => ⟨rfl, rfl⟩) rfl (by decide) rfl wd_1353 dX9_init_185 (sg_aload_n (pc := 188) (i := 0) dX9_init_188 (sg_bipush (pc := 189) (by decide) dX9_init_189 (sg_newa (pc := 191) (atype := .int) (ty := .int) (t := 10) (t0 := 0) rfl (fun _ => rfl) (fun _ h => by cases h) (by decide) na_10 wd_279 dX9_init_191 (sg_put2F (pc := 193) cls9 (f := 51) (by decide) (fun _ _ => ⟨rfl, rfl⟩) rfl (by decide) rfl wd_1354 dX9_init_193 (sg_aload_n (pc := 196) (i := 0) dX9_init_196 (sg_bipush (pc := 197) (by decide) dX9_init_197 (sg_newa (pc := 199) (atype := .int) (ty := .int) (t := 10) (t0 := 0) rfl (fun _ => rfl) (fun _ h => by cases h) (by decide) na_10 wd_279 dX9_init_199 (sg_put2F (pc := 201) cls9 (f := 52) (by decide) (fun _ _ => ⟨rfl, rfl⟩) rfl (by decide) rfl wd_1355 dX9_init_201 (sg_aload_n (pc := 204) (i := 0) dX9_init_204 (sg_bipush (pc := 205) (by decide) dX9_init_205 (sg_newa (pc := 207) (atype := .int) (ty := .int) (t := 10) (t0 := 0) rfl (fun _ => rfl) (fun _ h => by cases h) (by decide) na_10 wd_279 dX9_init_207 (sg_put2F (pc := 209) cls9 (f := 53) (by decide) (fun _ _ => ⟨rfl, rfl⟩) rfl (by decide) rfl wd_1356 dX9_init_209 (sg_aload_n (pc := 212) (i := 0) dX9_init_212 (sg_bipush (pc := 213) (by decide) dX9_init_213 (sg_newa (pc := 215) (atype := .int) (ty := .int) (t := 10) (t0 := 0) rfl (fun _ => rfl) (fun _ h => by cases h) (by decide) na_10 wd_279 dX9_init_215 (sg_put2F (pc := 217) cls9 (f := 54) (by decide) (fun _ _ => ⟨rfl, rfl⟩) rfl (by decide) rfl wd_1357 dX9_init_217 (sg_aload_n (pc := 220) (i := 0) dX9_init_220 (sg_bipush (pc := 221) (by decide) dX9_init_221 (sg_newa (pc := 223) (atype := .int) (ty := .int) (t := 10) (t0 := 0) rfl (fun _ => rfl) (fun _ h => by cases h) (by decide) na_10 wd_279 dX9_init_223 (sg_put2F (pc := 225) cls9 (f := 55) (by decide) (fun _ _ => ⟨rfl, rfl⟩) rfl (by decide) rfl wd_1358 dX9_init_225 (sg_aload_n (pc := 228) (i := 0) dX9_init_228 (sg_bipush (pc := 229) (by decide) dX9_init_229 (sg_newa (pc := 231) (atype := .int) (ty := .int) (t := 10) (t0 := 0) rfl (fun _ => rfl) (fun _ h => by cases h) (by decide) na_10 wd_279 dX9_init_231 (sg_put2F (pc := 233) cls9 (f := 56) (by decide) (fun _ _ => ⟨rfl, rfl⟩) rfl (by decide) rfl wd_1359 dX9_init_233 (sg_aload_n (pc := 236) (i := 0) dX9_init_236 (sg_bipush (pc := 237) (by decide) dX9_init_237 (sg_newa (pc := 239) (atype := .int) (ty := .int) (t := 10) (t0 := 0) rfl (fun _ => rfl) (fun _ h => by cases h) (by decide) na_10 wd_279 dX9_init_239 (sg_put2F (pc := 241) cls9 (f := 57) (by decide) (fun _ _ => ⟨rfl, rfl⟩) rfl (by decide) rfl wd_1360 dX9_init_241 (sg_aload_n (pc := 244) (i := 0) dX9_init_244 (sg_bipush (pc := 245) (by decide) dX9_init_245 (sg_newa (pc := 247) (atype := .int) (ty := .int) (t := 10) (t0 := 0) rfl (fun _ => rfl) (fun _ h => by cases h) (by decide) na_10 wd_279 dX9_init_247 (sg_put2F (pc := 249) cls9 (f := 58) (by decide) (fun _ _ => ⟨rfl, rfl⟩) rfl (by decide) rfl wd_1361 dX9_init_249 (sg_aload_n (pc := 252) (i := 0) dX9_init_252 (sg_bipush (pc := 253) (by decide) dX9_init_253 (sg_newa (pc := 255) (atype := .int) (ty := .int) (t := 10) (t0 := 0) rfl (fun _ => rfl) (fun _ h => by cases h) (by decide) na_10 wd_279 dX9_init_255 (sg_put2F (pc := 257) cls9 (f := 59) (by decide) (fun _ _ => ⟨rfl, rfl⟩) rfl (by decide) rfl wd_1362 dX9_init_257 (sg_aload_n (pc := 260) (i := 0) dX9_init_260 (sg_iconst (pc := 261) dX9_init_261 (sg_newa (pc := 262) (atype := .boolean) (ty := .boolean) (t := 12) (t0 := 2) rfl (fun _ => rfl) (fun _ h => by cases h) (by decide) na_12 wd_1496 dX9_init_262 (sg_put2F (pc := 264) cls9 (f := 63) (by decide) (fun _ _ => ⟨rfl, rfl⟩) rfl (by decide) rfl wd_1366 dX9_init_264 (sg_aload_n (pc := 267) (i := 0) dX9_init_267 (sg_getf (pc := 268) cls9 (f := 4) (by decide) wd_1307 dX9_init_268 (sg_iconst (pc := 271) dX9_init_271 (sg_iconst (pc := 272) dX9_init_272 (sg_iast (pc := 273) dX9_init_273 (sg_end))))))))))))))))))))))))))))))))))))))))))))))))))))))))))))))))))))))))))))))))))))))))))))))))))))))))))))))))))))))))))))))))))))))))))))
