/-! TEXTS: the reference, lines of roads -/
theorem ci_roadL {F : Nat} {s N : Int} {b : Nat → Int} {S : Nat → Int} {f : Int × Int} {w : AW} {P : Int → AW → Prop} (hF : FB F) (hB : BB b N) (hL : LB w b N 1 S s f (fun k => [0, 0, 1, 0].getD k 0) (fun k => [8, 8, 30, 99].getD k 0)) (h0 : ∀ w', Fr Slo w w' → rdn b N (nms 1) (ten b N s) [] = .inl (w'.1 0 14) → P 0 w') (h1 : ∀ w' l, Fr Slo w w' → LPs w' b N 1 S s f l → P 1 w') : CI (m_X9_roadLine F [vR 0] w) P := by
  obtain ⟨hC, hRB, hRW⟩ := hL
  obtain ⟨r1, r2, r3, r20⟩ := id hRB
  obtain ⟨H0, g20_0⟩ : ∃ H0, w.1 0 20 = H0 := ⟨_, rfl⟩
  have b20_0 : -1 ≤ H0 ∧ H0 ≤ 999 := by rw [← g20_0]; exact r20
  refine wp_X9_roadLine F w _ (ci_placedL (k := 0) hF hB hC (by rw [g20_0]; exact b20_0) rfl (by omega) (by show (0 : Nat) < 4; decide) rfl rfl (by decide) (fun z => can_new (fun y => absurd y.2 (by show ¬ (0 : Nat) = 1; decide)) rfl rfl) (fun w1 f1 q => br0 (q_z0 (h0 w1 (spl_slo f1) q))) (fun w1 x1 f1 hC1 h20_1 hx1 => br1 ?_))
  have g20_1 : w1.1 0 20 = mx H0 x1.1 := by rw [h20_1, g20_0]
  have b20_1 := mx_b b20_0 hx1
  generalize hH1 : mx H0 x1.1 = H1 at g20_1 b20_1
  have hx9 : w1.1 9 0 = x1.1 := (hC1.nv (k := 0) (by show (0 : Nat) < 1; decide)).1
  rw [hx9]
  have hcan1 : ∀ v p, 0 ≤ v → v ≤ 999 → ((0 ≤ v ∧ v ≤ 8 ∧ v ≠ x1.1) ↔ can 1 ([] ++ [x1] : NL).length S (([] ++ [x1]) ++ [(v, p)])) := fun v p v0 v1 => ⟨fun y => ⟨y.1, y.2.1, fun z => y.2.2 z.2.2⟩, fun y => ⟨y.1, y.2.1, fun z => y.2.2 ⟨rfl, rfl, z⟩⟩⟩
  refine ci_placedL (k := 1) hF hB hC1 (by rw [g20_1]; exact b20_1) rfl (by omega) (by show (1 : Nat) < 4; decide) rfl rfl ⟨by omega, by omega⟩ (fun z => hcan1) (fun w2 f2 q => br0 (q_z0 (h0 w2 ((spl_slo f1).tr (spl_slo f2)) q))) (fun w2 x2 f2 hC2 h20_2 hx2 => br1 ?_)
  have g20_2 : w2.1 0 20 = mx H1 x2.1 := by rw [h20_2, g20_1]
  have b20_2 := mx_b b20_1 hx2
  generalize hH2 : mx H1 x2.1 = H2 at g20_2 b20_2
  refine ci_takeL (k := 2) hF hB hC2 rfl (by omega) (by show (2 : Nat) < 4; decide) rfl rfl (by decide) (by decide) (by decide) (fun z => can_new (fun y => absurd y.2 (by show ¬ (2 : Nat) = 1; decide)) rfl rfl) (fun w3 f3 q => br0 (q_z0 (h0 w3 (((spl_slo f1).tr (spl_slo f2)).tr (sta_slo f3)) q))) (fun w3 x3 f3 hC3 => br1 ?_)
  have g20_3 : w3.1 0 20 = H2 := by rw [f3.I 0 20 (by simp [Sta])]; exact g20_2
  have b20_3 := b20_2
  generalize hH3 : H2 = H3 at g20_3 b20_3
  refine ci_takeL (k := 3) hF hB hC3 rfl (by omega) (by show (3 : Nat) < 4; decide) rfl rfl (by decide) (by decide) (by decide) (fun z => can_new (fun y => absurd y.2 (by show ¬ (3 : Nat) = 1; decide)) rfl rfl) (fun w4 f4 q => br0 (q_z0 (h0 w4 ((((spl_slo f1).tr (spl_slo f2)).tr (sta_slo f3)).tr (sta_slo f4)) q))) (fun w4 x4 f4 hC4 => br1 ?_)
  have g20_4 : w4.1 0 20 = H3 := by rw [f4.I 0 20 (by simp [Sta])]; exact g20_3
  have b20_4 := b20_3
  generalize hH4 : H3 = H4 at g20_4 b20_4
  have ff : Fr Slo w w4 := (((spl_slo f1).tr (spl_slo f2)).tr (sta_slo f3)).tr (sta_slo f4)
  have c8 : ∀ k, w4.1 8 k = w.1 8 k := fun k => by rw [f4.I 8 k (by simp [Sta]), f3.I 8 k (by simp [Sta]), f2.I 8 k (by simp [Spl]), f1.I 8 k (by simp [Spl])]
  obtain ⟨l, hl⟩ : ∃ l : NL, l = [] ++ [x1] ++ [x2] ++ [x3] ++ [x4] := ⟨_, rfl⟩
  rw [← hl] at hC4
  have len : l.length = 4 := by rw [hl]; rfl
  have v0 := hC4.nv (k := 0) (by omega)
  have y0 : x1.1 = nv l 0 := by rw [hl]; rfl
  have v1 := hC4.nv (k := 1) (by omega)
  have y1 : x2.1 = nv l 1 := by rw [hl]; rfl
  have v2 := hC4.nv (k := 2) (by omega)
  have y2 : x3.1 = nv l 2 := by rw [hl]; rfl
  have v3 := hC4.nv (k := 3) (by omega)
  have y3 : x4.1 = nv l 3 := by rw [hl]; rfl
  have lay : ∀ (w5 : AW) (v1' v2' : AV), Fr (fun j _ => j = 8) w4 w5 → (∀ j : Nat, w5.1 8 j = if w.1 8 1 < 14 ∧ 10 + 11 * w.1 8 1 ≤ j ∧ (j : Int) < 17 + 11 * w.1 8 1 then (if (j : Int) = 10 + 11 * w.1 8 1 then -1 else 0) else w.1 8 j) → TT (k_X9_roadLine_105 F [vR 0, v1', v2'] [] w5) (qq 2 (fun r w => ∃ x, r = some (vI x) ∧ P x w)) := by
    intro w5 v1' v2' f5 h5
    have hC5 := hC4.e8 f5
    have q1 : w5.1 8 1 = w.1 8 1 := by rw [h5 1, if_neg (by omega)]
    have q2 : w5.1 8 2 = w.1 8 2 := by rw [h5 2, if_neg (by omega)]
    have q3 : w5.1 8 3 = w.1 8 3 := by rw [h5 3, if_neg (by omega)]
    have q20 : w5.1 0 20 = H4 := by rw [f5.I 0 20 (by decide)]; exact g20_4
    have q9 : ∀ k, w5.1 9 k = w4.1 9 k := fun k => f5.I 9 k (by decide)
    have ff5 : Fr Slo w w5 := ff.tr (e8_slo f5)
    refine wp_X9_roadLine_105 F v1' v2' w5 _ (cv_lay4 (c := 1) (n := 4) hF (by decide) (by decide) (by decide) (by rw [q1]; omega) (by decide) (by decide) (by decide) (fun q => by rw [q1] at q ⊢; omega) (fun q => q_z1 (h1 w5 l ff5 (hC5.done len ⟨by rw [q1]; exact r1, by rw [q2]; exact r2, by rw [q3]; exact r3, by rw [q20]; exact b20_4⟩ (fun z => ?_)))) (fun q w6 f6 h6 => q_z1 (h1 w6 l (ff5.tr (e8_slo f6)) ((hC5.e8 f6).done len ⟨?_, ?_, ?_, ?_⟩ (fun z => ⟨fun j hj => ?_, fun x hx => ?_⟩)))))
    · exfalso
      obtain ⟨z1, z2⟩ := fl0_z (ufc_z z)
      have := (hRW z1).1 1 (by omega)
      rw [q1] at q
      exact z2 (Or.inl ⟨rfl, by omega⟩)
    · rw [h6 1, if_pos rfl]
      rw [q1] at q ⊢
      omega
    · rw [h6 2, if_neg (by decide), if_neg (by rw [q1]; omega), q2]; exact r2
    · rw [h6 3, if_neg (by decide), if_neg (by rw [q1]; omega), q3]; exact r3
    · rw [f6.I 0 20 (by decide), q20]; exact b20_4
    · obtain ⟨z1, z2⟩ := fl0_z (ufc_z z)
      have hrw := (hRW z1).1
      have s1 := hrw 1 (by omega)
      rw [q1] at q
      show w6.1 8 j = addR S (nv l 0) (nv l 1) (nv l 2) (nv l 3) j
      rw [h6 j, addR_at (by omega) j, q1, s1]
      by_cases zc : j = 1
      · rw [if_pos zc, if_pos zc]
      rw [if_neg zc, if_neg zc]
      by_cases y : 6 + 11 * S 1 ≤ j ∧ (j : Int) < 6 + 11 * S 1 + ((4 : Nat) : Int)
      · rw [if_pos y, q9]
        have : (j : Int) = 6 + 11 * S 1 ∨ (j : Int) = 7 + 11 * S 1 ∨ (j : Int) = 8 + 11 * S 1 ∨ (j : Int) = 9 + 11 * S 1 := by omega
        rcases this with e | e | e | e
        · rw [show j - (6 + 11 * S 1).toNat = 0 + 0 from by omega, v0.1]
          (repeat first | rw [if_neg (by omega)] | rw [if_pos (by omega)])
        · rw [show j - (6 + 11 * S 1).toNat = 0 + 1 from by omega, v1.1]
          (repeat first | rw [if_neg (by omega)] | rw [if_pos (by omega)])
        · rw [show j - (6 + 11 * S 1).toNat = 0 + 2 from by omega, v2.1]
          (repeat first | rw [if_neg (by omega)] | rw [if_pos (by omega)])
        · rw [show j - (6 + 11 * S 1).toNat = 0 + 3 from by omega, v3.1]
          (repeat first | rw [if_neg (by omega)] | rw [if_pos (by omega)])
      · rw [if_neg y, h5 j]
        by_cases y2 : 10 + 11 * S 1 ≤ j ∧ (j : Int) < 17 + 11 * S 1
        · rw [if_pos (show w.1 8 1 < 14 ∧ 10 + 11 * w.1 8 1 ≤ j ∧ (j : Int) < 17 + 11 * w.1 8 1 from by omega)]
          by_cases y3 : (j : Int) = 10 + 11 * S 1
          · rw [if_pos (show (j : Int) = 10 + 11 * w.1 8 1 from by omega)]
            (repeat first | rw [if_neg (by omega)] | rw [if_pos (by omega)])
          · rw [if_neg (show ¬ (j : Int) = 10 + 11 * w.1 8 1 from by omega)]
            (repeat first | rw [if_neg (by omega)] | rw [if_pos (by omega)])
        · rw [if_neg (by omega)]
          (repeat rw [if_neg (by omega)])
          exact hrw j hj
    · obtain ⟨z1, z2⟩ := fl0_z (ufc_z z)
      have hrw := (hRW z1).1
      have s1 := hrw 1 (by omega)
      have s2 := hrw 2 (by omega)
      have s3 := hrw 3 (by omega)
      rw [q1] at q
      show w6.1 0 20 < x ↔ FT (addR S (nv l 0) (nv l 1) (nv l 2) (nv l 3)) x
      rw [f6.I 0 20 (by decide), q20, ft_addR (by omega) (by omega) (by omega), ← (hRW z1).2 x hx, g20_0, ← hH4, ← hH3, ← hH2, mx_lt, ← hH1, mx_lt, y0, y1]
      exact ⟨fun z => ⟨z.1.1, z.1.2, z.2⟩, fun z => ⟨⟨z.1, z.2.1⟩, z.2.2⟩⟩
  rw [c8, w_id (x := w.1 8 1) (by omega) (by omega)]
  refine ⟨fun q x18 hx18 => ?_, fun q => lay w4 vU vU Fr.rf (fun j => by rw [if_neg (fun y => q y.1), c8])⟩
  refine tt_for (K := k_X9_roadLine_75 F) 11 (fun i w' lo => Fr (fun j _ => j = 8) w4 w' ∧ lo = [vR 0, vI x18, vI i] ∧ 4 ≤ i ∧ i ≤ 11 ∧ ∀ j : Nat, w'.1 8 j = if 10 + 11 * w.1 8 1 ≤ j ∧ (j : Int) < 6 + 11 * w.1 8 1 + i then (if (j : Int) = 10 + 11 * w.1 8 1 then -1 else 0) else w.1 8 j) ?_ F 4 _ w4 (by omega) ⟨Fr.rf, rfl, by omega, by omega, fun j => by rw [if_neg (by omega), c8]⟩
  rintro m i lo w5 ⟨f5, rfl, hi0, hi1, h5⟩ hk
  rw [ks_X9_roadLine_75]
  refine wp_X9_roadLine_75 F _ x18 i w5 _ ?_
  rw [w_id (x := i) (by omega) (by omega)]
  have put : i < 11 → ∀ v, v = (if i = 4 then -1 else 0) → TT (k_X9_roadLine_98 F (k_X9_roadLine_75 F m) [vR 0, vI x18, vI i] [vI v, vI (x18 + i), vR 8] w5) (qq 2 (fun r w => ∃ x, r = some (vI x) ∧ P x w)) := by
    intro hq v hv
    refine wp_X9_roadLine_98 F _ x18 i v (x18 + i) w5 _ ⟨⟨by omega, by omega⟩, fun w6 e6 => hk _ _ ⟨by rw [e6]; exact f5.wI _ rfl, rfl, by omega, by omega, fun j => ?_⟩ hq⟩
    rw [e6, wI_at]
    by_cases z : j = (x18 + i).toNat
    · rw [if_pos ⟨rfl, z⟩, if_pos (by omega), hv]
      by_cases y : i = 4
      · rw [if_pos y, if_pos (by omega)]
      · rw [if_neg y, if_neg (by omega)]
    · rw [if_neg (fun y => z y.2), h5 j]
      by_cases y : 10 + 11 * w.1 8 1 ≤ j ∧ (j : Int) < 6 + 11 * w.1 8 1 + i
      · rw [if_pos y, if_pos (show 10 + 11 * w.1 8 1 ≤ j ∧ (j : Int) < 6 + 11 * w.1 8 1 + (i + 1) from by omega)]
      · rw [if_neg y, if_neg (show ¬ (10 + 11 * w.1 8 1 ≤ j ∧ (j : Int) < 6 + 11 * w.1 8 1 + (i + 1)) from by omega)]
  refine ⟨fun q2 => ⟨fun q3 => put q2 _ (by rw [if_pos q3]), fun q3 => put q2 _ (by rw [if_neg q3])⟩, fun q2 => lay w5 _ _ f5 (fun j => ?_)⟩
  rw [h5 j]
  by_cases y : 10 + 11 * w.1 8 1 ≤ j ∧ (j : Int) < 17 + 11 * w.1 8 1
  · rw [if_pos (show 10 + 11 * w.1 8 1 ≤ j ∧ (j : Int) < 6 + 11 * w.1 8 1 + i from by omega), if_pos (show w.1 8 1 < 14 ∧ 10 + 11 * w.1 8 1 ≤ j ∧ (j : Int) < 17 + 11 * w.1 8 1 from by omega)]
  · rw [if_neg (show ¬ (10 + 11 * w.1 8 1 ≤ j ∧ (j : Int) < 6 + 11 * w.1 8 1 + i) from by omega), if_neg (show ¬ (w.1 8 1 < 14 ∧ 10 + 11 * w.1 8 1 ≤ j ∧ (j : Int) < 17 + 11 * w.1 8 1) from by omega)]
