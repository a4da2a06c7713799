/-! many days, the reference -/
theorem RZ_62 {T : Nat → Int} {w w' : AW} (h : Fr (fun j k => j = 0 ∧ k = 62) w w') : ZE T (RZ w') (RZ w) := ⟨fun r _ => h.I 10 r (by omega), fun p _ => ⟨h.I 25 p (by omega), h.I 26 p (by omega)⟩, fun p _ => ⟨h.I 27 p (by omega), h.I 28 p (by omega), h.I 29 p (by omega), h.I 30 p (by omega)⟩, fun r _ => ⟨h.I 31 r (by omega), h.I 32 r (by omega)⟩, h.I 0 60 (by omega), h.I 0 61 (by omega)⟩
abbrev S62 (j k : Nat) : Prop := j = 0 ∧ k = 62
theorem rx_62 {T : Nat → Int} {fr : Int} {w w' : AW} (h : RX T fr w) (f : Fr S62 w w') : RX T fr w' := h.fr' f (by intro j k; simp only [SHA, S62]; omega)
theorem s62_KQ {w w' : AW} (h : Fr S62 w w') : KQ w w' := h.KQ (by intro j k; simp only [S62]; omega)
theorem cr_days {F : Nat} {t seed n what : Int} {w : AW} {P : Int → AW → Prop} (hF : FB F) (hI : TwI w) (ht : iR t) (hnr : iR n) (hwr : iR what) (hp : ∀ w', KQ w w' → P (aDays (w.1 5 0) (TR w t) t seed n what) w') : CI (m_X9_days F [vR 0, vI t, vI seed, vI n, vI what] w) P := by
  refine wp_X9_days F t seed n what w _ (fun w0 e0 => ?_)
  have k0 : KQ w w0 := by rw [e0]; exact wI0_KQ
  have hI0 := hI.Q k0
  refine ci_layErrands hF hI0.1 (fun t x y => (hI0.2.2 t x y).1) ht (by decide) (fun hz ho w1 f1 hX _ hown => br1 ?_) (fun hz w1 f1 => br0 (q_i ?_))
  · rw [k0.TR] at ho hX hown
    rw [k0.m] at hz
    have hT := (hI.2.2 t hz.1 hz.2).1
    have hg : gd (w.1 5 0) (TR w t) t 0 := ⟨hz, ho⟩
    have k1 : KQ w w1 := k0.tr (sle_KQ f1)
    have a1 := hT.2.1
    have a2 := hT.2.2.1
    have a3 := hT.2.2.2.1
    have e23 : w1.1 0 23 = TR w t 1 := hX.1.2.2.1
    have e24 : w1.1 0 24 = TR w t 2 := hX.1.2.2.2.1
    refine ci_in hnr (by decide) (by decide) (fun hn => br1 ?_) (fun hn => br0 (q_i ?_))
    · rw [e23]
      have main : ∀ (x13 x16 : Int), (x13 = 0 ∨ x13 = 1) → (x16 = 0 ∨ x16 = 1) → (x13 = 1 ↔ (10 ≤ what ∧ what < 10 + TR w t 1)) → (x16 = 1 ↔ (30 ≤ what ∧ what < 30 + TR w t 2)) → (x13 = 1 ∨ x16 = 1 ∨ what = 0 ∨ what = 1 ∨ what = 3) → TT (k_X9_days_91 F [vR 0, vI t, vI seed, vI n, vI what, vI x13, vI x16, vU, vU, vU] [] w1) (qq 1 (fun r w => ∃ x, r = some (vI x) ∧ P x w)) := by
        intro x13 x16 h13 h16 i13 i16 hsome
        refine wp_X9_days_91 F t seed n what x13 x16 w1 _ (fun w2 e2 => cv_clear hF (fun w3 f3 c1 c2 c3 c4 => ?_))
        have f2 : Fr S62 w1 w2 := by rw [e2]; exact Fr.rf.wI _ ⟨rfl, rfl⟩
        have f3' : Fr Sday w2 w3 := f3.wk (by intro j k; simp only [Sday]; omega)
        have hX3 := rx_day (rx_62 hX f2) f3'
        have k3 : KQ w w3 := k1.tr ((s62_KQ f2).tr (day_KQ f3'))
        have s3 : w3.1 0 62 = seed := by rw [f3.I 0 62 (by omega), e2, wI_same]
        have hz0 : ZE (TR w t) (gMor (TR w t) (RZ w3)) (gMor (TR w t) (gNew (TR w t) (-1))) := by
          refine ⟨fun r hr => ?_, fun p hp' => ⟨rfl, rfl⟩, fun p hp' => c1 p hp', fun r hr => c2 r hr, c3, c4⟩
          show w3.1 10 r = own0 (TR w t) (-1) r
          rw [f3.I 10 r (by omega), f2.I 10 r (by simp only [S62]; omega)]
          have := hown r (by omega) hr
          rw [Int.toNat_natCast] at this
          exact this
        refine tt_for (K := k_X9_days_103 F) n (fun i w' l => KQ w w' ∧ RX (TR w t) (-1) w' ∧ 0 ≤ i ∧ i ≤ n ∧ ZE (TR w t) (gMor (TR w t) (RZ w')) (gMor (TR w t) (dys (TR w t) seed i.toNat).1) ∧ (1 ≤ i → ZE (TR w t) (RZ w') (dys (TR w t) seed i.toNat).1) ∧ w'.1 0 62 = (dys (TR w t) seed i.toNat).2 ∧ ∃ u v, l = [vR 0, vI t, vI seed, vI n, vI what, vI x13, vI x16, vI i, u, v]) ?_ F 0 _ w3 (by omega) ⟨k3, hX3, by omega, by omega, hz0, fun z => by omega, s3, vU, vU, rfl⟩
        rintro m i l w4 ⟨k4, hX4, hi0, hi1, hz4, hz4', s4, u, v, rfl⟩ hk
        rw [ks_X9_days_103]
        refine wp_X9_days_103 F _ t seed n what x13 x16 i u v w4 _ ?_
        rw [w_id (x := i) (by omega) (by omega), w_id (x := n) (by omega) (by omega), w_id (x := x13) (by omega) (by omega), w_id (x := x16) (by omega) (by omega)]
        refine ⟨fun q => ?_, fun q => ?_⟩
        · refine tt_for (K := k_X9_days_115 F (k_X9_days_103 F m)) (TR w t 3) (fun e w' l => Fr S62 w4 w' ∧ 0 ≤ e ∧ e ≤ TR w t 3 ∧ w'.1 0 62 = (dst (TR w t) e.toNat (dys (TR w t) seed i.toNat).2).2 ∧ l = [vR 0, vI t, vI seed, vI n, vI what, vI x13, vI x16, vI i, vI (dst (TR w t) e.toNat (dys (TR w t) seed i.toNat).2).1, vI e]) ?_ F 0 _ w4 (by omega) ⟨Fr.rf, by omega, by omega, s4, rfl⟩
          rintro m2 e l w5 ⟨f5, he0, he1, s5, rfl⟩ hk2
          have hX5 := rx_62 hX4 f5
          have e25 : w5.1 0 25 = TR w t 3 := hX5.1.2.2.2.2.1
          rw [ks_X9_days_115]
          refine wp_X9_days_115 F _ _ t seed n what x13 x16 i _ e w5 _ ?_
          rw [e25, w_id (x := e) (by omega) (by omega), w_id (x := TR w t 3) (by omega) (by omega)]
          refine ⟨fun q2 => wp_X9_draw F 100 w5 _ (fun w6 e6 => ⟨by decide, q_i ?_⟩), fun q2 => ?_⟩
          · have f6 : Fr S62 w4 w6 := by rw [e6]; exact f5.wI _ ⟨rfl, rfl⟩
            have s6 : w6.1 0 62 = (dst (TR w t) e.toNat (dys (TR w t) seed i.toNat).2).2 * 1103515245 + 12345 := by rw [e6, wI_same, s5]
            have st := dst_step (T := TR w t) (x := (dys (TR w t) seed i.toNat).2) he0
            have hnb := (dst_ok (T := TR w t) (x := (dys (TR w t) seed i.toNat).2) e.toNat (by omega)).1
            rw [s6, show w32 100 = 100 from by decide]
            refine ci_eL (rx_62 hX4 f6).1 hT he0 q2 ⟨fun q3 => wp_X9_days_150 F _ _ t seed n what x13 x16 i _ e _ _ w6 _ (fun x ex => hk2 _ _ ⟨f6, by omega, by omega, ?_, ?_⟩ q2), fun q3 => wp_X9_days_150 F _ _ t seed n what x13 x16 i _ e _ _ w6 _ (fun x ex => hk2 _ _ ⟨f6, by omega, by omega, ?_, ?_⟩ q2)⟩
            · rw [s6, st]
            · have q4 : w32 (drw ((dst (TR w t) e.toNat (dys (TR w t) seed i.toNat).2).2 * 1103515245 + 12345)) < w32 (eL (TR w t) e) := q3
              rw [st, if_pos q4, ex]
            · rw [s6, st]
            · have q4 : ¬ w32 (drw ((dst (TR w t) e.toNat (dys (TR w t) seed i.toNat).2).2 * 1103515245 + 12345)) < w32 (eL (TR w t) e) := q3
              rw [st, if_neg q4, ex, bOr_0 hnb]
          · have e3 : e = TR w t 3 := by omega
            subst e3
            obtain ⟨d1, d2⟩ := dys_ok (seed := seed) hT i.toNat
            have hz5 : ZE (TR w t) (gMor (TR w t) (RZ w5)) (gMor (TR w t) (dys (TR w t) seed i.toNat).1) := (gMor_congr (RZ_62 f5)).tr hz4
            have hO : OK (TR w t) (w5.1 10) := fun r x y => by
              have : w5.1 10 r.toNat = (dys (TR w t) seed i.toNat).1 0 r.toNat := hz5.1 r.toNat (by omega)
              rw [this]
              exact d1.1 r.toNat (by omega)
            have hla : 0 ≤ w5.1 0 60 ∧ w5.1 0 60 ≤ 100000 := by
              have : w5.1 0 60 = (dys (TR w t) seed i.toNat).1 9 0 := hz5.2.2.2.2.1
              rw [this]
              exact d1.2.2
            have hd := dst_ok (T := TR w t) (x := (dys (TR w t) seed i.toNat).2) (TR w t 3).toNat (by omega)
            refine cv_goAll hF hT hX5.1 hX5.2.1 (by omega) hX5.2.2 hO hla hd.1 (fun e he => by have := hd.2 e he; omega) (fun w6 f6 hz6 => hk _ _ ⟨k4.tr ((s62_KQ f5).tr (day_KQ f6)), rx_day hX5 f6, by omega, by omega, ?_, fun _ => ?_, ?_, vI (dst (TR w t) (TR w t 3).toNat (dys (TR w t) seed i.toNat).2).1, vI (TR w t 3), rfl⟩ q)
            · rw [dys_step hi0]
              exact gMor_congr (hz6.tr (gDay_congr hT hz5))
            · rw [dys_step hi0]
              exact hz6.tr (gDay_congr hT hz5)
            · rw [dys_step hi0, f6.I 0 62 (by simp only [Sday]; omega)]
              exact s5
        · have ei : i = n := by omega
          subst ei
          have hzz := hz4' (by omega)
          have hpk := hp w4 k4
          unfold aDays at hpk
          rw [if_pos ⟨hg, hn⟩] at hpk
          refine ⟨fun y => ⟨fun y2 => ?_, fun y2 => ?_⟩, fun y => ?_⟩
          · have hw3 : what = 0 ∨ what = 1 ∨ what = 3 := by omega
            rw [if_pos hw3] at hpk
            refine ci_sums hF hT hX4.1 (Or.inl rfl) (by omega) (q_i ?_)
            rw [if_pos rfl, figS_ze hzz _ _ (by omega)]
            exact hpk
          · have z16 : 30 ≤ what ∧ what < 30 + TR w t 2 := i16.mp (by omega)
            rw [if_neg (by omega), if_neg (by omega), if_pos z16] at hpk
            refine ⟨⟨by omega, by omega⟩, ⟨by omega, by omega⟩, q_i ?_⟩
            have e5 : w4.1 29 (what - 30).toNat = (dys (TR w t) seed i.toNat).1 5 (what - 30).toNat := (hzz.2.2.1 _ (by omega)).2.2.1
            have e4 : w4.1 28 (what - 30).toNat = (dys (TR w t) seed i.toNat).1 4 (what - 30).toNat := (hzz.2.2.1 _ (by omega)).2.1
            rw [e5, e4]
            exact hpk
          · have z13 : 10 ≤ what ∧ what < 10 + TR w t 1 := i13.mp (by omega)
            rw [if_neg (by omega), if_pos z13] at hpk
            refine ⟨⟨by omega, by omega⟩, q_i ?_⟩
            have e0 : w4.1 10 (what - 10).toNat = (dys (TR w t) seed i.toNat).1 0 (what - 10).toNat := hzz.1 _ (by omega)
            rw [e0]
            exact hpk
      have none' : ¬ (10 ≤ what ∧ what < 10 + TR w t 1) → ¬ (30 ≤ what ∧ what < 30 + TR w t 2) → ¬ (what = 0 ∨ what = 1 ∨ what = 3) → P (-100000) w1 := fun z1 z2 z3 => by
        have hpk := hp w1 k1
        unfold aDays at hpk
        rw [if_pos ⟨hg, hn⟩, if_neg z3, if_neg z1, if_neg z2] at hpk
        exact hpk
      refine ci_in hwr (by decide) ⟨by omega, by omega⟩ (fun z1 => ?_) (fun z1 => ?_)
      · rw [e24]
        refine ci_in hwr (by decide) ⟨by omega, by omega⟩ (fun z2 => br1 (main 1 1 (by omega) (by omega) ⟨fun _ => by omega, fun _ => rfl⟩ ⟨fun _ => by omega, fun _ => rfl⟩ (by omega))) (fun z2 => br1 (main 1 0 (by omega) (by omega) ⟨fun _ => by omega, fun _ => rfl⟩ ⟨fun y => by omega, fun y => absurd (by omega) z2⟩ (by omega)))
      · rw [e24]
        refine ci_in hwr (by decide) ⟨by omega, by omega⟩ (fun z2 => br0 (br1 (main 0 1 (by omega) (by omega) ⟨fun y => by omega, fun y => absurd (by omega) z1⟩ ⟨fun _ => by omega, fun _ => rfl⟩ (by omega)))) (fun z2 => br0 (br0 ?_))
        have m0 : (what = 0 ∨ what = 1 ∨ what = 3) → TT (k_X9_days_91 F [vR 0, vI t, vI seed, vI n, vI what, vI 0, vI 0, vU, vU, vU] [] w1) (qq 1 (fun r w => ∃ x, r = some (vI x) ∧ P x w)) := fun y => main 0 0 (by omega) (by omega) ⟨fun y => by omega, fun y => absurd (by omega) z1⟩ ⟨fun y => by omega, fun y => absurd (by omega) z2⟩ (by omega)
        rw [w_id hwr.1 hwr.2]
        exact ⟨fun y => m0 (by omega), fun y => ⟨fun y2 => m0 (by omega), fun y2 => ⟨fun y3 => m0 (by omega), fun y3 => q_i (none' (by omega) (by omega) (by omega))⟩⟩⟩
    · have hpk := hp w1 k1
      unfold aDays at hpk
      rw [if_neg (fun y => hn y.2)] at hpk
      exact hpk
  · rw [k0.TR, k0.m] at hz
    have hpk := hp w1 (k0.tr (sle_KQ f1))
    unfold aDays at hpk
    rw [if_neg (fun y => hz y.1)] at hpk
    exact hpk
