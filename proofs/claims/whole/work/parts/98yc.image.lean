/-! IMAGE, AGAIN: the reference copies -/
theorem cv_copyRow {F : Nat} {j : Nat} {nn n fm to A B : Int} {w : AW} {P : AW → Prop} (hF : FB F) (hj : isI j nn) (hn : 0 ≤ n ∧ n ≤ 500) (hA : A = n * fm) (hB : B = n * to) (h1 : 0 ≤ A ∧ A + n ≤ nn) (h2 : 0 ≤ B ∧ B + n ≤ nn) (hne : A + n ≤ B ∨ B + n ≤ A) (hp : ∀ w', Fr (fun a k => a = j ∧ B ≤ k ∧ (k : Int) < B + n) w w' → (∀ k : Nat, (k : Int) < n → w'.1 j (B.toNat + k) = w.1 j (A.toNat + k)) → P w') : CV (m_X9_copyRow F [vR j, vI n, vI fm, vI to] w) P := by
  refine wp_X9_copyRow F j nn hj n fm to w _ ?_
  refine tt_for (K := k_X9_copyRow_3 F) n (fun i w' l => Fr (fun a k => a = j ∧ B ≤ k ∧ (k : Int) < B + n) w w' ∧ l = [vR j, vI n, vI fm, vI to, vI i] ∧ 0 ≤ i ∧ i ≤ n ∧ ∀ k : Nat, (k : Int) < i → w'.1 j (B.toNat + k) = w.1 j (A.toNat + k)) ?_ F 0 _ w (by omega) ⟨Fr.rf, rfl, by omega, by omega, fun k hk => by omega⟩
  rintro m i l w1 ⟨f1, rfl, hi0, hi1, g1⟩ hk
  rw [ks_X9_copyRow_3]
  refine wp_X9_copyRow_3 F _ j nn hj n fm to i w1 _ ?_
  rw [← hA, ← hB, w_id (x := i) (by omega) (by omega), w_id (x := n) (by omega) (by omega)]
  refine ⟨fun q => ⟨⟨by omega, by omega⟩, ⟨by omega, by omega⟩, fun w2 e2 => hk _ _ ⟨by rw [e2]; exact f1.wI _ (by omega), rfl, by omega, by omega, fun k hk2 => ?_⟩ q⟩, fun q => q_v (hp w1 f1 (fun k hk2 => g1 k (by omega)))⟩
  rw [e2, wI_at]
  by_cases z : (k : Int) = i
  · rw [if_pos ⟨rfl, by omega⟩, show (A + i).toNat = A.toNat + k from by omega, f1.I j _ (by omega)]
  · rw [if_neg (by omega)]; exact g1 k (by omega)
theorem cv_copyAll {F : Nat} {s0 s1 : Nat} {w : AW} {P : AW → Prop} (hF : FB F) (h0 : s0 < 4) (h1 : s1 < 4) (hne : s0 ≠ s1) (hby : ∀ k, k < 600 → -128 ≤ w.1 1 (600 * s1 + k) ∧ w.1 1 (600 * s1 + k) ≤ 127) (hp : ∀ w', Fr (fun j k => (j = 1 ∧ 600 * s0 ≤ k ∧ k < 600 * s0 + 600) ∨ ((j = 2 ∨ j = 3 ∨ j = 4) ∧ k = s0) ∨ (j = 5 ∧ (k = 2 * s0 ∨ k = 2 * s0 + 1)) ∨ (j = 6 ∧ 464 * s0 ≤ k ∧ k < 464 * s0 + 464) ∨ (j = 7 ∧ 363 * s0 ≤ k ∧ k < 363 * s0 + 363)) w w' → (∀ k, k < 600 → w'.1 1 (600 * s0 + k) = w.1 1 (600 * s1 + k)) → w'.1 2 s0 = w.1 2 s1 → w'.1 3 s0 = w.1 3 s1 → w'.1 4 s0 = w.1 4 s1 → w'.1 5 (2 * s0) = w.1 5 (2 * s1) → w'.1 5 (2 * s0 + 1) = w.1 5 (2 * s1 + 1) → (∀ k, k < 464 → w'.1 6 (464 * s0 + k) = w.1 6 (464 * s1 + k)) → (∀ k, k < 363 → w'.1 7 (363 * s0 + k) = w.1 7 (363 * s1 + k)) → P w') : CV (m_X9_copyAll F [vR 0, vI s1, vI s0] w) P := by
  refine wp_X9_copyAll F s1 s0 w _ ?_
  refine tt_for (K := k_X9_copyAll_2 F) 600 (fun i w' l => Fr (fun j k => j = 1 ∧ 600 * s0 ≤ k ∧ k < 600 * s0 + 600) w w' ∧ l = [vR 0, vI s1, vI s0, vI i] ∧ 0 ≤ i ∧ i ≤ 600 ∧ ∀ k : Nat, (k : Int) < i → w'.1 1 (600 * s0 + k) = w.1 1 (600 * s1 + k)) ?_ F 0 _ w (by omega) ⟨Fr.rf, rfl, by omega, by omega, fun k hk => by omega⟩
  rintro m i l w1 ⟨f1, rfl, hi0, hi1, g1⟩ hk
  rw [ks_X9_copyAll_2]
  refine wp_X9_copyAll_2 F _ s1 s0 i w1 _ ?_
  rw [w_id (x := i) (by omega) (by omega)]
  refine ⟨fun q => ⟨⟨by omega, by omega⟩, ⟨by omega, by omega⟩, fun w2 e2 => hk _ _ ⟨by rw [e2]; exact f1.wI _ (by omega), rfl, by omega, by omega, fun k hk2 => ?_⟩ q⟩, fun q => ?_⟩
  · rw [e2, wI_at]
    by_cases z : (k : Int) = i
    · rw [if_pos ⟨rfl, by omega⟩, show (600 * (s1 : Int) + i).toNat = 600 * s1 + k from by omega, f1.I 1 _ (by omega), tB_id (hby k (by omega))]
    · rw [if_neg (by omega)]; exact g1 k (by omega)
  · refine cv_copyRow (nn := 4) (A := s1) (B := s0) hF ⟨rfl, rfl⟩ (by omega) (by omega) (by omega) (by omega) (by omega) (by omega) (fun w2 f2 g2 => ?_)
    refine cv_copyRow (nn := 4) (A := s1) (B := s0) hF ⟨rfl, rfl⟩ (by omega) (by omega) (by omega) (by omega) (by omega) (by omega) (fun w3 f3 g3 => ?_)
    refine cv_copyRow (nn := 4) (A := s1) (B := s0) hF ⟨rfl, rfl⟩ (by omega) (by omega) (by omega) (by omega) (by omega) (by omega) (fun w4 f4 g4 => ?_)
    refine cv_copyRow (nn := 8) (A := 2 * s1) (B := 2 * s0) hF ⟨rfl, rfl⟩ (by omega) (by omega) (by omega) (by omega) (by omega) (by omega) (fun w5 f5 g5 => ?_)
    refine cv_copyRow (nn := 1856) (A := 464 * s1) (B := 464 * s0) hF ⟨rfl, rfl⟩ (by omega) (by omega) (by omega) (by omega) (by omega) (by omega) (fun w6 f6 g6 => ?_)
    refine cv_copyRow (nn := 1452) (A := 363 * s1) (B := 363 * s0) hF ⟨rfl, rfl⟩ (by omega) (by omega) (by omega) (by omega) (by omega) (by omega) (fun w7 f7 g7 => q_v (hp w7 ?_ (fun k hk2 => ?_) ?_ ?_ ?_ ?_ ?_ (fun k hk2 => ?_) (fun k hk2 => ?_)))
    · exact ((((((f1.wk (by intro j k; omega)).tr (f2.wk (by intro j k; omega))).tr (f3.wk (by intro j k; omega))).tr (f4.wk (by intro j k; omega))).tr (f5.wk (by intro j k; omega))).tr (f6.wk (by intro j k; omega))).tr (f7.wk (by intro j k; omega))
    · rw [f7.I 1 _ (by omega), f6.I 1 _ (by omega), f5.I 1 _ (by omega), f4.I 1 _ (by omega), f3.I 1 _ (by omega), f2.I 1 _ (by omega)]
      exact g1 k (by omega)
    · have := g2 0 (by omega)
      rw [Int.toNat_natCast, Int.toNat_natCast, Nat.add_zero, Nat.add_zero] at this
      rw [f7.I 2 _ (by omega), f6.I 2 _ (by omega), f5.I 2 _ (by omega), f4.I 2 _ (by omega), f3.I 2 _ (by omega), this, f1.I 2 _ (by omega)]
    · have := g3 0 (by omega)
      rw [Int.toNat_natCast, Int.toNat_natCast, Nat.add_zero, Nat.add_zero] at this
      rw [f7.I 3 _ (by omega), f6.I 3 _ (by omega), f5.I 3 _ (by omega), f4.I 3 _ (by omega), this, f2.I 3 _ (by omega), f1.I 3 _ (by omega)]
    · have := g4 0 (by omega)
      rw [Int.toNat_natCast, Int.toNat_natCast, Nat.add_zero, Nat.add_zero] at this
      rw [f7.I 4 _ (by omega), f6.I 4 _ (by omega), f5.I 4 _ (by omega), this, f3.I 4 _ (by omega), f2.I 4 _ (by omega), f1.I 4 _ (by omega)]
    · have := g5 0 (by omega)
      rw [show (2 * (s0 : Int)).toNat + 0 = 2 * s0 from by omega, show (2 * (s1 : Int)).toNat + 0 = 2 * s1 from by omega] at this
      rw [f7.I 5 _ (by omega), f6.I 5 _ (by omega), this, f4.I 5 _ (by omega), f3.I 5 _ (by omega), f2.I 5 _ (by omega), f1.I 5 _ (by omega)]
    · have := g5 1 (by omega)
      rw [show (2 * (s0 : Int)).toNat + 1 = 2 * s0 + 1 from by omega, show (2 * (s1 : Int)).toNat + 1 = 2 * s1 + 1 from by omega] at this
      rw [f7.I 5 _ (by omega), f6.I 5 _ (by omega), this, f4.I 5 _ (by omega), f3.I 5 _ (by omega), f2.I 5 _ (by omega), f1.I 5 _ (by omega)]
    · have := g6 k (by omega)
      rw [show (464 * (s0 : Int)).toNat + k = 464 * s0 + k from by omega, show (464 * (s1 : Int)).toNat + k = 464 * s1 + k from by omega] at this
      rw [f7.I 6 _ (by omega), this, f5.I 6 _ (by omega), f4.I 6 _ (by omega), f3.I 6 _ (by omega), f2.I 6 _ (by omega), f1.I 6 _ (by omega)]
    · have := g7 k (by omega)
      rw [show (363 * (s0 : Int)).toNat + k = 363 * s0 + k from by omega, show (363 * (s1 : Int)).toNat + k = 363 * s1 + k from by omega] at this
      rw [this, f6.I 7 _ (by omega), f5.I 7 _ (by omega), f4.I 7 _ (by omega), f3.I 7 _ (by omega), f2.I 7 _ (by omega), f1.I 7 _ (by omega)]
/-- both have copied: the pair b, s1 into a, s0 -/
theorem bk_copied {w w1 w2 w3 : AW} {a b s0 s1 : Nat} (hB : Bk w b s1)
    (c1 : w1.1 a 1 = w.1 b 1) (c2 : w1.1 a 2 = w.1 b 2) (c3 : w1.1 a 3 = w.1 b 3) (c5 : w1.1 a 5 = w.1 b 5) (c7 : w1.1 a 7 = w.1 b 7) (ct : ∀ k, k < 600 → w1.1 (a + 1) k = w.1 (b + 1) k) (cT : ∀ t : Nat, (t : Int) < w.1 5 (2 * s1) → CA w1 (a + 3 + 14 * t) (TS w s1 t)) (cD : ∀ d : Nat, (d : Int) < w.1 5 (2 * s1 + 1) → CD w1 (a + 32 + 3 * d) (DS w s1 d))
    (hr : ∀ j k, 1 ≤ j → j ≤ 7 → w2.1 j k = w.1 j k) (hc : ∀ j k, a ≤ j → j ≤ a + 40 → (j = a → k ≠ 8) → w3.1 j k = w1.1 j k)
    (r1 : ∀ k, k < 600 → w3.1 1 (600 * s0 + k) = w2.1 1 (600 * s1 + k)) (r2 : w3.1 2 s0 = w2.1 2 s1) (r3 : w3.1 3 s0 = w2.1 3 s1) (r4 : w3.1 4 s0 = w2.1 4 s1) (r5 : w3.1 5 (2 * s0) = w2.1 5 (2 * s1)) (r51 : w3.1 5 (2 * s0 + 1) = w2.1 5 (2 * s1 + 1)) (r6 : ∀ k, k < 464 → w3.1 6 (464 * s0 + k) = w2.1 6 (464 * s1 + k)) (r7 : ∀ k, k < 363 → w3.1 7 (363 * s0 + k) = w2.1 7 (363 * s1 + k)) : Bk w3 a s0 := by
  obtain ⟨a1, a2, a3, a4, a5, a6, a7, a8, a9, a10, a11⟩ := hB
  rw [hr 2 _ (by omega) (by omega)] at r2
  rw [hr 3 _ (by omega) (by omega)] at r3
  rw [hr 4 _ (by omega) (by omega)] at r4
  rw [hr 5 _ (by omega) (by omega)] at r5 r51
  refine ⟨by rw [r2]; exact a1, by rw [r2, hc a 1 (by omega) (by omega) (by omega), c1]; exact a2, by rw [r3, hc a 2 (by omega) (by omega) (by omega), c2]; exact a3, by rw [r4, hc a 3 (by omega) (by omega) (by omega), c3]; exact a4, by rw [r5]; exact a5, by rw [r5, hc a 5 (by omega) (by omega) (by omega), c5]; exact a6, by rw [r51]; exact a7, by rw [r51, hc a 7 (by omega) (by omega) (by omega), c7]; exact a8, fun k hk => ?_, fun t ht => ?_, fun d hd => ?_⟩
  · rw [hc (a + 1) k (by omega) (by omega) (by omega), ct k hk, r1 k hk, hr 1 _ (by omega) (by omega)]
    exact a9 k hk
  · rw [r5] at ht
    have hT := (a10 t ht).1
    have h2 : t < 2 := by omega
    have e : ∀ i, i < 232 → TS w3 s0 t i = TS w s1 t i := fun i hi => by
      unfold TS
      rw [show 464 * s0 + 232 * t + i = 464 * s0 + (232 * t + i) from by omega, r6 _ (by omega), hr 6 _ (by omega) (by omega), show 464 * s1 + (232 * t + i) = 464 * s1 + 232 * t + i from by omega]
    refine ⟨tk_cong e hT, ca_cong e hT ((cT t ht).eq (fun j k y1 y2 => hc j k (by omega) (by omega) (by omega)))⟩
  · rw [r51] at hd
    have hD := (a11 d hd).1
    have h3 : d < 3 := by omega
    have e : ∀ i, i < 121 → DS w3 s0 d i = DS w s1 d i := fun i hi => by
      unfold DS
      rw [show 363 * s0 + 121 * d + i = 363 * s0 + (121 * d + i) from by omega, r7 _ (by omega), hr 7 _ (by omega) (by omega), show 363 * s1 + (121 * d + i) = 363 * s1 + 121 * d + i from by omega]
    obtain ⟨y1, y2⟩ := cD d hd
    refine ⟨dk_cong e hD, cd_cong e hD ⟨by rw [hc _ 0 (by omega) (by omega) (by omega)]; exact y1, fun k k0 k1 => ?_⟩⟩
    rw [hc _ _ (by omega) (by omega) (by omega), hc _ _ (by omega) (by omega) (by omega)]
    exact y2 k k0 k1
theorem img_bk {k : Nat} (hk : k < 3) : cref 76 k = 77 + 41 * k ∧ isBk (77 + 41 * k) := by
  have : k = 0 ∨ k = 1 ∨ k = 2 := by omega
  rcases this with e | e | e <;> subst e <;> exact ⟨by decide, by simp [isBk]⟩
theorem isBk35 : isBk 35 := by simp [isBk]
theorem Bk.eq2 {w w' : AW} {b s : Nat} (h : Bk w b s) (h0 : w'.1 2 s = w.1 2 s ∧ w'.1 3 s = w.1 3 s ∧ w'.1 4 s = w.1 4 s ∧ w'.1 5 (2 * s) = w.1 5 (2 * s) ∧ w'.1 5 (2 * s + 1) = w.1 5 (2 * s + 1)) (h1 : ∀ k, 600 * s ≤ k → k < 600 * s + 600 → w'.1 1 k = w.1 1 k) (h6 : ∀ k, k < 464 → w'.1 6 (464 * s + k) = w.1 6 (464 * s + k)) (h7 : ∀ k, k < 363 → w'.1 7 (363 * s + k) = w.1 7 (363 * s + k)) (hb : ∀ j k, b ≤ j → j ≤ b + 40 → (j = b → k ≠ 8) → w'.1 j k = w.1 j k) : Bk w' b s := by
  obtain ⟨a1, a2, a3, a4, a5, a6, a7, a8, a9, a10, a11⟩ := h
  obtain ⟨e2, e3, e4, e5, e51⟩ := h0
  refine ⟨by rw [e2]; exact a1, by rw [e2, hb b 1 (by omega) (by omega) (by omega)]; exact a2, by rw [e3, hb b 2 (by omega) (by omega) (by omega)]; exact a3, by rw [e4, hb b 3 (by omega) (by omega) (by omega)]; exact a4, by rw [e5]; exact a5, by rw [e5, hb b 5 (by omega) (by omega) (by omega)]; exact a6, by rw [e51]; exact a7, by rw [e51, hb b 7 (by omega) (by omega) (by omega)]; exact a8, fun k hk => by rw [hb (b + 1) k (by omega) (by omega) (by omega), h1 _ (by omega) (by omega)]; exact a9 k hk, fun t ht => ?_, fun d hd => ?_⟩
  · rw [e5] at ht
    have e : ∀ i, i < 232 → TS w' s t i = TS w s t i := fun i hi => by
      unfold TS
      rw [Nat.add_assoc]
      exact h6 _ (by omega)
    obtain ⟨c1, c2⟩ := a10 t ht
    exact ⟨tk_cong e c1, ca_cong e c1 (c2.eq (fun a k x y => hb a k (by omega) (by omega) (by omega)))⟩
  · rw [e51] at hd
    have e : ∀ i, i < 121 → DS w' s d i = DS w s d i := fun i hi => by
      unfold DS
      rw [Nat.add_assoc]
      exact h7 _ (by omega)
    obtain ⟨c1, c2, c3⟩ := a11 d hd
    refine ⟨dk_cong e c1, cd_cong e c1 ⟨by rw [hb _ 0 (by omega) (by omega) (by omega)]; exact c2, fun k k0 k1 => ?_⟩⟩
    rw [hb _ _ (by omega) (by omega) (by omega), hb _ _ (by omega) (by omega) (by omega)]
    exact c3 k k0 k1
theorem pr_image {F : Nat} {a : Int} {w : AW} (hF : FB F) (hI : Inv w) (ha : iR a) : CI (m_X8_image F [vR 34, vI a] w) (fun x w1 => CI (m_X9_image F [vR 0, vI a] w1) (fun y w2 => x = y ∧ Inv w2)) := by
  have no : ¬ (0 ≤ a ∧ a ≤ 2) → CI (m_X9_image F [vR 0, vI a] w) (fun y w2 => 0 = y ∧ Inv w2) := by
    intro hz
    refine wp_X9_image F a w _ (fun w1 e1 => ?_)
    have k1 : KQ w w1 := by rw [e1]; exact wI0_KQ
    exact ci_in ha (by decide) (by decide) (fun y => absurd y hz) (fun y => br0 (q_z0 ⟨rfl, hI.Q k1⟩))
  refine wp_X8_image F a w _ ?_
  rw [w_id ha.1 ha.2]
  refine ⟨fun q => q_z0 (no (by omega)), fun q => ⟨fun q2 => ?_, fun q2 => q_z0 (no (by omega))⟩⟩
  obtain ⟨n, rfl⟩ := Int.eq_ofNat_of_zero_le (show 0 ≤ a by omega)
  rw [Int.toNat_natCast]
  have hn : n < 3 := by omega
  obtain ⟨ic, ib⟩ := img_bk hn
  rw [ic]
  refine ⟨⟨by omega, q2⟩, ib, cv_copyBook (s := 0) hF ib isBk35 (by omega) hI.1 (fun w1 f1 c1 c2 c3 c5 c7 ct cT cD => ⟨⟨by omega, q2⟩, fun w2 e2 => q_z1 (wp_X9_image F n w2 _ (fun w3 e3 => ci_in ha (by decide) (by decide) (fun _ => br1 ?_) (fun y => absurd ⟨by omega, by omega⟩ y)))⟩)⟩
  have k3 : ∀ j k, ¬ (j = 0 ∧ k = 0) → ¬ (j = 77 + 41 * n ∧ k = 8) → w3.1 j k = w1.1 j k := fun j k x1 x2 => by rw [e3, wI_at, if_neg x1, e2, wI_at, if_neg x2]
  have kw : ∀ j k, 1 ≤ j → (j < 77 + 41 * n ∨ 77 + 41 * n + 40 < j) → w3.1 j k = w.1 j k := fun j k x1 x2 => by rw [k3 j k (by omega) (by omega), f1.I j k (by omega)]
  have hby : ∀ k, k < 600 → -128 ≤ w3.1 1 (600 * 0 + k) ∧ w3.1 1 (600 * 0 + k) ≤ 127 := fun k hk => by
    rw [kw 1 _ (by omega) (by omega)]
    exact (hI.1.2.2.2.2.2.2.2.2.1 k hk).2
  rw [show ((n : Int) + 1) = ((n + 1 : Nat) : Int) from by omega]
  refine cv_copyAll (s0 := n + 1) (s1 := 0) hF (by omega) (by omega) (by omega) hby (fun w4 f4 r1 r2 r3 r4 r5 r51 r6 r7 => ⟨⟨by omega, q2⟩, fun w5 e5 => q_z1 ⟨rfl, ?_⟩⟩)
  rw [Int.toNat_natCast] at e5
  have k5 : ∀ j k, ¬ (j = 33 ∧ k = n) → w5.1 j k = w4.1 j k := fun j k x1 => by rw [e5, wI_at, if_neg x1]
  have hBi : Bk w5 (77 + 41 * n) (n + 1) := by
    refine bk_copied (w := w) (w1 := w1) (w2 := w3) (b := 35) (s1 := 0) hI.1 c1 c2 c3 c5 c7 ct cT cD (fun j k x1 x2 => kw j k x1 (by omega)) (fun j k x1 x2 x3 => ?_) (fun k hk => ?_) ?_ ?_ ?_ ?_ ?_ (fun k hk => ?_) (fun k hk => ?_)
    · rw [k5 j k (by omega), f4.I j k (by omega), k3 j k (by omega) (by omega)]
    · rw [k5 1 _ (by omega)]; exact r1 k hk
    · rw [k5 2 _ (by omega)]; exact r2
    · rw [k5 3 _ (by omega)]; exact r3
    · rw [k5 4 _ (by omega)]; exact r4
    · rw [k5 5 _ (by omega)]; exact r5
    · rw [k5 5 _ (by omega)]; exact r51
    · rw [k5 6 _ (by omega)]; exact r6 k hk
    · rw [k5 7 _ (by omega)]; exact r7 k hk
  have keep : ∀ j k, 1 ≤ j → (j < 77 + 41 * n ∨ 77 + 41 * n + 40 < j) → ¬ (j = 33 ∧ k = n) → ¬ ((j = 1 ∧ 600 * (n + 1) ≤ k ∧ k < 600 * (n + 1) + 600) ∨ ((j = 2 ∨ j = 3 ∨ j = 4) ∧ k = n + 1) ∨ (j = 5 ∧ (k = 2 * (n + 1) ∨ k = 2 * (n + 1) + 1)) ∨ (j = 6 ∧ 464 * (n + 1) ≤ k ∧ k < 464 * (n + 1) + 464) ∨ (j = 7 ∧ 363 * (n + 1) ≤ k ∧ k < 363 * (n + 1) + 363)) → w5.1 j k = w.1 j k := fun j k x1 x2 x3 x4 => by rw [k5 j k x3, f4.I j k x4, kw j k x1 x2]
  refine ⟨hI.1.eq2 ⟨keep 2 _ (by omega) (by omega) (by omega) (by omega), keep 3 _ (by omega) (by omega) (by omega) (by omega), keep 4 _ (by omega) (by omega) (by omega) (by omega), keep 5 _ (by omega) (by omega) (by omega) (by omega), keep 5 _ (by omega) (by omega) (by omega) (by omega)⟩ (fun k x1 x2 => keep 1 _ (by omega) (by omega) (by omega) (by omega)) (fun k hk => keep 6 _ (by omega) (by omega) (by omega) (by omega)) (fun k hk => keep 7 _ (by omega) (by omega) (by omega) (by omega)) (fun j k x1 x2 _ => keep j k (by omega) (by omega) (by omega) (by omega)), fun k hk => ?_⟩
  obtain ⟨i1, i2, i3⟩ := hI.2 k hk
  by_cases z : k = n
  · subst z
    have g33 : w5.1 33 k = 1 := by rw [e5, wI_same]
    have g8 : w5.1 (77 + 41 * k) 8 = 1 := by rw [k5 _ 8 (by omega), f4.I _ 8 (by omega), e3, wI_cell _ _ _ _ (by omega), e2, wI_same]
    rw [g33, g8]
    exact ⟨Or.inr rfl, rfl, fun _ => hBi⟩
  · rw [keep 33 k (by omega) (by omega) (by omega) (by omega), keep (77 + 41 * k) 8 (by omega) (by omega) (by omega) (by omega)]
    exact ⟨i1, i2, fun y => (i3 y).eq2 ⟨keep 2 _ (by omega) (by omega) (by omega) (by omega), keep 3 _ (by omega) (by omega) (by omega) (by omega), keep 4 _ (by omega) (by omega) (by omega) (by omega), keep 5 _ (by omega) (by omega) (by omega) (by omega), keep 5 _ (by omega) (by omega) (by omega) (by omega)⟩ (fun c x1 x2 => keep 1 _ (by omega) (by omega) (by omega) (by omega)) (fun c hc => keep 6 _ (by omega) (by omega) (by omega) (by omega)) (fun c hc => keep 7 _ (by omega) (by omega) (by omega) (by omega)) (fun j c x1 x2 _ => keep j c (by omega) (by omega) (by omega) (by omega))⟩
theorem pr_again {F : Nat} {a : Int} {w : AW} (hF : FB F) (hI : Inv w) (ha : iR a) : CI (m_X8_again F [vR 34, vI a] w) (fun x w1 => CI (m_X9_again F [vR 0, vI a] w1) (fun y w2 => x = y ∧ Inv w2)) := by
  have no : ¬ ((0 ≤ a ∧ a ≤ 2) ∧ w.1 33 a.toNat ≠ 0) → CI (m_X9_again F [vR 0, vI a] w) (fun y w2 => 0 = y ∧ Inv w2) := by
    intro hz
    refine wp_X9_again F a w _ (fun w1 e1 => ?_)
    have k1 : KQ w w1 := by rw [e1]; exact wI0_KQ
    refine ci_in ha (by decide) (by decide) (fun y => br1 ⟨⟨by omega, by omega⟩, ?_⟩) (fun y => br0 (q_z0 ⟨rfl, hI.Q k1⟩))
    have i1 := (hI.2 a.toNat (by omega)).1
    rw [k1.1 33 _ (by omega), w_id (x := w.1 33 a.toNat) (by omega) (by omega)]
    exact ⟨fun _ => q_z0 ⟨rfl, hI.Q k1⟩, fun q => absurd ⟨y, q⟩ hz⟩
  refine wp_X8_again F a w _ ?_
  rw [w_id ha.1 ha.2]
  refine ⟨fun q => q_z0 (no (by omega)), fun q => ⟨fun q2 => ?_, fun q2 => q_z0 (no (by omega))⟩⟩
  obtain ⟨n, rfl⟩ := Int.eq_ofNat_of_zero_le (show 0 ≤ a by omega)
  rw [Int.toNat_natCast] at no ⊢
  have hn : n < 3 := by omega
  obtain ⟨ic, ib⟩ := img_bk hn
  obtain ⟨i1, i2, i3⟩ := hI.2 n hn
  rw [ic, i2, w_id (x := w.1 33 n) (by omega) (by omega)]
  refine ⟨⟨by omega, q2⟩, ib, fun z => q_z0 (no (fun y => y.2 z)), fun z => ⟨⟨by omega, q2⟩, ?_⟩⟩
  have hBn := i3 (by omega)
  refine cv_copyBook (s := n + 1) hF isBk35 ib (by omega) hBn (fun w1 f1 c1 c2 c3 c5 c7 ct cT cD => q_z1 (wp_X9_again F n w1 _ (fun w3 e3 => ci_in ha (by decide) (by decide) (fun _ => br1 ⟨⟨by omega, by omega⟩, ?_⟩) (fun y => absurd ⟨by omega, by omega⟩ y))))
  have k3 : ∀ j k, ¬ (j = 0 ∧ k = 0) → w3.1 j k = w1.1 j k := fun j k x1 => by rw [e3, wI_at, if_neg x1]
  have kw : ∀ j k, 1 ≤ j → (j < 35 ∨ 75 < j) → w3.1 j k = w.1 j k := fun j k x1 x2 => by rw [k3 j k (by omega), f1.I j k (by omega)]
  rw [Int.toNat_natCast, kw 33 n (by omega) (by omega), w_id (x := w.1 33 n) (by omega) (by omega)]
  refine ⟨fun y => absurd y z, fun _ => ?_⟩
  have hby : ∀ k, k < 600 → -128 ≤ w3.1 1 (600 * (n + 1) + k) ∧ w3.1 1 (600 * (n + 1) + k) ≤ 127 := fun k hk => by
    rw [kw 1 _ (by omega) (by omega)]
    exact (hBn.2.2.2.2.2.2.2.2.1 k hk).2
  rw [show ((n : Int) + 1) = ((n + 1 : Nat) : Int) from by omega]
  refine cv_copyAll (s0 := 0) (s1 := n + 1) hF (by omega) (by omega) (by omega) hby (fun w4 f4 r1 r2 r3 r4 r5 r51 r6 r7 => q_z1 ⟨rfl, ?_⟩)
  have hBi : Bk w4 35 0 := by
    refine bk_copied (w := w) (w1 := w1) (w2 := w3) (b := 77 + 41 * n) (s1 := n + 1) hBn c1 c2 c3 c5 c7 ct cT cD (fun j k x1 x2 => kw j k x1 (by omega)) (fun j k x1 x2 x3 => ?_) r1 r2 r3 r4 r5 r51 r6 r7
    rw [f4.I j k (by omega), k3 j k (by omega)]
  have keep : ∀ j k, 1 ≤ j → (j < 35 ∨ 75 < j) → ¬ ((j = 1 ∧ k < 600) ∨ ((j = 2 ∨ j = 3 ∨ j = 4) ∧ k = 0) ∨ (j = 5 ∧ k < 2) ∨ (j = 6 ∧ k < 464) ∨ (j = 7 ∧ k < 363)) → w4.1 j k = w.1 j k := fun j k x1 x2 x3 => by rw [f4.I j k (by omega), kw j k x1 x2]
  exact hI.now hBi (fun j k hj => keep j k (by omega) (by omega) (by omega)) (fun k hk => keep 1 k (by omega) (by omega) (by omega)) (fun s hs => ⟨keep 2 s (by omega) (by omega) (by omega), keep 3 s (by omega) (by omega) (by omega), keep 4 s (by omega) (by omega) (by omega)⟩) (fun k hk => keep 5 k (by omega) (by omega) (by omega)) (fun k hk => keep 6 k (by omega) (by omega) (by omega)) (fun k hk => keep 7 k (by omega) (by omega) (by omega))
