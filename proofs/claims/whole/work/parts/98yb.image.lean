/-! IMAGE, AGAIN -/
theorem tB_id {x : Int} (h : -128 ≤ x ∧ x ≤ 127) : tB x = x := by
  have key : ∀ i : Fin 256, tB ((i.val : Int) - 128) = (i.val : Int) - 128 := by decide +kernel
  have := key ⟨(x + 128).toNat, by omega⟩
  simp only [] at this
  rw [show (((x + 128).toNat : Nat) : Int) - 128 = x from by omega] at this
  exact this
/-! towns and days that agree in their entries -/
theorem tk_cong {T T' : Nat → Int} (h : ∀ i, i < 232 → T' i = T i) (hT : TK T) : TK T' := by
  obtain ⟨s0, s1, s2, s3, s4, s5, hr, hp, he⟩ := hT
  rw [← h 0 (by omega)] at s0
  rw [← h 1 (by omega)] at s1
  rw [← h 2 (by omega)] at s2
  rw [← h 3 (by omega)] at s3
  rw [← h 4 (by omega)] at s4
  rw [← h 5 (by omega)] at s5
  refine ⟨s0, s1, s2, s3, s4, s5, fun r r0 r1 => ?_, fun p p0 p1 => ?_, fun e e0 e1 => ?_⟩
  · obtain ⟨w1, w2, w3, w4, w5, w6⟩ := rd_same (S := T) (S' := T') (r := r) (fun k k1 k2 => h k (by omega)) r0
    have := hr r r0 (by rw [← h 1 (by omega)]; exact r1)
    rw [w1, w2, w3, w4, w5, h 0 (by omega), h 2 (by omega)]
    exact ⟨this.1, this.2.1, this.2.2.1, this.2.2.2.1, this.2.2.2.2.1, this.2.2.2.2.2.1, fun k k0 k1 => by rw [w6 k k0 k1]; exact this.2.2.2.2.2.2 k k0 k1⟩
  · obtain ⟨w1, w2, w3⟩ := pe_same (S := T) (S' := T') (p := p) (fun k k1 k2 => h k (by omega)) p0
    rw [w1, w2, w3, h 0 (by omega)]
    exact hp p p0 (by rw [← h 2 (by omega)]; exact p1)
  · obtain ⟨w1, w2, w3, w4⟩ := er_same (S := T) (S' := T') (e := e) (fun k k1 k2 => h k (by omega)) e0
    rw [w1, w2, w3, w4, h 0 (by omega), h 2 (by omega)]
    exact he e e0 (by rw [← h 3 (by omega)]; exact e1)
theorem ca_cong {T T' : Nat → Int} {w : AW} {j : Nat} (h : ∀ i, i < 232 → T' i = T i) (hT : TK T) (hC : CA w j T) : CA w j T' := by
  obtain ⟨s0, s1, s2, s3, s4, s5, _⟩ := hT
  obtain ⟨c0, c1, c2, c3, c4, c5, hr, hp, he⟩ := hC
  refine ⟨by rw [h 0 (by omega)]; exact c0, by rw [h 1 (by omega)]; exact c1, by rw [h 2 (by omega)]; exact c2, by rw [h 3 (by omega)]; exact c3, by rw [h 4 (by omega)]; exact c4, by rw [h 5 (by omega)]; exact c5, fun r r0 r1 => ?_, fun p p0 p1 => ?_, fun e e0 e1 => ?_⟩
  · rw [h 1 (by omega)] at r1
    obtain ⟨w1, w2, w3, w4, w5, w6⟩ := rd_same (S := T) (S' := T') (r := r) (fun k k1 k2 => h k (by omega)) r0
    have := hr r r0 r1
    rw [w1, w2, w3, w4, w5]
    exact ⟨this.1, this.2.1, this.2.2.1, this.2.2.2.1, this.2.2.2.2.1, fun k k0 k1 => by rw [w6 k k0 k1]; exact this.2.2.2.2.2 k k0 k1⟩
  · rw [h 2 (by omega)] at p1
    obtain ⟨w1, w2, w3⟩ := pe_same (S := T) (S' := T') (p := p) (fun k k1 k2 => h k (by omega)) p0
    rw [w1, w2, w3]
    exact hp p p0 p1
  · rw [h 3 (by omega)] at e1
    obtain ⟨w1, w2, w3, w4⟩ := er_same (S := T) (S' := T') (e := e) (fun k k1 k2 => h k (by omega)) e0
    rw [w1, w2, w3, w4]
    exact he e e0 e1
theorem dk_cong {D D' : Nat → Int} (h : ∀ i, i < 121 → D' i = D i) (hD : DK D) : DK D' := by
  obtain ⟨h0, h1⟩ := hD
  have e0 := h 0 (by omega)
  refine ⟨by rw [e0]; exact h0, fun k k0 k1 => ?_⟩
  rw [e0] at k1
  have := h1 k k0 k1
  unfold d0 d1 d2 at *
  rw [h _ (by omega), h _ (by omega), h _ (by omega)]
  exact this
theorem cd_cong {D D' : Nat → Int} {w : AW} {j : Nat} (h : ∀ i, i < 121 → D' i = D i) (hD : DK D) (hC : CD w j D) : CD w j D' := by
  have h0 := hD.1
  have e0 := h 0 (by omega)
  refine ⟨by rw [e0]; exact hC.1, fun k k0 k1 => ?_⟩
  rw [e0] at k1
  have := hC.2 k k0 k1
  unfold d1 d2 at *
  rw [h _ (by omega), h _ (by omega)]
  exact this
/-! the class copies -/
theorem cv_copyT {F : Nat} {a b : Nat} {c : Prop} {T : Nat → Int} {w : AW} {P : AW → Prop} (ha : isTw a) (hb : isTw b) (hab : a + 13 < b ∨ b + 13 < a) (hC : c → TK T ∧ CA w b T) (hp : ∀ w', Fr (fun j _ => a ≤ j ∧ j ≤ a + 13) w w' → (c → CA w' a T) → P w') : CV (m_X7_copyFrom F [vR a, vR b] w) P := by
  by_cases z : c
  · exact cv_copyTown ha hb hab (hC z).1 (hC z).2 (fun w' f' c' => hp w' f' (fun _ => c'))
  · refine wp_X7_copyFrom F a ha b hb w _ (fun w1 e1 w2 e2 w3 e3 w4 e4 w5 e5 w6 e6 w7 e7 w8 e8 w9 e9 w10 e10 w11 e11 w12 e12 w13 e13 w14 e14 w15 e15 w16 e16 w17 e17 w18 e18 w19 e19 => q_v (hp w19 ?_ (fun y => absurd y z)))
    have f6 : Fr (fun j _ => a ≤ j ∧ j ≤ a + 13) w w6 := by
      rw [e6, e5, e4, e3, e2, e1]
      exact (((((Fr.rf.wI _ (by omega)).wI _ (by omega)).wI _ (by omega)).wI _ (by omega)).wI _ (by omega)).wI _ (by omega)
    have f12 : Fr (fun j _ => a ≤ j ∧ j ≤ a + 13) w w12 := by
      rw [e12, e11, e10, e9, e8, e7]
      exact (((((f6.wC (by intro k _ _; omega)).wC (by intro k _ _; omega)).wC (by intro k _ _; omega)).wC (by intro k _ _; omega)).wC (by intro k _ _; omega)).wC (by intro k _ _; omega)
    rw [e19, e18, e17, e16, e15, e14, e13]
    exact ((((((f12.wC (by intro k _ _; omega)).wC (by intro k _ _; omega)).wC (by intro k _ _; omega)).wC (by intro k _ _; omega)).wC (by intro k _ _; omega)).wC (by intro k _ _; omega)).wC (by intro k _ _; omega)
theorem cv_copyD {F : Nat} {a b : Nat} {c : Prop} {D : Nat → Int} {w : AW} {P : AW → Prop} (ha : isDy a) (hb : isDy b) (hab : a + 2 < b ∨ b + 2 < a) (hC : c → DK D ∧ CD w b D) (hp : ∀ w', Fr (fun j _ => a ≤ j ∧ j ≤ a + 2) w w' → (c → CD w' a D) → P w') : CV (m_X2_copyFrom F [vR a, vR b] w) P := by
  refine wp_X2_copyFrom F a ha b hb w _ (fun w1 e1 w2 e2 w3 e3 => q_v (hp w3 ?_ (fun z => ?_)))
  · rw [e3, e2, e1]
    exact ((Fr.rf.wI _ (by omega)).wC (by intro k _ _; omega)).wC (by intro k _ _; omega)
  · obtain ⟨hD, hc⟩ := hC z
    have h0 := hD.1
    refine ⟨?_, fun k k0 k1 => ⟨?_, ?_⟩⟩
    · rw [e3, wC_cell _ (by omega), e2, wC_cell _ (by omega), e1, wI_same]; exact hc.1
    · rw [e3, wC_cell _ (by omega), e2, wC_at, if_pos ⟨rfl, by omega, by omega⟩, e1, wI_cell _ _ _ _ (by omega), Nat.zero_add, Nat.sub_zero]
      exact (hc.2 k k0 k1).1
    · rw [e3, wC_at, if_pos ⟨rfl, by omega, by omega⟩, e2, wC_cell _ (by omega), e1, wI_cell _ _ _ _ (by omega), Nat.zero_add, Nat.sub_zero]
      exact (hc.2 k k0 k1).2
theorem cv_copyBook {F : Nat} {a b s : Nat} {w : AW} {P : AW → Prop} (hF : FB F) (ha : isBk a) (hb : isBk b) (hab : a + 40 < b ∨ b + 40 < a) (hB : Bk w b s) (hp : ∀ w', Fr (fun j k => a ≤ j ∧ j ≤ a + 40 ∧ (j = a → k ≠ 8)) w w' → w'.1 a 1 = w.1 b 1 → w'.1 a 2 = w.1 b 2 → w'.1 a 3 = w.1 b 3 → w'.1 a 5 = w.1 b 5 → w'.1 a 7 = w.1 b 7 → (∀ k, k < 600 → w'.1 (a + 1) k = w.1 (b + 1) k) → (∀ t : Nat, (t : Int) < w.1 5 (2 * s) → CA w' (a + 3 + 14 * t) (TS w s t)) → (∀ d : Nat, (d : Int) < w.1 5 (2 * s + 1) → CD w' (a + 32 + 3 * d) (DS w s d)) → P w') : CV (m_X0_copyFrom F [vR a, vR b] w) P := by
  obtain ⟨a1, a2, a3, a4, a5, a6, a7, a8, a9, a10, a11⟩ := hB
  refine wp_X0_copyFrom F a ha b hb w _ ⟨fun i hi => ?_, fun w1 e1 w2 e2 w3 e3 w4 e4 w5 e5 => ?_⟩
  · rw [Nat.zero_add, (a9 i hi).1]; exact (a9 i hi).2
  have f5 : Fr (fun j k => (j = a ∧ (k = 1 ∨ k = 2 ∨ k = 3 ∨ k = 5 ∨ k = 7)) ∨ j = a + 1) w w5 := by
    rw [e5, e4, e3, e2, e1]
    exact ((((Fr.rf.wC (by intro k _ _; omega)).wI _ (by omega)).wI _ (by omega)).wI _ (by omega)).wI _ (by omega)
  have g1 : w5.1 a 1 = w.1 b 1 := by
    rw [e5, wI_idx _ _ _ _ (by decide), e4, wI_idx _ _ _ _ (by decide), e3, wI_idx _ _ _ _ (by decide), e2, wI_same, e1, wC_cell _ (by omega)]
  have g2 : w5.1 a 2 = w.1 b 2 := by
    rw [e5, wI_idx _ _ _ _ (by decide), e4, wI_idx _ _ _ _ (by decide), e3, wI_same, e2, wI_cell _ _ _ _ (by omega), e1, wC_cell _ (by omega)]
  have g3 : w5.1 a 3 = w.1 b 3 := by
    rw [e5, wI_idx _ _ _ _ (by decide), e4, wI_same, e3, wI_cell _ _ _ _ (by omega), e2, wI_cell _ _ _ _ (by omega), e1, wC_cell _ (by omega)]
  have g5 : w5.1 a 5 = w.1 b 5 := by
    rw [e5, wI_same, e4, wI_cell _ _ _ _ (by omega), e3, wI_cell _ _ _ _ (by omega), e2, wI_cell _ _ _ _ (by omega), e1, wC_cell _ (by omega)]
  have gt : ∀ k, k < 600 → w5.1 (a + 1) k = w.1 (b + 1) k := fun k hk => by
    rw [e5, wI_cell _ _ _ _ (by omega), e4, wI_cell _ _ _ _ (by omega), e3, wI_cell _ _ _ _ (by omega), e2, wI_cell _ _ _ _ (by omega), e1, wC_at, if_pos ⟨rfl, by omega, by omega⟩, Nat.zero_add, Nat.sub_zero]
  clear e1 e2 e3 e4 e5
  refine tt_for (K := k_X0_copyFrom_50 F) 2 (fun i w' l => Fr (fun j k => a + 3 ≤ j ∧ j ≤ a + 30) w5 w' ∧ l = [vR a, vR b, vI i] ∧ 0 ≤ i ∧ i ≤ 2 ∧ ∀ t : Nat, (t : Int) < i → (t : Int) < w.1 5 (2 * s) → CA w' (a + 3 + 14 * t) (TS w s t)) ?_ F 0 _ w5 (by omega) ⟨Fr.rf, rfl, by omega, by omega, fun t ht => by omega⟩
  rintro m i l w6 ⟨f6, rfl, hi0, hi1, h6⟩ hk
  rw [ks_X0_copyFrom_50]
  refine wp_X0_copyFrom_50 F _ a ha b hb i w6 _ ?_
  rw [w_id (x := i) (by omega) (by omega)]
  refine ⟨fun q => ?_, fun q w7 e7 => ?_⟩
  · have ta := bk_tw ha i.toNat (by omega)
    have tb' := bk_tw hb i.toNat (by omega)
    rw [ta.1, tb'.1]
    refine ⟨⟨hi0, q⟩, ⟨hi0, q⟩, ta.2, cv_copyT (c := i < w.1 5 (2 * s)) (T := TS w s i.toNat) ta.2 tb'.2 (by omega) (fun z => ?_) (fun w7 f7 h7 => hk _ _ ⟨f6.tr (f7.wk (by intro j k; omega)), rfl, by omega, by omega, fun t t1 t2 => ?_⟩ q)⟩
    · obtain ⟨x1, x2⟩ := a10 i.toNat (by omega)
      refine ⟨x1, x2.eq (fun j k y1 y2 => ?_)⟩
      rw [f6.I j k (by omega), f5.I j k (by omega)]
    · by_cases z : (t : Int) = i
      · have ht : i.toNat = t := by omega
        rw [← ht]; exact h7 (by omega)
      · exact (h6 t (by omega) t2).eq (fun j k y1 y2 => f7.I j k (by omega))
  · have hi2 : i = 2 := by omega
    have f7 : Fr (fun j k => j = a ∧ k = 7) w6 w7 := by rw [e7]; exact Fr.rf.wI _ (by omega)
    have g7 : w7.1 a 7 = w.1 b 7 := by rw [e7, wI_same, f6.I b 7 (by omega), f5.I b 7 (by omega)]
    refine tt_for (K := k_X0_copyFrom_86 F) 3 (fun i w' l => Fr (fun j k => a + 32 ≤ j ∧ j ≤ a + 40) w7 w' ∧ l = [vR a, vR b, vI i] ∧ 0 ≤ i ∧ i ≤ 3 ∧ ∀ d : Nat, (d : Int) < i → (d : Int) < w.1 5 (2 * s + 1) → CD w' (a + 32 + 3 * d) (DS w s d)) ?_ F 0 _ w7 (by omega) ⟨Fr.rf, rfl, by omega, by omega, fun t ht => by omega⟩
    rintro m2 i2 l w8 ⟨f8, rfl, hj0, hj1, h8⟩ hk2
    rw [ks_X0_copyFrom_86]
    refine wp_X0_copyFrom_86 F _ a ha b hb i2 w8 _ ?_
    rw [w_id (x := i2) (by omega) (by omega)]
    refine ⟨fun q2 => ?_, fun q2 => q_v (hp w8 ?_ ?_ ?_ ?_ ?_ ?_ (fun k hk' => ?_) (fun t ht => ?_) (fun d hd => h8 d (by omega) hd))⟩
    · have ta := bk_dy ha i2.toNat (by omega)
      have tb' := bk_dy hb i2.toNat (by omega)
      rw [ta.1, tb'.1]
      refine ⟨⟨hj0, q2⟩, ⟨hj0, q2⟩, ta.2, cv_copyD (c := i2 < w.1 5 (2 * s + 1)) (D := DS w s i2.toNat) ta.2 tb'.2 (by omega) (fun z => ?_) (fun w9 f9 h9 => hk2 _ _ ⟨f8.tr (f9.wk (by intro j k; omega)), rfl, by omega, by omega, fun t t1 t2 => ?_⟩ q2)⟩
      · obtain ⟨x1, x2, x3⟩ := a11 i2.toNat (by omega)
        have kk : ∀ j k, b + 32 ≤ j → j ≤ b + 40 → w8.1 j k = w.1 j k := fun j k y1 y2 => by rw [f8.I j k (by omega), f7.I j k (by omega), f6.I j k (by omega), f5.I j k (by omega)]
        refine ⟨x1, by rw [kk _ 0 (by omega) (by omega)]; exact x2, fun k k0 k1 => ?_⟩
        rw [kk _ _ (by omega) (by omega), kk _ _ (by omega) (by omega)]
        exact x3 k k0 k1
      · by_cases z : (t : Int) = i2
        · have ht : i2.toNat = t := by omega
          rw [← ht]; exact h9 (by omega)
        · obtain ⟨y1, y2⟩ := h8 t (by omega) t2
          refine ⟨by rw [f9.I _ 0 (by omega)]; exact y1, fun k k0 k1 => ?_⟩
          rw [f9.I _ _ (by omega), f9.I _ _ (by omega)]
          exact y2 k k0 k1
    · exact (((f5.wk (by intro j k; omega)).tr (f6.wk (by intro j k; omega))).tr (f7.wk (by intro j k; omega))).tr (f8.wk (by intro j k; omega))
    · rw [f8.I a 1 (by omega), f7.I a 1 (by omega), f6.I a 1 (by omega)]; exact g1
    · rw [f8.I a 2 (by omega), f7.I a 2 (by omega), f6.I a 2 (by omega)]; exact g2
    · rw [f8.I a 3 (by omega), f7.I a 3 (by omega), f6.I a 3 (by omega)]; exact g3
    · rw [f8.I a 5 (by omega), f7.I a 5 (by omega), f6.I a 5 (by omega)]; exact g5
    · rw [f8.I a 7 (by omega)]; exact g7
    · rw [f8.I (a + 1) k (by omega), f7.I (a + 1) k (by omega), f6.I (a + 1) k (by omega)]; exact gt k hk'
    · exact (h6 t (by omega) ht).eq (fun j k y1 y2 => by rw [f8.I j k (by omega), f7.I j k (by omega)])
