/-! A TOWN IS COPIED -/
theorem wC_cell (w : AW) {a b sp dp n x k : Nat} (h : x ≠ b) : (wC w a b sp dp n).1 x k = w.1 x k := by rw [wC_at, if_neg (fun q => h q.1)]
theorem cv_copyTown {F : Nat} {a b : Nat} {T : Nat → Int} {w : AW} {P : AW → Prop} (ha : isTw a) (hb : isTw b) (hab : a + 13 < b ∨ b + 13 < a) (hT : TK T) (hC : CA w b T) (hp : ∀ w', Fr (fun j _ => a ≤ j ∧ j ≤ a + 13) w w' → CA w' a T → P w') : CV (m_X7_copyFrom F [vR a, vR b] w) P := by
  have a1 := hT.2.1
  have a2 := hT.2.2.1
  have a3 := hT.2.2.2.1
  refine wp_X7_copyFrom F a ha b hb w _ ?_
  intro w1 e1 w2 e2 w3 e3 w4 e4 w5 e5 w6 e6 w7 e7 w8 e8 w9 e9 w10 e10 w11 e11 w12 e12 w13 e13 w14 e14 w15 e15 w16 e16 w17 e17 w18 e18 w19 e19
  have f0 : Fr (fun j _ => a ≤ j ∧ j ≤ a + 13) w w := Fr.rf
  have f1 : Fr (fun j _ => a ≤ j ∧ j ≤ a + 13) w w1 := by rw [e1]; exact f0.wI _ (by omega)
  have f2 : Fr (fun j _ => a ≤ j ∧ j ≤ a + 13) w w2 := by rw [e2]; exact f1.wI _ (by omega)
  have f3 : Fr (fun j _ => a ≤ j ∧ j ≤ a + 13) w w3 := by rw [e3]; exact f2.wI _ (by omega)
  have f4 : Fr (fun j _ => a ≤ j ∧ j ≤ a + 13) w w4 := by rw [e4]; exact f3.wI _ (by omega)
  have f5 : Fr (fun j _ => a ≤ j ∧ j ≤ a + 13) w w5 := by rw [e5]; exact f4.wI _ (by omega)
  have f6 : Fr (fun j _ => a ≤ j ∧ j ≤ a + 13) w w6 := by rw [e6]; exact f5.wI _ (by omega)
  have f7 : Fr (fun j _ => a ≤ j ∧ j ≤ a + 13) w w7 := by rw [e7]; exact f6.wC (fun k _ _ => by omega)
  have f8 : Fr (fun j _ => a ≤ j ∧ j ≤ a + 13) w w8 := by rw [e8]; exact f7.wC (fun k _ _ => by omega)
  have f9 : Fr (fun j _ => a ≤ j ∧ j ≤ a + 13) w w9 := by rw [e9]; exact f8.wC (fun k _ _ => by omega)
  have f10 : Fr (fun j _ => a ≤ j ∧ j ≤ a + 13) w w10 := by rw [e10]; exact f9.wC (fun k _ _ => by omega)
  have f11 : Fr (fun j _ => a ≤ j ∧ j ≤ a + 13) w w11 := by rw [e11]; exact f10.wC (fun k _ _ => by omega)
  have f12 : Fr (fun j _ => a ≤ j ∧ j ≤ a + 13) w w12 := by rw [e12]; exact f11.wC (fun k _ _ => by omega)
  have f13 : Fr (fun j _ => a ≤ j ∧ j ≤ a + 13) w w13 := by rw [e13]; exact f12.wC (fun k _ _ => by omega)
  have f14 : Fr (fun j _ => a ≤ j ∧ j ≤ a + 13) w w14 := by rw [e14]; exact f13.wC (fun k _ _ => by omega)
  have f15 : Fr (fun j _ => a ≤ j ∧ j ≤ a + 13) w w15 := by rw [e15]; exact f14.wC (fun k _ _ => by omega)
  have f16 : Fr (fun j _ => a ≤ j ∧ j ≤ a + 13) w w16 := by rw [e16]; exact f15.wC (fun k _ _ => by omega)
  have f17 : Fr (fun j _ => a ≤ j ∧ j ≤ a + 13) w w17 := by rw [e17]; exact f16.wC (fun k _ _ => by omega)
  have f18 : Fr (fun j _ => a ≤ j ∧ j ≤ a + 13) w w18 := by rw [e18]; exact f17.wC (fun k _ _ => by omega)
  have f19 : Fr (fun j _ => a ≤ j ∧ j ≤ a + 13) w w19 := by rw [e19]; exact f18.wC (fun k _ _ => by omega)
  have g0 : w19.1 a 0 = w.1 b 0 := by rw [e19, wC_cell _ (by omega), e18, wC_cell _ (by omega), e17, wC_cell _ (by omega), e16, wC_cell _ (by omega), e15, wC_cell _ (by omega), e14, wC_cell _ (by omega), e13, wC_cell _ (by omega), e12, wC_cell _ (by omega), e11, wC_cell _ (by omega), e10, wC_cell _ (by omega), e9, wC_cell _ (by omega), e8, wC_cell _ (by omega), e7, wC_cell _ (by omega), e6, wI_idx _ _ _ _ (by omega), e5, wI_idx _ _ _ _ (by omega), e4, wI_idx _ _ _ _ (by omega), e3, wI_idx _ _ _ _ (by omega), e2, wI_idx _ _ _ _ (by omega), e1, wI_same]
  have g1 : w19.1 a 1 = w.1 b 1 := by rw [e19, wC_cell _ (by omega), e18, wC_cell _ (by omega), e17, wC_cell _ (by omega), e16, wC_cell _ (by omega), e15, wC_cell _ (by omega), e14, wC_cell _ (by omega), e13, wC_cell _ (by omega), e12, wC_cell _ (by omega), e11, wC_cell _ (by omega), e10, wC_cell _ (by omega), e9, wC_cell _ (by omega), e8, wC_cell _ (by omega), e7, wC_cell _ (by omega), e6, wI_idx _ _ _ _ (by omega), e5, wI_idx _ _ _ _ (by omega), e4, wI_idx _ _ _ _ (by omega), e3, wI_idx _ _ _ _ (by omega), e2, wI_same, f1.I b 1 (by omega)]
  have g8 : w19.1 a 8 = w.1 b 8 := by rw [e19, wC_cell _ (by omega), e18, wC_cell _ (by omega), e17, wC_cell _ (by omega), e16, wC_cell _ (by omega), e15, wC_cell _ (by omega), e14, wC_cell _ (by omega), e13, wC_cell _ (by omega), e12, wC_cell _ (by omega), e11, wC_cell _ (by omega), e10, wC_cell _ (by omega), e9, wC_cell _ (by omega), e8, wC_cell _ (by omega), e7, wC_cell _ (by omega), e6, wI_idx _ _ _ _ (by omega), e5, wI_idx _ _ _ _ (by omega), e4, wI_idx _ _ _ _ (by omega), e3, wI_same, f2.I b 8 (by omega)]
  have g12 : w19.1 a 12 = w.1 b 12 := by rw [e19, wC_cell _ (by omega), e18, wC_cell _ (by omega), e17, wC_cell _ (by omega), e16, wC_cell _ (by omega), e15, wC_cell _ (by omega), e14, wC_cell _ (by omega), e13, wC_cell _ (by omega), e12, wC_cell _ (by omega), e11, wC_cell _ (by omega), e10, wC_cell _ (by omega), e9, wC_cell _ (by omega), e8, wC_cell _ (by omega), e7, wC_cell _ (by omega), e6, wI_idx _ _ _ _ (by omega), e5, wI_idx _ _ _ _ (by omega), e4, wI_same, f3.I b 12 (by omega)]
  have g17 : w19.1 a 17 = w.1 b 17 := by rw [e19, wC_cell _ (by omega), e18, wC_cell _ (by omega), e17, wC_cell _ (by omega), e16, wC_cell _ (by omega), e15, wC_cell _ (by omega), e14, wC_cell _ (by omega), e13, wC_cell _ (by omega), e12, wC_cell _ (by omega), e11, wC_cell _ (by omega), e10, wC_cell _ (by omega), e9, wC_cell _ (by omega), e8, wC_cell _ (by omega), e7, wC_cell _ (by omega), e6, wI_idx _ _ _ _ (by omega), e5, wI_same, f4.I b 17 (by omega)]
  have g18 : w19.1 a 18 = w.1 b 18 := by rw [e19, wC_cell _ (by omega), e18, wC_cell _ (by omega), e17, wC_cell _ (by omega), e16, wC_cell _ (by omega), e15, wC_cell _ (by omega), e14, wC_cell _ (by omega), e13, wC_cell _ (by omega), e12, wC_cell _ (by omega), e11, wC_cell _ (by omega), e10, wC_cell _ (by omega), e9, wC_cell _ (by omega), e8, wC_cell _ (by omega), e7, wC_cell _ (by omega), e6, wI_same, f5.I b 18 (by omega)]
  have h1 : ∀ k : Nat, k < 14 → w19.1 (a + 1) k = w.1 (b + 1) k := fun k hk => by rw [e19, wC_cell _ (by omega), e18, wC_cell _ (by omega), e17, wC_cell _ (by omega), e16, wC_cell _ (by omega), e15, wC_cell _ (by omega), e14, wC_cell _ (by omega), e13, wC_cell _ (by omega), e12, wC_cell _ (by omega), e11, wC_cell _ (by omega), e10, wC_cell _ (by omega), e9, wC_cell _ (by omega), e8, wC_cell _ (by omega), e7, wC_at, if_pos ⟨rfl, by omega, by omega⟩, f6.I (b + 1) _ (by omega), show 0 + (k - 0) = k from by omega]
  have h2 : ∀ k : Nat, k < 14 → w19.1 (a + 2) k = w.1 (b + 2) k := fun k hk => by rw [e19, wC_cell _ (by omega), e18, wC_cell _ (by omega), e17, wC_cell _ (by omega), e16, wC_cell _ (by omega), e15, wC_cell _ (by omega), e14, wC_cell _ (by omega), e13, wC_cell _ (by omega), e12, wC_cell _ (by omega), e11, wC_cell _ (by omega), e10, wC_cell _ (by omega), e9, wC_cell _ (by omega), e8, wC_at, if_pos ⟨rfl, by omega, by omega⟩, f7.I (b + 2) _ (by omega), show 0 + (k - 0) = k from by omega]
  have h3 : ∀ k : Nat, k < 14 → w19.1 (a + 3) k = w.1 (b + 3) k := fun k hk => by rw [e19, wC_cell _ (by omega), e18, wC_cell _ (by omega), e17, wC_cell _ (by omega), e16, wC_cell _ (by omega), e15, wC_cell _ (by omega), e14, wC_cell _ (by omega), e13, wC_cell _ (by omega), e12, wC_cell _ (by omega), e11, wC_cell _ (by omega), e10, wC_cell _ (by omega), e9, wC_at, if_pos ⟨rfl, by omega, by omega⟩, f8.I (b + 3) _ (by omega), show 0 + (k - 0) = k from by omega]
  have h4 : ∀ k : Nat, k < 14 → w19.1 (a + 4) k = w.1 (b + 4) k := fun k hk => by rw [e19, wC_cell _ (by omega), e18, wC_cell _ (by omega), e17, wC_cell _ (by omega), e16, wC_cell _ (by omega), e15, wC_cell _ (by omega), e14, wC_cell _ (by omega), e13, wC_cell _ (by omega), e12, wC_cell _ (by omega), e11, wC_cell _ (by omega), e10, wC_at, if_pos ⟨rfl, by omega, by omega⟩, f9.I (b + 4) _ (by omega), show 0 + (k - 0) = k from by omega]
  have h5 : ∀ k : Nat, k < 14 → w19.1 (a + 5) k = w.1 (b + 5) k := fun k hk => by rw [e19, wC_cell _ (by omega), e18, wC_cell _ (by omega), e17, wC_cell _ (by omega), e16, wC_cell _ (by omega), e15, wC_cell _ (by omega), e14, wC_cell _ (by omega), e13, wC_cell _ (by omega), e12, wC_cell _ (by omega), e11, wC_at, if_pos ⟨rfl, by omega, by omega⟩, f10.I (b + 5) _ (by omega), show 0 + (k - 0) = k from by omega]
  have h6 : ∀ k : Nat, k < 84 → w19.1 (a + 6) k = w.1 (b + 6) k := fun k hk => by rw [e19, wC_cell _ (by omega), e18, wC_cell _ (by omega), e17, wC_cell _ (by omega), e16, wC_cell _ (by omega), e15, wC_cell _ (by omega), e14, wC_cell _ (by omega), e13, wC_cell _ (by omega), e12, wC_at, if_pos ⟨rfl, by omega, by omega⟩, f11.I (b + 6) _ (by omega), show 0 + (k - 0) = k from by omega]
  have h7 : ∀ k : Nat, k < 8 → w19.1 (a + 7) k = w.1 (b + 7) k := fun k hk => by rw [e19, wC_cell _ (by omega), e18, wC_cell _ (by omega), e17, wC_cell _ (by omega), e16, wC_cell _ (by omega), e15, wC_cell _ (by omega), e14, wC_cell _ (by omega), e13, wC_at, if_pos ⟨rfl, by omega, by omega⟩, f12.I (b + 7) _ (by omega), show 0 + (k - 0) = k from by omega]
  have h8 : ∀ k : Nat, k < 8 → w19.1 (a + 8) k = w.1 (b + 8) k := fun k hk => by rw [e19, wC_cell _ (by omega), e18, wC_cell _ (by omega), e17, wC_cell _ (by omega), e16, wC_cell _ (by omega), e15, wC_cell _ (by omega), e14, wC_at, if_pos ⟨rfl, by omega, by omega⟩, f13.I (b + 8) _ (by omega), show 0 + (k - 0) = k from by omega]
  have h9 : ∀ k : Nat, k < 8 → w19.1 (a + 9) k = w.1 (b + 9) k := fun k hk => by rw [e19, wC_cell _ (by omega), e18, wC_cell _ (by omega), e17, wC_cell _ (by omega), e16, wC_cell _ (by omega), e15, wC_at, if_pos ⟨rfl, by omega, by omega⟩, f14.I (b + 9) _ (by omega), show 0 + (k - 0) = k from by omega]
  have h10 : ∀ k : Nat, k < 12 → w19.1 (a + 10) k = w.1 (b + 10) k := fun k hk => by rw [e19, wC_cell _ (by omega), e18, wC_cell _ (by omega), e17, wC_cell _ (by omega), e16, wC_at, if_pos ⟨rfl, by omega, by omega⟩, f15.I (b + 10) _ (by omega), show 0 + (k - 0) = k from by omega]
  have h11 : ∀ k : Nat, k < 12 → w19.1 (a + 11) k = w.1 (b + 11) k := fun k hk => by rw [e19, wC_cell _ (by omega), e18, wC_cell _ (by omega), e17, wC_at, if_pos ⟨rfl, by omega, by omega⟩, f16.I (b + 11) _ (by omega), show 0 + (k - 0) = k from by omega]
  have h12 : ∀ k : Nat, k < 12 → w19.1 (a + 12) k = w.1 (b + 12) k := fun k hk => by rw [e19, wC_cell _ (by omega), e18, wC_at, if_pos ⟨rfl, by omega, by omega⟩, f17.I (b + 12) _ (by omega), show 0 + (k - 0) = k from by omega]
  have h13 : ∀ k : Nat, k < 12 → w19.1 (a + 13) k = w.1 (b + 13) k := fun k hk => by rw [e19, wC_at, if_pos ⟨rfl, by omega, by omega⟩, f18.I (b + 13) _ (by omega), show 0 + (k - 0) = k from by omega]
  refine q_v (hp w19 f19 ⟨g0.trans hC.1, g1.trans hC.2.1, g8.trans hC.2.2.1, g12.trans hC.2.2.2.1, g17.trans hC.2.2.2.2.1, g18.trans hC.2.2.2.2.2.1, fun r x y => ?_, fun p x y => ?_, fun e x y => ?_⟩)
  · have := hC.road x y
    rw [h1 _ (by omega), h2 _ (by omega), h3 _ (by omega), h4 _ (by omega), h5 _ (by omega)]
    exact ⟨this.1, this.2.1, this.2.2.1, this.2.2.2.1, this.2.2.2.2.1, fun k z1 z2 => by rw [h6 _ (by omega)]; exact this.2.2.2.2.2 k z1 z2⟩
  · have := hC.pers x y
    rw [h7 _ (by omega), h8 _ (by omega), h9 _ (by omega)]
    exact this
  · have := hC.erra x y
    rw [h10 _ (by omega), h11 _ (by omega), h12 _ (by omega), h13 _ (by omega)]
    exact this
/-! what both sides tell of towns -/
def TwI (w : AW) : Prop := (0 ≤ w.1 5 0 ∧ w.1 5 0 ≤ 2) ∧ w.1 35 5 = w.1 5 0 ∧ ∀ t, 0 ≤ t → t < w.1 5 0 → TK (TR w t) ∧ CA w (38 + 14 * t.toNat) (TR w t)
theorem cr_townAt {F : Nat} {t : Int} {w : AW} {P : Option Nat → AW → Prop} (hI : TwI w) (ht : iR t) (h1 : 0 ≤ t ∧ t < w.1 5 0 → P (some (38 + 14 * t.toNat)) w) (h0 : ¬ (0 ≤ t ∧ t < w.1 5 0) → P none w) : CR (m_X0_townAt F [vR 35, vI t] w) P := by
  have hb : isBk 35 := by simp [isBk]
  have hm := hI.1
  refine wp_X0_townAt F 35 hb t w _ ?_
  rw [hI.2.1, w_id ht.1 ht.2, w_id (x := w.1 5 0) (by omega) (by omega)]
  refine ⟨fun q => q_r (h0 (by omega)), fun q => ⟨fun q2 => ⟨⟨by omega, by omega⟩, q_r ?_⟩, fun q2 => q_r (h0 (by omega))⟩⟩
  have := (bk_tw hb t.toNat (by omega)).1
  rw [this]
  exact h1 ⟨by omega, q2⟩
theorem tw_cell {t : Int} (h : 0 ≤ t ∧ t < 2) : isTw (38 + 14 * t.toNat) ∧ apart (38 + 14 * t.toNat) := by
  have := (bk_tw (j := 35) (by simp [isBk]) t.toNat (by omega)).2
  exact ⟨this, Or.inl (by omega)⟩
def okS (T : Nat → Int) (set : Int) : Prop := 0 ≤ set ∧ set < ((2 ^ (T 3).toNat : Nat) : Int)
theorem okS_nB {T : Nat → Int} (hT : TK T) {set : Int} (h : okS T set) : nB set ∧ ∀ e : Nat, tb set e = true → (e : Int) < T 3 := by
  have a3 := hT.2.2.2.1
  have hp : (2 : Nat) ^ (T 3).toNat ≤ 2 ^ 12 := Nat.pow_le_pow_right (by decide) (by omega)
  have h12 : (2 : Nat) ^ 12 = 4096 := by decide
  have h2 := h.2
  refine ⟨⟨h.1, by omega⟩, fun e he => ?_⟩
  by_cases q : (e : Int) < T 3
  · exact q
  · exfalso
    have hle : (2 : Nat) ^ (T 3).toNat ≤ 2 ^ e := Nat.pow_le_pow_right (by decide) (by omega)
    have : set.toNat.testBit e = false := Nat.testBit_lt_two_pow (by have := h.1; omega)
    unfold tb at he
    rw [this] at he
    cases he
abbrev Splan (j k : Nat) : Prop := (265 ≤ j ∧ j ≤ 278) ∨ (229 ≤ j ∧ j ≤ 233)
theorem tw265 : isTw 265 := by simp [isTw]
theorem ap265 : apart 265 := Or.inr rfl
theorem cr_planFor {F : Nat} {t set : Int} {w : AW} {P : Option Nat → AW → Prop} (hF : FB F) (hI : TwI w) (ht : iR t) (hs : iR set) (h1 : 0 ≤ t ∧ t < w.1 5 0 → okS (TR w t) set → ∀ w', Fr Splan w w' → CA w' 265 (TR w t) → CH (TR w t) w' → P (some 265) w') (h0 : ¬ ((0 ≤ t ∧ t < w.1 5 0) ∧ okS (TR w t) set) → P none w) : CR (m_X8_planFor F [vR 34, vI t, vI set] w) P := by
  have hm := hI.1
  refine wp_X8_planFor F t set w _ (cr_townAt hI ht (fun hz => ⟨fun q => (by cases q), fun j hj => ?_⟩) (fun hz => ⟨fun _ => q_r (h0 (fun z => hz z.1)), fun j hj => (by cases hj)⟩))
  cases hj
  obtain ⟨hT, hC⟩ := hI.2.2 t hz.1 hz.2
  obtain ⟨htw, hap⟩ := tw_cell (t := t) ⟨hz.1, by omega⟩
  have a3 := hT.2.2.2.1
  rw [hC.2.2.2.1, w_id hs.1 hs.2, bShl_eq (k := TR w t 3) (by omega) (by omega)]
  have hp2 : (2 : Nat) ^ (TR w t 3).toNat ≤ 2 ^ 12 := Nat.pow_le_pow_right (by decide) (by omega)
  have h12 : (2 : Nat) ^ 12 = 4096 := by decide
  have hp0 : (0 : Int) ≤ ((2 ^ (TR w t 3).toNat : Nat) : Int) := Int.natCast_nonneg _
  rw [w_id (x := ((2 ^ (TR w t 3).toNat : Nat) : Int)) (by omega) (by omega)]
  refine ⟨fun q => q_r (h0 (fun z => by have := z.2.1; omega)), fun q => ⟨htw, fun q2 => ?_, fun q2 => q_r (h0 (fun z => q2 z.2.2))⟩⟩
  refine cv_copyTown tw265 htw (by omega) hT hC (fun w1 f1 hC1 => cv_layOut hF tw265 ap265 hC1 hT (fun w2 f2 hCH => q_r (h1 hz ⟨by omega, q2⟩ w2 ?_ ?_ hCH)))
  · exact (f1.wk (by intro j k h; simp only [Splan]; omega)).tr (f2.wk (by intro j k; simp only [Sch, Splan]; omega))
  · exact hC1.fr f2 (by intro a k h1 h2; simp only [Sch]; omega)
abbrev Sle (j k : Nat) : Prop := Shand j k ∨ j = 22
theorem ci_layErrands {F : Nat} {t set : Int} {w : AW} {P : Int → AW → Prop} (hF : FB F) (hm : 0 ≤ w.1 5 0 ∧ w.1 5 0 ≤ 2) (hTK : ∀ t, 0 ≤ t → t < w.1 5 0 → TK (TR w t)) (ht : iR t) (hs : iR set) (h1 : 0 ≤ t ∧ t < w.1 5 0 → okS (TR w t) set → ∀ w', Fr Sle w w' → RX (TR w t) (-1) w' → w'.1 0 29 = -1 → (∀ r, 0 ≤ r → r < TR w t 1 → w'.1 10 r.toNat = own0 (TR w t) (-1) r) → P 1 w') (h0 : ¬ ((0 ≤ t ∧ t < w.1 5 0) ∧ okS (TR w t) set) → ∀ w', Fr Sle w w' → P 0 w') : CI (m_X9_layErrands F [vR 0, vI t, vI set] w) P := by
  refine wp_X9_layErrands F t set w _ (ci_isTown ht hm (fun hz => br1 ?_) (fun hz => br0 (q_z0 (h0 (fun z => hz z.1) w Fr.rf))))
  have hT := hTK t hz.1 hz.2
  have a3 := hT.2.2.2.1
  refine cv_hand hF (by omega) hT (fun w1 f1 hH => cv_findFar hF hT hH.1 (by omega) (fun w2 f2 hFA => ?_))
  have f2' : Fr Sle w w2 := (f1.wk (by intro j k h; exact Or.inl h)).tr (f2.wk (by intro j k h; exact Or.inr h))
  have hH2 : HA w2 (TR w t) := hH.1.fr f2 (by intro j k; simp only [SHA, Sfar]; omega)
  have e25 : w2.1 0 25 = TR w t 3 := hH2.2.2.2.2.1
  rw [e25, w_id hs.1 hs.2]
  refine ⟨fun q => q_z0 (h0 (fun z => by have := z.2.1; omega) w2 f2'), fun q => ?_⟩
  have hnB : nB set := ⟨by omega, by have := hs.2; omega⟩
  obtain ⟨e1, e2⟩ := bShr_eq (k := TR w t 3) hnB (by omega) (by omega)
  have hz2 : bShr set (TR w t 3) = 0 ↔ okS (TR w t) set := by
    rw [e1]
    unfold okS
    have hsn : ((set.toNat : Nat) : Int) = set := Int.toNat_of_nonneg (by omega)
    rw [Nat.shiftRight_eq_div_pow]
    constructor
    · intro hq
      have hq2 : set.toNat / 2 ^ (TR w t 3).toNat = 0 := by omega
      have := Nat.div_eq_zero_iff.mp hq2
      have hpos : (2 : Nat) ^ (TR w t 3).toNat ≠ 0 := Nat.pos_iff_ne_zero.mp (Nat.two_pow_pos _)
      exact ⟨by omega, by omega⟩
    · rintro ⟨-, hq⟩
      have : set.toNat / 2 ^ (TR w t 3).toNat = 0 := Nat.div_eq_of_lt (by omega)
      rw [this]
      rfl
  rw [w_id (x := bShr set (TR w t 3)) (by have := e2.1; omega) (by have := e2.2; omega), hz2]
  refine ⟨fun z => q_z1 (h1 hz z w2 f2' ⟨hH2, by rw [f2.I 0 28 (by simp [Sfar])]; exact hH.2.1, hFA⟩ (by rw [f2.I 0 29 (by simp [Sfar])]; exact hH.2.2.1) (fun r x y => by rw [f2.I 10 _ (by simp [Sfar])]; exact hH.2.2.2 r x y)), fun z => q_z0 (h0 (fun y => z y.2) w2 f2')⟩
/-- what queries leave as it is -/
def Kp (w w' : AW) : Prop := ∀ j k, ((1 ≤ j ∧ j ≤ 7) ∨ (33 ≤ j ∧ j ≤ 199)) → w'.1 j k = w.1 j k
theorem Kp.rf {w : AW} : Kp w w := fun _ _ _ => rfl
theorem Kp.tr {w1 w2 w3 : AW} (h : Kp w1 w2) (h' : Kp w2 w3) : Kp w1 w3 := fun j k z => (h' j k z).trans (h j k z)
theorem Fr.K {S : Nat → Nat → Prop} {w w' : AW} (h : Fr S w w') (hs : ∀ j k, ((1 ≤ j ∧ j ≤ 7) ∨ (33 ≤ j ∧ j ≤ 199)) → ¬ S j k) : Kp w w' := fun j k z => h.I j k (hs j k z)
theorem FrX.K {S : Nat → Nat → Prop} {w w' : AW} (h : FrX S w w') (hs : ∀ j k, ((1 ≤ j ∧ j ≤ 7) ∨ (33 ≤ j ∧ j ≤ 199)) → ¬ S j k) : Kp w w' := fun j k z => h.I j k (hs j k z)
theorem Kp.TR {w w' : AW} (h : Kp w w') (t : Int) : TR w' t = TR w t := by
  funext i
  exact h 6 _ (by omega)
theorem TwI.K {w w' : AW} (h : TwI w) (hk : Kp w w') : TwI w' := by
  obtain ⟨h1, h2, h3⟩ := h
  refine ⟨by rw [hk 5 0 (by omega)]; exact h1, by rw [hk 5 0 (by omega), hk 35 5 (by omega)]; exact h2, fun t x y => ?_⟩
  rw [hk 5 0 (by omega)] at y
  rw [hk.TR]
  exact ⟨(h3 t x y).1, (h3 t x y).2.eq (fun a k z1 z2 => hk a k (by omega))⟩
