/-! MINUTES -/
theorem dsv_none {T : Nat → Int} {a b : Int} (h : ∀ n m, ¬ Wk (Jt T (-1)) n a b m) : dsv T a b = -1 := by
  unfold dsv
  rw [dif_neg]
  rintro ⟨m, ⟨n, hw⟩, -⟩
  exact h n m hw
theorem far_dsv {T : Nat → Int} {w : AW} (hT : TK T) (h : FAR T (-1) w) {a b : Int} (ha : 0 ≤ a ∧ a < T 0) (hb : 0 ≤ b ∧ b < T 0) : (w.1 22 (9 * a + b).toNat = 100000 ∧ dsv T a b = -1) ∨ (w.1 22 (9 * a + b).toNat = dsv T a b ∧ 0 ≤ dsv T a b ∧ dsv T a b ≤ 240) := by
  rcases h a b ha.1 ha.2 hb.1 hb.2 with ⟨h1, h2⟩ | ⟨h1, h2⟩
  · exact Or.inl ⟨h1, dsv_none h2⟩
  · have e := dsv_eq h1
    obtain ⟨n, hw⟩ := h1.1
    have := Wk_nonneg (Jt_ok hT (-1)) n a b _ hw
    exact Or.inr ⟨e.symm, by omega, by omega⟩
theorem chm_dsv {T : Nat → Int} {w : AW} (h : CHM T w) {a b : Int} (ha : 0 ≤ a ∧ a < T 0) (hb : 0 ≤ b ∧ b < T 0) : w.1 232 ((a * 9) + b).toNat = dsv T a b := by
  rcases h a b ha.1 ha.2 hb.1 hb.2 with ⟨h1, h2⟩ | h1
  · rw [h1, dsv_none h2]
  · exact (dsv_eq h1).symm
/-- the class lays out a town of the book -/
theorem cv_lay2 {F : Nat} {t : Int} {w : AW} {P : AW → Prop} (hF : FB F) (hI : TwI w) (hz : 0 ≤ t ∧ t < w.1 5 0) (hp : ∀ w', KQ w w' → CA w' (38 + 14 * t.toNat) (TR w t) → CH (TR w t) w' → P w') : CV (m_X1_layOut F [vR 228, vR (38 + 14 * t.toNat)] w) P := by
  have hm := hI.1
  obtain ⟨hT, hC⟩ := hI.2.2 t hz.1 hz.2
  obtain ⟨htw, hap⟩ := tw_cell (t := t) ⟨hz.1, by omega⟩
  refine cv_layOut hF htw hap hC hT (fun w' f h => hp w' (f.KQ (by intro j k; simp only [Sch]; omega)) (hC.fr f (by intro a k h1 h2; simp only [Sch]; omega)) h)
noncomputable def aMinutes (m : Int) (T : Nat → Int) (t a b : Int) : Int := by
  classical
  exact if (0 ≤ t ∧ t < m) ∧ (0 ≤ a ∧ a < T 0) ∧ (0 ≤ b ∧ b < T 0) then dsv T a b else -1
theorem okS0 {T : Nat → Int} : okS T 0 := ⟨Int.le_refl _, by have := Nat.two_pow_pos (T 3).toNat; omega⟩
theorem cc_minutes {F : Nat} {t a b : Int} {w : AW} {P : Int → AW → Prop} (hF : FB F) (hI : TwI w) (ht : iR t) (har : iR a) (hbr : iR b) (hp : ∀ w', KQ w w' → P (aMinutes (w.1 5 0) (TR w t) t a b) w') : CI (m_X8_minutes F [vR 34, vI t, vI a, vI b] w) P := by
  have hm := hI.1
  have no : ¬ ((0 ≤ t ∧ t < w.1 5 0) ∧ (0 ≤ a ∧ a < TR w t 0) ∧ (0 ≤ b ∧ b < TR w t 0)) → P (-1) w := fun hk => by
    have hpk := hp w KQ.rf
    unfold aMinutes at hpk
    rw [if_neg hk] at hpk
    exact hpk
  refine wp_X8_minutes F t a b w _ (cr_townAt hI ht (fun hz => ⟨fun q => (by cases q), fun j hj => ?_⟩) (fun hz => ⟨fun _ => q_i (no (fun y => hz y.1)), fun j hj => (by cases hj)⟩))
  cases hj
  obtain ⟨hT, hC⟩ := hI.2.2 t hz.1 hz.2
  obtain ⟨htw, hap⟩ := tw_cell (t := t) ⟨hz.1, by omega⟩
  have a0 := hT.1
  refine ⟨htw, ci_hasPlace htw hC hT har (fun z1 => br1 (ci_hasPlace htw hC hT hbr (fun z2 => br1 (cv_lay2 hF hI hz (fun w' k' hC' hCH' => ⟨⟨by omega, by omega⟩, q_i ?_⟩))) (fun z2 => br0 (q_i (no (fun y => z2 y.2.2)))))) (fun z1 => br0 (q_i (no (fun y => z1 y.2.1))))⟩
  rw [chm_dsv hCH'.2.1 z1 z2]
  have hpk := hp w' k'
  unfold aMinutes at hpk
  rw [if_pos ⟨hz, z1, z2⟩] at hpk
  exact hpk
theorem cr_minutes {F : Nat} {t a b : Int} {w : AW} {P : Int → AW → Prop} (hF : FB F) (hI : TwI w) (ht : iR t) (har : iR a) (hbr : iR b) (hp : ∀ w', KQ w w' → P (aMinutes (w.1 5 0) (TR w t) t a b) w') : CI (m_X9_minutes F [vR 0, vI t, vI a, vI b] w) P := by
  have no : ¬ ((0 ≤ t ∧ t < w.1 5 0) ∧ (0 ≤ a ∧ a < TR w t 0) ∧ (0 ≤ b ∧ b < TR w t 0)) → ∀ w', KQ w w' → P (-1) w' := fun hk w' k' => by
    have hpk := hp w' k'
    unfold aMinutes at hpk
    rw [if_neg hk] at hpk
    exact hpk
  refine wp_X9_minutes F t a b w _ (fun w0 e0 => ci_lay' hF hI e0 ht (by decide) (fun hg hT _ _ w1 k1 hX _ => br1 ?_) (fun hz w1 k1 => br0 (q_i (no (fun y => hz ⟨y.1, okS0⟩) w1 k1))))
  have a0 := hT.1
  refine ci_isPlace hX.1 hT har (fun z1 => br1 (ci_isPlace hX.1 hT hbr (fun z2 => br1 ⟨⟨by omega, by omega⟩, ?_⟩) (fun z2 => br0 (q_i (no (fun y => z2 y.2.2) w1 k1))))) (fun z1 => br0 (q_i (no (fun y => z1 y.2.1) w1 k1)))
  have hpk := hp w1 k1
  unfold aMinutes at hpk
  rw [if_pos ⟨hg.1, z1, z2⟩] at hpk
  have hf := far_dsv hT hX.2.2 z1 z2
  rw [w_id (x := w1.1 22 (9 * a + b).toNat) (by omega) (by omega)]
  refine ⟨fun q => q_i ?_, fun q => ⟨⟨by omega, by omega⟩, q_i ?_⟩⟩
  · rcases hf with ⟨_, e⟩ | ⟨e, _, _⟩
    · rw [e] at hpk; exact hpk
    · omega
  · rcases hf with ⟨e, _⟩ | ⟨e, _, _⟩
    · exact absurd e q
    · rw [e]; exact hpk
