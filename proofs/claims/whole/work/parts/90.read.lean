/-! READERS OF A TOWN -/
theorem ci_ofT {F : Nat} {t a : Int} {w : AW} {P : Int → AW → Prop} (ht : 0 ≤ t ∧ t < 2) (ha : 0 ≤ a ∧ a < 232) (h : P (TR w t a.toNat) w) : CI (m_X9_of F [vR 0, vI t, vI a] w) P := by
  refine ci_of ⟨by omega, by omega⟩ ?_
  have e : w.1 6 (232 * t + a).toNat = TR w t a.toNat := by
    unfold TR
    rw [show (232 * t).toNat + a.toNat = (232 * t + a).toNat from by omega]
  rw [e]
  exact h
def aTown (m : Int) (T : Nat → Int) (t a : Int) : Int := if (0 ≤ t ∧ t < m) ∧ (0 ≤ a ∧ a ≤ 5) then T a.toNat else -1
theorem cc_town {F : Nat} {t a : Int} {w : AW} {P : Int → AW → Prop} (hI : TwI w) (ht : iR t) (har : iR a) (hp : ∀ w', KQ w w' → P (aTown (w.1 5 0) (TR w t) t a) w') : CI (m_X8_town F [vR 34, vI t, vI a] w) P := by
  have hm := hI.1
  have hpk := hp w KQ.rf
  unfold aTown at hpk
  have no : ¬ ((0 ≤ t ∧ t < w.1 5 0) ∧ (0 ≤ a ∧ a ≤ 5)) → P (-1) w := fun hk => by
    rw [if_neg hk] at hpk
    exact hpk
  refine wp_X8_town F t a w _ (cr_townAt hI ht (fun hz => ⟨fun q => (by cases q), fun j hj => ?_⟩) (fun hz => ⟨fun _ => q_i (no (fun y => hz y.1)), fun j hj => (by cases hj)⟩))
  cases hj
  obtain ⟨hT, hC⟩ := hI.2.2 t hz.1 hz.2
  obtain ⟨htw, hap⟩ := tw_cell (t := t) ⟨hz.1, by omega⟩
  rw [w_id har.1 har.2, hC.1, hC.2.1, hC.2.2.1, hC.2.2.2.1, hC.2.2.2.2.1, hC.2.2.2.2.2.1]
  refine ⟨⟨fun q => ⟨htw, q_i ?_⟩, fun q => ⟨htw, q_i ?_⟩, fun q => ⟨htw, q_i ?_⟩, fun q => ⟨htw, q_i ?_⟩, fun q => ⟨htw, q_i ?_⟩, fun q => ⟨htw, q_i ?_⟩, trivial⟩, fun q => q_i (no (by omega))⟩
  all_goals
    rw [if_pos ⟨hz, by omega⟩, q] at hpk
    exact hpk
theorem cr_town {F : Nat} {t a : Int} {w : AW} {P : Int → AW → Prop} (hI : TwI w) (ht : iR t) (har : iR a) (hp : ∀ w', KQ w w' → P (aTown (w.1 5 0) (TR w t) t a) w') : CI (m_X9_town F [vR 0, vI t, vI a] w) P := by
  refine wp_X9_town F t a w _ (fun w0 e0 => ?_)
  have k0 : KQ w w0 := by rw [e0]; exact wI0_KQ
  have hm := (hI.Q k0).1
  have hpk := hp w0 k0
  unfold aTown at hpk
  rw [← k0.m, ← k0.TR] at hpk
  have no : ¬ ((0 ≤ t ∧ t < w0.1 5 0) ∧ (0 ≤ a ∧ a ≤ 5)) → P (-1) w0 := fun hk => by
    rw [if_neg hk] at hpk
    exact hpk
  refine ci_isTown ht hm (fun hz => br1 (ci_in har (by decide) (by decide) (fun z => br1 (ci_ofT ⟨hz.1, by omega⟩ (by omega) (q_i ?_))) (fun z => br0 (q_i (no (fun y => z y.2)))))) (fun hz => br0 (q_i (no (fun y => hz y.1))))
  rw [if_pos ⟨hz, z⟩] at hpk
  exact hpk
def aPerson (m : Int) (T : Nat → Int) (t p a : Int) : Int := if (0 ≤ t ∧ t < m) ∧ (0 ≤ p ∧ p < T 2) ∧ (0 ≤ a ∧ a ≤ 2) then T (160 + 3 * p + a).toNat else -1
theorem cc_person {F : Nat} {t p a : Int} {w : AW} {P : Int → AW → Prop} (hI : TwI w) (ht : iR t) (hpr : iR p) (har : iR a) (hp : ∀ w', KQ w w' → P (aPerson (w.1 5 0) (TR w t) t p a) w') : CI (m_X8_person F [vR 34, vI t, vI p, vI a] w) P := by
  have hm := hI.1
  have hpk := hp w KQ.rf
  unfold aPerson at hpk
  have no : ¬ ((0 ≤ t ∧ t < w.1 5 0) ∧ (0 ≤ p ∧ p < TR w t 2) ∧ (0 ≤ a ∧ a ≤ 2)) → P (-1) w := fun hk => by
    rw [if_neg hk] at hpk
    exact hpk
  refine wp_X8_person F t p a w _ (cr_townAt hI ht (fun hz => ⟨fun q => (by cases q), fun j hj => ?_⟩) (fun hz => ⟨fun _ => q_i (no (fun y => hz y.1)), fun j hj => (by cases hj)⟩))
  cases hj
  obtain ⟨hT, hC⟩ := hI.2.2 t hz.1 hz.2
  obtain ⟨htw, hap⟩ := tw_cell (t := t) ⟨hz.1, by omega⟩
  have a2 := hT.2.2.1
  refine ⟨htw, ci_hasPerson htw hC hT hpr (fun z => br1 ?_) (fun z => br0 (q_i (no (fun y => z y.2.1))))⟩
  obtain ⟨c1, c2, c3⟩ := hC.pers z.1 z.2
  rw [w_id har.1 har.2, c1, c2, c3]
  refine ⟨⟨fun q => ⟨⟨z.1, by omega⟩, q_i ?_⟩, fun q => ⟨⟨z.1, by omega⟩, q_i ?_⟩, fun q => ⟨⟨z.1, by omega⟩, q_i ?_⟩, trivial⟩, fun q => q_i (no (by omega))⟩
  · rw [if_pos ⟨hz, z, by omega⟩, show 160 + 3 * p + a = 160 + 3 * p from by omega] at hpk; exact hpk
  · rw [if_pos ⟨hz, z, by omega⟩, show 160 + 3 * p + a = 161 + 3 * p from by omega] at hpk; exact hpk
  · rw [if_pos ⟨hz, z, by omega⟩, show 160 + 3 * p + a = 162 + 3 * p from by omega] at hpk; exact hpk
theorem cr_person {F : Nat} {t p a : Int} {w : AW} {P : Int → AW → Prop} (hI : TwI w) (ht : iR t) (hpr : iR p) (har : iR a) (hp : ∀ w', KQ w w' → P (aPerson (w.1 5 0) (TR w t) t p a) w') : CI (m_X9_person F [vR 0, vI t, vI p, vI a] w) P := by
  refine wp_X9_person F t p a w _ (fun w0 e0 => ?_)
  have k0 : KQ w w0 := by rw [e0]; exact wI0_KQ
  have hI0 := hI.Q k0
  have hm := hI0.1
  have hpk := hp w0 k0
  unfold aPerson at hpk
  rw [← k0.m, ← k0.TR] at hpk
  have no : ¬ ((0 ≤ t ∧ t < w0.1 5 0) ∧ (0 ≤ p ∧ p < TR w0 t 2) ∧ (0 ≤ a ∧ a ≤ 2)) → P (-1) w0 := fun hk => by
    rw [if_neg hk] at hpk
    exact hpk
  refine ci_isTown ht hm (fun hz => br1 (ci_ofT ⟨hz.1, by omega⟩ (by decide) ?_)) (fun hz => br0 (q_i (no (fun y => hz y.1))))
  have hT := (hI0.2.2 t hz.1 hz.2).1
  have a2 := hT.2.2.1
  show CI (m_X9_in F [vI p, vI 0, vI (TR w0 t 2 - 1)] w0) _
  refine ci_in hpr (by decide) ⟨by omega, by omega⟩ (fun z => br1 (ci_in har (by decide) (by decide) (fun z2 => br1 (ci_ofT ⟨hz.1, by omega⟩ (by omega) (q_i ?_))) (fun z2 => br0 (q_i (no (fun y => z2 y.2.2)))))) (fun z => br0 (q_i (no (fun y => z (by omega)))))
  rw [if_pos ⟨hz, by omega, z2⟩] at hpk
  exact hpk
