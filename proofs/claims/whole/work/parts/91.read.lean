def aErrand (m : Int) (T : Nat → Int) (t p a : Int) : Int := if (0 ≤ t ∧ t < m) ∧ (0 ≤ p ∧ p < T 3) ∧ (0 ≤ a ∧ a ≤ 3) then T (184 + 4 * p + a).toNat else -1
theorem cc_errand {F : Nat} {t p a : Int} {w : AW} {P : Int → AW → Prop} (hI : TwI w) (ht : iR t) (hpr : iR p) (har : iR a) (hp : ∀ w', KQ w w' → P (aErrand (w.1 5 0) (TR w t) t p a) w') : CI (m_X8_errand F [vR 34, vI t, vI p, vI a] w) P := by
  have hm := hI.1
  have hpk := hp w KQ.rf
  unfold aErrand at hpk
  have no : ¬ ((0 ≤ t ∧ t < w.1 5 0) ∧ (0 ≤ p ∧ p < TR w t 3) ∧ (0 ≤ a ∧ a ≤ 3)) → P (-1) w := fun hk => by
    rw [if_neg hk] at hpk
    exact hpk
  refine wp_X8_errand F t p a w _ (cr_townAt hI ht (fun hz => ⟨fun q => (by cases q), fun j hj => ?_⟩) (fun hz => ⟨fun _ => q_i (no (fun y => hz y.1)), fun j hj => (by cases hj)⟩))
  cases hj
  obtain ⟨hT, hC⟩ := hI.2.2 t hz.1 hz.2
  obtain ⟨htw, hap⟩ := tw_cell (t := t) ⟨hz.1, by omega⟩
  have a3 := hT.2.2.2.1
  refine ⟨htw, ci_hasErrand htw hC hT hpr (fun z => br1 ?_) (fun z => br0 (q_i (no (fun y => z y.2.1))))⟩
  obtain ⟨c1, c2, c3, c4⟩ := hC.erra z.1 z.2
  rw [w_id har.1 har.2, c1, c2, c3, c4]
  refine ⟨⟨fun q => ⟨⟨z.1, by omega⟩, q_i ?_⟩, fun q => ⟨⟨z.1, by omega⟩, q_i ?_⟩, fun q => ⟨⟨z.1, by omega⟩, q_i ?_⟩, fun q => ⟨⟨z.1, by omega⟩, q_i ?_⟩, trivial⟩, fun q => q_i (no (by omega))⟩
  · rw [if_pos ⟨hz, z, by omega⟩, show 184 + 4 * p + a = 184 + 4 * p from by omega] at hpk; exact hpk
  · rw [if_pos ⟨hz, z, by omega⟩, show 184 + 4 * p + a = 185 + 4 * p from by omega] at hpk; exact hpk
  · rw [if_pos ⟨hz, z, by omega⟩, show 184 + 4 * p + a = 186 + 4 * p from by omega] at hpk; exact hpk
  · rw [if_pos ⟨hz, z, by omega⟩, show 184 + 4 * p + a = 187 + 4 * p from by omega] at hpk; exact hpk
theorem cr_errand {F : Nat} {t p a : Int} {w : AW} {P : Int → AW → Prop} (hI : TwI w) (ht : iR t) (hpr : iR p) (har : iR a) (hp : ∀ w', KQ w w' → P (aErrand (w.1 5 0) (TR w t) t p a) w') : CI (m_X9_errand F [vR 0, vI t, vI p, vI a] w) P := by
  refine wp_X9_errand F t p a w _ (fun w0 e0 => ?_)
  have k0 : KQ w w0 := by rw [e0]; exact wI0_KQ
  have hI0 := hI.Q k0
  have hm := hI0.1
  have hpk := hp w0 k0
  unfold aErrand at hpk
  rw [← k0.m, ← k0.TR] at hpk
  have no : ¬ ((0 ≤ t ∧ t < w0.1 5 0) ∧ (0 ≤ p ∧ p < TR w0 t 3) ∧ (0 ≤ a ∧ a ≤ 3)) → P (-1) w0 := fun hk => by
    rw [if_neg hk] at hpk
    exact hpk
  refine ci_isTown ht hm (fun hz => br1 (ci_ofT ⟨hz.1, by omega⟩ (by decide) ?_)) (fun hz => br0 (q_i (no (fun y => hz y.1))))
  have hT := (hI0.2.2 t hz.1 hz.2).1
  have a3 := hT.2.2.2.1
  show CI (m_X9_in F [vI p, vI 0, vI (TR w0 t 3 - 1)] w0) _
  refine ci_in hpr (by decide) ⟨by omega, by omega⟩ (fun z => br1 (ci_in har (by decide) (by decide) (fun z2 => br1 (ci_ofT ⟨hz.1, by omega⟩ (by omega) (q_i ?_))) (fun z2 => br0 (q_i (no (fun y => z2 y.2.2)))))) (fun z => br0 (q_i (no (fun y => z (by omega)))))
  rw [if_pos ⟨hz, by omega, z2⟩] at hpk
  exact hpk
def aRoad (m : Int) (T : Nat → Int) (t p a : Int) : Int := if (0 ≤ t ∧ t < m) ∧ (0 ≤ p ∧ p < T 1) then (if 0 ≤ a ∧ a ≤ 4 then T (6 + 11 * p + a).toNat else if 10 ≤ a ∧ a ≤ 15 then T (6 + 11 * p + (a - 5)).toNat else -2) else -2
theorem cc_road {F : Nat} {t p a : Int} {w : AW} {P : Int → AW → Prop} (hI : TwI w) (ht : iR t) (hpr : iR p) (har : iR a) (hp : ∀ w', KQ w w' → P (aRoad (w.1 5 0) (TR w t) t p a) w') : CI (m_X8_road F [vR 34, vI t, vI p, vI a] w) P := by
  have hm := hI.1
  have hpk := hp w KQ.rf
  unfold aRoad at hpk
  have no : ¬ ((0 ≤ t ∧ t < w.1 5 0) ∧ (0 ≤ p ∧ p < TR w t 1)) → P (-2) w := fun hk => by
    rw [if_neg hk] at hpk
    exact hpk
  refine wp_X8_road F t p a w _ (cr_townAt hI ht (fun hz => ⟨fun q => (by cases q), fun j hj => ?_⟩) (fun hz => ⟨fun _ => q_i (no (fun y => hz y.1)), fun j hj => (by cases hj)⟩))
  cases hj
  obtain ⟨hT, hC⟩ := hI.2.2 t hz.1 hz.2
  obtain ⟨htw, hap⟩ := tw_cell (t := t) ⟨hz.1, by omega⟩
  have a1 := hT.2.1
  refine ⟨htw, ci_hasRoad htw hC hT hpr (fun z => br1 ?_) (fun z => br0 (q_i (no (fun y => z y.2))))⟩
  obtain ⟨c1, c2, c3, c4, c5, c6⟩ := hC.road z.1 z.2
  rw [if_pos ⟨hz, z⟩] at hpk
  have go : ¬ (10 ≤ a ∧ a < 16) → TT (k_X8_road_55 F [vR 34, vI t, vI p, vI a, vR (38 + 14 * t.toNat)] [] w) (qq 1 (fun r w => ∃ x, r = some (vI x) ∧ P x w)) := fun y => by
    refine wp_X8_road_55 F t p a (38 + 14 * t.toNat) htw w _ ?_
    rw [w_id har.1 har.2, c1, c2, c3, c4, c5]
    refine ⟨⟨fun q => ⟨⟨z.1, by omega⟩, q_i ?_⟩, fun q => ⟨⟨z.1, by omega⟩, q_i ?_⟩, fun q => ⟨⟨z.1, by omega⟩, q_i ?_⟩, fun q => ⟨⟨z.1, by omega⟩, q_i ?_⟩, fun q => ⟨⟨z.1, by omega⟩, q_i ?_⟩, trivial⟩, fun q => q_i ?_⟩
    · rw [if_pos (by omega), show 6 + 11 * p + a = 6 + 11 * p from by omega] at hpk; exact hpk
    · rw [if_pos (by omega), show 6 + 11 * p + a = 7 + 11 * p from by omega] at hpk; exact hpk
    · rw [if_pos (by omega), show 6 + 11 * p + a = 8 + 11 * p from by omega] at hpk; exact hpk
    · rw [if_pos (by omega), show 6 + 11 * p + a = 9 + 11 * p from by omega] at hpk; exact hpk
    · rw [if_pos (by omega), show 6 + 11 * p + a = 10 + 11 * p from by omega] at hpk; exact hpk
    · rw [if_neg (by omega), if_neg (by omega)] at hpk; exact hpk
  rw [w_id har.1 har.2]
  refine ⟨fun q => go (by omega), fun q => ⟨fun q2 => ⟨⟨by omega, by omega⟩, q_i ?_⟩, fun q2 => go (by omega)⟩⟩
  have e := c6 (a - 10) (by omega) (by omega)
  rw [show p * 6 + (a - 10) = p * 6 + a - 10 from by omega] at e
  rw [e]
  rw [if_neg (by omega), if_pos (by omega)] at hpk
  unfold rC
  rw [show 11 + 11 * p + (a - 10) = 6 + 11 * p + (a - 5) from by omega]
  exact hpk
theorem cr_road {F : Nat} {t p a : Int} {w : AW} {P : Int → AW → Prop} (hI : TwI w) (ht : iR t) (hpr : iR p) (har : iR a) (hp : ∀ w', KQ w w' → P (aRoad (w.1 5 0) (TR w t) t p a) w') : CI (m_X9_road F [vR 0, vI t, vI p, vI a] w) P := by
  refine wp_X9_road F t p a w _ (fun w0 e0 => ?_)
  have k0 : KQ w w0 := by rw [e0]; exact wI0_KQ
  have hI0 := hI.Q k0
  have hm := hI0.1
  have hpk := hp w0 k0
  unfold aRoad at hpk
  rw [← k0.m, ← k0.TR] at hpk
  have no : ¬ ((0 ≤ t ∧ t < w0.1 5 0) ∧ (0 ≤ p ∧ p < TR w0 t 1)) → P (-2) w0 := fun hk => by
    rw [if_neg hk] at hpk
    exact hpk
  refine ci_isTown ht hm (fun hz => br1 (ci_ofT ⟨hz.1, by omega⟩ (by decide) ?_)) (fun hz => br0 (q_i (no (fun y => hz y.1))))
  have hT := (hI0.2.2 t hz.1 hz.2).1
  have a1 := hT.2.1
  show CI (m_X9_in F [vI p, vI 0, vI (TR w0 t 1 - 1)] w0) _
  refine ci_in hpr (by decide) ⟨by omega, by omega⟩ (fun z => br1 ?_) (fun z => br0 (q_i (no (fun y => z (by omega)))))
  rw [if_pos ⟨hz, by omega⟩] at hpk
  have go : (0 ≤ a ∧ a ≤ 4) ∨ (10 ≤ a ∧ a ≤ 15) → TT (k_X9_road_52 F [vR 0, vI t, vI p, vI a] [] w0) (qq 1 (fun r w => ∃ x, r = some (vI x) ∧ P x w)) := fun y => by
    refine wp_X9_road_52 F t p a w0 _ ?_
    rw [w_id har.1 har.2]
    refine ⟨fun q => ci_ofT ⟨hz.1, by omega⟩ (by omega) (q_i ?_), fun q => ci_ofT ⟨hz.1, by omega⟩ (by omega) (q_i ?_)⟩
    · rw [if_pos (by omega)] at hpk; exact hpk
    · rw [if_neg (by omega), if_pos (by omega)] at hpk; exact hpk
  refine ci_in har (by decide) (by decide) (fun y => br1 (go (Or.inl y))) (fun y => br0 (ci_in har (by decide) (by decide) (fun y2 => br1 (go (Or.inr y2))) (fun y2 => br0 (q_i ?_))))
  rw [if_neg y, if_neg y2] at hpk
  exact hpk
