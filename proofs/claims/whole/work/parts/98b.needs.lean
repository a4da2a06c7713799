theorem cc_needs {F : Nat} {t r : Int} {w : AW} {P : Int → AW → Prop} (hF : FB F) (hI : TwI w) (ht : iR t) (hrr : iR r) (hp : ∀ w', KQ w w' → P (aNeeds (w.1 5 0) (TR w t) t r) w') : CI (m_X8_needs F [vR 34, vI t, vI r] w) P := by
  have hm := hI.1
  have hpk := hp w KQ.rf
  unfold aNeeds at hpk
  have no : ¬ ((0 ≤ t ∧ t < w.1 5 0) ∧ (r = -1 ∨ (0 ≤ r ∧ r < TR w t 1))) → P (-1) w := fun hk => by
    rw [if_neg hk] at hpk
    exact hpk
  refine wp_X8_needs F t r w _ (cr_townAt hI ht (fun hz => ⟨fun q => (by cases q), fun j hj => ?_⟩) (fun hz => ⟨fun _ => q_i (no (fun y => hz y.1)), fun j hj => (by cases hj)⟩))
  cases hj
  obtain ⟨hT, hC⟩ := hI.2.2 t hz.1 hz.2
  obtain ⟨htw, hap⟩ := tw_cell (t := t) ⟨hz.1, by omega⟩
  have a1 := hT.2.1
  have go : (r = -1 ∨ (0 ≤ r ∧ r < TR w t 1)) → TT (k_X8_needs_28 F [vR 34, vI t, vI r, vR (38 + 14 * t.toNat), vU, vU] [] w) (qq 1 (fun r w => ∃ x, r = some (vI x) ∧ P x w)) := fun hr => by
    rw [if_pos ⟨hz, hr⟩] at hpk
    refine wp_X8_needs_28 F t r (38 + 14 * t.toNat) htw w _ ?_
    rw [w_id hrr.1 hrr.2]
    refine ⟨fun q => ?_, fun q => ci_etn hF htw hT hC (by omega) (q_i (by rw [if_neg q] at hpk; exact hpk))⟩
    refine tt_for (K := k_X8_needs_45 F) (TR w t 1) (fun i w' l => w' = w ∧ 0 ≤ i ∧ i ≤ TR w t 1 ∧ l = [vR 34, vI t, vI r, vR (38 + 14 * t.toNat), vI (bto (fun q => nd (TR w t) q ≠ 0) i.toNat), vI i]) ?_ F 0 _ w (by omega) ⟨rfl, by omega, by omega, rfl⟩
    rintro n i l w3 ⟨rfl, hi0, hi1, rfl⟩ hk
    rw [ks_X8_needs_45]
    refine wp_X8_needs_45 F _ t r (38 + 14 * t.toNat) htw _ i w3 _ ?_
    rw [hC.2.1, w_id (x := i) (by omega) (by omega), w_id (x := TR w3 t 1) (by omega) (by omega)]
    refine ⟨fun q2 => ci_etn hF htw hT hC (by omega) ?_, fun q2 => q_i ?_⟩
    · have n1 := nd_nB hT i
      rw [w_id (x := nd (TR w3 t) i) (by have := n1.1; omega) (by have := n1.2; omega)]
      have hb := bto_i (p := fun q => nd (TR w3 t) q ≠ 0) hi0 (by omega)
      rw [Int.toNat_of_nonneg hi0] at hb
      refine ⟨fun q3 => wp_X8_needs_72 F _ t r (38 + 14 * t.toNat) htw _ i w3 _ (hk _ _ ⟨rfl, by omega, by omega, ?_⟩ q2), fun q3 y ey => wp_X8_needs_72 F _ t r (38 + 14 * t.toNat) htw y i w3 _ (hk _ _ ⟨rfl, by omega, by omega, ?_⟩ q2)⟩
      · rw [hb.2 (fun z => z q3)]
      · rw [ey, hb.1 q3]
    · rw [if_pos q] at hpk
      rw [show i = TR w3 t 1 from by omega]
      exact hpk
  rw [w_id hrr.1 hrr.2]
  exact ⟨fun q => go (Or.inl q), fun q => ⟨htw, ci_hasRoad htw hC hT hrr (fun z => br1 (go (Or.inr z))) (fun z => br0 (q_i (no (by omega))))⟩⟩
