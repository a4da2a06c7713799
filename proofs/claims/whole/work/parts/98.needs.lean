noncomputable def aNeeds (m : Int) (T : Nat → Int) (t r : Int) : Int := if (0 ≤ t ∧ t < m) ∧ (r = -1 ∨ (0 ≤ r ∧ r < T 1)) then (if r = -1 then bto (fun q => nd T q ≠ 0) (T 1).toNat else nd T r) else -1
theorem rch_nB {T : Nat → Int} (hT : TK T) (x : Int) : nB (rch T x) := by
  have a3 := hT.2.2.2.1
  exact (bto_ok (p := wR T x) (T 3).toNat (by omega)).1
theorem nd_nB {T : Nat → Int} (hT : TK T) (x : Int) : nB (nd T x) := by
  have a3 := hT.2.2.2.1
  exact (bto_ok (p := fun e => wR T (-1) e ∧ ¬ wR T x e) (T 3).toNat (by omega)).1
theorem sfar_KQ {w w' : AW} (h : Fr Sfar w w') : KQ w w' := h.KQ (by intro j k; simp only [Sfar]; omega)
theorem cr_needs {F : Nat} {t r : Int} {w : AW} {P : Int → AW → Prop} (hF : FB F) (hI : TwI w) (ht : iR t) (hrr : iR r) (hp : ∀ w', KQ w w' → P (aNeeds (w.1 5 0) (TR w t) t r) w') : CI (m_X9_needs F [vR 0, vI t, vI r] w) P := by
  have no : ¬ ((0 ≤ t ∧ t < w.1 5 0) ∧ (r = -1 ∨ (0 ≤ r ∧ r < TR w t 1))) → ∀ w', KQ w w' → P (-1) w' := fun hk w' k' => by
    have hpk := hp w' k'
    unfold aNeeds at hpk
    rw [if_neg hk] at hpk
    exact hpk
  refine wp_X9_needs F t r w _ (fun w0 e0 => ?_)
  have k0 : KQ w w0 := by rw [e0]; exact wI0_KQ
  have hI0 := hI.Q k0
  have hm := hI0.1
  refine ci_isTown ht hI0.1 (fun hz => br1 ?_) (fun hz => br0 (q_i (no (fun y => by rw [k0.m] at hz; exact hz y.1) w0 k0)))
  have hT := (hI0.2.2 t hz.1 hz.2).1
  refine cv_hand hF (by omega) hT (fun w1 f1 hH => ?_)
  have k1 : KQ w w1 := k0.tr (f1.KQ (by intro j k; simp only [Shand]; omega))
  rw [k0.TR] at hT hH
  rw [k0.m] at hz
  have a1 := hT.2.1
  have go : (r = -1 ∨ (0 ≤ r ∧ r < TR w t 1)) → TT (k_X9_needs_35 F [vR 0, vI t, vI r, vU, vU, vU] [] w1) (qq 1 (fun r w => ∃ x, r = some (vI x) ∧ P x w)) := fun hr => by
    refine wp_X9_needs_35 F t r w1 _ (ci_reachedR hF hT hH.1 (by omega) (fun w2 f2 => ?_))
    have hH2 : HA w2 (TR w t) := hH.1.fr f2 (by intro j k; simp only [SHA, Sfar]; omega)
    have k2 := k1.tr (sfar_KQ f2)
    rw [w_id hrr.1 hrr.2]
    refine ⟨fun q => ?_, fun q => ci_reachedR hF hT hH2 (by omega) (fun w3 f3 => q_i ?_)⟩
    · refine tt_for (K := k_X9_needs_62 F) (TR w t 1) (fun i w' l => Fr Sfar w1 w' ∧ 0 ≤ i ∧ i ≤ TR w t 1 ∧ l = [vR 0, vI t, vI r, vI (rch (TR w t) (-1)), vI (bto (fun q => nd (TR w t) q ≠ 0) i.toNat), vI i]) ?_ F 0 _ w2 (by omega) ⟨f2, by omega, by omega, rfl⟩
      rintro n i l w3 ⟨f3, hi0, hi1, rfl⟩ hk
      have hH3 : HA w3 (TR w t) := hH.1.fr f3 (by intro j k; simp only [SHA, Sfar]; omega)
      have e23 : w3.1 0 23 = TR w t 1 := hH3.2.2.1
      rw [ks_X9_needs_62]
      refine wp_X9_needs_62 F _ t r _ _ i w3 _ ?_
      rw [e23, w_id (x := i) (by omega) (by omega), w_id (x := TR w t 1) (by omega) (by omega)]
      refine ⟨fun q2 => ci_reachedR hF hT hH3 (by omega) (fun w4 f4 => ?_), fun q2 => q_i ?_⟩
      · have n1 := rch_nB hT i
        have n2 := rch_nB hT (-1)
        rw [w_id (x := rch (TR w t) i) (by have := n1.1; omega) (by have := n1.2; omega), w_id (x := rch (TR w t) (-1)) (by have := n2.1; omega) (by have := n2.2; omega), (nd_rch hT i).2]
        have hb := bto_i (p := fun q => nd (TR w t) q ≠ 0) hi0 (by omega)
        rw [Int.toNat_of_nonneg hi0] at hb
        have hnb := (bto_ok (p := fun q => nd (TR w t) q ≠ 0) i.toNat (by omega)).1
        refine ⟨fun q3 => wp_X9_needs_91 F _ t r _ _ i _ _ w4 _ (fun y ey => hk _ _ ⟨f3.tr f4, by omega, by omega, ?_⟩ q2), fun q3 => wp_X9_needs_91 F _ t r _ _ i _ _ w4 _ (fun y ey => hk _ _ ⟨f3.tr f4, by omega, by omega, ?_⟩ q2)⟩
        · rw [ey, bOr_0 hnb, hb.2 (fun z => z q3)]
        · rw [ey, hb.1 q3]
      · have hpk := hp w3 (k1.tr (sfar_KQ f3))
        unfold aNeeds at hpk
        rw [if_pos ⟨hz, hr⟩, if_pos q] at hpk
        rw [show i = TR w t 1 from by omega]
        exact hpk
    · have hpk := hp w3 (k2.tr (sfar_KQ f3))
      unfold aNeeds at hpk
      rw [if_pos ⟨hz, hr⟩, if_neg q] at hpk
      rw [(nd_rch hT r).1]
      exact hpk
  rw [w_id hrr.1 hrr.2]
  exact ⟨fun q => go (Or.inl q), fun q => ci_isRoad hH.1 hT hrr (fun z => br1 (go (Or.inr z))) (fun z => br0 (q_i (no (by omega) w1 k1)))⟩
