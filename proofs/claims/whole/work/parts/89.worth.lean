/-! WORTH -/
noncomputable def aWorth (m : Int) (T : Nat → Int) (t r h : Int) : Int := by
  classical
  exact if (0 ≤ t ∧ t < m) ∧ (0 ≤ r ∧ r < T 1) ∧ (0 ≤ h ∧ h ≤ 6) then wrt T (-1) r h else -1
theorem cc_worth {F : Nat} {t r h : Int} {w : AW} {P : Int → AW → Prop} (hF : FB F) (hI : TwI w) (ht : iR t) (hrr : iR r) (hhr : iR h) (hp : ∀ w', KQ w w' → P (aWorth (w.1 5 0) (TR w t) t r h) w') : CL (m_X8_worth F [vR 34, vI t, vI r, vI h] w) P := by
  have hm := hI.1
  have hpk := hp w KQ.rf
  unfold aWorth at hpk
  have no : ¬ ((0 ≤ t ∧ t < w.1 5 0) ∧ (0 ≤ r ∧ r < TR w t 1) ∧ (0 ≤ h ∧ h ≤ 6)) → P (-1) w := fun hk => by
    rw [if_neg hk] at hpk
    exact hpk
  refine wp_X8_worth F t r h w _ (cr_townAt hI ht (fun hz => ⟨fun q => (by cases q), fun j hj => ?_⟩) (fun hz => ⟨fun _ => q_l (no (fun y => hz y.1)), fun j hj => (by cases hj)⟩))
  cases hj
  obtain ⟨hT, hC⟩ := hI.2.2 t hz.1 hz.2
  obtain ⟨htw, hap⟩ := tw_cell (t := t) ⟨hz.1, by omega⟩
  rw [w_id hhr.1 hhr.2]
  refine ⟨htw, ci_hasRoad htw hC hT hrr (fun z1 => br1 ⟨fun q => q_l (no (by omega)), fun q => ⟨fun q2 => q_l (no (by omega)), fun q2 => cl_worthFrom hF htw hC hT z1.1 z1.2 (by omega) (by omega) (q_l ?_)⟩⟩) (fun z1 => br0 (q_l (no (fun y => z1 y.2.1))))⟩
  rw [if_pos ⟨hz, z1, by omega⟩] at hpk
  exact hpk
theorem cr_worth {F : Nat} {t r h : Int} {w : AW} {P : Int → AW → Prop} (hF : FB F) (hI : TwI w) (ht : iR t) (hrr : iR r) (hhr : iR h) (hp : ∀ w', KQ w w' → P (aWorth (w.1 5 0) (TR w t) t r h) w') : CL (m_X9_worth F [vR 0, vI t, vI r, vI h] w) P := by
  have no : ¬ ((0 ≤ t ∧ t < w.1 5 0) ∧ (0 ≤ r ∧ r < TR w t 1) ∧ (0 ≤ h ∧ h ≤ 6)) → ∀ w', KQ w w' → P (-1) w' := fun hk w' k' => by
    have hpk := hp w' k'
    unfold aWorth at hpk
    rw [if_neg hk] at hpk
    exact hpk
  refine wp_X9_worth F t r h w _ (fun w0 e0 => ?_)
  have k0 : KQ w w0 := by rw [e0]; exact wI0_KQ
  have hI0 := hI.Q k0
  have hm := hI0.1
  refine ci_isTown ht hI0.1 (fun hz => br1 (ci_in hhr (by decide) (by decide) (fun z => br1 ?_) (fun z => br0 (q_l (no (fun y => z y.2.2) w0 k0))))) (fun hz => br0 (q_l (no (fun y => by rw [k0.m] at hz; exact hz y.1) w0 k0)))
  have hT := (hI0.2.2 t hz.1 hz.2).1
  refine cv_hand hF (by omega) hT (fun w1 f1 hH => ?_)
  have k1 : KQ w w1 := k0.tr (f1.KQ (by intro j k; simp only [Shand]; omega))
  rw [k0.TR] at hT hH
  rw [k0.m] at hz
  refine ci_isRoad hH.1 hT hrr (fun z1 => br1 (cl_worthBy hF hH.1 hT hH.2.1 (by omega) z1.1 z1.2 z.1 z.2 (q_l ?_))) (fun z1 => br0 (q_l (no (fun y => z1 y.2.1) w1 k1)))
  have hpk := hp w1 k1
  unfold aWorth at hpk
  rw [if_pos ⟨hz, z1, z⟩] at hpk
  exact hpk
