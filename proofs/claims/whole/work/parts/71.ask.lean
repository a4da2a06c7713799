/-! QUESTIONS OF ERRANDS: those that change nothing in the town -/
/-- what a question leaves -/
def KQ (w w' : AW) : Prop := Kp w w' ∧ w'.2.2.1 = w.2.2.1
theorem KQ.rf {w : AW} : KQ w w := ⟨Kp.rf, rfl⟩
theorem KQ.tr {w1 w2 w3 : AW} (h : KQ w1 w2) (h' : KQ w2 w3) : KQ w1 w3 := ⟨h.1.tr h'.1, h'.2.trans h.2⟩
theorem Fr.KQ {S : Nat → Nat → Prop} {w w' : AW} (h : Fr S w w') (hs : ∀ j k, ((1 ≤ j ∧ j ≤ 7) ∨ (33 ≤ j ∧ j ≤ 199)) → ¬ S j k) : KQ w w' := ⟨h.K hs, by rw [h.2]⟩
theorem FrX.KQ {S : Nat → Nat → Prop} {w w' : AW} (h : FrX S w w') (hs : ∀ j k, ((1 ≤ j ∧ j ≤ 7) ∨ (33 ≤ j ∧ j ≤ 199)) → ¬ S j k) : KQ w w' := ⟨h.K hs, h.2⟩
theorem ple_KQ {w w' : AW} (h : Fr Splan w w') : KQ w w' := h.KQ (by intro j k; simp only [Splan]; omega)
theorem gd_KQ {w w' : AW} (h : FrX Sgd w w') : KQ w w' := h.KQ (by intro j k; simp only [Sgd, Sout]; omega)
theorem day_KQ {w w' : AW} (h : Fr Sday w w') : KQ w w' := h.KQ (by intro j k; simp only [Sday]; omega)
theorem sle_KQ {w w' : AW} (h : Fr Sle w w') : KQ w w' := h.KQ (by intro j k; simp only [Sle, Shand]; omega)
theorem wI0_KQ {w : AW} {k : Nat} {x : Int} : KQ w (wI w 0 k x) := ⟨fun a b z => wI_cell _ _ _ _ (by omega), rfl⟩
theorem TwI.Q {w w' : AW} (h : TwI w) (hk : KQ w w') : TwI w' := h.K hk.1
theorem KQ.TR {w w' : AW} (h : KQ w w') (t : Int) : TR w' t = TR w t := h.1.TR t
theorem KQ.m {w w' : AW} (h : KQ w w') : w'.1 5 0 = w.1 5 0 := h.1 5 0 (by omega)
/-- there is such a town and such a set of errands -/
def gd (m : Int) (T : Nat → Int) (t set : Int) : Prop := (0 ≤ t ∧ t < m) ∧ okS T set
theorem ca_gd {w w' : AW} {T : Nat → Int} (hC : CA w 265 T) (f : FrX Sgd w w') : CA w' 265 T := hC.frX f (by intro a k h1 h2; simp only [Sgd, Sout]; omega)
theorem ch_gd {w w' : AW} {T : Nat → Int} (hC : CH T w) (f : FrX Sgd w w') : CH T w' := hC.frX f (by intro a k h1 h2; simp only [Sgd, Sout]; omega)
theorem rx_day {T : Nat → Int} {fr : Int} {w w' : AW} (h : RX T fr w) (f : Fr Sday w w') : RX T fr w' := h.fr' f (by intro j k; simp only [SHA, Sday]; omega)
/-- the reference lays errands -/
theorem ci_lay' {F : Nat} {t set : Int} {w w1 : AW} {P : Int → AW → Prop} (hF : FB F) (hI : TwI w) (hw : w1 = wI w 0 0 0) (ht : iR t) (hs : iR set) (h1 : gd (w.1 5 0) (TR w t) t set → TK (TR w t) → nB set → (∀ e : Nat, tb set e = true → (e : Int) < TR w t 3) → ∀ w', KQ w w' → RX (TR w t) (-1) w' → w'.1 0 29 = -1 → P 1 w') (h0 : ¬ gd (w.1 5 0) (TR w t) t set → ∀ w', KQ w w' → P 0 w') : CI (m_X9_layErrands F [vR 0, vI t, vI set] w1) P := by
  have k1 : KQ w w1 := by rw [hw]; exact wI0_KQ
  have hI1 := hI.Q k1
  refine ci_layErrands hF hI1.1 (fun t x y => (hI1.2.2 t x y).1) ht hs (fun hz ho w2 f2 hX h29 _ => ?_) (fun hz w2 f2 => ?_)
  · rw [k1.TR] at ho hX
    rw [k1.m] at hz
    have hT := (hI.2.2 t hz.1 hz.2).1
    exact h1 ⟨hz, ho⟩ hT (okS_nB hT ho).1 (okS_nB hT ho).2 w2 (k1.tr (sle_KQ f2)) hX h29
  · rw [k1.TR, k1.m] at hz
    exact h0 hz w2 (k1.tr (sle_KQ f2))
/-- the class lays its plan -/
theorem cr_plan' {F : Nat} {t set : Int} {w : AW} {P : Option Nat → AW → Prop} (hF : FB F) (hI : TwI w) (ht : iR t) (hs : iR set) (h1 : gd (w.1 5 0) (TR w t) t set → TK (TR w t) → nB set → (∀ e : Nat, tb set e = true → (e : Int) < TR w t 3) → ∀ w', KQ w w' → CA w' 265 (TR w t) → CH (TR w t) w' → P (some 265) w') (h0 : ¬ gd (w.1 5 0) (TR w t) t set → P none w) : CR (m_X8_planFor F [vR 34, vI t, vI set] w) P := by
  refine cr_planFor hF hI ht hs (fun hz ho w1 f1 hC hCH => ?_) (fun hz => h0 hz)
  have hT := (hI.2.2 t hz.1 hz.2).1
  exact h1 ⟨hz, ho⟩ hT (okS_nB hT ho).1 (okS_nB hT ho).2 w1 (ple_KQ f1) hC hCH
noncomputable def aAll (m : Int) (T : Nat → Int) (t set p what : Int) : Int := by
  classical
  exact if gd m T t set ∧ (p = -1 ∨ (0 ≤ p ∧ p < T 2)) ∧ (0 ≤ what ∧ what ≤ 4) then (if p = -1 then figS T (gAd T (-1) set) what (T 2).toNat else fig T (gAd T (-1) set) p.toNat what) else -100000
theorem cc_all {F : Nat} {t set p what : Int} {w : AW} {P : Int → AW → Prop} (hF : FB F) (hI : TwI w) (ht : iR t) (hs : iR set) (hpr : iR p) (hwr : iR what) (hp : ∀ w', KQ w w' → P (aAll (w.1 5 0) (TR w t) t set p what) w') : CI (m_X8_all F [vR 34, vI t, vI set, vI p, vI what] w) P := by
  refine wp_X8_all F t set p what w _ (cr_plan' hF hI ht hs (fun hg hT hn hn2 w1 k1 hC hCH => ⟨fun q => (by cases q), fun j hj => ?_⟩) (fun hz => ⟨fun _ => q_i ?_, fun j hj => (by cases hj)⟩))
  · cases hj
    rw [w_id hpr.1 hpr.2]
    have a2 := hT.2.2.1
    have go : (p = -1 ∨ (0 ≤ p ∧ p < TR w t 2)) → TT (k_X8_all_31 F [vR 34, vI t, vI set, vI p, vI what, vR 265] [] w1) (qq 1 (fun r w => ∃ x, r = some (vI x) ∧ P x w)) := by
      intro hpp
      refine wp_X8_all_31 F t set p what 265 tw265 w1 _ (cv_goAllC hF tw265 ap265 hC hCH hT hn (fun w2 f2 hz2 => ?_))
      rw [w_id hpr.1 hpr.2]
      have hC2 := ca_gd hC f2
      have k2 := k1.tr (gd_KQ f2)
      have hpk := hp w2 k2
      unfold aAll at hpk
      refine ⟨fun q => ci_sumOfC hF tw265 hT hC2 hwr (q_i ?_), fun q => ci_figure tw265 hT hC2 (by omega) (by omega) hwr (q_i ?_)⟩
      · by_cases y : 0 ≤ what ∧ what ≤ 4
        · rw [if_pos ⟨hg, hpp, y⟩, if_pos q] at hpk
          rw [if_pos y, figS_ze hz2 _ _ (by omega)]; exact hpk
        · rw [if_neg (fun z => y z.2.2)] at hpk
          rw [if_neg y]; exact hpk
      · by_cases y : 0 ≤ what ∧ what ≤ 4
        · rw [if_pos ⟨hg, hpp, y⟩, if_neg q] at hpk
          rw [if_pos y, fig_ze hz2 (by omega)]; exact hpk
        · rw [if_neg (fun z => y z.2.2)] at hpk
          rw [if_neg y]; exact hpk
    refine ⟨fun q => go (Or.inl q), fun q => ⟨tw265, ci_hasPerson tw265 hC hT hpr (fun z => br1 (go (Or.inr z))) (fun z => br0 (q_i ?_))⟩⟩
    have hpk := hp w1 k1
    unfold aAll at hpk
    rw [if_neg (fun y => by have := y.2.1; omega)] at hpk
    exact hpk
  · have hpk := hp w KQ.rf
    unfold aAll at hpk
    rw [if_neg (fun y => hz y.1)] at hpk
    exact hpk
theorem cr_all {F : Nat} {t set p what : Int} {w : AW} {P : Int → AW → Prop} (hF : FB F) (hI : TwI w) (ht : iR t) (hs : iR set) (hpr : iR p) (hwr : iR what) (hp : ∀ w', KQ w w' → P (aAll (w.1 5 0) (TR w t) t set p what) w') : CI (m_X9_all F [vR 0, vI t, vI set, vI p, vI what] w) P := by
  refine wp_X9_all F t set p what w _ (fun w0 e0 => ci_lay' hF hI e0 ht hs (fun hg hT hn hn2 w1 k1 hX _ => br1 ?_) (fun hz w1 k1 => br0 (q_i ?_)))
  · rw [w_id hpr.1 hpr.2]
    have a2 := hT.2.2.1
    have go : (p = -1 ∨ (0 ≤ p ∧ p < TR w t 2)) → TT (k_X9_all_27 F [vR 0, vI t, vI set, vI p, vI what] [] w1) (qq 1 (fun r w => ∃ x, r = some (vI x) ∧ P x w)) := by
      intro hpp
      refine wp_X9_all_27 F t set p what w1 _ (ci_in hwr (by decide) (by decide) (fun y => br1 ?_) (fun y => br0 (q_i ?_)))
      · refine cv_day hF hT hX (by omega) hn hn2 (fun w2 f2 hz2 => ci_sums hF hT (rx_day hX f2).1 hpp y (q_i ?_))
        have hpk := hp w2 (k1.tr (day_KQ f2))
        unfold aAll at hpk
        rw [if_pos ⟨hg, hpp, y⟩] at hpk
        by_cases q : p = -1
        · rw [if_pos q] at hpk ⊢
          rw [figS_ze hz2 _ _ (by omega)]; exact hpk
        · rw [if_neg q] at hpk ⊢
          rw [fig_ze hz2 (by omega)]; exact hpk
      · have hpk := hp w1 k1
        unfold aAll at hpk
        rw [if_neg (fun z => y z.2.2)] at hpk
        exact hpk
    refine ⟨fun q => go (Or.inl q), fun q => ci_isPerson hX.1 hT hpr (fun z => br1 (go (Or.inr z))) (fun z => br0 (q_i ?_))⟩
    have hpk := hp w1 k1
    unfold aAll at hpk
    rw [if_neg (fun y => by have := y.2.1; omega)] at hpk
    exact hpk
  · have hpk := hp w1 k1
    unfold aAll at hpk
    rw [if_neg (fun y => hz y.1)] at hpk
    exact hpk
