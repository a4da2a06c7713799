/-! still, without, whole of errands -/
noncomputable def aStill (m : Int) (T : Nat → Int) (t set p : Int) : Int := by
  classical
  exact if gd m T t set ∧ (0 ≤ p ∧ p < T 2) then fig T (gAd T (-1) (whs T set p)) p.toNat 4 else -100000
theorem ci_netOf {F : Nat} {T : Nat → Int} {set p : Int} {w : AW} {P : Int → AW → Prop} (hF : FB F) (hT : TK T) (hC : CA w 265 T) (hCH : CH T w) (hn : nB set) (hp0 : 0 ≤ p) (hp1 : p < T 2) (h : ∀ w', FrX Sgd w w' → P (fig T (gAd T (-1) set) p.toNat 4) w') : CI (m_X8_netOf F [vR 34, vR 265, vI set, vI p] w) P := by
  have a2 := hT.2.2.1
  refine wp_X8_netOf F 265 tw265 set p w _ (cv_goAllC hF tw265 ap265 hC hCH hT hn (fun w2 f2 hz2 => ci_figure tw265 hT (ca_gd hC f2) hp0 hp1 (by decide) (q_i ?_)))
  rw [if_pos (by decide), fig_ze hz2 (by omega)]
  exact h w2 f2
theorem cc_still {F : Nat} {t set p : Int} {w : AW} {P : Int → AW → Prop} (hF : FB F) (hI : TwI w) (ht : iR t) (hs : iR set) (hpr : iR p) (hp : ∀ w', KQ w w' → P (aStill (w.1 5 0) (TR w t) t set p) w') : CI (m_X8_still F [vR 34, vI t, vI set, vI p] w) P := by
  refine wp_X8_still F t set p w _ (cr_plan' hF hI ht hs (fun hg hT hn hn2 w1 k1 hC hCH => ⟨fun q => (by cases q), fun j hj => ?_⟩) (fun hz => ⟨fun _ => q_i ?_, fun j hj => (by cases hj)⟩))
  · cases hj
    refine ⟨tw265, ci_hasPerson tw265 hC hT hpr (fun z => br1 (ci_errandsOf hF tw265 hT hC hpr (ci_netOf (set := whs (TR w t) set p) hF hT hC hCH (whs_ok hT p hn).1 z.1 z.2 (fun w2 f2 => q_i ?_)))) (fun z => br0 (q_i ?_))⟩
    · have hpk := hp w2 (k1.tr (gd_KQ f2))
      unfold aStill at hpk
      rw [if_pos ⟨hg, z⟩] at hpk
      exact hpk
    · have hpk := hp w1 k1
      unfold aStill at hpk
      rw [if_neg (fun y => z y.2)] at hpk
      exact hpk
  · have hpk := hp w KQ.rf
    unfold aStill at hpk
    rw [if_neg (fun y => hz y.1)] at hpk
    exact hpk
theorem cr_still {F : Nat} {t set p : Int} {w : AW} {P : Int → AW → Prop} (hF : FB F) (hI : TwI w) (ht : iR t) (hs : iR set) (hpr : iR p) (hp : ∀ w', KQ w w' → P (aStill (w.1 5 0) (TR w t) t set p) w') : CI (m_X9_still F [vR 0, vI t, vI set, vI p] w) P := by
  refine wp_X9_still F t set p w _ (fun w0 e0 => ci_lay' hF hI e0 ht hs (fun hg hT hn hn2 w1 k1 hX _ => br1 ?_) (fun hz w1 k1 => br0 (q_i ?_)))
  · have a2 := hT.2.2.1
    refine ci_isPerson hX.1 hT hpr (fun z => br1 (ci_withoutHis hF hT hX.1 hpr hn (cv_day hF hT hX (by omega) (whs_ok hT p hn).1 (whs_le hT hn hn2) (fun w2 f2 hz2 => ci_net hT (rx_day hX f2).1 z.1 z.2 (q_i ?_))))) (fun z => br0 (q_i ?_))
    · have hpk := hp w2 (k1.tr (day_KQ f2))
      unfold aStill at hpk
      rw [if_pos ⟨hg, z⟩] at hpk
      rw [fig_ze hz2 (by omega)]
      exact hpk
    · have hpk := hp w1 k1
      unfold aStill at hpk
      rw [if_neg (fun y => z y.2)] at hpk
      exact hpk
  · have hpk := hp w1 k1
    unfold aStill at hpk
    rw [if_neg (fun y => hz y.1)] at hpk
    exact hpk
noncomputable def wbo (T : Nat → Int) (set p : Int) : Int := figS T (gAd T (-1) set) 0 (T 2).toNat - fig T (gAd T (-1) set) p.toNat 0
noncomputable def aWithout (m : Int) (T : Nat → Int) (t set p : Int) : Int := by
  classical
  exact if gd m T t set ∧ (0 ≤ p ∧ p < T 2) then wbo T (whs T set p) p - wbo T set p else -100000
theorem ci_wbo {F : Nat} {T : Nat → Int} {set p : Int} {w : AW} {P : Int → AW → Prop} (hF : FB F) (hT : TK T) (hC : CA w 265 T) (hCH : CH T w) (hn : nB set) (hp0 : 0 ≤ p) (hp1 : p < T 2) (h : ∀ w', FrX Sgd w w' → P (wbo T set p) w') : CI (m_X8_walkedByOthers F [vR 34, vR 265, vI set, vI p] w) P := by
  have a2 := hT.2.2.1
  refine wp_X8_walkedByOthers F 265 tw265 set p w _ (cv_goAllC hF tw265 ap265 hC hCH hT hn (fun w2 f2 hz2 => ci_sumOfC hF tw265 hT (ca_gd hC f2) (by decide) (ci_figure tw265 hT (ca_gd hC f2) hp0 hp1 (by decide) (q_i ?_))))
  rw [if_pos (by decide), if_pos (by decide), fig_ze hz2 (by omega), figS_ze hz2 _ _ (by omega)]
  exact h w2 f2
theorem cc_without {F : Nat} {t set p : Int} {w : AW} {P : Int → AW → Prop} (hF : FB F) (hI : TwI w) (ht : iR t) (hs : iR set) (hpr : iR p) (hp : ∀ w', KQ w w' → P (aWithout (w.1 5 0) (TR w t) t set p) w') : CI (m_X8_without F [vR 34, vI t, vI set, vI p] w) P := by
  refine wp_X8_without F t set p w _ (cr_plan' hF hI ht hs (fun hg hT hn hn2 w1 k1 hC hCH => ⟨fun q => (by cases q), fun j hj => ?_⟩) (fun hz => ⟨fun _ => q_i ?_, fun j hj => (by cases hj)⟩))
  · cases hj
    refine ⟨tw265, ci_hasPerson tw265 hC hT hpr (fun z => br1 (ci_errandsOf hF tw265 hT hC hpr (ci_wbo (set := whs (TR w t) set p) hF hT hC hCH (whs_ok hT p hn).1 z.1 z.2 (fun w2 f2 => ci_wbo hF hT (ca_gd hC f2) (ch_gd hCH f2) hn z.1 z.2 (fun w3 f3 => q_i ?_))))) (fun z => br0 (q_i ?_))⟩
    · have hpk := hp w3 (k1.tr (gd_KQ (f2.tr f3)))
      unfold aWithout at hpk
      rw [if_pos ⟨hg, z⟩] at hpk
      exact hpk
    · have hpk := hp w1 k1
      unfold aWithout at hpk
      rw [if_neg (fun y => z y.2)] at hpk
      exact hpk
  · have hpk := hp w KQ.rf
    unfold aWithout at hpk
    rw [if_neg (fun y => hz y.1)] at hpk
    exact hpk
theorem cr_without {F : Nat} {t set p : Int} {w : AW} {P : Int → AW → Prop} (hF : FB F) (hI : TwI w) (ht : iR t) (hs : iR set) (hpr : iR p) (hp : ∀ w', KQ w w' → P (aWithout (w.1 5 0) (TR w t) t set p) w') : CI (m_X9_without F [vR 0, vI t, vI set, vI p] w) P := by
  refine wp_X9_without F t set p w _ (fun w0 e0 => ci_lay' hF hI e0 ht hs (fun hg hT hn hn2 w1 k1 hX _ => br1 ?_) (fun hz w1 k1 => br0 (q_i ?_)))
  · have a2 := hT.2.2.1
    refine ci_isPerson hX.1 hT hpr (fun z => br1 (cv_day hF hT hX (by omega) hn hn2 (fun w2 f2 hz2 => ci_sums hF hT (rx_day hX f2).1 (Or.inl rfl) (by decide) ⟨⟨z.1, by omega⟩, fun x ex => ci_withoutHis hF hT (rx_day hX f2).1 hpr hn (cv_day hF hT (rx_day hX f2) (by omega) (whs_ok hT p hn).1 (whs_le hT hn hn2) (fun w3 f3 hz3 => ci_sums hF hT (rx_day (rx_day hX f2) f3).1 (Or.inl rfl) (by decide) ⟨⟨z.1, by omega⟩, q_i ?_⟩))⟩))) (fun z => br0 (q_i ?_))
    · have hpk := hp w3 (k1.tr (day_KQ (f2.tr f3)))
      unfold aWithout at hpk
      rw [if_pos ⟨hg, z⟩] at hpk
      rw [if_pos rfl] at ex ⊢
      have e2 : w2.1 27 p.toNat = fig (TR w t) (gAd (TR w t) (-1) set) p.toNat 0 := (hz2.2.2.1 p.toNat (by omega)).1
      have e3 : w3.1 27 p.toNat = fig (TR w t) (gAd (TR w t) (-1) (whs (TR w t) set p)) p.toNat 0 := (hz3.2.2.1 p.toNat (by omega)).1
      rw [ex, e2, e3, figS_ze hz2 _ _ (by omega), figS_ze hz3 _ _ (by omega)]
      exact hpk
    · have hpk := hp w1 k1
      unfold aWithout at hpk
      rw [if_neg (fun y => z y.2)] at hpk
      exact hpk
  · have hpk := hp w1 k1
    unfold aWithout at hpk
    rw [if_neg (fun y => hz y.1)] at hpk
    exact hpk
/-! idle roads -/
def idl (V : Nat → Int) : Nat → Int
  | 0 => 0
  | n + 1 => if V n = 0 then bOr (idl V n) (bShl 1 n) else idl V n
theorem idl_nB {V : Nat → Int} : ∀ n : Nat, n ≤ 14 → nB (idl V n)
  | 0, _ => ⟨Int.le_refl _, by show (0 : Int) < 2147483648; decide⟩
  | n + 1, hn => by
    have h1 := idl_nB (V := V) n (by omega)
    unfold idl
    by_cases q : V n = 0
    · rw [if_pos q]; exact (bOr_eq h1 (bShl_nB (k := n) (by omega) (by omega))).2
    · rw [if_neg q]; exact h1
theorem idl_congr {V V' : Nat → Int} : ∀ n : Nat, (∀ r : Nat, r < n → V r = V' r) → idl V n = idl V' n
  | 0, _ => rfl
  | n + 1, h => by
    unfold idl
    rw [idl_congr n (fun r hr => h r (by omega)), h n (by omega)]
theorem bOr_0 {x : Int} (hx : nB x) : bOr x 0 = x := by
  have h0 : nB 0 := ⟨Int.le_refl _, by decide⟩
  rw [(bOr_eq hx h0).1]
  show ((x.toNat ||| 0 : Nat) : Int) = x
  rw [Nat.or_zero]
  exact Int.toNat_of_nonneg hx.1
theorem ci_idle {F : Nat} {j : Nat} {T : Nat → Int} {w : AW} {P : Int → AW → Prop} (hF : FB F) (hj : isTw j) (hT : TK T) (hC : CA w j T) (hV : ∀ r : Nat, r < 14 → 0 ≤ w.1 257 r ∧ w.1 257 r ≤ 100000) (h : P (idl (w.1 257) (T 1).toNat) w) : CI (m_X4_idleRoads F [vR 254, vR j] w) P := by
  have a1 := hT.2.1
  refine wp_X4_idleRoads F j hj w _ ?_
  refine tt_for (K := k_X4_idleRoads_4 F) (T 1) (fun i w' l => w' = w ∧ 0 ≤ i ∧ i ≤ T 1 ∧ ∃ s, l = [vR 254, vR j, vI s, vI i] ∧ s = idl (w.1 257) i.toNat) ?_ F 0 _ w (by omega) ⟨rfl, by omega, by omega, 0, rfl, rfl⟩
  rintro n i l w' ⟨rfl, hi0, hi1, s, rfl, hs⟩ hk
  rw [ks_X4_idleRoads_4]
  refine wp_X4_idleRoads_4 F _ j hj s i w' _ ?_
  rw [hC.2.1, w_id (x := i) (by omega) (by omega), w_id (x := T 1) (by omega) (by omega)]
  refine ⟨fun q => ⟨⟨by omega, by omega⟩, ?_⟩, fun q => q_i (by rw [hs, show i = T 1 from by omega]; exact h)⟩
  have hv := hV i.toNat (by omega)
  have e : idl (w'.1 257) (i + 1).toNat = if w'.1 257 i.toNat = 0 then bOr (idl (w'.1 257) i.toNat) (bShl 1 i) else idl (w'.1 257) i.toNat := by
    rw [show (i + 1).toNat = i.toNat + 1 from by omega]
    show (if w'.1 257 i.toNat = 0 then bOr (idl (w'.1 257) i.toNat) (bShl 1 i.toNat) else idl (w'.1 257) i.toNat) = _
    rw [Int.toNat_of_nonneg hi0]
  rw [w_id (x := w'.1 257 i.toNat) (by omega) (by omega)]
  refine ⟨fun z x ex => wp_X4_idleRoads_27 F _ j hj x i w' _ (hk _ _ ⟨rfl, by omega, by omega, x, rfl, ?_⟩ q), fun z => wp_X4_idleRoads_27 F _ j hj s i w' _ (hk _ _ ⟨rfl, by omega, by omega, s, rfl, ?_⟩ q)⟩
  · rw [e, if_pos z, ex, hs]
  · rw [e, if_neg z, hs]
