/-! AN ERRAND AT ANOTHER MINUTE -/
def mnT (T : Nat → Int) (e v : Int) : Nat → Int := fu T (186 + 4 * e) v
theorem mnT_E {T : Nat → Int} {e v : Int} (h0 : 0 ≤ e) (h1 : e < 12) : RdE T (mnT T e v) ∧ RpE T (mnT T e v) ∧ RhE T (mnT T e v) ∧ RcE T (mnT T e v) ∧ PcE T (mnT T e v) ∧ PhE T (mnT T e v) ∧ PkE T (mnT T e v) ∧ ErE T (mnT T e v) ∧ LwE T (mnT T e v) := ⟨rdE_fu (by omega) (fun r x y => by omega), rpE_fu (fun r x y => by omega), rhE_fu (fun r x y => by omega), rcE_fu (by omega) (fun r x y => by omega), pcE_fu (by omega) (fun r x y => by omega), phE_fu (fun r x y => by omega), pkE_fu (fun r x y => by omega), erE_fu (by omega) (fun r x y => by omega), lwE_fu (by omega)⟩
theorem mnT_M {T : Nat → Int} {e v q : Int} (h0 : 0 ≤ e) (h1 : 0 ≤ q) : eM (mnT T e v) q = if q = e then v else eM T q := by
  by_cases z : q = e
  · rw [if_pos z]; exact fu_eq (by omega)
  · rw [if_neg z]; exact fu_ne (by omega)
theorem TK_mnT {T : Nat → Int} {e v : Int} (hT : TK T) (h0 : 0 ≤ e) (h1 : e < 12) (hv : 0 ≤ v ∧ v ≤ 359) : TK (mnT T e v) := by
  obtain ⟨a, rp, rh, c, pc, ph, pk, er, lw⟩ := mnT_E (T := T) (v := v) h0 h1
  have a1 := hT.2.1
  have a2 := hT.2.2.1
  have a3 := hT.2.2.2.1
  refine TK_of hT a c pc er (by rw [show mnT T e v 4 = T 4 from lw]; exact hT.2.2.2.2.1) (fun r x y => by rw [rp r x (by omega)]; exact (hT.road x y).2.2.2.2.1) (fun r x y => by rw [rh r x (by omega)]; exact (hT.road x y).2.2.2.2.2.1) (fun q x y => by rw [ph q x (by omega)]; exact (hT.pers x y).1) (fun q x y => by rw [pk q x (by omega)]; exact (hT.pers x y).2.2) (fun q x y => ?_)
  rw [mnT_M h0 x]
  split
  · exact hv
  · exact (hT.erra x y).2.2.1
theorem RX_mnT {T : Nat → Int} {e v fr : Int} {w : AW} (hT : TK T) (hX : RX T fr w) (h0 : 0 ≤ e) (h1 : e < 12) : RX (mnT T e v) fr (wI w 24 e.toNat v) := by
  obtain ⟨a, rp, rh, c, pc, ph, pk, er, lw⟩ := mnT_E (T := T) (v := v) h0 h1
  have a1 := hT.2.1
  have a2 := hT.2.2.1
  have a3 := hT.2.2.2.1
  have hH := hX.1
  have f : ∀ b k, b ≠ 24 → (wI w 24 e.toNat v).1 b k = w.1 b k := fun b k hb => wI_cell _ _ _ _ hb
  refine ⟨HA_of hT hH a c pc er rp (fun k => f 6 k (by decide)) (fun k _ _ _ => f 0 k (by decide)) (by rw [f 0 26 (by decide), show mnT T e v 4 = T 4 from lw]; exact hH.2.2.2.2.2.1) (fun r x y => ?_) (fun q x y => ⟨?_, ?_⟩) (fun q x y => ?_) (by rw [f 0 29 (by decide)]; exact hH.2.2.2.2.2.2.2.2.2.2), by rw [f 0 28 (by decide)]; exact hX.2.1, FAR_RdE hT a (hX.2.2.fr (S := fun j _ => j = 24) (Fr.rf.wI _ rfl) (by intro k; decide))⟩
  · rw [f 0 29 (by decide), f 0 30 (by decide), rh r x (by omega)]; exact (hH.road x y).2.2.2.2.2
  · rw [f 11 _ (by decide), pk q x (by omega)]; exact (hH.pers x y).2.1
  · rw [f 23 _ (by decide), ph q x (by omega)]; exact (hH.pers x y).2.2
  · rw [mnT_M h0 x, wI_at]
    by_cases z : q = e
    · rw [if_pos z, if_pos ⟨rfl, by rw [z]⟩]
    · rw [if_neg z, if_neg (by omega)]; exact (hH.erra x y).2.2.2
theorem CA_mnT {T : Nat → Int} {e v : Int} {w : AW} (hT : TK T) (hC : CA w 265 T) (h0 : 0 ≤ e) (h1 : e < 12) : CA (wI w (265 + 12) e.toNat v) 265 (mnT T e v) := by
  obtain ⟨a, rp, rh, c, pc, ph, pk, er, lw⟩ := mnT_E (T := T) (v := v) h0 h1
  have a1 := hT.2.1
  have a2 := hT.2.2.1
  have a3 := hT.2.2.2.1
  have f : ∀ b k, b ≠ 265 + 12 → (wI w (265 + 12) e.toNat v).1 b k = w.1 b k := fun b k hb => wI_cell _ _ _ _ hb
  refine CA_of hT hC a c pc er (fun k _ => f 265 k (by omega)) (fun i k hi => f (265 + i) k (by omega)) (by rw [f 265 17 (by omega), show mnT T e v 4 = T 4 from lw]; exact hC.2.2.2.2.1) (fun r x y => ⟨?_, ?_⟩) (fun q x y => ⟨?_, ?_⟩) (fun q x y => ?_)
  · rw [f _ _ (by omega), rp r x (by omega)]; exact (hC.road x y).2.2.2.1
  · rw [f _ _ (by omega), rh r x (by omega)]; exact (hC.road x y).2.2.2.2.1
  · rw [f _ _ (by omega), ph q x (by omega)]; exact (hC.pers x y).1
  · rw [f _ _ (by omega), pk q x (by omega)]; exact (hC.pers x y).2.2
  · rw [mnT_M h0 x, wI_at]
    by_cases z : q = e
    · rw [if_pos z, if_pos ⟨rfl, by rw [z]⟩]
    · rw [if_neg z, if_neg (by omega)]; exact (hC.erra x y).2.2.1
noncomputable def aMoved (m : Int) (T : Nat → Int) (t set e v : Int) : Int := by
  classical
  exact if gd m T t set ∧ (0 ≤ e ∧ e < T 3) ∧ tb set e.toNat = true ∧ (0 ≤ v ∧ v ≤ 359) then fig (mnT T e v) (gAd (mnT T e v) (-1) set) (eW T e).toNat 4 else -100000
theorem cc_moved {F : Nat} {t set e v : Int} {w : AW} {P : Int → AW → Prop} (hF : FB F) (hI : TwI w) (ht : iR t) (hs : iR set) (her : iR e) (hvr : iR v) (hp : ∀ w', KQ w w' → P (aMoved (w.1 5 0) (TR w t) t set e v) w') : CI (m_X8_moved F [vR 34, vI t, vI set, vI e, vI v] w) P := by
  refine wp_X8_moved F t set e v w _ (cr_plan' hF hI ht hs (fun hg hT hn hn2 w1 k1 hC hCH => ⟨fun q => (by cases q), fun j hj => ?_⟩) (fun hz => ⟨fun _ => q_i ?_, fun j hj => (by cases hj)⟩))
  · cases hj
    have a3 := hT.2.2.2.1
    have no : ¬ ((0 ≤ e ∧ e < TR w t 3) ∧ tb set e.toNat = true ∧ (0 ≤ v ∧ v ≤ 359)) → P (-100000) w1 := fun hk => by
      have hpk := hp w1 k1
      unfold aMoved at hpk
      rw [if_neg (fun y => hk y.2)] at hpk
      exact hpk
    refine ⟨tw265, ci_hasErrand tw265 hC hT her (fun z => br1 ?_) (fun z => br0 (q_i (no (fun y => z y.1))))⟩
    have htst := tst0 hn z.1 (show e < 31 by omega)
    rw [w_id hvr.1 hvr.2]
    refine ⟨fun q => q_i (no (fun y => by rw [htst.mp q] at y; cases y.2.1)), fun q => ⟨fun q2 => q_i (no (by omega)), fun q2 => ⟨fun q3 => q_i (no (by omega)), fun q3 => ⟨⟨z.1, by omega⟩, fun w2 e2 => ⟨⟨z.1, by omega⟩, ?_⟩⟩⟩⟩⟩
    have hT2 := TK_mnT (v := v) hT z.1 (show e < 12 by omega) (by omega)
    obtain ⟨a, rp, rh, c, pc, ph, pk, er, lw⟩ := mnT_E (T := TR w t) (v := v) z.1 (show e < 12 by omega)
    have hC2 : CA w2 265 (mnT (TR w t) e v) := by rw [e2]; exact CA_mnT hT hC z.1 (by omega)
    have hCH2 : CH (mnT (TR w t) e v) w2 := by
      rw [e2]
      exact CH_E hT a rp c lw (hCH.eq (fun j k x y => ⟨wI_cell _ _ _ _ (by omega), rfl⟩))
    have ew : w2.1 (265 + 10) e.toNat = eW (TR w t) e := (hC2.erra z.1 (by rw [er.1]; exact z.2)).1.trans (er.2 e z.1 (by omega)).1
    have hw := (hT.erra z.1 z.2).1
    rw [ew]
    refine ci_netOf hF hT2 hC2 hCH2 hn hw.1 (by rw [pc.1]; exact hw.2) (fun w3 f3 => q_i ?_)
    have hpk := hp w3 (k1.tr (KQ.tr (by rw [e2]; exact ⟨fun a b z => wI_cell _ _ _ _ (by omega), rfl⟩) (gd_KQ f3)))
    unfold aMoved at hpk
    rw [if_pos ⟨hg, z, by
      cases h : tb set e.toNat with
      | true => rfl
      | false => exact absurd (htst.mpr h) q, by omega⟩] at hpk
    exact hpk
  · have hpk := hp w KQ.rf
    unfold aMoved at hpk
    rw [if_neg (fun y => hz y.1)] at hpk
    exact hpk
theorem cr_moved {F : Nat} {t set e v : Int} {w : AW} {P : Int → AW → Prop} (hF : FB F) (hI : TwI w) (ht : iR t) (hs : iR set) (her : iR e) (hvr : iR v) (hp : ∀ w', KQ w w' → P (aMoved (w.1 5 0) (TR w t) t set e v) w') : CI (m_X9_moved F [vR 0, vI t, vI set, vI e, vI v] w) P := by
  refine wp_X9_moved F t set e v w _ (fun w0 e0 => ci_lay' hF hI e0 ht hs (fun hg hT hn hn2 w1 k1 hX h29 => br1 ?_) (fun hz w1 k1 => br0 (q_i ?_)))
  · have a3 := hT.2.2.2.1
    have e25 : w1.1 0 25 = TR w t 3 := hX.1.2.2.2.2.1
    have no : ¬ ((0 ≤ e ∧ e < TR w t 3) ∧ tb set e.toNat = true ∧ (0 ≤ v ∧ v ≤ 359)) → P (-100000) w1 := fun hk => by
      have hpk := hp w1 k1
      unfold aMoved at hpk
      rw [if_neg (fun y => hk y.2)] at hpk
      exact hpk
    rw [e25]
    refine ci_in her (by decide) ⟨by omega, by omega⟩ (fun z => br1 (ci_has hn z.1 (by omega) (fun y => br1 (ci_in hvr (by decide) (by decide) (fun x => br1 ⟨⟨z.1, by omega⟩, fun w2 e2 => ?_⟩) (fun x => br0 (q_i (no (fun u => x u.2.2)))))) (fun y => br0 (q_i (no (fun u => by rw [y] at u; cases u.2.1)))))) (fun z => br0 (q_i (no (fun u => z (by omega)))))
    have hz : 0 ≤ e ∧ e < TR w t 3 := by omega
    have hT2 := TK_mnT (v := v) hT hz.1 (show e < 12 by omega) x
    obtain ⟨a, rp, rh, c, pc, ph, pk, er, lw⟩ := mnT_E (T := TR w t) (v := v) hz.1 (show e < 12 by omega)
    have hX2 : RX (mnT (TR w t) e v) (-1) w2 := by rw [e2]; exact RX_mnT hT hX hz.1 (by omega)
    have hw := (hT.erra hz.1 hz.2).1
    have a2 := hT.2.2.1
    refine cv_day hF hT2 hX2 (by omega) hn (fun k hk => by rw [er.1]; exact hn2 k hk) (fun w3 f3 hz3 => ci_eW (rx_day hX2 f3).1 hT2 hz.1 (by rw [er.1]; exact hz.2) ?_)
    rw [(er.2 e hz.1 (by omega)).1]
    refine ci_net hT2 (rx_day hX2 f3).1 hw.1 (by rw [pc.1]; exact hw.2) (q_i ?_)
    rw [fig_ze hz3 (by omega)]
    have hpk := hp w3 (k1.tr (KQ.tr (by rw [e2]; exact ⟨fun a b z => wI_cell _ _ _ _ (by omega), rfl⟩) (day_KQ f3)))
    unfold aMoved at hpk
    rw [if_pos ⟨hg, hz, y, x⟩] at hpk
    exact hpk
  · have hpk := hp w1 k1
    unfold aMoved at hpk
    rw [if_neg (fun y => hz y.1)] at hpk
    exact hpk
