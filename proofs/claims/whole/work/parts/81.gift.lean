/-! GIFTS -/
def gfT (T : Nat → Int) (r v : Int) : Nat → Int := fu T (10 + 11 * r) v
theorem gfT_E {T : Nat → Int} {r v : Int} (h0 : 0 ≤ r) (h1 : r < 14) : RdE T (gfT T r v) ∧ RpE T (gfT T r v) ∧ RcE T (gfT T r v) ∧ PcE T (gfT T r v) ∧ PhE T (gfT T r v) ∧ PkE T (gfT T r v) ∧ ErE T (gfT T r v) ∧ EmE T (gfT T r v) ∧ LwE T (gfT T r v) := ⟨rdE_fu (by omega) (fun r x y => by omega), rpE_fu (fun r x y => by omega), rcE_fu (by omega) (fun r x y => by omega), pcE_fu (by omega) (fun r x y => by omega), phE_fu (fun r x y => by omega), pkE_fu (fun r x y => by omega), erE_fu (by omega) (fun r x y => by omega), emE_fu (fun r x y => by omega), lwE_fu (by omega)⟩
theorem gfT_H {T : Nat → Int} {r v q : Int} (h0 : 0 ≤ r) (h1 : 0 ≤ q) : rH (gfT T r v) q = if q = r then v else rH T q := by
  by_cases e : q = r
  · rw [if_pos e]; exact fu_eq (by omega)
  · rw [if_neg e]; exact fu_ne (by omega)
theorem TK_gfT {T : Nat → Int} {r v : Int} (hT : TK T) (h0 : 0 ≤ r) (h1 : r < 14) (hv : 0 ≤ v ∧ v < T 2) : TK (gfT T r v) := by
  obtain ⟨a, rp, c, pc, ph, pk, er, em, lw⟩ := gfT_E (T := T) (v := v) h0 h1
  have a1 := hT.2.1
  have a2 := hT.2.2.1
  have a3 := hT.2.2.2.1
  refine TK_of hT a c pc er (by rw [show gfT T r v 4 = T 4 from lw]; exact hT.2.2.2.2.1) (fun r x y => by rw [rp r x (by omega)]; exact (hT.road x y).2.2.2.2.1) (fun q x y => ?_) (fun q x y => by rw [ph q x (by omega)]; exact (hT.pers x y).1) (fun q x y => by rw [pk q x (by omega)]; exact (hT.pers x y).2.2) (fun e x y => by rw [em e x (by omega)]; exact (hT.erra x y).2.2.1)
  rw [gfT_H h0 x]
  split
  · omega
  · exact (hT.road x y).2.2.2.2.2.1
/-- the reference's town in hand if no road was given away -/
def HB (T : Nat → Int) (w : AW) : Prop := HA (wI w 0 29 (-1)) T ∧ w.1 0 28 = -1 ∧ FAR T (-1) w
theorem HB_of {T : Nat → Int} {w : AW} (hX : RX T (-1) w) (h29 : w.1 0 29 = -1) : HB T w := by
  refine ⟨?_, hX.2⟩
  have e : wI w 0 29 (-1) = w := by
    have : (wI w 0 29 (-1)).1 = w.1 := by
      funext a b
      rw [wI_at]
      split
      · next z => rw [z.1, z.2, h29]
      · rfl
    exact Prod.ext this rfl
  rw [e]
  exact hX.1
theorem HB.fr {T : Nat → Int} {w w' : AW} {S : Nat → Nat → Prop} (hT : TK T) (h : HB T w) (f : Fr S w w') (hs : ∀ j k, ((SHA j k ∧ ¬ (j = 0 ∧ (k = 29 ∨ k = 30))) ∨ (j = 0 ∧ k = 28) ∨ j = 22) → ¬ S j k) : HB T w' := by
  obtain ⟨hH, h28, hFA⟩ := h
  refine ⟨?_, by rw [f.I 0 28 (hs 0 28 (by simp))]; exact h28, hFA.fr f (fun k => hs 22 k (by simp))⟩
  have g : ∀ b k, (SHA b k ∧ ¬ (b = 0 ∧ (k = 29 ∨ k = 30))) → (wI w' 0 29 (-1)).1 b k = (wI w 0 29 (-1)).1 b k := fun b k z => by
    rw [wI_at, wI_at, if_neg (by omega), if_neg (by omega)]
    exact f.I b k (hs b k (Or.inl z))
  have hr := hH.2.2.2.2.2.1
  refine HA_of hT hH ⟨rfl, rfl, fun _ _ _ => ⟨rfl, rfl, rfl⟩⟩ ⟨rfl, fun _ _ _ _ _ _ => rfl⟩ ⟨rfl, fun _ _ _ => rfl⟩ ⟨rfl, fun _ _ _ => ⟨rfl, rfl, rfl⟩⟩ (fun _ _ _ => rfl) (fun k => g 6 k (by simp [SHA])) (fun k x y z => g 0 k (by simp [SHA]; omega)) (by rw [g 0 26 (by simp [SHA])]; exact hr) (fun r x y => ?_) (fun q x y => ⟨?_, ?_⟩) (fun e x y => ?_) (Or.inl (wI_same _ _ _ _))
  · rw [wI_same, if_neg (by omega)]
    have := (hH.road x y).2.2.2.2.2
    rw [wI_same, if_neg (by omega)] at this
    exact this
  · rw [g 11 _ (by simp [SHA])]; exact (hH.pers x y).2.1
  · rw [g 23 _ (by simp [SHA])]; exact (hH.pers x y).2.2
  · rw [g 24 _ (by simp [SHA])]; exact (hH.erra x y).2.2.2
theorem HB_gift {T : Nat → Int} {r p : Int} {w : AW} (hT : TK T) (h : HB T w) (h0 : 0 ≤ r) (h1 : r < 14) : RX (gfT T r p) (-1) (wI (wI w 0 29 r) 0 30 p) := by
  obtain ⟨hH, h28, hFA⟩ := h
  obtain ⟨a, rp, c, pc, ph, pk, er, em, lw⟩ := gfT_E (T := T) (v := p) h0 h1
  have a1 := hT.2.1
  have a2 := hT.2.2.1
  have a3 := hT.2.2.2.1
  have g : ∀ b k, ¬ (b = 0 ∧ (k = 29 ∨ k = 30)) → (wI (wI w 0 29 r) 0 30 p).1 b k = (wI w 0 29 (-1)).1 b k := fun b k z => by
    rw [wI_at, wI_at, wI_at, if_neg (by omega), if_neg (by omega), if_neg (by omega)]
  have g29 : (wI (wI w 0 29 r) 0 30 p).1 0 29 = r := by rw [wI_idx _ _ _ _ (by decide), wI_same]
  refine ⟨HA_of hT hH a c pc er rp (fun k => g 6 k (by omega)) (fun k x y z => g 0 k (by omega)) (by rw [g 0 26 (by omega), show gfT T r p 4 = T 4 from lw]; exact hH.2.2.2.2.2.1) (fun q x y => ?_) (fun q x y => ⟨?_, ?_⟩) (fun e x y => ?_) (Or.inr (by rw [g29]; omega)), by rw [g 0 28 (by omega), wI_idx _ _ _ _ (by decide)]; exact h28, ?_⟩
  · rw [g29, wI_same, gfT_H h0 x]
    by_cases e : q = r
    · rw [if_pos e, if_pos e]
    · rw [if_neg e, if_neg e]
      have := (hH.road x y).2.2.2.2.2
      rw [wI_same, if_neg (by omega)] at this
      exact this
  · rw [g 11 _ (by omega), pk q x (by omega)]; exact (hH.pers x y).2.1
  · rw [g 23 _ (by omega), ph q x (by omega)]; exact (hH.pers x y).2.2
  · rw [g 24 _ (by omega), em e x (by omega)]; exact (hH.erra x y).2.2.2
  · refine FAR_RdE hT a (hFA.fr (S := fun j _ => j = 0) ?_ (by intro k; decide))
    have f1 : Fr (fun j _ => j = 0) w (wI w 0 29 r) := Fr.rf.wI _ rfl
    exact f1.wI _ rfl
theorem CA_gfT {T : Nat → Int} {r p : Int} {w : AW} (hT : TK T) (hC : CA w 265 T) (h0 : 0 ≤ r) (h1 : r < 14) : CA (wI w (265 + 5) r.toNat p) 265 (gfT T r p) := by
  obtain ⟨a, rp, c, pc, ph, pk, er, em, lw⟩ := gfT_E (T := T) (v := p) h0 h1
  have a1 := hT.2.1
  have a2 := hT.2.2.1
  have a3 := hT.2.2.2.1
  have f : ∀ b k, b ≠ 265 + 5 → (wI w (265 + 5) r.toNat p).1 b k = w.1 b k := fun b k hb => wI_cell _ _ _ _ hb
  refine CA_of hT hC a c pc er (fun k _ => f 265 k (by omega)) (fun i k hi => f (265 + i) k (by omega)) (by rw [f 265 17 (by omega), show gfT T r p 4 = T 4 from lw]; exact hC.2.2.2.2.1) (fun q x y => ⟨?_, ?_⟩) (fun q x y => ⟨?_, ?_⟩) (fun e x y => ?_)
  · rw [f _ _ (by omega), rp q x (by omega)]; exact (hC.road x y).2.2.2.1
  · rw [gfT_H h0 x, wI_at]
    by_cases e : q = r
    · rw [if_pos e, if_pos ⟨rfl, by rw [e]⟩]
    · rw [if_neg e, if_neg (by omega)]; exact (hC.road x y).2.2.2.2.1
  · rw [f _ _ (by omega), ph q x (by omega)]; exact (hC.pers x y).1
  · rw [f _ _ (by omega), pk q x (by omega)]; exact (hC.pers x y).2.2
  · rw [f _ _ (by omega), em e x (by omega)]; exact (hC.erra x y).2.2.1
noncomputable def ngf (T : Nat → Int) (set p r : Int) : Int := fig (gfT T r p) (gAd (gfT T r p) (-1) set) p.toNat 4
theorem ngf_b {T : Nat → Int} {set p r : Int} (hT : TK T) (h0 : 0 ≤ p) (h1 : p < T 2) (hr : 0 ≤ r ∧ r < 14) : -10000 ≤ ngf T set p r ∧ ngf T set p r ≤ 100000 := by
  have hT' := TK_gfT (v := p) hT hr.1 hr.2 ⟨h0, h1⟩
  exact fig_b hT' (gAd_b hT') (by rw [(gfT_E (T := T) (v := p) hr.1 hr.2).2.2.2.1.1]; omega) 4
noncomputable def n0 (T : Nat → Int) (set p : Int) : Int := fig T (gAd T (-1) set) p.toNat 4
theorem n0_b {T : Nat → Int} {set p : Int} (hT : TK T) (h0 : 0 ≤ p) (h1 : p < T 2) : -10000 ≤ n0 T set p ∧ n0 T set p ≤ 100000 := fig_b hT (gAd_b hT) (by omega) 4
theorem ci_bestGift {F : Nat} {T : Nat → Int} {set p : Int} {w : AW} {P : Int → AW → Prop} (hF : FB F) (hT : TK T) (hC : CA w 265 T) (hCH : CH T w) (hn : nB set) (h0 : 0 ≤ p) (h1 : p < T 2) (h : ∀ w', FrX Sgd w w' → P (bkf (ngf T set p) (n0 T set p) (T 1).toNat).1 w') : CI (m_X8_bestGift F [vR 34, vR 265, vI set, vI p] w) P := by
  have a1 := hT.2.1
  have a2 := hT.2.2.1
  refine wp_X8_bestGift F 265 tw265 set p w _ (ci_netOf hF hT hC hCH hn h0 h1 (fun w1 f1 => ?_))
  refine tt_for (K := k_X8_bestGift_15 F) (T 1) (fun i w' l => FrX Sgd w w' ∧ 0 ≤ i ∧ i ≤ T 1 ∧ ∃ u v, l = [vR 34, vR 265, vI set, vI p, vI (bkf (ngf T set p) (n0 T set p) i.toNat).1, vI (bkf (ngf T set p) (n0 T set p) i.toNat).2, vI i, u, v]) ?_ F 0 _ w1 (by omega) ⟨f1, by omega, by omega, vU, vU, rfl⟩
  rintro n i l w2 ⟨f2, hi0, hi1, u, v, rfl⟩ hk
  have hC2 := ca_gd hC f2
  rw [ks_X8_bestGift_15]
  refine wp_X8_bestGift_15 F _ 265 tw265 set p _ _ i u v w2 _ ?_
  rw [hC2.2.1, w_id (x := i) (by omega) (by omega), w_id (x := T 1) (by omega) (by omega)]
  refine ⟨fun q => ⟨⟨hi0, by omega⟩, fun x ex => ⟨⟨hi0, by omega⟩, fun w3 e3 => ?_⟩⟩, fun q => q_i (by rw [show i = T 1 from by omega]; exact h w2 f2)⟩
  have hT3 := TK_gfT (v := p) hT hi0 (by omega) ⟨h0, h1⟩
  obtain ⟨a, rp, c, pc, ph, pk, er, em, lw⟩ := gfT_E (T := T) (v := p) hi0 (show i < 14 by omega)
  have hC3 : CA w3 265 (gfT T i p) := by rw [e3]; exact CA_gfT hT hC2 hi0 (by omega)
  have hCH3 : CH (gfT T i p) w3 := by
    rw [e3]
    exact CH_E hT a rp c lw ((ch_gd hCH f2).eq (fun j k x y => ⟨wI_cell _ _ _ _ (by omega), rfl⟩))
  refine ci_netOf hF hT3 hC3 hCH3 hn h0 (by rw [pc.1]; exact h1) (fun w4 f4 => ⟨⟨hi0, by omega⟩, fun w5 e5 => ?_⟩)
  have f5 : FrX Sgd w w5 := by
    refine ⟨fun a b z => ?_, by rw [e5]; show w4.2.2.1 = _; rw [f4.2, e3]; exact f2.2⟩
    rw [e5]
    have hL : w4.2.1 a b = w.2.1 a b := by rw [f4.L a b z, e3]; exact f2.L a b z
    refine ⟨?_, hL⟩
    by_cases y : a = 265 + 5 ∧ b = i.toNat
    · rw [y.1, y.2, wI_same, ex]; exact f2.I _ _ (by simp only [Sgd, Sout]; omega)
    · rw [wI_at, if_neg y, f4.I a b z, e3, wI_at, if_neg y]; exact f2.I a b z
  have hb := bkf_b (f := ngf T set p) (A := -10000) (B := 100000) (n0_b (set := set) hT h0 h1) i.toNat (fun k x y => ngf_b (set := set) hT h0 h1 (by omega))
  have hb2 := ngf_b (set := set) (r := i) hT h0 h1 (by omega)
  have st := bkf_step (ngf T set p) (n0 T set p) hi0
  have en : fig (gfT T i p) (gAd (gfT T i p) (-1) set) p.toNat 4 = ngf T set p i := rfl
  rw [en, w_id (x := ngf T set p i) (by omega) (by omega), w_id (x := (bkf (ngf T set p) (n0 T set p) i.toNat).2) (by omega) (by omega)]
  refine ⟨fun q2 => wp_X8_bestGift_74 F _ 265 tw265 set p _ _ i _ _ w5 _ (hk _ _ ⟨f5, by omega, by omega, vI x, vI (ngf T set p i), ?_⟩ q), fun q2 => wp_X8_bestGift_74 F _ 265 tw265 set p _ _ i _ _ w5 _ (hk _ _ ⟨f5, by omega, by omega, vI x, vI (ngf T set p i), ?_⟩ q)⟩
  · rw [st, if_pos q2]
  · rw [st, if_neg q2]
theorem ci_giftTo {F : Nat} {T : Nat → Int} {set p : Int} {w : AW} {P : Int → AW → Prop} (hF : FB F) (hT : TK T) (hX : RX T (-1) w) (h29 : w.1 0 29 = -1) (hn : nB set) (hn2 : ∀ e : Nat, tb set e = true → (e : Int) < T 3) (h0 : 0 ≤ p) (h1 : p < T 2) (h : ∀ w', KQ w w' → P (bkf (ngf T set p) (n0 T set p) (T 1).toNat).1 w') : CI (m_X9_giftTo F [vR 0, vI set, vI p] w) P := by
  have a1 := hT.2.1
  have a2 := hT.2.2.1
  refine wp_X9_giftTo F set p w _ (cv_day hF hT hX (by omega) hn hn2 (fun w1 f1 hz1 => ci_net hT (rx_day hX f1).1 h0 h1 ?_))
  rw [fig_ze hz1 (by omega)]
  have hB1 : HB T w1 := HB_of (rx_day hX f1) (by rw [f1.I 0 29 (by simp only [Sday]; omega)]; exact h29)
  refine tt_for (K := k_X9_giftTo_17 F) (T 1) (fun i w' l => KQ w w' ∧ HB T w' ∧ w'.1 0 23 = T 1 ∧ 0 ≤ i ∧ i ≤ T 1 ∧ l = [vR 0, vI set, vI p, vI (bkf (ngf T set p) (n0 T set p) i.toNat).2, vI (bkf (ngf T set p) (n0 T set p) i.toNat).1, vI i]) ?_ F 0 _ w1 (by omega) ⟨day_KQ f1, hB1, (rx_day hX f1).1.2.2.1, by omega, by omega, rfl⟩
  rintro n i l w2 ⟨k2, hB2, e23, hi0, hi1, rfl⟩ hk
  rw [ks_X9_giftTo_17]
  refine wp_X9_giftTo_17 F _ set p _ _ i w2 _ ?_
  rw [e23, w_id (x := i) (by omega) (by omega), w_id (x := T 1) (by omega) (by omega)]
  refine ⟨fun q w3 e3 w4 e4 => ?_, fun q => q_i (by rw [show i = T 1 from by omega]; exact h w2 k2)⟩
  have hT3 := TK_gfT (v := p) hT hi0 (by omega) ⟨h0, h1⟩
  obtain ⟨a, rp, c, pc, ph, pk, er, em, lw⟩ := gfT_E (T := T) (v := p) hi0 (show i < 14 by omega)
  have hX4 : RX (gfT T i p) (-1) w4 := by rw [e4, e3]; exact HB_gift hT hB2 hi0 (by omega)
  refine cv_day hF hT3 hX4 (by omega) hn (fun e he => by rw [er.1]; exact hn2 e he) (fun w5 f5 hz5 => ?_)
  have hX5 := rx_day hX4 f5
  have f24 : Fr (fun j k => Sday j k ∨ (j = 0 ∧ (k = 29 ∨ k = 30))) w2 w5 := by
    have : Fr (fun j k => Sday j k ∨ (j = 0 ∧ (k = 29 ∨ k = 30))) w2 w4 := by
      rw [e4, e3]
      exact (Fr.rf.wI _ (Or.inr ⟨rfl, Or.inl rfl⟩)).wI _ (Or.inr ⟨rfl, Or.inr rfl⟩)
    exact this.tr (f5.wk (fun j k z => Or.inl z))
  have hB5 : HB T w5 := hB2.fr hT f24 (by intro j k; simp only [SHA, Sday]; omega)
  have k5 : KQ w w5 := k2.tr (f24.KQ (by intro j k; simp only [Sday]; omega))
  have e23' : w5.1 0 23 = T 1 := by rw [f24.I 0 23 (by simp only [Sday]; omega)]; exact e23
  have hnet : ∀ (Q : Int → AW → Prop), Q (ngf T set p i) w5 → CI (m_X9_net F [vR 0, vI p] w5) Q := fun Q hQ => by
    refine ci_net hT3 hX5.1 h0 (by rw [pc.1]; exact h1) ?_
    rw [fig_ze hz5 (by omega)]
    exact hQ
  have hb := bkf_b (f := ngf T set p) (A := -10000) (B := 100000) (n0_b (set := set) hT h0 h1) i.toNat (fun k x y => ngf_b (set := set) hT h0 h1 (by omega))
  have hb2 := ngf_b (set := set) (r := i) hT h0 h1 (by omega)
  have st := bkf_step (ngf T set p) (n0 T set p) hi0
  refine hnet _ ?_
  rw [w_id (x := ngf T set p i) (by omega) (by omega), w_id (x := (bkf (ngf T set p) (n0 T set p) i.toNat).2) (by omega) (by omega)]
  refine ⟨fun q2 => wp_X9_giftTo_58 F _ set p _ _ i _ w5 _ (hnet _ ?_), fun q2 => wp_X9_giftTo_58 F _ set p _ _ i _ w5 _ (hnet _ ?_)⟩
  · rw [w_id (x := ngf T set p i) (by omega) (by omega), w_id (x := (bkf (ngf T set p) (n0 T set p) i.toNat).2) (by omega) (by omega)]
    refine ⟨fun _ => hnet _ (wp_X9_giftTo_78 F _ set p _ _ i _ w5 _ (hk _ _ ⟨k5, hB5, e23', by omega, by omega, ?_⟩ q)), fun z => absurd q2 z⟩
    rw [st, if_pos q2]
  · rw [w_id (x := ngf T set p i) (by omega) (by omega), w_id (x := (bkf (ngf T set p) (n0 T set p) i.toNat).2) (by omega) (by omega)]
    refine ⟨fun z => absurd z q2, fun _ => wp_X9_giftTo_78 F _ set p _ _ i _ w5 _ (hk _ _ ⟨k5, hB5, e23', by omega, by omega, ?_⟩ q)⟩
    rw [st, if_neg q2]
noncomputable def aHouse (m : Int) (T : Nat → Int) (t set p b : Int) : Int := by
  classical
  exact if gd m T t set ∧ (0 ≤ p ∧ p < T 2) then (if b = 0 then (bkn (nh T set p) (T 0 - 1).toNat).1 else (bkf (ngf T set p) (n0 T set p) (T 1).toNat).1) else -1
theorem cc_house {F : Nat} {t set p b : Int} {w : AW} {P : Int → AW → Prop} (hF : FB F) (hI : TwI w) (ht : iR t) (hs : iR set) (hpr : iR p) (hb : iR b) (hp : ∀ w', KQ w w' → P (aHouse (w.1 5 0) (TR w t) t set p b) w') : CI (m_X8_house F [vR 34, vI t, vI set, vI p, vI b] w) P := by
  refine wp_X8_house F t set p b w _ (cr_plan' hF hI ht hs (fun hg hT hn hn2 w1 k1 hC hCH => ⟨fun q => (by cases q), fun j hj => ?_⟩) (fun hz => ⟨fun _ => q_i ?_, fun j hj => (by cases hj)⟩))
  · cases hj
    refine ⟨tw265, ci_hasPerson tw265 hC hT hpr (fun z => br1 ?_) (fun z => br0 (q_i ?_))⟩
    · rw [w_id hb.1 hb.2]
      refine ⟨fun q => ci_bestHouse hF hT hC hCH hn z.1 z.2 (fun w2 f2 => q_i ?_), fun q => ci_bestGift hF hT hC hCH hn z.1 z.2 (fun w2 f2 => q_i ?_)⟩
      · have hpk := hp w2 (k1.tr (sgp_KQ f2))
        unfold aHouse at hpk
        rw [if_pos ⟨hg, z⟩, if_pos q] at hpk
        exact hpk
      · have hpk := hp w2 (k1.tr (gd_KQ f2))
        unfold aHouse at hpk
        rw [if_pos ⟨hg, z⟩, if_neg q] at hpk
        exact hpk
    · have hpk := hp w1 k1
      unfold aHouse at hpk
      rw [if_neg (fun y => z y.2)] at hpk
      exact hpk
  · have hpk := hp w KQ.rf
    unfold aHouse at hpk
    rw [if_neg (fun y => hz y.1)] at hpk
    exact hpk
theorem cr_house {F : Nat} {t set p b : Int} {w : AW} {P : Int → AW → Prop} (hF : FB F) (hI : TwI w) (ht : iR t) (hs : iR set) (hpr : iR p) (hb : iR b) (hp : ∀ w', KQ w w' → P (aHouse (w.1 5 0) (TR w t) t set p b) w') : CI (m_X9_house F [vR 0, vI t, vI set, vI p, vI b] w) P := by
  refine wp_X9_house F t set p b w _ (fun w0 e0 => ci_lay' hF hI e0 ht hs (fun hg hT hn hn2 w1 k1 hX h29 => br1 ?_) (fun hz w1 k1 => br0 (q_i ?_)))
  · refine ci_isPerson hX.1 hT hpr (fun z => br1 ?_) (fun z => br0 (q_i ?_))
    · rw [w_id hb.1 hb.2]
      refine ⟨fun q => ci_houseOf hF hT hX hn hn2 z.1 z.2 (fun w2 k2 => q_i ?_), fun q => ci_giftTo hF hT hX h29 hn hn2 z.1 z.2 (fun w2 k2 => q_i ?_)⟩
      · have hpk := hp w2 (k1.tr k2)
        unfold aHouse at hpk
        rw [if_pos ⟨hg, z⟩, if_pos q] at hpk
        exact hpk
      · have hpk := hp w2 (k1.tr k2)
        unfold aHouse at hpk
        rw [if_pos ⟨hg, z⟩, if_neg q] at hpk
        exact hpk
    · have hpk := hp w1 k1
      unfold aHouse at hpk
      rw [if_neg (fun y => z y.2)] at hpk
      exact hpk
  · have hpk := hp w1 k1
    unfold aHouse at hpk
    rw [if_neg (fun y => hz y.1)] at hpk
    exact hpk
