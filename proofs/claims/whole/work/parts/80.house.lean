/-! OTHER HOUSES -/
def hmT (T : Nat → Int) (p v : Int) : Nat → Int := fu T (160 + 3 * p) v
theorem hmT_E {T : Nat → Int} {p v : Int} (h0 : 0 ≤ p) (h1 : p < 8) : RdE T (hmT T p v) ∧ RpE T (hmT T p v) ∧ RhE T (hmT T p v) ∧ RcE T (hmT T p v) ∧ PcE T (hmT T p v) ∧ PkE T (hmT T p v) ∧ ErE T (hmT T p v) ∧ EmE T (hmT T p v) ∧ LwE T (hmT T p v) := ⟨rdE_fu (by omega) (fun r x y => by omega), rpE_fu (fun r x y => by omega), rhE_fu (fun r x y => by omega), rcE_fu (by omega) (fun r x y => by omega), pcE_fu (by omega) (fun r x y => by omega), pkE_fu (fun r x y => by omega), erE_fu (by omega) (fun r x y => by omega), emE_fu (fun r x y => by omega), lwE_fu (by omega)⟩
theorem hmT_H {T : Nat → Int} {p v q : Int} (h0 : 0 ≤ p) (h1 : 0 ≤ q) : pH (hmT T p v) q = if q = p then v else pH T q := by
  by_cases e : q = p
  · rw [if_pos e]; exact fu_eq (by omega)
  · rw [if_neg e]; exact fu_ne (by omega)
theorem TK_hmT {T : Nat → Int} {p v : Int} (hT : TK T) (h0 : 0 ≤ p) (h1 : p < 8) (hv : 0 ≤ v ∧ v < T 0) : TK (hmT T p v) := by
  obtain ⟨a, rp, rh, c, pc, pk, er, em, lw⟩ := hmT_E (T := T) (v := v) h0 h1
  have a1 := hT.2.1
  have a2 := hT.2.2.1
  have a3 := hT.2.2.2.1
  refine TK_of hT a c pc er (by rw [show hmT T p v 4 = T 4 from lw]; exact hT.2.2.2.2.1) (fun r x y => by rw [rp r x (by omega)]; exact (hT.road x y).2.2.2.2.1) (fun r x y => by rw [rh r x (by omega)]; exact (hT.road x y).2.2.2.2.2.1) (fun q x y => ?_) (fun q x y => by rw [pk q x (by omega)]; exact (hT.pers x y).2.2) (fun e x y => by rw [em e x (by omega)]; exact (hT.erra x y).2.2.1)
  rw [hmT_H h0 x]
  split
  · exact hv
  · exact (hT.pers x y).1
theorem RX_hmT0 {T : Nat → Int} {p v fr : Int} {w : AW} (hT : TK T) (hX : RX T fr w) (h0 : 0 ≤ p) (h1 : p < 8) : RX (hmT T p v) fr (wI w 23 p.toNat v) := by
  obtain ⟨a, rp, rh, c, pc, pk, er, em, lw⟩ := hmT_E (T := T) (v := v) h0 h1
  have a1 := hT.2.1
  have a2 := hT.2.2.1
  have a3 := hT.2.2.2.1
  have hH := hX.1
  have f : ∀ b k, b ≠ 23 → (wI w 23 p.toNat v).1 b k = w.1 b k := fun b k hb => wI_cell _ _ _ _ hb
  refine ⟨HA_of hT hH a c pc er rp (fun k => f 6 k (by decide)) (fun k _ _ _ => f 0 k (by decide)) (by rw [f 0 26 (by decide), show hmT T p v 4 = T 4 from lw]; exact hH.2.2.2.2.2.1) (fun r x y => ?_) (fun q x y => ⟨?_, ?_⟩) (fun e x y => ?_) (by rw [f 0 29 (by decide)]; exact hH.2.2.2.2.2.2.2.2.2.2), by rw [f 0 28 (by decide)]; exact hX.2.1, FAR_RdE hT a (hX.2.2.fr (S := fun j _ => j = 23) (Fr.rf.wI _ rfl) (by intro k; decide))⟩
  · rw [f 0 29 (by decide), f 0 30 (by decide), rh r x (by omega)]; exact (hH.road x y).2.2.2.2.2
  · rw [f 11 _ (by decide), pk q x (by omega)]; exact (hH.pers x y).2.1
  · rw [hmT_H h0 x, wI_at]
    by_cases e : q = p
    · rw [if_pos e, if_pos ⟨rfl, by rw [e]⟩]
    · rw [if_neg e, if_neg (by omega)]; exact (hH.pers x y).2.2
  · rw [f 24 _ (by decide), em e x (by omega)]; exact (hH.erra x y).2.2.2
theorem CA_hmT0 {T : Nat → Int} {p v : Int} {w : AW} (hT : TK T) (hC : CA w 265 T) (h0 : 0 ≤ p) (h1 : p < 8) : CA (wI w (265 + 7) p.toNat v) 265 (hmT T p v) := by
  obtain ⟨a, rp, rh, c, pc, pk, er, em, lw⟩ := hmT_E (T := T) (v := v) h0 h1
  have a1 := hT.2.1
  have a2 := hT.2.2.1
  have a3 := hT.2.2.2.1
  have f : ∀ b k, b ≠ 265 + 7 → (wI w (265 + 7) p.toNat v).1 b k = w.1 b k := fun b k hb => wI_cell _ _ _ _ hb
  refine CA_of hT hC a c pc er (fun k _ => f 265 k (by omega)) (fun i k hi => f (265 + i) k (by omega)) (by rw [f 265 17 (by omega), show hmT T p v 4 = T 4 from lw]; exact hC.2.2.2.2.1) (fun r x y => ⟨?_, ?_⟩) (fun q x y => ⟨?_, ?_⟩) (fun e x y => ?_)
  · rw [f _ _ (by omega), rp r x (by omega)]; exact (hC.road x y).2.2.2.1
  · rw [f _ _ (by omega), rh r x (by omega)]; exact (hC.road x y).2.2.2.2.1
  · rw [hmT_H h0 x, wI_at]
    by_cases e : q = p
    · rw [if_pos e, if_pos ⟨rfl, by rw [e]⟩]
    · rw [if_neg e, if_neg (by omega)]; exact (hC.pers x y).1
  · rw [f _ _ (by omega), pk q x (by omega)]; exact (hC.pers x y).2.2
  · rw [f _ _ (by omega), em e x (by omega)]; exact (hC.erra x y).2.2.1
theorem hmT_2 {T : Nat → Int} {p a b : Int} : hmT (hmT T p a) p b = hmT T p b := fu_fu
theorem hmT_self {T : Nat → Int} {p : Int} : hmT T p (pH T p) = T := fu_self
noncomputable def nh (T : Nat → Int) (set p v : Int) : Int := fig (hmT T p v) (gAd (hmT T p v) (-1) set) p.toNat 4
theorem nh_b {T : Nat → Int} {set p v : Int} (hT : TK T) (h0 : 0 ≤ p) (h1 : p < T 2) (hv : 0 ≤ v ∧ v < T 0) : -10000 ≤ nh T set p v ∧ nh T set p v ≤ 100000 := by
  have a2 := hT.2.2.1
  have hT' := TK_hmT hT h0 (by omega) hv
  exact fig_b hT' (gAd_b hT') (by rw [(hmT_E (T := T) (v := v) h0 (by omega)).2.2.2.2.1.1]; omega) 4
theorem bkn_hb {T : Nat → Int} {set p : Int} (hT : TK T) (h0 : 0 ≤ p) (h1 : p < T 2) (n : Nat) (hn : (n : Int) < T 0) : -10000 ≤ (bkn (nh T set p) n).2 ∧ (bkn (nh T set p) n).2 ≤ 100000 := by
  obtain ⟨h2, h3, -⟩ := bkn_ok (nh T set p) n
  rw [h2]
  exact nh_b hT h0 h1 (by omega)
abbrev Sgp (j k : Nat) : Prop := Sgd j k ∨ (265 ≤ j ∧ j ≤ 278)
theorem sgp_KQ {w w' : AW} (h : FrX Sgp w w') : KQ w w' := h.KQ (by intro j k; simp only [Sgp, Sgd, Sout]; omega)
theorem ch_sgp {T : Nat → Int} {w w' : AW} (h : CH T w) (f : FrX Sgp w w') : CH T w' := h.frX f (by intro j k h1 h2; simp only [Sgp, Sgd, Sout]; omega)
theorem ci_bestHouse {F : Nat} {T : Nat → Int} {set p : Int} {w : AW} {P : Int → AW → Prop} (hF : FB F) (hT : TK T) (hC : CA w 265 T) (hCH : CH T w) (hn : nB set) (h0 : 0 ≤ p) (h1 : p < T 2) (h : ∀ w', FrX Sgp w w' → P (bkn (nh T set p) (T 0 - 1).toNat).1 w') : CI (m_X8_bestHouse F [vR 34, vR 265, vI set, vI p] w) P := by
  have a0 := hT.1
  have a2 := hT.2.2.1
  refine wp_X8_bestHouse F 265 tw265 set p w _ ?_
  refine tt_for (K := k_X8_bestHouse_9 F) (T 0) (fun i w' l => FrX Sgp w w' ∧ 0 ≤ i ∧ i ≤ T 0 ∧ (∃ h0, (0 ≤ h0 ∧ h0 < T 0) ∧ CA w' 265 (hmT T p h0)) ∧ ∃ b m v, l = [vR 34, vR 265, vI set, vI p, vI b, vI m, vI i, v] ∧ ((i = 0 ∧ b = -1 ∧ m = 0) ∨ (1 ≤ i ∧ b = (bkn (nh T set p) (i - 1).toNat).1 ∧ m = (bkn (nh T set p) (i - 1).toNat).2))) ?_ F 0 _ w (by omega) ⟨FrX.rf, by omega, by omega, ⟨pH T p, (hT.pers h0 h1).1, by rw [hmT_self]; exact hC⟩, -1, 0, vU, rfl, Or.inl ⟨rfl, rfl, rfl⟩⟩
  rintro n i l w2 ⟨f2, hi0, hi1, ⟨hm, hmr, hC2⟩, b, m, v, rfl, hbm⟩ hk
  have hTm := TK_hmT (v := hm) hT h0 (by omega) hmr
  rw [ks_X8_bestHouse_9]
  refine wp_X8_bestHouse_9 F _ 265 tw265 set p b m i v w2 _ ?_
  rw [hC2.1, (hmT_E (T := T) (v := hm) h0 (by omega)).1.1, w_id (x := i) (by omega) (by omega), w_id (x := T 0) (by omega) (by omega)]
  refine ⟨fun q => ⟨⟨h0, by omega⟩, fun w3 e3 => ?_⟩, fun q => q_i ?_⟩
  · have hT3 := TK_hmT (v := i) hT h0 (by omega) ⟨hi0, q⟩
    have hC3 : CA w3 265 (hmT T p i) := by
      rw [e3, ← hmT_2 (T := T) (p := p) (a := hm) (b := i)]
      exact CA_hmT0 hTm hC2 h0 (by omega)
    have f3 : FrX Sgp w w3 := by rw [e3]; exact f2.wI _ (Or.inr (by omega))
    obtain ⟨a, rp, rh, c, pc, pk, er, em, lw⟩ := hmT_E (T := T) (v := i) h0 (show p < 8 by omega)
    refine ci_netOf hF hT3 hC3 (CH_E hT a rp c lw (ch_sgp hCH f3)) hn h0 (by rw [pc.1]; exact h1) (fun w4 f4 => ?_)
    have f4' : FrX Sgp w w4 := f3.tr (f4.wk (by intro j k h; exact Or.inl h))
    have hC4 := ca_gd hC3 f4
    have hb2 := nh_b (set := set) (v := i) hT h0 h1 ⟨hi0, q⟩
    show _ ∧ _
    rcases hbm with ⟨rfl, rfl, rfl⟩ | ⟨hi, rfl, rfl⟩
    · refine ⟨fun _ => wp_X8_bestHouse_48 F _ 265 tw265 set p _ _ 0 _ w4 _ (wp_X8_bestHouse_56 F _ 265 tw265 set p _ _ 0 _ w4 _ (hk _ _ ⟨f4', by omega, by omega, ⟨0, by omega, hC4⟩, _, _, _, rfl, Or.inr ⟨by omega, rfl, rfl⟩⟩ q)), fun z => absurd (by decide) z⟩
    · have hb := bkn_hb (set := set) hT h0 h1 (i - 1).toNat (by omega)
      obtain ⟨-, hr, -⟩ := bkn_ok (nh T set p) (i - 1).toNat
      have st := bkn_step (nh T set p) hi
      have en : fig (hmT T p i) (gAd (hmT T p i) (-1) set) p.toNat 4 = nh T set p i := rfl
      rw [en, w_id (x := (bkn (nh T set p) (i - 1).toNat).1) (by omega) (by omega), w_id (x := nh T set p i) (by omega) (by omega), w_id (x := (bkn (nh T set p) (i - 1).toNat).2) (by omega) (by omega)]
      refine ⟨fun z => by omega, fun _ => ⟨fun q2 => wp_X8_bestHouse_48 F _ 265 tw265 set p _ _ i _ w4 _ (wp_X8_bestHouse_56 F _ 265 tw265 set p _ _ i _ w4 _ (hk _ _ ⟨f4', by omega, by omega, ⟨i, ⟨hi0, q⟩, hC4⟩, _, _, _, rfl, Or.inr ⟨by omega, ?_, ?_⟩⟩ q)), fun q2 => wp_X8_bestHouse_56 F _ 265 tw265 set p _ _ i _ w4 _ (hk _ _ ⟨f4', by omega, by omega, ⟨i, ⟨hi0, q⟩, hC4⟩, _, _, _, rfl, Or.inr ⟨by omega, ?_, ?_⟩⟩ q)⟩⟩
      · rw [st, if_pos q2]
      · rw [st, if_pos q2]
      · rw [st, if_neg q2]
      · rw [st, if_neg q2]
  · rcases hbm with ⟨z, -⟩ | ⟨-, z, -⟩
    · omega
    · rw [z, show i = T 0 from by omega]; exact h w2 f2
theorem ci_houseOf {F : Nat} {T : Nat → Int} {set p : Int} {w : AW} {P : Int → AW → Prop} (hF : FB F) (hT : TK T) (hX : RX T (-1) w) (hn : nB set) (hn2 : ∀ e : Nat, tb set e = true → (e : Int) < T 3) (h0 : 0 ≤ p) (h1 : p < T 2) (h : ∀ w', KQ w w' → P (bkn (nh T set p) (T 0 - 1).toNat).1 w') : CI (m_X9_houseOf F [vR 0, vI set, vI p] w) P := by
  have a0 := hT.1
  have a2 := hT.2.2.1
  refine wp_X9_houseOf F set p w _ ?_
  refine tt_for (K := k_X9_houseOf_8 F) (T 0) (fun i w' l => KQ w w' ∧ 0 ≤ i ∧ i ≤ T 0 ∧ (∃ h0, (0 ≤ h0 ∧ h0 < T 0) ∧ RX (hmT T p h0) (-1) w') ∧ ∃ b m, l = [vR 0, vI set, vI p, vI b, vI m, vI i] ∧ ((i = 0 ∧ b = -1 ∧ m = 0) ∨ (1 ≤ i ∧ b = (bkn (nh T set p) (i - 1).toNat).1 ∧ m = (bkn (nh T set p) (i - 1).toNat).2))) ?_ F 0 _ w (by omega) ⟨KQ.rf, by omega, by omega, ⟨pH T p, (hT.pers h0 h1).1, by rw [hmT_self]; exact hX⟩, -1, 0, rfl, Or.inl ⟨rfl, rfl, rfl⟩⟩
  rintro n i l w2 ⟨k2, hi0, hi1, ⟨hm, hmr, hX2⟩, b, m, rfl, hbm⟩ hk
  have hTm := TK_hmT (v := hm) hT h0 (by omega) hmr
  have e22 : w2.1 0 22 = T 0 := hX2.1.2.1.trans (hmT_E (T := T) (v := hm) h0 (by omega)).1.1
  rw [ks_X9_houseOf_8]
  refine wp_X9_houseOf_8 F _ set p b m i w2 _ ?_
  rw [e22, w_id (x := i) (by omega) (by omega), w_id (x := T 0) (by omega) (by omega)]
  refine ⟨fun q => ⟨⟨h0, by omega⟩, fun w3 e3 => ?_⟩, fun q => q_i ?_⟩
  · have hT3 := TK_hmT (v := i) hT h0 (by omega) ⟨hi0, q⟩
    have hX3 : RX (hmT T p i) (-1) w3 := by
      rw [e3, ← hmT_2 (T := T) (p := p) (a := hm) (b := i)]
      exact RX_hmT0 hTm hX2 h0 (by omega)
    obtain ⟨a, rp, rh, c, pc, pk, er, em, lw⟩ := hmT_E (T := T) (v := i) h0 (show p < 8 by omega)
    refine cv_day hF hT3 hX3 (by omega) hn (fun e he => by rw [er.1]; exact hn2 e he) (fun w4 f4 hz4 => ?_)
    have hX4 := rx_day hX3 f4
    have k4 : KQ w w4 := k2.tr (KQ.tr (by rw [e3]; exact ⟨fun a b z => wI_cell _ _ _ _ (by omega), rfl⟩) (day_KQ f4))
    have hb2 := nh_b (set := set) (v := i) hT h0 h1 ⟨hi0, q⟩
    have hnet : ∀ (Q : Int → AW → Prop), Q (nh T set p i) w4 → CI (m_X9_net F [vR 0, vI p] w4) Q := fun Q hQ => by
      refine ci_net hT3 hX4.1 h0 (by rw [pc.1]; exact h1) ?_
      rw [fig_ze hz4 (by omega)]
      exact hQ
    rcases hbm with ⟨rfl, rfl, rfl⟩ | ⟨hi, rfl, rfl⟩
    · refine ⟨fun _ => wp_X9_houseOf_45 F _ set p _ _ 0 w4 _ (hnet _ (wp_X9_houseOf_55 F _ set p _ _ 0 w4 _ (hk _ _ ⟨k4, by omega, by omega, ⟨0, by omega, hX4⟩, _, _, rfl, Or.inr ⟨by omega, rfl, rfl⟩⟩ q))), fun z => absurd (by decide) z⟩
    · have hb := bkn_hb (set := set) hT h0 h1 (i - 1).toNat (by omega)
      obtain ⟨-, hr, -⟩ := bkn_ok (nh T set p) (i - 1).toNat
      have st := bkn_step (nh T set p) hi
      rw [w_id (x := (bkn (nh T set p) (i - 1).toNat).1) (by omega) (by omega)]
      refine ⟨fun z => by omega, fun _ => hnet _ ?_⟩
      rw [w_id (x := nh T set p i) (by omega) (by omega), w_id (x := (bkn (nh T set p) (i - 1).toNat).2) (by omega) (by omega)]
      refine ⟨fun q2 => wp_X9_houseOf_45 F _ set p _ _ i w4 _ (hnet _ (wp_X9_houseOf_55 F _ set p _ _ i w4 _ (hk _ _ ⟨k4, by omega, by omega, ⟨i, ⟨hi0, q⟩, hX4⟩, _, _, rfl, Or.inr ⟨by omega, ?_, ?_⟩⟩ q))), fun q2 => wp_X9_houseOf_55 F _ set p _ _ i w4 _ (hk _ _ ⟨k4, by omega, by omega, ⟨i, ⟨hi0, q⟩, hX4⟩, _, _, rfl, Or.inr ⟨by omega, ?_, ?_⟩⟩ q)⟩
      · rw [st, if_pos q2]
      · rw [st, if_pos q2]
      · rw [st, if_neg q2]
      · rw [st, if_neg q2]
  · rcases hbm with ⟨z, -⟩ | ⟨-, z, -⟩
    · omega
    · rw [z, show i = T 0 from by omega]; exact h w2 k2
