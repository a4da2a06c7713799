/-! REGRET, SOONER -/
theorem bkn_step (f : Int → Int) {i : Int} (hi : 1 ≤ i) : bkn f (i + 1 - 1).toNat = if f i < (bkn f (i - 1).toNat).2 then (i, f i) else bkn f (i - 1).toNat := by
  obtain ⟨n, hn⟩ : ∃ n : Nat, i = (n : Int) + 1 := ⟨(i - 1).toNat, by omega⟩
  subst hn
  rw [show ((n : Int) + 1 + 1 - 1).toNat = n + 1 from by omega, show ((n : Int) + 1 - 1).toNat = n from by omega]
  rfl
theorem bkn_nb {T : Nat → Int} {set p : Int} (hT : TK T) (h0 : 0 ≤ p) (h1 : p < T 2) (n : Nat) (hn : n ≤ 2) : -10000 ≤ (bkn (nk T set p) n).2 ∧ (bkn (nk T set p) n).2 ≤ 100000 := by
  obtain ⟨h2, h3, -⟩ := bkn_ok (nk T set p) n
  rw [h2]
  exact nk_b hT h0 h1 (by omega)
theorem ci_regretOf {F : Nat} {T : Nat → Int} {set p : Int} {w : AW} {P : Int → AW → Prop} (hF : FB F) (hT : TK T) (hX : RX T (-1) w) (hn : nB set) (hn2 : ∀ e : Nat, tb set e = true → (e : Int) < T 3) (h0 : 0 ≤ p) (h1 : p < T 2) (h : ∀ w', Fr Sday w w' → P (bkn (nk T set p) 2).1 w') : CI (m_X9_regretOf F [vR 0, vI set, vI p] w) P := by
  refine wp_X9_regretOf F set p w _ (ci_netAs hF hT hX hn hn2 h0 h1 (by omega) (fun w1 f1 => ?_))
  refine tt_for (K := k_X9_regretOf_14 F) 3 (fun i w' l => Fr Sday w w' ∧ 1 ≤ i ∧ i ≤ 3 ∧ ∃ v, l = [vR 0, vI set, vI p, vI (bkn (nk T set p) (i - 1).toNat).1, vI (bkn (nk T set p) (i - 1).toNat).2, vI i, v]) ?_ F 1 _ w1 (by omega) ⟨f1, by omega, by omega, vU, rfl⟩
  rintro n i l w2 ⟨f2, hi0, hi1, v, rfl⟩ hk
  rw [ks_X9_regretOf_14]
  refine wp_X9_regretOf_14 F _ set p _ _ i v w2 _ ?_
  rw [w_id (x := i) (by omega) (by omega)]
  refine ⟨fun q => q_i ?_, fun q => ci_netAs hF hT (rx_day hX f2) hn hn2 h0 h1 (by omega) (fun w3 f3 => ?_)⟩
  · have : i = 3 := by omega
    subst this
    exact h w2 f2
  · have hb := bkn_nb (set := set) hT h0 h1 (i - 1).toNat (by omega)
    have hb2 := nk_b (set := set) (k := i) hT h0 h1 (by omega)
    have st := bkn_step (nk T set p) hi0
    rw [w_id (x := nk T set p i) (by omega) (by omega), w_id (x := (bkn (nk T set p) (i - 1).toNat).2) (by omega) (by omega)]
    refine ⟨fun q2 => wp_X9_regretOf_43 F _ set p _ _ i _ i w3 _ ?_, fun q2 => wp_X9_regretOf_43 F _ set p _ _ i _ _ w3 _ ?_⟩
    · rw [w_id (x := nk T set p i) (by omega) (by omega), w_id (x := (bkn (nk T set p) (i - 1).toNat).2) (by omega) (by omega)]
      refine ⟨fun q3 => wp_X9_regretOf_58 F _ set p i _ i _ _ w3 _ (hk _ _ ⟨f2.tr f3, by omega, by omega, vI (nk T set p i), ?_⟩ (by omega)), fun q3 => absurd q2 q3⟩
      rw [st, if_pos q2]
    · rw [w_id (x := nk T set p i) (by omega) (by omega), w_id (x := (bkn (nk T set p) (i - 1).toNat).2) (by omega) (by omega)]
      refine ⟨fun q3 => absurd q3 q2, fun q3 => wp_X9_regretOf_58 F _ set p _ _ i _ _ w3 _ (hk _ _ ⟨f2.tr f3, by omega, by omega, vI (nk T set p i), ?_⟩ (by omega))⟩
      rw [st, if_neg q2]
theorem ci_bestKind {F : Nat} {T : Nat → Int} {set p : Int} {w : AW} {P : Int → AW → Prop} (hF : FB F) (hT : TK T) (hC : CA w 265 T) (hCH : CH T w) (hn : nB set) (h0 : 0 ≤ p) (h1 : p < T 2) (h : ∀ w', FrX Sgd w w' → P (bkn (nk T set p) 2).1 w') : CI (m_X8_bestKind F [vR 34, vR 265, vI set, vI p] w) P := by
  refine wp_X8_bestKind F 265 tw265 set p w _ (ci_netByKind hF hT hC hCH hn h0 h1 (by omega) (fun w1 f1 => ?_))
  refine tt_for (K := k_X8_bestKind_16 F) 3 (fun i w' l => FrX Sgd w w' ∧ 1 ≤ i ∧ i ≤ 3 ∧ ∃ v, l = [vR 34, vR 265, vI set, vI p, vI (bkn (nk T set p) (i - 1).toNat).1, vI (bkn (nk T set p) (i - 1).toNat).2, vI i, v]) ?_ F 1 _ w1 (by omega) ⟨f1, by omega, by omega, vU, rfl⟩
  rintro n i l w2 ⟨f2, hi0, hi1, v, rfl⟩ hk
  rw [ks_X8_bestKind_16]
  refine wp_X8_bestKind_16 F _ 265 tw265 set p _ _ i v w2 _ ?_
  rw [w_id (x := i) (by omega) (by omega)]
  refine ⟨fun q => ci_netByKind hF hT (ca_gd hC f2) (ch_gd hCH f2) hn h0 h1 (by omega) (fun w3 f3 => ?_), fun q => q_i ?_⟩
  · have hb := bkn_nb (set := set) hT h0 h1 (i - 1).toNat (by omega)
    have hb2 := nk_b (set := set) (k := i) hT h0 h1 (by omega)
    have st := bkn_step (nk T set p) hi0
    rw [w_id (x := nk T set p i) (by omega) (by omega), w_id (x := (bkn (nk T set p) (i - 1).toNat).2) (by omega) (by omega)]
    refine ⟨fun q2 => wp_X8_bestKind_48 F _ 265 tw265 set p _ _ i _ w3 _ (hk _ _ ⟨f2.tr f3, by omega, by omega, vI (nk T set p i), ?_⟩ (by omega)), fun q2 => wp_X8_bestKind_48 F _ 265 tw265 set p _ _ i _ w3 _ (hk _ _ ⟨f2.tr f3, by omega, by omega, vI (nk T set p i), ?_⟩ (by omega))⟩
    · rw [st, if_pos q2]
    · rw [st, if_neg q2]
  · have : i = 3 := by omega
    subst this
    exact h w2 f2
noncomputable def aRegret (m : Int) (T : Nat → Int) (t set p : Int) : Int := by
  classical
  exact if gd m T t set ∧ (0 ≤ p ∧ p < T 2) then (bkn (nk T set p) 2).1 else -1
theorem cc_regret {F : Nat} {t set p : Int} {w : AW} {P : Int → AW → Prop} (hF : FB F) (hI : TwI w) (ht : iR t) (hs : iR set) (hpr : iR p) (hp : ∀ w', KQ w w' → P (aRegret (w.1 5 0) (TR w t) t set p) w') : CI (m_X8_regret F [vR 34, vI t, vI set, vI p] w) P := by
  refine wp_X8_regret F t set p w _ (cr_plan' hF hI ht hs (fun hg hT hn hn2 w1 k1 hC hCH => ⟨fun q => (by cases q), fun j hj => ?_⟩) (fun hz => ⟨fun _ => q_i ?_, fun j hj => (by cases hj)⟩))
  · cases hj
    refine ⟨tw265, ci_hasPerson tw265 hC hT hpr (fun z => br1 (ci_bestKind hF hT hC hCH hn z.1 z.2 (fun w2 f2 => q_i ?_))) (fun z => br0 (q_i ?_))⟩
    · have hpk := hp w2 (k1.tr (gd_KQ f2))
      unfold aRegret at hpk
      rw [if_pos ⟨hg, z⟩] at hpk
      exact hpk
    · have hpk := hp w1 k1
      unfold aRegret at hpk
      rw [if_neg (fun y => z y.2)] at hpk
      exact hpk
  · have hpk := hp w KQ.rf
    unfold aRegret at hpk
    rw [if_neg (fun y => hz y.1)] at hpk
    exact hpk
theorem cr_regret {F : Nat} {t set p : Int} {w : AW} {P : Int → AW → Prop} (hF : FB F) (hI : TwI w) (ht : iR t) (hs : iR set) (hpr : iR p) (hp : ∀ w', KQ w w' → P (aRegret (w.1 5 0) (TR w t) t set p) w') : CI (m_X9_regret F [vR 0, vI t, vI set, vI p] w) P := by
  refine wp_X9_regret F t set p w _ (fun w0 e0 => ci_lay' hF hI e0 ht hs (fun hg hT hn hn2 w1 k1 hX _ => br1 ?_) (fun hz w1 k1 => br0 (q_i ?_)))
  · refine ci_isPerson hX.1 hT hpr (fun z => br1 (ci_regretOf hF hT hX hn hn2 z.1 z.2 (fun w2 f2 => q_i ?_))) (fun z => br0 (q_i ?_))
    · have hpk := hp w2 (k1.tr (day_KQ f2))
      unfold aRegret at hpk
      rw [if_pos ⟨hg, z⟩] at hpk
      exact hpk
    · have hpk := hp w1 k1
      unfold aRegret at hpk
      rw [if_neg (fun x => z x.2)] at hpk
      exact hpk
  · have hpk := hp w1 k1
    unfold aRegret at hpk
    rw [if_neg (fun y => hz y.1)] at hpk
    exact hpk
/-- another kind would cost less -/
def sn (T : Nat → Int) (set p : Int) : Prop := ∃ k : Int, (0 ≤ k ∧ k ≤ 2) ∧ nk T set p k < nk T set p (pK T p)
theorem ci_isSooner {F : Nat} {T : Nat → Int} {set p : Int} {w : AW} {P : Int → AW → Prop} (hF : FB F) (hT : TK T) (hX : RX T (-1) w) (hn : nB set) (hn2 : ∀ e : Nat, tb set e = true → (e : Int) < T 3) (h0 : 0 ≤ p) (h1 : p < T 2) (hy : sn T set p → ∀ w', Fr Sday w w' → P 1 w') (hno : ¬ sn T set p → ∀ w', Fr Sday w w' → P 0 w') : CI (m_X9_isSooner F [vR 0, vI set, vI p] w) P := by
  have a2 := hT.2.2.1
  have hk := (hT.pers h0 h1).2.2
  obtain ⟨b1, b2, b3⟩ := bkn_ok (nk T set p) 2
  refine wp_X9_isSooner F set p w _ ⟨⟨h0, by omega⟩, ?_⟩
  rw [(hX.1.pers h0 h1).2.1]
  refine ci_netAs hF hT hX hn hn2 h0 h1 hk (fun w1 f1 => ci_regretOf hF hT (rx_day hX f1) hn hn2 h0 h1 (fun w2 f2 => ci_netAs hF hT (rx_day hX (f1.tr f2)) hn hn2 h0 h1 (by omega) (fun w3 f3 => ?_)))
  have c1 := nk_b (set := set) (k := pK T p) hT h0 h1 hk
  have c2 := nk_b (set := set) (k := (bkn (nk T set p) 2).1) hT h0 h1 (by omega)
  rw [w_id (x := nk T set p (pK T p)) (by omega) (by omega), w_id (x := nk T set p (bkn (nk T set p) 2).1) (by omega) (by omega)]
  refine ⟨fun q => q_z1 (hy ⟨_, by omega, q⟩ w3 ((f1.tr f2).tr f3)), fun q => q_z0 (hno ?_ w3 ((f1.tr f2).tr f3))⟩
  rintro ⟨k, hk', hlt⟩
  have := b3 k hk'.1 (by omega)
  omega
theorem ci_wouldChange {F : Nat} {T : Nat → Int} {set p : Int} {w : AW} {P : Int → AW → Prop} (hF : FB F) (hT : TK T) (hC : CA w 265 T) (hCH : CH T w) (hn : nB set) (h0 : 0 ≤ p) (h1 : p < T 2) (hy : sn T set p → ∀ w', FrX Sgd w w' → P 1 w') (hno : ¬ sn T set p → ∀ w', FrX Sgd w w' → P 0 w') : CI (m_X8_wouldChange F [vR 34, vR 265, vI set, vI p] w) P := by
  have a2 := hT.2.2.1
  have a3 := hT.2.2.2.1
  have hk := (hT.pers h0 h1).2.2
  obtain ⟨e1, e2⟩ := eof_ok (T := T) (p := p) (T 3).toNat (by omega)
  have hb := bAnd_eq hn e1
  refine wp_X8_wouldChange F 265 tw265 set p w _ (ci_errandsOf hF tw265 hT hC ⟨by omega, by omega⟩ ?_)
  rw [w_id (x := bAnd set (eof T p (T 3).toNat)) (by have := hb.2.1; omega) (by have := hb.2.2; omega), (hC.pers h0 h1).2.2]
  refine ⟨fun q => q_z0 (hno ?_ w FrX.rf), fun _ => ⟨⟨h0, by omega⟩, ci_netByKind hF hT hC hCH hn h0 h1 hk (fun w1 f1 => ?_)⟩⟩
  · rintro ⟨k, hk', hlt⟩
    have no : ∀ e : Nat, (e : Int) < T 3 → tb set e = true → eW T e ≠ p := fun e he ht hw => by
      have hz : tb (bAnd set (eof T p (T 3).toNat)) e = true := by
        rw [tb_and hn e1, e2, ht]
        have : e < (T 3).toNat ∧ eW T e = p := ⟨by omega, hw⟩
        simp [this]
      rw [q, tb_0] at hz
      cases hz
    rw [nk_none hT h0 h1 no, nk_none hT h0 h1 no] at hlt
    omega
  · have c1 := nk_b (set := set) (k := pK T p) hT h0 h1 hk
    refine tt_for (K := k_X8_wouldChange_30 F) 3 (fun i w' l => FrX Sgd w w' ∧ 0 ≤ i ∧ i ≤ 3 ∧ l = [vR 34, vR 265, vI set, vI p, vI (nk T set p (pK T p)), vI i] ∧ ∀ k : Int, 0 ≤ k → k < i → ¬ nk T set p k < nk T set p (pK T p)) ?_ F 0 _ w1 (by omega) ⟨f1, by omega, by omega, rfl, fun k x y => by omega⟩
    rintro n i l w2 ⟨f2, hi0, hi1, rfl, hk2⟩ hkk
    rw [ks_X8_wouldChange_30]
    refine wp_X8_wouldChange_30 F _ 265 tw265 set p _ i w2 _ ?_
    rw [w_id (x := i) (by omega) (by omega), ((ca_gd hC f2).pers h0 h1).2.2, w_id (x := pK T p) (by omega) (by omega)]
    refine ⟨fun q => ⟨⟨h0, by omega⟩, fun q2 => wp_X8_wouldChange_63 F _ 265 tw265 set p _ i w2 _ (hkk _ _ ⟨f2, by omega, by omega, rfl, fun k x y => ?_⟩ q), fun q2 => ci_netByKind hF hT (ca_gd hC f2) (ch_gd hCH f2) hn h0 h1 (by omega) (fun w3 f3 => ?_)⟩, fun q => q_z0 (hno ?_ w2 f2)⟩
    · by_cases e : k = i
      · rw [e, q2]; omega
      · exact hk2 k x (by omega)
    · have c2 := nk_b (set := set) (k := i) hT h0 h1 (by omega)
      rw [w_id (x := nk T set p i) (by omega) (by omega), w_id (x := nk T set p (pK T p)) (by omega) (by omega)]
      refine ⟨fun q3 => q_z1 (hy ⟨i, by omega, q3⟩ w3 (f2.tr f3)), fun q3 => wp_X8_wouldChange_63 F _ 265 tw265 set p _ i w3 _ (hkk _ _ ⟨f2.tr f3, by omega, by omega, rfl, fun k x y => ?_⟩ q)⟩
      by_cases e : k = i
      · rw [e]; exact q3
      · exact hk2 k x (by omega)
    · rintro ⟨k, hk', hlt⟩
      exact hk2 k hk'.1 (by omega) hlt
noncomputable def sbn (T : Nat → Int) (set : Int) : Nat → Int
  | 0 => 0
  | n + 1 => bOr (sbn T set n) ((ind (sn T set n) : Int) * bShl 1 n)
theorem sbn_nB {T : Nat → Int} {set : Int} : ∀ n : Nat, n ≤ 8 → nB (sbn T set n)
  | 0, _ => ⟨Int.le_refl _, by show (0 : Int) < 2147483648; decide⟩
  | n + 1, hn => by
    have h1 := sbn_nB (T := T) (set := set) n (by omega)
    unfold sbn
    by_cases q : sn T set n
    · rw [ind_pos q]
      have : ((1 : Nat) : Int) * bShl 1 n = bShl 1 n := by omega
      have hb := bShl_nB (k := n) (by omega) (by omega)
      exact (bOr_eq h1 (by simpa using hb)).2
    · rw [ind_neg q]
      exact (bOr_eq h1 (by simp; exact ⟨Int.le_refl _, by decide⟩)).2
theorem sbn_y {T : Nat → Int} {set i : Int} (h0 : 0 ≤ i) (q : sn T set i) : sbn T set (i + 1).toNat = bOr (sbn T set i.toNat) (bShl 1 i) := by
  rw [show (i + 1).toNat = i.toNat + 1 from by omega]
  show bOr (sbn T set i.toNat) ((ind (sn T set i.toNat) : Int) * bShl 1 i.toNat) = _
  rw [Int.toNat_of_nonneg h0, ind_pos q]
  congr 1
  simp
theorem sbn_n {T : Nat → Int} {set i : Int} (h0 : 0 ≤ i) (h8 : i ≤ 8) (q : ¬ sn T set i) : sbn T set (i + 1).toNat = sbn T set i.toNat := by
  rw [show (i + 1).toNat = i.toNat + 1 from by omega]
  show bOr (sbn T set i.toNat) ((ind (sn T set i.toNat) : Int) * bShl 1 i.toNat) = _
  rw [Int.toNat_of_nonneg h0, ind_neg q]
  have : ((0 : Nat) : Int) * bShl 1 i = 0 := by simp
  first
    | rw [this]; exact bOr_0 (sbn_nB _ (by omega))
    | simpa using bOr_0 (sbn_nB (T := T) (set := set) i.toNat (by omega))
noncomputable def aSooner (m : Int) (T : Nat → Int) (t set : Int) : Int := by
  classical
  exact if gd m T t set then sbn T set (T 2).toNat else -1
theorem cc_sooner {F : Nat} {t set : Int} {w : AW} {P : Int → AW → Prop} (hF : FB F) (hI : TwI w) (ht : iR t) (hs : iR set) (hp : ∀ w', KQ w w' → P (aSooner (w.1 5 0) (TR w t) t set) w') : CI (m_X8_sooner F [vR 34, vI t, vI set] w) P := by
  refine wp_X8_sooner F t set w _ (cr_plan' hF hI ht hs (fun hg hT hn hn2 w1 k1 hC hCH => ⟨fun q => (by cases q), fun j hj => ?_⟩) (fun hz => ⟨fun _ => q_i ?_, fun j hj => (by cases hj)⟩))
  · cases hj
    have a2 := hT.2.2.1
    refine tt_for (K := k_X8_sooner_19 F) (TR w t 2) (fun i w' l => FrX Sgd w1 w' ∧ 0 ≤ i ∧ i ≤ TR w t 2 ∧ l = [vR 34, vI t, vI set, vR 265, vI (sbn (TR w t) set i.toNat), vI i]) ?_ F 0 _ w1 (by omega) ⟨FrX.rf, by omega, by omega, rfl⟩
    rintro n i l w2 ⟨f2, hi0, hi1, rfl⟩ hk
    rw [ks_X8_sooner_19]
    refine wp_X8_sooner_19 F _ t set 265 tw265 _ i w2 _ ?_
    rw [(ca_gd hC f2).2.2.1, w_id (x := i) (by omega) (by omega), w_id (x := TR w t 2) (by omega) (by omega)]
    refine ⟨fun q => ci_wouldChange hF hT (ca_gd hC f2) (ch_gd hCH f2) hn hi0 q (fun y w3 f3 => br1 (fun x ex => wp_X8_sooner_48 F _ t set 265 tw265 x i w3 _ (hk _ _ ⟨f2.tr f3, by omega, by omega, ?_⟩ q))) (fun y w3 f3 => br0 (wp_X8_sooner_48 F _ t set 265 tw265 _ i w3 _ (hk _ _ ⟨f2.tr f3, by omega, by omega, ?_⟩ q))), fun q => q_i ?_⟩
    · rw [ex, sbn_y hi0 y]
    · rw [sbn_n hi0 (by omega) y]
    · have hpk := hp w2 (k1.tr (gd_KQ f2))
      unfold aSooner at hpk
      rw [if_pos hg] at hpk
      rw [show i = TR w t 2 from by omega]
      exact hpk
  · have hpk := hp w KQ.rf
    unfold aSooner at hpk
    rw [if_neg hz] at hpk
    exact hpk
theorem cr_sooner {F : Nat} {t set : Int} {w : AW} {P : Int → AW → Prop} (hF : FB F) (hI : TwI w) (ht : iR t) (hs : iR set) (hp : ∀ w', KQ w w' → P (aSooner (w.1 5 0) (TR w t) t set) w') : CI (m_X9_sooner F [vR 0, vI t, vI set] w) P := by
  refine wp_X9_sooner F t set w _ (fun w0 e0 => ci_lay' hF hI e0 ht hs (fun hg hT hn hn2 w1 k1 hX _ => br1 ?_) (fun hz w1 k1 => br0 (q_i ?_)))
  · have a2 := hT.2.2.1
    refine tt_for (K := k_X9_sooner_21 F) (TR w t 2) (fun i w' l => Fr Sday w1 w' ∧ 0 ≤ i ∧ i ≤ TR w t 2 ∧ l = [vR 0, vI t, vI set, vI (sbn (TR w t) set i.toNat), vI i]) ?_ F 0 _ w1 (by omega) ⟨Fr.rf, by omega, by omega, rfl⟩
    rintro n i l w2 ⟨f2, hi0, hi1, rfl⟩ hk
    have e24 : w2.1 0 24 = TR w t 2 := (rx_day hX f2).1.2.2.2.1
    rw [ks_X9_sooner_21]
    refine wp_X9_sooner_21 F _ t set _ i w2 _ ?_
    rw [e24, w_id (x := i) (by omega) (by omega), w_id (x := TR w t 2) (by omega) (by omega)]
    refine ⟨fun q => ci_isSooner hF hT (rx_day hX f2) hn hn2 hi0 q (fun y w3 f3 => br1 (wp_X9_sooner_49 F _ t set _ i _ _ w3 _ (fun x ex => hk _ _ ⟨f2.tr f3, by omega, by omega, ?_⟩ q))) (fun y w3 f3 => br0 (wp_X9_sooner_49 F _ t set _ i _ _ w3 _ (fun x ex => hk _ _ ⟨f2.tr f3, by omega, by omega, ?_⟩ q))), fun q => q_i ?_⟩
    · rw [ex, sbn_y hi0 y]
    · rw [ex, bOr_0 (sbn_nB _ (by omega)), sbn_n hi0 (by omega) y]
    · have hpk := hp w2 (k1.tr (day_KQ f2))
      unfold aSooner at hpk
      rw [if_pos hg] at hpk
      rw [show i = TR w t 2 from by omega]
      exact hpk
  · have hpk := hp w1 k1
    unfold aSooner at hpk
    rw [if_neg hz] at hpk
    exact hpk
