/-! OTHER LAWS -/
theorem CHR.eq' {T : Nat → Int} {w w' : AW} {n : Nat} (h : CHR T w n) (hs : ∀ j k, 229 ≤ j → j ≤ 231 → w'.1 j k = w.1 j k) : CHR T w' n := fun s h0 h1 => by
  rw [hs 229 _ (by omega) (by omega)]
  refine ⟨(h s h0 h1).1, fun i hi => ?_⟩
  rw [hs 230 _ (by omega) (by omega), hs 231 _ (by omega) (by omega)]
  exact (h s h0 h1).2 i hi
theorem CHM.eq' {T : Nat → Int} {w w' : AW} (h : CHM T w) (hs : ∀ k, w'.1 232 k = w.1 232 k) : CHM T w' := fun a b h1 h2 h3 h4 => by
  rw [hs]
  exact h a b h1 h2 h3 h4
abbrev Sgw (j k : Nat) : Prop := Sgd j k ∨ j = 233
abbrev Sgl (j k : Nat) : Prop := Sgw j k ∨ (j = 265 ∧ k = 17)
def lwT (T : Nat → Int) (l : Int) : Nat → Int := fu T 4 l
theorem fu_fu {T : Nat → Int} {i a b : Int} : fu (fu T i a) i b = fu T i b := by
  funext k
  by_cases h : (k : Int) = i
  · rw [fu_eq h, fu_eq h]
  · rw [fu_ne h, fu_ne h, fu_ne h]
theorem lwT_self {T : Nat → Int} : lwT T (T 4) = T := fu_self (T := T) (i := 4)
theorem lwT_E {T : Nat → Int} {l : Int} : RdE T (lwT T l) ∧ RpE T (lwT T l) ∧ RhE T (lwT T l) ∧ RcE T (lwT T l) ∧ PcE T (lwT T l) ∧ PhE T (lwT T l) ∧ PkE T (lwT T l) ∧ ErE T (lwT T l) ∧ EmE T (lwT T l) := ⟨rdE_fu (by omega) (fun r x y => by omega), rpE_fu (fun r x y => by omega), rhE_fu (fun r x y => by omega), rcE_fu (by omega) (fun r x y => by omega), pcE_fu (by omega) (fun r x y => by omega), phE_fu (fun r x y => by omega), pkE_fu (fun r x y => by omega), erE_fu (by omega) (fun r x y => by omega), emE_fu (fun r x y => by omega)⟩
theorem TK_lwT {T : Nat → Int} {l : Int} (hT : TK T) (hl : 0 ≤ l ∧ l ≤ 3) : TK (lwT T l) := by
  obtain ⟨a, rp, rh, c, pc, ph, pk, er, em⟩ := lwT_E (T := T) (l := l)
  have a1 := hT.2.1
  have a2 := hT.2.2.1
  have a3 := hT.2.2.2.1
  exact TK_of hT a c pc er (by rw [show lwT T l 4 = l from fu_eq rfl]; exact hl) (fun r x y => by rw [rp r x (by omega)]; exact (hT.road x y).2.2.2.2.1) (fun r x y => by rw [rh r x (by omega)]; exact (hT.road x y).2.2.2.2.2.1) (fun q x y => by rw [ph q x (by omega)]; exact (hT.pers x y).1) (fun q x y => by rw [pk q x (by omega)]; exact (hT.pers x y).2.2) (fun e x y => by rw [em e x (by omega)]; exact (hT.erra x y).2.2.1)
theorem HA_lwT {T : Nat → Int} {l0 l : Int} {w : AW} (hT : TK T) (hl0 : 0 ≤ l0 ∧ l0 ≤ 3) (hH : HA w (lwT T l0)) : HA (wI w 0 26 l) (lwT T l) := by
  have hT0 := TK_lwT hT hl0
  have e : lwT T l = lwT (lwT T l0) l := (fu_fu (T := T) (i := 4) (a := l0) (b := l)).symm
  rw [e]
  generalize lwT T l0 = U at hH hT0
  obtain ⟨a, rp, rh, c, pc, ph, pk, er, em⟩ := lwT_E (T := U) (l := l)
  have a1 := hT0.2.1
  have a2 := hT0.2.2.1
  have a3 := hT0.2.2.2.1
  have f : ∀ b k, b ≠ 0 ∨ k ≠ 26 → (wI w 0 26 l).1 b k = w.1 b k := fun b k hb => by rw [wI_at, if_neg (by omega)]
  refine HA_of hT0 hH a c pc er rp (fun k => f 6 k (by omega)) (fun k _ _ hk => f 0 k (by omega)) (by rw [wI_same, show lwT U l 4 = l from fu_eq rfl]) (fun r x y => ?_) (fun q x y => ⟨?_, ?_⟩) (fun e x y => ?_) (by rw [f 0 29 (by omega)]; exact hH.2.2.2.2.2.2.2.2.2.2)
  · rw [f 0 29 (by omega), f 0 30 (by omega), rh r x (by omega)]; exact (hH.road x y).2.2.2.2.2
  · rw [f 11 _ (by omega), pk q x (by omega)]; exact (hH.pers x y).2.1
  · rw [f 23 _ (by omega), ph q x (by omega)]; exact (hH.pers x y).2.2
  · rw [f 24 _ (by omega), em e x (by omega)]; exact (hH.erra x y).2.2.2
theorem CA_lwT {T : Nat → Int} {l0 l : Int} {w : AW} (hT : TK T) (hl0 : 0 ≤ l0 ∧ l0 ≤ 3) (hC : CA w 265 (lwT T l0)) : CA (wI w 265 17 l) 265 (lwT T l) := by
  have hT0 := TK_lwT hT hl0
  have e : lwT T l = lwT (lwT T l0) l := (fu_fu (T := T) (i := 4) (a := l0) (b := l)).symm
  rw [e]
  generalize lwT T l0 = U at hC hT0
  obtain ⟨a, rp, rh, c, pc, ph, pk, er, em⟩ := lwT_E (T := U) (l := l)
  have a1 := hT0.2.1
  have a2 := hT0.2.2.1
  have a3 := hT0.2.2.2.1
  have f : ∀ b k, b ≠ 265 ∨ k ≠ 17 → (wI w 265 17 l).1 b k = w.1 b k := fun b k hb => by rw [wI_at, if_neg (by omega)]
  refine CA_of hT0 hC a c pc er (fun k hk => f 265 k (by omega)) (fun i k hi => f (265 + i) k (by omega)) (by rw [wI_same, show lwT U l 4 = l from fu_eq rfl]) (fun r x y => ⟨?_, ?_⟩) (fun q x y => ⟨?_, ?_⟩) (fun e x y => ?_)
  · rw [f _ _ (by omega), rp r x (by omega)]; exact (hC.road x y).2.2.2.1
  · rw [f _ _ (by omega), rh r x (by omega)]; exact (hC.road x y).2.2.2.2.1
  · rw [f _ _ (by omega), ph q x (by omega)]; exact (hC.pers x y).1
  · rw [f _ _ (by omega), pk q x (by omega)]; exact (hC.pers x y).2.2
  · rw [f _ _ (by omega), em e x (by omega)]; exact (hC.erra x y).2.2.1
/-- a sum by another law -/
noncomputable def sl (T : Nat → Int) (set what l : Int) : Int := figS (lwT T l) (gAd (lwT T l) (-1) set) what (T 2).toNat
theorem sl_b {T : Nat → Int} {set what l : Int} (hT : TK T) (hl : 0 ≤ l ∧ l ≤ 3) : -100000 ≤ sl T set what l ∧ sl T set what l ≤ 1000000 := by
  have a2 := hT.2.2.1
  have hT' := TK_lwT hT hl
  have e2 : lwT T l 2 = T 2 := (lwT_E (T := T) (l := l)).2.2.2.2.1.1
  have := figS_b hT' (gAd_b (fr := -1) (set := set) hT') what (T 2).toNat (by rw [e2]; omega)
  unfold sl
  omega
/-- the chart without its worths -/
def CH2 (T : Nat → Int) (w : AW) : Prop := CHR T w (T 1).toNat ∧ CHM T w
theorem CH2.frX {T : Nat → Int} {w w' : AW} {S : Nat → Nat → Prop} (h : CH2 T w) (f : FrX S w w') (hs : ∀ j k, 229 ≤ j → j ≤ 232 → ¬ S j k) : CH2 T w' := ⟨h.1.eq' (fun j k x y => f.I j k (hs j k x (by omega))), h.2.eq' (fun k => f.I 232 k (hs 232 k (by omega) (by omega)))⟩
theorem ci_sumByLaw {F : Nat} {T : Nat → Int} {set what l0 l : Int} {w : AW} {P : Int → AW → Prop} (hF : FB F) (hT : TK T) (hl0 : 0 ≤ l0 ∧ l0 ≤ 3) (hC : CA w 265 (lwT T l0)) (hCH : CH2 T w) (hn : nB set) (hl : 0 ≤ l ∧ l ≤ 3) (hwr : iR what) (h : ∀ w', FrX Sgl w w' → CA w' 265 (lwT T l) → CH2 T w' → P (if 0 ≤ what ∧ what ≤ 4 then sl T set what l else -100000) w') : CI (m_X8_sumByLaw F [vR 34, vR 265, vI set, vI l, vI what] w) P := by
  have a2 := hT.2.2.1
  have hT' := TK_lwT hT hl
  have e2 : lwT T l 2 = T 2 := (lwT_E (T := T) (l := l)).2.2.2.2.1.1
  refine wp_X8_sumByLaw F 265 tw265 set l what w _ (fun w1 e1 => ?_)
  have hC1 : CA w1 265 (lwT T l) := by rw [e1]; exact CA_lwT hT hl0 hC
  have f1 : FrX Sgl w w1 := by rw [e1]; exact FrX.rf.wI _ (Or.inr ⟨rfl, rfl⟩)
  refine cv_layWorths hF tw265 ap265 hC1 hT' (fun w2 f2 hW => ?_)
  have f2' : FrX Sgl w w2 := f1.tr (f2.X.wk (by intro j k h; exact Or.inl (Or.inr h)))
  have hC2 : CA w2 265 (lwT T l) := hC1.fr f2 (by intro a k h1 h2; simp only [Schw]; omega)
  have hCH2 : CH2 T w2 := hCH.frX f2' (by intro j k h1 h2; simp only [Sgl, Sgw, Sgd, Sout]; omega)
  refine cv_goAllC hF tw265 ap265 hC2 (CH_RdE hT (lwT_E (T := T) (l := l)).1 hCH2.1 hCH2.2 hW) hT' hn (fun w3 f3 hz3 => ci_sumOfC hF tw265 hT' (ca_gd hC2 f3) hwr (q_i ?_))
  have := h w3 (f2'.tr (f3.wk (by intro j k h; exact Or.inl (Or.inl h)))) (ca_gd hC2 f3) (hCH2.frX f3 (by intro j k h1 h2; simp only [Sgd, Sout]; omega))
  by_cases y : 0 ≤ what ∧ what ≤ 4
  · rw [if_pos y] at this ⊢
    rw [figS_ze hz3 _ _ (by rw [e2]; omega), e2]
    exact this
  · rw [if_neg y] at this ⊢
    exact this
theorem sgl_KQ {w w' : AW} (h : FrX Sgl w w') : KQ w w' := h.KQ (by intro j k; simp only [Sgl, Sgw, Sgd, Sout]; omega)
noncomputable def aOther (m : Int) (T : Nat → Int) (t set l what : Int) : Int := by
  classical
  exact if gd m T t set ∧ (0 ≤ l ∧ l ≤ 3) ∧ (0 ≤ what ∧ what ≤ 4) then sl T set what l else -100000
theorem ca_self {T : Nat → Int} {w : AW} (hC : CA w 265 T) : CA w 265 (lwT T (T 4)) := by rw [lwT_self]; exact hC
theorem cc_other {F : Nat} {t set l what : Int} {w : AW} {P : Int → AW → Prop} (hF : FB F) (hI : TwI w) (ht : iR t) (hs : iR set) (hlr : iR l) (hwr : iR what) (hp : ∀ w', KQ w w' → P (aOther (w.1 5 0) (TR w t) t set l what) w') : CI (m_X8_other F [vR 34, vI t, vI set, vI l, vI what] w) P := by
  refine wp_X8_other F t set l what w _ (cr_plan' hF hI ht hs (fun hg hT hn hn2 w1 k1 hC hCH => ⟨fun q => (by cases q), fun j hj => ?_⟩) (fun hz => ⟨fun _ => q_i ?_, fun j hj => (by cases hj)⟩))
  · cases hj
    have no : ¬ (0 ≤ l ∧ l ≤ 3) → P (-100000) w1 := fun hk => by
      have hpk := hp w1 k1
      unfold aOther at hpk
      rw [if_neg (fun y => hk y.2.1)] at hpk
      exact hpk
    rw [w_id hlr.1 hlr.2]
    refine ⟨fun q => q_i (no (by omega)), fun q => ⟨fun q2 => q_i (no (by omega)), fun q2 => ci_sumByLaw hF hT hT.2.2.2.2.1 (ca_self hC) ⟨hCH.1, hCH.2.1⟩ hn (by omega) hwr (fun w2 f2 _ _ => q_i ?_)⟩⟩
    have hpk := hp w2 (k1.tr (sgl_KQ f2))
    unfold aOther at hpk
    by_cases y : 0 ≤ what ∧ what ≤ 4
    · rw [if_pos ⟨hg, by omega, y⟩] at hpk
      rw [if_pos y]; exact hpk
    · rw [if_neg (fun z => y z.2.2)] at hpk
      rw [if_neg y]; exact hpk
  · have hpk := hp w KQ.rf
    unfold aOther at hpk
    rw [if_neg (fun y => hz y.1)] at hpk
    exact hpk
theorem RX_lwT {T : Nat → Int} {l0 l fr : Int} {w : AW} (hT : TK T) (hl0 : 0 ≤ l0 ∧ l0 ≤ 3) (hX : RX (lwT T l0) fr w) : RX (lwT T l) fr (wI w 0 26 l) := by
  refine ⟨HA_lwT hT hl0 hX.1, by rw [wI_idx _ _ _ _ (by decide)]; exact hX.2.1, ?_⟩
  have hT0 := TK_lwT hT hl0
  have e : lwT T l = lwT (lwT T l0) l := (fu_fu (T := T) (i := 4) (a := l0) (b := l)).symm
  rw [e]
  exact FAR_RdE hT0 (lwT_E (T := lwT T l0) (l := l)).1 (hX.2.2.fr (S := fun j _ => j = 0) (Fr.rf.wI _ rfl) (by intro k; decide))
theorem rx_self {T : Nat → Int} {fr : Int} {w : AW} (h : RX T fr w) : RX (lwT T (T 4)) fr w := by rw [lwT_self]; exact h
theorem sl_ref {F : Nat} {T : Nat → Int} {set what l0 l : Int} {w w1 : AW} {P : Int → AW → Prop} (hF : FB F) (hT : TK T) (hl0 : 0 ≤ l0 ∧ l0 ≤ 3) (hX : RX (lwT T l0) (-1) w) (hn : nB set) (hn2 : ∀ e : Nat, tb set e = true → (e : Int) < T 3) (hl : 0 ≤ l ∧ l ≤ 3) (hwt : 0 ≤ what ∧ what ≤ 4) (e1 : w1 = wI w 0 26 l) (h : ∀ w', KQ w w' → RX (lwT T l) (-1) w' → P (sl T set what l) w') : CV (m_X9_day F [vR 0, vI set] w1) (fun w2 => CI (m_X9_sums F [vR 0, vI (-1), vI what] w2) P) := by
  have a2 := hT.2.2.1
  have hT' := TK_lwT hT hl
  have e2 : lwT T l 2 = T 2 := (lwT_E (T := T) (l := l)).2.2.2.2.1.1
  have e3 : lwT T l 3 = T 3 := (lwT_E (T := T) (l := l)).2.2.2.2.2.2.2.1.1
  have hX1 : RX (lwT T l) (-1) w1 := by rw [e1]; exact RX_lwT hT hl0 hX
  refine cv_day hF hT' hX1 (by omega) hn (fun e he => by rw [e3]; exact hn2 e he) (fun w2 f2 hz2 => ci_sums hF hT' (rx_day hX1 f2).1 (Or.inl rfl) hwt ?_)
  rw [if_pos rfl, figS_ze hz2 _ _ (by rw [e2]; omega), e2]
  have k1 : KQ w w1 := by rw [e1]; exact wI0_KQ
  exact h w2 (k1.tr (day_KQ f2)) (rx_day hX1 f2)
theorem cr_other {F : Nat} {t set l what : Int} {w : AW} {P : Int → AW → Prop} (hF : FB F) (hI : TwI w) (ht : iR t) (hs : iR set) (hlr : iR l) (hwr : iR what) (hp : ∀ w', KQ w w' → P (aOther (w.1 5 0) (TR w t) t set l what) w') : CI (m_X9_other F [vR 0, vI t, vI set, vI l, vI what] w) P := by
  refine wp_X9_other F t set l what w _ (fun w0 e0 => ci_lay' hF hI e0 ht hs (fun hg hT hn hn2 w1 k1 hX _ => br1 ?_) (fun hz w1 k1 => br0 (q_i ?_)))
  · refine ci_in hlr (by decide) (by decide) (fun y => br1 (ci_in hwr (by decide) (by decide) (fun z => br1 (fun w2 e2 => sl_ref hF hT hT.2.2.2.2.1 (rx_self hX) hn hn2 y z e2 (fun w3 k3 _ => q_i ?_))) (fun z => br0 (q_i ?_)))) (fun y => br0 (q_i ?_))
    · have hpk := hp w3 (k1.tr k3)
      unfold aOther at hpk
      rw [if_pos ⟨hg, y, z⟩] at hpk
      exact hpk
    · have hpk := hp w1 k1
      unfold aOther at hpk
      rw [if_neg (fun x => z x.2.2)] at hpk
      exact hpk
    · have hpk := hp w1 k1
      unfold aOther at hpk
      rw [if_neg (fun x => y x.2.1)] at hpk
      exact hpk
  · have hpk := hp w1 k1
    unfold aOther at hpk
    rw [if_neg (fun y => hz y.1)] at hpk
    exact hpk
theorem bkn_sb {T : Nat → Int} {set what : Int} (hT : TK T) (n : Nat) (hn : n ≤ 3) : -100000 ≤ (bkn (sl T set what) n).2 ∧ (bkn (sl T set what) n).2 ≤ 1000000 := by
  obtain ⟨h2, h3, -⟩ := bkn_ok (sl T set what) n
  rw [h2]
  exact sl_b hT (by omega)
theorem ci_bestLaw {F : Nat} {T : Nat → Int} {set : Int} {w : AW} {P : Int → AW → Prop} (hF : FB F) (hT : TK T) (hC : CA w 265 T) (hCH : CH T w) (hn : nB set) (h : ∀ w', FrX Sgl w w' → P (bkn (sl T set 3) 3).1 w') : CI (m_X8_bestLaw F [vR 34, vR 265, vI set] w) P := by
  refine wp_X8_bestLaw F 265 tw265 set w _ (ci_sumByLaw hF hT hT.2.2.2.2.1 (ca_self hC) ⟨hCH.1, hCH.2.1⟩ hn (by omega) (by decide) (fun w1 f1 hC1 hR1 => ?_))
  rw [if_pos (by decide)]
  refine tt_for (K := k_X8_bestLaw_15 F) 4 (fun i w' l => FrX Sgl w w' ∧ 1 ≤ i ∧ i ≤ 4 ∧ CA w' 265 (lwT T (i - 1)) ∧ CH2 T w' ∧ ∃ v, l = [vR 34, vR 265, vI set, vI (bkn (sl T set 3) (i - 1).toNat).1, vI (bkn (sl T set 3) (i - 1).toNat).2, vI i, v]) ?_ F 1 _ w1 (by omega) ⟨f1, by omega, by omega, (by show CA w1 265 (lwT T 0); exact hC1), hR1, vU, rfl⟩
  rintro n i l w2 ⟨f2, hi0, hi1, hC2, hR2, v, rfl⟩ hk
  rw [ks_X8_bestLaw_15]
  refine wp_X8_bestLaw_15 F _ 265 tw265 set _ _ i v w2 _ ?_
  rw [w_id (x := i) (by omega) (by omega)]
  refine ⟨fun q => q_i ?_, fun q => ci_sumByLaw hF hT (l0 := i - 1) (by omega) hC2 hR2 hn (by omega) (by decide) (fun w3 f3 hC3 hR3 => ?_)⟩
  · have : i = 4 := by omega
    subst this
    exact h w2 f2
  · rw [if_pos (by decide)]
    have hb := bkn_sb (set := set) (what := 3) hT (i - 1).toNat (by omega)
    have hb2 := sl_b (set := set) (what := 3) (l := i) hT (by omega)
    have st := bkn_step (sl T set 3) hi0
    rw [w_id (x := sl T set 3 i) (by omega) (by omega), w_id (x := (bkn (sl T set 3) (i - 1).toNat).2) (by omega) (by omega)]
    have hC3' : CA w3 265 (lwT T (i + 1 - 1)) := by rw [show i + 1 - 1 = i from by omega]; exact hC3
    refine ⟨fun q2 => wp_X8_bestLaw_46 F _ 265 tw265 set _ _ i _ w3 _ (hk _ _ ⟨f2.tr f3, by omega, by omega, hC3', hR3, vI (sl T set 3 i), ?_⟩ (by omega)), fun q2 => wp_X8_bestLaw_46 F _ 265 tw265 set _ _ i _ w3 _ (hk _ _ ⟨f2.tr f3, by omega, by omega, hC3', hR3, vI (sl T set 3 i), ?_⟩ (by omega))⟩
    · rw [st, if_pos q2]
    · rw [st, if_neg q2]
theorem ci_whichLaw {F : Nat} {T : Nat → Int} {set : Int} {w : AW} {P : Int → AW → Prop} (hF : FB F) (hT : TK T) (hX : RX T (-1) w) (hn : nB set) (hn2 : ∀ e : Nat, tb set e = true → (e : Int) < T 3) (h : ∀ w', KQ w w' → P (bkn (sl T set 3) 3).1 w') : CI (m_X9_whichLaw F [vR 0, vI set] w) P := by
  refine wp_X9_whichLaw F set w _ ?_
  refine tt_for (K := k_X9_whichLaw_7 F) 4 (fun i w' l => KQ w w' ∧ 0 ≤ i ∧ i ≤ 4 ∧ (∃ l0, (0 ≤ l0 ∧ l0 ≤ 3) ∧ RX (lwT T l0) (-1) w') ∧ ∃ b m v, l = [vR 0, vI set, vI b, vI m, vI i, v] ∧ ((i = 0 ∧ b = -1 ∧ m = 0) ∨ (1 ≤ i ∧ b = (bkn (sl T set 3) (i - 1).toNat).1 ∧ m = (bkn (sl T set 3) (i - 1).toNat).2))) ?_ F 0 _ w (by omega) ⟨KQ.rf, by omega, by omega, ⟨T 4, hT.2.2.2.2.1, rx_self hX⟩, -1, 0, vU, rfl, Or.inl ⟨rfl, rfl, rfl⟩⟩
  rintro n i l w2 ⟨k2, hi0, hi1, ⟨l0, hl0, hX2⟩, b, m, v, rfl, hbm⟩ hk
  rw [ks_X9_whichLaw_7]
  refine wp_X9_whichLaw_7 F _ set b m i v w2 _ ?_
  rw [w_id (x := i) (by omega) (by omega)]
  refine ⟨fun q => q_i ?_, fun q w3 e3 => sl_ref hF hT hl0 hX2 hn hn2 (l := i) (by omega) (by decide) e3 (fun w4 k4 hX4 => ?_)⟩
  · have : i = 4 := by omega
    subst this
    rcases hbm with ⟨z, -⟩ | ⟨-, z, -⟩
    · omega
    · rw [z]; exact h w2 k2
  · have hb2 := sl_b (set := set) (what := 3) (l := i) hT (by omega)
    rcases hbm with ⟨rfl, rfl, rfl⟩ | ⟨hi, rfl, rfl⟩
    · refine ⟨fun _ => wp_X9_whichLaw_43 F _ set _ _ 0 _ w4 _ (wp_X9_whichLaw_49 F _ set _ _ 0 _ w4 _ (hk _ _ ⟨k2.tr k4, by omega, by omega, ⟨0, by omega, hX4⟩, _, _, _, rfl, Or.inr ⟨by omega, rfl, rfl⟩⟩ (by omega))), fun z => absurd (by decide) z⟩
    · have hb := bkn_sb (set := set) (what := 3) hT (i - 1).toNat (by omega)
      obtain ⟨-, hr, -⟩ := bkn_ok (sl T set 3) (i - 1).toNat
      have st := bkn_step (sl T set 3) hi
      rw [w_id (x := (bkn (sl T set 3) (i - 1).toNat).1) (by omega) (by omega), w_id (x := sl T set 3 i) (by omega) (by omega), w_id (x := (bkn (sl T set 3) (i - 1).toNat).2) (by omega) (by omega)]
      refine ⟨fun z => by omega, fun _ => ⟨fun q2 => wp_X9_whichLaw_43 F _ set _ _ i _ w4 _ (wp_X9_whichLaw_49 F _ set _ _ i _ w4 _ (hk _ _ ⟨k2.tr k4, by omega, by omega, ⟨i, by omega, hX4⟩, _, _, _, rfl, Or.inr ⟨by omega, ?_, ?_⟩⟩ (by omega))), fun q2 => wp_X9_whichLaw_49 F _ set _ _ i _ w4 _ (hk _ _ ⟨k2.tr k4, by omega, by omega, ⟨i, by omega, hX4⟩, _, _, _, rfl, Or.inr ⟨by omega, ?_, ?_⟩⟩ (by omega))⟩⟩
      · rw [st, if_pos q2]
      · rw [st, if_pos q2]
      · rw [st, if_neg q2]
      · rw [st, if_neg q2]
