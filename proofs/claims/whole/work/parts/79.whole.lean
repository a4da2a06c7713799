/-! whole of errands -/
noncomputable def aWhole (m : Int) (T : Nat → Int) (t set what : Int) : Int := by
  classical
  exact if gd m T t set then (if what = 3 then (bkn (sl T set 3) 3).1 else if what = 0 then idl (gAd T (-1) set 7) (T 1).toNat else if what = 1 then gAd T (-1) set 9 0 else if what = 2 then gAd T (-1) set 9 1 else -1) else -1
theorem cc_whole {F : Nat} {t set what : Int} {w : AW} {P : Int → AW → Prop} (hF : FB F) (hI : TwI w) (ht : iR t) (hs : iR set) (hwr : iR what) (hp : ∀ w', KQ w w' → P (aWhole (w.1 5 0) (TR w t) t set what) w') : CI (m_X8_whole F [vR 34, vI t, vI set, vI what] w) P := by
  refine wp_X8_whole F t set what w _ (cr_plan' hF hI ht hs (fun hg hT hn hn2 w1 k1 hC hCH => ⟨fun q => (by cases q), fun j hj => ?_⟩) (fun hz => ⟨fun _ => q_i ?_, fun j hj => (by cases hj)⟩))
  · cases hj
    have a1 := hT.2.1
    rw [w_id hwr.1 hwr.2]
    refine ⟨fun q => ci_bestLaw hF hT hC hCH hn (fun w2 f2 => q_i ?_), fun q => cv_goAllC hF tw265 ap265 hC hCH hT hn (fun w2 f2 hz2 => ?_)⟩
    · have hpk := hp w2 (k1.tr (sgl_KQ f2))
      unfold aWhole at hpk
      rw [if_pos hg, if_pos q] at hpk
      exact hpk
    · have hpk := hp w2 (k1.tr (gd_KQ f2))
      unfold aWhole at hpk
      rw [if_pos hg, if_neg q] at hpk
      have hB := gAd_b (fr := -1) (set := set) hT
      refine ⟨⟨fun q2 => ci_idle hF tw265 hT (ca_gd hC f2) (fun r hr => ?_) (q_i ?_), fun q2 => q_i ?_, fun q2 => q_i ?_, trivial⟩, fun q2 => q_i ?_⟩
      · have e7 : w2.1 257 r = gAd (TR w t) (-1) set 7 r := (hz2.2.2.2.1 r hr).1
        rw [e7]
        have := hB.2 r
        omega
      · rw [if_pos q2] at hpk
        have : idl (w2.1 257) (TR w t 1).toNat = idl (gAd (TR w t) (-1) set 7) (TR w t 1).toNat := idl_congr _ (fun r hr => (hz2.2.2.2.1 r (by omega)).1)
        rw [this]; exact hpk
      · rw [if_neg (by omega), if_pos q2] at hpk
        have : w2.1 254 3 = gAd (TR w t) (-1) set 9 0 := hz2.2.2.2.2.1
        rw [this]; exact hpk
      · rw [if_neg (by omega), if_neg (by omega), if_pos q2] at hpk
        have : w2.1 254 4 = gAd (TR w t) (-1) set 9 1 := hz2.2.2.2.2.2
        rw [this]; exact hpk
      · rw [if_neg (by omega), if_neg (by omega), if_neg (by omega)] at hpk
        exact hpk
  · have hpk := hp w KQ.rf
    unfold aWhole at hpk
    rw [if_neg hz] at hpk
    exact hpk
theorem cr_whole {F : Nat} {t set what : Int} {w : AW} {P : Int → AW → Prop} (hF : FB F) (hI : TwI w) (ht : iR t) (hs : iR set) (hwr : iR what) (hp : ∀ w', KQ w w' → P (aWhole (w.1 5 0) (TR w t) t set what) w') : CI (m_X9_whole F [vR 0, vI t, vI set, vI what] w) P := by
  refine wp_X9_whole F t set what w _ (fun w0 e0 => ci_lay' hF hI e0 ht hs (fun hg hT hn hn2 w1 k1 hX _ => br1 ?_) (fun hz w1 k1 => br0 (q_i ?_)))
  · have a1 := hT.2.1
    refine ci_in hwr (by decide) (by decide) (fun y => br1 ?_) (fun y => br0 (q_i ?_))
    · rw [w_id hwr.1 hwr.2]
      refine ⟨fun q => ci_whichLaw hF hT hX hn hn2 (fun w2 k2 => q_i ?_), fun q => cv_day hF hT hX (by omega) hn hn2 (fun w2 f2 hz2 => ?_)⟩
      · have hpk := hp w2 (k1.tr k2)
        unfold aWhole at hpk
        rw [if_pos hg, if_pos q] at hpk
        exact hpk
      · have hpk := hp w2 (k1.tr (day_KQ f2))
        unfold aWhole at hpk
        rw [if_pos hg, if_neg q] at hpk
        have hB := gAd_b (fr := -1) (set := set) hT
        have e23 : w2.1 0 23 = TR w t 1 := (rx_day hX f2).1.2.2.1
        have e7 : ∀ r : Nat, r < 14 → w2.1 31 r = gAd (TR w t) (-1) set 7 r := fun r hr => (hz2.2.2.2.1 r hr).1
        refine tt_for (K := k_X9_whole_47 F) (TR w t 1) (fun i w' l => w' = w2 ∧ 0 ≤ i ∧ i ≤ TR w t 1 ∧ l = [vR 0, vI t, vI set, vI what, vI (idl (gAd (TR w t) (-1) set 7) i.toNat), vI i]) ?_ F 0 _ w2 (by omega) ⟨rfl, by omega, by omega, rfl⟩
        rintro n i l w' ⟨rfl, hi0, hi1, rfl⟩ hk
        rw [ks_X9_whole_47]
        refine wp_X9_whole_47 F _ t set what _ i w' _ ?_
        rw [e23, w_id (x := i) (by omega) (by omega), w_id (x := TR w t 1) (by omega) (by omega), w_id hwr.1 hwr.2]
        refine ⟨fun q2 => ⟨⟨by omega, by omega⟩, ?_⟩, fun q2 => ⟨fun z => q_i ?_, fun z => ⟨fun z2 => q_i ?_, fun z2 => q_i ?_⟩⟩⟩
        · have hv := hB.2 i.toNat
          have e : idl (gAd (TR w t) (-1) set 7) (i + 1).toNat = if gAd (TR w t) (-1) set 7 i.toNat = 0 then bOr (idl (gAd (TR w t) (-1) set 7) i.toNat) (bShl 1 i) else idl (gAd (TR w t) (-1) set 7) i.toNat := by
            rw [show (i + 1).toNat = i.toNat + 1 from by omega]
            show (if gAd (TR w t) (-1) set 7 i.toNat = 0 then bOr (idl (gAd (TR w t) (-1) set 7) i.toNat) (bShl 1 i.toNat) else idl (gAd (TR w t) (-1) set 7) i.toNat) = _
            rw [Int.toNat_of_nonneg hi0]
          rw [e7 _ (by omega), w_id (x := gAd (TR w t) (-1) set 7 i.toNat) (by omega) (by omega)]
          refine ⟨fun z => wp_X9_whole_76 F _ t set what _ i _ _ w' _ (fun x ex => hk _ _ ⟨rfl, by omega, by omega, ?_⟩ q2), fun z => wp_X9_whole_76 F _ t set what _ i _ _ w' _ (fun x ex => hk _ _ ⟨rfl, by omega, by omega, ?_⟩ q2)⟩
          · rw [ex, e, if_pos z]
          · rw [ex, e, if_neg z, bOr_0 (idl_nB _ (by omega))]
        · rw [if_pos z] at hpk
          rw [show i = TR w t 1 from by omega]; exact hpk
        · rw [if_neg z, if_pos z2] at hpk
          have : w'.1 0 60 = gAd (TR w t) (-1) set 9 0 := hz2.2.2.2.2.1
          rw [this]; exact hpk
        · rw [if_neg z, if_neg z2, if_pos (by omega)] at hpk
          have : w'.1 0 61 = gAd (TR w t) (-1) set 9 1 := hz2.2.2.2.2.2
          rw [this]; exact hpk
    · have hpk := hp w1 k1
      unfold aWhole at hpk
      rw [if_pos hg, if_neg (by omega), if_neg (by omega), if_neg (by omega), if_neg (by omega)] at hpk
      exact hpk
  · have hpk := hp w1 k1
    unfold aWhole at hpk
    rw [if_neg hz] at hpk
    exact hpk
/-! free -/
def bkf (f : Int → Int) (l0 : Int) : Nat → Int × Int
  | 0 => (-1, l0)
  | n + 1 => if f n < (bkf f l0 n).2 then ((n : Int), f n) else bkf f l0 n
theorem bkf_step (f : Int → Int) (l0 : Int) {i : Int} (hi : 0 ≤ i) : bkf f l0 (i + 1).toNat = if f i < (bkf f l0 i.toNat).2 then (i, f i) else bkf f l0 i.toNat := by
  obtain ⟨n, hn⟩ : ∃ n : Nat, i = (n : Int) := ⟨i.toNat, by omega⟩
  subst hn
  rw [show ((n : Int) + 1).toNat = n + 1 from by omega, Int.toNat_natCast]
  rfl
theorem bkf_b {f : Int → Int} {l0 A B : Int} (hl : A ≤ l0 ∧ l0 ≤ B) : ∀ n : Nat, (∀ k : Int, 0 ≤ k → k < n → A ≤ f k ∧ f k ≤ B) → A ≤ (bkf f l0 n).2 ∧ (bkf f l0 n).2 ≤ B
  | 0, _ => hl
  | n + 1, h => by
    have ih := bkf_b hl n (fun k x y => h k x (by omega))
    unfold bkf
    by_cases q : f n < (bkf f l0 n).2
    · rw [if_pos q]; exact h n (by omega) (by omega)
    · rw [if_neg q]; exact ih
theorem TK_pn0 {T : Nat → Int} {r : Int} (hT : TK T) (h0 : 0 ≤ r) (h1 : r < T 1) : TK (pn0 T r) := by
  have a1 := hT.2.1
  have a2 := hT.2.2.1
  have a3 := hT.2.2.2.1
  obtain ⟨a, rh, c, pc, ph, pk, er, em, lw⟩ := pn0_E (T := T) (r := r) h0 (by omega)
  exact TK_of hT a c pc er (by rw [show pn0 T r 4 = T 4 from lw]; exact hT.2.2.2.2.1) (fun q x y => by
    rw [pn0_P h0 x]
    split
    · omega
    · exact (hT.road x y).2.2.2.2.1) (fun q x y => by rw [rh q x (by omega)]; exact (hT.road x y).2.2.2.2.2.1) (fun q x y => by rw [ph q x (by omega)]; exact (hT.pers x y).1) (fun q x y => by rw [pk q x (by omega)]; exact (hT.pers x y).2.2) (fun e x y => by rw [em e x (by omega)]; exact (hT.erra x y).2.2.1)
theorem CA_pn0 {T : Nat → Int} {r : Int} {w : AW} (hT : TK T) (hC : CA w 265 T) (h0 : 0 ≤ r) (h1 : r < T 1) : CA (wI w (265 + 4) r.toNat 0) 265 (pn0 T r) := by
  have a1 := hT.2.1
  have a2 := hT.2.2.1
  have a3 := hT.2.2.2.1
  obtain ⟨a, rh, c, pc, ph, pk, er, em, lw⟩ := pn0_E (T := T) (r := r) h0 (by omega)
  have f : ∀ b k, b ≠ 265 + 4 → (wI w (265 + 4) r.toNat 0).1 b k = w.1 b k := fun b k hb => wI_cell _ _ _ _ hb
  refine CA_of hT hC a c pc er (fun k _ => f 265 k (by omega)) (fun i k hi => f (265 + i) k (by omega)) (by rw [f 265 17 (by omega), show pn0 T r 4 = T 4 from lw]; exact hC.2.2.2.2.1) (fun q x y => ⟨?_, ?_⟩) (fun q x y => ⟨?_, ?_⟩) (fun e x y => ?_)
  · rw [pn0_P h0 x, wI_at]
    by_cases e : q = r
    · rw [if_pos e, if_pos ⟨rfl, by rw [e]⟩]
    · rw [if_neg e, if_neg (by omega)]; exact (hC.road x y).2.2.2.1
  · rw [f _ _ (by omega), rh q x (by omega)]; exact (hC.road x y).2.2.2.2.1
  · rw [f _ _ (by omega), ph q x (by omega)]; exact (hC.pers x y).1
  · rw [f _ _ (by omega), pk q x (by omega)]; exact (hC.pers x y).2.2
  · rw [f _ _ (by omega), em e x (by omega)]; exact (hC.erra x y).2.2.1
/-- minutes walked with a free road -/
noncomputable def wfr (T : Nat → Int) (set r : Int) : Int := figS T (gAd T r set) 0 (T 2).toNat
theorem wfr_b {T : Nat → Int} {set r : Int} (hT : TK T) : -100000 ≤ wfr T set r ∧ wfr T set r ≤ 1000000 := by
  have a2 := hT.2.2.1
  have := figS_b hT (gAd_b (fr := r) (set := set) hT) 0 (T 2).toNat (by omega)
  unfold wfr
  omega
theorem ci_wif {F : Nat} {T : Nat → Int} {set r : Int} {w : AW} {P : Int → AW → Prop} (hF : FB F) (hT : TK T) (hC : CA w 265 T) (hCH : CH2 T w) (hn : nB set) (h0 : 0 ≤ r) (h1 : r < T 1) (h : ∀ w', FrX Sgw w w' → P (wfr T set r) w') : CI (m_X8_walkedIfFree F [vR 34, vR 265, vI set, vI r] w) P := by
  have a1 := hT.2.1
  have a2 := hT.2.2.1
  have hT' := TK_pn0 hT h0 h1
  refine wp_X8_walkedIfFree F 265 tw265 set r w _ ⟨⟨h0, by omega⟩, fun x ex => ⟨⟨h0, by omega⟩, fun w1 e1 => ?_⟩⟩
  have hC1 : CA w1 265 (pn0 T r) := by rw [e1]; exact CA_pn0 hT hC h0 h1
  refine cv_layWorths hF tw265 ap265 hC1 hT' (fun w2 f2 hW => ?_)
  have hC2 : CA w2 265 (pn0 T r) := hC1.fr f2 (by intro a k h1 h2; simp only [Schw]; omega)
  have f1 : FrX (fun j k => Sgw j k ∨ (j = 265 + 4 ∧ k = r.toNat)) w w1 := by rw [e1]; exact FrX.rf.wI _ (Or.inr ⟨rfl, rfl⟩)
  have f12 := f1.tr (f2.X.wk (by intro j k h; exact Or.inl (Or.inr h)))
  have hR2 : CH2 T w2 := hCH.frX f12 (by intro j k h1 h2; simp only [Sgw, Sgd, Sout]; omega)
  refine cv_goAllC hF tw265 ap265 hC2 (CH_RdE hT (pn0_E (T := T) (r := r) h0 (by omega)).1 hR2.1 hR2.2 hW) hT' hn (fun w3 f3 hz3 => ⟨⟨h0, by omega⟩, fun w4 e4 => ?_⟩)
  have f13 : FrX (fun j k => Sgw j k ∨ (j = 265 + 4 ∧ k = r.toNat)) w w3 := f12.tr (f3.wk (by intro j k h; exact Or.inl (Or.inl h)))
  have f4 : FrX Sgw w w4 := by
    refine ⟨fun a b q => ?_, by rw [e4]; exact f13.2⟩
    rw [e4]
    by_cases z : a = 265 + 4 ∧ b = r.toNat
    · refine ⟨by rw [z.1, z.2, wI_same]; exact ex, ?_⟩
      show w3.2.1 a b = _
      rw [f3.L a b (by rw [z.1]; simp only [Sgd, Sout]; omega), f2.L a b (by rw [z.1]; simp only [Schw]; omega), e1]
      rfl
    · exact ⟨by rw [wI_at, if_neg z]; exact f13.I a b (fun y => y.elim q z), f13.L a b (fun y => y.elim q z)⟩
  have hC4 : CA w4 265 T := hC.frX f4 (by intro a k h1 h2; simp only [Sgw, Sgd, Sout]; omega)
  refine ci_sumOfC hF tw265 hT hC4 (by decide) (q_i ?_)
  have hz4 : ZE T (CZ w4) (gAd (pn0 T r) (-1) set) := by
    have ee : ZE (pn0 T r) = ZE T := by
      obtain ⟨a, rh, c, pc, ph, pk, er, em, lw⟩ := pn0_E (T := T) (r := r) h0 (by omega)
      funext Z Z'
      unfold ZE
      rw [a.2.1, pc.1]
    rw [ee] at hz3
    rw [e4]
    exact hz3
  rw [if_pos (by decide), figS_ze hz4 _ _ (by omega), free_same hT h0 h1]
  exact h w4 f4
noncomputable def aFree (m : Int) (T : Nat → Int) (t set : Int) : Int := by
  classical
  exact if gd m T t set then (bkf (wfr T set) (wfr T set (-1)) (T 1).toNat).1 else -1
theorem cc_free {F : Nat} {t set : Int} {w : AW} {P : Int → AW → Prop} (hF : FB F) (hI : TwI w) (ht : iR t) (hs : iR set) (hp : ∀ w', KQ w w' → P (aFree (w.1 5 0) (TR w t) t set) w') : CI (m_X8_free F [vR 34, vI t, vI set] w) P := by
  refine wp_X8_free F t set w _ (cr_plan' hF hI ht hs (fun hg hT hn hn2 w1 k1 hC hCH => ⟨fun q => (by cases q), fun j hj => ?_⟩) (fun hz => ⟨fun _ => q_i ?_, fun j hj => (by cases hj)⟩))
  · cases hj
    have a1 := hT.2.1
    have a2 := hT.2.2.1
    refine cv_goAllC hF tw265 ap265 hC hCH hT hn (fun w2 f2 hz2 => ci_sumOfC hF tw265 hT (ca_gd hC f2) (by decide) ?_)
    rw [if_pos (by decide), figS_ze hz2 _ _ (by omega)]
    have f2' : FrX Sgw w1 w2 := f2.wk (by intro j k h; exact Or.inl h)
    refine tt_for (K := k_X8_free_39 F) (TR w t 1) (fun i w' l => FrX Sgw w1 w' ∧ 0 ≤ i ∧ i ≤ TR w t 1 ∧ ∃ v, l = [vR 34, vI t, vI set, vR 265, vI (bkf (wfr (TR w t) set) (wfr (TR w t) set (-1)) i.toNat).2, vI (bkf (wfr (TR w t) set) (wfr (TR w t) set (-1)) i.toNat).1, vI i, v]) ?_ F 0 _ w2 (by omega) ⟨f2', by omega, by omega, vU, rfl⟩
    rintro n i l w3 ⟨f3, hi0, hi1, v, rfl⟩ hk
    have hC3 : CA w3 265 (TR w t) := hC.frX f3 (by intro a k h1 h2; simp only [Sgw, Sgd, Sout]; omega)
    rw [ks_X8_free_39]
    refine wp_X8_free_39 F _ t set 265 tw265 _ _ i v w3 _ ?_
    rw [hC3.2.1, w_id (x := i) (by omega) (by omega), w_id (x := TR w t 1) (by omega) (by omega)]
    refine ⟨fun q => ci_wif hF hT hC3 (CH2.frX ⟨hCH.1, hCH.2.1⟩ f3 (by intro j k h1 h2; simp only [Sgw, Sgd, Sout]; omega)) hn hi0 q (fun w4 f4 => ?_), fun q => q_i ?_⟩
    · have hb := bkf_b (f := wfr (TR w t) set) (wfr_b (set := set) (r := -1) hT) i.toNat (fun k _ _ => wfr_b (set := set) (r := k) hT)
      have hb2 := wfr_b (set := set) (r := i) hT
      have st := bkf_step (wfr (TR w t) set) (wfr (TR w t) set (-1)) hi0
      rw [w_id (x := wfr (TR w t) set i) (by omega) (by omega), w_id (x := (bkf (wfr (TR w t) set) (wfr (TR w t) set (-1)) i.toNat).2) (by omega) (by omega)]
      refine ⟨fun q2 => wp_X8_free_73 F _ t set 265 tw265 _ _ i _ w4 _ (hk _ _ ⟨f3.tr f4, by omega, by omega, vI (wfr (TR w t) set i), ?_⟩ q), fun q2 => wp_X8_free_73 F _ t set 265 tw265 _ _ i _ w4 _ (hk _ _ ⟨f3.tr f4, by omega, by omega, vI (wfr (TR w t) set i), ?_⟩ q)⟩
      · rw [st, if_pos q2]
      · rw [st, if_neg q2]
    · have hpk := hp w3 (k1.tr (f3.KQ (by intro j k; simp only [Sgw, Sgd, Sout]; omega)))
      unfold aFree at hpk
      rw [if_pos hg] at hpk
      rw [show i = TR w t 1 from by omega]
      exact hpk
  · have hpk := hp w KQ.rf
    unfold aFree at hpk
    rw [if_neg hz] at hpk
    exact hpk
theorem RX_fr {T : Nat → Int} {fr fr' : Int} {w : AW} (hX : RX T fr w) : RX T fr' (wI w 0 28 fr') := by
  have f : Fr (fun j k => j = 0 ∧ k = 28) w (wI w 0 28 fr') := Fr.rf.wI _ ⟨rfl, rfl⟩
  exact ⟨hX.1.fr f (by intro j k; simp only [SHA]; omega), wI_same _ _ _ _, hX.2.2.fr f (by intro k; omega)⟩
theorem cr_free {F : Nat} {t set : Int} {w : AW} {P : Int → AW → Prop} (hF : FB F) (hI : TwI w) (ht : iR t) (hs : iR set) (hp : ∀ w', KQ w w' → P (aFree (w.1 5 0) (TR w t) t set) w') : CI (m_X9_free F [vR 0, vI t, vI set] w) P := by
  refine wp_X9_free F t set w _ (fun w0 e0 => ci_lay' hF hI e0 ht hs (fun hg hT hn hn2 w1 k1 hX _ => br1 ?_) (fun hz w1 k1 => br0 (q_i ?_)))
  · have a1 := hT.2.1
    have a2 := hT.2.2.1
    refine cv_day hF hT hX (by omega) hn hn2 (fun w2 f2 hz2 => ci_sums hF hT (rx_day hX f2).1 (Or.inl rfl) (by decide) ?_)
    rw [if_pos rfl, figS_ze hz2 _ _ (by omega)]
    refine tt_for (K := k_X9_free_34 F) (TR w t 1) (fun i w' l => KQ w w' ∧ (∃ fr, RX (TR w t) fr w') ∧ 0 ≤ i ∧ i ≤ TR w t 1 ∧ l = [vR 0, vI t, vI set, vI (bkf (wfr (TR w t) set) (wfr (TR w t) set (-1)) i.toNat).2, vI (bkf (wfr (TR w t) set) (wfr (TR w t) set (-1)) i.toNat).1, vI i]) ?_ F 0 _ w2 (by omega) ⟨k1.tr (day_KQ f2), ⟨-1, rx_day hX f2⟩, by omega, by omega, rfl⟩
    rintro n i l w3 ⟨k3, ⟨fr, hX3⟩, hi0, hi1, rfl⟩ hk
    have e23 : w3.1 0 23 = TR w t 1 := hX3.1.2.2.1
    rw [ks_X9_free_34]
    refine wp_X9_free_34 F _ t set _ _ i w3 _ ?_
    rw [e23, w_id (x := i) (by omega) (by omega), w_id (x := TR w t 1) (by omega) (by omega)]
    refine ⟨fun q w4 e4 => ?_, fun q => q_i ?_⟩
    · have hX4 : RX (TR w t) i w4 := by rw [e4]; exact RX_fr hX3
      refine cv_day hF hT hX4 (by omega) hn hn2 (fun w5 f5 hz5 => ?_)
      have hX5 := rx_day hX4 f5
      have k5 : KQ w w5 := k3.tr (KQ.tr (by rw [e4]; exact wI0_KQ) (day_KQ f5))
      have hsum : ∀ (Q : Int → AW → Prop), Q (wfr (TR w t) set i) w5 → CI (m_X9_sums F [vR 0, vI (-1), vI 0] w5) Q := fun Q hQ => by
        refine ci_sums hF hT hX5.1 (Or.inl rfl) (by decide) ?_
        rw [if_pos rfl, figS_ze hz5 _ _ (by omega)]
        exact hQ
      have hb := bkf_b (f := wfr (TR w t) set) (wfr_b (set := set) (r := -1) hT) i.toNat (fun k _ _ => wfr_b (set := set) (r := k) hT)
      have hb2 := wfr_b (set := set) (r := i) hT
      have st := bkf_step (wfr (TR w t) set) (wfr (TR w t) set (-1)) hi0
      refine hsum _ ?_
      rw [w_id (x := wfr (TR w t) set i) (by omega) (by omega), w_id (x := (bkf (wfr (TR w t) set) (wfr (TR w t) set (-1)) i.toNat).2) (by omega) (by omega)]
      refine ⟨fun q2 => wp_X9_free_71 F _ t set _ _ i _ w5 _ (hsum _ ?_), fun q2 => wp_X9_free_71 F _ t set _ _ i _ w5 _ (hsum _ ?_)⟩
      · rw [w_id (x := wfr (TR w t) set i) (by omega) (by omega), w_id (x := (bkf (wfr (TR w t) set) (wfr (TR w t) set (-1)) i.toNat).2) (by omega) (by omega)]
        refine ⟨fun _ => hsum _ (wp_X9_free_93 F _ t set _ _ i _ w5 _ (hk _ _ ⟨k5, ⟨i, hX5⟩, by omega, by omega, ?_⟩ q)), fun z => absurd q2 z⟩
        rw [st, if_pos q2]
      · rw [w_id (x := wfr (TR w t) set i) (by omega) (by omega), w_id (x := (bkf (wfr (TR w t) set) (wfr (TR w t) set (-1)) i.toNat).2) (by omega) (by omega)]
        refine ⟨fun z => absurd z q2, fun _ => wp_X9_free_93 F _ t set _ _ i _ w5 _ (hk _ _ ⟨k5, ⟨i, hX5⟩, by omega, by omega, ?_⟩ q)⟩
        rw [st, if_neg q2]
    · have hpk := hp w3 k3
      unfold aFree at hpk
      rw [if_pos hg] at hpk
      rw [show i = TR w t 1 from by omega]
      exact hpk
  · have hpk := hp w1 k1
    unfold aFree at hpk
    rw [if_neg hz] at hpk
    exact hpk
