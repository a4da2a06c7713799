/-! OTHER KINDS -/
/-- the first of the least -/
def bkn (f : Int → Int) : Nat → Int × Int
  | 0 => (0, f 0)
  | n + 1 => if f ((n : Int) + 1) < (bkn f n).2 then ((n : Int) + 1, f ((n : Int) + 1)) else bkn f n
theorem bkn_ok (f : Int → Int) : ∀ n : Nat, (bkn f n).2 = f (bkn f n).1 ∧ (0 ≤ (bkn f n).1 ∧ (bkn f n).1 ≤ n) ∧ ∀ k : Int, 0 ≤ k → k ≤ n → (bkn f n).2 ≤ f k
  | 0 => ⟨rfl, ⟨Int.le_refl _, Int.le_refl _⟩, fun k h0 h1 => by
    have : k = 0 := by omega
    rw [this]; exact Int.le_refl _⟩
  | n + 1 => by
    obtain ⟨h1, h2, h3⟩ := bkn_ok f n
    unfold bkn
    by_cases q : f ((n : Int) + 1) < (bkn f n).2
    · rw [if_pos q]
      refine ⟨rfl, ⟨by show (0 : Int) ≤ (n : Int) + 1; omega, by show (n : Int) + 1 ≤ _; omega⟩, fun k x y => ?_⟩
      by_cases e : k = (n : Int) + 1
      · rw [e]; exact Int.le_refl _
      · have := h3 k x (by omega)
        show f ((n : Int) + 1) ≤ f k
        omega
    · rw [if_neg q]
      refine ⟨h1, ⟨h2.1, by omega⟩, fun k x y => ?_⟩
      by_cases e : k = (n : Int) + 1
      · rw [e]; omega
      · exact h3 k x (by omega)
theorem bkn_congr {f g : Int → Int} : ∀ n : Nat, (∀ k : Int, 0 ≤ k → k ≤ n → f k = g k) → bkn f n = bkn g n
  | 0, h => by unfold bkn; rw [h 0 (by omega) (by omega)]
  | n + 1, h => by
    unfold bkn
    rw [bkn_congr n (fun k x y => h k x (by omega)), h ((n : Int) + 1) (by omega) (by omega)]
def kd (T : Nat → Int) (p v : Int) : Nat → Int := fu T (162 + 3 * p) v
theorem kd_E {T : Nat → Int} {p v : Int} (h0 : 0 ≤ p) (h1 : p < 8) : RdE T (kd T p v) ∧ RpE T (kd T p v) ∧ RhE T (kd T p v) ∧ RcE T (kd T p v) ∧ PcE T (kd T p v) ∧ PhE T (kd T p v) ∧ ErE T (kd T p v) ∧ EmE T (kd T p v) ∧ LwE T (kd T p v) := ⟨rdE_fu (by omega) (fun r x y => by omega), rpE_fu (fun r x y => by omega), rhE_fu (fun r x y => by omega), rcE_fu (by omega) (fun r x y => by omega), pcE_fu (by omega) (fun r x y => by omega), phE_fu (fun r x y => by omega), erE_fu (by omega) (fun r x y => by omega), emE_fu (fun r x y => by omega), lwE_fu (by omega)⟩
theorem kd_K {T : Nat → Int} {p v q : Int} (h0 : 0 ≤ p) (h1 : 0 ≤ q) : pK (kd T p v) q = if q = p then v else pK T q := by
  by_cases e : q = p
  · rw [if_pos e]; exact fu_eq (by omega)
  · rw [if_neg e]; exact fu_ne (by omega)
theorem TK_kd {T : Nat → Int} {p v : Int} (hT : TK T) (h0 : 0 ≤ p) (h1 : p < 8) (hv : 0 ≤ v ∧ v ≤ 2) : TK (kd T p v) := by
  obtain ⟨a, rp, rh, c, pc, ph, er, em, lw⟩ := kd_E (T := T) (v := v) h0 h1
  have a1 := hT.2.1
  have a2 := hT.2.2.1
  have a3 := hT.2.2.2.1
  refine TK_of hT a c pc er (by rw [show kd T p v 4 = T 4 from lw]; exact hT.2.2.2.2.1) (fun r x y => by rw [rp r x (by omega)]; exact (hT.road x y).2.2.2.2.1) (fun r x y => by rw [rh r x (by omega)]; exact (hT.road x y).2.2.2.2.2.1) (fun q x y => by rw [ph q x (by omega)]; exact (hT.pers x y).1) (fun q x y => ?_) (fun e x y => by rw [em e x (by omega)]; exact (hT.erra x y).2.2.1)
  rw [kd_K h0 x]
  split
  · exact hv
  · exact (hT.pers x y).2.2
theorem HA_kd {T : Nat → Int} {p v : Int} {w : AW} (hT : TK T) (hH : HA w T) (h0 : 0 ≤ p) (h1 : p < 8) : HA (wI w 11 p.toNat v) (kd T p v) := by
  obtain ⟨a, rp, rh, c, pc, ph, er, em, lw⟩ := kd_E (T := T) (v := v) h0 h1
  have a1 := hT.2.1
  have a2 := hT.2.2.1
  have a3 := hT.2.2.2.1
  have f : ∀ b k, b ≠ 11 → (wI w 11 p.toNat v).1 b k = w.1 b k := fun b k hb => wI_cell _ _ _ _ hb
  refine HA_of hT hH a c pc er rp (fun k => f 6 k (by decide)) (fun k _ _ _ => f 0 k (by decide)) (by rw [f 0 26 (by decide), show kd T p v 4 = T 4 from lw]; exact hH.2.2.2.2.2.1) (fun r x y => ?_) (fun q x y => ⟨?_, ?_⟩) (fun e x y => ?_) (by rw [f 0 29 (by decide)]; exact hH.2.2.2.2.2.2.2.2.2.2)
  · rw [f 0 29 (by decide), f 0 30 (by decide), rh r x (by omega)]; exact (hH.road x y).2.2.2.2.2
  · rw [kd_K h0 x, wI_at]
    by_cases e : q = p
    · rw [if_pos e, if_pos ⟨rfl, by rw [e]⟩]
    · rw [if_neg e, if_neg (by omega)]; exact (hH.pers x y).2.1
  · rw [f 23 _ (by decide), ph q x (by omega)]; exact (hH.pers x y).2.2
  · rw [f 24 _ (by decide), em e x (by omega)]; exact (hH.erra x y).2.2.2
theorem CA_kd {T : Nat → Int} {p v : Int} {w : AW} {j : Nat} (hT : TK T) (hC : CA w j T) (h0 : 0 ≤ p) (h1 : p < 8) : CA (wI w (j + 9) p.toNat v) j (kd T p v) := by
  obtain ⟨a, rp, rh, c, pc, ph, er, em, lw⟩ := kd_E (T := T) (v := v) h0 h1
  have a1 := hT.2.1
  have a2 := hT.2.2.1
  have a3 := hT.2.2.2.1
  have f : ∀ b k, b ≠ j + 9 → (wI w (j + 9) p.toNat v).1 b k = w.1 b k := fun b k hb => wI_cell _ _ _ _ hb
  refine CA_of hT hC a c pc er (fun k _ => f j k (by omega)) (fun i k hi => f (j + i) k (by omega)) (by rw [f j 17 (by omega), show kd T p v 4 = T 4 from lw]; exact hC.2.2.2.2.1) (fun r x y => ⟨?_, ?_⟩) (fun q x y => ⟨?_, ?_⟩) (fun e x y => ?_)
  · rw [f _ _ (by omega), rp r x (by omega)]; exact (hC.road x y).2.2.2.1
  · rw [f _ _ (by omega), rh r x (by omega)]; exact (hC.road x y).2.2.2.2.1
  · rw [f _ _ (by omega), ph q x (by omega)]; exact (hC.pers x y).1
  · rw [kd_K h0 x, wI_at]
    by_cases e : q = p
    · rw [if_pos e, if_pos ⟨rfl, by rw [e]⟩]
    · rw [if_neg e, if_neg (by omega)]; exact (hC.pers x y).2.2
  · rw [f _ _ (by omega), em e x (by omega)]; exact (hC.erra x y).2.2.1
theorem RX_kd {T : Nat → Int} {p v fr : Int} {w : AW} (hT : TK T) (hX : RX T fr w) (h0 : 0 ≤ p) (h1 : p < 8) : RX (kd T p v) fr (wI w 11 p.toNat v) := ⟨HA_kd hT hX.1 h0 h1, by rw [wI_cell _ _ _ _ (by decide)]; exact hX.2.1, FAR_RdE hT (kd_E h0 h1).1 (hX.2.2.fr (S := fun j _ => j = 11) (Fr.rf.wI _ rfl) (by intro k; decide))⟩
theorem CH_kd {T : Nat → Int} {p v : Int} {w : AW} {k : Nat} (hT : TK T) (hC : CH T w) (h0 : 0 ≤ p) (h1 : p < 8) : CH (kd T p v) (wI w (265 + 9) k v) := by
  obtain ⟨a, rp, rh, c, pc, ph, er, em, lw⟩ := kd_E (T := T) (v := v) h0 h1
  refine CH_E hT a rp c lw (hC.eq (fun j k h1 h2 => ⟨wI_cell _ _ _ _ (by omega), rfl⟩))
theorem kd_ordl {T : Nat → Int} {p v set : Int} (hT : TK T) (h0 : 0 ≤ p) (h1 : p < 8) : ZE (kd T p v) = ZE T := by
  obtain ⟨a, rp, rh, c, pc, ph, er, em, lw⟩ := kd_E (T := T) (v := v) h0 h1
  funext Z Z'
  unfold ZE
  rw [a.2.1, pc.1]
/-- the cost of one's day as another kind -/
noncomputable def nk (T : Nat → Int) (set p k : Int) : Int := fig T (gAd (kd T p k) (-1) set) p.toNat 4
theorem nk_b {T : Nat → Int} {set p k : Int} (hT : TK T) (h0 : 0 ≤ p) (h1 : p < T 2) (hk : 0 ≤ k ∧ k ≤ 2) : -10000 ≤ nk T set p k ∧ nk T set p k ≤ 100000 := by
  have a2 := hT.2.2.1
  exact fig_b hT (gAd_b (TK_kd hT h0 (by omega) hk)) (by omega) 4
theorem Fr_back {S S' : Nat → Nat → Prop} {w w' : AW} {j k : Nat} (h : Fr S w w') (hs : ∀ a b, S a b → S' a b ∨ (a = j ∧ b = k)) {x : Int} (hx : x = w.1 j k) (hL : w'.2.1 j k = w.2.1 j k) : Fr S' w (wI w' j k x) := by
  refine ⟨fun a b q => ?_, h.2⟩
  by_cases e : a = j ∧ b = k
  · obtain ⟨rfl, rfl⟩ := e
    exact ⟨by rw [wI_same]; exact hx, hL⟩
  · have hq := h.1 a b (fun z => by
      rcases hs a b z with z1 | z1
      · exact q z1
      · exact e z1)
    refine ⟨?_, hq.2⟩
    rw [wI_at, if_neg e]
    exact hq.1
theorem ci_netAs {F : Nat} {T : Nat → Int} {set p k : Int} {w : AW} {P : Int → AW → Prop} (hF : FB F) (hT : TK T) (hX : RX T (-1) w) (hn : nB set) (hn2 : ∀ e : Nat, tb set e = true → (e : Int) < T 3) (h0 : 0 ≤ p) (h1 : p < T 2) (hk : 0 ≤ k ∧ k ≤ 2) (h : ∀ w', Fr Sday w w' → P (nk T set p k) w') : CI (m_X9_netAs F [vR 0, vI set, vI p, vI k] w) P := by
  have a2 := hT.2.2.1
  have hT' := TK_kd (v := k) hT h0 (by omega) hk
  refine wp_X9_netAs F set p k w _ ⟨⟨h0, by omega⟩, fun x ex => ⟨⟨h0, by omega⟩, fun w1 e1 => ?_⟩⟩
  have hX1 : RX (kd T p k) (-1) w1 := by rw [e1]; exact RX_kd hT hX h0 (by omega)
  refine cv_day hF hT' hX1 (by omega) hn (fun e he => by rw [(kd_E (T := T) (v := k) h0 (by omega)).2.2.2.2.2.2.1.1]; exact hn2 e he) (fun w2 f2 hz2 => ⟨⟨h0, by omega⟩, fun w3 e3 => ?_⟩)
  have f3 : Fr Sday w w3 := by
    rw [e3]
    have f1 : Fr (fun j k => Sday j k ∨ (j = 11 ∧ k = p.toNat)) w w2 := by
      have : Fr (fun j k => Sday j k ∨ (j = 11 ∧ k = p.toNat)) w w1 := by rw [e1]; exact Fr.rf.wI _ (Or.inr ⟨rfl, rfl⟩)
      exact this.tr (f2.wk (fun j k z => Or.inl z))
    refine Fr_back f1 (fun a b z => z) ex ?_
    rw [f2.L 11 _ (by simp only [Sday]; omega), e1]
    rfl
  refine ci_net hT (rx_day hX f3).1 h0 h1 (q_i ?_)
  have hz3 : ZE T (RZ w3) (gAd (kd T p k) (-1) set) := by
    rw [kd_ordl (set := set) hT h0 (by omega)] at hz2
    rw [e3]
    exact hz2
  rw [fig_ze hz3 (by omega)]
  exact h w3 f3
theorem ci_netByKind {F : Nat} {T : Nat → Int} {set p k : Int} {w : AW} {P : Int → AW → Prop} (hF : FB F) (hT : TK T) (hC : CA w 265 T) (hCH : CH T w) (hn : nB set) (h0 : 0 ≤ p) (h1 : p < T 2) (hk : 0 ≤ k ∧ k ≤ 2) (h : ∀ w', FrX Sgd w w' → P (nk T set p k) w') : CI (m_X8_netByKind F [vR 34, vR 265, vI set, vI p, vI k] w) P := by
  have a2 := hT.2.2.1
  have hT' := TK_kd (v := k) hT h0 (by omega) hk
  refine wp_X8_netByKind F 265 tw265 set p k w _ ⟨⟨h0, by omega⟩, fun x ex => ⟨⟨h0, by omega⟩, fun w1 e1 => ?_⟩⟩
  have hC1 : CA w1 265 (kd T p k) := by rw [e1]; exact CA_kd hT hC h0 (by omega)
  have hCH1 : CH (kd T p k) w1 := by rw [e1]; exact CH_kd hT hCH h0 (by omega)
  refine cv_goAllC hF tw265 ap265 hC1 hCH1 hT' hn (fun w2 f2 hz2 => ⟨⟨h0, by omega⟩, fun w3 e3 => ?_⟩)
  have f3 : FrX Sgd w w3 := by
    refine ⟨fun a b q => ?_, by rw [e3]; show w2.2.2.1 = _; rw [f2.2, e1]; rfl⟩
    rw [e3]
    refine ⟨?_, by show w2.2.1 a b = _; rw [f2.L a b q, e1]; rfl⟩
    by_cases z : a = 265 + 9 ∧ b = p.toNat
    · rw [z.1, z.2, wI_same]; exact ex
    · rw [wI_at, if_neg z, f2.I a b q, e1, wI_at, if_neg z]
  refine ci_figure tw265 hT (ca_gd hC f3) h0 h1 (by decide) (q_i ?_)
  have hz3 : ZE T (CZ w3) (gAd (kd T p k) (-1) set) := by
    rw [kd_ordl (set := set) hT h0 (by omega)] at hz2
    rw [e3]
    exact hz2
  rw [if_pos (by decide), fig_ze hz3 (by omega)]
  exact h w3 f3
noncomputable def aTurned (m : Int) (T : Nat → Int) (t set p k : Int) : Int := by
  classical
  exact if gd m T t set ∧ (0 ≤ p ∧ p < T 2) ∧ (0 ≤ k ∧ k ≤ 2) then nk T set p k else -100000
theorem cc_turned {F : Nat} {t set p k : Int} {w : AW} {P : Int → AW → Prop} (hF : FB F) (hI : TwI w) (ht : iR t) (hs : iR set) (hpr : iR p) (hkr : iR k) (hp : ∀ w', KQ w w' → P (aTurned (w.1 5 0) (TR w t) t set p k) w') : CI (m_X8_turned F [vR 34, vI t, vI set, vI p, vI k] w) P := by
  refine wp_X8_turned F t set p k w _ (cr_plan' hF hI ht hs (fun hg hT hn hn2 w1 k1 hC hCH => ⟨fun q => (by cases q), fun j hj => ?_⟩) (fun hz => ⟨fun _ => q_i ?_, fun j hj => (by cases hj)⟩))
  · cases hj
    have no : ¬ (0 ≤ k ∧ k ≤ 2) → P (-100000) w1 := fun hk => by
      have hpk := hp w1 k1
      unfold aTurned at hpk
      rw [if_neg (fun y => hk y.2.2)] at hpk
      exact hpk
    refine ⟨tw265, ci_hasPerson tw265 hC hT hpr (fun z => br1 ?_) (fun z => br0 (q_i ?_))⟩
    · rw [w_id hkr.1 hkr.2]
      refine ⟨fun q => q_i (no (by omega)), fun q => ⟨fun q2 => q_i (no (by omega)), fun q2 => ci_netByKind hF hT hC hCH hn z.1 z.2 (by omega) (fun w2 f2 => q_i ?_)⟩⟩
      have hpk := hp w2 (k1.tr (gd_KQ f2))
      unfold aTurned at hpk
      rw [if_pos ⟨hg, z, by omega⟩] at hpk
      exact hpk
    · have hpk := hp w1 k1
      unfold aTurned at hpk
      rw [if_neg (fun y => z y.2.1)] at hpk
      exact hpk
  · have hpk := hp w KQ.rf
    unfold aTurned at hpk
    rw [if_neg (fun y => hz y.1)] at hpk
    exact hpk
theorem cr_turned {F : Nat} {t set p k : Int} {w : AW} {P : Int → AW → Prop} (hF : FB F) (hI : TwI w) (ht : iR t) (hs : iR set) (hpr : iR p) (hkr : iR k) (hp : ∀ w', KQ w w' → P (aTurned (w.1 5 0) (TR w t) t set p k) w') : CI (m_X9_turned F [vR 0, vI t, vI set, vI p, vI k] w) P := by
  refine wp_X9_turned F t set p k w _ (fun w0 e0 => ci_lay' hF hI e0 ht hs (fun hg hT hn hn2 w1 k1 hX _ => br1 ?_) (fun hz w1 k1 => br0 (q_i ?_)))
  · refine ci_isPerson hX.1 hT hpr (fun z => br1 (ci_in hkr (by decide) (by decide) (fun y => br1 (ci_netAs hF hT hX hn hn2 z.1 z.2 y (fun w2 f2 => q_i ?_))) (fun y => br0 (q_i ?_)))) (fun z => br0 (q_i ?_))
    · have hpk := hp w2 (k1.tr (day_KQ f2))
      unfold aTurned at hpk
      rw [if_pos ⟨hg, z, y⟩] at hpk
      exact hpk
    · have hpk := hp w1 k1
      unfold aTurned at hpk
      rw [if_neg (fun x => y x.2.2)] at hpk
      exact hpk
    · have hpk := hp w1 k1
      unfold aTurned at hpk
      rw [if_neg (fun x => z x.2.1)] at hpk
      exact hpk
  · have hpk := hp w1 k1
    unfold aTurned at hpk
    rw [if_neg (fun y => hz y.1)] at hpk
    exact hpk
