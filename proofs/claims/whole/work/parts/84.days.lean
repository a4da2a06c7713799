/-! MANY DAYS BY A SEED -/
def drw (x : Int) : Int := (bUsh x 16) - Int.tdiv (w32 (bUsh x 16)) 100 * 100
def dst (T : Nat → Int) : Nat → Int → Int × Int
  | 0, x => (0, x)
  | n + 1, x => (if w32 (drw ((dst T n x).2 * 1103515245 + 12345)) < w32 (eL T n) then bOr (dst T n x).1 (bShl 1 n) else (dst T n x).1, (dst T n x).2 * 1103515245 + 12345)
theorem dst_step {T : Nat → Int} {x e : Int} (h : 0 ≤ e) : dst T (e + 1).toNat x = (if w32 (drw ((dst T e.toNat x).2 * 1103515245 + 12345)) < w32 (eL T e) then bOr (dst T e.toNat x).1 (bShl 1 e) else (dst T e.toNat x).1, (dst T e.toNat x).2 * 1103515245 + 12345) := by
  obtain ⟨n, hn⟩ : ∃ n : Nat, e = (n : Int) := ⟨e.toNat, by omega⟩
  subst hn
  rw [show ((n : Int) + 1).toNat = n + 1 from by omega, Int.toNat_natCast]
  rfl
theorem dst_ok {T : Nat → Int} {x : Int} : ∀ n : Nat, n ≤ 12 → nB (dst T n x).1 ∧ ∀ i : Nat, tb (dst T n x).1 i = true → i < n
  | 0, _ => ⟨⟨Int.le_refl _, by show (0 : Int) < 2147483648; decide⟩, fun i h => by
    have : tb 0 i = true := h
    rw [tb_0] at this; cases this⟩
  | n + 1, hn => by
    obtain ⟨h1, h2⟩ := dst_ok (T := T) (x := x) n (by omega)
    have hs := bShl_nB (k := n) (by omega) (by omega)
    have e : (dst T (n + 1) x).1 = if w32 (drw ((dst T n x).2 * 1103515245 + 12345)) < w32 (eL T n) then bOr (dst T n x).1 (bShl 1 n) else (dst T n x).1 := rfl
    rw [e]
    by_cases q : w32 (drw ((dst T n x).2 * 1103515245 + 12345)) < w32 (eL T n)
    · rw [if_pos q]
      refine ⟨(bOr_eq h1 hs).2, fun i hi => ?_⟩
      rw [tb_or h1 hs, tb_shl (by omega) (by omega), Int.toNat_natCast] at hi
      by_cases z : n = i
      · omega
      · have : tb (dst T n x).1 i = true := by simpa [z] using hi
        have := h2 i this
        omega
    · rw [if_neg q]
      exact ⟨h1, fun i hi => by have := h2 i hi; omega⟩
noncomputable def dys (T : Nat → Int) (seed : Int) : Nat → (Nat → Nat → Int) × Int
  | 0 => (gNew T (-1), seed)
  | n + 1 => (gDay T (-1) (dst T (T 3).toNat (dys T seed n).2).1 (dys T seed n).1, (dst T (T 3).toNat (dys T seed n).2).2)
theorem dys_step {T : Nat → Int} {seed i : Int} (h : 0 ≤ i) : dys T seed (i + 1).toNat = (gDay T (-1) (dst T (T 3).toNat (dys T seed i.toNat).2).1 (dys T seed i.toNat).1, (dst T (T 3).toNat (dys T seed i.toNat).2).2) := by
  rw [show (i + 1).toNat = i.toNat + 1 from by omega]
  rfl
theorem dys_ok {T : Nat → Int} {seed : Int} (hT : TK T) : ∀ n : Nat, ZB T 0 (gMor T (dys T seed n).1) ∧ L3 T ((dys T seed n).1 0)
  | 0 => ⟨gNew_ZB hT, fun h r hr => by show own0 T (-1) r = -1; unfold own0; rw [if_pos (Or.inl h)]⟩
  | n + 1 => by
    have a3 := hT.2.2.2.1
    obtain ⟨h1, h2⟩ := dys_ok (seed := seed) hT n
    have ho := ordl_ok T (dst T (T 3).toNat (dys T seed n).2).1
    have hz := gAll_ZB (fr := -1) hT (ordl T (dst T (T 3).toNat (dys T seed n).2).1) 0 _ (by omega) (by have := ho.2.2; omega) (fun e he => by have := (ho.2.1 e).mp he; omega) h1
    refine ⟨⟨hz.1, fun p hp => ⟨(hT.pers (p := p) (by omega) hp).1, ?_⟩, hz.2.2⟩, gAll_L3 _ _ h2⟩
    show 0 ≤ (0 : Int) ∧ (0 : Int) ≤ 359 + 240 * 0
    omega
theorem gDay_congr {T : Nat → Int} {fr set : Int} (hT : TK T) {Z Z' : Nat → Nat → Int} (h : ZE T (gMor T Z) (gMor T Z')) : ZE T (gDay T fr set Z) (gDay T fr set Z') := by
  unfold gDay
  have a3 := hT.2.2.2.1
  exact gAll_congr hT _ _ _ (fun e he => by have := ((ordl_ok T set).2.1 e).mp he; omega) h
theorem cv_goDays {F : Nat} {T : Nat → Int} {seed n : Int} {w : AW} {P : AW → Prop} (hF : FB F) (hC : CA w 265 T) (hCH : CH T w) (hT : TK T) (hn : 1 ≤ n ∧ n ≤ 30) (hp : ∀ w', FrX Sgd w w' → ZE T (CZ w') (dys T seed n.toNat).1 → P w') : CV (m_X4_goDays F [vR 254, vR 265, vI seed, vI n] w) P := by
  have a3 := hT.2.2.2.1
  refine wp_X4_goDays F 265 tw265 seed n w _ (cv_begin hF tw265 ap265 hC hT (fun w1 f1 b1 b2 b3 b4 b5 => ?_))
  have f1' : FrX Sgd w w1 := f1.X.wk (by intro j k; simp only [Sgd, Sout]; omega)
  have hz0 : ZE T (gMor T (CZ w1)) (gMor T (gNew T (-1))) := ⟨fun r hr => b1 r hr, fun p hp' => ⟨rfl, rfl⟩, fun p hp' => b2 p hp', fun r hr => b3 r hr, b4, b5⟩
  refine tt_for (K := k_X4_goDays_11 F) n (fun i w' l => FrX Sgd w w' ∧ 0 ≤ i ∧ i ≤ n ∧ ZE T (gMor T (CZ w')) (gMor T (dys T seed i.toNat).1) ∧ (1 ≤ i → ZE T (CZ w') (dys T seed i.toNat).1) ∧ ∃ u v, l = [vR 254, vR 265, vI seed, vI n, vI (dys T seed i.toNat).2, vI i, u, v]) ?_ F 0 _ w1 (by omega) ⟨f1', by omega, by omega, hz0, fun z => by omega, vU, vU, rfl⟩
  rintro m i l w2 ⟨f2, hi0, hi1, hz2, hz2', u, v, rfl⟩ hk
  rw [ks_X4_goDays_11]
  refine wp_X4_goDays_11 F _ 265 tw265 seed n _ i u v w2 _ ?_
  rw [w_id (x := i) (by omega) (by omega), w_id (x := n) (by omega) (by omega)]
  refine ⟨fun q => ?_, fun q => q_v (hp w2 f2 (by rw [← show i = n from by omega]; exact hz2' (by omega)))⟩
  have hC2 := ca_gd hC f2
  have hCH2 := ch_gd hCH f2
  refine tt_for (K := k_X4_goDays_23 F (k_X4_goDays_11 F m)) (T 3) (fun e w' l => w' = w2 ∧ 0 ≤ e ∧ e ≤ T 3 ∧ l = [vR 254, vR 265, vI seed, vI n, vI (dst T e.toNat (dys T seed i.toNat).2).2, vI i, vI (dst T e.toNat (dys T seed i.toNat).2).1, vI e]) ?_ F 0 _ w2 (by omega) ⟨rfl, by omega, by omega, rfl⟩
  rintro m2 e l w3 ⟨rfl, he0, he1, rfl⟩ hk2
  rw [ks_X4_goDays_23]
  refine wp_X4_goDays_23 F _ _ 265 tw265 seed n _ i _ e w3 _ ?_
  rw [hC2.2.2.2.1, w_id (x := e) (by omega) (by omega), w_id (x := T 3) (by omega) (by omega)]
  refine ⟨fun q2 x ex => ⟨⟨he0, by omega⟩, ?_⟩, fun q2 => ?_⟩
  · rw [(hC2.erra he0 q2).2.2.2]
    have st := dst_step (T := T) (x := (dys T seed i.toNat).2) he0
    have ed : (bUsh x 16) - Int.tdiv (w32 (bUsh x 16)) 100 * 100 = drw ((dst T e.toNat (dys T seed i.toNat).2).2 * 1103515245 + 12345) := by rw [ex]; rfl
    rw [ed]
    refine ⟨fun q3 y ey => wp_X4_goDays_70 F _ _ 265 tw265 seed n x i y e w3 _ (hk2 _ _ ⟨rfl, by omega, by omega, ?_⟩ q2), fun q3 => wp_X4_goDays_70 F _ _ 265 tw265 seed n x i _ e w3 _ (hk2 _ _ ⟨rfl, by omega, by omega, ?_⟩ q2)⟩
    · rw [st, if_pos q3, ey, ex]
    · rw [st, if_neg q3, ex]
  · have e3 : e = T 3 := by omega
    subst e3
    obtain ⟨d1, d2⟩ := dys_ok (seed := seed) hT i.toNat
    have hO : OK T (w3.1 255) := fun r x y => by
      have : w3.1 255 r.toNat = (dys T seed i.toNat).1 0 r.toNat := hz2.1 r.toNat (by omega)
      rw [this]
      exact d1.1 r.toNat (by omega)
    have hL : L3 T (w3.1 255) := fun h r hr => by
      have : w3.1 255 r = (dys T seed i.toNat).1 0 r := hz2.1 r hr
      rw [this]
      exact d2 h r hr
    have hla : 0 ≤ w3.1 254 3 ∧ w3.1 254 3 ≤ 100000 := by
      have : w3.1 254 3 = (dys T seed i.toNat).1 9 0 := hz2.2.2.2.2.1
      rw [this]
      exact d1.2.2
    refine cv_goDay hF tw265 ap265 hC2 hCH2 hT hO hL hla (dst_ok (T := T) (x := (dys T seed i.toNat).2) (T 3).toNat (by omega)).1 (fun w4 f4 hz4 => hk _ _ ⟨f2.tr f4, by omega, by omega, ?_, fun _ => ?_, vI (dst T (T 3).toNat (dys T seed i.toNat).2).1, vI (T 3), ?_⟩ q)
    · rw [dys_step hi0]
      exact gMor_congr (hz4.tr (gDay_congr hT hz2))
    · rw [dys_step hi0]
      exact hz4.tr (gDay_congr hT hz2)
    · rw [dys_step hi0]
noncomputable def aDays (m : Int) (T : Nat → Int) (t seed n what : Int) : Int := by
  classical
  exact if gd m T t 0 ∧ (1 ≤ n ∧ n ≤ 30) then (if what = 0 ∨ what = 1 ∨ what = 3 then figS T (dys T seed n.toNat).1 what (T 2).toNat else if 10 ≤ what ∧ what < 10 + T 1 then (dys T seed n.toNat).1 0 (what - 10).toNat else if 30 ≤ what ∧ what < 30 + T 2 then (dys T seed n.toNat).1 5 (what - 30).toNat - (dys T seed n.toNat).1 4 (what - 30).toNat else -100000) else -100000
theorem cc_days {F : Nat} {t seed n what : Int} {w : AW} {P : Int → AW → Prop} (hF : FB F) (hI : TwI w) (ht : iR t) (hnr : iR n) (hwr : iR what) (hp : ∀ w', KQ w w' → P (aDays (w.1 5 0) (TR w t) t seed n what) w') : CI (m_X8_days F [vR 34, vI t, vI seed, vI n, vI what] w) P := by
  refine wp_X8_days F t seed n what w _ (cr_plan' hF hI ht (by decide) (fun hg hT _ hn2 w1 k1 hC hCH => ⟨fun q => (by cases q), fun j hj => ?_⟩) (fun hz => ⟨fun _ => q_i ?_, fun j hj => (by cases hj)⟩))
  · cases hj
    have a1 := hT.2.1
    have a2 := hT.2.2.1
    have no : ¬ (1 ≤ n ∧ n ≤ 30) → P (-100000) w1 := fun hk => by
      have hpk := hp w1 k1
      unfold aDays at hpk
      rw [if_neg (fun y => hk y.2)] at hpk
      exact hpk
    rw [w_id hnr.1 hnr.2]
    refine ⟨fun q => q_i (no (by omega)), fun q => ⟨fun q2 => q_i (no (by omega)), fun q2 => cv_goDays hF hC hCH hT (by omega) (fun w2 f2 hz2 => ?_)⟩⟩
    have hC2 := ca_gd hC f2
    have hpk := hp w2 (k1.tr (gd_KQ f2))
    unfold aDays at hpk
    rw [if_pos ⟨hg, by omega⟩] at hpk
    have go : (what = 0 ∨ what = 1 ∨ what = 3) → TT (k_X8_days_56 F [vR 34, vI t, vI seed, vI n, vI what, vR 265] [] w2) (qq 1 (fun r w => ∃ x, r = some (vI x) ∧ P x w)) := fun z => by
      refine wp_X8_days_56 F t seed n what 265 tw265 w2 _ (ci_sumOfC hF tw265 hT hC2 hwr (q_i ?_))
      rw [if_pos z] at hpk
      rw [if_pos (by omega), figS_ze hz2 _ _ (by omega)]
      exact hpk
    have go2 : ¬ (what = 0 ∨ what = 1 ∨ what = 3) → ¬ (10 ≤ what ∧ what < 10 + TR w t 1) → TT (k_X8_days_102 F [vR 34, vI t, vI seed, vI n, vI what, vR 265] [] w2) (qq 1 (fun r w => ∃ x, r = some (vI x) ∧ P x w)) := fun z1 z2 => by
      rw [if_neg z1, if_neg z2] at hpk
      refine wp_X8_days_102 F t seed n what 265 tw265 w2 _ ?_
      rw [hC2.2.2.1, w_id hwr.1 hwr.2, w_id (x := 30 + TR w t 2) (by omega) (by omega)]
      refine ⟨fun y => q_i ?_, fun y => ⟨fun y2 => ci_figure tw265 hT hC2 (by omega) (by omega) (by decide) (ci_figure tw265 hT hC2 (by omega) (by omega) (by decide) (q_i ?_)), fun y2 => q_i ?_⟩⟩
      · rw [if_neg (by omega)] at hpk; exact hpk
      · rw [if_pos (by omega)] at hpk
        rw [if_pos (by decide), if_pos (by decide), fig_ze hz2 (by omega), fig_ze hz2 (by omega)]
        exact hpk
      · rw [if_neg (by omega)] at hpk; exact hpk
    rw [hC2.2.1, w_id hwr.1 hwr.2, w_id (x := 10 + TR w t 1) (by omega) (by omega)]
    refine ⟨fun z => go (by omega), fun z => ⟨fun z1 => go (by omega), fun z1 => ⟨fun z2 => go (by omega), fun z2 => ⟨fun z3 => go2 (by omega) (by omega), fun z3 => ⟨tw265, fun z4 => ⟨⟨by omega, by omega⟩, q_i ?_⟩, fun z4 => go2 (by omega) (by omega)⟩⟩⟩⟩⟩
    rw [if_neg (by omega), if_pos (by omega)] at hpk
    have : w2.1 255 (what - 10).toNat = (dys (TR w t) seed n.toNat).1 0 (what - 10).toNat := hz2.1 _ (by omega)
    rw [this]
    exact hpk
  · have hpk := hp w KQ.rf
    unfold aDays at hpk
    rw [if_neg (fun y => hz y.1)] at hpk
    exact hpk
