def cntO (O : Nat → Int) (who : Int) : Nat → Int
  | 0 => 0
  | n + 1 => cntO O who n + (if O n = who then 1 else 0)
theorem cntO_congr {O O' : Nat → Int} {who : Int} : ∀ n : Nat, (∀ r : Nat, r < n → O r = O' r) → cntO O who n = cntO O' who n
  | 0, _ => rfl
  | n + 1, h => by
    unfold cntO
    rw [cntO_congr n (fun r hr => h r (by omega)), h n (by omega)]
theorem ci_roadsOf {F : Nat} {j : Nat} {T : Nat → Int} {who : Int} {w : AW} {P : Int → AW → Prop} (hF : FB F) (hj : isTw j) (hT : TK T) (hC : CA w j T) (hw : iR who) (hO : OK T (w.1 255)) (h : P (cntO (w.1 255) who (T 1).toNat) w) : CI (m_X4_roadsOf F [vR 254, vR j, vI who] w) P := by
  have a1 := hT.2.1
  have a2 := hT.2.2.1
  refine wp_X4_roadsOf F j hj who w _ ?_
  refine tt_for (K := k_X4_roadsOf_5 F) (T 1) (fun i w' l => w' = w ∧ 0 ≤ i ∧ i ≤ T 1 ∧ ∃ s, l = [vR 254, vR j, vI who, vI s, vI i] ∧ s = cntO (w.1 255) who i.toNat) ?_ F 0 _ w (by omega) ⟨rfl, by omega, by omega, 0, rfl, rfl⟩
  rintro n i l w' ⟨rfl, hi0, hi1, s, rfl, hs⟩ hk
  rw [ks_X4_roadsOf_5]
  refine wp_X4_roadsOf_5 F _ j hj who s i w' _ ?_
  rw [hC.2.1, w_id (x := i) (by omega) (by omega), w_id (x := T 1) (by omega) (by omega), w_id hw.1 hw.2]
  refine ⟨fun q => ⟨⟨by omega, by omega⟩, ?_⟩, fun q => q_i (by rw [hs, show i = T 1 from by omega]; exact h)⟩
  have ho := hO i hi0 q
  have e : cntO (w'.1 255) who (i + 1).toNat = cntO (w'.1 255) who i.toNat + (if w'.1 255 i.toNat = who then 1 else 0) := by
    rw [show (i + 1).toNat = i.toNat + 1 from by omega]; rfl
  rw [w_id (x := w'.1 255 i.toNat) (by omega) (by omega)]
  refine ⟨fun z => wp_X4_roadsOf_28 F _ j hj who (s + 1) i w' _ (hk _ _ ⟨rfl, by omega, by omega, s + 1, rfl, ?_⟩ q), fun z => wp_X4_roadsOf_28 F _ j hj who s i w' _ (hk _ _ ⟨rfl, by omega, by omega, s, rfl, ?_⟩ q)⟩
  · rw [e, if_pos z, hs]
  · rw [e, if_neg z, hs]; omega
theorem gAd_OK {T : Nat → Int} {fr set : Int} (hT : TK T) : OK T (gAd T fr set 0) := by
  have a3 := hT.2.2.2.1
  have ho := ordl_ok T set
  have := gAll_ZB (fr := fr) hT (ordl T set) 0 (gMor T (gNew T fr)) (by omega) (by have := ho.2.2; omega) (fun e he => by have := (ho.2.1 e).mp he; omega) (gNew_ZB hT)
  exact this.OK
theorem OK.ze {T : Nat → Int} {Z Z' : Nat → Nat → Int} (h : OK T (Z' 0)) (hz : ZE T Z Z') : OK T (Z 0) := fun r x y => by
  rw [hz.1 r.toNat (by omega)]; exact h r x y
noncomputable def aNight (m : Int) (T : Nat → Int) (t set r who : Int) : Int := by
  classical
  exact if gd m T t set then (if r = -1 then (if -1 ≤ who ∧ who ≤ 7 then cntO (gAd T (-1) set 0) who (T 1).toNat else -2) else if 0 ≤ r ∧ r < T 1 then gAd T (-1) set 0 r.toNat else -2) else -2
theorem cc_night {F : Nat} {t set r who : Int} {w : AW} {P : Int → AW → Prop} (hF : FB F) (hI : TwI w) (ht : iR t) (hs : iR set) (hpr : iR r) (hwr : iR who) (hp : ∀ w', KQ w w' → P (aNight (w.1 5 0) (TR w t) t set r who) w') : CI (m_X8_night F [vR 34, vI t, vI set, vI r, vI who] w) P := by
  refine wp_X8_night F t set r who w _ (cr_plan' hF hI ht hs (fun hg hT hn hn2 w1 k1 hC hCH => ⟨fun q => (by cases q), fun j hj => ?_⟩) (fun hz => ⟨fun _ => q_i ?_, fun j hj => (by cases hj)⟩))
  · cases hj
    have a1 := hT.2.1
    refine cv_goAllC hF tw265 ap265 hC hCH hT hn (fun w2 f2 hz2 => ?_)
    rw [w_id hpr.1 hpr.2, w_id hwr.1 hwr.2]
    have hC2 := ca_gd hC f2
    have hpk := hp w2 (k1.tr (gd_KQ f2))
    unfold aNight at hpk
    rw [if_pos hg] at hpk
    refine ⟨fun q => ⟨fun q2 => q_i ?_, fun q2 => ⟨fun q3 => ci_roadsOf hF tw265 hT hC2 hwr ((gAd_OK (fr := -1) (set := set) hT).ze hz2) (q_i ?_), fun q3 => q_i ?_⟩⟩, fun q => ⟨tw265, ci_hasRoad tw265 hC2 hT hpr (fun z => br1 ⟨⟨z.1, by omega⟩, q_i ?_⟩) (fun z => br0 (q_i ?_))⟩⟩
    · rw [if_pos q, if_neg (by omega)] at hpk; exact hpk
    · rw [if_pos q, if_pos (by omega)] at hpk
      have : cntO (w2.1 255) who (TR w t 1).toNat = cntO (gAd (TR w t) (-1) set 0) who (TR w t 1).toNat := cntO_congr _ (fun r hr => hz2.1 r (by omega))
      rw [this]; exact hpk
    · rw [if_pos q, if_neg (by omega)] at hpk; exact hpk
    · rw [if_neg q, if_pos z] at hpk
      have : w2.1 255 r.toNat = gAd (TR w t) (-1) set 0 r.toNat := hz2.1 r.toNat (by omega)
      rw [this]; exact hpk
    · rw [if_neg q, if_neg z] at hpk; exact hpk
  · have hpk := hp w KQ.rf
    unfold aNight at hpk
    rw [if_neg hz] at hpk
    exact hpk
theorem cr_night {F : Nat} {t set r who : Int} {w : AW} {P : Int → AW → Prop} (hF : FB F) (hI : TwI w) (ht : iR t) (hs : iR set) (hpr : iR r) (hwr : iR who) (hp : ∀ w', KQ w w' → P (aNight (w.1 5 0) (TR w t) t set r who) w') : CI (m_X9_night F [vR 0, vI t, vI set, vI r, vI who] w) P := by
  refine wp_X9_night F t set r who w _ (fun w0 e0 => ci_lay' hF hI e0 ht hs (fun hg hT hn hn2 w1 k1 hX _ => br1 ?_) (fun hz w1 k1 => br0 (q_i ?_)))
  · rw [w_id hpr.1 hpr.2]
    have a1 := hT.2.1
    have a2 := hT.2.2.1
    have go : (r = -1 ∧ -1 ≤ who ∧ who ≤ 7) ∨ (0 ≤ r ∧ r < TR w t 1) → TT (k_X9_night_46 F [vR 0, vI t, vI set, vI r, vI who, vU, vU] [] w1) (qq 1 (fun r w => ∃ x, r = some (vI x) ∧ P x w)) := by
      intro hpp
      refine wp_X9_night_46 F t set r who w1 _ (cv_day hF hT hX (by omega) hn hn2 (fun w2 f2 hz2 => ?_))
      rw [w_id hpr.1 hpr.2]
      have hpk := hp w2 (k1.tr (day_KQ f2))
      unfold aNight at hpk
      rw [if_pos hg] at hpk
      have hO2 : OK (TR w t) (w2.1 10) := (gAd_OK (fr := -1) (set := set) hT).ze hz2
      have e23 : w2.1 0 23 = TR w t 1 := (rx_day hX f2).1.2.2.1
      refine ⟨fun q => ?_, fun q => ⟨⟨by omega, by omega⟩, q_i ?_⟩⟩
      · rw [if_pos q, if_pos (by omega)] at hpk
        have e0 : cntO (w2.1 10) who (TR w t 1).toNat = cntO (gAd (TR w t) (-1) set 0) who (TR w t 1).toNat := cntO_congr _ (fun r hr => hz2.1 r (by omega))
        rw [← e0] at hpk
        refine tt_for (K := k_X9_night_69 F) (TR w t 1) (fun i w' l => w' = w2 ∧ 0 ≤ i ∧ i ≤ TR w t 1 ∧ ∃ s, l = [vR 0, vI t, vI set, vI r, vI who, vI s, vI i] ∧ s = cntO (w2.1 10) who i.toNat) ?_ F 0 _ w2 (by omega) ⟨rfl, by omega, by omega, 0, rfl, rfl⟩
        rintro n i l w' ⟨rfl, hi0, hi1, s, rfl, hs'⟩ hk
        rw [ks_X9_night_69]
        refine wp_X9_night_69 F _ t set r who s i w' _ ?_
        rw [e23, w_id (x := i) (by omega) (by omega), w_id (x := TR w t 1) (by omega) (by omega), w_id hwr.1 hwr.2]
        refine ⟨fun q => ⟨⟨by omega, by omega⟩, ?_⟩, fun q => q_i (by rw [hs', show i = TR w t 1 from by omega]; exact hpk)⟩
        have ho := hO2 i hi0 q
        have e : cntO (w'.1 10) who (i + 1).toNat = cntO (w'.1 10) who i.toNat + (if w'.1 10 i.toNat = who then 1 else 0) := by
          rw [show (i + 1).toNat = i.toNat + 1 from by omega]; rfl
        rw [w_id (x := w'.1 10 i.toNat) (by omega) (by omega)]
        refine ⟨fun z => wp_X9_night_97 F _ t set r who s i 1 s w' _ (fun x ex => hk _ _ ⟨rfl, by omega, by omega, x, rfl, ?_⟩ q), fun z => wp_X9_night_97 F _ t set r who s i 0 s w' _ (fun x ex => hk _ _ ⟨rfl, by omega, by omega, x, rfl, ?_⟩ q)⟩
        · rw [e, if_pos z, ex, hs']
        · rw [e, if_neg z, ex, hs']
      · rw [if_neg q, if_pos (by omega)] at hpk
        have : w2.1 10 r.toNat = gAd (TR w t) (-1) set 0 r.toNat := hz2.1 r.toNat (by omega)
        rw [this]; exact hpk
    have go2 : r = -1 ∨ (0 ≤ r ∧ r < TR w t 1) → TT (k_X9_night_27 F [vR 0, vI t, vI set, vI r, vI who, vU, vU] [] w1) (qq 1 (fun r w => ∃ x, r = some (vI x) ∧ P x w)) := by
      intro hpp
      refine wp_X9_night_27 F t set r who w1 _ ?_
      rw [w_id hpr.1 hpr.2]
      refine ⟨fun q => ci_in hwr (by decide) (by decide) (fun y => br1 (go (Or.inl ⟨q, y⟩))) (fun y => br0 (q_i ?_)), fun q => go (Or.inr (by omega))⟩
      have hpk := hp w1 k1
      unfold aNight at hpk
      rw [if_pos hg, if_pos q, if_neg y] at hpk
      exact hpk
    refine ⟨fun q => go2 (Or.inl q), fun q => ci_isRoad hX.1 hT hpr (fun z => br1 (go2 (Or.inr z))) (fun z => br0 (q_i ?_))⟩
    have hpk := hp w1 k1
    unfold aNight at hpk
    rw [if_pos hg, if_neg q, if_neg z] at hpk
    exact hpk
  · have hpk := hp w1 k1
    unfold aNight at hpk
    rw [if_neg hz] at hpk
    exact hpk
/-! visits -/
noncomputable def aVisits (m : Int) (T : Nat → Int) (t set r paid : Int) : Int := by
  classical
  exact if gd m T t set ∧ (0 ≤ r ∧ r < T 1) then (if paid = 0 then gAd T (-1) set 7 r.toNat else gAd T (-1) set 8 r.toNat) else -1
theorem cc_visits {F : Nat} {t set r b : Int} {w : AW} {P : Int → AW → Prop} (hF : FB F) (hI : TwI w) (ht : iR t) (hs : iR set) (hpr : iR r) (hb : iR b) (hp : ∀ w', KQ w w' → P (aVisits (w.1 5 0) (TR w t) t set r b) w') : CI (m_X8_visits F [vR 34, vI t, vI set, vI r, vI b] w) P := by
  refine wp_X8_visits F t set r b w _ (cr_plan' hF hI ht hs (fun hg hT hn hn2 w1 k1 hC hCH => ⟨fun q => (by cases q), fun j hj => ?_⟩) (fun hz => ⟨fun _ => q_i ?_, fun j hj => (by cases hj)⟩))
  · cases hj
    have a1 := hT.2.1
    refine ⟨tw265, ci_hasRoad tw265 hC hT hpr (fun z => br1 (cv_goAllC hF tw265 ap265 hC hCH hT hn (fun w2 f2 hz2 => ?_))) (fun z => br0 (q_i ?_))⟩
    · rw [w_id hb.1 hb.2]
      have hpk := hp w2 (k1.tr (gd_KQ f2))
      unfold aVisits at hpk
      rw [if_pos ⟨hg, z⟩] at hpk
      have e7 : w2.1 257 r.toNat = gAd (TR w t) (-1) set 7 r.toNat := (hz2.2.2.2.1 r.toNat (by omega)).1
      have e8 : w2.1 256 r.toNat = gAd (TR w t) (-1) set 8 r.toNat := (hz2.2.2.2.1 r.toNat (by omega)).2
      refine ⟨fun q => ⟨⟨z.1, by omega⟩, q_i ?_⟩, fun q => ⟨⟨z.1, by omega⟩, q_i ?_⟩⟩
      · rw [if_pos q] at hpk; rw [e7]; exact hpk
      · rw [if_neg q] at hpk; rw [e8]; exact hpk
    · have hpk := hp w1 k1
      unfold aVisits at hpk
      rw [if_neg (fun y => z y.2)] at hpk
      exact hpk
  · have hpk := hp w KQ.rf
    unfold aVisits at hpk
    rw [if_neg (fun y => hz y.1)] at hpk
    exact hpk
theorem cr_visits {F : Nat} {t set r b : Int} {w : AW} {P : Int → AW → Prop} (hF : FB F) (hI : TwI w) (ht : iR t) (hs : iR set) (hpr : iR r) (hb : iR b) (hp : ∀ w', KQ w w' → P (aVisits (w.1 5 0) (TR w t) t set r b) w') : CI (m_X9_visits F [vR 0, vI t, vI set, vI r, vI b] w) P := by
  refine wp_X9_visits F t set r b w _ (fun w0 e0 => ci_lay' hF hI e0 ht hs (fun hg hT hn hn2 w1 k1 hX _ => br1 ?_) (fun hz w1 k1 => br0 (q_i ?_)))
  · have a1 := hT.2.1
    refine ci_isRoad hX.1 hT hpr (fun z => br1 (cv_day hF hT hX (by omega) hn hn2 (fun w2 f2 hz2 => ?_))) (fun z => br0 (q_i ?_))
    · rw [w_id hb.1 hb.2]
      have hpk := hp w2 (k1.tr (day_KQ f2))
      unfold aVisits at hpk
      rw [if_pos ⟨hg, z⟩] at hpk
      have e7 : w2.1 31 r.toNat = gAd (TR w t) (-1) set 7 r.toNat := (hz2.2.2.2.1 r.toNat (by omega)).1
      have e8 : w2.1 32 r.toNat = gAd (TR w t) (-1) set 8 r.toNat := (hz2.2.2.2.1 r.toNat (by omega)).2
      refine ⟨fun q => ⟨⟨z.1, by omega⟩, q_i ?_⟩, fun q => ⟨⟨z.1, by omega⟩, q_i ?_⟩⟩
      · rw [if_pos q] at hpk; rw [e7]; exact hpk
      · rw [if_neg q] at hpk; rw [e8]; exact hpk
    · have hpk := hp w1 k1
      unfold aVisits at hpk
      rw [if_neg (fun y => z y.2)] at hpk
      exact hpk
  · have hpk := hp w1 k1
    unfold aVisits at hpk
    rw [if_neg (fun y => hz y.1)] at hpk
    exact hpk
/-! a set of errands without one's own -/
def eof (T : Nat → Int) (p : Int) : Nat → Int
  | 0 => 0
  | n + 1 => if eW T n = p then bOr (eof T p n) (bShl 1 n) else eof T p n
theorem eof_ok {T : Nat → Int} {p : Int} : ∀ n : Nat, n ≤ 12 → nB (eof T p n) ∧ ∀ i : Nat, tb (eof T p n) i = decide (i < n ∧ eW T i = p)
  | 0, _ => ⟨⟨Int.le_refl _, by show (0 : Int) < 2147483648; decide⟩, fun i => by rw [show eof T p 0 = 0 from rfl, tb_0]; simp⟩
  | n + 1, hn => by
    obtain ⟨h1, h2⟩ := eof_ok (T := T) (p := p) n (by omega)
    have hs := bShl_nB (k := n) (by omega) (by omega)
    unfold eof
    by_cases q : eW T n = p
    · rw [if_pos q]
      refine ⟨(bOr_eq h1 hs).2, fun i => ?_⟩
      rw [tb_or h1 hs, h2, tb_shl (by omega) (by omega), Int.toNat_natCast]
      by_cases z : n = i
      · subst z; simp [q]
      · have : (i < n + 1 ∧ eW T i = p) ↔ (i < n ∧ eW T i = p) := ⟨fun y => ⟨by omega, y.2⟩, fun y => ⟨by omega, y.2⟩⟩
        simp [z, this]
    · rw [if_neg q]
      refine ⟨h1, fun i => ?_⟩
      rw [h2]
      have : (i < n + 1 ∧ eW T i = p) ↔ (i < n ∧ eW T i = p) := ⟨fun y => ⟨by
        by_cases z : i = n
        · rw [z] at y; exact absurd y.2 q
        · omega, y.2⟩, fun y => ⟨by omega, y.2⟩⟩
      simp [this]
def whs (T : Nat → Int) (set p : Int) : Int := bAnd set (bXor (eof T p (T 3).toNat) (-1))
theorem whs_ok {T : Nat → Int} (hT : TK T) {set : Int} (p : Int) (hn : nB set) : nB (whs T set p) ∧ ∀ i : Nat, tb (whs T set p) i = (tb set i && !decide ((i : Int) < T 3 ∧ eW T i = p)) := by
  have a3 := hT.2.2.2.1
  obtain ⟨h1, h2⟩ := eof_ok (T := T) (p := p) (T 3).toNat (by omega)
  obtain ⟨h3, h4⟩ := bcl_eq hn h1
  refine ⟨h3, fun i => ?_⟩
  unfold whs
  rw [h4, h2]
  have : (i < (T 3).toNat ∧ eW T i = p) ↔ ((i : Int) < T 3 ∧ eW T i = p) := ⟨fun y => ⟨by omega, y.2⟩, fun y => ⟨by omega, y.2⟩⟩
  simp only [this]
theorem whs_le {T : Nat → Int} (hT : TK T) {set p : Int} (hn : nB set) (hn2 : ∀ e : Nat, tb set e = true → (e : Int) < T 3) : ∀ e : Nat, tb (whs T set p) e = true → (e : Int) < T 3 := fun e he => by
  rw [(whs_ok hT p hn).2] at he
  exact hn2 e (by
    cases q : tb set e with
    | true => rfl
    | false => rw [q] at he; simp at he)
theorem ci_errandsOf {F : Nat} {j : Nat} {T : Nat → Int} {p : Int} {w : AW} {P : Int → AW → Prop} (hF : FB F) (hj : isTw j) (hT : TK T) (hC : CA w j T) (hpr : iR p) (h : P (eof T p (T 3).toNat) w) : CI (m_X7_errandsOf F [vR j, vI p] w) P := by
  have a3 := hT.2.2.2.1
  have a2 := hT.2.2.1
  refine wp_X7_errandsOf F j hj p w _ ?_
  refine tt_for (K := k_X7_errandsOf_4 F) (T 3) (fun i w' l => w' = w ∧ 0 ≤ i ∧ i ≤ T 3 ∧ ∃ s, l = [vR j, vI p, vI s, vI i] ∧ s = eof T p i.toNat) ?_ F 0 _ w (by omega) ⟨rfl, by omega, by omega, 0, rfl, rfl⟩
  rintro n i l w' ⟨rfl, hi0, hi1, s, rfl, hs⟩ hk
  rw [ks_X7_errandsOf_4]
  refine wp_X7_errandsOf_4 F _ j hj p s i w' _ ?_
  rw [hC.2.2.2.1, w_id (x := i) (by omega) (by omega), w_id (x := T 3) (by omega) (by omega), w_id hpr.1 hpr.2]
  refine ⟨fun q => ⟨⟨by omega, by omega⟩, ?_⟩, fun q => q_i (by rw [hs, show i = T 3 from by omega]; exact h)⟩
  have he := hT.erra hi0 q
  have e : eof T p (i + 1).toNat = if eW T i = p then bOr (eof T p i.toNat) (bShl 1 i) else eof T p i.toNat := by
    rw [show (i + 1).toNat = i.toNat + 1 from by omega]
    show (if eW T i.toNat = p then bOr (eof T p i.toNat) (bShl 1 i.toNat) else eof T p i.toNat) = _
    rw [Int.toNat_of_nonneg hi0]
  rw [(hC.erra hi0 q).1, w_id (x := eW T i) (by omega) (by omega)]
  refine ⟨fun z x ex => wp_X7_errandsOf_28 F _ j hj p x i w' _ (hk _ _ ⟨rfl, by omega, by omega, x, rfl, ?_⟩ q), fun z => wp_X7_errandsOf_28 F _ j hj p s i w' _ (hk _ _ ⟨rfl, by omega, by omega, s, rfl, ?_⟩ q)⟩
  · rw [e, if_pos z, ex, hs]
  · rw [e, if_neg z, hs]
theorem ci_withoutHis {F : Nat} {T : Nat → Int} {set p : Int} {w : AW} {P : Int → AW → Prop} (hF : FB F) (hT : TK T) (hH : HA w T) (hpr : iR p) (hn : nB set) (h : P (whs T set p) w) : CI (m_X9_withoutHis F [vR 0, vI set, vI p] w) P := by
  have a3 := hT.2.2.2.1
  have a2 := hT.2.2.1
  have e25 : w.1 0 25 = T 3 := hH.2.2.2.2.1
  refine wp_X9_withoutHis F set p w _ ?_
  refine tt_for (K := k_X9_withoutHis_5 F) (T 3) (fun i w' l => w' = w ∧ 0 ≤ i ∧ i ≤ T 3 ∧ ∃ s, l = [vR 0, vI set, vI p, vI s, vI i] ∧ nB s ∧ ∀ k : Nat, tb s k = (tb set k && !decide ((k : Int) < i ∧ eW T k = p))) ?_ F 0 _ w (by omega) ⟨rfl, by omega, by omega, set, rfl, hn, fun k => by
    have : ¬ ((k : Int) < 0 ∧ eW T k = p) := by omega
    simp [this]⟩
  rintro n i l w' ⟨rfl, hi0, hi1, s, rfl, hs, hs2⟩ hk
  rw [ks_X9_withoutHis_5]
  refine wp_X9_withoutHis_5 F _ set p s i w' _ ?_
  rw [e25, w_id (x := i) (by omega) (by omega), w_id (x := T 3) (by omega) (by omega), w_id hpr.1 hpr.2]
  refine ⟨fun q => ci_eW hH hT hi0 q ?_, fun q => q_i ?_⟩
  · have he := hT.erra hi0 q
    rw [w_id (x := eW T i) (by omega) (by omega)]
    refine ⟨fun z => wp_X9_withoutHis_36 F _ set p s i (bXor (bShl 1 i) (-1)) s w' _ (fun x ex => hk _ _ ⟨rfl, by omega, by omega, x, rfl, ?_⟩ q), fun z => wp_X9_withoutHis_36 F _ set p s i (-1) s w' _ (fun x ex => hk _ _ ⟨rfl, by omega, by omega, x, rfl, ?_⟩ q)⟩
    · obtain ⟨h3, h4⟩ := bcl_eq hs (bShl_nB (k := i) (by omega) (by omega))
      rw [ex]
      refine ⟨h3, fun k => ?_⟩
      rw [h4, hs2, tb_shl (by omega) (by omega)]
      by_cases y : i.toNat = k
      · have e1 : ((k : Int) < i + 1 ∧ eW T k = p) := ⟨by omega, by rw [← y, Int.toNat_of_nonneg hi0]; exact z⟩
        have e2 : ¬ ((k : Int) < i ∧ eW T k = p) := by omega
        simp [y, e1, e2]
      · have : ((k : Int) < i + 1 ∧ eW T k = p) ↔ ((k : Int) < i ∧ eW T k = p) := ⟨fun y2 => ⟨by omega, y2.2⟩, fun y2 => ⟨by omega, y2.2⟩⟩
        simp only [this]
        simp [y]
    · rw [ex, bcl_all hs]
      refine ⟨hs, fun k => ?_⟩
      rw [hs2]
      have : ((k : Int) < i + 1 ∧ eW T k = p) ↔ ((k : Int) < i ∧ eW T k = p) := ⟨fun y2 => ⟨by
        by_cases y : (k : Int) = i
        · rw [y] at y2; exact absurd y2.2 z
        · omega, y2.2⟩, fun y2 => ⟨by omega, y2.2⟩⟩
      simp only [this]
  · have e : s = whs T set p := by
      obtain ⟨h3, h4⟩ := whs_ok hT p hn
      refine tb_ext hs.1 h3.1 (fun k => ?_)
      rw [hs2, h4, show i = T 3 from by omega]
    rw [e]; exact h
