/-! SUMS OF A DAY -/
def fig (T : Nat → Int) (Z : Nat → Nat → Int) (q : Nat) (what : Int) : Int := if what = 0 then Z 3 q else if what = 1 then Z 4 q else if what = 2 then Z 5 q else if what = 3 then Z 6 q else Z 3 q * pC T q + Z 4 q - Z 5 q
def figS (T : Nat → Int) (Z : Nat → Nat → Int) (what : Int) : Nat → Int
  | 0 => 0
  | n + 1 => figS T Z what n + fig T Z n what
theorem fig_ze {T : Nat → Int} {Z Z' : Nat → Nat → Int} (h : ZE T Z Z') {q : Nat} (hq : q < 8) (what : Int) : fig T Z q what = fig T Z' q what := by
  obtain ⟨h3, h4, h5, h6⟩ := h.2.2.1 q hq
  unfold fig
  rw [h3, h4, h5, h6]
theorem figS_ze {T : Nat → Int} {Z Z' : Nat → Nat → Int} (h : ZE T Z Z') (what : Int) : ∀ n, n ≤ 8 → figS T Z what n = figS T Z' what n
  | 0, _ => rfl
  | n + 1, hn => by
    unfold figS
    rw [figS_ze h what n (by omega), fig_ze h (by omega)]
theorem sumL_b {f : Nat → Int} {B : Int} (hB : 0 ≤ B) : ∀ (l : List Nat), (∀ r ∈ l, 0 ≤ f r ∧ f r ≤ B) → 0 ≤ sumL f l ∧ sumL f l ≤ B * l.length
  | [], _ => ⟨Int.le_refl _, by show (0 : Int) ≤ B * 0; omega⟩
  | a :: l, h => by
    have ih := sumL_b hB l (fun r hr => h r (List.mem_cons_of_mem _ hr))
    have ha := h a List.mem_cons_self
    have e : sumL f (a :: l) = f a + sumL f l := by unfold sumL; simp
    rw [e, List.length_cons]
    push_cast
    rw [Int.mul_add]
    omega
/-- bounds behind n errands -/
def GB2 (n : Int) (Z : Nat → Nat → Int) : Prop := (∀ p : Nat, (0 ≤ Z 3 p ∧ Z 3 p ≤ 240 * n) ∧ (0 ≤ Z 4 p ∧ Z 4 p ≤ 800 * n) ∧ (0 ≤ Z 5 p ∧ Z 5 p ≤ 800 * n) ∧ (-300 * n ≤ Z 6 p ∧ Z 6 p ≤ 300 * n)) ∧ ∀ r : Nat, 0 ≤ Z 7 r ∧ Z 7 r ≤ n
theorem dsv_b {T : Nat → Int} (hT : TK T) {a b : Int} (ha : 0 ≤ a ∧ a < T 0) : -1 ≤ dsv T a b ∧ dsv T a b ≤ 240 := by
  by_cases h : ∃ m, Ds (Jt T (-1)) a b m
  · obtain ⟨m, hm⟩ := h
    have := ds240 hT ha.1 ha.2 hm
    rw [dsv_eq hm]; omega
  · unfold dsv
    rw [dif_neg h]; omega
theorem gOne_GB {T : Nat → Int} {fr p to mi n m : Int} {Z : Nat → Nat → Int} (hT : TK T) (hp0 : 0 ≤ p) (hp1 : p < T 2) (hmi : 0 ≤ mi ∧ mi ≤ 359) (hm : 0 ≤ m ∧ m ≤ 20) (hZ : ZB T m Z) (hn : 0 ≤ n) (h : GB2 n Z) : GB2 (n + 1) (gOne T fr p to mi Z) := by
  have weak : GB2 (n + 1) Z := ⟨fun q => by have := h.1 q; omega, fun r => by have := h.2 r; omega⟩
  have hpp := hZ.2.1 p.toNat (by omega)
  unfold gOne
  obtain ⟨bg, hbg⟩ : ∃ bg, (if mi < Z 2 p.toNat then Z 2 p.toNat else mi) = bg := ⟨_, rfl⟩
  have hbgr : 0 ≤ bg := by rw [← hbg]; split <;> omega
  rw [hbg]
  cases hb : (if Z 1 p.toNat = to then none else bst T fr (Z 0) p (pK T p) bg (Z 1 p.toNat) to) with
  | none => exact weak
  | some x =>
    by_cases q : Z 1 p.toNat = to
    · rw [if_pos q] at hb; cases hb
    · rw [if_neg q] at hb
      have hmn := bst_mins hT hp0 hp1 hbgr q hb
      have hrow := bst_row hT hb
      have hlen := hrow.2.2.1
      have hds := dsv_b (b := to) hT hpp.1
      have hpy : ∀ r ∈ x.2.2, 0 ≤ pys T fr (Z 0) p r ∧ pys T fr (Z 0) p r ≤ 99 := fun r hr => pys_b hT (by omega) (by have := hrow.2.2.2.1 r hr; omega)
      have s1 := sumL_b (f := fun r => pys T fr (Z 0) p r) (B := 99) (by omega) x.2.2 hpy
      have s2 := fun k : Nat => sumL_b (f := fun r => if Z 0 r = k then pys T fr (Z 0) p r else 0) (B := 99) (by omega) x.2.2 (fun r hr => by have := hpy r hr; show 0 ≤ (if Z 0 r = k then pys T fr (Z 0) p r else 0) ∧ (if Z 0 r = k then pys T fr (Z 0) p r else 0) ≤ 99; split <;> omega)
      refine ⟨fun k => ⟨?_, ?_, ?_, ?_⟩, fun r => ?_⟩
      · show 0 ≤ (if k = p.toNat then Z 3 k + (x.2.1 - bg) else Z 3 k) ∧ (if k = p.toNat then Z 3 k + (x.2.1 - bg) else Z 3 k) ≤ _
        have := (h.1 k).1
        split <;> omega
      · show 0 ≤ (if k = p.toNat then Z 4 k + sumL (fun r => pys T fr (Z 0) p r) x.2.2 else Z 4 k) ∧ (if k = p.toNat then Z 4 k + sumL (fun r => pys T fr (Z 0) p r) x.2.2 else Z 4 k) ≤ _
        have := (h.1 k).2.1
        split <;> omega
      · show 0 ≤ Z 5 k + sumL (fun r => if Z 0 r = k then pys T fr (Z 0) p r else 0) x.2.2 ∧ Z 5 k + sumL (fun r => if Z 0 r = k then pys T fr (Z 0) p r else 0) x.2.2 ≤ _
        have := (h.1 k).2.2.1
        have := s2 k
        omega
      · show _ ≤ (if k = p.toNat then Z 6 k + (x.2.1 - bg - dsv T (Z 1 p.toNat) to) else Z 6 k) ∧ (if k = p.toNat then Z 6 k + (x.2.1 - bg - dsv T (Z 1 p.toNat) to) else Z 6 k) ≤ _
        have := (h.1 k).2.2.2
        split <;> omega
      · show 0 ≤ Z 7 r + (if r ∈ x.2.2 then 1 else 0) ∧ Z 7 r + (if r ∈ x.2.2 then 1 else 0) ≤ _
        have := h.2 r
        split <;> omega
theorem gAll_GB {T : Nat → Int} {fr : Int} (hT : TK T) : ∀ (es : List Nat) (n m : Int) (Z : Nat → Nat → Int), 0 ≤ n → 0 ≤ m → m + es.length ≤ 20 → (∀ e ∈ es, (e : Int) < T 3) → ZB T m Z → GB2 n Z → GB2 (n + es.length) (gAll T fr es Z)
  | [], n, m, Z, _, _, _, _, _, h => by
    show GB2 (n + 0) Z
    rw [Int.add_zero]; exact h
  | e :: es, n, m, Z, h0, hm, h1, he, hZ, h => by
    have her := hT.erra (e := e) (by omega) (he e List.mem_cons_self)
    have hl : ((e :: es).length : Int) = (es.length : Int) + 1 := by simp
    rw [hl] at h1 ⊢
    have := gAll_GB (fr := fr) hT es (n + 1) (m + 1) _ (by omega) (by omega) (by omega) (fun a ha => he a (List.mem_cons_of_mem _ ha)) (gOne_ZB (fr := fr) hT her.1.1 her.1.2 her.2.1 her.2.2.1 (by omega) hZ) (gOne_GB (fr := fr) hT her.1.1 her.1.2 her.2.2.1 (by omega) hZ h0 h)
    rw [show n + ((es.length : Int) + 1) = n + 1 + (es.length : Int) from by omega]
    exact this
theorem gNew_ZB {T : Nat → Int} {fr : Int} (hT : TK T) : ZB T 0 (gMor T (gNew T fr)) := by
  refine ⟨fun r hr => own0_b hT (by omega) hr, fun p hp => ⟨(hT.pers (p := p) (by omega) hp).1, ?_⟩, ?_⟩
  · show 0 ≤ (0 : Int) ∧ (0 : Int) ≤ 359 + 240 * 0; omega
  · show 0 ≤ (0 : Int) ∧ (0 : Int) ≤ 100000; omega
theorem gAd_b {T : Nat → Int} {fr set : Int} (hT : TK T) : GB2 12 (gAd T fr set) := by
  have a3 := hT.2.2.2.1
  have ho := ordl_ok T set
  have := gAll_GB (fr := fr) hT (ordl T set) 0 0 (gMor T (gNew T fr)) (by omega) (by omega) (by have := ho.2.2; omega) (fun e he => by have := (ho.2.1 e).mp he; omega) (gNew_ZB hT) ⟨fun p => ⟨⟨Int.le_refl _, Int.le_refl _⟩, ⟨Int.le_refl _, Int.le_refl _⟩, ⟨Int.le_refl _, Int.le_refl _⟩, ⟨Int.le_refl _, Int.le_refl _⟩⟩, fun r => ⟨Int.le_refl _, Int.le_refl _⟩⟩
  have hl : (0 : Int) + (ordl T set).length ≤ 12 := by have := ho.2.2; omega
  exact ⟨fun p => by have := this.1 p; show (0 ≤ gAll T fr (ordl T set) (gMor T (gNew T fr)) 3 p ∧ _) ∧ _; unfold gAd gDay; omega, fun r => by have := this.2 r; unfold gAd gDay; omega⟩
theorem fig_b {T : Nat → Int} (hT : TK T) {Z : Nat → Nat → Int} (h : GB2 12 Z) {q : Nat} (hq : (q : Int) < T 2) (what : Int) : -10000 ≤ fig T Z q what ∧ fig T Z q what ≤ 100000 := by
  obtain ⟨h3, h4, h5, h6⟩ := h.1 q
  have hc := (hT.pers (p := q) (by omega) hq).2.1
  have := mul_b h3 hc
  unfold fig
  split
  · omega
  · split
    · omega
    · split
      · omega
      · split <;> omega
theorem figS_b {T : Nat → Int} (hT : TK T) {Z : Nat → Nat → Int} (h : GB2 12 Z) (what : Int) : ∀ n : Nat, (n : Int) ≤ T 2 → -10000 * n ≤ figS T Z what n ∧ figS T Z what n ≤ 100000 * n
  | 0, _ => ⟨Int.le_refl _, Int.le_refl _⟩
  | n + 1, hn => by
    have := figS_b hT h what n (by omega)
    have := fig_b hT h (q := n) (by omega) what
    show _ ≤ figS T Z what n + fig T Z n what ∧ figS T Z what n + fig T Z n what ≤ _
    push_cast
    omega
/-! the reference's day and sums -/
theorem cv_clear {F : Nat} {w : AW} {P : AW → Prop} (hF : FB F) (hp : ∀ w', Fr (fun j k => (27 ≤ j ∧ j ≤ 32) ∨ (j = 0 ∧ (k = 60 ∨ k = 61))) w w' → (∀ p : Nat, p < 8 → w'.1 27 p = 0 ∧ w'.1 28 p = 0 ∧ w'.1 29 p = 0 ∧ w'.1 30 p = 0) → (∀ r : Nat, r < 14 → w'.1 31 r = 0 ∧ w'.1 32 r = 0) → w'.1 0 60 = 0 → w'.1 0 61 = 0 → P w') : CV (m_X9_clearSums F [vR 0] w) P := by
  refine wp_X9_clearSums F w _ ?_
  refine tt_for (K := k_X9_clearSums_2 F) 8 (fun i w' l => Fr (fun j _ => 27 ≤ j ∧ j ≤ 30) w w' ∧ l = [vR 0, vI i] ∧ 0 ≤ i ∧ i ≤ 8 ∧ ∀ p : Nat, (p : Int) < i → w'.1 27 p = 0 ∧ w'.1 28 p = 0 ∧ w'.1 29 p = 0 ∧ w'.1 30 p = 0) ?_ F 0 _ w (by omega) ⟨Fr.rf, rfl, by omega, by omega, fun p hp' => by omega⟩
  rintro n i l w1 ⟨f1, rfl, hi0, hi1, h1⟩ hk
  rw [ks_X9_clearSums_2]
  refine wp_X9_clearSums_2 F _ i w1 _ ?_
  rw [w_id (x := i) (by omega) (by omega)]
  refine ⟨fun q => ⟨⟨hi0, q⟩, fun w2 e2 => ⟨⟨hi0, q⟩, fun w3 e3 => ⟨⟨hi0, q⟩, fun w4 e4 => ⟨⟨hi0, q⟩, fun w5 e5 => hk _ _ ⟨?_, rfl, by omega, by omega, fun p hp' => ?_⟩ q⟩⟩⟩⟩, fun q => ?_⟩
  · rw [e5, e4, e3, e2]
    exact (((f1.wI _ (by simp)).wI _ (by simp)).wI _ (by simp)).wI _ (by simp)
  · rw [e5, e4, e3, e2]
    by_cases z : p = i.toNat
    · simp [wI_at, z]
    · have := h1 p (by omega)
      simp [wI_at, z]
      exact this
  · refine tt_for (K := k_X9_clearSums_44 F) 14 (fun i w' l => Fr (fun j _ => j = 31 ∨ j = 32) w1 w' ∧ l = [vR 0, vI i] ∧ 0 ≤ i ∧ i ≤ 14 ∧ ∀ p : Nat, (p : Int) < i → w'.1 31 p = 0 ∧ w'.1 32 p = 0) ?_ F 0 _ w1 (by omega) ⟨Fr.rf, rfl, by omega, by omega, fun p hp' => by omega⟩
    rintro n2 i2 l w2 ⟨f2, rfl, hj0, hj1, h2⟩ hk2
    rw [ks_X9_clearSums_44]
    refine wp_X9_clearSums_44 F _ i2 w2 _ ?_
    rw [w_id (x := i2) (by omega) (by omega)]
    refine ⟨fun q2 => ⟨⟨hj0, q2⟩, fun w3 e3 => ⟨⟨hj0, q2⟩, fun w4 e4 => hk2 _ _ ⟨?_, rfl, by omega, by omega, fun p hp' => ?_⟩ q2⟩⟩, fun q2 w3 e3 w4 e4 => q_v (hp w4 ?_ (fun p hp' => ?_) (fun r hr => ?_) ?_ ?_)⟩
    · rw [e4, e3]; exact (f2.wI _ (by simp)).wI _ (by simp)
    · rw [e4, e3]
      by_cases z : p = i2.toNat
      · simp [wI_at, z]
      · have := h2 p (by omega)
        simp [wI_at, z]
        exact this
    · rw [e4, e3]
      exact (((f1.wk (by intro j k h; omega)).tr (f2.wk (by intro j k h; omega))).wI _ (by simp)).wI _ (by simp)
    · have := h1 p (by omega)
      rw [e4, e3]
      simp [wI_at]
      rw [f2.I 27 p (by omega), f2.I 28 p (by omega), f2.I 29 p (by omega), f2.I 30 p (by omega)]
      exact this
    · have := h2 r (by omega)
      rw [e4, e3]
      simp [wI_at]
      exact this
    · rw [e4, wI_idx _ _ _ _ (by decide), e3, wI_same]
    · rw [e4, wI_same]
/-- the reference with a town in hand, a free road, and distances -/
def RX (T : Nat → Int) (fr : Int) (w : AW) : Prop := HA w T ∧ w.1 0 28 = fr ∧ FAR T (-1) w
theorem RX.fr' {T : Nat → Int} {fr : Int} {w w' : AW} {S : Nat → Nat → Prop} (h : RX T fr w) (hf : Fr S w w') (hs : ∀ j k, (SHA j k ∨ (j = 0 ∧ k = 28) ∨ j = 22) → ¬ S j k) : RX T fr w' := ⟨h.1.fr hf (fun j k z => hs j k (Or.inl z)), by rw [hf.I 0 28 (hs 0 28 (by simp))]; exact h.2.1, h.2.2.fr hf (fun k => hs 22 k (by simp))⟩
abbrev Sd (j k : Nat) : Prop := Sday j k
theorem cv_day {F : Nat} {T : Nat → Int} {fr set : Int} {w : AW} {P : AW → Prop} (hF : FB F) (hT : TK T) (hR : RX T fr w) (hfr : -1 ≤ fr ∧ fr < 14) (hset : nB set) (hset2 : ∀ e : Nat, tb set e = true → (e : Int) < T 3) (hp : ∀ w', Fr Sday w w' → ZE T (RZ w') (gAd T fr set) → P w') : CV (m_X9_day F [vR 0, vI set] w) P := by
  refine wp_X9_day F set w _ (cv_own hF hR.1 hT hR.2.1 hfr (fun w1 f1 h1 => cv_clear hF (fun w2 f2 h2 h3 h4 h5 => ?_)))
  have f1' : Fr Sday w w1 := f1.wk (by intro j k; simp only [Sown, Sday]; omega)
  have f2' : Fr Sday w w2 := f1'.tr (f2.wk (by intro j k; simp only [Sday]; omega))
  have hR2 : RX T fr w2 := hR.fr' f2' (by intro j k; simp only [SHA, Sday]; omega)
  have h10 : ∀ r : Nat, (r : Int) < T 1 → w2.1 10 r = own0 T fr r := fun r hr => by
    rw [f2.I 10 r (by omega)]
    have := h1 r (by omega) hr
    rw [Int.toNat_natCast] at this
    exact this
  refine cv_goAll hF hT hR2.1 hR2.2.1 hfr hR2.2.2 (fun r x y => ?_) (by rw [h4]; omega) hset hset2 (fun w3 f3 h6 => q_v (hp w3 (f2'.tr f3) (h6.tr ?_)))
  · rw [h10 r.toNat (by omega), Int.toNat_of_nonneg x]; exact own0_b hT x y
  · unfold gAd gDay
    refine gAll_congr hT _ _ _ (fun e he => by have := ((ordl_ok T set).2.1 e).mp he; omega) ⟨fun r hr => h10 r hr, fun p hp' => ⟨rfl, rfl⟩, fun p hp' => ?_, fun r hr => ?_, h4, h5⟩
    · exact h2 p hp'
    · exact h3 r hr
theorem ci_net {F : Nat} {T : Nat → Int} {p : Int} {w : AW} {P : Int → AW → Prop} (hT : TK T) (hH : HA w T) (hp0 : 0 ≤ p) (hp1 : p < T 2) (h : P (fig T (RZ w) p.toNat 4) w) : CI (m_X9_net F [vR 0, vI p] w) P := by
  have a2 := hT.2.2.1
  refine wp_X9_net F p w _ ⟨⟨hp0, by omega⟩, ci_pC hH hT hp0 hp1 ⟨⟨hp0, by omega⟩, ⟨hp0, by omega⟩, q_i ?_⟩⟩
  have e : fig T (RZ w) p.toNat 4 = w.1 27 p.toNat * pC T p + w.1 28 p.toNat - w.1 29 p.toNat := by
    unfold fig
    rw [if_neg (by decide), if_neg (by decide), if_neg (by decide), if_neg (by decide), Int.toNat_of_nonneg hp0]
    rfl
  rw [e] at h
  exact h
theorem ci_sumOf {F : Nat} {T : Nat → Int} {p what : Int} {w : AW} {P : Int → AW → Prop} (hT : TK T) (hH : HA w T) (hp0 : 0 ≤ p) (hp1 : p < T 2) (hw : 0 ≤ what ∧ what ≤ 4) (h : P (fig T (RZ w) p.toNat what) w) : CI (m_X9_sumOf F [vR 0, vI p, vI what] w) P := by
  have a2 := hT.2.2.1
  refine wp_X9_sumOf F p what w _ ?_
  rw [w_id (x := what) (by omega) (by omega)]
  refine ⟨⟨fun q => ⟨⟨hp0, by omega⟩, q_i ?_⟩, fun q => ⟨⟨hp0, by omega⟩, q_i ?_⟩, fun q => ⟨⟨hp0, by omega⟩, q_i ?_⟩, fun q => ⟨⟨hp0, by omega⟩, q_i ?_⟩, trivial⟩, fun q => ?_⟩
  · subst q; exact h
  · subst q; exact h
  · subst q; exact h
  · subst q; exact h
  · have : what = 4 := by omega
    subst this
    exact ci_net hT hH hp0 hp1 (q_i h)
theorem ci_sums {F : Nat} {T : Nat → Int} {p what : Int} {w : AW} {P : Int → AW → Prop} (hF : FB F) (hT : TK T) (hH : HA w T) (hp : p = -1 ∨ (0 ≤ p ∧ p < T 2)) (hw : 0 ≤ what ∧ what ≤ 4) (h : P (if p = -1 then figS T (RZ w) what (T 2).toNat else fig T (RZ w) p.toNat what) w) : CI (m_X9_sums F [vR 0, vI p, vI what] w) P := by
  have a2 := hT.2.2.1
  refine wp_X9_sums F p what w _ ?_
  refine tt_for (K := k_X9_sums_5 F) (T 2) (fun i w' l => w' = w ∧ 0 ≤ i ∧ i ≤ T 2 ∧ ∃ s, l = [vR 0, vI p, vI what, vI s, vI i] ∧ s = (if p = -1 then figS T (RZ w) what i.toNat else if p < i then fig T (RZ w) p.toNat what else 0)) ?_ F 0 _ w (by omega) ⟨rfl, by omega, by omega, 0, rfl, by
    split
    · rfl
    · rw [if_neg (by omega)]⟩
  rintro n i l w' ⟨rfl, hi0, hi1, s, rfl, hs⟩ hk
  have e24 : w'.1 0 24 = T 2 := hH.2.2.2.1
  rw [ks_X9_sums_5]
  refine wp_X9_sums_5 F _ p what s i w' _ ?_
  rw [e24, w_id (x := i) (by omega) (by omega), w_id (x := T 2) (by omega) (by omega), w_id (x := p) (by omega) (by omega)]
  have add : i < T 2 → (p = -1 ∨ i = p) → TT (k_X9_sums_26 F (k_X9_sums_5 F n) [vR 0, vI p, vI what, vI s, vI i] [vI s] w') (qq 1 (fun r w => ∃ x, r = some (vI x) ∧ P x w)) := by
    intro hi hz
    refine wp_X9_sums_26 F _ p what s i s w' _ (ci_sumOf hT hH hi0 hi hw (wp_X9_sums_37 F _ p what s i _ s w' _ (fun x ex => hk _ _ ⟨rfl, by omega, by omega, x, rfl, ?_⟩ hi)))
    rw [ex, hs]
    by_cases z : p = -1
    · rw [if_pos z, if_pos z, show (i + 1).toNat = i.toNat + 1 from by omega]
      rfl
    · rw [if_neg z, if_neg z, if_neg (by omega), if_pos (by omega)]
      have : i = p := by omega
      rw [this]; omega
  refine ⟨fun q => ⟨fun z => add q (Or.inl z), fun z => ⟨fun z2 => add q (Or.inr z2), fun z2 => wp_X9_sums_37 F _ p what s i 0 s w' _ (fun x ex => hk _ _ ⟨rfl, by omega, by omega, x, rfl, ?_⟩ q)⟩⟩, fun q => q_i ?_⟩
  · rw [ex, hs, if_neg z, if_neg z]
    by_cases y : p < i
    · rw [if_pos y, if_pos (by omega)]; omega
    · rw [if_neg y, if_neg (by omega)]; omega
  · have e : i = T 2 := by omega
    rw [hs, e]
    by_cases z : p = -1
    · rw [if_pos z] at h ⊢; exact h
    · rw [if_neg z] at h ⊢; rw [if_pos (by omega)]; exact h
/-! the class's sums -/
theorem ci_figure {F : Nat} {j : Nat} {T : Nat → Int} {p what : Int} {w : AW} {P : Int → AW → Prop} (hj : isTw j) (hT : TK T) (hC : CA w j T) (hp0 : 0 ≤ p) (hp1 : p < T 2) (hwr : iR what) (h : P (if 0 ≤ what ∧ what ≤ 4 then fig T (CZ w) p.toNat what else -100000) w) : CI (m_X4_figure F [vR 254, vR j, vI p, vI what] w) P := by
  have a2 := hT.2.2.1
  refine wp_X4_figure F j hj p what w _ ?_
  rw [w_id hwr.1 hwr.2, (hC.pers hp0 hp1).2.1]
  refine ⟨⟨fun q => ⟨⟨hp0, by omega⟩, q_i ?_⟩, fun q => ⟨⟨hp0, by omega⟩, q_i ?_⟩, fun q => ⟨⟨hp0, by omega⟩, q_i ?_⟩, fun q => ⟨⟨hp0, by omega⟩, q_i ?_⟩, fun q => ⟨⟨hp0, by omega⟩, ⟨hp0, by omega⟩, ⟨hp0, by omega⟩, ⟨hp0, by omega⟩, q_i ?_⟩, trivial⟩, fun q => q_i ?_⟩
  · subst q; exact h
  · subst q; exact h
  · subst q; exact h
  · subst q; exact h
  · subst q
    rw [if_pos (by decide)] at h
    have e : fig T (CZ w) p.toNat 4 = w.1 260 p.toNat * pC T p + w.1 261 p.toNat - w.1 262 p.toNat := by
      unfold fig
      rw [if_neg (by decide), if_neg (by decide), if_neg (by decide), if_neg (by decide), Int.toNat_of_nonneg hp0]
      rfl
    rw [e] at h
    exact h
  · rw [if_neg (by omega)] at h; exact h
theorem ci_sumOfC {F : Nat} {j : Nat} {T : Nat → Int} {what : Int} {w : AW} {P : Int → AW → Prop} (hF : FB F) (hj : isTw j) (hT : TK T) (hC : CA w j T) (hwr : iR what) (h : P (if 0 ≤ what ∧ what ≤ 4 then figS T (CZ w) what (T 2).toNat else -100000) w) : CI (m_X4_sumOf F [vR 254, vR j, vI what] w) P := by
  have a2 := hT.2.2.1
  refine wp_X4_sumOf F j hj what w _ ?_
  rw [w_id hwr.1 hwr.2]
  refine ⟨fun q => q_i (by rw [if_neg (by omega)] at h; exact h), fun q => ⟨fun q2 => q_i (by rw [if_neg (by omega)] at h; exact h), fun q2 => ?_⟩⟩
  rw [if_pos (by omega)] at h
  refine tt_for (K := k_X4_sumOf_17 F) (T 2) (fun i w' l => w' = w ∧ 0 ≤ i ∧ i ≤ T 2 ∧ ∃ s, l = [vR 254, vR j, vI what, vI s, vI i] ∧ s = figS T (CZ w) what i.toNat) ?_ F 0 _ w (by omega) ⟨rfl, by omega, by omega, 0, rfl, rfl⟩
  rintro n i l w' ⟨rfl, hi0, hi1, s, rfl, hs⟩ hk
  rw [ks_X4_sumOf_17]
  refine wp_X4_sumOf_17 F _ j hj what s i w' _ ?_
  rw [hC.2.2.1, w_id (x := i) (by omega) (by omega), w_id (x := T 2) (by omega) (by omega)]
  refine ⟨fun q3 => ci_figure hj hT hC hi0 q3 hwr (fun x ex => hk _ _ ⟨rfl, by omega, by omega, x, rfl, ?_⟩ q3), fun q3 => q_i ?_⟩
  · rw [if_pos (by omega)] at ex
    rw [ex, hs, show (i + 1).toNat = i.toNat + 1 from by omega]
    rfl
  · rw [hs, show i = T 2 from by omega]
    exact h
