/-! WHAT HOLDS BETWEEN CALLS -/
def TS (w : AW) (s t : Nat) : Nat → Int := fun i => w.1 6 (464 * s + 232 * t + i)
def DS (w : AW) (s d : Nat) : Nat → Int := fun i => w.1 7 (363 * s + 121 * d + i)
def Bk (w : AW) (b s : Nat) : Prop :=
  (0 ≤ w.1 2 s ∧ w.1 2 s ≤ 600) ∧ w.1 b 1 = w.1 2 s ∧ w.1 b 2 = w.1 3 s ∧ w.1 b 3 = w.1 4 s ∧ (0 ≤ w.1 5 (2 * s) ∧ w.1 5 (2 * s) ≤ 2) ∧ w.1 b 5 = w.1 5 (2 * s) ∧ (0 ≤ w.1 5 (2 * s + 1) ∧ w.1 5 (2 * s + 1) ≤ 3) ∧ w.1 b 7 = w.1 5 (2 * s + 1) ∧
  (∀ k, k < 600 → w.1 (b + 1) k = w.1 1 (600 * s + k) ∧ -128 ≤ w.1 1 (600 * s + k) ∧ w.1 1 (600 * s + k) ≤ 127) ∧
  (∀ t : Nat, (t : Int) < w.1 5 (2 * s) → TK (TS w s t) ∧ CA w (b + 3 + 14 * t) (TS w s t)) ∧
  (∀ d : Nat, (d : Int) < w.1 5 (2 * s + 1) → DK (DS w s d) ∧ CD w (b + 32 + 3 * d) (DS w s d))
def Inv (w : AW) : Prop := Bk w 35 0 ∧ ∀ k : Nat, k < 3 → (w.1 33 k = 0 ∨ w.1 33 k = 1) ∧ w.1 (77 + 41 * k) 8 = w.1 33 k ∧ (w.1 33 k = 1 → Bk w (77 + 41 * k) (k + 1))
theorem Bk.eq {w w' : AW} {b s : Nat} (h : Bk w b s) (h0 : w'.1 2 s = w.1 2 s ∧ w'.1 3 s = w.1 3 s ∧ w'.1 4 s = w.1 4 s ∧ w'.1 5 (2 * s) = w.1 5 (2 * s) ∧ w'.1 5 (2 * s + 1) = w.1 5 (2 * s + 1)) (h1 : ∀ k, 600 * s ≤ k → k < 600 * s + 600 → w'.1 1 k = w.1 1 k) (h6 : ∀ k, w'.1 6 (464 * s + k) = w.1 6 (464 * s + k)) (h7 : ∀ k, w'.1 7 (363 * s + k) = w.1 7 (363 * s + k)) (hb : ∀ j k, b ≤ j → j ≤ b + 40 → (j = b → k ≠ 8) → w'.1 j k = w.1 j k) : Bk w' b s := by
  obtain ⟨a1, a2, a3, a4, a5, a6, a7, a8, a9, a10, a11⟩ := h
  obtain ⟨e2, e3, e4, e5, e51⟩ := h0
  have eT : ∀ t, TS w' s t = TS w s t := fun t => by
    funext i
    unfold TS
    rw [Nat.add_assoc]
    exact h6 _
  have eD : ∀ d, DS w' s d = DS w s d := fun d => by
    funext i
    unfold DS
    rw [Nat.add_assoc]
    exact h7 _
  refine ⟨by rw [e2]; exact a1, by rw [e2, hb b 1 (by omega) (by omega) (by omega)]; exact a2, by rw [e3, hb b 2 (by omega) (by omega) (by omega)]; exact a3, by rw [e4, hb b 3 (by omega) (by omega) (by omega)]; exact a4, by rw [e5]; exact a5, by rw [e5, hb b 5 (by omega) (by omega) (by omega)]; exact a6, by rw [e51]; exact a7, by rw [e51, hb b 7 (by omega) (by omega) (by omega)]; exact a8, fun k hk => by rw [hb (b + 1) k (by omega) (by omega) (by omega), h1 _ (by omega) (by omega)]; exact a9 k hk, fun t ht => ?_, fun d hd => ?_⟩
  · rw [e5] at ht
    rw [eT]
    exact ⟨(a10 t ht).1, (a10 t ht).2.eq (fun a k x y => hb a k (by omega) (by omega) (by omega))⟩
  · rw [e51] at hd
    rw [eD]
    obtain ⟨c1, c2, c3⟩ := a11 d hd
    refine ⟨c1, by rw [hb _ 0 (by omega) (by omega) (by omega)]; exact c2, fun k k0 k1 => ?_⟩
    rw [hb _ _ (by omega) (by omega) (by omega), hb _ _ (by omega) (by omega) (by omega)]
    exact c3 k k0 k1
theorem Inv.Q {w w' : AW} (h : Inv w) (hk : KQ w w') : Inv w' := by
  have e : ∀ j k, ((1 ≤ j ∧ j ≤ 7) ∨ (33 ≤ j ∧ j ≤ 199)) → w'.1 j k = w.1 j k := hk.1
  have g : ∀ b s, 35 ≤ b → b + 40 ≤ 199 → Bk w b s → Bk w' b s := fun b s hb1 hb2 hB => hB.eq ⟨e 2 _ (by omega), e 3 _ (by omega), e 4 _ (by omega), e 5 _ (by omega), e 5 _ (by omega)⟩ (fun k _ _ => e 1 _ (by omega)) (fun k => e 6 _ (by omega)) (fun k => e 7 _ (by omega)) (fun j k h1 h2 _ => e j k (by omega))
  refine ⟨g 35 0 (by omega) (by omega) h.1, fun k hk3 => ?_⟩
  obtain ⟨i1, i2, i3⟩ := h.2 k hk3
  rw [e 33 k (by omega), e (77 + 41 * k) 8 (by omega)]
  exact ⟨i1, i2, fun z => g _ _ (by omega) (by omega) (i3 z)⟩
theorem TS_TR {w : AW} {t : Int} (h : 0 ≤ t) : TS w 0 t.toNat = TR w t := by
  funext i
  unfold TS TR
  rw [show 464 * 0 + 232 * t.toNat + i = (232 * t).toNat + i from by omega]
theorem DS_DR {w : AW} {d : Int} (h : 0 ≤ d) : DS w 0 d.toNat = DR w d := by
  funext i
  unfold DS DR
  rw [show 363 * 0 + 121 * d.toNat + i = (121 * d).toNat + i from by omega]
theorem Inv.Tw {w : AW} (h : Inv w) : TwI w := by
  obtain ⟨⟨a1, a2, a3, a4, a5, a6, a7, a8, a9, a10, a11⟩, _⟩ := h
  refine ⟨a5, a6, fun t t0 t1 => ?_⟩
  have := a10 t.toNat (by show ((t.toNat : Nat) : Int) < w.1 5 (2 * 0); have e : w.1 5 (2 * 0) = w.1 5 0 := rfl; omega)
  rw [TS_TR t0] at this
  exact ⟨this.1, by rw [show 38 + 14 * t.toNat = 35 + 3 + 14 * t.toNat from by omega]; exact this.2⟩
theorem Inv.Dy {w : AW} (h : Inv w) : DyI w := by
  obtain ⟨⟨a1, a2, a3, a4, a5, a6, a7, a8, a9, a10, a11⟩, _⟩ := h
  refine ⟨a7, a8, fun d d0 d1 => ?_⟩
  have := a11 d.toNat (by show ((d.toNat : Nat) : Int) < w.1 5 (2 * 0 + 1); have e : w.1 5 (2 * 0 + 1) = w.1 5 1 := rfl; omega)
  rw [DS_DR d0] at this
  exact ⟨this.1, by rw [show 67 + 3 * d.toNat = 35 + 32 + 3 * d.toNat from by omega]; exact this.2⟩
/-! MOVE, FAULT -/
noncomputable def aMove (md : Int) (D : Nat → Int) (d k a : Int) : Int := by
  classical
  exact if 0 ≤ d ∧ d < md then (if k = -1 then (if a = 0 then D 0 else -2) else if (0 ≤ k ∧ k < D 0) ∧ (0 ≤ a ∧ a ≤ 2) then D (1 + 3 * k + a).toNat else -2) else -2
theorem cc_move {F : Nat} {d k a : Int} {w : AW} {P : Int → AW → Prop} (hJ : DyI w) (hd : iR d) (hk : iR k) (ha : iR a) (hp : ∀ w', KQ w w' → P (aMove (w.1 5 1) (DR w d) d k a) w') : CI (m_X8_move F [vR 34, vI d, vI k, vI a] w) P := by
  have hpk := hp w KQ.rf
  unfold aMove at hpk
  refine wp_X8_move F d k a w _ (cr_dayAt hJ hd (fun zd hdy => ⟨fun q => (by cases q), fun j hj => ?_⟩) (fun zd => ⟨fun _ => q_i (by rw [if_neg zd] at hpk; exact hpk), fun j hj => (by cases hj)⟩))
  cases hj
  rw [if_pos zd] at hpk
  obtain ⟨hDk, hCD⟩ := hJ.2.2 d zd.1 zd.2
  have hD0 := hDk.1
  rw [hCD.1, w_id hk.1 hk.2, w_id ha.1 ha.2, w_id (x := DR w d 0) (by omega) (by omega)]
  refine ⟨fun q => ?_, fun q => ?_⟩
  · rw [if_pos q] at hpk
    exact ⟨fun q2 => ⟨hdy, q_i (by rw [if_pos q2] at hpk; exact hpk)⟩, fun q2 => q_i (by rw [if_neg q2] at hpk; exact hpk)⟩
  · rw [if_neg q] at hpk
    refine ⟨fun q2 => q_i (by rw [if_neg (by omega)] at hpk; exact hpk), fun q2 => ⟨hdy, fun q3 => ?_, fun q3 => q_i (by rw [if_neg (by omega)] at hpk; exact hpk)⟩⟩
    obtain ⟨c1, c2⟩ := hCD.2 k (by omega) q3
    have hm := hDk.2 k (by omega) q3
    have hmb : iR (d1 (DR w d) k) := by rcases hm with ⟨_, _, _⟩ | ⟨_, _, _⟩ <;> exact ⟨by omega, by omega⟩
    rw [c1, c2, w_id hmb.1 hmb.2]
    refine ⟨⟨fun y => ⟨⟨by omega, by omega⟩, ?_⟩, fun y => ⟨⟨by omega, by omega⟩, q_i ?_⟩, fun y => ⟨⟨by omega, by omega⟩, q_i ?_⟩, trivial⟩, fun y => q_i (by rw [if_neg (by omega)] at hpk; exact hpk)⟩
    · rw [if_pos ⟨⟨by omega, q3⟩, by omega⟩, y, Int.add_zero] at hpk
      have e0 : DR w d (1 + 3 * k).toNat = d0 (DR w d) k := rfl
      rw [e0] at hpk
      rcases hm with ⟨m0, m1, m2⟩ | ⟨m0, m1, m2⟩
      · rw [m0] at hpk
        exact ⟨fun z => by omega, fun z => q_i hpk⟩
      · rw [m0] at hpk
        exact ⟨fun z => q_i hpk, fun z => absurd m1 z⟩
    · rw [if_pos ⟨⟨by omega, q3⟩, by omega⟩, y, show 1 + 3 * k + 1 = 2 + 3 * k from by omega] at hpk
      exact hpk
    · rw [if_pos ⟨⟨by omega, q3⟩, by omega⟩, y, show 1 + 3 * k + 2 = 3 + 3 * k from by omega] at hpk
      exact hpk
theorem cr_move {F : Nat} {d k a : Int} {w : AW} {P : Int → AW → Prop} (hJ : DyI w) (hd : iR d) (hk : iR k) (ha : iR a) (hp : ∀ w', KQ w w' → P (aMove (w.1 5 1) (DR w d) d k a) w') : CI (m_X9_move F [vR 0, vI d, vI k, vI a] w) P := by
  refine wp_X9_move F d k a w _ (fun w0 e0 => ?_)
  have k0 : KQ w w0 := by rw [e0]; exact wI0_KQ
  have hJ0 := hJ.Q k0
  have hm1 := hJ0.1
  have hpk := hp w0 k0
  rw [← k0.m1, ← k0.DR] at hpk
  unfold aMove at hpk
  rw [w_id hk.1 hk.2, w_id ha.1 ha.2]
  refine ci_isDay hd hm1 (fun zd => br1 ?_) (fun zd => br0 (q_i (by rw [if_neg zd] at hpk; exact hpk)))
  rw [if_pos zd] at hpk
  have hDk := (hJ0.2.2 d zd.1 zd.2).1
  have hD0 := hDk.1
  refine ⟨fun q => ?_, fun q => ci_movesOf (by omega) ?_⟩
  · rw [if_pos q] at hpk
    exact ⟨fun q2 => ci_movesOf (by omega) (q_i (by rw [if_pos q2] at hpk; exact hpk)), fun q2 => q_i (by rw [if_neg q2] at hpk; exact hpk)⟩
  · rw [if_neg q] at hpk
    refine ci_in hk (by decide) ⟨by omega, by omega⟩ (fun z => br1 (ci_in ha (by decide) (by decide) (fun z2 => br1 (ci_moveOf (by omega) (by omega) z2 (q_i ?_))) (fun z2 => br0 (q_i (by rw [if_neg (by omega)] at hpk; exact hpk))))) (fun z => br0 (q_i (by rw [if_neg (by omega)] at hpk; exact hpk)))
    rw [if_pos ⟨by omega, z2⟩] at hpk
    exact hpk
def aFault (x y a : Int) : Int := if a = 0 then x else if a = 1 then y else -1
theorem cc_fault {F : Nat} {a : Int} {w : AW} {P : Int → AW → Prop} (hI : Inv w) (ha : iR a) (hp : ∀ w', KQ w w' → P (aFault (w.1 3 0) (w.1 4 0) a) w') : CI (m_X8_fault F [vR 34, vI a] w) P := by
  have hpk := hp w KQ.rf
  unfold aFault at hpk
  have e2 : w.1 35 2 = w.1 3 0 := hI.1.2.2.1
  have e3 : w.1 35 3 = w.1 4 0 := hI.1.2.2.2.1
  refine wp_X8_fault F a w _ ?_
  rw [w_id ha.1 ha.2, e2, e3]
  refine ⟨fun q => q_i (by rw [if_pos q] at hpk; exact hpk), fun q => ⟨fun q2 => q_i (by rw [if_neg q, if_pos q2] at hpk; exact hpk), fun q2 => q_i (by rw [if_neg q, if_neg q2] at hpk; exact hpk)⟩⟩
theorem cr_fault {F : Nat} {a : Int} {w : AW} {P : Int → AW → Prop} (ha : iR a) (hp : ∀ w', KQ w w' → P (aFault (w.1 3 0) (w.1 4 0) a) w') : CI (m_X9_fault F [vR 0, vI a] w) P := by
  refine wp_X9_fault F a w _ (fun w0 e0 => ?_)
  have k0 : KQ w w0 := by rw [e0]; exact wI0_KQ
  have hpk := hp w0 k0
  unfold aFault at hpk
  rw [← k0.1 3 0 (by omega), ← k0.1 4 0 (by omega)] at hpk
  rw [w_id ha.1 ha.2]
  refine ⟨fun q => q_i (by rw [if_pos q] at hpk; exact hpk), fun q => ⟨fun q2 => q_i (by rw [if_neg q, if_pos q2] at hpk; exact hpk), fun q2 => q_i (by rw [if_neg q, if_neg q2] at hpk; exact hpk)⟩⟩
/-! FEED, END: both calls in a row -/
theorem tB_b (x : Int) : -128 ≤ tB x ∧ tB x ≤ 127 := by
  unfold tB
  have h1 := Int8.le_toInt ((Int32.ofInt x).toInt8)
  have h2 := Int8.toInt_lt ((Int32.ofInt x).toInt8)
  rw [Int8.toInt_toInt32]
  omega
def byt (v : Int) (i : Nat) : Int := tB (tB (bShr v (24 - 8 * i)))
theorem cv_push {F : Nat} {v n : Int} {w : AW} {P : AW → Prop} (hF : FB F) (hn : w.1 35 1 = n) (hb : 0 ≤ n ∧ n + 4 ≤ 600) (hp : ∀ w', Fr (fun j k => j = 36 ∨ (j = 35 ∧ k = 1)) w w' → w'.1 35 1 = n + 4 → (∀ k : Nat, w'.1 36 k = if n ≤ k ∧ (k : Int) < n + 4 then byt v (k - n.toNat) else w.1 36 k) → P w') : CV (m_X0_push F [vR 35, vI v] w) P := by
  have hbk : isBk 35 := by simp [isBk]
  refine wp_X0_push F 35 hbk v w _ ?_
  refine tt_for (K := k_X0_push_3 F) 4 (fun i w' l => Fr (fun j k => j = 36 ∨ (j = 35 ∧ k = 1)) w w' ∧ l = [vR 35, vI v, vI (24 - 8 * i)] ∧ 0 ≤ i ∧ i ≤ 4 ∧ w'.1 35 1 = n + i ∧ ∀ k : Nat, w'.1 36 k = if n ≤ k ∧ (k : Int) < n + i then byt v (k - n.toNat) else w.1 36 k) ?_ F 0 _ w (by omega) ⟨Fr.rf, rfl, by omega, by omega, by omega, fun k => by rw [if_neg (by omega)]⟩
  rintro m i l w1 ⟨f1, rfl, hi0, hi1, g1, h1⟩ hk
  rw [ks_X0_push_3]
  refine wp_X0_push_3 F _ 35 hbk v (24 - 8 * i) w1 _ ?_
  rw [w_id (x := 24 - 8 * i) (by omega) (by omega), g1, w_id (x := n + i) (by omega) (by omega)]
  refine ⟨fun q => q_v (hp w1 f1 (by rw [g1]; omega) (fun k => ?_)), fun q => ⟨fun q2 => ⟨⟨by omega, by omega⟩, fun w2 e2 w3 e3 => hk _ _ ⟨?_, ?_, by omega, by omega, ?_, fun k => ?_⟩ (by omega)⟩, fun q2 => by omega⟩⟩
  · rw [h1 k, show n + i = n + 4 from by omega]
  · rw [e3, e2]; exact (f1.wI _ (by omega)).wI _ (by omega)
  · rw [show 24 - 8 * i + -8 = 24 - 8 * (i + 1) from by omega]
  · rw [e3, wI_same, e2, wI_cell _ _ _ _ (by decide), g1]; omega
  · rw [e3, wI_cell _ _ _ _ (by decide), e2]
    show (wI w1 36 _ _).1 36 k = _
    rw [wI_at]
    by_cases z : k = (n + i).toNat
    · rw [if_pos ⟨rfl, z⟩, if_pos (by omega)]
      unfold byt
      rw [show ((k - n.toNat : Nat) : Int) = i from by omega]
    · rw [if_neg (fun y => z y.2), h1 k]
      by_cases y : n ≤ k ∧ (k : Int) < n + i
      · rw [if_pos y, if_pos (by omega)]
      · rw [if_neg y, if_neg (by omega)]
theorem cv_four {F : Nat} {v n : Int} {w : AW} {P : AW → Prop} (hF : FB F) (hn : w.1 2 0 = n) (hb : 0 ≤ n ∧ n + 4 ≤ 600) (hp : ∀ w', Fr (fun j k => (j = 1 ∧ k < 600) ∨ (j = 2 ∧ k = 0)) w w' → w'.1 2 0 = n + 4 → (∀ k : Nat, w'.1 1 k = if n ≤ k ∧ (k : Int) < n + 4 then byt v (k - n.toNat) else w.1 1 k) → P w') : CV (m_X9_four F [vR 0, vI v] w) P := by
  refine wp_X9_four F v w _ ?_
  refine tt_for (K := k_X9_four_3 F) 4 (fun i w' l => Fr (fun j k => (j = 1 ∧ k < 600) ∨ (j = 2 ∧ k = 0)) w w' ∧ l = [vR 0, vI v, vI (24 - 8 * i)] ∧ 0 ≤ i ∧ i ≤ 4 ∧ w'.1 2 0 = n + i ∧ ∀ k : Nat, w'.1 1 k = if n ≤ k ∧ (k : Int) < n + i then byt v (k - n.toNat) else w.1 1 k) ?_ F 0 _ w (by omega) ⟨Fr.rf, rfl, by omega, by omega, by omega, fun k => by rw [if_neg (by omega)]⟩
  rintro m i l w1 ⟨f1, rfl, hi0, hi1, g1, h1⟩ hk
  rw [ks_X9_four_3]
  refine wp_X9_four_3 F _ v (24 - 8 * i) w1 _ ?_
  rw [w_id (x := 24 - 8 * i) (by omega) (by omega), g1]
  refine ⟨fun q => q_v (hp w1 f1 (by rw [g1]; omega) (fun k => ?_)), fun q => ⟨⟨by omega, by omega⟩, fun w2 e2 w3 e3 => hk _ _ ⟨?_, ?_, by omega, by omega, ?_, fun k => ?_⟩ (by omega)⟩⟩
  · rw [h1 k, show n + i = n + 4 from by omega]
  · rw [e3, e2]; exact (f1.wI _ (by omega)).wI _ (by omega)
  · rw [show 24 - 8 * i + -8 = 24 - 8 * (i + 1) from by omega]
  · rw [e3, wI_same, e2, wI_cell _ _ _ _ (by decide), g1]; omega
  · rw [e3, wI_cell _ _ _ _ (by decide), e2, wI_at]
    by_cases z : k = (n + i).toNat
    · rw [if_pos ⟨rfl, z⟩, if_pos (by omega)]
      unfold byt
      rw [show ((k - n.toNat : Nat) : Int) = i from by omega]
    · rw [if_neg (fun y => z y.2), h1 k]
      by_cases y : n ≤ k ∧ (k : Int) < n + i
      · rw [if_pos y, if_pos (by omega)]
      · rw [if_neg y, if_neg (by omega)]
