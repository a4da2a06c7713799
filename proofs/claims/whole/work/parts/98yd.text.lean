/-! TEXT: the pair of calls -/
def plc (a m x : Int) : Int := if a = -1 then (if m < x then m else -1) else if 0 ≤ a ∧ a < m then a else -1
theorem ci_placeFor {F : Nat} {a m x : Int} {w : AW} {P : Int → AW → Prop} (ha : iR a) (hm : 0 ≤ m ∧ m ≤ 100) (hx : 0 ≤ x ∧ x ≤ 100) (h : P (plc a m x) w) : CI (m_X8_placeFor F [vI a, vI m, vI x] w) P := by
  unfold plc at h
  refine wp_X8_placeFor F a m x w _ ?_
  rw [w_id ha.1 ha.2, w_id (x := m) (by omega) (by omega), w_id (x := x) (by omega) (by omega)]
  refine ⟨fun q => ?_, fun q => ⟨fun q2 => q_i ?_, fun q2 => ⟨fun q3 => q_i ?_, fun q3 => q_i ?_⟩⟩⟩
  · rw [if_pos q] at h
    exact ⟨fun q2 => q_i (by rw [if_pos q2] at h; exact h), fun q2 => q_i (by rw [if_neg q2] at h; exact h)⟩
  · rw [if_neg q, if_neg (by omega)] at h; exact h
  · rw [if_neg q, if_pos (by omega)] at h; exact h
  · rw [if_neg q, if_neg (by omega)] at h; exact h
theorem plc_r {a m x : Int} (hm : 0 ≤ m ∧ m ≤ x) : plc a m x = -1 ∨ (0 ≤ plc a m x ∧ plc a m x < x ∧ plc a m x ≤ m ∧ (a = -1 → plc a m x = m) ∧ (a ≠ -1 → plc a m x = a ∧ a < m)) := by
  unfold plc
  by_cases q : a = -1
  · rw [if_pos q]
    by_cases q2 : m < x
    · rw [if_pos q2]; omega
    · rw [if_neg q2]; omega
  · rw [if_neg q]
    by_cases q2 : 0 ≤ a ∧ a < m
    · rw [if_pos q2]; omega
    · rw [if_neg q2]; omega
abbrev Sth (j k : Nat) : Prop := j = 8 ∨ j = 9 ∨ (j = 0 ∧ (k = 0 ∨ (8 ≤ k ∧ k ≤ 20))) ∨ ((j = 2 ∨ j = 3 ∨ j = 4) ∧ k = 0)
/-- the reference's head of a text -/
theorem tt_rhead {F : Nat} {s a : Int} {w : AW} {P : Int → AW → Prop} (hs : iR s) (h : ∀ w', Fr Sth w w' → w'.1 0 9 = w.1 2 0 → w'.1 2 0 = 0 → w'.1 3 0 = 0 → w'.1 4 0 = -1 → (¬ (0 ≤ s ∧ s ≤ 1) → P (-2) w') ∧ (0 ≤ s ∧ s ≤ 1 → ((w32 a = (-1) → (0 ≤ s ∧ s < 8) ∧ ((w32 s = 0 → TT ((k_X9_text_65 F) [vR 0, vI s, vI a, vU, vU] [vI 2, vI (w'.1 5 s.toNat)] w') (qq 1 (fun r w => ∃ x, r = some (vI x) ∧ P x w))) ∧ (¬ w32 s = 0 → TT ((k_X9_text_65 F) [vR 0, vI s, vI a, vU, vU] [vI 3, vI (w'.1 5 s.toNat)] w') (qq 1 (fun r w => ∃ x, r = some (vI x) ∧ P x w))))) ∧ (¬ w32 a = (-1) → (0 ≤ s ∧ s < 8) ∧ CI (m_X9_in F [vI a, vI 0, vI ((w'.1 5 s.toNat) - 1)] w') (fun x19 ww17 => ((w32 x19 = 0 → (qq 1 (fun r w => ∃ x, r = some (vI x) ∧ P x w)) (some (vI (-2))) ww17) ∧ (¬ w32 x19 = 0 → TT ((k_X9_text_90 F) [vR 0, vI s, vI a, vU, vU] [] ww17) (qq 1 (fun r w => ∃ x, r = some (vI x) ∧ P x w)))))))) ) : CI (m_X9_text F [vR 0, vI s, vI a] w) P := by
  refine wp_X9_text F s a w _ (fun w1 e1 w2 e2 w3 e3 w4 e4 w5 e5 => ?_)
  have f5 : Fr Sth w w5 := by
    rw [e5, e4, e3, e2, e1]
    exact ((((Fr.rf.wI _ (by simp [Sth])).wI _ (by simp [Sth])).wI _ (by simp [Sth])).wI _ (by simp [Sth])).wI _ (by simp [Sth])
  have hh := h w5 f5 (by rw [e5, wI_cell _ _ _ _ (by decide), e4, wI_cell _ _ _ _ (by decide), e3, wI_cell _ _ _ _ (by decide), e2, wI_same, e1, wI_cell _ _ _ _ (by decide)]) (by rw [e5, wI_cell _ _ _ _ (by decide), e4, wI_cell _ _ _ _ (by decide), e3, wI_same]) (by rw [e5, wI_cell _ _ _ _ (by decide), e4, wI_same]) (by rw [e5, wI_same])
  exact ci_in hs (by decide) (by decide) (fun y => br1 (hh.2 y)) (fun y => br0 (q_i (hh.1 y)))
abbrev Stx0 (m : Nat) (j k : Nat) : Prop := Sth j k ∨ (j = 5 ∧ k = 0) ∨ (j = 6 ∧ 232 * m ≤ k ∧ k < 232 * m + 232)
theorem cr_text0 {F : Nat} {a : Int} {w : AW} {P : Int → AW → Prop} (hF : FB F) (ha : iR a) (h2 : 0 ≤ w.1 2 0 ∧ w.1 2 0 ≤ 600) (h1 : ∀ k, k < 600 → -128 ≤ w.1 1 k ∧ w.1 1 k ≤ 127) (h5 : 0 ≤ w.1 5 0 ∧ w.1 5 0 ≤ 2) (hbad : plc a (w.1 5 0) 2 = -1 → ∀ w', Fr Sth w w' → w'.1 2 0 = 0 → w'.1 3 0 = 0 → w'.1 4 0 = -1 → P (-2) w') (hflt : plc a (w.1 5 0) 2 ≠ -1 → (pTown (w.1 1) (w.1 2 0)).1.1 ≠ 0 → ∀ w', Fr Sth w w' → w'.1 2 0 = 0 → w'.1 3 0 = (pTown (w.1 1) (w.1 2 0)).1.1 → w'.1 4 0 = (pTown (w.1 1) (w.1 2 0)).1.2 → P (-1) w') (hok : ∀ m : Nat, plc a (w.1 5 0) 2 = m → m < 2 → (pTown (w.1 1) (w.1 2 0)).1.1 = 0 → ∀ w', Fr (Stx0 m) w w' → w'.1 2 0 = 0 → w'.1 3 0 = 0 → w'.1 4 0 = -1 → w'.1 5 0 = (if a = -1 then w.1 5 0 + 1 else w.1 5 0) → (∀ i, i < 232 → w'.1 6 (232 * m + i) = (pTown (w.1 1) (w.1 2 0)).2 i) → P m w') : CI (m_X9_text F [vR 0, vI 0, vI a] w) P := by
  refine tt_rhead (by decide) (fun w1 f1 g9 g2 g3 g4 => ⟨fun y => absurd (by decide) y, fun _ => ?_⟩)
  have c1 : ∀ k, w1.1 1 k = w.1 1 k := fun k => f1.I 1 k (by simp [Sth])
  have c5 : ∀ k, w1.1 5 k = w.1 5 k := fun k => f1.I 5 k (by simp [Sth])
  have hB : BB (w.1 1) (w.1 2 0) := ⟨h1, h2⟩
  have hR : RTr w1 (w.1 1) (w.1 2 0) := ⟨g9, fun k _ => c1 k⟩
  have hpT : pTx 0 (w.1 1) (w.1 2 0) = pTown (w.1 1) (w.1 2 0) := by unfold pTx; rw [if_pos rfl]
  have go : plc a (w.1 5 0) 2 ≠ -1 → TT (k_X9_text_90 F [vR 0, vI 0, vI a, vU, vU] [] w1) (qq 1 (fun r w => ∃ x, r = some (vI x) ∧ P x w)) := by
    intro hpl
    refine wp_X9_text_90 F 0 a w1 _ (ci_readText hF hB hR (by decide) (fun w2 f2 p3 p4 => ?_))
    rw [hpT] at p3 p4 ⊢
    have f2' : Fr Sth w w2 := f1.tr (f2.wk (by intro j k; simp only [Srx, Sth]; omega))
    have q2 : w2.1 2 0 = 0 := by rw [f2.I 2 0 (by simp [Srx])]; exact g2
    have q5 : ∀ k, w2.1 5 k = w.1 5 k := fun k => f2'.I 5 k (by simp [Sth])
    refine ⟨fun z hrw => br1 ?_, fun z => br0 (q_i (hflt hpl z w2 f2' q2 p3 (by rw [p4, if_neg z])))⟩
    rw [z] at p3
    rw [if_pos z] at p4
    rcases plc_r (a := a) h5 with y | ⟨y0, y1, y2, y3, y4⟩
    · exact absurd y hpl
    obtain ⟨m, hm⟩ := Int.eq_ofNat_of_zero_le y0
    have hm2 : m < 2 := by omega
    have put : ∀ w3, Fr (fun j k => j = 5 ∧ k = 0) w2 w3 → w3.1 5 0 = (if a = -1 then w.1 5 0 + 1 else w.1 5 0) → TT (k_X9_text_138 F F [vR 0, vI 0, vI a, vI m, vI 0] [] w3) (qq 1 (fun r w => ∃ x, r = some (vI x) ∧ P x w)) := by
      intro w3 f3 e5
      refine tt_for (K := k_X9_text_138 F) 232 (fun i w' lo => Fr (fun j k => j = 6 ∧ 232 * m ≤ k ∧ k < 232 * m + 232) w3 w' ∧ lo = [vR 0, vI 0, vI a, vI m, vI i] ∧ 0 ≤ i ∧ i ≤ 232 ∧ ∀ k : Nat, (k : Int) < i → w'.1 6 (232 * m + k) = w2.1 8 k) ?_ F 0 _ w3 (by omega) ⟨Fr.rf, rfl, by omega, by omega, fun k hk => by omega⟩
      rintro n i lo w4 ⟨f4, rfl, hi0, hi1, h4⟩ hk
      rw [ks_X9_text_138]
      refine wp_X9_text_138 F _ 0 a m i w4 _ ?_
      rw [w_id (x := i) (by omega) (by omega)]
      refine ⟨fun q => ifp (by decide) ⟨⟨by omega, by omega⟩, ⟨by omega, by omega⟩, fun w5 e5' => hk _ _ ⟨by rw [e5']; exact f4.wI _ (by omega), rfl, by omega, by omega, fun k hk2 => ?_⟩ q⟩, fun q => wp_X9_text_176 F 0 a m i w4 _ ?_⟩
      · rw [e5', wI_at]
        by_cases zz : (k : Int) = i
        · rw [if_pos ⟨rfl, by omega⟩, f4.I 8 _ (by omega), f3.I 8 _ (by omega), show i.toNat = k from by omega]
        · rw [if_neg (by omega)]; exact h4 k (by omega)
      · obtain ⟨F', hF'⟩ : ∃ F', F = F' + 1 := ⟨F - 1, by omega⟩
        have e : TT (k_X9_text_179 F (F' + 1) [vR 0, vI 0, vI a, vI m, vI 0] [] w4) (qq 1 (fun r w => ∃ x, r = some (vI x) ∧ P x w)) := by
          rw [ks_X9_text_179]
          refine wp_X9_text_179 F _ 0 a m 0 w4 _ (ifp (by decide) (ifn (by decide) (q_i ?_)))
          refine hok m hm hm2 z w4 ((f2'.wk (by intro j k h; exact Or.inl h)).tr ((f3.wk (by intro j k; simp only [Stx0]; omega)).tr (f4.wk (by intro j k; simp only [Stx0]; omega)))) ?_ ?_ ?_ ?_ (fun k hk2 => ?_)
          · rw [f4.I 2 0 (by omega), f3.I 2 0 (by omega)]; exact q2
          · rw [f4.I 3 0 (by omega), f3.I 3 0 (by omega)]; exact p3
          · rw [f4.I 4 0 (by omega), f3.I 4 0 (by omega)]; exact p4
          · rw [f4.I 5 0 (by omega)]; exact e5
          · rw [h4 k (by omega)]; exact hrw k (by omega)
        rw [← hF'] at e
        exact e
    rw [w_id ha.1 ha.2]
    refine ⟨fun q => ⟨by decide, wp_X9_text_115 F 0 a _ w2 _ ⟨by decide, ?_⟩⟩, fun q => wp_X9_text_115 F 0 a a w2 _ ⟨by decide, ?_⟩⟩
    · rw [w_id ha.1 ha.2]
      refine ifp q (wp_X9_text_133 F 0 a _ 1 _ 0 w2 _ ⟨by decide, fun w3 e3 => ?_⟩)
      have em : w2.1 5 (0 : Int).toNat = (m : Int) := by
        show w2.1 5 0 = _
        rw [q5, ← hm]; exact (y3 q).symm
      rw [em] at e3 ⊢
      refine put w3 (by rw [e3]; exact Fr.rf.wI _ (by decide)) ?_
      rw [e3, if_pos q]
      have := y3 q
      show (wI w2 5 0 _).1 5 0 = _
      rw [wI_same]; omega
    · rw [w_id ha.1 ha.2]
      refine ifn q (wp_X9_text_133 F 0 a _ 0 _ 0 w2 _ ⟨by decide, fun w3 e3 => ?_⟩)
      have em : a = (m : Int) := by rw [← hm]; exact (y4 q).1.symm
      rw [show (vI a : AV) = vI a from rfl]
      have := put w3 (by rw [e3]; exact Fr.rf.wI _ (by decide)) (by
        rw [e3, if_neg q]
        show (wI w2 5 0 _).1 5 0 = _
        rw [wI_same]
        show w2.1 5 0 + 0 = _
        rw [q5]; omega)
      rw [← em] at this
      exact this
  have hr := plc_r (a := a) h5
  rw [w_id ha.1 ha.2]
  refine ⟨fun q => ⟨by decide, ?_⟩, fun q => ⟨by decide, ?_⟩⟩
  · have hpl : plc a (w.1 5 0) 2 = if w.1 5 0 < 2 then w.1 5 0 else -1 := by unfold plc; rw [if_pos q]
    refine ifp (by decide) (wp_X9_text_65 F 0 a 2 _ w1 _ ?_)
    show (w32 (w1.1 5 0) = w32 2 → _) ∧ (¬ w32 (w1.1 5 0) = w32 2 → _)
    rw [c5, w_id (x := w.1 5 0) (by omega) (by omega), w_id (x := (2 : Int)) (by omega) (by omega)]
    refine ⟨fun y => q_i (hbad (by rw [hpl, if_neg (by omega)]) w1 f1 g2 g3 g4), fun y => go (by rw [hpl, if_pos (by omega)]; omega)⟩
  · have hpl : plc a (w.1 5 0) 2 = if 0 ≤ a ∧ a < w.1 5 0 then a else -1 := by unfold plc; rw [if_neg q]
    show CI (m_X9_in F [vI a, vI 0, vI (w1.1 5 0 - 1)] w1) _
    rw [c5]
    refine ci_in ha (by decide) ⟨by omega, by omega⟩ (fun y => br1 (go (by rw [hpl, if_pos (by omega)]; omega))) (fun y => br0 (q_i (hbad (by rw [hpl, if_neg (by omega)]) w1 f1 g2 g3 g4)))
abbrev Stx1 (m : Nat) (j k : Nat) : Prop := Sth j k ∨ (j = 5 ∧ k = 1) ∨ (j = 7 ∧ 121 * m ≤ k ∧ k < 121 * m + 121)
theorem cr_text1 {F : Nat} {a : Int} {w : AW} {P : Int → AW → Prop} (hF : FB F) (ha : iR a) (h2 : 0 ≤ w.1 2 0 ∧ w.1 2 0 ≤ 600) (h1 : ∀ k, k < 600 → -128 ≤ w.1 1 k ∧ w.1 1 k ≤ 127) (h5 : 0 ≤ w.1 5 1 ∧ w.1 5 1 ≤ 3) (hbad : plc a (w.1 5 1) 3 = -1 → ∀ w', Fr Sth w w' → w'.1 2 0 = 0 → w'.1 3 0 = 0 → w'.1 4 0 = -1 → P (-2) w') (hflt : plc a (w.1 5 1) 3 ≠ -1 → (pDay (w.1 1) (w.1 2 0)).1.1 ≠ 0 → ∀ w', Fr Sth w w' → w'.1 2 0 = 0 → w'.1 3 0 = (pDay (w.1 1) (w.1 2 0)).1.1 → w'.1 4 0 = (pDay (w.1 1) (w.1 2 0)).1.2 → P (-1) w') (hok : ∀ m : Nat, plc a (w.1 5 1) 3 = m → m < 3 → (pDay (w.1 1) (w.1 2 0)).1.1 = 0 → ∀ w', Fr (Stx1 m) w w' → w'.1 2 0 = 0 → w'.1 3 0 = 0 → w'.1 4 0 = -1 → w'.1 5 1 = (if a = -1 then w.1 5 1 + 1 else w.1 5 1) → (∀ i, i < 121 → w'.1 7 (121 * m + i) = (pDay (w.1 1) (w.1 2 0)).2 i) → P m w') : CI (m_X9_text F [vR 0, vI 1, vI a] w) P := by
  refine tt_rhead (by decide) (fun w1 f1 g9 g2 g3 g4 => ⟨fun y => absurd (by decide) y, fun _ => ?_⟩)
  have c1 : ∀ k, w1.1 1 k = w.1 1 k := fun k => f1.I 1 k (by simp [Sth])
  have c5 : ∀ k, w1.1 5 k = w.1 5 k := fun k => f1.I 5 k (by simp [Sth])
  have hB : BB (w.1 1) (w.1 2 0) := ⟨h1, h2⟩
  have hR : RTr w1 (w.1 1) (w.1 2 0) := ⟨g9, fun k _ => c1 k⟩
  have hpT : pTx 1 (w.1 1) (w.1 2 0) = pDay (w.1 1) (w.1 2 0) := by unfold pTx; rw [if_neg (by decide)]
  have go : plc a (w.1 5 1) 3 ≠ -1 → TT (k_X9_text_90 F [vR 0, vI 1, vI a, vU, vU] [] w1) (qq 1 (fun r w => ∃ x, r = some (vI x) ∧ P x w)) := by
    intro hpl
    refine wp_X9_text_90 F 1 a w1 _ (ci_readText hF hB hR (by decide) (fun w2 f2 p3 p4 => ?_))
    rw [hpT] at p3 p4 ⊢
    have f2' : Fr Sth w w2 := f1.tr (f2.wk (by intro j k; simp only [Srx, Sth]; omega))
    have q2 : w2.1 2 0 = 0 := by rw [f2.I 2 0 (by simp [Srx])]; exact g2
    have q5 : ∀ k, w2.1 5 k = w.1 5 k := fun k => f2'.I 5 k (by simp [Sth])
    refine ⟨fun z hrw => br1 ?_, fun z => br0 (q_i (hflt hpl z w2 f2' q2 p3 (by rw [p4, if_neg z])))⟩
    rw [z] at p3
    rw [if_pos z] at p4
    rcases plc_r (a := a) h5 with y | ⟨y0, y1, y2, y3, y4⟩
    · exact absurd y hpl
    obtain ⟨m, hm⟩ := Int.eq_ofNat_of_zero_le y0
    have hm2 : m < 3 := by omega
    have put : ∀ w3, Fr (fun j k => j = 5 ∧ k = 1) w2 w3 → w3.1 5 1 = (if a = -1 then w.1 5 1 + 1 else w.1 5 1) → TT (k_X9_text_138 F F [vR 0, vI 1, vI a, vI m, vI 0] [] w3) (qq 1 (fun r w => ∃ x, r = some (vI x) ∧ P x w)) := by
      intro w3 f3 e5
      obtain ⟨F', hF'⟩ : ∃ F', F = F' + 1 := ⟨F - 1, by omega⟩
      have e : TT (k_X9_text_138 F (F' + 1) [vR 0, vI 1, vI a, vI m, vI 0] [] w3) (qq 1 (fun r w => ∃ x, r = some (vI x) ∧ P x w)) := by
        rw [ks_X9_text_138]
        refine wp_X9_text_138 F _ 1 a m 0 w3 _ (ifp (by decide) (ifn (by decide) (wp_X9_text_176 F 1 a m 0 w3 _ ?_)))
        refine tt_for (K := k_X9_text_179 F) 121 (fun i w' lo => Fr (fun j k => j = 7 ∧ 121 * m ≤ k ∧ k < 121 * m + 121) w3 w' ∧ lo = [vR 0, vI 1, vI a, vI m, vI i] ∧ 0 ≤ i ∧ i ≤ 121 ∧ ∀ k : Nat, (k : Int) < i → w'.1 7 (121 * m + k) = w2.1 8 k) ?_ F 0 _ w3 (by omega) ⟨Fr.rf, rfl, by omega, by omega, fun k hk => by omega⟩
        rintro n i lo w4 ⟨f4, rfl, hi0, hi1, h4⟩ hk
        rw [ks_X9_text_179]
        refine wp_X9_text_179 F _ 1 a m i w4 _ ?_
        rw [w_id (x := i) (by omega) (by omega)]
        refine ⟨fun q => ifp (by decide) ⟨⟨by omega, by omega⟩, ⟨by omega, by omega⟩, fun w5 e5' => hk _ _ ⟨by rw [e5']; exact f4.wI _ (by omega), rfl, by omega, by omega, fun k hk2 => ?_⟩ q⟩, fun q => q_i ?_⟩
        · rw [e5', wI_at]
          by_cases zz : (k : Int) = i
          · rw [if_pos ⟨rfl, by omega⟩, f4.I 8 _ (by omega), f3.I 8 _ (by omega), show i.toNat = k from by omega]
          · rw [if_neg (by omega)]; exact h4 k (by omega)
        · refine hok m hm hm2 z w4 ((f2'.wk (by intro j k h; exact Or.inl h)).tr ((f3.wk (by intro j k; simp only [Stx1]; omega)).tr (f4.wk (by intro j k; simp only [Stx1]; omega)))) ?_ ?_ ?_ ?_ (fun k hk2 => ?_)
          · rw [f4.I 2 0 (by omega), f3.I 2 0 (by omega)]; exact q2
          · rw [f4.I 3 0 (by omega), f3.I 3 0 (by omega)]; exact p3
          · rw [f4.I 4 0 (by omega), f3.I 4 0 (by omega)]; exact p4
          · rw [f4.I 5 1 (by omega)]; exact e5
          · rw [h4 k (by omega)]; exact hrw k (by omega)
      rw [← hF'] at e
      exact e
    rw [w_id ha.1 ha.2]
    refine ⟨fun q => ⟨by decide, wp_X9_text_115 F 1 a _ w2 _ ⟨by decide, ?_⟩⟩, fun q => wp_X9_text_115 F 1 a a w2 _ ⟨by decide, ?_⟩⟩
    · rw [w_id ha.1 ha.2]
      refine ifp q (wp_X9_text_133 F 1 a _ 1 _ 1 w2 _ ⟨by decide, fun w3 e3 => ?_⟩)
      have em : w2.1 5 (1 : Int).toNat = (m : Int) := by
        show w2.1 5 1 = _
        rw [q5, ← hm]; exact (y3 q).symm
      rw [em] at e3 ⊢
      refine put w3 (by rw [e3]; exact Fr.rf.wI _ (by decide)) ?_
      rw [e3, if_pos q]
      have := y3 q
      show (wI w2 5 1 _).1 5 1 = _
      rw [wI_same]; omega
    · rw [w_id ha.1 ha.2]
      refine ifn q (wp_X9_text_133 F 1 a _ 0 _ 1 w2 _ ⟨by decide, fun w3 e3 => ?_⟩)
      have em : a = (m : Int) := by rw [← hm]; exact (y4 q).1.symm
      rw [show (vI a : AV) = vI a from rfl]
      have := put w3 (by rw [e3]; exact Fr.rf.wI _ (by decide)) (by
        rw [e3, if_neg q]
        show (wI w2 5 1 _).1 5 1 = _
        rw [wI_same]
        show w2.1 5 1 + 0 = _
        rw [q5]; omega)
      rw [← em] at this
      exact this
  have hr := plc_r (a := a) h5
  rw [w_id ha.1 ha.2]
  refine ⟨fun q => ⟨by decide, ?_⟩, fun q => ⟨by decide, ?_⟩⟩
  · have hpl : plc a (w.1 5 1) 3 = if w.1 5 1 < 3 then w.1 5 1 else -1 := by unfold plc; rw [if_pos q]
    refine ifn (by decide) (wp_X9_text_65 F 1 a 3 _ w1 _ ?_)
    show (w32 (w1.1 5 1) = w32 3 → _) ∧ (¬ w32 (w1.1 5 1) = w32 3 → _)
    rw [c5, w_id (x := w.1 5 1) (by omega) (by omega), w_id (x := (3 : Int)) (by omega) (by omega)]
    refine ⟨fun y => q_i (hbad (by rw [hpl, if_neg (by omega)]) w1 f1 g2 g3 g4), fun y => go (by rw [hpl, if_pos (by omega)]; omega)⟩
  · have hpl : plc a (w.1 5 1) 3 = if 0 ≤ a ∧ a < w.1 5 1 then a else -1 := by unfold plc; rw [if_neg q]
    show CI (m_X9_in F [vI a, vI 0, vI (w1.1 5 1 - 1)] w1) _
    rw [c5]
    refine ci_in ha (by decide) ⟨by omega, by omega⟩ (fun y => br1 (go (by rw [hpl, if_pos (by omega)]; omega))) (fun y => br0 (q_i (hbad (by rw [hpl, if_neg (by omega)]) w1 f1 g2 g3 g4)))
