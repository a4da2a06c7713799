/-! TEXT: both calls in a row -/
theorem ci_keepFault {F : Nat} {w : AW} {P : Int → AW → Prop} (h : ∀ w', Fr (fun j k => j = 35 ∧ (k = 2 ∨ k = 3)) w w' → w'.1 35 2 = w.1 200 2 → w'.1 35 3 = w.1 200 3 → P (-1) w') : CI (m_X8_keepFault F [vR 34] w) P := by
  refine wp_X8_keepFault F w _ (fun w1 e1 w2 e2 => q_i (h w2 ?_ ?_ ?_))
  · rw [e2, e1]; exact (Fr.rf.wI _ (by omega)).wI _ (by omega)
  · rw [e2, wI_idx _ _ _ _ (by decide), e1, wI_same]
  · rw [e2, wI_same, e1, wI_cell _ _ _ _ (by decide)]
theorem pr_text0 {F : Nat} {a : Int} {w w0 : AW} (hF : FB F) (hI : Inv w) (ha : iR a) (hk0 : ∀ j k, ¬ (j = 35 ∧ (k = 1 ∨ k = 2 ∨ k = 3)) → w0.1 j k = w.1 j k) (z1 : w0.1 35 1 = 0) (z2 : w0.1 35 2 = 0) (z3 : w0.1 35 3 = -1) : CI (m_X8_takeTown F [vR 34, vI (w.1 2 0), vI a] w0) (fun x w1 => CI (m_X9_text F [vR 0, vI 0, vI a] w1) (fun y w2 => x = y ∧ Inv w2)) := by
  obtain ⟨a1, a2, a3, a4, a5, a6, a7, a8, a9, a10, a11⟩ := id hI.1
  have n2 : 0 ≤ w.1 2 0 ∧ w.1 2 0 ≤ 600 := a1
  have by1 : ∀ k, k < 600 → -128 ≤ w.1 1 k ∧ w.1 1 k ≤ 127 := fun k hk => by
    have := (a9 k hk).2
    rw [show 600 * 0 + k = k from by omega] at this
    exact this
  have hm5 : 0 ≤ w.1 5 0 ∧ w.1 5 0 ≤ 2 := a5
  have hcnt : w.1 35 5 = w.1 5 0 := a6
  have hB : BB (w.1 1) (w.1 2 0) := ⟨by1, n2⟩
  have ref : ∀ w1 : AW, (∀ j k, 1 ≤ j → j ≤ 7 → w1.1 j k = w.1 j k) → (w1.1 1 = w.1 1) ∧ w1.1 2 0 = w.1 2 0 ∧ w1.1 5 0 = w.1 5 0 := fun w1 h => ⟨by funext k; exact h 1 k (by omega) (by omega), h 2 0 (by omega) (by omega), h 5 0 (by omega) (by omega)⟩
  refine wp_X8_takeTown F (w.1 2 0) a w0 _ ?_
  rw [hk0 35 5 (by omega), hcnt]
  refine ci_placeFor ha (by omega) (by omega) ?_
  have hr := plc_r (a := a) hm5
  rw [w_id (x := plc a (w.1 5 0) 2) (by omega) (by omega)]
  refine ⟨fun q => q_i ?_, fun q => ?_⟩
  · obtain ⟨q1, q2, q5⟩ := ref w0 (fun j k _ _ => hk0 j k (by omega))
    refine cr_text0 hF ha (by rw [q2]; exact n2) (fun k hk => by rw [q1]; exact by1 k hk) (by rw [q5]; exact hm5) (fun _ w1 f1 g2 g3 g4 => ⟨rfl, ?_⟩) (fun y => absurd (by rw [q5]; exact q) y) (fun m hm hm2 => by rw [q5, q] at hm; omega)
    refine hI.head (fun j k x1 x2 x3 => ?_) (by rw [g2]; omega) ?_ ?_ ?_
    · rw [f1.I j k (by simp only [Sth]; omega), hk0 j k x2]
    · rw [g2, f1.I 35 1 (by simp [Sth])]; exact z1
    · rw [g3, f1.I 35 2 (by simp [Sth])]; exact z2
    · rw [g4, f1.I 35 3 (by simp [Sth])]; exact z3
  · rcases hr with y | ⟨y0, y1, y2, y3, y4⟩
    · exact absurd y q
    obtain ⟨m, hm⟩ := Int.eq_ofNat_of_zero_le y0
    rw [hm]
    refine ci_readTown (b := w.1 1) hF hB (fun k hk => ?_) (fun hz w1 k1 p2 p3 => br0 (ci_keepFault (fun w2 f2 r2 r3 => q_i ?_))) (fun hz hz2 hTK w1 k1 hC => br1 ?_)
    · rw [hk0 36 k (by omega)]
      have := (a9 k hk).1
      rw [show 600 * 0 + k = k from by omega] at this
      exact this
    · have kw : ∀ j k, ¬ (j = 35 ∧ (k = 1 ∨ k = 2 ∨ k = 3)) → ¬ Srt j k → w2.1 j k = w.1 j k := fun j k x1 x2 => by rw [f2.I j k (by omega), k1 j k x2, hk0 j k x1]
      obtain ⟨q1, q2, q5⟩ := ref w2 (fun j k _ _ => kw j k (by omega) (by simp only [Srt]; omega))
      refine cr_text0 hF ha (by rw [q2]; exact n2) (fun k hk => by rw [q1]; exact by1 k hk) (by rw [q5]; exact hm5) (fun y => absurd (by rw [q5] at y; exact y) q) (fun _ _ w3 f3 g2 g3 g4 => ⟨rfl, ?_⟩) (fun m' _ _ y => absurd (by rw [q1, q2] at y; exact y) hz)
      rw [q1, q2] at g3 g4
      refine hI.head (fun j k x1 x2 x3 => ?_) (by rw [g2]; omega) ?_ ?_ ?_
      · rw [f3.I j k (by simp only [Sth]; omega), kw j k x2 (by simp only [Srt]; omega)]
      · rw [g2, f3.I 35 1 (by simp [Sth]), f2.I 35 1 (by omega), k1 35 1 (by simp [Srt])]; exact z1
      · rw [g3, f3.I 35 2 (by simp [Sth]), r2]; exact p2
      · rw [g4, f3.I 35 3 (by simp [Sth]), r3]; exact p3
    · have hmm : m < 2 := by omega
      have hcr : cref 37 (m : Int).toNat = 38 + 14 * m ∧ isTw (38 + 14 * m) := by
        rw [Int.toNat_natCast]
        have := bk_tw isBk35 m hmm
        exact ⟨by have e := this.1; rw [show 35 + 3 + 14 * m = 38 + 14 * m from by omega] at e; exact e, by have e := this.2; rw [show 35 + 3 + 14 * m = 38 + 14 * m from by omega] at e; exact e⟩
      rw [hcr.1]
      refine ⟨⟨by omega, by omega⟩, hcr.2, cv_copyT (c := True) (T := (pTown (w.1 1) (w.1 2 0)).2) hcr.2 isTw201 (by omega) (fun _ => ⟨hTK, hC⟩) (fun w2 f2 hC2 w3 e3 => q_i ?_)⟩
      have hC2 := hC2 trivial
      have g5 : w2.1 35 5 = w.1 5 0 := by rw [f2.I 35 5 (by omega), k1 35 5 (by simp [Srt]), hk0 35 5 (by omega)]; exact hcnt
      rw [g5, w_id (x := w.1 5 0) (by omega) (by omega), w_id (x := (m : Int) + 1) (by omega) (by omega)] at e3
      have kw : ∀ j k, ¬ (j = 35 ∧ (k = 1 ∨ k = 2 ∨ k = 3 ∨ k = 5)) → ¬ (38 + 14 * m ≤ j ∧ j ≤ 38 + 14 * m + 13) → ¬ Srt j k → w3.1 j k = w.1 j k := fun j k x1 x2 x3 => by rw [e3, wI_at, if_neg (by omega), f2.I j k x2, k1 j k x3, hk0 j k (by omega)]
      have kh : ∀ k, k ≠ 5 → w3.1 35 k = w0.1 35 k := fun k x1 => by rw [e3, wI_idx _ _ _ _ x1, f2.I 35 k (by omega), k1 35 k (by simp [Srt])]
      have h35c : w3.1 35 5 = (if a = -1 then w.1 5 0 + 1 else w.1 5 0) := by
        rw [e3, wI_same]
        by_cases qa : a = -1
        · have := y3 qa
          rw [if_pos qa, if_pos (by omega)]; omega
        · have := y4 qa
          rw [if_neg qa, if_neg (by omega)]
      obtain ⟨q1, q2, q5⟩ := ref w3 (fun j k _ _ => kw j k (by omega) (by omega) (by simp only [Srt]; omega))
      refine cr_text0 hF ha (by rw [q2]; exact n2) (fun k hk => by rw [q1]; exact by1 k hk) (by rw [q5]; exact hm5) (fun y => absurd (by rw [q5] at y; exact y) q) (fun _ y => absurd (by rw [q1, q2]; exact hz) y) (fun m' hm' _ _ w4 f4 g2 g3 g4 g5' grow => ?_)
      have em : m' = m := by rw [q5, hm] at hm'; omega
      subst em
      rw [q5] at g5'
      rw [q1, q2] at grow
      have keep : ∀ j k, 1 ≤ j → ¬ Stx0 m' j k → ¬ (j = 35 ∧ (k = 1 ∨ k = 2 ∨ k = 3 ∨ k = 5)) → ¬ (38 + 14 * m' ≤ j ∧ j ≤ 38 + 14 * m' + 13) → ¬ Srt j k → w4.1 j k = w.1 j k := fun j k _ x1 x2 x3 x4 => by rw [f4.I j k x1, kw j k x2 x3 x4]
      have cbase : ∀ j k, 10 ≤ j → w4.1 j k = w3.1 j k := fun j k x1 => f4.I j k (by simp only [Stx0, Sth]; omega)
      refine ⟨rfl, hI.now ?_ (fun j k hj => keep j k (by omega) (by simp only [Stx0, Sth]; omega) (by omega) (by omega) (by simp only [Srt]; omega)) (fun k hk => keep 1 k (by omega) (by simp only [Stx0, Sth]; omega) (by omega) (by omega) (by simp only [Srt]; omega)) (fun s' hs => ⟨keep 2 s' (by omega) (by simp only [Stx0, Sth]; omega) (by omega) (by omega) (by simp only [Srt]; omega), keep 3 s' (by omega) (by simp only [Stx0, Sth]; omega) (by omega) (by omega) (by simp only [Srt]; omega), keep 4 s' (by omega) (by simp only [Stx0, Sth]; omega) (by omega) (by omega) (by simp only [Srt]; omega)⟩) (fun k hk => keep 5 k (by omega) (by simp only [Stx0, Sth]; omega) (by omega) (by omega) (by simp only [Srt]; omega)) (fun k hk => keep 6 k (by omega) (by simp only [Stx0, Sth]; omega) (by omega) (by omega) (by simp only [Srt]; omega)) (fun k hk => keep 7 k (by omega) (by simp only [Stx0, Sth]; omega) (by omega) (by omega) (by simp only [Srt]; omega))⟩
      refine ⟨by rw [g2]; omega, by rw [g2, cbase 35 1 (by omega), kh 1 (by decide)]; exact z1, by rw [g3, cbase 35 2 (by omega), kh 2 (by decide)]; exact z2, by rw [g4, cbase 35 3 (by omega), kh 3 (by decide)]; exact z3, ?_, ?_, ?_, ?_, fun k hk => ?_, fun t ht => ?_, fun d hd => ?_⟩
      · show 0 ≤ w4.1 5 0 ∧ w4.1 5 0 ≤ 2
        rw [g5']
        by_cases qa : a = -1
        · have := y3 qa
          rw [if_pos qa]; omega
        · rw [if_neg qa]; omega
      · show w4.1 35 5 = w4.1 5 0
        rw [g5', cbase 35 5 (by omega)]; exact h35c
      · rw [keep 5 _ (by omega) (by simp only [Stx0, Sth]; omega) (by omega) (by omega) (by simp only [Srt]; omega)]; exact a7
      · rw [keep 5 _ (by omega) (by simp only [Stx0, Sth]; omega) (by omega) (by omega) (by simp only [Srt]; omega), keep 35 7 (by omega) (by simp only [Stx0, Sth]; omega) (by omega) (by omega) (by simp only [Srt]; omega)]; exact a8
      · rw [keep 1 _ (by omega) (by simp only [Stx0, Sth]; omega) (by omega) (by omega) (by simp only [Srt]; omega), keep (35 + 1) k (by omega) (by simp only [Stx0, Sth]; omega) (by omega) (by omega) (by simp only [Srt]; omega)]; exact a9 k hk
      · have ht : (t : Int) < w4.1 5 0 := ht
        rw [g5'] at ht
        by_cases zt : t = m'
        · have e : ∀ i, i < 232 → TS w4 0 t i = (pTown (w.1 1) (w.1 2 0)).2 i := fun i hi => by
            unfold TS
            rw [show 464 * 0 + 232 * t + i = 232 * m' + i from by omega]
            exact grow i hi
          refine ⟨tk_cong e hTK, ca_cong e hTK (hC2.eq (fun j k x1 x2 => ?_) |> fun h => by rw [zt, show 35 + 3 + 14 * m' = 38 + 14 * m' from by omega]; exact h)⟩
          rw [cbase j k (by omega), e3, wI_cell _ _ _ _ (by omega)]
        · have htm : (t : Int) < w.1 5 (2 * 0) := by
            show (t : Int) < w.1 5 0
            by_cases qa : a = -1
            · have := y3 qa
              rw [if_pos qa] at ht; omega
            · rw [if_neg qa] at ht; exact ht
          obtain ⟨x1, x2⟩ := a10 t htm
          have e : ∀ i, i < 232 → TS w4 0 t i = TS w 0 t i := fun i hi => by
            unfold TS
            exact keep 6 _ (by omega) (by simp only [Stx0, Sth]; omega) (by omega) (by omega) (by simp only [Srt]; omega)
          refine ⟨tk_cong e x1, ca_cong e x1 (x2.eq (fun j k x1 x2 => ?_))⟩
          exact keep j k (by omega) (by simp only [Stx0, Sth]; omega) (by omega) (by omega) (by simp only [Srt]; omega)
      · have hd : (d : Int) < w4.1 5 (2 * 0 + 1) := hd
        rw [keep 5 _ (by omega) (by simp only [Stx0, Sth]; omega) (by omega) (by omega) (by simp only [Srt]; omega)] at hd
        obtain ⟨x1, x2, x3⟩ := a11 d hd
        have e : DS w4 0 d = DS w 0 d := by
          funext i
          exact keep 7 _ (by omega) (by simp only [Stx0, Sth]; omega) (by omega) (by omega) (by simp only [Srt]; omega)
        rw [e]
        refine ⟨x1, by rw [keep _ 0 (by omega) (by simp only [Stx0, Sth]; omega) (by omega) (by omega) (by simp only [Srt]; omega)]; exact x2, fun k k0 k1 => ?_⟩
        rw [keep _ _ (by omega) (by simp only [Stx0, Sth]; omega) (by omega) (by omega) (by simp only [Srt]; omega), keep _ _ (by omega) (by simp only [Stx0, Sth]; omega) (by omega) (by omega) (by simp only [Srt]; omega)]
        exact x3 k k0 k1
theorem pr_text1 {F : Nat} {a : Int} {w w0 : AW} (hF : FB F) (hI : Inv w) (ha : iR a) (hk0 : ∀ j k, ¬ (j = 35 ∧ (k = 1 ∨ k = 2 ∨ k = 3)) → w0.1 j k = w.1 j k) (z1 : w0.1 35 1 = 0) (z2 : w0.1 35 2 = 0) (z3 : w0.1 35 3 = -1) : CI (m_X8_takeDay F [vR 34, vI (w.1 2 0), vI a] w0) (fun x w1 => CI (m_X9_text F [vR 0, vI 1, vI a] w1) (fun y w2 => x = y ∧ Inv w2)) := by
  obtain ⟨a1, a2, a3, a4, a5, a6, a7, a8, a9, a10, a11⟩ := id hI.1
  have n2 : 0 ≤ w.1 2 0 ∧ w.1 2 0 ≤ 600 := a1
  have by1 : ∀ k, k < 600 → -128 ≤ w.1 1 k ∧ w.1 1 k ≤ 127 := fun k hk => by
    have := (a9 k hk).2
    rw [show 600 * 0 + k = k from by omega] at this
    exact this
  have hm5 : 0 ≤ w.1 5 1 ∧ w.1 5 1 ≤ 3 := a7
  have hcnt : w.1 35 7 = w.1 5 1 := a8
  have hB : BB (w.1 1) (w.1 2 0) := ⟨by1, n2⟩
  have ref : ∀ w1 : AW, (∀ j k, 1 ≤ j → j ≤ 7 → w1.1 j k = w.1 j k) → (w1.1 1 = w.1 1) ∧ w1.1 2 0 = w.1 2 0 ∧ w1.1 5 1 = w.1 5 1 := fun w1 h => ⟨by funext k; exact h 1 k (by omega) (by omega), h 2 0 (by omega) (by omega), h 5 1 (by omega) (by omega)⟩
  refine wp_X8_takeDay F (w.1 2 0) a w0 _ ?_
  rw [hk0 35 7 (by omega), hcnt]
  refine ci_placeFor ha (by omega) (by omega) ?_
  have hr := plc_r (a := a) hm5
  rw [w_id (x := plc a (w.1 5 1) 3) (by omega) (by omega)]
  refine ⟨fun q => q_i ?_, fun q => ?_⟩
  · obtain ⟨q1, q2, q5⟩ := ref w0 (fun j k _ _ => hk0 j k (by omega))
    refine cr_text1 hF ha (by rw [q2]; exact n2) (fun k hk => by rw [q1]; exact by1 k hk) (by rw [q5]; exact hm5) (fun _ w1 f1 g2 g3 g4 => ⟨rfl, ?_⟩) (fun y => absurd (by rw [q5]; exact q) y) (fun m hm hm2 => by rw [q5, q] at hm; omega)
    refine hI.head (fun j k x1 x2 x3 => ?_) (by rw [g2]; omega) ?_ ?_ ?_
    · rw [f1.I j k (by simp only [Sth]; omega), hk0 j k x2]
    · rw [g2, f1.I 35 1 (by simp [Sth])]; exact z1
    · rw [g3, f1.I 35 2 (by simp [Sth])]; exact z2
    · rw [g4, f1.I 35 3 (by simp [Sth])]; exact z3
  · rcases hr with y | ⟨y0, y1, y2, y3, y4⟩
    · exact absurd y q
    obtain ⟨m, hm⟩ := Int.eq_ofNat_of_zero_le y0
    rw [hm]
    refine ci_readDay (b := w.1 1) hF hB (fun k hk => ?_) (fun hz w1 k1 p2 p3 => br0 (ci_keepFault (fun w2 f2 r2 r3 => q_i ?_))) (fun hz hz2 hTK w1 k1 hC => br1 ?_)
    · rw [hk0 36 k (by omega)]
      have := (a9 k hk).1
      rw [show 600 * 0 + k = k from by omega] at this
      exact this
    · have kw : ∀ j k, ¬ (j = 35 ∧ (k = 1 ∨ k = 2 ∨ k = 3)) → ¬ Srt j k → w2.1 j k = w.1 j k := fun j k x1 x2 => by rw [f2.I j k (by omega), k1 j k x2, hk0 j k x1]
      obtain ⟨q1, q2, q5⟩ := ref w2 (fun j k _ _ => kw j k (by omega) (by simp only [Srt]; omega))
      refine cr_text1 hF ha (by rw [q2]; exact n2) (fun k hk => by rw [q1]; exact by1 k hk) (by rw [q5]; exact hm5) (fun y => absurd (by rw [q5] at y; exact y) q) (fun _ _ w3 f3 g2 g3 g4 => ⟨rfl, ?_⟩) (fun m' _ _ y => absurd (by rw [q1, q2] at y; exact y) hz)
      rw [q1, q2] at g3 g4
      refine hI.head (fun j k x1 x2 x3 => ?_) (by rw [g2]; omega) ?_ ?_ ?_
      · rw [f3.I j k (by simp only [Sth]; omega), kw j k x2 (by simp only [Srt]; omega)]
      · rw [g2, f3.I 35 1 (by simp [Sth]), f2.I 35 1 (by omega), k1 35 1 (by simp [Srt])]; exact z1
      · rw [g3, f3.I 35 2 (by simp [Sth]), r2]; exact p2
      · rw [g4, f3.I 35 3 (by simp [Sth]), r3]; exact p3
    · have hmm : m < 3 := by omega
      have hcr : cref 66 (m : Int).toNat = 67 + 3 * m ∧ isDy (67 + 3 * m) := by
        rw [Int.toNat_natCast]
        have := bk_dy isBk35 m hmm
        exact ⟨by have e := this.1; rw [show 35 + 32 + 3 * m = 67 + 3 * m from by omega] at e; exact e, by have e := this.2; rw [show 35 + 32 + 3 * m = 67 + 3 * m from by omega] at e; exact e⟩
      rw [hcr.1]
      refine ⟨⟨by omega, by omega⟩, hcr.2, cv_copyD (c := True) (D := (pDay (w.1 1) (w.1 2 0)).2) hcr.2 isDy215 (by omega) (fun _ => ⟨hTK, hC⟩) (fun w2 f2 hC2 w3 e3 => q_i ?_)⟩
      have hC2 := hC2 trivial
      have g5 : w2.1 35 7 = w.1 5 1 := by rw [f2.I 35 7 (by omega), k1 35 7 (by simp [Srt]), hk0 35 7 (by omega)]; exact hcnt
      rw [g5, w_id (x := w.1 5 1) (by omega) (by omega), w_id (x := (m : Int) + 1) (by omega) (by omega)] at e3
      have kw : ∀ j k, ¬ (j = 35 ∧ (k = 1 ∨ k = 2 ∨ k = 3 ∨ k = 7)) → ¬ (67 + 3 * m ≤ j ∧ j ≤ 67 + 3 * m + 2) → ¬ Srt j k → w3.1 j k = w.1 j k := fun j k x1 x2 x3 => by rw [e3, wI_at, if_neg (by omega), f2.I j k x2, k1 j k x3, hk0 j k (by omega)]
      have kh : ∀ k, k ≠ 7 → w3.1 35 k = w0.1 35 k := fun k x1 => by rw [e3, wI_idx _ _ _ _ x1, f2.I 35 k (by omega), k1 35 k (by simp [Srt])]
      have h35c : w3.1 35 7 = (if a = -1 then w.1 5 1 + 1 else w.1 5 1) := by
        rw [e3, wI_same]
        by_cases qa : a = -1
        · have := y3 qa
          rw [if_pos qa, if_pos (by omega)]; omega
        · have := y4 qa
          rw [if_neg qa, if_neg (by omega)]
      obtain ⟨q1, q2, q5⟩ := ref w3 (fun j k _ _ => kw j k (by omega) (by omega) (by simp only [Srt]; omega))
      refine cr_text1 hF ha (by rw [q2]; exact n2) (fun k hk => by rw [q1]; exact by1 k hk) (by rw [q5]; exact hm5) (fun y => absurd (by rw [q5] at y; exact y) q) (fun _ y => absurd (by rw [q1, q2]; exact hz) y) (fun m' hm' _ _ w4 f4 g2 g3 g4 g5' grow => ?_)
      have em : m' = m := by rw [q5, hm] at hm'; omega
      subst em
      rw [q5] at g5'
      rw [q1, q2] at grow
      have keep : ∀ j k, 1 ≤ j → ¬ Stx1 m' j k → ¬ (j = 35 ∧ (k = 1 ∨ k = 2 ∨ k = 3 ∨ k = 7)) → ¬ (67 + 3 * m' ≤ j ∧ j ≤ 67 + 3 * m' + 2) → ¬ Srt j k → w4.1 j k = w.1 j k := fun j k _ x1 x2 x3 x4 => by rw [f4.I j k x1, kw j k x2 x3 x4]
      have cbase : ∀ j k, 10 ≤ j → w4.1 j k = w3.1 j k := fun j k x1 => f4.I j k (by simp only [Stx1, Sth]; omega)
      refine ⟨rfl, hI.now ?_ (fun j k hj => keep j k (by omega) (by simp only [Stx1, Sth]; omega) (by omega) (by omega) (by simp only [Srt]; omega)) (fun k hk => keep 1 k (by omega) (by simp only [Stx1, Sth]; omega) (by omega) (by omega) (by simp only [Srt]; omega)) (fun s' hs => ⟨keep 2 s' (by omega) (by simp only [Stx1, Sth]; omega) (by omega) (by omega) (by simp only [Srt]; omega), keep 3 s' (by omega) (by simp only [Stx1, Sth]; omega) (by omega) (by omega) (by simp only [Srt]; omega), keep 4 s' (by omega) (by simp only [Stx1, Sth]; omega) (by omega) (by omega) (by simp only [Srt]; omega)⟩) (fun k hk => keep 5 k (by omega) (by simp only [Stx1, Sth]; omega) (by omega) (by omega) (by simp only [Srt]; omega)) (fun k hk => keep 6 k (by omega) (by simp only [Stx1, Sth]; omega) (by omega) (by omega) (by simp only [Srt]; omega)) (fun k hk => keep 7 k (by omega) (by simp only [Stx1, Sth]; omega) (by omega) (by omega) (by simp only [Srt]; omega))⟩
      refine ⟨by rw [g2]; omega, by rw [g2, cbase 35 1 (by omega), kh 1 (by decide)]; exact z1, by rw [g3, cbase 35 2 (by omega), kh 2 (by decide)]; exact z2, by rw [g4, cbase 35 3 (by omega), kh 3 (by decide)]; exact z3, ?_, ?_, ?_, ?_, fun k hk => ?_, fun t ht => ?_, fun d hd => ?_⟩
      · rw [keep 5 _ (by omega) (by simp only [Stx1, Sth]; omega) (by omega) (by omega) (by simp only [Srt]; omega)]; exact a5
      · rw [keep 5 _ (by omega) (by simp only [Stx1, Sth]; omega) (by omega) (by omega) (by simp only [Srt]; omega), keep 35 5 (by omega) (by simp only [Stx1, Sth]; omega) (by omega) (by omega) (by simp only [Srt]; omega)]; exact a6
      · show 0 ≤ w4.1 5 1 ∧ w4.1 5 1 ≤ 3
        rw [g5']
        by_cases qa : a = -1
        · have := y3 qa
          rw [if_pos qa]; omega
        · rw [if_neg qa]; omega
      · show w4.1 35 7 = w4.1 5 1
        rw [g5', cbase 35 7 (by omega)]; exact h35c
      · rw [keep 1 _ (by omega) (by simp only [Stx1, Sth]; omega) (by omega) (by omega) (by simp only [Srt]; omega), keep (35 + 1) k (by omega) (by simp only [Stx1, Sth]; omega) (by omega) (by omega) (by simp only [Srt]; omega)]; exact a9 k hk
      · have ht : (t : Int) < w4.1 5 (2 * 0) := ht
        rw [keep 5 _ (by omega) (by simp only [Stx1, Sth]; omega) (by omega) (by omega) (by simp only [Srt]; omega)] at ht
        have e : TS w4 0 t = TS w 0 t := by
          funext i
          exact keep 6 _ (by omega) (by simp only [Stx1, Sth]; omega) (by omega) (by omega) (by simp only [Srt]; omega)
        rw [e]
        exact ⟨(a10 t ht).1, (a10 t ht).2.eq (fun j k x1 x2 => keep j k (by omega) (by simp only [Stx1, Sth]; omega) (by omega) (by omega) (by simp only [Srt]; omega))⟩
      · have hd : (d : Int) < w4.1 5 1 := hd
        rw [g5'] at hd
        by_cases zt : d = m'
        · have e : ∀ i, i < 121 → DS w4 0 d i = (pDay (w.1 1) (w.1 2 0)).2 i := fun i hi => by
            unfold DS
            rw [show 363 * 0 + 121 * d + i = 121 * m' + i from by omega]
            exact grow i hi
          obtain ⟨x1, x2⟩ := hC2
          have kk : ∀ j k, 67 + 3 * m' ≤ j → j ≤ 67 + 3 * m' + 2 → w4.1 j k = w2.1 j k := fun j k x1 x2 => by rw [cbase j k (by omega), e3, wI_cell _ _ _ _ (by omega)]
          refine ⟨dk_cong e hTK, cd_cong e hTK ?_⟩
          rw [zt, show 35 + 32 + 3 * m' = 67 + 3 * m' from by omega]
          refine ⟨by rw [kk _ 0 (by omega) (by omega)]; exact x1, fun k k0 k1 => ?_⟩
          rw [kk _ _ (by omega) (by omega), kk _ _ (by omega) (by omega)]
          exact x2 k k0 k1
        · have htm : (d : Int) < w.1 5 (2 * 0 + 1) := by
            show (d : Int) < w.1 5 1
            by_cases qa : a = -1
            · have := y3 qa
              rw [if_pos qa] at hd; omega
            · rw [if_neg qa] at hd; exact hd
          obtain ⟨x1, x2, x3⟩ := a11 d htm
          have hd3 : d < 3 := by omega
          have e : ∀ i, i < 121 → DS w4 0 d i = DS w 0 d i := fun i hi => by
            unfold DS
            exact keep 7 _ (by omega) (by simp only [Stx1, Sth]; omega) (by omega) (by omega) (by simp only [Srt]; omega)
          refine ⟨dk_cong e x1, cd_cong e x1 ⟨by rw [keep _ 0 (by omega) (by simp only [Stx1, Sth]; omega) (by omega) (by omega) (by simp only [Srt]; omega)]; exact x2, fun k k0 k1 => ?_⟩⟩
          rw [keep _ _ (by omega) (by simp only [Stx1, Sth]; omega) (by omega) (by omega) (by simp only [Srt]; omega), keep _ _ (by omega) (by simp only [Stx1, Sth]; omega) (by omega) (by omega) (by simp only [Srt]; omega)]
          exact x3 k k0 k1
theorem pr_text {F : Nat} {s a : Int} {w : AW} (hF : FB F) (hI : Inv w) (hs : iR s) (ha : iR a) : CI (m_X8_text F [vR 34, vI s, vI a] w) (fun x w1 => CI (m_X9_text F [vR 0, vI s, vI a] w1) (fun y w2 => x = y ∧ Inv w2)) := by
  have e1 : w.1 35 1 = w.1 2 0 := hI.1.2.1
  have n2 : 0 ≤ w.1 2 0 ∧ w.1 2 0 ≤ 600 := hI.1.1
  refine wp_X8_text F s a w _ (fun x hx w1 e1' w2 e2 w3 e3 => ?_)
  rw [e1] at hx
  subst hx
  have hk0 : ∀ j k, ¬ (j = 35 ∧ (k = 1 ∨ k = 2 ∨ k = 3)) → w3.1 j k = w.1 j k := fun j k h => by rw [e3, wI_at, if_neg (by omega), e2, wI_at, if_neg (by omega), e1', wI_at, if_neg (by omega)]
  have z1 : w3.1 35 1 = 0 := by rw [e3, wI_idx _ _ _ _ (by decide), e2, wI_idx _ _ _ _ (by decide), e1', wI_same]
  have z2 : w3.1 35 2 = 0 := by rw [e3, wI_idx _ _ _ _ (by decide), e2, wI_same]
  have z3 : w3.1 35 3 = -1 := by rw [e3, wI_same]
  rw [w_id hs.1 hs.2]
  refine ⟨fun q => ?_, fun q => ⟨fun q2 => ?_, fun q2 => q_i ?_⟩⟩
  · subst q
    exact tt_mono (pr_text0 hF hI ha hk0 z1 z2 z3) (fun r v ⟨x, hr, h⟩ => ⟨x, hr, rfl, x, rfl, h⟩)
  · subst q2
    exact tt_mono (pr_text1 hF hI ha hk0 z1 z2 z3) (fun r v ⟨x, hr, h⟩ => ⟨x, hr, rfl, x, rfl, h⟩)
  · refine tt_rhead hs (fun w4 f4 _ g2 g3 g4 => ⟨fun _ => ⟨rfl, ?_⟩, fun y => by omega⟩)
    refine hI.head (fun j k x1 x2 x3 => ?_) (by rw [g2]; omega) ?_ ?_ ?_
    · rw [f4.I j k (by simp only [Sth]; omega), hk0 j k x2]
    · rw [g2, f4.I 35 1 (by simp [Sth])]; exact z1
    · rw [g3, f4.I 35 2 (by simp [Sth])]; exact z2
    · rw [g4, f4.I 35 3 (by simp [Sth])]; exact z3
