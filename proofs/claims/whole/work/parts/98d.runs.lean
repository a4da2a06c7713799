/-! RUNS, the reference -/
theorem cv_hand2 {F : Nat} {t : Int} {w : AW} {P : AW → Prop} (hF : FB F) (ht : t = 0 ∨ t = 1) (hT : TK (TR w t)) (hp : ∀ w', Fr Shand w w' → HT w' (TR w t) → w'.1 0 21 = 232 * t → P w') : CV (m_X9_hand F [vR 0, vI t] w) P := by
  generalize hTT : TR w t = T at hT hp
  have hTi : ∀ (i : Int), 0 ≤ i → w.1 6 (232 * t + i).toNat = T i.toNat := fun i hi => by
    rw [show (232 * t + i).toNat = (232 * t).toNat + i.toNat from by omega, ← hTT]
    rfl
  have a1 := hT.2.1
  have a2 := hT.2.2.1
  have a3 := hT.2.2.2.1
  have fr : ∀ {w' : AW}, Fr Shand w w' → ∀ k, w'.1 6 k = w.1 6 k := fun h k => h.I 6 k (by simp [Shand])
  refine wp_X9_hand F t w _ ?_
  intro w1 e1
  have f1 : Fr Shand w w1 := by rw [e1]; exact Fr.rf.wI _ (by simp [Shand])
  refine ci_of (by omega) ?_
  intro w2 e2
  have f2 : Fr Shand w w2 := by rw [e2]; exact f1.wI _ (by simp [Shand])
  refine ci_of (by omega) ?_
  intro w3 e3
  have f3 : Fr Shand w w3 := by rw [e3]; exact f2.wI _ (by simp [Shand])
  refine ci_of (by omega) ?_
  intro w4 e4
  have f4 : Fr Shand w w4 := by rw [e4]; exact f3.wI _ (by simp [Shand])
  refine ci_of (by omega) ?_
  intro w5 e5
  have f5 : Fr Shand w w5 := by rw [e5]; exact f4.wI _ (by simp [Shand])
  refine ci_of (by omega) ?_
  intro w6 e6
  have f6 : Fr Shand w w6 := by rw [e6]; exact f5.wI _ (by simp [Shand])
  refine ci_of (by omega) ?_
  intro w7 e7
  have f7 : Fr Shand w w7 := by rw [e7]; exact f6.wI _ (by simp [Shand])
  intro w8 e8
  have f8 : Fr Shand w w8 := by rw [e8]; exact f7.wI _ (by simp [Shand])
  intro w9 e9
  have f9 : Fr Shand w w9 := by rw [e9]; exact f8.wI _ (by simp [Shand])
  rw [fr f1, hTi 0 (by omega)] at e2
  rw [fr f2, hTi 1 (by omega)] at e3
  rw [fr f3, hTi 2 (by omega)] at e4
  rw [fr f4, hTi 3 (by omega)] at e5
  rw [fr f5, hTi 4 (by omega)] at e6
  rw [fr f6, hTi 5 (by omega)] at e7
  have g21 : w9.1 0 21 = 232 * t := by rw [e9, e8, e7, e6, e5, e4, e3, e2, e1]; simp [wI_at]
  have g22 : w9.1 0 22 = T 0 := by rw [e9, e8, e7, e6, e5, e4, e3, e2]; simp [wI_at]
  have g23 : w9.1 0 23 = T 1 := by rw [e9, e8, e7, e6, e5, e4, e3]; simp [wI_at]
  have g24 : w9.1 0 24 = T 2 := by rw [e9, e8, e7, e6, e5, e4]; simp [wI_at]
  have g25 : w9.1 0 25 = T 3 := by rw [e9, e8, e7, e6, e5]; simp [wI_at]
  have g26 : w9.1 0 26 = T 4 := by rw [e9, e8, e7, e6]; simp [wI_at]
  have g27 : w9.1 0 27 = T 5 := by rw [e9, e8, e7]; simp [wI_at]
  have g28 : w9.1 0 28 = -1 := by rw [e9, e8]; simp [wI_at]
  have g29 : w9.1 0 29 = -1 := by rw [e9]; simp [wI_at]
  clear e1 e2 e3 e4 e5 e6 e7 e8 e9
  -- people
  refine tt_for (K := k_X9_hand_81 F) (T 2) (fun i w' l => Fr (fun j k => j = 11 ∨ j = 23) w9 w' ∧ l = [vR 0, vI t, vI i] ∧ 0 ≤ i ∧ i ≤ T 2 ∧ ∀ p, 0 ≤ p → p < i → w'.1 11 p.toNat = pK T p ∧ w'.1 23 p.toNat = pH T p) ?_ F 0 _ w9 (by omega) ⟨Fr.rf, rfl, by omega, by omega, fun r _ _ => by omega⟩
  rintro n i l wa ⟨fa, rfl, hi0, hi1, ha⟩ hk
  have fwa : Fr Shand w wa := f9.tr (fa.wk (by intro j k; simp only [Shand]; omega))
  have ea : ∀ k, wa.1 0 k = w9.1 0 k := fun k => fa.I 0 k (by simp)
  rw [ks_X9_hand_81]
  refine wp_X9_hand_81 F _ t i wa _ ?_
  rw [ea, g24, w_id (x := i) (by omega) (by omega), w_id (x := T 2) (by omega) (by omega)]
  refine ⟨fun q => ?_, fun q => ?_⟩
  · have hpo : ∀ (wb : AW) (c : Int) (PP : Int → AW → Prop), Fr Shand w wb → wb.1 0 21 = 232 * t → 0 ≤ c → c ≤ 2 → PP (T (160 + 3 * i + c).toNat) wb → CI (m_X9_personOf F [vR 0, vI i, vI c] wb) PP := by
      intro wb c PP hfb hb21 hc0 hc1 hPP
      refine wp_X9_personOf F i c wb _ ⟨⟨by omega, by omega⟩, q_i ?_⟩
      rw [hb21, fr hfb, show 232 * t + 160 + 3 * i + c = 232 * t + (160 + 3 * i + c) from by omega, hTi _ (by omega)]
      exact hPP
    refine hpo wa 2 _ fwa (by rw [ea]; exact g21) (by omega) (by omega) ⟨⟨hi0, by omega⟩, fun wb eb => ?_⟩
    have fb : Fr (fun j k => j = 11 ∨ j = 23) w9 wb := by rw [eb]; exact fa.wI _ (by simp)
    refine hpo wb 0 _ (f9.tr (fb.wk (by intro j k; simp only [Shand]; omega))) (by rw [fb.I 0 21 (by simp)]; exact g21) (by omega) (by omega) ⟨⟨hi0, by omega⟩, fun wc ec => ?_⟩
    refine hk _ _ ⟨by rw [ec]; exact fb.wI _ (by simp), rfl, by omega, by omega, fun p hp0 hp1 => ?_⟩ q
    rw [ec, eb]
    by_cases e : p = i
    · subst e
      refine ⟨?_, ?_⟩
      · rw [wI_cell _ _ _ _ (by decide), wI_same]
        unfold pK; congr 1; omega
      · rw [wI_same]
        unfold pH; congr 1; omega
    · have hne : p.toNat ≠ i.toNat := by omega
      rw [wI_idx _ _ _ _ hne, wI_idx _ _ _ _ hne, wI_idx _ _ _ _ hne, wI_idx _ _ _ _ hne]
      exact ha p hp0 (by omega)
  -- errands
  · refine tt_for (K := k_X9_hand_121 F) (T 3) (fun i w' l => Fr (fun j k => j = 24) wa w' ∧ l = [vR 0, vI t, vI i] ∧ 0 ≤ i ∧ i ≤ T 3 ∧ ∀ p, 0 ≤ p → p < i → w'.1 24 p.toNat = eM T p) ?_ F 0 _ wa (by omega) ⟨Fr.rf, rfl, by omega, by omega, fun r _ _ => by omega⟩
    rintro n' i' l' wb ⟨fb, rfl, hj0, hj1, hb⟩ hk'
    have fwb : Fr Shand w wb := fwa.tr (fb.wk (by intro j k; simp only [Shand]; omega))
    have eb : ∀ k, wb.1 0 k = w9.1 0 k := fun k => by rw [fb.I 0 k (by simp)]; exact ea k
    rw [ks_X9_hand_121]
    refine wp_X9_hand_121 F _ t i' wb _ ?_
    rw [eb, g25, w_id (x := i') (by omega) (by omega), w_id (x := T 3) (by omega) (by omega)]
    refine ⟨fun q' => ?_, fun q' => ?_⟩
    · refine wp_X9_errandOf F i' 2 wb _ ⟨by rw [eb, g21]; omega, q_i ⟨⟨hj0, by omega⟩, fun wc ec => ?_⟩⟩
      refine hk' _ _ ⟨by rw [ec]; exact fb.wI _ rfl, rfl, by omega, by omega, fun p hp0 hp1 => ?_⟩ q'
      rw [ec]
      by_cases e : p = i'
      · subst e
        rw [wI_same, eb, g21, fr fwb, show 232 * t + 184 + 4 * p + 2 = 232 * t + (186 + 4 * p) from by omega, hTi _ (by omega)]
        rfl
      · rw [wI_idx _ _ _ _ (by omega)]
        exact hb p hp0 (by omega)
    · have hH : HA wb T := by
        have e6 := fr fwb
        refine ⟨by rw [eb, g21]; omega, by rw [eb]; exact g22, by rw [eb]; exact g23, by rw [eb]; exact g24, by rw [eb]; exact g25, by rw [eb]; exact g26, by rw [eb]; exact g27, fun r h0 h1 => ?_, fun p h0 h1 => ?_, fun e h0 h1 => ?_, Or.inl (by rw [eb]; exact g29)⟩
        · rw [eb 21, eb 29, g21, g29, if_neg (by omega)]
          simp only [e6]
          refine ⟨?_, ?_, ?_, ?_, fun h hh0 hh1 => ?_, ?_⟩
          · rw [show 232 * t + 6 + 11 * r + 0 = 232 * t + (6 + 11 * r) from by omega, hTi _ (by omega)]; rfl
          · rw [show 232 * t + 6 + 11 * r + 1 = 232 * t + (7 + 11 * r) from by omega, hTi _ (by omega)]; rfl
          · rw [show 232 * t + 6 + 11 * r + 2 = 232 * t + (8 + 11 * r) from by omega, hTi _ (by omega)]; rfl
          · rw [show 232 * t + 6 + 11 * r + 3 = 232 * t + (9 + 11 * r) from by omega, hTi _ (by omega)]; rfl
          · rw [show 232 * t + 6 + 11 * r + (5 + h) = 232 * t + (11 + 11 * r + h) from by omega, hTi _ (by omega)]; rfl
          · rw [show 232 * t + 6 + 11 * r + 4 = 232 * t + (10 + 11 * r) from by omega, hTi _ (by omega)]; rfl
        · rw [eb 21, g21, e6, fb.I 11 _ (by simp), fb.I 23 _ (by simp)]
          have := ha p h0 (by omega)
          refine ⟨?_, this.1, this.2⟩
          rw [show 232 * t + 160 + 3 * p + 1 = 232 * t + (161 + 3 * p) from by omega, hTi _ (by omega)]; rfl
        · rw [eb 21, g21]
          simp only [e6]
          refine ⟨?_, ?_, ?_, hb e h0 (by omega)⟩
          · rw [show 232 * t + 184 + 4 * e + 0 = 232 * t + (184 + 4 * e) from by omega, hTi _ (by omega)]; rfl
          · rw [show 232 * t + 184 + 4 * e + 1 = 232 * t + (185 + 4 * e) from by omega, hTi _ (by omega)]; rfl
          · rw [show 232 * t + 184 + 4 * e + 3 = 232 * t + (187 + 4 * e) from by omega, hTi _ (by omega)]; rfl
      refine cv_own hF hH hT (by rw [eb]; exact g28) (by omega) (fun wd fd hd => q_v (hp wd (fwb.tr (fd.wk (by intro j k; simp only [Shand, Sown]; omega))) ⟨hH.fr fd (by intro j k; simp only [SHA, Sown]; omega), ?_, ?_, hd⟩ ?_))
      · rw [fd.I 0 28 (by simp [Sown]), eb]; exact g28
      · rw [fd.I 0 29 (by simp [Sown]), eb]; exact g29
      · rw [fd.I 0 21 (by simp [Sown]), eb]; exact g21
def r0 (T : Nat → Int) : RS := fun f k => match f with
  | 0 => own0 T (-1) k
  | 1 => pH T k
  | 3 => -1
  | _ => 0
theorem r0_b {T : Nat → Int} (hT : TK T) : RBd T 0 (r0 T) := by
  refine ⟨fun r hr => own0_b hT (by omega) hr, fun p hp => ⟨(hT.pers (p := p) (by omega) hp).1, ⟨by show (0 : Int) ≤ 0; omega, by show (0 : Int) ≤ 999 * 0 + 30; omega⟩, ⟨by show (-1 : Int) ≤ -1; omega, by show (-1 : Int) < 14; omega⟩⟩, ⟨by show (0 : Int) ≤ 0; omega, by show (0 : Int) ≤ 999 * 0; omega⟩, fun h3 r hr => ?_⟩
  show own0 T (-1) r = -1
  unfold own0
  rw [if_pos (Or.inl h3)]
abbrev Sbeg (j k : Nat) : Prop := Shand j k ∨ Srun j k
theorem cv_beginRun {F : Nat} {t : Int} {w : AW} {P : AW → Prop} (hF : FB F) (ht : t = 0 ∨ t = 1) (hT : TK (TR w t)) (hp : ∀ w', Fr Sbeg w w' → HA w' (TR w t) → w'.1 0 28 = -1 → w'.1 0 29 = -1 → RE (TR w t) (RG w') (r0 (TR w t)) → P w') : CV (m_X9_beginRun F [vR 0, vI t] w) P := by
  refine wp_X9_beginRun F t w _ (cv_hand2 hF ht hT (fun w1 f1 hH g21 w2 e2 w3 e3 w4 e4 => ?_))
  have hTi : ∀ (i : Int), 0 ≤ i → w.1 6 (232 * t + i).toNat = TR w t i.toNat := fun i hi => by
    rw [show (232 * t + i).toNat = (232 * t).toNat + i.toNat from by omega]
    rfl
  generalize TR w t = T at *
  have a2 := hT.2.2.1
  have fb : Fr Sbeg w w4 := by
    rw [e4, e3, e2]
    exact (((f1.wk (by intro j k; simp only [Sbeg]; exact Or.inl)).wI _ (by first | (simp [Sbeg, Srun]; done) | (simp only [Sbeg, Srun]; omega))).wI _ (by first | (simp [Sbeg, Srun]; done) | (simp only [Sbeg, Srun]; omega))).wI _ (by first | (simp [Sbeg, Srun]; done) | (simp only [Sbeg, Srun]; omega))
  have h33 : w4.1 0 33 = 0 := by rw [e4, wI_idx _ _ _ _ (by decide), e3, wI_idx _ _ _ _ (by decide), e2, wI_same]
  have h34 : w4.1 0 34 = 0 := by rw [e4, wI_idx _ _ _ _ (by decide), e3, wI_same]
  have h35 : w4.1 0 35 = 0 := by rw [e4, wI_same]
  have f41 : Fr Srun w1 w4 := by
    rw [e4, e3, e2]
    exact ((Fr.rf.wI _ (by first | (simp [Srun]; done) | (simp only [Srun]; omega))).wI _ (by first | (simp [Srun]; done) | (simp only [Srun]; omega))).wI _ (by first | (simp [Srun]; done) | (simp only [Srun]; omega))
  have hH4 : HA w4 T := hH.1.run f41
  have g21' : w4.1 0 21 = 232 * t := by rw [f41.I 0 21 (by first | (simp [Srun]; done) | (simp only [Srun]; omega))]; exact g21
  have g10 : ∀ r : Nat, (r : Int) < T 1 → w4.1 10 r = own0 T (-1) r := fun r hr => by
    rw [e4, wI_cell _ _ _ _ (by decide), e3, wI_cell _ _ _ _ (by decide), e2, wI_cell _ _ _ _ (by decide)]
    have := hH.2.2.2 r (by omega) hr
    rw [Int.toNat_natCast] at this
    exact this
  have g28 : w4.1 0 28 = -1 := by rw [f41.I 0 28 (by first | (simp [Srun]; done) | (simp only [Srun]; omega))]; exact hH.2.1
  have g29 : w4.1 0 29 = -1 := by rw [f41.I 0 29 (by first | (simp [Srun]; done) | (simp only [Srun]; omega))]; exact hH.2.2.1
  have w6e : ∀ {w' : AW}, Fr (fun j _ => j = 12 ∨ j = 13 ∨ j = 14 ∨ j = 15) w4 w' → ∀ k, w'.1 6 k = w.1 6 k := fun f k => by
    rw [f.I 6 k (by omega), fb.I 6 k (by first | (simp [Sbeg, Shand, Srun]; done) | (simp only [Sbeg, Shand, Srun]; omega))]
  clear e2 e3 e4
  refine tt_for (K := k_X9_beginRun_22 F) 8 (fun i w' l => Fr (fun j _ => j = 12 ∨ j = 13 ∨ j = 14 ∨ j = 15) w4 w' ∧ l = [vR 0, vI t, vI i] ∧ 0 ≤ i ∧ i ≤ 8 ∧ ∀ p : Nat, (p : Int) < i → ((p : Int) < T 2 → w'.1 12 p = pH T p) ∧ w'.1 13 p = 0 ∧ w'.1 14 p = -1) ?_ F 0 _ w4 (by omega) ⟨Fr.rf, rfl, by omega, by omega, fun p hp => by omega⟩
  rintro n i l w5 ⟨f5, rfl, hi0, hi1, hw⟩ hk
  have k24 : w5.1 0 24 = T 2 := by rw [f5.I 0 24 (by omega)]; exact hH4.2.2.2.1
  have k21 : w5.1 0 21 = 232 * t := by rw [f5.I 0 21 (by omega)]; exact g21'
  rw [ks_X9_beginRun_22]
  refine wp_X9_beginRun_22 F _ t i w5 _ ?_
  rw [k24, w_id (x := i) (by omega) (by omega), w_id (x := T 2) (by omega) (by omega)]
  refine ⟨fun q => ?_, fun q => ?_⟩
  · have put : ∀ v, (i < T 2 → v = pH T i) → TT (k_X9_beginRun_51 F (k_X9_beginRun_22 F n) [vR 0, vI t, vI i] [vI v, vI i, vR 12] w5) (qq 0 (fun r w => r = none ∧ P w)) := by
      intro v hv
      refine wp_X9_beginRun_51 F _ t i v i w5 _ ⟨⟨hi0, q⟩, fun w6 e6 => ⟨⟨hi0, q⟩, fun w7 e7 => ⟨⟨hi0, q⟩, fun w8 e8 => hk _ _ ⟨?_, rfl, by omega, by omega, fun p hp2 => ?_⟩ q⟩⟩⟩
      · rw [e8, e7, e6]
        exact ((f5.wI _ (by omega)).wI _ (by omega)).wI _ (by omega)
      · by_cases z : (p : Int) = i
        · have zn : p = i.toNat := by omega
          refine ⟨fun h2 => ?_, ?_, ?_⟩
          · rw [e8, wI_cell _ _ _ _ (by decide), e7, wI_cell _ _ _ _ (by decide), e6, zn, wI_same, hv (by omega)]
            rw [← z]; rfl
          · rw [e8, wI_cell _ _ _ _ (by decide), e7, zn, wI_same]
          · rw [e8, zn, wI_same]
        · have zn : p ≠ i.toNat := by omega
          obtain ⟨o1, o2, o3⟩ := hw p (by omega)
          refine ⟨fun h2 => ?_, ?_, ?_⟩
          · rw [e8, wI_idx _ _ _ _ zn, e7, wI_idx _ _ _ _ zn, e6, wI_idx _ _ _ _ zn]; exact o1 h2
          · rw [e8, wI_idx _ _ _ _ zn, e7, wI_idx _ _ _ _ zn, e6, wI_idx _ _ _ _ zn]; exact o2
          · rw [e8, wI_idx _ _ _ _ zn, e7, wI_idx _ _ _ _ zn, e6, wI_idx _ _ _ _ zn]; exact o3
    refine ⟨fun q2 => ?_, fun q2 => put 0 (fun y => absurd y q2)⟩
    refine wp_X9_personOf F i 0 w5 _ ⟨⟨by omega, by omega⟩, q_i (put _ (fun _ => ?_))⟩
    rw [w6e f5, k21, show 232 * t + 160 + 3 * i + 0 = 232 * t + (160 + 3 * i) from by omega, hTi _ (by omega)]
    rfl
  · refine tt_for (K := k_X9_beginRun_74 F) 64 (fun k w' l => Fr (fun j _ => j = 15) w5 w' ∧ l = [vR 0, vI t, vI k] ∧ 0 ≤ k ∧ k ≤ 64 ∧ ∀ c : Nat, (c : Int) < k → w'.1 15 c = 0) ?_ F 0 _ w5 (by omega) ⟨Fr.rf, rfl, by omega, by omega, fun p hp => by omega⟩
    rintro n2 k l w6 ⟨f6, rfl, hk0, hk1, hw6⟩ hk2
    rw [ks_X9_beginRun_74]
    refine wp_X9_beginRun_74 F _ t k w6 _ ?_
    rw [w_id (x := k) (by omega) (by omega)]
    refine ⟨fun q2 => ⟨⟨hk0, q2⟩, fun w7 e7 => hk2 _ _ ⟨by rw [e7]; exact f6.wI _ rfl, rfl, by omega, by omega, fun c hc => ?_⟩ q2⟩, fun q2 => q_v (hp w6 ?_ ?_ ?_ ?_ ?_)⟩
    · rw [e7, wI_at]
      by_cases z : c = k.toNat
      · rw [if_pos ⟨rfl, z⟩]
      · rw [if_neg (fun y => z y.2)]; exact hw6 c (by omega)
    · exact fb.tr ((f5.wk (by intro j k; simp only [Sbeg, Srun]; omega)).tr (f6.wk (by intro j k; simp only [Sbeg, Srun]; omega)))
    · exact (hH4.run (f5.wk (by intro j k; simp only [Srun]; omega))).run (f6.wk (by intro j k; simp only [Srun]; omega))
    · rw [f6.I 0 28 (by decide), f5.I 0 28 (by decide)]; exact g28
    · rw [f6.I 0 29 (by decide), f5.I 0 29 (by decide)]; exact g29
    · refine ⟨fun r hr => ?_, fun p hp2 => ?_, fun c hc => hw6 c (by omega), ?_, ?_, ?_⟩
      · show w6.1 10 r = own0 T (-1) r
        rw [f6.I 10 r (by decide), f5.I 10 r (by decide)]; exact g10 r hr
      · have := hw p (by omega)
        refine ⟨?_, ?_, ?_⟩
        · show w6.1 12 p = pH T p
          rw [f6.I 12 p (by decide)]; exact this.1 hp2
        · show w6.1 13 p = 0
          rw [f6.I 13 p (by decide)]; exact this.2.1
        · show w6.1 14 p = -1
          rw [f6.I 14 p (by decide)]; exact this.2.2
      · show w6.1 0 33 = 0
        rw [f6.I 0 33 (by decide), f5.I 0 33 (by decide)]; exact h33
      · show w6.1 0 34 = 0
        rw [f6.I 0 34 (by decide), f5.I 0 34 (by decide)]; exact h34
      · show w6.1 0 35 = 0
        rw [f6.I 0 35 (by decide), f5.I 0 35 (by decide)]; exact h35
/-! days -/
def DR (w : AW) (d : Int) : Nat → Int := fun i => w.1 7 ((121 * d).toNat + i)
def d0 (D : Nat → Int) (k : Int) : Int := D (1 + 3 * k).toNat
def d1 (D : Nat → Int) (k : Int) : Int := D (2 + 3 * k).toNat
def d2 (D : Nat → Int) (k : Int) : Int := D (3 + 3 * k).toNat
def DK (D : Nat → Int) : Prop := (0 ≤ D 0 ∧ D 0 ≤ 40) ∧ ∀ k, 0 ≤ k → k < D 0 → MV (d0 D k) (d1 D k) (d2 D k)
def CD (w : AW) (j : Nat) (D : Nat → Int) : Prop := w.1 j 0 = D 0 ∧ ∀ k, 0 ≤ k → k < D 0 → w.1 (j + 1) k.toNat = d1 D k ∧ w.1 (j + 2) k.toNat = d2 D k
def DyI (w : AW) : Prop := (0 ≤ w.1 5 1 ∧ w.1 5 1 ≤ 3) ∧ w.1 35 7 = w.1 5 1 ∧ ∀ d, 0 ≤ d → d < w.1 5 1 → DK (DR w d) ∧ CD w (67 + 3 * d.toNat) (DR w d)
theorem KQ.DR {w w' : AW} (h : KQ w w') (d : Int) : DR w' d = DR w d := by
  funext i
  exact h.1 7 _ (by omega)
theorem KQ.m1 {w w' : AW} (h : KQ w w') : w'.1 5 1 = w.1 5 1 := h.1 5 1 (by omega)
theorem DyI.Q {w w' : AW} (h : DyI w) (hk : KQ w w') : DyI w' := by
  obtain ⟨h1, h2, h3⟩ := h
  refine ⟨by rw [hk.m1]; exact h1, by rw [hk.m1, hk.1 35 7 (by omega)]; exact h2, fun d d0 d1 => ?_⟩
  rw [hk.m1] at d1
  rw [hk.DR]
  obtain ⟨k1, k2, k3⟩ := h3 d d0 d1
  refine ⟨k1, ?_, fun k z0 z1 => ?_⟩
  · rw [hk.1 _ 0 (by omega)]; exact k2
  · rw [hk.1 _ _ (by omega), hk.1 _ _ (by omega)]; exact k3 k z0 z1
theorem ci_moveOf {F : Nat} {d k a : Int} {w : AW} {P : Int → AW → Prop} (hd : 0 ≤ d ∧ d < 3) (hk : 0 ≤ k ∧ k < 40) (ha : 0 ≤ a ∧ a ≤ 2) (h : P (DR w d (1 + 3 * k + a).toNat) w) : CI (m_X9_moveOf F [vR 0, vI d, vI k, vI a] w) P := by
  refine wp_X9_moveOf F d k a w _ ⟨⟨by omega, by omega⟩, q_i ?_⟩
  rw [show (121 * d + 1 + 3 * k + a).toNat = (121 * d).toNat + (1 + 3 * k + a).toNat from by omega]
  exact h
theorem ci_move0 {F : Nat} {d k : Int} {w : AW} {P : Int → AW → Prop} (hd : 0 ≤ d ∧ d < 3) (hk : 0 ≤ k ∧ k < 40) (h : P (d0 (DR w d) k) w) : CI (m_X9_moveOf F [vR 0, vI d, vI k, vI 0] w) P := ci_moveOf hd hk (by omega) (by rw [Int.add_zero]; exact h)
theorem ci_move1 {F : Nat} {d k : Int} {w : AW} {P : Int → AW → Prop} (hd : 0 ≤ d ∧ d < 3) (hk : 0 ≤ k ∧ k < 40) (h : P (d1 (DR w d) k) w) : CI (m_X9_moveOf F [vR 0, vI d, vI k, vI 1] w) P := ci_moveOf hd hk (by omega) (by rw [show 1 + 3 * k + 1 = 2 + 3 * k from by omega]; exact h)
theorem ci_move2 {F : Nat} {d k : Int} {w : AW} {P : Int → AW → Prop} (hd : 0 ≤ d ∧ d < 3) (hk : 0 ≤ k ∧ k < 40) (h : P (d2 (DR w d) k) w) : CI (m_X9_moveOf F [vR 0, vI d, vI k, vI 2] w) P := ci_moveOf hd hk (by omega) (by rw [show 1 + 3 * k + 2 = 3 + 3 * k from by omega]; exact h)
theorem ci_movesOf {F : Nat} {d : Int} {w : AW} {P : Int → AW → Prop} (hd : 0 ≤ d ∧ d < 3) (h : P (DR w d 0) w) : CI (m_X9_movesOf F [vR 0, vI d] w) P := wp_X9_movesOf F d w _ ⟨⟨by omega, by omega⟩, q_i h⟩
noncomputable def rn (T D : Nat → Int) : Nat → Int → RS → Int × RS
  | 0, k, A => (k, A)
  | n + 1, k, A => match sp T (d0 D k) (d1 D k) (d2 D k) A with
    | none => (k, A)
    | some A' => rn T D n (k + 1) A'
theorem rn_none {T D : Nat → Int} {n : Nat} {k : Int} {A : RS} (h : sp T (d0 D k) (d1 D k) (d2 D k) A = none) : rn T D (n + 1) k A = (k, A) := by
  show (match sp T (d0 D k) (d1 D k) (d2 D k) A with | none => (k, A) | some A' => rn T D n (k + 1) A') = _
  rw [h]
theorem rn_some {T D : Nat → Int} {n : Nat} {k : Int} {A A' : RS} (h : sp T (d0 D k) (d1 D k) (d2 D k) A = some A') : rn T D (n + 1) k A = rn T D n (k + 1) A' := by
  show (match sp T (d0 D k) (d1 D k) (d2 D k) A with | none => (k, A) | some A' => rn T D n (k + 1) A') = _
  rw [h]
theorem rn_le {T D : Nat → Int} : ∀ (n : Nat) (k : Int) (A : RS), k ≤ (rn T D n k A).1 ∧ (rn T D n k A).1 ≤ k + n
  | 0, k, A => ⟨Int.le_refl k, by show k ≤ k + ((0 : Nat) : Int); omega⟩
  | n + 1, k, A => by
    cases h : sp T (d0 D k) (d1 D k) (d2 D k) A with
    | none => rw [rn_none h]; constructor <;> (simp only []; omega)
    | some A' =>
      rw [rn_some h]
      have := rn_le (T := T) (D := D) n (k + 1) A'
      omega
theorem rn_b {T D : Nat → Int} (hT : TK T) (hD : DK D) : ∀ (n : Nat) (k : Int) (A : RS), 0 ≤ k → k + n ≤ D 0 → RBd T k A → RBd T (rn T D n k A).1 (rn T D n k A).2
  | 0, k, A, _, _, h => h
  | n + 1, k, A, h0, h1, h => by
    cases hs : sp T (d0 D k) (d1 D k) (d2 D k) A with
    | none => rw [rn_none hs]; exact h
    | some A' =>
      rw [rn_some hs]
      exact rn_b hT hD n (k + 1) A' (by omega) (by omega) (sp_b hT h h0 (hD.2 k h0 (by omega)) hs)
abbrev Srw (j k : Nat) : Prop := Sbeg j k
theorem ci_runTo {F : Nat} {t d n : Int} {w : AW} {P : Int → AW → Prop} (hF : FB F) (ht : t = 0 ∨ t = 1) (hT : TK (TR w t)) (hd : n = 0 ∨ ((0 ≤ d ∧ d < 3) ∧ DK (DR w d) ∧ (0 ≤ n ∧ n ≤ DR w d 0))) (hp : ∀ w', Fr Sbeg w w' → HA w' (TR w t) → w'.1 0 28 = -1 → w'.1 0 29 = -1 → RE (TR w t) (RG w') (rn (TR w t) (DR w d) n.toNat 0 (r0 (TR w t))).2 → P (rn (TR w t) (DR w d) n.toNat 0 (r0 (TR w t))).1 w') : CI (m_X9_runTo F [vR 0, vI t, vI d, vI n] w) P := by
  refine wp_X9_runTo F t d n w _ (cv_beginRun hF ht hT (fun w1 f1 hH1 q28 q29 hE1 => ?_))
  have hD1 : DR w1 d = DR w d := by funext i; exact f1.I 7 _ (by first | (simp [Sbeg, Shand, Srun]; done) | (simp only [Sbeg, Shand, Srun]; omega))
  generalize hTT : TR w t = T at *
  generalize hDD : DR w d = D at *
  have hnb : 0 ≤ n ∧ n ≤ 40 := by
    rcases hd with h | ⟨_, h2, h3⟩
    · omega
    · have := h2.1; omega
  refine tt_for (K := k_X9_runTo_8 F) n (fun i w' l => Fr Sbeg w w' ∧ HA w' T ∧ w'.1 0 28 = -1 ∧ w'.1 0 29 = -1 ∧ l = [vR 0, vI t, vI d, vI n, vI i] ∧ 0 ≤ i ∧ i ≤ n ∧ ∃ A, RE T (RG w') A ∧ RBd T i A ∧ rn T D n.toNat 0 (r0 T) = rn T D (n - i).toNat i A) ?_ F 0 _ w1 (by omega) ⟨f1, hH1, q28, q29, rfl, by omega, by omega, r0 T, hE1, r0_b hT, by rw [Int.sub_zero]⟩
  rintro m i l w2 ⟨f2, hH2, p28, p29, rfl, hi0, hi1, A, hE2, hB2, hr⟩ hk
  rw [ks_X9_runTo_8]
  refine wp_X9_runTo_8 F _ t d n i w2 _ ?_
  rw [w_id (x := i) (by omega) (by omega), w_id (x := n) (by omega) (by omega)]
  refine ⟨fun q => ?_, fun q => q_i ?_⟩
  · rcases hd with h | ⟨hd3, hDk, hn⟩
    · omega
    have hD2 : DR w2 d = D := by
      rw [← hDD]; funext i; exact f2.I 7 _ (by first | (simp [Sbeg, Shand, Srun]; done) | (simp only [Sbeg, Shand, Srun]; omega))
    have hD0 := hDk.1
    refine ci_move0 hd3 (by omega) (ci_move1 hd3 (by omega) (ci_move2 hd3 (by omega) ?_))
    rw [hD2]
    have en : (n - i).toNat = (n - (i + 1)).toNat + 1 := by omega
    refine ci_does (n := i) hF hH2 hT p28 hE2 hB2 (by omega) (hDk.2 i hi0 (by omega)) (fun hs => br0 (q_i ?_)) (fun A' hs w3 f3 hE3 => br1 (hk _ _ ⟨f2.tr (f3.wk (by intro j k; simp only [Sbeg]; exact Or.inr)), hH2.run f3, by rw [f3.I 0 28 (by first | (simp [Srun]; done) | (simp only [Srun]; omega))]; exact p28, by rw [f3.I 0 29 (by first | (simp [Srun]; done) | (simp only [Srun]; omega))]; exact p29, rfl, by omega, by omega, A', hE3, sp_b hT hB2 hi0 (hDk.2 i hi0 (by omega)) hs, ?_⟩ q))
    · have := hp w2 f2 hH2 p28 p29
      rw [hr, en, rn_none hs] at this
      exact this hE2
    · rw [hr, en, rn_some hs]
  · have := hp w2 f2 hH2 p28 p29
    rw [hr, show (n - i).toNat = 0 from by omega] at this
    rw [show n = i from by omega]
    exact this hE2
/-- such a state there is -/
def lys (m md : Int) (T D : Nat → Int) (t d n : Int) : Prop := (0 ≤ t ∧ t < m) ∧ ((d = -1 ∧ n = 0) ∨ ((0 ≤ d ∧ d < md) ∧ (0 ≤ n ∧ n ≤ D 0) ∧ (rn T D n.toNat 0 (r0 T)).1 = n))
noncomputable def lsr (T D : Nat → Int) (n : Int) : RS := (rn T D n.toNat 0 (r0 T)).2
theorem lsr_b {T D : Nat → Int} {m md t d n : Int} (hT : TK T) (hD : 0 ≤ d ∧ d < md → DK D) (h : lys m md T D t d n) : RBd T n (lsr T D n) ∧ 0 ≤ n ∧ n ≤ 40 := by
  rcases h.2 with ⟨h1, h2⟩ | ⟨h1, h2, h3⟩
  · rw [h2]
    exact ⟨r0_b hT, by omega, by omega⟩
  · have hDk := hD h1
    have := rn_b hT hDk n.toNat 0 (r0 T) (by omega) (by omega) (r0_b hT)
    rw [h3] at this
    have := hDk.1
    exact ⟨by assumption, by omega, by omega⟩
theorem sbeg_KQ {w w' : AW} (h : Fr Sbeg w w') : KQ w w' := h.KQ (by intro j k; simp only [Sbeg, Shand, Srun]; omega)
theorem ci_layS {F : Nat} {t d n : Int} {w w1 : AW} {P : Int → AW → Prop} (hF : FB F) (hI : TwI w) (hJ : DyI w) (hw : w1 = wI w 0 0 0) (ht : iR t) (hd : iR d) (hnr : iR n) (h1 : lys (w.1 5 0) (w.1 5 1) (TR w t) (DR w d) t d n → TK (TR w t) → ∀ w', KQ w w' → HA w' (TR w t) → w'.1 0 28 = -1 → w'.1 0 29 = -1 → RE (TR w t) (RG w') (lsr (TR w t) (DR w d) n) → P 1 w') (h0 : ¬ lys (w.1 5 0) (w.1 5 1) (TR w t) (DR w d) t d n → ∀ w', KQ w w' → P 0 w') : CI (m_X9_lay F [vR 0, vI t, vI d, vI n] w1) P := by
  have k1 : KQ w w1 := by rw [hw]; exact wI0_KQ
  have hI1 := hI.Q k1
  have hJ1 := hJ.Q k1
  have e0 := k1.m
  have e1 := k1.m1
  have hm := hI1.1
  have hm1 := hJ1.1
  have eT := k1.TR t
  have eD := k1.DR d
  rw [← e0, ← e1, ← eT, ← eD] at h0 h1
  refine wp_X9_lay F t d n w1 _ ?_
  rw [w_id hd.1 hd.2]
  refine ci_isTown ht hm (fun z => br1 ?_) (fun z => br0 (q_z0 (h0 (fun y => z y.1) w1 k1)))
  have hT := (hI1.2.2 t z.1 z.2).1
  have go : ∀ N : Int, (0 ≤ N ∧ N ≤ 40) → (d = -1 ∧ N = 0 ∨ ((0 ≤ d ∧ d < w1.1 5 1) ∧ N = DR w1 d 0)) → TT (k_X9_lay_37 F [vR 0, vI t, vI d, vI n] [vI N, vI 0, vI n] w1) (qq 2 (fun r w => ∃ x, r = some (vI x) ∧ P x w)) := by
    intro N hN hc
    refine wp_X9_lay_37 F t d n N 0 n w1 _ (ci_in hnr (by decide) ⟨by omega, by omega⟩ (fun zn => br1 ?_) (fun zn => br0 (q_z0 (h0 (fun y => zn ?_) w1 k1))))
    · refine ci_runTo hF (by omega) hT ?_ (fun w2 f2 hH2 p28 p29 hE2 => ?_)
      · rcases hc with ⟨c1, c2⟩ | ⟨c1, c2⟩
        · exact Or.inl (by omega)
        · exact Or.inr ⟨by omega, (hJ1.2.2 d c1.1 c1.2).1, by omega⟩
      · have hle := rn_le (T := TR w1 t) (D := DR w1 d) n.toNat 0 (r0 (TR w1 t))
        rw [w_id hnr.1 hnr.2, w_id (x := (rn (TR w1 t) (DR w1 d) n.toNat 0 (r0 (TR w1 t))).1) (by omega) (by omega)]
        have k2 : KQ w w2 := k1.tr (sbeg_KQ f2)
        refine ⟨fun y => q_z1 (h1 ⟨z, ?_⟩ hT w2 k2 hH2 p28 p29 hE2), fun y => q_z0 (h0 (fun x => y ?_) w2 k2)⟩
        · rcases hc with ⟨c1, c2⟩ | ⟨c1, c2⟩
          · exact Or.inl ⟨c1, by omega⟩
          · exact Or.inr ⟨c1, by omega, y⟩
        · rcases x.2 with ⟨c1, c2⟩ | ⟨c1, c2, c3⟩
          · rw [c2]; rfl
          · exact c3
    · rcases y.2 with ⟨c1, c2⟩ | ⟨c1, c2, c3⟩ <;> omega
  refine ⟨fun q => ?_, fun q => ci_isDay hd hm1 (fun zd => br1 ?_) (fun zd => br0 (q_z0 (h0 (fun y => ?_) w1 k1)))⟩
  · refine wp_X9_lay_21 F t d n w1 _ ?_
    rw [w_id hd.1 hd.2]
    exact ⟨fun _ => go 0 (by omega) (Or.inl ⟨q, rfl⟩), fun q2 => absurd q q2⟩
  · refine wp_X9_lay_21 F t d n w1 _ ?_
    rw [w_id hd.1 hd.2]
    have hDk := (hJ1.2.2 d zd.1 zd.2).1
    exact ⟨fun q2 => absurd q2 q, fun _ => ci_movesOf (by omega) (go _ hDk.1 (Or.inr ⟨zd, rfl⟩))⟩
  · rcases y.2 with ⟨c1, c2⟩ | ⟨c1, c2, c3⟩ <;> omega
