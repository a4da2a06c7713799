/-! WHERE KINDS REST -/
def FS (T : Nat → Int) (set q : Int) : Prop := (q = -1 ∧ ∀ p, 0 ≤ p → p < T 2 → ¬ sn T set p) ∨ ((0 ≤ q ∧ q < T 2) ∧ sn T set q ∧ ∀ p, 0 ≤ p → p < q → ¬ sn T set p)
theorem FS_uniq {T : Nat → Int} {set q q' : Int} (h : FS T set q) (h' : FS T set q') : q = q' := by
  rcases h with ⟨rfl, h1⟩ | ⟨h1, h2, h3⟩ <;> rcases h' with ⟨rfl, g1⟩ | ⟨g1, g2, g3⟩
  · rfl
  · exact absurd g2 (h1 _ g1.1 g1.2)
  · exact absurd h2 (g1 _ h1.1 h1.2)
  · rcases Int.lt_trichotomy q q' with z | z | z
    · exact absurd h2 (g3 q h1.1 z)
    · exact z
    · exact absurd g2 (h3 q' g1.1 z)
noncomputable def fsn (T : Nat → Int) (set : Int) : Int := by
  classical
  exact if h : ∃ q, FS T set q then h.choose else -1
theorem fsn_eq {T : Nat → Int} {set q : Int} (h : FS T set q) : fsn T set = q := by
  unfold fsn
  have hx : ∃ q, FS T set q := ⟨q, h⟩
  rw [dif_pos hx]
  exact FS_uniq hx.choose_spec h
noncomputable def nxT (T : Nat → Int) (set q : Int) : Nat → Int := kd T q (bkn (nk T set q) 2).1
noncomputable def rst (set : Int) : Nat → (Nat → Int) → Int → (Nat → Int) × Int
  | 0, T, turn => (T, if fsn T set = -1 then turn else -1)
  | n + 1, T, turn => if fsn T set = -1 then (T, turn) else rst set n (nxT T set (fsn T set)) (turn + 1)
theorem rst_y {set : Int} {T : Nat → Int} (h : fsn T set = -1) : ∀ (n : Nat) (turn : Int), rst set n T turn = (T, turn)
  | 0, turn => by unfold rst; rw [if_pos h]
  | n + 1, turn => by unfold rst; rw [if_pos h]
theorem rst_n {set turn : Int} {T : Nat → Int} (h : fsn T set ≠ -1) (h0 : 0 ≤ turn) (h1 : turn < 20) : rst set (20 - turn).toNat T turn = rst set (20 - (turn + 1)).toNat (nxT T set (fsn T set)) (turn + 1) := by
  rw [show (20 - turn).toNat = (20 - (turn + 1)).toNat + 1 from by omega]
  show (if fsn T set = -1 then (T, turn) else _) = _
  rw [if_neg h]
theorem TK_nxT {T : Nat → Int} {set q : Int} (hT : TK T) (h0 : 0 ≤ q) (h1 : q < T 2) : TK (nxT T set q) ∧ nxT T set q 2 = T 2 ∧ nxT T set q 3 = T 3 := by
  have a2 := hT.2.2.1
  obtain ⟨-, b, -⟩ := bkn_ok (nk T set q) 2
  refine ⟨TK_kd hT h0 (by omega) (by omega), ?_, ?_⟩
  · exact (kd_E (T := T) h0 (show q < 8 by omega)).2.2.2.2.1.1
  · exact (kd_E (T := T) h0 (show q < 8 by omega)).2.2.2.2.2.2.1.1
def kbf (T : Nat → Int) : Nat → Int → Int
  | 0, a => a
  | m + 1, a => kbf T m (3 * a + pK T m)
theorem ci_firstSooner {F : Nat} {T : Nat → Int} {set : Int} {w : AW} {P : Int → AW → Prop} (hF : FB F) (hT : TK T) (hX : RX T (-1) w) (hn : nB set) (hn2 : ∀ e : Nat, tb set e = true → (e : Int) < T 3) (h : ∀ q w', FS T set q → Fr Sday w w' → P q w') : CI (m_X9_firstSooner F [vR 0, vI set] w) P := by
  have a2 := hT.2.2.1
  refine wp_X9_firstSooner F set w _ ?_
  refine tt_for (K := k_X9_firstSooner_2 F) (T 2) (fun i w' l => Fr Sday w w' ∧ 0 ≤ i ∧ i ≤ T 2 ∧ l = [vR 0, vI set, vI i] ∧ ∀ p, 0 ≤ p → p < i → ¬ sn T set p) ?_ F 0 _ w (by omega) ⟨Fr.rf, by omega, by omega, rfl, fun p x y => by omega⟩
  rintro n i l w2 ⟨f2, hi0, hi1, rfl, hno⟩ hk
  have e24 : w2.1 0 24 = T 2 := (rx_day hX f2).1.2.2.2.1
  rw [ks_X9_firstSooner_2]
  refine wp_X9_firstSooner_2 F _ set i w2 _ ?_
  rw [e24, w_id (x := i) (by omega) (by omega), w_id (x := T 2) (by omega) (by omega)]
  refine ⟨fun q => ci_isSooner hF hT (rx_day hX f2) hn hn2 hi0 q (fun y w3 f3 => br1 (q_i (h i w3 (Or.inr ⟨⟨hi0, q⟩, y, hno⟩) (f2.tr f3)))) (fun y w3 f3 => br0 (hk _ _ ⟨f2.tr f3, by omega, by omega, rfl, fun p x z => ?_⟩ q)), fun q => q_i (h (-1) w2 (Or.inl ⟨rfl, fun p x y => hno p x (by omega)⟩) f2)⟩
  by_cases e : p = i
  · rw [e]; exact y
  · exact hno p x (by omega)
noncomputable def aRests (m : Int) (T : Nat → Int) (t set b : Int) : Int := by
  classical
  exact if gd m T t set then (if b = 0 then (rst set 20 T 0).2 else kbf (rst set 20 T 0).1 (T 2).toNat 0) else -1
theorem cr_rests {F : Nat} {t set b : Int} {w : AW} {P : Int → AW → Prop} (hF : FB F) (hI : TwI w) (ht : iR t) (hs : iR set) (hb : iR b) (hp : ∀ w', KQ w w' → P (aRests (w.1 5 0) (TR w t) t set b) w') : CI (m_X9_rests F [vR 0, vI t, vI set, vI b] w) P := by
  refine wp_X9_rests F t set b w _ (fun w0 e0 => ci_lay' hF hI e0 ht hs (fun hg hT hn hn2 w1 k1 hX _ => br1 ?_) (fun hz w1 k1 => br0 (q_i ?_)))
  · have a2 := hT.2.2.1
    have fin : ∀ (T' : Nat → Int) (w' : AW) (turn who : Int), KQ w w' → TK T' → RX T' (-1) w' → T' 2 = TR w t 2 → rst set 20 (TR w t) 0 = (T', if who = -1 then turn else -1) → (-1 ≤ who ∧ who < 8) → TT (k_X9_rests_66 F [vR 0, vI t, vI set, vI b, vI turn, vI who, vU, vU] [] w') (qq 1 (fun r w => ∃ x, r = some (vI x) ∧ P x w)) := by
      intro T' w' turn who k' hT' hX' h2 hR hwho
      have e24 : w'.1 0 24 = TR w t 2 := hX'.1.2.2.2.1.trans h2
      have hpk := hp w' k'
      unfold aRests at hpk
      rw [if_pos hg, hR] at hpk
      refine wp_X9_rests_66 F t set b turn who w' _ (fun x ex => ?_)
      refine tt_for (K := k_X9_rests_77 F) (TR w t 2) (fun i w'' l => w'' = w' ∧ 0 ≤ i ∧ i ≤ TR w t 2 ∧ ∃ a j, l = [vR 0, vI t, vI set, vI b, vI turn, vI who, vI a, vI j] ∧ j = TR w t 2 - 1 - i ∧ kbf T' (j + 1).toNat a = kbf T' (TR w t 2).toNat 0) ?_ F 0 _ w' (by omega) ⟨rfl, by omega, by omega, 0, x, rfl, by rw [ex, e24]; omega, by rw [ex, e24, show (TR w t 2 - 1 + 1).toNat = (TR w t 2).toNat from by omega]⟩
      rintro n i l w'' ⟨rfl, hi0, hi1, a, j, rfl, hj, hR2⟩ hk
      rw [ks_X9_rests_77]
      refine wp_X9_rests_77 F _ t set b turn who a j w'' _ ?_
      rw [w_id (x := j) (by omega) (by omega), w_id hb.1 hb.2, w_id (x := who) (by omega) (by omega)]
      refine ⟨fun q => ⟨fun q2 => ⟨fun q3 => q_i ?_, fun q3 => q_i ?_⟩, fun q2 => q_i ?_⟩, fun q => ⟨⟨by omega, by omega⟩, fun x2 ex2 => hk _ _ ⟨rfl, by omega, by omega, x2, _, rfl, by omega, ?_⟩ (by omega)⟩⟩
      · rw [if_pos q2] at hpk
        have : P (if who = -1 then turn else -1) w'' := hpk
        rw [if_pos q3] at this
        exact this
      · rw [if_pos q2] at hpk
        have : P (if who = -1 then turn else -1) w'' := hpk
        rw [if_neg q3] at this
        exact this
      · rw [if_neg q2] at hpk
        rw [show (j + 1).toNat = 0 from by omega] at hR2
        have hR3 : a = kbf T' (TR w t 2).toNat 0 := hR2
        rw [hR3]
        exact hpk
      · have ek : w''.1 11 j.toNat = pK T' j := (hX'.1.pers (p := j) (by omega) (by omega)).2.1
        rw [ex2, ek, ← hR2, show (j + -1 + 1).toNat = j.toNat from by omega, show (j + 1).toNat = j.toNat + 1 from by omega]
        show kbf T' j.toNat (3 * a + pK T' j) = kbf T' j.toNat (3 * a + pK T' j.toNat)
        rw [Int.toNat_of_nonneg (by omega)]
    refine ci_firstSooner hF hT hX hn hn2 (fun q0 w2 hq0 f2 => ?_)
    refine tt_for (K := k_X9_rests_26 F) 20 (fun i w' l => KQ w w' ∧ 0 ≤ i ∧ i ≤ 20 ∧ ∃ (T' : Nat → Int) (who : Int), l = [vR 0, vI t, vI set, vI b, vI i, vI who, vU, vU] ∧ TK T' ∧ RX T' (-1) w' ∧ T' 2 = TR w t 2 ∧ T' 3 = TR w t 3 ∧ FS T' set who ∧ rst set (20 - i).toNat T' i = rst set 20 (TR w t) 0) ?_ F 0 _ w2 (by omega) ⟨k1.tr (day_KQ f2), by omega, by omega, TR w t, q0, rfl, hT, rx_day hX f2, rfl, rfl, hq0, rfl⟩
    rintro n i l w3 ⟨k3, hi0, hi1, T', who, rfl, hT', hX', h2, h3, hFS, hR⟩ hk
    have hfs := fsn_eq hFS
    have hwho : -1 ≤ who ∧ who < 8 := by
      rcases hFS with ⟨z, -⟩ | ⟨z, -⟩ <;> omega
    rw [ks_X9_rests_26]
    refine wp_X9_rests_26 F _ t set b i who w3 _ ?_
    rw [w_id (x := who) (by omega) (by omega), w_id (x := i) (by omega) (by omega)]
    refine ⟨fun q => fin T' w3 i who k3 hT' hX' h2 (by rw [← hR, rst_y (hfs.trans q), if_pos q]) hwho, fun q => ⟨fun q2 => ?_, fun q2 => fin T' w3 i who k3 hT' hX' h2 (by
      have : i = 20 := by omega
      rw [← hR, this]
      show (T', if fsn T' set = -1 then _ else -1) = _
      rw [hfs]) hwho⟩⟩
    have hw : 0 ≤ who ∧ who < T' 2 := by
      rcases hFS with ⟨z, -⟩ | ⟨z, -⟩
      · exact absurd z q
      · exact z
    have hn2' : ∀ e : Nat, tb set e = true → (e : Int) < T' 3 := fun e he => by rw [h3]; exact hn2 e he
    refine ci_regretOf hF hT' hX' hn hn2' hw.1 hw.2 (fun w4 f4 => ⟨⟨hw.1, by omega⟩, fun w5 e5 => ?_⟩)
    obtain ⟨tk, t2, t3⟩ := TK_nxT (set := set) hT' hw.1 hw.2
    have hX5 : RX (nxT T' set who) (-1) w5 := by rw [e5]; exact RX_kd hT' (rx_day hX' f4) hw.1 (by omega)
    refine ci_firstSooner hF tk hX5 hn (fun e he => by rw [t3]; exact hn2' e he) (fun q' w6 hq' f6 => hk _ _ ⟨k3.tr ((day_KQ f4).tr (KQ.tr (by rw [e5]; exact ⟨fun a b z => wI_cell _ _ _ _ (by omega), rfl⟩) (day_KQ f6))), by omega, by omega, nxT T' set who, q', rfl, tk, rx_day hX5 f6, t2.trans h2, t3.trans h3, hq', ?_⟩ q2)
    rw [← hR, rst_n (by rw [hfs]; exact q) hi0 q2, hfs]
  · have hpk := hp w1 k1
    unfold aRests at hpk
    rw [if_neg hz] at hpk
    exact hpk
theorem ci_kbt {F : Nat} {T : Nat → Int} {w : AW} {P : Int → AW → Prop} (hF : FB F) (hT : TK T) (hC : CA w 265 T) (h : P (kbf T (T 2).toNat 0) w) : CI (m_X7_kindsByThree F [vR 265] w) P := by
  have a2 := hT.2.2.1
  refine wp_X7_kindsByThree F 265 tw265 w _ (fun x ex => ?_)
  rw [hC.2.2.1] at ex
  refine tt_for (K := k_X7_kindsByThree_9 F) (T 2) (fun i w'' l => w'' = w ∧ 0 ≤ i ∧ i ≤ T 2 ∧ ∃ a j, l = [vR 265, vI a, vI j] ∧ j = T 2 - 1 - i ∧ kbf T (j + 1).toNat a = kbf T (T 2).toNat 0) ?_ F 0 _ w (by omega) ⟨rfl, by omega, by omega, 0, x, rfl, by omega, by rw [ex, show (T 2 - 1 + 1).toNat = (T 2).toNat from by omega]⟩
  rintro n i l w'' ⟨rfl, hi0, hi1, a, j, rfl, hj, hR2⟩ hk
  rw [ks_X7_kindsByThree_9]
  refine wp_X7_kindsByThree_9 F _ 265 tw265 a j w'' _ ?_
  rw [w_id (x := j) (by omega) (by omega)]
  refine ⟨fun q => q_i ?_, fun q => ⟨⟨by omega, by omega⟩, fun x2 ex2 => hk _ _ ⟨rfl, by omega, by omega, x2, _, rfl, by omega, ?_⟩ (by omega)⟩⟩
  · rw [show (j + 1).toNat = 0 from by omega] at hR2
    have hR3 : a = kbf T (T 2).toNat 0 := hR2
    rw [hR3]
    exact h
  · have ek : w''.1 (265 + 9) j.toNat = pK T j := (hC.pers (p := j) (by omega) (by omega)).2.2
    rw [ex2, ek, ← hR2, show (j + -1 + 1).toNat = j.toNat from by omega, show (j + 1).toNat = j.toNat + 1 from by omega]
    show kbf T j.toNat (a * 3 + pK T j) = kbf T j.toNat (3 * a + pK T j.toNat)
    rw [Int.toNat_of_nonneg (by omega), Int.mul_comm]
theorem cc_rests {F : Nat} {t set b : Int} {w : AW} {P : Int → AW → Prop} (hF : FB F) (hI : TwI w) (ht : iR t) (hs : iR set) (hb : iR b) (hp : ∀ w', KQ w w' → P (aRests (w.1 5 0) (TR w t) t set b) w') : CI (m_X8_rests F [vR 34, vI t, vI set, vI b] w) P := by
  refine wp_X8_rests F t set b w _ (cr_plan' hF hI ht hs (fun hg hT hn hn2 w1 k1 hC hCH => ⟨fun q => (by cases q), fun j hj => ?_⟩) (fun hz => ⟨fun _ => q_i ?_, fun j hj => (by cases hj)⟩))
  · cases hj
    have a2 := hT.2.2.1
    have fin : ∀ (T' : Nat → Int) (w' : AW) (x : Int), FrX Sgp w1 w' → TK T' → CA w' 265 T' → T' 2 = TR w t 2 → rst set 20 (TR w t) 0 = (T', x) → ((b = 0 → P x w') ∧ (b ≠ 0 → ∀ Q : Int → AW → Prop, (∀ y v, P y v → Q y v) → CI (m_X7_kindsByThree F [vR 265] w') Q)) := by
      intro T' w' x f' hT' hC' h2 hR
      have hpk := hp w' (k1.tr (sgp_KQ f'))
      unfold aRests at hpk
      rw [if_pos hg, hR] at hpk
      refine ⟨fun q => ?_, fun q Q hQ => ci_kbt hF hT' hC' (hQ _ _ ?_)⟩
      · rw [if_pos q] at hpk; exact hpk
      · rw [if_neg q] at hpk; rw [h2]; exact hpk
    refine tt_for (K := k_X8_rests_18 F) 21 (fun i w' l => FrX Sgp w1 w' ∧ 0 ≤ i ∧ i ≤ 21 ∧ ∃ (T' : Nat → Int) (v : AV), l = [vR 34, vI t, vI set, vI b, vR 265, vI i, v] ∧ TK T' ∧ CA w' 265 T' ∧ CH T' w' ∧ T' 2 = TR w t 2 ∧ ((i ≤ 20 ∧ rst set (20 - i).toNat T' i = rst set 20 (TR w t) 0) ∨ (i = 21 ∧ rst set 20 (TR w t) 0 = (T', -1)))) ?_ F 0 _ w1 (by omega) ⟨FrX.rf, by omega, by omega, TR w t, vU, rfl, hT, hC, hCH, rfl, Or.inl ⟨by omega, rfl⟩⟩
    rintro n i l w2 ⟨f2, hi0, hi1, T', v, rfl, hT', hC', hCH', h2, hR⟩ hk
    rw [ks_X8_rests_18]
    refine wp_X8_rests_18 F _ t set b 265 tw265 i v w2 _ ?_
    rw [w_id (x := i) (by omega) (by omega), w_id hb.1 hb.2]
    refine ⟨fun q => ?_, fun q => ?_⟩
    · rcases hR with ⟨z, -⟩ | ⟨-, hR⟩
      · omega
      · have hf := fin T' w2 (-1) f2 hT' hC' h2 hR
        exact ⟨fun q2 => q_i (hf.1 q2), fun q2 => hf.2 q2 _ (fun y v h => q_i h)⟩
    · rcases hR with ⟨hi20, hR⟩ | ⟨z, -⟩
      · have gen : ∀ (q0 : Int) (w3 : AW), FrX Sgp w1 w3 → CA w3 265 T' → CH T' w3 → ((q0 = T' 2 ∧ FS T' set (-1)) ∨ (q0 < T' 2 ∧ FS T' set q0 ∧ 0 ≤ q0)) → TT (k_X8_rests_56 F (k_X8_rests_18 F n) [vR 34, vI t, vI set, vI b, vR 265, vI i, vI q0] [] w3) (qq 1 (fun r w => ∃ x, r = some (vI x) ∧ P x w)) := by
          intro q0 w3 f3 hC3 hCH3 hq0
          refine wp_X8_rests_56 F _ t set b 265 tw265 i q0 w3 _ ?_
          have hqr : 0 ≤ q0 ∧ q0 ≤ 8 := by omega
          rw [hC3.2.2.1, w_id (x := q0) (by omega) (by omega), w_id (x := T' 2) (by omega) (by omega), w_id (x := i) (by omega) (by omega), w_id hb.1 hb.2]
          refine ⟨fun q1 => ?_, fun q1 => ?_⟩
          · rcases hq0 with ⟨z, -⟩ | ⟨-, hFS, hq00⟩
            · omega
            · have hfs := fsn_eq hFS
              refine ⟨fun q2 => ci_bestKind hF hT' hC3 hCH3 hn hq00 q1 (fun w4 f4 => ⟨⟨hq00, by omega⟩, fun w5 e5 => wp_X8_rests_105 F _ t set b 265 tw265 i q0 w5 _ ?_⟩), fun q2 => wp_X8_rests_105 F _ t set b 265 tw265 i q0 w3 _ (hk _ _ ⟨f3, by omega, by omega, T', _, rfl, hT', hC3, hCH3, h2, Or.inr ⟨by omega, ?_⟩⟩ (by omega))⟩
              · obtain ⟨tk, t2, t3⟩ := TK_nxT (set := set) hT' hq00 q1
                have f5 : FrX Sgp w1 w5 := by rw [e5]; exact (f3.tr (f4.wk (by intro j k h; exact Or.inl h))).wI _ (Or.inr (by omega))
                refine hk _ _ ⟨f5, by omega, by omega, nxT T' set q0, _, rfl, tk, by rw [e5]; exact CA_kd hT' (ca_gd hC3 f4) hq00 (by omega), by rw [e5]; exact CH_kd hT' (ch_gd hCH3 f4) hq00 (by omega), t2.trans h2, Or.inl ⟨by omega, ?_⟩⟩ (by omega)
                rw [← hR, rst_n (by rw [hfs]; omega) hi0 q2, hfs]
              · have : i = 20 := by omega
                rw [← hR, this]
                show (T', if fsn T' set = -1 then _ else -1) = _
                rw [hfs, if_neg (by omega)]
          · rcases hq0 with ⟨-, hFS⟩ | ⟨z, -⟩
            · have hf := fin T' w3 i f3 hT' hC3 h2 (by rw [← hR, rst_y (fsn_eq hFS)])
              exact ⟨fun q2 => q_i (hf.1 q2), fun q2 => hf.2 q2 _ (fun y v h => q_i h)⟩
            · omega
        refine tt_for (K := k_X8_rests_28 F (k_X8_rests_18 F n)) (T' 2) (fun p w' l => FrX Sgd w2 w' ∧ 0 ≤ p ∧ p ≤ T' 2 ∧ l = [vR 34, vI t, vI set, vI b, vR 265, vI i, vI p] ∧ ∀ k, 0 ≤ k → k < p → ¬ sn T' set k) ?_ F 0 _ w2 (by omega) ⟨FrX.rf, by omega, by omega, rfl, fun k x y => by omega⟩
        rintro m p l w3 ⟨f3, hp0, hp1, rfl, hno⟩ hk2
        have hC3 := ca_gd hC' f3
        have hCH3 := ch_gd hCH' f3
        have f13 : FrX Sgp w1 w3 := f2.tr (f3.wk (by intro j k h; exact Or.inl h))
        rw [ks_X8_rests_28]
        refine wp_X8_rests_28 F _ _ t set b 265 tw265 i p w3 _ ?_
        rw [hC3.2.2.1, w_id (x := p) (by omega) (by omega), w_id (x := T' 2) (by omega) (by omega)]
        refine ⟨fun q1 => ci_wouldChange hF hT' hC3 hCH3 hn hp0 q1 (fun y w4 f4 => br1 (gen p w4 (f13.tr (f4.wk (by intro j k h; exact Or.inl h))) (ca_gd hC3 f4) (ch_gd hCH3 f4) (Or.inr ⟨q1, Or.inr ⟨⟨hp0, q1⟩, y, hno⟩, hp0⟩))) (fun y w4 f4 => br0 (hk2 _ _ ⟨f3.tr f4, by omega, by omega, rfl, fun k x z => ?_⟩ q1)), fun q1 => gen p w3 f13 hC3 hCH3 (Or.inl ⟨by omega, Or.inl ⟨rfl, fun k x y => hno k x (by omega)⟩⟩)⟩
        by_cases e : k = p
        · rw [e]; exact y
        · exact hno k x (by omega)
      · omega
  · have hpk := hp w KQ.rf
    unfold aRests at hpk
    rw [if_neg hz] at hpk
    exact hpk
