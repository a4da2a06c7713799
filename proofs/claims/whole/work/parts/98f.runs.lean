/-! RUN, STATE, PAID -/
noncomputable def aRun (m md : Int) (T D : Nat → Int) (t d a : Int) : Int := by
  classical
  exact if (0 ≤ t ∧ t < m) ∧ (0 ≤ d ∧ d < md) then (if a = 0 then (rn T D (D 0).toNat 0 (r0 T)).1 else if a = 1 then (rn T D (D 0).toNat 0 (r0 T)).2 5 2 else -1) else -1
theorem cc_run {F : Nat} {t d a : Int} {w : AW} {P : Int → AW → Prop} (hF : FB F) (hI : TwI w) (hJ : DyI w) (ht : iR t) (hd : iR d) (ha : iR a) (hp : ∀ w', KQ w w' → P (aRun (w.1 5 0) (w.1 5 1) (TR w t) (DR w d) t d a) w') : CI (m_X8_run F [vR 34, vI t, vI d, vI a] w) P := by
  have hm := hI.1
  have hm1 := hJ.1
  have no : ¬ ((0 ≤ t ∧ t < w.1 5 0) ∧ (0 ≤ d ∧ d < w.1 5 1)) → P (-1) w := fun hk => by
    have := hp w KQ.rf
    unfold aRun at this
    rw [if_neg hk] at this
    exact this
  refine wp_X8_run F t d a w _ (cr_townAt hI ht (fun z => cr_dayAt hJ hd (fun zd hdy => ⟨fun q => (by cases q), fun j hj => ⟨fun q => (by cases q), fun dj hdj => ?_⟩⟩) (fun zd => ⟨fun q => (by cases q), fun j hj => ⟨fun q => q_i (no (fun y => zd y.2)), fun dj hdj => (by cases hdj)⟩⟩)) (fun z => cr_dayAt hJ hd (fun zd hdy => ⟨fun q => q_i (no (fun y => z y.1)), fun j hj => (by cases hj)⟩) (fun zd => ⟨fun q => q_i (no (fun y => z y.1)), fun j hj => (by cases hj)⟩)))
  cases hj
  cases hdj
  obtain ⟨hT, hC⟩ := hI.2.2 t z.1 z.2
  obtain ⟨htw, hap⟩ := tw_cell (t := t) ⟨z.1, by omega⟩
  obtain ⟨hDk, hCD⟩ := hJ.2.2 d zd.1 zd.2
  have hD0 := hDk.1
  rw [hCD.1, w_id ha.1 ha.2]
  refine ⟨hdy, ci_play hF htw hap hdy hC hT hCD hDk (by omega) (fun w1 f1 hE1 => ?_)⟩
  have := hp w1 (scru_KQ f1)
  unfold aRun at this
  rw [if_pos ⟨z, zd⟩] at this
  refine ⟨fun q => q_i ?_, fun q => ⟨fun q2 => q_i ?_, fun q2 => q_i ?_⟩⟩
  · rw [if_pos q] at this; exact this
  · rw [if_neg q, if_pos q2] at this
    have e : w1.1 221 2 = (rn (TR w t) (DR w d) (DR w d 0).toNat 0 (r0 (TR w t))).2 5 2 := hE1.2.2.2.2.2
    rw [e]; exact this
  · rw [if_neg q, if_neg q2] at this; exact this
theorem cr_run {F : Nat} {t d a : Int} {w : AW} {P : Int → AW → Prop} (hF : FB F) (hI : TwI w) (hJ : DyI w) (ht : iR t) (hd : iR d) (ha : iR a) (hp : ∀ w', KQ w w' → P (aRun (w.1 5 0) (w.1 5 1) (TR w t) (DR w d) t d a) w') : CI (m_X9_run F [vR 0, vI t, vI d, vI a] w) P := by
  refine wp_X9_run F t d a w _ (fun w0 e0 => ?_)
  have k0 : KQ w w0 := by rw [e0]; exact wI0_KQ
  have hI0 := hI.Q k0
  have hJ0 := hJ.Q k0
  have hm := hI0.1
  have hm1 := hJ0.1
  rw [← k0.m, ← k0.m1, ← k0.TR, ← k0.DR] at hp
  have no : ¬ ((0 ≤ t ∧ t < w0.1 5 0) ∧ (0 ≤ d ∧ d < w0.1 5 1)) → P (-1) w0 := fun hk => by
    have := hp w0 k0
    unfold aRun at this
    rw [if_neg hk] at this
    exact this
  refine ci_isTown ht hm (fun z => br1 (ci_isDay hd hm1 (fun zd => br1 (ci_movesOf (by omega) ?_)) (fun zd => br0 (q_i (no (fun y => zd y.2)))))) (fun z => br0 (q_i (no (fun y => z y.1))))
  have hT := (hI0.2.2 t z.1 z.2).1
  have hDk := (hJ0.2.2 d zd.1 zd.2).1
  have hD0 := hDk.1
  rw [w_id ha.1 ha.2]
  refine ci_runTo hF (by omega) hT (Or.inr ⟨by omega, hDk, by omega⟩) (fun w1 f1 hH p28 p29 hE1 => ?_)
  have := hp w1 (k0.tr (sbeg_KQ f1))
  unfold aRun at this
  rw [if_pos ⟨z, zd⟩] at this
  refine ⟨fun q => q_i ?_, fun q => ⟨fun q2 => q_i ?_, fun q2 => q_i ?_⟩⟩
  · rw [if_pos q] at this; exact this
  · rw [if_neg q, if_pos q2] at this
    have e : w1.1 0 35 = (rn (TR w0 t) (DR w0 d) (DR w0 d 0).toNat 0 (r0 (TR w0 t))).2 5 2 := hE1.2.2.2.2.2
    rw [e]; exact this
  · rw [if_neg q, if_neg q2] at this; exact this
noncomputable def aState (m md : Int) (T D : Nat → Int) (t d n a : Int) : Int := by
  classical
  exact if lys m md T D t d n then (if a = 0 then lsr T D n 5 0 else if a = 1 then lsr T D n 5 1 else if 10 ≤ a ∧ a < 10 + T 1 then lsr T D n 0 (a - 10).toNat else if 30 ≤ a ∧ a < 30 + T 2 then lsr T D n 1 (a - 30).toNat else if 40 ≤ a ∧ a < 40 + T 2 then lsr T D n 2 (a - 40).toNat else -2) else -2
theorem cc_state {F : Nat} {t d n a : Int} {w : AW} {P : Int → AW → Prop} (hF : FB F) (hI : TwI w) (hJ : DyI w) (ht : iR t) (hd : iR d) (hn : iR n) (ha : iR a) (hp : ∀ w', KQ w w' → P (aState (w.1 5 0) (w.1 5 1) (TR w t) (DR w d) t d n a) w') : CI (m_X8_state F [vR 34, vI t, vI d, vI n, vI a] w) P := by
  refine wp_X8_state F t d n a w _ (cr_stateC hF hI hJ ht hd hn (fun hl hT htw hap w1 f1 hC1 hE1 => ⟨fun q => (by cases q), fun j hj => ?_⟩) (fun hl w1 k1 => ⟨fun _ => q_i ?_, fun j hj => (by cases hj)⟩))
  · cases hj
    have a1 := hT.2.1
    have a2 := hT.2.2.1
    have := hp w1 (scru_KQ f1)
    unfold aState at this
    rw [if_pos hl] at this
    obtain ⟨e0, e1, e4, e50, e51, e52⟩ := hE1
    have g8 : w1.1 (38 + 14 * t.toNat) 8 = TR w t 2 := hC1.2.2.1
    have g1 : w1.1 (38 + 14 * t.toNat) 1 = TR w t 1 := hC1.2.1
    have last : a ≠ 0 → a ≠ 1 → ¬ (10 ≤ a ∧ a < 10 + TR w t 1) → TT (k_X8_state_78 F [vR 34, vI t, vI d, vI n, vI a, vR (38 + 14 * t.toNat)] [] w1) (qq 1 (fun r w => ∃ x, r = some (vI x) ∧ P x w)) := by
      intro n0 n1 n2
      rw [if_neg n0, if_neg n1, if_neg n2] at this
      have fin : ¬ (30 ≤ a ∧ a < 30 + TR w t 2) → TT (k_X8_state_112 F [vR 34, vI t, vI d, vI n, vI a, vR (38 + 14 * t.toNat)] [] w1) (qq 1 (fun r w => ∃ x, r = some (vI x) ∧ P x w)) := by
        intro n3
        rw [if_neg n3] at this
        refine wp_X8_state_112 F t d n a _ htw w1 _ ?_
        rw [w_id ha.1 ha.2, g8, w_id (x := 40 + TR w t 2) (by omega) (by omega)]
        refine ⟨fun q => q_i (by rw [if_neg (by omega)] at this; exact this), fun q => ⟨fun q2 => ⟨⟨by omega, by omega⟩, q_i ?_⟩, fun q2 => q_i (by rw [if_neg (by omega)] at this; exact this)⟩⟩
        rw [if_pos (by omega)] at this
        have e : w1.1 224 (a - 40).toNat = _ := (e1 (a - 40).toNat (by omega)).2.1
        rw [e]; exact this
      refine wp_X8_state_78 F t d n a _ htw w1 _ ?_
      rw [w_id ha.1 ha.2, g8, w_id (x := 30 + TR w t 2) (by omega) (by omega)]
      refine ⟨fun q => fin (by omega), fun q => ⟨fun q2 => ⟨⟨by omega, by omega⟩, q_i ?_⟩, fun q2 => fin (by omega)⟩⟩
      rw [if_pos (by omega)] at this
      have e : w1.1 223 (a - 30).toNat = _ := (e1 (a - 30).toNat (by omega)).1
      rw [e]; exact this
    rw [w_id ha.1 ha.2, g1, w_id (x := 10 + TR w t 1) (by omega) (by omega)]
    refine ⟨fun q => q_i ?_, fun q => ⟨fun q2 => q_i ?_, fun q2 => ⟨fun q3 => last q q2 (by omega), fun q3 => ⟨htw, fun q4 => ⟨⟨by omega, by omega⟩, q_i ?_⟩, fun q4 => last q q2 (by omega)⟩⟩⟩⟩
    · rw [if_pos q] at this
      have e : w1.1 221 0 = _ := e50
      rw [e]; exact this
    · rw [if_neg q, if_pos q2] at this
      have e : w1.1 221 1 = _ := e51
      rw [e]; exact this
    · rw [if_neg q, if_neg q2, if_pos (by omega)] at this
      have e : w1.1 222 (a - 10).toNat = _ := e0 (a - 10).toNat (by omega)
      rw [e]; exact this
  · have := hp w1 k1
    unfold aState at this
    rw [if_neg hl] at this
    exact this
theorem cr_state {F : Nat} {t d n a : Int} {w : AW} {P : Int → AW → Prop} (hF : FB F) (hI : TwI w) (hJ : DyI w) (ht : iR t) (hd : iR d) (hn : iR n) (ha : iR a) (hp : ∀ w', KQ w w' → P (aState (w.1 5 0) (w.1 5 1) (TR w t) (DR w d) t d n a) w') : CI (m_X9_state F [vR 0, vI t, vI d, vI n, vI a] w) P := by
  refine wp_X9_state F t d n a w _ (fun w0 e0 => ci_layS hF hI hJ e0 ht hd hn (fun hl hT w1 k1 hH p28 p29 hE1 => br1 ?_) (fun hl w1 k1 => br0 (q_i ?_)))
  · have a1 := hT.2.1
    have a2 := hT.2.2.1
    have := hp w1 k1
    unfold aState at this
    rw [if_pos hl] at this
    obtain ⟨e0, e1, e4, e50, e51, e52⟩ := hE1
    rw [hH.2.2.1]
    refine ci_in ha (by decide) ⟨by omega, by omega⟩ (fun z => br1 ⟨⟨by omega, by omega⟩, q_i ?_⟩) (fun z => br0 ?_)
    · rw [if_neg (by omega), if_neg (by omega), if_pos (by omega)] at this
      have e : w1.1 10 (a - 10).toNat = _ := e0 (a - 10).toNat (by omega)
      rw [e]; exact this
    rw [hH.2.2.2.1]
    refine ci_in ha (by decide) ⟨by omega, by omega⟩ (fun z2 => br1 ⟨⟨by omega, by omega⟩, q_i ?_⟩) (fun z2 => br0 ?_)
    · rw [if_neg (by omega), if_neg (by omega), if_neg (by omega), if_pos (by omega)] at this
      have e : w1.1 12 (a - 30).toNat = _ := (e1 (a - 30).toNat (by omega)).1
      rw [e]; exact this
    rw [hH.2.2.2.1]
    refine ci_in ha (by decide) ⟨by omega, by omega⟩ (fun z3 => br1 ⟨⟨by omega, by omega⟩, q_i ?_⟩) (fun z3 => br0 ?_)
    · rw [if_neg (by omega), if_neg (by omega), if_neg (by omega), if_neg (by omega), if_pos (by omega)] at this
      have e : w1.1 13 (a - 40).toNat = _ := (e1 (a - 40).toNat (by omega)).2.1
      rw [e]; exact this
    rw [w_id ha.1 ha.2]
    refine ⟨fun q => q_i ?_, fun q => ⟨fun q2 => q_i ?_, fun q2 => q_i ?_⟩⟩
    · rw [if_pos q] at this
      have e : w1.1 0 33 = _ := e50
      rw [e]; exact this
    · rw [if_neg q, if_pos q2] at this
      have e : w1.1 0 34 = _ := e51
      rw [e]; exact this
    · rw [if_neg q, if_neg q2, if_neg (by omega), if_neg (by omega), if_neg (by omega)] at this
      exact this
  · have := hp w1 k1
    unfold aState at this
    rw [if_neg hl] at this
    exact this
noncomputable def aPaid (m md : Int) (T D : Nat → Int) (t d n a b : Int) : Int := by
  classical
  exact if lys m md T D t d n ∧ (0 ≤ a ∧ a < T 2) ∧ (0 ≤ b ∧ b < T 2) then lsr T D n 4 (8 * a + b).toNat else -1
theorem cc_paid {F : Nat} {t d n a b : Int} {w : AW} {P : Int → AW → Prop} (hF : FB F) (hI : TwI w) (hJ : DyI w) (ht : iR t) (hd : iR d) (hn : iR n) (ha : iR a) (hb : iR b) (hp : ∀ w', KQ w w' → P (aPaid (w.1 5 0) (w.1 5 1) (TR w t) (DR w d) t d n a b) w') : CI (m_X8_paid F [vR 34, vI t, vI d, vI n, vI a, vI b] w) P := by
  have no : ¬ (lys (w.1 5 0) (w.1 5 1) (TR w t) (DR w d) t d n ∧ (0 ≤ a ∧ a < TR w t 2) ∧ (0 ≤ b ∧ b < TR w t 2)) → ∀ w', KQ w w' → P (-1) w' := fun hk w' k' => by
    have := hp w' k'
    unfold aPaid at this
    rw [if_neg hk] at this
    exact this
  refine wp_X8_paid F t d n a b w _ (cr_stateC hF hI hJ ht hd hn (fun hl hT htw hap w1 f1 hC1 hE1 => ⟨fun q => (by cases q), fun j hj => ?_⟩) (fun hl w1 k1 => ⟨fun _ => q_i (no (fun y => hl y.1) w1 k1), fun j hj => (by cases hj)⟩))
  cases hj
  have k1 := scru_KQ f1
  have a2 := hT.2.2.1
  refine ⟨htw, ci_hasPerson htw hC1 hT ha (fun z => br1 (ci_hasPerson htw hC1 hT hb (fun z2 => br1 ⟨⟨by omega, by omega⟩, q_i ?_⟩) (fun z2 => br0 (q_i (no (fun y => z2 y.2.2) w1 k1))))) (fun z => br0 (q_i (no (fun y => z y.2.1) w1 k1)))⟩
  have := hp w1 k1
  unfold aPaid at this
  rw [if_pos ⟨hl, z, z2⟩] at this
  have e : w1.1 226 (8 * a + b).toNat = _ := hE1.2.2.1 (8 * a + b).toNat (by omega)
  rw [show a * 8 + b = 8 * a + b from by omega, e]
  exact this
theorem cr_paid {F : Nat} {t d n a b : Int} {w : AW} {P : Int → AW → Prop} (hF : FB F) (hI : TwI w) (hJ : DyI w) (ht : iR t) (hd : iR d) (hn : iR n) (ha : iR a) (hb : iR b) (hp : ∀ w', KQ w w' → P (aPaid (w.1 5 0) (w.1 5 1) (TR w t) (DR w d) t d n a b) w') : CI (m_X9_paid F [vR 0, vI t, vI d, vI n, vI a, vI b] w) P := by
  have no : ¬ (lys (w.1 5 0) (w.1 5 1) (TR w t) (DR w d) t d n ∧ (0 ≤ a ∧ a < TR w t 2) ∧ (0 ≤ b ∧ b < TR w t 2)) → ∀ w', KQ w w' → P (-1) w' := fun hk w' k' => by
    have := hp w' k'
    unfold aPaid at this
    rw [if_neg hk] at this
    exact this
  refine wp_X9_paid F t d n a b w _ (fun w0 e0 => ci_layS hF hI hJ e0 ht hd hn (fun hl hT w1 k1 hH p28 p29 hE1 => br1 ?_) (fun hl w1 k1 => br0 (q_i (no (fun y => hl y.1) w1 k1))))
  have a2 := hT.2.2.1
  refine ci_isPerson hH hT ha (fun z => br1 (ci_isPerson hH hT hb (fun z2 => br1 ⟨⟨by omega, by omega⟩, q_i ?_⟩) (fun z2 => br0 (q_i (no (fun y => z2 y.2.2) w1 k1))))) (fun z => br0 (q_i (no (fun y => z y.2.1) w1 k1)))
  have := hp w1 k1
  unfold aPaid at this
  rw [if_pos ⟨hl, z, z2⟩] at this
  have e : w1.1 15 (8 * a + b).toNat = _ := hE1.2.2.1 (8 * a + b).toNat (by omega)
  rw [e]
  exact this
/-! BRINGS -/
noncomputable def bs (T D : Nat → Int) (r k : Int) (A : RS) : Int := if d0 D k = 0 ∧ d2 D k = r then pys T (-1) (A 0) (d1 D k) r else 0
noncomputable def brg (T D : Nat → Int) (r wz : Int) : Nat → Int → RS → Int → Int
  | 0, _, _, s => s
  | n + 1, k, A, s => if A 0 r.toNat = wz then (match sp T (d0 D k) (d1 D k) (d2 D k) A with | none => s | some A' => brg T D r wz n (k + 1) A' (s + bs T D r k A)) else s
theorem brg_stop {T D : Nat → Int} {r wz : Int} : ∀ (n : Nat) (k : Int) (A : RS) (s : Int), A 0 r.toNat ≠ wz → brg T D r wz n k A s = s
  | 0, _, _, _, _ => rfl
  | n + 1, k, A, s, h => by
    show (if A 0 r.toNat = wz then _ else s) = s
    rw [if_neg h]
theorem brg_none {T D : Nat → Int} {r wz k s : Int} {n : Nat} {A : RS} (h : A 0 r.toNat = wz) (hs : sp T (d0 D k) (d1 D k) (d2 D k) A = none) : brg T D r wz (n + 1) k A s = s := by
  show (if A 0 r.toNat = wz then (match sp T (d0 D k) (d1 D k) (d2 D k) A with | none => s | some A' => brg T D r wz n (k + 1) A' (s + bs T D r k A)) else s) = s
  rw [if_pos h, hs]
theorem brg_some {T D : Nat → Int} {r wz k s : Int} {n : Nat} {A A' : RS} (h : A 0 r.toNat = wz) (hs : sp T (d0 D k) (d1 D k) (d2 D k) A = some A') : brg T D r wz (n + 1) k A s = brg T D r wz n (k + 1) A' (s + bs T D r k A) := by
  show (if A 0 r.toNat = wz then (match sp T (d0 D k) (d1 D k) (d2 D k) A with | none => s | some A' => brg T D r wz n (k + 1) A' (s + bs T D r k A)) else s) = _
  rw [if_pos h, hs]
theorem sp_paid {T D : Nat → Int} {r k : Int} {A A' : RS} (hm : MV (d0 D k) (d1 D k) (d2 D k)) (hs : sp T (d0 D k) (d1 D k) (d2 D k) A = some A') (h2 : d1 D k ≠ -1) (h3 : d2 D k = r) : A' 5 1 - A 5 1 = bs T D r k A := by
  unfold bs
  rcases hm with ⟨h0, hp, hmu⟩ | ⟨h0, hp, hmu⟩
  · rw [if_pos ⟨h0, h3⟩]
    rw [h0] at hs
    by_cases hk : okm T (d1 D k) (d2 D k) A
    · rw [sp_y hk] at hs
      cases hs
      show A 5 1 + pys T (-1) (A 0) (d1 D k) (d2 D k) - A 5 1 = _
      rw [h3]; omega
    · rw [sp_n hk] at hs; cases hs
  · exact absurd hp h2
theorem bs_0 {T D : Nat → Int} {r k : Int} {A : RS} (h : ¬ (d0 D k = 0 ∧ d2 D k = r)) : bs T D r k A = 0 := by
  unfold bs
  rw [if_neg h]
noncomputable def aBrings (m md : Int) (T D : Nat → Int) (t d n r : Int) : Int := by
  classical
  exact if lys m md T D t d n ∧ (0 ≤ r ∧ r < T 1) ∧ lsr T D n 0 r.toNat ≠ -1 then (if 0 ≤ d ∧ d < md then brg T D r (lsr T D n 0 r.toNat) (D 0 - n).toNat n (lsr T D n) 0 else 0) else -1
theorem ci_brought {F : Nat} {j dj : Nat} {n r : Int} {w : AW} {T D : Nat → Int} {A : RS} {P : Int → AW → Prop} (hF : FB F) (hj : isTw j) (hja : apart j) (hdy : isDy dj) (hC : CA w j T) (hT : TK T) (hCD : CD w dj D) (hDk : DK D) (hn : 0 ≤ n ∧ n ≤ D 0) (hr : 0 ≤ r ∧ r < T 1) (hE : RE T (RCl w) A) (hB : RBd T n A) (hp : ∀ w', Fr Scru w w' → P (brg T D r (A 0 r.toNat) (D 0 - n).toNat n A 0) w') : CI (m_X6_broughtFrom F [vR 221, vR j, vR dj, vI n, vI r] w) P := by
  have hD0 := hDk.1
  have a1 := hT.2.1
  have a2 := hT.2.2.1
  have g0 : w.1 222 r.toNat = A 0 r.toNat := hE.1 r.toNat (by omega)
  have bo := hB.1 r.toNat (by omega)
  refine wp_X6_broughtFrom F j hj dj hdy n r w _ ⟨⟨by omega, by omega⟩, fun x hx => ?_⟩
  rw [g0] at hx
  rw [← hx] at hp bo
  refine tt_for (K := k_X6_broughtFrom_15 F) (D 0) (fun i w' l => Fr Scru w w' ∧ n ≤ i ∧ i ≤ D 0 ∧ ∃ B s v, l = [vR 221, vR j, vR dj, vI n, vI r, vI x, vI s, vI i, v] ∧ RE T (RCl w') B ∧ RBd T i B ∧ brg T D r x (D 0 - n).toNat n A 0 = brg T D r x (D 0 - i).toNat i B s) ?_ F n _ w (by omega) ⟨Fr.rf, by omega, by omega, A, 0, vU, rfl, hE, hB, rfl⟩
  rintro m i l w2 ⟨f2, hi0, hi1, B, s, v, rfl, hE2, hB2, hb⟩ hk
  have hCD2 := scru_cd hdy hCD f2
  have o2 : w2.1 222 r.toNat = B 0 r.toNat := hE2.1 r.toNat (by omega)
  have bo2 := hB2.1 r.toNat (by omega)
  rw [ks_X6_broughtFrom_15]
  refine wp_X6_broughtFrom_15 F _ j hj dj hdy n r x s i v w2 _ ?_
  rw [hCD2.1, o2, w_id (x := i) (by omega) (by omega), w_id (x := D 0) (by omega) (by omega), w_id (x := B 0 r.toNat) (by omega) (by omega), w_id (x := x) (by omega) (by omega)]
  refine ⟨fun q => ⟨⟨by omega, by omega⟩, fun q2 => ?_, fun q2 => q_i ?_⟩, fun q => q_i ?_⟩
  · intro x3 hx3
    have hx3' : x3 = B 5 1 := by rw [hx3]; exact hE2.2.2.2.2.1
    have en : (D 0 - i).toNat = (D 0 - (i + 1)).toNat + 1 := by omega
    have hmv := hDk.2 i (by omega) q
    refine ci_step (n := i) hF hj hja hdy (scru_ca hja hC f2) hT hCD2 hDk (by omega) hE2 hB2 (by omega) (fun hs => br0 (q_i ?_)) (fun B' hs w3 f3 hE3 => br1 ⟨⟨by omega, by omega⟩, ?_⟩)
    · have := hp w2 f2
      rw [hb, en, brg_none q2 hs] at this
      exact this
    · have hCD3 := scru_cd hdy hCD2 f3
      obtain ⟨c1, c2⟩ := hCD3.2 i (by omega) q
      have next : ∀ s', s' = s + bs T D r i B → TT (k_X6_broughtFrom_91 F (k_X6_broughtFrom_15 F m) [vR 221, vR j, vR dj, vI n, vI r, vI x, vI s', vI i, vI x3] [] w3) (qq 1 (fun r w => ∃ x, r = some (vI x) ∧ P x w)) := by
        intro s' hs'
        refine wp_X6_broughtFrom_91 F _ j hj dj hdy n r x s' i x3 w3 _ (hk _ _ ⟨f2.tr f3, by omega, by omega, B', s', vI x3, rfl, hE3, sp_b hT hB2 (by omega) hmv hs, ?_⟩ q)
        rw [hb, en, brg_some q2 hs, hs']
      have hmb : iR (d1 D i) ∧ iR (d2 D i) := by
        rcases hmv with ⟨_, _, _⟩ | ⟨_, _, _⟩
        · exact ⟨⟨by omega, by omega⟩, ⟨by omega, by omega⟩⟩
        · exact ⟨⟨by omega, by omega⟩, ⟨by omega, by omega⟩⟩
      rw [c1, c2, w_id hmb.1.1 hmb.1.2, w_id hmb.2.1 hmb.2.2, w_id (x := r) (by omega) (by omega)]
      refine ⟨fun y => next s ?_, fun y => ⟨⟨by omega, by omega⟩, fun y2 x11 hx11 => next x11 ?_, fun y2 => next s ?_⟩⟩
      · rw [bs_0]; · omega
        rcases hmv with ⟨_, _, _⟩ | ⟨_, _, _⟩ <;> omega
      · have e3 : w3.1 221 1 = B' 5 1 := hE3.2.2.2.2.1
        rw [hx11, e3, hx3', sp_paid hmv hs y y2]
      · rw [bs_0 (fun z => y2 z.2)]; omega
  · have := hp w2 f2
    rw [hb, brg_stop _ _ _ _ q2] at this
    exact this
  · have := hp w2 f2
    rw [hb, show (D 0 - i).toNat = 0 from by omega] at this
    exact this
theorem cc_brings {F : Nat} {t d n r : Int} {w : AW} {P : Int → AW → Prop} (hF : FB F) (hI : TwI w) (hJ : DyI w) (ht : iR t) (hd : iR d) (hn : iR n) (hr : iR r) (hp : ∀ w', KQ w w' → P (aBrings (w.1 5 0) (w.1 5 1) (TR w t) (DR w d) t d n r) w') : CI (m_X8_brings F [vR 34, vI t, vI d, vI n, vI r] w) P := by
  have no : ¬ (lys (w.1 5 0) (w.1 5 1) (TR w t) (DR w d) t d n ∧ (0 ≤ r ∧ r < TR w t 1) ∧ lsr (TR w t) (DR w d) n 0 r.toNat ≠ -1) → ∀ w', KQ w w' → P (-1) w' := fun hk w' k' => by
    have := hp w' k'
    unfold aBrings at this
    rw [if_neg hk] at this
    exact this
  have hm1 := hJ.1
  refine wp_X8_brings F t d n r w _ (cr_stateC hF hI hJ ht hd hn (fun hl hT htw hap w1 f1 hC1 hE1 => ⟨fun q => (by cases q), fun j hj => ?_⟩) (fun hl w1 k1 => ⟨fun _ => q_i (no (fun y => hl y.1) w1 k1), fun j hj => (by cases hj)⟩))
  cases hj
  have k1 := scru_KQ f1
  have a1 := hT.2.1
  have a2 := hT.2.2.1
  have hJ1 := hJ.Q k1
  obtain ⟨hB1, hnb⟩ := lsr_b hT (fun y => (hJ.2.2 d y.1 y.2).1) hl
  refine ⟨htw, ci_hasRoad htw hC1 hT hr (fun z => br1 ⟨⟨by omega, by omega⟩, ?_⟩) (fun z => br0 (q_i (no (fun y => z y.2.1) w1 k1)))⟩
  have g0 : w1.1 222 r.toNat = lsr (TR w t) (DR w d) n 0 r.toNat := hE1.1 r.toNat (by omega)
  have bo := hB1.1 r.toNat (by omega)
  rw [g0, w_id (x := lsr (TR w t) (DR w d) n 0 r.toNat) (by omega) (by omega)]
  refine ⟨fun q => q_i (no (fun y => y.2.2 q) w1 k1), fun q => cr_dayAt hJ1 hd (fun zd hdy => ⟨fun y => (by cases y), fun dj hdj => ?_⟩) (fun zd => ⟨fun _ => q_i ?_, fun dj hdj => (by cases hdj)⟩)⟩
  · cases hdj
    obtain ⟨hDk, hCD⟩ := hJ1.2.2 d zd.1 zd.2
    rw [k1.DR] at hDk hCD
    rw [k1.m1] at zd
    have hnD : 0 ≤ n ∧ n ≤ DR w d 0 := by rcases hl.2 with ⟨c1, c2⟩ | ⟨c1, c2, c3⟩ <;> omega
    refine ci_brought hF htw hap hdy hC1 hT hCD hDk hnD z hE1 hB1 (fun w2 f2 => q_i ?_)
    have := hp w2 (k1.tr (scru_KQ f2))
    unfold aBrings at this
    rw [if_pos ⟨hl, z, q⟩, if_pos zd] at this
    exact this
  · have := hp w1 k1
    unfold aBrings at this
    rw [k1.m1] at zd
    rw [if_pos ⟨hl, z, q⟩, if_neg zd] at this
    exact this
theorem cr_brings {F : Nat} {t d n r : Int} {w : AW} {P : Int → AW → Prop} (hF : FB F) (hI : TwI w) (hJ : DyI w) (ht : iR t) (hd : iR d) (hn : iR n) (hr : iR r) (hp : ∀ w', KQ w w' → P (aBrings (w.1 5 0) (w.1 5 1) (TR w t) (DR w d) t d n r) w') : CI (m_X9_brings F [vR 0, vI t, vI d, vI n, vI r] w) P := by
  have no : ¬ (lys (w.1 5 0) (w.1 5 1) (TR w t) (DR w d) t d n ∧ (0 ≤ r ∧ r < TR w t 1) ∧ lsr (TR w t) (DR w d) n 0 r.toNat ≠ -1) → ∀ w', KQ w w' → P (-1) w' := fun hk w' k' => by
    have := hp w' k'
    unfold aBrings at this
    rw [if_neg hk] at this
    exact this
  have hm1 := hJ.1
  refine wp_X9_brings F t d n r w _ (fun w0 e0 => ci_layS hF hI hJ e0 ht hd hn (fun hl hT w1 k1 hH p28 p29 hE1 => br1 ?_) (fun hl w1 k1 => br0 (q_i (no (fun y => hl y.1) w1 k1))))
  have a1 := hT.2.1
  have a2 := hT.2.2.1
  have hJ1 := hJ.Q k1
  obtain ⟨hB1, hnb⟩ := lsr_b hT (fun y => (hJ.2.2 d y.1 y.2).1) hl
  refine ci_isRoad hH hT hr (fun z => br1 ⟨⟨by omega, by omega⟩, ?_⟩) (fun z => br0 (q_i (no (fun y => z y.2.1) w1 k1)))
  have g0 : w1.1 10 r.toNat = lsr (TR w t) (DR w d) n 0 r.toNat := hE1.1 r.toNat (by omega)
  have bo := hB1.1 r.toNat (by omega)
  rw [g0, w_id (x := lsr (TR w t) (DR w d) n 0 r.toNat) (by omega) (by omega)]
  refine ⟨fun q => q_i (no (fun y => y.2.2 q) w1 k1), fun q => ⟨⟨by omega, by omega⟩, fun x hx => ?_⟩⟩
  generalize hA : lsr (TR w t) (DR w d) n = A at *
  have goal : ∀ w', KQ w w' → P (if 0 ≤ d ∧ d < w.1 5 1 then brg (TR w t) (DR w d) r x (DR w d 0 - n).toNat n A 0 else 0) w' := fun w' k' => by
    have := hp w' k'
    unfold aBrings at this
    rw [hA, if_pos ⟨hl, z, q⟩, ← hx] at this
    exact this
  generalize hTT : TR w t = T at *
  rcases hl.2 with ⟨c1, c2⟩ | ⟨c1, c2, c3⟩
  · have hk := goal w1 k1
    rw [if_neg (by omega)] at hk
    obtain ⟨F', rfl⟩ : ∃ F', F = F' + 1 := ⟨F - 1, by omega⟩
    rw [ks_X9_brings_52]
    refine wp_X9_brings_52 _ _ t d n r x 0 n vU vU w1 _ ?_
    rw [w_id hd.1 hd.2]
    exact ⟨fun _ => q_i hk, fun y => absurd c1 y⟩
  · obtain ⟨hDk, _⟩ := hJ.2.2 d c1.1 c1.2
    have hd3 : 0 ≤ d ∧ d < 3 := by omega
    have hDw : ∀ w', KQ w w' → DR w' d = DR w d := fun w' k' => k'.DR d
    generalize hDD : DR w d = D at *
    have hD0 := hDk.1
    refine tt_for (K := k_X9_brings_52 F) (D 0) (fun i w' l => KQ w w' ∧ HA w' T ∧ w'.1 0 28 = -1 ∧ n ≤ i ∧ i ≤ D 0 ∧ ∃ B s v v2, l = [vR 0, vI t, vI d, vI n, vI r, vI x, vI s, vI i, v, v2] ∧ RE T (RG w') B ∧ RBd T i B ∧ B 0 r.toNat = x ∧ brg T D r x (D 0 - n).toNat n A 0 = brg T D r x (D 0 - i).toNat i B s) ?_ F n _ w1 (by omega) ⟨k1, hH, p28, by omega, by omega, A, 0, vU, vU, rfl, hE1, hB1, hx.symm, rfl⟩
    rintro m i l w2 ⟨k2, hH2, q28, hi0, hi1, B, s, v, v2, rfl, hE2, hB2, hBx, hb⟩ hk
    have hD2 : DR w2 d = D := hDw w2 k2
    rw [ks_X9_brings_52]
    refine wp_X9_brings_52 F _ t d n r x s i v v2 w2 _ ?_
    rw [w_id hd.1 hd.2]
    refine ⟨fun y => by omega, fun _ => ci_movesOf hd3 ?_⟩
    rw [hD2, w_id (x := i) (by omega) (by omega), w_id (x := D 0) (by omega) (by omega)]
    refine ⟨fun y => ?_, fun y => q_i ?_⟩
    · have hmv := hDk.2 i (by omega) y
      have hmb : iR (d0 D i) ∧ iR (d1 D i) ∧ iR (d2 D i) := by
        rcases hmv with ⟨_, _, _⟩ | ⟨_, _, _⟩
        · exact ⟨⟨by omega, by omega⟩, ⟨by omega, by omega⟩, ⟨by omega, by omega⟩⟩
        · exact ⟨⟨by omega, by omega⟩, ⟨by omega, by omega⟩, ⟨by omega, by omega⟩⟩
      have en : (D 0 - i).toNat = (D 0 - (i + 1)).toNat + 1 := by omega
      have step : ∀ (l8 py : Int) (l9 : AV), (∀ B', sp T (d0 D i) (d1 D i) (d2 D i) B = some B' → py = bs T D r i B) → TT (k_X9_brings_136 F (k_X9_brings_52 F m) [vR 0, vI t, vI d, vI n, vI r, vI x, vI s, vI i, vI l8, l9] [vI py] w2) (qq 1 (fun r w => ∃ x, r = some (vI x) ∧ P x w)) := by
        intro l8 py l9 hpy
        refine wp_X9_brings_136 F _ t d n r x s i l8 l9 py w2 _ (ci_move0 hd3 (by omega) (ci_move1 hd3 (by omega) (ci_move2 hd3 (by omega) ?_)))
        rw [hD2]
        refine ci_does (n := i) hF hH2 hT q28 hE2 hB2 (by omega) hmv (fun hs => br0 (q_i ?_)) (fun B' hs w3 f3 hE3 => br1 (fun x14 hx14 => ⟨⟨by omega, by omega⟩, ?_⟩))
        · have := goal w2 k2
          rw [if_pos c1, hb, en, brg_none hBx hs] at this
          exact this
        · have hB3 := sp_b hT hB2 (by omega) hmv hs
          have k3 : KQ w w3 := k2.tr (f3.KQ (by intro j k; simp only [Srun]; omega))
          have o3 : w3.1 10 r.toNat = B' 0 r.toNat := hE3.1 r.toNat (by omega)
          have bo3 := hB3.1 r.toNat (by omega)
          rw [o3, w_id (x := B' 0 r.toNat) (by omega) (by omega), w_id (x := x) (by omega) (by omega)]
          rw [hpy B' hs] at hx14
          refine ⟨fun y2 => hk _ _ ⟨k3, hH2.run f3, by rw [f3.I 0 28 (by first | (simp [Srun]; done) | (simp only [Srun]; omega))]; exact q28, by omega, by omega, B', x14, vI l8, vI py, rfl, hE3, hB3, y2, ?_⟩ y, fun y2 => q_i ?_⟩
          · rw [hb, en, brg_some hBx hs, hx14]
          · have := goal w3 k3
            rw [if_pos c1, hb, en, brg_some hBx hs, brg_stop _ _ _ _ y2] at this
            rw [hx14]; exact this
      have zero : ∀ l8 : Int, (l8 = 0 → ¬ (d0 D i = 0 ∧ d2 D i = r)) → (l8 ≠ 0 → l8 = 1 ∧ d0 D i = 0 ∧ d2 D i = r) → TT (k_X9_brings_96 F (k_X9_brings_52 F m) [vR 0, vI t, vI d, vI n, vI r, vI x, vI s, vI i, v, v2] [vI l8] w2) (qq 1 (fun r w => ∃ x, r = some (vI x) ∧ P x w)) := by
        intro l8 hl0 hl1
        refine wp_X9_brings_96 F _ t d n r x s i v v2 l8 w2 _ ?_
        by_cases y0 : l8 = 0
        · rw [y0]
          exact br0 (wp_X9_brings_135 F _ t d n r x s i 0 v2 w2 _ (step 0 0 v2 (fun B' _ => by rw [bs_0 (hl0 y0)])))
        · obtain ⟨y1, y2, y3⟩ := hl1 y0
          rw [y1]
          refine br1 (ci_move1 hd3 (by omega) ?_)
          rw [hD2]
          refine ci_isPerson hH2 hT hmb.2.1 (fun z5 => br1 (ci_move1 hd3 (by omega) ?_)) (fun z5 => br0 (wp_X9_brings_135 F _ t d n r x s i 1 v2 w2 _ (step 1 0 v2 (fun B' hs => ?_))))
          · rw [hD2]
            have hO : OK T (w2.1 10) := fun r h0 h1 => by
              have := hB2.1 r.toNat (by omega)
              have : w2.1 10 r.toNat = B 0 r.toNat := hE2.1 r.toNat (by omega)
              omega
            refine ci_pays hH2 hT hO q28 (by omega) hmb.2.1 z.1 z.2 (step 1 _ v2 (fun B' hs => ?_))
            unfold bs
            rw [if_pos ⟨y2, y3⟩]
            have : w2.1 10 r.toNat = B 0 r.toNat := hE2.1 r.toNat (by omega)
            unfold pys
            rw [this]
          · exfalso
            rw [y2, sp_n (fun y => z5 y.1)] at hs
            cases hs
      refine ci_move0 hd3 (by omega) ?_
      rw [hD2, w_id hmb.1.1 hmb.1.2]
      refine ⟨fun y1 => ci_move2 hd3 (by omega) ?_, fun y1 => wp_X9_brings_95 F _ t d n r x s i v v2 w2 _ (zero 0 (fun _ y2 => y1 y2.1) (fun y2 => absurd rfl y2))⟩
      rw [hD2, w_id hmb.2.2.1 hmb.2.2.2, w_id hr.1 hr.2]
      exact ⟨fun y2 => zero 1 (fun y3 => by omega) (fun _ => ⟨rfl, y1, y2⟩), fun y2 => wp_X9_brings_95 F _ t d n r x s i v v2 w2 _ (zero 0 (fun _ y3 => y2 y3.2) (fun y3 => absurd rfl y3))⟩
    · have := goal w2 k2
      rw [if_pos c1, hb, show (D 0 - i).toNat = 0 from by omega] at this
      exact this
