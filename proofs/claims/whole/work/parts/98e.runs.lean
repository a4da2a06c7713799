/-! RUNS, the class -/
def RCl (w : AW) : RS := fun f k => match f with
  | 0 => w.1 222 k
  | 1 => w.1 223 k
  | 2 => w.1 224 k
  | 3 => w.1 225 k
  | 4 => w.1 226 k
  | _ => w.1 221 k
abbrev Scru (j k : Nat) : Prop := 221 ≤ j ∧ j ≤ 226
theorem scru_ca {w w' : AW} {j : Nat} {T : Nat → Int} (hja : apart j) (hC : CA w j T) (f : Fr Scru w w') : CA w' j T := hC.fr f (by intro a k h1 h2; simp only [Scru]; unfold apart at hja; omega)
theorem ci_farC {F : Nat} {j : Nat} {T : Nat → Int} {r s : Int} {w : AW} {P : Int → AW → Prop} (hj : isTw j) (hC : CA w j T) (hT : TK T) (h0 : 0 ≤ r) (h1 : r < T 1) (hs : iR s) (hy : rA T r = s ∨ rB T r = s → P (rA T r + rB T r - s) w) (hn : ¬ (rA T r = s ∨ rB T r = s) → P (-1) w) : CI (m_X7_farEnd F [vR j, vI r, vI s] w) P := by
  have a0 := hT.1
  have a1 := hT.2.1
  have hr := hT.road h0 h1
  have hc := hC.road h0 h1
  refine wp_X7_farEnd F j hj r s w _ ?_
  rw [hc.1, hc.2.1, w_id hs.1 hs.2, w_id (x := rA T r) (by omega) (by omega), w_id (x := rB T r) (by omega) (by omega)]
  refine ⟨⟨h0, by omega⟩, fun q => ⟨⟨h0, by omega⟩, q_i ?_⟩, fun q => ⟨⟨h0, by omega⟩, fun q2 => ⟨⟨h0, by omega⟩, q_i ?_⟩, fun q2 => q_i (hn (by omega))⟩⟩
  · have := hy (Or.inl q)
    rw [show rA T r + rB T r - s = rB T r from by omega] at this
    exact this
  · have := hy (Or.inr q2)
    rw [show rA T r + rB T r - s = rA T r from by omega] at this
    exact this
theorem ci_iwba {F : Nat} {j : Nat} {n p mu : Int} {w : AW} {T : Nat → Int} {A : RS} {P : Int → AW → Prop} (hF : FB F) (hj : isTw j) (hC : CA w j T) (hT : TK T) (hE : RE T (RCl w) A) (hB : RBd T n A) (hn : 0 ≤ n ∧ n ≤ 1000) (hp : 0 ≤ p ∧ p < T 2) (hmu : 0 ≤ mu ∧ mu < T 1) (h1 : wth T p mu A → P 1 w) (h0 : ¬ wth T p mu A → P 0 w) : CI (m_X6_isWalkedByAnother F [vR 221, vR j, vI mu, vI p] w) P := by
  have a1 := hT.2.1
  have a2 := hT.2.2.1
  have b3 := hB.2.2.1
  refine wp_X6_isWalkedByAnother F j hj mu p w _ ?_
  refine tt_for (K := k_X6_isWalkedByAnother_3 F) (T 2) (fun i w' l => w' = w ∧ l = [vR 221, vR j, vI mu, vI p, vI i] ∧ 0 ≤ i ∧ i ≤ T 2 ∧ ∀ q : Nat, (q : Int) < i → ¬ ((q : Int) ≠ p ∧ A 3 q = mu ∧ A 5 0 < A 2 q)) ?_ F 0 _ w (by omega) ⟨rfl, rfl, by omega, by omega, fun q hq => by omega⟩
  rintro m i l w3 ⟨rfl, rfl, hi0, hi1, hc⟩ hk
  have c8 : w3.1 j 8 = T 2 := hC.2.2.1
  rw [ks_X6_isWalkedByAnother_3]
  refine wp_X6_isWalkedByAnother_3 F _ j hj mu p i w3 _ ?_
  rw [c8, w_id (x := i) (by omega) (by omega), w_id (x := T 2) (by omega) (by omega), w_id (x := p) (by omega) (by omega), w_id (x := mu) (by omega) (by omega)]
  refine ⟨fun q => ?_, fun q => q_z0 (h0 (fun ⟨x, y1, y2⟩ => hc x (by omega) y2))⟩
  have no : ¬ (i ≠ p ∧ A 3 i.toNat = mu ∧ A 5 0 < A 2 i.toNat) → TT (k_X6_isWalkedByAnother_45 F (k_X6_isWalkedByAnother_3 F m) [vR 221, vR j, vI mu, vI p, vI i] [] w3) (qq 2 (fun r w => ∃ x, r = some (vI x) ∧ P x w)) := by
    intro hno
    refine wp_X6_isWalkedByAnother_45 F _ j hj mu p i w3 _ (hk _ _ ⟨rfl, rfl, by omega, by omega, fun x hx hy => ?_⟩ q)
    by_cases z : (x : Int) = i
    · apply hno
      rw [← z, Int.toNat_natCast]
      exact hy
    · exact hc x (by omega) hy
  have f14 : w3.1 225 i.toNat = A 3 i.toNat := (hE.2.1 i.toNat (by omega)).2.2
  have f13 : w3.1 224 i.toNat = A 2 i.toNat := (hE.2.1 i.toNat (by omega)).2.1
  have c33 : w3.1 221 0 = A 5 0 := hE.2.2.2.1
  have := hB.2.1 i.toNat (by omega)
  rw [f14, f13, c33, w_id (x := A 3 i.toNat) (by omega) (by omega), w_id (x := A 2 i.toNat) (by omega) (by omega), w_id (x := A 5 0) (by omega) (by omega)]
  exact ⟨fun z => no (fun y => y.1 z), fun z => ⟨⟨by omega, by omega⟩, fun z2 => ⟨⟨by omega, by omega⟩, fun z3 => q_z1 (h1 ⟨i.toNat, by omega, by omega, z2, z3⟩), fun z3 => no (fun y => z3 y.2.2)⟩, fun z2 => no (fun y => z2 y.2.1)⟩⟩
theorem cv_payFor {F : Nat} {j : Nat} {p mu : Int} {w : AW} {T : Nat → Int} {A : RS} {P : AW → Prop} (hj : isTw j) (hja : apart j) (hC : CA w j T) (hT : TK T) (hp : 0 ≤ p ∧ p < T 2) (hmu : 0 ≤ mu ∧ mu < T 1) (ho : w.1 222 mu.toNat = A 0 mu.toNat) (hob : -1 ≤ A 0 mu.toNat ∧ A 0 mu.toNat < T 2) (i4 : ∀ k, k < 64 → w.1 226 k = A 4 k) (i51 : w.1 221 1 = A 5 1) (h1 : ∀ w', Fr (fun a k => a = 226 ∨ (a = 221 ∧ k = 1)) w w' → (∀ k, k < 64 → w'.1 226 k = aft T p mu A 4 k) → w'.1 221 1 = aft T p mu A 5 1 → P w') : CV (m_X6_payFor F [vR 221, vR j, vI mu, vI p] w) P := by
  have a1 := hT.2.1
  have a2 := hT.2.2.1
  refine wp_X6_payFor F j hj mu p w _ ⟨⟨by omega, by omega⟩, fun x hx => ?_⟩
  rw [ho] at hx
  subst hx
  rw [w_id (x := A 0 mu.toNat) (by omega) (by omega), w_id (x := p) (by omega) (by omega)]
  have zero : ¬ (A 0 mu.toNat ≠ -1 ∧ A 0 mu.toNat ≠ p) → P w := by
    intro hz
    have z0 : pys T (-1) (A 0) p mu = 0 := by unfold pys; rw [if_neg hz]
    refine h1 w Fr.rf (fun k hk => ?_) ?_
    · show _ = if k = (8 * p + A 0 mu.toNat).toNat then A 4 k + pys T (-1) (A 0) p mu else A 4 k
      rw [z0, i4 k hk]
      split <;> omega
    · show _ = A 5 1 + pys T (-1) (A 0) p mu
      rw [z0, i51]; omega
  refine ⟨fun q => q_v (zero (by omega)), fun q => ⟨fun q2 => q_v (zero (by omega)), fun q2 => ⟨⟨by omega, by omega⟩, ⟨by omega, by omega⟩, ⟨by omega, by omega⟩, fun w2 e2 => ⟨⟨by omega, by omega⟩, fun w3 e3 => q_v (h1 w3 ?_ (fun k hk => ?_) ?_)⟩⟩⟩⟩
  · rw [e3, e2]; exact (Fr.rf.wI _ (by omega)).wI _ (by omega)
  · have z0 : pys T (-1) (A 0) p mu = rP T mu := by unfold pys pny; rw [if_pos ⟨q, q2⟩, if_neg (by omega)]
    have hp4 : w.1 (j + 4) mu.toNat = rP T mu := (hC.road hmu.1 hmu.2).2.2.2.1
    rw [e3, wI_cell _ _ _ _ (by decide), e2, wI_at]
    show _ = if k = (8 * p + A 0 mu.toNat).toNat then A 4 k + pys T (-1) (A 0) p mu else A 4 k
    by_cases z : k = (8 * p + A 0 mu.toNat).toNat
    · rw [if_pos ⟨rfl, by omega⟩, if_pos z, z0, hp4, show (p * 8 + A 0 mu.toNat).toNat = k from by omega, i4 k hk]
    · rw [if_neg (fun y => z (by omega)), if_neg z, i4 k hk]
  · have z0 : pys T (-1) (A 0) p mu = rP T mu := by unfold pys pny; rw [if_pos ⟨q, q2⟩, if_neg (by omega)]
    have hp4 : w.1 (j + 4) mu.toNat = rP T mu := (hC.road hmu.1 hmu.2).2.2.2.1
    unfold apart at hja
    show _ = A 5 1 + pys T (-1) (A 0) p mu
    rw [e3, wI_same, e2, wI_cell _ _ _ _ (by decide), wI_cell _ _ _ _ (by omega), i51, z0, hp4]
theorem ci_step {F : Nat} {j dj : Nat} {n i : Int} {w : AW} {T D : Nat → Int} {A : RS} {P : Int → AW → Prop} (hF : FB F) (hj : isTw j) (hja : apart j) (hdy : isDy dj) (hC : CA w j T) (hT : TK T) (hCD : CD w dj D) (hDk : DK D) (hi : 0 ≤ i ∧ i < D 0) (hE : RE T (RCl w) A) (hB : RBd T n A) (hn : 0 ≤ n ∧ n ≤ 1000) (h0 : sp T (d0 D i) (d1 D i) (d2 D i) A = none → P 0 w) (h1 : ∀ A', sp T (d0 D i) (d1 D i) (d2 D i) A = some A' → ∀ w', Fr Scru w w' → RE T (RCl w') A' → P 1 w') : CI (m_X6_step F [vR 221, vR j, vR dj, vI i] w) P := by
  have a0 := hT.1
  have a1 := hT.2.1
  have a2 := hT.2.2.1
  have hD0 := hDk.1
  have hm := hDk.2 i hi.1 hi.2
  obtain ⟨cd1, cd2⟩ := hCD.2 i hi.1 hi.2
  refine wp_X6_step F j hj dj hdy i w _ ⟨⟨by omega, by omega⟩, fun x1 hx1 => ?_⟩
  rw [cd1] at hx1
  subst hx1
  generalize hP0 : d0 D i = wh at *
  generalize hP1 : d1 D i = p at *
  generalize hP2 : d2 D i = mu at *
  rw [w_id (x := p) (by rcases hm with ⟨_, _, _⟩ | ⟨_, _, _⟩ <;> omega) (by rcases hm with ⟨_, _, _⟩ | ⟨_, _, _⟩ <;> omega)]
  rcases hm with ⟨rfl, hp, hmu⟩ | ⟨rfl, hp, hmu⟩
  · refine ⟨fun q => by omega, fun _ => ⟨⟨by omega, by omega⟩, fun x6 hx6 => ?_⟩⟩
    rw [cd2] at hx6
    subst hx6
    have no : ¬ okm T p x6 A → P 0 w := fun h => h0 (sp_n h)
    refine ci_hasPerson hj hC hT ⟨by omega, by omega⟩ (fun z1 => br1 (ci_hasRoad hj hC hT ⟨by omega, by omega⟩ (fun z2 => br1 ⟨⟨by omega, by omega⟩, ?_⟩) (fun z2 => br0 (q_z0 (no (fun y => z2 y.2.1)))))) (fun z1 => br0 (q_z0 (no (fun y => z1 y.1))))
    obtain ⟨e0, e1, e4, e50, e51, e52⟩ := id hE
    have g1 : w.1 223 p.toNat = A 1 p.toNat := (e1 p.toNat (by omega)).1
    have g2 : w.1 224 p.toNat = A 2 p.toNat := (e1 p.toNat (by omega)).2.1
    have g0 : w.1 222 x6.toNat = A 0 x6.toNat := e0 x6.toNat (by omega)
    have g5 : w.1 221 0 = A 5 0 := e50
    have bb := hB.2.1 p.toNat (by omega)
    have b3 := hB.2.2.1
    have bo := hB.1 x6.toNat (by omega)
    have hr := hT.road z2.1 z2.2
    rw [g1]
    refine ci_farC hj hC hT z2.1 z2.2 ⟨by omega, by omega⟩ (fun z3 => ?_) (fun z3 => ⟨fun _ => q_z0 (no (fun y => z3 y.2.2.1)), fun q => absurd (by decide) q⟩)
    rw [g2, g5, w_id (x := rA T x6 + rB T x6 - A 1 p.toNat) (by omega) (by omega), w_id (x := A 2 p.toNat) (by omega) (by omega), w_id (x := A 5 0) (by omega) (by omega)]
    refine ⟨fun q => by omega, fun _ => ⟨⟨by omega, by omega⟩, fun q => q_z0 (no (fun y => by have := y.2.2.2; omega)), fun q => ?_⟩⟩
    have hk : okm T p x6 A := ⟨z1, z2, z3, by omega⟩
    have rest : ∀ w2, Fr (fun a k => a = 221 ∧ k = 2) w w2 → w2.1 221 2 = A 5 2 + (ind (wth T p x6 A) : Int) → TT (k_X6_step_118 F [vR 221, vR j, vR dj, vI i, vI p, vI x6, vI (rA T x6 + rB T x6 - A 1 p.toNat)] [] w2) (qq 2 (fun r w => ∃ x, r = some (vI x) ∧ P x w)) := by
      intro w2 f2 h22
      have hC2 : CA w2 j T := scru_ca hja hC (f2.wk (by intro a k; simp only [Scru]; omega))
      refine wp_X6_step_118 F j hj dj hdy i p x6 _ w2 _ (cv_payFor (A := A) hj hja hC2 hT z1 z2 (by rw [f2.I 222 _ (by omega)]; exact g0) bo (fun k hk => by rw [f2.I 226 _ (by omega)]; exact e4 k hk) (by rw [f2.I 221 1 (by omega)]; exact e51) (fun w3 f3 p4 p51 => ⟨⟨by omega, by omega⟩, ?_⟩))
      have hC3 : CA w3 j T := scru_ca hja hC2 (f3.wk (by intro a k; simp only [Scru]; omega))
      have t222 : ∀ k, w3.1 222 k = w.1 222 k := fun k => by rw [f3.I 222 k (by omega), f2.I 222 k (by omega)]
      have t223 : ∀ k, w3.1 223 k = w.1 223 k := fun k => by rw [f3.I 223 k (by omega), f2.I 223 k (by omega)]
      have t224 : ∀ k, w3.1 224 k = w.1 224 k := fun k => by rw [f3.I 224 k (by omega), f2.I 224 k (by omega)]
      have t225 : ∀ k, w3.1 225 k = w.1 225 k := fun k => by rw [f3.I 225 k (by omega), f2.I 225 k (by omega)]
      have t0 : w3.1 221 0 = A 5 0 := by rw [f3.I 221 0 (by omega), f2.I 221 0 (by omega)]; exact g5
      have t2 : w3.1 221 2 = A 5 2 + (ind (wth T p x6 A) : Int) := by rw [f3.I 221 2 (by omega)]; exact h22
      have hO : OK T (A 0) := fun r h0 h1 => hB.1 r.toNat (by omega)
      rw [t222, g0, t0]
      refine ci_ownerBehind (O := A 0) hj hC3 hT hO hB.2.2.2 z1.1 z1.2 z2.1 z2.2 ⟨by omega, by omega⟩ ⟨⟨by omega, by omega⟩, fun w4 e4' => ⟨⟨by omega, by omega⟩, fun w5 e5' => ⟨⟨by omega, by omega⟩, ⟨by omega, by omega⟩, fun w6 e6 => ⟨⟨by omega, by omega⟩, fun w7 e7 => q_z1 (h1 _ (sp_y hk) w7 ?_ ?_)⟩⟩⟩⟩
      · have f : Fr Scru w w3 := (f2.wk (by intro a k; simp only [Scru]; omega)).tr (f3.wk (by intro a k; simp only [Scru]; omega))
        rw [e7, e6, e5', e4']
        exact (((f.wI _ (by first | (simp [Scru]; done) | (simp only [Scru]; omega))).wI _ (by first | (simp [Scru]; done) | (simp only [Scru]; omega))).wI _ (by first | (simp [Scru]; done) | (simp only [Scru]; omega))).wI _ (by first | (simp [Scru]; done) | (simp only [Scru]; omega))
      · have hm3 : w5.1 (j + 3) x6.toNat = rM T x6 := by
          unfold apart at hja
          rw [e5', wI_cell _ _ _ _ (by omega), e4', wI_cell _ _ _ _ (by omega)]
          exact (hC3.road z2.1 z2.2).2.2.1
        refine ⟨fun r hr2 => ?_, fun q hq => ⟨?_, ?_, ?_⟩, fun k hk => ?_, ?_, ?_, ?_⟩
        · show w7.1 222 r = if r = x6.toNat then obh T (-1) (A 0) p x6 (A 5 0) else A 0 r
          rw [e7, wI_cell _ _ _ _ (by decide), e6, wI_cell _ _ _ _ (by decide), e5', wI_cell _ _ _ _ (by decide), e4', wI_at]
          by_cases z : r = x6.toNat
          · rw [if_pos ⟨rfl, z⟩, if_pos z]
          · rw [if_neg (fun y => z y.2), if_neg z, t222]; exact e0 r hr2
        · show w7.1 223 q = if q = p.toNat then rA T x6 + rB T x6 - A 1 q else A 1 q
          rw [e7, wI_cell _ _ _ _ (by decide), e6, wI_cell _ _ _ _ (by decide), e5', wI_at]
          by_cases z : q = p.toNat
          · rw [if_pos ⟨rfl, z⟩, if_pos z, z]
          · rw [if_neg (fun y => z y.2), if_neg z, e4', wI_cell _ _ _ _ (by decide), t223]; exact (e1 q hq).1
        · show w7.1 224 q = if q = p.toNat then A 5 0 + rM T x6 else A 2 q
          rw [e7, wI_cell _ _ _ _ (by decide), e6, wI_at]
          by_cases z : q = p.toNat
          · rw [if_pos ⟨rfl, z⟩, if_pos z, hm3, e5', wI_cell _ _ _ _ (by decide), e4', wI_cell _ _ _ _ (by decide), t0]
          · rw [if_neg (fun y => z y.2), if_neg z, e5', wI_cell _ _ _ _ (by decide), e4', wI_cell _ _ _ _ (by decide), t224]; exact (e1 q hq).2.1
        · show w7.1 225 q = if q = p.toNat then x6 else A 3 q
          rw [e7, wI_at]
          by_cases z : q = p.toNat
          · rw [if_pos ⟨rfl, z⟩, if_pos z]
          · rw [if_neg (fun y => z y.2), if_neg z, e6, wI_cell _ _ _ _ (by decide), e5', wI_cell _ _ _ _ (by decide), e4', wI_cell _ _ _ _ (by decide), t225]; exact (e1 q hq).2.2
        · show w7.1 226 k = _
          rw [e7, wI_cell _ _ _ _ (by decide), e6, wI_cell _ _ _ _ (by decide), e5', wI_cell _ _ _ _ (by decide), e4', wI_cell _ _ _ _ (by decide)]
          exact p4 k hk
        · show w7.1 221 0 = A 5 0
          rw [e7, wI_cell _ _ _ _ (by decide), e6, wI_cell _ _ _ _ (by decide), e5', wI_cell _ _ _ _ (by decide), e4', wI_cell _ _ _ _ (by decide)]
          exact t0
        · show w7.1 221 1 = _
          rw [e7, wI_cell _ _ _ _ (by decide), e6, wI_cell _ _ _ _ (by decide), e5', wI_cell _ _ _ _ (by decide), e4', wI_cell _ _ _ _ (by decide)]
          exact p51
        · show w7.1 221 2 = A 5 2 + (ind (wth T p x6 A) : Int)
          rw [e7, wI_cell _ _ _ _ (by decide), e6, wI_cell _ _ _ _ (by decide), e5', wI_cell _ _ _ _ (by decide), e4', wI_cell _ _ _ _ (by decide)]
          exact t2
    have g52 : w.1 221 2 = A 5 2 := e52
    refine ci_iwba hF hj hC hT hE hB hn z1 z2 (fun c => br1 (fun w2 e2 => rest w2 ?_ ?_)) (fun c => br0 (rest w Fr.rf ?_))
    · rw [e2]; exact Fr.rf.wI _ (by omega)
    · rw [e2, wI_same, ind_pos c, g52]; rfl
    · rw [ind_neg c, g52]; show A 5 2 = A 5 2 + 0; omega
  · refine ⟨fun q => ⟨⟨by omega, by omega⟩, fun w2 e2 => q_z1 (h1 _ sp_w w2 ?_ ?_)⟩, fun q => by omega⟩
    · rw [e2]; exact Fr.rf.wI _ (by first | (simp [Scru]; done) | (simp only [Scru]; omega))
    · obtain ⟨e0, e1, e4, e50, e51, e52⟩ := hE
      have c : ∀ a b, a ≠ 221 → w2.1 a b = w.1 a b := fun a b h => by rw [e2, wI_cell _ _ _ _ h]
      refine ⟨fun r hr => ?_, fun q hq => ⟨?_, ?_, ?_⟩, fun k hk => ?_, ?_, ?_, ?_⟩
      · exact (c 222 r (by decide)).trans (e0 r hr)
      · exact (c 223 q (by decide)).trans (e1 q hq).1
      · exact (c 224 q (by decide)).trans (e1 q hq).2.1
      · exact (c 225 q (by decide)).trans (e1 q hq).2.2
      · exact (c 226 k (by decide)).trans (e4 k hk)
      · show w2.1 221 0 = A 5 0 + mu
        rw [e2, wI_same, cd2]
        have : w.1 221 0 = A 5 0 := e50
        rw [this]
      · show w2.1 221 1 = A 5 1
        rw [e2, wI_idx _ _ _ _ (by decide)]
        exact e51
      · show w2.1 221 2 = A 5 2
        rw [e2, wI_idx _ _ _ _ (by decide)]
        exact e52
theorem cv_beginR {F : Nat} {j : Nat} {w : AW} {T : Nat → Int} {P : AW → Prop} (hF : FB F) (hj : isTw j) (hja : apart j) (hC : CA w j T) (hT : TK T) (hp : ∀ w', Fr Scru w w' → RE T (RCl w') (r0 T) → P w') : CV (m_X6_begin F [vR 221, vR j] w) P := by
  have a2 := hT.2.2.1
  refine wp_X6_begin F j hj w _ (fun w1 e1 w2 e2 w3 e3 => ?_)
  have f3 : Fr Scru w w3 := by
    rw [e3, e2, e1]
    exact ((Fr.rf.wI _ (by first | (simp [Scru]; done) | (simp only [Scru]; omega))).wI _ (by first | (simp [Scru]; done) | (simp only [Scru]; omega))).wI _ (by first | (simp [Scru]; done) | (simp only [Scru]; omega))
  have z0 : w3.1 221 0 = 0 := by rw [e3, wI_idx _ _ _ _ (by decide), e2, wI_idx _ _ _ _ (by decide), e1, wI_same]
  have z1 : w3.1 221 1 = 0 := by rw [e3, wI_idx _ _ _ _ (by decide), e2, wI_same]
  have z2 : w3.1 221 2 = 0 := by rw [e3, wI_same]
  have hC3 := scru_ca hja hC f3
  refine cv_firstOwners hF hj hja ⟨rfl, rfl⟩ (Or.inl rfl) hC3 hT (fun w4 f4 ho w5 e5 => ?_)
  have f4' : Fr Scru w w4 := f3.tr (f4.wk (by intro a k; simp only [Scru]; omega))
  have hC4 := scru_ca hja hC f4'
  have f5 : Fr Scru w w5 := by rw [e5]; exact f4'.wC (by intro k _ _; simp only [Scru]; omega)
  have f54 : Fr (fun a _ => a = 223) w4 w5 := by rw [e5]; exact Fr.rf.wC (by intro k _ _; rfl)
  have h223 : ∀ p : Nat, (p : Int) < T 2 → w5.1 223 p = pH T p := fun p hp => by
    rw [e5, wC_at, if_pos ⟨rfl, by omega, by omega⟩, Nat.sub_zero, Nat.zero_add]
    have := (hC4.pers (p := p) (by omega) hp).1
    rw [Int.toNat_natCast] at this
    exact this
  refine cv_fill (n := 8) hF ⟨rfl, rfl⟩ (by omega) (fun w6 f6 h6 => cv_fill (n := 8) hF ⟨rfl, rfl⟩ (by omega) (fun w7 f7 h7 => cv_fill (n := 64) hF ⟨rfl, rfl⟩ (by omega) (fun w8 f8 h8 => q_v (hp w8 ?_ ?_))))
  · exact ((f5.tr (f6.wk (by intro a k; simp only [Scru]; omega))).tr (f7.wk (by intro a k; simp only [Scru]; omega))).tr (f8.wk (by intro a k; simp only [Scru]; omega))
  · have c : ∀ a k, a ≤ 223 → w8.1 a k = w5.1 a k := fun a k h => by rw [f8.I a k (by omega), f7.I a k (by omega), f6.I a k (by omega)]
    have c3 : ∀ k, w5.1 221 k = w3.1 221 k := fun k => by rw [f54.I 221 k (by omega), f4.I 221 k (by omega)]
    refine ⟨fun r hr => ?_, fun q hq => ⟨?_, ?_, ?_⟩, fun k hk => h8 k (by omega), ?_, ?_, ?_⟩
    · show w8.1 222 r = own0 T (-1) r
      rw [c 222 r (by omega), f54.I 222 r (by omega)]
      have := ho r (by omega) hr
      rw [Int.toNat_natCast] at this
      exact this
    · show w8.1 223 q = pH T q
      rw [c 223 q (by omega)]; exact h223 q hq
    · show w8.1 224 q = 0
      rw [f8.I 224 q (by omega), f7.I 224 q (by omega)]; exact h6 q (by omega)
    · show w8.1 225 q = -1
      rw [f8.I 225 q (by omega)]; exact h7 q (by omega)
    · show w8.1 221 0 = 0
      rw [c 221 0 (by omega), c3]; exact z0
    · show w8.1 221 1 = 0
      rw [c 221 1 (by omega), c3]; exact z1
    · show w8.1 221 2 = 0
      rw [c 221 2 (by omega), c3]; exact z2
theorem dy_lt {j : Nat} (h : isDy j) : j + 2 < 221 := by
  unfold isDy at h
  simp only [List.mem_cons, List.not_mem_nil, or_false] at h
  omega
theorem scru_cd {w w' : AW} {j : Nat} {D : Nat → Int} (hdy : isDy j) (hC : CD w j D) (f : Fr Scru w w') : CD w' j D := by
  have := dy_lt hdy
  refine ⟨by rw [f.I j 0 (by first | (simp [Scru]; done) | (simp only [Scru]; omega))]; exact hC.1, fun k h0 h1 => ?_⟩
  rw [f.I (j + 1) _ (by first | (simp [Scru]; done) | (simp only [Scru]; omega)), f.I (j + 2) _ (by first | (simp [Scru]; done) | (simp only [Scru]; omega))]
  exact hC.2 k h0 h1
theorem ci_play {F : Nat} {j dj : Nat} {n : Int} {w : AW} {T D : Nat → Int} {P : Int → AW → Prop} (hF : FB F) (hj : isTw j) (hja : apart j) (hdy : isDy dj) (hC : CA w j T) (hT : TK T) (hCD : CD w dj D) (hDk : DK D) (hn : 0 ≤ n ∧ n ≤ D 0) (hp : ∀ w', Fr Scru w w' → RE T (RCl w') (rn T D n.toNat 0 (r0 T)).2 → P (rn T D n.toNat 0 (r0 T)).1 w') : CI (m_X6_play F [vR 221, vR j, vR dj, vI n] w) P := by
  have hD0 := hDk.1
  refine wp_X6_play F j hj dj hdy n w _ (cv_beginR hF hj hja hC hT (fun w1 f1 hE1 x hx => ?_))
  have hCD1 := scru_cd hdy hCD f1
  rw [hCD1.1, w_id (x := D 0) (by omega) (by omega), w_id (x := n) (by omega) (by omega), if_neg (by omega)] at hx
  subst hx
  refine tt_for (K := k_X6_play_18 F) x (fun i w' l => Fr Scru w w' ∧ l = [vR 221, vR j, vR dj, vI x, vI x, vI i] ∧ 0 ≤ i ∧ i ≤ x ∧ ∃ A, RE T (RCl w') A ∧ RBd T i A ∧ rn T D x.toNat 0 (r0 T) = rn T D (x - i).toNat i A) ?_ F 0 _ w1 (by omega) ⟨f1, rfl, by omega, by omega, r0 T, hE1, r0_b hT, by rw [Int.sub_zero]⟩
  rintro m i l w2 ⟨f2, rfl, hi0, hi1, A, hE2, hB2, hr⟩ hk
  rw [ks_X6_play_18]
  refine wp_X6_play_18 F _ j hj dj hdy x x i w2 _ ?_
  rw [w_id (x := i) (by omega) (by omega), w_id (x := x) (by omega) (by omega)]
  refine ⟨fun q => ?_, fun q => q_i ?_⟩
  · have en : (x - i).toNat = (x - (i + 1)).toNat + 1 := by omega
    refine ci_step (n := i) hF hj hja hdy (scru_ca hja hC f2) hT (scru_cd hdy hCD f2) hDk (by omega) hE2 hB2 (by omega) (fun hs => br0 (q_i ?_)) (fun A' hs w3 f3 hE3 => br1 (hk _ _ ⟨f2.tr f3, rfl, by omega, by omega, A', hE3, sp_b hT hB2 hi0 (hDk.2 i hi0 (by omega)) hs, ?_⟩ q))
    · have := hp w2 f2
      rw [hr, en, rn_none hs] at this
      exact this hE2
    · rw [hr, en, rn_some hs]
  · have := hp w2 f2
    rw [hr, show (x - i).toNat = 0 from by omega] at this
    rw [show x = i from by omega]
    exact this hE2
theorem cr_dayAt {F : Nat} {d : Int} {w : AW} {P : Option Nat → AW → Prop} (hJ : DyI w) (hd : iR d) (h1 : 0 ≤ d ∧ d < w.1 5 1 → isDy (67 + 3 * d.toNat) → P (some (67 + 3 * d.toNat)) w) (h0 : ¬ (0 ≤ d ∧ d < w.1 5 1) → P none w) : CR (m_X0_dayAt F [vR 35, vI d] w) P := by
  have hb : isBk 35 := by simp [isBk]
  have hm := hJ.1
  refine wp_X0_dayAt F 35 hb d w _ ?_
  rw [hJ.2.1, w_id hd.1 hd.2, w_id (x := w.1 5 1) (by omega) (by omega)]
  refine ⟨fun q => q_r (h0 (by omega)), fun q => ⟨fun q2 => ⟨⟨by omega, by omega⟩, q_r ?_⟩, fun q2 => q_r (h0 (by omega))⟩⟩
  have : d.toNat = 0 ∨ d.toNat = 1 ∨ d.toNat = 2 := by omega
  have e : cref (35 + 31) d.toNat = 67 + 3 * d.toNat := by rcases this with e | e | e <;> rw [e] <;> decide
  rw [e]
  exact h1 ⟨by omega, q2⟩ (by rcases this with e | e | e <;> rw [e] <;> simp [isDy])
theorem scru_KQ {w w' : AW} (h : Fr Scru w w') : KQ w w' := h.KQ (by intro j k; simp only [Scru]; omega)
theorem cr_stateC {F : Nat} {t d n : Int} {w : AW} {P : Option Nat → AW → Prop} (hF : FB F) (hI : TwI w) (hJ : DyI w) (ht : iR t) (hd : iR d) (hnr : iR n) (h1 : lys (w.1 5 0) (w.1 5 1) (TR w t) (DR w d) t d n → TK (TR w t) → isTw (38 + 14 * t.toNat) → apart (38 + 14 * t.toNat) → ∀ w', Fr Scru w w' → CA w' (38 + 14 * t.toNat) (TR w t) → RE (TR w t) (RCl w') (lsr (TR w t) (DR w d) n) → P (some (38 + 14 * t.toNat)) w') (h0 : ¬ lys (w.1 5 0) (w.1 5 1) (TR w t) (DR w d) t d n → ∀ w', KQ w w' → P none w') : CR (m_X8_townOfState F [vR 34, vI t, vI d, vI n] w) P := by
  have hm := hI.1
  have hm1 := hJ.1
  refine wp_X8_townOfState F t d n w _ (cr_townAt hI ht (fun z => ⟨fun q => (by cases q), fun j hj => ?_⟩) (fun z => ⟨fun _ => q_r (h0 (fun y => z y.1) w KQ.rf), fun j hj => (by cases hj)⟩))
  cases hj
  obtain ⟨hT, hC⟩ := hI.2.2 t z.1 z.2
  obtain ⟨htw, hap⟩ := tw_cell (t := t) ⟨z.1, by omega⟩
  rw [w_id hnr.1 hnr.2, w_id hd.1 hd.2]
  refine ⟨fun q => q_r (h0 (fun y => by rcases y.2 with ⟨c1, c2⟩ | ⟨c1, c2, c3⟩ <;> omega) w KQ.rf), fun q => ⟨fun q2 => cv_beginR hF htw hap hC hT (fun w1 f1 hE1 => ⟨fun q3 => q_r (h1 ⟨z, Or.inl ⟨q2, q3⟩⟩ hT htw hap w1 f1 (scru_ca hap hC f1) ?_), fun q3 => q_r (h0 (fun y => by rcases y.2 with ⟨c1, c2⟩ | ⟨c1, c2, c3⟩ <;> omega) w1 (scru_KQ f1))⟩), fun q2 => cr_dayAt hJ hd (fun zd hdy => ⟨fun y => (by cases y), fun dj hdj => ?_⟩) (fun zd => ⟨fun _ => q_r (h0 (fun y => by rcases y.2 with ⟨c1, c2⟩ | ⟨c1, c2, c3⟩ <;> omega) w KQ.rf), fun dj hdj => (by cases hdj)⟩)⟩⟩
  · rw [q3]; exact hE1
  · cases hdj
    obtain ⟨hDk, hCD⟩ := hJ.2.2 d zd.1 zd.2
    have hD0 := hDk.1
    rw [hCD.1, w_id (x := DR w d 0) (by omega) (by omega)]
    refine ⟨hdy, fun q3 => q_r (h0 (fun y => by rcases y.2 with ⟨c1, c2⟩ | ⟨c1, c2, c3⟩ <;> omega) w KQ.rf), fun q3 => ci_play hF htw hap hdy hC hT hCD hDk (by omega) (fun w1 f1 hE1 => ?_)⟩
    have hle := rn_le (T := TR w t) (D := DR w d) n.toNat 0 (r0 (TR w t))
    rw [w_id (x := (rn (TR w t) (DR w d) n.toNat 0 (r0 (TR w t))).1) (by omega) (by omega)]
    refine ⟨fun y => q_r (h1 ⟨z, Or.inr ⟨zd, by omega, y⟩⟩ hT htw hap w1 f1 (scru_ca hap hC f1) hE1), fun y => q_r (h0 (fun x => ?_) w1 (scru_KQ f1))⟩
    rcases x.2 with ⟨c1, c2⟩ | ⟨c1, c2, c3⟩
    · omega
    · exact y c3
