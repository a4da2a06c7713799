/-! TEXTS: taking a line, the class -/
abbrev Stl (j k : Nat) : Prop := 201 ≤ j ∧ j ≤ 217
theorem cv_addRoad {F : Nat} {w : AW} {S : Nat → Int} {P : AW → Prop} (hC : CAr w S) (hS : SK S) (hf : S 1 < 14) (hp : ∀ w', Fr Stl w w' → CAr w' (addR S (w.1 219 0) (w.1 219 1) (w.1 219 2) (w.1 219 3)) → P w') : CV (m_X5_addRoad F [vR 200] w) P := by
  obtain ⟨hC, hX⟩ := hC
  have s1 := hS.2.1
  have s2 := hS.2.2.1
  have s3 := hS.2.2.2.1
  have g1 : w.1 201 1 = S 1 := hC.2.1
  refine wp_X5_addRoad F w _ (fun x hx => ?_)
  rw [g1] at hx
  subst hx
  refine ⟨⟨by omega, by omega⟩, fun w3 e3 => ⟨⟨by omega, by omega⟩, fun w5 e5 => ⟨⟨by omega, by omega⟩, fun w7 e7 => ⟨⟨by omega, by omega⟩, fun w9 e9 w' e' => q_v (hp w' ?_ ?_)⟩⟩⟩⟩
  · rw [e', e9, e7, e5, e3]
    exact ((((Fr.rf.wI _ (by simp [Stl])).wI _ (by simp [Stl])).wI _ (by simp [Stl])).wI _ (by simp [Stl])).wI _ (by simp [Stl])
  · have q0 : w'.1 201 1 = S 1 + 1 := by rw [e', wI_same, e9, wI_cell _ _ _ _ (by decide), e7, wI_cell _ _ _ _ (by decide), e5, wI_cell _ _ _ _ (by decide), e3, wI_cell _ _ _ _ (by decide), g1]
    have q1 : ∀ k, w'.1 202 k = if k = (S 1).toNat then w.1 219 0 else w.1 202 k := fun k => by
      rw [e', wI_cell _ _ _ _ (by decide), e9, wI_cell _ _ _ _ (by decide), e7, wI_cell _ _ _ _ (by decide), e5, wI_cell _ _ _ _ (by decide), e3, wI_at]
      by_cases z : k = (S 1).toNat
      · rw [if_pos ⟨rfl, z⟩, if_pos z]
      · rw [if_neg (fun y => z y.2), if_neg z]
    have q2 : ∀ k, w'.1 203 k = if k = (S 1).toNat then w.1 219 1 else w.1 203 k := fun k => by
      rw [e', wI_cell _ _ _ _ (by decide), e9, wI_cell _ _ _ _ (by decide), e7, wI_cell _ _ _ _ (by decide), e5, wI_at]
      by_cases z : k = (S 1).toNat
      · rw [if_pos ⟨rfl, z⟩, if_pos z, e3, wI_cell _ _ _ _ (by decide)]
      · rw [if_neg (fun y => z y.2), if_neg z, e3, wI_cell _ _ _ _ (by decide)]
    have q3 : ∀ k, w'.1 204 k = if k = (S 1).toNat then w.1 219 2 else w.1 204 k := fun k => by
      rw [e', wI_cell _ _ _ _ (by decide), e9, wI_cell _ _ _ _ (by decide), e7, wI_at]
      by_cases z : k = (S 1).toNat
      · rw [if_pos ⟨rfl, z⟩, if_pos z, e5, wI_cell _ _ _ _ (by decide), e3, wI_cell _ _ _ _ (by decide)]
      · rw [if_neg (fun y => z y.2), if_neg z, e5, wI_cell _ _ _ _ (by decide), e3, wI_cell _ _ _ _ (by decide)]
    have q4 : ∀ k, w'.1 205 k = if k = (S 1).toNat then w.1 219 3 else w.1 205 k := fun k => by
      rw [e', wI_cell _ _ _ _ (by decide), e9, wI_at]
      by_cases z : k = (S 1).toNat
      · rw [if_pos ⟨rfl, z⟩, if_pos z, e7, wI_cell _ _ _ _ (by decide), e5, wI_cell _ _ _ _ (by decide), e3, wI_cell _ _ _ _ (by decide)]
      · rw [if_neg (fun y => z y.2), if_neg z, e7, wI_cell _ _ _ _ (by decide), e5, wI_cell _ _ _ _ (by decide), e3, wI_cell _ _ _ _ (by decide)]
    have qo : ∀ a k, 206 ≤ a → w'.1 a k = w.1 a k := fun a k h => by rw [e', wI_cell _ _ _ _ (by omega), e9, wI_cell _ _ _ _ (by omega), e7, wI_cell _ _ _ _ (by omega), e5, wI_cell _ _ _ _ (by omega), e3, wI_cell _ _ _ _ (by omega)]
    have qs : ∀ k, k ≠ 1 → w'.1 201 k = w.1 201 k := fun k h => by rw [e', wI_idx _ _ _ _ h, e9, wI_cell _ _ _ _ (by decide), e7, wI_cell _ _ _ _ (by decide), e5, wI_cell _ _ _ _ (by decide), e3, wI_cell _ _ _ _ (by decide)]
    generalize w.1 219 0 = a at *
    generalize w.1 219 1 = b at *
    generalize w.1 219 2 = c at *
    generalize w.1 219 3 = d at *
    have n := fun k h1 h2 => addR_ne (S := S) (a := a) (b := b) (c := c) (d := d) (k := k) h1 h2
    have nw := addR_new (S := S) (a := a) (b := b) (c := c) (d := d) (by omega)
    obtain ⟨c0, c1, c2, c3, c4, c5, hr, hpp, he⟩ := hC
    refine ⟨⟨by rw [qs 0 (by decide), n 0 (by omega) (by omega)]; exact c0, by rw [q0, addR_1], by rw [qs 8 (by decide), n 2 (by omega) (by omega)]; exact c2, by rw [qs 12 (by decide), n 3 (by omega) (by omega)]; exact c3, by rw [qs 17 (by decide), n 4 (by omega) (by omega)]; exact c4, by rw [qs 18 (by decide), n 5 (by omega) (by omega)]; exact c5, fun r r0 r1 => ?_, fun p p0 p1 => ?_, fun e e0 e1 => ?_⟩, fun r r0 r1 => ?_⟩
    · rw [addR_1] at r1
      by_cases z : r = S 1
      · obtain ⟨w1, w2, w3, w4, w5, w6⟩ := nw
        have hx := hX r (by omega) (by omega)
        rw [q1, q2, q3, q4, if_pos (by omega), if_pos (by omega), if_pos (by omega), if_pos (by omega), qo (201 + 5) _ (by omega), z, w1, w2, w3, w4, w5]
        rw [z] at hx
        exact ⟨rfl, rfl, rfl, rfl, hx.1, fun k k0 k1 => by rw [qo (201 + 6) _ (by omega), w6 k k0 k1]; exact hx.2 k k0 k1⟩
      · obtain ⟨w1, w2, w3, w4, w5, w6⟩ := rd_same (S := S) (S' := addR S a b c d) (r := r) (fun k k1 k2 => n k (by omega) (by omega)) r0
        have := hr r r0 (by omega)
        rw [q1, q2, q3, q4, if_neg (by omega), if_neg (by omega), if_neg (by omega), if_neg (by omega), qo (201 + 5) _ (by omega), w1, w2, w3, w4, w5]
        exact ⟨this.1, this.2.1, this.2.2.1, this.2.2.2.1, this.2.2.2.2.1, fun k k0 k1 => by rw [qo (201 + 6) _ (by omega), w6 k k0 k1]; exact this.2.2.2.2.2 k k0 k1⟩
    · rw [n 2 (by omega) (by omega)] at p1
      obtain ⟨w1, w2, w3⟩ := pe_same (S := S) (S' := addR S a b c d) (p := p) (fun k k1 k2 => n k (by omega) (by omega)) p0
      rw [w1, w2, w3, qo (201 + 7) _ (by omega), qo (201 + 8) _ (by omega), qo (201 + 9) _ (by omega)]
      exact hpp p p0 p1
    · rw [n 3 (by omega) (by omega)] at e1
      obtain ⟨w1, w2, w3, w4⟩ := er_same (S := S) (S' := addR S a b c d) (e := e) (fun k k1 k2 => n k (by omega) (by omega)) e0
      rw [w1, w2, w3, w4, qo (201 + 10) _ (by omega), qo (201 + 11) _ (by omega), qo (201 + 12) _ (by omega), qo (201 + 13) _ (by omega)]
      exact he e e0 e1
    · rw [addR_1] at r0
      have := hX r (by omega) r1
      rw [qo 206 _ (by omega)]
      exact ⟨this.1, fun k k0 k1 => by rw [qo 207 _ (by omega)]; exact this.2 k k0 k1⟩
theorem cv_addPerson {F : Nat} {kd : Int} {w : AW} {S : Nat → Int} {P : AW → Prop} (hC : CAr w S) (hS : SK S) (hf : S 2 < 8) (hp : ∀ w', Fr Stl w w' → CAr w' (addP S (w.1 219 0) (w.1 219 1) kd) → P w') : CV (m_X5_addPerson F [vR 200, vI kd] w) P := by
  obtain ⟨hC, hX⟩ := hC
  have s1 := hS.2.1
  have s2 := hS.2.2.1
  have s3 := hS.2.2.2.1
  have g1 : w.1 201 8 = S 2 := hC.2.2.1
  refine wp_X5_addPerson F kd w _ (fun x hx => ?_)
  rw [g1] at hx
  subst hx
  refine ⟨⟨by omega, by omega⟩, fun w3 e3 => ⟨⟨by omega, by omega⟩, fun w5 e5 => ⟨⟨by omega, by omega⟩, fun w7 e7 w' e' => q_v (hp w' ?_ ?_)⟩⟩⟩
  · rw [e', e7, e5, e3]
    exact (((Fr.rf.wI _ (by simp [Stl])).wI _ (by simp [Stl])).wI _ (by simp [Stl])).wI _ (by simp [Stl])
  · have q0 : w'.1 201 8 = S 2 + 1 := by rw [e', wI_same, e7, wI_cell _ _ _ _ (by decide), e5, wI_cell _ _ _ _ (by decide), e3, wI_cell _ _ _ _ (by decide), g1]
    have q1 : ∀ k, w'.1 208 k = if k = (S 2).toNat then w.1 219 0 else w.1 208 k := fun k => by
      rw [e', wI_cell _ _ _ _ (by decide), e7, wI_cell _ _ _ _ (by decide), e5, wI_cell _ _ _ _ (by decide), e3, wI_at]
      by_cases z : k = (S 2).toNat
      · rw [if_pos ⟨rfl, z⟩, if_pos z]
      · rw [if_neg (fun y => z y.2), if_neg z]
    have q2 : ∀ k, w'.1 209 k = if k = (S 2).toNat then w.1 219 1 else w.1 209 k := fun k => by
      rw [e', wI_cell _ _ _ _ (by decide), e7, wI_cell _ _ _ _ (by decide), e5, wI_at]
      by_cases z : k = (S 2).toNat
      · rw [if_pos ⟨rfl, z⟩, if_pos z, e3, wI_cell _ _ _ _ (by decide)]
      · rw [if_neg (fun y => z y.2), if_neg z, e3, wI_cell _ _ _ _ (by decide)]
    have q3 : ∀ k, w'.1 210 k = if k = (S 2).toNat then kd else w.1 210 k := fun k => by
      rw [e', wI_cell _ _ _ _ (by decide), e7, wI_at]
      by_cases z : k = (S 2).toNat
      · rw [if_pos ⟨rfl, z⟩, if_pos z]
      · rw [if_neg (fun y => z y.2), if_neg z, e5, wI_cell _ _ _ _ (by decide), e3, wI_cell _ _ _ _ (by decide)]
    have qo : ∀ a k, 202 ≤ a → (a ≤ 207 ∨ 211 ≤ a) → w'.1 a k = w.1 a k := fun a k h h2 => by rw [e', wI_cell _ _ _ _ (by omega), e7, wI_cell _ _ _ _ (by omega), e5, wI_cell _ _ _ _ (by omega), e3, wI_cell _ _ _ _ (by omega)]
    have qs : ∀ k, k ≠ 8 → w'.1 201 k = w.1 201 k := fun k h => by rw [e', wI_idx _ _ _ _ h, e7, wI_cell _ _ _ _ (by decide), e5, wI_cell _ _ _ _ (by decide), e3, wI_cell _ _ _ _ (by decide)]
    generalize w.1 219 0 = a at *
    generalize w.1 219 1 = b at *
    have n := fun k h1 h2 => addP_ne (S := S) (a := a) (b := b) (c := kd) (k := k) h1 h2
    have nw := addP_new (S := S) (a := a) (b := b) (c := kd) (by omega)
    obtain ⟨c0, c1, c2, c3, c4, c5, hr, hpp, he⟩ := hC
    refine ⟨⟨by rw [qs 0 (by decide), n 0 (by omega) (by omega)]; exact c0, by rw [qs 1 (by decide), n 1 (by omega) (by omega)]; exact c1, by rw [q0, addP_2], by rw [qs 12 (by decide), n 3 (by omega) (by omega)]; exact c3, by rw [qs 17 (by decide), n 4 (by omega) (by omega)]; exact c4, by rw [qs 18 (by decide), n 5 (by omega) (by omega)]; exact c5, fun r r0 r1 => ?_, fun p p0 p1 => ?_, fun e e0 e1 => ?_⟩, fun r r0 r1 => ?_⟩
    · rw [n 1 (by omega) (by omega)] at r1
      obtain ⟨w1, w2, w3, w4, w5, w6⟩ := rd_same (S := S) (S' := addP S a b kd) (r := r) (fun k k1 k2 => n k (by omega) (by omega)) r0
      have := hr r r0 (by omega)
      rw [qo (201 + 1) _ (by omega) (by omega), qo (201 + 2) _ (by omega) (by omega), qo (201 + 3) _ (by omega) (by omega), qo (201 + 4) _ (by omega) (by omega), qo (201 + 5) _ (by omega) (by omega), w1, w2, w3, w4, w5]
      exact ⟨this.1, this.2.1, this.2.2.1, this.2.2.2.1, this.2.2.2.2.1, fun k k0 k1 => by rw [qo (201 + 6) _ (by omega) (by omega), w6 k k0 k1]; exact this.2.2.2.2.2 k k0 k1⟩
    · rw [addP_2] at p1
      by_cases z : p = S 2
      · obtain ⟨w1, w2, w3⟩ := nw
        rw [q1, q2, q3, if_pos (by omega), if_pos (by omega), if_pos (by omega), z, w1, w2, w3]
        exact ⟨rfl, rfl, rfl⟩
      · obtain ⟨w1, w2, w3⟩ := pe_same (S := S) (S' := addP S a b kd) (p := p) (fun k k1 k2 => n k (by omega) (by omega)) p0
        rw [w1, w2, w3, q1, q2, q3, if_neg (by omega), if_neg (by omega), if_neg (by omega)]
        exact hpp p p0 (by omega)
    · rw [n 3 (by omega) (by omega)] at e1
      obtain ⟨w1, w2, w3, w4⟩ := er_same (S := S) (S' := addP S a b kd) (e := e) (fun k k1 k2 => n k (by omega) (by omega)) e0
      rw [w1, w2, w3, w4, qo (201 + 10) _ (by omega) (by omega), qo (201 + 11) _ (by omega) (by omega), qo (201 + 12) _ (by omega) (by omega), qo (201 + 13) _ (by omega) (by omega)]
      exact he e e0 e1
    · rw [n 1 (by omega) (by omega)] at r0
      have := hX r (by omega) r1
      rw [qo 206 _ (by omega) (by omega)]
      exact ⟨this.1, fun k k0 k1 => by rw [qo 207 _ (by omega) (by omega)]; exact this.2 k k0 k1⟩
theorem cv_addErrand {F : Nat} {w : AW} {S : Nat → Int} {P : AW → Prop} (hC : CAr w S) (hS : SK S) (hf : S 3 < 12) (hp : ∀ w', Fr Stl w w' → CAr w' (addE S (w.1 219 0) (w.1 219 1) (w.1 219 2) (w.1 219 3)) → P w') : CV (m_X5_addErrand F [vR 200] w) P := by
  obtain ⟨hC, hX⟩ := hC
  have s1 := hS.2.1
  have s2 := hS.2.2.1
  have s3 := hS.2.2.2.1
  have g1 : w.1 201 12 = S 3 := hC.2.2.2.1
  refine wp_X5_addErrand F w _ (fun x hx => ?_)
  rw [g1] at hx
  subst hx
  refine ⟨⟨by omega, by omega⟩, fun w3 e3 => ⟨⟨by omega, by omega⟩, fun w5 e5 => ⟨⟨by omega, by omega⟩, fun w7 e7 => ⟨⟨by omega, by omega⟩, fun w9 e9 w' e' => q_v (hp w' ?_ ?_)⟩⟩⟩⟩
  · rw [e', e9, e7, e5, e3]
    exact ((((Fr.rf.wI _ (by simp [Stl])).wI _ (by simp [Stl])).wI _ (by simp [Stl])).wI _ (by simp [Stl])).wI _ (by simp [Stl])
  · have q0 : w'.1 201 12 = S 3 + 1 := by rw [e', wI_same, e9, wI_cell _ _ _ _ (by decide), e7, wI_cell _ _ _ _ (by decide), e5, wI_cell _ _ _ _ (by decide), e3, wI_cell _ _ _ _ (by decide), g1]
    have q1 : ∀ k, w'.1 211 k = if k = (S 3).toNat then w.1 219 0 else w.1 211 k := fun k => by
      rw [e', wI_cell _ _ _ _ (by decide), e9, wI_cell _ _ _ _ (by decide), e7, wI_cell _ _ _ _ (by decide), e5, wI_cell _ _ _ _ (by decide), e3, wI_at]
      by_cases z : k = (S 3).toNat
      · rw [if_pos ⟨rfl, z⟩, if_pos z]
      · rw [if_neg (fun y => z y.2), if_neg z]
    have q2 : ∀ k, w'.1 212 k = if k = (S 3).toNat then w.1 219 1 else w.1 212 k := fun k => by
      rw [e', wI_cell _ _ _ _ (by decide), e9, wI_cell _ _ _ _ (by decide), e7, wI_cell _ _ _ _ (by decide), e5, wI_at]
      by_cases z : k = (S 3).toNat
      · rw [if_pos ⟨rfl, z⟩, if_pos z, e3, wI_cell _ _ _ _ (by decide)]
      · rw [if_neg (fun y => z y.2), if_neg z, e3, wI_cell _ _ _ _ (by decide)]
    have q3 : ∀ k, w'.1 213 k = if k = (S 3).toNat then w.1 219 2 else w.1 213 k := fun k => by
      rw [e', wI_cell _ _ _ _ (by decide), e9, wI_cell _ _ _ _ (by decide), e7, wI_at]
      by_cases z : k = (S 3).toNat
      · rw [if_pos ⟨rfl, z⟩, if_pos z, e5, wI_cell _ _ _ _ (by decide), e3, wI_cell _ _ _ _ (by decide)]
      · rw [if_neg (fun y => z y.2), if_neg z, e5, wI_cell _ _ _ _ (by decide), e3, wI_cell _ _ _ _ (by decide)]
    have q4 : ∀ k, w'.1 214 k = if k = (S 3).toNat then w.1 219 3 else w.1 214 k := fun k => by
      rw [e', wI_cell _ _ _ _ (by decide), e9, wI_at]
      by_cases z : k = (S 3).toNat
      · rw [if_pos ⟨rfl, z⟩, if_pos z, e7, wI_cell _ _ _ _ (by decide), e5, wI_cell _ _ _ _ (by decide), e3, wI_cell _ _ _ _ (by decide)]
      · rw [if_neg (fun y => z y.2), if_neg z, e7, wI_cell _ _ _ _ (by decide), e5, wI_cell _ _ _ _ (by decide), e3, wI_cell _ _ _ _ (by decide)]
    have qo : ∀ a k, 202 ≤ a → a ≤ 210 → w'.1 a k = w.1 a k := fun a k h h2 => by rw [e', wI_cell _ _ _ _ (by omega), e9, wI_cell _ _ _ _ (by omega), e7, wI_cell _ _ _ _ (by omega), e5, wI_cell _ _ _ _ (by omega), e3, wI_cell _ _ _ _ (by omega)]
    have qs : ∀ k, k ≠ 12 → w'.1 201 k = w.1 201 k := fun k h => by rw [e', wI_idx _ _ _ _ h, e9, wI_cell _ _ _ _ (by decide), e7, wI_cell _ _ _ _ (by decide), e5, wI_cell _ _ _ _ (by decide), e3, wI_cell _ _ _ _ (by decide)]
    generalize w.1 219 0 = a at *
    generalize w.1 219 1 = b at *
    generalize w.1 219 2 = c at *
    generalize w.1 219 3 = d at *
    have n := fun k h1 h2 => addE_ne (S := S) (a := a) (b := b) (c := c) (d := d) (k := k) h1 h2
    have nw := addE_new (S := S) (a := a) (b := b) (c := c) (d := d) (by omega)
    obtain ⟨c0, c1, c2, c3, c4, c5, hr, hpp, he⟩ := hC
    refine ⟨⟨by rw [qs 0 (by decide), n 0 (by omega) (by omega)]; exact c0, by rw [qs 1 (by decide), n 1 (by omega) (by omega)]; exact c1, by rw [qs 8 (by decide), n 2 (by omega) (by omega)]; exact c2, by rw [q0, addE_3], by rw [qs 17 (by decide), n 4 (by omega) (by omega)]; exact c4, by rw [qs 18 (by decide), n 5 (by omega) (by omega)]; exact c5, fun r r0 r1 => ?_, fun p p0 p1 => ?_, fun e e0 e1 => ?_⟩, fun r r0 r1 => ?_⟩
    · rw [n 1 (by omega) (by omega)] at r1
      obtain ⟨w1, w2, w3, w4, w5, w6⟩ := rd_same (S := S) (S' := addE S a b c d) (r := r) (fun k k1 k2 => n k (by omega) (by omega)) r0
      have := hr r r0 (by omega)
      rw [qo (201 + 1) _ (by omega) (by omega), qo (201 + 2) _ (by omega) (by omega), qo (201 + 3) _ (by omega) (by omega), qo (201 + 4) _ (by omega) (by omega), qo (201 + 5) _ (by omega) (by omega), w1, w2, w3, w4, w5]
      exact ⟨this.1, this.2.1, this.2.2.1, this.2.2.2.1, this.2.2.2.2.1, fun k k0 k1 => by rw [qo (201 + 6) _ (by omega) (by omega), w6 k k0 k1]; exact this.2.2.2.2.2 k k0 k1⟩
    · rw [n 2 (by omega) (by omega)] at p1
      obtain ⟨w1, w2, w3⟩ := pe_same (S := S) (S' := addE S a b c d) (p := p) (fun k k1 k2 => n k (by omega) (by omega)) p0
      rw [w1, w2, w3, qo (201 + 7) _ (by omega) (by omega), qo (201 + 8) _ (by omega) (by omega), qo (201 + 9) _ (by omega) (by omega)]
      exact hpp p p0 p1
    · rw [addE_3] at e1
      by_cases z : e = S 3
      · obtain ⟨w1, w2, w3, w4⟩ := nw
        rw [q1, q2, q3, q4, if_pos (by omega), if_pos (by omega), if_pos (by omega), if_pos (by omega), z, w1, w2, w3, w4]
        exact ⟨rfl, rfl, rfl, rfl⟩
      · obtain ⟨w1, w2, w3, w4⟩ := er_same (S := S) (S' := addE S a b c d) (e := e) (fun k k1 k2 => n k (by omega) (by omega)) e0
        rw [w1, w2, w3, w4, q1, q2, q3, q4, if_neg (by omega), if_neg (by omega), if_neg (by omega), if_neg (by omega)]
        exact he e e0 (by omega)
    · rw [n 1 (by omega) (by omega)] at r0
      have := hX r (by omega) r1
      rw [qo 206 _ (by omega) (by omega)]
      exact ⟨this.1, fun k k0 k1 => by rw [qo 207 _ (by omega) (by omega)]; exact this.2 k k0 k1⟩
/-- a number ahead of the roads is put -/
theorem car_fu {w : AW} {S : Nat → Int} {i v : Int} {k : Nat} (hC : CAr w S) (hi : i = 0 ∧ k = 0 ∨ i = 4 ∧ k = 17 ∨ i = 5 ∧ k = 18) : CAr (wI w 201 k v) (fu S i v) := by
  obtain ⟨⟨c0, c1, c2, c3, c4, c5, hr, hpp, he⟩, hX⟩ := hC
  have n : ∀ j : Nat, (j : Int) ≠ i → fu S i v j = S j := fun j hj => fu_ne hj
  have qo : ∀ a b, 202 ≤ a → (wI w 201 k v).1 a b = w.1 a b := fun a b h => wI_cell _ _ _ _ (by omega)
  have qs : ∀ b, b ≠ k → (wI w 201 k v).1 201 b = w.1 201 b := fun b h => wI_idx _ _ _ _ h
  refine ⟨⟨?_, by rw [qs 1 (by omega), n 1 (by omega)]; exact c1, by rw [qs 8 (by omega), n 2 (by omega)]; exact c2, by rw [qs 12 (by omega), n 3 (by omega)]; exact c3, ?_, ?_, fun r r0 r1 => ?_, fun p p0 p1 => ?_, fun e e0 e1 => ?_⟩, fun r r0 r1 => ?_⟩
  · by_cases z : i = 0
    · rw [show k = 0 from by omega, wI_same, fu_eq (by omega)]
    · rw [qs 0 (by omega), n 0 (by omega)]; exact c0
  · by_cases z : i = 4
    · rw [show k = 17 from by omega, wI_same, fu_eq (by omega)]
    · rw [qs 17 (by omega), n 4 (by omega)]; exact c4
  · by_cases z : i = 5
    · rw [show k = 18 from by omega, wI_same, fu_eq (by omega)]
    · rw [qs 18 (by omega), n 5 (by omega)]; exact c5
  · rw [n 1 (by omega)] at r1
    obtain ⟨w1, w2, w3, w4, w5, w6⟩ := rd_same (S := S) (S' := fu S i v) (r := r) (fun k k1 k2 => n k (by omega)) r0
    have := hr r r0 (by omega)
    rw [qo (201 + 1) _ (by omega), qo (201 + 2) _ (by omega), qo (201 + 3) _ (by omega), qo (201 + 4) _ (by omega), qo (201 + 5) _ (by omega), w1, w2, w3, w4, w5]
    exact ⟨this.1, this.2.1, this.2.2.1, this.2.2.2.1, this.2.2.2.2.1, fun k k0 k1 => by rw [qo (201 + 6) _ (by omega), w6 k k0 k1]; exact this.2.2.2.2.2 k k0 k1⟩
  · rw [n 2 (by omega)] at p1
    obtain ⟨w1, w2, w3⟩ := pe_same (S := S) (S' := fu S i v) (p := p) (fun k k1 k2 => n k (by omega)) p0
    rw [w1, w2, w3, qo (201 + 7) _ (by omega), qo (201 + 8) _ (by omega), qo (201 + 9) _ (by omega)]
    exact hpp p p0 p1
  · rw [n 3 (by omega)] at e1
    obtain ⟨w1, w2, w3, w4⟩ := er_same (S := S) (S' := fu S i v) (e := e) (fun k k1 k2 => n k (by omega)) e0
    rw [w1, w2, w3, w4, qo (201 + 10) _ (by omega), qo (201 + 11) _ (by omega), qo (201 + 12) _ (by omega), qo (201 + 13) _ (by omega)]
    exact he e e0 (by omega)
  · rw [n 1 (by omega)] at r0
    have := hX r (by omega) r1
    rw [qo 206 _ (by omega)]
    exact ⟨this.1, fun k k0 k1 => by rw [qo 207 _ (by omega)]; exact this.2 k k0 k1⟩
theorem car_has {w : AW} {S : Nat → Int} {a b : Int} (hC : CAr w S) (hS : SK S) (hb : 0 ≤ b ∧ b < S 1) : CAr (wI w 206 b.toNat a) (fu S (10 + 11 * b) a) := by
  obtain ⟨⟨c0, c1, c2, c3, c4, c5, hr, hpp, he⟩, hX⟩ := hC
  have s1 := hS.2.1
  have n : ∀ j : Nat, (j : Int) ≠ 10 + 11 * b → fu S (10 + 11 * b) a j = S j := fun j hj => fu_ne hj
  have qo : ∀ x y, x ≠ 206 → (wI w 206 b.toNat a).1 x y = w.1 x y := fun x y h => wI_cell _ _ _ _ h
  refine ⟨⟨by rw [qo 201 _ (by omega), n 0 (by omega)]; exact c0, by rw [qo 201 _ (by omega), n 1 (by omega)]; exact c1, by rw [qo 201 _ (by omega), n 2 (by omega)]; exact c2, by rw [qo 201 _ (by omega), n 3 (by omega)]; exact c3, by rw [qo 201 _ (by omega), n 4 (by omega)]; exact c4, by rw [qo 201 _ (by omega), n 5 (by omega)]; exact c5, fun r r0 r1 => ?_, fun p p0 p1 => ?_, fun e e0 e1 => ?_⟩, fun r r0 r1 => ?_⟩
  · rw [n 1 (by omega)] at r1
    have := hr r r0 (by omega)
    have f1 : rA (fu S (10 + 11 * b) a) r = rA S r := n _ (by omega)
    have f2 : rB (fu S (10 + 11 * b) a) r = rB S r := n _ (by omega)
    have f3 : rM (fu S (10 + 11 * b) a) r = rM S r := n _ (by omega)
    have f4 : rP (fu S (10 + 11 * b) a) r = rP S r := n _ (by omega)
    rw [qo (201 + 1) _ (by omega), qo (201 + 2) _ (by omega), qo (201 + 3) _ (by omega), qo (201 + 4) _ (by omega), f1, f2, f3, f4]
    refine ⟨this.1, this.2.1, this.2.2.1, this.2.2.2.1, ?_, fun k k0 k1 => ?_⟩
    · show (wI w 206 b.toNat a).1 206 r.toNat = _
      rw [wI_at]
      by_cases z : r = b
      · have f5 : rH (fu S (10 + 11 * b) a) r = a := fu_eq (by omega)
        rw [if_pos ⟨rfl, by omega⟩, f5]
      · have f5 : rH (fu S (10 + 11 * b) a) r = rH S r := n _ (by omega)
        rw [if_neg (by omega), f5]; exact this.2.2.2.2.1
    · have f6 : rC (fu S (10 + 11 * b) a) r k = rC S r k := n _ (by omega)
      rw [qo (201 + 6) _ (by omega), f6]; exact this.2.2.2.2.2 k k0 k1
  · rw [n 2 (by omega)] at p1
    obtain ⟨w1, w2, w3⟩ := pe_same (S := S) (S' := fu S (10 + 11 * b) a) (p := p) (fun k k1 k2 => n k (by omega)) p0
    rw [w1, w2, w3, qo (201 + 7) _ (by omega), qo (201 + 8) _ (by omega), qo (201 + 9) _ (by omega)]
    exact hpp p p0 p1
  · rw [n 3 (by omega)] at e1
    obtain ⟨w1, w2, w3, w4⟩ := er_same (S := S) (S' := fu S (10 + 11 * b) a) (e := e) (fun k k1 k2 => n k (by omega)) e0
    rw [w1, w2, w3, w4, qo (201 + 10) _ (by omega), qo (201 + 11) _ (by omega), qo (201 + 12) _ (by omega), qo (201 + 13) _ (by omega)]
    exact he e e0 (by omega)
  · rw [n 1 (by omega)] at r0
    have := hX r (by omega) r1
    rw [wI_at, if_neg (by omega)]
    exact ⟨this.1, fun k k0 k1 => by rw [qo 207 _ (by omega)]; exact this.2 k k0 k1⟩
theorem car_busy {w : AW} {S : Nat → Int} {a b c : Int} (hC : CAr w S) (hS : SK S) (ha : 0 ≤ a ∧ a < S 1) (hb : 0 ≤ b ∧ b < 6) : CAr (wI w 207 ((a * 6) + b).toNat c) (fu S (11 + 11 * a + b) c) := by
  obtain ⟨⟨c0, c1, c2, c3, c4, c5, hr, hpp, he⟩, hX⟩ := hC
  have s1 := hS.2.1
  have n : ∀ j : Nat, (j : Int) ≠ 11 + 11 * a + b → fu S (11 + 11 * a + b) c j = S j := fun j hj => fu_ne hj
  have qo : ∀ x y, x ≠ 207 → (wI w 207 ((a * 6) + b).toNat c).1 x y = w.1 x y := fun x y h => wI_cell _ _ _ _ h
  refine ⟨⟨by rw [qo 201 _ (by omega), n 0 (by omega)]; exact c0, by rw [qo 201 _ (by omega), n 1 (by omega)]; exact c1, by rw [qo 201 _ (by omega), n 2 (by omega)]; exact c2, by rw [qo 201 _ (by omega), n 3 (by omega)]; exact c3, by rw [qo 201 _ (by omega), n 4 (by omega)]; exact c4, by rw [qo 201 _ (by omega), n 5 (by omega)]; exact c5, fun r r0 r1 => ?_, fun p p0 p1 => ?_, fun e e0 e1 => ?_⟩, fun r r0 r1 => ?_⟩
  · rw [n 1 (by omega)] at r1
    have := hr r r0 (by omega)
    have f1 : rA (fu S (11 + 11 * a + b) c) r = rA S r := n _ (by omega)
    have f2 : rB (fu S (11 + 11 * a + b) c) r = rB S r := n _ (by omega)
    have f3 : rM (fu S (11 + 11 * a + b) c) r = rM S r := n _ (by omega)
    have f4 : rP (fu S (11 + 11 * a + b) c) r = rP S r := n _ (by omega)
    have f5 : rH (fu S (11 + 11 * a + b) c) r = rH S r := n _ (by omega)
    rw [qo (201 + 1) _ (by omega), qo (201 + 2) _ (by omega), qo (201 + 3) _ (by omega), qo (201 + 4) _ (by omega), qo (201 + 5) _ (by omega), f1, f2, f3, f4, f5]
    refine ⟨this.1, this.2.1, this.2.2.1, this.2.2.2.1, this.2.2.2.2.1, fun k k0 k1 => ?_⟩
    show (wI w 207 ((a * 6) + b).toNat c).1 207 ((r * 6) + k).toNat = _
    rw [wI_at]
    by_cases z : r = a ∧ k = b
    · have f6 : rC (fu S (11 + 11 * a + b) c) r k = c := fu_eq (by omega)
      rw [if_pos ⟨rfl, by omega⟩, f6]
    · have f6 : rC (fu S (11 + 11 * a + b) c) r k = rC S r k := n _ (by omega)
      rw [if_neg (by omega), f6]; exact this.2.2.2.2.2 k k0 k1
  · rw [n 2 (by omega)] at p1
    obtain ⟨w1, w2, w3⟩ := pe_same (S := S) (S' := fu S (11 + 11 * a + b) c) (p := p) (fun k k1 k2 => n k (by omega)) p0
    rw [w1, w2, w3, qo (201 + 7) _ (by omega), qo (201 + 8) _ (by omega), qo (201 + 9) _ (by omega)]
    exact hpp p p0 p1
  · rw [n 3 (by omega)] at e1
    obtain ⟨w1, w2, w3, w4⟩ := er_same (S := S) (S' := fu S (11 + 11 * a + b) c) (e := e) (fun k k1 k2 => n k (by omega)) e0
    rw [w1, w2, w3, w4, qo (201 + 10) _ (by omega), qo (201 + 11) _ (by omega), qo (201 + 12) _ (by omega), qo (201 + 13) _ (by omega)]
    exact he e e0 (by omega)
  · rw [n 1 (by omega)] at r0
    have := hX r (by omega) r1
    rw [qo 206 _ (by omega)]
    exact ⟨this.1, fun k k0 k1 => by rw [wI_at, if_neg (by omega)]; exact this.2 k k0 k1⟩
theorem cv_addM {F : Nat} {x y z : Int} {w : AW} {S : Nat → Int} {P : AW → Prop} (hC : CD w 215 S) (hD : DK S) (hf : S 0 < 40) (hp : ∀ w', Fr Stl w w' → CD w' 215 (addM S x y z) → P w') : CV (m_X2_add F [vR 215, vI y, vI z] w) P := by
  have s0 := hD.1
  refine wp_X2_add F 215 isDy215 y z w _ ?_
  rw [hC.1, w_id (x := S 0) (by omega) (by omega)]
  refine ⟨fun _ => ⟨⟨by omega, hf⟩, fun w3 e3 => ?_⟩, fun q => absurd hf q⟩
  have g3 : w3.1 215 0 = S 0 := by rw [e3, wI_cell _ _ _ _ (by decide)]; exact hC.1
  rw [g3]
  refine ⟨⟨by omega, hf⟩, fun w5 e5 w' e' => q_v (hp w' ?_ ⟨?_, fun k k0 k1 => ?_⟩)⟩
  · rw [e', e5, e3]
    exact ((Fr.rf.wI _ (by simp [Stl])).wI _ (by simp [Stl])).wI _ (by simp [Stl])
  · rw [e', wI_same, e5, wI_cell _ _ _ _ (by decide), g3]
    exact (fu_eq rfl).symm
  · have e0 : addM S x y z 0 = S 0 + 1 := fu_eq rfl
    rw [e0] at k1
    have q1 : ∀ j, w'.1 (215 + 1) j = if j = (S 0).toNat then y else w.1 (215 + 1) j := fun j => by
      rw [e', wI_cell _ _ _ _ (by decide), e5, wI_cell _ _ _ _ (by decide), e3, wI_at]
      by_cases q : j = (S 0).toNat
      · rw [if_pos ⟨rfl, q⟩, if_pos q]
      · rw [if_neg (fun h => q h.2), if_neg q]
    have q2 : ∀ j, w'.1 (215 + 2) j = if j = (S 0).toNat then z else w.1 (215 + 2) j := fun j => by
      rw [e', wI_cell _ _ _ _ (by decide), e5, wI_at]
      by_cases q : j = (S 0).toNat
      · rw [if_pos ⟨rfl, q⟩, if_pos q]
      · rw [if_neg (fun h => q h.2), if_neg q, e3, wI_cell _ _ _ _ (by decide)]
    rw [q1, q2]
    by_cases q : k = S 0
    · have f1 : d1 (addM S x y z) k = y := by
        unfold d1 addM
        (repeat rw [fu_ne (by omega)]); rw [fu_eq (by omega)]
      have f2 : d2 (addM S x y z) k = z := by
        unfold d2 addM
        (repeat rw [fu_ne (by omega)]); rw [fu_eq (by omega)]
      rw [if_pos (by omega), if_pos (by omega), f1, f2]
      exact ⟨rfl, rfl⟩
    · have f1 : d1 (addM S x y z) k = d1 S k := by
        unfold d1 addM
        repeat rw [fu_ne (by omega)]
      have f2 : d2 (addM S x y z) k = d2 S k := by
        unfold d2 addM
        repeat rw [fu_ne (by omega)]
      rw [if_neg (by omega), if_neg (by omega), f1, f2]
      exact hC.2 k k0 (by omega)
theorem cv_takeLine {F : Nat} {of : Int} {L : Nat} {w : AW} {S : Nat → Int} {l : NL} {P : AW → Prop} (hL : lkO of L) (hX : CX of w S) (hn : ∀ k, k < nms L → w.1 219 k = nv l k) (hfl : ¬ full L S) (hc : ∀ k, k < nms L → can L k S l) (hp : ∀ w', Fr Stl w w' → CX of w' (tkl L S l) → P w') : CV (m_X5_takeLine F [vR 200, vI L] w) P := by
  rcases hL with ⟨ho, hL⟩ | ⟨ho, hL1, hL2⟩
  · obtain ⟨hC, hS⟩ := hX.sk ho
    have hp' : ∀ w', Fr Stl w w' → CAr w' (tkl L S l) → SK (tkl L S l) → P w' := fun w' f' c' s' => hp w' f' (Or.inl ⟨ho, c', s'⟩)
    have s1 := hS.2.1
    have s2 := hS.2.2.1
    have s3 := hS.2.2.2.1
    have : L = 0 ∨ L = 1 ∨ L = 2 ∨ L = 3 ∨ L = 4 ∨ L = 5 ∨ L = 6 ∨ L = 7 ∨ L = 8 ∨ L = 9 ∨ L = 10 ∨ L = 11 := by omega
    rcases this with e | e | e | e | e | e | e | e | e | e | e | e <;> subst e
    · have v0 : 2 ≤ nv l 0 ∧ nv l 0 ≤ 9 := ⟨(hc 0 (by decide)).1, (hc 0 (by decide)).2.1⟩
      have n0 := hn 0 (by decide)
      refine wp_X5_takeLine F 0 w _ ?_
      exact ⟨⟨fun q => (fun w2 e2 => q_v (hp' w2 (by rw [e2]; exact Fr.rf.wI _ (by simp [Stl])) (by rw [e2, n0]; exact car_fu hC (Or.inl ⟨rfl, rfl⟩)) (sk_fu hS (Or.inl ⟨rfl, v0.1, v0.2⟩)))), fun q => absurd q (by decide), fun q => absurd q (by decide), fun q => absurd q (by decide), fun q => absurd q (by decide), fun q => absurd q (by decide), fun q => absurd q (by decide), fun q => absurd q (by decide), fun q => absurd q (by decide), fun q => absurd q (by decide), fun q => absurd q (by decide), fun q => absurd q (by decide), fun q => absurd q (by decide), trivial⟩, fun q => absurd (by decide) q⟩
    · have v0 : 0 ≤ nv l 0 ∧ nv l 0 ≤ 8 := ⟨(hc 0 (by decide)).1, (hc 0 (by decide)).2.1⟩
      have v1 : 0 ≤ nv l 1 ∧ nv l 1 ≤ 8 := ⟨(hc 1 (by decide)).1, (hc 1 (by decide)).2.1⟩
      have v2 : 1 ≤ nv l 2 ∧ nv l 2 ≤ 30 := ⟨(hc 2 (by decide)).1, (hc 2 (by decide)).2.1⟩
      have v3 : 0 ≤ nv l 3 ∧ nv l 3 ≤ 99 := ⟨(hc 3 (by decide)).1, (hc 3 (by decide)).2.1⟩
      have v4 : ¬ (nv l 1 = nv l 0) := fun y => (hc 1 (by decide)).2.2 ⟨rfl, rfl, y⟩
      have n0 := hn 0 (by decide)
      have n1 := hn 1 (by decide)
      have n2 := hn 2 (by decide)
      have n3 := hn 3 (by decide)
      have hf : S 1 < 14 := by unfold full at hfl; omega
      refine wp_X5_takeLine F 1 w _ ?_
      exact ⟨⟨fun q => absurd q (by decide), fun q => cv_addRoad hC hS hf (fun w2 f2 c2 => q_v (hp' w2 f2 (by rw [n0, n1, n2, n3] at c2; exact c2) (sk_addR hS hf v0 v1 (fun y => v4 y.symm) v2 v3))), fun q => absurd q (by decide), fun q => absurd q (by decide), fun q => absurd q (by decide), fun q => absurd q (by decide), fun q => absurd q (by decide), fun q => absurd q (by decide), fun q => absurd q (by decide), fun q => absurd q (by decide), fun q => absurd q (by decide), fun q => absurd q (by decide), fun q => absurd q (by decide), trivial⟩, fun q => absurd (by decide) q⟩
    · have v0 : 0 ≤ nv l 0 ∧ nv l 0 ≤ 8 := ⟨(hc 0 (by decide)).1, (hc 0 (by decide)).2.1⟩
      have v1 : 0 ≤ nv l 1 ∧ nv l 1 ≤ 9 := ⟨(hc 1 (by decide)).1, (hc 1 (by decide)).2.1⟩
      have n0 := hn 0 (by decide)
      have n1 := hn 1 (by decide)
      have hf : S 2 < 8 := by unfold full at hfl; omega
      refine wp_X5_takeLine F 2 w _ ?_
      exact ⟨⟨fun q => absurd q (by decide), fun q => absurd q (by decide), fun q => wp_X5_takeLine_91 F _ w _ (cv_addPerson hC hS hf (fun w2 f2 c2 => q_v (hp' w2 f2 (by rw [n0, n1] at c2; exact c2) (sk_addP hS hf v0 v1 (by decide))))), fun q => absurd q (by decide), fun q => absurd q (by decide), fun q => absurd q (by decide), fun q => absurd q (by decide), fun q => absurd q (by decide), fun q => absurd q (by decide), fun q => absurd q (by decide), fun q => absurd q (by decide), fun q => absurd q (by decide), fun q => absurd q (by decide), trivial⟩, fun q => absurd (by decide) q⟩
    · have v0 : 0 ≤ nv l 0 ∧ nv l 0 ≤ 8 := ⟨(hc 0 (by decide)).1, (hc 0 (by decide)).2.1⟩
      have v1 : 0 ≤ nv l 1 ∧ nv l 1 ≤ 9 := ⟨(hc 1 (by decide)).1, (hc 1 (by decide)).2.1⟩
      have n0 := hn 0 (by decide)
      have n1 := hn 1 (by decide)
      have hf : S 2 < 8 := by unfold full at hfl; omega
      refine wp_X5_takeLine F 3 w _ ?_
      exact ⟨⟨fun q => absurd q (by decide), fun q => absurd q (by decide), fun q => absurd q (by decide), fun q => wp_X5_takeLine_91 F _ w _ (cv_addPerson hC hS hf (fun w2 f2 c2 => q_v (hp' w2 f2 (by rw [n0, n1] at c2; exact c2) (sk_addP hS hf v0 v1 (by decide))))), fun q => absurd q (by decide), fun q => absurd q (by decide), fun q => absurd q (by decide), fun q => absurd q (by decide), fun q => absurd q (by decide), fun q => absurd q (by decide), fun q => absurd q (by decide), fun q => absurd q (by decide), fun q => absurd q (by decide), trivial⟩, fun q => absurd (by decide) q⟩
    · have v0 : 0 ≤ nv l 0 ∧ nv l 0 ≤ 8 := ⟨(hc 0 (by decide)).1, (hc 0 (by decide)).2.1⟩
      have v1 : 0 ≤ nv l 1 ∧ nv l 1 ≤ 9 := ⟨(hc 1 (by decide)).1, (hc 1 (by decide)).2.1⟩
      have n0 := hn 0 (by decide)
      have n1 := hn 1 (by decide)
      have hf : S 2 < 8 := by unfold full at hfl; omega
      refine wp_X5_takeLine F 4 w _ ?_
      exact ⟨⟨fun q => absurd q (by decide), fun q => absurd q (by decide), fun q => absurd q (by decide), fun q => absurd q (by decide), fun q => wp_X5_takeLine_91 F _ w _ (cv_addPerson hC hS hf (fun w2 f2 c2 => q_v (hp' w2 f2 (by rw [n0, n1] at c2; exact c2) (sk_addP hS hf v0 v1 (by decide))))), fun q => absurd q (by decide), fun q => absurd q (by decide), fun q => absurd q (by decide), fun q => absurd q (by decide), fun q => absurd q (by decide), fun q => absurd q (by decide), fun q => absurd q (by decide), fun q => absurd q (by decide), trivial⟩, fun q => absurd (by decide) q⟩
    · have v0 : 0 ≤ nv l 0 ∧ nv l 0 ≤ S 2 - 1 := ⟨(hc 0 (by decide)).1, (hc 0 (by decide)).2.1⟩
      have v1 : 0 ≤ nv l 1 ∧ nv l 1 ≤ 8 := ⟨(hc 1 (by decide)).1, (hc 1 (by decide)).2.1⟩
      have v2 : 0 ≤ nv l 2 ∧ nv l 2 ≤ 359 := ⟨(hc 2 (by decide)).1, (hc 2 (by decide)).2.1⟩
      have v3 : 0 ≤ nv l 3 ∧ nv l 3 ≤ 100 := ⟨(hc 3 (by decide)).1, (hc 3 (by decide)).2.1⟩
      have n0 := hn 0 (by decide)
      have n1 := hn 1 (by decide)
      have n2 := hn 2 (by decide)
      have n3 := hn 3 (by decide)
      have hf : S 3 < 12 := by unfold full at hfl; omega
      refine wp_X5_takeLine F 5 w _ ?_
      exact ⟨⟨fun q => absurd q (by decide), fun q => absurd q (by decide), fun q => absurd q (by decide), fun q => absurd q (by decide), fun q => absurd q (by decide), fun q => cv_addErrand hC hS hf (fun w2 f2 c2 => q_v (hp' w2 f2 (by rw [n0, n1, n2, n3] at c2; exact c2) (sk_addE hS hf (by omega) v1 v2 v3))), fun q => absurd q (by decide), fun q => absurd q (by decide), fun q => absurd q (by decide), fun q => absurd q (by decide), fun q => absurd q (by decide), fun q => absurd q (by decide), fun q => absurd q (by decide), trivial⟩, fun q => absurd (by decide) q⟩
    · have v0 : 0 ≤ nv l 0 ∧ nv l 0 ≤ S 2 - 1 := ⟨(hc 0 (by decide)).1, (hc 0 (by decide)).2.1⟩
      have v1 : 0 ≤ nv l 1 ∧ nv l 1 ≤ S 1 - 1 := ⟨(hc 1 (by decide)).1, (hc 1 (by decide)).2.1⟩
      have n0 := hn 0 (by decide)
      have n1 := hn 1 (by decide)
      refine wp_X5_takeLine F 6 w _ ?_
      exact ⟨⟨fun q => absurd q (by decide), fun q => absurd q (by decide), fun q => absurd q (by decide), fun q => absurd q (by decide), fun q => absurd q (by decide), fun q => absurd q (by decide), fun q => (by rw [n0, n1]; exact ⟨⟨by omega, by omega⟩, fun w2 e2 => q_v (hp' w2 (by rw [e2]; exact Fr.rf.wI _ (by simp [Stl])) (by rw [e2]; exact car_has hC hS (by omega)) (sk_has hS (by omega) (by omega)))⟩), fun q => absurd q (by decide), fun q => absurd q (by decide), fun q => absurd q (by decide), fun q => absurd q (by decide), fun q => absurd q (by decide), fun q => absurd q (by decide), trivial⟩, fun q => absurd (by decide) q⟩
    · have v0 : 0 ≤ nv l 0 ∧ nv l 0 ≤ S 1 - 1 := ⟨(hc 0 (by decide)).1, (hc 0 (by decide)).2.1⟩
      have v1 : 0 ≤ nv l 1 ∧ nv l 1 ≤ 5 := ⟨(hc 1 (by decide)).1, (hc 1 (by decide)).2.1⟩
      have v2 : 0 ≤ nv l 2 ∧ nv l 2 ≤ 100 := ⟨(hc 2 (by decide)).1, (hc 2 (by decide)).2.1⟩
      have n0 := hn 0 (by decide)
      have n1 := hn 1 (by decide)
      have n2 := hn 2 (by decide)
      refine wp_X5_takeLine F 7 w _ ?_
      exact ⟨⟨fun q => absurd q (by decide), fun q => absurd q (by decide), fun q => absurd q (by decide), fun q => absurd q (by decide), fun q => absurd q (by decide), fun q => absurd q (by decide), fun q => absurd q (by decide), fun q => (by rw [n0, n1, n2]; exact ⟨⟨by omega, by omega⟩, fun w2 e2 => q_v (hp' w2 (by rw [e2]; exact Fr.rf.wI _ (by simp [Stl])) (by rw [e2]; exact car_busy hC hS (by omega) (by omega)) (sk_busy hS (by omega) (by omega) v2))⟩), fun q => absurd q (by decide), fun q => absurd q (by decide), fun q => absurd q (by decide), fun q => absurd q (by decide), fun q => absurd q (by decide), trivial⟩, fun q => absurd (by decide) q⟩
    · skip
      refine wp_X5_takeLine F 8 w _ ?_
      exact ⟨⟨fun q => absurd q (by decide), fun q => absurd q (by decide), fun q => absurd q (by decide), fun q => absurd q (by decide), fun q => absurd q (by decide), fun q => absurd q (by decide), fun q => absurd q (by decide), fun q => absurd q (by decide), fun q => (fun w2 e2 => q_v (hp' w2 (by rw [e2]; exact Fr.rf.wI _ (by simp [Stl])) (by rw [e2]; exact car_fu hC (Or.inr (Or.inl ⟨rfl, rfl⟩))) (sk_fu hS (Or.inr (Or.inl ⟨rfl, by decide, by decide⟩))))), fun q => absurd q (by decide), fun q => absurd q (by decide), fun q => absurd q (by decide), fun q => absurd q (by decide), trivial⟩, fun q => absurd (by decide) q⟩
    · skip
      refine wp_X5_takeLine F 9 w _ ?_
      exact ⟨⟨fun q => absurd q (by decide), fun q => absurd q (by decide), fun q => absurd q (by decide), fun q => absurd q (by decide), fun q => absurd q (by decide), fun q => absurd q (by decide), fun q => absurd q (by decide), fun q => absurd q (by decide), fun q => absurd q (by decide), fun q => (fun w2 e2 => q_v (hp' w2 (by rw [e2]; exact Fr.rf.wI _ (by simp [Stl])) (by rw [e2]; exact car_fu hC (Or.inr (Or.inl ⟨rfl, rfl⟩))) (sk_fu hS (Or.inr (Or.inl ⟨rfl, by decide, by decide⟩))))), fun q => absurd q (by decide), fun q => absurd q (by decide), fun q => absurd q (by decide), trivial⟩, fun q => absurd (by decide) q⟩
    · have v0 : 0 ≤ nv l 0 ∧ nv l 0 ≤ 999 := ⟨(hc 0 (by decide)).1, (hc 0 (by decide)).2.1⟩
      have n0 := hn 0 (by decide)
      refine wp_X5_takeLine F 10 w _ ?_
      exact ⟨⟨fun q => absurd q (by decide), fun q => absurd q (by decide), fun q => absurd q (by decide), fun q => absurd q (by decide), fun q => absurd q (by decide), fun q => absurd q (by decide), fun q => absurd q (by decide), fun q => absurd q (by decide), fun q => absurd q (by decide), fun q => absurd q (by decide), fun q => (fun w2 e2 w3 e3 => q_v (hp' w3 (by rw [e3, e2]; exact (Fr.rf.wI _ (by simp [Stl])).wI _ (by simp [Stl])) (by rw [e3, e2, wI_cell _ _ _ _ (by decide), n0]; exact car_fu (car_fu hC (Or.inr (Or.inl ⟨rfl, rfl⟩))) (Or.inr (Or.inr ⟨rfl, rfl⟩))) (sk_fu (sk_fu hS (Or.inr (Or.inl ⟨rfl, by decide, by decide⟩))) (Or.inr (Or.inr ⟨rfl, v0.1, v0.2⟩))))), fun q => absurd q (by decide), fun q => absurd q (by decide), trivial⟩, fun q => absurd (by decide) q⟩
    · skip
      refine wp_X5_takeLine F 11 w _ ?_
      exact ⟨⟨fun q => absurd q (by decide), fun q => absurd q (by decide), fun q => absurd q (by decide), fun q => absurd q (by decide), fun q => absurd q (by decide), fun q => absurd q (by decide), fun q => absurd q (by decide), fun q => absurd q (by decide), fun q => absurd q (by decide), fun q => absurd q (by decide), fun q => absurd q (by decide), fun q => (fun w2 e2 => q_v (hp' w2 (by rw [e2]; exact Fr.rf.wI _ (by simp [Stl])) (by rw [e2]; exact car_fu hC (Or.inr (Or.inl ⟨rfl, rfl⟩))) (sk_fu hS (Or.inr (Or.inl ⟨rfl, by decide, by decide⟩))))), fun q => absurd q (by decide), trivial⟩, fun q => absurd (by decide) q⟩
  · obtain ⟨hC, hD⟩ := hX.dk ho
    have hp' : ∀ w', Fr Stl w w' → CD w' 215 (tkl L S l) → DK (tkl L S l) → P w' := fun w' f' c' s' => hp w' f' (Or.inr ⟨ho, c', s'⟩)
    have s0 := hD.1
    have : L = 12 ∨ L = 13 := by omega
    rcases this with e | e <;> subst e
    · have v0 : 0 ≤ nv l 0 ∧ nv l 0 ≤ 7 := ⟨(hc 0 (by decide)).1, (hc 0 (by decide)).2.1⟩
      have v1 : 0 ≤ nv l 1 ∧ nv l 1 ≤ 13 := ⟨(hc 1 (by decide)).1, (hc 1 (by decide)).2.1⟩
      have n0 := hn 0 (by decide)
      have n1 := hn 1 (by decide)
      have hf : S 0 < 40 := by unfold full at hfl; omega
      refine wp_X5_takeLine F 12 w _ ?_
      exact ⟨⟨fun q => absurd q (by decide), fun q => absurd q (by decide), fun q => absurd q (by decide), fun q => absurd q (by decide), fun q => absurd q (by decide), fun q => absurd q (by decide), fun q => absurd q (by decide), fun q => absurd q (by decide), fun q => absurd q (by decide), fun q => absurd q (by decide), fun q => absurd q (by decide), fun q => absurd q (by decide), fun q => (by rw [n0, n1]; exact cv_addM (x := 0) hC hD hf (fun w2 f2 c2 => q_v (hp' w2 f2 c2 (dk_addM hD hf (Or.inl ⟨rfl, v0, v1⟩))))), trivial⟩, fun q => absurd (by decide) q⟩
    · have v0 : 1 ≤ nv l 0 ∧ nv l 0 ≤ 999 := ⟨(hc 0 (by decide)).1, (hc 0 (by decide)).2.1⟩
      have n0 := hn 0 (by decide)
      have hf : S 0 < 40 := by unfold full at hfl; omega
      refine wp_X5_takeLine F 13 w _ ?_
      exact ⟨⟨fun q => absurd q (by decide), fun q => absurd q (by decide), fun q => absurd q (by decide), fun q => absurd q (by decide), fun q => absurd q (by decide), fun q => absurd q (by decide), fun q => absurd q (by decide), fun q => absurd q (by decide), fun q => absurd q (by decide), fun q => absurd q (by decide), fun q => absurd q (by decide), fun q => absurd q (by decide), fun q => absurd q (by decide), trivial⟩, fun q => (by rw [n0]; exact cv_addM (x := 1) hC hD hf (fun w2 f2 c2 => q_v (hp' w2 f2 c2 (dk_addM hD hf (Or.inr ⟨rfl, rfl, v0⟩)))))⟩
