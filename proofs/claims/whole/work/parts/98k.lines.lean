/-! TEXTS: what a line does -/
def SK (T : Nat → Int) : Prop :=
  (2 ≤ T 0 ∧ T 0 ≤ 9) ∧ (0 ≤ T 1 ∧ T 1 ≤ 14) ∧ (0 ≤ T 2 ∧ T 2 ≤ 8) ∧ (0 ≤ T 3 ∧ T 3 ≤ 12) ∧ (0 ≤ T 4 ∧ T 4 ≤ 3) ∧ (0 ≤ T 5 ∧ T 5 ≤ 999) ∧
  (∀ r, 0 ≤ r → r < T 1 → (0 ≤ rA T r ∧ rA T r ≤ 8) ∧ (0 ≤ rB T r ∧ rB T r ≤ 8) ∧ rA T r ≠ rB T r ∧ (1 ≤ rM T r ∧ rM T r ≤ 30) ∧ (0 ≤ rP T r ∧ rP T r ≤ 99) ∧ (-1 ≤ rH T r ∧ rH T r < T 2) ∧ ∀ h, 0 ≤ h → h < 6 → 0 ≤ rC T r h ∧ rC T r h ≤ 100) ∧
  (∀ p, 0 ≤ p → p < T 2 → (0 ≤ pH T p ∧ pH T p ≤ 8) ∧ (0 ≤ pC T p ∧ pC T p ≤ 9) ∧ (0 ≤ pK T p ∧ pK T p ≤ 2)) ∧
  (∀ e, 0 ≤ e → e < T 3 → (0 ≤ eW T e ∧ eW T e < T 2) ∧ (0 ≤ eP T e ∧ eP T e ≤ 8) ∧ (0 ≤ eM T e ∧ eM T e ≤ 359) ∧ (0 ≤ eL T e ∧ eL T e ≤ 100))
def addR (S : Nat → Int) (a b c d : Int) : Nat → Int := fu (fu (fu (fu (fu (fu (fu (fu (fu (fu (fu (fu S (10 + 11 * S 1) (-1)) (11 + 11 * S 1) 0) (12 + 11 * S 1) 0) (13 + 11 * S 1) 0) (14 + 11 * S 1) 0) (15 + 11 * S 1) 0) (16 + 11 * S 1) 0) (6 + 11 * S 1) a) (7 + 11 * S 1) b) (8 + 11 * S 1) c) (9 + 11 * S 1) d) 1 (S 1 + 1)
def addP (S : Nat → Int) (a b k : Int) : Nat → Int := fu (fu (fu (fu S (160 + 3 * S 2) a) (161 + 3 * S 2) b) (162 + 3 * S 2) k) 2 (S 2 + 1)
def addE (S : Nat → Int) (a b c d : Int) : Nat → Int := fu (fu (fu (fu (fu S (184 + 4 * S 3) a) (185 + 4 * S 3) b) (186 + 4 * S 3) c) (187 + 4 * S 3) d) 3 (S 3 + 1)
def addM (S : Nat → Int) (x y z : Int) : Nat → Int := fu (fu (fu (fu S (1 + 3 * S 0) x) (2 + 3 * S 0) y) (3 + 3 * S 0) z) 0 (S 0 + 1)
/-! the same but for some entries -/
theorem addR_ne {S : Nat → Int} {a b c d : Int} {k : Nat} (h1 : k ≠ 1) (h : (k : Int) < 6 + 11 * S 1 ∨ 17 + 11 * S 1 ≤ k) : addR S a b c d k = S k := by
  unfold addR
  repeat rw [fu_ne (by omega)]
theorem addP_ne {S : Nat → Int} {a b c : Int} {k : Nat} (h1 : k ≠ 2) (h : (k : Int) < 160 + 3 * S 2 ∨ 163 + 3 * S 2 ≤ k) : addP S a b c k = S k := by
  unfold addP
  repeat rw [fu_ne (by omega)]
theorem addE_ne {S : Nat → Int} {a b c d : Int} {k : Nat} (h1 : k ≠ 3) (h : (k : Int) < 184 + 4 * S 3 ∨ 188 + 4 * S 3 ≤ k) : addE S a b c d k = S k := by
  unfold addE
  repeat rw [fu_ne (by omega)]
theorem addR_1 {S : Nat → Int} {a b c d : Int} : addR S a b c d 1 = S 1 + 1 := fu_eq rfl
theorem addP_2 {S : Nat → Int} {a b c : Int} : addP S a b c 2 = S 2 + 1 := fu_eq rfl
theorem addE_3 {S : Nat → Int} {a b c d : Int} : addE S a b c d 3 = S 3 + 1 := fu_eq rfl
theorem addR_new {S : Nat → Int} {a b c d : Int} (h : 0 ≤ S 1 ∧ S 1 < 14) : rA (addR S a b c d) (S 1) = a ∧ rB (addR S a b c d) (S 1) = b ∧ rM (addR S a b c d) (S 1) = c ∧ rP (addR S a b c d) (S 1) = d ∧ rH (addR S a b c d) (S 1) = -1 ∧ ∀ k, 0 ≤ k → k < 6 → rC (addR S a b c d) (S 1) k = 0 := by
  unfold rA rB rM rP rH rC addR
  refine ⟨?_, ?_, ?_, ?_, ?_, fun k k0 k1 => ?_⟩
  · (repeat rw [fu_ne (by omega)]); rw [fu_eq (by omega)]
  · (repeat rw [fu_ne (by omega)]); rw [fu_eq (by omega)]
  · (repeat rw [fu_ne (by omega)]); rw [fu_eq (by omega)]
  · (repeat rw [fu_ne (by omega)]); rw [fu_eq (by omega)]
  · (repeat rw [fu_ne (by omega)]); rw [fu_eq (by omega)]
  · have : k = 0 ∨ k = 1 ∨ k = 2 ∨ k = 3 ∨ k = 4 ∨ k = 5 := by omega
    rcases this with e | e | e | e | e | e <;> subst e <;> ((repeat rw [fu_ne (by omega)]); rw [fu_eq (by omega)])
theorem addP_new {S : Nat → Int} {a b c : Int} (h : 0 ≤ S 2 ∧ S 2 < 8) : pH (addP S a b c) (S 2) = a ∧ pC (addP S a b c) (S 2) = b ∧ pK (addP S a b c) (S 2) = c := by
  unfold pH pC pK addP
  refine ⟨?_, ?_, ?_⟩ <;> ((repeat rw [fu_ne (by omega)]); rw [fu_eq (by omega)])
theorem addE_new {S : Nat → Int} {a b c d : Int} (h : 0 ≤ S 3 ∧ S 3 < 12) : eW (addE S a b c d) (S 3) = a ∧ eP (addE S a b c d) (S 3) = b ∧ eM (addE S a b c d) (S 3) = c ∧ eL (addE S a b c d) (S 3) = d := by
  unfold eW eP eM eL addE
  refine ⟨?_, ?_, ?_, ?_⟩ <;> ((repeat rw [fu_ne (by omega)]); rw [fu_eq (by omega)])
/-- a town whose entries are another's, apart from what differs -/
theorem rd_same {S S' : Nat → Int} {r : Int} (h : ∀ k : Nat, 6 + 11 * r ≤ k → (k : Int) < 17 + 11 * r → S' k = S k) (h0 : 0 ≤ r) : rA S' r = rA S r ∧ rB S' r = rB S r ∧ rM S' r = rM S r ∧ rP S' r = rP S r ∧ rH S' r = rH S r ∧ ∀ k, 0 ≤ k → k < 6 → rC S' r k = rC S r k := by
  unfold rA rB rM rP rH rC
  exact ⟨h _ (by omega) (by omega), h _ (by omega) (by omega), h _ (by omega) (by omega), h _ (by omega) (by omega), h _ (by omega) (by omega), fun k k0 k1 => h _ (by omega) (by omega)⟩
theorem pe_same {S S' : Nat → Int} {p : Int} (h : ∀ k : Nat, 160 + 3 * p ≤ k → (k : Int) < 163 + 3 * p → S' k = S k) (h0 : 0 ≤ p) : pH S' p = pH S p ∧ pC S' p = pC S p ∧ pK S' p = pK S p := by
  unfold pH pC pK
  exact ⟨h _ (by omega) (by omega), h _ (by omega) (by omega), h _ (by omega) (by omega)⟩
theorem er_same {S S' : Nat → Int} {e : Int} (h : ∀ k : Nat, 184 + 4 * e ≤ k → (k : Int) < 188 + 4 * e → S' k = S k) (h0 : 0 ≤ e) : eW S' e = eW S e ∧ eP S' e = eP S e ∧ eM S' e = eM S e ∧ eL S' e = eL S e := by
  unfold eW eP eM eL
  exact ⟨h _ (by omega) (by omega), h _ (by omega) (by omega), h _ (by omega) (by omega), h _ (by omega) (by omega)⟩
theorem sk_addR {S : Nat → Int} {a b c d : Int} (h : SK S) (hf : S 1 < 14) (ha : 0 ≤ a ∧ a ≤ 8) (hb : 0 ≤ b ∧ b ≤ 8) (hab : a ≠ b) (hc : 1 ≤ c ∧ c ≤ 30) (hd : 0 ≤ d ∧ d ≤ 99) : SK (addR S a b c d) := by
  obtain ⟨s0, s1, s2, s3, s4, s5, hr, hp, he⟩ := h
  have n := fun k h1 h2 => addR_ne (S := S) (a := a) (b := b) (c := c) (d := d) (k := k) h1 h2
  have nw := addR_new (S := S) (a := a) (b := b) (c := c) (d := d) (by omega)
  refine ⟨by rw [n 0 (by omega) (by omega)]; exact s0, by rw [addR_1]; omega, by rw [n 2 (by omega) (by omega)]; exact s2, by rw [n 3 (by omega) (by omega)]; exact s3, by rw [n 4 (by omega) (by omega)]; exact s4, by rw [n 5 (by omega) (by omega)]; exact s5, fun r r0 r1 => ?_, fun p p0 p1 => ?_, fun e e0 e1 => ?_⟩
  · rw [addR_1] at r1
    rw [n 2 (by omega) (by omega)]
    by_cases z : r = S 1
    · obtain ⟨w1, w2, w3, w4, w5, w6⟩ := nw
      rw [z, w1, w2, w3, w4, w5]
      exact ⟨ha, hb, hab, hc, hd, by omega, fun k k0 k1 => by rw [w6 k k0 k1]; omega⟩
    · obtain ⟨w1, w2, w3, w4, w5, w6⟩ := rd_same (S := S) (S' := addR S a b c d) (r := r) (fun k k1 k2 => n k (by omega) (by omega)) r0
      rw [w1, w2, w3, w4, w5]
      have := hr r r0 (by omega)
      exact ⟨this.1, this.2.1, this.2.2.1, this.2.2.2.1, this.2.2.2.2.1, this.2.2.2.2.2.1, fun k k0 k1 => by rw [w6 k k0 k1]; exact this.2.2.2.2.2.2 k k0 k1⟩
  · rw [n 2 (by omega) (by omega)] at p1
    obtain ⟨w1, w2, w3⟩ := pe_same (S := S) (S' := addR S a b c d) (p := p) (fun k k1 k2 => n k (by omega) (by omega)) p0
    rw [w1, w2, w3]
    exact hp p p0 p1
  · rw [n 3 (by omega) (by omega)] at e1
    obtain ⟨w1, w2, w3, w4⟩ := er_same (S := S) (S' := addR S a b c d) (e := e) (fun k k1 k2 => n k (by omega) (by omega)) e0
    rw [w1, w2, w3, w4, n 2 (by omega) (by omega)]
    exact he e e0 e1
theorem sk_addP {S : Nat → Int} {a b c : Int} (h : SK S) (hf : S 2 < 8) (ha : 0 ≤ a ∧ a ≤ 8) (hb : 0 ≤ b ∧ b ≤ 9) (hc : 0 ≤ c ∧ c ≤ 2) : SK (addP S a b c) := by
  obtain ⟨s0, s1, s2, s3, s4, s5, hr, hp, he⟩ := h
  have n := fun k h1 h2 => addP_ne (S := S) (a := a) (b := b) (c := c) (k := k) h1 h2
  have nw := addP_new (S := S) (a := a) (b := b) (c := c) (by omega)
  refine ⟨by rw [n 0 (by omega) (by omega)]; exact s0, by rw [n 1 (by omega) (by omega)]; exact s1, by rw [addP_2]; omega, by rw [n 3 (by omega) (by omega)]; exact s3, by rw [n 4 (by omega) (by omega)]; exact s4, by rw [n 5 (by omega) (by omega)]; exact s5, fun r r0 r1 => ?_, fun p p0 p1 => ?_, fun e e0 e1 => ?_⟩
  · rw [n 1 (by omega) (by omega)] at r1
    rw [addP_2]
    obtain ⟨w1, w2, w3, w4, w5, w6⟩ := rd_same (S := S) (S' := addP S a b c) (r := r) (fun k k1 k2 => n k (by omega) (by omega)) r0
    rw [w1, w2, w3, w4, w5]
    have := hr r r0 (by omega)
    exact ⟨this.1, this.2.1, this.2.2.1, this.2.2.2.1, this.2.2.2.2.1, by omega, fun k k0 k1 => by rw [w6 k k0 k1]; exact this.2.2.2.2.2.2 k k0 k1⟩
  · rw [addP_2] at p1
    by_cases z : p = S 2
    · obtain ⟨w1, w2, w3⟩ := nw
      rw [z, w1, w2, w3]
      exact ⟨ha, hb, hc⟩
    · obtain ⟨w1, w2, w3⟩ := pe_same (S := S) (S' := addP S a b c) (p := p) (fun k k1 k2 => n k (by omega) (by omega)) p0
      rw [w1, w2, w3]
      exact hp p p0 (by omega)
  · rw [n 3 (by omega) (by omega)] at e1
    obtain ⟨w1, w2, w3, w4⟩ := er_same (S := S) (S' := addP S a b c) (e := e) (fun k k1 k2 => n k (by omega) (by omega)) e0
    rw [w1, w2, w3, w4, addP_2]
    have := he e e0 e1
    exact ⟨by omega, this.2⟩
theorem sk_addE {S : Nat → Int} {a b c d : Int} (h : SK S) (hf : S 3 < 12) (ha : 0 ≤ a ∧ a < S 2) (hb : 0 ≤ b ∧ b ≤ 8) (hc : 0 ≤ c ∧ c ≤ 359) (hd : 0 ≤ d ∧ d ≤ 100) : SK (addE S a b c d) := by
  obtain ⟨s0, s1, s2, s3, s4, s5, hr, hp, he⟩ := h
  have n := fun k h1 h2 => addE_ne (S := S) (a := a) (b := b) (c := c) (d := d) (k := k) h1 h2
  have nw := addE_new (S := S) (a := a) (b := b) (c := c) (d := d) (by omega)
  refine ⟨by rw [n 0 (by omega) (by omega)]; exact s0, by rw [n 1 (by omega) (by omega)]; exact s1, by rw [n 2 (by omega) (by omega)]; exact s2, by rw [addE_3]; omega, by rw [n 4 (by omega) (by omega)]; exact s4, by rw [n 5 (by omega) (by omega)]; exact s5, fun r r0 r1 => ?_, fun p p0 p1 => ?_, fun e e0 e1 => ?_⟩
  · rw [n 1 (by omega) (by omega)] at r1
    rw [n 2 (by omega) (by omega)]
    obtain ⟨w1, w2, w3, w4, w5, w6⟩ := rd_same (S := S) (S' := addE S a b c d) (r := r) (fun k k1 k2 => n k (by omega) (by omega)) r0
    rw [w1, w2, w3, w4, w5]
    have := hr r r0 (by omega)
    exact ⟨this.1, this.2.1, this.2.2.1, this.2.2.2.1, this.2.2.2.2.1, by omega, fun k k0 k1 => by rw [w6 k k0 k1]; exact this.2.2.2.2.2.2 k k0 k1⟩
  · rw [n 2 (by omega) (by omega)] at p1
    obtain ⟨w1, w2, w3⟩ := pe_same (S := S) (S' := addE S a b c d) (p := p) (fun k k1 k2 => n k (by omega) (by omega)) p0
    rw [w1, w2, w3]
    exact hp p p0 (by omega)
  · rw [addE_3] at e1
    rw [n 2 (by omega) (by omega)]
    by_cases z : e = S 3
    · obtain ⟨w1, w2, w3, w4⟩ := nw
      rw [z, w1, w2, w3, w4]
      exact ⟨ha, hb, hc, hd⟩
    · obtain ⟨w1, w2, w3, w4⟩ := er_same (S := S) (S' := addE S a b c d) (e := e) (fun k k1 k2 => n k (by omega) (by omega)) e0
      rw [w1, w2, w3, w4]
      exact he e e0 (by omega)
/-- a change ahead of the roads -/
theorem sk_fu {S : Nat → Int} {i v : Int} (h : SK S) (hi : i = 0 ∧ 2 ≤ v ∧ v ≤ 9 ∨ i = 4 ∧ 0 ≤ v ∧ v ≤ 3 ∨ i = 5 ∧ 0 ≤ v ∧ v ≤ 999) : SK (fu S i v) := by
  obtain ⟨s0, s1, s2, s3, s4, s5, hr, hp, he⟩ := h
  have n : ∀ k : Nat, (k : Int) ≠ i → fu S i v k = S k := fun k hk => fu_ne hk
  have e1 := n 1 (by omega)
  have e2 := n 2 (by omega)
  have e3 := n 3 (by omega)
  refine ⟨?_, by rw [e1]; exact s1, by rw [e2]; exact s2, by rw [e3]; exact s3, ?_, ?_, fun r r0 r1 => ?_, fun p p0 p1 => ?_, fun e e0 e4 => ?_⟩
  · by_cases z : i = 0
    · rw [fu_eq (by omega)]; omega
    · rw [n 0 (by omega)]; exact s0
  · by_cases z : i = 4
    · rw [fu_eq (by omega)]; omega
    · rw [n 4 (by omega)]; exact s4
  · by_cases z : i = 5
    · rw [fu_eq (by omega)]; omega
    · rw [n 5 (by omega)]; exact s5
  · rw [e1] at r1
    rw [e2]
    obtain ⟨w1, w2, w3, w4, w5, w6⟩ := rd_same (S := S) (S' := fu S i v) (r := r) (fun k k1 k2 => n k (by omega)) r0
    rw [w1, w2, w3, w4, w5]
    have := hr r r0 (by omega)
    exact ⟨this.1, this.2.1, this.2.2.1, this.2.2.2.1, this.2.2.2.2.1, by omega, fun k k0 k1 => by rw [w6 k k0 k1]; exact this.2.2.2.2.2.2 k k0 k1⟩
  · rw [e2] at p1
    obtain ⟨w1, w2, w3⟩ := pe_same (S := S) (S' := fu S i v) (p := p) (fun k k1 k2 => n k (by omega)) p0
    rw [w1, w2, w3]
    exact hp p p0 (by omega)
  · rw [e3] at e4
    rw [e2]
    obtain ⟨w1, w2, w3, w4⟩ := er_same (S := S) (S' := fu S i v) (e := e) (fun k k1 k2 => n k (by omega)) e0
    rw [w1, w2, w3, w4]
    exact he e e0 (by omega)
/-- whose a road is, or a chance -/
theorem sk_has {S : Nat → Int} {a b : Int} (h : SK S) (ha : 0 ≤ a ∧ a < S 2) (hb : 0 ≤ b ∧ b < S 1) : SK (fu S (10 + 11 * b) a) := by
  obtain ⟨s0, s1, s2, s3, s4, s5, hr, hp, he⟩ := h
  have n : ∀ k : Nat, (k : Int) ≠ 10 + 11 * b → fu S (10 + 11 * b) a k = S k := fun k hk => fu_ne hk
  have e1 := n 1 (by omega)
  have e2 := n 2 (by omega)
  have e3 := n 3 (by omega)
  refine ⟨by rw [n 0 (by omega)]; exact s0, by rw [e1]; exact s1, by rw [e2]; exact s2, by rw [e3]; exact s3, by rw [n 4 (by omega)]; exact s4, by rw [n 5 (by omega)]; exact s5, fun r r0 r1 => ?_, fun p p0 p1 => ?_, fun e e0 e4 => ?_⟩
  · rw [e1] at r1
    rw [e2]
    have := hr r r0 (by omega)
    have f1 : rA (fu S (10 + 11 * b) a) r = rA S r := n _ (by omega)
    have f2 : rB (fu S (10 + 11 * b) a) r = rB S r := n _ (by omega)
    have f3 : rM (fu S (10 + 11 * b) a) r = rM S r := n _ (by omega)
    have f4 : rP (fu S (10 + 11 * b) a) r = rP S r := n _ (by omega)
    rw [f1, f2, f3, f4]
    refine ⟨this.1, this.2.1, this.2.2.1, this.2.2.2.1, this.2.2.2.2.1, ?_, fun k k0 k1 => ?_⟩
    · by_cases z : r = b
      · have : rH (fu S (10 + 11 * b) a) r = a := fu_eq (by omega)
        rw [this]; omega
      · have f5 : rH (fu S (10 + 11 * b) a) r = rH S r := n _ (by omega)
        rw [f5]; exact this.2.2.2.2.2.1
    · have f6 : rC (fu S (10 + 11 * b) a) r k = rC S r k := n _ (by omega)
      rw [f6]; exact this.2.2.2.2.2.2 k k0 k1
  · rw [e2] at p1
    obtain ⟨w1, w2, w3⟩ := pe_same (S := S) (S' := fu S (10 + 11 * b) a) (p := p) (fun k k1 k2 => n k (by omega)) p0
    rw [w1, w2, w3]
    exact hp p p0 (by omega)
  · rw [e3] at e4
    rw [e2]
    obtain ⟨w1, w2, w3, w4⟩ := er_same (S := S) (S' := fu S (10 + 11 * b) a) (e := e) (fun k k1 k2 => n k (by omega)) e0
    rw [w1, w2, w3, w4]
    exact he e e0 (by omega)
theorem sk_busy {S : Nat → Int} {a b c : Int} (h : SK S) (ha : 0 ≤ a ∧ a < S 1) (hb : 0 ≤ b ∧ b < 6) (hc : 0 ≤ c ∧ c ≤ 100) : SK (fu S (11 + 11 * a + b) c) := by
  obtain ⟨s0, s1, s2, s3, s4, s5, hr, hp, he⟩ := h
  have n : ∀ k : Nat, (k : Int) ≠ 11 + 11 * a + b → fu S (11 + 11 * a + b) c k = S k := fun k hk => fu_ne hk
  have e1 := n 1 (by omega)
  have e2 := n 2 (by omega)
  have e3 := n 3 (by omega)
  refine ⟨by rw [n 0 (by omega)]; exact s0, by rw [e1]; exact s1, by rw [e2]; exact s2, by rw [e3]; exact s3, by rw [n 4 (by omega)]; exact s4, by rw [n 5 (by omega)]; exact s5, fun r r0 r1 => ?_, fun p p0 p1 => ?_, fun e e0 e4 => ?_⟩
  · rw [e1] at r1
    rw [e2]
    have := hr r r0 (by omega)
    have f1 : rA (fu S (11 + 11 * a + b) c) r = rA S r := n _ (by omega)
    have f2 : rB (fu S (11 + 11 * a + b) c) r = rB S r := n _ (by omega)
    have f3 : rM (fu S (11 + 11 * a + b) c) r = rM S r := n _ (by omega)
    have f4 : rP (fu S (11 + 11 * a + b) c) r = rP S r := n _ (by omega)
    have f5 : rH (fu S (11 + 11 * a + b) c) r = rH S r := n _ (by omega)
    rw [f1, f2, f3, f4, f5]
    refine ⟨this.1, this.2.1, this.2.2.1, this.2.2.2.1, this.2.2.2.2.1, this.2.2.2.2.2.1, fun k k0 k1 => ?_⟩
    by_cases z : r = a ∧ k = b
    · have : rC (fu S (11 + 11 * a + b) c) r k = c := fu_eq (by omega)
      rw [this]; omega
    · have f6 : rC (fu S (11 + 11 * a + b) c) r k = rC S r k := n _ (by omega)
      rw [f6]; exact this.2.2.2.2.2.2 k k0 k1
  · rw [e2] at p1
    obtain ⟨w1, w2, w3⟩ := pe_same (S := S) (S' := fu S (11 + 11 * a + b) c) (p := p) (fun k k1 k2 => n k (by omega)) p0
    rw [w1, w2, w3]
    exact hp p p0 (by omega)
  · rw [e3] at e4
    rw [e2]
    obtain ⟨w1, w2, w3, w4⟩ := er_same (S := S) (S' := fu S (11 + 11 * a + b) c) (e := e) (fun k k1 k2 => n k (by omega)) e0
    rw [w1, w2, w3, w4]
    exact he e e0 (by omega)
theorem dk_addM {S : Nat → Int} {x y z : Int} (h : DK S) (hf : S 0 < 40) (hm : MV x y z) : DK (addM S x y z) := by
  obtain ⟨h0, h1⟩ := h
  have e0 : addM S x y z 0 = S 0 + 1 := fu_eq rfl
  refine ⟨by rw [e0]; omega, fun k k0 k1 => ?_⟩
  rw [e0] at k1
  by_cases q : k = S 0
  · have f0 : d0 (addM S x y z) k = x := by
      unfold d0 addM
      (repeat rw [fu_ne (by omega)]); rw [fu_eq (by omega)]
    have f1 : d1 (addM S x y z) k = y := by
      unfold d1 addM
      (repeat rw [fu_ne (by omega)]); rw [fu_eq (by omega)]
    have f2 : d2 (addM S x y z) k = z := by
      unfold d2 addM
      (repeat rw [fu_ne (by omega)]); rw [fu_eq (by omega)]
    rw [f0, f1, f2]
    exact hm
  · have f0 : d0 (addM S x y z) k = d0 S k := by
      unfold d0 addM
      repeat rw [fu_ne (by omega)]
    have f1 : d1 (addM S x y z) k = d1 S k := by
      unfold d1 addM
      repeat rw [fu_ne (by omega)]
    have f2 : d2 (addM S x y z) k = d2 S k := by
      unfold d2 addM
      repeat rw [fu_ne (by omega)]
    rw [f0, f1, f2]
    exact h1 k k0 (by omega)
