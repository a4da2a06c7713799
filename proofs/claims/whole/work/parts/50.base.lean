/-! TOOLS -/
theorem w_1 : w32 1 = 1 := by decide
theorem q_i {P : Int → AW → Prop} {x : Int} {w : AW} (h : P x w) : qq 1 (fun r w => ∃ x, r = some (vI x) ∧ P x w) (some (vI x)) w := ⟨rfl, x, rfl, h⟩
theorem q_z {P : Int → AW → Prop} {x : Int} {w : AW} (hx : x = 0 ∨ x = 1) (h : P x w) : qq 2 (fun r w => ∃ x, r = some (vI x) ∧ P x w) (some (vI x)) w := ⟨by rcases hx with rfl | rfl <;> rfl, x, rfl, h⟩
theorem q_z0 {P : Int → AW → Prop} {w : AW} (h : P 0 w) : qq 2 (fun r w => ∃ x, r = some (vI x) ∧ P x w) (some (vI 0)) w := ⟨rfl, 0, rfl, h⟩
theorem q_z1 {P : Int → AW → Prop} {w : AW} (h : P 1 w) : qq 2 (fun r w => ∃ x, r = some (vI x) ∧ P x w) (some (vI 1)) w := ⟨rfl, 1, rfl, h⟩
theorem q_l {P : Int → AW → Prop} {x : Int} {w : AW} (h : P x w) : qq 4 (fun r w => ∃ x, r = some (vL x) ∧ P x w) (some (vL x)) w := ⟨rfl, x, rfl, h⟩
theorem q_v {P : AW → Prop} {w : AW} (h : P w) : qq 0 (fun r w => r = none ∧ P w) none w := ⟨rfl, rfl, h⟩
theorem q_r {P : Option Nat → AW → Prop} {x : Option Nat} {w : AW} (h : P x w) : qq 5 (fun r w => ∃ v, r = some (.inr (.inr (some v))) ∧ P v w) (some (.inr (.inr (some x)))) w := ⟨rfl, x, rfl, h⟩
theorem br0 {A B : Prop} (h : A) : (w32 0 = 0 → A) ∧ (¬ w32 0 = 0 → B) := ⟨fun _ => h, fun q => absurd w_0 q⟩
theorem br1 {A B : Prop} (h : B) : (w32 1 = 0 → A) ∧ (¬ w32 1 = 0 → B) := ⟨fun q => absurd q (by decide), fun _ => h⟩
/-- a place of the world is written -/
theorem wI_at (w : AW) (j k : Nat) (x : Int) (a b : Nat) : (wI w j k x).1 a b = if a = j ∧ b = k then x else w.1 a b := by
  show u2 w.1 j k x a b = _
  unfold u2
  by_cases h : a = j
  · by_cases h2 : b = k
    · rw [if_pos h, if_pos h2, if_pos ⟨h, h2⟩]
    · rw [if_pos h, if_neg h2, if_neg (fun q => h2 q.2)]
  · rw [if_neg h, if_neg (fun q => h q.1)]
theorem wI_same (w : AW) (j k : Nat) (x : Int) : (wI w j k x).1 j k = x := by rw [wI_at, if_pos ⟨rfl, rfl⟩]
theorem wI_cell (w : AW) (j k : Nat) (x : Int) {a b : Nat} (h : a ≠ j) : (wI w j k x).1 a b = w.1 a b := by rw [wI_at, if_neg (fun q => h q.1)]
theorem wI_idx (w : AW) (j k : Nat) (x : Int) {a b : Nat} (h : b ≠ k) : (wI w j k x).1 a b = w.1 a b := by rw [wI_at, if_neg (fun q => h q.2)]
theorem wI_L (w : AW) (j k : Nat) (x : Int) : (wI w j k x).2 = w.2 := rfl
theorem wL_I (w : AW) (j k : Nat) (x : Int) : (wL w j k x).1 = w.1 := rfl
theorem wL_R (w : AW) (j k : Nat) (x : Int) : (wL w j k x).2.2 = w.2.2 := rfl
theorem wL_at (w : AW) (j k : Nat) (x : Int) (a b : Nat) : (wL w j k x).2.1 a b = if a = j ∧ b = k then x else w.2.1 a b := by
  show u2 w.2.1 j k x a b = _
  unfold u2
  by_cases h : a = j
  · by_cases h2 : b = k
    · rw [if_pos h, if_pos h2, if_pos ⟨h, h2⟩]
    · rw [if_pos h, if_neg h2, if_neg (fun q => h2 q.2)]
  · rw [if_neg h, if_neg (fun q => h q.1)]
theorem wC_at (w : AW) (a b sp dp n x k : Nat) : (wC w a b sp dp n).1 x k = if x = b ∧ dp ≤ k ∧ k < dp + n then w.1 a (sp + (k - dp)) else w.1 x k := by
  show cpy w.1 a b sp dp n x k = _
  unfold cpy
  by_cases h : x = b
  · by_cases h2 : dp ≤ k ∧ k < dp + n
    · rw [if_pos h, if_pos h2, if_pos ⟨h, h2⟩]
    · rw [if_pos h, if_neg h2, if_neg (fun q => h2 q.2)]
  · rw [if_neg h, if_neg (fun q => h q.1)]
/-- what is not written is as it was -/
def Fr (S : Nat → Nat → Prop) (w w' : AW) : Prop := (∀ j k, ¬ S j k → w'.1 j k = w.1 j k ∧ w'.2.1 j k = w.2.1 j k) ∧ w'.2.2 = w.2.2
theorem Fr.rf {S : Nat → Nat → Prop} {w : AW} : Fr S w w := ⟨fun _ _ _ => ⟨rfl, rfl⟩, rfl⟩
theorem Fr.tr {S : Nat → Nat → Prop} {w1 w2 w3 : AW} (h : Fr S w1 w2) (h' : Fr S w2 w3) : Fr S w1 w3 := ⟨fun j k q => ⟨(h'.1 j k q).1.trans (h.1 j k q).1, (h'.1 j k q).2.trans (h.1 j k q).2⟩, h'.2.trans h.2⟩
theorem Fr.wk {S S' : Nat → Nat → Prop} {w1 w2 : AW} (h : Fr S w1 w2) (hs : ∀ j k, S j k → S' j k) : Fr S' w1 w2 := ⟨fun j k q => h.1 j k (fun z => q (hs j k z)), h.2⟩
theorem Fr.wI {S : Nat → Nat → Prop} {w w' : AW} (h : Fr S w w') {j k : Nat} (x : Int) (hs : S j k) : Fr S w (wI w' j k x) := by
  refine ⟨fun a b q => ?_, h.2⟩
  have hq := h.1 a b q
  refine ⟨?_, hq.2⟩
  rw [wI_at, if_neg (fun z => q (by rw [z.1, z.2]; exact hs))]
  exact hq.1
theorem Fr.wL {S : Nat → Nat → Prop} {w w' : AW} (h : Fr S w w') {j k : Nat} (x : Int) (hs : S j k) : Fr S w (wL w' j k x) := by
  refine ⟨fun a b q => ?_, h.2⟩
  have hq := h.1 a b q
  refine ⟨hq.1, ?_⟩
  rw [wL_at, if_neg (fun z => q (by rw [z.1, z.2]; exact hs))]
  exact hq.2
theorem Fr.wC {S : Nat → Nat → Prop} {w w' : AW} (h : Fr S w w') {a b sp dp n : Nat} (hs : ∀ k, dp ≤ k → k < dp + n → S b k) : Fr S w (wC w' a b sp dp n) := by
  refine ⟨fun x k q => ?_, h.2⟩
  have hq := h.1 x k q
  refine ⟨?_, hq.2⟩
  rw [wC_at, if_neg (fun z => q (by rw [z.1]; exact hs k z.2.1 z.2.2))]
  exact hq.1
theorem Fr.I {S : Nat → Nat → Prop} {w w' : AW} (h : Fr S w w') (j k : Nat) (hs : ¬ S j k) : w'.1 j k = w.1 j k := (h.1 j k hs).1
theorem Fr.L {S : Nat → Nat → Prop} {w w' : AW} (h : Fr S w w') (j k : Nat) (hs : ¬ S j k) : w'.2.1 j k = w.2.1 j k := (h.1 j k hs).2
/-- a loop that counts up: i goes from a to b -/
theorem tt_for {K : Nat → AK} {Q : Option AV → AW → Prop} (b : Int) (lo : Int → AW → List AV → Prop) (hs : ∀ n i l w, lo i w l → (∀ l' w', lo (i + 1) w' l' → i < b → TT (K n l' [] w') Q) → TT (K (n + 1) l [] w) Q) : ∀ n i l w, (b - i).toNat < n → lo i w l → TT (K n l [] w) Q := by
  intro n
  induction n with
  | zero => intro i l w h _; exact absurd h (Nat.not_lt_zero _)
  | succ n ih =>
    intro i l w hn h
    exact hs n i l w h (fun l' w' h' hb => ih (i + 1) l' w' (by omega) h')
/-! A TOWN AS A ROW OF NUMBERS, as the reference keeps it -/
def rA (T : Nat → Int) (r : Int) : Int := T (6 + 11 * r).toNat
def rB (T : Nat → Int) (r : Int) : Int := T (7 + 11 * r).toNat
def rM (T : Nat → Int) (r : Int) : Int := T (8 + 11 * r).toNat
def rP (T : Nat → Int) (r : Int) : Int := T (9 + 11 * r).toNat
def rH (T : Nat → Int) (r : Int) : Int := T (10 + 11 * r).toNat
def rC (T : Nat → Int) (r h : Int) : Int := T (11 + 11 * r + h).toNat
def pH (T : Nat → Int) (p : Int) : Int := T (160 + 3 * p).toNat
def pC (T : Nat → Int) (p : Int) : Int := T (161 + 3 * p).toNat
def pK (T : Nat → Int) (p : Int) : Int := T (162 + 3 * p).toNat
def eW (T : Nat → Int) (e : Int) : Int := T (184 + 4 * e).toNat
def eP (T : Nat → Int) (e : Int) : Int := T (185 + 4 * e).toNat
def eM (T : Nat → Int) (e : Int) : Int := T (186 + 4 * e).toNat
def eL (T : Nat → Int) (e : Int) : Int := T (187 + 4 * e).toNat
def TK (T : Nat → Int) : Prop :=
  (2 ≤ T 0 ∧ T 0 ≤ 9) ∧ (0 ≤ T 1 ∧ T 1 ≤ 14) ∧ (0 ≤ T 2 ∧ T 2 ≤ 8) ∧ (0 ≤ T 3 ∧ T 3 ≤ 12) ∧ (0 ≤ T 4 ∧ T 4 ≤ 3) ∧ (0 ≤ T 5 ∧ T 5 ≤ 999) ∧
  (∀ r, 0 ≤ r → r < T 1 → (0 ≤ rA T r ∧ rA T r < T 0) ∧ (0 ≤ rB T r ∧ rB T r < T 0) ∧ rA T r ≠ rB T r ∧ (1 ≤ rM T r ∧ rM T r ≤ 30) ∧ (0 ≤ rP T r ∧ rP T r ≤ 99) ∧ (-1 ≤ rH T r ∧ rH T r < T 2) ∧ ∀ h, 0 ≤ h → h < 6 → 0 ≤ rC T r h ∧ rC T r h ≤ 100) ∧
  (∀ p, 0 ≤ p → p < T 2 → (0 ≤ pH T p ∧ pH T p < T 0) ∧ (0 ≤ pC T p ∧ pC T p ≤ 9) ∧ (0 ≤ pK T p ∧ pK T p ≤ 2)) ∧
  (∀ e, 0 ≤ e → e < T 3 → (0 ≤ eW T e ∧ eW T e < T 2) ∧ (0 ≤ eP T e ∧ eP T e < T 0) ∧ (0 ≤ eM T e ∧ eM T e ≤ 359) ∧ (0 ≤ eL T e ∧ eL T e ≤ 100))
/-! THE REFERENCE WITH A TOWN IN HAND -/
def HA (w : AW) (T : Nat → Int) : Prop :=
  (w.1 0 21 = 0 ∨ w.1 0 21 = 232) ∧ w.1 0 22 = T 0 ∧ w.1 0 23 = T 1 ∧ w.1 0 24 = T 2 ∧ w.1 0 25 = T 3 ∧ w.1 0 26 = T 4 ∧ w.1 0 27 = T 5 ∧
  (∀ r, 0 ≤ r → r < T 1 → w.1 6 ((((w.1 0 21) + 6) + (11 * r)) + 0).toNat = rA T r ∧ w.1 6 ((((w.1 0 21) + 6) + (11 * r)) + 1).toNat = rB T r ∧ w.1 6 ((((w.1 0 21) + 6) + (11 * r)) + 2).toNat = rM T r ∧ w.1 6 ((((w.1 0 21) + 6) + (11 * r)) + 3).toNat = rP T r ∧ (∀ h, 0 ≤ h → h < 6 → w.1 6 ((((w.1 0 21) + 6) + (11 * r)) + (5 + h)).toNat = rC T r h) ∧ (if r = w.1 0 29 then w.1 0 30 else w.1 6 ((((w.1 0 21) + 6) + (11 * r)) + 4).toNat) = rH T r) ∧
  (∀ p, 0 ≤ p → p < T 2 → w.1 6 ((((w.1 0 21) + 160) + (3 * p)) + 1).toNat = pC T p ∧ w.1 11 p.toNat = pK T p ∧ w.1 23 p.toNat = pH T p) ∧
  (∀ e, 0 ≤ e → e < T 3 → w.1 6 ((((w.1 0 21) + 184) + (4 * e)) + 0).toNat = eW T e ∧ w.1 6 ((((w.1 0 21) + 184) + (4 * e)) + 1).toNat = eP T e ∧ w.1 6 ((((w.1 0 21) + 184) + (4 * e)) + 3).toNat = eL T e ∧ w.1 24 e.toNat = eM T e) ∧
  (w.1 0 29 = -1 ∨ (0 ≤ w.1 0 29 ∧ w.1 0 29 < 14))
/-- fields and rows that a town in hand is read from -/
abbrev SHA (j k : Nat) : Prop := j = 6 ∨ j = 11 ∨ j = 23 ∨ j = 24 ∨ (j = 0 ∧ 21 ≤ k ∧ k ≤ 30 ∧ k ≠ 28)
theorem HA.fr {w w' : AW} {T : Nat → Int} {S : Nat → Nat → Prop} (h : HA w T) (hf : Fr S w w') (hs : ∀ j k, SHA j k → ¬ S j k) : HA w' T := by
  have f6 : ∀ k, w'.1 6 k = w.1 6 k := fun k => hf.I 6 k (hs 6 k (by simp [SHA]))
  have f11 : ∀ k, w'.1 11 k = w.1 11 k := fun k => hf.I 11 k (hs 11 k (by simp [SHA]))
  have f23 : ∀ k, w'.1 23 k = w.1 23 k := fun k => hf.I 23 k (hs 23 k (by simp [SHA]))
  have f24 : ∀ k, w'.1 24 k = w.1 24 k := fun k => hf.I 24 k (hs 24 k (by simp [SHA]))
  have f0 : ∀ k, 21 ≤ k → k ≤ 30 → k ≠ 28 → w'.1 0 k = w.1 0 k := fun k h1 h2 h3 => hf.I 0 k (hs 0 k (by simp [SHA]; omega))
  unfold HA at h ⊢
  rw [f0 21 (by omega) (by omega) (by omega), f0 22 (by omega) (by omega) (by omega), f0 23 (by omega) (by omega) (by omega), f0 24 (by omega) (by omega) (by omega), f0 25 (by omega) (by omega) (by omega), f0 26 (by omega) (by omega) (by omega), f0 27 (by omega) (by omega) (by omega), f0 29 (by omega) (by omega) (by omega), f0 30 (by omega) (by omega) (by omega)]
  simp only [f6, f11, f23, f24]
  exact h
theorem ci_in {F : Nat} {v a b : Int} {w : AW} {P : Int → AW → Prop} (hv : iR v) (ha : iR a) (hb : iR b) (h1 : a ≤ v ∧ v ≤ b → P 1 w) (h0 : ¬ (a ≤ v ∧ v ≤ b) → P 0 w) : CI (m_X9_in F [vI v, vI a, vI b] w) P := by
  refine wp_X9_in F v a b w _ ?_
  rw [w_id hv.1 hv.2, w_id ha.1 ha.2, w_id hb.1 hb.2]
  exact ⟨fun q => q_z0 (h0 (by omega)), fun q => ⟨fun q2 => q_z0 (h0 (by omega)), fun q2 => q_z1 (h1 (by omega))⟩⟩
theorem ci_isTown {F : Nat} {t : Int} {w : AW} {P : Int → AW → Prop} (ht : iR t) (hm : 0 ≤ w.1 5 0 ∧ w.1 5 0 ≤ 2) (h1 : 0 ≤ t ∧ t < w.1 5 0 → P 1 w) (h0 : ¬ (0 ≤ t ∧ t < w.1 5 0) → P 0 w) : CI (m_X9_isTown F [vR 0, vI t] w) P := wp_X9_isTown F t w _ (ci_in ht (by decide) ⟨by omega, by omega⟩ (fun q => q_z1 (h1 (by omega))) (fun q => q_z0 (h0 (by omega))))
theorem ci_isDay {F : Nat} {t : Int} {w : AW} {P : Int → AW → Prop} (ht : iR t) (hm : 0 ≤ w.1 5 1 ∧ w.1 5 1 ≤ 3) (h1 : 0 ≤ t ∧ t < w.1 5 1 → P 1 w) (h0 : ¬ (0 ≤ t ∧ t < w.1 5 1) → P 0 w) : CI (m_X9_isDay F [vR 0, vI t] w) P := wp_X9_isDay F t w _ (ci_in ht (by decide) ⟨by omega, by omega⟩ (fun q => q_z1 (h1 (by omega))) (fun q => q_z0 (h0 (by omega))))
theorem ci_isRoad {F : Nat} {t : Int} {w : AW} {T : Nat → Int} {P : Int → AW → Prop} (hH : HA w T) (hT : TK T) (ht : iR t) (h1 : 0 ≤ t ∧ t < T 1 → P 1 w) (h0 : ¬ (0 ≤ t ∧ t < T 1) → P 0 w) : CI (m_X9_isRoad F [vR 0, vI t] w) P := by
  have e : w.1 0 23 = T 1 := hH.2.2.1
  have hm := hT.2.1
  exact wp_X9_isRoad F t w _ (ci_in ht (by decide) ⟨by omega, by omega⟩ (fun q => q_z1 (h1 (by omega))) (fun q => q_z0 (h0 (by omega))))
theorem ci_isPerson {F : Nat} {t : Int} {w : AW} {T : Nat → Int} {P : Int → AW → Prop} (hH : HA w T) (hT : TK T) (ht : iR t) (h1 : 0 ≤ t ∧ t < T 2 → P 1 w) (h0 : ¬ (0 ≤ t ∧ t < T 2) → P 0 w) : CI (m_X9_isPerson F [vR 0, vI t] w) P := by
  have e : w.1 0 24 = T 2 := hH.2.2.2.1
  have hm := hT.2.2.1
  exact wp_X9_isPerson F t w _ (ci_in ht (by decide) ⟨by omega, by omega⟩ (fun q => q_z1 (h1 (by omega))) (fun q => q_z0 (h0 (by omega))))
theorem ci_isPlace {F : Nat} {t : Int} {w : AW} {T : Nat → Int} {P : Int → AW → Prop} (hH : HA w T) (hT : TK T) (ht : iR t) (h1 : 0 ≤ t ∧ t < T 0 → P 1 w) (h0 : ¬ (0 ≤ t ∧ t < T 0) → P 0 w) : CI (m_X9_isPlace F [vR 0, vI t] w) P := by
  have e : w.1 0 22 = T 0 := hH.2.1
  have hm := hT.1
  exact wp_X9_isPlace F t w _ (ci_in ht (by decide) ⟨by omega, by omega⟩ (fun q => q_z1 (h1 (by omega))) (fun q => q_z0 (h0 (by omega))))
theorem ci_of {F : Nat} {t a : Int} {w : AW} {P : Int → AW → Prop} (hb : 0 ≤ 232 * t + a ∧ 232 * t + a < 1856) (h : P (w.1 6 (232 * t + a).toNat) w) : CI (m_X9_of F [vR 0, vI t, vI a] w) P := wp_X9_of F t a w _ ⟨hb, q_i h⟩
def HA.road {w : AW} {T : Nat → Int} (h : HA w T) {r : Int} (h0 : 0 ≤ r) (h1 : r < T 1) := h.2.2.2.2.2.2.2.1 r h0 h1
def HA.pers {w : AW} {T : Nat → Int} (h : HA w T) {p : Int} (h0 : 0 ≤ p) (h1 : p < T 2) := h.2.2.2.2.2.2.2.2.1 p h0 h1
def HA.erra {w : AW} {T : Nat → Int} (h : HA w T) {e : Int} (h0 : 0 ≤ e) (h1 : e < T 3) := h.2.2.2.2.2.2.2.2.2.1 e h0 h1
def TK.road {T : Nat → Int} (h : TK T) {r : Int} (h0 : 0 ≤ r) (h1 : r < T 1) := h.2.2.2.2.2.2.1 r h0 h1
def TK.pers {T : Nat → Int} (h : TK T) {p : Int} (h0 : 0 ≤ p) (h1 : p < T 2) := h.2.2.2.2.2.2.2.1 p h0 h1
def TK.erra {T : Nat → Int} (h : TK T) {e : Int} (h0 : 0 ≤ e) (h1 : e < T 3) := h.2.2.2.2.2.2.2.2 e h0 h1
theorem ci_roadOf {F : Nat} {r a : Int} {w : AW} {T : Nat → Int} {P : Int → AW → Prop} (hH : HA w T) (hT : TK T) (h0 : 0 ≤ r) (h1 : r < T 1) (ha : 0 ≤ a ∧ a < 11) (h : P (w.1 6 ((((w.1 0 21) + 6) + (11 * r)) + a).toNat) w) : CI (m_X9_roadOf F [vR 0, vI r, vI a] w) P := by
  have := hH.1
  have := hT.2.1
  exact wp_X9_roadOf F r a w _ ⟨⟨by omega, by omega⟩, q_i h⟩
theorem ci_rA {F : Nat} {r : Int} {w : AW} {T : Nat → Int} {P : Int → AW → Prop} (hH : HA w T) (hT : TK T) (h0 : 0 ≤ r) (h1 : r < T 1) (h : P (rA T r) w) : CI (m_X9_roadOf F [vR 0, vI r, vI 0] w) P := ci_roadOf hH hT h0 h1 (by decide) (by rw [(hH.road h0 h1).1]; exact h)
theorem ci_rB {F : Nat} {r : Int} {w : AW} {T : Nat → Int} {P : Int → AW → Prop} (hH : HA w T) (hT : TK T) (h0 : 0 ≤ r) (h1 : r < T 1) (h : P (rB T r) w) : CI (m_X9_roadOf F [vR 0, vI r, vI 1] w) P := ci_roadOf hH hT h0 h1 (by decide) (by rw [(hH.road h0 h1).2.1]; exact h)
theorem ci_rM {F : Nat} {r : Int} {w : AW} {T : Nat → Int} {P : Int → AW → Prop} (hH : HA w T) (hT : TK T) (h0 : 0 ≤ r) (h1 : r < T 1) (h : P (rM T r) w) : CI (m_X9_roadOf F [vR 0, vI r, vI 2] w) P := ci_roadOf hH hT h0 h1 (by decide) (by rw [(hH.road h0 h1).2.2.1]; exact h)
theorem ci_rP {F : Nat} {r : Int} {w : AW} {T : Nat → Int} {P : Int → AW → Prop} (hH : HA w T) (hT : TK T) (h0 : 0 ≤ r) (h1 : r < T 1) (h : P (rP T r) w) : CI (m_X9_roadOf F [vR 0, vI r, vI 3] w) P := ci_roadOf hH hT h0 h1 (by decide) (by rw [(hH.road h0 h1).2.2.2.1]; exact h)
theorem ci_rC {F : Nat} {r k : Int} {w : AW} {T : Nat → Int} {P : Int → AW → Prop} (hH : HA w T) (hT : TK T) (h0 : 0 ≤ r) (h1 : r < T 1) (hk0 : 0 ≤ k) (hk1 : k < 6) (h : P (rC T r k) w) : CI (m_X9_roadOf F [vR 0, vI r, vI (5 + k)] w) P := ci_roadOf hH hT h0 h1 ⟨by omega, by omega⟩ (by rw [(hH.road h0 h1).2.2.2.2.1 k hk0 hk1]; exact h)
theorem ci_pC {F : Nat} {p : Int} {w : AW} {T : Nat → Int} {P : Int → AW → Prop} (hH : HA w T) (hT : TK T) (h0 : 0 ≤ p) (h1 : p < T 2) (h : P (pC T p) w) : CI (m_X9_personOf F [vR 0, vI p, vI 1] w) P := by
  have := hH.1
  have := hT.2.2.1
  exact wp_X9_personOf F p 1 w _ ⟨⟨by omega, by omega⟩, q_i (by rw [(hH.pers h0 h1).1]; exact h)⟩
theorem ci_eW {F : Nat} {e : Int} {w : AW} {T : Nat → Int} {P : Int → AW → Prop} (hH : HA w T) (hT : TK T) (h0 : 0 ≤ e) (h1 : e < T 3) (h : P (eW T e) w) : CI (m_X9_errandOf F [vR 0, vI e, vI 0] w) P := by
  have := hH.1
  have := hT.2.2.2.1
  exact wp_X9_errandOf F e 0 w _ ⟨⟨by omega, by omega⟩, q_i (by rw [(hH.erra h0 h1).1]; exact h)⟩
theorem ci_eP {F : Nat} {e : Int} {w : AW} {T : Nat → Int} {P : Int → AW → Prop} (hH : HA w T) (hT : TK T) (h0 : 0 ≤ e) (h1 : e < T 3) (h : P (eP T e) w) : CI (m_X9_errandOf F [vR 0, vI e, vI 1] w) P := by
  have := hH.1
  have := hT.2.2.2.1
  exact wp_X9_errandOf F e 1 w _ ⟨⟨by omega, by omega⟩, q_i (by rw [(hH.erra h0 h1).2.1]; exact h)⟩
theorem ci_eL {F : Nat} {e : Int} {w : AW} {T : Nat → Int} {P : Int → AW → Prop} (hH : HA w T) (hT : TK T) (h0 : 0 ≤ e) (h1 : e < T 3) (h : P (eL T e) w) : CI (m_X9_errandOf F [vR 0, vI e, vI 3] w) P := by
  have := hH.1
  have := hT.2.2.2.1
  exact wp_X9_errandOf F e 3 w _ ⟨⟨by omega, by omega⟩, q_i (by rw [(hH.erra h0 h1).2.2.1]; exact h)⟩
theorem ci_ends {F : Nat} {r s : Int} {w : AW} {T : Nat → Int} {P : Int → AW → Prop} (hH : HA w T) (hT : TK T) (h0 : 0 ≤ r) (h1 : r < T 1) (hs : iR s) (hy : rA T r = s ∨ rB T r = s → P 1 w) (hn : ¬ (rA T r = s ∨ rB T r = s) → P 0 w) : CI (m_X9_ends F [vR 0, vI r, vI s] w) P := by
  have hr := hT.road h0 h1
  have hp := hT.1
  refine wp_X9_ends F r s w _ (ci_rA hH hT h0 h1 ?_)
  rw [w_id (x := rA T r) (by omega) (by omega), w_id hs.1 hs.2]
  refine ⟨fun q => wp_X9_ends_20 F _ _ _ _ (q_z1 (hy (Or.inl q))), fun q => ci_rB hH hT h0 h1 ?_⟩
  rw [w_id (x := rB T r) (by omega) (by omega)]
  exact ⟨fun q2 => wp_X9_ends_20 F _ _ _ _ (q_z1 (hy (Or.inr q2))), fun q2 => q_z0 (hn (by omega))⟩
theorem ci_farEnd {F : Nat} {r s : Int} {w : AW} {T : Nat → Int} {P : Int → AW → Prop} (hH : HA w T) (hT : TK T) (h0 : 0 ≤ r) (h1 : r < T 1) (h : P (rA T r + rB T r - s) w) : CI (m_X9_farEnd F [vR 0, vI r, vI s] w) P := wp_X9_farEnd F r s w _ (ci_rA hH hT h0 h1 (ci_rB hH hT h0 h1 (q_i h)))
/-! pure: what is paid, whose a road comes to be, worths, costs; fr is the road that is free (-1: none), O says whose each road is -/
def pny (T : Nat → Int) (fr r : Int) : Int := if r = fr then 0 else rP T r
def pys (T : Nat → Int) (fr : Int) (O : Nat → Int) (p r : Int) : Int := if O r.toNat ≠ -1 ∧ O r.toNat ≠ p then pny T fr r else 0
def cms (T : Nat → Int) (fr : Int) (O : Nat → Int) (p r t : Int) : Prop := r ≠ fr ∧ O r.toNat ≠ p ∧ (T 4 = 0 ∨ (T 4 = 1 ∧ O r.toNat = -1) ∨ (T 4 = 2 ∧ t < T 5))
def wlp (T : Nat → Int) (fr r : Int) : Nat → Int → Int → Int → Int
  | 0, _, _, s => s
  | n + 1, h, W, s => wlp T fr r n (h + 1) (if T 4 = 0 ∨ (T 4 = 2 ∧ 60 * h < T 5) then W / 100 * (100 - rC T r h) else W) (s + W / 100 * rC T r h * pny T fr r)
def wrt (T : Nat → Int) (fr r h : Int) : Int := if T 4 = 3 then 0 else wlp T fr r (6 - h).toNat h 1000000000000 0
theorem pny_b {T : Nat → Int} {fr r : Int} (hT : TK T) (h0 : 0 ≤ r) (h1 : r < T 1) : 0 ≤ pny T fr r ∧ pny T fr r ≤ 99 := by
  have := (hT.road h0 h1).2.2.2.2.1
  unfold pny
  split <;> omega
theorem ci_penny {F : Nat} {fr r : Int} {w : AW} {T : Nat → Int} {P : Int → AW → Prop} (hH : HA w T) (hT : TK T) (hf : w.1 0 28 = fr) (hfr : -1 ≤ fr ∧ fr < 14) (h0 : 0 ≤ r) (h1 : r < T 1) (h : P (pny T fr r) w) : CI (m_X9_penny F [vR 0, vI r] w) P := by
  have := hT.2.1
  refine wp_X9_penny F r w _ ?_
  rw [hf, w_id (x := r) (by omega) (by omega), w_id (x := fr) (by omega) (by omega)]
  unfold pny at h
  refine ⟨fun q => ?_, fun q => ?_⟩
  · rw [if_pos q] at h; exact q_i h
  · rw [if_neg q] at h; exact ci_rP hH hT h0 h1 (q_i h)
/-- whose roads are, in range -/
def OK (T : Nat → Int) (O : Nat → Int) : Prop := ∀ r, 0 ≤ r → r < T 1 → -1 ≤ O r.toNat ∧ O r.toNat < T 2
theorem ci_pays {F : Nat} {fr p r : Int} {w : AW} {T : Nat → Int} {P : Int → AW → Prop} (hH : HA w T) (hT : TK T) (hO : OK T (w.1 10)) (hf : w.1 0 28 = fr) (hfr : -1 ≤ fr ∧ fr < 14) (hp : iR p) (h0 : 0 ≤ r) (h1 : r < T 1) (h : P (pys T fr (w.1 10) p r) w) : CI (m_X9_pays F [vR 0, vI p, vI r] w) P := by
  have a1 := hT.2.1
  have a2 := hT.2.2.1
  have a3 := hO r h0 h1
  refine wp_X9_pays F p r w _ ?_
  rw [w_id (x := w.1 10 r.toNat) (by omega) (by omega), w_id hp.1 hp.2]
  unfold pys at h
  refine ⟨⟨h0, by omega⟩, fun q => ?_, fun q => ⟨⟨h0, by omega⟩, fun q2 => ?_, fun q2 => ?_⟩⟩
  · rw [if_neg (by omega)] at h; exact q_i h
  · rw [if_neg (by omega)] at h; exact q_i h
  · rw [if_pos ⟨q, q2⟩] at h; exact ci_penny hH hT hf hfr h0 h1 (q_i h)
theorem ci_comes {F : Nat} {fr p r t : Int} {w : AW} {T : Nat → Int} {P : Int → AW → Prop} (hH : HA w T) (hT : TK T) (hO : OK T (w.1 10)) (hf : w.1 0 28 = fr) (hfr : -1 ≤ fr ∧ fr < 14) (hp : iR p) (ht : iR t) (h0 : 0 ≤ r) (h1 : r < T 1) (hy : cms T fr (w.1 10) p r t → P 1 w) (hn : ¬ cms T fr (w.1 10) p r t → P 0 w) : CI (m_X9_comes F [vR 0, vI p, vI r, vI t] w) P := by
  have a1 := hT.2.1
  have a2 := hT.2.2.1
  have a3 := hO r h0 h1
  have a4 := hT.2.2.2.2.1
  have a5 := hT.2.2.2.2.2.1
  have e1 : w.1 0 26 = T 4 := hH.2.2.2.2.2.1
  have e2 : w.1 0 27 = T 5 := hH.2.2.2.2.2.2.1
  have key : TT (k_X9_comes_45 F [vR 0, vI p, vI r, vI t] [] w) (qq 2 (fun r w => ∃ x, r = some (vI x) ∧ P x w)) ∨ ¬ (r ≠ fr ∧ w.1 10 r.toNat ≠ p ∧ ¬ T 4 = 0 ∧ ¬ (T 4 = 1 ∧ w.1 10 r.toNat = -1)) := by
    by_cases q : r ≠ fr ∧ w.1 10 r.toNat ≠ p ∧ ¬ T 4 = 0 ∧ ¬ (T 4 = 1 ∧ w.1 10 r.toNat = -1)
    · refine Or.inl (wp_X9_comes_45 F p r t w _ ?_)
      rw [e1, e2, w_id (x := T 4) (by omega) (by omega), w_id (x := T 5) (by omega) (by omega), w_id ht.1 ht.2]
      unfold cms at hy hn
      exact ⟨fun z1 => ⟨fun z2 => wp_X9_comes_61 F _ _ _ _ _ (q_z1 (hy ⟨q.1, q.2.1, Or.inr (Or.inr ⟨z1, z2⟩)⟩)), fun z2 => q_z0 (hn (by omega))⟩, fun z1 => q_z0 (hn (by omega))⟩
    · exact Or.inr q
  refine wp_X9_comes F p r t w _ ?_
  rw [hf, e1, w_id (x := r) (by omega) (by omega), w_id (x := fr) (by omega) (by omega), w_id (x := w.1 10 r.toNat) (by omega) (by omega), w_id hp.1 hp.2, w_id (x := T 4) (by omega) (by omega)]
  unfold cms at hy hn
  refine ⟨fun q => q_z0 (hn (by omega)), fun q1 => ⟨⟨h0, by omega⟩, fun q => q_z0 (hn (by omega)), fun q2 => ⟨fun q => ?_, fun q3 => ⟨fun q4 => ⟨⟨h0, by omega⟩, fun q => ?_, fun q => ?_⟩, fun q => ?_⟩⟩⟩⟩
  · exact wp_X9_comes_61 F _ _ _ _ _ (q_z1 (hy ⟨q1, q2, Or.inl q⟩))
  · exact wp_X9_comes_61 F _ _ _ _ _ (q_z1 (hy ⟨q1, q2, Or.inr (Or.inl ⟨q4, q⟩)⟩))
  · exact key.resolve_right (fun z => z (by omega))
  · exact key.resolve_right (fun z => z (by omega))
