/-! THE FIRST WORLD HOLDS WHAT HOLDS BETWEEN CALLS -/
set_option maxRecDepth 100000 in
theorem w0_facts : (w0.1 2 0 = 0 ∧ w0.1 35 1 = 0 ∧ w0.1 3 0 = 0 ∧ w0.1 35 2 = 0 ∧ w0.1 4 0 = -1 ∧ w0.1 35 3 = -1) ∧ (w0.1 5 0 = 0 ∧ w0.1 35 5 = 0 ∧ w0.1 5 1 = 0 ∧ w0.1 35 7 = 0) ∧ (w0.1 33 0 = 0 ∧ w0.1 77 8 = 0 ∧ w0.1 33 1 = 0 ∧ w0.1 118 8 = 0 ∧ w0.1 33 2 = 0 ∧ w0.1 159 8 = 0) := by decide +kernel
def allz (f : Nat → Int) : Nat → Bool
  | 0 => true
  | n + 1 => allz f n && (f n == 0)
theorem allz_at {f : Nat → Int} : ∀ n, allz f n = true → ∀ k, k < n → f k = 0
  | 0, _, k, h => absurd h (Nat.not_lt_zero k)
  | n + 1, h, k, hk => by
    have h' : (allz f n && (f n == 0)) = true := h
    obtain ⟨h1, h2⟩ := Bool.and_eq_true_iff.mp h'
    by_cases z : k = n
    · rw [z]; exact eq_of_beq h2
    · exact allz_at n h1 k (by omega)
set_option maxRecDepth 100000 in
theorem w0_t1 : (allz (w0.1 1) 600 && allz (w0.1 36) 600) = true := by decide +kernel
theorem inv_w0 : Inv w0 := by
  obtain ⟨⟨a1, a2, a3, a4, a5, a6⟩, ⟨b1, b2, b3, b4⟩, ⟨c1, c2, c3, c4, c5, c6⟩⟩ := w0_facts
  obtain ⟨t1, t2⟩ := Bool.and_eq_true_iff.mp w0_t1
  refine ⟨⟨by rw [a1]; omega, by rw [a1]; exact a2, by rw [a3]; exact a4, by rw [a5]; exact a6, ?_, ?_, ?_, ?_, fun k hk => ?_, fun t ht => ?_, fun d hd => ?_⟩, fun k hk => ?_⟩
  · show 0 ≤ w0.1 5 0 ∧ w0.1 5 0 ≤ 2
    rw [b1]; omega
  · show w0.1 35 5 = w0.1 5 0
    rw [b1]; exact b2
  · show 0 ≤ w0.1 5 1 ∧ w0.1 5 1 ≤ 3
    rw [b3]; omega
  · show w0.1 35 7 = w0.1 5 1
    rw [b3]; exact b4
  · rw [show 600 * 0 + k = k from by omega, allz_at 600 t1 k hk]
    refine ⟨?_, by omega, by omega⟩
    show w0.1 36 k = 0
    exact allz_at 600 t2 k hk
  · have ht : (t : Int) < w0.1 5 0 := ht
    rw [b1] at ht; omega
  · have hd : (d : Int) < w0.1 5 1 := hd
    rw [b3] at hd; omega
  · have : k = 0 ∨ k = 1 ∨ k = 2 := by omega
    rcases this with e | e | e <;> subst e
    · exact ⟨Or.inl c1, by rw [c1]; exact c2, fun z => by rw [c1] at z; exact absurd z (by decide)⟩
    · exact ⟨Or.inl c3, by rw [c3]; exact c4, fun z => by rw [c3] at z; exact absurd z (by decide)⟩
    · exact ⟨Or.inl c5, by rw [c5]; exact c6, fun z => by rw [c5] at z; exact absurd z (by decide)⟩
theorem pure_ok : PureOK := by
  intro L xs hL hx
  obtain ⟨r, w1, h, hr⟩ := law_ok (F := 1000000000000000) (Nat.le_refl _) hL hx inv_w0
  subst hr
  exact ⟨_, w1, h⟩
