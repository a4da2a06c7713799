/-! PLACES LEFT OUT -/
theorem dsv_walk {T : Nat → Int} (hT : TK T) {a b : Int} : (∃ n m, Wk (Jt T (-1)) n a b m) ↔ dsv T a b ≠ -1 := by
  constructor
  · rintro ⟨n, m, hw⟩
    obtain ⟨d, hd, -⟩ := Ds_ex (Jt_ok hT (-1)) hw
    have := Ds_nonneg (Jt_ok hT (-1)) hd
    rw [dsv_eq hd]
    omega
  · intro h
    apply Classical.byContradiction
    intro hn
    exact h (dsv_none (fun n m hw => hn ⟨n, m, hw⟩))
noncomputable def nr (T : Nat → Int) (a : Int) : Nat → Int
  | 0 => 0
  | n + 1 => nr T a n + (if dsv T a n = -1 then 1 else 0)
theorem nr_step {T : Nat → Int} {a i : Int} (h : 0 ≤ i) : nr T a (i + 1).toNat = nr T a i.toNat + (if dsv T a i = -1 then 1 else 0) := by
  obtain ⟨n, hn⟩ : ∃ n : Nat, i = (n : Int) := ⟨i.toNat, by omega⟩
  subst hn
  rw [show ((n : Int) + 1).toNat = n + 1 from by omega, Int.toNat_natCast]
  rfl
theorem cnb_nr {T : Nat → Int} {a : Int} {x : Nat} (h : ∀ b : Nat, x.testBit b = true ↔ dsv T a b ≠ -1) : ∀ n : Nat, cnb x n = n - nr T a n
  | 0 => rfl
  | n + 1 => by
    show cnb x n + _ = ((n + 1 : Nat) : Int) - (nr T a n + _)
    rw [cnb_nr h n]
    by_cases q : dsv T a n = -1
    · have : ¬ x.testBit n = true := fun z => (h n).mp z q
      rw [if_neg this, if_pos q]
      push_cast
      omega
    · rw [if_pos ((h n).mpr q), if_neg q]
      push_cast
      omega
theorem cnb_beyond {x n : Nat} (h : ∀ b : Nat, x.testBit b = true → b < n) : ∀ k, cnb x (n + k) = cnb x n
  | 0 => rfl
  | k + 1 => by
    show cnb x (n + k) + (if x.testBit (n + k) then 1 else 0) = _
    have : ¬ x.testBit (n + k) = true := fun z => by have := h _ z; omega
    rw [if_neg this, cnb_beyond h k]
    omega
noncomputable def aLeft (m : Int) (T : Nat → Int) (t a : Int) : Int := if (0 ≤ t ∧ t < m) ∧ (0 ≤ a ∧ a < T 0) then nr T a (T 0).toNat else -1
theorem cr_left {F : Nat} {t a : Int} {w : AW} {P : Int → AW → Prop} (hF : FB F) (hI : TwI w) (ht : iR t) (har : iR a) (hp : ∀ w', KQ w w' → P (aLeft (w.1 5 0) (TR w t) t a) w') : CI (m_X9_left F [vR 0, vI t, vI a] w) P := by
  have no : ¬ ((0 ≤ t ∧ t < w.1 5 0) ∧ (0 ≤ a ∧ a < TR w t 0)) → ∀ w', KQ w w' → P (-1) w' := fun hk w' k' => by
    have hpk := hp w' k'
    unfold aLeft at hpk
    rw [if_neg hk] at hpk
    exact hpk
  refine wp_X9_left F t a w _ (fun w0 e0 => ci_lay' hF hI e0 ht (by decide) (fun hg hT _ _ w1 k1 hX _ => br1 ?_) (fun hz w1 k1 => br0 (q_i (no (fun y => hz ⟨y.1, okS0⟩) w1 k1))))
  have a0 := hT.1
  have e22 : w1.1 0 22 = TR w t 0 := hX.1.2.1
  refine ci_isPlace hX.1 hT har (fun z1 => br1 ?_) (fun z1 => br0 (q_i (no (fun y => z1 y.2) w1 k1)))
  refine tt_for (K := k_X9_left_29 F) (TR w t 0) (fun i w' l => w' = w1 ∧ 0 ≤ i ∧ i ≤ TR w t 0 ∧ l = [vR 0, vI t, vI a, vI (nr (TR w t) a i.toNat), vI i]) ?_ F 0 _ w1 (by omega) ⟨rfl, by omega, by omega, rfl⟩
  rintro n i l w2 ⟨rfl, hi0, hi1, rfl⟩ hk
  rw [ks_X9_left_29]
  refine wp_X9_left_29 F _ t a _ i w2 _ ?_
  rw [e22, w_id (x := i) (by omega) (by omega), w_id (x := TR w t 0) (by omega) (by omega)]
  refine ⟨fun q => ⟨⟨by omega, by omega⟩, ?_⟩, fun q => q_i ?_⟩
  · have hf := far_dsv hT hX.2.2 z1 ⟨hi0, q⟩
    have st := nr_step (T := TR w t) (a := a) hi0
    rw [w_id (x := w2.1 22 (9 * a + i).toNat) (by omega) (by omega)]
    refine ⟨fun q2 => wp_X9_left_62 F _ t a _ i _ _ w2 _ (fun x ex => hk _ _ ⟨rfl, by omega, by omega, ?_⟩ q), fun q2 => wp_X9_left_62 F _ t a _ i _ _ w2 _ (fun x ex => hk _ _ ⟨rfl, by omega, by omega, ?_⟩ q)⟩
    · rw [ex, st, if_pos (by omega)]
    · rw [ex, st, if_neg (by omega)]
  · have hpk := hp w2 k1
    unfold aLeft at hpk
    rw [if_pos ⟨hg.1, z1⟩] at hpk
    rw [show i = TR w t 0 from by omega]
    exact hpk
theorem cc_left {F : Nat} {t a : Int} {w : AW} {P : Int → AW → Prop} (hF : FB F) (hI : TwI w) (ht : iR t) (har : iR a) (hp : ∀ w', KQ w w' → P (aLeft (w.1 5 0) (TR w t) t a) w') : CI (m_X8_left F [vR 34, vI t, vI a] w) P := by
  have hm := hI.1
  have hpk := hp w KQ.rf
  unfold aLeft at hpk
  have no : ¬ ((0 ≤ t ∧ t < w.1 5 0) ∧ (0 ≤ a ∧ a < TR w t 0)) → P (-1) w := fun hk => by
    rw [if_neg hk] at hpk
    exact hpk
  refine wp_X8_left F t a w _ (cr_townAt hI ht (fun hz => ⟨fun q => (by cases q), fun j hj => ?_⟩) (fun hz => ⟨fun _ => q_i (no (fun y => hz y.1)), fun j hj => (by cases hj)⟩))
  cases hj
  obtain ⟨hT, hC⟩ := hI.2.2 t hz.1 hz.2
  obtain ⟨htw, hap⟩ := tw_cell (t := t) ⟨hz.1, by omega⟩
  have a0 := hT.1
  refine ⟨htw, ci_hasPlace htw hC hT har (fun z1 => br1 (ci_reached hF htw hT hC z1 (by omega) (fun s h1 h2 h3 => ?_))) (fun z1 => br0 (q_i (no (fun y => z1 y.2))))⟩
  have hlt : s.toNat < 512 := by
    have : s.toNat < 2 ^ 9 := Nat.lt_pow_two_of_testBit _ (fun i hi => by
      cases hb : s.toNat.testBit i with
      | false => rfl
      | true => have := h2 i hb; omega)
    omega
  refine ci_bitCount ⟨h1.1, by have := h1.1; omega⟩ (q_i ?_)
  rw [if_pos ⟨hz, z1⟩] at hpk
  have e1 := cnb_beyond (x := s.toNat) (n := (TR w t 0).toNat) (fun b hb => by have := h2 b hb; omega) (9 - (TR w t 0).toNat)
  rw [show (TR w t 0).toNat + (9 - (TR w t 0).toNat) = 9 from by omega] at e1
  rw [hC.1, e1, cnb_nr (T := TR w t) (a := a) (fun b => (h3 b).trans (dsv_walk hT)) (TR w t 0).toNat, Int.toNat_of_nonneg (by omega), show TR w t 0 - (TR w t 0 - nr (TR w t) a (TR w t 0).toNat) = nr (TR w t) a (TR w t 0).toNat from by omega]
  exact hpk
