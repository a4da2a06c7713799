/-! TEXTS: words -/
theorem ci_len {F : Nat} {i : Nat} {w : AW} {P : Int → AW → Prop} (hi : i < 14) (h : P (strN i) w) : CI (m_J0_length_8abf5 F [vR (310 + i)] w) P := by
  have : i = 0 ∨ i = 1 ∨ i = 2 ∨ i = 3 ∨ i = 4 ∨ i = 5 ∨ i = 6 ∨ i = 7 ∨ i = 8 ∨ i = 9 ∨ i = 10 ∨ i = 11 ∨ i = 12 ∨ i = 13 := by omega
  rcases this with e | e | e | e | e | e | e | e | e | e | e | e | e | e <;> subst e <;> exact ⟨_, _, rfl, _, rfl, h⟩
theorem ci_chr {F : Nat} {i k : Nat} {w : AW} {P : Int → AW → Prop} (hi : i < 14) (hk : k < strN i) (h : P (strCh i k) w) : CI (m_J0_charAt_5068e F [vR (310 + i), vI k] w) P := by
  have : i = 0 ∨ i = 1 ∨ i = 2 ∨ i = 3 ∨ i = 4 ∨ i = 5 ∨ i = 6 ∨ i = 7 ∨ i = 8 ∨ i = 9 ∨ i = 10 ∨ i = 11 ∨ i = 12 ∨ i = 13 := by omega
  have h6 : k < 6 := by
    rcases this with e | e | e | e | e | e | e | e | e | e | e | e | e | e <;> subst e <;> exact Nat.lt_of_lt_of_le hk (by decide)
  have hk6 : k = 0 ∨ k = 1 ∨ k = 2 ∨ k = 3 ∨ k = 4 ∨ k = 5 := by omega
  rcases this with e | e | e | e | e | e | e | e | e | e | e | e | e | e <;> subst e <;> rcases hk6 with e | e | e | e | e | e <;> subst e <;> first | exact absurd hk (by decide) | exact ⟨_, _, rfl, _, rfl, h⟩
/-- the bytes from s to e are the word i -/
def isW (b : Nat → Int) (s e : Int) (i : Nat) : Prop := e - s = strN i ∧ ∀ k : Nat, k < strN i → b (s + k).toNat = strCh i k
theorem strN_b {i : Nat} (hi : i < 14) : 2 ≤ strN i ∧ strN i ≤ 6 := by
  have : i = 0 ∨ i = 1 ∨ i = 2 ∨ i = 3 ∨ i = 4 ∨ i = 5 ∨ i = 6 ∨ i = 7 ∨ i = 8 ∨ i = 9 ∨ i = 10 ∨ i = 11 ∨ i = 12 ∨ i = 13 := by omega
  rcases this with e | e | e | e | e | e | e | e | e | e | e | e | e | e <;> subst e <;> decide
theorem strCh_b : ∀ i : Fin 14, ∀ k : Fin 6, 0 ≤ strCh i k ∧ strCh i k ≤ 127 := by decide
theorem ci_isWord {F : Nat} {i : Nat} {s e N : Int} {b : Nat → Int} {w : AW} {P : Int → AW → Prop} (hF : FB F) (hB : BB b N) (hR : RT w b N) (hi : i < 14) (h6 : w.1 200 6 = e) (h8 : w.1 200 8 = s) (hs : 0 ≤ s ∧ s ≤ e ∧ e ≤ N) (h1 : isW b s e i → P 1 w) (h0 : ¬ isW b s e i → P 0 w) : CI (m_X5_isWord F [vR 200, vR (310 + i)] w) P := by
  have hb := hB.2
  have hn := strN_b hi
  refine wp_X5_isWord F i hi w _ (ci_len hi ?_)
  rw [h6, h8, w_id (x := e - s) (by omega) (by omega), w_id (x := (strN i : Int)) (by omega) (by omega)]
  refine ⟨fun q => ?_, fun q => q_z0 (h0 (fun y => q y.1))⟩
  refine tt_for (K := k_X5_isWord_20 F) (strN i : Int) (fun k w' l => w' = w ∧ l = [vR 200, vR (310 + i), vI k] ∧ 0 ≤ k ∧ k ≤ strN i ∧ ∀ c : Nat, (c : Int) < k → b (s + c).toNat = strCh i c) ?_ F 0 _ w (by omega) ⟨rfl, rfl, by omega, by omega, fun c hc => by omega⟩
  rintro n k l w2 ⟨rfl, rfl, hk0, hk1, hc⟩ hk
  rw [ks_X5_isWord_20]
  refine wp_X5_isWord_20 F _ i hi k w2 _ (ci_len hi ?_)
  rw [h8, hR.1, w_id (x := k) (by omega) (by omega), w_id (x := (strN i : Int)) (by omega) (by omega)]
  refine ⟨fun q2 => ⟨isB36, ⟨by omega, by omega⟩, ?_⟩, fun q2 => q_z1 (h1 ⟨q, fun c hc2 => hc c (by omega)⟩)⟩
  obtain ⟨m, rfl⟩ := Int.eq_ofNat_of_zero_le hk0
  have hbb := hB.1 (s + m).toNat (by omega)
  have hch := strCh_b ⟨i, hi⟩ ⟨m, by omega⟩
  simp only [] at hch
  refine ci_chr hi (by omega) ?_
  rw [hR.2.1 (s + m).toNat (by omega), w_id (x := b (s + m).toNat) (by omega) (by omega), w_id (x := strCh i m) (by omega) (by omega)]
  refine ⟨fun q3 => hk _ _ ⟨rfl, rfl, by omega, by omega, fun c hc2 => ?_⟩ q2, fun q3 => q_z0 (h0 (fun y => q3 (y.2 m (by omega))))⟩
  by_cases z : c = m
  · rw [z]; exact q3
  · exact hc c (by omega)
/-- the first of the words i, i + 1 .. that it is -/
noncomputable def lks (b : Nat → Int) (s e : Int) (f : Nat → Int) (i : Nat) : Int := by
  classical
  exact if isW b s e i then i else f (i + 1)
noncomputable def lkl (b : Nat → Int) (s e : Int) : Nat → Nat → Int
  | 0 => fun _ => -1
  | n + 1 => lks b s e (lkl b s e n)
theorem lkl_y {b : Nat → Int} {s e : Int} {n i : Nat} (h : isW b s e i) : lkl b s e (n + 1) i = i := by
  show lks b s e (lkl b s e n) i = i
  unfold lks; rw [if_pos h]
theorem lkl_n {b : Nat → Int} {s e : Int} {n i : Nat} (h : ¬ isW b s e i) : lkl b s e (n + 1) i = lkl b s e n (i + 1) := by
  show lks b s e (lkl b s e n) i = _
  unfold lks; rw [if_neg h]
/-- the sort of a line: -1, or 0 to 11 of towns (of = 0), 12 or 13 of days (of = 1) -/
noncomputable def lk (b : Nat → Int) (N of s : Int) : Int := if tks b N s = 1 then (if of = 0 then lkl b s (ten b N s) 12 0 else lkl b s (ten b N s) 2 12) else -1
theorem ci_wordOf {F : Nat} {i : Nat} {w : AW} {P : Option Nat → AW → Prop} (hi : i < 14) (h : P (some (310 + i)) w) : CR (m_X5_wordOf F [vI i] w) P := by
  have : i = 0 ∨ i = 1 ∨ i = 2 ∨ i = 3 ∨ i = 4 ∨ i = 5 ∨ i = 6 ∨ i = 7 ∨ i = 8 ∨ i = 9 ∨ i = 10 ∨ i = 11 ∨ i = 12 ∨ i = 13 := by omega
  refine wp_X5_wordOf F i w _ ?_
  rw [w_id (x := (i : Int)) (by omega) (by omega)]
  rcases this with e | e | e | e | e | e | e | e | e | e | e | e | e | e <;> subst e <;> refine ⟨⟨fun q => ?_, fun q => ?_, fun q => ?_, fun q => ?_, fun q => ?_, fun q => ?_, fun q => ?_, fun q => ?_, fun q => ?_, fun q => ?_, fun q => ?_, fun q => ?_, fun q => ?_, trivial⟩, fun q => ?_⟩ <;> first | exact absurd q (by decide) | exact q_r h
theorem ci_lineOfWord {F : Nat} {a N of : Int} {b : Nat → Int} {w : AW} {P : Int → AW → Prop} (hF : FB F) (hB : BB b N) (hR : RT w b N) (hof : of = 0 ∨ of = 1) {s : Int} (h8 : w.1 200 8 = s) (h7 : w.1 200 7 = tks b N s) (h6 : tks b N s = 1 → w.1 200 6 = ten b N s) (hs : 0 ≤ s ∧ s ≤ N) (hp : ∀ w', Fr (fun j k => j = 200 ∧ k = 10) w w' → w'.1 200 10 = s → P (lk b N of s) w') : CI (m_X5_lineOfWord F [vR 200, vI (if of = 0 then 0 else 12), vI (if of = 0 then 11 else 13)] w) P := by
  have hb := hB.2
  have htr := tks_r (b := b) (N := N) (s := s)
  refine wp_X5_lineOfWord F _ _ w _ (fun w1 e1 => ?_)
  have f1 : Fr (fun j k => j = 200 ∧ k = 10) w w1 := by rw [e1]; exact Fr.rf.wI _ (by omega)
  have hR1 : RT w1 b N := hR.fr f1 (by intro k; omega) (by omega)
  have g7 : w1.1 200 7 = tks b N s := by rw [f1.I 200 7 (by omega)]; exact h7
  have g8 : w1.1 200 8 = s := by rw [f1.I 200 8 (by omega)]; exact h8
  have hp1 := hp w1 f1 (by rw [e1, wI_same, h8])
  unfold lk at hp1
  rw [g7, w_id (x := tks b N s) (by omega) (by omega)]
  refine ⟨fun q => ?_, fun q => q_i (by rw [if_neg q] at hp1; exact hp1)⟩
  rw [if_pos q] at hp1
  have hte := ten_b (b := b) (N := N) (s := s) hs.2 (by omega)
  have g6 : w1.1 200 6 = ten b N s := by rw [f1.I 200 6 (by omega)]; exact h6 q
  obtain ⟨lo, hi, ha1, ha2, hlo, hpp⟩ : ∃ lo hi : Nat, (if of = 0 then (0 : Int) else 12) = lo ∧ (if of = 0 then (11 : Int) else 13) = hi ∧ (lo ≤ hi ∧ hi ≤ 13) ∧ P (lkl b s (ten b N s) (hi + 1 - lo) lo) w1 := by
    rcases hof with h | h
    · rw [if_pos h] at hp1
      exact ⟨0, 11, by rw [if_pos h]; rfl, by rw [if_pos h]; rfl, by omega, hp1⟩
    · rw [if_neg (by omega)] at hp1
      exact ⟨12, 13, by rw [if_neg (by omega)]; rfl, by rw [if_neg (by omega)]; rfl, by omega, hp1⟩
  rw [ha1, ha2]
  refine tt_for (K := k_X5_lineOfWord_20 F) (hi + 1 : Int) (fun k w' l => w' = w1 ∧ l = [vR 200, vI lo, vI hi, vI k] ∧ lo ≤ k ∧ k ≤ hi + 1 ∧ lkl b s (ten b N s) (hi + 1 - lo) lo = lkl b s (ten b N s) (hi + 1 - k.toNat) k.toNat) ?_ F lo _ w1 (by omega) ⟨rfl, rfl, by omega, by omega, by rw [Int.toNat_natCast]⟩
  rintro n k l w2 ⟨rfl, rfl, hk0, hk1, hc⟩ hk
  rw [ks_X5_lineOfWord_20]
  refine wp_X5_lineOfWord_20 F _ lo hi k w2 _ ?_
  rw [w_id (x := k) (by omega) (by omega), w_id (x := (hi : Int)) (by omega) (by omega)]
  refine ⟨fun q2 => q_i ?_, fun q2 => ⟨fun q3 => ?_, fun q3 => by omega⟩⟩
  · rw [hc, show hi + 1 - k.toNat = 0 from by omega] at hpp
    exact hpp
  · obtain ⟨m, rfl⟩ := Int.eq_ofNat_of_zero_le (show 0 ≤ k by omega)
    rw [Int.toNat_natCast] at hc
    have en : hi + 1 - m = (hi + 1 - (m + 1)) + 1 := by omega
    refine ci_wordOf (by omega) (ci_isWord hF hB hR1 (by omega) g6 g8 (by omega) (fun y => br1 (q_i ?_)) (fun y => br0 (hk _ _ ⟨rfl, rfl, by omega, by omega, ?_⟩ (by omega))))
    · rw [hc, en, lkl_y y] at hpp
      exact hpp
    · rw [hc, en, lkl_n y, show ((m : Int) + 1).toNat = m + 1 from by omega]
/-! words as numbers -/
def wcon (i : Nat) : Int := [123610792682867, 1919902052, 495673373300, 426953236848, 7305070, 111542219664996, 6840691, 1651864441, 1818325876, 439855772532, 1852796782, 1852796517, 26479, 2002872692].getD i 0
theorem wd_unf {b : Nat → Int} {s : Int} (k : Nat) : wd b s (k + 1) = wd b s k * 256 + b (s + k).toNat := rfl
