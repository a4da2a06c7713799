/-! TEXTS: words -/
theorem ci_len {F : Nat} {i : Nat} {w : AW} {P : Int → AW → Prop} (hi : i < 14) (h : P (strN i) w) : CI (m_J0_length_8abf5 F [vR (310 + i)] w) P := by
  have : i = 0 ∨ i = 1 ∨ i = 2 ∨ i = 3 ∨ i = 4 ∨ i = 5 ∨ i = 6 ∨ i = 7 ∨ i = 8 ∨ i = 9 ∨ i = 10 ∨ i = 11 ∨ i = 12 ∨ i = 13 := by omega
  rcases this with e | e | e | e | e | e | e | e | e | e | e | e | e | e <;> subst e <;> exact ⟨_, _, rfl, _, rfl, h⟩
theorem ci_chr {F : Nat} {i k : Nat} {w : AW} {P : Int → AW → Prop} (hi : i < 14) (hk : k < strN i) (h : P (strCh i k) w) : CI (m_J0_charAt_5068e F [vR (310 + i), vI k] w) P := by
  have : i = 0 ∨ i = 1 ∨ i = 2 ∨ i = 3 ∨ i = 4 ∨ i = 5 ∨ i = 6 ∨ i = 7 ∨ i = 8 ∨ i = 9 ∨ i = 10 ∨ i = 11 ∨ i = 12 ∨ i = 13 := by omega
  have h6 : k < 6 := by
    rcases this with e | e | e | e | e | e | e | e | e | e | e | e | e | e <;> subst e <;> exact Nat.lt_of_lt_of_le hk (by decide)
  have hk6 : k = 0 ∨ k = 1 ∨ k = 2 ∨ k = 3 ∨ k = 4 ∨ k = 5 := by omega
  rcases this with e | e | e | e | e | e | e | e | e | e | e | e | e | e <;> subst e <;> rcases hk6 with e | e | e | e | e | e <;> subst e <;> first | exact absurd hk (by decide) | exact ⟨_, _, rfl, _, rfl, h⟩
/-- the bytes from s to e are the word i -/
def isW (b : Nat → Int) (s e : Int) (i : Nat) : Prop := e - s = strN i ∧ ∀ k : Nat, k < strN i → b (s + k).toNat = strCh i k
theorem strN_b {i : Nat} (hi : i < 14) : 2 ≤ strN i ∧ strN i ≤ 6 := by
  have : i = 0 ∨ i = 1 ∨ i = 2 ∨ i = 3 ∨ i = 4 ∨ i = 5 ∨ i = 6 ∨ i = 7 ∨ i = 8 ∨ i = 9 ∨ i = 10 ∨ i = 11 ∨ i = 12 ∨ i = 13 := by omega
  rcases this with e | e | e | e | e | e | e | e | e | e | e | e | e | e <;> subst e <;> decide
theorem strCh_b : ∀ i : Fin 14, ∀ k : Fin 6, 0 ≤ strCh i k ∧ strCh i k ≤ 127 := by decide
theorem ci_isWord {F : Nat} {i : Nat} {s e N : Int} {b : Nat → Int} {w : AW} {P : Int → AW → Prop} (hF : FB F) (hB : BB b N) (hR : RT w b N) (hi : i < 14) (h6 : w.1 200 6 = e) (h8 : w.1 200 8 = s) (hs : 0 ≤ s ∧ s ≤ e ∧ e ≤ N) (h1 : isW b s e i → P 1 w) (h0 : ¬ isW b s e i → P 0 w) : CI (m_X5_isWord F [vR 200, vR (310 + i)] w) P := by
  have hb := hB.2
  have hn := strN_b hi
  refine wp_X5_isWord F i hi w _ (ci_len hi ?_)
  rw [h6, h8, w_id (x := e - s) (by omega) (by omega), w_id (x := (strN i : Int)) (by omega) (by omega)]
  refine ⟨fun q => ?_, fun q => q_z0 (h0 (fun y => q y.1))⟩
  refine tt_for (K := k_X5_isWord_20 F) (strN i : Int) (fun k w' l => w' = w ∧ l = [vR 200, vR (310 + i), vI k] ∧ 0 ≤ k ∧ k ≤ strN i ∧ ∀ c : Nat, (c : Int) < k → b (s + c).toNat = strCh i c) ?_ F 0 _ w (by omega) ⟨rfl, rfl, by omega, by omega, fun c hc => by omega⟩
  rintro n k l w2 ⟨rfl, rfl, hk0, hk1, hc⟩ hk
  rw [ks_X5_isWord_20]
  refine wp_X5_isWord_20 F _ i hi k w2 _ (ci_len hi ?_)
  rw [h8, hR.1, w_id (x := k) (by omega) (by omega), w_id (x := (strN i : Int)) (by omega) (by omega)]
  refine ⟨fun q2 => ⟨isB36, ⟨by omega, by omega⟩, ?_⟩, fun q2 => q_z1 (h1 ⟨q, fun c hc2 => hc c (by omega)⟩)⟩
  obtain ⟨m, rfl⟩ := Int.eq_ofNat_of_zero_le hk0
  have hbb := hB.1 (s + m).toNat (by omega)
  have hch := strCh_b ⟨i, hi⟩ ⟨m, by omega⟩
  simp only [] at hch
  refine ci_chr hi (by omega) ?_
  rw [hR.2.1 (s + m).toNat (by omega), w_id (x := b (s + m).toNat) (by omega) (by omega), w_id (x := strCh i m) (by omega) (by omega)]
  refine ⟨fun q3 => hk _ _ ⟨rfl, rfl, by omega, by omega, fun c hc2 => ?_⟩ q2, fun q3 => q_z0 (h0 (fun y => q3 (y.2 m (by omega))))⟩
  by_cases z : c = m
  · rw [z]; exact q3
  · exact hc c (by omega)
/-- the first of the words i, i + 1 .. that it is -/
noncomputable def lks (b : Nat → Int) (s e : Int) (f : Nat → Int) (i : Nat) : Int := by
  classical
  exact if isW b s e i then i else f (i + 1)
noncomputable def lkl (b : Nat → Int) (s e : Int) : Nat → Nat → Int
  | 0 => fun _ => -1
  | n + 1 => lks b s e (lkl b s e n)
theorem lkl_y {b : Nat → Int} {s e : Int} {n i : Nat} (h : isW b s e i) : lkl b s e (n + 1) i = i := by
  show lks b s e (lkl b s e n) i = i
  unfold lks; rw [if_pos h]
theorem lkl_n {b : Nat → Int} {s e : Int} {n i : Nat} (h : ¬ isW b s e i) : lkl b s e (n + 1) i = lkl b s e n (i + 1) := by
  show lks b s e (lkl b s e n) i = _
  unfold lks; rw [if_neg h]
/-- the sort of a line: -1, or 0 to 11 of towns (of = 0), 12 or 13 of days (of = 1) -/
noncomputable def lk (b : Nat → Int) (N of s : Int) : Int := if tks b N s = 1 then (if of = 0 then lkl b s (ten b N s) 12 0 else lkl b s (ten b N s) 2 12) else -1
theorem ci_wordOf {F : Nat} {i : Nat} {w : AW} {P : Option Nat → AW → Prop} (hi : i < 14) (h : P (some (310 + i)) w) : CR (m_X5_wordOf F [vI i] w) P := by
  have : i = 0 ∨ i = 1 ∨ i = 2 ∨ i = 3 ∨ i = 4 ∨ i = 5 ∨ i = 6 ∨ i = 7 ∨ i = 8 ∨ i = 9 ∨ i = 10 ∨ i = 11 ∨ i = 12 ∨ i = 13 := by omega
  refine wp_X5_wordOf F i w _ ?_
  rw [w_id (x := (i : Int)) (by omega) (by omega)]
  rcases this with e | e | e | e | e | e | e | e | e | e | e | e | e | e <;> subst e <;> refine ⟨⟨fun q => ?_, fun q => ?_, fun q => ?_, fun q => ?_, fun q => ?_, fun q => ?_, fun q => ?_, fun q => ?_, fun q => ?_, fun q => ?_, fun q => ?_, fun q => ?_, fun q => ?_, trivial⟩, fun q => ?_⟩ <;> first | exact absurd q (by decide) | exact q_r h
theorem ci_lineOfWord {F : Nat} {a N of : Int} {b : Nat → Int} {w : AW} {P : Int → AW → Prop} (hF : FB F) (hB : BB b N) (hR : RT w b N) (hof : of = 0 ∨ of = 1) {s : Int} (h8 : w.1 200 8 = s) (h7 : w.1 200 7 = tks b N s) (h6 : tks b N s = 1 → w.1 200 6 = ten b N s) (hs : 0 ≤ s ∧ s ≤ N) (hp : ∀ w', Fr (fun j k => j = 200 ∧ k = 10) w w' → w'.1 200 10 = s → P (lk b N of s) w') : CI (m_X5_lineOfWord F [vR 200, vI (if of = 0 then 0 else 12), vI (if of = 0 then 11 else 13)] w) P := by
  have hb := hB.2
  have htr := tks_r (b := b) (N := N) (s := s)
  refine wp_X5_lineOfWord F _ _ w _ (fun w1 e1 => ?_)
  have f1 : Fr (fun j k => j = 200 ∧ k = 10) w w1 := by rw [e1]; exact Fr.rf.wI _ (by omega)
  have hR1 : RT w1 b N := hR.fr f1 (by intro k; omega) (by omega)
  have g7 : w1.1 200 7 = tks b N s := by rw [f1.I 200 7 (by omega)]; exact h7
  have g8 : w1.1 200 8 = s := by rw [f1.I 200 8 (by omega)]; exact h8
  have hp1 := hp w1 f1 (by rw [e1, wI_same, h8])
  unfold lk at hp1
  rw [g7, w_id (x := tks b N s) (by omega) (by omega)]
  refine ⟨fun q => ?_, fun q => q_i (by rw [if_neg q] at hp1; exact hp1)⟩
  rw [if_pos q] at hp1
  have hte := ten_b (b := b) (N := N) (s := s) hs.2 (by omega)
  have g6 : w1.1 200 6 = ten b N s := by rw [f1.I 200 6 (by omega)]; exact h6 q
  obtain ⟨lo, hi, ha1, ha2, hlo, hpp⟩ : ∃ lo hi : Nat, (if of = 0 then (0 : Int) else 12) = lo ∧ (if of = 0 then (11 : Int) else 13) = hi ∧ (lo ≤ hi ∧ hi ≤ 13) ∧ P (lkl b s (ten b N s) (hi + 1 - lo) lo) w1 := by
    rcases hof with h | h
    · rw [if_pos h] at hp1
      exact ⟨0, 11, by rw [if_pos h]; rfl, by rw [if_pos h]; rfl, by omega, hp1⟩
    · rw [if_neg (by omega)] at hp1
      exact ⟨12, 13, by rw [if_neg (by omega)]; rfl, by rw [if_neg (by omega)]; rfl, by omega, hp1⟩
  rw [ha1, ha2]
  refine tt_for (K := k_X5_lineOfWord_20 F) (hi + 1 : Int) (fun k w' l => w' = w1 ∧ l = [vR 200, vI lo, vI hi, vI k] ∧ lo ≤ k ∧ k ≤ hi + 1 ∧ lkl b s (ten b N s) (hi + 1 - lo) lo = lkl b s (ten b N s) (hi + 1 - k.toNat) k.toNat) ?_ F lo _ w1 (by omega) ⟨rfl, rfl, by omega, by omega, by rw [Int.toNat_natCast]⟩
  rintro n k l w2 ⟨rfl, rfl, hk0, hk1, hc⟩ hk
  rw [ks_X5_lineOfWord_20]
  refine wp_X5_lineOfWord_20 F _ lo hi k w2 _ ?_
  rw [w_id (x := k) (by omega) (by omega), w_id (x := (hi : Int)) (by omega) (by omega)]
  refine ⟨fun q2 => q_i ?_, fun q2 => ⟨fun q3 => ?_, fun q3 => by omega⟩⟩
  · rw [hc, show hi + 1 - k.toNat = 0 from by omega] at hpp
    exact hpp
  · obtain ⟨m, rfl⟩ := Int.eq_ofNat_of_zero_le (show 0 ≤ k by omega)
    rw [Int.toNat_natCast] at hc
    have en : hi + 1 - m = (hi + 1 - (m + 1)) + 1 := by omega
    refine ci_wordOf (by omega) (ci_isWord hF hB hR1 (by omega) g6 g8 (by omega) (fun y => br1 (q_i ?_)) (fun y => br0 (hk _ _ ⟨rfl, rfl, by omega, by omega, ?_⟩ (by omega))))
    · rw [hc, en, lkl_y y] at hpp
      exact hpp
    · rw [hc, en, lkl_n y, show ((m : Int) + 1).toNat = m + 1 from by omega]
/-! words as numbers -/
def wcon (i : Nat) : Int := [123610792682867, 1919902052, 495673373300, 426953236848, 7305070, 111542219664996, 6840691, 1651864441, 1818325876, 439855772532, 1852796782, 1852796517, 26479, 2002872692].getD i 0
theorem wd_unf {b : Nat → Int} {s : Int} (k : Nat) : wd b s (k + 1) = wd b s k * 256 + b (s + k).toNat := rfl
theorem wd_inj {b b' : Nat → Int} {s s' : Int} : ∀ (n n' : Nat), (∀ k : Nat, k < n → ltr (b (s + k).toNat)) → (∀ k : Nat, k < n' → ltr (b' (s' + k).toNat)) → wd b s n = wd b' s' n' → n = n' ∧ ∀ k : Nat, k < n → b (s + k).toNat = b' (s' + k).toNat
  | 0, 0, _, _, _ => ⟨rfl, fun k hk => absurd hk (Nat.not_lt_zero k)⟩
  | 0, n' + 1, _, h', e => by
    have h1 := (wd_b (b := b') (s := s') n' (fun k hk => h' k (by omega))).1
    have h2 := h' n' (by omega)
    rw [wd_unf] at e
    have e0 : wd b s 0 = 0 := rfl
    unfold ltr at h2
    omega
  | n + 1, 0, h, _, e => by
    have h1 := (wd_b (b := b) (s := s) n (fun k hk => h k (by omega))).1
    have h2 := h n (by omega)
    rw [wd_unf] at e
    have e0 : wd b' s' 0 = 0 := rfl
    unfold ltr at h2
    omega
  | n + 1, n' + 1, h, h', e => by
    have h2 := h n (by omega)
    have h2' := h' n' (by omega)
    rw [wd_unf, wd_unf] at e
    unfold ltr at h2 h2'
    obtain ⟨e1, e2⟩ := wd_inj n n' (fun k hk => h k (by omega)) (fun k hk => h' k (by omega)) (by omega)
    subst e1
    refine ⟨rfl, fun k hk => ?_⟩
    by_cases z : k = n
    · rw [z]; omega
    · exact e2 k (by omega)
theorem wcon_wd : ∀ i : Fin 14, wd (fun k => strCh i k) 0 (strN i) = wcon i := by decide
theorem strCh_l : ∀ i : Fin 14, ∀ k : Fin 6, k.val < strN i → 97 ≤ strCh i k ∧ strCh i k ≤ 122 := by decide
theorem wd_congr {b b' : Nat → Int} {s s' : Int} : ∀ n : Nat, (∀ k : Nat, k < n → b (s + k).toNat = b' (s' + k).toNat) → wd b s n = wd b' s' n
  | 0, _ => rfl
  | n + 1, h => by rw [wd_unf, wd_unf, wd_congr n (fun k hk => h k (by omega)), h n (by omega)]
theorem wd_isW {b : Nat → Int} {s : Int} {n i : Nat} (hi : i < 14) (hl : ∀ k : Nat, k < n → ltr (b (s + k).toNat)) : wd b s n = wcon i ↔ isW b s (s + n) i := by
  have hn := strN_b hi
  have hw := wcon_wd ⟨i, hi⟩
  simp only [] at hw
  have hcl : ∀ k : Nat, k < strN i → ltr ((fun k => strCh i k) ((0 : Int) + k).toNat) := fun k hk => by
    have := strCh_l ⟨i, hi⟩ ⟨k, by omega⟩ hk
    show ltr (strCh i ((0 : Int) + k).toNat)
    rw [show ((0 : Int) + k).toNat = k from by omega]
    exact this
  constructor
  · intro e
    rw [← hw] at e
    obtain ⟨e1, e2⟩ := wd_inj n (strN i) hl hcl e
    refine ⟨by omega, fun k hk => ?_⟩
    have := e2 k (by omega)
    rw [this]
    show strCh i ((0 : Int) + k).toNat = _
    rw [show ((0 : Int) + k).toNat = k from by omega]
  · rintro ⟨e1, e2⟩
    have en : n = strN i := by omega
    subst en
    rw [← hw]
    refine wd_congr _ (fun k hk => ?_)
    rw [e2 k hk]
    show _ = strCh i ((0 : Int) + k).toNat
    rw [show ((0 : Int) + k).toNat = k from by omega]
theorem wcon_inj : ∀ i j : Fin 14, wcon i = wcon j → i = j := by decide
/-- a word token's number -/
theorem wrd_isW {b : Nat → Int} {N s : Int} {i : Nat} (hi : i < 14) (hs : 0 ≤ s ∧ s ≤ N) (ht : tks b N s = 1) : wrd b N s = wcon i ↔ isW b s (ten b N s) i := by
  have z : s < N ∧ ltr (b s.toNat) := by
    by_cases z : s < N
    · refine ⟨z, ?_⟩
      by_cases l : ltr (b s.toNat)
      · exact l
      · by_cases d : dgt (b s.toNat)
        · rw [(tks_2 z l d).1] at ht
          split at ht <;> omega
        · rw [(tks_3 z l d).1] at ht
          split at ht <;> omega
    · rw [tks_0 z] at ht; omega
  have hsc := sc_b (p := ltr) (b := b) (N := N) (a := s) hs.2
  rw [(tks_1 z.1 z.2).2]
  unfold wrd
  have hn := strN_b hi
  by_cases q : sc ltr b N s - s ≤ 8
  · rw [if_pos q, wd_isW hi (fun k hk => hsc.2.2 (s + k) (by omega) (by omega)), show s + ((sc ltr b N s - s).toNat : Int) = sc ltr b N s from by omega]
  · rw [if_neg q]
    constructor
    · intro e
      exfalso
      have : i = 0 ∨ i = 1 ∨ i = 2 ∨ i = 3 ∨ i = 4 ∨ i = 5 ∨ i = 6 ∨ i = 7 ∨ i = 8 ∨ i = 9 ∨ i = 10 ∨ i = 11 ∨ i = 12 ∨ i = 13 := by omega
      rcases this with e2 | e2 | e2 | e2 | e2 | e2 | e2 | e2 | e2 | e2 | e2 | e2 | e2 | e2 <;> subst e2 <;> exact absurd e (by decide)
    · intro e
      have := e.1
      omega
theorem isW_inj {b : Nat → Int} {N s : Int} {i j : Nat} (hi : i < 14) (hj : j < 14) (hs : 0 ≤ s ∧ s ≤ N) (ht : tks b N s = 1) (h : isW b s (ten b N s) i) (h' : isW b s (ten b N s) j) : i = j := by
  have e := (wrd_isW hi hs ht).mpr h
  rw [(wrd_isW hj hs ht).mpr h'] at e
  have := wcon_inj ⟨j, hj⟩ ⟨i, hi⟩ e
  exact (congrArg Fin.val this).symm
theorem lkl_of {b : Nat → Int} {s e : Int} {j : Nat} : ∀ (n i : Nat), i ≤ j → j < i + n → (∀ k, i ≤ k → k < j → ¬ isW b s e k) → isW b s e j → lkl b s e n i = j
  | 0, i, h1, h2, _, _ => by omega
  | n + 1, i, h1, h2, hn, h => by
    by_cases z : i = j
    · rw [z, lkl_y h]
    · rw [lkl_n (hn i (by omega) (by omega))]
      exact lkl_of n (i + 1) (by omega) (by omega) (fun k k1 k2 => hn k (by omega) k2) h
theorem lkl_no {b : Nat → Int} {s e : Int} : ∀ (n i : Nat), (∀ k, i ≤ k → k < i + n → ¬ isW b s e k) → lkl b s e n i = -1
  | 0, i, _ => rfl
  | n + 1, i, hn => by
    rw [lkl_n (hn i (by omega) (by omega))]
    exact lkl_no n (i + 1) (fun k k1 k2 => hn k (by omega) (by omega))
/-- which sort a line is, by the word's number -/
theorem lk_town {b : Nat → Int} {N s : Int} {j : Nat} (hj : j < 12) (hs : 0 ≤ s ∧ s ≤ N) (ht : tks b N s = 1) (h : wrd b N s = wcon j) : lk b N 0 s = j := by
  unfold lk
  rw [if_pos ht, if_pos rfl]
  have hw := (wrd_isW (by omega) hs ht).mp h
  exact lkl_of 12 0 (by omega) (by omega) (fun k _ k2 y => by have := isW_inj (by omega) (by omega) hs ht y hw; omega) hw
theorem lk_day {b : Nat → Int} {N s : Int} {j : Nat} (hj : 12 ≤ j ∧ j < 14) (hs : 0 ≤ s ∧ s ≤ N) (ht : tks b N s = 1) (h : wrd b N s = wcon j) : lk b N 1 s = j := by
  unfold lk
  rw [if_pos ht, if_neg (by decide)]
  have hw := (wrd_isW (by omega) hs ht).mp h
  exact lkl_of 2 12 (by omega) (by omega) (fun k k1 k2 y => by have := isW_inj (by omega) (by omega) hs ht y hw; omega) hw
theorem lk_town0 {b : Nat → Int} {N s : Int} (hs : 0 ≤ s ∧ s ≤ N) (h : tks b N s = 1 → ∀ j : Nat, j < 12 → wrd b N s ≠ wcon j) : lk b N 0 s = -1 := by
  unfold lk
  by_cases ht : tks b N s = 1
  · rw [if_pos ht, if_pos rfl]
    exact lkl_no 12 0 (fun k _ k2 y => h ht k (by omega) ((wrd_isW (by omega) hs ht).mpr y))
  · rw [if_neg ht]
theorem lk_day0 {b : Nat → Int} {N s : Int} (hs : 0 ≤ s ∧ s ≤ N) (h : tks b N s = 1 → ∀ j : Nat, 12 ≤ j → j < 14 → wrd b N s ≠ wcon j) : lk b N 1 s = -1 := by
  unfold lk
  by_cases ht : tks b N s = 1
  · rw [if_pos ht, if_neg (by decide)]
    exact lkl_no 2 12 (fun k k1 k2 y => h ht k k1 (by omega) ((wrd_isW (by omega) hs ht).mpr y))
  · rw [if_neg ht]
theorem lkl_r {b : Nat → Int} {s e : Int} : ∀ (n i : Nat), lkl b s e n i = -1 ∨ ((i : Int) ≤ lkl b s e n i ∧ lkl b s e n i < i + n)
  | 0, i => Or.inl rfl
  | n + 1, i => by
    by_cases z : isW b s e i
    · rw [lkl_y z]; omega
    · rw [lkl_n z]
      rcases lkl_r (b := b) (s := s) (e := e) n (i + 1) with h | h
      · exact Or.inl h
      · right; omega
theorem lk_r {b : Nat → Int} {N of s : Int} (hof : of = 0 ∨ of = 1) : lk b N of s = -1 ∨ (tks b N s = 1 ∧ (if of = 0 then 0 else 12) ≤ lk b N of s ∧ lk b N of s < (if of = 0 then 12 else 14)) := by
  unfold lk
  by_cases ht : tks b N s = 1
  · rw [if_pos ht]
    rcases hof with h | h
    · rw [if_pos h, if_pos h, if_pos h]
      rcases lkl_r (b := b) (s := s) (e := ten b N s) 12 0 with h | h
      · exact Or.inl h
      · exact Or.inr ⟨ht, by omega, by omega⟩
    · have h' : ¬ of = 0 := by omega
      rw [if_neg h', if_neg h', if_neg h']
      rcases lkl_r (b := b) (s := s) (e := ten b N s) 2 12 with h | h
      · exact Or.inl h
      · exact Or.inr ⟨ht, by omega, by omega⟩
  · rw [if_neg ht]; exact Or.inl rfl
