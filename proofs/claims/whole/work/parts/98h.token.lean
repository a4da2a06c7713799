/-! TEXTS: bytes and tokens -/
def blk (c : Int) : Prop := c = 10 ∨ c = 32
def ltr (c : Int) : Prop := 97 ≤ c ∧ c ≤ 122
def dgt (c : Int) : Prop := 48 ≤ c ∧ c ≤ 57
noncomputable def scs (p : Int → Prop) (b : Nat → Int) (N : Int) (f : Int → Int) (a : Int) : Int := by
  classical
  exact if a < N ∧ p (b a.toNat) then f (a + 1) else a
noncomputable def scn (p : Int → Prop) (b : Nat → Int) (N : Int) : Nat → Int → Int
  | 0 => fun a => a
  | n + 1 => scs p b N (scn p b N n)
noncomputable def sc (p : Int → Prop) (b : Nat → Int) (N a : Int) : Int := scn p b N (N - a).toNat a
theorem scs_y {p : Int → Prop} {b : Nat → Int} {N a : Int} {f : Int → Int} (h : a < N ∧ p (b a.toNat)) : scs p b N f a = f (a + 1) := by
  unfold scs; rw [if_pos h]
theorem scs_n {p : Int → Prop} {b : Nat → Int} {N a : Int} {f : Int → Int} (h : ¬ (a < N ∧ p (b a.toNat))) : scs p b N f a = a := by
  unfold scs; rw [if_neg h]
theorem sc_step {p : Int → Prop} {b : Nat → Int} {N a : Int} (h : a < N ∧ p (b a.toNat)) : sc p b N a = sc p b N (a + 1) := by
  unfold sc
  rw [show (N - a).toNat = (N - (a + 1)).toNat + 1 from by omega]
  exact scs_y h
theorem sc_stop {p : Int → Prop} {b : Nat → Int} {N a : Int} (h : ¬ (a < N ∧ p (b a.toNat))) : sc p b N a = a := by
  unfold sc
  cases (N - a).toNat with
  | zero => rfl
  | succ n => exact scs_n h
theorem scn_b {p : Int → Prop} {b : Nat → Int} {N : Int} : ∀ (n : Nat) (a : Int), a ≤ N → a ≤ scn p b N n a ∧ scn p b N n a ≤ N ∧ ∀ i, a ≤ i → i < scn p b N n a → p (b i.toNat)
  | 0, a, h => ⟨Int.le_refl a, h, fun i h1 h2 => by have h2 : i < a := h2; omega⟩
  | n + 1, a, h => by
    by_cases z : a < N ∧ p (b a.toNat)
    · have e : scn p b N (n + 1) a = scn p b N n (a + 1) := scs_y z
      obtain ⟨h1, h2, h3⟩ := scn_b (p := p) (b := b) (N := N) n (a + 1) (by have := z.1; omega)
      rw [e]
      refine ⟨by omega, h2, fun i i0 i1 => ?_⟩
      by_cases y : i = a
      · rw [y]; exact z.2
      · exact h3 i (by omega) i1
    · have e : scn p b N (n + 1) a = a := scs_n z
      rw [e]
      exact ⟨Int.le_refl a, h, fun i h1 h2 => by omega⟩
theorem sc_b {p : Int → Prop} {b : Nat → Int} {N a : Int} (h : a ≤ N) : a ≤ sc p b N a ∧ sc p b N a ≤ N ∧ ∀ i, a ≤ i → i < sc p b N a → p (b i.toNat) := scn_b _ a h
noncomputable def stt (b : Nat → Int) (N a : Int) : Int := sc blk b N a
noncomputable def tks (b : Nat → Int) (N s : Int) : Int := by
  classical
  exact if s < N then (if ltr (b s.toNat) then 1 else if dgt (b s.toNat) then (if sc dgt b N s - s ≤ 3 then 2 else 4) else if b s.toNat = 59 then 3 else 4) else 0
noncomputable def ten (b : Nat → Int) (N s : Int) : Int := by
  classical
  exact if ltr (b s.toNat) then sc ltr b N s else if dgt (b s.toNat) then sc dgt b N s else s + 1
def vv (b : Nat → Int) (s : Int) : Nat → Int
  | 0 => 0
  | k + 1 => vv b s k * 10 + b (s + k).toNat - 48
noncomputable def vll (b : Nat → Int) (N s : Int) : Int := vv b s (sc dgt b N s - s).toNat
theorem tks_0 {b : Nat → Int} {N s : Int} (h : ¬ s < N) : tks b N s = 0 := by
  unfold tks; rw [if_neg h]
theorem tks_1 {b : Nat → Int} {N s : Int} (h : s < N) (h1 : ltr (b s.toNat)) : tks b N s = 1 ∧ ten b N s = sc ltr b N s := by
  unfold tks ten; rw [if_pos h, if_pos h1, if_pos h1]; exact ⟨rfl, rfl⟩
theorem tks_2 {b : Nat → Int} {N s : Int} (h : s < N) (h1 : ¬ ltr (b s.toNat)) (h2 : dgt (b s.toNat)) : tks b N s = (if sc dgt b N s - s ≤ 3 then 2 else 4) ∧ ten b N s = sc dgt b N s := by
  unfold tks ten; rw [if_pos h, if_neg h1, if_pos h2, if_neg h1, if_pos h2]; exact ⟨rfl, rfl⟩
theorem tks_3 {b : Nat → Int} {N s : Int} (h : s < N) (h1 : ¬ ltr (b s.toNat)) (h2 : ¬ dgt (b s.toNat)) : tks b N s = (if b s.toNat = 59 then 3 else 4) ∧ ten b N s = s + 1 := by
  unfold tks ten; rw [if_pos h, if_neg h1, if_neg h2, if_neg h1, if_neg h2]; exact ⟨rfl, rfl⟩
theorem tks_r {b : Nat → Int} {N s : Int} : 0 ≤ tks b N s ∧ tks b N s ≤ 4 := by
  unfold tks
  split
  · split
    · omega
    · split
      · split <;> omega
      · split <;> omega
  · omega
theorem stt_b {b : Nat → Int} {N a : Int} (h : a ≤ N) : a ≤ stt b N a ∧ stt b N a ≤ N := ⟨(sc_b h).1, (sc_b h).2.1⟩
/-- a token takes a byte at least -/
theorem ten_b {b : Nat → Int} {N s : Int} (hs : s ≤ N) (h : tks b N s ≠ 0) : s + 1 ≤ ten b N s ∧ ten b N s ≤ N := by
  by_cases z : s < N
  · by_cases l : ltr (b s.toNat)
    · rw [(tks_1 z l).2, sc_step ⟨z, l⟩]
      have := sc_b (p := ltr) (b := b) (N := N) (a := s + 1) (by omega)
      omega
    · by_cases d : dgt (b s.toNat)
      · rw [(tks_2 z l d).2, sc_step ⟨z, d⟩]
        have := sc_b (p := dgt) (b := b) (N := N) (a := s + 1) (by omega)
        omega
      · rw [(tks_3 z l d).2]; omega
  · exact absurd (tks_0 z) h
theorem vv_b {b : Nat → Int} {s : Int} : ∀ k : Nat, (∀ i : Nat, i < k → dgt (b (s + i).toNat)) → 0 ≤ vv b s k ∧ vv b s k + 1 ≤ 10 ^ k
  | 0, _ => ⟨by show (0 : Int) ≤ 0; omega, by show (0 : Int) + 1 ≤ 1; omega⟩
  | k + 1, h => by
    have h1 := vv_b k (fun i hi => h i (by omega))
    have h2 := h k (by omega)
    unfold dgt at h2
    have e : vv b s (k + 1) = vv b s k * 10 + b (s + k).toNat - 48 := rfl
    rw [e, Int.pow_succ]
    omega
theorem vll_b {b : Nat → Int} {N s : Int} (hs : s ≤ N) (h : tks b N s = 2) : 0 ≤ vll b N s ∧ vll b N s ≤ 999 := by
  by_cases z : s < N
  · by_cases l : ltr (b s.toNat)
    · rw [(tks_1 z l).1] at h; omega
    · by_cases d : dgt (b s.toNat)
      · rw [(tks_2 z l d).1] at h
        have h3 : sc dgt b N s - s ≤ 3 := by
          by_cases y : sc dgt b N s - s ≤ 3
          · exact y
          · rw [if_neg y] at h; omega
        have hb := sc_b (p := dgt) (b := b) (N := N) (a := s) hs
        have hv := vv_b (b := b) (s := s) (sc dgt b N s - s).toNat (fun i hi => hb.2.2 (s + i) (by omega) (by omega))
        unfold vll
        have : (10 : Int) ^ (sc dgt b N s - s).toNat ≤ 10 ^ 3 := by
          have : (sc dgt b N s - s).toNat = 0 ∨ (sc dgt b N s - s).toNat = 1 ∨ (sc dgt b N s - s).toNat = 2 ∨ (sc dgt b N s - s).toNat = 3 := by omega
          rcases this with e | e | e | e <;> rw [e] <;> decide
        omega
      · rw [(tks_3 z l d).1] at h
        split at h <;> omega
  · rw [tks_0 z] at h; omega
/-! the class's tokens -/
def RT (w : AW) (b : Nat → Int) (N : Int) : Prop := w.2.2.1 = 36 ∧ (∀ k, k < 600 → w.1 36 k = b k) ∧ w.1 200 5 = N
def BB (b : Nat → Int) (N : Int) : Prop := (∀ k, k < 600 → -128 ≤ b k ∧ b k ≤ 127) ∧ 0 ≤ N ∧ N ≤ 600
abbrev Stk (j k : Nat) : Prop := j = 200 ∧ 6 ≤ k ∧ k ≤ 9
theorem RT.fr {w w' : AW} {b : Nat → Int} {N : Int} {S : Nat → Nat → Prop} (h : RT w b N) (f : Fr S w w') (h1 : ∀ k, ¬ S 36 k) (h2 : ¬ S 200 5) : RT w' b N := ⟨by rw [f.2]; exact h.1, fun k hk => by rw [f.I 36 k (h1 k)]; exact h.2.1 k hk, by rw [f.I 200 5 h2]; exact h.2.2⟩
theorem isB36 : isB 36 600 := ⟨rfl, rfl⟩
theorem ci_isBlank {F : Nat} {c : Int} {w : AW} {P : Int → AW → Prop} (hc : iR c) (h1 : blk c → P 1 w) (h0 : ¬ blk c → P 0 w) : CI (m_X5_isBlank F [vI c] w) P := by
  refine wp_X5_isBlank F c w _ ?_
  rw [w_id hc.1 hc.2]
  exact ⟨fun q => wp_X5_isBlank_12 F c w _ (q_z1 (h1 (Or.inl q))), fun q => ⟨fun q2 => wp_X5_isBlank_12 F c w _ (q_z1 (h1 (Or.inr q2))), fun q2 => q_z0 (h0 (fun y => y.elim q q2))⟩⟩
theorem ci_isLetter {F : Nat} {c : Int} {w : AW} {P : Int → AW → Prop} (hc : iR c) (h1 : ltr c → P 1 w) (h0 : ¬ ltr c → P 0 w) : CI (m_X5_isLetter F [vI c] w) P := by
  refine wp_X5_isLetter F c w _ ?_
  rw [w_id hc.1 hc.2]
  exact ⟨fun q => q_z0 (h0 (fun y => by unfold ltr at y; omega)), fun q => ⟨fun q2 => q_z0 (h0 (fun y => by unfold ltr at y; omega)), fun q2 => q_z1 (h1 (by unfold ltr; omega))⟩⟩
theorem ci_isDigit {F : Nat} {c : Int} {w : AW} {P : Int → AW → Prop} (hc : iR c) (h1 : dgt c → P 1 w) (h0 : ¬ dgt c → P 0 w) : CI (m_X5_isDigit F [vI c] w) P := by
  refine wp_X5_isDigit F c w _ ?_
  rw [w_id hc.1 hc.2]
  exact ⟨fun q => q_z0 (h0 (fun y => by unfold dgt at y; omega)), fun q => ⟨fun q2 => q_z0 (h0 (fun y => by unfold dgt at y; omega)), fun q2 => q_z1 (h1 (by unfold dgt; omega))⟩⟩
theorem cv_nextWord {F : Nat} {a N : Int} {b : Nat → Int} {w : AW} {P : AW → Prop} (hF : FB F) (hB : BB b N) (hR : RT w b N) (ha : w.1 200 6 = a) (h0 : 0 ≤ a ∧ a ≤ N) (hp : ∀ w', Fr Stk w w' → w'.1 200 8 = w.1 200 8 → w'.1 200 7 = 1 → w'.1 200 6 = sc ltr b N a → P w') : CV (m_X5_nextWord F [vR 200] w) P := by
  refine wp_X5_nextWord F w _ (fun w1 e1 => ?_)
  have hb := hB.2
  refine tt_for (K := k_X5_nextWord_5 F) N (fun i w' l => Fr Stk w w' ∧ l = [vR 200] ∧ a ≤ i ∧ i ≤ N ∧ w'.1 200 6 = i ∧ w'.1 200 7 = 1 ∧ w'.1 200 8 = w.1 200 8 ∧ sc ltr b N a = sc ltr b N i) ?_ F a _ w1 (by omega) ⟨by rw [e1]; exact Fr.rf.wI _ (by first | (simp [Stk]; done) | (simp only [Stk]; omega)), rfl, by omega, by omega, by rw [e1, wI_idx _ _ _ _ (by decide)]; exact ha, by rw [e1, wI_same], by rw [e1, wI_idx _ _ _ _ (by decide)], rfl⟩
  rintro n i l w2 ⟨f2, rfl, hi0, hi1, g6, g7, g8, hs⟩ hk
  have hR2 : RT w2 b N := hR.fr f2 (by intro k; simp only [Stk]; omega) (by first | (simp [Stk]; done) | (simp only [Stk]; omega))
  rw [ks_X5_nextWord_5]
  refine wp_X5_nextWord_5 F _ w2 _ ?_
  rw [g6, hR2.2.2, hR2.1, w_id (x := i) (by omega) (by omega), w_id (x := N) (by omega) (by omega)]
  refine ⟨fun q => ⟨isB36, ⟨by omega, by omega⟩, ?_⟩, fun q => q_v (hp w2 f2 g8 g7 ?_)⟩
  · have hc := hB.1 i.toNat (by omega)
    rw [hR2.2.1 i.toNat (by omega)]
    refine ci_isLetter ⟨by omega, by omega⟩ (fun y => br1 (fun w3 e3 => hk _ _ ⟨by rw [e3]; exact f2.wI _ (by first | (simp [Stk]; done) | (simp only [Stk]; omega)), rfl, by omega, by omega, by rw [e3, wI_same, g6], by rw [e3, wI_idx _ _ _ _ (by decide)]; exact g7, by rw [e3, wI_idx _ _ _ _ (by decide)]; exact g8, by rw [hs, sc_step ⟨q, y⟩]⟩ q)) (fun y => br0 (q_v (hp w2 f2 g8 g7 ?_)))
    rw [g6, hs, sc_stop (fun z => y z.2)]
  · rw [g6, hs, sc_stop (fun z => q z.1)]
theorem cv_nextNumber {F : Nat} {a N : Int} {b : Nat → Int} {w : AW} {P : AW → Prop} (hF : FB F) (hB : BB b N) (hR : RT w b N) (ha : w.1 200 6 = a) (hs : w.1 200 8 = a) (h0 : 0 ≤ a ∧ a ≤ N) (hp : ∀ w', Fr Stk w w' → w'.1 200 8 = a → w'.1 200 7 = (if sc dgt b N a - a ≤ 3 then 2 else 4) → w'.1 200 6 = sc dgt b N a → (sc dgt b N a - a ≤ 3 → w'.1 200 9 = vv b a (sc dgt b N a - a).toNat) → P w') : CV (m_X5_nextNumber F [vR 200] w) P := by
  refine wp_X5_nextNumber F w _ (fun w1 e1 => ?_)
  have hb := hB.2
  refine tt_for (K := k_X5_nextNumber_5 F) N (fun i w' l => Fr Stk w w' ∧ l = [vR 200] ∧ a ≤ i ∧ i ≤ N ∧ w'.1 200 6 = i ∧ w'.1 200 8 = a ∧ (i - a ≤ 3 → w'.1 200 9 = vv b a (i - a).toNat) ∧ sc dgt b N a = sc dgt b N i) ?_ F a _ w1 (by omega) ⟨by rw [e1]; exact Fr.rf.wI _ (by first | (simp [Stk]; done) | (simp only [Stk]; omega)), rfl, by omega, by omega, by rw [e1, wI_idx _ _ _ _ (by decide)]; exact ha, by rw [e1, wI_idx _ _ _ _ (by decide)]; exact hs, fun _ => by rw [e1, wI_same, show (a - a).toNat = 0 from by omega]; rfl, rfl⟩
  rintro n i l w2 ⟨f2, rfl, hi0, hi1, g6, g8, g9, hsc⟩ hk
  have hR2 : RT w2 b N := hR.fr f2 (by intro k; simp only [Stk]; omega) (by first | (simp [Stk]; done) | (simp only [Stk]; omega))
  have fin : sc dgt b N i = i → TT (k_X5_nextNumber_81 F [vR 200] [] w2) (qq 0 (fun r w => r = none ∧ P w)) := by
    intro hstop
    refine wp_X5_nextNumber_81 F w2 _ ?_
    rw [g6, g8, w_id (x := i - a) (by omega) (by omega)]
    have hse : sc dgt b N a = i := by rw [hsc, hstop]
    rw [hse] at hp
    refine ⟨fun q w3 e3 => q_v (hp w3 ?_ ?_ ?_ ?_ (fun y => by omega)), fun q w3 e3 => q_v (hp w3 ?_ ?_ ?_ ?_ (fun y => ?_))⟩
    · rw [e3]; exact f2.wI _ (by first | (simp [Stk]; done) | (simp only [Stk]; omega))
    · rw [e3, wI_idx _ _ _ _ (by decide)]; exact g8
    · rw [e3, wI_same, if_neg (by omega)]
    · rw [e3, wI_idx _ _ _ _ (by decide)]; exact g6
    · rw [e3]; exact f2.wI _ (by first | (simp [Stk]; done) | (simp only [Stk]; omega))
    · rw [e3, wI_idx _ _ _ _ (by decide)]; exact g8
    · rw [e3, wI_same, if_pos (by omega)]
    · rw [e3, wI_idx _ _ _ _ (by decide)]; exact g6
    · rw [e3, wI_idx _ _ _ _ (by decide)]; exact g9 y
  rw [ks_X5_nextNumber_5]
  refine wp_X5_nextNumber_5 F _ w2 _ ?_
  rw [g6, hR2.2.2, hR2.1, w_id (x := i) (by omega) (by omega), w_id (x := N) (by omega) (by omega)]
  refine ⟨fun q => ⟨isB36, ⟨by omega, by omega⟩, ?_⟩, fun q => fin (sc_stop (fun z => q z.1))⟩
  have hc := hB.1 i.toNat (by omega)
  rw [hR2.2.1 i.toNat (by omega)]
  refine ci_isDigit ⟨by omega, by omega⟩ (fun y => br1 ?_) (fun y => br0 (fin (sc_stop (fun z => y z.2))))
  rw [g6, g8, hR2.1, w_id (x := i - a) (by omega) (by omega)]
  have nx : ∀ w3, Fr Stk w w3 → w3.1 200 6 = i → w3.1 200 8 = a → (i + 1 - a ≤ 3 → w3.1 200 9 = vv b a (i + 1 - a).toNat) → TT (k_X5_nextNumber_68 F (k_X5_nextNumber_5 F n) [vR 200] [] w3) (qq 0 (fun r w => r = none ∧ P w)) := by
    intro w3 f3 t6 t8 t9
    refine wp_X5_nextNumber_68 F _ w3 _ (fun w4 e4 => hk _ _ ⟨by rw [e4]; exact f3.wI _ (by first | (simp [Stk]; done) | (simp only [Stk]; omega)), rfl, by omega, by omega, by rw [e4, wI_same, t6], by rw [e4, wI_idx _ _ _ _ (by decide)]; exact t8, fun z => by rw [e4, wI_idx _ _ _ _ (by decide)]; exact t9 z, by rw [hsc, sc_step ⟨q, y⟩]⟩ q)
  refine ⟨fun q2 => ⟨isB36, ⟨by omega, by omega⟩, fun w3 e3 => nx w3 (by rw [e3]; exact f2.wI _ (by first | (simp [Stk]; done) | (simp only [Stk]; omega))) (by rw [e3, wI_idx _ _ _ _ (by decide)]; exact g6) (by rw [e3, wI_idx _ _ _ _ (by decide)]; exact g8) (fun z => ?_)⟩, fun q2 => nx w2 f2 g6 g8 (fun z => by omega)⟩
  rw [e3, wI_same, g9 (by omega), hR2.2.1 i.toNat (by omega), show (i + 1 - a).toNat = (i - a).toNat + 1 from by omega]
  show _ = vv b a (i - a).toNat * 10 + b (a + ((i - a).toNat : Int)).toNat - 48
  rw [show a + ((i - a).toNat : Int) = i from by omega]
theorem cv_next {F : Nat} {a N : Int} {b : Nat → Int} {w : AW} {P : AW → Prop} (hF : FB F) (hB : BB b N) (hR : RT w b N) (ha : w.1 200 6 = a) (h0 : 0 ≤ a ∧ a ≤ N) (hp : ∀ w', Fr Stk w w' → w'.1 200 8 = stt b N a → w'.1 200 7 = tks b N (stt b N a) → (tks b N (stt b N a) = 1 ∨ tks b N (stt b N a) = 2 ∨ tks b N (stt b N a) = 3 → w'.1 200 6 = ten b N (stt b N a)) → (tks b N (stt b N a) = 2 → w'.1 200 9 = vll b N (stt b N a)) → P w') : CV (m_X5_next F [vR 200] w) P := by
  refine wp_X5_next F w _ ?_
  have hb := hB.2
  refine tt_for (K := k_X5_next_0 F) N (fun i w' l => Fr Stk w w' ∧ l = [vR 200] ∧ a ≤ i ∧ i ≤ N ∧ w'.1 200 6 = i ∧ sc blk b N a = sc blk b N i) ?_ F a _ w (by omega) ⟨Fr.rf, rfl, by omega, by omega, ha, rfl⟩
  rintro n i l w2 ⟨f2, rfl, hi0, hi1, g6, hs⟩ hk
  have hR2 : RT w2 b N := hR.fr f2 (by intro k; simp only [Stk]; omega) (by first | (simp [Stk]; done) | (simp only [Stk]; omega))
  have fin : sc blk b N i = i → TT (k_X5_next_39 F [vR 200] [] w2) (qq 0 (fun r w => r = none ∧ P w)) := by
    intro hstop
    have hse : stt b N a = i := by unfold stt; rw [hs, hstop]
    rw [hse] at hp
    refine wp_X5_next_39 F w2 _ (fun w3 e3 => ?_)
    have f3 : Fr Stk w w3 := by rw [e3]; exact f2.wI _ (by first | (simp [Stk]; done) | (simp only [Stk]; omega))
    have t6 : w3.1 200 6 = i := by rw [e3, wI_idx _ _ _ _ (by decide)]; exact g6
    have t8 : w3.1 200 8 = i := by rw [e3, wI_same]; exact g6
    have hR3 : RT w3 b N := hR.fr f3 (by intro k; simp only [Stk]; omega) (by first | (simp [Stk]; done) | (simp only [Stk]; omega))
    rw [t6, hR3.2.2, hR3.1, w_id (x := i) (by omega) (by omega), w_id (x := N) (by omega) (by omega)]
    refine ⟨fun q => ⟨isB36, ⟨by omega, by omega⟩, ?_⟩, fun q w4 e4 => q_v ?_⟩
    · have hc := hB.1 i.toNat (by omega)
      rw [hR3.2.1 i.toNat (by omega)]
      refine ci_isLetter ⟨by omega, by omega⟩ (fun y => br1 (cv_nextWord hF hB hR3 t6 (by omega) (fun w4 f4 s8 s7 s6 => q_v ?_))) (fun y => br0 ?_)
      · have ht := tks_1 q y
        refine hp w4 (f3.tr f4) (by rw [s8]; exact t8) (by rw [s7, ht.1]) (fun _ => by rw [s6, ht.2]) (fun z => by rw [ht.1] at z; omega)
      · rw [t6, hR3.1, hR3.2.1 i.toNat (by omega)]
        refine ⟨isB36, ⟨by omega, by omega⟩, ci_isDigit ⟨by omega, by omega⟩ (fun y2 => br1 (cv_nextNumber hF hB hR3 t6 t8 (by omega) (fun w4 f4 s8 s7 s6 s9 => q_v ?_))) (fun y2 => br0 ?_)⟩
        · have ht := tks_2 q y y2
          refine hp w4 (f3.tr f4) s8 (by rw [s7, ht.1]) (fun _ => by rw [s6, ht.2]) (fun z => ?_)
          rw [ht.1] at z
          exact s9 (by by_cases zz : sc dgt b N i - i ≤ 3; · exact zz
                       · rw [if_neg zz] at z; omega)
        · have ht := tks_3 q y y2
          rw [t6, hR3.1, hR3.2.1 i.toNat (by omega), w_id (x := b i.toNat) (by omega) (by omega)]
          refine ⟨isB36, ⟨by omega, by omega⟩, fun q3 w4 e4 w5 e5 => q_v ?_, fun q3 w4 e4 => q_v ?_⟩
          · rw [if_pos q3] at ht
            refine hp w5 (by rw [e5, e4]; exact (f3.wI _ (by first | (simp [Stk]; done) | (simp only [Stk]; omega))).wI _ (by first | (simp [Stk]; done) | (simp only [Stk]; omega))) ?_ ?_ (fun _ => ?_) (fun z => by rw [ht.1] at z; omega)
            · rw [e5, wI_idx _ _ _ _ (by decide), e4, wI_idx _ _ _ _ (by decide)]; exact t8
            · rw [e5, wI_idx _ _ _ _ (by decide), e4, wI_same, ht.1]
            · rw [e5, wI_same, e4, wI_idx _ _ _ _ (by decide), t6, ht.2]
          · rw [if_neg q3] at ht
            refine hp w4 (by rw [e4]; exact f3.wI _ (by first | (simp [Stk]; done) | (simp only [Stk]; omega))) ?_ ?_ (fun z => by rw [ht.1] at z; omega) (fun z => by rw [ht.1] at z; omega)
            · rw [e4, wI_idx _ _ _ _ (by decide)]; exact t8
            · rw [e4, wI_same, ht.1]
    · have ht := tks_0 (b := b) q
      refine hp w4 (by rw [e4]; exact f3.wI _ (by first | (simp [Stk]; done) | (simp only [Stk]; omega))) ?_ ?_ (fun z => by rw [ht] at z; omega) (fun z => by rw [ht] at z; omega)
      · rw [e4, wI_idx _ _ _ _ (by decide)]; exact t8
      · rw [e4, wI_same, ht]
  rw [ks_X5_next_0]
  refine wp_X5_next_0 F _ w2 _ ?_
  rw [g6, hR2.2.2, hR2.1, w_id (x := i) (by omega) (by omega), w_id (x := N) (by omega) (by omega)]
  refine ⟨fun q => ⟨isB36, ⟨by omega, by omega⟩, ?_⟩, fun q => fin (sc_stop (fun z => q z.1))⟩
  have hc := hB.1 i.toNat (by omega)
  rw [hR2.2.1 i.toNat (by omega)]
  exact ci_isBlank ⟨by omega, by omega⟩ (fun y => br1 (fun w3 e3 => hk _ _ ⟨by rw [e3]; exact f2.wI _ (by first | (simp [Stk]; done) | (simp only [Stk]; omega)), rfl, by omega, by omega, by rw [e3, wI_same, g6], by rw [hs, sc_step ⟨q, y⟩]⟩ q)) (fun y => br0 (fin (sc_stop (fun z => y z.2))))
