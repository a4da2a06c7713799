/-! TEXTS: the pure reading, and the class's -/
abbrev NL := List (Int × Int)
noncomputable def rdn (b : Nat → Int) (N : Int) : Nat → Int → NL → Int ⊕ (NL × Int)
  | 0, a, l => if tks b N (stt b N a) = 3 then .inr (l, ten b N (stt b N a)) else .inl (stt b N a)
  | n + 1, a, l => if tks b N (stt b N a) = 2 then rdn b N n (ten b N (stt b N a)) (l ++ [(vll b N (stt b N a), stt b N a)]) else .inl (stt b N a)
def nv (l : NL) (i : Nat) : Int := (l.getD i (0, 0)).1
def np (l : NL) (i : Nat) : Int := (l.getD i (0, 0)).2
def nms (L : Nat) : Nat := (xval 0 L).toNat
def hiB (L i : Nat) (S : Nat → Int) : Int := if xval 2 (L * 4 + i) = -2 then S 2 - 1 else if xval 2 (L * 4 + i) = -3 then S 1 - 1 else xval 2 (L * 4 + i)
def can (L i : Nat) (S : Nat → Int) (l : NL) : Prop := xval 1 (L * 4 + i) ≤ nv l i ∧ nv l i ≤ hiB L i S ∧ ¬ (L = 1 ∧ i = 1 ∧ nv l 1 = nv l 0)
def full (L : Nat) (S : Nat → Int) : Prop := (L = 1 ∧ 14 ≤ S 1) ∨ ((L = 2 ∨ L = 3 ∨ L = 4) ∧ 8 ≤ S 2) ∨ (L = 5 ∧ 12 ≤ S 3) ∨ ((L = 12 ∨ L = 13) ∧ 40 ≤ S 0)
noncomputable def cks (L : Nat) (S : Nat → Int) (l : NL) (f : Nat → Int × Int) (i : Nat) : Int × Int := by
  classical
  exact if can L i S l then f (i + 1) else (2, np l i)
noncomputable def ckl (L : Nat) (S : Nat → Int) (l : NL) : Nat → Nat → Int × Int
  | 0 => fun _ => (0, -1)
  | n + 1 => cks L S l (ckl L S l n)
noncomputable def chk (L : Nat) (S : Nat → Int) (s : Int) (l : NL) : Int × Int := by
  classical
  exact if full L S then (3, s) else ckl L S l (nms L) 0
def tkl (L : Nat) (S : Nat → Int) (l : NL) : Nat → Int :=
  if L = 0 then fu S 0 (nv l 0) else if L = 1 then addR S (nv l 0) (nv l 1) (nv l 2) (nv l 3) else if L = 2 ∨ L = 3 ∨ L = 4 then addP S (nv l 0) (nv l 1) ((L : Int) - 2) else if L = 5 then addE S (nv l 0) (nv l 1) (nv l 2) (nv l 3) else if L = 6 then fu S (10 + 11 * nv l 1) (nv l 0) else if L = 7 then fu S (11 + 11 * nv l 0 + nv l 1) (nv l 2) else if L = 8 then fu S 4 0 else if L = 9 then fu S 4 1 else if L = 10 then fu (fu S 4 2) 5 (nv l 0) else if L = 11 then fu S 4 3 else if L = 12 then addM S 0 (nv l 0) (nv l 1) else addM S 1 (-1) (nv l 0)
noncomputable def prl (b : Nat → Int) (N : Int) (rec : Int → Int × Int → (Nat → Int) → (Int × Int) × (Nat → Int)) (L : Nat) (s : Int) (f : Int × Int) (S : Nat → Int) : Int ⊕ (NL × Int) → (Int × Int) × (Nat → Int)
  | .inl e => ((1, e), S)
  | .inr (l, a') => rec a' (if f.1 = 0 then chk L S s l else f) (if (if f.1 = 0 then chk L S s l else f).1 = 0 then tkl L S l else S)
noncomputable def prs (b : Nat → Int) (N of : Int) : Nat → Int → Int × Int → (Nat → Int) → (Int × Int) × (Nat → Int)
  | 0, _, f, S => (f, S)
  | n + 1, a, f, S => if tks b N (stt b N a) = 0 then (f, S) else if lk b N of (stt b N a) = -1 then ((1, stt b N a), S) else prl b N (prs b N of n) (lk b N of (stt b N a)).toNat (stt b N a) f S (rdn b N (nms (lk b N of (stt b N a)).toNat) (ten b N (stt b N a)) [])
theorem cks_y {L : Nat} {S : Nat → Int} {l : NL} {n i : Nat} (h : can L i S l) : ckl L S l (n + 1) i = ckl L S l n (i + 1) := by
  show cks L S l (ckl L S l n) i = _
  unfold cks; rw [if_pos h]
theorem cks_n {L : Nat} {S : Nat → Int} {l : NL} {n i : Nat} (h : ¬ can L i S l) : ckl L S l (n + 1) i = (2, np l i) := by
  show cks L S l (ckl L S l n) i = _
  unfold cks; rw [if_neg h]
theorem rdn_r {b : Nat → Int} {N : Int} : ∀ (n : Nat) (a : Int) (l l' : NL) (a' : Int), a ≤ N → rdn b N n a l = .inr (l', a') → l'.length = l.length + n ∧ (∀ i, i < l.length → l'.getD i (0, 0) = l.getD i (0, 0)) ∧ (∀ i, l.length ≤ i → i < l.length + n → 0 ≤ nv l' i ∧ nv l' i ≤ 999) ∧ a < a' ∧ a' ≤ N
  | 0, a, l, l', a', ha, h => by
    unfold rdn at h
    have hs := stt_b (b := b) (N := N) ha
    by_cases z : tks b N (stt b N a) = 3
    · rw [if_pos z] at h
      cases h
      have := ten_b (b := b) hs.2 (by omega)
      exact ⟨rfl, fun i _ => rfl, fun i h1 h2 => by omega, by omega, by omega⟩
    · rw [if_neg z] at h
      cases h
  | n + 1, a, l, l', a', ha, h => by
    unfold rdn at h
    have hs := stt_b (b := b) (N := N) ha
    by_cases z : tks b N (stt b N a) = 2
    · rw [if_pos z] at h
      have ht := ten_b (b := b) hs.2 (by omega)
      have hv := vll_b (b := b) hs.2 z
      obtain ⟨r1, r2, r3, r4, r5⟩ := rdn_r n _ _ _ _ ht.2 h
      rw [List.length_append, List.length_singleton] at r1 r2 r3
      refine ⟨by omega, fun i hi => ?_, fun i h1 h2 => ?_, by omega, r5⟩
      · rw [r2 i (by omega), List.getD_eq_getElem?_getD, List.getD_eq_getElem?_getD, List.getElem?_append_left hi]
      · by_cases y : i = l.length
        · unfold nv
          rw [r2 i (by omega), y, List.getD_eq_getElem?_getD, List.getElem?_append_right (Nat.le_refl _), Nat.sub_self]
          exact hv
        · exact r3 i (by omega) (by omega)
    · rw [if_neg z] at h
      cases h
theorem nms_b : ∀ L : Fin 14, nms L ≤ 4 ∧ (nms L : Int) = xval 0 L := by decide
/-- the class reads the numbers of a line -/
abbrev Srd (j k : Nat) : Prop := (j = 200 ∧ 6 ≤ k ∧ k ≤ 9) ∨ j = 219 ∨ j = 220
theorem ci_readNumbers {F : Nat} {L : Nat} {a N : Int} {b : Nat → Int} {w : AW} {P : Int → AW → Prop} (hF : FB F) (hB : BB b N) (hR : RT w b N) (hL : L < 14) (ha : w.1 200 6 = a) (h0 : 0 ≤ a ∧ a ≤ N) (hl : ∀ e w', rdn b N (nms L) a [] = .inl e → Fr Srd w w' → w'.1 200 8 = e → P 0 w') (hr : ∀ l a' w', rdn b N (nms L) a [] = .inr (l, a') → Fr Srd w w' → w'.1 200 6 = a' → (∀ i, i < nms L → w'.1 219 i = nv l i ∧ w'.1 220 i = np l i) → P 1 w') : CI (m_X5_readNumbers F [vR 200, vI L] w) P := by
  have hb := hB.2
  obtain ⟨n4, nx⟩ := nms_b ⟨L, hL⟩
  simp only [] at n4 nx
  refine wp_X5_readNumbers F L w _ ⟨⟨by omega, by omega⟩, fun x hx => ?_⟩
  rw [Int.toNat_natCast, ← nx] at hx
  subst hx
  refine tt_for (K := k_X5_readNumbers_8 F) (nms L : Int) (fun i w' lo => Fr Srd w w' ∧ lo = [vR 200, vI L, vI (nms L), vI i] ∧ 0 ≤ i ∧ i ≤ nms L ∧ ∃ (c : Int) (l : NL), w'.1 200 6 = c ∧ 0 ≤ c ∧ c ≤ N ∧ (l.length : Int) = i ∧ (∀ k, k < l.length → w'.1 219 k = nv l k ∧ w'.1 220 k = np l k) ∧ rdn b N (nms L) a [] = rdn b N (nms L - i.toNat) c l) ?_ F 0 _ w (by omega) ⟨Fr.rf, rfl, by omega, by omega, a, [], ha, h0.1, h0.2, rfl, fun k hk => absurd hk (Nat.not_lt_zero k), rfl⟩
  rintro m i lo w2 ⟨f2, rfl, hi0, hi1, c, l, g6, c0, c1, hlen, hv, hrd⟩ hk
  have hR2 : RT w2 b N := hR.fr f2 (by intro k; simp only [Srd]; omega) (by simp only [Srd]; omega)
  have last : i = nms L → TT (k_X5_readNumbers_58 F [vR 200, vI L, vI (nms L), vI i] [] w2) (qq 2 (fun r w => ∃ x, r = some (vI x) ∧ P x w)) := by
    intro hi
    rw [show nms L - i.toNat = 0 from by omega] at hrd
    refine wp_X5_readNumbers_58 F L (nms L) i w2 _ (cv_next hF hB hR2 g6 ⟨c0, c1⟩ (fun w3 f3 t8 t7 t6 t9 => ?_))
    have htr := tks_r (b := b) (N := N) (s := stt b N c)
    have f3' : Fr Srd w w3 := f2.tr (f3.wk (by intro j k; simp only [Stk, Srd]; omega))
    rw [t7, w_id (x := tks b N (stt b N c)) (by omega) (by omega)]
    refine ⟨fun q => q_z1 (hr l (ten b N (stt b N c)) w3 ?_ f3' (t6 (by omega)) (fun k hk2 => ?_)), fun q => q_z0 (hl (stt b N c) w3 ?_ f3' t8)⟩
    · rw [hrd]
      show (if tks b N (stt b N c) = 3 then _ else _) = _
      rw [if_pos q]
    · rw [f3.I 219 k (by simp [Stk]), f3.I 220 k (by simp [Stk])]
      exact hv k (by omega)
    · rw [hrd]
      show (if tks b N (stt b N c) = 3 then _ else _) = _
      rw [if_neg q]
  rw [ks_X5_readNumbers_8]
  refine wp_X5_readNumbers_8 F _ L (nms L) i w2 _ ?_
  rw [w_id (x := i) (by omega) (by omega), w_id (x := (nms L : Int)) (by omega) (by omega)]
  refine ⟨fun q => ⟨fun q2 => cv_next hF hB hR2 g6 ⟨c0, c1⟩ (fun w3 f3 t8 t7 t6 t9 => ?_), fun q2 => by omega⟩, fun q => last (by omega)⟩
  have htr := tks_r (b := b) (N := N) (s := stt b N c)
  have hst := stt_b (b := b) (N := N) c1
  have f3' : Fr Srd w w3 := f2.tr (f3.wk (by intro j k; simp only [Stk, Srd]; omega))
  have en : nms L - i.toNat = (nms L - (i + 1).toNat) + 1 := by omega
  rw [t7, w_id (x := tks b N (stt b N c)) (by omega) (by omega)]
  refine ⟨fun q3 => ⟨⟨by omega, by omega⟩, fun w4 e4 => ⟨⟨by omega, by omega⟩, fun w5 e5 => hk _ _ ⟨?_, rfl, by omega, by omega, ten b N (stt b N c), l ++ [(vll b N (stt b N c), stt b N c)], ?_, ?_, ?_, ?_, fun k hk2 => ?_, ?_⟩ q⟩⟩, fun q3 => q_z0 (hl (stt b N c) w3 ?_ f3' t8)⟩
  · rw [e5, e4]; exact (f3'.wI _ (by simp [Srd])).wI _ (by simp [Srd])
  · rw [e5, wI_cell _ _ _ _ (by decide), e4, wI_cell _ _ _ _ (by decide)]; exact t6 (by omega)
  · have := ten_b (b := b) hst.2 (by omega); omega
  · exact (ten_b (b := b) hst.2 (by omega)).2
  · rw [List.length_append, List.length_singleton]; omega
  · rw [List.length_append, List.length_singleton] at hk2
    have e5' : ∀ x, w5.1 219 x = if x = i.toNat then w3.1 200 9 else w3.1 219 x := fun x => by
      rw [e5, wI_cell _ _ _ _ (by decide), e4, wI_at]
      by_cases z : x = i.toNat
      · rw [if_pos ⟨rfl, z⟩, if_pos z]
      · rw [if_neg (fun y => z y.2), if_neg z]
    have e5'' : ∀ x, w5.1 220 x = if x = i.toNat then w3.1 200 8 else w3.1 220 x := fun x => by
      rw [e5, wI_at]
      by_cases z : x = i.toNat
      · rw [if_pos ⟨rfl, z⟩, if_pos z, e4, wI_cell _ _ _ _ (by decide)]
      · rw [if_neg (fun y => z y.2), if_neg z, e4, wI_cell _ _ _ _ (by decide)]
    rw [e5', e5'']
    unfold nv np
    by_cases z : k = i.toNat
    · rw [if_pos z, if_pos z, List.getD_eq_getElem?_getD, List.getElem?_append_right (by omega), show k - l.length = 0 from by omega, t9 q3, t8]
      exact ⟨rfl, rfl⟩
    · rw [if_neg z, if_neg z, List.getD_eq_getElem?_getD, List.getElem?_append_left (by omega), ← List.getD_eq_getElem?_getD, f3.I 219 k (by simp [Stk]), f3.I 220 k (by simp [Stk])]
      exact hv k (by omega)
  · rw [hrd, en]
    show (if tks b N (stt b N c) = 2 then _ else _) = _
    rw [if_pos q3]
  · rw [hrd, en]
    show (if tks b N (stt b N c) = 2 then _ else _) = _
    rw [if_neg q3]
