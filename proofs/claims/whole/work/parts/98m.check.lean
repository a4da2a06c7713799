/-! TEXTS: checking and taking a line, the class -/
def CAr (w : AW) (S : Nat → Int) : Prop := CA w 201 S ∧ ∀ r, S 1 ≤ r → r < 14 → w.1 206 r.toNat = -1 ∧ ∀ h, 0 ≤ h → h < 6 → w.1 207 ((r * 6) + h).toNat = 0
def CX (of : Int) (w : AW) (S : Nat → Int) : Prop := (of = 0 ∧ CAr w S ∧ SK S) ∨ (of = 1 ∧ CD w 215 S ∧ DK S)
def lkO (of : Int) (L : Nat) : Prop := (of = 0 ∧ L < 12) ∨ (of = 1 ∧ 12 ≤ L ∧ L < 14)
theorem CX.sk {of : Int} {w : AW} {S : Nat → Int} (h : CX of w S) (h0 : of = 0) : CAr w S ∧ SK S := by
  rcases h with ⟨_, h⟩ | ⟨h1, _⟩
  · exact h
  · omega
theorem CX.dk {of : Int} {w : AW} {S : Nat → Int} (h : CX of w S) (h0 : of = 1) : CD w 215 S ∧ DK S := by
  rcases h with ⟨h1, _⟩ | ⟨_, h⟩
  · omega
  · exact h
theorem isDy215 : isDy 215 := by simp [isDy]
theorem isTw201 : isTw 201 := by simp [isTw]
theorem ckl_ok {L : Nat} {S : Nat → Int} {l : NL} : ∀ n i : Nat, (ckl L S l n i).1 = 0 → (∀ k, i ≤ k → k < i + n → can L k S l) ∧ ckl L S l n i = (0, -1)
  | 0, i, _ => ⟨fun k h1 h2 => by omega, rfl⟩
  | n + 1, i, h => by
    by_cases z : can L i S l
    · rw [cks_y z] at h ⊢
      obtain ⟨h1, h2⟩ := ckl_ok n (i + 1) h
      refine ⟨fun k k1 k2 => ?_, h2⟩
      by_cases y : k = i
      · rw [y]; exact z
      · exact h1 k (by omega) (by omega)
    · rw [cks_n z] at h
      exact absurd h (by show ¬ (2 : Int) = 0; decide)
theorem chk_ok {L : Nat} {S : Nat → Int} {s : Int} {l : NL} (h : (chk L S s l).1 = 0) : ¬ full L S ∧ (∀ k, k < nms L → can L k S l) ∧ chk L S s l = (0, -1) := by
  unfold chk at h ⊢
  by_cases z : full L S
  · rw [if_pos z] at h
    exact absurd h (by show ¬ (3 : Int) = 0; decide)
  · rw [if_neg z] at h ⊢
    obtain ⟨h1, h2⟩ := ckl_ok _ _ h
    exact ⟨z, fun k hk => h1 k (by omega) (by omega), h2⟩
theorem cv_putFault {F : Nat} {f p : Int} {w : AW} {P : AW → Prop} (hp : ∀ w', Fr (fun j k => j = 200 ∧ (k = 2 ∨ k = 3)) w w' → w'.1 200 2 = f → w'.1 200 3 = p → P w') : CV (m_X5_putFault F [vR 200, vI f, vI p] w) P := by
  refine wp_X5_putFault F f p w _ (fun w1 e1 w2 e2 => q_v (hp w2 ?_ ?_ ?_))
  · rw [e2, e1]; exact (Fr.rf.wI _ (by omega)).wI _ (by omega)
  · rw [e2, wI_idx _ _ _ _ (by decide), e1, wI_same]
  · rw [e2, wI_same]
theorem ci_isFull {F : Nat} {of : Int} {L : Nat} {w : AW} {S : Nat → Int} {P : Int → AW → Prop} (hL : lkO of L) (hX : CX of w S) (h1 : full L S → P 1 w) (h0 : ¬ full L S → P 0 w) : CI (m_X5_isFull F [vR 200, vI L] w) P := by
  rcases hL with ⟨ho, hL⟩ | ⟨ho, hL1, hL2⟩
  · obtain ⟨hC, hS⟩ := hX.sk ho
    have s1 := hS.2.1
    have s2 := hS.2.2.1
    have s3 := hS.2.2.2.1
    have g1 : w.1 201 1 = S 1 := hC.1.2.1
    have g8 : w.1 201 8 = S 2 := hC.1.2.2.1
    have g12 : w.1 201 12 = S 3 := hC.1.2.2.2.1
    have k86 : ∀ L' : Int, (L = 2 ∨ L = 3 ∨ L = 4) → TT (k_X5_isFull_86 F [vR 200, vI L'] [] w) (qq 2 (fun r w => ∃ x, r = some (vI x) ∧ P x w)) := by
      intro L' h
      refine wp_X5_isFull_86 F L' w _ ?_
      rw [g8, w_id (x := S 2) (by omega) (by omega)]
      exact ⟨fun q => q_z0 (h0 (fun y => by unfold full at y; omega)), fun q => q_z1 (h1 (by unfold full; omega))⟩
    refine wp_X5_isFull F L w _ ?_
    rw [g1, g12, w_id (x := S 1) (by omega) (by omega), w_id (x := S 3) (by omega) (by omega)]
    have : L = 0 ∨ L = 1 ∨ L = 2 ∨ L = 3 ∨ L = 4 ∨ L = 5 ∨ L = 6 ∨ L = 7 ∨ L = 8 ∨ L = 9 ∨ L = 10 ∨ L = 11 := by omega
    rcases this with e | e | e | e | e | e | e | e | e | e | e | e <;> subst e
    · exact ⟨⟨fun q => absurd q (by decide), fun q => absurd q (by decide), fun q => absurd q (by decide), fun q => absurd q (by decide), fun q => absurd q (by decide), fun q => absurd q (by decide), fun q => absurd q (by decide), fun q => absurd q (by decide), fun q => absurd q (by decide), fun q => absurd q (by decide), fun q => absurd q (by decide), fun q => absurd q (by decide), fun q => absurd q (by decide), trivial⟩, fun q => q_z0 (h0 (fun y => by unfold full at y; omega))⟩
    · exact ⟨⟨fun q => ⟨fun q => q_z0 (h0 (fun y => by unfold full at y; omega)), fun q => q_z1 (h1 (by unfold full; omega))⟩, fun q => absurd q (by decide), fun q => absurd q (by decide), fun q => absurd q (by decide), fun q => absurd q (by decide), fun q => absurd q (by decide), fun q => absurd q (by decide), fun q => absurd q (by decide), fun q => absurd q (by decide), fun q => absurd q (by decide), fun q => absurd q (by decide), fun q => absurd q (by decide), fun q => absurd q (by decide), trivial⟩, fun q => absurd (by decide) q⟩
    · exact ⟨⟨fun q => absurd q (by decide), fun q => k86 _ (by omega), fun q => absurd q (by decide), fun q => absurd q (by decide), fun q => absurd q (by decide), fun q => absurd q (by decide), fun q => absurd q (by decide), fun q => absurd q (by decide), fun q => absurd q (by decide), fun q => absurd q (by decide), fun q => absurd q (by decide), fun q => absurd q (by decide), fun q => absurd q (by decide), trivial⟩, fun q => absurd (by decide) q⟩
    · exact ⟨⟨fun q => absurd q (by decide), fun q => absurd q (by decide), fun q => k86 _ (by omega), fun q => absurd q (by decide), fun q => absurd q (by decide), fun q => absurd q (by decide), fun q => absurd q (by decide), fun q => absurd q (by decide), fun q => absurd q (by decide), fun q => absurd q (by decide), fun q => absurd q (by decide), fun q => absurd q (by decide), fun q => absurd q (by decide), trivial⟩, fun q => absurd (by decide) q⟩
    · exact ⟨⟨fun q => absurd q (by decide), fun q => absurd q (by decide), fun q => absurd q (by decide), fun q => k86 _ (by omega), fun q => absurd q (by decide), fun q => absurd q (by decide), fun q => absurd q (by decide), fun q => absurd q (by decide), fun q => absurd q (by decide), fun q => absurd q (by decide), fun q => absurd q (by decide), fun q => absurd q (by decide), fun q => absurd q (by decide), trivial⟩, fun q => absurd (by decide) q⟩
    · exact ⟨⟨fun q => absurd q (by decide), fun q => absurd q (by decide), fun q => absurd q (by decide), fun q => absurd q (by decide), fun q => ⟨fun q => q_z0 (h0 (fun y => by unfold full at y; omega)), fun q => q_z1 (h1 (by unfold full; omega))⟩, fun q => absurd q (by decide), fun q => absurd q (by decide), fun q => absurd q (by decide), fun q => absurd q (by decide), fun q => absurd q (by decide), fun q => absurd q (by decide), fun q => absurd q (by decide), fun q => absurd q (by decide), trivial⟩, fun q => absurd (by decide) q⟩
    · exact ⟨⟨fun q => absurd q (by decide), fun q => absurd q (by decide), fun q => absurd q (by decide), fun q => absurd q (by decide), fun q => absurd q (by decide), fun q => q_z0 (h0 (fun y => by unfold full at y; omega)), fun q => absurd q (by decide), fun q => absurd q (by decide), fun q => absurd q (by decide), fun q => absurd q (by decide), fun q => absurd q (by decide), fun q => absurd q (by decide), fun q => absurd q (by decide), trivial⟩, fun q => absurd (by decide) q⟩
    · exact ⟨⟨fun q => absurd q (by decide), fun q => absurd q (by decide), fun q => absurd q (by decide), fun q => absurd q (by decide), fun q => absurd q (by decide), fun q => absurd q (by decide), fun q => q_z0 (h0 (fun y => by unfold full at y; omega)), fun q => absurd q (by decide), fun q => absurd q (by decide), fun q => absurd q (by decide), fun q => absurd q (by decide), fun q => absurd q (by decide), fun q => absurd q (by decide), trivial⟩, fun q => absurd (by decide) q⟩
    · exact ⟨⟨fun q => absurd q (by decide), fun q => absurd q (by decide), fun q => absurd q (by decide), fun q => absurd q (by decide), fun q => absurd q (by decide), fun q => absurd q (by decide), fun q => absurd q (by decide), fun q => q_z0 (h0 (fun y => by unfold full at y; omega)), fun q => absurd q (by decide), fun q => absurd q (by decide), fun q => absurd q (by decide), fun q => absurd q (by decide), fun q => absurd q (by decide), trivial⟩, fun q => absurd (by decide) q⟩
    · exact ⟨⟨fun q => absurd q (by decide), fun q => absurd q (by decide), fun q => absurd q (by decide), fun q => absurd q (by decide), fun q => absurd q (by decide), fun q => absurd q (by decide), fun q => absurd q (by decide), fun q => absurd q (by decide), fun q => q_z0 (h0 (fun y => by unfold full at y; omega)), fun q => absurd q (by decide), fun q => absurd q (by decide), fun q => absurd q (by decide), fun q => absurd q (by decide), trivial⟩, fun q => absurd (by decide) q⟩
    · exact ⟨⟨fun q => absurd q (by decide), fun q => absurd q (by decide), fun q => absurd q (by decide), fun q => absurd q (by decide), fun q => absurd q (by decide), fun q => absurd q (by decide), fun q => absurd q (by decide), fun q => absurd q (by decide), fun q => absurd q (by decide), fun q => q_z0 (h0 (fun y => by unfold full at y; omega)), fun q => absurd q (by decide), fun q => absurd q (by decide), fun q => absurd q (by decide), trivial⟩, fun q => absurd (by decide) q⟩
    · exact ⟨⟨fun q => absurd q (by decide), fun q => absurd q (by decide), fun q => absurd q (by decide), fun q => absurd q (by decide), fun q => absurd q (by decide), fun q => absurd q (by decide), fun q => absurd q (by decide), fun q => absurd q (by decide), fun q => absurd q (by decide), fun q => absurd q (by decide), fun q => q_z0 (h0 (fun y => by unfold full at y; omega)), fun q => absurd q (by decide), fun q => absurd q (by decide), trivial⟩, fun q => absurd (by decide) q⟩
  · obtain ⟨hC, hD⟩ := hX.dk ho
    have s0 := hD.1
    have g0 : w.1 215 0 = S 0 := hC.1
    have k122 : ∀ L' : Int, TT (k_X5_isFull_122 F [vR 200, vI L'] [] w) (qq 2 (fun r w => ∃ x, r = some (vI x) ∧ P x w)) := by
      intro L'
      refine wp_X5_isFull_122 F L' w _ ?_
      rw [g0, w_id (x := S 0) (by omega) (by omega)]
      exact ⟨fun q => q_z0 (h0 (fun y => by unfold full at y; omega)), fun q => q_z1 (h1 (by unfold full; omega))⟩
    refine wp_X5_isFull F L w _ ?_
    have : L = 12 ∨ L = 13 := by omega
    rcases this with e | e <;> subst e
    · exact ⟨⟨fun q => absurd q (by decide), fun q => absurd q (by decide), fun q => absurd q (by decide), fun q => absurd q (by decide), fun q => absurd q (by decide), fun q => absurd q (by decide), fun q => absurd q (by decide), fun q => absurd q (by decide), fun q => absurd q (by decide), fun q => absurd q (by decide), fun q => absurd q (by decide), fun q => k122 _, fun q => absurd q (by decide), trivial⟩, fun q => absurd (by decide) q⟩
    · exact ⟨⟨fun q => absurd q (by decide), fun q => absurd q (by decide), fun q => absurd q (by decide), fun q => absurd q (by decide), fun q => absurd q (by decide), fun q => absurd q (by decide), fun q => absurd q (by decide), fun q => absurd q (by decide), fun q => absurd q (by decide), fun q => absurd q (by decide), fun q => absurd q (by decide), fun q => absurd q (by decide), fun q => k122 _, trivial⟩, fun q => absurd (by decide) q⟩
theorem x1_b : ∀ j : Fin 56, 0 ≤ xval 1 j ∧ xval 1 j ≤ 2 := by decide
theorem x2_b : ∀ j : Fin 56, -3 ≤ xval 2 j ∧ xval 2 j ≤ 999 := by decide
theorem x2_day : ∀ j : Fin 8, xval 2 (48 + j.val) ≠ -2 ∧ xval 2 (48 + j.val) ≠ -3 := by decide
theorem ci_canBe {F : Nat} {of : Int} {L i : Nat} {w : AW} {S : Nat → Int} {l : NL} {P : Int → AW → Prop} (hL : lkO of L) (hi : i < nms L) (hX : CX of w S) (hn : ∀ k, k < nms L → w.1 219 k = nv l k) (hb : ∀ k, k < nms L → 0 ≤ nv l k ∧ nv l k ≤ 999) (h1 : can L i S l → P 1 w) (h0 : ¬ can L i S l → P 0 w) : CI (m_X5_canBe F [vR 200, vI L, vI i] w) P := by
  have hL14 : L < 14 := by rcases hL with h | h <;> omega
  have hm := nms_b ⟨L, hL14⟩
  simp only [] at hm
  have x1 := x1_b ⟨L * 4 + i, by omega⟩
  have x2 := x2_b ⟨L * 4 + i, by omega⟩
  simp only [] at x1 x2
  have hs : (xval 2 (L * 4 + i) = -2 → w.1 201 8 = S 2 ∧ 0 ≤ S 2 ∧ S 2 ≤ 8) ∧ (xval 2 (L * 4 + i) = -3 → w.1 201 1 = S 1 ∧ 0 ≤ S 1 ∧ S 1 ≤ 14) := by
    rcases hL with ⟨ho, hL⟩ | ⟨ho, hL1, hL2⟩
    · obtain ⟨hC, hS⟩ := hX.sk ho
      exact ⟨fun _ => ⟨hC.1.2.2.1, hS.2.2.1⟩, fun _ => ⟨hC.1.2.1, hS.2.1⟩⟩
    · have := x2_day ⟨L * 4 + i - 48, by omega⟩
      simp only [] at this
      rw [show 48 + (L * 4 + i - 48) = L * 4 + i from by omega] at this
      exact ⟨fun y => absurd y this.1, fun y => absurd y this.2⟩
  have ei : ((L : Int) * 4 + (i : Int)).toNat = L * 4 + i := by omega
  have hv := hb i hi
  have fin : ∀ m : Int, m = hiB L i S → (-1 ≤ m ∧ m ≤ 999) → TT (k_X5_canBe_45 F [vR 200, vI L, vI i, vI m] [] w) (qq 2 (fun r w => ∃ x, r = some (vI x) ∧ P x w)) := by
    intro m hm2 hmb
    refine wp_X5_canBe_45 F L i m w _ ⟨⟨by omega, by omega⟩, ⟨by omega, by omega⟩, ?_⟩
    rw [ei, Int.toNat_natCast, hn i hi, w_id (x := nv l i) (by omega) (by omega), w_id (x := xval 1 (L * 4 + i)) (by omega) (by omega), w_id (x := m) (by omega) (by omega), w_id (x := (L : Int)) (by omega) (by omega), w_id (x := (i : Int)) (by omega) (by omega)]
    have yes : (xval 1 (L * 4 + i) ≤ nv l i ∧ nv l i ≤ m) → ¬ (L = 1 ∧ i = 1 ∧ nv l 1 = nv l 0) → TT (k_X5_canBe_100 F [vR 200, vI L, vI i, vI m] [] w) (qq 2 (fun r w => ∃ x, r = some (vI x) ∧ P x w)) := fun y1 y2 => wp_X5_canBe_100 F L i m w _ (q_z1 (h1 ⟨y1.1, by rw [← hm2]; exact y1.2, y2⟩))
    refine ⟨fun q => q_z0 (h0 (fun y => by have := y.1; omega)), fun q => ⟨⟨by omega, by omega⟩, fun q2 => q_z0 (h0 (fun y => by have := y.2.1; omega)), fun q2 => ⟨fun q3 => ⟨fun q4 => ?_, fun q4 => yes ⟨by omega, by omega⟩ (fun y => by omega)⟩, fun q3 => yes ⟨by omega, by omega⟩ (fun y => by omega)⟩⟩⟩
    have eL : L = 1 := by omega
    have e1 : i = 1 := by omega
    have n4 : nms L = 4 := by rw [eL]; decide
    have v0 := hb 0 (by omega)
    have v1 := hb 1 (by omega)
    rw [hn 0 (by omega), hn 1 (by omega), w_id (x := nv l 0) (by omega) (by omega), w_id (x := nv l 1) (by omega) (by omega)]
    exact ⟨fun q5 => q_z0 (h0 (fun y => y.2.2 ⟨eL, e1, q5⟩)), fun q5 => yes ⟨by omega, by omega⟩ (fun y => q5 y.2.2)⟩
  refine wp_X5_canBe F L i w _ ⟨⟨by omega, by omega⟩, fun x hx => ?_⟩
  rw [ei] at hx
  rw [hx, w_id (x := xval 2 (L * 4 + i)) (by omega) (by omega)]
  refine ⟨fun q x4 h4 => ?_, fun q => ⟨fun q2 x7 h7 => ?_, fun q2 => ?_⟩⟩
  · have := hs.1 q
    refine fin x4 ?_ (by omega)
    unfold hiB
    rw [if_pos q]; omega
  · have := hs.2 q2
    refine fin x7 ?_ (by omega)
    unfold hiB
    rw [if_neg q, if_pos q2]; omega
  · refine fin _ ?_ (by omega)
    unfold hiB
    rw [if_neg q, if_neg q2]
theorem CX.fr {of : Int} {w w' : AW} {S : Nat → Int} {R : Nat → Nat → Prop} (h : CX of w S) (f : Fr R w w') (hs : ∀ a k, 201 ≤ a → a ≤ 217 → ¬ R a k) : CX of w' S := by
  rcases h with ⟨h1, h2, h3⟩ | ⟨h1, h2, h3⟩
  · refine Or.inl ⟨h1, ⟨h2.1.fr f (fun a k x y => hs a k (by omega) (by omega)), fun r r0 r1 => ?_⟩, h3⟩
    rw [f.I 206 _ (hs _ _ (by omega) (by omega))]
    refine ⟨(h2.2 r r0 r1).1, fun k k0 k1 => ?_⟩
    rw [f.I 207 _ (hs _ _ (by omega) (by omega))]
    exact (h2.2 r r0 r1).2 k k0 k1
  · refine Or.inr ⟨h1, ⟨by rw [f.I 215 0 (hs _ _ (by omega) (by omega))]; exact h2.1, fun k k0 k1 => ?_⟩, h3⟩
    rw [f.I (215 + 1) _ (hs _ _ (by omega) (by omega)), f.I (215 + 2) _ (hs _ _ (by omega) (by omega))]
    exact h2.2 k k0 k1
theorem cv_checkLine {F : Nat} {of s : Int} {L : Nat} {w : AW} {S : Nat → Int} {l : NL} {P : AW → Prop} (hF : FB F) (hL : lkO of L) (hX : CX of w S) (hn : ∀ k, k < nms L → w.1 219 k = nv l k ∧ w.1 220 k = np l k) (hb : ∀ k, k < nms L → 0 ≤ nv l k ∧ nv l k ≤ 999) (h2 : w.1 200 2 = 0) (h3 : w.1 200 3 = -1) (h10 : w.1 200 10 = s) (hp : ∀ w', Fr (fun j k => j = 200 ∧ (k = 2 ∨ k = 3)) w w' → w'.1 200 2 = (chk L S s l).1 → w'.1 200 3 = (chk L S s l).2 → P w') : CV (m_X5_checkLine F [vR 200, vI L] w) P := by
  have hL14 : L < 14 := by rcases hL with h | h <;> omega
  obtain ⟨n4, nx⟩ := nms_b ⟨L, hL14⟩
  simp only [] at n4 nx
  refine wp_X5_checkLine F L w _ (ci_isFull hL hX (fun hf => br1 ?_) (fun hf => br0 ?_))
  · unfold chk at hp
    rw [if_pos hf] at hp
    rw [h10]
    exact cv_putFault (fun w1 f1 g2 g3 => q_v (hp w1 f1 g2 g3))
  · unfold chk at hp
    rw [if_neg hf] at hp
    refine tt_for (K := k_X5_checkLine_20 F) (nms L : Int) (fun i w' lo => w' = w ∧ lo = [vR 200, vI L, vI i] ∧ 0 ≤ i ∧ i ≤ nms L ∧ ckl L S l (nms L) 0 = ckl L S l (nms L - i.toNat) i.toNat) ?_ F 0 _ w (by omega) ⟨rfl, rfl, by omega, by omega, rfl⟩
    rintro m i lo w2 ⟨rfl, rfl, hi0, hi1, hc⟩ hk
    rw [ks_X5_checkLine_20]
    refine wp_X5_checkLine_20 F _ L i w2 _ ⟨⟨by omega, by omega⟩, ?_⟩
    rw [Int.toNat_natCast, ← nx, w_id (x := i) (by omega) (by omega), w_id (x := (nms L : Int)) (by omega) (by omega)]
    refine ⟨fun q => ?_, fun q => q_v ?_⟩
    · obtain ⟨c, rfl⟩ := Int.eq_ofNat_of_zero_le hi0
      rw [Int.toNat_natCast] at hc
      have en : nms L - c = (nms L - (c + 1)) + 1 := by omega
      refine ci_canBe hL (by omega) hX (fun k hk2 => (hn k hk2).1) hb (fun y => br1 (hk _ _ ⟨rfl, rfl, by omega, by omega, ?_⟩ q)) (fun y => br0 ⟨⟨by omega, by omega⟩, ?_⟩)
      · rw [hc, en, cks_y y, show ((c : Int) + 1).toNat = c + 1 from by omega]
      · rw [hc, en, cks_n y] at hp
        rw [Int.toNat_natCast, (hn c (by omega)).2]
        exact cv_putFault (fun w1 f1 g2 g3 => q_v (hp w1 f1 g2 g3))
    · rw [hc, show nms L - i.toNat = 0 from by omega] at hp
      exact hp w2 Fr.rf h2 h3
