/-! TEXTS: the reference, lines of towns, the walk -/
abbrev Slo (j k : Nat) : Prop := j = 8 ∨ j = 9 ∨ (j = 0 ∧ 8 ≤ k ∧ k ≤ 20 ∧ k ≠ 9)
theorem sta_slo {w w' : AW} (h : Fr Sta w w') : Fr Slo w w' := h.wk (by intro j k; simp only [Sta, Slo]; omega)
theorem spl_slo {w w' : AW} (h : Fr Spl w w') : Fr Slo w w' := h.wk (by intro j k; simp only [Spl, Slo]; omega)
theorem e8_slo {w w' : AW} (h : Fr (fun j _ => j = 8) w w') : Fr Slo w w' := h.wk (by intro j k; simp only [Slo]; omega)
theorem LC.nv {w : AW} {b : Nat → Int} {N s : Int} {L o : Nat} {S : Nat → Int} {f0 : Int × Int} {ll hh : Nat → Int} {l : NL} (h : LC w b N L S s f0 o ll hh l) {k : Nat} (hk : k < l.length) : w.1 9 (o + k) = nv l k ∧ 0 ≤ nv l k ∧ nv l k ≤ 999 := by
  obtain ⟨a, _, _, _, hn, _⟩ := h
  exact hn k hk
theorem LC.e8 {w w' : AW} {b : Nat → Int} {N s : Int} {L o : Nat} {S : Nat → Int} {f0 : Int × Int} {ll hh : Nat → Int} {l : NL} (h : LC w b N L S s f0 o ll hh l) (f : Fr (fun j _ => j = 8) w w') : LC w' b N L S s f0 o ll hh l := h.fr f (by intro k; omega) (by intro k h1 h2; omega) (by intro k h1; omega)
/-- what a line begins with: behind its word, behind the question whether there is room -/
def LB (w : AW) (b : Nat → Int) (N : Int) (L : Nat) (S : Nat → Int) (s : Int) (f : Int × Int) (ll hh : Nat → Int) : Prop := LC w b N L S s (fl0 L S s f) 0 ll hh [] ∧ RBt w ∧ (f.1 = 0 → RW w S ∧ HI w S)
theorem ci_errandL {F : Nat} {s N : Int} {b : Nat → Int} {S : Nat → Int} {f : Int × Int} {w : AW} {P : Int → AW → Prop} (hF : FB F) (hB : BB b N) (hL : LB w b N 5 S s f (fun _ => 0) (fun k => [w.1 8 2 - 1, 8, 359, 100].getD k 0)) (h0 : ∀ w', Fr Slo w w' → rdn b N (nms 5) (ten b N s) [] = .inl (w'.1 0 14) → P 0 w') (h1 : ∀ w' l, Fr Slo w w' → LPs w' b N 5 S s f l → P 1 w') : CI (m_X9_errandLine F [vR 0] w) P := by
  obtain ⟨hC, hRB, hRW⟩ := hL
  obtain ⟨r1, r2, r3, r20⟩ := id hRB
  obtain ⟨H0, g20_0⟩ : ∃ H0, w.1 0 20 = H0 := ⟨_, rfl⟩
  have b20_0 : -1 ≤ H0 ∧ H0 ≤ 999 := by rw [← g20_0]; exact r20
  have hS2 : (fl0 5 S s f).1 = 0 → w.1 8 2 - 1 = hiB 5 0 S := fun z => by
    have := (hRW (fl0_z z).1).1 2 (by omega)
    show w.1 8 2 - 1 = S 2 - 1
    omega
  refine wp_X9_errandLine F w _ (ci_takeL (k := 0) hF hB hC rfl (by omega) (by show (0 : Nat) < 4; decide) rfl rfl (by decide) ⟨by omega, by omega⟩ (by decide) (fun z => can_new (fun y => absurd y.1 (by decide)) rfl (hS2 z)) (fun w1 f1 q => br0 (q_z0 (h0 w1 (sta_slo f1) q))) (fun w1 x1 f1 hC1 => br1 ?_))
  have g20_1 : w1.1 0 20 = H0 := by rw [f1.I 0 20 (by simp [Sta])]; exact g20_0
  have b20_1 := b20_0
  generalize hH1 : H0 = H1 at g20_1 b20_1
  refine ci_placedL (k := 1) hF hB hC1 (by rw [g20_1]; exact b20_1) rfl (by omega) (by show (1 : Nat) < 4; decide) rfl rfl (by decide) (fun z => can_new (fun y => absurd y.1 (by decide)) rfl rfl) (fun w2 f2 q => br0 (q_z0 (h0 w2 ((sta_slo f1).tr (spl_slo f2)) q))) (fun w2 x2 f2 hC2 h20_2 hx2 => br1 ?_)
  have g20_2 : w2.1 0 20 = mx H1 x2.1 := by rw [h20_2, g20_1]
  have b20_2 := mx_b b20_1 hx2
  generalize hH2 : mx H1 x2.1 = H2 at g20_2 b20_2
  refine ci_takeL (k := 2) hF hB hC2 rfl (by omega) (by show (2 : Nat) < 4; decide) rfl rfl (by decide) (by decide) (by decide) (fun z => can_new (fun y => absurd y.1 (by decide)) rfl rfl) (fun w3 f3 q => br0 (q_z0 (h0 w3 (((sta_slo f1).tr (spl_slo f2)).tr (sta_slo f3)) q))) (fun w3 x3 f3 hC3 => br1 ?_)
  have g20_3 : w3.1 0 20 = H2 := by rw [f3.I 0 20 (by simp [Sta])]; exact g20_2
  have b20_3 := b20_2
  generalize hH3 : H2 = H3 at g20_3 b20_3
  refine ci_takeL (k := 3) hF hB hC3 rfl (by omega) (by show (3 : Nat) < 4; decide) rfl rfl (by decide) (by decide) (by decide) (fun z => can_new (fun y => absurd y.1 (by decide)) rfl rfl) (fun w4 f4 q => br0 (q_z0 (h0 w4 ((((sta_slo f1).tr (spl_slo f2)).tr (sta_slo f3)).tr (sta_slo f4)) q))) (fun w4 x4 f4 hC4 => br1 ?_)
  have g20_4 : w4.1 0 20 = H3 := by rw [f4.I 0 20 (by simp [Sta])]; exact g20_3
  have b20_4 := b20_3
  generalize hH4 : H3 = H4 at g20_4 b20_4
  have ff : Fr Slo w w4 := (((sta_slo f1).tr (spl_slo f2)).tr (sta_slo f3)).tr (sta_slo f4)
  have c8 : ∀ k, w4.1 8 k = w.1 8 k := fun k => by rw [f4.I 8 k (by simp [Sta]), f3.I 8 k (by simp [Sta]), f2.I 8 k (by simp [Spl]), f1.I 8 k (by simp [Sta])]
  obtain ⟨l, hl⟩ : ∃ l : NL, l = [] ++ [x1] ++ [x2] ++ [x3] ++ [x4] := ⟨_, rfl⟩
  rw [← hl] at hC4
  have len : l.length = 4 := by rw [hl]; rfl
  have v0 := hC4.nv (k := 0) (by omega)
  have y0 : x1.1 = nv l 0 := by rw [hl]; rfl
  have v1 := hC4.nv (k := 1) (by omega)
  have y1 : x2.1 = nv l 1 := by rw [hl]; rfl
  have v2 := hC4.nv (k := 2) (by omega)
  have y2 : x3.1 = nv l 2 := by rw [hl]; rfl
  have v3 := hC4.nv (k := 3) (by omega)
  have y3 : x4.1 = nv l 3 := by rw [hl]; rfl
  refine cv_lay4 (c := 3) (n := 4) hF (by decide) (by decide) (by decide) (by rw [c8]; omega) (by decide) (by decide) (by decide) (fun q => by rw [c8] at q ⊢; omega) (fun q => q_z1 (h1 w4 l ff (hC4.done len ⟨by rw [c8]; exact r1, by rw [c8]; exact r2, by rw [c8]; exact r3, by rw [g20_4]; exact b20_4⟩ (fun z => ?_)))) (fun q w5 f5 h5 => q_z1 (h1 w5 l (ff.tr (e8_slo f5)) ((hC4.e8 f5).done len ⟨?_, ?_, ?_, ?_⟩ (fun z => ⟨fun j hj => ?_, fun x hx => ?_⟩))))
  · exfalso
    obtain ⟨z1, z2⟩ := fl0_z (ufc_z z)
    have := (hRW z1).1 3 (by omega)
    rw [c8] at q
    exact z2 (Or.inr (Or.inr (Or.inl ⟨rfl, by omega⟩)))
  · rw [h5 1, if_neg (by decide), if_neg (by rw [c8]; omega), c8]; exact r1
  · rw [h5 2, if_neg (by decide), if_neg (by rw [c8]; omega), c8]; exact r2
  · rw [h5 3, if_pos rfl]
    rw [c8] at q ⊢
    omega
  · rw [f5.I 0 20 (by decide), g20_4]; exact b20_4
  · obtain ⟨z1, z2⟩ := fl0_z (ufc_z z)
    have hrw := (hRW z1).1
    have e_c : w4.1 8 3 = S 3 := by rw [c8]; exact hrw 3 (by omega)
    have s3 := hrw 3 (by omega)
    show w5.1 8 j = addE S (nv l 0) (nv l 1) (nv l 2) (nv l 3) j
    rw [h5 j, addE_at (by omega) j, e_c]
    by_cases zc : j = 3
    · rw [if_pos zc, if_pos zc]
    rw [if_neg zc, if_neg zc]
    by_cases y : 184 + 4 * S 3 ≤ j ∧ (j : Int) < 184 + 4 * S 3 + ((4 : Nat) : Int)
    · rw [if_pos y]
      have : (j : Int) = 184 + 4 * S 3 ∨ (j : Int) = 185 + 4 * S 3 ∨ (j : Int) = 186 + 4 * S 3 ∨ (j : Int) = 187 + 4 * S 3 := by omega
      rcases this with e | e | e | e
      · rw [show j - (184 + 4 * S 3).toNat = 0 + 0 from by omega, v0.1]
        (repeat first | rw [if_neg (by omega)] | rw [if_pos (by omega)])
      · rw [show j - (184 + 4 * S 3).toNat = 0 + 1 from by omega, v1.1]
        (repeat first | rw [if_neg (by omega)] | rw [if_pos (by omega)])
      · rw [show j - (184 + 4 * S 3).toNat = 0 + 2 from by omega, v2.1]
        (repeat first | rw [if_neg (by omega)] | rw [if_pos (by omega)])
      · rw [show j - (184 + 4 * S 3).toNat = 0 + 3 from by omega, v3.1]
        (repeat first | rw [if_neg (by omega)] | rw [if_pos (by omega)])
    · rw [if_neg y, c8]
      (repeat rw [if_neg (by omega)])
      exact hrw j hj
  · obtain ⟨z1, z2⟩ := fl0_z (ufc_z z)
    have hrw := (hRW z1).1
    have s1 := hrw 1 (by omega)
    have s2 := hrw 2 (by omega)
    have s3 := hrw 3 (by omega)
    rw [c8] at q
    show w5.1 0 20 < x ↔ FT (addE S (nv l 0) (nv l 1) (nv l 2) (nv l 3)) x
    rw [f5.I 0 20 (by decide), g20_4, ft_addE (by omega) (by omega) (by omega), ← (hRW z1).2 x hx, g20_0, ← hH4, ← hH3, ← hH2, mx_lt, hH1, y1]
theorem ci_personL2 {F : Nat} {s N : Int} {b : Nat → Int} {S : Nat → Int} {f : Int × Int} {w : AW} {P : Int → AW → Prop} (hF : FB F) (hB : BB b N) (hL : LB w b N 2 S s f (fun _ => 0) (fun k => [8, 9].getD k 0)) (h0 : ∀ w', Fr Slo w w' → rdn b N (nms 2) (ten b N s) [] = .inl (w'.1 0 14) → P 0 w') (h1 : ∀ w' l, Fr Slo w w' → LPs w' b N 2 S s f l → P 1 w') : CI (m_X9_personLine F [vR 0, vI 0] w) P := by
  obtain ⟨hC, hRB, hRW⟩ := hL
  obtain ⟨r1, r2, r3, r20⟩ := id hRB
  obtain ⟨H0, g20_0⟩ : ∃ H0, w.1 0 20 = H0 := ⟨_, rfl⟩
  have b20_0 : -1 ≤ H0 ∧ H0 ≤ 999 := by rw [← g20_0]; exact r20
  refine wp_X9_personLine F 0 w _ (ci_placedL (k := 0) hF hB hC (by rw [g20_0]; exact b20_0) rfl (by omega) (by show (0 : Nat) < 2; decide) rfl rfl (by decide) (fun z => can_new (fun y => absurd y.1 (by decide)) rfl rfl) (fun w1 f1 q => br0 (q_z0 (h0 w1 (spl_slo f1) q))) (fun w1 x1 f1 hC1 h20_1 hx1 => br1 ?_))
  have g20_1 : w1.1 0 20 = mx H0 x1.1 := by rw [h20_1, g20_0]
  have b20_1 := mx_b b20_0 hx1
  generalize hH1 : mx H0 x1.1 = H1 at g20_1 b20_1
  refine ci_takeL (k := 1) hF hB hC1 rfl (by omega) (by show (1 : Nat) < 2; decide) rfl rfl (by decide) (by decide) (by decide) (fun z => can_new (fun y => absurd y.1 (by decide)) rfl rfl) (fun w2 f2 q => br0 (q_z0 (h0 w2 ((spl_slo f1).tr (sta_slo f2)) q))) (fun w2 x2 f2 hC2 => br1 ?_)
  have g20_2 : w2.1 0 20 = H1 := by rw [f2.I 0 20 (by simp [Sta])]; exact g20_1
  have b20_2 := b20_1
  generalize hH2 : H1 = H2 at g20_2 b20_2
  have ff : Fr Slo w w2 := (spl_slo f1).tr (sta_slo f2)
  have c8 : ∀ k, w2.1 8 k = w.1 8 k := fun k => by rw [f2.I 8 k (by simp [Sta]), f1.I 8 k (by simp [Spl])]
  obtain ⟨l, hl⟩ : ∃ l : NL, l = [] ++ [x1] ++ [x2] := ⟨_, rfl⟩
  rw [← hl] at hC2
  have len : l.length = 2 := by rw [hl]; rfl
  have v0 := hC2.nv (k := 0) (by omega)
  have y0 : x1.1 = nv l 0 := by rw [hl]; rfl
  have v1 := hC2.nv (k := 1) (by omega)
  have y1 : x2.1 = nv l 1 := by rw [hl]; rfl
  intro w4 e4
  have f4 : Fr (fun j k => j = 9 ∧ k = 2) w2 w4 := by rw [e4]; exact Fr.rf.wI _ (by omega)
  have hC4 : LC w4 b N 2 S s (fl0 2 S s f) 0 (fun _ => 0) (fun k => [8, 9].getD k 0) l := hC2.fr f4 (by intro k; omega) (by intro k h1 h2; omega) (by intro k h1; omega)
  have c8' : ∀ k, w4.1 8 k = w.1 8 k := fun k => by rw [f4.I 8 k (by omega)]; exact c8 k
  have g20_4 : w4.1 0 20 = H2 := by rw [f4.I 0 20 (by omega)]; exact g20_2
  have gk : w4.1 9 (0 + 2) = 0 := by rw [e4, wI_same]
  have ff4 : Fr Slo w w4 := ff.tr (f4.wk (by intro j k; simp only [Slo]; omega))
  have v0' : w4.1 9 (0 + 0) = nv l 0 := (hC4.nv (k := 0) (by omega)).1
  have v1' : w4.1 9 (0 + 1) = nv l 1 := (hC4.nv (k := 1) (by omega)).1
  refine cv_lay4 (c := 2) (n := 3) hF (by decide) (by decide) (by decide) (by rw [c8']; omega) (by decide) (by decide) (by decide) (fun q => by rw [c8'] at q ⊢; omega) (fun q => q_z1 (h1 w4 l ff4 (hC4.done len ⟨by rw [c8']; exact r1, by rw [c8']; exact r2, by rw [c8']; exact r3, by rw [g20_4]; exact b20_2⟩ (fun z => ?_)))) (fun q w5 f5 h5 => q_z1 (h1 w5 l (ff4.tr (e8_slo f5)) ((hC4.e8 f5).done len ⟨?_, ?_, ?_, ?_⟩ (fun z => ⟨fun j hj => ?_, fun x hx => ?_⟩))))
  · exfalso
    obtain ⟨z1, z2⟩ := fl0_z (ufc_z z)
    have := (hRW z1).1 2 (by omega)
    rw [c8'] at q
    exact z2 (Or.inr (Or.inl ⟨by decide, by omega⟩))
  · rw [h5 1, if_neg (by decide), if_neg (by rw [c8']; omega), c8']; exact r1
  · rw [h5 2, if_pos rfl]
    rw [c8'] at q ⊢
    omega
  · rw [h5 3, if_neg (by decide), if_neg (by rw [c8']; omega), c8']; exact r3
  · rw [f5.I 0 20 (by decide), g20_4]; exact b20_2
  · obtain ⟨z1, z2⟩ := fl0_z (ufc_z z)
    have hrw := (hRW z1).1
    have e_c : w4.1 8 2 = S 2 := by rw [c8']; exact hrw 2 (by omega)
    have s3 := hrw 2 (by omega)
    have c8 := c8'
    have v0 : w4.1 9 (0 + 0) = nv l 0 ∧ True := ⟨v0', trivial⟩
    have v1 : w4.1 9 (0 + 1) = nv l 1 ∧ True := ⟨v1', trivial⟩
    show w5.1 8 j = addP S (nv l 0) (nv l 1) 0 j
    rw [h5 j, addP_at (by omega) j, e_c]
    by_cases zc : j = 2
    · rw [if_pos zc, if_pos zc]
    rw [if_neg zc, if_neg zc]
    by_cases y : 160 + 3 * S 2 ≤ j ∧ (j : Int) < 160 + 3 * S 2 + ((3 : Nat) : Int)
    · rw [if_pos y]
      have : (j : Int) = 160 + 3 * S 2 ∨ (j : Int) = 161 + 3 * S 2 ∨ (j : Int) = 162 + 3 * S 2 := by omega
      rcases this with e | e | e
      · rw [show j - (160 + 3 * S 2).toNat = 0 + 0 from by omega, v0.1]
        (repeat first | rw [if_neg (by omega)] | rw [if_pos (by omega)])
      · rw [show j - (160 + 3 * S 2).toNat = 0 + 1 from by omega, v1.1]
        (repeat first | rw [if_neg (by omega)] | rw [if_pos (by omega)])
      · rw [show j - (160 + 3 * S 2).toNat = 0 + 2 from by omega, gk]
        (repeat first | rw [if_neg (by omega)] | rw [if_pos (by omega)])
    · rw [if_neg y, c8]
      (repeat rw [if_neg (by omega)])
      exact hrw j hj
  · obtain ⟨z1, z2⟩ := fl0_z (ufc_z z)
    have hrw := (hRW z1).1
    have s1 := hrw 1 (by omega)
    have s2 := hrw 2 (by omega)
    rw [c8'] at q
    show w5.1 0 20 < x ↔ FT (addP S (nv l 0) (nv l 1) 0) x
    rw [f5.I 0 20 (by decide), g20_4, ft_addP (by omega) (by omega), ← (hRW z1).2 x hx, g20_0, ← hH2, ← hH1, mx_lt, y0]
theorem ci_personL3 {F : Nat} {s N : Int} {b : Nat → Int} {S : Nat → Int} {f : Int × Int} {w : AW} {P : Int → AW → Prop} (hF : FB F) (hB : BB b N) (hL : LB w b N 3 S s f (fun _ => 0) (fun k => [8, 9].getD k 0)) (h0 : ∀ w', Fr Slo w w' → rdn b N (nms 3) (ten b N s) [] = .inl (w'.1 0 14) → P 0 w') (h1 : ∀ w' l, Fr Slo w w' → LPs w' b N 3 S s f l → P 1 w') : CI (m_X9_personLine F [vR 0, vI 1] w) P := by
  obtain ⟨hC, hRB, hRW⟩ := hL
  obtain ⟨r1, r2, r3, r20⟩ := id hRB
  obtain ⟨H0, g20_0⟩ : ∃ H0, w.1 0 20 = H0 := ⟨_, rfl⟩
  have b20_0 : -1 ≤ H0 ∧ H0 ≤ 999 := by rw [← g20_0]; exact r20
  refine wp_X9_personLine F 1 w _ (ci_placedL (k := 0) hF hB hC (by rw [g20_0]; exact b20_0) rfl (by omega) (by show (0 : Nat) < 2; decide) rfl rfl (by decide) (fun z => can_new (fun y => absurd y.1 (by decide)) rfl rfl) (fun w1 f1 q => br0 (q_z0 (h0 w1 (spl_slo f1) q))) (fun w1 x1 f1 hC1 h20_1 hx1 => br1 ?_))
  have g20_1 : w1.1 0 20 = mx H0 x1.1 := by rw [h20_1, g20_0]
  have b20_1 := mx_b b20_0 hx1
  generalize hH1 : mx H0 x1.1 = H1 at g20_1 b20_1
  refine ci_takeL (k := 1) hF hB hC1 rfl (by omega) (by show (1 : Nat) < 2; decide) rfl rfl (by decide) (by decide) (by decide) (fun z => can_new (fun y => absurd y.1 (by decide)) rfl rfl) (fun w2 f2 q => br0 (q_z0 (h0 w2 ((spl_slo f1).tr (sta_slo f2)) q))) (fun w2 x2 f2 hC2 => br1 ?_)
  have g20_2 : w2.1 0 20 = H1 := by rw [f2.I 0 20 (by simp [Sta])]; exact g20_1
  have b20_2 := b20_1
  generalize hH2 : H1 = H2 at g20_2 b20_2
  have ff : Fr Slo w w2 := (spl_slo f1).tr (sta_slo f2)
  have c8 : ∀ k, w2.1 8 k = w.1 8 k := fun k => by rw [f2.I 8 k (by simp [Sta]), f1.I 8 k (by simp [Spl])]
  obtain ⟨l, hl⟩ : ∃ l : NL, l = [] ++ [x1] ++ [x2] := ⟨_, rfl⟩
  rw [← hl] at hC2
  have len : l.length = 2 := by rw [hl]; rfl
  have v0 := hC2.nv (k := 0) (by omega)
  have y0 : x1.1 = nv l 0 := by rw [hl]; rfl
  have v1 := hC2.nv (k := 1) (by omega)
  have y1 : x2.1 = nv l 1 := by rw [hl]; rfl
  intro w4 e4
  have f4 : Fr (fun j k => j = 9 ∧ k = 2) w2 w4 := by rw [e4]; exact Fr.rf.wI _ (by omega)
  have hC4 : LC w4 b N 3 S s (fl0 3 S s f) 0 (fun _ => 0) (fun k => [8, 9].getD k 0) l := hC2.fr f4 (by intro k; omega) (by intro k h1 h2; omega) (by intro k h1; omega)
  have c8' : ∀ k, w4.1 8 k = w.1 8 k := fun k => by rw [f4.I 8 k (by omega)]; exact c8 k
  have g20_4 : w4.1 0 20 = H2 := by rw [f4.I 0 20 (by omega)]; exact g20_2
  have gk : w4.1 9 (0 + 2) = 1 := by rw [e4, wI_same]
  have ff4 : Fr Slo w w4 := ff.tr (f4.wk (by intro j k; simp only [Slo]; omega))
  have v0' : w4.1 9 (0 + 0) = nv l 0 := (hC4.nv (k := 0) (by omega)).1
  have v1' : w4.1 9 (0 + 1) = nv l 1 := (hC4.nv (k := 1) (by omega)).1
  refine cv_lay4 (c := 2) (n := 3) hF (by decide) (by decide) (by decide) (by rw [c8']; omega) (by decide) (by decide) (by decide) (fun q => by rw [c8'] at q ⊢; omega) (fun q => q_z1 (h1 w4 l ff4 (hC4.done len ⟨by rw [c8']; exact r1, by rw [c8']; exact r2, by rw [c8']; exact r3, by rw [g20_4]; exact b20_2⟩ (fun z => ?_)))) (fun q w5 f5 h5 => q_z1 (h1 w5 l (ff4.tr (e8_slo f5)) ((hC4.e8 f5).done len ⟨?_, ?_, ?_, ?_⟩ (fun z => ⟨fun j hj => ?_, fun x hx => ?_⟩))))
  · exfalso
    obtain ⟨z1, z2⟩ := fl0_z (ufc_z z)
    have := (hRW z1).1 2 (by omega)
    rw [c8'] at q
    exact z2 (Or.inr (Or.inl ⟨by decide, by omega⟩))
  · rw [h5 1, if_neg (by decide), if_neg (by rw [c8']; omega), c8']; exact r1
  · rw [h5 2, if_pos rfl]
    rw [c8'] at q ⊢
    omega
  · rw [h5 3, if_neg (by decide), if_neg (by rw [c8']; omega), c8']; exact r3
  · rw [f5.I 0 20 (by decide), g20_4]; exact b20_2
  · obtain ⟨z1, z2⟩ := fl0_z (ufc_z z)
    have hrw := (hRW z1).1
    have e_c : w4.1 8 2 = S 2 := by rw [c8']; exact hrw 2 (by omega)
    have s3 := hrw 2 (by omega)
    have c8 := c8'
    have v0 : w4.1 9 (0 + 0) = nv l 0 ∧ True := ⟨v0', trivial⟩
    have v1 : w4.1 9 (0 + 1) = nv l 1 ∧ True := ⟨v1', trivial⟩
    show w5.1 8 j = addP S (nv l 0) (nv l 1) 1 j
    rw [h5 j, addP_at (by omega) j, e_c]
    by_cases zc : j = 2
    · rw [if_pos zc, if_pos zc]
    rw [if_neg zc, if_neg zc]
    by_cases y : 160 + 3 * S 2 ≤ j ∧ (j : Int) < 160 + 3 * S 2 + ((3 : Nat) : Int)
    · rw [if_pos y]
      have : (j : Int) = 160 + 3 * S 2 ∨ (j : Int) = 161 + 3 * S 2 ∨ (j : Int) = 162 + 3 * S 2 := by omega
      rcases this with e | e | e
      · rw [show j - (160 + 3 * S 2).toNat = 0 + 0 from by omega, v0.1]
        (repeat first | rw [if_neg (by omega)] | rw [if_pos (by omega)])
      · rw [show j - (160 + 3 * S 2).toNat = 0 + 1 from by omega, v1.1]
        (repeat first | rw [if_neg (by omega)] | rw [if_pos (by omega)])
      · rw [show j - (160 + 3 * S 2).toNat = 0 + 2 from by omega, gk]
        (repeat first | rw [if_neg (by omega)] | rw [if_pos (by omega)])
    · rw [if_neg y, c8]
      (repeat rw [if_neg (by omega)])
      exact hrw j hj
  · obtain ⟨z1, z2⟩ := fl0_z (ufc_z z)
    have hrw := (hRW z1).1
    have s1 := hrw 1 (by omega)
    have s2 := hrw 2 (by omega)
    rw [c8'] at q
    show w5.1 0 20 < x ↔ FT (addP S (nv l 0) (nv l 1) 1) x
    rw [f5.I 0 20 (by decide), g20_4, ft_addP (by omega) (by omega), ← (hRW z1).2 x hx, g20_0, ← hH2, ← hH1, mx_lt, y0]
theorem ci_personL4 {F : Nat} {s N : Int} {b : Nat → Int} {S : Nat → Int} {f : Int × Int} {w : AW} {P : Int → AW → Prop} (hF : FB F) (hB : BB b N) (hL : LB w b N 4 S s f (fun _ => 0) (fun k => [8, 9].getD k 0)) (h0 : ∀ w', Fr Slo w w' → rdn b N (nms 4) (ten b N s) [] = .inl (w'.1 0 14) → P 0 w') (h1 : ∀ w' l, Fr Slo w w' → LPs w' b N 4 S s f l → P 1 w') : CI (m_X9_personLine F [vR 0, vI 2] w) P := by
  obtain ⟨hC, hRB, hRW⟩ := hL
  obtain ⟨r1, r2, r3, r20⟩ := id hRB
  obtain ⟨H0, g20_0⟩ : ∃ H0, w.1 0 20 = H0 := ⟨_, rfl⟩
  have b20_0 : -1 ≤ H0 ∧ H0 ≤ 999 := by rw [← g20_0]; exact r20
  refine wp_X9_personLine F 2 w _ (ci_placedL (k := 0) hF hB hC (by rw [g20_0]; exact b20_0) rfl (by omega) (by show (0 : Nat) < 2; decide) rfl rfl (by decide) (fun z => can_new (fun y => absurd y.1 (by decide)) rfl rfl) (fun w1 f1 q => br0 (q_z0 (h0 w1 (spl_slo f1) q))) (fun w1 x1 f1 hC1 h20_1 hx1 => br1 ?_))
  have g20_1 : w1.1 0 20 = mx H0 x1.1 := by rw [h20_1, g20_0]
  have b20_1 := mx_b b20_0 hx1
  generalize hH1 : mx H0 x1.1 = H1 at g20_1 b20_1
  refine ci_takeL (k := 1) hF hB hC1 rfl (by omega) (by show (1 : Nat) < 2; decide) rfl rfl (by decide) (by decide) (by decide) (fun z => can_new (fun y => absurd y.1 (by decide)) rfl rfl) (fun w2 f2 q => br0 (q_z0 (h0 w2 ((spl_slo f1).tr (sta_slo f2)) q))) (fun w2 x2 f2 hC2 => br1 ?_)
  have g20_2 : w2.1 0 20 = H1 := by rw [f2.I 0 20 (by simp [Sta])]; exact g20_1
  have b20_2 := b20_1
  generalize hH2 : H1 = H2 at g20_2 b20_2
  have ff : Fr Slo w w2 := (spl_slo f1).tr (sta_slo f2)
  have c8 : ∀ k, w2.1 8 k = w.1 8 k := fun k => by rw [f2.I 8 k (by simp [Sta]), f1.I 8 k (by simp [Spl])]
  obtain ⟨l, hl⟩ : ∃ l : NL, l = [] ++ [x1] ++ [x2] := ⟨_, rfl⟩
  rw [← hl] at hC2
  have len : l.length = 2 := by rw [hl]; rfl
  have v0 := hC2.nv (k := 0) (by omega)
  have y0 : x1.1 = nv l 0 := by rw [hl]; rfl
  have v1 := hC2.nv (k := 1) (by omega)
  have y1 : x2.1 = nv l 1 := by rw [hl]; rfl
  intro w4 e4
  have f4 : Fr (fun j k => j = 9 ∧ k = 2) w2 w4 := by rw [e4]; exact Fr.rf.wI _ (by omega)
  have hC4 : LC w4 b N 4 S s (fl0 4 S s f) 0 (fun _ => 0) (fun k => [8, 9].getD k 0) l := hC2.fr f4 (by intro k; omega) (by intro k h1 h2; omega) (by intro k h1; omega)
  have c8' : ∀ k, w4.1 8 k = w.1 8 k := fun k => by rw [f4.I 8 k (by omega)]; exact c8 k
  have g20_4 : w4.1 0 20 = H2 := by rw [f4.I 0 20 (by omega)]; exact g20_2
  have gk : w4.1 9 (0 + 2) = 2 := by rw [e4, wI_same]
  have ff4 : Fr Slo w w4 := ff.tr (f4.wk (by intro j k; simp only [Slo]; omega))
  have v0' : w4.1 9 (0 + 0) = nv l 0 := (hC4.nv (k := 0) (by omega)).1
  have v1' : w4.1 9 (0 + 1) = nv l 1 := (hC4.nv (k := 1) (by omega)).1
  refine cv_lay4 (c := 2) (n := 3) hF (by decide) (by decide) (by decide) (by rw [c8']; omega) (by decide) (by decide) (by decide) (fun q => by rw [c8'] at q ⊢; omega) (fun q => q_z1 (h1 w4 l ff4 (hC4.done len ⟨by rw [c8']; exact r1, by rw [c8']; exact r2, by rw [c8']; exact r3, by rw [g20_4]; exact b20_2⟩ (fun z => ?_)))) (fun q w5 f5 h5 => q_z1 (h1 w5 l (ff4.tr (e8_slo f5)) ((hC4.e8 f5).done len ⟨?_, ?_, ?_, ?_⟩ (fun z => ⟨fun j hj => ?_, fun x hx => ?_⟩))))
  · exfalso
    obtain ⟨z1, z2⟩ := fl0_z (ufc_z z)
    have := (hRW z1).1 2 (by omega)
    rw [c8'] at q
    exact z2 (Or.inr (Or.inl ⟨by decide, by omega⟩))
  · rw [h5 1, if_neg (by decide), if_neg (by rw [c8']; omega), c8']; exact r1
  · rw [h5 2, if_pos rfl]
    rw [c8'] at q ⊢
    omega
  · rw [h5 3, if_neg (by decide), if_neg (by rw [c8']; omega), c8']; exact r3
  · rw [f5.I 0 20 (by decide), g20_4]; exact b20_2
  · obtain ⟨z1, z2⟩ := fl0_z (ufc_z z)
    have hrw := (hRW z1).1
    have e_c : w4.1 8 2 = S 2 := by rw [c8']; exact hrw 2 (by omega)
    have s3 := hrw 2 (by omega)
    have c8 := c8'
    have v0 : w4.1 9 (0 + 0) = nv l 0 ∧ True := ⟨v0', trivial⟩
    have v1 : w4.1 9 (0 + 1) = nv l 1 ∧ True := ⟨v1', trivial⟩
    show w5.1 8 j = addP S (nv l 0) (nv l 1) 2 j
    rw [h5 j, addP_at (by omega) j, e_c]
    by_cases zc : j = 2
    · rw [if_pos zc, if_pos zc]
    rw [if_neg zc, if_neg zc]
    by_cases y : 160 + 3 * S 2 ≤ j ∧ (j : Int) < 160 + 3 * S 2 + ((3 : Nat) : Int)
    · rw [if_pos y]
      have : (j : Int) = 160 + 3 * S 2 ∨ (j : Int) = 161 + 3 * S 2 ∨ (j : Int) = 162 + 3 * S 2 := by omega
      rcases this with e | e | e
      · rw [show j - (160 + 3 * S 2).toNat = 0 + 0 from by omega, v0.1]
        (repeat first | rw [if_neg (by omega)] | rw [if_pos (by omega)])
      · rw [show j - (160 + 3 * S 2).toNat = 0 + 1 from by omega, v1.1]
        (repeat first | rw [if_neg (by omega)] | rw [if_pos (by omega)])
      · rw [show j - (160 + 3 * S 2).toNat = 0 + 2 from by omega, gk]
        (repeat first | rw [if_neg (by omega)] | rw [if_pos (by omega)])
    · rw [if_neg y, c8]
      (repeat rw [if_neg (by omega)])
      exact hrw j hj
  · obtain ⟨z1, z2⟩ := fl0_z (ufc_z z)
    have hrw := (hRW z1).1
    have s1 := hrw 1 (by omega)
    have s2 := hrw 2 (by omega)
    rw [c8'] at q
    show w5.1 0 20 < x ↔ FT (addP S (nv l 0) (nv l 1) 2) x
    rw [f5.I 0 20 (by decide), g20_4, ft_addP (by omega) (by omega), ← (hRW z1).2 x hx, g20_0, ← hH2, ← hH1, mx_lt, y0]
