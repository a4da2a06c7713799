/-! TEXTS: the reference, lines of towns, the walk -/
abbrev Slo (j k : Nat) : Prop := j = 8 ∨ j = 9 ∨ (j = 0 ∧ 8 ≤ k ∧ k ≤ 20 ∧ k ≠ 9)
theorem sta_slo {w w' : AW} (h : Fr Sta w w') : Fr Slo w w' := h.wk (by intro j k; simp only [Sta, Slo]; omega)
theorem spl_slo {w w' : AW} (h : Fr Spl w w') : Fr Slo w w' := h.wk (by intro j k; simp only [Spl, Slo]; omega)
theorem e8_slo {w w' : AW} (h : Fr (fun j _ => j = 8) w w') : Fr Slo w w' := h.wk (by intro j k; simp only [Slo]; omega)
theorem LC.nv {w : AW} {b : Nat → Int} {N s : Int} {L o : Nat} {S : Nat → Int} {f0 : Int × Int} {ll hh : Nat → Int} {l : NL} (h : LC w b N L S s f0 o ll hh l) {k : Nat} (hk : k < l.length) : w.1 9 (o + k) = nv l k ∧ 0 ≤ nv l k ∧ nv l k ≤ 999 := by
  obtain ⟨a, _, _, _, hn, _⟩ := h
  exact hn k hk
theorem LC.e8 {w w' : AW} {b : Nat → Int} {N s : Int} {L o : Nat} {S : Nat → Int} {f0 : Int × Int} {ll hh : Nat → Int} {l : NL} (h : LC w b N L S s f0 o ll hh l) (f : Fr (fun j _ => j = 8) w w') : LC w' b N L S s f0 o ll hh l := h.fr f (by intro k; omega) (by intro k h1 h2; omega) (by intro k h1; omega)
/-- what a line begins with: behind its word, behind the question whether there is room -/
def LB (w : AW) (b : Nat → Int) (N : Int) (L : Nat) (S : Nat → Int) (s : Int) (f : Int × Int) (ll hh : Nat → Int) : Prop := LC w b N L S s (fl0 L S s f) 0 ll hh [] ∧ RBt w ∧ (f.1 = 0 → RW w S ∧ HI w S)
theorem ci_errandL {F : Nat} {s N : Int} {b : Nat → Int} {S : Nat → Int} {f : Int × Int} {w : AW} {P : Int → AW → Prop} (hF : FB F) (hB : BB b N) (hL : LB w b N 5 S s f (fun _ => 0) (fun k => [w.1 8 2 - 1, 8, 359, 100].getD k 0)) (h0 : ∀ w', Fr Slo w w' → rdn b N (nms 5) (ten b N s) [] = .inl (w'.1 0 14) → P 0 w') (h1 : ∀ w' l, Fr Slo w w' → LPs w' b N 5 S s f l → P 1 w') : CI (m_X9_errandLine F [vR 0] w) P := by
  obtain ⟨hC, hRB, hRW⟩ := hL
  obtain ⟨r1, r2, r3, r20⟩ := id hRB
  have hS2 : (fl0 5 S s f).1 = 0 → w.1 8 2 - 1 = hiB 5 0 S := fun z => by
    have := (hRW (fl0_z z).1).1 2 (by omega)
    show w.1 8 2 - 1 = S 2 - 1
    omega
  refine wp_X9_errandLine F w _ (ci_takeL (k := 0) hF hB hC rfl (by omega) (by decide) rfl rfl (by decide) ⟨by omega, by omega⟩ (by decide) (fun z => can_new (by decide) rfl (hS2 z)) (fun w1 f1 q => br0 (q_z0 (h0 w1 (sta_slo f1) q))) (fun w1 x1 f1 hC1 => br1 ?_))
  have g20 : w1.1 0 20 = w.1 0 20 := f1.I 0 20 (by simp [Sta])
  refine ci_placedL (k := 1) hF hB hC1 (by rw [g20]; exact r20) rfl (by omega) (by decide) rfl rfl (by decide) (fun z => can_new (by decide) rfl rfl) (fun w2 f2 q => br0 (q_z0 (h0 w2 ((sta_slo f1).tr (spl_slo f2)) q))) (fun w2 x2 f2 hC2 h20 hx2 => br1 ?_)
  refine ci_takeL (k := 2) hF hB hC2 rfl (by omega) (by decide) rfl rfl (by decide) (by decide) (by decide) (fun z => can_new (by decide) rfl rfl) (fun w3 f3 q => br0 (q_z0 (h0 w3 (((sta_slo f1).tr (spl_slo f2)).tr (sta_slo f3)) q))) (fun w3 x3 f3 hC3 => br1 ?_)
  refine ci_takeL (k := 3) hF hB hC3 rfl (by omega) (by decide) rfl rfl (by decide) (by decide) (by decide) (fun z => can_new (by decide) rfl rfl) (fun w4 f4 q => br0 (q_z0 (h0 w4 ((((sta_slo f1).tr (spl_slo f2)).tr (sta_slo f3)).tr (sta_slo f4)) q))) (fun w4 x4 f4 hC4 => br1 ?_)
  have ff : Fr Slo w w4 := (((sta_slo f1).tr (spl_slo f2)).tr (sta_slo f3)).tr (sta_slo f4)
  have c8 : ∀ k, w4.1 8 k = w.1 8 k := fun k => by rw [f4.I 8 k (by simp [Sta]), f3.I 8 k (by simp [Sta]), f2.I 8 k (by simp [Spl]), f1.I 8 k (by simp [Sta])]
  have c20 : w4.1 0 20 = mx (w.1 0 20) x2.1 := by rw [f4.I 0 20 (by simp [Sta]), f3.I 0 20 (by simp [Sta]), h20, g20]
  have b20 := mx_b r20 hx2
  have v0 := hC4.nv (k := 0) (by decide)
  have v1 := hC4.nv (k := 1) (by decide)
  have v2 := hC4.nv (k := 2) (by decide)
  have v3 := hC4.nv (k := 3) (by decide)
  refine cv_lay4 (c := 3) (n := 4) hF (by decide) (by decide) (by decide) (by rw [c8]; omega) (by decide) (by decide) (by decide) (fun q => by rw [c8] at q ⊢; omega) (fun q => q_z1 (h1 w4 _ ff (hC4.done rfl ⟨by rw [c8]; exact r1, by rw [c8]; exact r2, by rw [c8]; exact r3, by rw [c20]; exact b20⟩ (fun z => ?_)))) (fun q w5 f5 h5 => q_z1 (h1 w5 _ (ff.tr (e8_slo f5)) ((hC4.e8 f5).done rfl ⟨?_, ?_, ?_, ?_⟩ (fun z => ⟨fun j hj => ?_, fun x hx => ?_⟩))))
  · exfalso
    obtain ⟨z1, z2⟩ := fl0_z (ufc_z z)
    have := (hRW z1).1 3 (by omega)
    rw [c8] at q
    exact z2 (Or.inr (Or.inr (Or.inl ⟨rfl, by omega⟩)))
  · rw [h5 1, if_neg (by decide), if_neg (by rw [c8]; omega), c8]; exact r1
  · rw [h5 2, if_neg (by decide), if_neg (by rw [c8]; omega), c8]; exact r2
  · rw [h5 3, if_pos rfl]
    rw [c8] at q ⊢
    omega
  · rw [f5.I 0 20 (by decide), c20]; exact b20
  · obtain ⟨z1, z2⟩ := fl0_z (ufc_z z)
    have hrw := (hRW z1).1
    have e3 := hrw 3 (by omega)
    sorry
  · sorry
