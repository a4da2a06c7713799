/-! TEXTS: the reference, a line of a town -/
theorem ifp {c A B : Prop} (h : c) (t : A) : (c → A) ∧ (¬ c → B) := ⟨fun _ => t, fun q => absurd h q⟩
theorem ifn {c A B : Prop} (h : ¬ c) (t : B) : (c → A) ∧ (¬ c → B) := ⟨fun q => absurd q h, fun _ => t⟩
theorem LC.start {w : AW} {b : Nat → Int} {N s : Int} {L o : Nat} {S : Nat → Int} {f0 : Int × Int} {ll hh : Nat → Int} (hR : RTr w b N) (hT : TkA w b N (ten b N s)) (ha : 0 ≤ ten b N s ∧ ten b N s ≤ N) (hf : FTS w f0 (stt b N (ten b N s))) (h17 : w.1 0 17 = 1) : LC w b N L S s f0 o ll hh [] :=
  ⟨ten b N s, hR, hT, ha, fun k hk => absurd hk (Nat.not_lt_zero k), hf, rfl, Nat.zero_le _, fun _ => h17, fun _ k hk => absurd hk (Nat.not_lt_zero k), Or.inr h17⟩
theorem fl0_n {L : Nat} {S : Nat → Int} {s : Int} {f : Int × Int} (h : ¬ full L S) : fl0 L S s f = f := by unfold fl0; rw [if_neg h]
theorem fl0_y {L : Nat} {S : Nat → Int} {s : Int} {f : Int × Int} (h : full L S) : fl0 L S s f = upf f (3, s) := by unfold fl0; rw [if_pos h]
theorem fl0_ne {L : Nat} {S : Nat → Int} {s : Int} {f : Int × Int} (h : f.1 ≠ 0) : fl0 L S s f = f := by
  by_cases z : full L S
  · rw [fl0_y z, upf_ne h]
  · exact fl0_n z
/-- what holds ahead of a line -/
def PRE (w : AW) (b : Nat → Int) (N : Int) (S : Nat → Int) (s : Int) (f : Int × Int) : Prop := RTr w b N ∧ (0 ≤ s ∧ s ≤ N) ∧ FTS w f s ∧ RBt w ∧ (f.1 = 0 → RW w S ∧ HI w S) ∧ w.1 0 17 = 1
theorem RBt.e {w w' : AW} (h : RBt w) (h8 : ∀ k, w'.1 8 k = w.1 8 k) (h20 : w'.1 0 20 = w.1 0 20) : RBt w' := by
  obtain ⟨a, b, c, d⟩ := h
  exact ⟨by rw [h8]; exact a, by rw [h8]; exact b, by rw [h8]; exact c, by rw [h20]; exact d⟩
theorem RW.e {w w' : AW} {S : Nat → Int} (h : RW w S) (h8 : ∀ k, w'.1 8 k = w.1 8 k) : RW w' S := fun i hi => by rw [h8]; exact h i hi
theorem HI.e {w w' : AW} {S : Nat → Int} (h : HI w S) (h20 : w'.1 0 20 = w.1 0 20) : HI w' S := fun x hx => by rw [h20]; exact h x hx
/-- the word's token is passed -/
theorem pre_tok {F : Nat} {N s : Int} {b : Nat → Int} {S : Nat → Int} {f : Int × Int} {w : AW} {P : AW → Prop} (hF : FB F) (hB : BB b N) (hP : PRE w b N S s f) (ht : tks b N s = 1) (h8 : w.1 0 8 = ten b N s) (hp : ∀ w', Fr Str w w' → PRE w' b N S s f → TkA w' b N (ten b N s) → (0 ≤ ten b N s ∧ ten b N s ≤ N) → s < stt b N (ten b N s) → stt b N (ten b N s) ≤ 600 → P w') : CV (m_X9_token F [vR 0] w) P := by
  obtain ⟨hR, hs, hf, hb, hw, h17⟩ := hP
  have hte := ten_b (b := b) (N := N) (s := s) hs.2 (by omega)
  have hst := stt_b (b := b) (N := N) (a := ten b N s) hte.2
  have hN := hB.2
  refine cv_tokenA hF hB hR h8 (by omega) (fun w1 f1 hR1 hT1 => hp w1 f1 ⟨hR1, hs, hf.fr f1 (by simp [Str]) (by simp [Str]), hb.e (fun k => f1.I 8 k (by simp [Str])) (f1.I 0 20 (by simp [Str])), fun z => ⟨(hw z).1.e (fun k => f1.I 8 k (by simp [Str])), (hw z).2.e (f1.I 0 20 (by simp [Str]))⟩, by rw [f1.I 0 17 (by simp [Str])]; exact h17⟩ hT1 (by omega) (by omega) (by omega))
/-- a line without room for more: behind the question -/
theorem tt_room {F : Nat} {N s W kind l6 c mxx : Int} {L ci : Nat} {b : Nat → Int} {S : Nat → Int} {f : Int × Int} {w : AW} {ll hh : Nat → Int} {Q : Option AV → AW → Prop} (hL : PRE w b N S s f) (hT : TkA w b N (ten b N s)) (ha : 0 ≤ ten b N s ∧ ten b N s ≤ N) (hst : s < stt b N (ten b N s)) (hN : N ≤ 600) (hc : w.1 8 ci = c) (hcb : 0 ≤ c ∧ c ≤ mxx ∧ mxx ≤ 100) (hfull : f.1 = 0 → (full L S ↔ c = mxx)) (h : ∀ w', Fr Slo w w' → LB w' b N L S s f ll hh → w'.1 8 2 = w.1 8 2 → TT (k_X9_townLine_369 F [vR 0, vI s, vL W, vU, vI (-1), vI kind, vI l6] [] w') Q) : TT (k_X9_townLine_360 F [vR 0, vI s, vL W, vU, vI (-1), vI kind, vI l6] [vI mxx, vI c] w) Q := by
  obtain ⟨hR, hs, hf, hb, hw, h17⟩ := hL
  refine wp_X9_townLine_360 F s W (-1) kind l6 mxx c w _ ?_
  rw [w_id (x := c) (by omega) (by omega), w_id (x := mxx) (by omega) (by omega)]
  refine ⟨fun q => cv_later (c := stt b N (ten b N s)) hf (by omega) (by omega) hst (fun w1 f1 hf1 => h w1 (f1.wk (by intro j k; simp only [Sla, Slo]; omega)) ⟨LC.start (hR.fr f1 (by intro k; simp [Sla]) (by simp [Sla])) (hT.fr f1 (by intro k hk; simp only [Sla]; omega)) ha ?_ (by rw [f1.I 0 17 (by simp [Sla])]; exact h17), hb.e (fun k => f1.I 8 k (by simp [Sla])) (f1.I 0 20 (by simp [Sla])), fun z => ⟨(hw z).1.e (fun k => f1.I 8 k (by simp [Sla])), (hw z).2.e (f1.I 0 20 (by simp [Sla]))⟩⟩ (f1.I 8 2 (by simp [Sla]))), fun q => h w Fr.rf ⟨LC.start hR hT ha ?_ h17, hb, hw⟩ rfl⟩
  · by_cases z : f.1 = 0
    · rw [fl0_y ((hfull z).mpr q)]; exact hf1
    · rw [fl0_ne z]; rw [upf_ne z] at hf1; exact hf1
  · by_cases z : f.1 = 0
    · rw [fl0_n (fun y => q ((hfull z).mp y))]; exact hf.mono (by omega)
    · rw [fl0_ne z]; exact hf.mono (by omega)
theorem tl_1 {F : Nat} {N s : Int} {b : Nat → Int} {S : Nat → Int} {f : Int × Int} {w : AW} {P : Int → AW → Prop} (hF : FB F) (hB : BB b N) (hP : PRE w b N S s f) (ht : tks b N s = 1) (h8 : w.1 0 8 = ten b N s) (h0 : ∀ w', Fr Slo w w' → rdn b N (nms 1) (ten b N s) [] = .inl (w'.1 0 14) → P 0 w') (h1 : ∀ w' l, Fr Slo w w' → LPs w' b N 1 S s f l → P 1 w') : TT (k_X9_townLine_164 F [vR 0, vI s, vL (wcon 1), vU, vI (-1), vI (-1), vU] [] w) (qq 2 (fun r w => ∃ x, r = some (vI x) ∧ P x w)) := by
  refine wp_X9_townLine_164 F s (wcon 1) (-1) (-1) w _ (pre_tok hF hB hP ht h8 (fun w1 f1 hP1 hT1 ha hst hst6 => ?_))
  have g1 : Fr Slo w w1 := f1.wk (by intro j k; simp only [Str, Slo]; omega)
  obtain ⟨hR, hs, hf, hb, hw, h17⟩ := id hP1
  obtain ⟨r1, r2, r3, r20⟩ := id hb
  have hN := hB.2
  refine ifp (by decide) (ifn (by decide) (ifp (by decide) ?_))
  refine wp_X9_townLine_302 F s (wcon 1) (-1) (-1) w1 _ (ifp (by decide) ?_)
  refine wp_X9_townLine_327 F s (wcon 1) (-1) (-1) 1 w1 _ ⟨by decide, ?_⟩
  refine ifp (by decide) ?_
  refine tt_room (L := 1) (ci := 1) (ll := (fun k => [0, 0, 1, 0].getD k 0)) (hh := (fun k => [8, 8, 30, 99].getD k 0)) hP1 hT1 ha hst (by omega) rfl (by show 0 ≤ w1.1 8 1 ∧ w1.1 8 1 ≤ 14 ∧ (14 : Int) ≤ 100; omega) (fun z => ?_) (fun w2 f2 hLB e2 => ?_)
  · have := (hw z).1 1 (by omega)
    show full 1 S ↔ w1.1 8 1 = 14
    unfold full
    omega
  · refine wp_X9_townLine_369 F s (wcon 1) (-1) (-1) 1 w2 _ ?_
    refine ifp (by decide) ?_
    exact ci_roadL hF hB hLB (fun w3 f3 q => q_z0 (h0 w3 ((g1.tr f2).tr f3) q)) (fun w3 l f3 q => q_z1 (h1 w3 l ((g1.tr f2).tr f3) q))
theorem tl_2 {F : Nat} {N s : Int} {b : Nat → Int} {S : Nat → Int} {f : Int × Int} {w : AW} {P : Int → AW → Prop} (hF : FB F) (hB : BB b N) (hP : PRE w b N S s f) (ht : tks b N s = 1) (h8 : w.1 0 8 = ten b N s) (h0 : ∀ w', Fr Slo w w' → rdn b N (nms 2) (ten b N s) [] = .inl (w'.1 0 14) → P 0 w') (h1 : ∀ w' l, Fr Slo w w' → LPs w' b N 2 S s f l → P 1 w') : TT (k_X9_townLine_164 F [vR 0, vI s, vL (wcon 2), vU, vI (-1), vI (0), vU] [] w) (qq 2 (fun r w => ∃ x, r = some (vI x) ∧ P x w)) := by
  refine wp_X9_townLine_164 F s (wcon 2) (-1) (0) w _ (pre_tok hF hB hP ht h8 (fun w1 f1 hP1 hT1 ha hst hst6 => ?_))
  have g1 : Fr Slo w w1 := f1.wk (by intro j k; simp only [Str, Slo]; omega)
  obtain ⟨hR, hs, hf, hb, hw, h17⟩ := id hP1
  obtain ⟨r1, r2, r3, r20⟩ := id hb
  have hN := hB.2
  refine ifp (by decide) (ifn (by decide) (ifn (by decide) (ifn (by decide) ?_)))
  refine wp_X9_townLine_302 F s (wcon 2) (-1) (0) w1 _ (ifn (by decide) (ifn (by decide) ?_))
  refine wp_X9_townLine_327 F s (wcon 2) (-1) (0) 2 w1 _ ⟨by decide, ?_⟩
  refine ifn (by decide) (ifn (by decide) ?_)
  refine tt_room (L := 2) (ci := 2) (ll := (fun _ => 0)) (hh := (fun k => [8, 9].getD k 0)) hP1 hT1 ha hst (by omega) rfl (by show 0 ≤ w1.1 8 2 ∧ w1.1 8 2 ≤ 8 ∧ (8 : Int) ≤ 100; omega) (fun z => ?_) (fun w2 f2 hLB e2 => ?_)
  · have := (hw z).1 2 (by omega)
    show full 2 S ↔ w1.1 8 2 = 8
    unfold full
    omega
  · refine wp_X9_townLine_369 F s (wcon 2) (-1) (0) 2 w2 _ ?_
    refine ifn (by decide) (ifn (by decide) ?_)
    exact ci_personL2 hF hB hLB (fun w3 f3 q => q_z0 (h0 w3 ((g1.tr f2).tr f3) q)) (fun w3 l f3 q => q_z1 (h1 w3 l ((g1.tr f2).tr f3) q))
theorem tl_3 {F : Nat} {N s : Int} {b : Nat → Int} {S : Nat → Int} {f : Int × Int} {w : AW} {P : Int → AW → Prop} (hF : FB F) (hB : BB b N) (hP : PRE w b N S s f) (ht : tks b N s = 1) (h8 : w.1 0 8 = ten b N s) (h0 : ∀ w', Fr Slo w w' → rdn b N (nms 3) (ten b N s) [] = .inl (w'.1 0 14) → P 0 w') (h1 : ∀ w' l, Fr Slo w w' → LPs w' b N 3 S s f l → P 1 w') : TT (k_X9_townLine_164 F [vR 0, vI s, vL (wcon 3), vU, vI (-1), vI (1), vU] [] w) (qq 2 (fun r w => ∃ x, r = some (vI x) ∧ P x w)) := by
  refine wp_X9_townLine_164 F s (wcon 3) (-1) (1) w _ (pre_tok hF hB hP ht h8 (fun w1 f1 hP1 hT1 ha hst hst6 => ?_))
  have g1 : Fr Slo w w1 := f1.wk (by intro j k; simp only [Str, Slo]; omega)
  obtain ⟨hR, hs, hf, hb, hw, h17⟩ := id hP1
  obtain ⟨r1, r2, r3, r20⟩ := id hb
  have hN := hB.2
  refine ifp (by decide) (ifn (by decide) (ifn (by decide) (ifn (by decide) ?_)))
  refine wp_X9_townLine_302 F s (wcon 3) (-1) (1) w1 _ (ifn (by decide) (ifn (by decide) ?_))
  refine wp_X9_townLine_327 F s (wcon 3) (-1) (1) 2 w1 _ ⟨by decide, ?_⟩
  refine ifn (by decide) (ifn (by decide) ?_)
  refine tt_room (L := 3) (ci := 2) (ll := (fun _ => 0)) (hh := (fun k => [8, 9].getD k 0)) hP1 hT1 ha hst (by omega) rfl (by show 0 ≤ w1.1 8 2 ∧ w1.1 8 2 ≤ 8 ∧ (8 : Int) ≤ 100; omega) (fun z => ?_) (fun w2 f2 hLB e2 => ?_)
  · have := (hw z).1 2 (by omega)
    show full 3 S ↔ w1.1 8 2 = 8
    unfold full
    omega
  · refine wp_X9_townLine_369 F s (wcon 3) (-1) (1) 2 w2 _ ?_
    refine ifn (by decide) (ifn (by decide) ?_)
    exact ci_personL3 hF hB hLB (fun w3 f3 q => q_z0 (h0 w3 ((g1.tr f2).tr f3) q)) (fun w3 l f3 q => q_z1 (h1 w3 l ((g1.tr f2).tr f3) q))
theorem tl_4 {F : Nat} {N s : Int} {b : Nat → Int} {S : Nat → Int} {f : Int × Int} {w : AW} {P : Int → AW → Prop} (hF : FB F) (hB : BB b N) (hP : PRE w b N S s f) (ht : tks b N s = 1) (h8 : w.1 0 8 = ten b N s) (h0 : ∀ w', Fr Slo w w' → rdn b N (nms 4) (ten b N s) [] = .inl (w'.1 0 14) → P 0 w') (h1 : ∀ w' l, Fr Slo w w' → LPs w' b N 4 S s f l → P 1 w') : TT (k_X9_townLine_164 F [vR 0, vI s, vL (wcon 4), vU, vI (-1), vI (2), vU] [] w) (qq 2 (fun r w => ∃ x, r = some (vI x) ∧ P x w)) := by
  refine wp_X9_townLine_164 F s (wcon 4) (-1) (2) w _ (pre_tok hF hB hP ht h8 (fun w1 f1 hP1 hT1 ha hst hst6 => ?_))
  have g1 : Fr Slo w w1 := f1.wk (by intro j k; simp only [Str, Slo]; omega)
  obtain ⟨hR, hs, hf, hb, hw, h17⟩ := id hP1
  obtain ⟨r1, r2, r3, r20⟩ := id hb
  have hN := hB.2
  refine ifp (by decide) (ifn (by decide) (ifn (by decide) (ifn (by decide) ?_)))
  refine wp_X9_townLine_302 F s (wcon 4) (-1) (2) w1 _ (ifn (by decide) (ifn (by decide) ?_))
  refine wp_X9_townLine_327 F s (wcon 4) (-1) (2) 2 w1 _ ⟨by decide, ?_⟩
  refine ifn (by decide) (ifn (by decide) ?_)
  refine tt_room (L := 4) (ci := 2) (ll := (fun _ => 0)) (hh := (fun k => [8, 9].getD k 0)) hP1 hT1 ha hst (by omega) rfl (by show 0 ≤ w1.1 8 2 ∧ w1.1 8 2 ≤ 8 ∧ (8 : Int) ≤ 100; omega) (fun z => ?_) (fun w2 f2 hLB e2 => ?_)
  · have := (hw z).1 2 (by omega)
    show full 4 S ↔ w1.1 8 2 = 8
    unfold full
    omega
  · refine wp_X9_townLine_369 F s (wcon 4) (-1) (2) 2 w2 _ ?_
    refine ifn (by decide) (ifn (by decide) ?_)
    exact ci_personL4 hF hB hLB (fun w3 f3 q => q_z0 (h0 w3 ((g1.tr f2).tr f3) q)) (fun w3 l f3 q => q_z1 (h1 w3 l ((g1.tr f2).tr f3) q))
theorem tl_5 {F : Nat} {N s : Int} {b : Nat → Int} {S : Nat → Int} {f : Int × Int} {w : AW} {P : Int → AW → Prop} (hF : FB F) (hB : BB b N) (hP : PRE w b N S s f) (ht : tks b N s = 1) (h8 : w.1 0 8 = ten b N s) (h0 : ∀ w', Fr Slo w w' → rdn b N (nms 5) (ten b N s) [] = .inl (w'.1 0 14) → P 0 w') (h1 : ∀ w' l, Fr Slo w w' → LPs w' b N 5 S s f l → P 1 w') : TT (k_X9_townLine_164 F [vR 0, vI s, vL (wcon 5), vU, vI (-1), vI (-1), vU] [] w) (qq 2 (fun r w => ∃ x, r = some (vI x) ∧ P x w)) := by
  refine wp_X9_townLine_164 F s (wcon 5) (-1) (-1) w _ (pre_tok hF hB hP ht h8 (fun w1 f1 hP1 hT1 ha hst hst6 => ?_))
  have g1 : Fr Slo w w1 := f1.wk (by intro j k; simp only [Str, Slo]; omega)
  obtain ⟨hR, hs, hf, hb, hw, h17⟩ := id hP1
  obtain ⟨r1, r2, r3, r20⟩ := id hb
  have hN := hB.2
  refine ifp (by decide) (ifn (by decide) (ifn (by decide) (ifp (by decide) (ifp (by decide) ?_))))
  refine wp_X9_townLine_302 F s (wcon 5) (-1) (-1) w1 _ (ifn (by decide) (ifp (by decide) ?_))
  refine wp_X9_townLine_327 F s (wcon 5) (-1) (-1) 3 w1 _ ⟨by decide, ?_⟩
  refine ifn (by decide) (ifp (by decide) ?_)
  refine tt_room (L := 5) (ci := 3) (ll := (fun _ => 0)) (hh := (fun k => [w1.1 8 2 - 1, 8, 359, 100].getD k 0)) hP1 hT1 ha hst (by omega) rfl (by show 0 ≤ w1.1 8 3 ∧ w1.1 8 3 ≤ 12 ∧ (12 : Int) ≤ 100; omega) (fun z => ?_) (fun w2 f2 hLB e2 => ?_)
  · have := (hw z).1 3 (by omega)
    show full 5 S ↔ w1.1 8 3 = 12
    unfold full
    omega
  · refine wp_X9_townLine_369 F s (wcon 5) (-1) (-1) 3 w2 _ ?_
    refine ifn (by decide) (ifp (by decide) ?_)
    rw [← e2] at hLB
    exact ci_errandL hF hB hLB (fun w3 f3 q => q_z0 (h0 w3 ((g1.tr f2).tr f3) q)) (fun w3 l f3 q => q_z1 (h1 w3 l ((g1.tr f2).tr f3) q))
theorem tl_0 {F : Nat} {N s : Int} {b : Nat → Int} {S : Nat → Int} {f : Int × Int} {w : AW} {P : Int → AW → Prop} (hF : FB F) (hB : BB b N) (hP : PRE w b N S s f) (ht : tks b N s = 1) (h8 : w.1 0 8 = ten b N s) (h0 : ∀ w', Fr Slo w w' → rdn b N (nms 0) (ten b N s) [] = .inl (w'.1 0 14) → P 0 w') (h1 : ∀ w' l, Fr Slo w w' → LPs w' b N 0 S s f l → P 1 w') : TT (k_X9_townLine_164 F [vR 0, vI s, vL (wcon 0), vU, vI (-1), vI (-1), vU] [] w) (qq 2 (fun r w => ∃ x, r = some (vI x) ∧ P x w)) := by
  refine wp_X9_townLine_164 F s (wcon 0) (-1) (-1) w _ (pre_tok hF hB hP ht h8 (fun w1 f1 hP1 hT1 ha hst hst6 => ?_))
  have g1 : Fr Slo w w1 := f1.wk (by intro j k; simp only [Str, Slo]; omega)
  obtain ⟨hR, hs, hf, hb, hw, h17⟩ := id hP1
  obtain ⟨r1, r2, r3, r20⟩ := id hb
  have hN := hB.2
  have nf : ¬ full 0 S := by unfold full; omega
  have hC : LC w1 b N 0 S s (fl0 0 S s f) 0 (fun _ => 2) (fun _ => 9) [] := LC.start hR hT1 ha (by rw [fl0_n nf]; exact hf.mono (by omega)) h17
  refine ifp (by decide) (ifp (by decide) ?_)
  refine ci_takeL (k := 0) hF hB hC rfl (by omega) (by decide) rfl rfl (by decide) (by decide) (by decide) (fun z => can_new (fun y => absurd y.1 (by decide)) rfl rfl) (fun w2 f2 q => br0 (fun w3 e3 => q_z0 (h0 w3 ?_ ?_))) (fun w2 x f2 hC2 => br1 (fun w3 e3 => q_z1 (h1 w3 ([] ++ [x]) ?_ ?_)))
  · rw [e3]; exact (g1.tr (sta_slo f2)).wI _ (by simp [Slo])
  · rw [e3, wI_cell _ _ _ _ (by decide)]; exact q
  · rw [e3]; exact (g1.tr (sta_slo f2)).wI _ (by simp [Slo])
  · have f3 : Fr (fun j _ => j = 8) w2 w3 := by rw [e3]; exact Fr.rf.wI _ rfl
    have c8 : ∀ k, w2.1 8 k = w1.1 8 k := fun k => f2.I 8 k (by simp [Sta])
    have c20 : w3.1 0 20 = w1.1 0 20 := by rw [f3.I 0 20 (by decide), f2.I 0 20 (by simp [Sta])]
    have v0 := (hC2.nv (k := 0) (by show (0 : Nat) < 1; decide)).1
    have hn : ∀ k, k ≠ 0 → w3.1 8 k = w1.1 8 k := fun k hk => by rw [e3, wI_idx _ _ _ _ hk, c8]
    refine (hC2.e8 f3).done rfl ⟨by rw [hn 1 (by decide)]; exact r1, by rw [hn 2 (by decide)]; exact r2, by rw [hn 3 (by decide)]; exact r3, by rw [c20]; exact r20⟩ (fun z => ?_)
    obtain ⟨z1, z2⟩ := fl0_z (ufc_z z)
    refine ⟨?_, fun x' hx => ?_⟩
    · have : w2.1 9 0 = nv ([] ++ [x]) 0 := v0
      rw [e3, this]
      exact ((hw z1).1.e c8).fu (k := 0) (by decide)
    · rw [c20, (hw z1).2 x' hx]
      exact (ft_fu (Or.inl rfl)).symm
theorem tl_6 {F : Nat} {N s : Int} {b : Nat → Int} {S : Nat → Int} {f : Int × Int} {w : AW} {P : Int → AW → Prop} (hF : FB F) (hB : BB b N) (hP : PRE w b N S s f) (ht : tks b N s = 1) (h8 : w.1 0 8 = ten b N s) (h0 : ∀ w', Fr Slo w w' → rdn b N (nms 6) (ten b N s) [] = .inl (w'.1 0 14) → P 0 w') (h1 : ∀ w' l, Fr Slo w w' → LPs w' b N 6 S s f l → P 1 w') : TT (k_X9_townLine_164 F [vR 0, vI s, vL (wcon 6), vU, vI (-1), vI (-1), vU] [] w) (qq 2 (fun r w => ∃ x, r = some (vI x) ∧ P x w)) := by
  refine wp_X9_townLine_164 F s (wcon 6) (-1) (-1) w _ (pre_tok hF hB hP ht h8 (fun w1 f1 hP1 hT1 ha hst hst6 => ?_))
  have g1 : Fr Slo w w1 := f1.wk (by intro j k; simp only [Str, Slo]; omega)
  obtain ⟨hR, hs, hf, hb, hw, h17⟩ := id hP1
  obtain ⟨r1, r2, r3, r20⟩ := id hb
  have hN := hB.2
  have nf : ¬ full 6 S := by unfold full; omega
  have hC : LC w1 b N 6 S s (fl0 6 S s f) 0 (fun _ => 0) (fun k => [w1.1 8 2 - 1, w1.1 8 1 - 1].getD k 0) [] := LC.start hR hT1 ha (by rw [fl0_n nf]; exact hf.mono (by omega)) h17
  refine ifp (by decide) (ifn (by decide) (ifn (by decide) (ifp (by decide) (ifn (by decide) (ifp (by decide) ?_)))))
  have hS2 : (fl0 6 S s f).1 = 0 → w1.1 8 2 - 1 = hiB 6 0 S := fun z => by
    have := (hw (fl0_z z).1).1 2 (by omega)
    show w1.1 8 2 - 1 = S 2 - 1
    omega
  have hS1 : (fl0 6 S s f).1 = 0 → w1.1 8 1 - 1 = hiB 6 1 S := fun z => by
    have := (hw (fl0_z z).1).1 1 (by omega)
    show w1.1 8 1 - 1 = S 1 - 1
    omega
  refine ci_takeL (k := 0) hF hB hC rfl (by omega) (by decide) rfl rfl (by decide) ⟨by omega, by omega⟩ (by decide) (fun z => can_new (fun y => absurd y.1 (by decide)) rfl (hS2 z)) (fun w2 f2 q => br0 (q_z0 (h0 w2 (g1.tr (sta_slo f2)) q))) (fun w2 x1 f2 hC2 => br1 ?_)
  rw [f2.I 8 1 (by simp [Sta])]
  refine ci_takeL (k := 1) hF hB hC2 rfl (by omega) (by show (1 : Nat) < 2; decide) rfl rfl (by decide) ⟨by omega, by omega⟩ (by decide) (fun z => can_new (fun y => absurd y.1 (by decide)) rfl (hS1 z)) (fun w3 f3 q => br0 (q_z0 (h0 w3 ((g1.tr (sta_slo f2)).tr (sta_slo f3)) q))) (fun w3 x2 f3 hC3 => br1 ?_)
  have c8 : ∀ k, w3.1 8 k = w1.1 8 k := fun k => by rw [f3.I 8 k (by simp [Sta]), f2.I 8 k (by simp [Sta])]
  have c20 : w3.1 0 20 = w1.1 0 20 := by rw [f3.I 0 20 (by simp [Sta]), f2.I 0 20 (by simp [Sta])]
  have ff : Fr Slo w w3 := (g1.tr (sta_slo f2)).tr (sta_slo f3)
  obtain ⟨l, hl⟩ : ∃ l : NL, l = [] ++ [x1] ++ [x2] := ⟨_, rfl⟩
  rw [← hl] at hC3
  have len : l.length = 2 := by rw [hl]; rfl
  have v0 := hC3.nv (k := 0) (by omega)
  have v1 := hC3.nv (k := 1) (by omega)
  obtain ⟨a3, hR3, hT3, ha3, hn3, hfs3, hrd3, hle3, hg1, hg2, hg3⟩ := id hC3
  rw [w_id (x := w3.1 0 17) (by omega) (by omega)]
  refine ⟨fun q => q_z1 (h1 w3 l ff (hC3.done len (hb.e c8 c20) (fun z => ?_))), fun q => ?_⟩
  · exfalso
    rw [show nms 6 = l.length from len.symm] at z
    have := hg1 z
    omega
  · have hgood := hg2 (by omega)
    have k0 : 0 ≤ nv l 0 ∧ nv l 0 ≤ w1.1 8 2 - 1 := hgood 0 (by omega)
    have k1 : 0 ≤ nv l 1 ∧ nv l 1 ≤ w1.1 8 1 - 1 := hgood 1 (by omega)
    have u0 : w3.1 9 0 = nv l 0 := v0.1
    have u1 : w3.1 9 1 = nv l 1 := v1.1
    rw [u0, u1]
    refine ⟨⟨by omega, by omega⟩, fun w4 e4 => q_z1 (h1 w4 l (by rw [e4]; exact ff.wI _ (by simp [Slo])) ?_)⟩
    have f4 : Fr (fun j _ => j = 8) w3 w4 := by rw [e4]; exact Fr.rf.wI _ rfl
    have hn : ∀ k, k < 4 → w4.1 8 k = w1.1 8 k := fun k hk => by rw [e4, wI_idx _ _ _ _ (by omega), c8]
    refine (hC3.e8 f4).done len ⟨by rw [hn 1 (by decide)]; exact r1, by rw [hn 2 (by decide)]; exact r2, by rw [hn 3 (by decide)]; exact r3, by rw [f4.I 0 20 (by decide), c20]; exact r20⟩ (fun z => ?_)
    obtain ⟨z1, z2⟩ := fl0_z (ufc_z z)
    refine ⟨?_, fun x' hx => ?_⟩
    · rw [e4, show 6 + 11 * nv l 1 + 4 = 10 + 11 * nv l 1 from by omega]
      exact ((hw z1).1.e c8).fu (by omega)
    · rw [f4.I 0 20 (by decide), c20, (hw z1).2 x' hx]
      exact (ft_fu (Or.inr (Or.inr (Or.inr ⟨nv l 1, 4, by omega, by omega, by omega, by omega, by omega⟩)))).symm
theorem tl_7 {F : Nat} {N s : Int} {b : Nat → Int} {S : Nat → Int} {f : Int × Int} {w : AW} {P : Int → AW → Prop} (hF : FB F) (hB : BB b N) (hP : PRE w b N S s f) (ht : tks b N s = 1) (h8 : w.1 0 8 = ten b N s) (h0 : ∀ w', Fr Slo w w' → rdn b N (nms 7) (ten b N s) [] = .inl (w'.1 0 14) → P 0 w') (h1 : ∀ w' l, Fr Slo w w' → LPs w' b N 7 S s f l → P 1 w') : TT (k_X9_townLine_164 F [vR 0, vI s, vL (wcon 7), vU, vI (-1), vI (-1), vU] [] w) (qq 2 (fun r w => ∃ x, r = some (vI x) ∧ P x w)) := by
  refine wp_X9_townLine_164 F s (wcon 7) (-1) (-1) w _ (pre_tok hF hB hP ht h8 (fun w1 f1 hP1 hT1 ha hst hst6 => ?_))
  have g1 : Fr Slo w w1 := f1.wk (by intro j k; simp only [Str, Slo]; omega)
  obtain ⟨hR, hs, hf, hb, hw, h17⟩ := id hP1
  obtain ⟨r1, r2, r3, r20⟩ := id hb
  have hN := hB.2
  have nf : ¬ full 7 S := by unfold full; omega
  have hC : LC w1 b N 7 S s (fl0 7 S s f) 0 (fun _ => 0) (fun k => [w1.1 8 1 - 1, 5, 100].getD k 0) [] := LC.start hR hT1 ha (by rw [fl0_n nf]; exact hf.mono (by omega)) h17
  refine ifp (by decide) (ifn (by decide) (ifn (by decide) (ifp (by decide) (ifn (by decide) (ifn (by decide) ?_)))))
  have hS1 : (fl0 7 S s f).1 = 0 → w1.1 8 1 - 1 = hiB 7 0 S := fun z => by
    have := (hw (fl0_z z).1).1 1 (by omega)
    show w1.1 8 1 - 1 = S 1 - 1
    omega
  refine ci_takeL (k := 0) hF hB hC rfl (by omega) (by decide) rfl rfl (by decide) ⟨by omega, by omega⟩ (by decide) (fun z => can_new (fun y => absurd y.1 (by decide)) rfl (hS1 z)) (fun w2 f2 q => br0 (q_z0 (h0 w2 (g1.tr (sta_slo f2)) q))) (fun w2 x1 f2 hC2 => br1 ?_)
  refine ci_takeL (k := 1) hF hB hC2 rfl (by omega) (by show (1 : Nat) < 3; decide) rfl rfl (by decide) (by decide) (by decide) (fun z => can_new (fun y => absurd y.1 (by decide)) rfl rfl) (fun w3 f3 q => br0 (q_z0 (h0 w3 ((g1.tr (sta_slo f2)).tr (sta_slo f3)) q))) (fun w3 x2 f3 hC3 => br1 ?_)
  refine ci_takeL (k := 2) hF hB hC3 rfl (by omega) (by show (2 : Nat) < 3; decide) rfl rfl (by decide) (by decide) (by decide) (fun z => can_new (fun y => absurd y.1 (by decide)) rfl rfl) (fun w4 f4 q => br0 (q_z0 (h0 w4 (((g1.tr (sta_slo f2)).tr (sta_slo f3)).tr (sta_slo f4)) q))) (fun w4 x3 f4 hC4 => br1 ?_)
  have c8 : ∀ k, w4.1 8 k = w1.1 8 k := fun k => by rw [f4.I 8 k (by simp [Sta]), f3.I 8 k (by simp [Sta]), f2.I 8 k (by simp [Sta])]
  have c20 : w4.1 0 20 = w1.1 0 20 := by rw [f4.I 0 20 (by simp [Sta]), f3.I 0 20 (by simp [Sta]), f2.I 0 20 (by simp [Sta])]
  have ff : Fr Slo w w4 := ((g1.tr (sta_slo f2)).tr (sta_slo f3)).tr (sta_slo f4)
  obtain ⟨l, hl⟩ : ∃ l : NL, l = [] ++ [x1] ++ [x2] ++ [x3] := ⟨_, rfl⟩
  rw [← hl] at hC4
  have len : l.length = 3 := by rw [hl]; rfl
  have v0 := hC4.nv (k := 0) (by omega)
  have v1 := hC4.nv (k := 1) (by omega)
  have v2 := hC4.nv (k := 2) (by omega)
  obtain ⟨a3, hR3, hT3, ha3, hn3, hfs3, hrd3, hle3, hg1, hg2, hg3⟩ := id hC4
  rw [w_id (x := w4.1 0 17) (by omega) (by omega)]
  refine ⟨fun q => q_z1 (h1 w4 l ff (hC4.done len (hb.e c8 c20) (fun z => ?_))), fun q => ?_⟩
  · exfalso
    rw [show nms 7 = l.length from len.symm] at z
    have := hg1 z
    omega
  · have hgood := hg2 (by omega)
    have k0 : 0 ≤ nv l 0 ∧ nv l 0 ≤ w1.1 8 1 - 1 := hgood 0 (by omega)
    have k1 : 0 ≤ nv l 1 ∧ nv l 1 ≤ 5 := hgood 1 (by omega)
    have u0 : w4.1 9 0 = nv l 0 := v0.1
    have u1 : w4.1 9 1 = nv l 1 := v1.1
    have u2 : w4.1 9 2 = nv l 2 := v2.1
    rw [u0, u1, u2]
    refine ⟨⟨by omega, by omega⟩, fun w5 e5 => q_z1 (h1 w5 l (by rw [e5]; exact ff.wI _ (by simp [Slo])) ?_)⟩
    have f5 : Fr (fun j _ => j = 8) w4 w5 := by rw [e5]; exact Fr.rf.wI _ rfl
    have hn : ∀ k, k < 4 → w5.1 8 k = w1.1 8 k := fun k hk => by rw [e5, wI_idx _ _ _ _ (by omega), c8]
    refine (hC4.e8 f5).done len ⟨by rw [hn 1 (by decide)]; exact r1, by rw [hn 2 (by decide)]; exact r2, by rw [hn 3 (by decide)]; exact r3, by rw [f5.I 0 20 (by decide), c20]; exact r20⟩ (fun z => ?_)
    obtain ⟨z1, z2⟩ := fl0_z (ufc_z z)
    refine ⟨?_, fun x' hx => ?_⟩
    · rw [e5, show 6 + 11 * nv l 0 + 5 + nv l 1 = 11 + 11 * nv l 0 + nv l 1 from by omega]
      exact ((hw z1).1.e c8).fu (by omega)
    · rw [f5.I 0 20 (by decide), c20, (hw z1).2 x' hx]
      exact (ft_fu (Or.inr (Or.inr (Or.inr ⟨nv l 0, 5 + nv l 1, by omega, by omega, by omega, by omega, by omega⟩)))).symm
theorem tl_8 {F : Nat} {N s : Int} {b : Nat → Int} {S : Nat → Int} {f : Int × Int} {w : AW} {P : Int → AW → Prop} (hF : FB F) (hB : BB b N) (hP : PRE w b N S s f) (ht : tks b N s = 1) (h8 : w.1 0 8 = ten b N s) (h0 : ∀ w', Fr Slo w w' → rdn b N (nms 8) (ten b N s) [] = .inl (w'.1 0 14) → P 0 w') (h1 : ∀ w' l, Fr Slo w w' → LPs w' b N 8 S s f l → P 1 w') : TT (k_X9_townLine_164 F [vR 0, vI s, vL (wcon 8), vU, vI (0), vI (-1), vU] [] w) (qq 2 (fun r w => ∃ x, r = some (vI x) ∧ P x w)) := by
  refine wp_X9_townLine_164 F s (wcon 8) (0) (-1) w _ (pre_tok hF hB hP ht h8 (fun w1 f1 hP1 hT1 ha hst hst6 => ?_))
  have g1 : Fr Slo w w1 := f1.wk (by intro j k; simp only [Str, Slo]; omega)
  obtain ⟨hR, hs, hf, hb, hw, h17⟩ := id hP1
  obtain ⟨r1, r2, r3, r20⟩ := id hb
  have hN := hB.2
  have nf : ¬ full 8 S := by unfold full; omega
  have hC : LC w1 b N 8 S s (fl0 8 S s f) 0 (fun _ => 0) (fun _ => 0) [] := LC.start hR hT1 ha (by rw [fl0_n nf]; exact hf.mono (by omega)) h17
  refine ifn (by decide) (fun w2 e2 => ifn (by decide) (wp_X9_townLine_203 F s (wcon 8) 0 (-1) w2 _ (ifn (by decide) (fun w3 e3 => q_z1 (h1 w3 [] ?_ ?_)))))
  · rw [e3, e2]; exact (g1.wI _ (by simp [Slo])).wI _ (by simp [Slo])
  · have f3 : Fr (fun j _ => j = 8) w1 w3 := by rw [e3, e2]; exact (Fr.rf.wI _ (by rfl)).wI _ (by rfl)
    have hr : ∀ k, w3.1 8 k = if k = 4 then 0 else w1.1 8 k := fun k => by
      rw [e3, wI_at]
      by_cases z : k = 5
      · rw [if_pos ⟨rfl, z⟩, if_neg (by omega), z, e2, wI_idx _ _ _ _ (by decide)]
      · rw [if_neg (fun y => z y.2), e2, wI_at]
        by_cases y : k = 4
        · rw [if_pos ⟨rfl, y⟩, if_pos y]
        · rw [if_neg (fun h => y h.2), if_neg y]
    refine (hC.e8 f3).done rfl ⟨by rw [hr, if_neg (by decide)]; exact r1, by rw [hr, if_neg (by decide)]; exact r2, by rw [hr, if_neg (by decide)]; exact r3, by rw [f3.I 0 20 (by decide)]; exact r20⟩ (fun z => ?_)
    obtain ⟨z1, z2⟩ := fl0_z (ufc_z z)
    refine ⟨fun i hi => ?_, fun x' hx => ?_⟩
    · show w3.1 8 i = fu S 4 0 i
      rw [hr]
      by_cases y : i = 4
      · rw [if_pos y, fu_eq (by omega)]
      · rw [if_neg y, fu_ne (by omega)]; exact (hw z1).1 i hi
    · rw [f3.I 0 20 (by decide), (hw z1).2 x' hx]
      exact (ft_fu (Or.inr (Or.inl rfl))).symm
theorem tl_9 {F : Nat} {N s : Int} {b : Nat → Int} {S : Nat → Int} {f : Int × Int} {w : AW} {P : Int → AW → Prop} (hF : FB F) (hB : BB b N) (hP : PRE w b N S s f) (ht : tks b N s = 1) (h8 : w.1 0 8 = ten b N s) (h0 : ∀ w', Fr Slo w w' → rdn b N (nms 9) (ten b N s) [] = .inl (w'.1 0 14) → P 0 w') (h1 : ∀ w' l, Fr Slo w w' → LPs w' b N 9 S s f l → P 1 w') : TT (k_X9_townLine_164 F [vR 0, vI s, vL (wcon 9), vU, vI (1), vI (-1), vU] [] w) (qq 2 (fun r w => ∃ x, r = some (vI x) ∧ P x w)) := by
  refine wp_X9_townLine_164 F s (wcon 9) (1) (-1) w _ (pre_tok hF hB hP ht h8 (fun w1 f1 hP1 hT1 ha hst hst6 => ?_))
  have g1 : Fr Slo w w1 := f1.wk (by intro j k; simp only [Str, Slo]; omega)
  obtain ⟨hR, hs, hf, hb, hw, h17⟩ := id hP1
  obtain ⟨r1, r2, r3, r20⟩ := id hb
  have hN := hB.2
  have nf : ¬ full 9 S := by unfold full; omega
  have hC : LC w1 b N 9 S s (fl0 9 S s f) 0 (fun _ => 0) (fun _ => 0) [] := LC.start hR hT1 ha (by rw [fl0_n nf]; exact hf.mono (by omega)) h17
  refine ifn (by decide) (fun w2 e2 => ifn (by decide) (wp_X9_townLine_203 F s (wcon 9) 1 (-1) w2 _ (ifn (by decide) (fun w3 e3 => q_z1 (h1 w3 [] ?_ ?_)))))
  · rw [e3, e2]; exact (g1.wI _ (by simp [Slo])).wI _ (by simp [Slo])
  · have f3 : Fr (fun j _ => j = 8) w1 w3 := by rw [e3, e2]; exact (Fr.rf.wI _ (by rfl)).wI _ (by rfl)
    have hr : ∀ k, w3.1 8 k = if k = 4 then 1 else w1.1 8 k := fun k => by
      rw [e3, wI_at]
      by_cases z : k = 5
      · rw [if_pos ⟨rfl, z⟩, if_neg (by omega), z, e2, wI_idx _ _ _ _ (by decide)]
      · rw [if_neg (fun y => z y.2), e2, wI_at]
        by_cases y : k = 4
        · rw [if_pos ⟨rfl, y⟩, if_pos y]
        · rw [if_neg (fun h => y h.2), if_neg y]
    refine (hC.e8 f3).done rfl ⟨by rw [hr, if_neg (by decide)]; exact r1, by rw [hr, if_neg (by decide)]; exact r2, by rw [hr, if_neg (by decide)]; exact r3, by rw [f3.I 0 20 (by decide)]; exact r20⟩ (fun z => ?_)
    obtain ⟨z1, z2⟩ := fl0_z (ufc_z z)
    refine ⟨fun i hi => ?_, fun x' hx => ?_⟩
    · show w3.1 8 i = fu S 4 1 i
      rw [hr]
      by_cases y : i = 4
      · rw [if_pos y, fu_eq (by omega)]
      · rw [if_neg y, fu_ne (by omega)]; exact (hw z1).1 i hi
    · rw [f3.I 0 20 (by decide), (hw z1).2 x' hx]
      exact (ft_fu (Or.inr (Or.inl rfl))).symm
theorem tl_11 {F : Nat} {N s : Int} {b : Nat → Int} {S : Nat → Int} {f : Int × Int} {w : AW} {P : Int → AW → Prop} (hF : FB F) (hB : BB b N) (hP : PRE w b N S s f) (ht : tks b N s = 1) (h8 : w.1 0 8 = ten b N s) (h0 : ∀ w', Fr Slo w w' → rdn b N (nms 11) (ten b N s) [] = .inl (w'.1 0 14) → P 0 w') (h1 : ∀ w' l, Fr Slo w w' → LPs w' b N 11 S s f l → P 1 w') : TT (k_X9_townLine_164 F [vR 0, vI s, vL (wcon 11), vU, vI (3), vI (-1), vU] [] w) (qq 2 (fun r w => ∃ x, r = some (vI x) ∧ P x w)) := by
  refine wp_X9_townLine_164 F s (wcon 11) (3) (-1) w _ (pre_tok hF hB hP ht h8 (fun w1 f1 hP1 hT1 ha hst hst6 => ?_))
  have g1 : Fr Slo w w1 := f1.wk (by intro j k; simp only [Str, Slo]; omega)
  obtain ⟨hR, hs, hf, hb, hw, h17⟩ := id hP1
  obtain ⟨r1, r2, r3, r20⟩ := id hb
  have hN := hB.2
  have nf : ¬ full 11 S := by unfold full; omega
  have hC : LC w1 b N 11 S s (fl0 11 S s f) 0 (fun _ => 0) (fun _ => 0) [] := LC.start hR hT1 ha (by rw [fl0_n nf]; exact hf.mono (by omega)) h17
  refine ifn (by decide) (fun w2 e2 => ifn (by decide) (wp_X9_townLine_203 F s (wcon 11) 3 (-1) w2 _ (ifn (by decide) (fun w3 e3 => q_z1 (h1 w3 [] ?_ ?_)))))
  · rw [e3, e2]; exact (g1.wI _ (by simp [Slo])).wI _ (by simp [Slo])
  · have f3 : Fr (fun j _ => j = 8) w1 w3 := by rw [e3, e2]; exact (Fr.rf.wI _ (by rfl)).wI _ (by rfl)
    have hr : ∀ k, w3.1 8 k = if k = 4 then 3 else w1.1 8 k := fun k => by
      rw [e3, wI_at]
      by_cases z : k = 5
      · rw [if_pos ⟨rfl, z⟩, if_neg (by omega), z, e2, wI_idx _ _ _ _ (by decide)]
      · rw [if_neg (fun y => z y.2), e2, wI_at]
        by_cases y : k = 4
        · rw [if_pos ⟨rfl, y⟩, if_pos y]
        · rw [if_neg (fun h => y h.2), if_neg y]
    refine (hC.e8 f3).done rfl ⟨by rw [hr, if_neg (by decide)]; exact r1, by rw [hr, if_neg (by decide)]; exact r2, by rw [hr, if_neg (by decide)]; exact r3, by rw [f3.I 0 20 (by decide)]; exact r20⟩ (fun z => ?_)
    obtain ⟨z1, z2⟩ := fl0_z (ufc_z z)
    refine ⟨fun i hi => ?_, fun x' hx => ?_⟩
    · show w3.1 8 i = fu S 4 3 i
      rw [hr]
      by_cases y : i = 4
      · rw [if_pos y, fu_eq (by omega)]
      · rw [if_neg y, fu_ne (by omega)]; exact (hw z1).1 i hi
    · rw [f3.I 0 20 (by decide), (hw z1).2 x' hx]
      exact (ft_fu (Or.inr (Or.inl rfl))).symm
theorem tl_10 {F : Nat} {N s : Int} {b : Nat → Int} {S : Nat → Int} {f : Int × Int} {w : AW} {P : Int → AW → Prop} (hF : FB F) (hB : BB b N) (hP : PRE w b N S s f) (ht : tks b N s = 1) (h8 : w.1 0 8 = ten b N s) (h0 : ∀ w', Fr Slo w w' → rdn b N (nms 10) (ten b N s) [] = .inl (w'.1 0 14) → P 0 w') (h1 : ∀ w' l, Fr Slo w w' → LPs w' b N 10 S s f l → P 1 w') : TT (k_X9_townLine_164 F [vR 0, vI s, vL (wcon 10), vU, vI (2), vI (-1), vU] [] w) (qq 2 (fun r w => ∃ x, r = some (vI x) ∧ P x w)) := by
  refine wp_X9_townLine_164 F s (wcon 10) (2) (-1) w _ (pre_tok hF hB hP ht h8 (fun w1 f1 hP1 hT1 ha hst hst6 => ?_))
  have g1 : Fr Slo w w1 := f1.wk (by intro j k; simp only [Str, Slo]; omega)
  obtain ⟨hR, hs, hf, hb, hw, h17⟩ := id hP1
  obtain ⟨r1, r2, r3, r20⟩ := id hb
  have hN := hB.2
  have nf : ¬ full 10 S := by unfold full; omega
  refine ifn (by decide) (fun w2 e2 => ifp (by decide) ?_)
  have f2 : Fr (fun j _ => j = 8) w1 w2 := by rw [e2]; exact Fr.rf.wI _ rfl
  have hC : LC w1 b N 10 S s (fl0 10 S s f) 0 (fun _ => 0) (fun _ => 999) [] := LC.start hR hT1 ha (by rw [fl0_n nf]; exact hf.mono (by omega)) h17
  refine ci_takeL (k := 0) hF hB (hC.e8 f2) rfl (by omega) (by decide) rfl rfl (by decide) (by decide) (by decide) (fun z => can_new (fun y => absurd y.1 (by decide)) rfl rfl) (fun w3 f3 q => br0 (q_z0 (h0 w3 ((g1.tr (e8_slo f2)).tr (sta_slo f3)) q))) (fun w3 x f3 hC3 => br1 (wp_X9_townLine_203 F s (wcon 10) 2 (-1) w3 _ (ifp (by decide) (fun w4 e4 => q_z1 (h1 w4 ([] ++ [x]) ?_ ?_)))))
  · rw [e4]; exact ((g1.tr (e8_slo f2)).tr (sta_slo f3)).wI _ (by simp [Slo])
  · have f4 : Fr (fun j _ => j = 8) w3 w4 := by rw [e4]; exact Fr.rf.wI _ rfl
    have v0 : w3.1 9 0 = nv ([] ++ [x]) 0 := (hC3.nv (k := 0) (by show (0 : Nat) < 1; decide)).1
    have c20 : w4.1 0 20 = w1.1 0 20 := by rw [f4.I 0 20 (by decide), f3.I 0 20 (by simp [Sta]), f2.I 0 20 (by decide)]
    have hn : ∀ k, k < 4 → w4.1 8 k = w1.1 8 k := fun k hk => by rw [e4, wI_idx _ _ _ _ (by omega), f3.I 8 k (by simp [Sta]), e2, wI_idx _ _ _ _ (by omega)]
    refine (hC3.e8 f4).done rfl ⟨by rw [hn 1 (by decide)]; exact r1, by rw [hn 2 (by decide)]; exact r2, by rw [hn 3 (by decide)]; exact r3, by rw [c20]; exact r20⟩ (fun z => ?_)
    obtain ⟨z1, z2⟩ := fl0_z (ufc_z z)
    refine ⟨?_, fun x' hx => ?_⟩
    · have hr2 : RW w2 (fu S 4 2) := by rw [e2]; exact (hw z1).1.fu (k := 4) (by decide)
      rw [e4, v0]
      exact (hr2.e (fun k => f3.I 8 k (by simp [Sta]))).fu (k := 5) (by decide)
    · rw [c20, (hw z1).2 x' hx]
      exact ((ft_fu (Or.inr (Or.inr (Or.inl rfl)))).trans (ft_fu (Or.inr (Or.inl rfl)))).symm
theorem wrd_b {b : Nat → Int} {N s : Int} (hs : s ≤ N) : 0 ≤ wrd b N s ∧ wrd b N s ≤ 9223372036854775807 := by
  unfold wrd
  by_cases q : sc ltr b N s - s ≤ 8
  · rw [if_pos q]
    have hsc := sc_b (p := ltr) (b := b) (N := N) (a := s) hs
    have := wd_b (b := b) (s := s) (sc ltr b N s - s).toNat (fun k hk => hsc.2.2 (s + k) (by omega) (by omega))
    have hpw : (256 : Int) ^ (sc ltr b N s - s).toNat ≤ 18446744073709551616 := by
      have : (sc ltr b N s - s).toNat = 0 ∨ (sc ltr b N s - s).toNat = 1 ∨ (sc ltr b N s - s).toNat = 2 ∨ (sc ltr b N s - s).toNat = 3 ∨ (sc ltr b N s - s).toNat = 4 ∨ (sc ltr b N s - s).toNat = 5 ∨ (sc ltr b N s - s).toNat = 6 ∨ (sc ltr b N s - s).toNat = 7 ∨ (sc ltr b N s - s).toNat = 8 := by omega
      rcases this with e | e | e | e | e | e | e | e | e <;> rw [e] <;> decide
    omega
  · rw [if_neg q]; omega
theorem ci_townLine {F : Nat} {N a s : Int} {b : Nat → Int} {S : Nat → Int} {f : Int × Int} {w : AW} {P : Int → AW → Prop} (hF : FB F) (hB : BB b N) (hP : PRE w b N S s f) (hT : TkA w b N a) (hsa : stt b N a = s) (hn : lk b N 0 s = -1 → ∀ w', Fr Slo w w' → w'.1 0 14 = s → P 0 w') (h0 : ∀ L : Nat, lk b N 0 s = L → ∀ w', Fr Slo w w' → rdn b N (nms L) (ten b N s) [] = .inl (w'.1 0 14) → P 0 w') (h1 : ∀ L : Nat, lk b N 0 s = L → L < 12 → ∀ w' l, Fr Slo w w' → LPs w' b N L S s f l → P 1 w') : CI (m_X9_townLine F [vR 0, vI s] w) P := by
  have htr := tks_r (b := b) (N := N) (s := s)
  have hrb := rtk_b htr
  obtain ⟨t10, t11, t8, t12, t13⟩ := hT
  rw [hsa] at t10 t11 t8 t12 t13
  have hs := hP.2.1
  have go : ∀ W : Int, (0 ≤ W ∧ W ≤ 9223372036854775807) → ((tks b N s = 1 ∧ W = wrd b N s) ∨ (tks b N s ≠ 1 ∧ W = 0)) → TT (k_X9_townLine_16 F [vR 0, vI s, vU, vU, vU, vU, vU] [vL W] w) (qq 2 (fun r w => ∃ x, r = some (vI x) ∧ P x w)) := by
    intro W hWb hW
    by_cases hj : ∃ j : Nat, j < 12 ∧ W = wcon j
    · obtain ⟨j, hj12, hWj⟩ := hj
      have ht : tks b N s = 1 := by
        rcases hW with ⟨y, _⟩ | ⟨_, y⟩
        · exact y
        · exfalso
          rw [y] at hWj
          have : j = 0 ∨ j = 1 ∨ j = 2 ∨ j = 3 ∨ j = 4 ∨ j = 5 ∨ j = 6 ∨ j = 7 ∨ j = 8 ∨ j = 9 ∨ j = 10 ∨ j = 11 := by omega
          rcases this with e | e | e | e | e | e | e | e | e | e | e | e <;> subst e <;> exact absurd hWj (by decide)
      have hwr : wrd b N s = wcon j := by
        rcases hW with ⟨_, y⟩ | ⟨y, _⟩
        · rw [← y]; exact hWj
        · exact absurd ht y
      have hlk := lk_town hj12 hs ht hwr
      have g8 := t8 (Or.inl ht)
      have h0' := h0 j hlk
      have h1' := h1 j hlk hj12
      subst hWj
      have : j = 0 ∨ j = 1 ∨ j = 2 ∨ j = 3 ∨ j = 4 ∨ j = 5 ∨ j = 6 ∨ j = 7 ∨ j = 8 ∨ j = 9 ∨ j = 10 ∨ j = 11 := by omega
      rcases this with e | e | e | e | e | e | e | e | e | e | e | e <;> subst e
      · exact wp_X9_townLine_16 F s (wcon 0) w _ (ifn (by decide) (ifn (by decide) (ifn (by decide) (ifn (by decide) (wp_X9_townLine_66 F s (wcon 0) (-1) w _ (ifn (by decide) (ifn (by decide) (ifn (by decide) (wp_X9_townLine_105 F s (wcon 0) (-1) (-1) w _ (ifp (by decide) (ifp (by decide) (ifp (by decide) (tl_0 hF hB hP ht g8 h0' h1')))))))))))))
      · exact wp_X9_townLine_16 F s (wcon 1) w _ (ifn (by decide) (ifn (by decide) (ifn (by decide) (ifn (by decide) (wp_X9_townLine_66 F s (wcon 1) (-1) w _ (ifn (by decide) (ifn (by decide) (ifn (by decide) (wp_X9_townLine_105 F s (wcon 1) (-1) (-1) w _ (ifp (by decide) (ifp (by decide) (ifn (by decide) (ifp (by decide) (tl_1 hF hB hP ht g8 h0' h1'))))))))))))))
      · exact wp_X9_townLine_16 F s (wcon 2) w _ (ifn (by decide) (ifn (by decide) (ifn (by decide) (ifn (by decide) (wp_X9_townLine_66 F s (wcon 2) (-1) w _ (ifp (by decide) (wp_X9_townLine_105 F s (wcon 2) (-1) (0) w _ (ifp (by decide) (ifn (by decide) (tl_2 hF hB hP ht g8 h0' h1'))))))))))
      · exact wp_X9_townLine_16 F s (wcon 3) w _ (ifn (by decide) (ifn (by decide) (ifn (by decide) (ifn (by decide) (wp_X9_townLine_66 F s (wcon 3) (-1) w _ (ifn (by decide) (ifp (by decide) (wp_X9_townLine_105 F s (wcon 3) (-1) (1) w _ (ifp (by decide) (ifn (by decide) (tl_3 hF hB hP ht g8 h0' h1')))))))))))
      · exact wp_X9_townLine_16 F s (wcon 4) w _ (ifn (by decide) (ifn (by decide) (ifn (by decide) (ifn (by decide) (wp_X9_townLine_66 F s (wcon 4) (-1) w _ (ifn (by decide) (ifn (by decide) (ifp (by decide) (wp_X9_townLine_105 F s (wcon 4) (-1) (2) w _ (ifp (by decide) (ifn (by decide) (tl_4 hF hB hP ht g8 h0' h1'))))))))))))
      · exact wp_X9_townLine_16 F s (wcon 5) w _ (ifn (by decide) (ifn (by decide) (ifn (by decide) (ifn (by decide) (wp_X9_townLine_66 F s (wcon 5) (-1) w _ (ifn (by decide) (ifn (by decide) (ifn (by decide) (wp_X9_townLine_105 F s (wcon 5) (-1) (-1) w _ (ifp (by decide) (ifp (by decide) (ifn (by decide) (ifn (by decide) (ifp (by decide) (tl_5 hF hB hP ht g8 h0' h1')))))))))))))))
      · exact wp_X9_townLine_16 F s (wcon 6) w _ (ifn (by decide) (ifn (by decide) (ifn (by decide) (ifn (by decide) (wp_X9_townLine_66 F s (wcon 6) (-1) w _ (ifn (by decide) (ifn (by decide) (ifn (by decide) (wp_X9_townLine_105 F s (wcon 6) (-1) (-1) w _ (ifp (by decide) (ifp (by decide) (ifn (by decide) (ifn (by decide) (ifn (by decide) (ifp (by decide) (tl_6 hF hB hP ht g8 h0' h1'))))))))))))))))
      · exact wp_X9_townLine_16 F s (wcon 7) w _ (ifn (by decide) (ifn (by decide) (ifn (by decide) (ifn (by decide) (wp_X9_townLine_66 F s (wcon 7) (-1) w _ (ifn (by decide) (ifn (by decide) (ifn (by decide) (wp_X9_townLine_105 F s (wcon 7) (-1) (-1) w _ (ifp (by decide) (ifp (by decide) (ifn (by decide) (ifn (by decide) (ifn (by decide) (ifn (by decide) (ifp (by decide) (tl_7 hF hB hP ht g8 h0' h1')))))))))))))))))
      · exact wp_X9_townLine_16 F s (wcon 8) w _ (ifp (by decide) (wp_X9_townLine_66 F s (wcon 8) (0) w _ (ifn (by decide) (ifn (by decide) (ifn (by decide) (wp_X9_townLine_105 F s (wcon 8) (0) (-1) w _ (ifn (by decide) (tl_8 hF hB hP ht g8 h0' h1'))))))))
      · exact wp_X9_townLine_16 F s (wcon 9) w _ (ifn (by decide) (ifp (by decide) (wp_X9_townLine_66 F s (wcon 9) (1) w _ (ifn (by decide) (ifn (by decide) (ifn (by decide) (wp_X9_townLine_105 F s (wcon 9) (1) (-1) w _ (ifn (by decide) (tl_9 hF hB hP ht g8 h0' h1')))))))))
      · exact wp_X9_townLine_16 F s (wcon 10) w _ (ifn (by decide) (ifn (by decide) (ifp (by decide) (wp_X9_townLine_66 F s (wcon 10) (2) w _ (ifn (by decide) (ifn (by decide) (ifn (by decide) (wp_X9_townLine_105 F s (wcon 10) (2) (-1) w _ (ifn (by decide) (tl_10 hF hB hP ht g8 h0' h1'))))))))))
      · exact wp_X9_townLine_16 F s (wcon 11) w _ (ifn (by decide) (ifn (by decide) (ifn (by decide) (ifp (by decide) (wp_X9_townLine_66 F s (wcon 11) (3) w _ (ifn (by decide) (ifn (by decide) (ifn (by decide) (wp_X9_townLine_105 F s (wcon 11) (3) (-1) w _ (ifn (by decide) (tl_11 hF hB hP ht g8 h0' h1')))))))))))
    · have hne : ∀ j : Nat, j < 12 → ¬ w64 W = wcon j := fun j h y => hj ⟨j, h, by rw [wl_id (x := W) (by omega) (by omega)] at y; exact y⟩
      have hlk : lk b N 0 s = -1 := lk_town0 hs (fun ht j h y => by
        rcases hW with ⟨_, y2⟩ | ⟨y2, _⟩
        · exact hj ⟨j, h, by rw [y2]; exact y⟩
        · exact y2 ht)
      have n : ∀ j : Nat, j < 12 → ∀ c, c = wcon j → ¬ w64 W = c := fun j h c hc => by rw [hc]; exact hne j h
      refine wp_X9_townLine_16 F s W w _ (ifn (n 8 (by decide) _ rfl) (ifn (n 9 (by decide) _ rfl) (ifn (n 10 (by decide) _ rfl) (ifn (n 11 (by decide) _ rfl) ?_))))
      refine wp_X9_townLine_66 F s W (-1) w _ (ifn (n 2 (by decide) _ rfl) (ifn (n 3 (by decide) _ rfl) (ifn (n 4 (by decide) _ rfl) ?_)))
      refine wp_X9_townLine_105 F s W (-1) (-1) w _ (ifp (by decide) (ifp (by decide) (ifn (n 0 (by decide) _ rfl) (ifn (n 1 (by decide) _ rfl) (ifn (n 5 (by decide) _ rfl) (ifn (n 6 (by decide) _ rfl) (ifn (n 7 (by decide) _ rfl) ?_)))))))
      exact wp_X9_stops F w _ (fun w2 e2 => q_z0 (q_z0 (hn hlk w2 (by rw [e2]; exact Fr.rf.wI _ (by simp [Slo])) (by rw [e2, wI_same]; exact t10))))
  refine wp_X9_townLine F s w _ ?_
  rw [t11, w_id (x := rtk (tks b N s)) (by omega) (by omega)]
  refine ⟨fun q => ?_, fun q => go 0 (by decide) (Or.inr ⟨fun y => q (hrb.2.2.2.1.mpr y), rfl⟩)⟩
  have ht := hrb.2.2.2.1.mp q
  rw [t13 ht]
  exact go _ (wrd_b hs.2) (Or.inl ⟨ht, rfl⟩)
