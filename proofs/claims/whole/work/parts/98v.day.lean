/-! TEXTS: the reference, a line of a day -/
def RBm (w : AW) : Prop := 0 ≤ w.1 8 0 ∧ w.1 8 0 ≤ 40
def LPd (w : AW) (b : Nat → Int) (N : Int) (L : Nat) (S : Nat → Int) (s : Int) (f : Int × Int) (l : NL) : Prop :=
  ∃ a, RTr w b N ∧ TkA w b N a ∧ (0 ≤ a ∧ a ≤ N) ∧ FTS w (ufc L S l (fl0 L S s f) (nms L)) (stt b N a) ∧ l.length = nms L ∧ rdn b N (nms L) (ten b N s) [] = rdn b N 0 a l ∧ RBm w ∧ ((ufc L S l (fl0 L S s f) (nms L)).1 = 0 → RW w (tkl L S l))
theorem LC.doneD {w : AW} {b : Nat → Int} {N s : Int} {L o : Nat} {S : Nat → Int} {f : Int × Int} {ll hh : Nat → Int} {l : NL} (h : LC w b N L S s (fl0 L S s f) o ll hh l) (hl : l.length = nms L) (hb : RBm w) (hw : (ufc L S l (fl0 L S s f) (nms L)).1 = 0 → RW w (tkl L S l)) : LPd w b N L S s f l := by
  obtain ⟨a, hR, hT, ha, hn, hfs, hrd, hle, hg1, hg2, hg3⟩ := h
  rw [hl] at hfs hrd
  rw [Nat.sub_self] at hrd
  exact ⟨a, hR, hT, ha, hfs, hl, hrd, hb, hw⟩
def PREd (w : AW) (b : Nat → Int) (N : Int) (S : Nat → Int) (s : Int) (f : Int × Int) : Prop := RTr w b N ∧ (0 ≤ s ∧ s ≤ N) ∧ FTS w f s ∧ RBm w ∧ (f.1 = 0 → RW w S) ∧ w.1 0 17 = 1
/-- the row of moves behind a move -/
theorem cv_layM {F : Nat} {x y z : Int} {L o : Nat} {N s : Int} {b : Nat → Int} {S : Nat → Int} {f : Int × Int} {ll hh : Nat → Int} {l : NL} {w0 w : AW} {P : Int → AW → Prop} (hF : FB F) (hC : LC w b N L S s (fl0 L S s f) o ll hh l) (hl : l.length = nms L) (hL : L = 12 ∨ L = 13) (hb : RBm w) (hw : f.1 = 0 → RW w S) (g0 : w.1 9 0 = x) (g1 : w.1 9 1 = y) (g2 : w.1 9 2 = z) (htk : tkl L S l = addM S x y z) (ff : Fr Slo w0 w) (h1 : ∀ w', Fr Slo w0 w' → LPd w' b N L S s f l → P 1 w') : CV (m_X9_lay4 F [vR 0, vI 0, vI 40, vI 1, vI 3, vI 3] w) (fun w' => qq 2 (fun r w => ∃ x, r = some (vI x) ∧ P x w) (some (vI 1)) w') := by
  unfold RBm at hb
  refine cv_lay4 (c := 0) (n := 3) hF (by decide) (by decide) (by decide) (by omega) (by decide) (by decide) (by decide) (fun q => by omega) (fun q => q_z1 (h1 w ff (hC.doneD hl hb (fun zz => ?_)))) (fun q w5 f5 h5 => q_z1 (h1 w5 (ff.tr (e8_slo f5)) ((hC.e8 f5).doneD hl ?_ (fun zz j hj => ?_))))
  · exfalso
    obtain ⟨z1, z2⟩ := fl0_z (ufc_z zz)
    have := hw z1 0 (by omega)
    exact z2 (Or.inr (Or.inr (Or.inr ⟨hL, by omega⟩)))
  · unfold RBm
    rw [h5 0, if_pos rfl]
    omega
  · obtain ⟨z1, z2⟩ := fl0_z (ufc_z zz)
    have hrw := hw z1
    have e_c : w.1 8 0 = S 0 := hrw 0 (by omega)
    rw [htk, h5 j, addM_at (by omega) j, e_c]
    by_cases zc : j = 0
    · rw [if_pos zc, if_pos zc]
    rw [if_neg zc, if_neg zc]
    by_cases yy : 1 + 3 * S 0 ≤ j ∧ (j : Int) < 1 + 3 * S 0 + ((3 : Nat) : Int)
    · rw [if_pos yy]
      have : (j : Int) = 1 + 3 * S 0 ∨ (j : Int) = 2 + 3 * S 0 ∨ (j : Int) = 3 + 3 * S 0 := by omega
      rcases this with e | e | e
      · rw [show j - (1 + 3 * S 0).toNat = 0 from by omega, g0, if_pos e]
      · rw [show j - (1 + 3 * S 0).toNat = 1 from by omega, g1, if_neg (by omega), if_pos e]
      · rw [show j - (1 + 3 * S 0).toNat = 2 from by omega, g2, if_neg (by omega), if_neg (by omega), if_pos e]
    · rw [if_neg yy, if_neg (by omega), if_neg (by omega), if_neg (by omega)]
      exact hrw j hj
/-- ahead of the numbers of a move -/
theorem tt_move {F : Nat} {N s W : Int} {L : Nat} {b : Nat → Int} {S : Nat → Int} {f : Int × Int} {w : AW} {Q : Option AV → AW → Prop} (hF : FB F) (hB : BB b N) (hP : PREd w b N S s f) (ht : tks b N s = 1) (h8 : w.1 0 8 = ten b N s) (hL : L = 12 ∨ L = 13) (h : ∀ w', Fr Slo w w' → (∀ o ll hh, LC w' b N L S s (fl0 L S s f) o ll hh []) → RBm w' → (f.1 = 0 → RW w' S) → ((w64 W = 26479 → TT (k_X9_moveLine_77 F [vR 0, vI s, vL W, vU] [vI 0, vI 0, vR 9] w') Q) ∧ (¬ w64 W = 26479 → TT (k_X9_moveLine_77 F [vR 0, vI s, vL W, vU] [vI 1, vI 0, vR 9] w') Q))) : TT (k_X9_moveLine_38 F [vR 0, vI s, vL W, vU] [] w) Q := by
  obtain ⟨hR, hs, hf, hb, hw, h17⟩ := hP
  have hN := hB.2
  have hte := ten_b (b := b) (N := N) (s := s) hs.2 (by omega)
  have hst := stt_b (b := b) (N := N) (a := ten b N s) hte.2
  have hb' := hb
  unfold RBm at hb'
  have nx : ∀ w1, Fr Sla w w1 → FTS w1 (fl0 L S s f) (stt b N (ten b N s)) → TT (k_X9_moveLine_55 F [vR 0, vI s, vL W, vU] [] w1) Q := by
    intro w1 f1 hf1
    refine wp_X9_moveLine_55 F s W w1 _ (cv_tokenA (a := ten b N s) hF hB (hR.fr f1 (by intro k; simp [Sla]) (by simp [Sla])) (by rw [f1.I 0 8 (by simp [Sla])]; exact h8) (by omega) (fun w2 f2 hR2 hT2 => ?_))
    have c8 : ∀ k, w2.1 8 k = w.1 8 k := fun k => by rw [f2.I 8 k (by simp [Str]), f1.I 8 k (by simp [Sla])]
    refine h w2 ((f1.wk (by intro j k; simp only [Sla, Slo]; omega)).tr (f2.wk (by intro j k; simp only [Str, Slo]; omega))) (fun o ll hh => LC.start hR2 hT2 (by omega) (hf1.fr f2 (by simp [Str]) (by simp [Str])) (by rw [f2.I 0 17 (by simp [Str]), f1.I 0 17 (by simp [Sla])]; exact h17)) ?_ (fun z => (hw z).e c8)
    unfold RBm
    rw [c8]
    exact hb
  refine wp_X9_moveLine_38 F s W w _ ?_
  rw [w_id (x := w.1 8 0) (by omega) (by omega)]
  refine ⟨fun q => cv_later (c := stt b N (ten b N s)) hf (by omega) (by omega) (by omega) (fun w1 f1 hf1 => nx w1 f1 ?_), fun q => nx w Fr.rf ?_⟩
  · by_cases z : f.1 = 0
    · have := hw z 0 (by omega)
      rw [fl0_y (Or.inr (Or.inr (Or.inr ⟨hL, by omega⟩)))]; exact hf1
    · rw [fl0_ne z]; rw [upf_ne z] at hf1; exact hf1
  · by_cases z : f.1 = 0
    · have := hw z 0 (by omega)
      rw [fl0_n (by unfold full; omega)]; exact hf.mono (by omega)
    · rw [fl0_ne z]; exact hf.mono (by omega)
theorem ml_12 {F : Nat} {N s : Int} {b : Nat → Int} {S : Nat → Int} {f : Int × Int} {w : AW} {P : Int → AW → Prop} (hF : FB F) (hB : BB b N) (hP : PREd w b N S s f) (ht : tks b N s = 1) (h8 : w.1 0 8 = ten b N s) (h0 : ∀ w', Fr Slo w w' → rdn b N (nms 12) (ten b N s) [] = .inl (w'.1 0 14) → P 0 w') (h1 : ∀ w' l, Fr Slo w w' → LPd w' b N 12 S s f l → P 1 w') : TT (k_X9_moveLine_38 F [vR 0, vI s, vL (wcon 12), vU] [] w) (qq 2 (fun r w => ∃ x, r = some (vI x) ∧ P x w)) := by
  refine tt_move (L := 12) hF hB hP ht h8 (Or.inl rfl) (fun w1 f1 hC1 hb1 hw1 => ifp (by decide) ?_)
  refine wp_X9_moveLine_77 F s (wcon 12) 0 0 w1 _ ⟨by decide, fun w2 e2 w3 e3 => ifp (by decide) ?_⟩
  have f3 : Fr (fun j _ => j = 9) w1 w3 := by rw [e3, e2]; exact (Fr.rf.wI _ (by rfl)).wI _ (by rfl)
  have hC3 : LC w3 b N 12 S s (fl0 12 S s f) 1 (fun _ => 0) (fun k => [7, 13].getD k 0) [] := (hC1 1 _ _).fr f3 (by intro k; omega) (by intro k h1 h2; omega) (by intro k hk; exact absurd hk (Nat.not_lt_zero k))
  have g30 : w3.1 9 0 = 0 := by rw [e3, wI_idx _ _ _ _ (by decide), e2]; exact wI_same _ _ _ _
  have s3 : Fr Slo w w3 := f1.tr (f3.wk (by intro j k; simp only [Slo]; omega))
  refine ci_takeLx (k := 1) hF hB hC3 rfl (by omega) (by decide) rfl rfl (by decide) (by decide) (by decide) (fun z => can_new (fun y => absurd y.1 (by decide)) rfl rfl) (fun w4 f4 q => br0 (q_z0 (h0 w4 (s3.tr (sta_slo f4)) q))) (fun w4 x1 f4 hC4 hi4 => br1 (wp_X9_moveLine_105 F s (wcon 12) w4 _ (ifp (by decide) (wp_X9_moveLine_120 F s (wcon 12) 0 2 w4 _ (ifp (by decide) (wp_X9_moveLine_136 F s (wcon 12) 13 0 2 w4 _ ?_))))))
  refine ci_takeLx (k := 2) hF hB hC4 rfl (by omega) (by show (1 : Nat) < 2; decide) rfl rfl (by decide) (by decide) (by decide) (fun z => can_new (fun y => absurd y.1 (by decide)) rfl rfl) (fun w5 f5 q => br0 (q_z0 (h0 w5 ((s3.tr (sta_slo f4)).tr (sta_slo f5)) q))) (fun w5 x2 f5 hC5 hi5 => br1 ?_)
  obtain ⟨l, hl⟩ : ∃ l : NL, l = [] ++ [x1] ++ [x2] := ⟨_, rfl⟩
  rw [← hl] at hC5
  have len : l.length = 2 := by rw [hl]; rfl
  have c8 : ∀ k, w5.1 8 k = w1.1 8 k := fun k => by rw [f5.I 8 k (by simp [Sta]), f4.I 8 k (by simp [Sta]), f3.I 8 k (by decide)]
  have v0 := hC5.nv (k := 0) (by omega)
  have v1 := hC5.nv (k := 1) (by omega)
  refine cv_layM (x := 0) (y := nv l 0) (z := nv l 1) (w0 := w) hF hC5 len (Or.inl rfl) (by unfold RBm; rw [c8]; exact hb1) (fun z => (hw1 z).e c8) ?_ v0.1 v1.1 rfl ((s3.tr (sta_slo f4)).tr (sta_slo f5)) (fun w6 f6 h6 => h1 w6 l f6 h6)
  rw [hi5 0 (by decide), hi4 0 (by decide)]
  exact g30
theorem ml_13 {F : Nat} {N s : Int} {b : Nat → Int} {S : Nat → Int} {f : Int × Int} {w : AW} {P : Int → AW → Prop} (hF : FB F) (hB : BB b N) (hP : PREd w b N S s f) (ht : tks b N s = 1) (h8 : w.1 0 8 = ten b N s) (h0 : ∀ w', Fr Slo w w' → rdn b N (nms 13) (ten b N s) [] = .inl (w'.1 0 14) → P 0 w') (h1 : ∀ w' l, Fr Slo w w' → LPd w' b N 13 S s f l → P 1 w') : TT (k_X9_moveLine_38 F [vR 0, vI s, vL (wcon 13), vU] [] w) (qq 2 (fun r w => ∃ x, r = some (vI x) ∧ P x w)) := by
  refine tt_move (L := 13) hF hB hP ht h8 (Or.inr rfl) (fun w1 f1 hC1 hb1 hw1 => ifn (by decide) ?_)
  refine wp_X9_moveLine_77 F s (wcon 13) 1 0 w1 _ ⟨by decide, fun w2 e2 w3 e3 => ifn (by decide) ?_⟩
  have f3 : Fr (fun j _ => j = 9) w1 w3 := by rw [e3, e2]; exact (Fr.rf.wI _ (by rfl)).wI _ (by rfl)
  have hC3 : LC w3 b N 13 S s (fl0 13 S s f) 2 (fun _ => 1) (fun _ => 999) [] := (hC1 2 _ _).fr f3 (by intro k; omega) (by intro k h1 h2; omega) (by intro k hk; exact absurd hk (Nat.not_lt_zero k))
  have g30 : w3.1 9 0 = 1 := by rw [e3, wI_idx _ _ _ _ (by decide), e2]; exact wI_same _ _ _ _
  have g31 : w3.1 9 1 = -1 := by rw [e3, wI_same]
  have s3 : Fr Slo w w3 := f1.tr (f3.wk (by intro j k; simp only [Slo]; omega))
  refine wp_X9_moveLine_105 F s (wcon 13) w3 _ (ifn (by decide) (wp_X9_moveLine_120 F s (wcon 13) 1 2 w3 _ (ifn (by decide) (wp_X9_moveLine_136 F s (wcon 13) 999 1 2 w3 _ ?_))))
  refine ci_takeLx (k := 2) hF hB hC3 rfl (by omega) (by decide) rfl rfl (by decide) (by decide) (by decide) (fun z => can_new (fun y => absurd y.1 (by decide)) rfl rfl) (fun w5 f5 q => br0 (q_z0 (h0 w5 (s3.tr (sta_slo f5)) q))) (fun w5 x2 f5 hC5 hi5 => br1 ?_)
  obtain ⟨l, hl⟩ : ∃ l : NL, l = [] ++ [x2] := ⟨_, rfl⟩
  rw [← hl] at hC5
  have len : l.length = 1 := by rw [hl]; rfl
  have c8 : ∀ k, w5.1 8 k = w1.1 8 k := fun k => by rw [f5.I 8 k (by simp [Sta]), f3.I 8 k (by decide)]
  have v0 := hC5.nv (k := 0) (by omega)
  refine cv_layM (x := 1) (y := -1) (z := nv l 0) (w0 := w) hF hC5 len (Or.inr rfl) (by unfold RBm; rw [c8]; exact hb1) (fun z => (hw1 z).e c8) ?_ ?_ v0.1 rfl (s3.tr (sta_slo f5)) (fun w6 f6 h6 => h1 w6 l f6 h6)
  · rw [hi5 0 (by decide)]; exact g30
  · rw [hi5 1 (by decide)]; exact g31
theorem ci_moveLine {F : Nat} {N a s : Int} {b : Nat → Int} {S : Nat → Int} {f : Int × Int} {w : AW} {P : Int → AW → Prop} (hF : FB F) (hB : BB b N) (hP : PREd w b N S s f) (hT : TkA w b N a) (hsa : stt b N a = s) (hn : lk b N 1 s = -1 → ∀ w', Fr Slo w w' → w'.1 0 14 = s → P 0 w') (h0 : ∀ L : Nat, lk b N 1 s = L → ∀ w', Fr Slo w w' → rdn b N (nms L) (ten b N s) [] = .inl (w'.1 0 14) → P 0 w') (h1 : ∀ L : Nat, lk b N 1 s = L → L < 14 → ∀ w' l, Fr Slo w w' → LPd w' b N L S s f l → P 1 w') : CI (m_X9_moveLine F [vR 0, vI s] w) P := by
  have htr := tks_r (b := b) (N := N) (s := s)
  have hrb := rtk_b htr
  obtain ⟨t10, t11, t8, t12, t13⟩ := hT
  rw [hsa] at t10 t11 t8 t12 t13
  have hs := hP.2.1
  have go : ∀ W : Int, (0 ≤ W ∧ W ≤ 9223372036854775807) → ((tks b N s = 1 ∧ W = wrd b N s) ∨ (tks b N s ≠ 1 ∧ W = 0)) → TT (k_X9_moveLine_16 F [vR 0, vI s, vU, vU] [vL W] w) (qq 2 (fun r w => ∃ x, r = some (vI x) ∧ P x w)) := by
    intro W hWb hW
    by_cases hj : ∃ j : Nat, (12 ≤ j ∧ j < 14) ∧ W = wcon j
    · obtain ⟨j, hj12, hWj⟩ := hj
      have ht : tks b N s = 1 := by
        rcases hW with ⟨y, _⟩ | ⟨_, y⟩
        · exact y
        · exfalso
          rw [y] at hWj
          have : j = 12 ∨ j = 13 := by omega
          rcases this with e | e <;> subst e <;> exact absurd hWj (by decide)
      have hwr : wrd b N s = wcon j := by
        rcases hW with ⟨_, y⟩ | ⟨y, _⟩
        · rw [← y]; exact hWj
        · exact absurd ht y
      have hlk := lk_day hj12 hs ht hwr
      have g8 := t8 (Or.inl ht)
      have h0' := h0 j hlk
      have h1' := h1 j hlk hj12.2
      subst hWj
      have : j = 12 ∨ j = 13 := by omega
      rcases this with e | e <;> subst e
      · exact wp_X9_moveLine_16 F s (wcon 12) w _ (ifp (by decide) (ml_12 hF hB hP ht g8 h0' h1'))
      · exact wp_X9_moveLine_16 F s (wcon 13) w _ (ifn (by decide) (ifp (by decide) (ml_13 hF hB hP ht g8 h0' h1')))
    · have hne : ∀ j : Nat, (12 ≤ j ∧ j < 14) → ¬ w64 W = wcon j := fun j h y => hj ⟨j, h, by rw [wl_id (x := W) (by omega) (by omega)] at y; exact y⟩
      have hlk : lk b N 1 s = -1 := lk_day0 hs (fun ht j h h' y => by
        rcases hW with ⟨_, y2⟩ | ⟨y2, _⟩
        · exact hj ⟨j, ⟨h, h'⟩, by rw [y2]; exact y⟩
        · exact y2 ht)
      have n : ∀ j : Nat, (12 ≤ j ∧ j < 14) → ∀ c, c = wcon j → ¬ w64 W = c := fun j h c hc => by rw [hc]; exact hne j h
      refine wp_X9_moveLine_16 F s W w _ (ifn (n 12 (by decide) _ rfl) (ifn (n 13 (by decide) _ rfl) ?_))
      exact wp_X9_stops F w _ (fun w2 e2 => q_z0 (q_z0 (hn hlk w2 (by rw [e2]; exact Fr.rf.wI _ (by simp [Slo])) (by rw [e2, wI_same]; exact t10))))
  refine wp_X9_moveLine F s w _ ?_
  rw [t11, w_id (x := rtk (tks b N s)) (by omega) (by omega)]
  refine ⟨fun q => ?_, fun q => go 0 (by decide) (Or.inr ⟨fun y => q (hrb.2.2.2.1.mpr y), rfl⟩)⟩
  have ht := hrb.2.2.2.1.mp q
  rw [t13 ht]
  exact go _ (wrd_b hs.2) (Or.inl ⟨ht, rfl⟩)
