/-! TEXTS: the reference reads a text -/
theorem sk_tkl {L : Nat} {S : Nat → Int} {l : NL} (hL : L < 12) (hS : SK S) (hfl : ¬ full L S) (hc : ∀ k, k < nms L → can L k S l) : SK (tkl L S l) := by
  have s1 := hS.2.1
  have s2 := hS.2.2.1
  have s3 := hS.2.2.2.1
  have : L = 0 ∨ L = 1 ∨ L = 2 ∨ L = 3 ∨ L = 4 ∨ L = 5 ∨ L = 6 ∨ L = 7 ∨ L = 8 ∨ L = 9 ∨ L = 10 ∨ L = 11 := by omega
  have cb : ∀ k, k < nms L → xval 1 (L * 4 + k) ≤ nv l k ∧ nv l k ≤ hiB L k S := fun k hk => ⟨(hc k hk).1, (hc k hk).2.1⟩
  rcases this with e | e | e | e | e | e | e | e | e | e | e | e <;> subst e
  · have v0 : 2 ≤ nv l 0 ∧ nv l 0 ≤ 9 := cb 0 (by decide)
    exact sk_fu hS (Or.inl ⟨rfl, v0.1, v0.2⟩)
  · have v0 : 0 ≤ nv l 0 ∧ nv l 0 ≤ 8 := cb 0 (by decide)
    have v1 : 0 ≤ nv l 1 ∧ nv l 1 ≤ 8 := cb 1 (by decide)
    have v2 : 1 ≤ nv l 2 ∧ nv l 2 ≤ 30 := cb 2 (by decide)
    have v3 : 0 ≤ nv l 3 ∧ nv l 3 ≤ 99 := cb 3 (by decide)
    exact sk_addR hS (by unfold full at hfl; omega) v0 v1 (fun y => (hc 1 (by decide)).2.2 ⟨rfl, rfl, y.symm⟩) v2 v3
  · have v0 : 0 ≤ nv l 0 ∧ nv l 0 ≤ 8 := cb 0 (by decide)
    have v1 : 0 ≤ nv l 1 ∧ nv l 1 ≤ 9 := cb 1 (by decide)
    exact sk_addP hS (by unfold full at hfl; omega) v0 v1 (by decide)
  · have v0 : 0 ≤ nv l 0 ∧ nv l 0 ≤ 8 := cb 0 (by decide)
    have v1 : 0 ≤ nv l 1 ∧ nv l 1 ≤ 9 := cb 1 (by decide)
    exact sk_addP hS (by unfold full at hfl; omega) v0 v1 (by decide)
  · have v0 : 0 ≤ nv l 0 ∧ nv l 0 ≤ 8 := cb 0 (by decide)
    have v1 : 0 ≤ nv l 1 ∧ nv l 1 ≤ 9 := cb 1 (by decide)
    exact sk_addP hS (by unfold full at hfl; omega) v0 v1 (by decide)
  · have v0 : 0 ≤ nv l 0 ∧ nv l 0 ≤ S 2 - 1 := cb 0 (by decide)
    have v1 : 0 ≤ nv l 1 ∧ nv l 1 ≤ 8 := cb 1 (by decide)
    have v2 : 0 ≤ nv l 2 ∧ nv l 2 ≤ 359 := cb 2 (by decide)
    have v3 : 0 ≤ nv l 3 ∧ nv l 3 ≤ 100 := cb 3 (by decide)
    exact sk_addE hS (by unfold full at hfl; omega) (by omega) v1 v2 v3
  · have v0 : 0 ≤ nv l 0 ∧ nv l 0 ≤ S 2 - 1 := cb 0 (by decide)
    have v1 : 0 ≤ nv l 1 ∧ nv l 1 ≤ S 1 - 1 := cb 1 (by decide)
    exact sk_has hS (by omega) (by omega)
  · have v0 : 0 ≤ nv l 0 ∧ nv l 0 ≤ S 1 - 1 := cb 0 (by decide)
    have v1 : 0 ≤ nv l 1 ∧ nv l 1 ≤ 5 := cb 1 (by decide)
    have v2 : 0 ≤ nv l 2 ∧ nv l 2 ≤ 100 := cb 2 (by decide)
    exact sk_busy hS (by omega) (by omega) v2
  · exact sk_fu hS (Or.inr (Or.inl ⟨rfl, by decide, by decide⟩))
  · exact sk_fu hS (Or.inr (Or.inl ⟨rfl, by decide, by decide⟩))
  · have v0 : 0 ≤ nv l 0 ∧ nv l 0 ≤ 999 := cb 0 (by decide)
    exact sk_fu (sk_fu hS (Or.inr (Or.inl ⟨rfl, by decide, by decide⟩))) (Or.inr (Or.inr ⟨rfl, v0.1, v0.2⟩))
  · exact sk_fu hS (Or.inr (Or.inl ⟨rfl, by decide, by decide⟩))
theorem prs_cases {b : Nat → Int} {N of a : Int} {n : Nat} {f : Int × Int} {S : Nat → Int} (hof : of = 0 ∨ of = 1) : prs b N of (n + 1) a f S = (f, S) ∨ (∃ e, prs b N of (n + 1) a f S = ((1, e), S)) ∨ ∃ (L : Nat) (l : NL) (a' : Int), lkO of L ∧ prs b N of (n + 1) a f S = prs b N of n a' (if f.1 = 0 then chk L S (stt b N a) l else f) (if (if f.1 = 0 then chk L S (stt b N a) l else f).1 = 0 then tkl L S l else S) := by
  by_cases z : tks b N (stt b N a) = 0
  · exact Or.inl (prs_end z)
  · by_cases y : lk b N of (stt b N a) = -1
    · exact Or.inr (Or.inl ⟨_, prs_bad z y⟩)
    · obtain ⟨L, hL, hLO, _⟩ := lk_O hof y
      cases hr : rdn b N (nms L) (ten b N (stt b N a)) [] with
      | inl e => exact Or.inr (Or.inl ⟨e, prs_num z hL hr⟩)
      | inr p => exact Or.inr (Or.inr ⟨L, p.1, p.2, hLO, prs_go z hL hr⟩)
theorem prs_ne {b : Nat → Int} {N of : Int} (hof : of = 0 ∨ of = 1) : ∀ (n : Nat) (a : Int) (f : Int × Int) (S : Nat → Int), f.1 ≠ 0 → (prs b N of n a f S).1.1 ≠ 0
  | 0, _, _, _, h => h
  | n + 1, a, f, S, h => by
    rcases prs_cases (b := b) (N := N) (a := a) (n := n) (f := f) (S := S) hof with e | ⟨e', e⟩ | ⟨L, l, a', _, e⟩
    · rw [e]; exact h
    · rw [e]; show (1 : Int) ≠ 0; decide
    · rw [e, if_neg h, if_neg h]
      exact prs_ne hof n a' f S h
theorem sk_prs {b : Nat → Int} {N : Int} : ∀ (n : Nat) (a : Int) (f : Int × Int) (S : Nat → Int), SK S → (prs b N 0 n a f S).1.1 = 0 → SK (prs b N 0 n a f S).2
  | 0, _, _, _, h, _ => h
  | n + 1, a, f, S, h, hz => by
    rcases prs_cases (b := b) (N := N) (a := a) (n := n) (f := f) (S := S) (Or.inl rfl) with e | ⟨e', e⟩ | ⟨L, l, a', hLO, e⟩
    · rw [e]; exact h
    · rw [e] at hz; exact absurd hz (by show ¬ (1 : Int) = 0; decide)
    · rw [e] at hz ⊢
      by_cases z : f.1 = 0
      · rw [if_pos z] at hz ⊢
        by_cases y : (chk L S (stt b N a) l).1 = 0
        · rw [if_pos y] at hz ⊢
          obtain ⟨o1, o2, o3⟩ := chk_ok y
          refine sk_prs n a' _ _ (sk_tkl ?_ h o1 o2) hz
          rcases hLO with q | q
          · exact q.2
          · omega
        · rw [if_neg y] at hz ⊢
          exact absurd hz (prs_ne (Or.inl rfl) n a' _ _ y)
      · rw [if_neg z, if_neg z] at hz ⊢
        exact absurd hz (prs_ne (Or.inl rfl) n a' _ _ z)
def LPx (of : Int) (w : AW) (b : Nat → Int) (N : Int) (L : Nat) (S : Nat → Int) (s : Int) (f : Int × Int) (l : NL) : Prop :=
  ∃ a, RTr w b N ∧ TkA w b N a ∧ (0 ≤ a ∧ a ≤ N) ∧ FTS w (ufc L S l (fl0 L S s f) (nms L)) (stt b N a) ∧ l.length = nms L ∧ rdn b N (nms L) (ten b N s) [] = rdn b N 0 a l ∧ (of = 0 → RBt w) ∧ (of = 1 → RBm w) ∧ ((ufc L S l (fl0 L S s f) (nms L)).1 = 0 → RW w (tkl L S l) ∧ (of = 0 → HI w (tkl L S l)))
def INV (of : Int) (w : AW) (b : Nat → Int) (N : Int) (S : Nat → Int) (a : Int) (f : Int × Int) : Prop := RTr w b N ∧ TkA w b N a ∧ (0 ≤ a ∧ a ≤ N) ∧ FTS w f (stt b N a) ∧ (of = 0 → RBt w) ∧ (of = 1 → RBm w) ∧ (f.1 = 0 → RW w S ∧ (of = 0 → HI w S))
theorem tt_line {F : Nat} {of N a : Int} {b : Nat → Int} {S : Nat → Int} {f : Int × Int} {w : AW} {P : Int → AW → Prop} (hF : FB F) (hB : BB b N) (hof : of = 0 ∨ of = 1) (hI : INV of w b N S a f) (h17 : w.1 0 17 = 1) (hn : lk b N of (stt b N a) = -1 → ∀ w', Fr Slo w w' → w'.1 0 14 = stt b N a → P 0 w') (h0 : ∀ L : Nat, lk b N of (stt b N a) = L → ∀ w', Fr Slo w w' → rdn b N (nms L) (ten b N (stt b N a)) [] = .inl (w'.1 0 14) → P 0 w') (h1 : ∀ L : Nat, lk b N of (stt b N a) = L → ∀ w' l, Fr Slo w w' → LPx of w' b N L S (stt b N a) f l → P 1 w') : (w32 of = 0 → CI (m_X9_townLine F [vR 0, vI (stt b N a)] w) P) ∧ (¬ w32 of = 0 → CI (m_X9_moveLine F [vR 0, vI (stt b N a)] w) P) := by
  obtain ⟨hR, hT, ha, hf, hb0, hb1, hw⟩ := hI
  have hst := stt_b (b := b) (N := N) ha.2
  rcases hof with rfl | rfl
  · refine ifp (by decide) (ci_townLine hF hB ⟨hR, by omega, hf, hb0 rfl, fun z => ⟨(hw z).1, (hw z).2 rfl⟩, h17⟩ hT rfl hn h0 (fun L hl _ w' l f' h' => h1 L hl w' l f' ?_))
    obtain ⟨a', x1, x2, x3, x4, x5, x6, x7, x8⟩ := h'
    exact ⟨a', x1, x2, x3, x4, x5, x6, fun _ => x7, fun z => by omega, fun z => ⟨(x8 z).1, fun _ => (x8 z).2⟩⟩
  · refine ifn (by decide) (ci_moveLine hF hB ⟨hR, by omega, hf, hb1 rfl, fun z => (hw z).1, h17⟩ hT rfl hn h0 (fun L hl _ w' l f' h' => h1 L hl w' l f' ?_))
    obtain ⟨a', x1, x2, x3, x4, x5, x6, x7, x8⟩ := h'
    exact ⟨a', x1, x2, x3, x4, x5, x6, fun z => by omega, fun _ => x7, fun z => ⟨x8 z, fun y => by omega⟩⟩
abbrev Srx (j k : Nat) : Prop := j = 8 ∨ j = 9 ∨ (j = 0 ∧ 8 ≤ k ∧ k ≤ 20 ∧ k ≠ 9) ∨ (j = 3 ∧ k = 0) ∨ (j = 4 ∧ k = 0)
theorem slo_srx {w w' : AW} (h : Fr Slo w w') : Fr Srx w w' := h.wk (by intro j k; simp only [Slo, Srx]; omega)
noncomputable def pTx (of : Int) (b : Nat → Int) (N : Int) : (Int × Int) × (Nat → Int) := if of = 0 then pTown b N else pDay b N
def S0x (of : Int) : Nat → Int := if of = 0 then S0 else fun _ => 0
/-- the end of the reading -/
theorem tt_rend {F : Nat} {of fn : Int} {v : AV} {w w0 : AW} {x y : Int} {P : Int → AW → Prop} (ff : Fr Slo w0 w) (hfn : (fn = 0 ∧ x = 1 ∧ y = w.1 0 14) ∨ (fn = 1 ∧ x = w.1 0 15 ∧ (0 ≤ x ∧ x ≤ 4) ∧ y = if 0 < x then w.1 0 16 else -1)) (h : ∀ w', Fr Srx w0 w' → (∀ k, w'.1 8 k = w.1 8 k) → w'.1 3 0 = x → w'.1 4 0 = y → (x = 0 → P 1 w') ∧ (x ≠ 0 → P 0 w')) : TT (k_X9_readText_162 F [vR 0, vI of, vI fn, v] [] w) (qq 2 (fun r w => ∃ x, r = some (vI x) ∧ P x w)) := by
  have last : ∀ (w1 : AW), w1 = wI w 3 0 x → ∀ Y, Y = y → (0 ≤ x ∧ x ≤ 4) → TT (k_X9_readText_211 F [vR 0, vI of, vI fn, v] [vI Y, vI 0, vR 4] w1) (qq 2 (fun r w => ∃ x, r = some (vI x) ∧ P x w)) := by
    intro w1 e1 Y hY hx
    refine wp_X9_readText_211 F of fn v Y 0 w1 _ ⟨by decide, fun w2 e2 => ?_⟩
    have f2 : Fr Srx w0 w2 := by rw [e2, e1]; exact ((slo_srx ff).wI _ (by simp [Srx])).wI _ (by simp [Srx])
    have g3 : w2.1 3 0 = x := by rw [e2, wI_cell _ _ _ _ (by decide), e1]; exact wI_same _ _ _ _
    have g4 : w2.1 4 0 = y := by rw [e2, ← hY]; exact wI_same _ _ _ _
    have g8 : ∀ k, w2.1 8 k = w.1 8 k := fun k => by rw [e2, wI_cell _ _ _ _ (by decide), e1, wI_cell _ _ _ _ (by decide)]
    have hh := h w2 f2 g8 g3 g4
    rw [g3, w_id (x := x) (by omega) (by omega)]
    exact ⟨fun z => q_z1 (hh.1 z), fun z => q_z0 (hh.2 z)⟩
  refine wp_X9_readText_162 F of fn v w _ ?_
  rcases hfn with ⟨rfl, hx, hy⟩ | ⟨rfl, hx, hxb, hy⟩
  · refine ifp (by decide) (wp_X9_readText_179 F of 0 v 1 0 w _ ⟨by decide, fun w1 e1 => ifp (by decide) ?_⟩)
    refine last w1 (by rw [e1, hx]; rfl) _ ?_ (by omega)
    rw [e1, wI_cell _ _ _ _ (by decide)]; exact hy.symm
  · refine ifn (by decide) (wp_X9_readText_179 F of 1 v (w.1 0 15) 0 w _ ⟨by decide, fun w1 e1 => ifn (by decide) ?_⟩)
    have g15 : w1.1 0 15 = x := by rw [e1, wI_cell _ _ _ _ (by decide)]; exact hx.symm
    rw [g15, w_id (x := x) (by omega) (by omega)]
    refine ⟨fun z => last w1 (by rw [e1, hx]; rfl) _ ?_ hxb, fun z => last w1 (by rw [e1, hx]; rfl) _ ?_ hxb⟩
    · rw [if_pos z] at hy
      rw [e1, wI_cell _ _ _ _ (by decide)]; exact hy.symm
    · rw [if_neg z] at hy
      exact hy.symm
theorem ci_readText {F : Nat} {of N : Int} {b : Nat → Int} {w : AW} {P : Int → AW → Prop} (hF : FB F) (hB : BB b N) (hR : RTr w b N) (hof : of = 0 ∨ of = 1) (h : ∀ w', Fr Srx w w' → w'.1 3 0 = (pTx of b N).1.1 → w'.1 4 0 = (if (pTx of b N).1.1 = 0 then -1 else (pTx of b N).1.2) → ((pTx of b N).1.1 = 0 → RW w' (pTx of b N).2 → P 1 w') ∧ ((pTx of b N).1.1 ≠ 0 → P 0 w')) : CI (m_X9_readText F [vR 0, vI of] w) P := by
  have hN := hB.2
  have hofb : 0 ≤ of ∧ of ≤ 1 := by rcases hof with h | h <;> omega
  refine wp_X9_readText F of w _ ?_
  refine tt_for (K := k_X9_readText_2 F) 232 (fun i w' lo => Fr (fun j _ => j = 8) w w' ∧ lo = [vR 0, vI of, vI i, vU] ∧ 0 ≤ i ∧ i ≤ 232 ∧ ∀ k : Nat, (k : Int) < i → w'.1 8 k = 0) ?_ F 0 _ w (by omega) ⟨Fr.rf, rfl, by omega, by omega, fun k hk => by omega⟩
  rintro m i lo w1 ⟨f1, rfl, hi0, hi1, hz⟩ hk
  rw [ks_X9_readText_2]
  refine wp_X9_readText_2 F _ of i w1 _ ?_
  rw [w_id (x := i) (by omega) (by omega), w_id (x := of) (by omega) (by omega)]
  refine ⟨fun q => ⟨⟨by omega, by omega⟩, fun w2 e2 => hk _ _ ⟨by rw [e2]; exact f1.wI _ rfl, rfl, by omega, by omega, fun k hk2 => ?_⟩ q⟩, fun q => ?_⟩
  · rw [e2, wI_at]
    by_cases z : k = i.toNat
    · rw [if_pos ⟨rfl, z⟩]
    · rw [if_neg (fun y => z y.2)]; exact hz k (by omega)
  have begin : ∀ v0 : Int, v0 = S0x of 0 → TT (k_X9_readText_36 F [vR 0, vI of, vI i, vU] [vI v0, vI 0, vR 8] w1) (qq 2 (fun r w => ∃ x, r = some (vI x) ∧ P x w)) := by
    intro v0 hv0
    refine wp_X9_readText_36 F of i v0 0 w1 _ ⟨by decide, fun w2 e2 w3 e3 w4 e4 w5 e5 => ?_⟩
    have f5 : Fr Slo w w5 := by
      rw [e5, e4, e3, e2]
      exact ((((e8_slo f1).wI _ (by simp [Slo])).wI _ (by simp [Slo])).wI _ (by simp [Slo])).wI _ (by simp [Slo])
    have r5 : RW w5 (S0x of) := fun k hk => by
      rw [e5, wI_cell _ _ _ _ (by decide), e4, wI_cell _ _ _ _ (by decide), e3, wI_cell _ _ _ _ (by decide), e2, wI_at]
      by_cases z : k = 0
      · rw [if_pos ⟨rfl, z⟩, hv0, z]
      · rw [if_neg (fun y => z y.2), hz k (by omega)]
        unfold S0x
        split
        · exact (if_neg z).symm
        · rfl
    have g20 : w5.1 0 20 = -1 := by rw [e5, wI_idx _ _ _ _ (by decide), e4, wI_idx _ _ _ _ (by decide), e3, wI_same]
    have g8 : w5.1 0 8 = 0 := by rw [e5, wI_idx _ _ _ _ (by decide), e4, wI_same]
    have g15 : w5.1 0 15 = 0 := by rw [e5, wI_same]
    have hR5 : RTr w5 b N := hR.fr f5 (by intro k; simp [Slo]) (by simp [Slo])
    clear e2 e3 e4 e5
    refine cv_tokenA hF hB hR5 g8 (by omega) (fun w6 f6 hR6 hT6 => ?_)
    have f6' : Fr Slo w w6 := f5.tr (f6.wk (by intro j k; simp only [Str, Slo]; omega))
    have c8 : ∀ k, w6.1 8 k = w5.1 8 k := fun k => f6.I 8 k (by simp [Str])
    have c20 : w6.1 0 20 = -1 := by rw [f6.I 0 20 (by simp [Str])]; exact g20
    have s0 := r5 0 (by decide)
    have s1 := r5 1 (by decide)
    have s2 := r5 2 (by decide)
    have s3 := r5 3 (by decide)
    have hINV : INV of w6 b N (S0x of) 0 (0, -1) := by
      refine ⟨hR6, hT6, by omega, ⟨by rw [f6.I 0 15 (by simp [Str])]; exact g15, fun z => absurd rfl z, ⟨by show (0 : Int) ≤ 0; decide, by show (0 : Int) ≤ 4; decide⟩, fun _ => rfl⟩, fun z => ?_, fun z => ?_, fun _ => ⟨r5.e c8, fun z x hx => ?_⟩⟩
      · have e1 : S0x of 1 = 0 ∧ S0x of 2 = 0 ∧ S0x of 3 = 0 := by unfold S0x; rw [if_pos z]; exact ⟨rfl, rfl, rfl⟩
        refine ⟨?_, ?_, ?_, ?_⟩
        · rw [c8, s1, e1.1]; omega
        · rw [c8, s2, e1.2.1]; omega
        · rw [c8, s3, e1.2.2]; omega
        · rw [c20]; omega
      · unfold RBm
        have e0 : S0x of 0 = 0 := by unfold S0x; rw [if_neg (by omega)]
        rw [c8, s0, e0]; omega
      · rw [c20]
        refine ⟨fun _ => ?_, fun _ => by omega⟩
        unfold S0x
        rw [if_pos z]
        refine ⟨fun r r0 r1 => ?_, fun p p0 p1 => ?_, fun e e0 e1 => ?_⟩
        · have : r < 0 := r1; omega
        · have : p < 0 := p1; omega
        · have : e < 0 := e1; omega
    generalize hres : prs b N of (N + 1).toNat 0 (0, -1) (S0x of) = res
    have hpT : ((of = 0 ∧ res.1.1 = 0 ∧ ¬ FT res.2 (res.2 0)) → pTx of b N = ((4, N), res.2)) ∧ (¬ (of = 0 ∧ res.1.1 = 0 ∧ ¬ FT res.2 (res.2 0)) → pTx of b N = res) := by
      unfold pTx
      by_cases z : of = 0
      · rw [if_pos z]
        have e : prs b N 0 (N + 1).toNat 0 (0, -1) S0 = res := by rw [← hres, z]; rfl
        unfold pTown
        rw [e]
        exact ⟨fun y => by rw [if_pos y.2], fun y => by rw [if_neg (fun q => y ⟨z, q⟩)]⟩
      · rw [if_neg z]
        have z1 : of = 1 := by omega
        unfold pDay
        exact ⟨fun y => absurd y.1 z, fun _ => by rw [← hres, z1]; rfl⟩
    have hsk : of = 0 → res.1.1 = 0 → SK res.2 := fun z y => by
      have e : prs b N 0 (N + 1).toNat 0 (0, -1) S0 = res := by rw [← hres, z]; rfl
      rw [← e] at y ⊢
      exact sk_prs _ _ _ _ sk_S0 y
    refine tt_for (K := k_X9_readText_58 F) (N + 2) (fun i w' lo => Fr Slo w w' ∧ 0 ≤ i ∧ i ≤ N + 1 ∧ ∃ (fn : Int) (v : AV), lo = [vR 0, vI of, vI fn, v] ∧ ((fn = 0 ∧ ∃ S, res = ((1, w'.1 0 14), S)) ∨ (fn = 1 ∧ ∃ (a : Int) (f : Int × Int) (S : Nat → Int) (n : Nat), INV of w' b N S a f ∧ i ≤ a ∧ (N + 1 - a ≤ n) ∧ prs b N of n a f S = res))) ?_ F 0 _ w6 (by omega) ⟨f6', by omega, by omega, 1, vU, rfl, Or.inr ⟨rfl, 0, (0, -1), S0x of, (N + 1).toNat, hINV, by omega, by omega, hres⟩⟩
    rintro m i lo w7 ⟨f7, hi0, hi1, fn, v, rfl, hst⟩ hk
    rw [ks_X9_readText_58]
    refine wp_X9_readText_58 F _ of fn v w7 _ ?_
    rcases hst with ⟨rfl, S, hS⟩ | ⟨rfl, a, f, S, n, hI, hia, hn, hprs⟩
    · refine ifp (by decide) (wp_X9_readText_125 F of 0 v w7 _ (ifp (by decide) ?_))
      have e : pTx of b N = res := hpT.2 (fun z => by have z2 := z.2.1; rw [hS] at z2; exact absurd z2 (by show ¬ (1 : Int) = 0; decide))
      rw [e] at h
      have e11 : res.1.1 = 1 := by rw [hS]
      have e12 : res.1.2 = w7.1 0 14 := by rw [hS]
      refine tt_rend (x := 1) (y := w7.1 0 14) f7 (Or.inl ⟨rfl, rfl, rfl⟩) (fun w8 f8 g8 g3 g4 => ⟨fun z => absurd z (by decide), fun _ => ?_⟩)
      exact (h w8 f8 (by rw [g3, e11]) (by rw [g4, if_neg (by omega), e12])).2 (by omega)
    · refine ifn (by decide) ?_
      obtain ⟨hR7, hT7, ha7, hf7, hb0, hb1, hw7⟩ := id hI
      have hst7 := stt_b (b := b) (N := N) ha7.2
      have htr := tks_r (b := b) (N := N) (s := stt b N a)
      have hrb := rtk_b htr
      have t11 := hT7.2.1
      have t10 := hT7.1
      obtain ⟨f15, f16, fbb, f00⟩ := id hf7
      obtain ⟨n', rfl⟩ : ∃ n', n = n' + 1 := ⟨n - 1, by omega⟩
      rw [t11, w_id (x := rtk (tks b N (stt b N a))) (by omega) (by omega)]
      refine ⟨fun q => ?_, fun q => ?_⟩
      · -- the end
        have q0 := hrb.2.2.1.mp q
        rw [prs_end q0] at hprs
        have hN' : stt b N a = N := by
          by_cases y : stt b N a < N
          · exfalso
            by_cases l : ltr (b (stt b N a).toNat)
            · rw [(tks_1 y l).1] at q0; omega
            · by_cases d : dgt (b (stt b N a).toNat)
              · rw [(tks_2 y l d).1] at q0; split at q0 <;> omega
              · rw [(tks_3 y l d).1] at q0; split at q0 <;> omega
          · omega
        have e1 : res.1 = f := by rw [← hprs]
        have e2 : res.2 = S := by rw [← hprs]
        refine wp_X9_readText_125 F of 1 v w7 _ (ifn (by decide) ?_)
        have plain : ¬ (of = 0 ∧ res.1.1 = 0 ∧ ¬ FT res.2 (res.2 0)) → TT (k_X9_readText_162 F [vR 0, vI of, vI 1, v] [] w7) (qq 2 (fun r w => ∃ x, r = some (vI x) ∧ P x w)) := by
          intro hno
          rw [hpT.2 hno, e1, e2] at h
          refine tt_rend (x := f.1) (y := if 0 < f.1 then w7.1 0 16 else -1) f7 (Or.inr ⟨rfl, f15.symm, fbb, rfl⟩) (fun w8 f8 g8 g3 g4 => ?_)
          have hh := h w8 f8 g3 (by
            rw [g4]
            by_cases z : f.1 = 0
            · rw [if_neg (by omega), if_pos z]
            · rw [if_pos (by omega), if_neg z, (f16 z).1])
          exact ⟨fun z => hh.1 z ((hw7 z).1.e g8), hh.2⟩
        rw [w_id (x := of) (by omega) (by omega), f15, w_id (x := f.1) (by omega) (by omega)]
        refine ⟨fun z => ⟨fun z1 => ?_, fun z1 => plain (fun y => by rw [e1] at y; exact z1 y.2.1)⟩, fun z => plain (fun y => z y.1)⟩
        have hRB := hb0 z
        obtain ⟨hRW, hHI⟩ := hw7 z1
        have hHI := hHI z
        have s0' := hRW 0 (by decide)
        obtain ⟨rb1, rb2, rb3, rb20⟩ := hRB
        have hsS : SK S := by rw [← e2]; exact hsk z (by rw [e1]; exact z1)
        have sb := hsS.1
        rw [s0', w_id (x := S 0) (by omega) (by omega), w_id (x := w7.1 0 20) (by omega) (by omega)]
        have hft := hHI (S 0) (by omega)
        refine ⟨fun y => plain (fun q => q.2.2 (by rw [e2]; exact hft.mp y)), fun y => ?_⟩
        have hyes : of = 0 ∧ res.1.1 = 0 ∧ ¬ FT res.2 (res.2 0) := ⟨z, by rw [e1]; exact z1, fun q => y (hft.mpr (by rw [e2] at q; exact q))⟩
        rw [hpT.1 hyes] at h
        rw [t10]
        refine cv_later (c := N + 1) hf7 (by omega) (by omega) (by omega) (fun w8 f8 hf8 => ?_)
        rw [upf_0 z1] at hf8
        refine tt_rend (x := 4) (y := N) (f7.tr (f8.wk (by intro j k; simp only [Sla, Slo]; omega))) (Or.inr ⟨rfl, hf8.1.symm, by omega, ?_⟩) (fun w9 f9 g9 g3 g4 => ⟨fun q => absurd q (by decide), fun _ => (h w9 f9 g3 (by rw [g4]; rfl)).2 (by show (4 : Int) ≠ 0; decide)⟩)
        rw [if_pos (by decide), (hf8.2.1 (by show (4 : Int) ≠ 0; decide)).1]
        exact hN'.symm
      · have qn : tks b N (stt b N a) ≠ 0 := fun y => q (hrb.2.2.1.mpr y)
        intro x3 hx3 w8 e8
        rw [t10] at hx3
        subst hx3
        have f8 : Fr (fun j k => j = 0 ∧ k = 17) w7 w8 := by rw [e8]; exact Fr.rf.wI _ (by omega)
        have hI8 : INV of w8 b N S a f := ⟨hR7.fr f8 (by intro k; omega) (by omega), hT7.fr f8 (by intro k hk; omega), ha7, hf7.fr f8 (by omega) (by omega), fun z => (hb0 z).e (fun k => f8.I 8 k (by omega)) (f8.I 0 20 (by omega)), fun z => by unfold RBm; rw [f8.I 8 0 (by omega)]; exact hb1 z, fun z => ⟨(hw7 z).1.e (fun k => f8.I 8 k (by omega)), fun y => ((hw7 z).2 y).e (f8.I 0 20 (by omega))⟩⟩
        have f8' : Fr Slo w w8 := f7.tr (f8.wk (by intro j k; simp only [Slo]; omega))
        have bad : ∀ (w9 : AW) (v' : AV), Fr Slo w w9 → (∃ S', res = ((1, w9.1 0 14), S')) → TT (k_X9_readText_114 F (k_X9_readText_58 F m) [vR 0, vI of, vI 0, vI (stt b N a)] [] w9) (qq 2 (fun r w => ∃ x, r = some (vI x) ∧ P x w)) := by
          intro w9 v' f9 hr
          exact wp_X9_readText_114 F _ of 0 (stt b N a) w9 _ (ifp (by decide) (wp_X9_readText_122 F _ of 0 (stt b N a) w9 _ (hk _ _ ⟨f9, by omega, by omega, 0, vI (stt b N a), rfl, Or.inl ⟨rfl, hr⟩⟩ (by omega))))
        refine tt_line hF hB hof hI8 (by rw [e8, wI_same]) (fun hl w9 f9 g14 => ?_) (fun L hl w9 f9 hrd => ?_) (fun L hl w9 l f9 hLP => ?_)
        · refine wp_X9_readText_96 F _ of 1 (stt b N a) 0 w9 _ (ifp (by decide) (bad w9 vU (f8'.tr f9) ⟨S, ?_⟩))
          rw [← hprs, prs_bad qn hl, g14]
        · refine wp_X9_readText_96 F _ of 1 (stt b N a) 0 w9 _ (ifp (by decide) (bad w9 vU (f8'.tr f9) ⟨S, ?_⟩))
          rw [← hprs, prs_num qn hl hrd]
        · obtain ⟨a', hR9, hT9, ha9, hf9, hlen, hrd, hb09, hb19, hw9⟩ := hLP
          have hst9 := stt_b (b := b) (N := N) ha9.2
          have htr9 := tks_r (b := b) (N := N) (s := stt b N a')
          have hrb9 := rtk_b htr9
          have hle9 : ten b N (stt b N a) ≤ a' ∨ True := Or.inr trivial
          have hte := ten_b (b := b) (N := N) (s := stt b N a) hst7.2 qn
          rw [ufc_chk f00] at hf9 hw9
          refine wp_X9_readText_96 F _ of 1 (stt b N a) 1 w9 _ (ifn (by decide) ?_)
          rw [hT9.2.1, w_id (x := rtk (tks b N (stt b N a'))) (by omega) (by omega)]
          refine ⟨fun y => ?_, fun y => wp_X9_stops F w9 _ (fun w10 e10 => q_z0 ?_)⟩
          · have y3 := hrb9.2.2.2.2.2.mp y
            have hrd' : rdn b N (nms L) (ten b N (stt b N a)) [] = .inr (l, ten b N (stt b N a')) := by
              rw [hrd]
              show (if tks b N (stt b N a') = 3 then _ else _) = _
              rw [if_pos y3]
            have hrr := rdn_r _ _ _ _ _ hte.2 hrd'
            have hte9 := ten_b (b := b) (N := N) (s := stt b N a') hst9.2 (by omega)
            have hstn := stt_b (b := b) (N := N) (a := ten b N (stt b N a')) hte9.2
            rw [prs_go qn hl hrd'] at hprs
            refine wp_X9_readText_114 F _ of 1 (stt b N a) w9 _ (ifn (by decide) (cv_tokenA hF hB hR9 (hT9.2.2.1 (Or.inr (Or.inr y3))) (by omega) (fun w10 f10 hR10 hT10 => wp_X9_readText_122 F _ of 1 (stt b N a) w10 _ (hk _ _ ⟨(f8'.tr f9).tr (f10.wk (by intro j k; simp only [Str, Slo]; omega)), by omega, by omega, 1, vI (stt b N a), rfl, Or.inr ⟨rfl, ten b N (stt b N a'), _, _, n', ⟨hR10, hT10, by omega, (hf9.mono (by omega)).fr f10 (by simp [Str]) (by simp [Str]), fun z => (hb09 z).e (fun k => f10.I 8 k (by simp [Str])) (f10.I 0 20 (by simp [Str])), fun z => by unfold RBm; rw [f10.I 8 0 (by simp [Str])]; exact hb19 z, fun z => ?_⟩, by omega, by omega, hprs⟩⟩ (by omega)))))
            rw [if_pos z]
            exact ⟨(hw9 z).1.e (fun k => f10.I 8 k (by simp [Str])), fun zz => ((hw9 z).2 zz).e (f10.I 0 20 (by simp [Str]))⟩
          · refine bad w10 vU (by rw [e10]; exact (f8'.tr f9).wI _ (by simp [Slo])) ⟨S, ?_⟩
            have hrd' : rdn b N (nms L) (ten b N (stt b N a)) [] = .inl (stt b N a') := by
              rw [hrd]
              show (if tks b N (stt b N a') = 3 then _ else _) = _
              rw [if_neg (fun z => y (hrb9.2.2.2.2.2.mpr z))]
            rw [← hprs, prs_num qn hl hrd', e10, wI_same, hT9.1]
  refine ⟨fun z => begin 4 ?_, fun z => begin 0 ?_⟩
  · unfold S0x; rw [if_pos z]; rfl
  · unfold S0x; rw [if_neg z]
