/-! TEXTS: the class reads a text -/
abbrev Srl (j k : Nat) : Prop := (j = 200 ∧ (k = 2 ∨ k = 3 ∨ (6 ≤ k ∧ k ≤ 10))) ∨ (201 ≤ j ∧ j ≤ 220)
theorem prs_end {b : Nat → Int} {N of a : Int} {n : Nat} {f : Int × Int} {S : Nat → Int} (h : tks b N (stt b N a) = 0) : prs b N of (n + 1) a f S = (f, S) := by
  show (if tks b N (stt b N a) = 0 then _ else _) = _
  rw [if_pos h]
theorem prs_bad {b : Nat → Int} {N of a : Int} {n : Nat} {f : Int × Int} {S : Nat → Int} (h : tks b N (stt b N a) ≠ 0) (h2 : lk b N of (stt b N a) = -1) : prs b N of (n + 1) a f S = ((1, stt b N a), S) := by
  show (if tks b N (stt b N a) = 0 then _ else _) = _
  rw [if_neg h, if_pos h2]
theorem prs_num {b : Nat → Int} {N of a e : Int} {n L : Nat} {f : Int × Int} {S : Nat → Int} (h : tks b N (stt b N a) ≠ 0) (h2 : lk b N of (stt b N a) = L) (h3 : rdn b N (nms L) (ten b N (stt b N a)) [] = .inl e) : prs b N of (n + 1) a f S = ((1, e), S) := by
  show (if tks b N (stt b N a) = 0 then _ else _) = _
  rw [if_neg h, h2, if_neg (by omega), Int.toNat_natCast, h3]
  rfl
theorem prs_go {b : Nat → Int} {N of a a' : Int} {n L : Nat} {f : Int × Int} {S : Nat → Int} {l : NL} (h : tks b N (stt b N a) ≠ 0) (h2 : lk b N of (stt b N a) = L) (h3 : rdn b N (nms L) (ten b N (stt b N a)) [] = .inr (l, a')) : prs b N of (n + 1) a f S = prs b N of n a' (if f.1 = 0 then chk L S (stt b N a) l else f) (if (if f.1 = 0 then chk L S (stt b N a) l else f).1 = 0 then tkl L S l else S) := by
  show (if tks b N (stt b N a) = 0 then _ else _) = _
  rw [if_neg h, h2, if_neg (by omega), Int.toNat_natCast, h3]
  rfl
theorem ckl_b {L : Nat} {S : Nat → Int} {l : NL} : ∀ n i : Nat, 0 ≤ (ckl L S l n i).1 ∧ (ckl L S l n i).1 ≤ 4
  | 0, i => ⟨by show (0 : Int) ≤ 0; decide, by show (0 : Int) ≤ 4; decide⟩
  | n + 1, i => by
    by_cases z : can L i S l
    · rw [cks_y z]; exact ckl_b n (i + 1)
    · rw [cks_n z]; exact ⟨by show (0 : Int) ≤ 2; decide, by show (2 : Int) ≤ 4; decide⟩
theorem chk_b {L : Nat} {S : Nat → Int} {s : Int} {l : NL} : 0 ≤ (chk L S s l).1 ∧ (chk L S s l).1 ≤ 4 := by
  unfold chk
  by_cases z : full L S
  · rw [if_pos z]; exact ⟨by show (0 : Int) ≤ 3; decide, by show (3 : Int) ≤ 4; decide⟩
  · rw [if_neg z]; exact ckl_b _ _
theorem lk_O {b : Nat → Int} {N of s : Int} (hof : of = 0 ∨ of = 1) (h : lk b N of s ≠ -1) : ∃ L : Nat, lk b N of s = L ∧ lkO of L ∧ tks b N s = 1 := by
  rcases lk_r (b := b) (N := N) (s := s) hof with h' | ⟨h1, h2, h3⟩
  · exact absurd h' h
  · refine ⟨(lk b N of s).toNat, ?_, ?_, h1⟩
    · rcases hof with o | o
      · rw [if_pos o] at h2; omega
      · rw [if_neg (by omega)] at h2; omega
    · rcases hof with o | o
      · rw [if_pos o] at h2 h3; exact Or.inl ⟨o, by omega⟩
      · rw [if_neg (by omega)] at h2 h3; exact Or.inr ⟨o, by omega, by omega⟩
theorem cv_readLines {F : Nat} {of N : Int} {b : Nat → Int} {w : AW} {S : Nat → Int} {P : AW → Prop} (hF : FB F) (hB : BB b N) (hR : RT w b N) (hof : of = 0 ∨ of = 1) (hX : CX of w S) (h6 : w.1 200 6 = 0) (h2 : w.1 200 2 = 0) (h3 : w.1 200 3 = -1) (hp : ∀ w', Fr Srl w w' → w'.1 200 2 = (prs b N of (N + 1).toNat 0 (0, -1) S).1.1 → w'.1 200 3 = (prs b N of (N + 1).toNat 0 (0, -1) S).1.2 → (0 ≤ (prs b N of (N + 1).toNat 0 (0, -1) S).1.1 ∧ (prs b N of (N + 1).toNat 0 (0, -1) S).1.1 ≤ 4) → ((prs b N of (N + 1).toNat 0 (0, -1) S).1.1 = 0 → (prs b N of (N + 1).toNat 0 (0, -1) S).1.2 = -1 ∧ CX of w' (prs b N of (N + 1).toNat 0 (0, -1) S).2) → P w') : CV (m_X5_readLines F [vR 200, vI (if of = 0 then 0 else 12), vI (if of = 0 then 11 else 13)] w) P := by
  have hb := hB.2
  generalize hres : prs b N of (N + 1).toNat 0 (0, -1) S = res at hp
  generalize hx1 : (if of = 0 then (0 : Int) else 12) = x1
  generalize hx2 : (if of = 0 then (11 : Int) else 13) = x2
  refine wp_X5_readLines F x1 x2 w _ ?_
  refine tt_for (K := k_X5_readLines_2 F) (N + 1) (fun i w' lo => Fr Srl w w' ∧ 0 ≤ i ∧ i ≤ N + 1 ∧ ∃ (a : Int) (f : Int × Int) (S' : Nat → Int) (v : AV), lo = [vR 200, vI x1, vI x2, vI i, v] ∧ w'.1 200 6 = a ∧ (0 ≤ a ∧ a ≤ N) ∧ w'.1 200 2 = f.1 ∧ w'.1 200 3 = f.2 ∧ (0 ≤ f.1 ∧ f.1 ≤ 4) ∧ (f.1 = 0 → f.2 = -1 ∧ CX of w' S') ∧ prs b N of (N + 1 - i).toNat a f S' = res) ?_ F 0 _ w (by omega) ⟨Fr.rf, by omega, by omega, 0, (0, -1), S, vU, rfl, h6, by omega, h2, h3, ⟨by show (0 : Int) ≤ 0; decide, by show (0 : Int) ≤ 4; decide⟩, fun _ => ⟨rfl, hX⟩, by rw [Int.sub_zero]; exact hres⟩
  rintro m i lo w2 ⟨f2, hi0, hi1, a, f, S', v, rfl, g6, ha, g2, g3, fb, hcx, hpr⟩ hk
  have hR2 : RT w2 b N := hR.fr f2 (by intro k; simp only [Srl]; omega) (by simp only [Srl]; omega)
  have done : ∀ w3, Fr Srl w w3 → w3.1 200 2 = res.1.1 → w3.1 200 3 = res.1.2 → (0 ≤ res.1.1 ∧ res.1.1 ≤ 4) → (res.1.1 = 0 → res.1.2 = -1 ∧ CX of w3 res.2) → qq 0 (fun r w => r = none ∧ P w) none w3 := fun w3 t1 t2 t3 t4 t5 => q_v (hp w3 t1 t2 t3 t4 t5)
  rw [ks_X5_readLines_2]
  refine wp_X5_readLines_2 F _ x1 x2 i v w2 _ ?_
  rw [hR2.2.2, w_id (x := N) (by omega) (by omega), w_id (x := i) (by omega) (by omega)]
  refine ⟨fun q => ?_, fun q => ?_⟩
  · rw [show (N + 1 - i).toNat = 0 from by omega] at hpr
    have e : (f, S') = res := hpr
    subst e
    exact done w2 f2 g2 g3 fb hcx
  · have en : (N + 1 - i).toNat = (N + 1 - (i + 1)).toNat + 1 := by omega
    rw [en] at hpr
    refine cv_next hF hB hR2 g6 ha (fun w3 f3 t8 t7 t6 t9 => ?_)
    have f3' : Fr Srl w w3 := f2.tr (f3.wk (by intro j k; simp only [Stk, Srl]; omega))
    have htr := tks_r (b := b) (N := N) (s := stt b N a)
    have hst := stt_b (b := b) (N := N) ha.2
    have hR3 : RT w3 b N := hR.fr f3' (by intro k; simp only [Srl]; omega) (by simp only [Srl]; omega)
    have u2 : w3.1 200 2 = f.1 := by rw [f3.I 200 2 (by simp [Stk])]; exact g2
    have u3 : w3.1 200 3 = f.2 := by rw [f3.I 200 3 (by simp [Stk])]; exact g3
    have hcx3 : f.1 = 0 → f.2 = -1 ∧ CX of w3 S' := fun z => ⟨(hcx z).1, (hcx z).2.fr f3 (by intro a k h1 h2; simp only [Stk]; omega)⟩
    rw [t7, w_id (x := tks b N (stt b N a)) (by omega) (by omega)]
    refine ⟨fun q2 => ?_, fun q2 => ?_⟩
    · rw [prs_end q2] at hpr
      subst hpr
      exact done w3 f3' u2 u3 fb hcx3
    · have bad : ∀ (e lv : Int) (w4 : AW), ((1, e), S') = res → Fr Srl w w4 → w4.1 200 8 = e → TT (k_X5_readLines_45 F [vR 200, vI x1, vI x2, vI i, vI lv] [] w4) (qq 0 (fun r w => r = none ∧ P w)) := by
        intro e lv w4 he f4 h8
        subst he
        refine wp_X5_readLines_45 F x1 x2 i lv w4 _ ?_
        rw [h8]
        exact cv_putFault (fun w5 f5 s2 s3 => done w5 (f4.tr (f5.wk (by intro j k; simp only [Srl]; omega))) s2 s3 ⟨by show (0 : Int) ≤ 1; decide, by show (1 : Int) ≤ 4; decide⟩ (fun z => absurd z (by show ¬ (1 : Int) = 0; decide)))
      rw [← hx1, ← hx2]
      refine ci_lineOfWord (a := a) hF hB hR3 hof t8 t7 (fun z => t6 (Or.inl z)) (by omega) (fun w4 f4 s10 => ?_)
      rw [hx1, hx2]
      have f4' : Fr Srl w w4 := f3'.tr (f4.wk (by intro j k; simp only [Srl]; omega))
      have hR4 : RT w4 b N := hR.fr f4' (by intro k; simp only [Srl]; omega) (by simp only [Srl]; omega)
      have hlb : -1 ≤ lk b N of (stt b N a) ∧ lk b N of (stt b N a) ≤ 13 := by
        rcases lk_r (b := b) (N := N) (s := stt b N a) hof with h' | ⟨h1, h2, h3⟩
        · omega
        · rcases hof with o | o
          · rw [if_pos o] at h2 h3; omega
          · rw [if_neg (by omega)] at h2 h3; omega
      rw [w_id (x := lk b N of (stt b N a)) (by omega) (by omega)]
      refine ⟨fun q3 => ?_, fun q3 => ?_⟩
      · rw [prs_bad q2 q3] at hpr
        exact bad _ _ w4 hpr f4' (by rw [f4.I 200 8 (by omega)]; exact t8)
      · obtain ⟨L, hL, hLO, ht1⟩ := lk_O hof q3
        have hL14 : L < 14 := by rcases hLO with h | h <;> omega
        have hte := ten_b (b := b) hst.2 (by omega)
        rw [hL]
        refine ci_readNumbers (a := ten b N (stt b N a)) hF hB hR4 hL14 (by rw [f4.I 200 6 (by omega)]; exact t6 (Or.inl ht1)) (by omega) (fun e w5 hrd f5 s8 => br0 ?_) (fun l a' w5 hrd f5 s6 hnum => br1 ?_)
        · rw [prs_num q2 hL hrd] at hpr
          exact bad e L w5 hpr (f4'.tr (f5.wk (by intro j k; simp only [Srd, Srl]; omega))) s8
        · have hrr := rdn_r _ _ _ _ _ hte.2 hrd
          rw [prs_go q2 hL hrd] at hpr
          have f5' : Fr Srl w w5 := f4'.tr (f5.wk (by intro j k; simp only [Srd, Srl]; omega))
          have v2 : w5.1 200 2 = f.1 := by rw [f5.I 200 2 (by simp [Srd]), f4.I 200 2 (by omega)]; exact u2
          have v3 : w5.1 200 3 = f.2 := by rw [f5.I 200 3 (by simp [Srd]), f4.I 200 3 (by omega)]; exact u3
          have v10 : w5.1 200 10 = stt b N a := by rw [f5.I 200 10 (by simp [Srd])]; exact s10
          have hcx5 : f.1 = 0 → f.2 = -1 ∧ CX of w5 S' := fun z => ⟨(hcx3 z).1, ((hcx3 z).2.fr f4 (by intro a k h1 h2; omega)).fr f5 (by intro a k h1 h2; simp only [Srd]; omega)⟩
          have hvb : ∀ k, k < nms L → 0 ≤ nv l k ∧ nv l k ≤ 999 := fun k hk2 => hrr.2.2.1 k (by show 0 ≤ k; omega) (by show k < 0 + nms L; omega)
          have next : ∀ (w6 : AW) (f' : Int × Int) (S'' : Nat → Int), Fr Srl w w6 → w6.1 200 6 = a' → w6.1 200 2 = f'.1 → w6.1 200 3 = f'.2 → (0 ≤ f'.1 ∧ f'.1 ≤ 4) → (f'.1 = 0 → f'.2 = -1 ∧ CX of w6 S'') → prs b N of (N + 1 - (i + 1)).toNat a' f' S'' = res → TT (k_X5_readLines_81 F (k_X5_readLines_2 F m) [vR 200, vI x1, vI x2, vI i, vI L] [] w6) (qq 0 (fun r w => r = none ∧ P w)) := by
            intro w6 f' S'' z1 z2 z3 z4 z5 z6 z7
            exact wp_X5_readLines_81 F _ x1 x2 i L w6 _ (hk _ _ ⟨z1, by omega, by omega, a', f', S'', vI L, rfl, z2, by omega, z3, z4, z5, z6, z7⟩ (by omega))
          rw [v2, w_id (x := f.1) (by omega) (by omega)]
          refine ⟨fun q4 => ?_, fun q4 => ?_⟩
          · rw [if_pos q4] at hpr
            obtain ⟨fe, hcx6⟩ := hcx5 q4
            refine cv_checkLine hF hLO hcx6 hnum hvb (by rw [v2]; exact q4) (by rw [v3]; exact fe) v10 (fun w6 f6 y2 y3 => ?_)
            have f6' : Fr Srl w w6 := f5'.tr (f6.wk (by intro j k; simp only [Srl]; omega))
            have y6 : w6.1 200 6 = a' := by rw [f6.I 200 6 (by omega)]; exact s6
            have hcb := chk_b (L := L) (S := S') (s := stt b N a) (l := l)
            refine wp_X5_readLines_68 F _ x1 x2 i L w6 _ ?_
            rw [y2, w_id (x := (chk L S' (stt b N a) l).1) (by omega) (by omega)]
            refine ⟨fun q5 => ?_, fun q5 => ?_⟩
            · rw [if_pos q5] at hpr
              obtain ⟨o1, o2, o3⟩ := chk_ok q5
              refine cv_takeLine hLO (hcx6.fr f6 (by intro a k h1 h2; omega)) (fun k hk2 => by rw [f6.I 219 k (by omega)]; exact (hnum k hk2).1) o1 o2 (fun w7 f7 hcx7 => next w7 _ _ (f6'.tr (f7.wk (by intro j k; simp only [Stl, Srl]; omega))) ?_ ?_ ?_ hcb (fun _ => ⟨by rw [o3], hcx7⟩) hpr)
              · rw [f7.I 200 6 (by simp [Stl])]; exact y6
              · rw [f7.I 200 2 (by simp [Stl])]; exact y2
              · rw [f7.I 200 3 (by simp [Stl])]; exact y3
            · rw [if_neg q5] at hpr
              exact next w6 _ _ f6' y6 y2 y3 hcb (fun z => absurd z q5) hpr
          · rw [if_neg q4, if_neg q4] at hpr
            refine wp_X5_readLines_68 F _ x1 x2 i L w5 _ ?_
            rw [v2, w_id (x := f.1) (by omega) (by omega)]
            exact ⟨fun z => absurd z q4, fun _ => next w5 f S' f5' s6 v2 v3 fb (fun z => absurd z q4) hpr⟩
/-! all places are below x -/
def FT (S : Nat → Int) (x : Int) : Prop := (∀ r, 0 ≤ r → r < S 1 → rA S r < x ∧ rB S r < x) ∧ (∀ p, 0 ≤ p → p < S 2 → pH S p < x) ∧ (∀ e, 0 ≤ e → e < S 3 → eP S e < x)
theorem sk_tk {S : Nat → Int} (h : SK S) (hf : FT S (S 0)) : TK S := by
  obtain ⟨s0, s1, s2, s3, s4, s5, hr, hp, he⟩ := h
  obtain ⟨f1, f2, f3⟩ := hf
  refine ⟨s0, s1, s2, s3, s4, s5, fun r r0 r1 => ?_, fun p p0 p1 => ?_, fun e e0 e1 => ?_⟩
  · obtain ⟨a1, a2, a3, a4, a5, a6, a7⟩ := hr r r0 r1
    obtain ⟨b1, b2⟩ := f1 r r0 r1
    exact ⟨by omega, by omega, a3, a4, a5, a6, a7⟩
  · obtain ⟨a1, a2, a3⟩ := hp p p0 p1
    have := f2 p p0 p1
    exact ⟨by omega, a2, a3⟩
  · obtain ⟨a1, a2, a3, a4⟩ := he e e0 e1
    have := f3 e e0 e1
    exact ⟨a1, by omega, a3, a4⟩
theorem ci_placesFit {F : Nat} {w : AW} {S : Nat → Int} {P : Int → AW → Prop} (hF : FB F) (hC : CAr w S) (hS : SK S) (h1 : FT S (S 0) → P 1 w) (h0 : ¬ FT S (S 0) → P 0 w) : CI (m_X5_placesFit F [vR 200] w) P := by
  obtain ⟨s0, s1, s2, s3, s4, s5, hr, hp, he⟩ := id hS
  obtain ⟨c0, c1, c2, c3, c4, c5, cr, cp, ce⟩ := hC.1
  refine wp_X5_placesFit F w _ ?_
  refine tt_for (K := k_X5_placesFit_4 F) (S 1) (fun i w' lo => w' = w ∧ 0 ≤ i ∧ i ≤ S 1 ∧ ∃ m, lo = [vR 200, vI m, vI i] ∧ (0 ≤ m ∧ m ≤ 8) ∧ ∀ x, 0 < x → (m < x ↔ ∀ r, 0 ≤ r → r < i → rA S r < x ∧ rB S r < x)) ?_ F 0 _ w (by omega) ⟨rfl, by omega, by omega, 0, rfl, by omega, fun x hx => ⟨fun _ r r0 r1 => by omega, fun _ => hx⟩⟩
  rintro m i lo w2 ⟨rfl, hi0, hi1, mo, rfl, hmo, hM⟩ hk
  rw [ks_X5_placesFit_4]
  refine wp_X5_placesFit_4 F _ mo i w2 _ ?_
  rw [c1, w_id (x := i) (by omega) (by omega), w_id (x := S 1) (by omega) (by omega)]
  refine ⟨fun q => ⟨⟨by omega, by omega⟩, ⟨by omega, by omega⟩, fun x2 hx2 => ?_⟩, fun q => ?_⟩
  · have hri := hr i hi0 q
    have g2 : w2.1 202 i.toNat = rA S i := (cr i hi0 q).1
    have g3 : w2.1 203 i.toNat = rB S i := (cr i hi0 q).2.1
    rw [g2, g3, w_id (x := rA S i) (by omega) (by omega), w_id (x := rB S i) (by omega) (by omega), w_id (x := mo) (by omega) (by omega)] at hx2
    have hmx : ∃ u, u = (if rA S i < rB S i then rB S i else rA S i) ∧ (∀ x, u < x ↔ rA S i < x ∧ rB S i < x) ∧ 0 ≤ u ∧ u ≤ 8 := by
      refine ⟨_, rfl, fun x => ?_, ?_⟩ <;> split <;> omega
    obtain ⟨u, hu, hux, hub⟩ := hmx
    rw [← hu, w_id (x := u) (by omega) (by omega)] at hx2
    have hx3 : (0 ≤ x2 ∧ x2 ≤ 8) ∧ ∀ x, x2 < x ↔ mo < x ∧ u < x := by
      rw [hx2]
      refine ⟨?_, fun x => ?_⟩ <;> split <;> omega
    refine hk _ _ ⟨rfl, by omega, by omega, x2, rfl, hx3.1, fun x hx => ?_⟩ q
    rw [hx3.2 x, hM x hx, hux x]
    refine ⟨fun y r r0 r1 => ?_, fun y => ⟨fun r r0 r1 => y r r0 (by omega), y i hi0 (by omega)⟩⟩
    by_cases z : r = i
    · rw [z]; exact y.2
    · exact y.1 r r0 (by omega)
  · have ei : i = S 1 := by omega
    rw [ei] at hM
    refine tt_for (K := k_X5_placesFit_49 F) (S 2) (fun i w' lo => w' = w2 ∧ 0 ≤ i ∧ i ≤ S 2 ∧ ∃ m, lo = [vR 200, vI m, vI i] ∧ (0 ≤ m ∧ m ≤ 8) ∧ ∀ x, 0 < x → (m < x ↔ (∀ r, 0 ≤ r → r < S 1 → rA S r < x ∧ rB S r < x) ∧ ∀ p, 0 ≤ p → p < i → pH S p < x)) ?_ F 0 _ w2 (by omega) ⟨rfl, by omega, by omega, mo, rfl, hmo, fun x hx => by rw [hM x hx]; exact ⟨fun y => ⟨y, fun p p0 p1 => by omega⟩, fun y => y.1⟩⟩
    rintro m2 i2 lo w3 ⟨rfl, hj0, hj1, mo2, rfl, hmo2, hM2⟩ hk2
    rw [ks_X5_placesFit_49]
    refine wp_X5_placesFit_49 F _ mo2 i2 w3 _ ?_
    rw [c2, w_id (x := i2) (by omega) (by omega), w_id (x := S 2) (by omega) (by omega)]
    refine ⟨fun q2 => ⟨⟨by omega, by omega⟩, fun x2 hx2 => ?_⟩, fun q2 => ?_⟩
    · have hpi := hp i2 hj0 q2
      have g2 : w3.1 208 i2.toNat = pH S i2 := (cp i2 hj0 q2).1
      rw [g2, w_id (x := pH S i2) (by omega) (by omega), w_id (x := mo2) (by omega) (by omega)] at hx2
      have hx3 : (0 ≤ x2 ∧ x2 ≤ 8) ∧ ∀ x, x2 < x ↔ mo2 < x ∧ pH S i2 < x := by
        rw [hx2]
        refine ⟨?_, fun x => ?_⟩ <;> split <;> omega
      refine hk2 _ _ ⟨rfl, by omega, by omega, x2, rfl, hx3.1, fun x hx => ?_⟩ q2
      rw [hx3.2 x, hM2 x hx]
      refine ⟨fun y => ⟨y.1.1, fun p p0 p1 => ?_⟩, fun y => ⟨⟨y.1, fun p p0 p1 => y.2 p p0 (by omega)⟩, y.2 i2 hj0 (by omega)⟩⟩
      by_cases z : p = i2
      · rw [z]; exact y.2
      · exact y.1.2 p p0 (by omega)
    · have ei2 : i2 = S 2 := by omega
      rw [ei2] at hM2
      refine tt_for (K := k_X5_placesFit_82 F) (S 3) (fun i w' lo => w' = w3 ∧ 0 ≤ i ∧ i ≤ S 3 ∧ ∃ m, lo = [vR 200, vI m, vI i] ∧ (0 ≤ m ∧ m ≤ 8) ∧ ∀ x, 0 < x → (m < x ↔ (∀ r, 0 ≤ r → r < S 1 → rA S r < x ∧ rB S r < x) ∧ (∀ p, 0 ≤ p → p < S 2 → pH S p < x) ∧ ∀ e, 0 ≤ e → e < i → eP S e < x)) ?_ F 0 _ w3 (by omega) ⟨rfl, by omega, by omega, mo2, rfl, hmo2, fun x hx => by rw [hM2 x hx]; exact ⟨fun y => ⟨y.1, y.2, fun p p0 p1 => by omega⟩, fun y => ⟨y.1, y.2.1⟩⟩⟩
      rintro m3 i3 lo w4 ⟨rfl, hl0, hl1, mo3, rfl, hmo3, hM3⟩ hk3
      rw [ks_X5_placesFit_82]
      refine wp_X5_placesFit_82 F _ mo3 i3 w4 _ ?_
      rw [c3, c0, w_id (x := i3) (by omega) (by omega), w_id (x := S 3) (by omega) (by omega), w_id (x := mo3) (by omega) (by omega), w_id (x := S 0) (by omega) (by omega)]
      refine ⟨fun q3 => ⟨⟨by omega, by omega⟩, fun x2 hx2 => ?_⟩, fun q3 => ?_⟩
      · have hpi := he i3 hl0 q3
        have g2 : w4.1 212 i3.toNat = eP S i3 := (ce i3 hl0 q3).2.1
        rw [g2, w_id (x := eP S i3) (by omega) (by omega)] at hx2
        have hx3 : (0 ≤ x2 ∧ x2 ≤ 8) ∧ ∀ x, x2 < x ↔ mo3 < x ∧ eP S i3 < x := by
          rw [hx2]
          refine ⟨?_, fun x => ?_⟩ <;> split <;> omega
        refine hk3 _ _ ⟨rfl, by omega, by omega, x2, rfl, hx3.1, fun x hx => ?_⟩ q3
        rw [hx3.2 x, hM3 x hx]
        refine ⟨fun y => ⟨y.1.1, y.1.2.1, fun p p0 p1 => ?_⟩, fun y => ⟨⟨y.1, y.2.1, fun p p0 p1 => y.2.2 p p0 (by omega)⟩, y.2.2 i3 hl0 (by omega)⟩⟩
        by_cases z : p = i3
        · rw [z]; exact y.2
        · exact y.1.2.2 p p0 (by omega)
      · have ei3 : i3 = S 3 := by omega
        rw [ei3] at hM3
        have hfin := hM3 (S 0) (by omega)
        exact ⟨fun y => q_z1 (h1 (hfin.mp y)), fun y => q_z0 (h0 (fun z => y (hfin.mpr z)))⟩
def S0 : Nat → Int := fun i => if i = 0 then 4 else 0
theorem sk_S0 : SK S0 := by
  refine ⟨⟨by decide, by decide⟩, ⟨by decide, by decide⟩, ⟨by decide, by decide⟩, ⟨by decide, by decide⟩, ⟨by decide, by decide⟩, ⟨by decide, by decide⟩, fun r r0 r1 => ?_, fun p p0 p1 => ?_, fun e e0 e1 => ?_⟩
  · have : r < 0 := r1; omega
  · have : p < 0 := p1; omega
  · have : e < 0 := e1; omega
theorem cv_clearT {F : Nat} {w : AW} {P : AW → Prop} (hF : FB F) (hp : ∀ w', Fr Stl w w' → CAr w' S0 → P w') : CV (m_X7_clear F [vR 201] w) P := by
  refine wp_X7_clear F 201 isTw201 w _ (fun w1 e1 w2 e2 w3 e3 w4 e4 w5 e5 w6 e6 => ?_)
  have f6 : Fr Stl w w6 := by
    rw [e6, e5, e4, e3, e2, e1]
    exact (((((Fr.rf.wI _ (by simp [Stl])).wI _ (by simp [Stl])).wI _ (by simp [Stl])).wI _ (by simp [Stl])).wI _ (by simp [Stl])).wI _ (by simp [Stl])
  have g0 : w6.1 201 0 = 4 := by rw [e6, e5, e4, e3, e2, e1]; simp [wI_at]
  have g1 : w6.1 201 1 = 0 := by rw [e6, e5, e4, e3, e2]; simp [wI_at]
  have g8 : w6.1 201 8 = 0 := by rw [e6, e5, e4, e3]; simp [wI_at]
  have g12 : w6.1 201 12 = 0 := by rw [e6, e5, e4]; simp [wI_at]
  have g17 : w6.1 201 17 = 0 := by rw [e6, e5]; simp [wI_at]
  have g18 : w6.1 201 18 = 0 := by rw [e6]; simp [wI_at]
  refine cv_fill (n := 14) hF ⟨rfl, rfl⟩ (by omega) (fun w7 f7 h7 => cv_fill (n := 84) hF ⟨rfl, rfl⟩ (by omega) (fun w8 f8 h8 => q_v (hp w8 ?_ ?_)))
  · exact (f6.tr (f7.wk (by intro j k; simp only [Stl]; omega))).tr (f8.wk (by intro j k; simp only [Stl]; omega))
  · have c : ∀ k, w8.1 201 k = w6.1 201 k := fun k => by rw [f8.I 201 k (by omega), f7.I 201 k (by omega)]
    refine ⟨⟨by rw [c]; exact g0, by rw [c]; exact g1, by rw [c]; exact g8, by rw [c]; exact g12, by rw [c]; exact g17, by rw [c]; exact g18, fun r r0 r1 => ?_, fun p p0 p1 => ?_, fun e e0 e1 => ?_⟩, fun r r0 r1 => ⟨?_, fun h h0 h1 => ?_⟩⟩
    · have : r < 0 := r1; omega
    · have : p < 0 := p1; omega
    · have : e < 0 := e1; omega
    · have r0 : 0 ≤ r := r0
      rw [f8.I 206 _ (by omega)]
      exact h7 r.toNat (by omega)
    · have r0 : 0 ≤ r := r0
      exact h8 _ (by omega)
/-- a town's text, a day's text -/
noncomputable def pTown (b : Nat → Int) (N : Int) : (Int × Int) × (Nat → Int) := by
  classical
  exact if (prs b N 0 (N + 1).toNat 0 (0, -1) S0).1.1 = 0 ∧ ¬ FT (prs b N 0 (N + 1).toNat 0 (0, -1) S0).2 ((prs b N 0 (N + 1).toNat 0 (0, -1) S0).2 0) then ((4, N), (prs b N 0 (N + 1).toNat 0 (0, -1) S0).2) else prs b N 0 (N + 1).toNat 0 (0, -1) S0
noncomputable def pDay (b : Nat → Int) (N : Int) : (Int × Int) × (Nat → Int) := prs b N 1 (N + 1).toNat 0 (0, -1) (fun _ => 0)
theorem cv_open {F : Nat} {N : Int} {w : AW} {P : AW → Prop} (hN : 0 ≤ N ∧ N ≤ 600) (hp : ∀ w', w'.1 200 5 = N → w'.1 200 6 = 0 → w'.1 200 2 = 0 → w'.1 200 3 = -1 → w'.2.2.1 = 36 → w'.2.2.2 = w.2.2.2 → (∀ j k, ¬ (j = 200 ∧ (k = 2 ∨ k = 3 ∨ k = 5 ∨ k = 6)) → w'.1 j k = w.1 j k) → P w') : CV (m_X5_open F [vR 200, vR 36, vI N] w) P := by
  refine wp_X5_open F 36 600 isB36 N w _ (fun w1 e1 w2 e2 w3 e3 w4 e4 w5 e5 => q_v (hp w5 ?_ ?_ ?_ ?_ ?_ ?_ (fun j k h => ?_)))
  · rw [e5, wI_idx _ _ _ _ (by decide), e4, wI_idx _ _ _ _ (by decide), e3, wI_idx _ _ _ _ (by decide), e2, wI_same, w_id (x := N) (by omega) (by omega), w_id (x := 600) (by omega) (by omega)]
    split <;> omega
  · rw [e5, wI_idx _ _ _ _ (by decide), e4, wI_idx _ _ _ _ (by decide), e3, wI_same]
  · rw [e5, wI_idx _ _ _ _ (by decide), e4, wI_same]
  · rw [e5, wI_same]
  · rw [e5, e4, e3, e2, e1]; rfl
  · rw [e5, e4, e3, e2, e1]; rfl
  · rw [e5, wI_at, if_neg (by omega), e4, wI_at, if_neg (by omega), e3, wI_at, if_neg (by omega), e2, wI_at, if_neg (by omega), e1]
    rfl
abbrev Srt (j k : Nat) : Prop := 200 ≤ j ∧ j ≤ 220
theorem ci_readTown {F : Nat} {N : Int} {b : Nat → Int} {w : AW} {P : Int → AW → Prop} (hF : FB F) (hB : BB b N) (h36 : ∀ k, k < 600 → w.1 36 k = b k) (h0 : (pTown b N).1.1 ≠ 0 → ∀ w', (∀ j k, ¬ Srt j k → w'.1 j k = w.1 j k) → w'.1 200 2 = (pTown b N).1.1 → w'.1 200 3 = (pTown b N).1.2 → P 0 w') (h1 : (pTown b N).1.1 = 0 → (pTown b N).1.2 = -1 → TK (pTown b N).2 → ∀ w', (∀ j k, ¬ Srt j k → w'.1 j k = w.1 j k) → CA w' 201 (pTown b N).2 → P 1 w') : CI (m_X5_readTown F [vR 200, vR 36, vI N] w) P := by
  refine wp_X5_readTown F 36 600 isB36 N w _ (cv_open hB.2 (fun w1 k5 k6 k2 k3 kr _ ko => cv_clearT hF (fun w2 f2 hC2 => ?_)))
  have hR2 : RT w2 b N := ⟨by rw [f2.2]; exact kr, fun k hk => by rw [f2.I 36 k (by simp [Stl]), ko 36 k (by omega)]; exact h36 k hk, by rw [f2.I 200 5 (by simp [Stl])]; exact k5⟩
  refine cv_readLines (of := 0) (S := S0) hF hB hR2 (Or.inl rfl) (Or.inl ⟨rfl, hC2, sk_S0⟩) (by rw [f2.I 200 6 (by simp [Stl])]; exact k6) (by rw [f2.I 200 2 (by simp [Stl])]; exact k2) (by rw [f2.I 200 3 (by simp [Stl])]; exact k3) (fun w3 f3 g2 g3 gb gx => ?_)
  unfold pTown at h0 h1
  generalize prs b N 0 (N + 1).toNat 0 (0, -1) S0 = res at *
  have ko3 : ∀ j k, ¬ Srt j k → w3.1 j k = w.1 j k := fun j k h => by
    rw [f3.I j k (by simp only [Srl, Srt] at *; omega), f2.I j k (by simp only [Stl, Srt] at *; omega), ko j k (by simp only [Srt] at h; omega)]
  rw [g2, w_id (x := res.1.1) (by omega) (by omega)]
  refine ⟨fun q => ?_, fun q => ?_⟩
  · obtain ⟨e2, hcx⟩ := gx q
    obtain ⟨hC, hS⟩ := hcx.sk rfl
    refine ci_placesFit hF hC hS (fun y => br1 ?_) (fun y => br0 (cv_putFault (fun w4 f4 p2 p3 => ?_)))
    · rw [if_neg (fun z => z.2 y)] at h1
      refine wp_X5_readTown_43 F 36 600 isB36 N w3 _ ?_
      rw [g2, w_id (x := res.1.1) (by omega) (by omega)]
      exact ⟨fun _ => q_z1 (h1 q e2 (sk_tk hS y) w3 ko3 hC.1), fun z => absurd q z⟩
    · rw [if_pos ⟨q, y⟩] at h0
      refine wp_X5_readTown_43 F 36 600 isB36 N w4 _ ?_
      rw [p2]
      have k5' : w3.1 200 5 = N := by rw [f3.I 200 5 (by simp [Srl]), f2.I 200 5 (by simp [Stl])]; exact k5
      exact ⟨fun z => absurd z (by decide), fun _ => q_z0 (h0 (by show ¬ (4 : Int) = 0; decide) w4 (fun j k h => by rw [f4.I j k (by simp only [Srt] at h; omega)]; exact ko3 j k h) p2 (by rw [p3]; exact k5'))⟩
  · rw [if_neg (fun z => q z.1)] at h0
    refine wp_X5_readTown_43 F 36 600 isB36 N w3 _ ?_
    rw [g2, w_id (x := res.1.1) (by omega) (by omega)]
    exact ⟨fun z => absurd z q, fun _ => q_z0 (h0 q w3 ko3 g2 g3)⟩
theorem ci_readDay {F : Nat} {N : Int} {b : Nat → Int} {w : AW} {P : Int → AW → Prop} (hF : FB F) (hB : BB b N) (h36 : ∀ k, k < 600 → w.1 36 k = b k) (h0 : (pDay b N).1.1 ≠ 0 → ∀ w', (∀ j k, ¬ Srt j k → w'.1 j k = w.1 j k) → w'.1 200 2 = (pDay b N).1.1 → w'.1 200 3 = (pDay b N).1.2 → P 0 w') (h1 : (pDay b N).1.1 = 0 → (pDay b N).1.2 = -1 → DK (pDay b N).2 → ∀ w', (∀ j k, ¬ Srt j k → w'.1 j k = w.1 j k) → CD w' 215 (pDay b N).2 → P 1 w') : CI (m_X5_readDay F [vR 200, vR 36, vI N] w) P := by
  refine wp_X5_readDay F 36 600 isB36 N w _ (cv_open hB.2 (fun w1 k5 k6 k2 k3 kr _ ko w2 e2 => ?_))
  have f2 : Fr Stl w1 w2 := by rw [e2]; exact Fr.rf.wI _ (by simp [Stl])
  have hR2 : RT w2 b N := ⟨by rw [f2.2]; exact kr, fun k hk => by rw [f2.I 36 k (by simp [Stl]), ko 36 k (by omega)]; exact h36 k hk, by rw [f2.I 200 5 (by simp [Stl])]; exact k5⟩
  have hC2 : CD w2 215 (fun _ => 0) := ⟨by rw [e2, wI_same], fun k k0 k1 => by have k1 : k < 0 := k1; omega⟩
  have hD2 : DK (fun _ => 0) := ⟨⟨by decide, by decide⟩, fun k k0 k1 => by have k1 : k < 0 := k1; omega⟩
  refine cv_readLines (of := 1) (S := fun _ => 0) hF hB hR2 (Or.inr rfl) (Or.inr ⟨rfl, hC2, hD2⟩) (by rw [f2.I 200 6 (by simp [Stl])]; exact k6) (by rw [f2.I 200 2 (by simp [Stl])]; exact k2) (by rw [f2.I 200 3 (by simp [Stl])]; exact k3) (fun w3 f3 g2 g3 gb gx => ?_)
  unfold pDay at h0 h1
  generalize prs b N 1 (N + 1).toNat 0 (0, -1) (fun _ => 0) = res at *
  have ko3 : ∀ j k, ¬ Srt j k → w3.1 j k = w.1 j k := fun j k h => by
    rw [f3.I j k (by simp only [Srl, Srt] at *; omega), f2.I j k (by simp only [Stl, Srt] at *; omega), ko j k (by simp only [Srt] at h; omega)]
  rw [g2, w_id (x := res.1.1) (by omega) (by omega)]
  refine ⟨fun q => q_z1 ?_, fun q => q_z0 (h0 q w3 ko3 g2 g3)⟩
  obtain ⟨e2, hcx⟩ := gx q
  obtain ⟨hC, hS⟩ := hcx.dk rfl
  exact h1 q e2 hS w3 ko3 hC
