/-! THE REFERENCE'S DAY -/
abbrev Sday (j k : Nat) : Prop := j = 10 ∨ (16 ≤ j ∧ j ≤ 21) ∨ (25 ≤ j ∧ j ≤ 32) ∨ (j = 0 ∧ (46 ≤ k ∧ k ≤ 48 ∨ k = 60 ∨ k = 61))
theorem FAR.fr {T : Nat → Int} {x : Int} {w w' : AW} {S : Nat → Nat → Prop} (h : FAR T x w) (hf : Fr S w w') (hs : ∀ k, ¬ S 22 k) : FAR T x w' := by
  intro a b h1 h2 h3 h4
  rw [hf.I 22 _ (hs _)]
  exact h a b h1 h2 h3 h4
theorem BI.fr {w w' : AW} {acc : Option Cd} {S : Nat → Nat → Prop} (h : BI w acc) (hf : Fr S w w') (h1 : ¬ S 0 46) (h2 : ¬ S 0 47) (h3 : ∀ k, ¬ S 21 k) : BI w' acc := by
  cases acc with
  | none => show w'.1 0 46 = 0; rw [hf.I 0 46 h1]; exact h
  | some x => exact ⟨h.1, by rw [hf.I 0 46 h1]; exact h.2.1, by rw [hf.L 0 47 h2]; exact h.2.2.1, fun i hi => by rw [hf.I 21 i (h3 i)]; exact h.2.2.2 i hi⟩
theorem ZB.OK {T : Nat → Int} {n : Int} {Z : Nat → Nat → Int} (h : ZB T n Z) : OK T (Z 0) := fun r h0 h1 => h.1 r.toNat (by omega)
theorem ZB.ze {T : Nat → Int} {n : Int} {Z Z' : Nat → Nat → Int} (h : ZB T n Z) (he : ZE T Z' Z) : ZB T n Z' := ⟨fun r hr => by rw [he.1 r hr]; exact h.1 r hr, fun p hp => by rw [(he.2.1 p hp).1, (he.2.1 p hp).2]; exact h.2.1 p hp, by rw [he.2.2.2.2.1]; exact h.2.2⟩
theorem cv_goOne {F : Nat} {T : Nat → Int} {fr p to mi n : Int} {w : AW} {P : AW → Prop} (hF : FB F) (hT : TK T) (hH : HA w T) (hf : w.1 0 28 = fr) (hfr : -1 ≤ fr ∧ fr < 14) (hFA : FAR T (-1) w) (hZ : ZB T n (RZ w)) (hn : 0 ≤ n ∧ n ≤ 20) (hp0 : 0 ≤ p) (hp1 : p < T 2) (hto : 0 ≤ to ∧ to < T 0) (hmi : 0 ≤ mi ∧ mi ≤ 359) (hp : ∀ w', Fr Sday w w' → ZE T (RZ w') (gOne T fr p to mi (RZ w)) → P w') : CV (m_X9_goOne F [vR 0, vI p, vI to, vI mi] w) P := by
  have a0 := hT.1
  have a1 := hT.2.1
  have a2 := hT.2.2.1
  have hpp := hZ.2.1 p.toNat (by omega)
  have z1 : RZ w 1 p.toNat = w.1 25 p.toNat := rfl
  have z2 : RZ w 2 p.toNat = w.1 26 p.toNat := rfl
  rw [z1, z2] at hpp
  have hkind := (hT.pers hp0 hp1).2.2
  have hOK : OK T (w.1 10) := hZ.OK
  -- from when he begins on
  have main : ∀ bg, bg = (if mi < w.1 26 p.toNat then w.1 26 p.toNat else mi) → TT (k_X9_goOne_28 F [vR 0, vI p, vI to, vI mi, vI (w.1 25 p.toNat), vU, vU] [vI bg] w) (qq 0 (fun r w => r = none ∧ P w)) := by
    intro bg hbg
    have hbgr : 0 ≤ bg ∧ bg ≤ 359 + 240 * n := by rw [hbg]; split <;> omega
    have hun : ∀ f k, gOne T fr p to mi (RZ w) f k = (match (if w.1 25 p.toNat = to then none else bst T fr (w.1 10) p (pK T p) bg (w.1 25 p.toNat) to) with | none => RZ w f k | some x => gOne T fr p to mi (RZ w) f k) := by
      intro f k
      have e1 : (if RZ w 1 p.toNat = to then none else bst T fr (RZ w 0) p (pK T p) (if mi < RZ w 2 p.toNat then RZ w 2 p.toNat else mi) (RZ w 1 p.toNat) to) = (if w.1 25 p.toNat = to then none else bst T fr (w.1 10) p (pK T p) bg (w.1 25 p.toNat) to) := by rw [hbg]; rfl
      cases hb : (if w.1 25 p.toNat = to then none else bst T fr (w.1 10) p (pK T p) bg (w.1 25 p.toNat) to) with
      | some x => rfl
      | none =>
        show gOne T fr p to mi (RZ w) f k = RZ w f k
        unfold gOne
        rw [e1, hb]
    have nothing : (if w.1 25 p.toNat = to then none else bst T fr (w.1 10) p (pK T p) bg (w.1 25 p.toNat) to) = none → ∀ w', Fr Sfind w w' → P w' := by
      intro hb w' f'
      refine hp w' (f'.wk (by intro j k; simp only [Sfind, Sday]; omega)) ?_
      have e : gOne T fr p to mi (RZ w) = RZ w := by funext f k; rw [hun f k, hb]
      rw [e]
      exact ⟨fun r _ => f'.I 10 r (by simp [Sfind]), fun q _ => ⟨f'.I 25 q (by simp [Sfind]), f'.I 26 q (by simp [Sfind])⟩, fun q _ => ⟨f'.I 27 q (by simp [Sfind]), f'.I 28 q (by simp [Sfind]), f'.I 29 q (by simp [Sfind]), f'.I 30 q (by simp [Sfind])⟩, fun r _ => ⟨f'.I 31 r (by simp [Sfind]), f'.I 32 r (by simp [Sfind])⟩, f'.I 0 60 (by simp [Sfind]), f'.I 0 61 (by simp [Sfind])⟩
    refine wp_X9_goOne_28 F p to mi _ bg w _ ?_
    rw [w_id (x := w.1 25 p.toNat) (by omega) (by omega), w_id (x := to) (by omega) (by omega)]
    refine ⟨fun q => q_v (nothing (if_pos q) w Fr.rf), fun q => ⟨⟨hp0, by omega⟩, ?_⟩⟩
    rw [(hH.pers hp0 hp1).2.1]
    refine ci_finds (O := w.1 10) hF hT hOK ⟨hH, rfl, hf⟩ hfr hp0 hp1 hkind ⟨hbgr.1, by omega⟩ hpp.1 hto (fun x4 w2 f2 hB hA hb48 hx => ?_)
    rcases hx with ⟨hx4, hsome⟩ | ⟨hx4, hnone⟩
    · subst hx4
      refine br1 ?_
      cases hb : bst T fr (w.1 10) p (pK T p) bg (w.1 25 p.toNat) to with
      | none => exact absurd hb hsome
      | some x =>
        rw [hb] at hB
        have hrow := bst_row hT hb
        have hmin := bst_mins hT hp0 hp1 hbgr.1 q hb
        have hH2 : HA w2 T := hH.fr f2 (by intro j k; simp only [SHA, Sfind]; omega)
        have hsum : (x.2.2.map (fun r : Nat => rM T r)).sum = x.2.1 - bg := by rw [hrow.2.2.2.2]; omega
        refine ci_minutes hF hT hH2 hB (by omega) hrow.2.2.2.1 ?_
        rw [hsum]
        have e10 : w2.1 10 = w.1 10 := by funext k; exact f2.I 10 k (by simp [Sfind])
        refine cv_walk hF hT hH2 (by rw [e10]; exact hOK) (by rw [f2.I 0 28 (by simp [Sfind])]; exact hf) hfr hp0 hp1 ⟨hbgr.1, by omega⟩ hB (by omega) hmin.2.2 hrow.2.2.2.1 (fun w3 f3 g10 g27 g28 g29 g31 g32 => ⟨⟨hp0, by omega⟩, fun w4 e4 => ⟨⟨hp0, by omega⟩, fun w5 e5 => ⟨⟨hp0, by omega⟩, ⟨by omega, by omega⟩, ⟨hp0, by omega⟩, fun w6 e6 w7 e7 => ⟨⟨hp0, by omega⟩, ?_⟩⟩⟩⟩)
        rw [e10] at g10 g28 g29 g32
        -- how far it is
        have hfar : w5.1 22 (9 * w.1 25 p.toNat + to).toNat = dsv T (w.1 25 p.toNat) to := by
          rw [e5, wI_cell _ _ _ _ (by decide), e4, wI_cell _ _ _ _ (by decide), f3.I 22 _ (by simp [Swk]), f2.I 22 _ (by simp [Sfind])]
          rcases hFA (w.1 25 p.toNat) to hpp.1.1 hpp.1.2 hto.1 hto.2 with ⟨-, z⟩ | ⟨z, -⟩
          · exfalso
            have hm := hrow.1
            rw [bsl_way q] at hm
            obtain ⟨nn, hw⟩ := Wy_walk _ _ _ _ _ _ _ hm
            exact z _ _ hw
          · exact (dsv_eq z).symm
        rw [hfar] at e6
        have hsl : sumL (fun r => rM T r) x.2.2 = x.2.1 - bg := hsum
        rw [hsl] at g27
        have c3 : ∀ j k, j ≠ 25 → j ≠ 26 → j ≠ 30 → j ≠ 0 → w7.1 j k = w3.1 j k := fun j k z1 z2 z3 z4 => by rw [e7, wI_cell _ _ _ _ z4, e6, wI_cell _ _ _ _ z3, e5, wI_cell _ _ _ _ z2, e4, wI_cell _ _ _ _ z1]
        have o2 : ∀ j k, (25 ≤ j ∧ j ≤ 32) ∨ (j = 0 ∧ (k = 60 ∨ k = 61)) → w2.1 j k = w.1 j k := fun j k z => f2.I j k (by simp only [Sfind]; omega)
        have h26 : w7.1 26 p.toNat = x.2.1 := by
          rw [e7, wI_cell _ _ _ _ (by decide), e6, wI_cell _ _ _ _ (by decide), e5, wI_same]; omega
        have h60 : w7.1 0 60 = w.1 0 60 := by
          rw [e7, wI_idx _ _ _ _ (by decide), e6, wI_cell _ _ _ _ (by decide), e5, wI_cell _ _ _ _ (by decide), e4, wI_cell _ _ _ _ (by decide), f3.I 0 60 (by simp [Swk])]
          exact o2 0 60 (by omega)
        have hlate := hZ.2.2
        have z9 : RZ w 9 0 = w.1 0 60 := rfl
        rw [z9] at hlate
        have hbg2 : (if mi < RZ w 2 p.toNat then RZ w 2 p.toNat else mi) = bg := hbg.symm
        have hne1 : ¬ RZ w 1 p.toNat = to := q
        have hG : ∀ f k, gOne T fr p to mi (RZ w) f k = (match f with
            | 0 => wO T fr (w.1 10) p bg x.2.2 k
            | 1 => if k = p.toNat then to else w.1 25 k
            | 2 => if k = p.toNat then x.2.1 else w.1 26 k
            | 3 => if k = p.toNat then w.1 27 k + (x.2.1 - bg) else w.1 27 k
            | 4 => if k = p.toNat then w.1 28 k + sumL (fun r => pys T fr (w.1 10) p r) x.2.2 else w.1 28 k
            | 5 => w.1 29 k + sumL (fun r => if w.1 10 r = k then pys T fr (w.1 10) p r else 0) x.2.2
            | 6 => if k = p.toNat then w.1 30 k + (x.2.1 - bg - dsv T (w.1 25 p.toNat) to) else w.1 30 k
            | 7 => w.1 31 k + (if k ∈ x.2.2 then 1 else 0)
            | 8 => w.1 32 k + (if k ∈ x.2.2 then pys T fr (w.1 10) p k else 0)
            | _ => if k = 0 then (if w.1 0 60 < x.2.1 then x.2.1 else w.1 0 60) else w.1 0 61 + (bg - mi)) := by
          intro f k
          unfold gOne
          rw [if_neg hne1, hbg2]
          have hb' : bst T fr (RZ w 0) p (pK T p) bg (RZ w 1 p.toNat) to = some x := hb
          rw [hb']
          rfl
        have fin : ∀ w8 : AW, w8 = wI w7 0 60 (if w.1 0 60 < x.2.1 then x.2.1 else w.1 0 60) → qq 0 (fun r w => r = none ∧ P w) none w8 := by
          intro w8 e8
          have c8 : ∀ j k, j ≠ 0 → w8.1 j k = w7.1 j k := fun j k z => by rw [e8, wI_cell _ _ _ _ z]
          have f8 : Fr Sday w w8 := by
            rw [e8, e7, e6, e5, e4]
            exact (((((f2.wk (S' := Sday) (by intro j k; simp only [Sfind, Sday]; omega)).tr (f3.wk (by intro j k; simp only [Swk, Sday]; omega))).wI _ (by simp [Sday])).wI _ (by simp [Sday])).wI _ (by simp [Sday])).wI _ (by simp [Sday]) |>.wI _ (by simp [Sday])
          refine q_v (hp w8 f8 ⟨fun r hr => ?_, fun s hs => ⟨?_, ?_⟩, fun s hs => ⟨?_, ?_, ?_, ?_⟩, fun r hr => ⟨?_, ?_⟩, ?_, ?_⟩)
          · rw [hG]; show w8.1 10 r = _
            rw [c8 10 r (by decide), c3 10 r (by decide) (by decide) (by decide) (by decide)]
            exact g10 r hr
          · rw [hG]; show w8.1 25 s = _
            rw [c8 25 s (by decide), e7, wI_cell _ _ _ _ (by decide), e6, wI_cell _ _ _ _ (by decide), e5, wI_cell _ _ _ _ (by decide), e4, wI_at]
            by_cases z : s = p.toNat
            · rw [if_pos ⟨rfl, z⟩]; show _ = if s = p.toNat then to else w.1 25 s; rw [if_pos z]
            · rw [if_neg (fun y => z y.2), f3.I 25 s (by simp [Swk]), o2 25 s (by omega)]; show _ = if s = p.toNat then to else w.1 25 s; rw [if_neg z]
          · rw [hG]; show w8.1 26 s = if s = p.toNat then x.2.1 else w.1 26 s
            rw [c8 26 s (by decide)]
            by_cases z : s = p.toNat
            · rw [if_pos z, z]; exact h26
            · rw [if_neg z, e7, wI_cell _ _ _ _ (by decide), e6, wI_cell _ _ _ _ (by decide), e5, wI_idx _ _ _ _ z, e4, wI_cell _ _ _ _ (by decide), f3.I 26 s (by simp [Swk]), o2 26 s (by omega)]
          · rw [hG]; show w8.1 27 s = if s = p.toNat then w.1 27 s + (x.2.1 - bg) else w.1 27 s
            rw [c8 27 s (by decide), c3 27 s (by decide) (by decide) (by decide) (by decide), g27, o2 27 s (by omega)]
          · rw [hG]; show w8.1 28 s = if s = p.toNat then w.1 28 s + sumL (fun r => pys T fr (w.1 10) p r) x.2.2 else w.1 28 s
            rw [c8 28 s (by decide), c3 28 s (by decide) (by decide) (by decide) (by decide), g28, o2 28 s (by omega)]
          · rw [hG]; show w8.1 29 s = w.1 29 s + sumL (fun r => if w.1 10 r = s then pys T fr (w.1 10) p r else 0) x.2.2
            rw [c8 29 s (by decide), c3 29 s (by decide) (by decide) (by decide) (by decide), g29, o2 29 s (by omega)]
          · rw [hG]; show w8.1 30 s = if s = p.toNat then w.1 30 s + (x.2.1 - bg - dsv T (w.1 25 p.toNat) to) else w.1 30 s
            rw [c8 30 s (by decide), e7, wI_cell _ _ _ _ (by decide), e6, wI_at]
            have e30 : ∀ k, w5.1 30 k = w.1 30 k := fun k => by rw [e5, wI_cell _ _ _ _ (by decide), e4, wI_cell _ _ _ _ (by decide), f3.I 30 k (by simp [Swk]), o2 30 k (by omega)]
            by_cases z : s = p.toNat
            · rw [if_pos ⟨rfl, z⟩, if_pos z, e30, z]
            · rw [if_neg (fun y => z y.2), if_neg z, e30]
          · rw [hG]; show w8.1 31 r = w.1 31 r + (if r ∈ x.2.2 then 1 else 0)
            rw [c8 31 r (by decide), c3 31 r (by decide) (by decide) (by decide) (by decide), g31, o2 31 r (by omega)]
          · rw [hG]; show w8.1 32 r = w.1 32 r + (if r ∈ x.2.2 then pys T fr (w.1 10) p r else 0)
            rw [c8 32 r (by decide), c3 32 r (by decide) (by decide) (by decide) (by decide), g32, o2 32 r (by omega)]
          · rw [hG]; show w8.1 0 60 = if (0 : Nat) = 0 then (if w.1 0 60 < x.2.1 then x.2.1 else w.1 0 60) else _
            rw [e8, wI_same, if_pos rfl]
          · rw [hG]; show w8.1 0 61 = if (1 : Nat) = 0 then _ else w.1 0 61 + (bg - mi)
            rw [if_neg (by decide), e8, wI_idx _ _ _ _ (by decide), e7, wI_same, e6, wI_cell _ _ _ _ (by decide), e5, wI_cell _ _ _ _ (by decide), e4, wI_cell _ _ _ _ (by decide), f3.I 0 61 (by simp [Swk]), o2 0 61 (by omega)]
        rw [h26, h60, w_id (x := w.1 0 60) (by omega) (by omega), w_id (x := x.2.1) (by omega) (by omega)]
        exact ⟨fun z => ⟨⟨hp0, by omega⟩, fun w8 e8 => fin w8 (by rw [e8, if_pos z])⟩, fun z w8 e8 => fin w8 (by rw [e8, if_neg z])⟩
    · subst hx4
      refine br0 (q_v (nothing ?_ w2 f2))
      rw [if_neg q]
      exact hnone
  refine wp_X9_goOne F p to mi w _ ⟨⟨hp0, by omega⟩, fun x1 e1 => ⟨⟨hp0, by omega⟩, ?_⟩⟩
  subst e1
  rw [w_id (x := mi) (by omega) (by omega), w_id (x := w.1 26 p.toNat) (by omega) (by omega)]
  exact ⟨fun q => ⟨⟨hp0, by omega⟩, main _ (by rw [if_pos q])⟩, fun q => main _ (by rw [if_neg q])⟩
/-! the order of errands -/
def elt' (T : Nat → Int) (a b : Nat) : Prop := eM T a < eM T b ∨ (eM T a = eM T b ∧ a < b)
def Ord (T : Nat → Int) (es : List Nat) : Prop := es.Pairwise (elt' T)
def OrdOf (T : Nat → Int) (set : Int) (n : Nat) (es : List Nat) : Prop := Ord T es ∧ (∀ e, e ∈ es ↔ e < n ∧ tb set e = true) ∧ es.length ≤ n
theorem Ord_uniq {T : Nat → Int} : ∀ (a b : List Nat), Ord T a → Ord T b → (∀ e, e ∈ a ↔ e ∈ b) → a = b
  | [], [], _, _, _ => rfl
  | [], y :: b, _, _, h => by have := (h y).mpr List.mem_cons_self; cases this
  | x :: a, [], _, _, h => by have := (h x).mp List.mem_cons_self; cases this
  | x :: a, y :: b, ha, hb, h => by
    have ha' := List.pairwise_cons.mp ha
    have hb' := List.pairwise_cons.mp hb
    have exy : x = y := by
      by_cases e : x = y
      · exact e
      · exfalso
        have h1 : x ∈ b := (List.mem_cons.mp ((h x).mp List.mem_cons_self)).resolve_left e
        have h2 : y ∈ a := (List.mem_cons.mp ((h y).mpr List.mem_cons_self)).resolve_left (fun z => e z.symm)
        have l1 := hb'.1 x h1
        have l2 := ha'.1 y h2
        unfold elt' at l1 l2
        omega
    subst exy
    have hirr : ∀ z, ¬ elt' T z z := fun z => by unfold elt'; omega
    rw [Ord_uniq a b ha'.2 hb'.2 (fun e => ⟨fun z => ?_, fun z => ?_⟩)]
    · rcases List.mem_cons.mp ((h e).mp (List.mem_cons_of_mem _ z)) with q | q
      · exact absurd (ha'.1 e z) (by rw [q]; exact hirr x)
      · exact q
    · rcases List.mem_cons.mp ((h e).mpr (List.mem_cons_of_mem _ z)) with q | q
      · exact absurd (hb'.1 e z) (by rw [q]; exact hirr x)
      · exact q
/-- one more errand is put into its place -/
theorem Ord_ins {T : Nat → Int} {set : Int} {n : Nat} {l1 l2 : List Nat} (h : OrdOf T set n (l1 ++ l2)) (hn : tb set n = true) (h1 : ∀ a ∈ l1, eM T a ≤ eM T n) (h2 : ∀ a ∈ l2, eM T n < eM T a) : OrdOf T set (n + 1) (l1 ++ n :: l2) := by
  obtain ⟨ho, hm, hlen⟩ := h
  have hp := List.pairwise_append.mp ho
  refine ⟨List.pairwise_append.mpr ⟨hp.1, List.pairwise_cons.mpr ⟨fun a ha => Or.inl (h2 a ha), hp.2.1⟩, fun a ha b hb => ?_⟩, fun e => ?_, by simp at hlen ⊢; omega⟩
  · rcases List.mem_cons.mp hb with q | q
    · subst q
      have := ((hm a).mp (List.mem_append_left _ ha)).1
      have := h1 a ha
      unfold elt'
      omega
    · exact hp.2.2 a ha b q
  · have := hm e
    rw [List.mem_append] at this
    rw [List.mem_append, List.mem_cons]
    constructor
    · rintro (q | q | q)
      · have := this.mp (Or.inl q); exact ⟨by omega, this.2⟩
      · subst q; exact ⟨by omega, hn⟩
      · have := this.mp (Or.inr q); exact ⟨by omega, this.2⟩
    · rintro ⟨q1, q2⟩
      by_cases e1 : e = n
      · exact Or.inr (Or.inl e1)
      · rcases this.mpr ⟨by omega, q2⟩ with q | q
        · exact Or.inl q
        · exact Or.inr (Or.inr q)
theorem Ord_skip {T : Nat → Int} {set : Int} {n : Nat} {l : List Nat} (h : OrdOf T set n l) (hn : tb set n = false) : OrdOf T set (n + 1) l := by
  refine ⟨h.1, fun e => ?_, by have := h.2.2; omega⟩
  rw [h.2.1 e]
  constructor
  · rintro ⟨q1, q2⟩; exact ⟨by omega, q2⟩
  · rintro ⟨q1, q2⟩
    by_cases e1 : e = n
    · rw [e1, hn] at q2; cases q2
    · exact ⟨by omega, q2⟩
theorem Ord_ex (T : Nat → Int) (set : Int) : ∀ n, ∃ es, OrdOf T set n es
  | 0 => ⟨[], List.Pairwise.nil, fun e => ⟨fun h => (by cases h), fun h => absurd h.1 (Nat.not_lt_zero e)⟩, Nat.le_refl 0⟩
  | n + 1 => by
    obtain ⟨es, h⟩ := Ord_ex T set n
    cases hb : tb set n with
    | false => exact ⟨es, Ord_skip h hb⟩
    | true =>
      have key : ∀ (l : List Nat), Ord T l → ∃ l1 l2, l = l1 ++ l2 ∧ (∀ a ∈ l1, eM T a ≤ eM T n) ∧ ∀ a ∈ l2, eM T n < eM T a := by
        intro l
        induction l with
        | nil => exact fun _ => ⟨[], [], rfl, fun a ha => (by cases ha), fun a ha => (by cases ha)⟩
        | cons x l ih =>
          intro hl
          have hl' := List.pairwise_cons.mp hl
          by_cases q : eM T x ≤ eM T n
          · obtain ⟨l1, l2, e, k1, k2⟩ := ih hl'.2
            exact ⟨x :: l1, l2, by rw [e]; rfl, fun a ha => by
              rcases List.mem_cons.mp ha with z | z
              · rw [z]; exact q
              · exact k1 a z, k2⟩
          · refine ⟨[], x :: l, rfl, fun a ha => (by cases ha), fun a ha => ?_⟩
            rcases List.mem_cons.mp ha with z | z
            · rw [z]; omega
            · have := hl'.1 a z
              unfold elt' at this
              omega
      obtain ⟨l1, l2, e, k1, k2⟩ := key es h.1
      rw [e] at h
      exact ⟨l1 ++ n :: l2, Ord_ins h hb k1 k2⟩
noncomputable def ordl (T : Nat → Int) (set : Int) : List Nat := (Ord_ex T set (T 3).toNat).choose
theorem ordl_ok (T : Nat → Int) (set : Int) : OrdOf T set (T 3).toNat (ordl T set) := (Ord_ex T set (T 3).toNat).choose_spec
theorem ordl_eq {T : Nat → Int} {set : Int} {es : List Nat} (h : OrdOf T set (T 3).toNat es) : es = ordl T set := Ord_uniq _ _ h.1 (ordl_ok T set).1 (fun e => by rw [h.2.1 e, (ordl_ok T set).2.1 e])
noncomputable def gAll (T : Nat → Int) (fr : Int) (es : List Nat) (Z : Nat → Nat → Int) : Nat → Nat → Int := es.foldl (fun Z (e : Nat) => gOne T fr (eW T e) (eP T e) (eM T e) Z) Z
/-- the beginning of a day -/
def gMor (T : Nat → Int) (Z : Nat → Nat → Int) : Nat → Nat → Int := fun f k => match f with
  | 1 => pH T k
  | 2 => 0
  | f => Z f k
noncomputable def gDay (T : Nat → Int) (fr set : Int) (Z : Nat → Nat → Int) : Nat → Nat → Int := gAll T fr (ordl T set) (gMor T Z)
theorem gMor_congr {T : Nat → Int} {Z Z' : Nat → Nat → Int} (h : ZE T Z Z') : ZE T (gMor T Z) (gMor T Z') := ⟨h.1, fun _ _ => ⟨rfl, rfl⟩, h.2.2.1, h.2.2.2.1, h.2.2.2.2.1, h.2.2.2.2.2⟩
theorem gAll_congr {T : Nat → Int} {fr : Int} (hT : TK T) : ∀ (es : List Nat) (Z Z' : Nat → Nat → Int), (∀ e ∈ es, (e : Int) < T 3) → ZE T Z Z' → ZE T (gAll T fr es Z) (gAll T fr es Z')
  | [], Z, Z', _, h => h
  | e :: es, Z, Z', he, h => by
    have h1 := he e List.mem_cons_self
    have hw := (hT.erra (e := e) (by omega) h1).1
    exact gAll_congr hT es _ _ (fun a ha => he a (List.mem_cons_of_mem _ ha)) (gOne_congr hT hw.1 hw.2 h)
theorem ci_has {F : Nat} {x k : Int} {w : AW} {P : Int → AW → Prop} (hx : nB x) (h0 : 0 ≤ k) (h1 : k < 31) (hy : tb x k.toNat = true → P 1 w) (hn : tb x k.toNat = false → P 0 w) : CI (m_X9_has F [vI x, vI k] w) P := by
  refine wp_X9_has F x k w _ ?_
  rw [tst1 hx h0 h1]
  refine ⟨fun q => q_z1 (hy q), fun q => q_z0 (hn ?_)⟩
  cases h : tb x k.toNat with
  | false => rfl
  | true => exact absurd h q
theorem ci_next {F : Nat} {T : Nat → Int} {left : Int} {w : AW} {P : Int → AW → Prop} (hF : FB F) (hT : TK T) (hH : HA w T) (hl : nB left) (hp : ∀ b : Int, (b = -1 ∧ (∀ e : Nat, (e : Int) < T 3 → tb left e = false)) ∨ (0 ≤ b ∧ b < T 3 ∧ tb left b.toNat = true ∧ ∀ e : Nat, (e : Int) < T 3 → tb left e = true → e = b.toNat ∨ elt' T b.toNat e) → P b w) : CI (m_X9_nextErrand F [vR 0, vI left] w) P := by
  have a3 := hT.2.2.2.1
  refine wp_X9_nextErrand F left w _ ?_
  refine tt_for (K := k_X9_nextErrand_4 F) (T 3) (fun i w' l => w' = w ∧ 0 ≤ i ∧ i ≤ T 3 ∧ ∃ b, l = [vR 0, vI left, vI b, vI i] ∧ ((b = -1 ∧ (∀ e : Nat, (e : Int) < i → tb left e = false)) ∨ (0 ≤ b ∧ b < i ∧ tb left b.toNat = true ∧ ∀ e : Nat, (e : Int) < i → tb left e = true → e = b.toNat ∨ elt' T b.toNat e))) ?_ F 0 _ w (by omega) ⟨rfl, by omega, by omega, -1, rfl, Or.inl ⟨rfl, fun e he => by omega⟩⟩
  rintro n i l w' ⟨rfl, hi0, hi1, b, rfl, hb⟩ hk
  have e25 : w'.1 0 25 = T 3 := hH.2.2.2.2.1
  rw [ks_X9_nextErrand_4]
  refine wp_X9_nextErrand_4 F _ left b i w' _ ?_
  rw [e25, w_id (x := i) (by omega) (by omega), w_id (x := T 3) (by omega) (by omega)]
  refine ⟨fun q => ?_, fun q => q_i (hp b (by rw [show i = T 3 from by omega] at hb; exact hb))⟩
  have hin : (i.toNat : Int) = i := Int.toNat_of_nonneg hi0
  have keep : TT (k_X9_nextErrand_45 F (k_X9_nextErrand_4 F n) [vR 0, vI left, vI b, vI i] [vI b] w') (qq 1 (fun r w => ∃ x, r = some (vI x) ∧ P x w)) ∨ ¬ ((b = -1 ∧ tb left i.toNat = false) ∨ (b ≠ -1 ∧ (tb left i.toNat = false ∨ eM T b.toNat ≤ eM T i.toNat))) := by
    by_cases z : (b = -1 ∧ tb left i.toNat = false) ∨ (b ≠ -1 ∧ (tb left i.toNat = false ∨ eM T b.toNat ≤ eM T i.toNat))
    · refine Or.inl (wp_X9_nextErrand_45 F _ left b i b w' _ (hk _ _ ⟨rfl, by omega, by omega, b, rfl, ?_⟩ q))
      rcases hb with ⟨h1, h2⟩ | ⟨h1, h2, h3, h4⟩
      · refine Or.inl ⟨h1, fun e he => ?_⟩
        by_cases y : e = i.toNat
        · rw [y]
          rcases z with z | z
          · exact z.2
          · exact absurd h1 z.1
        · exact h2 e (by omega)
      · refine Or.inr ⟨h1, by omega, h3, fun e he ht => ?_⟩
        by_cases y : e = i.toNat
        · rcases z with z | ⟨-, z | z⟩
          · omega
          · rw [y, z] at ht; cases ht
          · refine Or.inr ?_
            rw [y]
            unfold elt'
            omega
        · exact h4 e (by omega) ht
    · exact Or.inr z
  have swap : tb left i.toNat = true → (b = -1 ∨ eM T i.toNat < eM T b.toNat) → TT (k_X9_nextErrand_45 F (k_X9_nextErrand_4 F n) [vR 0, vI left, vI b, vI i] [vI i] w') (qq 1 (fun r w => ∃ x, r = some (vI x) ∧ P x w)) := by
    intro ht hlt
    refine wp_X9_nextErrand_45 F _ left b i i w' _ (hk _ _ ⟨rfl, by omega, by omega, i, rfl, Or.inr ⟨hi0, by omega, ht, fun e he he2 => ?_⟩⟩ q)
    by_cases y : e = i.toNat
    · exact Or.inl y
    · refine Or.inr ?_
      rcases hb with ⟨h1, h2⟩ | ⟨h1, h2, h3, h4⟩
      · rw [h2 e (by omega)] at he2; cases he2
      · have hlt : eM T i.toNat < eM T b.toNat := by omega
        rcases h4 e (by omega) he2 with z | z
        · rw [z]; exact Or.inl hlt
        · unfold elt' at z ⊢; omega
  refine ci_has hl hi0 (by omega) (fun ht => br1 ?_) (fun ht => br0 (wp_X9_nextErrand_44 F _ left b i w' _ (keep.resolve_right (fun z => z ?_))))
  · have hbr : -1 ≤ b ∧ b < 14 := by rcases hb with h | h <;> omega
    rw [w_id (x := b) (by omega) (by omega)]
    refine ⟨fun z => wp_X9_nextErrand_40 F _ left b i w' _ (swap ht (Or.inl z)), fun z => ⟨⟨hi0, by omega⟩, ⟨by omega, by omega⟩, ?_⟩⟩
    have hb0 : 0 ≤ b ∧ b < T 3 := by rcases hb with h | h <;> omega
    have m1 := (hH.erra hi0 q).2.2.2
    have m2 := (hH.erra hb0.1 hb0.2).2.2.2
    have r1 := (hT.erra hi0 q).2.2.1
    have r2 := (hT.erra hb0.1 hb0.2).2.2.1
    rw [m1, m2, w_id (x := eM T i) (by omega) (by omega), w_id (x := eM T b) (by omega) (by omega)]
    have hbn : (b.toNat : Int) = b := Int.toNat_of_nonneg hb0.1
    rw [hin, hbn] at swap keep
    exact ⟨fun y => wp_X9_nextErrand_40 F _ left b i w' _ (swap ht (Or.inr y)), fun y => wp_X9_nextErrand_44 F _ left b i w' _ (keep.resolve_right (fun u => u (Or.inr ⟨z, Or.inr (by omega)⟩)))⟩
  · by_cases y : b = -1
    · exact Or.inl ⟨y, ht⟩
    · exact Or.inr ⟨y, Or.inl ht⟩
theorem cv_goAll {F : Nat} {T : Nat → Int} {fr set : Int} {w : AW} {P : AW → Prop} (hF : FB F) (hT : TK T) (hH : HA w T) (hf : w.1 0 28 = fr) (hfr : -1 ≤ fr ∧ fr < 14) (hFA : FAR T (-1) w) (hO : OK T (w.1 10)) (hla : 0 ≤ w.1 0 60 ∧ w.1 0 60 ≤ 100000) (hset : nB set) (hset2 : ∀ e : Nat, tb set e = true → (e : Int) < T 3) (hp : ∀ w', Fr Sday w w' → ZE T (RZ w') (gDay T fr set (RZ w)) → P w') : CV (m_X9_goAll F [vR 0, vI set] w) P := by
  have a0 := hT.1
  have a2 := hT.2.2.1
  have a3 := hT.2.2.2.1
  refine wp_X9_goAll F set w _ ?_
  refine tt_for (K := k_X9_goAll_2 F) (T 2) (fun i w' l => Fr (fun j _ => j = 25 ∨ j = 26) w w' ∧ l = [vR 0, vI set, vI i, vU] ∧ 0 ≤ i ∧ i ≤ T 2 ∧ ∀ p, 0 ≤ p → p < i → w'.1 25 p.toNat = pH T p ∧ w'.1 26 p.toNat = 0) ?_ F 0 _ w (by omega) ⟨Fr.rf, rfl, by omega, by omega, fun p h1 h2 => by omega⟩
  rintro n i l w1 ⟨f1, rfl, hi0, hi1, hw⟩ hk
  have hH1 : HA w1 T := hH.fr f1 (by intro j k; simp only [SHA]; omega)
  have e24 : w1.1 0 24 = T 2 := hH1.2.2.2.1
  rw [ks_X9_goAll_2]
  refine wp_X9_goAll_2 F _ set i w1 _ ?_
  rw [e24, w_id (x := i) (by omega) (by omega), w_id (x := T 2) (by omega) (by omega)]
  refine ⟨fun q => ⟨⟨hi0, by omega⟩, ⟨hi0, by omega⟩, fun w2 e2 => ⟨⟨hi0, by omega⟩, fun w3 e3 => hk _ _ ⟨by rw [e3, e2]; exact (f1.wI _ (by simp)).wI _ (by simp), rfl, by omega, by omega, fun p h1 h2 => ?_⟩ q⟩⟩, fun q => ?_⟩
  · rw [e3, wI_cell _ _ _ _ (by decide), e2, wI_at, wI_at, wI_cell _ _ _ _ (by decide)]
    by_cases z : p = i
    · subst z
      rw [if_pos ⟨rfl, rfl⟩, if_pos ⟨rfl, rfl⟩]
      exact ⟨(hH1.pers hi0 q).2.2, rfl⟩
    · rw [if_neg (by omega), if_neg (by omega)]
      exact hw p h1 (by omega)
  · -- one errand behind the other
    have f1d : Fr Sday w w1 := f1.wk (by intro j k; simp only [Sday]; omega)
    have hmor : ZE T (RZ w1) (gMor T (RZ w)) := by
      refine ⟨fun r hr => f1.I 10 r (by simp), fun p hp' => ?_, fun p hp' => ⟨f1.I 27 p (by simp), f1.I 28 p (by simp), f1.I 29 p (by simp), f1.I 30 p (by simp)⟩, fun r hr => ⟨f1.I 31 r (by simp), f1.I 32 r (by simp)⟩, f1.I 0 60 (by simp), f1.I 0 61 (by simp)⟩
      have := hw p (by omega) (by omega)
      rw [Int.toNat_natCast] at this
      exact this
    have hZB0 : ZB T 0 (RZ w1) := by
      refine ⟨fun r hr => ?_, fun p hp' => ?_, ?_⟩
      · show -1 ≤ w1.1 10 r ∧ w1.1 10 r < T 2
        rw [f1.I 10 r (by simp)]
        have := hO r (by omega) hr
        rw [Int.toNat_natCast] at this
        exact this
      · have h1 := hw p (by omega) (by omega)
        rw [Int.toNat_natCast] at h1
        have h2 := (hT.pers (p := p) (by omega) hp').1
        show (0 ≤ w1.1 25 p ∧ w1.1 25 p < T 0) ∧ (0 ≤ w1.1 26 p ∧ w1.1 26 p ≤ 359 + 240 * 0)
        omega
      · show 0 ≤ w1.1 0 60 ∧ w1.1 0 60 ≤ 100000
        rw [f1.I 0 60 (by simp)]
        exact hla
    have hord := ordl_ok T set
    have hfr1 : w1.1 0 28 = fr := by rw [f1.I 0 28 (by simp)]; exact hf
    have hFA1 : FAR T (-1) w1 := hFA.fr f1 (by simp)
    clear hk hw
    refine tt_loop (K := k_X9_goAll_37 F) (fun m lo w' => ∃ (left : Int) (es : List Nat) (v : AV), m = es.length ∧ lo = [vR 0, vI set, vI left, v] ∧ nB left ∧ Ord T es ∧ (∀ e : Nat, e ∈ es ↔ tb left e = true) ∧ (∀ e ∈ es, (e : Int) < T 3) ∧ es.length ≤ 12 ∧ Fr Sday w w' ∧ ZB T (12 - es.length) (RZ w') ∧ ZE T (gAll T fr es (RZ w')) (gDay T fr set (RZ w))) ?_ (ordl T set).length F _ w1 (by have := hord.2.2; omega) ⟨set, ordl T set, vU, rfl, rfl, hset, hord.1, fun e => ?_, fun e he => ?_, by have := hord.2.2; omega, f1d, ?_, ?_⟩
    · rintro m mm lo w2 ⟨left, es, v, hm, rfl, hl, ho, hmem, hlt, hlen, f2, hZB, hZE⟩ hcont
      have hH2 : HA w2 T := hH.fr f2 (by intro j k; simp only [SHA, Sday]; omega)
      have hfr2 : w2.1 0 28 = fr := by rw [f2.I 0 28 (by simp [Sday])]; exact hf
      have hFA2 : FAR T (-1) w2 := hFA.fr f2 (by simp [Sday])
      rw [ks_X9_goAll_37]
      refine wp_X9_goAll_37 F _ set left v w2 _ ?_
      rw [w_id (x := left) (by have := hl.1; omega) (by have := hl.2; omega)]
      cases es with
      | nil =>
        have hz : left = 0 := tb_ext hl.1 (by decide) (fun i => by
          rw [tb_0]
          cases h : tb left i with
          | false => rfl
          | true => exact absurd ((hmem i).mpr h) (by simp))
        exact ⟨fun _ => q_v (hp w2 f2 hZE), fun z => absurd hz z⟩
      | cons e es =>
        have hbit : tb left e = true := (hmem e).mp List.mem_cons_self
        have he3 := hlt e List.mem_cons_self
        refine ⟨fun z => ?_, fun _ => ci_next hF hT hH2 hl (fun b hb => ?_)⟩
        · rw [z, tb_0] at hbit; cases hbit
        · have hbe : b = (e : Int) := by
            rcases hb with ⟨-, h⟩ | ⟨h1, h2, h3, h4⟩
            · rw [h e he3] at hbit; cases hbit
            · rcases h4 e he3 hbit with h | h
              · omega
              · rcases List.mem_cons.mp ((hmem b.toNat).mpr h3) with z | z
                · omega
                · have := (List.pairwise_cons.mp ho).1 _ z
                  unfold elt' at h this
                  omega
          subst hbe
          have hse : nB (bShl 1 (e : Int)) := bShl_nB (by omega) (by omega)
          obtain ⟨hc1, hc2⟩ := bcl_eq hl hse
          intro left' el
          have her := hT.erra (e := e) (by omega) he3
          refine ci_eW hH2 hT (by omega) he3 (ci_eP hH2 hT (by omega) he3 ⟨⟨by omega, by omega⟩, ?_⟩)
          rw [(hH2.erra (e := e) (by omega) he3).2.2.2]
          have hlen' : (es.length : Int) + 1 ≤ 12 := by simp at hlen; omega
          refine cv_goOne (n := 12 - ((e :: es).length : Int)) hF hT hH2 hfr2 hfr hFA2 hZB (by simp; omega) her.1.1 her.1.2 her.2.1 her.2.2.1 (fun w3 f3 h3 => hcont es.length _ w3 (by simp at hm; omega) ⟨left', es, vI e, rfl, rfl, ?_, (List.pairwise_cons.mp ho).2, fun e' => ?_, fun e' he' => hlt e' (List.mem_cons_of_mem _ he'), by omega, f2.tr f3, ?_, ?_⟩)
          · rw [el]; exact hc1
          · rw [el, hc2, tb_shl (by omega) (by omega), Int.toNat_natCast]
            have hne : e ∉ es := fun z => by have := (List.pairwise_cons.mp ho).1 e z; unfold elt' at this; omega
            have hm2 := hmem e'
            by_cases z : e = e'
            · subst z; simp [hne]
            · have z2 : ¬ e' = e := fun y => z y.symm
              rw [List.mem_cons] at hm2
              simp [z, z2] at hm2 ⊢
              exact hm2
          · have := gOne_ZB (fr := fr) hT her.1.1 her.1.2 her.2.1 her.2.2.1 (n := 12 - ((e :: es).length : Int)) (by simp; omega) hZB
            rw [show 12 - ((e :: es).length : Int) + 1 = 12 - (es.length : Int) from by simp; omega] at this
            exact this.ze h3
          · exact (gAll_congr hT es _ _ (fun e' he' => hlt e' (List.mem_cons_of_mem _ he')) h3).tr hZE
    · rw [hord.2.1 e]
      exact ⟨fun z => z.2, fun z => ⟨by have := hset2 e z; omega, z⟩⟩
    · have := (hord.2.1 e).mp he; omega
    · have : (ordl T set).length ≤ 12 := by have := hord.2.2; omega
      refine ⟨hZB0.1, fun p hp' => ⟨(hZB0.2.1 p hp').1, (hZB0.2.1 p hp').2.1, ?_⟩, hZB0.2.2⟩
      have := (hZB0.2.1 p hp').2.2
      omega
    · exact gAll_congr hT _ _ _ (fun e he => by have := (hord.2.1 e).mp he; omega) hmor
