/-! WAYS AND ROUNDS -/
theorem kp_ne (acc : Option Cd) (x : Cd) : kp acc x ≠ none := by
  cases acc with
  | none => rw [kp_none]; simp
  | some y =>
    by_cases h : bt x y
    · rw [kp_pos h]; simp
    · rw [kp_neg h]; simp
theorem fold_ne : ∀ (l : List Cd) (acc : Option Cd), acc ≠ none → l.foldl kp acc ≠ none
  | [], _, h => h
  | x :: l, acc, _ => fold_ne l (kp acc x) (kp_ne acc x)
theorem bst_back {T O O' : Nat → Int} {fr fr' p p' kind kind' mi mi' fm to : Int} {x : Cd} (hT : TK T) (hne : fm ≠ to) (hfm : 0 ≤ fm ∧ fm < T 0) (hto : 0 ≤ to ∧ to < T 0) (h : bst T fr O p kind mi fm to = some x) : ∃ y, bst T fr' O' p' kind' mi' to fm = some y := by
  have hx := (bst_row hT h).1
  by_cases hw : ∀ n m, ¬ Wk (Jt T (-1)) n fm to m
  · rw [bst_none hne hw] at hx
    cases hx
  · have ⟨n, hw1⟩ := Classical.not_forall.mp hw
    have ⟨m, hw2⟩ := Classical.not_forall.mp hw1
    have hwk := Classical.not_not.mp hw2
    have hr := Wk_rev (Jt_ok hT (-1)) n fm to m hwk
    obtain ⟨d, hd, _⟩ := Ds_ex (Jt_ok hT (-1)) hr
    obtain ⟨z, hz, _⟩ := bsl_short (fr := fr') (O := O') (p := p') (kind := kind') (mi := mi') hT (fun e => hne e.symm) hto hfm hd
    have : bst T fr' O' p' kind' mi' to fm ≠ none := by
      unfold bst
      cases hl : bsl T fr' O' p' kind' mi' to fm with
      | nil => rw [hl] at hz; cases hz
      | cons a l => exact fold_ne l _ (by rw [kp_none]; simp)
    cases hb : bst T fr' O' p' kind' mi' to fm with
    | none => exact absurd hb this
    | some y => exact ⟨y, rfl⟩
theorem wO_OK {T O : Nat → Int} {fr p bg : Int} {rs : List Nat} (hO : OK T O) (hp0 : 0 ≤ p) (hp1 : p < T 2) : OK T (wO T fr O p bg rs) := by
  intro r h0 h1
  have hr0 := hO r h0 h1
  unfold wO
  by_cases z : r.toNat ∈ rs
  · rw [if_pos z]
    by_cases c : cms T fr O p r.toNat (tmA T bg rs r.toNat)
    · rw [obh_y c]; omega
    · rw [obh_n c, Int.toNat_natCast]; exact hr0
  · rw [if_neg z]; exact hr0
theorem wO_congr {T O O' : Nat → Int} {fr p bg : Int} {rs : List Nat} {r : Nat} (h : O r = O' r) : wO T fr O p bg rs r = wO T fr O' p bg rs r := by
  unfold wO
  by_cases z : r ∈ rs
  · rw [if_pos z, if_pos z]
    have e : O (r : Int).toNat = O' (r : Int).toNat := by rw [Int.toNat_natCast]; exact h
    by_cases c : cms T fr O p r (tmA T bg rs r)
    · rw [obh_y c, obh_y ((cms_congr e).mp c)]
    · rw [obh_n c, obh_n (fun z => c ((cms_congr e).mpr z)), e]
  · rw [if_neg z, if_neg z]; exact h
def pwy (T : Nat → Int) (p kind mi fm to : Int) : Prop := (0 ≤ p ∧ p < T 2) ∧ (0 ≤ kind ∧ kind ≤ 2) ∧ (0 ≤ mi ∧ mi ≤ 999) ∧ (0 ≤ fm ∧ fm < T 0) ∧ (0 ≤ to ∧ to < T 0) ∧ fm ≠ to
noncomputable def wyo (m md : Int) (T D : Nat → Int) (t d n p kind mi fm to : Int) : Option Cd := by
  classical
  exact if lys m md T D t d n ∧ pwy T p kind mi fm to then bst T (-1) (lsr T D n 0) p kind mi fm to else none
/-- how a row of roads is told -/
def rowT (x : List Nat) (a o : Int) : Int := if a = 0 then x.length else if 10 ≤ a ∧ a < 10 + x.length then (x.getD (a - 10).toNat 0 : Nat) else o
noncomputable def aWay (m md : Int) (T D : Nat → Int) (t d n p kind mi fm to a : Int) : Int := match wyo m md T D t d n p kind mi fm to with
  | none => -2
  | some x => if a = 1 then sumL (fun r => rM T r) x.2.2 else if a = 2 then sumL (fun r => pys T (-1) (lsr T D n 0) p r) x.2.2 else rowT x.2.2 a (-2)
theorem ci_minuteC {F : Nat} {mi : Int} {w : AW} {P : Int → AW → Prop} (h : iR mi) (h1 : 0 ≤ mi ∧ mi ≤ 999 → P 1 w) (h0 : ¬ (0 ≤ mi ∧ mi ≤ 999) → P 0 w) : CI (m_X8_isMinute F [vI mi] w) P := by
  refine wp_X8_isMinute F mi w _ ?_
  rw [w_id h.1 h.2]
  exact ⟨fun q => q_z0 (h0 (by omega)), fun q => ⟨fun q2 => q_z0 (h0 (by omega)), fun q2 => q_z1 (h1 (by omega))⟩⟩
theorem ssk_KQ {w w' : AW} (h : Fr Ssk w w') : KQ w w' := h.KQ (by intro j k; simp only [Ssk]; omega)
theorem ci_findWay {F : Nat} {j : Nat} {n p kind mi fm to : Int} {w : AW} {T : Nat → Int} {A : RS} {P : Int → AW → Prop} (hF : FB F) (hj : isTw j) (hja : apart j) (hC : CA w j T) (hT : TK T) (hE : RE T (RCl w) A) (hB : RBd T n A) (hp : iR p) (hk : iR kind) (hm : iR mi) (hf : iR fm) (ht : iR to) (h0 : ¬ pwy T p kind mi fm to ∨ bst T (-1) (A 0) p kind mi fm to = none → ∀ w', KQ w w' → P 0 w') (h1 : ∀ x w' K, pwy T p kind mi fm to → bst T (-1) (A 0) p kind mi fm to = some x → KQ w w' → HX j 222 T (A 0) p kind w' → BC w' K (some x) → P 1 w') : CI (m_X8_findWay F [vR 34, vR j, vI p, vI kind, vI mi, vI fm, vI to] w) P := by
  have hO : OK T (A 0) := fun r h0 h1 => hB.1 r.toNat (by omega)
  refine wp_X8_findWay F j hj p kind mi fm to w _ ?_
  rw [w_id hk.1 hk.2]
  refine ci_hasPerson hj hC hT hp (fun z1 => br1 ⟨fun q => q_z0 (h0 (Or.inl (fun y => by have := y.2.1; omega)) w KQ.rf), fun q => ⟨fun q2 => q_z0 (h0 (Or.inl (fun y => by have := y.2.1; omega)) w KQ.rf), fun q2 => ?_⟩⟩) (fun z1 => br0 (q_z0 (h0 (Or.inl (fun y => z1 y.1)) w KQ.rf)))
  refine ci_minuteC hm (fun z2 => br1 ?_) (fun z2 => br0 (q_z0 (h0 (Or.inl (fun y => z2 y.2.2.1)) w KQ.rf)))
  refine ci_hasPlace hj hC hT hf (fun z3 => br1 ?_) (fun z3 => br0 (q_z0 (h0 (Or.inl (fun y => z3 y.2.2.2.1)) w KQ.rf)))
  refine ci_hasPlace hj hC hT ht (fun z4 => br1 ?_) (fun z4 => br0 (q_z0 (h0 (Or.inl (fun y => z4 y.2.2.2.2.1)) w KQ.rf)))
  refine cv_layOut hF hj hja hC hT (fun w1 f1 hCH => ?_)
  have k1 : KQ w w1 := f1.KQ (by intro j k; simp only [Sch]; omega)
  have hC1 : CA w1 j T := hC.fr f1 (by intro a k h1 h2; simp only [Sch]; unfold apart at hja; omega)
  refine cv_take (O := A 0) hj hja ⟨rfl, rfl⟩ (Or.inl rfl) hC1 hCH (fun r h0 h1 => ?_) (fun w2 f2 hX => ?_)
  · rw [f1.I 222 _ (by first | (simp [Sch]; done) | (simp only [Sch]; omega))]
    exact hE.1 r.toNat (by omega)
  · have k2 : KQ w w2 := k1.tr (f2.KQ (by intro j k; omega))
    refine ci_seekWay hF hj hja ⟨rfl, rfl⟩ (Or.inl rfl) hX hT hO z1.1 z1.2 (by omega) (by omega) z3 z4 (fun hn w3 f3 => q_z0 (h0 ?_ w3 (k2.tr (ssk_KQ f3)))) (fun x w3 K hne hb f3 hBC => q_z1 (h1 x w3 K ⟨z1, by omega, z2, z3, z4, hne⟩ hb (k2.tr (ssk_KQ f3)) ?_ hBC))
    · rcases hn with y | y
      · exact Or.inl (fun z => z.2.2.2.2.2 y)
      · exact Or.inr y
    · exact hX.fr f3 (by intro a k; simp only [SHX, Ssk]; unfold apart at hja; omega)
theorem ci_tellRow {F : Nat} {K a o : Int} {x : Cd} {w : AW} {P : Int → AW → Prop} (hB : BC w K (some x)) (hl : x.2.2.length ≤ 9) (ha : iR a) (h : P (rowT x.2.2 a o) w) : CI (m_X3_tellRow F [vR 227, vI a, vI o] w) P := by
  obtain ⟨b1, b2, b3, b4, b5⟩ := hB
  unfold rowT at h
  refine wp_X3_tellRow F a o w _ ?_
  rw [b2, w_id ha.1 ha.2, w_id (x := 10 + (x.2.2.length : Int)) (by omega) (by omega)]
  refine ⟨fun q => q_i (by rw [if_pos q] at h; exact h), fun q => ⟨fun q2 => q_i (by rw [if_neg q, if_neg (by omega)] at h; exact h), fun q2 => ⟨fun q3 => ⟨⟨by omega, by omega⟩, q_i ?_⟩, fun q3 => q_i (by rw [if_neg q, if_neg (by omega)] at h; exact h)⟩⟩⟩
  rw [if_neg q, if_pos (by omega)] at h
  rw [b5 _ (by omega)]
  exact h
theorem getD_mem {l : List Nat} {i : Nat} (h : i < l.length) : l.getD i 0 ∈ l := by
  rw [List.getD_eq_getElem?_getD, List.getElem?_eq_getElem h]
  exact List.getElem_mem h
theorem take_snoc {l : List Nat} {i : Nat} (h : i < l.length) : l.take (i + 1) = l.take i ++ [l.getD i 0] := by
  rw [List.getD_eq_getElem?_getD, List.getElem?_eq_getElem h, List.take_add_one, List.getElem?_eq_getElem h]
  rfl
theorem ci_tollC {F : Nat} {j : Nat} {T O : Nat → Int} {p kind K : Int} {x : Cd} {w : AW} {P : Int → AW → Prop} (hF : FB F) (hj : isTw j) (hX : HX j 222 T O p kind w) (hT : TK T) (hO : OK T O) (hp : iR p) (hB : BC w K (some x)) (hl : x.2.2.length ≤ 9) (hr : ∀ r ∈ x.2.2, r < (T 1).toNat) (h : P (sumL (fun r => pys T (-1) O p r) x.2.2) w) : CI (m_X3_tollOfBest F [vR 227] w) P := by
  obtain ⟨b1, b2, b3, b4, b5⟩ := hB
  refine wp_X3_tollOfBest F w _ ?_
  refine tt_for (K := k_X3_tollOfBest_4 F) (x.2.2.length : Int) (fun i w' l => w' = w ∧ l = [vR 227, vI (sumL (fun r => pys T (-1) O p r) (x.2.2.take i.toNat)), vI i] ∧ 0 ≤ i ∧ i ≤ x.2.2.length) ?_ F 0 _ w (by omega) ⟨rfl, rfl, by omega, by omega⟩
  rintro m i l w3 ⟨rfl, rfl, hi0, hi1⟩ hk
  rw [ks_X3_tollOfBest_4]
  refine wp_X3_tollOfBest_4 F _ _ i w3 _ ?_
  rw [b2, w_id (x := i) (by omega) (by omega), w_id (x := (x.2.2.length : Int)) (by omega) (by omega)]
  refine ⟨fun q => ⟨⟨by omega, by omega⟩, ?_⟩, fun q => q_i ?_⟩
  · have hm := hr _ (getD_mem (l := x.2.2) (i := i.toNat) (by omega))
    rw [b5 _ (by omega)]
    refine ci_toll hj ⟨rfl, rfl⟩ hX hT hO hp (by omega) (by omega) (fun x5 hx5 => hk _ _ ⟨rfl, ?_, by omega, by omega⟩ q)
    rw [hx5, show (i + 1).toNat = i.toNat + 1 from by omega, take_snoc (by omega), sumL_snoc]
  · rw [show i.toNat = x.2.2.length from by omega, List.take_length]
    exact h
theorem sum_map_sumL {f : Nat → Int} {l : List Nat} : (l.map f).sum = sumL f l := rfl
theorem cc_way {F : Nat} {t d n p kind mi fm to a : Int} {w : AW} {P : Int → AW → Prop} (hF : FB F) (hI : TwI w) (hJ : DyI w) (ht : iR t) (hd : iR d) (hn : iR n) (hpr : iR p) (hk : iR kind) (hm : iR mi) (hf : iR fm) (hto : iR to) (ha : iR a) (hp : ∀ w', KQ w w' → P (aWay (w.1 5 0) (w.1 5 1) (TR w t) (DR w d) t d n p kind mi fm to a) w') : CI (m_X8_way F [vR 34, vI t, vI d, vI n, vI p, vI kind, vI mi, vI fm, vI to, vI a] w) P := by
  have no : wyo (w.1 5 0) (w.1 5 1) (TR w t) (DR w d) t d n p kind mi fm to = none → ∀ w', KQ w w' → P (-2) w' := fun hz w' k' => by
    have := hp w' k'
    unfold aWay at this
    rw [hz] at this
    exact this
  refine wp_X8_way F t d n p kind mi fm to a w _ (cr_stateC hF hI hJ ht hd hn (fun hl hT htw hap w1 f1 hC1 hE1 => ⟨fun q => (by cases q), fun j hj => ?_⟩) (fun hl w1 k1 => ⟨fun _ => q_i (no (by unfold wyo; rw [if_neg (fun y => hl y.1)]) w1 k1), fun j hj => (by cases hj)⟩))
  cases hj
  have k1 := scru_KQ f1
  obtain ⟨hB1, hnb⟩ := lsr_b hT (fun y => (hJ.2.2 d y.1 y.2).1) hl
  have hO : OK (TR w t) (lsr (TR w t) (DR w d) n 0) := fun r h0 h1 => hB1.1 r.toNat (by omega)
  refine ci_findWay hF htw hap hC1 hT hE1 hB1 hpr hk hm hf hto (fun hz w2 k2 => br0 (q_i (no ?_ w2 (k1.tr k2)))) (fun x w2 K hw hb k2 hX hBC => br1 ?_)
  · unfold wyo
    by_cases y : lys (w.1 5 0) (w.1 5 1) (TR w t) (DR w d) t d n ∧ pwy (TR w t) p kind mi fm to
    · rw [if_pos y]
      rcases hz with z | z
      · exact absurd y.2 z
      · exact z
    · rw [if_neg y]
  · have hrow := bst_row hT hb
    have := hp w2 (k1.tr k2)
    unfold aWay wyo at this
    rw [if_pos ⟨hl, hw⟩, hb] at this
    simp only [] at this
    rw [w_id ha.1 ha.2]
    refine ⟨fun q => q_i ?_, fun q => ⟨fun q2 => ?_, fun q2 => ?_⟩⟩
    · rw [if_pos q] at this
      rw [hBC.2.2.1, hrow.2.2.2.2, sum_map_sumL, show mi + sumL (fun r : Nat => rM (TR w t) r) x.2.2 - mi = sumL (fun r : Nat => rM (TR w t) r) x.2.2 from by omega]
      exact this
    · rw [if_neg q, if_pos q2] at this
      exact ci_tollC hF htw hX hT hO hpr hBC (by omega) hrow.2.2.2.1 (q_i this)
    · rw [if_neg q, if_neg q2] at this
      exact ci_tellRow hBC (by omega) ha (q_i this)
/-! the reference -/
theorem RG_fr {T : Nat → Int} {w w' : AW} {A : RS} {S : Nat → Nat → Prop} (h : RE T (RG w) A) (f : Fr S w w') (hs : ∀ j k, Srun j k → ¬ S j k) : RE T (RG w') A := by
  obtain ⟨e0, e1, e4, e50, e51, e52⟩ := h
  refine ⟨fun r hr => ?_, fun q hq => ⟨?_, ?_, ?_⟩, fun k hk => ?_, ?_, ?_, ?_⟩
  · exact (f.I 10 r (hs _ _ (by first | (simp [Srun]; done) | (simp only [Srun]; omega)))).trans (e0 r hr)
  · exact (f.I 12 q (hs _ _ (by first | (simp [Srun]; done) | (simp only [Srun]; omega)))).trans (e1 q hq).1
  · exact (f.I 13 q (hs _ _ (by first | (simp [Srun]; done) | (simp only [Srun]; omega)))).trans (e1 q hq).2.1
  · exact (f.I 14 q (hs _ _ (by first | (simp [Srun]; done) | (simp only [Srun]; omega)))).trans (e1 q hq).2.2
  · exact (f.I 15 k (hs _ _ (by first | (simp [Srun]; done) | (simp only [Srun]; omega)))).trans (e4 k hk)
  · exact (f.I 0 33 (hs _ _ (by first | (simp [Srun]; done) | (simp only [Srun]; omega)))).trans e50
  · exact (f.I 0 34 (hs _ _ (by first | (simp [Srun]; done) | (simp only [Srun]; omega)))).trans e51
  · exact (f.I 0 35 (hs _ _ (by first | (simp [Srun]; done) | (simp only [Srun]; omega)))).trans e52
theorem sfi_KQ {w w' : AW} (h : Fr Sfind w w') : KQ w w' := h.KQ (by intro j k; simp only [Sfind]; omega)
theorem RG_OK {T : Nat → Int} {w : AW} {A : RS} {n : Int} (hT : TK T) (h : RE T (RG w) A) (hB : RBd T n A) : OK T (w.1 10) := fun r h0 h1 => by
  have := hB.1 r.toNat (by omega)
  have : w.1 10 r.toNat = A 0 r.toNat := h.1 r.toNat (by omega)
  omega
theorem ci_layWay {F : Nat} {t d n p kind mi fm to : Int} {w w1 : AW} {P : Int → AW → Prop} (hF : FB F) (hI : TwI w) (hJ : DyI w) (hw : w1 = wI w 0 0 0) (ht : iR t) (hd : iR d) (hn : iR n) (hpr : iR p) (hk : iR kind) (hm : iR mi) (hf : iR fm) (hto : iR to) (h0 : wyo (w.1 5 0) (w.1 5 1) (TR w t) (DR w d) t d n p kind mi fm to = none → ∀ w', KQ w w' → P 0 w') (h1 : ∀ x w', lys (w.1 5 0) (w.1 5 1) (TR w t) (DR w d) t d n → pwy (TR w t) p kind mi fm to → bst (TR w t) (-1) (lsr (TR w t) (DR w d) n 0) p kind mi fm to = some x → TK (TR w t) → KQ w w' → HA w' (TR w t) → w'.1 0 28 = -1 → RE (TR w t) (RG w') (lsr (TR w t) (DR w d) n) → BI w' (some x) → P 1 w') : CI (m_X9_layWay F [vR 0, vI t, vI d, vI n, vI p, vI kind, vI mi, vI fm, vI to] w1) P := by
  have no : ¬ (lys (w.1 5 0) (w.1 5 1) (TR w t) (DR w d) t d n ∧ pwy (TR w t) p kind mi fm to) → ∀ w', KQ w w' → P 0 w' := fun hz => h0 (by unfold wyo; rw [if_neg hz])
  refine wp_X9_layWay F t d n p kind mi fm to w1 _ (ci_layS hF hI hJ hw ht hd hn (fun hl hT w2 k2 hH p28 p29 hE => br1 ?_) (fun hl w2 k2 => br0 (q_z0 (no (fun y => hl y.1) w2 k2))))
  have a0 := hT.1
  obtain ⟨hB1, hnb⟩ := lsr_b hT (fun y => (hJ.2.2 d y.1 y.2).1) hl
  refine ci_isPerson hH hT hpr (fun z1 => br1 ?_) (fun z1 => br0 (q_z0 (no (fun y => z1 y.2.1) w2 k2)))
  refine ci_in hk (by decide) (by decide) (fun z2 => br1 ?_) (fun z2 => br0 (q_z0 (no (fun y => z2 y.2.2.1) w2 k2)))
  refine ci_in hm (by decide) (by decide) (fun z3 => br1 ?_) (fun z3 => br0 (q_z0 (no (fun y => z3 y.2.2.2.1) w2 k2)))
  refine ci_isPlace hH hT hf (fun z4 => br1 ?_) (fun z4 => br0 (q_z0 (no (fun y => z4 y.2.2.2.2.1) w2 k2)))
  refine ci_isPlace hH hT hto (fun z5 => br1 ?_) (fun z5 => br0 (q_z0 (no (fun y => z5 y.2.2.2.2.2.1) w2 k2)))
  rw [w_id hf.1 hf.2, w_id hto.1 hto.2]
  refine ⟨fun q => q_z0 (no (fun y => y.2.2.2.2.2.2 q) w2 k2), fun q => ?_⟩
  have hbc : bst (TR w t) (-1) (w2.1 10) p kind mi fm to = bst (TR w t) (-1) (lsr (TR w t) (DR w d) n 0) p kind mi fm to := bst_congr (fun r hr => hE.1 r hr)
  have hpw : pwy (TR w t) p kind mi fm to := ⟨z1, z2, z3, z4, z5, q⟩
  refine ci_finds hF hT (RG_OK hT hE hB1) ⟨hH, rfl, p28⟩ (by omega) z1.1 z1.2 z2 (by omega) z4 z5 (fun x w3 f3 hBI hAB _ hx => ?_)
  rw [hbc] at hBI hAB hx
  have k3 := k2.tr (sfi_KQ f3)
  rcases hx with ⟨rfl, hx⟩ | ⟨rfl, hx⟩
  · cases hb : bst (TR w t) (-1) (lsr (TR w t) (DR w d) n 0) p kind mi fm to with
    | none => exact absurd hb hx
    | some y =>
      rw [hb] at hBI
      refine br1 (q_z1 (h1 y w3 hl hpw hb hT k3 (hH.fr f3 (by intro j k; simp only [SHA, Sfind]; omega)) ?_ (RG_fr hE f3 (by intro j k; simp only [Srun, Sfind]; omega)) hBI))
      rw [f3.I 0 28 (by first | (simp [Sfind]; done) | (simp only [Sfind]; omega))]
      exact p28
  · exact br0 (q_z0 (h0 (by unfold wyo; rw [if_pos ⟨hl, hpw⟩]; exact hx) w3 k3))
theorem cr_way {F : Nat} {t d n p kind mi fm to a : Int} {w : AW} {P : Int → AW → Prop} (hF : FB F) (hI : TwI w) (hJ : DyI w) (ht : iR t) (hd : iR d) (hn : iR n) (hpr : iR p) (hk : iR kind) (hm : iR mi) (hf : iR fm) (hto : iR to) (ha : iR a) (hp : ∀ w', KQ w w' → P (aWay (w.1 5 0) (w.1 5 1) (TR w t) (DR w d) t d n p kind mi fm to a) w') : CI (m_X9_way F [vR 0, vI t, vI d, vI n, vI p, vI kind, vI mi, vI fm, vI to, vI a] w) P := by
  refine wp_X9_way F t d n p kind mi fm to a w _ (fun w0 e0 => ci_layWay hF hI hJ e0 ht hd hn hpr hk hm hf hto (fun hz w1 k1 => br0 (q_i ?_)) (fun x w1 hl hw hb hT k1 hH p28 hE hBI => br1 ?_))
  · have := hp w1 k1
    unfold aWay at this
    rw [hz] at this
    exact this
  · have hrow := bst_row hT hb
    have hgo := hp w1 k1
    unfold aWay wyo at hgo
    rw [if_pos ⟨hl, hw⟩, hb] at hgo
    simp only [] at hgo
    obtain ⟨hB1, hnb⟩ := lsr_b hT (fun y => (hJ.2.2 d y.1 y.2).1) hl
    obtain ⟨b1, b2, b3, b4⟩ := id hBI
    have hlen := hrow.2.2.1
    have hO := RG_OK hT hE hB1
    unfold rowT at hgo
    rw [b2]
    refine ci_in ha (by decide) ⟨by omega, by omega⟩ (fun z => br1 ⟨⟨by omega, by omega⟩, q_i ?_⟩) (fun z => br0 ?_)
    · rw [if_neg (by omega), if_neg (by omega), if_neg (by omega), if_pos (by omega)] at hgo
      rw [b4 _ (by omega)]
      exact hgo
    refine tt_for (K := k_X9_way_62 F) (x.2.2.length : Int) (fun i w' l => w' = w1 ∧ l = [vR 0, vI t, vI d, vI n, vI p, vI kind, vI mi, vI fm, vI to, vI a, vI (sumL (fun r => pys (TR w t) (-1) (w1.1 10) p r) (x.2.2.take i.toNat)), vI i] ∧ 0 ≤ i ∧ i ≤ x.2.2.length) ?_ F 0 _ w1 (by omega) ⟨rfl, rfl, by omega, by omega⟩
    rintro m i l w3 ⟨rfl, rfl, hi0, hi1⟩ hkk
    rw [ks_X9_way_62]
    refine wp_X9_way_62 F _ t d n p kind mi fm to a _ i w3 _ ?_
    rw [b2, w_id (x := i) (by omega) (by omega), w_id (x := (x.2.2.length : Int)) (by omega) (by omega), w_id ha.1 ha.2]
    refine ⟨fun q => ⟨⟨by omega, by omega⟩, ?_⟩, fun q => ⟨fun q2 => q_i ?_, fun q2 => ⟨fun q3 => ci_minutes hF hT hH hBI (by omega) hrow.2.2.2.1 (q_i ?_), fun q3 => ⟨fun q4 => q_i ?_, fun q4 => q_i ?_⟩⟩⟩⟩
    · have hmm := hrow.2.2.2.1 _ (getD_mem (l := x.2.2) (i := i.toNat) (by omega))
      rw [b4 _ (by omega)]
      refine ci_pays hH hT hO p28 (by omega) hpr (by omega) (by omega) (fun x5 hx5 => hkk _ _ ⟨rfl, ?_, by omega, by omega⟩ q)
      rw [hx5, show (i + 1).toNat = i.toNat + 1 from by omega, take_snoc (by omega), sumL_snoc]
    · rw [if_neg (by omega), if_neg (by omega), if_pos q2] at hgo
      exact hgo
    · rw [if_pos q3] at hgo
      exact hgo
    · rw [if_neg (by omega), if_pos q4] at hgo
      rw [show i.toNat = x.2.2.length from by omega, List.take_length]
      have : sumL (fun r => pys (TR w t) (-1) (w3.1 10) p r) x.2.2 = sumL (fun r => pys (TR w t) (-1) (lsr (TR w t) (DR w d) n 0) p r) x.2.2 := sumL_congr (fun r hr => by
        have h1 := hrow.2.2.2.1 r hr
        have : w3.1 10 r = lsr (TR w t) (DR w d) n 0 r := hE.1 r (by omega)
        unfold pys
        rw [Int.toNat_natCast, this])
      rw [this]
      exact hgo
    · rw [if_neg (by omega), if_neg (by omega), if_neg (by omega), if_neg (by omega)] at hgo
      exact hgo
/-! COST -/
noncomputable def aCost (m md : Int) (T D : Nat → Int) (t d n p kind mi fm to back : Int) : Int := match wyo m md T D t d n p kind mi fm to with
  | none => -9223372036854775808
  | some x => if back = 0 then x.1 else (match bst T (-1) (wO T (-1) (lsr T D n 0) p mi x.2.2) p kind x.2.1 to fm with | none => -9223372036854775808 | some y => x.1 + y.1)
theorem cc_cost {F : Nat} {t d n p kind mi fm to back : Int} {w : AW} {P : Int → AW → Prop} (hF : FB F) (hI : TwI w) (hJ : DyI w) (ht : iR t) (hd : iR d) (hn : iR n) (hpr : iR p) (hk : iR kind) (hm : iR mi) (hf : iR fm) (hto : iR to) (hbk : iR back) (hp : ∀ w', KQ w w' → P (aCost (w.1 5 0) (w.1 5 1) (TR w t) (DR w d) t d n p kind mi fm to back) w') : CL (m_X8_cost F [vR 34, vI t, vI d, vI n, vI p, vI kind, vI mi, vI fm, vI to, vI back] w) P := by
  have no : wyo (w.1 5 0) (w.1 5 1) (TR w t) (DR w d) t d n p kind mi fm to = none → ∀ w', KQ w w' → P (-9223372036854775808) w' := fun hz w' k' => by
    have := hp w' k'
    unfold aCost at this
    rw [hz] at this
    exact this
  refine wp_X8_cost F t d n p kind mi fm to back w _ (cr_stateC hF hI hJ ht hd hn (fun hl hT htw hap w1 f1 hC1 hE1 => ⟨fun q => (by cases q), fun j hj => ?_⟩) (fun hl w1 k1 => ⟨fun _ => q_l (no (by unfold wyo; rw [if_neg (fun y => hl y.1)]) w1 k1), fun j hj => (by cases hj)⟩))
  cases hj
  have k1 := scru_KQ f1
  obtain ⟨hB1, hnb⟩ := lsr_b hT (fun y => (hJ.2.2 d y.1 y.2).1) hl
  have hO : OK (TR w t) (lsr (TR w t) (DR w d) n 0) := fun r h0 h1 => hB1.1 r.toNat (by omega)
  refine ci_findWay hF htw hap hC1 hT hE1 hB1 hpr hk hm hf hto (fun hz w2 k2 => br0 (q_l (no ?_ w2 (k1.tr k2)))) (fun x w2 K hw hb k2 hX hBC => br1 ?_)
  · unfold wyo
    by_cases y : lys (w.1 5 0) (w.1 5 1) (TR w t) (DR w d) t d n ∧ pwy (TR w t) p kind mi fm to
    · rw [if_pos y]
      rcases hz with z | z
      · exact absurd y.2 z
      · exact z
    · rw [if_neg y]
  · have hrow := bst_row hT hb
    obtain ⟨w1', w2', w3', w4', w5', w6'⟩ := id hw
    have hmin := bst_mins hT w1'.1 w1'.2 w3'.1 w6' hb
    have hgo : ∀ w', KQ w w' → P (if back = 0 then x.1 else (match bst (TR w t) (-1) (wO (TR w t) (-1) (lsr (TR w t) (DR w d) n 0) p mi x.2.2) p kind x.2.1 to fm with | none => -9223372036854775808 | some y => x.1 + y.1)) w' := fun w' k' => by
      have := hp w' k'
      unfold aCost wyo at this
      rw [if_pos ⟨hl, hw⟩, hb] at this
      exact this
    intro x10 hx10
    rw [hBC.2.2.2.1] at hx10
    subst hx10
    rw [w_id hbk.1 hbk.2]
    refine ⟨fun q => q_l ?_, fun q => ?_⟩
    · have := hgo w2 (k1.tr k2)
      rw [if_pos q] at this
      exact this
    · refine cv_takeRoads hF htw hap ⟨rfl, rfl⟩ (Or.inl rfl) hX hT hO hB1.2.2.2 w1'.1 w1'.2 (by omega) hBC (by omega) hmin.2.2 hrow.2.2.2.1 (fun w3 f3 h3 => ?_)
      have k3 : KQ w w3 := (k1.tr k2).tr (f3.KQ (by intro j k; omega))
      have e3 : w3.1 227 3 = x.2.1 := by rw [f3.I 227 3 (by omega)]; exact hBC.2.2.1
      have hX3 : HX (38 + 14 * t.toNat) 222 (TR w t) (wO (TR w t) (-1) (lsr (TR w t) (DR w d) n 0) p mi x.2.2) p kind w3 := by
        obtain ⟨x1, x2, x3, x4, x5, x6, x7⟩ := hX
        refine ⟨by rw [f3.2]; exact x1, by rw [f3.2]; exact x2, x3.fr f3 (by intro a k h1 h2; unfold apart at hap; omega), x4.fr f3 (by intro a k h1 h2; omega), by rw [f3.I 227 12 (by omega)]; exact x5, by rw [f3.I 227 13 (by omega)]; exact x6, fun r h0 h1 => ?_⟩
        exact h3 r.toNat (by omega)
      rw [e3]
      obtain ⟨y, hy⟩ := bst_back (fr' := -1) (O' := wO (TR w t) (-1) (lsr (TR w t) (DR w d) n 0) p mi x.2.2) (p' := p) (kind' := kind) (mi' := x.2.1) hT w6' w4' w5' hb
      refine ci_seekWay hF htw hap ⟨rfl, rfl⟩ (Or.inl rfl) hX3 hT (wO_OK hO w1'.1 w1'.2) w1'.1 w1'.2 w2' (by omega) w5' w4' (fun hz => ?_) (fun z w4 K2 _ hz f4 hB4 => br1 (q_l ?_))
      · exfalso
        rcases hz with hz | hz
        · exact w6' hz.symm
        · rw [hy] at hz; cases hz
      · have := hgo w4 (k3.tr (ssk_KQ f4))
        rw [if_neg q, hz] at this
        rw [hB4.2.2.2.1]
        exact this
theorem cr_cost {F : Nat} {t d n p kind mi fm to back : Int} {w : AW} {P : Int → AW → Prop} (hF : FB F) (hI : TwI w) (hJ : DyI w) (ht : iR t) (hd : iR d) (hn : iR n) (hpr : iR p) (hk : iR kind) (hm : iR mi) (hf : iR fm) (hto : iR to) (hbk : iR back) (hp : ∀ w', KQ w w' → P (aCost (w.1 5 0) (w.1 5 1) (TR w t) (DR w d) t d n p kind mi fm to back) w') : CL (m_X9_cost F [vR 0, vI t, vI d, vI n, vI p, vI kind, vI mi, vI fm, vI to, vI back] w) P := by
  refine wp_X9_cost F t d n p kind mi fm to back w _ (fun w0 e0 => ci_layWay hF hI hJ e0 ht hd hn hpr hk hm hf hto (fun hz w1 k1 => br0 (q_l ?_)) (fun x w1 hl hw hb hT k1 hH p28 hE hBI => br1 ?_))
  · have := hp w1 k1
    unfold aCost at this
    rw [hz] at this
    exact this
  · have hrow := bst_row hT hb
    obtain ⟨w1', w2', w3', w4', w5', w6'⟩ := id hw
    have hmin := bst_mins hT w1'.1 w1'.2 w3'.1 w6' hb
    obtain ⟨hB1, hnb⟩ := lsr_b hT (fun y => (hJ.2.2 d y.1 y.2).1) hl
    have hO := RG_OK hT hE hB1
    have hgo : ∀ w', KQ w w' → P (if back = 0 then x.1 else (match bst (TR w t) (-1) (wO (TR w t) (-1) (lsr (TR w t) (DR w d) n 0) p mi x.2.2) p kind x.2.1 to fm with | none => -9223372036854775808 | some y => x.1 + y.1)) w' := fun w' k' => by
      have := hp w' k'
      unfold aCost wyo at this
      rw [if_pos ⟨hl, hw⟩, hb] at this
      exact this
    intro x7 hx7
    rw [hBI.2.2.1] at hx7
    subst hx7
    rw [w_id hbk.1 hbk.2]
    refine ⟨fun q => q_l ?_, fun q => ci_minutes hF hT hH hBI (by omega) hrow.2.2.2.1 (fun x13 hx13 => ?_)⟩
    · have := hgo w1 k1
      rw [if_pos q] at this
      exact this
    · rw [← hrow.2.2.2.2] at hx13
      subst hx13
      refine cv_walk hF hT hH hO p28 (by omega) w1'.1 w1'.2 (by omega) hBI (by omega) hmin.2.2 hrow.2.2.2.1 (fun w2 f2 h10 _ _ _ _ _ => ?_)
      have k2 : KQ w w2 := k1.tr (f2.KQ (by intro j k; simp only [Swk]; omega))
      have hH2 : HA w2 (TR w t) := hH.fr f2 (by intro j k; simp only [SHA, Swk]; omega)
      have e10 : ∀ r : Nat, (r : Int) < TR w t 1 → w2.1 10 r = wO (TR w t) (-1) (lsr (TR w t) (DR w d) n 0) p mi x.2.2 r := fun r hr => by
        rw [h10 r hr]
        exact wO_congr (hE.1 r hr)
      have hO2 : OK (TR w t) (w2.1 10) := fun r h0 h1 => by
        rw [e10 r.toNat (by omega)]
        exact wO_OK (fun r h0 h1 => hB1.1 r.toNat (by omega)) w1'.1 w1'.2 r h0 h1
      obtain ⟨y, hy⟩ := bst_back (fr' := -1) (O' := wO (TR w t) (-1) (lsr (TR w t) (DR w d) n 0) p mi x.2.2) (p' := p) (kind' := kind) (mi' := x.2.1) hT w6' w4' w5' hb
      have hbc : bst (TR w t) (-1) (w2.1 10) p kind x.2.1 to fm = some y := by rw [bst_congr e10]; exact hy
      refine ci_finds (fr := -1) hF hT hO2 ⟨hH2, rfl, by rw [f2.I 0 28 (by simp [Swk])]; exact p28⟩ (by omega) w1'.1 w1'.2 w2' (by omega) w5' w4' (fun z w3 f3 hB3 _ _ _ => q_l ?_)
      rw [hbc] at hB3
      have := hgo w3 (k2.tr (sfi_KQ f3))
      rw [if_neg q, hy] at this
      rw [hB3.2.2.1]
      exact this
/-! ROUND, GAIN, ROUNDS -/
def prd (T : Nat → Int) (p mi fm : Int) : Prop := (0 ≤ p ∧ p < T 2) ∧ (0 ≤ mi ∧ mi ≤ 999) ∧ (0 ≤ fm ∧ fm < T 0)
noncomputable def cut0 : Option Cd → Option Cd
  | none => none
  | some x => if x.1 < 0 then some x else none
noncomputable def rdo (m md : Int) (T D : Nat → Int) (t d n p mi fm : Int) : Option Cd := by
  classical
  exact if lys m md T D t d n ∧ prd T p mi fm then cut0 (bst T (-1) (lsr T D n 0) p 2 mi fm fm) else none
noncomputable def aRound (m md : Int) (T D : Nat → Int) (t d n p mi fm a : Int) : Int := match rdo m md T D t d n p mi fm with
  | none => -1
  | some x => rowT x.2.2 a (-1)
noncomputable def aGain (m md : Int) (T D : Nat → Int) (t d n p mi fm : Int) : Int := match rdo m md T D t d n p mi fm with
  | none => 0
  | some x => x.1
noncomputable def aRounds (m md : Int) (T D : Nat → Int) (t d n p mi fm : Int) : Int := by
  classical
  exact if lys m md T D t d n ∧ prd T p mi fm then neg (bsl T (-1) (lsr T D n 0) p 2 mi fm fm) else -1
theorem ci_findRounds {F : Nat} {j : Nat} {n p mi fm ev : Int} {w : AW} {T : Nat → Int} {A : RS} {P : Int → AW → Prop} (hF : FB F) (hj : isTw j) (hja : apart j) (hC : CA w j T) (hT : TK T) (hE : RE T (RCl w) A) (hB : RBd T n A) (hp : iR p) (hm : iR mi) (hf : iR fm) (hev : ev = 0 ∨ ev = 1) (h0 : ¬ prd T p mi fm → ∀ w', KQ w w' → P 0 w') (h1 : ∀ w', prd T p mi fm → KQ w w' → BC w' (-1) (cut0 (bst T (-1) (A 0) p 2 mi fm fm)) → (ev = 1 → w'.1 227 5 = neg (bsl T (-1) (A 0) p 2 mi fm fm)) → P 1 w') : CI (m_X8_findRounds F [vR 34, vR j, vI p, vI mi, vI fm, vI ev] w) P := by
  have hO : OK T (A 0) := fun r h0 h1 => hB.1 r.toNat (by omega)
  refine wp_X8_findRounds F j hj p mi fm ev w _ ?_
  refine ci_hasPerson hj hC hT hp (fun z1 => br1 ?_) (fun z1 => br0 (q_z0 (h0 (fun y => z1 y.1) w KQ.rf)))
  refine ci_minuteC hm (fun z2 => br1 ?_) (fun z2 => br0 (q_z0 (h0 (fun y => z2 y.2.1) w KQ.rf)))
  refine ci_hasPlace hj hC hT hf (fun z3 => br1 ?_) (fun z3 => br0 (q_z0 (h0 (fun y => z3 y.2.2) w KQ.rf)))
  refine cv_layOut hF hj hja hC hT (fun w1 f1 hCH => ?_)
  have k1 : KQ w w1 := f1.KQ (by intro j k; simp only [Sch]; omega)
  have hC1 : CA w1 j T := hC.fr f1 (by intro a k h1 h2; simp only [Sch]; unfold apart at hja; omega)
  refine cv_take (O := A 0) hj hja ⟨rfl, rfl⟩ (Or.inl rfl) hC1 hCH (fun r h0 h1 => ?_) (fun w2 f2 hX => ?_)
  · rw [f1.I 222 _ (by first | (simp [Sch]; done) | (simp only [Sch]; omega))]
    exact hE.1 r.toNat (by omega)
  · have k2 : KQ w w2 := k1.tr (f2.KQ (by intro j k; omega))
    refine cv_seekRounds hF hj hja ⟨rfl, rfl⟩ (Or.inl rfl) hX hT hO z1.1 z1.2 (by omega) z3 hev (fun w3 B f3 hBC hBB hneg => q_z1 (h1 w3 ⟨z1, z2, z3⟩ (k2.tr (ssk_KQ f3)) ?_ hneg))
    have : cut0 (bst T (-1) (A 0) p 2 mi fm fm) = B := by
      rcases hBB with ⟨y1, y2⟩ | ⟨y1, y2⟩
      · rw [y1]
        cases B with
        | none => rfl
        | some x =>
          have := y2 x rfl
          show (if x.1 < 0 then some x else none) = some x
          rw [if_pos (by omega)]
      · rw [y1]
        cases hb : bst T (-1) (A 0) p 2 mi fm fm with
        | none => rfl
        | some x =>
          have := y2 x hb
          show (if x.1 < 0 then some x else none) = none
          rw [if_neg (by omega)]
    rw [this]
    exact hBC
theorem cut0_row {T : Nat → Int} {O : Nat → Int} {p mi fm : Int} {x : Cd} (hT : TK T) (h : cut0 (bst T (-1) O p 2 mi fm fm) = some x) : bst T (-1) O p 2 mi fm fm = some x ∧ x.1 < 0 ∧ x.2.2.length ≤ 8 := by
  cases hb : bst T (-1) O p 2 mi fm fm with
  | none => rw [hb] at h; cases h
  | some y =>
    rw [hb] at h
    by_cases z : y.1 < 0
    · have e : some y = some x := by
        have h' : (if y.1 < 0 then some y else none) = some x := h
        rw [if_pos z] at h'
        exact h'
      cases e
      exact ⟨rfl, z, (bst_row hT hb).2.2.1⟩
    · have h' : (if y.1 < 0 then some y else none) = some x := h
      rw [if_neg z] at h'
      cases h'
theorem cc_round {F : Nat} {t d n p mi fm a : Int} {w : AW} {P : Int → AW → Prop} (hF : FB F) (hI : TwI w) (hJ : DyI w) (ht : iR t) (hd : iR d) (hn : iR n) (hpr : iR p) (hm : iR mi) (hf : iR fm) (ha : iR a) (hp : ∀ w', KQ w w' → P (aRound (w.1 5 0) (w.1 5 1) (TR w t) (DR w d) t d n p mi fm a) w') : CI (m_X8_round F [vR 34, vI t, vI d, vI n, vI p, vI mi, vI fm, vI a] w) P := by
  have no : rdo (w.1 5 0) (w.1 5 1) (TR w t) (DR w d) t d n p mi fm = none → ∀ w', KQ w w' → P (-1) w' := fun hz w' k' => by
    have := hp w' k'
    unfold aRound at this
    rw [hz] at this
    exact this
  refine wp_X8_round F t d n p mi fm a w _ (cr_stateC hF hI hJ ht hd hn (fun hl hT htw hap w1 f1 hC1 hE1 => ⟨fun q => (by cases q), fun j hj => ?_⟩) (fun hl w1 k1 => ⟨fun _ => q_i (no (by unfold rdo; rw [if_neg (fun y => hl y.1)]) w1 k1), fun j hj => (by cases hj)⟩))
  cases hj
  have k1 := scru_KQ f1
  obtain ⟨hB1, hnb⟩ := lsr_b hT (fun y => (hJ.2.2 d y.1 y.2).1) hl
  refine ci_findRounds hF htw hap hC1 hT hE1 hB1 hpr hm hf (Or.inl rfl) (fun hz w2 k2 => br0 (q_i (no (by unfold rdo; rw [if_neg (fun y => hz y.2)]) w2 (k1.tr k2)))) (fun w2 hpd k2 hBC _ => br1 ?_)
  have hgo := hp w2 (k1.tr k2)
  unfold aRound rdo at hgo
  rw [if_pos ⟨hl, hpd⟩] at hgo
  cases hb : cut0 (bst (TR w t) (-1) (lsr (TR w t) (DR w d) n 0) p 2 mi fm fm) with
  | none =>
    rw [hb] at hgo hBC
    rw [hBC.1]
    exact ⟨fun _ => q_i hgo, fun q => absurd (by decide) q⟩
  | some x =>
    have hr := cut0_row hT hb
    rw [hb] at hgo hBC
    have hne := hBC.1
    have hlen : 0 < x.2.2.length := List.length_pos_iff.mpr hne
    rw [hBC.2.1, w_id (x := (x.2.2.length : Int)) (by omega) (by omega)]
    exact ⟨fun q => by omega, fun _ => ci_tellRow hBC (by omega) ha (q_i hgo)⟩
theorem cc_gain {F : Nat} {t d n p mi fm : Int} {w : AW} {P : Int → AW → Prop} (hF : FB F) (hI : TwI w) (hJ : DyI w) (ht : iR t) (hd : iR d) (hn : iR n) (hpr : iR p) (hm : iR mi) (hf : iR fm) (hp : ∀ w', KQ w w' → P (aGain (w.1 5 0) (w.1 5 1) (TR w t) (DR w d) t d n p mi fm) w') : CL (m_X8_gain F [vR 34, vI t, vI d, vI n, vI p, vI mi, vI fm] w) P := by
  have no : rdo (w.1 5 0) (w.1 5 1) (TR w t) (DR w d) t d n p mi fm = none → ∀ w', KQ w w' → P 0 w' := fun hz w' k' => by
    have := hp w' k'
    unfold aGain at this
    rw [hz] at this
    exact this
  refine wp_X8_gain F t d n p mi fm w _ (cr_stateC hF hI hJ ht hd hn (fun hl hT htw hap w1 f1 hC1 hE1 => ⟨fun q => (by cases q), fun j hj => ?_⟩) (fun hl w1 k1 => ⟨fun _ => q_l (no (by unfold rdo; rw [if_neg (fun y => hl y.1)]) w1 k1), fun j hj => (by cases hj)⟩))
  cases hj
  have k1 := scru_KQ f1
  obtain ⟨hB1, hnb⟩ := lsr_b hT (fun y => (hJ.2.2 d y.1 y.2).1) hl
  refine ci_findRounds hF htw hap hC1 hT hE1 hB1 hpr hm hf (Or.inl rfl) (fun hz w2 k2 => br0 (q_l (no (by unfold rdo; rw [if_neg (fun y => hz y.2)]) w2 (k1.tr k2)))) (fun w2 hpd k2 hBC _ => br1 ?_)
  have hgo := hp w2 (k1.tr k2)
  unfold aGain rdo at hgo
  rw [if_pos ⟨hl, hpd⟩] at hgo
  cases hb : cut0 (bst (TR w t) (-1) (lsr (TR w t) (DR w d) n 0) p 2 mi fm fm) with
  | none =>
    rw [hb] at hgo hBC
    rw [hBC.1]
    exact ⟨fun _ => q_l hgo, fun q => absurd (by decide) q⟩
  | some x =>
    have hr := cut0_row hT hb
    rw [hb] at hgo hBC
    have hne := hBC.1
    have hlen : 0 < x.2.2.length := List.length_pos_iff.mpr hne
    rw [hBC.2.1, w_id (x := (x.2.2.length : Int)) (by omega) (by omega), hBC.2.2.2.1]
    exact ⟨fun q => by omega, fun _ => q_l hgo⟩
theorem cc_rounds {F : Nat} {t d n p mi fm : Int} {w : AW} {P : Int → AW → Prop} (hF : FB F) (hI : TwI w) (hJ : DyI w) (ht : iR t) (hd : iR d) (hn : iR n) (hpr : iR p) (hm : iR mi) (hf : iR fm) (hp : ∀ w', KQ w w' → P (aRounds (w.1 5 0) (w.1 5 1) (TR w t) (DR w d) t d n p mi fm) w') : CI (m_X8_rounds F [vR 34, vI t, vI d, vI n, vI p, vI mi, vI fm] w) P := by
  have no : ¬ (lys (w.1 5 0) (w.1 5 1) (TR w t) (DR w d) t d n ∧ prd (TR w t) p mi fm) → ∀ w', KQ w w' → P (-1) w' := fun hz w' k' => by
    have := hp w' k'
    unfold aRounds at this
    rw [if_neg hz] at this
    exact this
  refine wp_X8_rounds F t d n p mi fm w _ (cr_stateC hF hI hJ ht hd hn (fun hl hT htw hap w1 f1 hC1 hE1 => ⟨fun q => (by cases q), fun j hj => ?_⟩) (fun hl w1 k1 => ⟨fun _ => q_i (no (fun y => hl y.1) w1 k1), fun j hj => (by cases hj)⟩))
  cases hj
  have k1 := scru_KQ f1
  obtain ⟨hB1, hnb⟩ := lsr_b hT (fun y => (hJ.2.2 d y.1 y.2).1) hl
  refine ci_findRounds hF htw hap hC1 hT hE1 hB1 hpr hm hf (Or.inr rfl) (fun hz w2 k2 => br0 (q_i (no (fun y => hz y.2) w2 (k1.tr k2)))) (fun w2 hpd k2 _ hn2 => br1 (q_i ?_))
  have hgo := hp w2 (k1.tr k2)
  unfold aRounds at hgo
  rw [if_pos ⟨hl, hpd⟩] at hgo
  rw [hn2 rfl]
  exact hgo
theorem ci_layRound {F : Nat} {t d n p mi fm : Int} {w w1 : AW} {P : Int → AW → Prop} (hF : FB F) (hI : TwI w) (hJ : DyI w) (hw : w1 = wI w 0 0 0) (ht : iR t) (hd : iR d) (hn : iR n) (hpr : iR p) (hm : iR mi) (hf : iR fm) (h0 : rdo (w.1 5 0) (w.1 5 1) (TR w t) (DR w d) t d n p mi fm = none → ∀ w', KQ w w' → P 0 w') (h1 : ∀ x w', rdo (w.1 5 0) (w.1 5 1) (TR w t) (DR w d) t d n p mi fm = some x → x.2.2.length ≤ 8 → KQ w w' → BI w' (some x) → P 1 w') : CI (m_X9_layRound F [vR 0, vI t, vI d, vI n, vI p, vI mi, vI fm] w1) P := by
  have no : ¬ (lys (w.1 5 0) (w.1 5 1) (TR w t) (DR w d) t d n ∧ prd (TR w t) p mi fm) → ∀ w', KQ w w' → P 0 w' := fun hz => h0 (by unfold rdo; rw [if_neg hz])
  refine wp_X9_layRound F t d n p mi fm w1 _ (ci_layS hF hI hJ hw ht hd hn (fun hl hT w2 k2 hH p28 p29 hE => br1 ?_) (fun hl w2 k2 => br0 (q_z0 (no (fun y => hl y.1) w2 k2))))
  obtain ⟨hB1, hnb⟩ := lsr_b hT (fun y => (hJ.2.2 d y.1 y.2).1) hl
  refine ci_isPerson hH hT hpr (fun z1 => br1 ?_) (fun z1 => br0 (q_z0 (no (fun y => z1 y.2.1) w2 k2)))
  refine ci_in hm (by decide) (by decide) (fun z3 => br1 ?_) (fun z3 => br0 (q_z0 (no (fun y => z3 y.2.2.1) w2 k2)))
  refine ci_isPlace hH hT hf (fun z4 => br1 ?_) (fun z4 => br0 (q_z0 (no (fun y => z4 y.2.2.2) w2 k2)))
  have hbc : bst (TR w t) (-1) (w2.1 10) p 2 mi fm fm = bst (TR w t) (-1) (lsr (TR w t) (DR w d) n 0) p 2 mi fm fm := bst_congr (fun r hr => hE.1 r hr)
  have hpw : prd (TR w t) p mi fm := ⟨z1, z3, z4⟩
  refine ci_finds hF hT (RG_OK hT hE hB1) ⟨hH, rfl, p28⟩ (by omega) z1.1 z1.2 (by omega) (by omega) z4 z4 (fun x w3 f3 hBI hAB _ hx => ?_)
  rw [hbc] at hBI hAB hx
  have k3 := k2.tr (sfi_KQ f3)
  rcases hx with ⟨rfl, hx⟩ | ⟨rfl, hx⟩
  · cases hb : bst (TR w t) (-1) (lsr (TR w t) (DR w d) n 0) p 2 mi fm fm with
    | none => exact absurd hb hx
    | some y =>
      rw [hb] at hBI
      have hy := hAB y hb
      have hrow := bst_row hT hb
      rw [hBI.2.2.1, wl_id (x := y.1) (by omega) (by omega)]
      refine br1 ⟨fun q => q_z1 (h1 y w3 ?_ hrow.2.2.1 k3 hBI), fun q => q_z0 (h0 ?_ w3 k3)⟩
      · unfold rdo
        rw [if_pos ⟨hl, hpw⟩, hb]
        show (if y.1 < 0 then some y else none) = some y
        rw [if_pos q]
      · unfold rdo
        rw [if_pos ⟨hl, hpw⟩, hb]
        show (if y.1 < 0 then some y else none) = none
        rw [if_neg q]
  · exact br0 (q_z0 (h0 (by unfold rdo; rw [if_pos ⟨hl, hpw⟩, hx]; rfl) w3 k3))
theorem cr_round {F : Nat} {t d n p mi fm a : Int} {w : AW} {P : Int → AW → Prop} (hF : FB F) (hI : TwI w) (hJ : DyI w) (ht : iR t) (hd : iR d) (hn : iR n) (hpr : iR p) (hm : iR mi) (hf : iR fm) (ha : iR a) (hp : ∀ w', KQ w w' → P (aRound (w.1 5 0) (w.1 5 1) (TR w t) (DR w d) t d n p mi fm a) w') : CI (m_X9_round F [vR 0, vI t, vI d, vI n, vI p, vI mi, vI fm, vI a] w) P := by
  refine wp_X9_round F t d n p mi fm a w _ (fun w0 e0 => ci_layRound hF hI hJ e0 ht hd hn hpr hm hf (fun hz w1 k1 => br0 (q_i ?_)) (fun x w1 hx hlen k1 hBI => br1 ?_))
  · have := hp w1 k1
    unfold aRound at this
    rw [hz] at this
    exact this
  · have hgo := hp w1 k1
    unfold aRound at hgo
    rw [hx] at hgo
    have hgo : P (rowT x.2.2 a (-1)) w1 := hgo
    unfold rowT at hgo
    obtain ⟨b1, b2, b3, b4⟩ := hBI
    rw [b2]
    refine ci_in ha (by decide) ⟨by omega, by omega⟩ (fun z => br1 ⟨⟨by omega, by omega⟩, q_i ?_⟩) (fun z => br0 ?_)
    · rw [if_neg (by omega), if_pos (by omega)] at hgo
      rw [b4 _ (by omega)]
      exact hgo
    · rw [w_id ha.1 ha.2]
      refine ⟨fun q => q_i ?_, fun q => q_i ?_⟩
      · rw [if_pos q] at hgo; rw [b2]; exact hgo
      · rw [if_neg q, if_neg (by omega)] at hgo; exact hgo
theorem cr_gain {F : Nat} {t d n p mi fm : Int} {w : AW} {P : Int → AW → Prop} (hF : FB F) (hI : TwI w) (hJ : DyI w) (ht : iR t) (hd : iR d) (hn : iR n) (hpr : iR p) (hm : iR mi) (hf : iR fm) (hp : ∀ w', KQ w w' → P (aGain (w.1 5 0) (w.1 5 1) (TR w t) (DR w d) t d n p mi fm) w') : CL (m_X9_gain F [vR 0, vI t, vI d, vI n, vI p, vI mi, vI fm] w) P := by
  refine wp_X9_gain F t d n p mi fm w _ (fun w0 e0 => ci_layRound hF hI hJ e0 ht hd hn hpr hm hf (fun hz w1 k1 => br0 (q_l ?_)) (fun x w1 hx hlen k1 hBI => br1 (q_l ?_)))
  · have := hp w1 k1
    unfold aGain at this
    rw [hz] at this
    exact this
  · have := hp w1 k1
    unfold aGain at this
    rw [hx] at this
    rw [hBI.2.2.1]
    exact this
theorem cr_rounds {F : Nat} {t d n p mi fm : Int} {w : AW} {P : Int → AW → Prop} (hF : FB F) (hI : TwI w) (hJ : DyI w) (ht : iR t) (hd : iR d) (hn : iR n) (hpr : iR p) (hm : iR mi) (hf : iR fm) (hp : ∀ w', KQ w w' → P (aRounds (w.1 5 0) (w.1 5 1) (TR w t) (DR w d) t d n p mi fm) w') : CI (m_X9_rounds F [vR 0, vI t, vI d, vI n, vI p, vI mi, vI fm] w) P := by
  have no : ¬ (lys (w.1 5 0) (w.1 5 1) (TR w t) (DR w d) t d n ∧ prd (TR w t) p mi fm) → ∀ w', KQ w w' → P (-1) w' := fun hz w' k' => by
    have := hp w' k'
    unfold aRounds at this
    rw [if_neg hz] at this
    exact this
  refine wp_X9_rounds F t d n p mi fm w _ (fun w0 e0 => ci_layS hF hI hJ e0 ht hd hn (fun hl hT w2 k2 hH p28 p29 hE => br1 ?_) (fun hl w2 k2 => br0 (q_i (no (fun y => hl y.1) w2 k2))))
  obtain ⟨hB1, hnb⟩ := lsr_b hT (fun y => (hJ.2.2 d y.1 y.2).1) hl
  refine ci_isPerson hH hT hpr (fun z1 => br1 ?_) (fun z1 => br0 (q_i (no (fun y => z1 y.2.1) w2 k2)))
  refine ci_in hm (by decide) (by decide) (fun z3 => br1 ?_) (fun z3 => br0 (q_i (no (fun y => z3 y.2.2.1) w2 k2)))
  refine ci_isPlace hH hT hf (fun z4 => br1 ?_) (fun z4 => br0 (q_i (no (fun y => z4 y.2.2.2) w2 k2)))
  have hbc : bsl (TR w t) (-1) (w2.1 10) p 2 mi fm fm = bsl (TR w t) (-1) (lsr (TR w t) (DR w d) n 0) p 2 mi fm fm := bsl_congr (fun r hr => hE.1 r hr)
  refine ci_finds hF hT (RG_OK hT hE hB1) ⟨hH, rfl, p28⟩ (by omega) z1.1 z1.2 (by omega) (by omega) z4 z4 (fun x w3 f3 hBI hAB hneg hx => q_i ?_)
  rw [hneg, hbc]
  have := hp w3 (k2.tr (sfi_KQ f3))
  unfold aRounds at this
  rw [if_pos ⟨hl, z1, z3, z4⟩] at this
  exact this
