/-! THE HUNT FROM ITS CALLS -/
abbrev Ssk (j k : Nat) : Prop := (234 ≤ j ∧ j ≤ 238) ∨ (j = 227 ∧ (k = 2 ∨ k = 3 ∨ k = 4 ∨ k = 5 ∨ k = 14 ∨ k = 15 ∨ k = 16 ∨ k = 17))
theorem cst_late {T : Nat → Int} (hT : TK T) {O : Nat → Int} {p kind r t : Int} (h0 : 0 ≤ r) (h1 : r < T 1) (hp0 : 0 ≤ p) (hp1 : p < T 2) (ht : 360 ≤ t) : 0 ≤ cst T (-1) O p kind r t := by
  have a := (hT.road h0 h1).2.2.2.1
  have b := mcb hT h0 h1 hp0 hp1
  have c := pys_b (fr := -1) (p := p) (O := O) hT h0 h1
  have e : hrt t = 5 := by unfold hrt; rw [if_neg (by omega)]
  have w6 : wrt T (-1) r 6 = 0 := by unfold wrt; split <;> rfl
  unfold cst
  split
  · omega
  · rw [e, show (5 : Int) + 1 = 6 from rfl, w6, Int.mul_zero]
    omega
/-- hopes are good: no cost is lower -/
theorem low_own {T O : Nat → Int} (hT : TK T) {p kind t0 : Int} {hp : Nat → Int} (hp0 : 0 ≤ p) (hp1 : p < T 2) (ht0 : 0 ≤ t0) (hhp : ∀ r, 0 ≤ hp r ∧ hp r ≤ 600000000000000) (hg : ∀ (r : Nat) (t : Int), (r : Int) < T 1 → t0 ≤ t → t ≤ 1000000 → t < hsv T O p kind r → wrt T (-1) r (hrt t + 1) - prc T O p kind r ≤ hp r) (r : Nat) (t : Int) (hr : r < (T 1).toNat) (ht : t0 ≤ t) : -hp r ≤ cst T (-1) O p kind r t := by
  have := hhp r
  have a1 := hT.2.1
  by_cases e : t ≤ 1000000
  · have hpr := prc_b (kind := kind) (O := O) hT (r := r) (by omega) (by omega) hp0 hp1
    rw [cst_prc hT (by omega) ⟨by omega, by omega⟩]
    split
    · rename_i z
      have := hg r t (by omega) ht e z
      omega
    · omega
  · have := cst_late (kind := kind) (O := O) hT (r := r) (t := t) (by omega) (by omega) hp0 hp1 (by omega)
    omega
theorem bsl_way {T O : Nat → Int} {fr p kind mi fm to : Int} (h : fm ≠ to) : bsl T fr O p kind mi fm to = Wy (mp T fr O p kind) False to ((T 0).toNat - 1) fm mi 0 [] [fm] := by
  unfold bsl
  rw [if_neg h, eq_false h]
theorem bsl_round {T O : Nat → Int} {fr p kind mi fm : Int} : bsl T fr O p kind mi fm fm = Wy (mp T fr O p kind) True fm 6 fm mi 0 [] [fm] := by
  unfold bsl
  rw [if_pos rfl, eq_true rfl]
theorem bsl_deep {T O : Nat → Int} {fr p kind mi fm to : Int} (hT : TK T) (h : fm ≠ to) (hf : 0 ≤ fm ∧ fm < T 0) : Wy (mp T fr O p kind) False to 8 fm mi 0 [] [fm] = bsl T fr O p kind mi fm to := by
  have a0 := hT.1
  rw [bsl_way h]
  have h1 := nfr_one (P := (T 0).toNat) (s := fm) hf.1 (by omega)
  have h2 := Wy_deep (to := to) (mp_ok hT fr O p kind) ((T 0).toNat - 1) (8 - ((T 0).toNat - 1)) fm mi 0 [] [fm] h1
  rw [show (T 0).toNat - 1 + (8 - ((T 0).toNat - 1)) = 8 from by omega] at h2
  exact h2
theorem Jm_mp {T O : Nat → Int} {fr p kind x : Int} : Jm (mp T fr O p kind) x = Jt T x := rfl
/-- there is a best way just where there is a walk -/
theorem bst_none {T O : Nat → Int} {fr p kind mi fm to : Int} (h : fm ≠ to) (hw : ∀ n m, ¬ Wk (Jt T (-1)) n fm to m) : bsl T fr O p kind mi fm to = [] := by
  cases hl : bsl T fr O p kind mi fm to with
  | nil => rfl
  | cons x l =>
    exfalso
    have hx : x ∈ bsl T fr O p kind mi fm to := by rw [hl]; exact List.mem_cons_self
    rw [bsl_way h] at hx
    obtain ⟨n, hn⟩ := Wy_walk _ _ _ _ _ _ _ hx
    exact hw n _ hn
theorem bsl_short {T O : Nat → Int} {fr p kind mi fm to m : Int} (hT : TK T) (h : fm ≠ to) (hf : 0 ≤ fm ∧ fm < T 0) (hto : 0 ≤ to ∧ to < T 0) (hd : Ds (Jt T (-1)) fm to m) : ∃ x ∈ bsl T fr O p kind mi fm to, x.2.1 = mi + m := by
  have a0 := hT.1
  have hJ := Jt_ok hT (-1)
  have hd2 := Ds_rev hJ hd
  have hr := rnk_full (J := Jt T (-1)) (N := (T 0).toNat) hf.1 (by omega) hd2
  have hr2 : rnk (Jt T (-1)) (T 0).toNat to m ≤ (T 0).toNat - 1 := by omega
  obtain ⟨x, h1, h2⟩ := Wy_short (mp_ok hT fr O p kind) hto.1 (show to < ((T 0).toNat : Nat) by omega) ((T 0).toNat - 1) fm mi 0 [] [fm] m hd2 h hr2 (by
    intro v hv
    have e : v = fm := by simpa using hv
    exact ⟨m, by rw [e]; exact hd2, Int.le_refl m⟩)
  exact ⟨x, by rw [bsl_way h]; exact h1, h2⟩
set_option maxHeartbeats 4000000 in
theorem ci_seekWay {F : Nat} {j jo : Nat} {T O : Nat → Int} {p kind mi fm to : Int} {w : AW} {P : Int → AW → Prop} (hF : FB F) (hj : isTw j) (hja : apart j) (hjo : isI jo 14) (hjo2 : jo = 222 ∨ jo = 255) (hX : HX j jo T O p kind w) (hT : TK T) (hO : OK T O) (hp0 : 0 ≤ p) (hp1 : p < T 2) (hk : 0 ≤ kind ∧ kind ≤ 2) (hmi : 0 ≤ mi ∧ mi ≤ 100000) (hfm : 0 ≤ fm ∧ fm < T 0) (hto : 0 ≤ to ∧ to < T 0) (h0 : fm = to ∨ bst T (-1) O p kind mi fm to = none → ∀ w', Fr Ssk w w' → P 0 w') (h1 : ∀ x w' K, fm ≠ to → bst T (-1) O p kind mi fm to = some x → Fr Ssk w w' → BC w' K (some x) → P 1 w') : CI (m_X3_seekWay F [vR 227, vI mi, vI fm, vI to] w) P := by
  have a0 := hT.1
  have a1 := hT.2.1
  have a2 := hT.2.2.1
  refine wp_X3_seekWay F mi fm to w _ (fun w1 e1 => ⟨⟨by omega, by omega⟩, fun g hg => ?_⟩)
  have f1 : Fr Ssk w w1 := by rw [e1]; exact Fr.rf.wI _ (by simp [Ssk])
  have hX1 : HX j jo T O p kind w1 := hX.fr f1 (by intro a k; simp only [SHX, Ssk]; unfold apart at hja; omega)
  have hM := hX1.2.2.2.1.2.1 fm to hfm.1 hfm.2 hto.1 hto.2
  rw [← hg] at hM
  have hgr : -1 ≤ g ∧ g ≤ 240 := by
    rcases hM with z | z
    · omega
    · have := ds240 hT hfm.1 hfm.2 z; omega
  rw [w_id (x := fm) (by omega) (by omega), w_id (x := to) (by omega) (by omega), w_id (x := g) (by omega) (by omega)]
  refine ⟨fun q => q_z0 (h0 (Or.inl q) w1 f1), fun q => ⟨fun q2 => q_z0 (h0 (Or.inr ?_) w1 f1), fun q2 => ?_⟩⟩
  · rcases hM with z | z
    · unfold bst
      rw [bst_none q z.2]
      rfl
    · have := ds240 hT hfm.1 hfm.2 z; omega
  · have hD : Ds (Jt T (-1)) fm to g := by
      rcases hM with z | z
      · exact absurd z.1 q2
      · exact z
    have hg0 := ds240 hT hfm.1 hfm.2 hD
    intro w7 e7 w9 e9
    have f9 : Fr Ssk w w9 := by rw [e9, e7]; exact (f1.wI _ (by simp [Ssk])).wI _ (by simp [Ssk])
    have hX9 : HX j jo T O p kind w9 := hX.fr f9 (by intro a k; simp only [SHX, Ssk]; unfold apart at hja; omega)
    have g14 : w9.1 227 14 = to := by rw [e9, e7]; simp [wI_at]
    have g15 : w9.1 227 15 = 0 := by rw [e9]; simp [wI_at]
    have g2 : w9.1 227 2 = 0 := by rw [e9, e7, e1]; simp [wI_at]
    -- from the bounds on
    have main : ∀ (K mc : Int) (w1 : AW), K = (if kind = 0 then g * 1000000000000 else 1000000000000000000) → mc = (if kind = 0 then 1000000000000 else if kind = 2 then 0 else pC T p * 1000000000000) → Fr Ssk w w1 → w1.1 227 14 = to → w1.1 227 15 = 0 → w1.1 227 2 = 0 → w1.2.1 227 4 = K → TT (k_X3_seekWay_111 F [vR 227, vI mi, vI fm, vI to, vI g] [vL mc, vR 227] w1) (qq 2 (fun r w => ∃ x, r = some (vI x) ∧ P x w)) := by
      intro K mc w1 hK hmc f1 k14 k15 k2 k4
      have hcare := (hT.pers hp0 hp1).2.1
      refine wp_X3_seekWay_111 F mi fm to g mc w1 _ (fun w2 e2 => ?_)
      have f2 : Fr Ssk w w2 := by rw [e2]; exact f1.wL _ (by simp [Ssk])
      have hX2 : HX j jo T O p kind w2 := hX.fr f2 (by intro a k; simp only [SHX, Ssk]; unfold apart at hja; omega)
      refine cl_weigh hF hj hja hjo hjo2 hX2 hT hO hp0 hp1 hk ⟨hmi.1, by omega⟩ (fun w3 hp f3 hW hhp hz hg' => ?_)
      have f3' : Fr Ssk w w3 := f2.tr (f3.wk (by intro j k; simp only [Swg, Ssk]; omega))
      have hX3 : HX j jo T O p kind w3 := hX.fr f3' (by intro a k; simp only [SHX, Ssk]; unfold apart at hja; omega)
      have hWX : WX j jo T O p kind mi to mc hp w3 := ⟨hX3, hW, by rw [f3.I 227 14 (by simp [Swg]), e2, wL_I]; exact k14, by rw [f3.L 227 16 (by simp [Swg]), e2, wL_at, if_pos ⟨rfl, rfl⟩]⟩
      have b15 : w3.1 227 15 = 0 := by rw [f3.I 227 15 (by simp [Swg]), e2, wL_I]; exact k15
      have hBC : BC w3 K none := ⟨by rw [f3.I 227 2 (by simp [Swg]), e2, wL_I]; exact k2, by rw [f3.L 227 4 (by simp [Swg]), e2, wL_at, if_neg (by simp)]; exact k4⟩
      have hmcb : 0 ≤ mc ∧ mc ≤ 9000000000000 := by
        rw [hmc]
        split
        · omega
        · split <;> omega
      have hKb : 0 ≤ K ∧ K ≤ 1000000000000000000 := by rw [hK]; split <;> omega
      have hKK : (∀ r, hp r = 0) ∨ 10000000000000000 ≤ K := by
        by_cases e : kind = 2
        · refine Or.inr ?_
          rw [hK, if_neg (by omega)]; omega
        · exact Or.inl (hz e)
      have hlow : ∀ (r : Nat) (t : Int), r < (T 1).toNat → mi ≤ t → mc * rM T r - hp r ≤ cst T (-1) O p kind r t := by
        intro r t hr ht
        have hpy := pys_b (fr := -1) (p := p) (O := O) hT (r := r) (by omega) (by omega)
        rw [hmc]
        by_cases e0 : kind = 0
        · rw [if_pos e0, hz (by omega) r]
          unfold cst
          rw [if_pos e0]
          omega
        · rw [if_neg e0]
          by_cases e2 : kind = 2
          · rw [if_pos e2, Int.zero_mul]
            have := low_own hT hp0 hp1 hmi.1 hhp hg' r t hr ht
            omega
          · rw [if_neg e2, hz e2 r]
            unfold cst
            rw [if_neg e0, ind_neg (fun z => e2 z.1), Int.mul_add]
            have : pC T p * 1000000000000 * rM T r = 1000000000000 * (rM T r * pC T p) := by
              rw [Int.mul_comm (pC T p), Int.mul_assoc, Int.mul_comm (pC T p)]
            omega
      refine goOn_ok hF hj hja hjo hjo2 hT hO hp0 hp1 hk hmi hto hmcb ⟨by omega, by omega⟩ hhp hKK hlow 8 0 [] [] fm mi 0 _ none w3 12 _ (by omega) (by omega) rfl hWX hfm (fun v hv => by cases hv) (by simp) ⟨List.mem_cons_self, fun _ r hr => by cases hr⟩ (by rw [b15]; decide) (fun i hi => by rw [b15, tb_0]; simp) (fun i hi => by omega) rfl (by omega) (by omega) hBC (fun y hy => by cases hy) (Int.le_refl K) (fun z => absurd z q) (fun w6 f6 hb6 hB6 => ?_)
      rw [if_neg q, bsl_deep hT q hfm] at hB6
      have f6' : Fr Ssk w w6 := f3'.tr (f6.wk (by intro j k; simp only [Sgo, Ssk]; omega))
      -- the bound leaves the best in
      have hex : ∃ x ∈ bsl T (-1) O p kind mi fm to, x.1 ≤ K := by
        obtain ⟨x, hx1, hx2⟩ := bsl_short (O := O) (fr := -1) (p := p) (kind := kind) (mi := mi) hT q hfm hto hD
        refine ⟨x, hx1, ?_⟩
        rw [bsl_way q] at hx1
        by_cases e0 : kind = 0
        · have := Wy_eq (g := mp T (-1) O p kind) (U := 1000000000000) (fun r t hr => by
            show cst T (-1) O p kind r t = 1000000000000 * rM T r
            unfold cst; rw [if_pos e0]) _ _ _ _ _ _ _ hx1
          rw [hK, if_pos e0, this, hx2]
          omega
        · have := Wy_bounds hT hp0 hp1 _ _ _ _ _ _ _ hmi.1 hx1
          rw [hK, if_neg e0]
          omega
      have hsame := fold_same (K := K) _ hex
      have hbst : bst T (-1) O p kind mi fm to = (bsl T (-1) O p kind mi fm to).foldl (kpK K) none := hsame
      rw [← hbst] at hB6
      cases hb : bst T (-1) O p kind mi fm to with
      | none => rw [hb] at hbst; exact absurd hbst.symm (fold_ex _ _ hex)
      | some x =>
        rw [hb] at hB6
        have hrow := bst_row hT hb
        have hl := List.length_pos_iff.mpr hrow.2.1
        rw [hB6.2.1, w_id (x := (x.2.2.length : Int)) (by omega) (by omega)]
        exact ⟨fun _ => q_z1 (h1 x w6 K q hb f6' hB6), fun z => absurd (by omega) z⟩
    have mid : ∀ K, K = (if kind = 0 then g * 1000000000000 else 1000000000000000000) → TT (k_X3_seekWay_65 F [vR 227, vI mi, vI fm, vI to, vI g] [vL K, vR 227] w9) (qq 2 (fun r w => ∃ x, r = some (vI x) ∧ P x w)) := by
      intro K hK
      refine wp_X3_seekWay_65 F mi fm to g K w9 _ (fun wa ea => ?_)
      have fa : Fr Ssk w wa := by rw [ea]; exact f9.wL _ (by simp [Ssk])
      have hXa : HX j jo T O p kind wa := hX.fr fa (by intro a k; simp only [SHX, Ssk]; unfold apart at hja; omega)
      have mm := fun mc hmc => main K mc wa hK hmc fa (by rw [ea, wL_I]; exact g14) (by rw [ea, wL_I]; exact g15) (by rw [ea, wL_I]; exact g2) (by rw [ea, wL_at, if_pos ⟨rfl, rfl⟩])
      have hcare := (hT.pers hp0 hp1).2.1
      rw [hXa.2.2.2.2.2.1, w_id (x := kind) (by omega) (by omega)]
      refine ⟨fun z => mm _ (by rw [if_pos z]), fun z => ⟨fun z2 => mm _ (by rw [if_neg z, if_pos z2]), fun z2 => ?_⟩⟩
      rw [hXa.1, hXa.2.2.2.2.1, (hXa.2.2.1.pers hp0 hp1).2.1, w_id (x := pC T p) (by omega) (by omega)]
      exact ⟨hj, tw_a8 hj, ⟨hp0, by omega⟩, mm _ (by rw [if_neg z, if_neg z2])⟩
    rw [hX9.2.2.2.2.2.1, w_id (x := kind) (by omega) (by omega)]
    exact ⟨fun z => mid _ (by rw [if_pos z]), fun z => mid _ (by rw [if_neg z])⟩
set_option maxHeartbeats 4000000 in
theorem cv_seekRounds {F : Nat} {j jo : Nat} {T O : Nat → Int} {p mi fm ev : Int} {w : AW} {P : AW → Prop} (hF : FB F) (hj : isTw j) (hja : apart j) (hjo : isI jo 14) (hjo2 : jo = 222 ∨ jo = 255) (hX : HX j jo T O p 2 w) (hT : TK T) (hO : OK T O) (hp0 : 0 ≤ p) (hp1 : p < T 2) (hmi : 0 ≤ mi ∧ mi ≤ 100000) (hfm : 0 ≤ fm ∧ fm < T 0) (hev : ev = 0 ∨ ev = 1) (hp : ∀ w' B, Fr Ssk w w' → BC w' (-1) B → (((bst T (-1) O p 2 mi fm fm = B ∧ ∀ y, B = some y → y.1 ≤ -1) ∨ (B = none ∧ ∀ y, bst T (-1) O p 2 mi fm fm = some y → -1 < y.1))) → (ev = 1 → w'.1 227 5 = neg (bsl T (-1) O p 2 mi fm fm)) → P w') : CV (m_X3_seekRounds F [vR 227, vI mi, vI fm, vI ev] w) P := by
  have a0 := hT.1
  have a2 := hT.2.2.1
  refine wp_X3_seekRounds F mi fm ev w _ ?_
  intro w1 e1 w2 e2 w3 e3 w4 e4 w5 e5
  refine ⟨hev, fun w6 e6 => ?_⟩
  have f6 : Fr Ssk w w6 := by
    rw [e6, e5, e4, e3, e2, e1]
    exact (((((Fr.rf.wI _ (by simp [Ssk])).wL _ (by simp [Ssk])).wI _ (by simp [Ssk])).wI _ (by simp [Ssk])).wI _ (by simp [Ssk])).wI _ (by simp [Ssk])
  have hX6 : HX j jo T O p 2 w6 := hX.fr f6 (by intro a k; simp only [SHX, Ssk]; unfold apart at hja; omega)
  refine cl_weigh hF hj hja hjo hjo2 hX6 hT hO hp0 hp1 (by omega) ⟨hmi.1, by omega⟩ (fun w7 hp' f7 hW hhp hz hg' => ?_)
  have f7' : Fr Ssk w w7 := f6.tr (f7.wk (by intro j k; simp only [Swg, Ssk]; omega))
  have hX7 : HX j jo T O p 2 w7 := hX.fr f7' (by intro a k; simp only [SHX, Ssk]; unfold apart at hja; omega)
  have k14 : w7.1 227 14 = fm := by rw [f7.I 227 14 (by simp [Swg]), e6, e5, e4]; simp [wI_at]
  have k15 : w7.1 227 15 = 0 := by rw [f7.I 227 15 (by simp [Swg]), e6, e5]; simp [wI_at]
  have k17 : w7.1 227 17 = ev := by rw [f7.I 227 17 (by simp [Swg]), e6]; simp [wI_at]
  have k5 : w7.1 227 5 = 0 := by rw [f7.I 227 5 (by simp [Swg]), e6, e5, e4, e3]; simp [wI_at]
  have k2 : w7.1 227 2 = 0 := by rw [f7.I 227 2 (by simp [Swg]), e6, e5, e4, e3, e2, e1]; simp [wI_at, wL_I]
  have k4 : w7.2.1 227 4 = -1 := by rw [f7.L 227 4 (by simp [Swg]), e6, e5, e4, e3, wI_L, wI_L, wI_L, wI_L, e2, wL_at, if_pos ⟨rfl, rfl⟩]
  have hlow : ∀ (r : Nat) (t : Int), r < (T 1).toNat → mi ≤ t → 0 * rM T r - hp' r ≤ cst T (-1) O p 2 r t := by
    intro r t hr ht
    rw [Int.zero_mul]
    have := low_own hT hp0 hp1 hmi.1 hhp hg' r t hr ht
    omega
  refine goAround_ok (mc := w7.2.1 227 16) hF hj hja hjo hjo2 hT hO hp0 hp1 (by omega) hmi hfm hev hhp hlow 6 0 [] [fm] fm mi 0 _ none w7 12 _ (by omega) (by omega) rfl ⟨hX7, hW, k14, rfl⟩ k17 hfm ⟨List.mem_cons_self, fun z => absurd trivial z⟩ (by rw [k15]; decide) (fun i hi => by rw [k15, tb_0]; simp) (fun i hi => by omega) rfl (by omega) (by omega) ⟨k2, k4⟩ (fun y hy => by cases hy) (by show (-1 : Int) ≤ -1; omega) (fun w8 f8 hb8 hB8 ht8 => q_v ?_)
  rw [if_neg (by omega), List.nil_append, ← bsl_round] at hB8 ht8
  refine hp w8 _ (f7'.tr (f8.wk (by intro j k; simp only [Sgo, Ssk]; omega))) hB8 ?_ (fun e => ?_)
  · exact fold_bound (K := -1) _ none none (Or.inl ⟨rfl, fun y hy => by cases hy⟩)
  · rw [ht8 e, k5]; omega
