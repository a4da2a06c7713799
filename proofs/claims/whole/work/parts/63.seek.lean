/-! ROUNDS -/
theorem neg_zero {l : List Cd} (h : ∀ x ∈ l, 0 ≤ x.1) : neg l = 0 := by
  induction l with
  | nil => rfl
  | cons x l ih =>
    show (ind (x.1 < 0) : Int) + neg l = 0
    rw [ih (fun y hy => h y (List.mem_cons_of_mem _ hy)), ind_neg (by have := h x List.mem_cons_self; omega)]
    rfl
theorem cv_meet {F : Nat} {w : AW} {acc : Option Cd} {x : Cd} {n : Int} {P : AW → Prop} (hF : FB F) (hacc : BC w (-1) acc) (hab : AB acc) (hn : n = x.2.2.length) (hx0 : x.2.2 ≠ []) (hx1 : n ≤ 9) (hx2 : -10000000000000000 ≤ x.1 ∧ x.1 ≤ 10000000000000000) (hst : ∀ i, i < x.2.2.length → w.1 235 i = (x.2.2.getD i 0 : Nat)) (hp : ∀ w', Fr (fun j k => Soff j k ∨ (j = 227 ∧ k = 5)) w w' → BC w' (-1) (kpK (-1) acc x) → w'.1 227 5 = w.1 227 5 + (ind (x.1 < 0) : Int) → P w') : CV (m_X3_meetRound F [vR 227, vI n, vI x.2.1, vL x.1] w) P := by
  refine wp_X3_meetRound F n x.2.1 x.1 w _ ?_
  rw [wl_id (x := x.1) (by omega) (by omega)]
  refine ⟨fun q w2 e2 => ?_, fun q => q_v (hp w Fr.rf (by rw [kpK_gt (by omega)]; exact hacc) (by rw [ind_neg q]; omega))⟩
  have f2 : Fr (fun j k => j = 227 ∧ k = 5) w w2 := by rw [e2]; exact Fr.rf.wI _ (by simp)
  refine cv_offer hF (hacc.fr f2 (by simp) (by simp) (by simp) (by simp)) hab hn hx0 hx1 hx2 (fun i hi => by rw [e2, wI_cell _ _ _ _ (by decide)]; exact hst i hi) (fun w' ff hb => q_v (hp w' ((f2.wk (by intro j k; simp only [Soff]; omega)).tr (ff.wk (by intro j k; simp only [Soff]; omega))) (by rw [kpK_le (by omega)]; exact hb) ?_))
  rw [ff.I 227 5 (by simp [Soff]), e2, wI_same, ind_pos q]
  rfl
set_option maxHeartbeats 8000000 in
theorem goAround_ok {F : Nat} {j jo : Nat} {T O : Nat → Int} {p kind t0 to mc ev : Int} {hp : Nat → Int} (hF : FB F) (hj : isTw j) (hja : apart j) (hjo : isI jo 14) (hjo2 : jo = 222 ∨ jo = 255) (hT : TK T) (hO : OK T O) (hp0 : 0 ≤ p) (hp1 : p < T 2) (hk : 0 ≤ kind ∧ kind ≤ 2) (ht0 : 0 ≤ t0 ∧ t0 ≤ 100000) (hto : 0 ≤ to ∧ to < T 0) (hev : ev = 0 ∨ ev = 1) (hhp : ∀ r, 0 ≤ hp r ∧ hp r ≤ 600000000000000) (hlow : ∀ (r : Nat) (t : Int), r < (T 1).toNat → t0 ≤ t → 0 * rM T r - hp r ≤ cst T (-1) O p kind r t) : ∀ (d n : Nat) (st : List Nat) (vis : List Int) (s t c h : Int) (acc : Option Cd) (w : AW) (N : Nat) (P : AW → Prop), n + d = 6 → d < N → st.length = n → WX j jo T O p kind t0 to mc hp w → w.1 227 17 = ev → (0 ≤ s ∧ s < T 0) → NdOK (mp T (-1) O p kind) True s st vis → nB (w.1 227 15) → (∀ i : Nat, i < 14 → tb (w.1 227 15) i = decide (i ∈ st)) → (∀ i, i < n → w.1 235 i = (st.getD i 0 : Nat)) → h = hsm hp st (T 1).toNat → (t0 ≤ t ∧ t ≤ t0 + 30 * n) → (-1000000000000000 * n ≤ c ∧ c ≤ 1000000000000000 * n) → BC w (-1) acc → AB acc → bnd (-1) acc ≤ -1 → (∀ w', Fr (Sgo n) w w' → w'.1 227 15 = w.1 227 15 → BC w' (-1) (((if s = to ∧ 2 ≤ n then [(c, t, st)] else []) ++ Wy (mp T (-1) O p kind) True to d s t c st vis).foldl (kpK (-1)) acc) → (ev = 1 → w'.1 227 5 = w.1 227 5 + neg ((if s = to ∧ 2 ≤ n then [(c, t, st)] else []) ++ Wy (mp T (-1) O p kind) True to d s t c st vis)) → P w') → CV (m_X3_goAround F N [vR 227, vI s, vI n, vI t, vL c, vL h] w) P := by
  have a0 := hT.1
  have a1 := hT.2.1
  have a2 := hT.2.2.1
  have hevw : w32 ev = 0 ↔ ev = 0 := by rcases hev with e | e <;> subst e <;> decide
  intro d
  induction d with
  | zero =>
    intro n st vis s t c h acc w N P hn hN hst hWX hevf hs hnd hnB hbits hrow hh ht hc hBC hAB hbK hP
    obtain ⟨M, rfl⟩ : ∃ M, N = M + 1 := ⟨N - 1, by omega⟩
    have hnil : Wy (mp T (-1) O p kind) True to 0 s t c st vis = [] := rfl
    rw [hnil, List.append_nil] at hP
    have hlen : st ≠ [] := by intro e; rw [e] at hst; simp at hst; omega
    have go21 : ∀ w', P w' → TT (k_X3_goAround_21 F (m_X3_goAround F M) [vR 227, vI s, vI n, vI t, vL c, vU, vL h, vU, vU, vU, vU, vU, vU, vU, vU] [] w') (qq 0 (fun r w => r = none ∧ P w)) := by
      intro w' hw'
      refine wp_X3_goAround_21 F _ s n t c h w' _ ?_
      rw [w_id (x := (n : Int)) (by omega) (by omega)]
      exact ⟨fun q => by omega, fun q => q_v hw'⟩
    refine wp_X3_goAround F M s n t c h w _ ?_
    rw [hWX.2.2.1, w_id (x := s) (by omega) (by omega), w_id (x := to) (by omega) (by omega), w_id (x := (n : Int)) (by omega) (by omega)]
    refine ⟨fun q => ⟨fun q2 => by omega, fun q2 => ?_⟩, fun q => go21 w (hP w Fr.rf rfl ?_ ?_)⟩
    · rw [if_pos ⟨q, by omega⟩] at hP
      refine cv_meet (x := (c, t, st)) hF hBC hAB (by show (n : Int) = (st.length : Nat); rw [hst]) hlen (by omega) (by show _ ≤ c ∧ c ≤ _; omega) (fun i hi => hrow i (by rw [← hst]; exact hi)) (fun w' ff hb ht' => go21 w' (hP w' (ff.wk (by intro j k; simp only [Soff, Sgo]; omega)) (ff.I 227 15 (by simp [Soff])) hb (fun _ => ?_)))
      rw [ht']
      show _ = _ + ((ind (c < 0) : Int) + 0)
      rw [Int.add_zero]
    · rw [if_neg (fun z => q z.1)]; exact hBC
    · intro _
      rw [if_neg (fun z => q z.1)]
      show w.1 227 5 = w.1 227 5 + 0
      omega
  | succ d ih =>
    intro n st vis s t c h acc w N P hn hN hst hWX hevf hs hnd hnB hbits hrow hh ht hc hBC hAB hbK hP
    obtain ⟨M, rfl⟩ : ∃ M, N = M + 1 := ⟨N - 1, by omega⟩
    obtain ⟨AJ, hAJ⟩ : ∃ AJ, adj T s (T 1).toNat = AJ := ⟨_, rfl⟩
    have hAJl : AJ.length ≤ 14 := by rw [← hAJ]; have := adj_len T s (T 1).toNat; omega
    have hAJm : ∀ r ∈ AJ, r < (T 1).toNat ∧ (rA T r = s ∨ rB T r = s) := by
      intro r hr
      rw [← hAJ] at hr
      unfold adj at hr
      rw [List.mem_filter, List.mem_range] at hr
      exact ⟨hr.1, by simpa using hr.2⟩
    have hlist : Wy (mp T (-1) O p kind) True to (d + 1) s t c st vis = AJ.flatMap (Ws (mp T (-1) O p kind) True to d s t c st vis) := by
      rw [Wy_succ, ← hAJ]
      exact flat_filter (fun r : Nat => decide (rA T r = s ∨ rB T r = s)) _ (fun r hr => Ws_no (fun z => by
        have z1 : rA T r = s ∨ rB T r = s := z.1
        simp [z1] at hr)) _
    rw [hlist] at hP
    -- the children, from a world that has taken the round of this place, if it is one
    have kids : ∀ (acc0 : Option Cd) (w0 : AW) (tl : Int), Fr (Sgo n) w w0 → w0.1 227 15 = w.1 227 15 → (∀ i, i < n → w0.1 235 i = (st.getD i 0 : Nat)) → BC w0 (-1) acc0 → AB acc0 → bnd (-1) acc0 ≤ -1 → (ev = 1 → w0.1 227 5 = w.1 227 5 + tl) → (∀ w', Fr (Sgo n) w w' → w'.1 227 15 = w.1 227 15 → BC w' (-1) ((AJ.flatMap (Ws (mp T (-1) O p kind) True to d s t c st vis)).foldl (kpK (-1)) acc0) → (ev = 1 → w'.1 227 5 = w.1 227 5 + (tl + neg (AJ.flatMap (Ws (mp T (-1) O p kind) True to d s t c st vis)))) → P w') → TT (k_X3_goAround_21 F (m_X3_goAround F M) [vR 227, vI s, vI n, vI t, vL c, vU, vL h, vU, vU, vU, vU, vU, vU, vU, vU] [] w0) (qq 0 (fun r w => r = none ∧ P w)) := by
      intro acc0 w0 tl f0 hb0 row0 hBC0 hAB0 hbK0 htl hP0
      refine wp_X3_goAround_21 F _ s n t c h w0 _ ?_
      rw [w_id (x := (n : Int)) (by omega) (by omega)]
      refine ⟨fun q2 => ?_, fun q => by omega⟩
      intro x2 ex2
      subst ex2
      refine tt_loop (K := k_X3_goAround_38 F (m_X3_goAround F M)) (fun m lo w' => ∃ (i : Nat) (acc' : Option Cd) (v10 v11 v13 : AV), m + i = AJ.length ∧ lo = [vR 227, vI s, vI n, vI t, vL c, vU, vL h, vU, vI (s * 14), vI (s * 14 + i), v10, v11, vU, v13, vU] ∧ Fr (Sgo n) w w' ∧ w'.1 227 15 = w.1 227 15 ∧ (∀ i, i < n → w'.1 235 i = (st.getD i 0 : Nat)) ∧ BC w' (-1) acc' ∧ AB acc' ∧ bnd (-1) acc' ≤ -1 ∧ ((AJ.drop i).flatMap (Ws (mp T (-1) O p kind) True to d s t c st vis)).foldl (kpK (-1)) acc' = (AJ.flatMap (Ws (mp T (-1) O p kind) True to d s t c st vis)).foldl (kpK (-1)) acc0 ∧ (ev = 1 → w'.1 227 5 + neg ((AJ.drop i).flatMap (Ws (mp T (-1) O p kind) True to d s t c st vis)) = w.1 227 5 + (tl + neg (AJ.flatMap (Ws (mp T (-1) O p kind) True to d s t c st vis))))) ?_ AJ.length F _ w0 (by omega) ⟨0, acc0, vU, vU, vU, by omega, by simp, f0, hb0, row0, hBC0, hAB0, hbK0, by rw [List.drop_zero], fun z => by rw [List.drop_zero, htl z]; omega⟩
      rintro m mm lo w1 ⟨i, acc1, v10, v11, v13, hmi, rfl, f1, hb1, row1, hBC1, hAB1, hbK1, hfold, htal⟩ hcont
      have hWX1 : WX j jo T O p kind t0 to mc hp w1 := hWX.fr f1 (by intro a k; simp only [SWX, SHX, Sgo]; unfold apart at hja; omega)
      have hev1 : w1.1 227 17 = ev := by rw [f1.I 227 17 (by simp [Sgo])]; exact hevf
      have hCH1 := hWX1.1.2.2.2.1
      have hCR1 := hCH1.1 s hs.1 (by omega)
      rw [hAJ] at hCR1
      rw [ks_X3_goAround_38]
      refine wp_X3_goAround_38 F _ _ s n t c h (s * 14) (s * 14 + i) v10 v11 v13 w1 _ ⟨⟨hs.1, by omega⟩, ?_⟩
      rw [hCR1.1, w_id (x := s * 14 + (i : Int)) (by omega) (by omega), w_id (x := s * 14 + (AJ.length : Int)) (by omega) (by omega)]
      refine ⟨fun z => ⟨⟨by omega, by omega⟩, ?_⟩, fun z => ?_⟩
      · have hi : i < AJ.length := by omega
        obtain ⟨r, hr⟩ : ∃ r, AJ.getD i 0 = r := ⟨_, rfl⟩
        have hrm : r ∈ AJ := by
          rw [← hr, List.getD_eq_getElem?_getD, List.getElem?_eq_getElem hi]
          exact List.getElem_mem hi
        have hdrop : AJ.drop i = r :: AJ.drop (i + 1) := by
          rw [List.drop_eq_getElem_cons hi]
          congr 1
          rw [← hr, List.getD_eq_getElem?_getD, List.getElem?_eq_getElem hi]
          rfl
        rw [hdrop, foldK_step (l := [])] at hfold
        rw [hdrop, List.flatMap_cons, neg_app] at htal
        obtain ⟨hrR, hre⟩ := hAJm r hrm
        have h0 : (0 : Int) ≤ r := by omega
        have h1 : (r : Int) < T 1 := by omega
        have htr := hT.road h0 h1
        have hidx : (s * 14 + (i : Int)).toNat = (s * 14).toNat + i := by omega
        have hcr := hCR1.2 i hi
        rw [hr] at hcr
        rw [hidx, hcr.1]
        intro x2 ex2
        subst ex2
        obtain ⟨x3, ex3⟩ : ∃ x3, x3 = rA T r + rB T r - s := ⟨_, rfl⟩
        have hx3r : 0 ≤ x3 ∧ x3 < T 0 := by rcases hre with e | e <;> omega
        have hfr3 : frr (mp T (-1) O p kind) r s = x3 := ex3.symm
        rw [hb1, tst0 hnB h0 (by omega), Int.toNat_natCast, hbits r (by omega)]
        have next : ∀ (acc' : Option Cd) (w' : AW) (v10 v11 v13 : AV), Fr (Sgo n) w w' → w'.1 227 15 = w.1 227 15 → (∀ i, i < n → w'.1 235 i = (st.getD i 0 : Nat)) → BC w' (-1) acc' → AB acc' → acc' = (Ws (mp T (-1) O p kind) True to d s t c st vis r).foldl (kpK (-1)) acc1 → (ev = 1 → w'.1 227 5 = w1.1 227 5 + neg (Ws (mp T (-1) O p kind) True to d s t c st vis r)) → TT (k_X3_goAround_38 F (m_X3_goAround F M) m [vR 227, vI s, vI n, vI t, vL c, vU, vL h, vU, vI (s * 14), vI (s * 14 + i + 1), v10, v11, vU, v13, vU] [] w') (qq 0 (fun r w => r = none ∧ P w)) := by
          intro acc' w' v10 v11 v13 hf' hb' hrow' hB' hA' hacc' htl'
          refine hcont (mm - 1) _ w' (by omega) ⟨i + 1, acc', v10, v11, v13, by omega, by rw [show s * 14 + ((i + 1 : Nat) : Int) = s * 14 + i + 1 from by omega], hf', hb', hrow', hB', hA', by rw [hacc']; exact bnd_le _ _ hbK1, ?_, fun e => ?_⟩
          · rw [hacc', hfold]
          · rw [htl' e]
            have := htal e
            omega
        refine ⟨fun y => ?_, fun y => ?_⟩
        · have hnv : r ∉ st := by simpa using y
          have hok : okr (mp T (-1) O p kind) True r s st vis := ⟨hre, fun _ => hnv, fun z => absurd trivial z⟩
          refine cl_cost hWX1.2.1 hCH1.2.2 hT h0 h1 hp0 hp1 ⟨by omega, by omega⟩ ?_
          intro x8 ex8
          refine ⟨⟨by omega, by omega⟩, fun x10 ex10 => ?_⟩
          have hhop := (hWX1.2.1 r h0 h1).2.2
          rw [Int.toNat_natCast] at hhop
          rw [hhop, hh, ← hsm_in hnv (T 1).toNat hrR] at ex10
          have hcb := cst_b (fr := -1) (kind := kind) (O := O) hT h0 h1 hp0 hp1 (show 0 ≤ t by omega)
          have hh10 : 0 ≤ x10 ∧ x10 ≤ 8400000000000000 := by
            rw [ex10]
            refine ⟨hsm_nonneg (fun r => (hhp r).1) _ _, ?_⟩
            have key : ∀ m, hsm hp (st ++ [r]) m ≤ m * 600000000000000 := by
              intro m
              induction m with
              | zero => exact Int.le_refl _
              | succ m ihm =>
                show hsm hp (st ++ [r]) m + (ind (m ∉ st ++ [r]) : Int) * hp m ≤ _
                have := (hhp m)
                by_cases e : m ∉ st ++ [r]
                · rw [ind_pos e]; push_cast; omega
                · rw [ind_neg e]; push_cast; omega
            have := key (T 1).toNat
            omega
          have hbndK : -10000000000000000 ≤ bnd (-1) acc1 ∧ bnd (-1) acc1 ≤ 1000000000000000000 := by
            cases acc1 with
            | none => show -10000000000000000 ≤ (-1 : Int) ∧ (-1 : Int) ≤ _; omega
            | some y => have := hAB1 y rfl; show -10000000000000000 ≤ y.1 ∧ y.1 ≤ _; omega
          have hstl : 2 ≤ n + 1 ↔ st ≠ [] := by
            constructor
            · intro z e; rw [e] at hst; simp at hst; omega
            · intro z; have := List.length_pos_iff.mpr z; omega
          have hWs : Ws (mp T (-1) O p kind) True to d s t c st vis r = (if x3 = to ∧ 2 ≤ n + 1 then [(x8, t + rM T r, st ++ [r])] else []) ++ Wy (mp T (-1) O p kind) True to d x3 (t + rM T r) x8 (st ++ [r]) (x3 :: vis) := by
            rw [ex8]
            have hk2 : ¬ (frr (mp T (-1) O p kind) r s = to ∧ ¬ True) := fun z => z.2 trivial
            by_cases e : x3 = to ∧ 2 ≤ n + 1
            · rw [if_pos e]
              have := Ws_yes (d := d) (t := t) (c := c) (to := to) hok (Or.inl ⟨rfl, by rw [hfr3]; exact e.1, fun _ => hstl.mp e.2⟩) (Or.inr ⟨rfl, hk2⟩)
              rw [hfr3] at this
              exact this
            · rw [if_neg e]
              have := Ws_yes (d := d) (t := t) (c := c) (to := to) hok (Or.inr ⟨rfl, by rw [hfr3]; exact fun z => e ⟨z.1, hstl.mpr (z.2 trivial)⟩⟩) (Or.inr ⟨rfl, hk2⟩)
              rw [hfr3] at this
              exact this
          have elow : ∀ x, x ∈ Ws (mp T (-1) O p kind) True to d s t c st vis r → x8 - x10 ≤ x.1 := by
            intro x hx
            rw [hWs] at hx
            rcases List.mem_append.mp hx with hx | hx
            · by_cases e : x3 = to ∧ 2 ≤ n + 1
              · rw [if_pos e] at hx
                have : x = (x8, t + rM T r, st ++ [r]) := by simpa using hx
                rw [this]; show x8 - x10 ≤ x8; omega
              · rw [if_neg e] at hx; cases hx
            · have hl := Wy_low (mp_ok hT (-1) O p kind) (fun r => (hhp r).1) (mc := 0) (t0 := t0) (hp := hp) (g := mp T (-1) O p kind) (rd := True) (to := to) (hc := fun r' t' hr' ht' => hlow r' t' hr' ht') d x3 (t + rM T r) x8 (st ++ [r]) (x3 :: vis) x (by omega) (by have := NdOK_step hnd hok; rw [hfr3] at this; exact this) hx
              rw [Int.zero_mul] at hl
              have hl : x8 + 0 - hsm hp (st ++ [r]) (T 1).toNat ≤ x.1 := hl
              omega
          have g125 : ∀ B : Int, B = (if ev = 0 then bnd (-1) acc1 else -1) → TT (k_X3_goAround_125 F (m_X3_goAround F M) (k_X3_goAround_38 F (m_X3_goAround F M) m) [vR 227, vI s, vI n, vI t, vL c, vU, vL h, vU, vI (s * 14), vI (s * 14 + i), vI r, vL x8, vU, vL x10, vU] [vL B, vL (x8 - x10)] w1) (qq 0 (fun r w => r = none ∧ P w)) := by
            intro B hB
            have hBr : bnd (-1) acc1 ≤ B ∧ B ≤ -1 := by rw [hB]; split <;> omega
            refine wp_X3_goAround_125 F _ _ s n t c h (s * 14) (s * 14 + i) r x8 x10 B (x8 - x10) w1 _ ?_
            rw [wl_id (x := B) (by omega) (by omega), wl_id (x := x8 - x10) (by omega) (by omega)]
            refine ⟨fun z2 => wp_X3_goAround_198 F _ _ s n t c h (s * 14) (s * 14 + i) r _ _ w1 _ (next acc1 w1 _ _ _ f1 hb1 row1 hBC1 hAB1 ?_ (fun e => ?_)), fun z2 => ⟨⟨by omega, by omega⟩, fun w2 e2 w4 e4 => ?_⟩⟩
            · rw [fold_cut]
              intro x hx
              have := elow x hx
              omega
            · rw [neg_zero (fun x hx => ?_)]
              · omega
              · have := elow x hx
                rw [hB, if_neg (by omega)] at z2
                omega
            · have hrn : nB (bShl 1 (r : Int)) := bShl_nB h0 (by omega)
              have f2 : Fr (Sgo n) w w2 := by rw [e2]; exact f1.wI _ (by simp [Sgo])
              have hb2 : w2.1 227 15 = w.1 227 15 := by rw [e2, wI_cell _ _ _ _ (by decide)]; exact hb1
              rw [hb2] at e4
              have f4 : Fr (Sgo n) w w4 := by rw [e4]; exact f2.wI _ (by simp [Sgo])
              have b4 : w4.1 227 15 = bOr (w.1 227 15) (bShl 1 r) := by rw [e4, wI_same]
              have hWX4 : WX j jo T O p kind t0 to mc hp w4 := hWX.fr f4 (by intro a k; simp only [SWX, SHX, Sgo]; unfold apart at hja; omega)
              have hev4 : w4.1 227 17 = ev := by rw [f4.I 227 17 (by simp [Sgo])]; exact hevf
              have hCR4 := hWX4.1.2.2.2.1.1 s hs.1 (by omega)
              rw [hAJ] at hCR4
              have hcr4 := (hCR4.2 i hi).2
              rw [hr, ← ex3] at hcr4
              rw [hWX4.1.1, (hWX4.1.2.2.1.road h0 h1).2.2.1, hidx, hcr4]
              refine ⟨⟨by omega, by omega⟩, hj, tw_a3 hj, ⟨by omega, by omega⟩, ?_⟩
              have row4 : ∀ i, i < n + 1 → w4.1 235 i = ((st ++ [r]).getD i 0 : Nat) := by
                intro i' hi'
                rw [e4, wI_cell _ _ _ _ (by decide), e2, wI_at]
                by_cases e : i' = n
                · rw [if_pos ⟨rfl, by omega⟩, e, List.getD_eq_getElem?_getD, List.getElem?_append_right (by omega)]
                  simp [hst]
                · rw [if_neg (by omega), row1 i' (by omega), List.getD_eq_getElem?_getD, List.getD_eq_getElem?_getD, List.getElem?_append_left (by omega)]
              have hBC4 : BC w4 (-1) acc1 := hBC1.fr (S := fun j k => j = 235 ∨ (j = 227 ∧ k = 15)) (by rw [e4, e2]; exact (Fr.rf.wI _ (by simp)).wI _ (by simp)) (by simp) (by simp) (by simp) (by simp)
              have t4 : w4.1 227 5 = w1.1 227 5 := by rw [e4, wI_idx _ _ _ _ (by decide), e2, wI_cell _ _ _ _ (by decide)]
              have := ih (n + 1) (st ++ [r]) (x3 :: vis) x3 (t + rM T r) x8 x10 acc1 w4 M (fun w6 => ∀ ww9 : AW, ww9 = wI w6 227 15 (bAnd (w6.1 227 15) (bXor (bShl 1 (r : Int)) (-1))) → TT (k_X3_goAround_198 F (m_X3_goAround F M) (k_X3_goAround_38 F (m_X3_goAround F M) m) [vR 227, vI s, vI n, vI t, vL c, vU, vL h, vU, vI (s * 14), vI (s * 14 + i), vI r, vL x8, vU, vL x10, vU] [] ww9) (qq 0 (fun r w => r = none ∧ P w))) (by omega) (by omega) (by simp [hst]) hWX4 hev4 hx3r (by have := NdOK_step hnd hok; rw [hfr3] at this; exact this) (by rw [b4]; exact (bOr_eq hnB hrn).2) (fun i' hi' => by
                rw [b4, tb_or hnB hrn, hbits i' hi', tb_shl h0 (by omega), Int.toNat_natCast]
                by_cases e : r = i'
                · simp [e]
                · have e2 : ¬ i' = r := fun z => e z.symm
                  simp [e, e2]) row4 ex10 ⟨by omega, by push_cast; omega⟩ ⟨by push_cast; omega, by push_cast; omega⟩ hBC4 hAB1 hbK1 (fun w6 f6 hb6 hB6 ht6 w9 e9 => ?_)
              · rw [show ((n : Int) + 1) = ((n + 1 : Nat) : Int) from by omega]
                exact this
              · rw [← hWs] at hB6 ht6
                have f6' : Fr (Sgo n) w w6 := f4.tr (f6.wk (by intro j k; simp only [Sgo]; omega))
                refine wp_X3_goAround_198 F _ _ s n t c h (s * 14) (s * 14 + i) r _ _ w9 _ (next _ w9 _ _ _ (by rw [e9]; exact f6'.wI _ (by simp [Sgo])) ?_ (fun i' hi' => ?_) (hB6.fr (S := fun j k => j = 227 ∧ k = 15) (by rw [e9]; exact Fr.rf.wI _ (by simp)) (by simp) (by simp) (by simp) (by simp)) ?_ rfl (fun e => ?_))
                · rw [e9, wI_same, hb6, b4]
                  have hc1 := bcl_eq (bOr_eq hnB hrn).2 hrn
                  refine tb_ext hc1.1.1 hnB.1 (fun i' => ?_)
                  rw [hc1.2, tb_or hnB hrn, tb_shl h0 (by omega), Int.toNat_natCast]
                  by_cases e : r = i'
                  · have : tb (w.1 227 15) i' = false := by
                      rw [← e, hbits r (by omega)]
                      simp [hnv]
                    rw [this]
                    simp [e]
                  · simp [e]
                · rw [e9, wI_cell _ _ _ _ (by decide), f6.I 235 i' (by simp only [Sgo]; omega), e4, wI_cell _ _ _ _ (by decide), e2, wI_idx _ _ _ _ (by omega)]
                  exact row1 i' hi'
                · refine AB_fold _ _ hAB1 (fun x hx => ?_)
                  rw [hWs] at hx
                  rcases List.mem_append.mp hx with hx | hx
                  · by_cases e : x3 = to ∧ 2 ≤ n + 1
                    · rw [if_pos e] at hx
                      have : x = (x8, t + rM T r, st ++ [r]) := by simpa using hx
                      rw [this]
                      show _ ≤ x8 ∧ x8 ≤ _ ∧ (st ++ [r]).length ≤ 9
                      simp [hst]; omega
                    · rw [if_neg e] at hx; cases hx
                  · have := Wy_bounds hT hp0 hp1 _ _ _ _ _ _ _ (show 0 ≤ t + rM T r by omega) hx
                    simp [hst] at this
                    omega
                · rw [e9, wI_idx _ _ _ _ (by decide), ht6 e, t4]
          rw [hev1, hevw]
          refine ⟨fun e => ?_, fun e => g125 _ (by rw [if_neg e])⟩
          rw [hBC1.bnd]
          exact g125 _ (by rw [if_pos e])
        · have hin : r ∈ st := by
            cases hd : decide (r ∈ st) with
            | true => exact of_decide_eq_true hd
            | false => exact absurd hd y
          have hno : Ws (mp T (-1) O p kind) True to d s t c st vis r = [] := Ws_no (fun hok => hok.2.1 trivial hin)
          refine wp_X3_goAround_198 F _ _ s n t c h (s * 14) (s * 14 + i) r _ _ w1 _ (next acc1 w1 _ _ _ f1 hb1 row1 hBC1 hAB1 (by rw [hno]; rfl) (fun e => by rw [hno]; show w1.1 227 5 = w1.1 227 5 + 0; omega))
      · have hi : i = AJ.length := by omega
        rw [hi, List.drop_length] at hfold htal
        refine q_v (hP0 w1 f1 hb1 ?_ (fun e => ?_))
        · have : acc1 = (AJ.flatMap (Ws (mp T (-1) O p kind) True to d s t c st vis)).foldl (kpK (-1)) acc0 := hfold
          rw [← this]
          exact hBC1
        · have := htal e
          have h2 : neg (([] : List Nat).flatMap (Ws (mp T (-1) O p kind) True to d s t c st vis)) = 0 := rfl
          rw [h2] at this
          omega
    have plain : ¬ (s = to ∧ 2 ≤ n) → TT (k_X3_goAround_21 F (m_X3_goAround F M) [vR 227, vI s, vI n, vI t, vL c, vU, vL h, vU, vU, vU, vU, vU, vU, vU, vU] [] w) (qq 0 (fun r w => r = none ∧ P w)) := by
      intro hz
      rw [if_neg hz, List.nil_append] at hP
      exact kids acc w 0 Fr.rf rfl hrow hBC hAB hbK (fun _ => by omega) (fun w' f' hb' hB' ht' => hP w' f' hb' hB' (fun e => by rw [ht' e]; omega))
    refine wp_X3_goAround F M s n t c h w _ ?_
    rw [hWX.2.2.1, w_id (x := s) (by omega) (by omega), w_id (x := to) (by omega) (by omega), w_id (x := (n : Int)) (by omega) (by omega)]
    refine ⟨fun q => ⟨fun q2 => plain (by omega), fun q2 => ?_⟩, fun q => plain (fun z => q z.1)⟩
    have hlen : st ≠ [] := by intro e; rw [e] at hst; simp at hst; omega
    have hz : s = to ∧ 2 ≤ n := ⟨q, by omega⟩
    rw [if_pos hz] at hP
    refine cv_meet (x := (c, t, st)) hF hBC hAB (by show (n : Int) = (st.length : Nat); rw [hst]) hlen (by omega) (by show _ ≤ c ∧ c ≤ _; omega) (fun i hi => hrow i (by rw [← hst]; exact hi)) (fun w' ff hb ht' => ?_)
    have hx : -10000000000000000 ≤ c ∧ c ≤ 10000000000000000 ∧ st.length ≤ 9 := by omega
    refine kids (kpK (-1) acc (c, t, st)) w' (ind (c < 0) : Int) (ff.wk (by intro j k; simp only [Soff, Sgo]; omega)) (ff.I 227 15 (by simp [Soff])) (fun i hi => by rw [ff.I 235 i (by simp [Soff])]; exact hrow i hi) hb ?_ ?_ (fun _ => ht') (fun w'' f'' hb'' hB'' ht'' => hP w'' f'' hb'' ?_ (fun e => ?_))
    · refine AB_fold [(c, t, st)] acc hAB ?_
      intro x hx'
      have e : x = (c, t, st) := by simpa using hx'
      rw [e]
      exact hx
    · exact bnd_le [(c, t, st)] acc hbK
    · rw [List.foldl_append]; exact hB''
    · rw [neg_app, ht'' e]
      show _ = _ + ((ind (c < 0) : Int) + 0 + _)
      rw [Int.add_zero]
