/-! THE CLASS'S WALK THROUGH THE WAYS -/
abbrev Sgo (n : Nat) (j k : Nat) : Prop := j = 234 ∨ (j = 235 ∧ n ≤ k) ∨ (j = 227 ∧ (k = 2 ∨ k = 3 ∨ k = 4 ∨ k = 5 ∨ k = 15))
theorem AB_fold {K : Int} : ∀ (l : List Cd) (acc : Option Cd), AB acc → (∀ x ∈ l, -10000000000000000 ≤ x.1 ∧ x.1 ≤ 10000000000000000 ∧ x.2.2.length ≤ 9) → AB (l.foldl (kpK K) acc)
  | [], acc, h, _ => h
  | x :: l, acc, h, hx => by
    rw [List.foldl_cons]
    refine AB_fold l _ ?_ (fun y hy => hx y (List.mem_cons_of_mem _ hy))
    unfold kpK
    split
    · exact AB_kp h (hx x List.mem_cons_self)
    · exact h
/-- what is fixed in a hunt for a way -/
def WX (j jo : Nat) (T O : Nat → Int) (p kind t0 to mc : Int) (hp : Nat → Int) (w : AW) : Prop := HX j jo T O p kind w ∧ WG T O p kind hp w (T 1) ∧ w.1 227 14 = to ∧ w.2.1 227 16 = mc
abbrev SWX (j jo a k : Nat) : Prop := SHX j jo a k ∨ a = 236 ∨ a = 237 ∨ a = 238 ∨ (a = 227 ∧ (k = 14 ∨ k = 16))
theorem WX.fr {j jo : Nat} {T O : Nat → Int} {p kind t0 to mc : Int} {hp : Nat → Int} {w w' : AW} {S : Nat → Nat → Prop} (h : WX j jo T O p kind t0 to mc hp w) (hf : Fr S w w') (hs : ∀ a k, SWX j jo a k → ¬ S a k) : WX j jo T O p kind t0 to mc hp w' := by
  obtain ⟨h1, h2, h3, h4⟩ := h
  refine ⟨h1.fr hf (fun a k z => hs a k (Or.inl z)), fun r x y => ?_, ?_, ?_⟩
  · rw [hf.L 236 _ (hs 236 _ (by simp [SWX])), hf.I 237 _ (hs 237 _ (by simp [SWX])), hf.L 238 _ (hs 238 _ (by simp [SWX]))]
    exact h2 r x y
  · rw [hf.I 227 14 (hs 227 14 (by simp [SWX]))]; exact h3
  · rw [hf.L 227 16 (hs 227 16 (by simp [SWX]))]; exact h4
/-- candidates stay within bounds -/
theorem Wy_bounds {T : Nat → Int} (hT : TK T) {fr p kind to : Int} {O : Nat → Int} {rd : Prop} (hp0 : 0 ≤ p) (hp1 : p < T 2) : ∀ d s t c st vis x, 0 ≤ t → x ∈ Wy (mp T fr O p kind) rd to d s t c st vis → c - 1000000000000000 * d ≤ x.1 ∧ x.1 ≤ c + 1000000000000000 * d ∧ x.2.2.length ≤ st.length + d ∧ st.length < x.2.2.length ∧ t ≤ x.2.1 ∧ x.2.1 ≤ t + 30 * d
  | 0, s, t, c, st, vis, x, _, h => by cases h
  | d + 1, s, t, c, st, vis, x, ht, h => by
    obtain ⟨r, h1, h2⟩ := Wy_mem h
    obtain ⟨h3, h4⟩ := Ws_mem h2
    have h1 : r < (T 1).toNat := h1
    have hcb := cst_b (fr := fr) (kind := kind) (O := O) hT (r := r) (by omega) (by omega) hp0 hp1 ht
    have hm := (hT.road (r := r) (by omega) (by omega)).2.2.2.1
    rcases h4 with ⟨e, -⟩ | ⟨-, h5⟩
    · subst e
      show c - 1000000000000000 * ((d + 1 : Nat) : Int) ≤ c + cst T fr O p kind r t ∧ c + cst T fr O p kind r t ≤ c + 1000000000000000 * ((d + 1 : Nat) : Int) ∧ (st ++ [r]).length ≤ st.length + (d + 1) ∧ st.length < (st ++ [r]).length ∧ t ≤ t + rM T r ∧ t + rM T r ≤ t + 30 * ((d + 1 : Nat) : Int)
      rw [List.length_append]
      simp only [List.length_singleton]
      omega
    · have := Wy_bounds hT hp0 hp1 d _ _ _ _ _ x (show 0 ≤ t + rM T r by omega) h5
      have e1 : (mp T fr O p kind).c r t = cst T fr O p kind r t := rfl
      have e2 : (mp T fr O p kind).m r = rM T r := rfl
      rw [List.length_append] at this
      simp only [List.length_singleton] at this
      rw [e1] at this
      omega
theorem foldK_step {K : Int} {l : List Cd} {acc : Option Cd} : ∀ {rs : List Nat} {r : Nat} {f : Nat → List Cd}, ((r :: rs).flatMap f).foldl (kpK K) acc = (rs.flatMap f).foldl (kpK K) ((f r).foldl (kpK K) acc) := by
  intro rs r f
  rw [List.flatMap_cons, List.foldl_append]
theorem goOn_ok {F : Nat} {j jo : Nat} {T O : Nat → Int} {p kind t0 to mc K : Int} {hp : Nat → Int} (hF : FB F) (hj : isTw j) (hja : apart j) (hjo : isI jo 14) (hjo2 : jo = 222 ∨ jo = 255) (hT : TK T) (hO : OK T O) (hp0 : 0 ≤ p) (hp1 : p < T 2) (hk : 0 ≤ kind ∧ kind ≤ 2) (ht0 : 0 ≤ t0 ∧ t0 ≤ 100000) (hto : 0 ≤ to ∧ to < T 0) (hmc : 0 ≤ mc ∧ mc ≤ 9000000000000) (hK : -10000000000000000 ≤ K ∧ K ≤ 1000000000000000000) (hhp : ∀ r, 0 ≤ hp r ∧ hp r ≤ 600000000000000) (hKK : (∀ r, hp r = 0) ∨ 10000000000000000 ≤ K) (hlow : ∀ (r : Nat) (t : Int), r < (T 1).toNat → t0 ≤ t → mc * rM T r - hp r ≤ cst T (-1) O p kind r t) : ∀ (d n : Nat) (st : List Nat) (vis : List Int) (s t c h : Int) (acc : Option Cd) (w : AW) (N : Nat) (P : AW → Prop), n + d = 8 → d < N → st.length = n → WX j jo T O p kind t0 to mc hp w → (0 ≤ s ∧ s < T 0) → (∀ v ∈ vis, 0 ≤ v ∧ v < T 0) → s ∉ vis → NdOK (mp T (-1) O p kind) False s st (s :: vis) → nB (w.1 227 15) → (∀ i : Nat, i < 9 → tb (w.1 227 15) i = decide ((i : Int) ∈ vis)) → (∀ i, i < n → w.1 235 i = (st.getD i 0 : Nat)) → h = hsm hp st (T 1).toNat → (t0 ≤ t ∧ t ≤ t0 + 30 * n) → (-1000000000000000 * n ≤ c ∧ c ≤ 1000000000000000 * n) → BC w K acc → AB acc → bnd K acc ≤ K → (s = to → c ≤ K ∧ st ≠ []) → (∀ w', Fr (Sgo n) w w' → w'.1 227 15 = w.1 227 15 → BC w' K ((if s = to then [(c, t, st)] else Wy (mp T (-1) O p kind) False to d s t c st (s :: vis)).foldl (kpK K) acc) → P w') → CV (m_X3_goOn F N [vR 227, vI s, vI n, vI t, vL c, vL h] w) P := by
  have a0 := hT.1
  have a1 := hT.2.1
  have a2 := hT.2.2.1
  intro d
  induction d with
  | zero =>
    intro n st vis s t c h acc w N P hn hN hst hWX hs hvis hsv hnd hnB hbits hrow hh ht hc hBC hAB hbK hsto hP
    obtain ⟨M, rfl⟩ : ∃ M, N = M + 1 := ⟨N - 1, by omega⟩
    refine wp_X3_goOn F M s n t c h w _ ?_
    rw [hWX.2.2.1, w_id (x := s) (by omega) (by omega), w_id (x := to) (by omega) (by omega), w_id (x := (n : Int)) (by omega) (by omega)]
    refine ⟨fun q => ?_, fun q => ⟨fun q2 => by omega, fun q2 => q_v (hP w Fr.rf rfl ?_)⟩⟩
    · have hz := hsto q
      refine cv_offer (x := (c, t, st)) hF hBC hAB (by show (n : Int) = (st.length : Nat); rw [hst]) hz.2 (by omega) (by show _ ≤ c ∧ c ≤ _; omega) (fun i hi => hrow i (by rw [← hst]; exact hi)) (fun w' ff hb => q_v (hP w' (ff.wk (by intro j k; simp only [Soff, Sgo]; omega)) (ff.I 227 15 (by simp [Soff])) ?_))
      rw [if_pos q]
      show BC w' K (kpK K acc (c, t, st))
      rw [kpK_le hz.1]
      exact hb
    · rw [if_neg q]
      exact hBC
  | succ d ih =>
    intro n st vis s t c h acc w N P hn hN hst hWX hs hvis hsv hnd hnB hbits hrow hh ht hc hBC hAB hbK hsto hP
    obtain ⟨M, rfl⟩ : ∃ M, N = M + 1 := ⟨N - 1, by omega⟩
    refine wp_X3_goOn F M s n t c h w _ ?_
    rw [hWX.2.2.1, w_id (x := s) (by omega) (by omega), w_id (x := to) (by omega) (by omega), w_id (x := (n : Int)) (by omega) (by omega)]
    refine ⟨fun q => ?_, fun q => ⟨fun q2 => ?_, fun q2 => by omega⟩⟩
    · have hz := hsto q
      refine cv_offer (x := (c, t, st)) hF hBC hAB (by show (n : Int) = (st.length : Nat); rw [hst]) hz.2 (by omega) (by show _ ≤ c ∧ c ≤ _; omega) (fun i hi => hrow i (by rw [← hst]; exact hi)) (fun w' ff hb => q_v (hP w' (ff.wk (by intro j k; simp only [Soff, Sgo]; omega)) (ff.I 227 15 (by simp [Soff])) ?_))
      rw [if_pos q]
      show BC w' K (kpK K acc (c, t, st))
      rw [kpK_le hz.1]
      exact hb
    · rw [if_neg q] at hP
      intro w6 e6 x8 e8
      subst e8
      have hsn : nB (bShl 1 s) := bShl_nB hs.1 (by omega)
      have f6 : Fr (Sgo n) w w6 := by rw [e6]; exact Fr.rf.wI _ (by simp [Sgo])
      have b6 : w6.1 227 15 = bOr (w.1 227 15) (bShl 1 s) := by rw [e6, wI_same]
      have nB6 : nB (w6.1 227 15) := by rw [b6]; exact (bOr_eq hnB hsn).2
      have bits6 : ∀ i : Nat, i < 9 → tb (w6.1 227 15) i = decide ((i : Int) ∈ s :: vis) := by
        intro i hi
        rw [b6, tb_or hnB hsn, hbits i hi, tb_shl hs.1 (by omega)]
        by_cases z : s.toNat = i
        · have : (i : Int) = s := by omega
          simp [z, this]
        · have : (i : Int) ≠ s := by omega
          simp [z, this]
      have hBC6 : BC w6 K acc := hBC.fr (S := fun j k => j = 227 ∧ k = 15) (by rw [e6]; exact Fr.rf.wI _ (by simp)) (by simp) (by simp) (by simp) (by simp)
      have row6 : ∀ i, i < n → w6.1 235 i = (st.getD i 0 : Nat) := fun i hi => by rw [e6, wI_cell _ _ _ _ (by decide)]; exact hrow i hi
      have hsub : Fr (Sgo n) w w6 := f6
      -- the roads at this place
      have hCHR := hWX.1.2.2.2.1.1 s hs.1 (by omega)
      obtain ⟨AJ, hAJ⟩ : ∃ AJ, adj T s (T 1).toNat = AJ := ⟨_, rfl⟩
      have hAJl : AJ.length ≤ 14 := by rw [← hAJ]; have := adj_len T s (T 1).toNat; omega
      have hAJm : ∀ r ∈ AJ, r < (T 1).toNat ∧ (rA T r = s ∨ rB T r = s) := by
        intro r hr
        rw [← hAJ] at hr
        unfold adj at hr
        rw [List.mem_filter, List.mem_range] at hr
        exact ⟨hr.1, by simpa using hr.2⟩
      have hlist : Wy (mp T (-1) O p kind) False to (d + 1) s t c st (s :: vis) = AJ.flatMap (Ws (mp T (-1) O p kind) False to d s t c st (s :: vis)) := by
        rw [Wy_succ, ← hAJ]
        exact flat_filter (fun r : Nat => decide (rA T r = s ∨ rB T r = s)) _ (fun r hr => Ws_no (fun z => by
          have z1 : rA T r = s ∨ rB T r = s := z.1
          simp [z1] at hr)) _
      rw [hlist] at hP
      rw [hAJ] at hCHR
      -- the loop over them
      refine tt_loop (K := k_X3_goOn_46 F (m_X3_goOn F M) ) (fun m lo w' => ∃ (i : Nat) (acc' : Option Cd) (v10 v11 v12 v14 v16 : AV), m + i = AJ.length ∧ lo = [vR 227, vI s, vI n, vI t, vL c, vU, vL h, vU, vI (s * 14), vI (s * 14 + i), v10, v11, v12, vU, v14, vU, v16, vU] ∧ Fr (Sgo n) w w' ∧ w'.1 227 15 = w6.1 227 15 ∧ (∀ i, i < n → w'.1 235 i = (st.getD i 0 : Nat)) ∧ BC w' K acc' ∧ AB acc' ∧ bnd K acc' ≤ K ∧ ((AJ.drop i).flatMap (Ws (mp T (-1) O p kind) False to d s t c st (s :: vis))).foldl (kpK K) acc' = (AJ.flatMap (Ws (mp T (-1) O p kind) False to d s t c st (s :: vis))).foldl (kpK K) acc) ?_ AJ.length F _ w6 (by omega) ⟨0, acc, vU, vU, vU, vU, vU, by omega, by simp, hsub, rfl, row6, hBC6, hAB, hbK, by rw [List.drop_zero]⟩
      rintro m mm lo w1 ⟨i, acc1, v10, v11, v12, v14, v16, hmi, rfl, f1, hb1, row1, hBC1, hAB1, hbK1, hfold⟩ hcont
      have hWX1 : WX j jo T O p kind t0 to mc hp w1 := hWX.fr f1 (by intro a k; simp only [SWX, SHX, Sgo]; unfold apart at hja; omega)
      have hCH1 := hWX1.1.2.2.2.1
      have hCR1 := hCH1.1 s hs.1 (by omega)
      rw [hAJ] at hCR1
      rw [ks_X3_goOn_46]
      refine wp_X3_goOn_46 F _ _ s n t c h (s * 14) (s * 14 + i) v10 v11 v12 v14 v16 w1 _ ⟨⟨hs.1, by omega⟩, ?_⟩
      rw [hCR1.1, w_id (x := s * 14 + (i : Int)) (by omega) (by omega), w_id (x := s * 14 + (AJ.length : Int)) (by omega) (by omega)]
      refine ⟨fun z => ⟨⟨by omega, by omega⟩, ?_⟩, fun z => ?_⟩
      · have hi : i < AJ.length := by omega
        obtain ⟨r, hr⟩ : ∃ r, AJ.getD i 0 = r := ⟨_, rfl⟩
        have hrm : r ∈ AJ := by
          rw [← hr, List.getD_eq_getElem?_getD, List.getElem?_eq_getElem hi]
          exact List.getElem_mem hi
        have hdrop : AJ.drop i = r :: AJ.drop (i + 1) := by
          rw [List.drop_eq_getElem_cons hi]
          congr 1
          rw [← hr, List.getD_eq_getElem?_getD, List.getElem?_eq_getElem hi]
          rfl
        rw [hdrop, foldK_step (l := [])] at hfold
        obtain ⟨hrR, hre⟩ := hAJm r hrm
        have h0 : (0 : Int) ≤ r := by omega
        have h1 : (r : Int) < T 1 := by omega
        have htr := hT.road h0 h1
        have hidx : (s * 14 + (i : Int)).toNat = (s * 14).toNat + i := by omega
        have hcr := hCR1.2 i hi
        rw [hr] at hcr
        rw [hidx, hcr.1, hcr.2]
        intro x2 ex2
        have hx2r : 0 ≤ x2 ∧ x2 < T 0 ∧ x2 ≠ s := by rcases hre with e | e <;> omega
        have hfr2 : frr (mp T (-1) O p kind) r s = x2 := ex2.symm
        rw [hb1, tst0 nB6 hx2r.1 (by omega)]
        have hbx : tb (w6.1 227 15) x2.toNat = decide (x2 ∈ s :: vis) := by
          rw [bits6 x2.toNat (by omega), Int.toNat_of_nonneg hx2r.1]
        -- going on with the next road
        have next : ∀ (acc' : Option Cd) (w' : AW) (v10 v11 v12 v14 v16 : AV), Fr (Sgo n) w w' → w'.1 227 15 = w6.1 227 15 → (∀ i, i < n → w'.1 235 i = (st.getD i 0 : Nat)) → BC w' K acc' → AB acc' → acc' = (Ws (mp T (-1) O p kind) False to d s t c st (s :: vis) r).foldl (kpK K) acc1 → TT (k_X3_goOn_46 F (m_X3_goOn F M) m [vR 227, vI s, vI n, vI t, vL c, vU, vL h, vU, vI (s * 14), vI (s * 14 + i + 1), v10, v11, v12, vU, v14, vU, v16, vU] [] w') (qq 0 (fun r w => r = none ∧ P w)) := by
          intro acc' w' v10 v11 v12 v14 v16 hf' hb' hrow' hB' hA' hacc'
          refine hcont (mm - 1) _ w' (by omega) ⟨i + 1, acc', v10, v11, v12, v14, v16, by omega, by rw [show s * 14 + ((i + 1 : Nat) : Int) = s * 14 + i + 1 from by omega], hf', hb', hrow', hB', hA', by rw [hacc']; exact bnd_le _ _ hbK1, ?_⟩
          rw [hacc', hfold]
        refine ⟨fun y => ?_, fun y => ?_⟩
        · have hnv : x2 ∉ s :: vis := by rw [hbx] at y; simpa using y
          have hok : okr (mp T (-1) O p kind) False r s st (s :: vis) := ⟨hre, fun z => z.elim, fun _ => by rw [hfr2]; exact hnv⟩
          have hnew := okr_new hnd hok
          refine ⟨⟨by omega, by omega⟩, fun x5 ex5 => ?_⟩
          subst ex5
          refine cl_cost hWX1.2.1 hCH1.2.2 hT h0 h1 hp0 hp1 ⟨by omega, by omega⟩ ?_
          intro x10 ex10
          refine ⟨⟨by omega, by omega⟩, fun x12 ex12 => ⟨?_, fun x14 ex14 => ?_⟩⟩
          · rw [hWX1.2.2.1]; omega
          have hhop := (hWX1.2.1 r h0 h1).2.2
          rw [hhop, Int.toNat_natCast, hh, ← hsm_in hnew (T 1).toNat hrR] at ex12
          rw [hWX1.2.2.1, hWX1.2.2.2] at ex14
          have hcb := cst_b (fr := -1) (kind := kind) (O := O) hT h0 h1 hp0 hp1 (show 0 ≤ t by omega)
          have hh12 : 0 ≤ x12 ∧ x12 ≤ 8400000000000000 := by
            rw [ex12]
            refine ⟨hsm_nonneg (fun r => (hhp r).1) _ _, ?_⟩
            have key : ∀ m, hsm hp (st ++ [r]) m ≤ m * 600000000000000 := by
              intro m
              induction m with
              | zero => exact Int.le_refl _
              | succ m ihm =>
                show hsm hp (st ++ [r]) m + (ind (m ∉ st ++ [r]) : Int) * hp m ≤ _
                have := (hhp m)
                by_cases e : m ∉ st ++ [r]
                · rw [ind_pos e]; push_cast; omega
                · rw [ind_neg e]; push_cast; omega
            have := key (T 1).toNat
            omega
          -- how far it is from there
          have hfar := hCH1.2.1 x2 to hx2r.1 hx2r.2.1 hto.1 hto.2
          obtain ⟨g, hg⟩ : ∃ g, w1.1 232 (x2 * 9 + to).toNat = g := ⟨_, rfl⟩
          rw [hg] at hfar ex14
          have hgr : -1 ≤ g ∧ g ≤ 240 := by
            rcases hfar with z1 | z1
            · omega
            · have := ds240 hT hx2r.1 hx2r.2.1 z1; omega
          rw [w_id (x := g) (by omega) (by omega)] at ex14
          have hx14 : -9000000000000 ≤ x14 ∧ x14 ≤ 2160000000000000 := by
            rw [ex14]
            by_cases e : 0 ≤ g
            · have := mul_b (A := 240) (B := 9000000000000) ⟨e, hgr.2⟩ hmc
              omega
            · have : g = -1 := by omega
              rw [this]; omega
          have hbndK : -10000000000000000 ≤ bnd K acc1 ∧ bnd K acc1 ≤ 1000000000000000000 := by
            cases acc1 with
            | none => exact hK
            | some y => have := hAB1 y rfl; show -10000000000000000 ≤ y.1 ∧ y.1 ≤ _; omega
          rw [hBC1.bnd, wl_id (x := bnd K acc1) (by omega) (by omega), wl_id (x := x10 + x14 - x12) (by omega) (by omega)]
          have hx2m : x2 ∈ s :: vis → False := hnv
          have elow : ∀ x, x ∈ Ws (mp T (-1) O p kind) False to d s t c st (s :: vis) r → x10 + x14 - x12 ≤ x.1 := by
            intro x hx
            obtain ⟨-, hx⟩ := Ws_mem hx
            rw [hfr2] at hx
            rcases hx with ⟨e, hz, -⟩ | ⟨-, hx⟩
            · subst e
              show x10 + x14 - x12 ≤ c + cst T (-1) O p kind r t
              have hg0 : g = 0 := by
                rw [hz] at hfar
                rcases hfar with ⟨-, z1⟩ | z1
                · exact absurd ⟨rfl, rfl⟩ (z1 0 0)
                · exact Ds_uniq z1 (Ds_self (Jt_ok hT (-1)) to)
              rw [hg0] at ex14
              omega
            · have hl := Wy_low (mp_ok hT (-1) O p kind) (fun r => (hhp r).1) (mc := mc) (t0 := t0) (hp := hp) (g := mp T (-1) O p kind) (rd := False) (to := to) (hc := ?_) d x2 (t + rM T r) (c + cst T (-1) O p kind r t) (st ++ [r]) (x2 :: s :: vis) x (by omega) (by have := NdOK_step hnd hok; rw [hfr2] at this; exact this) hx
              · obtain ⟨nn, hw⟩ := Wy_walk _ _ _ _ _ _ _ hx
                have hle : mc * g ≤ mc * (x.2.1 - (t + rM T r)) := by
                  refine Int.mul_le_mul_of_nonneg_left ?_ hmc.1
                  rcases hfar with ⟨-, z1⟩ | z1
                  · exact absurd hw (z1 _ _)
                  · exact z1.2 _ _ hw
                rw [ex12, ex14, Int.mul_comm g mc]
                have hl : c + cst T (-1) O p kind r t + mc * (x.2.1 - (t + rM T r)) - hsm hp (st ++ [r]) (T 1).toNat ≤ x.1 := hl
                omega
              · intro r' t' hr' ht'
                exact hlow r' t' hr' ht'
          refine ⟨fun z2 => ?_, fun z2 => ⟨⟨by omega, by omega⟩, fun w17 e17 => ?_⟩⟩
          · refine wp_X3_goOn_198 F _ _ s n t c h (s * 14) (s * 14 + i) x2 _ _ _ _ w1 _ (next acc1 w1 _ _ _ _ _ f1 hb1 row1 hBC1 hAB1 ?_)
            rw [fold_cut]
            intro x hx
            have := elow x hx
            omega
          · have f17 : Fr (Sgo n) w w17 := by rw [e17]; exact f1.wI _ (by simp [Sgo])
            have hWX17 : WX j jo T O p kind t0 to mc hp w17 := hWX.fr f17 (by intro a k; simp only [SWX, SHX, Sgo]; unfold apart at hja; omega)
            have hb17 : w17.1 227 15 = w6.1 227 15 := by rw [e17, wI_cell _ _ _ _ (by decide)]; exact hb1
            rw [hWX17.1.1, (hWX17.1.2.2.1.road h0 h1).2.2.1]
            refine ⟨hj, tw_a3 hj, ⟨by omega, by omega⟩, ?_⟩
            have row17 : ∀ i, i < n + 1 → w17.1 235 i = ((st ++ [r]).getD i 0 : Nat) := by
              intro i' hi'
              rw [e17, wI_at]
              by_cases e : i' = n
              · rw [if_pos ⟨rfl, by omega⟩, e, List.getD_eq_getElem?_getD, List.getElem?_append_right (by omega)]
                simp [hst]
              · rw [if_neg (by omega), row1 i' (by omega), List.getD_eq_getElem?_getD, List.getD_eq_getElem?_getD, List.getElem?_append_left (by omega)]
            have hBC17 : BC w17 K acc1 := hBC1.fr (S := fun j k => j = 235) (by rw [e17]; exact Fr.rf.wI _ rfl) (by simp) (by simp) (by simp) (by simp)
            have hx2K : x2 = to → x10 ≤ K := by
              intro hz
              rcases hKK with hz0 | hz0
              · have hg0 : g = 0 := by
                  rw [hz] at hfar
                  rcases hfar with ⟨-, z1⟩ | z1
                  · exact absurd ⟨rfl, rfl⟩ (z1 0 0)
                  · exact Ds_uniq z1 (Ds_self (Jt_ok hT (-1)) to)
                have hx0 : x12 = 0 := by
                  rw [ex12]
                  have key : ∀ m, hsm hp (st ++ [r]) m = 0 := by
                    intro m
                    induction m with
                    | zero => rfl
                    | succ m ihm =>
                      show hsm hp (st ++ [r]) m + (ind (m ∉ st ++ [r]) : Int) * hp m = 0
                      rw [ihm, hz0 m]; omega
                  exact key _
                rw [hg0] at ex14
                omega
              · omega
            have := ih (n + 1) (st ++ [r]) (s :: vis) x2 (t + rM T r) x10 x12 acc1 w17 M (fun w19 => TT (k_X3_goOn_198 F (m_X3_goOn F M) (k_X3_goOn_46 F (m_X3_goOn F M) m) [vR 227, vI s, vI n, vI t, vL c, vU, vL h, vU, vI (s * 14), vI (s * 14 + i), vI x2, vI r, vL x10, vU, vL x12, vU, vL x14, vU] [] w19) (qq 0 (fun r w => r = none ∧ P w))) (by omega) (by omega) (by simp [hst]) hWX17 ⟨hx2r.1, hx2r.2.1⟩ (fun v hv => by
              rcases List.mem_cons.mp hv with e | e
              · rw [e]; exact hs
              · exact hvis v e) hnv (by have := NdOK_step hnd hok; rw [hfr2] at this; exact this) (by rw [hb17]; exact nB6) (fun i' hi' => by rw [hb17]; exact bits6 i' hi') row17 ex12 ⟨by omega, by push_cast; omega⟩ ⟨by push_cast; omega, by push_cast; omega⟩ hBC17 hAB1 hbK1 (fun hz => ⟨hx2K hz, by simp⟩) (fun w19 f19 hb19 hB19 => ?_)
            · rw [show ((n : Int) + 1) = ((n + 1 : Nat) : Int) from by omega]
              exact this
            · refine wp_X3_goOn_198 F _ _ s n t c h (s * 14) (s * 14 + i) x2 _ _ _ _ w19 _ ?_
              have hWs : Ws (mp T (-1) O p kind) False to d s t c st (s :: vis) r = (if x2 = to then [(x10, t + rM T r, st ++ [r])] else Wy (mp T (-1) O p kind) False to d x2 (t + rM T r) x10 (st ++ [r]) (x2 :: s :: vis)) := by
                rw [ex10]
                by_cases e : x2 = to
                · rw [if_pos e]
                  have := Ws_yes (d := d) (t := t) (c := c) (to := to) hok (Or.inl ⟨rfl, by rw [hfr2]; exact e, fun z => z.elim⟩) (Or.inl ⟨rfl, by rw [hfr2]; exact e, fun z => z⟩)
                  rw [List.append_nil] at this
                  exact this
                · rw [if_neg e]
                  have := Ws_yes (d := d) (t := t) (c := c) (to := to) hok (Or.inr ⟨rfl, by rw [hfr2]; exact fun z => e z.1⟩) (Or.inr ⟨rfl, by rw [hfr2]; exact fun z => e z.1⟩)
                  rw [List.nil_append, hfr2] at this
                  exact this
              refine next _ w19 _ _ _ _ _ (f17.tr (f19.wk (by intro j k; simp only [Sgo]; omega))) (hb19.trans hb17) (fun i' hi' => ?_) hB19 ?_ (by rw [hWs])
              · rw [f19.I 235 i' (by simp only [Sgo]; omega), e17, wI_idx _ _ _ _ (by omega)]
                exact row1 i' hi'
              · refine AB_fold _ _ hAB1 (fun x hx => ?_)
                by_cases e : x2 = to
                · rw [if_pos e] at hx
                  have : x = (x10, t + rM T r, st ++ [r]) := by simpa using hx
                  rw [this]
                  show _ ≤ x10 ∧ x10 ≤ _ ∧ (st ++ [r]).length ≤ 9
                  simp [hst]; omega
                · rw [if_neg e] at hx
                  have := Wy_bounds hT hp0 hp1 _ _ _ _ _ _ _ (show 0 ≤ t + rM T r by omega) hx
                  simp [hst] at this
                  omega
        · refine wp_X3_goOn_198 F _ _ s n t c h (s * 14) (s * 14 + i) x2 _ _ _ _ w1 _ (next acc1 w1 _ _ _ _ _ f1 hb1 row1 hBC1 hAB1 ?_)
          rw [Ws_no]
          · rfl
          · intro hok
            have := hok.2.2 (fun z => z)
            rw [hfr2] at this
            rw [hbx] at y
            have y2 : decide (x2 ∈ s :: vis) = true := by
              cases hd : decide (x2 ∈ s :: vis) with
              | true => rfl
              | false => exact absurd hd y
            exact this (of_decide_eq_true y2)
      · -- all roads are looked at
        have hi : i = AJ.length := by omega
        intro w22 e22
        refine q_v (hP w22 (by rw [e22]; exact f1.wI _ (by simp [Sgo])) ?_ ?_)
        · rw [e22, wI_same, hb1]
          have hc1 := bcl_eq nB6 hsn
          refine tb_ext hc1.1.1 hnB.1 (fun i' => ?_)
          rw [hc1.2, b6, tb_or hnB hsn, tb_shl hs.1 (by omega)]
          by_cases e : s.toNat = i'
          · have : tb (w.1 227 15) i' = false := by
              rw [hbits i' (by omega)]
              have : (i' : Int) = s := by omega
              rw [this]
              simp [hsv]
            rw [this]
            simp [e]
          · simp [e]
        · rw [hi, List.drop_length] at hfold
          have hB22 : BC w22 K acc1 := hBC1.fr (S := fun j k => j = 227 ∧ k = 15) (by rw [e22]; exact Fr.rf.wI _ (by simp)) (by simp) (by simp) (by simp) (by simp)
          have : acc1 = (AJ.flatMap (Ws (mp T (-1) O p kind) False to d s t c st (s :: vis))).foldl (kpK K) acc := hfold
          rw [← this]
          exact hB22
