/-! WHAT IS REACHED -/
def rSnd (T : Nat → Int) (a x s : Int) : Prop := nB s ∧ (∀ i : Nat, tb s i = true → (i : Int) < T 0) ∧ tb s a.toNat = true ∧ ∀ b : Nat, tb s b = true → ∃ n m, Wk (Jt T x) n a b m
def rUp (T : Nat → Int) (a x : Int) (k : Nat) (s : Int) : Prop := ∀ (b : Int) (m : Int), 0 ≤ b → Ds (Jt T x) a b m → rnk (Jt T x) (T 0).toNat a m ≤ k → tb s b.toNat = true
theorem rUp_step {T : Nat → Int} {a x s s' : Int} {k : Nat} (hT : TK T) (ha : 0 ≤ a ∧ a < T 0) (h : rUp T a x k s) (h1 : tb s' a.toNat = true) (h2 : ∀ c b d, Jt T x c b d → tb s c.toNat = true → tb s' b.toNat = true) : rUp T a x (k + 1) s' := by
  intro b m hb hd hr
  have a0 := hT.1
  have hJ := Jt_ok hT x
  by_cases e : a = b
  · rw [← e]; exact h1
  · obtain ⟨c, d, hj, hd2⟩ := Ds_pred hJ hd e
    have hjr := hJ.2 c b d hj
    refine h2 c b d hj (h c (m - d) (by omega) hd2 ?_)
    have := rnk_lt hJ (by omega) (by omega) hd2 (show m - d < m by omega)
    omega
theorem rUp_zero {T : Nat → Int} {a x s : Int} (hT : TK T) (ha : 0 ≤ a ∧ a < T 0) (h1 : tb s a.toNat = true) : rUp T a x 0 s := by
  intro b m hb hd hr
  have a0 := hT.1
  have hJ := Jt_ok hT x
  by_cases e : a = b
  · rw [← e]; exact h1
  · exfalso
    obtain ⟨c, d, hj, hd2⟩ := Ds_pred hJ hd e
    have hjr := hJ.2 c b d hj
    have := rnk_lt hJ (by omega) (by omega) hd2 (show m - d < m by omega)
    omega
theorem ci_reached {F : Nat} {j : Nat} {T : Nat → Int} {a x : Int} {w : AW} {P : Int → AW → Prop} (hF : FB F) (hj : isTw j) (hT : TK T) (hC : CA w j T) (ha : 0 ≤ a ∧ a < T 0) (hx : -1 ≤ x ∧ x < 14) (h : ∀ s, nB s → (∀ i : Nat, tb s i = true → (i : Int) < T 0) → (∀ b : Nat, tb s b = true ↔ ∃ n m, Wk (Jt T x) n a b m) → P s w) : CI (m_X7_reachedFrom F [vR j, vI a, vI x] w) P := by
  have a0 := hT.1
  have a1 := hT.2.1
  refine wp_X7_reachedFrom F j hj a x w _ (fun s0 e0 => ?_)
  have ht0 : ∀ i, tb s0 i = decide (a.toNat = i) := fun i => by rw [e0]; exact tb_shl ha.1 (by omega) i
  have hs0 : rSnd T a x s0 := by
    refine ⟨by rw [e0]; exact bShl_nB ha.1 (by omega), fun i hi => ?_, by rw [ht0]; simp, fun b hb => ?_⟩
    · rw [ht0] at hi
      have : a.toNat = i := by simpa using hi
      omega
    · rw [ht0] at hb
      have : a.toNat = b := by simpa using hb
      exact ⟨0, 0, by show a = (b : Int) ∧ _; omega⟩
  refine tt_for (K := k_X7_reachedFrom_7 F) (T 0) (fun i w' l => w' = w ∧ 1 ≤ i ∧ i ≤ T 0 ∧ ∃ s u v, l = [vR j, vI a, vI x, vI s, vI i, u, v] ∧ rSnd T a x s ∧ rUp T a x (i - 1).toNat s) ?_ F 1 _ w (by omega) ⟨rfl, by omega, by omega, s0, vU, vU, rfl, hs0, rUp_zero hT ha hs0.2.2.1⟩
  rintro n i l w2 ⟨rfl, hi0, hi1, s, u, v, rfl, hs, hu⟩ hk
  rw [ks_X7_reachedFrom_7]
  refine wp_X7_reachedFrom_7 F _ j hj a x s i u v w2 _ ?_
  rw [hC.1, w_id (x := i) (by omega) (by omega), w_id (x := T 0) (by omega) (by omega)]
  refine ⟨fun q => ?_, fun q => q_i (h s hs.1 hs.2.1 (fun b => ⟨hs.2.2.2 b, ?_⟩))⟩
  · refine tt_for (K := k_X7_reachedFrom_19 F (k_X7_reachedFrom_7 F n)) (T 1) (fun r w' l => w' = w2 ∧ 0 ≤ r ∧ r ≤ T 1 ∧ ∃ s' v, l = [vR j, vI a, vI x, vI s', vI i, vI r, v] ∧ rSnd T a x s' ∧ (∀ k, tb s k = true → tb s' k = true) ∧ ∀ r', 0 ≤ r' → r' < r → r' ≠ x → (tb s (rA T r').toNat = true ∨ tb s (rB T r').toNat = true) → tb s' (rA T r').toNat = true ∧ tb s' (rB T r').toNat = true) ?_ F 0 _ w2 (by omega) ⟨rfl, by omega, by omega, s, v, rfl, hs, fun k z => z, fun r' x y => by omega⟩
    rintro n2 r l w3 ⟨rfl, hr0, hr1, s', v', rfl, hs', hsub, hroad⟩ hk2
    rw [ks_X7_reachedFrom_19]
    refine wp_X7_reachedFrom_19 F _ _ j hj a x s' i r v' w3 _ ?_
    rw [hC.2.1, w_id (x := r) (by omega) (by omega), w_id (x := T 1) (by omega) (by omega), w_id (x := x) (by omega) (by omega)]
    refine ⟨fun q2 => ⟨⟨hr0, by omega⟩, ⟨hr0, by omega⟩, fun y ey => ?_⟩, fun q2 => hk _ _ ⟨rfl, by omega, by omega, s', vI r, v', rfl, hs', ?_⟩ q⟩
    · obtain ⟨c1, c2, -⟩ := hC.road hr0 q2
      have hrd := hT.road hr0 q2
      rw [c1, c2] at ey
      have nA := bShl_nB (k := rA T r) hrd.1.1 (by omega)
      have nBB := bShl_nB (k := rB T r) hrd.2.1.1 (by omega)
      have hy := bOr_eq nA nBB
      have nY : nB y := by rw [ey]; exact hy.2
      have ty : ∀ k, tb y k = (decide ((rA T r).toNat = k) || decide ((rB T r).toNat = k)) := fun k => by rw [ey, tb_or nA nBB, tb_shl hrd.1.1 (by omega), tb_shl hrd.2.1.1 (by omega)]
      have nX := (bAnd_eq hs'.1 nY).2
      rw [w_id (x := bAnd s' y) (by have := nX.1; omega) (by have := nX.2; omega)]
      have same : (r = x ∨ bAnd s' y = 0) → TT (k_X7_reachedFrom_67 F (k_X7_reachedFrom_7 F n) (k_X7_reachedFrom_19 F (k_X7_reachedFrom_7 F n) n2) [vR j, vI a, vI x, vI s', vI i, vI r, vI y] [] w3) (qq 1 (fun r w => ∃ x, r = some (vI x) ∧ P x w)) := fun z => by
        refine wp_X7_reachedFrom_67 F _ _ j hj a x s' i r y w3 _ (hk2 _ _ ⟨rfl, by omega, by omega, s', vI y, rfl, hs', hsub, fun r' x1 x2 x3 x4 => ?_⟩ q2)
        by_cases e : r' = r
        · exfalso
          rcases z with z | z
          · exact x3 (e.trans z)
          · have hno : ∀ k, tb s' k = true → tb y k = true → False := fun k k1 k2 => by
              have : tb (bAnd s' y) k = true := by rw [tb_and hs'.1 nY, k1, k2]; rfl
              rw [z, tb_0] at this
              cases this
            rw [e] at x4
            rcases x4 with x4 | x4
            · exact hno _ (hsub _ x4) (by rw [ty]; simp)
            · exact hno _ (hsub _ x4) (by rw [ty]; simp)
        · exact hroad r' x1 (by omega) x3 x4
      refine ⟨fun q3 => same (Or.inl q3), fun q3 => ⟨fun q4 => same (Or.inr q4), fun q4 z ez => ?_⟩⟩
      have tz : ∀ k, tb z k = (tb s' k || tb y k) := fun k => by rw [ez, tb_or hs'.1 nY]
      have hJr : Jt T x (rA T r) (rB T r) (rM T r) := ⟨r.toNat, by show r.toNat < (T 1).toNat; omega, by omega, by show rM T r = rM T (r.toNat : Int); rw [Int.toNat_of_nonneg hr0], Or.inl (by show rA T r = rA T (r.toNat : Int) ∧ rB T r = rB T (r.toNat : Int); rw [Int.toNat_of_nonneg hr0]; exact ⟨rfl, rfl⟩)⟩
      have hJr2 := (Jt_ok hT x).1 _ _ _ hJr
      have some1 : tb s' (rA T r).toNat = true ∨ tb s' (rB T r).toNat = true := by
        by_cases z1 : tb s' (rA T r).toNat = true
        · exact Or.inl z1
        · by_cases z2 : tb s' (rB T r).toNat = true
          · exact Or.inr z2
          · exfalso
            refine q4 (tb_ext nX.1 (Int.le_refl _) (fun k => ?_))
            rw [tb_and hs'.1 nY, ty, tb_0]
            by_cases k1 : (rA T r).toNat = k
            · rw [← k1]; simp [z1]
            · by_cases k2 : (rB T r).toNat = k
              · rw [← k2]; simp [z2]
              · simp [k1, k2]
      have walk : ∀ k : Nat, tb y k = true → ∃ n m, Wk (Jt T x) n a k m := fun k hk' => by
        rw [ty] at hk'
        have hk3 : (rA T r).toNat = k ∨ (rB T r).toNat = k := by simpa using hk'
        have eA : (((rA T r).toNat : Nat) : Int) = rA T r := Int.toNat_of_nonneg hrd.1.1
        have eB : (((rB T r).toNat : Nat) : Int) = rB T r := Int.toNat_of_nonneg hrd.2.1.1
        rcases some1 with z1 | z1
        · obtain ⟨n1, m1, w1⟩ := hs'.2.2.2 _ z1
          rw [eA] at w1
          rcases hk3 with e | e
          · rw [← e, eA]; exact ⟨n1, m1, w1⟩
          · rw [← e, eB]; exact ⟨n1 + 1, _, Wk_snoc w1 hJr⟩
        · obtain ⟨n1, m1, w1⟩ := hs'.2.2.2 _ z1
          rw [eB] at w1
          rcases hk3 with e | e
          · rw [← e, eA]; exact ⟨n1 + 1, _, Wk_snoc w1 hJr2⟩
          · rw [← e, eB]; exact ⟨n1, m1, w1⟩
      have hz : rSnd T a x z := by
        refine ⟨by rw [ez]; exact (bOr_eq hs'.1 nY).2, fun k hk' => ?_, by rw [tz, hs'.2.2.1]; rfl, fun k hk' => ?_⟩
        · rw [tz] at hk'
          by_cases z1 : tb s' k = true
          · exact hs'.2.1 k z1
          · have : tb y k = true := by simpa [z1] using hk'
            rw [ty] at this
            have hk3 : (rA T r).toNat = k ∨ (rB T r).toNat = k := by simpa using this
            omega
        · rw [tz] at hk'
          by_cases z1 : tb s' k = true
          · exact hs'.2.2.2 k z1
          · exact walk k (by simpa [z1] using hk')
      refine wp_X7_reachedFrom_67 F _ _ j hj a x z i r y w3 _ (hk2 _ _ ⟨rfl, by omega, by omega, z, vI y, rfl, hz, fun k k1 => by rw [tz, hsub k k1]; rfl, fun r' x1 x2 x3 x4 => ?_⟩ q2)
      by_cases e : r' = r
      · rw [e, tz, tz, ty, ty]; simp
      · have := hroad r' x1 (by omega) x3 x4
        rw [tz, tz, this.1, this.2]
        exact ⟨rfl, rfl⟩
    · have e1 : (i + 1 - 1).toNat = (i - 1).toNat + 1 := by omega
      rw [e1]
      refine rUp_step hT ha hu hs'.2.2.1 (fun c b d hJ hc => ?_)
      obtain ⟨r', h1, h2, h3, h4⟩ := hJ
      have h1 : r' < (T 1).toNat := h1
      rcases h4 with ⟨h4, h5⟩ | ⟨h4, h5⟩
      · have h4 : c = rA T r' := h4
        have h5 : b = rB T r' := h5
        rw [h4] at hc
        rw [h5]
        exact (hroad r' (by omega) (by omega) h2 (Or.inl hc)).2
      · have h4 : c = rB T r' := h4
        have h5 : b = rA T r' := h5
        rw [h4] at hc
        rw [h5]
        exact (hroad r' (by omega) (by omega) h2 (Or.inr hc)).1
  · rintro ⟨n1, m1, w1⟩
    obtain ⟨d, hd, -⟩ := Ds_ex (Jt_ok hT x) w1
    have hin := Wk_in (Jt_ok hT x) _ _ _ _ w1 ha.1 (by omega)
    have hr := rnk_full hin.1 hin.2 hd
    have := hu b d hin.1 hd (by omega)
    rw [Int.toNat_natCast] at this
    exact this
