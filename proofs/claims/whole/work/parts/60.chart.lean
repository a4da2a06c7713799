/-! THE CLASS: A TOWN IN CELLS j .. j + 13 -/
def CA (w : AW) (j : Nat) (T : Nat → Int) : Prop :=
  w.1 j 0 = T 0 ∧ w.1 j 1 = T 1 ∧ w.1 j 8 = T 2 ∧ w.1 j 12 = T 3 ∧ w.1 j 17 = T 4 ∧ w.1 j 18 = T 5 ∧
  (∀ r, 0 ≤ r → r < T 1 → w.1 (j + 1) r.toNat = rA T r ∧ w.1 (j + 2) r.toNat = rB T r ∧ w.1 (j + 3) r.toNat = rM T r ∧ w.1 (j + 4) r.toNat = rP T r ∧ w.1 (j + 5) r.toNat = rH T r ∧ ∀ h, 0 ≤ h → h < 6 → w.1 (j + 6) ((r * 6) + h).toNat = rC T r h) ∧
  (∀ p, 0 ≤ p → p < T 2 → w.1 (j + 7) p.toNat = pH T p ∧ w.1 (j + 8) p.toNat = pC T p ∧ w.1 (j + 9) p.toNat = pK T p) ∧
  (∀ e, 0 ≤ e → e < T 3 → w.1 (j + 10) e.toNat = eW T e ∧ w.1 (j + 11) e.toNat = eP T e ∧ w.1 (j + 12) e.toNat = eM T e ∧ w.1 (j + 13) e.toNat = eL T e)
theorem CA.eq {w w' : AW} {j : Nat} {T : Nat → Int} (h : CA w j T) (hs : ∀ a k, j ≤ a → a ≤ j + 13 → w'.1 a k = w.1 a k) : CA w' j T := by
  have f : ∀ i, i ≤ 13 → ∀ k, w'.1 (j + i) k = w.1 (j + i) k := fun i hi k => hs (j + i) k (by omega) (by omega)
  have f0 : ∀ k, w'.1 j k = w.1 j k := fun k => hs j k (by omega) (by omega)
  unfold CA at h ⊢
  simp only [f0, f 1 (by omega), f 2 (by omega), f 3 (by omega), f 4 (by omega), f 5 (by omega), f 6 (by omega), f 7 (by omega), f 8 (by omega), f 9 (by omega), f 10 (by omega), f 11 (by omega), f 12 (by omega), f 13 (by omega)]
  exact h
theorem CA.fr {w w' : AW} {j : Nat} {T : Nat → Int} {S : Nat → Nat → Prop} (h : CA w j T) (hf : Fr S w w') (hs : ∀ a k, j ≤ a → a ≤ j + 13 → ¬ S a k) : CA w' j T := h.eq (fun a k h1 h2 => hf.I a k (hs a k h1 h2))
def CA.road {w : AW} {j : Nat} {T : Nat → Int} (h : CA w j T) {r : Int} (h0 : 0 ≤ r) (h1 : r < T 1) := h.2.2.2.2.2.2.1 r h0 h1
def CA.pers {w : AW} {j : Nat} {T : Nat → Int} (h : CA w j T) {p : Int} (h0 : 0 ≤ p) (h1 : p < T 2) := h.2.2.2.2.2.2.2.1 p h0 h1
def CA.erra {w : AW} {j : Nat} {T : Nat → Int} (h : CA w j T) {e : Int} (h0 : 0 ≤ e) (h1 : e < T 3) := h.2.2.2.2.2.2.2.2 e h0 h1
theorem cv_fill {F : Nat} {w : AW} {a : Nat} {n v : Int} {P : AW → Prop} (hF : FB F) (ha : isI a n) (hn : 0 ≤ n ∧ n ≤ 1000000) (hp : ∀ w', Fr (fun j _ => j = a) w w' → (∀ k : Nat, (k : Int) < n → w'.1 a k = v) → P w') : CV (m_J7_fill_53178 F [vR a, vI v] w) P := by
  refine wp_J7_fill_53178 F a n ha v w _ ?_
  refine tt_for (K := k_J7_fill_53178_5 F) n (fun i w' l => Fr (fun j _ => j = a) w w' ∧ l = [vR a, vI v, vI i, vI n] ∧ 0 ≤ i ∧ i ≤ n ∧ ∀ k : Nat, (k : Int) < i → w'.1 a k = v) ?_ F 0 _ w (by omega) ⟨Fr.rf, rfl, by omega, by omega, fun k hk => by omega⟩
  rintro m i l w' ⟨ff, rfl, hi0, hi1, hw⟩ hk
  rw [ks_J7_fill_53178_5]
  refine wp_J7_fill_53178_5 F _ a n ha v i n w' _ ?_
  rw [w_id (x := i) (by omega) (by omega), w_id (x := n) (by omega) (by omega)]
  refine ⟨fun q => ⟨⟨hi0, q⟩, fun w2 e2 => hk _ _ ⟨by rw [e2]; exact ff.wI _ rfl, rfl, by omega, by omega, fun k hk2 => ?_⟩ q⟩, fun q => q_v (hp w' ff (fun k hk2 => hw k (by omega)))⟩
  rw [e2, wI_at]
  by_cases z : k = i.toNat
  · rw [if_pos ⟨rfl, z⟩]
  · rw [if_neg (fun y => z y.2)]; exact hw k (by omega)
theorem ci_hasRoad {F : Nat} {w : AW} {j : Nat} {T : Nat → Int} {t : Int} {P : Int → AW → Prop} (hj : isTw j) (hC : CA w j T) (hT : TK T) (ht : iR t) (h1 : 0 ≤ t ∧ t < T 1 → P 1 w) (h0 : ¬ (0 ≤ t ∧ t < T 1) → P 0 w) : CI (m_X7_hasRoad F [vR j, vI t] w) P := by
  have := hT.2.1
  refine wp_X7_hasRoad F j hj t w _ ?_
  rw [hC.2.1, w_id ht.1 ht.2, w_id (x := T 1) (by omega) (by omega)]
  exact ⟨fun q => q_z0 (h0 (by omega)), fun q => ⟨fun q2 => q_z1 (h1 (by omega)), fun q2 => q_z0 (h0 (by omega))⟩⟩
theorem ci_hasPerson {F : Nat} {w : AW} {j : Nat} {T : Nat → Int} {t : Int} {P : Int → AW → Prop} (hj : isTw j) (hC : CA w j T) (hT : TK T) (ht : iR t) (h1 : 0 ≤ t ∧ t < T 2 → P 1 w) (h0 : ¬ (0 ≤ t ∧ t < T 2) → P 0 w) : CI (m_X7_hasPerson F [vR j, vI t] w) P := by
  have := hT.2.2.1
  refine wp_X7_hasPerson F j hj t w _ ?_
  rw [hC.2.2.1, w_id ht.1 ht.2, w_id (x := T 2) (by omega) (by omega)]
  exact ⟨fun q => q_z0 (h0 (by omega)), fun q => ⟨fun q2 => q_z1 (h1 (by omega)), fun q2 => q_z0 (h0 (by omega))⟩⟩
theorem ci_hasErrand {F : Nat} {w : AW} {j : Nat} {T : Nat → Int} {t : Int} {P : Int → AW → Prop} (hj : isTw j) (hC : CA w j T) (hT : TK T) (ht : iR t) (h1 : 0 ≤ t ∧ t < T 3 → P 1 w) (h0 : ¬ (0 ≤ t ∧ t < T 3) → P 0 w) : CI (m_X7_hasErrand F [vR j, vI t] w) P := by
  have := hT.2.2.2.1
  refine wp_X7_hasErrand F j hj t w _ ?_
  rw [hC.2.2.2.1, w_id ht.1 ht.2, w_id (x := T 3) (by omega) (by omega)]
  exact ⟨fun q => q_z0 (h0 (by omega)), fun q => ⟨fun q2 => q_z1 (h1 (by omega)), fun q2 => q_z0 (h0 (by omega))⟩⟩
theorem ci_hasPlace {F : Nat} {w : AW} {j : Nat} {T : Nat → Int} {t : Int} {P : Int → AW → Prop} (hj : isTw j) (hC : CA w j T) (hT : TK T) (ht : iR t) (h1 : 0 ≤ t ∧ t < T 0 → P 1 w) (h0 : ¬ (0 ≤ t ∧ t < T 0) → P 0 w) : CI (m_X7_hasPlace F [vR j, vI t] w) P := by
  have := hT.1
  refine wp_X7_hasPlace F j hj t w _ ?_
  rw [hC.1, w_id ht.1 ht.2, w_id (x := T 0) (by omega) (by omega)]
  exact ⟨fun q => q_z0 (h0 (by omega)), fun q => ⟨fun q2 => q_z1 (h1 (by omega)), fun q2 => q_z0 (h0 (by omega))⟩⟩
/-! worths -/
theorem div_mul {W b : Int} (h : ∃ q, W = 100 * q) : W * b / 100 = W / 100 * b := by
  obtain ⟨q, rfl⟩ := h
  rw [Int.mul_assoc, Int.mul_ediv_cancel_left _ (by decide), Int.mul_ediv_cancel_left _ (by decide)]
def hpw : Nat → Int → Prop
  | 0, _ => True
  | n + 1, W => ∃ q, W = 100 * q ∧ hpw n q
theorem hpw_mul : ∀ (n : Nat) (W b : Int), hpw n W → hpw n (W * b)
  | 0, _, _, _ => trivial
  | n + 1, W, b, ⟨q, e, h⟩ => ⟨q * b, by rw [e, Int.mul_assoc], hpw_mul n q b h⟩
theorem hpw_le : ∀ (n : Nat) (W : Int), hpw (n + 1) W → hpw n W
  | 0, _, _ => trivial
  | n + 1, W, ⟨q, e, h⟩ => ⟨q, e, hpw_le n q h⟩
theorem hpw_first (n : Nat) (h : n ≤ 6) : hpw n 1000000000000 := by
  match n, h with
  | 0, _ => trivial
  | 1, _ => exact ⟨10000000000, by decide, trivial⟩
  | 2, _ => exact ⟨10000000000, by decide, 100000000, by decide, trivial⟩
  | 3, _ => exact ⟨10000000000, by decide, 100000000, by decide, 1000000, by decide, trivial⟩
  | 4, _ => exact ⟨10000000000, by decide, 100000000, by decide, 1000000, by decide, 10000, by decide, trivial⟩
  | 5, _ => exact ⟨10000000000, by decide, 100000000, by decide, 1000000, by decide, 10000, by decide, 100, by decide, trivial⟩
  | 6, _ => exact ⟨10000000000, by decide, 100000000, by decide, 1000000, by decide, 10000, by decide, 100, by decide, 1, by decide, trivial⟩
theorem cl_worthFrom {F : Nat} {w : AW} {j : Nat} {T : Nat → Int} {r h : Int} {P : Int → AW → Prop} (hF : FB F) (hj : isTw j) (hC : CA w j T) (hT : TK T) (h0 : 0 ≤ r) (h1 : r < T 1) (hh0 : 0 ≤ h) (hh1 : h ≤ 6) (hp : P (wrt T (-1) r h) w) : CL (m_X7_worthFrom F [vR j, vI r, vI h] w) P := by
  have a1 := hT.2.1
  have a4 := hT.2.2.2.2.1
  have a5 := hT.2.2.2.2.2.1
  have e1 : w.1 j 17 = T 4 := hC.2.2.2.2.1
  have e2 : w.1 j 18 = T 5 := hC.2.2.2.2.2.1
  have hr := hC.road h0 h1
  have hpn : pny T (-1) r = rP T r := by unfold pny; rw [if_neg (by omega)]
  have hpb := (hT.road h0 h1).2.2.2.2.1
  refine wp_X7_worthFrom F j hj r h w _ ?_
  rw [e1, w_id (x := T 4) (by omega) (by omega)]
  refine ⟨fun q => q_l ?_, fun q0 => ?_⟩
  · unfold wrt at hp; rw [if_pos q] at hp; exact hp
  have ew : wrt T (-1) r h = wlp T (-1) r (6 - h).toNat h 1000000000000 0 := by unfold wrt; rw [if_neg q0]
  rw [ew] at hp
  refine tt_for (K := k_X7_worthFrom_20 F) 6 (fun i w' l => w' = w ∧ ∃ W s v, l = [vR j, vI r, vI h, vL W, vU, vL s, vU, vI i, v] ∧ (0 ≤ W ∧ W ≤ 1000000000000) ∧ h ≤ i ∧ i ≤ 6 ∧ hpw (6 - i).toNat W ∧ wlp T (-1) r (6 - i).toNat i W s = wlp T (-1) r (6 - h).toNat h 1000000000000 0) ?_ F h _ w (by omega) ⟨rfl, 1000000000000, 0, vU, rfl, by omega, by omega, by omega, hpw_first _ (by omega), rfl⟩
  rintro n i l w' ⟨rfl, W, s, v, rfl, hW, hi0, hi1, hd, hs⟩ hk
  rw [ks_X7_worthFrom_20]
  refine wp_X7_worthFrom_20 F _ j hj r h W s i v w' _ ?_
  rw [e1, e2, w_id (x := i) (by omega) (by omega), w_id (x := T 4) (by omega) (by omega), w_id (x := 60 * i) (by omega) (by omega), w_id (x := T 5) (by omega) (by omega)]
  refine ⟨fun q => ⟨⟨by omega, by omega⟩, fun x2 hx2 => ⟨⟨h0, by omega⟩, fun x4 hx4 => ?_⟩⟩, fun q => ?_⟩
  · have hc := (hT.road h0 h1).2.2.2.2.2.2 i (by omega) q
    have hb := wstep_b hT h0 h1 (show 0 ≤ i by omega) q hW
    have hb2 := hb.2 (-1)
    rw [hr.2.2.2.2.2 i (by omega) q] at hx2
    subst hx2
    have hd2 : ∃ q, W = 100 * q := by
      rw [show (6 - i).toNat = (6 - (i + 1)).toNat + 1 from by omega] at hd
      obtain ⟨q, e, -⟩ := hd
      exact ⟨q, e⟩
    have hd3 : hpw (6 - (i + 1)).toNat (W / 100) := by
      rw [show (6 - i).toNat = (6 - (i + 1)).toNat + 1 from by omega] at hd
      obtain ⟨q, e, hq⟩ := hd
      rw [e, Int.mul_ediv_cancel_left _ (by decide)]
      exact hq
    have m1 := mul_b (A := 1000000000000) (B := 100) hW hc
    have m2 := mul_b (A := 1000000000000) (B := 100) hW (b := 100 - rC T r i) (by omega)
    rw [w_id (x := rC T r i) (by omega) (by omega), hr.2.2.2.1, w_id (x := rP T r) (by omega) (by omega), wl_id (x := W * rC T r i) (by omega) (by omega), td_nn 100 m1.1, div_mul hd2] at hx4
    have hun : wlp T (-1) r (6 - i).toNat i W s = wlp T (-1) r (6 - (i + 1)).toNat (i + 1) (if T 4 = 0 ∨ (T 4 = 2 ∧ 60 * i < T 5) then W / 100 * (100 - rC T r i) else W) (s + W / 100 * rC T r i * pny T (-1) r) := by
      rw [show (6 - i).toNat = (6 - (i + 1)).toNat + 1 from by omega]
      rfl
    have hyes : (T 4 = 0 ∨ (T 4 = 2 ∧ 60 * i < T 5)) → TT (k_X7_worthFrom_90 F (k_X7_worthFrom_20 F n) [vR j, vI r, vI h, vL W, vU, vL x4, vU, vI i, vI (rC T r i)] [] w') (qq 4 (fun r w => ∃ x, r = some (vL x) ∧ P x w)) := by
      intro z
      refine wp_X7_worthFrom_90 F _ j hj r h W x4 i (rC T r i) w' _ (fun x1 hx1 => ?_)
      rw [w_id (x := 100 - rC T r i) (by omega) (by omega), wl_id (x := W * (100 - rC T r i)) (by omega) (by omega), td_nn 100 m2.1, div_mul hd2] at hx1
      refine wp_X7_worthFrom_103 F _ j hj r h x1 x4 i (rC T r i) w' _ (hk _ _ ⟨rfl, x1, x4, vI (rC T r i), rfl, by rw [hx1]; exact hb.1, by omega, by omega, by rw [hx1]; exact hpw_mul _ _ _ hd3, ?_⟩ q)
      rw [← hs, hun, if_pos z, hx1, hx4, hpn]
    have hno : ¬ (T 4 = 0 ∨ (T 4 = 2 ∧ 60 * i < T 5)) → TT (k_X7_worthFrom_103 F (k_X7_worthFrom_20 F n) [vR j, vI r, vI h, vL W, vU, vL x4, vU, vI i, vI (rC T r i)] [] w') (qq 4 (fun r w => ∃ x, r = some (vL x) ∧ P x w)) := by
      intro z
      refine wp_X7_worthFrom_103 F _ j hj r h W x4 i (rC T r i) w' _ (hk _ _ ⟨rfl, W, x4, vI (rC T r i), rfl, hW, by omega, by omega, ?_, ?_⟩ q)
      · rw [show (6 - i).toNat = (6 - (i + 1)).toNat + 1 from by omega] at hd
        exact hpw_le _ _ hd
      · rw [← hs, hun, if_neg z, hx4, hpn]
    exact ⟨fun z => hyes (Or.inl z), fun z => ⟨fun z2 => ⟨fun z3 => hyes (Or.inr ⟨z2, z3⟩), fun z3 => hno (by omega)⟩, fun z2 => hno (by omega)⟩⟩
  · have e : i = 6 := by omega
    subst e
    refine q_l ?_
    rw [← hs] at hp
    exact hp
/-! the chart -/
def adj (T : Nat → Int) (s : Int) (n : Nat) : List Nat := (List.range n).filter (fun r => decide (rA T r = s ∨ rB T r = s))
def CHR (T : Nat → Int) (w : AW) (n : Nat) : Prop := ∀ s, 0 ≤ s → s < 9 → w.1 229 s.toNat = (adj T s n).length ∧ ∀ i, i < (adj T s n).length → w.1 230 ((s * 14).toNat + i) = ((adj T s n).getD i 0 : Nat) ∧ w.1 231 ((s * 14).toNat + i) = rA T ((adj T s n).getD i 0 : Nat) + rB T ((adj T s n).getD i 0 : Nat) - s
theorem adj_succ (T : Nat → Int) (s : Int) (n : Nat) : adj T s (n + 1) = adj T s n ++ (if rA T n = s ∨ rB T n = s then [n] else []) := by
  unfold adj
  rw [List.range_succ, List.filter_append]
  congr 1
  by_cases h : rA T n = s ∨ rB T n = s
  · rw [if_pos h]; simp [h]
  · rw [if_neg h]; simp [h]
theorem adj_len (T : Nat → Int) (s : Int) (n : Nat) : (adj T s n).length ≤ n := by
  unfold adj
  have := List.length_filter_le (fun r : Nat => decide (rA T r = s ∨ rB T r = s)) (List.range n)
  simpa using this
theorem cv_join {F : Nat} {w : AW} {a b r : Int} {P : AW → Prop} (ha : 0 ≤ a ∧ a < 9) (hd : 0 ≤ w.1 229 a.toNat ∧ w.1 229 a.toNat < 14) (hp : ∀ w', Fr (fun j _ => j = 229 ∨ j = 230 ∨ j = 231) w w' → (∀ k : Nat, w'.1 229 k = if k = a.toNat then w.1 229 k + 1 else w.1 229 k) → (∀ k : Nat, w'.1 230 k = if k = (a * 14).toNat + (w.1 229 a.toNat).toNat then r else w.1 230 k) → (∀ k : Nat, w'.1 231 k = if k = (a * 14).toNat + (w.1 229 a.toNat).toNat then b else w.1 231 k) → P w') : CV (m_X1_join F [vR 228, vI a, vI b, vI r] w) P := by
  refine wp_X1_join F a b r w _ ⟨ha, fun x1 h1 => ⟨⟨by omega, by omega⟩, fun w3 e3 => ⟨⟨by omega, by omega⟩, fun w5 e5 => ⟨ha, ha, fun w7 e7 => q_v (hp w7 ?_ ?_ ?_ ?_)⟩⟩⟩⟩
  · rw [e7, e5, e3]
    exact ((Fr.rf.wI _ (by simp)).wI _ (by simp)).wI _ (by simp)
  · intro k
    rw [e7, wI_at, e5, e3]
    by_cases z : k = a.toNat
    · rw [if_pos ⟨rfl, z⟩, if_pos z, z]; simp [wI_at]
    · rw [if_neg (fun y => z y.2), if_neg z]; simp [wI_at]
  · intro k
    rw [e7, wI_cell _ _ _ _ (by decide), e5, wI_cell _ _ _ _ (by decide), e3, wI_at, h1]
    by_cases z : k = (a * 14).toNat + (w.1 229 a.toNat).toNat
    · rw [if_pos z, if_pos ⟨rfl, by omega⟩]
    · rw [if_neg z, if_neg (by omega)]
  · intro k
    rw [e7, wI_cell _ _ _ _ (by decide), e5, wI_at, h1]
    by_cases z : k = (a * 14).toNat + (w.1 229 a.toNat).toNat
    · rw [if_pos z, if_pos ⟨rfl, by omega⟩]
    · rw [if_neg z, if_neg (by omega), e3, wI_cell _ _ _ _ (by decide)]
abbrev Schr (j k : Nat) : Prop := j = 229 ∨ j = 230 ∨ j = 231
/-- towns are apart from what the queries write -/
def apart (j : Nat) : Prop := j + 13 < 200 ∨ j = 265
theorem cv_layRoads {F : Nat} {w : AW} {j : Nat} {T : Nat → Int} {P : AW → Prop} (hF : FB F) (hj : isTw j) (hja : apart j) (hC : CA w j T) (hT : TK T) (hp : ∀ w', Fr Schr w w' → CHR T w' (T 1).toNat → P w') : CV (m_X1_layRoads F [vR 228, vR j] w) P := by
  have a0 := hT.1
  have a1 := hT.2.1
  refine wp_X1_layRoads F j hj w _ (cv_fill (n := 9) hF ⟨rfl, rfl⟩ (by omega) (fun w1 f1 h1 => ?_))
  have f1' : Fr Schr w w1 := f1.wk (by intro j k; simp only [Schr]; omega)
  refine tt_for (K := k_X1_layRoads_10 F) (T 1) (fun i w' l => Fr Schr w w' ∧ l = [vR 228, vR j, vI i] ∧ 0 ≤ i ∧ i ≤ T 1 ∧ CHR T w' i.toNat) ?_ F 0 _ w1 (by omega) ⟨f1', rfl, by omega, by omega, fun s h2 h3 => ⟨by rw [h1 s.toNat (by omega)]; rfl, fun i hi => by exact absurd hi (Nat.not_lt_zero i)⟩⟩
  rintro n i l w2 ⟨f2, rfl, hi0, hi1, hch⟩ hk
  have hC2 : CA w2 j T := hC.fr f2 (by intro a k h1 h2; simp only [Schr]; unfold apart at hja; omega)
  rw [ks_X1_layRoads_10]
  refine wp_X1_layRoads_10 F _ j hj i w2 _ ?_
  rw [hC2.2.1, w_id (x := i) (by omega) (by omega), w_id (x := T 1) (by omega) (by omega)]
  refine ⟨fun q => ⟨⟨hi0, by omega⟩, ⟨hi0, by omega⟩, ?_⟩, fun q => q_v (hp w2 f2 (by rw [show i.toNat = (T 1).toNat from by omega] at hch; exact hch))⟩
  have hr := hT.road hi0 q
  have hcr := hC2.road hi0 q
  rw [hcr.1, hcr.2.1]
  have d1 := hch (rA T i) hr.1.1 (by omega)
  have l1 := adj_len T (rA T i) i.toNat
  refine cv_join ⟨hr.1.1, by omega⟩ (by rw [d1.1]; omega) (fun w3 f3 g29 g30 g31 => ⟨⟨hi0, by omega⟩, ⟨hi0, by omega⟩, ?_⟩)
  have f3' : Fr Schr w w3 := f2.tr f3
  have hC3 : CA w3 j T := hC.fr f3' (by intro a k h1 h2; simp only [Schr]; unfold apart at hja; omega)
  have hcr3 := hC3.road hi0 q
  rw [hcr3.1, hcr3.2.1]
  have d2 := hch (rB T i) hr.2.1.1 (by omega)
  have l2 := adj_len T (rB T i) i.toNat
  have hneq : (rB T i).toNat ≠ (rA T i).toNat := by omega
  have hd3 : w3.1 229 (rB T i).toNat = (adj T (rB T i) i.toNat).length := by rw [g29, if_neg hneq]; exact d2.1
  refine cv_join ⟨hr.2.1.1, by omega⟩ (by rw [hd3]; omega) (fun w4 f4 k29 k30 k31 => hk _ _ ⟨f3'.tr f4, rfl, by omega, by omega, fun s hs0 hs1 => ?_⟩ q)
  have ds := hch s hs0 hs1
  have ls := adj_len T s i.toNat
  rw [hd3] at k30 k31
  rw [d1.1] at g30 g31
  have e29 : w4.1 229 s.toNat = if s = rA T i ∨ s = rB T i then w2.1 229 s.toNat + 1 else w2.1 229 s.toNat := by
    rw [k29, g29]
    by_cases z1 : s = rA T i
    · rw [if_neg (by omega), if_pos (by omega), if_pos (Or.inl z1)]
    · by_cases z2 : s = rB T i
      · rw [if_pos (by omega), if_neg (by omega), if_pos (Or.inr z2)]
      · rw [if_neg (by omega), if_neg (by omega), if_neg (by omega)]
  have hiN : ((i.toNat : Nat) : Int) = i := Int.toNat_of_nonneg hi0
  rw [show (i + 1).toNat = i.toNat + 1 from by omega, adj_succ, hiN]
  have old : ∀ m, m < (adj T s i.toNat).length → w4.1 230 ((s * 14).toNat + m) = w2.1 230 ((s * 14).toNat + m) ∧ w4.1 231 ((s * 14).toNat + m) = w2.1 231 ((s * 14).toNat + m) := by
    intro m hm
    have n1 : (s * 14).toNat + m ≠ (rB T i * 14).toNat + ((adj T (rB T i) i.toNat).length : Int).toNat := by
      intro e
      have : s = rB T i := by omega
      subst this
      omega
    have n2 : (s * 14).toNat + m ≠ (rA T i * 14).toNat + ((adj T (rA T i) i.toNat).length : Int).toNat := by
      intro e
      have : s = rA T i := by omega
      subst this
      omega
    rw [k30, k31, if_neg n1, if_neg n1, g30, g31, if_neg n2, if_neg n2]
    exact ⟨rfl, rfl⟩
  by_cases z : rA T i = s ∨ rB T i = s
  · rw [if_pos z, List.length_append]
    refine ⟨by rw [e29, if_pos (by omega), ds.1]; simp, fun m hm => ?_⟩
    have hm : m < (adj T s i.toNat).length + 1 := by simpa using hm
    by_cases zm : m < (adj T s i.toNat).length
    · have hg : (adj T s i.toNat ++ [i.toNat]).getD m 0 = (adj T s i.toNat).getD m 0 := by rw [List.getD_eq_getElem?_getD, List.getD_eq_getElem?_getD, List.getElem?_append_left zm]
      rw [hg, (old m zm).1, (old m zm).2]
      exact ds.2 m zm
    · have zm2 : m = (adj T s i.toNat).length := by omega
      have hg : (adj T s i.toNat ++ [i.toNat]).getD m 0 = i.toNat := by rw [List.getD_eq_getElem?_getD, zm2, List.getElem?_append_right (Nat.le_refl _)]; simp
      rw [hg, hiN]
      by_cases z2 : s = rB T i
      · have e : (s * 14).toNat + m = (rB T i * 14).toNat + ((adj T (rB T i) i.toNat).length : Int).toNat := by rw [zm2, z2]; omega
        rw [k30, k31, if_pos e, if_pos e, z2]
        exact ⟨rfl, by omega⟩
      · have z1 : s = rA T i := by omega
        have e : (s * 14).toNat + m = (rA T i * 14).toNat + ((adj T (rA T i) i.toNat).length : Int).toNat := by rw [zm2, z1]; omega
        have n1 : (s * 14).toNat + m ≠ (rB T i * 14).toNat + ((adj T (rB T i) i.toNat).length : Int).toNat := by
          intro e2
          omega
        rw [k30, k31, if_neg n1, if_neg n1, g30, g31, if_pos e, if_pos e, z1]
        exact ⟨rfl, by omega⟩
  · rw [if_neg z, List.append_nil]
    refine ⟨by rw [e29, if_neg (by omega)]; exact ds.1, fun m hm => ?_⟩
    rw [(old m hm).1, (old m hm).2]
    exact ds.2 m hm
/-! fewest minutes -/
def gm2 (w : AW) (a b : Int) : Int := if 0 ≤ a ∧ a < 9 ∧ 0 ≤ b ∧ b < 9 then w.1 232 ((a * 9) + b).toNat else -1
def CHM (T : Nat → Int) (w : AW) : Prop := ∀ a b, 0 ≤ a → a < T 0 → 0 ≤ b → b < T 0 → (w.1 232 ((a * 9) + b).toNat = -1 ∧ ∀ n m, ¬ Wk (Jt T (-1)) n a b m) ∨ Ds (Jt T (-1)) a b (w.1 232 ((a * 9) + b).toNat)
abbrev Schm (j k : Nat) : Prop := j = 232
theorem gm2_in {w : AW} {a b : Int} (ha : 0 ≤ a ∧ a < 9) (hb : 0 ≤ b ∧ b < 9) : gm2 w a b = w.1 232 ((a * 9) + b).toNat := by
  unfold gm2
  rw [if_pos ⟨ha.1, ha.2, hb.1, hb.2⟩]
theorem cv_lower {F : Nat} {w : AW} {a b m : Int} {P : AW → Prop} (ha : 0 ≤ a ∧ a < 9) (hb : 0 ≤ b ∧ b < 9) (hm : 0 ≤ m ∧ m ≤ 1000000) (hr : -1 ≤ gm2 w a b ∧ gm2 w a b ≤ 1000000) (hp : ∀ w', Fr Schm w w' → (∀ x y, gm2 w' x y = if x = a ∧ y = b ∧ (gm2 w a b = -1 ∨ m < gm2 w a b) then m else gm2 w x y) → P w') : CV (m_X1_lower F [vR 228, vI a, vI b, vI m] w) P := by
  have e := gm2_in (w := w) ha hb
  rw [e] at hr
  refine wp_X1_lower F a b m w _ (fun x1 h1 => ?_)
  subst h1
  have put : (gm2 w a b = -1 ∨ m < gm2 w a b) → TT (k_X1_lower_30 F [vR 228, vI a, vI b, vI m, vI ((a * 9) + b)] [] w) (qq 0 (fun r w => r = none ∧ P w)) := by
    intro hz
    refine wp_X1_lower_30 F a b m _ w _ ⟨⟨by omega, by omega⟩, fun w' e' => q_v (hp w' (by rw [e']; exact Fr.rf.wI _ rfl) (fun x y => ?_))⟩
    by_cases z : x = a ∧ y = b
    · obtain ⟨z1, z2⟩ := z
      subst z1; subst z2
      rw [if_pos ⟨rfl, rfl, hz⟩, gm2_in ha hb, e', wI_same]
    · rw [if_neg (fun q => z ⟨q.1, q.2.1⟩)]
      unfold gm2
      by_cases q : 0 ≤ x ∧ x < 9 ∧ 0 ≤ y ∧ y < 9
      · rw [if_pos q, if_pos q, e', wI_idx _ _ _ _ (by omega)]
      · rw [if_neg q, if_neg q]
  have no : ¬ (gm2 w a b = -1 ∨ m < gm2 w a b) → qq 0 (fun r w => r = none ∧ P w) none w := by
    intro hz
    exact q_v (hp w Fr.rf (fun x y => by rw [if_neg (fun q => hz q.2.2)]))
  rw [e] at put no
  rw [w_id (x := w.1 232 ((a * 9) + b).toNat) (by omega) (by omega), w_id (x := m) (by omega) (by omega)]
  exact ⟨⟨by omega, by omega⟩, fun q => put (Or.inl q), fun q => ⟨⟨by omega, by omega⟩, fun q2 => put (Or.inr q2), fun q2 => no (by omega)⟩⟩
/-- bounds while it runs: no number is large -/
def GB (T : Nat → Int) (w : AW) (B : Int) : Prop := ∀ a b, -1 ≤ gm2 w a b ∧ gm2 w a b ≤ B
theorem cv_lowerAllOver {F : Nat} {w : AW} {j : Nat} {T : Nat → Int} {a k B : Int} {P : AW → Prop} (hF : FB F) (hj : isTw j) (hja : apart j) (hC : CA w j T) (hT : TK T) (ha : 0 ≤ a ∧ a < T 0) (hk : 0 ≤ k ∧ k < T 0) (hak : a ≠ k) (hB : 0 ≤ B ∧ B ≤ 100000) (hg : GB T w B) (hkk : gm2 w k k = 0) (hak2 : gm2 w a k ≠ -1) (hp : ∀ w', Fr Schm w w' → GB T w' (B + B) → (∀ x y, gm2 w' x y = if x = a ∧ 0 ≤ y ∧ y < T 0 ∧ gm2 w k y ≠ -1 ∧ (gm2 w a y = -1 ∨ gm2 w a k + gm2 w k y < gm2 w a y) then gm2 w a k + gm2 w k y else gm2 w x y) → P w') : CV (m_X1_lowerAllOver F [vR 228, vR j, vI a, vI k] w) P := by
  have a0 := hT.1
  have gak := hg a k
  refine wp_X1_lowerAllOver F j hj a k w _ ⟨⟨by omega, by omega⟩, fun x1 h1 => ?_⟩
  rw [← gm2_in (w := w) ⟨ha.1, by omega⟩ ⟨hk.1, by omega⟩] at h1
  subst h1
  refine tt_for (K := k_X1_lowerAllOver_16 F) (T 0) (fun i w' l => Fr Schm w w' ∧ (∃ v, l = [vR 228, vR j, vI a, vI k, vI (gm2 w a k), vI i, v]) ∧ 0 ≤ i ∧ i ≤ T 0 ∧ ∀ x y, gm2 w' x y = if x = a ∧ 0 ≤ y ∧ y < i ∧ gm2 w k y ≠ -1 ∧ (gm2 w a y = -1 ∨ gm2 w a k + gm2 w k y < gm2 w a y) then gm2 w a k + gm2 w k y else gm2 w x y) ?_ F 0 _ w (by omega) ⟨Fr.rf, ⟨vU, rfl⟩, by omega, by omega, fun x y => by rw [if_neg (by omega)]⟩
  rintro n i l w2 ⟨f2, ⟨v, rfl⟩, hi0, hi1, hw⟩ hk2
  have hC2 : CA w2 j T := hC.fr f2 (by intro a k h1 h2; simp only [Schm]; unfold apart at hja; omega)
  rw [ks_X1_lowerAllOver_16]
  refine wp_X1_lowerAllOver_16 F _ j hj a k (gm2 w a k) i v w2 _ ?_
  rw [hC2.1, w_id (x := i) (by omega) (by omega), w_id (x := T 0) (by omega) (by omega)]
  refine ⟨fun q => ⟨⟨by omega, by omega⟩, fun x2 h2 => ?_⟩, fun q => q_v (hp w2 f2 (fun x y => ?_) (fun x y => ?_))⟩
  · rw [← gm2_in (w := w2) ⟨hk.1, by omega⟩ ⟨hi0, by omega⟩, hw, if_neg (fun z => hak z.1.symm)] at h2
    subst h2
    have gki := hg k i
    have gai := hg a i
    have h2ai : gm2 w2 a i = gm2 w a i := by rw [hw, if_neg (by omega)]
    rw [w_id (x := gm2 w k i) (by omega) (by omega)]
    refine ⟨fun z => wp_X1_lowerAllOver_57 F _ j hj a k _ i _ w2 _ (hk2 _ _ ⟨f2, ⟨_, rfl⟩, by omega, by omega, fun x y => ?_⟩ q), fun z => cv_lower ⟨ha.1, by omega⟩ ⟨hi0, by omega⟩ ⟨by omega, by omega⟩ (by rw [h2ai]; omega) (fun w3 f3 h3 => wp_X1_lowerAllOver_57 F _ j hj a k _ i _ w3 _ (hk2 _ _ ⟨f2.tr f3, ⟨_, rfl⟩, by omega, by omega, fun x y => ?_⟩ q))⟩
    · rw [hw]
      by_cases y1 : y = i
      · subst y1
        rw [if_neg (by omega), if_neg (fun u => u.2.2.2.1 z)]
      · by_cases u : x = a ∧ 0 ≤ y ∧ y < i ∧ gm2 w k y ≠ -1 ∧ (gm2 w a y = -1 ∨ gm2 w a k + gm2 w k y < gm2 w a y)
        · rw [if_pos u, if_pos ⟨u.1, u.2.1, by omega, u.2.2.2⟩]
        · rw [if_neg u, if_neg (fun u2 => u ⟨u2.1, u2.2.1, by omega, u2.2.2.2⟩)]
    · rw [h3, h2ai, hw]
      by_cases y1 : y = i
      · subst y1
        by_cases u : x = a ∧ (gm2 w a y = -1 ∨ gm2 w a k + gm2 w k y < gm2 w a y)
        · rw [if_pos ⟨u.1, rfl, u.2⟩, if_pos ⟨u.1, hi0, by omega, z, u.2⟩]
        · rw [if_neg (fun u2 => u ⟨u2.1, u2.2.2⟩), if_neg (by omega), if_neg (fun u2 => u ⟨u2.1, u2.2.2.2.2⟩)]
      · rw [if_neg (fun u => y1 u.2.1)]
        by_cases u : x = a ∧ 0 ≤ y ∧ y < i ∧ gm2 w k y ≠ -1 ∧ (gm2 w a y = -1 ∨ gm2 w a k + gm2 w k y < gm2 w a y)
        · rw [if_pos u, if_pos ⟨u.1, u.2.1, by omega, u.2.2.2⟩]
        · rw [if_neg u, if_neg (fun u2 => u ⟨u2.1, u2.2.1, by omega, u2.2.2.2⟩)]
  · rw [hw]
    have := hg x y
    have := hg k y
    split <;> omega
  · rw [hw, show i = T 0 from by omega]
theorem cv_layMinutes {F : Nat} {w : AW} {j : Nat} {T : Nat → Int} {P : AW → Prop} (hF : FB F) (hj : isTw j) (hja : apart j) (hC : CA w j T) (hT : TK T) (hp : ∀ w', Fr Schm w w' → CHM T w' → P w') : CV (m_X1_layMinutes F [vR 228, vR j] w) P := by
  have a0 := hT.1
  have a1 := hT.2.1
  have hJ := Jt_ok hT (-1)
  have hPP : (((T 0).toNat : Nat) : Int) = T 0 := Int.toNat_of_nonneg (by omega)
  rw [hPP] at hJ
  refine wp_X1_layMinutes F j hj w _ (cv_fill (n := 81) hF ⟨rfl, rfl⟩ (by omega) (fun w1 f1 h1 => ?_))
  have f1' : Fr Schm w w1 := f1.wk (by intro j k h; exact h)
  have g1 : ∀ x y, gm2 w1 x y = -1 := by
    intro x y
    unfold gm2
    split
    · exact h1 _ (by omega)
    · rfl
  -- to itself 0
  refine tt_for (K := k_X1_layMinutes_10 F) (T 0) (fun i w' l => Fr Schm w w' ∧ l = [vR 228, vR j, vI i, vU] ∧ 0 ≤ i ∧ i ≤ T 0 ∧ ∀ x y, gm2 w' x y = if x = y ∧ 0 ≤ x ∧ x < i then 0 else -1) ?_ F 0 _ w1 (by omega) ⟨f1', rfl, by omega, by omega, fun x y => by rw [if_neg (by omega)]; exact g1 x y⟩
  rintro n i l w2 ⟨f2, rfl, hi0, hi1, hw2⟩ hk
  have hC2 : CA w2 j T := hC.fr f2 (by intro a k h1 h2; simp only [Schm]; unfold apart at hja; omega)
  rw [ks_X1_layMinutes_10]
  refine wp_X1_layMinutes_10 F _ j hj i w2 _ ?_
  rw [hC2.1, w_id (x := i) (by omega) (by omega), w_id (x := T 0) (by omega) (by omega)]
  refine ⟨fun q => ⟨⟨by omega, by omega⟩, fun w3 e3 => hk _ _ ⟨by rw [e3]; exact f2.wI _ rfl, rfl, by omega, by omega, fun x y => ?_⟩ q⟩, fun q => ?_⟩
  · by_cases z : x = i ∧ y = i
    · obtain ⟨z1, z2⟩ := z
      subst z1; subst z2
      rw [gm2_in ⟨hi0, by omega⟩ ⟨hi0, by omega⟩, e3, wI_same, if_pos ⟨rfl, hi0, by omega⟩]
    · have : gm2 w3 x y = gm2 w2 x y := by
        unfold gm2
        by_cases u : 0 ≤ x ∧ x < 9 ∧ 0 ≤ y ∧ y < 9
        · rw [if_pos u, if_pos u, e3, wI_idx _ _ _ _ (by omega)]
        · rw [if_neg u, if_neg u]
      rw [this, hw2]
      by_cases u : x = y ∧ 0 ≤ x ∧ x < i
      · rw [if_pos u, if_pos ⟨u.1, u.2.1, by omega⟩]
      · rw [if_neg u, if_neg (by omega)]
  · -- over each road
    have hi : i = T 0 := by omega
    subst hi
    clear hk
    refine tt_for (K := k_X1_layMinutes_38 F) (T 1) (fun r w' l => Fr Schm w w' ∧ l = [vR 228, vR j, vI r, vU] ∧ 0 ≤ r ∧ r ≤ T 1 ∧ FSnd (Jt T (-1)) (gm2 w') ∧ (∀ x y, -1 ≤ gm2 w' x y ∧ gm2 w' x y ≤ 30) ∧ (∀ x, 0 ≤ x → x < T 0 → gm2 w' x x = 0) ∧ ∀ s, 0 ≤ s → s < r → FLe (gm2 w') (rA T s) (rB T s) (rM T s) ∧ FLe (gm2 w') (rB T s) (rA T s) (rM T s)) ?_ F 0 _ w2 (by omega) ⟨f2, rfl, by omega, by omega, fun x y => ?_, fun x y => ?_, fun x h1 h2 => ?_, fun s h1 h2 => by omega⟩
    · rintro n2 r l w3 ⟨f3, rfl, hr0, hr1, hs, hb, hz, hE⟩ hk2
      have hC3 : CA w3 j T := hC.fr f3 (by intro a k h1 h2; simp only [Schm]; unfold apart at hja; omega)
      rw [ks_X1_layMinutes_38]
      refine wp_X1_layMinutes_38 F _ j hj r w3 _ ?_
      rw [hC3.2.1, w_id (x := r) (by omega) (by omega), w_id (x := T 1) (by omega) (by omega)]
      refine ⟨fun q1 => ⟨⟨hr0, by omega⟩, ⟨hr0, by omega⟩, ⟨hr0, by omega⟩, ?_⟩, fun q1 => ?_⟩
      · have hrd := hT.road hr0 q1
        have hcr := hC3.road hr0 q1
        rw [hcr.1, hcr.2.1, hcr.2.2.1]
        have hrn : ((r.toNat : Nat) : Int) = r := Int.toNat_of_nonneg hr0
        have hj1 : Jt T (-1) (rA T r) (rB T r) (rM T r) := ⟨r.toNat, by show r.toNat < (T 1).toNat; omega, by omega, by show rM T r = rM T (r.toNat : Nat); rw [hrn], Or.inl ⟨by show rA T r = rA T (r.toNat : Nat); rw [hrn], by show rB T r = rB T (r.toNat : Nat); rw [hrn]⟩⟩
        have hj2 := hJ.1 _ _ _ hj1
        -- one lowering keeps all that
        have low : ∀ (a b m : Int) (wz wy : AW), 0 ≤ a → a < T 0 → 0 ≤ b → b < T 0 → a ≠ b → Jt T (-1) a b m → (∀ x y, gm2 wy x y = if x = a ∧ y = b ∧ (gm2 wz a b = -1 ∨ m < gm2 wz a b) then m else gm2 wz x y) → FSnd (Jt T (-1)) (gm2 wz) → (∀ x y, -1 ≤ gm2 wz x y ∧ gm2 wz x y ≤ 30) → (∀ x, 0 ≤ x → x < T 0 → gm2 wz x x = 0) → FSnd (Jt T (-1)) (gm2 wy) ∧ (∀ x y, -1 ≤ gm2 wy x y ∧ gm2 wy x y ≤ 30) ∧ (∀ x, 0 ≤ x → x < T 0 → gm2 wy x x = 0) ∧ FLe (gm2 wy) a b m ∧ ∀ x y d, FLe (gm2 wz) x y d → FLe (gm2 wy) x y d := by
          intro a b m wz wy k1 k2 k3 k4 k5 k6 k7 k8 k9 k10
          have km := (hJ.2 _ _ _ k6)
          refine ⟨fun x y => ?_, fun x y => ?_, fun x y1 y2 => ?_, ?_, fun x y d hd => ?_⟩
          · rw [k7]
            split
            · rename_i u
              rw [u.1, u.2.1]
              have := Wk_cons 0 a b b 0 m k6 ⟨rfl, rfl⟩
              exact Or.inr ⟨1, by rw [Int.zero_add] at this; exact this⟩
            · exact k8 x y
          · rw [k7]; have := k9 x y; split <;> omega
          · rw [k7, if_neg (by omega)]; exact k10 x y1 y2
          · unfold FLe
            rw [k7]
            have := k9 a b
            by_cases u : gm2 wz a b = -1 ∨ m < gm2 wz a b
            · rw [if_pos ⟨rfl, rfl, u⟩]; omega
            · rw [if_neg (fun u2 => u u2.2.2)]; omega
          · unfold FLe at hd ⊢
            rw [k7]
            split
            · rename_i u
              rw [u.1, u.2.1] at hd
              omega
            · exact hd
        refine cv_lower ⟨hrd.1.1, by omega⟩ ⟨hrd.2.1.1, by omega⟩ (by omega) (by have := hb (rA T r) (rB T r); omega) (fun w4 f4 h4 => ⟨⟨hr0, by omega⟩, ⟨hr0, by omega⟩, ⟨hr0, by omega⟩, ?_⟩)
        obtain ⟨s4, b4, z4, l4, m4⟩ := low _ _ _ _ _ hrd.1.1 hrd.1.2 hrd.2.1.1 hrd.2.1.2 hrd.2.2.1 hj1 h4 hs hb hz
        have f4' := f3.tr f4
        have hC4 : CA w4 j T := hC.fr f4' (by intro a k h1 h2; simp only [Schm]; unfold apart at hja; omega)
        have hcr4 := hC4.road hr0 q1
        rw [hcr4.1, hcr4.2.1, hcr4.2.2.1]
        refine cv_lower ⟨hrd.2.1.1, by omega⟩ ⟨hrd.1.1, by omega⟩ (by omega) (by have := b4 (rB T r) (rA T r); omega) (fun w5 f5 h5 => ?_)
        obtain ⟨s5, b5, z5, l5, m5⟩ := low _ _ _ _ _ hrd.2.1.1 hrd.2.1.2 hrd.1.1 hrd.1.2 (Ne.symm hrd.2.2.1) hj2 h5 s4 b4 z4
        refine hk2 _ _ ⟨f4'.tr f5, rfl, by omega, by omega, s5, b5, z5, fun s h1 h2 => ?_⟩ q1
        by_cases u : s = r
        · subst u; exact ⟨m5 _ _ _ l4, l5⟩
        · have := hE s h1 (by omega)
          exact ⟨m5 _ _ _ (m4 _ _ _ this.1), m5 _ _ _ (m4 _ _ _ this.2)⟩
      · -- over each place
        have hE2 : ∀ a b d, Jt T (-1) a b d → FLe (gm2 w3) a b d := by
          intro a b d hj
          obtain ⟨r', y1, y2, y3, y4⟩ := hj
          have y1 : r' < (T 1).toNat := y1
          have y3 : d = rM T r' := y3
          have hz := hE r' (by omega) (by omega)
          rcases y4 with ⟨z1, z2⟩ | ⟨z1, z2⟩
          · have z1 : a = rA T r' := z1
            have z2 : b = rB T r' := z2
            rw [z1, z2, y3]; exact hz.1
          · have z1 : a = rB T r' := z1
            have z2 : b = rA T r' := z2
            rw [z1, z2, y3]; exact hz.2
        clear hk2
        refine tt_for (K := k_X1_layMinutes_98 F) (T 0) (fun k w' l => Fr Schm w w' ∧ (∃ v, l = [vR 228, vR j, vI k, v]) ∧ 0 ≤ k ∧ k ≤ T 0 ∧ FSnd (Jt T (-1)) (gm2 w') ∧ (∀ x y, -1 ≤ gm2 w' x y ∧ gm2 w' x y ≤ 30 * 2 ^ k.toNat) ∧ (∀ x, 0 ≤ x → x < T 0 → gm2 w' x x = 0) ∧ (∀ a b d, Jt T (-1) a b d → FLe (gm2 w') a b d) ∧ ∀ x, 0 ≤ x → x < k → FCl (gm2 w') x) ?_ F 0 _ w3 (by omega) ⟨f3, ⟨vU, rfl⟩, by omega, by omega, hs, by intro x y; have := hb x y; show -1 ≤ _ ∧ _ ≤ 30 * 2 ^ 0; omega, hz, hE2, fun x h1 h2 => by omega⟩
        rintro n3 k l w4 ⟨f4, ⟨v, rfl⟩, hk0, hk1, s4, b4, z4, e4, c4⟩ hk3
        have hC4 : CA w4 j T := hC.fr f4 (by intro a k h1 h2; simp only [Schm]; unfold apart at hja; omega)
        rw [ks_X1_layMinutes_98]
        refine wp_X1_layMinutes_98 F _ j hj k v w4 _ ?_
        rw [hC4.1, w_id (x := k) (by omega) (by omega), w_id (x := T 0) (by omega) (by omega)]
        refine ⟨fun q2 => ?_, fun q2 => q_v (hp w4 f4 (fun a b h1 h2 h3 h4 => ?_))⟩
        · obtain ⟨B, hB⟩ : ∃ B : Int, B = 30 * 2 ^ k.toNat := ⟨_, rfl⟩
          have hpw : (2 : Int) ^ k.toNat ≤ 2 ^ 8 := by
            have : (2 : Nat) ^ k.toNat ≤ 2 ^ 8 := Nat.pow_le_pow_right (by decide) (by omega)
            exact_mod_cast this
          have hpw0 : (0 : Int) ≤ 2 ^ k.toNat := by
            have : (0 : Nat) ≤ 2 ^ k.toNat := Nat.zero_le _
            exact_mod_cast this
          have h28 : (2 : Int) ^ 8 = 256 := by decide
          have hBr : 0 ≤ B ∧ B ≤ 7680 := by omega
          rw [← hB] at b4
          refine tt_for (K := k_X1_layMinutes_108 F (k_X1_layMinutes_98 F n3)) (T 0) (fun a w' l => Fr Schm w w' ∧ l = [vR 228, vR j, vI k, vI a] ∧ 0 ≤ a ∧ a ≤ T 0 ∧ (∀ x y, -1 ≤ gm2 w' x y ∧ gm2 w' x y ≤ B + B) ∧ ∀ x y, gm2 w' x y = if 0 ≤ x ∧ x < a ∧ gm2 w4 x k ≠ -1 ∧ gm2 w4 k y ≠ -1 ∧ (gm2 w4 x y = -1 ∨ gm2 w4 x k + gm2 w4 k y < gm2 w4 x y) then gm2 w4 x k + gm2 w4 k y else gm2 w4 x y) ?_ F 0 _ w4 (by omega) ⟨f4, rfl, by omega, by omega, fun x y => by have := b4 x y; omega, fun x y => by rw [if_neg (by omega)]⟩
          rintro n4 a l w5 ⟨f5, rfl, ha0, ha1, b5, h5⟩ hk4
          have hC5 : CA w5 j T := hC.fr f5 (by intro a k h1 h2; simp only [Schm]; unfold apart at hja; omega)
          rw [ks_X1_layMinutes_108]
          refine wp_X1_layMinutes_108 F _ _ j hj k a w5 _ ?_
          rw [hC5.1, w_id (x := a) (by omega) (by omega), w_id (x := T 0) (by omega) (by omega), w_id (x := k) (by omega) (by omega)]
          have out : ∀ x y, gm2 w4 x y ≠ -1 → (0 ≤ y ∧ y < T 0) ∨ x = y := by
            intro x y hne
            rcases s4 x y with u | ⟨nn, u⟩
            · exact absurd u hne
            · cases nn with
              | zero => exact Or.inr u.1
              | succ nn =>
                obtain ⟨c', d', -, u2⟩ := u
                have := hJ.2 _ _ _ u2
                exact Or.inl ⟨this.2.2.2.2.1, this.2.2.2.2.2⟩
          -- the row a is done
          have row : ∀ (wz : AW), Fr Schm w wz → (∀ x y, -1 ≤ gm2 wz x y ∧ gm2 wz x y ≤ B + B) → a < T 0 → (∀ x y, gm2 wz x y = if x = a ∧ gm2 w4 a k ≠ -1 ∧ gm2 w4 k y ≠ -1 ∧ (gm2 w4 a y = -1 ∨ gm2 w4 a k + gm2 w4 k y < gm2 w4 a y) then gm2 w4 a k + gm2 w4 k y else gm2 w5 x y) → TT (k_X1_layMinutes_143 F (k_X1_layMinutes_98 F n3) (k_X1_layMinutes_108 F (k_X1_layMinutes_98 F n3) n4) [vR 228, vR j, vI k, vI a] [] wz) (qq 0 (fun r w => r = none ∧ P w)) := by
            intro wz fz bz ha hz
            refine wp_X1_layMinutes_143 F _ _ j hj k a wz _ (hk4 _ _ ⟨fz, rfl, by omega, by omega, bz, fun x y => ?_⟩ ha)
            rw [hz]
            by_cases u : x = a
            · subst u
              rw [h5, if_neg (show ¬ (0 ≤ x ∧ x < x ∧ _) by omega)]
              by_cases u2 : gm2 w4 x k ≠ -1 ∧ gm2 w4 k y ≠ -1 ∧ (gm2 w4 x y = -1 ∨ gm2 w4 x k + gm2 w4 k y < gm2 w4 x y)
              · rw [if_pos ⟨rfl, u2⟩, if_pos ⟨ha0, by omega, u2⟩]
              · rw [if_neg (fun u3 => u2 u3.2), if_neg (fun u3 => u2 u3.2.2)]
            · rw [if_neg (fun u3 => u u3.1), h5]
              by_cases u2 : 0 ≤ x ∧ x < a ∧ gm2 w4 x k ≠ -1 ∧ gm2 w4 k y ≠ -1 ∧ (gm2 w4 x y = -1 ∨ gm2 w4 x k + gm2 w4 k y < gm2 w4 x y)
              · rw [if_pos u2, if_pos ⟨u2.1, by omega, u2.2.2⟩]
              · rw [if_neg u2, if_neg (fun u3 => u2 ⟨u3.1, by omega, u3.2.2⟩)]
          have kkz : gm2 w4 k k = 0 := z4 k hk0 q2
          have rowk : ∀ y, gm2 w5 k y = gm2 w4 k y := by
            intro y
            rw [h5]
            have := b4 k y
            by_cases u : 0 ≤ k ∧ k < a ∧ gm2 w4 k k ≠ -1 ∧ gm2 w4 k y ≠ -1 ∧ (gm2 w4 k y = -1 ∨ gm2 w4 k k + gm2 w4 k y < gm2 w4 k y)
            · omega
            · rw [if_neg u]
          have rowa : ∀ y, gm2 w5 a y = gm2 w4 a y := fun y => by rw [h5, if_neg (by omega)]
          refine ⟨fun q3 => ⟨fun q4 => row w5 f5 b5 q3 (fun x y => ?_), fun q4 => ⟨⟨by omega, by omega⟩, ?_⟩⟩, fun q3 => ?_⟩
          · subst q4
            have := b4 a y
            rw [if_neg (by omega)]
          · have hak := b5 a k
            rw [← gm2_in (w := w5) ⟨ha0, by omega⟩ ⟨hk0, by omega⟩, w_id (x := gm2 w5 a k) (by omega) (by omega), rowa k]
            refine ⟨fun q5 => row w5 f5 b5 q3 (fun x y => by rw [if_neg (fun u => u.2.1 q5)]), fun q5 => ?_⟩
            refine cv_lowerAllOver hF hj hja hC5 hT ⟨ha0, q3⟩ ⟨hk0, q2⟩ q4 (B := B + B) (by omega) b5 (by rw [rowk]; exact kkz) (by rw [rowa]; exact q5) (fun w6 f6 b6 h6 => row w6 (f5.tr f6) (fun x y => ?_) q3 (fun x y => ?_))
            · rw [h6]
              have := b5 x y
              have := b4 a k
              have := b4 k y
              simp only [rowk, rowa]
              split <;> omega
            · rw [h6]
              simp only [rowk, rowa]
              by_cases u : x = a ∧ gm2 w4 a k ≠ -1 ∧ gm2 w4 k y ≠ -1 ∧ (gm2 w4 a y = -1 ∨ gm2 w4 a k + gm2 w4 k y < gm2 w4 a y)
              · rw [if_pos u]
                have hy : 0 ≤ y ∧ y < T 0 := by
                  rcases out k y u.2.2.1 with o | o
                  · exact o
                  · omega
                rw [if_pos ⟨u.1, hy.1, hy.2, u.2.2⟩]
              · rw [if_neg u, if_neg (fun u2 => u ⟨u2.1, q5, u2.2.2.2⟩)]
          · -- one place more is done
            have ha : a = T 0 := by omega
            subst ha
            have hin : ∀ x y, gm2 w4 x y ≠ -1 → 0 ≤ x ∧ x < 9 := by
              intro x y hne
              unfold gm2 at hne
              by_cases u : 0 ≤ x ∧ x < 9 ∧ 0 ≤ y ∧ y < 9
              · omega
              · rw [if_neg u] at hne; exact absurd rfl hne
            have hin2 : ∀ x, gm2 w4 x k ≠ -1 → x < T 0 := by
              intro x hne
              rcases s4 x k with u | ⟨nn, u⟩
              · exact absurd u hne
              · cases nn with
                | zero => have := u.1; omega
                | succ nn =>
                  have := Wk_rev hJ _ _ _ _ u
                  obtain ⟨c', d', -, u2⟩ := this
                  have := hJ.2 _ _ _ u2
                  omega
            have hst := FW_step hJ (g := gm2 w4) (g' := gm2 w5) (k := k) s4 kkz (fun x y => by
              rw [h5]
              by_cases u : gm2 w4 x k ≠ -1 ∧ gm2 w4 k y ≠ -1 ∧ (gm2 w4 x y = -1 ∨ gm2 w4 x k + gm2 w4 k y < gm2 w4 x y)
              · rw [if_pos u, if_pos ⟨(hin x k u.1).1, hin2 x u.1, u⟩]
              · rw [if_neg u, if_neg (fun u2 => u u2.2.2)])
            refine hk3 _ _ ⟨f5, ⟨_, rfl⟩, by omega, by omega, hst.1, fun x y => ?_, fun x h1 h2 => hst.2.2.1 x (z4 x h1 h2), fun a b d hd => hst.2.1 _ _ _ (e4 a b d hd), fun x h1 h2 => ?_⟩ q2
            · have := b5 x y
              rw [show (k + 1).toNat = k.toNat + 1 from by omega, Int.pow_succ]
              omega
            · by_cases u : x = k
              · rw [u]; exact hst.2.2.2.2
              · exact hst.2.2.2.1 x (c4 x h1 (by omega))
        · have := FW_end hJ s4 z4 e4 (fun x h1 h2 => c4 x h1 (by omega)) a b h1 h2
          rw [gm2_in ⟨h1, by omega⟩ ⟨h3, by omega⟩] at this
          exact this
    · rw [hw2]
      split
      · rename_i u
        exact Or.inr ⟨0, u.1, rfl⟩
      · exact Or.inl rfl
    · rw [hw2]; split <;> omega
    · rw [hw2, if_pos ⟨rfl, h1, h2⟩]
/-! worths by hours -/
def CHW (T : Nat → Int) (w : AW) : Prop := ∀ r h, 0 ≤ r → r < T 1 → 0 ≤ h → h ≤ 6 → w.2.1 233 ((r * 7) + h).toNat = wrt T (-1) r h
abbrev Schw (j k : Nat) : Prop := j = 233
theorem cv_layWorths {F : Nat} {w : AW} {j : Nat} {T : Nat → Int} {P : AW → Prop} (hF : FB F) (hj : isTw j) (hja : apart j) (hC : CA w j T) (hT : TK T) (hp : ∀ w', Fr Schw w w' → CHW T w' → P w') : CV (m_X1_layWorths F [vR 228, vR j] w) P := by
  have a1 := hT.2.1
  refine wp_X1_layWorths F j hj w _ ?_
  refine tt_for (K := k_X1_layWorths_2 F) (T 1) (fun i w' l => Fr Schw w w' ∧ (∃ v, l = [vR 228, vR j, vI i, v]) ∧ 0 ≤ i ∧ i ≤ T 1 ∧ ∀ r h, 0 ≤ r → r < i → 0 ≤ h → h ≤ 6 → w'.2.1 233 ((r * 7) + h).toNat = wrt T (-1) r h) ?_ F 0 _ w (by omega) ⟨Fr.rf, ⟨vU, rfl⟩, by omega, by omega, fun r h h1 h2 => by omega⟩
  rintro n i l w2 ⟨f2, ⟨v, rfl⟩, hi0, hi1, hw⟩ hk
  have hC2 : CA w2 j T := hC.fr f2 (by intro a k h1 h2; simp only [Schw]; unfold apart at hja; omega)
  rw [ks_X1_layWorths_2]
  refine wp_X1_layWorths_2 F _ j hj i v w2 _ ?_
  rw [hC2.2.1, w_id (x := i) (by omega) (by omega), w_id (x := T 1) (by omega) (by omega)]
  refine ⟨fun q => ?_, fun q => q_v (hp w2 f2 (fun r h h1 h2 h3 h4 => hw r h h1 (by omega) h3 h4))⟩
  refine tt_for (K := k_X1_layWorths_12 F (k_X1_layWorths_2 F n)) 7 (fun k w' l => Fr Schw w w' ∧ l = [vR 228, vR j, vI i, vI k] ∧ 0 ≤ k ∧ k ≤ 7 ∧ (∀ r h, 0 ≤ r → r < i → 0 ≤ h → h ≤ 6 → w'.2.1 233 ((r * 7) + h).toNat = wrt T (-1) r h) ∧ ∀ h, 0 ≤ h → h < k → w'.2.1 233 ((i * 7) + h).toNat = wrt T (-1) i h) ?_ F 0 _ w2 (by omega) ⟨f2, rfl, by omega, by omega, hw, fun h h1 h2 => by omega⟩
  rintro n2 k l w3 ⟨f3, rfl, hk0, hk1, hw3, hw3'⟩ hk2
  have hC3 : CA w3 j T := hC.fr f3 (by intro a k h1 h2; simp only [Schw]; unfold apart at hja; omega)
  rw [ks_X1_layWorths_12]
  refine wp_X1_layWorths_12 F _ _ j hj i k w3 _ ?_
  rw [w_id (x := k) (by omega) (by omega)]
  refine ⟨fun q2 => hk _ _ ⟨f3, ⟨_, rfl⟩, by omega, by omega, fun r h h1 h2 h3 h4 => ?_⟩ q, fun q2 => cl_worthFrom hF hj hC3 hT hi0 q hk0 (by omega) ⟨⟨by omega, by omega⟩, fun w4 e4 => hk2 _ _ ⟨by rw [e4]; exact f3.wL _ rfl, rfl, by omega, by omega, fun r h h1 h2 h3 h4 => ?_, fun h h1 h2 => ?_⟩ (by omega)⟩⟩
  · by_cases z : r = i
    · rw [z]; exact hw3' h h3 (by omega)
    · exact hw3 r h h1 (by omega) h3 h4
  · rw [e4, wL_at, if_neg (by omega)]; exact hw3 r h h1 h2 h3 h4
  · rw [e4, wL_at]
    by_cases z : h = k
    · rw [z, if_pos ⟨rfl, rfl⟩]
    · rw [if_neg (by omega)]; exact hw3' h h1 (by omega)
abbrev Sch (j k : Nat) : Prop := 229 ≤ j ∧ j ≤ 233
def CH (T : Nat → Int) (w : AW) : Prop := CHR T w (T 1).toNat ∧ CHM T w ∧ CHW T w
theorem CH.eq {T : Nat → Int} {w w' : AW} (h : CH T w) (hs : ∀ j k, 229 ≤ j → j ≤ 233 → w'.1 j k = w.1 j k ∧ w'.2.1 j k = w.2.1 j k) : CH T w' := by
  have f : ∀ j k, 229 ≤ j → j ≤ 233 → w'.1 j k = w.1 j k := fun j k h1 h2 => (hs j k h1 h2).1
  have g : ∀ j k, 229 ≤ j → j ≤ 233 → w'.2.1 j k = w.2.1 j k := fun j k h1 h2 => (hs j k h1 h2).2
  refine ⟨fun s h0 h1 => ?_, fun a b h1 h2 h3 h4 => ?_, fun r k h1 h2 h3 h4 => ?_⟩
  · rw [f 229 _ (by omega) (by omega)]
    refine ⟨(h.1 s h0 h1).1, fun i hi => ?_⟩
    rw [f 230 _ (by omega) (by omega), f 231 _ (by omega) (by omega)]
    exact (h.1 s h0 h1).2 i hi
  · rw [f 232 _ (by omega) (by omega)]
    exact h.2.1 a b h1 h2 h3 h4
  · rw [g 233 _ (by omega) (by omega)]
    exact h.2.2 r k h1 h2 h3 h4
theorem CH.fr {T : Nat → Int} {w w' : AW} {S : Nat → Nat → Prop} (h : CH T w) (hf : Fr S w w') (hs : ∀ j k, 229 ≤ j → j ≤ 233 → ¬ S j k) : CH T w' := h.eq (fun j k h1 h2 => hf.1 j k (hs j k h1 h2))
theorem cv_layOut {F : Nat} {w : AW} {j : Nat} {T : Nat → Int} {P : AW → Prop} (hF : FB F) (hj : isTw j) (hja : apart j) (hC : CA w j T) (hT : TK T) (hp : ∀ w', Fr Sch w w' → CH T w' → P w') : CV (m_X1_layOut F [vR 228, vR j] w) P := by
  refine wp_X1_layOut F j hj w _ (cv_layRoads hF hj hja hC hT (fun w1 f1 h1 => ?_))
  refine cv_layMinutes hF hj hja (hC.fr f1 (by intro a k h1 h2; simp only [Schr]; unfold apart at hja; omega)) hT (fun w2 f2 h2 => ?_)
  have f12 : Fr Sch w w2 := (f1.wk (by intro j k; simp only [Sch, Schr]; omega)).tr (f2.wk (by intro j k; simp only [Sch, Schm]; omega))
  refine cv_layWorths hF hj hja (hC.fr f12 (by intro a k h1 h2; simp only [Sch]; unfold apart at hja; omega)) hT (fun w3 f3 h3 => q_v (hp w3 (f12.tr (f3.wk (by intro j k; simp only [Sch, Schw]; omega))) ⟨?_, ?_, h3⟩))
  · intro s h0 h1'
    rw [f3.I 229 _ (by simp [Schw]), f2.I 229 _ (by simp [Schm])]
    refine ⟨(h1 s h0 h1').1, fun i hi => ?_⟩
    rw [f3.I 230 _ (by simp [Schw]), f2.I 230 _ (by simp [Schm]), f3.I 231 _ (by simp [Schw]), f2.I 231 _ (by simp [Schm])]
    exact (h1 s h0 h1').2 i hi
  · intro a b h1' h2' h3' h4'
    rw [f3.I 232 _ (by simp [Schw])]
    exact h2 a b h1' h2' h3' h4'
