/-! needs, the reference -/
theorem far_wR {T : Nat → Int} {x : Int} {w : AW} (h : FAR T x w) {a b : Int} (ha : 0 ≤ a ∧ a < T 0) (hb : 0 ≤ b ∧ b < T 0) : (w.1 22 (9 * a + b).toNat = 100000 ∧ ¬ ∃ n m, Wk (Jt T x) n a b m) ∨ (w.1 22 (9 * a + b).toNat ≤ 240 ∧ ∃ n m, Wk (Jt T x) n a b m) := by
  rcases h a b ha.1 ha.2 hb.1 hb.2 with ⟨h1, h2⟩ | ⟨h1, h2⟩
  · exact Or.inl ⟨h1, fun ⟨n, m, z⟩ => h2 n m z⟩
  · obtain ⟨n, hw⟩ := h1.1
    exact Or.inr ⟨h2, n, _, hw⟩
theorem ci_reachedR {F : Nat} {T : Nat → Int} {x : Int} {w : AW} {P : Int → AW → Prop} (hF : FB F) (hT : TK T) (hH : HA w T) (hx : -1 ≤ x ∧ x < 14) (h : ∀ w', Fr Sfar w w' → P (rch T x) w') : CI (m_X9_reached F [vR 0, vI x] w) P := by
  have a0 := hT.1
  have a2 := hT.2.2.1
  have a3 := hT.2.2.2.1
  refine wp_X9_reached F x w _ (cv_findFar hF hT hH hx (fun w1 f1 hFA => ?_))
  have hH1 : HA w1 T := hH.fr f1 (by intro j k; simp only [SHA, Sfar]; omega)
  have e25 : w1.1 0 25 = T 3 := hH1.2.2.2.2.1
  refine tt_for (K := k_X9_reached_9 F) (T 3) (fun i w' l => w' = w1 ∧ 0 ≤ i ∧ i ≤ T 3 ∧ l = [vR 0, vI x, vI (bto (wR T x) i.toNat), vI i]) ?_ F 0 _ w1 (by omega) ⟨rfl, by omega, by omega, rfl⟩
  rintro n i l w2 ⟨rfl, hi0, hi1, rfl⟩ hk
  rw [ks_X9_reached_9]
  refine wp_X9_reached_9 F _ x _ i w2 _ ?_
  rw [e25, w_id (x := i) (by omega) (by omega), w_id (x := T 3) (by omega) (by omega)]
  refine ⟨fun q => ci_eW hH1 hT hi0 q ⟨by have := (hT.erra hi0 q).1; omega, ci_eP hH1 hT hi0 q ?_⟩, fun q => q_i (by rw [show i = T 3 from by omega]; exact h w2 f1)⟩
  have her := hT.erra hi0 q
  have hpr := (hT.pers her.1.1 her.1.2).1
  rw [(hH1.pers her.1.1 her.1.2).2.2]
  have hf := far_wR hFA hpr her.2.1
  have hb := bto_i (p := wR T x) hi0 (by omega)
  have hnb := (bto_ok (p := wR T x) i.toNat (by omega)).1
  have ew : wR T x i.toNat ↔ ∃ n m, Wk (Jt T x) n (pH T (eW T i)) (eP T i) m := by
    unfold wR
    rw [Int.toNat_of_nonneg hi0]
  have hv : 0 ≤ w2.1 22 (9 * pH T (eW T i) + eP T i).toNat ∧ w2.1 22 (9 * pH T (eW T i) + eP T i).toNat ≤ 100000 := by
    rcases hFA _ _ hpr.1 hpr.2 her.2.1.1 her.2.1.2 with ⟨h1, -⟩ | ⟨h1, h2⟩
    · omega
    · have := Ds_nonneg (Jt_ok hT x) h1
      omega
  rw [w_id (x := w2.1 22 (9 * pH T (eW T i) + eP T i).toNat) (by omega) (by omega)]
  refine ⟨⟨by omega, by omega⟩, fun q2 => wp_X9_reached_57 F _ x _ i _ _ w2 _ (fun y ey => hk _ _ ⟨rfl, by omega, by omega, ?_⟩ q), fun q2 => wp_X9_reached_57 F _ x _ i _ _ w2 _ (fun y ey => hk _ _ ⟨rfl, by omega, by omega, ?_⟩ q)⟩
  · rcases hf with ⟨z, -⟩ | ⟨-, z⟩
    · omega
    · rw [ey, hb.1 (ew.mpr z)]
  · rcases hf with ⟨-, z⟩ | ⟨z, -⟩
    · rw [ey, bOr_0 hnb, hb.2 (fun y => z (ew.mp y))]
    · omega
