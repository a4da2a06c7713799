/-! needs, the class -/
theorem bit_in {s : Int} {b : Int} (h1 : nB s) (hb : 0 ≤ b ∧ b < 31) : w32 (bAnd s (bShl 1 b)) = 0 ↔ ¬ tb s b.toNat = true := by
  have n2 := bShl_nB (k := b) hb.1 hb.2
  have n3 := (bAnd_eq h1 n2).2
  rw [w_id (x := bAnd s (bShl 1 b)) (by have := n3.1; omega) (by have := n3.2; omega)]
  constructor
  · intro z y
    have : tb (bAnd s (bShl 1 b)) b.toNat = true := by rw [tb_and h1 n2, y, tb_shl hb.1 hb.2]; simp
    rw [z, tb_0] at this
    cases this
  · intro z
    refine tb_ext n3.1 (Int.le_refl _) (fun k => ?_)
    rw [tb_and h1 n2, tb_shl hb.1 hb.2, tb_0]
    by_cases e : b.toNat = k
    · rw [← e]; simp [z]
    · simp [e]
theorem ci_etn {F : Nat} {j : Nat} {T : Nat → Int} {x : Int} {w : AW} {P : Int → AW → Prop} (hF : FB F) (hj : isTw j) (hT : TK T) (hC : CA w j T) (hx : 0 ≤ x ∧ x < 14) (h : P (nd T x) w) : CI (m_X8_errandsThatNeed F [vR j, vI x] w) P := by
  have a0 := hT.1
  have a2 := hT.2.2.1
  have a3 := hT.2.2.2.1
  refine wp_X8_errandsThatNeed F j hj x w _ ?_
  refine tt_for (K := k_X8_errandsThatNeed_4 F) (T 3) (fun i w' l => w' = w ∧ 0 ≤ i ∧ i ≤ T 3 ∧ ∃ u v z, l = [vR j, vI x, vI (bto (fun e => wR T (-1) e ∧ ¬ wR T x e) i.toNat), vI i, u, v, z]) ?_ F 0 _ w (by omega) ⟨rfl, by omega, by omega, vU, vU, vU, rfl⟩
  rintro n i l w2 ⟨rfl, hi0, hi1, u, v, z, rfl⟩ hk
  rw [ks_X8_errandsThatNeed_4]
  refine wp_X8_errandsThatNeed_4 F _ j hj x _ i u v z w2 _ ?_
  rw [hC.2.2.2.1, w_id (x := i) (by omega) (by omega), w_id (x := T 3) (by omega) (by omega)]
  refine ⟨fun q => ⟨⟨hi0, by omega⟩, ?_⟩, fun q => q_i (by rw [show i = T 3 from by omega]; exact h)⟩
  have her := hT.erra hi0 q
  have hpr := (hT.pers her.1.1 her.1.2).1
  obtain ⟨c1, c2, -⟩ := hC.erra hi0 q
  rw [c1, c2, (hC.pers her.1.1 her.1.2).1]
  have ew : ∀ y, wR T y i.toNat ↔ ∃ n m, Wk (Jt T y) n (pH T (eW T i)) (eP T i) m := fun y => by
    unfold wR
    rw [Int.toNat_of_nonneg hi0]
  have hb := bto_i (p := fun e => wR T (-1) e ∧ ¬ wR T x e) hi0 (by omega)
  have eb : (((eP T i).toNat : Nat) : Int) = eP T i := Int.toNat_of_nonneg her.2.1.1
  refine ⟨by omega, fun hm ehm => ⟨⟨hi0, by omega⟩, fun g eg => ?_⟩⟩
  rw [ehm]
  have keep : ¬ (wR T (-1) i.toNat ∧ ¬ wR T x i.toNat) → ∀ (b : Int) (z : Int), TT (k_X8_errandsThatNeed_79 F (k_X8_errandsThatNeed_4 F n) [vR j, vI x, vI (bto (fun e => wR T (-1) e ∧ ¬ wR T x e) i.toNat), vI i, vI b, vI g, vI z] [] w2) (qq 1 (fun r w => ∃ x, r = some (vI x) ∧ P x w)) := fun y b z => by
    refine wp_X8_errandsThatNeed_79 F _ j hj x _ i b g z w2 _ (hk _ _ ⟨rfl, by omega, by omega, vI b, vI g, vI z, ?_⟩ q)
    rw [hb.2 y]
  refine ci_reached hF hj hT hC hpr (by omega) (fun s n1 n2 n3 => ?_)
  have b1 := bit_in n1 (b := eP T i) (by omega)
  have n3' := n3 (eP T i).toNat
  rw [eb] at n3'
  rw [eg, b1]
  refine ⟨fun q2 => wp_X8_errandsThatNeed_53 F _ j hj x _ i _ _ z 0 w2 _ (br0 ?_), fun q2 => wp_X8_errandsThatNeed_53 F _ j hj x _ i _ _ z 1 w2 _ (br1 (ci_reached hF hj hT hC hpr (by omega) (fun s' m1 m2 m3 => ?_)))⟩
  · rw [← eg]
    exact keep (fun y => q2 (n3'.mpr ((ew (-1)).mp y.1))) _ _
  · have b2 := bit_in m1 (b := eP T i) (by omega)
    have m3' := m3 (eP T i).toNat
    rw [eb] at m3'
    have hy : wR T (-1) i.toNat := (ew (-1)).mpr (n3'.mp (Classical.byContradiction q2))
    rw [b2]
    refine ⟨fun q3 y ey => ?_, fun q3 => ?_⟩
    · refine wp_X8_errandsThatNeed_79 F _ j hj x y i _ _ 1 w2 _ (hk _ _ ⟨rfl, by omega, by omega, vI (pH T (eW T i)), vI (bShl 1 (eP T i)), vI 1, ?_⟩ q)
      rw [ey, hb.1 ⟨hy, fun z => q3 (m3'.mpr ((ew x).mp z))⟩]
    · rw [← eg]
      exact keep (fun y => y.2 ((ew x).mpr (m3'.mp (Classical.byContradiction q3)))) _ _
