/-! THE CLASS'S HUNT -/
theorem ds240 {T : Nat → Int} (hT : TK T) {x a b m : Int} (ha0 : 0 ≤ a) (ha1 : a < T 0) (h : Ds (Jt T x) a b m) : 0 ≤ m ∧ m ≤ 240 := by
  have hJ := Jt_ok hT x
  have a0 := hT.1
  have hn := Ds_nonneg hJ h
  obtain ⟨⟨n, hw⟩, h2⟩ := id h
  have hb := Wk_in hJ n a b m hw ha0 (by omega)
  have hr := rnk_full (J := Jt T x) (N := (T 0).toNat) hb.1 hb.2 h
  have := Ds_bound hJ ha0 (by omega) (rnk (Jt T x) (T 0).toNat a m) b m h (Nat.le_refl _)
  exact ⟨hn, by omega⟩
/-- the minute ahead of which a road comes to be his -/
def hbf (T : Nat → Int) (o p : Int) : Int := if o = p ∨ T 4 = 3 ∨ (T 4 = 1 ∧ o ≠ -1) then 0 else if T 4 = 2 then T 5 else 1000000000
theorem hbf_cms {T : Nat → Int} (hT : TK T) {O : Nat → Int} {p r t : Int} (hr : 0 ≤ r) (ht : 0 ≤ t ∧ t < 1000000000) : t < hbf T (O r.toNat) p ↔ cms T (-1) O p r t := by
  have a4 := hT.2.2.2.2.1
  unfold hbf cms
  split
  · rename_i h
    constructor
    · intro z; omega
    · rintro ⟨z1, z2, z3⟩; omega
  · rename_i h
    split
    · constructor
      · intro z; exact ⟨by omega, by omega, by omega⟩
      · rintro ⟨z1, z2, z3⟩; omega
    · constructor
      · intro z; exact ⟨by omega, by omega, by omega⟩
      · intro z; omega
theorem hbf_b {T : Nat → Int} (hT : TK T) {o p : Int} : 0 ≤ hbf T o p ∧ hbf T o p ≤ 1000000000 := by
  have := hT.2.2.2.2.2.1
  unfold hbf
  split
  · omega
  · split <;> omega
def prc (T : Nat → Int) (O : Nat → Int) (p kind r : Int) : Int := if kind = 0 then rM T r * 1000000000000 else (rM T r * pC T p + pys T (-1) O p r) * 1000000000000
def hsv (T : Nat → Int) (O : Nat → Int) (p kind r : Int) : Int := if kind = 2 then hbf T (O r.toNat) p else 0
theorem cst_prc {T : Nat → Int} (hT : TK T) {O : Nat → Int} {p kind r t : Int} (hr : 0 ≤ r) (ht : 0 ≤ t ∧ t < 1000000000) : cst T (-1) O p kind r t = if t < hsv T O p kind r then prc T O p kind r - wrt T (-1) r (hrt t + 1) else prc T O p kind r := by
  unfold cst hsv prc
  by_cases k0 : kind = 0
  · have hz : ¬ t < (if kind = 2 then hbf T (O r.toNat) p else 0) := by rw [if_neg (by omega)]; omega
    rw [if_neg hz, if_pos k0, if_pos k0]
    exact Int.mul_comm _ _
  · rw [if_neg k0, if_neg k0]
    by_cases k2 : kind = 2
    · rw [if_pos k2]
      by_cases z : t < hbf T (O r.toNat) p
      · rw [if_pos z, ind_pos ⟨k2, (hbf_cms hT hr ht).mp z⟩, Int.mul_comm (1000000000000 : Int)]
        omega
      · rw [if_neg z, ind_neg (fun q => z ((hbf_cms hT hr ht).mpr q.2)), Int.mul_comm (1000000000000 : Int)]
        omega
    · rw [if_neg k2, if_neg (by omega), ind_neg (fun q => k2 q.1), Int.mul_comm (1000000000000 : Int)]
      omega
theorem prc_b {T : Nat → Int} (hT : TK T) {O : Nat → Int} {p kind r : Int} (h0 : 0 ≤ r) (h1 : r < T 1) (hp0 : 0 ≤ p) (hp1 : p < T 2) : 0 ≤ prc T O p kind r ∧ prc T O p kind r ≤ 400000000000000 := by
  have a := (hT.road h0 h1).2.2.2.1
  have b := mcb hT h0 h1 hp0 hp1
  have c := pys_b (fr := -1) (p := p) (O := O) hT h0 h1
  unfold prc
  split <;> omega
/-- the hunt has a town, whose roads are, one and his kind -/
def HX (j jo : Nat) (T : Nat → Int) (O : Nat → Int) (p kind : Int) (w : AW) : Prop := w.2.2.2.1 = j ∧ w.2.2.2.2 = jo ∧ CA w j T ∧ CH T w ∧ w.1 227 12 = p ∧ w.1 227 13 = kind ∧ ∀ r, 0 ≤ r → r < T 1 → w.1 jo r.toNat = O r.toNat
/-- cells that a hunt reads -/
abbrev SHX (j jo a k : Nat) : Prop := (j ≤ a ∧ a ≤ j + 13) ∨ a = jo ∨ (229 ≤ a ∧ a ≤ 233) ∨ (a = 227 ∧ (k = 12 ∨ k = 13))
theorem HX.fr {j jo : Nat} {T O : Nat → Int} {p kind : Int} {w w' : AW} {S : Nat → Nat → Prop} (h : HX j jo T O p kind w) (hf : Fr S w w') (hs : ∀ a k, SHX j jo a k → ¬ S a k) : HX j jo T O p kind w' := by
  obtain ⟨h1, h2, h3, h4, h5, h6, h7⟩ := h
  refine ⟨by rw [hf.2]; exact h1, by rw [hf.2]; exact h2, h3.fr hf (fun a k x y => hs a k (Or.inl ⟨x, y⟩)), h4.fr hf (fun a k x y => hs a k (Or.inr (Or.inr (Or.inl ⟨x, y⟩)))), ?_, ?_, fun r x y => ?_⟩
  · rw [hf.I 227 12 (hs 227 12 (by simp [SHX]))]; exact h5
  · rw [hf.I 227 13 (hs 227 13 (by simp [SHX]))]; exact h6
  · rw [hf.I jo _ (hs jo _ (by simp [SHX]))]; exact h7 r x y
theorem ci_toll {F : Nat} {j jo : Nat} {T O : Nat → Int} {p kind r : Int} {w : AW} {P : Int → AW → Prop} (hj : isTw j) (hjo : isI jo 14) (hX : HX j jo T O p kind w) (hT : TK T) (hO : OK T O) (hp : iR p) (h0 : 0 ≤ r) (h1 : r < T 1) (h : P (pys T (-1) O p r) w) : CI (m_X3_toll F [vR 227, vI r] w) P := by
  obtain ⟨e1, e2, e3, e4, e5, e6, e7⟩ := hX
  have a1 := hT.2.1
  have a2 := hT.2.2.1
  have o := hO r h0 h1
  refine wp_X3_toll F r w _ ?_
  rw [e2, e1, e5]
  refine ⟨hjo, ⟨h0, by omega⟩, fun x hx => ?_⟩
  rw [e7 r h0 h1] at hx
  subst hx
  unfold pys pny at h
  rw [w_id (x := O r.toNat) (by omega) (by omega), w_id hp.1 hp.2]
  refine ⟨fun q => wp_X3_toll_20 F _ _ _ _ (q_i (by rw [if_neg (by omega)] at h; exact h)), fun q => ⟨fun q2 => wp_X3_toll_20 F _ _ _ _ (q_i (by rw [if_neg (by omega)] at h; exact h)), fun q2 => ⟨hj, tw_a4 hj, ⟨h0, by omega⟩, q_i ?_⟩⟩⟩
  rw [if_pos ⟨q, q2⟩, if_neg (by omega)] at h
  rw [(e3.road h0 h1).2.2.2.1]
  exact h
theorem cl_mostWorth {F : Nat} {T : Nat → Int} {r t : Int} {w : AW} {P : Int → AW → Prop} (hF : FB F) (hC : CHW T w) (hT : TK T) (h0 : 0 ≤ r) (h1 : r < T 1) (ht : 0 ≤ t ∧ t ≤ 1000000) (hp : ∀ m, 0 ≤ m ∧ m ≤ 594000000000000 → (∀ h, t / 60 + 1 ≤ h → h < 6 → wrt T (-1) r h ≤ m) → P m w) : CL (m_X1_mostWorthBehind F [vR 228, vI r, vI t] w) P := by
  have a1 := hT.2.1
  refine wp_X1_mostWorthBehind F r t w _ (fun x1 hx1 => ?_)
  rw [w_id (x := t) (by omega) (by omega), td_nn 60 ht.1] at hx1
  subst hx1
  refine tt_for (K := k_X1_mostWorthBehind_10 F) 6 (fun i w' l => w' = w ∧ t / 60 + 1 ≤ i ∧ ∃ m v, l = [vR 228, vI r, vI t, vL m, vU, vI i, v, vU] ∧ (0 ≤ m ∧ m ≤ 594000000000000) ∧ (i ≤ 6 ∨ i = t / 60 + 1) ∧ ∀ h, t / 60 + 1 ≤ h → h < i → wrt T (-1) r h ≤ m) ?_ F (t / 60 + 1) _ w (by omega) ⟨rfl, by omega, 0, vU, rfl, by omega, by omega, fun h x y => by omega⟩
  rintro n i l w' ⟨rfl, hi0, m, v, rfl, hm, hi1, hw⟩ hk
  rw [ks_X1_mostWorthBehind_10]
  refine wp_X1_mostWorthBehind_10 F _ r t m i v w' _ ?_
  rw [w_id (x := i) (by omega) (by omega)]
  refine ⟨fun q => ⟨⟨by omega, by omega⟩, fun x2 hx2 => ?_⟩, fun q => q_l (hp m hm (fun h x y => hw h x (by omega)))⟩
  rw [hC r i h0 h1 (by omega) (by omega)] at hx2
  have hb := wrt_b (fr := -1) (h := i) hT h0 h1 (by omega) (by omega)
  rw [wl_id (x := m) (by omega) (by omega), wl_id (x := x2) (by omega) (by omega)]
  refine ⟨fun z => wp_X1_mostWorthBehind_41 F _ r t x2 i x2 w' _ (hk _ _ ⟨rfl, by omega, x2, _, rfl, by omega, by omega, fun h x y => ?_⟩ q), fun z => wp_X1_mostWorthBehind_41 F _ r t m i x2 w' _ (hk _ _ ⟨rfl, by omega, m, _, rfl, hm, by omega, fun h x y => ?_⟩ q)⟩
  · by_cases e : h = i
    · rw [e]; omega
    · have := hw h x (by omega); omega
  · by_cases e : h = i
    · rw [e]; omega
    · exact hw h x (by omega)
theorem ci_hisBefore {F : Nat} {j : Nat} {T : Nat → Int} {o p : Int} {w : AW} {P : Int → AW → Prop} (hj : isTw j) (hC : CA w j T) (hT : TK T) (ho : iR o) (hp : iR p) (h : P (hbf T o p) w) : CI (m_X7_hisBefore F [vR j, vI o, vI p] w) P := by
  have a4 := hT.2.2.2.2.1
  have e1 : w.1 j 17 = T 4 := hC.2.2.2.2.1
  have e2 : w.1 j 18 = T 5 := hC.2.2.2.2.2.1
  refine wp_X7_hisBefore F j hj o p w _ ?_
  rw [e1, w_id ho.1 ho.2, w_id hp.1 hp.2, w_id (x := T 4) (by omega) (by omega)]
  unfold hbf at h
  have fin : ¬ (o = p ∨ T 4 = 3 ∨ (T 4 = 1 ∧ o ≠ -1)) → TT (k_X7_hisBefore_28 F [vR j, vI o, vI p] [] w) (qq 1 (fun r w => ∃ x, r = some (vI x) ∧ P x w)) := by
    intro z
    rw [if_neg z] at h
    refine wp_X7_hisBefore_28 F j hj o p w _ ?_
    rw [e1, e2, w_id (x := T 4) (by omega) (by omega)]
    exact ⟨fun y => q_i (by rw [if_pos y] at h; exact h), fun y => q_i (by rw [if_neg y] at h; exact h)⟩
  refine ⟨fun q => q_i (by rw [if_pos (Or.inl q)] at h; exact h), fun q => ⟨fun q2 => q_i (by rw [if_pos (Or.inr (Or.inl q2))] at h; exact h), fun q2 => ⟨fun q3 => ⟨fun q4 => fin (by omega), fun q4 => q_i (by rw [if_pos (Or.inr (Or.inr ⟨q3, q4⟩))] at h; exact h)⟩, fun q3 => fin (by omega)⟩⟩⟩
/-- what weighing lays: prices, whose they come to be, hopes -/
def WG (T O : Nat → Int) (p kind : Int) (hp : Nat → Int) (w : AW) (n : Int) : Prop := ∀ r, 0 ≤ r → r < n → w.2.1 236 r.toNat = prc T O p kind r ∧ w.1 237 r.toNat = hsv T O p kind r ∧ w.2.1 238 r.toNat = hp r.toNat
/-- hopes are good enough from t0 on -/
def HG (T O : Nat → Int) (p kind t0 : Int) (hp : Nat → Int) : Prop := (∀ r, 0 ≤ hp r ∧ hp r ≤ 600000000000000) ∧ (kind ≠ 2 → ∀ r, hp r = 0) ∧ ∀ (r : Nat) (t : Int), (r : Int) < T 1 → t0 ≤ t → t ≤ 1000000 → -hp r ≤ cst T (-1) O p kind r t ∧ (kind ≠ 2 → (kind = 0 → cst T (-1) O p kind r t = 1000000000000 * rM T r) ∧ (pC T p * 1000000000000) * rM T r ≤ cst T (-1) O p kind r t ∨ kind = 0)
abbrev Swg (j k : Nat) : Prop := j = 236 ∨ j = 237 ∨ j = 238
theorem cl_weigh {F : Nat} {j jo : Nat} {T O : Nat → Int} {p kind t0 : Int} {w : AW} {P : Int → AW → Prop} (hF : FB F) (hj : isTw j) (hja : apart j) (hjo : isI jo 14) (hjo2 : jo = 222 ∨ jo = 255) (hX : HX j jo T O p kind w) (hT : TK T) (hO : OK T O) (hp0 : 0 ≤ p) (hp1 : p < T 2) (hk : 0 ≤ kind ∧ kind ≤ 2) (ht : 0 ≤ t0 ∧ t0 ≤ 1000000) (hP : ∀ w' hp, Fr Swg w w' → WG T O p kind hp w' (T 1) → (∀ r, 0 ≤ hp r ∧ hp r ≤ 600000000000000) → (kind ≠ 2 → ∀ r, hp r = 0) → (∀ (r : Nat) (t : Int), (r : Int) < T 1 → t0 ≤ t → t ≤ 1000000 → t < hsv T O p kind r → wrt T (-1) r (hrt t + 1) - prc T O p kind r ≤ hp r) → P (hsm hp [] (T 1).toNat) w') : CL (m_X3_weigh F [vR 227, vI t0] w) P := by
  have a1 := hT.2.1
  have a2 := hT.2.2.1
  refine wp_X3_weigh F t0 w _ ?_
  refine tt_for (K := k_X3_weigh_5 F) (T 1) (fun i w' l => Fr Swg w w' ∧ 0 ≤ i ∧ i ≤ T 1 ∧ ∃ s v5 v6 hp, l = [vR 227, vI t0, vL s, vU, vI i, v5, v6, vU] ∧ s = hsm hp [] i.toNat ∧ WG T O p kind hp w' i ∧ (∀ r, 0 ≤ hp r ∧ hp r ≤ 600000000000000) ∧ (kind ≠ 2 → ∀ r, hp r = 0) ∧ (∀ (r : Nat) (t : Int), (r : Int) < i → t0 ≤ t → t ≤ 1000000 → t < hsv T O p kind r → wrt T (-1) r (hrt t + 1) - prc T O p kind r ≤ hp r)) ?_ F 0 _ w (by omega) ⟨Fr.rf, by omega, by omega, 0, vU, vU, fun _ => 0, rfl, rfl, fun r x y => by omega, fun r => ⟨Int.le_refl 0, by show (0 : Int) ≤ 600000000000000; decide⟩, fun _ r => rfl, fun r t x => by omega⟩
  rintro n i l w1 ⟨f1, hi0, hi1, s, v5, v6, hp, rfl, hs, hW, hb, hz, hg⟩ hcont
  have hX1 : HX j jo T O p kind w1 := hX.fr f1 (by intro a k; simp only [SHX, Swg]; unfold apart at hja; omega)
  obtain ⟨e1, e2, e3, e4, e5, e6, e7⟩ := id hX1
  rw [ks_X3_weigh_5]
  refine wp_X3_weigh_5 F _ t0 s i v5 v6 w1 _ ?_
  rw [e1, e3.2.1, w_id (x := i) (by omega) (by omega), w_id (x := T 1) (by omega) (by omega)]
  refine ⟨hj, fun q => ⟨tw_a3 hj, ⟨hi0, by omega⟩, fun x2 hx2 => ⟨⟨hi0, by omega⟩, fun w4 e4' => ?_⟩⟩, fun q => q_l ?_⟩
  · have hr := hT.road hi0 q
    have ho := hO i hi0 q
    rw [(e3.road hi0 q).2.2.1] at hx2
    subst hx2
    have f4 : Fr Swg w w4 := by rw [e4']; exact f1.wL _ (by simp [Swg])
    have hX4 : HX j jo T O p kind w4 := hX.fr f4 (by intro a k; simp only [SHX, Swg]; unfold apart at hja; omega)
    obtain ⟨g1, g2, g3, g4, g5, g6, g7⟩ := id hX4
    have hmc := mcb hT hi0 q hp0 hp1
    have hpy := pys_b (fr := -1) (p := p) (O := O) hT hi0 q
    have hpr := prc_b (kind := kind) (O := O) hT hi0 q hp0 hp1
    have hhb : 0 ≤ hsv T O p kind i ∧ hsv T O p kind i ≤ 1000000000 := by
      unfold hsv
      have := hbf_b hT (o := O i.toNat) (p := p)
      split <;> omega
    -- the price is laid: go on
    have step : ∀ (wz : AW), Fr Swg w wz → (∀ r, 0 ≤ r → r < i → wz.2.1 236 r.toNat = prc T O p kind r ∧ wz.1 237 r.toNat = hsv T O p kind r ∧ wz.2.1 238 r.toNat = hp r.toNat) → wz.2.1 236 i.toNat = prc T O p kind i → wz.2.1 238 i.toNat = 0 → TT (k_X3_weigh_95 F (k_X3_weigh_5 F n) [vR 227, vI t0, vL s, vU, vI i, vI (rM T i), v6, vU] [] wz) (qq 4 (fun r w => ∃ x, r = some (vL x) ∧ P x w)) := by
      intro wz fz hold hprice hhope
      have hXz : HX j jo T O p kind wz := hX.fr fz (by intro a k; simp only [SHX, Swg]; unfold apart at hja; omega)
      obtain ⟨z1, z2, z3, z4, z5, z6, z7⟩ := id hXz
      have fin : ∀ (wy : AW) (h' : Int) (v : AV), Fr Swg w wy → (∀ r, 0 ≤ r → r < i → wy.2.1 236 r.toNat = prc T O p kind r ∧ wy.1 237 r.toNat = hsv T O p kind r ∧ wy.2.1 238 r.toNat = hp r.toNat) → wy.2.1 236 i.toNat = prc T O p kind i → wy.1 237 i.toNat = hsv T O p kind i → wy.2.1 238 i.toNat = h' → (0 ≤ h' ∧ h' ≤ 600000000000000) → (kind ≠ 2 → h' = 0) → (∀ t, t0 ≤ t → t ≤ 1000000 → t < hsv T O p kind i → wrt T (-1) i (hrt t + 1) - prc T O p kind i ≤ h') → TT (k_X3_weigh_176 F (k_X3_weigh_5 F n) [vR 227, vI t0, vL s, vU, vI i, vI (rM T i), v, vU] [] wy) (qq 4 (fun r w => ∃ x, r = some (vL x) ∧ P x w)) := by
        intro wy h' v fy hold' hp' hs' hh' hb' hk' hg'
        refine wp_X3_weigh_176 F _ t0 s i (rM T i) v wy _ ⟨⟨hi0, by omega⟩, fun x1 hx1 => hcont _ _ ⟨fy, by omega, by omega, x1, _, v, fun r => if r = i.toNat then h' else hp r, rfl, ?_, fun r x y => ?_, fun r => ?_, fun z r => ?_, fun r t x y u v => ?_⟩ q⟩
        · rw [hx1, hh', hs, show (i + 1).toNat = i.toNat + 1 from by omega]
          have same : ∀ m, m ≤ i.toNat → hsm (fun r => if r = i.toNat then h' else hp r) [] m = hsm hp [] m := by
            intro m
            induction m with
            | zero => intro _; rfl
            | succ m ih =>
              intro hm
              unfold hsm
              rw [ih (by omega), if_neg (by omega)]
          show _ = hsm (fun r => if r = i.toNat then h' else hp r) [] i.toNat + (ind (i.toNat ∉ ([] : List Nat)) : Int) * (if i.toNat = i.toNat then h' else hp i.toNat)
          rw [same _ (Nat.le_refl _), ind_pos (by simp), if_pos rfl]
          omega
        · by_cases e : r = i
          · rw [e]
            refine ⟨hp', hs', ?_⟩
            show _ = (if i.toNat = i.toNat then h' else hp i.toNat)
            rw [if_pos rfl]; exact hh'
          · obtain ⟨o1, o2, o3⟩ := hold' r x (by omega)
            refine ⟨o1, o2, ?_⟩
            show _ = (if r.toNat = i.toNat then h' else hp r.toNat)
            rw [if_neg (by omega)]; exact o3
        · show 0 ≤ (if r = i.toNat then h' else hp r) ∧ (if r = i.toNat then h' else hp r) ≤ 600000000000000
          split
          · exact hb'
          · exact hb r
        · show (if r = i.toNat then h' else hp r) = 0
          split
          · exact hk' z
          · exact hz z r
        · show _ ≤ (if r = i.toNat then h' else hp r)
          by_cases e : r = i.toNat
          · rw [if_pos e]
            have e2 : (r : Int) = i := by omega
            rw [e2] at v ⊢
            exact hg' t y u v
          · rw [if_neg e]; exact hg r t (by omega) y u v
      have hs131 : TT (k_X3_weigh_131 F (k_X3_weigh_5 F n) [vR 227, vI t0, vL s, vU, vI i, vI (rM T i), v6, vU] [vI (hsv T O p kind i), vI i, vR 237] wz) (qq 4 (fun r w => ∃ x, r = some (vL x) ∧ P x w)) := by
        refine wp_X3_weigh_131 F _ t0 s i (rM T i) v6 (hsv T O p kind i) i wz _ ⟨⟨hi0, by omega⟩, fun wy ey => ⟨⟨hi0, by omega⟩, ?_⟩⟩
        have fy : Fr Swg w wy := by rw [ey]; exact fz.wI _ (by simp [Swg])
        have y37 : wy.1 237 i.toNat = hsv T O p kind i := by rw [ey, wI_same]
        have yold : ∀ r, 0 ≤ r → r < i → wy.2.1 236 r.toNat = prc T O p kind r ∧ wy.1 237 r.toNat = hsv T O p kind r ∧ wy.2.1 238 r.toNat = hp r.toNat := by
          intro r x y
          rw [ey, wI_L, wI_idx _ _ _ _ (by omega)]
          exact hold r x y
        have y36 : wy.2.1 236 i.toNat = prc T O p kind i := by rw [ey, wI_L]; exact hprice
        have y38 : wy.2.1 238 i.toNat = 0 := by rw [ey, wI_L]; exact hhope
        rw [y37, w_id (x := t0) (by omega) (by omega), w_id (x := hsv T O p kind i) (by omega) (by omega)]
        refine ⟨fun z => cl_mostWorth hF (hX.fr fy (by intro a k; simp only [SHX, Swg]; unfold apart at hja; omega)).2.2.2.1.2.2 hT hi0 q ht (fun m hm hmw => ⟨⟨hi0, by omega⟩, fun x7 hx7 => ⟨⟨hi0, by omega⟩, fun wx ex => ?_⟩⟩), fun z => fin wy 0 v6 fy yold y36 y37 y38 (by omega) (fun _ => rfl) (fun t u1 u2 u3 => by omega)⟩
        rw [y36] at hx7
        have k2 : kind = 2 := by
          by_cases k2 : kind = 2
          · exact k2
          · unfold hsv at z; rw [if_neg k2] at z; omega
        rw [w_id (x := 0) (by decide) (by decide) |> fun _ => wl_id (x := 0) (by decide) (by decide), wl_id (x := x7) (by omega) (by omega)] at ex
        refine fin wx (if 0 < x7 then x7 else 0) _ (by rw [ex]; exact fy.wL _ (by simp [Swg])) (fun r x y => ?_) ?_ ?_ ?_ ?_ (fun u => absurd k2 u) (fun t u1 u2 u3 => ?_)
        · rw [ex, wL_I, wL_at, if_neg (by omega), wL_at, if_neg (by omega)]; exact yold r x y
        · rw [ex, wL_at, if_neg (by omega)]; exact y36
        · rw [ex, wL_I]; exact y37
        · rw [ex, wL_at, if_pos ⟨rfl, rfl⟩]
        · split <;> omega
        · have hh : 0 ≤ hrt t ∧ hrt t ≤ 5 := by unfold hrt; split <;> omega
          by_cases h6 : hrt t + 1 < 6
          · have hge : t0 / 60 + 1 ≤ hrt t + 1 := by
              have hq : hrt t = t / 60 := by
                unfold hrt at h6 ⊢
                by_cases u : t / 60 < 5
                · rw [if_pos u]
                · rw [if_neg u] at h6; omega
              omega
            have := hmw (hrt t + 1) hge h6
            split <;> omega
          · have h6' : hrt t + 1 = 6 := by omega
            rw [h6']
            have : wrt T (-1) i 6 = 0 := by unfold wrt; split <;> rfl
            rw [this]
            split <;> omega
      refine wp_X3_weigh_95 F _ t0 s i (rM T i) v6 wz _ ?_
      rw [z6, z2, z1, z5, w_id (x := kind) (by omega) (by omega)]
      refine ⟨fun z => ⟨hjo, ⟨hi0, by omega⟩, hj, ?_⟩, fun z => ?_⟩
      · rw [z7 i hi0 q]
        refine ci_hisBefore hj z3 hT ⟨by omega, by omega⟩ ⟨by omega, by omega⟩ ?_
        have : hsv T O p kind i = hbf T (O i.toNat) p := by unfold hsv; rw [if_pos z]
        rw [← this]
        exact hs131
      · have : hsv T O p kind i = 0 := by unfold hsv; rw [if_neg z]
        rw [← this]
        exact hs131
    have hold4 : ∀ r, 0 ≤ r → r < i → w4.2.1 236 r.toNat = prc T O p kind r ∧ w4.1 237 r.toNat = hsv T O p kind r ∧ w4.2.1 238 r.toNat = hp r.toNat := by
      intro r x y
      rw [e4', wL_I, wL_at, if_neg (by omega), wL_at, if_neg (by omega)]
      exact hW r x y
    rw [g6, w_id (x := kind) (by omega) (by omega)]
    refine ⟨fun z => ⟨⟨hi0, by omega⟩, fun w7 e7' => step w7 (by rw [e7']; exact f4.wL _ (by simp [Swg])) (fun r x y => ?_) ?_ ?_⟩, fun z => ?_⟩
    · rw [e7', wL_I, wL_at, if_neg (by omega), wL_at, if_neg (by omega)]; exact hold4 r x y
    · rw [e7', wL_at, if_pos ⟨rfl, rfl⟩, w_id (x := rM T i) (by omega) (by omega)]
      unfold prc; rw [if_pos z]
    · rw [e7', wL_at, if_neg (by omega), e4', wL_at, if_pos ⟨rfl, rfl⟩]
    · rw [g1, g5, (g3.pers hp0 hp1).2.1]
      refine ⟨hj, tw_a8 hj, ⟨hp0, by omega⟩, ci_toll hj hjo hX4 hT hO ⟨by omega, by omega⟩ hi0 q ⟨⟨hi0, by omega⟩, fun w7 e7' => step w7 (by rw [e7']; exact f4.wL _ (by simp [Swg])) (fun r x y => ?_) ?_ ?_⟩⟩
      · rw [e7', wL_I, wL_at, if_neg (by omega), wL_at, if_neg (by omega)]; exact hold4 r x y
      · rw [e7', wL_at, if_pos ⟨rfl, rfl⟩, w_id (by omega) (by omega)]
        unfold prc; rw [if_neg z]
      · rw [e7', wL_at, if_neg (by omega), e4', wL_at, if_pos ⟨rfl, rfl⟩]
  · have e : i = T 1 := by omega
    subst e
    rw [hs]
    exact hP w1 hp f1 hW hb hz hg
theorem cl_cost {F : Nat} {T O : Nat → Int} {p kind r t : Int} {hp : Nat → Int} {w : AW} {P : Int → AW → Prop} (hW : WG T O p kind hp w (T 1)) (hC : CHW T w) (hT : TK T) (h0 : 0 ≤ r) (h1 : r < T 1) (hp0 : 0 ≤ p) (hp1 : p < T 2) (ht : 0 ≤ t ∧ t ≤ 1000000) (h : P (cst T (-1) O p kind r t) w) : CL (m_X3_costOf F [vR 227, vI r, vI t] w) P := by
  have a1 := hT.2.1
  obtain ⟨w1, w2, w3⟩ := hW r h0 h1
  have hhb : 0 ≤ hsv T O p kind r ∧ hsv T O p kind r ≤ 1000000000 := by
    unfold hsv
    have := hbf_b hT (o := O r.toNat) (p := p)
    split <;> omega
  rw [cst_prc hT h0 ⟨ht.1, by omega⟩] at h
  have fin : ∀ hh, hh = hrt t + 1 → t < hsv T O p kind r → TT (k_X3_costOf_35 F [vR 227, vI r, vI t, vU] [vI hh] w) (qq 4 (fun r w => ∃ x, r = some (vL x) ∧ P x w)) := by
    intro hh e z
    have hb : 0 ≤ hrt t ∧ hrt t ≤ 5 := by unfold hrt; split <;> omega
    refine wp_X3_costOf_35 F r t hh w _ ⟨⟨h0, by omega⟩, ⟨by omega, by omega⟩, q_l ?_⟩
    rw [if_pos z] at h
    rw [w1, hC r hh h0 h1 (by omega) (by omega), e]
    exact h
  refine wp_X3_costOf F r t w _ ?_
  rw [w2, w_id (x := t) (by omega) (by omega), w_id (x := hsv T O p kind r) (by omega) (by omega), td_nn 60 ht.1]
  refine ⟨⟨h0, by omega⟩, fun z => ⟨fun q => fin _ (by unfold hrt; split <;> omega) z, fun q => fin _ (by unfold hrt; split <;> omega) z⟩, fun z => ⟨⟨h0, by omega⟩, q_l ?_⟩⟩
  rw [if_neg z] at h
  rw [w1]
  exact h
/-- the best so far, as the class keeps it -/
def BC (w : AW) (K : Int) : Option Cd → Prop
  | none => w.1 227 2 = 0 ∧ w.2.1 227 4 = K
  | some x => x.2.2 ≠ [] ∧ w.1 227 2 = x.2.2.length ∧ w.1 227 3 = x.2.1 ∧ w.2.1 227 4 = x.1 ∧ ∀ i, i < x.2.2.length → w.1 234 i = (x.2.2.getD i 0 : Nat)
theorem BC.bnd {w : AW} {K : Int} {acc : Option Cd} (h : BC w K acc) : w.2.1 227 4 = bnd K acc := by
  cases acc with
  | none => exact h.2
  | some x => exact h.2.2.2.1
theorem BC.fr {w w' : AW} {K : Int} {acc : Option Cd} {S : Nat → Nat → Prop} (h : BC w K acc) (hf : Fr S w w') (h1 : ¬ S 227 2) (h2 : ¬ S 227 3) (h3 : ¬ S 227 4) (h4 : ∀ k, ¬ S 234 k) : BC w' K acc := by
  cases acc with
  | none => exact ⟨by rw [hf.I 227 2 h1]; exact h.1, by rw [hf.L 227 4 h3]; exact h.2⟩
  | some x => exact ⟨h.1, by rw [hf.I 227 2 h1]; exact h.2.1, by rw [hf.I 227 3 h2]; exact h.2.2.1, by rw [hf.L 227 4 h3]; exact h.2.2.2.1, fun i hi => by rw [hf.I 234 i (h4 i)]; exact h.2.2.2.2 i hi⟩
abbrev Soff (j k : Nat) : Prop := j = 234 ∨ (j = 227 ∧ (k = 2 ∨ k = 3 ∨ k = 4))
theorem cv_offer {F : Nat} {w : AW} {K : Int} {acc : Option Cd} {x : Cd} {n : Int} {P : AW → Prop} (hF : FB F) (hacc : BC w K acc) (hab : AB acc) (hn : n = x.2.2.length) (hx0 : x.2.2 ≠ []) (hx1 : n ≤ 9) (hx2 : -10000000000000000 ≤ x.1 ∧ x.1 ≤ 10000000000000000) (hst : ∀ i, i < x.2.2.length → w.1 235 i = (x.2.2.getD i 0 : Nat)) (hp : ∀ w', Fr Soff w w' → BC w' K (kp acc x) → P w') : CV (m_X3_offer F [vR 227, vI n, vI x.2.1, vL x.1] w) P := by
  have hlen : 0 < x.2.2.length := List.length_pos_iff.mpr hx0
  have put : kp acc x = some x → TT (k_X3_offer_33 F [vR 227, vI n, vI x.2.1, vL x.1, vU, vU] [] w) (qq 0 (fun r w => r = none ∧ P w)) := by
    intro hk
    refine wp_X3_offer_33 F n x.2.1 x.1 w _ (fun w1 e1 w2 e2 w3 e3 => ?_)
    have f3 : Fr Soff w w3 := by rw [e3, e2, e1]; exact ((Fr.rf.wI _ (by simp [Soff])).wL _ (by simp [Soff])).wI _ (by simp [Soff])
    refine tt_for (K := k_X3_offer_51 F) n (fun i w' l => Fr (fun j k => j = 234) w3 w' ∧ l = [vR 227, vI n, vI x.2.1, vL x.1, vU, vI i] ∧ 0 ≤ i ∧ i ≤ n ∧ ∀ q, q < i.toNat → w'.1 234 q = (x.2.2.getD q 0 : Nat)) ?_ F 0 _ w3 (by omega) ⟨Fr.rf, rfl, by omega, by omega, fun q hq => by omega⟩
    rintro m i l w' ⟨ff, rfl, hi0, hi1, hw⟩ hk2
    rw [ks_X3_offer_51]
    refine wp_X3_offer_51 F _ n x.2.1 x.1 i w' _ ?_
    rw [w_id (x := i) (by omega) (by omega), w_id (x := n) (by omega) (by omega)]
    refine ⟨fun q => ⟨⟨hi0, by omega⟩, ⟨hi0, by omega⟩, fun w4 e4 => hk2 _ _ ⟨by rw [e4]; exact ff.wI _ rfl, rfl, by omega, by omega, fun z hz => ?_⟩ q⟩, fun q => q_v (hp w' (f3.tr (ff.wk (by intro j k; simp only [Soff]; omega))) ?_)⟩
    · rw [e4, wI_at]
      by_cases e : z = i.toNat
      · rw [if_pos ⟨rfl, e⟩, e, ff.I 235 _ (by simp), f3.I 235 _ (by simp [Soff])]
        exact hst _ (by omega)
      · rw [if_neg (fun y => e y.2)]
        exact hw z (by omega)
    · rw [hk]
      refine ⟨hx0, ?_, ?_, ?_, fun z hz => hw z (by omega)⟩
      · rw [ff.I 227 2 (by simp), e3, wI_idx _ _ _ _ (by decide), e2, wL_I, e1, wI_same, hn]
      · rw [ff.I 227 3 (by simp), e3, wI_same]
      · rw [ff.L 227 4 (by simp), e3, wI_L, e2, wL_at, if_pos ⟨rfl, rfl⟩]
  have no : kp acc x = acc → qq 0 (fun r w => r = none ∧ P w) none w := fun hk => q_v (hp w Fr.rf (by rw [hk]; exact hacc))
  refine wp_X3_offer F n x.2.1 x.1 w _ ?_
  cases acc with
  | none =>
    have h46 : w.1 227 2 = 0 := hacc.1
    rw [h46]
    exact br0 (put rfl)
  | some y =>
    obtain ⟨y1, y2, y3, y4, y5⟩ := hacc
    obtain ⟨b1, b2, b3⟩ := hab y rfl
    have hy : 0 < y.2.2.length := List.length_pos_iff.mpr y1
    rw [y2, y4, w_id (x := (y.2.2.length : Int)) (by omega) (by omega), wl_id (x := x.1) (by omega) (by omega), wl_id (x := y.1) (by omega) (by omega), w_id (x := n) (by omega) (by omega)]
    refine ⟨fun q => by omega, fun _ => ⟨fun q => put (kp_pos (Or.inl q)), fun q => ⟨fun q2 => ⟨fun q3 => put (kp_pos (Or.inr ⟨q2, by omega⟩)), fun q3 => no (kp_neg (fun z => ?_))⟩, fun q2 => no (kp_neg (fun z => ?_))⟩⟩⟩
    · rcases z with z | z <;> omega
    · rcases z with z | z <;> omega
