/-! worths and costs in the reference -/
abbrev FB (F : Nat) : Prop := 1000000000000000 ≤ F
theorem mul_b {a b A B : Int} (ha : 0 ≤ a ∧ a ≤ A) (hb : 0 ≤ b ∧ b ≤ B) : 0 ≤ a * b ∧ a * b ≤ A * B := ⟨Int.mul_nonneg ha.1 hb.1, Int.mul_le_mul ha.2 hb.2 hb.1 (Int.le_trans ha.1 ha.2)⟩
theorem td_nn {a : Int} (b : Int) (h : 0 ≤ a) : Int.tdiv a b = a / b := Int.tdiv_eq_ediv_of_nonneg h
theorem wstep_b {T : Nat → Int} (hT : TK T) {r h W : Int} (h0 : 0 ≤ r) (h1 : r < T 1) (hh0 : 0 ≤ h) (hh1 : h < 6) (hW : 0 ≤ W ∧ W ≤ 1000000000000) : (0 ≤ W / 100 * (100 - rC T r h) ∧ W / 100 * (100 - rC T r h) ≤ 1000000000000) ∧ ∀ fr, 0 ≤ W / 100 * rC T r h * pny T fr r ∧ W / 100 * rC T r h * pny T fr r ≤ 99000000000000 := by
  have hc := (hT.road h0 h1).2.2.2.2.2.2 h hh0 hh1
  have a1 : 0 ≤ W / 100 ∧ W / 100 ≤ 10000000000 := by omega
  have a2 := mul_b (B := 100) a1 (b := 100 - rC T r h) (by omega)
  refine ⟨⟨a2.1, by omega⟩, fun fr => ?_⟩
  have a3 := mul_b a1 hc
  have a4 := mul_b a3 (pny_b (fr := fr) hT h0 h1)
  exact ⟨a4.1, by omega⟩
theorem wlp_b {T : Nat → Int} (hT : TK T) {fr r : Int} (h0 : 0 ≤ r) (h1 : r < T 1) : ∀ (n : Nat) (h W s : Int), 0 ≤ h → h + n ≤ 6 → 0 ≤ W ∧ W ≤ 1000000000000 → s ≤ wlp T fr r n h W s ∧ wlp T fr r n h W s ≤ s + n * 99000000000000
  | 0, h, W, s, _, _, _ => by
    show s ≤ s ∧ s ≤ s + ((0 : Nat) : Int) * 99000000000000
    omega
  | n + 1, h, W, s, a, b, c => by
    have hb := wstep_b hT h0 h1 a (by omega) c
    have hb2 := hb.2 fr
    have := wlp_b hT (fr := fr) h0 h1 n (h + 1) (if T 4 = 0 ∨ (T 4 = 2 ∧ 60 * h < T 5) then W / 100 * (100 - rC T r h) else W) (s + W / 100 * rC T r h * pny T fr r) (by omega) (by omega) (by split <;> first | exact hb.1 | exact c)
    show s ≤ wlp T fr r n (h + 1) _ _ ∧ wlp T fr r n (h + 1) _ _ ≤ _
    omega
theorem wrt_b {T : Nat → Int} (hT : TK T) {fr r h : Int} (h0 : 0 ≤ r) (h1 : r < T 1) (hh0 : 0 ≤ h) (hh1 : h ≤ 6) : 0 ≤ wrt T fr r h ∧ wrt T fr r h ≤ 594000000000000 := by
  unfold wrt
  split
  · omega
  · have := wlp_b hT (fr := fr) h0 h1 (6 - h).toNat h 1000000000000 0 hh0 (by omega) (by omega)
    omega
theorem cl_worthBy {F : Nat} {fr r h : Int} {w : AW} {T : Nat → Int} {P : Int → AW → Prop} (hF : FB F) (hH : HA w T) (hT : TK T) (hf : w.1 0 28 = fr) (hfr : -1 ≤ fr ∧ fr < 14) (h0 : 0 ≤ r) (h1 : r < T 1) (hh0 : 0 ≤ h) (hh1 : h ≤ 6) (hp : P (wrt T fr r h) w) : CL (m_X9_worthBy F [vR 0, vI r, vI h] w) P := by
  have a1 := hT.2.1
  have a4 := hT.2.2.2.2.1
  have a5 := hT.2.2.2.2.2.1
  have e1 : w.1 0 26 = T 4 := hH.2.2.2.2.2.1
  have e2 : w.1 0 27 = T 5 := hH.2.2.2.2.2.2.1
  refine wp_X9_worthBy F r h w _ ?_
  refine tt_for (K := k_X9_worthBy_10 F) 6 (fun i w' l => w' = w ∧ ∃ W s v, l = [vR 0, vI r, vI h, vL W, vU, vL s, vU, vI i, v] ∧ (0 ≤ W ∧ W ≤ 1000000000000) ∧ h ≤ i ∧ i ≤ 6 ∧ (T 4 = 3 → s = wrt T fr r h) ∧ (T 4 ≠ 3 → wlp T fr r (6 - i).toNat i W s = wrt T fr r h)) ?_ F h _ w (by omega) ⟨rfl, 1000000000000, 0, vU, rfl, by omega, by omega, by omega, fun q => by unfold wrt; rw [if_pos q], fun q => by unfold wrt; rw [if_neg q]⟩
  rintro n i l w' ⟨rfl, W, s, v, rfl, hW, hi0, hi1, hs1, hs2⟩ hk
  rw [ks_X9_worthBy_10]
  refine wp_X9_worthBy_10 F _ r h W s i v w' _ ?_
  rw [e1, w_id (x := i) (by omega) (by omega), w_id (x := T 4) (by omega) (by omega)]
  refine ⟨fun q => ⟨fun q2 => q_l (by rw [hs1 q2]; exact hp), fun q2 => ci_rC hH hT h0 h1 (by omega) q (ci_penny hH hT hf hfr h0 h1 ?_)⟩, fun q => ?_⟩
  · rw [e1, e2, w_id (x := T 4) (by omega) (by omega), w_id (x := 60 * i) (by omega) (by omega), w_id (x := T 5) (by omega) (by omega), wl_id (x := W) (by omega) (by omega), td_nn 100 hW.1]
    intro x9 hx9
    have hc := (hT.road h0 h1).2.2.2.2.2.2 i (by omega) q
    have hpn := pny_b (fr := fr) hT h0 h1
    have hb := wstep_b hT h0 h1 (show 0 ≤ i by omega) q hW
    rw [w_id (x := rC T r i) (by omega) (by omega), w_id (x := pny T fr r) (by omega) (by omega)] at hx9
    have hun : wlp T fr r (6 - i).toNat i W s = wlp T fr r (6 - (i + 1)).toNat (i + 1) (if T 4 = 0 ∨ (T 4 = 2 ∧ 60 * i < T 5) then W / 100 * (100 - rC T r i) else W) (s + W / 100 * rC T r i * pny T fr r) := by
      rw [show (6 - i).toNat = (6 - (i + 1)).toNat + 1 from by omega]
      rfl
    have hyes : (T 4 = 0 ∨ (T 4 = 2 ∧ 60 * i < T 5)) → TT (k_X9_worthBy_84 F (k_X9_worthBy_10 F n) [vR 0, vI r, vI h, vL W, vU, vL x9, vU, vI i, vI (rC T r i)] [] w') (qq 4 (fun r w => ∃ x, r = some (vL x) ∧ P x w)) := by
      intro z
      refine wp_X9_worthBy_84 F _ r h W x9 i (rC T r i) w' _ (fun x1 hx1 => ?_)
      rw [wl_id (x := W) (by omega) (by omega), td_nn 100 hW.1, w_id (x := 100 - rC T r i) (by omega) (by omega)] at hx1
      refine wp_X9_worthBy_97 F _ r h x1 x9 i (rC T r i) w' _ ?_
      refine hk _ _ ⟨rfl, x1, x9, vI (rC T r i), rfl, by rw [hx1]; exact hb.1, by omega, by omega, fun z2 => absurd z2 q2, fun z2 => ?_⟩ q
      rw [← hs2 q2, hun, if_pos z, hx1, hx9]
    have hno : ¬ (T 4 = 0 ∨ (T 4 = 2 ∧ 60 * i < T 5)) → TT (k_X9_worthBy_97 F (k_X9_worthBy_10 F n) [vR 0, vI r, vI h, vL W, vU, vL x9, vU, vI i, vI (rC T r i)] [] w') (qq 4 (fun r w => ∃ x, r = some (vL x) ∧ P x w)) := by
      intro z
      refine wp_X9_worthBy_97 F _ r h W x9 i (rC T r i) w' _ ?_
      refine hk _ _ ⟨rfl, W, x9, vI (rC T r i), rfl, hW, by omega, by omega, fun z2 => absurd z2 q2, fun z2 => ?_⟩ q
      rw [← hs2 q2, hun, if_neg z, hx9]
    exact ⟨fun z => hyes (Or.inl z), fun z => ⟨fun z2 => ⟨fun z3 => hyes (Or.inr ⟨z2, z3⟩), fun z3 => hno (by omega)⟩, fun z2 => hno (by omega)⟩⟩
  · have e : i = 6 := by omega
    subst e
    refine q_l ?_
    by_cases z : T 4 = 3
    · rw [hs1 z]; exact hp
    · have := hs2 z
      rw [← this] at hp
      exact hp
/-! costs -/
def hrt (t : Int) : Int := if t / 60 < 5 then t / 60 else 5
noncomputable def cst (T : Nat → Int) (fr : Int) (O : Nat → Int) (p kind : Int) (r t : Int) : Int := if kind = 0 then 1000000000000 * rM T r else 1000000000000 * (rM T r * pC T p + pys T fr O p r) - (ind (kind = 2 ∧ cms T fr O p r t) : Int) * wrt T fr r (hrt t + 1)
theorem pys_b {T : Nat → Int} {fr p r : Int} {O : Nat → Int} (hT : TK T) (h0 : 0 ≤ r) (h1 : r < T 1) : 0 ≤ pys T fr O p r ∧ pys T fr O p r ≤ 99 := by
  have := pny_b (fr := fr) hT h0 h1
  unfold pys
  split <;> omega
theorem mcb {T : Nat → Int} {p r : Int} (hT : TK T) (h0 : 0 ≤ r) (h1 : r < T 1) (hp0 : 0 ≤ p) (hp1 : p < T 2) : 0 ≤ rM T r * pC T p ∧ rM T r * pC T p ≤ 270 := by
  have a := (hT.road h0 h1).2.2.2.1
  have b := (hT.pers hp0 hp1).2.1
  have := mul_b (a := rM T r) (A := 30) (b := pC T p) (B := 9) (by omega) b
  omega
theorem cst_b {T : Nat → Int} {fr p kind r t : Int} {O : Nat → Int} (hT : TK T) (h0 : 0 ≤ r) (h1 : r < T 1) (hp0 : 0 ≤ p) (hp1 : p < T 2) (ht : 0 ≤ t) : -1000000000000000 ≤ cst T fr O p kind r t ∧ cst T fr O p kind r t ≤ 1000000000000000 := by
  have a := (hT.road h0 h1).2.2.2.1
  have b := mcb hT h0 h1 hp0 hp1
  have c := pys_b (fr := fr) (p := p) (O := O) hT h0 h1
  have d : 0 ≤ hrt t ∧ hrt t ≤ 5 := by unfold hrt; split <;> omega
  have e := wrt_b (fr := fr) (h := hrt t + 1) hT h0 h1 (by omega) (by omega)
  unfold cst
  split
  · omega
  · by_cases q : kind = 2 ∧ cms T fr O p r t
    · rw [ind_pos q]; omega
    · rw [ind_neg q]; omega
theorem cl_costOf {F : Nat} {fr p kind r t : Int} {w : AW} {T : Nat → Int} {P : Int → AW → Prop} (hF : FB F) (hH : HA w T) (hT : TK T) (hO : OK T (w.1 10)) (hf : w.1 0 28 = fr) (hfr : -1 ≤ fr ∧ fr < 14) (hp0 : 0 ≤ p) (hp1 : p < T 2) (hk : 0 ≤ kind ∧ kind ≤ 2) (ht : 0 ≤ t ∧ t ≤ 1000000) (h0 : 0 ≤ r) (h1 : r < T 1) (hp : P (cst T fr (w.1 10) p kind r t) w) : CL (m_X9_costOf F [vR 0, vI p, vI kind, vI r, vI t] w) P := by
  have a1 := hT.2.2.1
  have b := mcb hT h0 h1 hp0 hp1
  have c := pys_b (fr := fr) (p := p) (O := w.1 10) hT h0 h1
  have m := (hT.road h0 h1).2.2.2.1
  refine wp_X9_costOf F p kind r t w _ ?_
  rw [w_id (x := kind) (by omega) (by omega), w_id (x := t) (by omega) (by omega), td_nn 60 ht.1, w_id (x := t / 60) (by omega) (by omega)]
  unfold cst at hp
  refine ⟨fun q => ci_rM hH hT h0 h1 (q_l ?_), fun q => ci_rM hH hT h0 h1 (ci_pC hH hT hp0 hp1 (ci_pays hH hT hO hf hfr ⟨by omega, by omega⟩ h0 h1 (fun x hx => ?_)))⟩
  · rw [if_pos q] at hp
    rw [w_id (x := rM T r) (by omega) (by omega)]
    exact hp
  · rw [if_neg q] at hp
    rw [w_id (by omega) (by omega)] at hx
    have d : 0 ≤ hrt t ∧ hrt t ≤ 5 := by unfold hrt; split <;> omega
    have key : TT (k_X9_costOf_61 F [vR 0, vI p, vI kind, vI r, vI t, vL x, vU, vU] [vI (hrt t)] w) (qq 4 (fun r w => ∃ x, r = some (vL x) ∧ P x w)) := by
      refine wp_X9_costOf_61 F p kind r t x (hrt t) w _ ?_
      rw [w_id (x := kind) (by omega) (by omega)]
      refine ⟨fun q2 => ci_comes hH hT hO hf hfr ⟨by omega, by omega⟩ ⟨by omega, by omega⟩ h0 h1 (fun z => br1 (cl_worthBy hF hH hT hf hfr h0 h1 (by omega) (by omega) (q_l ?_))) (fun z => br0 (q_l ?_)), fun q2 => q_l ?_⟩
      · rw [ind_pos ⟨q2, z⟩] at hp
        rw [hx]
        rw [show ((1 : Nat) : Int) * wrt T fr r (hrt t + 1) = wrt T fr r (hrt t + 1) from by omega] at hp
        exact hp
      · rw [ind_neg (fun y => z y.2)] at hp
        rw [hx]
        rw [show ∀ z : Int, z - ((0 : Nat) : Int) * wrt T fr r (hrt t + 1) = z from fun z => by omega] at hp
        exact hp
      · rw [ind_neg (fun y => q2 y.1)] at hp
        rw [hx]
        rw [show ∀ z : Int, z - ((0 : Nat) : Int) * wrt T fr r (hrt t + 1) = z from fun z => by omega] at hp
        exact hp
    refine ⟨fun z => ?_, fun z => ?_⟩
    · have e : hrt t = t / 60 := by unfold hrt; rw [if_pos z]
      rw [e] at key
      exact key
    · have e : hrt t = 5 := by unfold hrt; rw [if_neg z]
      rw [e] at key
      exact key
/-! whose roads are at first -/
def own0 (T : Nat → Int) (fr r : Int) : Int := if T 4 = 3 ∨ r = fr then -1 else rH T r
abbrev Sown (j k : Nat) : Prop := j = 10
theorem cv_own {F : Nat} {fr : Int} {w : AW} {T : Nat → Int} {P : AW → Prop} (hF : FB F) (hH : HA w T) (hT : TK T) (hf : w.1 0 28 = fr) (hfr : -1 ≤ fr ∧ fr < 14) (hp : ∀ w', Fr Sown w w' → (∀ r, 0 ≤ r → r < T 1 → w'.1 10 r.toNat = own0 T fr r) → P w') : CV (m_X9_own F [vR 0] w) P := by
  have a1 := hT.2.1
  have a4 := hT.2.2.2.2.1
  refine wp_X9_own F w _ ?_
  refine tt_for (K := k_X9_own_2 F) (T 1) (fun i w' l => Fr Sown w w' ∧ l = [vR 0, vI i] ∧ 0 ≤ i ∧ i ≤ T 1 ∧ ∀ r, 0 ≤ r → r < i → w'.1 10 r.toNat = own0 T fr r) ?_ F 0 _ w (by omega) ⟨Fr.rf, rfl, by omega, by omega, fun r _ _ => by omega⟩
  rintro n i l w' ⟨hfr', rfl, hi0, hi1, hw⟩ hk
  have hH' : HA w' T := hH.fr hfr' (by intro j k; simp only [SHA, Sown]; omega)
  have e1 : w'.1 0 26 = T 4 := hH'.2.2.2.2.2.1
  have e2 : w'.1 0 28 = fr := by rw [hfr'.I 0 28 (by simp [Sown])]; exact hf
  have e3 : w'.1 0 23 = T 1 := hH'.2.2.1
  have e4 := hH'.2.2.2.2.2.2.2.2.2.2
  rw [ks_X9_own_2]
  refine wp_X9_own_2 F _ i w' _ ?_
  rw [e1, e2, e3, w_id (x := i) (by omega) (by omega), w_id (x := T 1) (by omega) (by omega), w_id (x := T 4) (by omega) (by omega), w_id (x := fr) (by omega) (by omega), w_id (x := w'.1 0 29) (by omega) (by omega)]
  have put : i < T 1 → ∀ v, v = own0 T fr i → TT (k_X9_own_56 F (k_X9_own_2 F n) [vR 0, vI i] [vI v, vI i, vR 10] w') (qq 0 (fun r w => r = none ∧ P w)) := by
    intro hi v hv
    refine wp_X9_own_56 F _ i v i w' _ ⟨⟨hi0, by omega⟩, fun w2 hw2 => ?_⟩
    subst hw2
    refine hk _ _ ⟨hfr'.wI _ rfl, rfl, by omega, by omega, fun r h0 h1 => ?_⟩ hi
    rw [wI_at]
    by_cases e : r = i
    · subst e
      rw [if_pos ⟨rfl, rfl⟩]; exact hv
    · rw [if_neg (by omega)]; exact hw r h0 (by omega)
  refine ⟨fun q => ⟨fun q1 => wp_X9_own_31 F _ i i w' _ (put q _ (by unfold own0; rw [if_pos (Or.inl q1)])), fun q1 => ⟨fun q2 => wp_X9_own_31 F _ i i w' _ (put q _ (by unfold own0; rw [if_pos (Or.inr q2)])), fun q2 => ?_⟩⟩, fun q => ?_⟩
  · have hr := (hH'.road hi0 q).2.2.2.2.2
    have hun : own0 T fr i = rH T i := by unfold own0; rw [if_neg (by omega)]
    refine ⟨fun q3 => put q _ ?_, fun q3 => ci_roadOf hH' hT hi0 q (by decide) (put q _ ?_)⟩
    · rw [if_pos q3] at hr; rw [hun]; exact hr
    · rw [if_neg q3] at hr; rw [hun]; exact hr
  · exact q_v (hp w' hfr' (fun r h0 h1 => hw r h0 (by omega)))
/-! a town is taken in hand -/
def TR (w : AW) (t : Int) : Nat → Int := fun i => w.1 6 ((232 * t).toNat + i)
abbrev Shand (j k : Nat) : Prop := j = 10 ∨ j = 11 ∨ j = 23 ∨ j = 24 ∨ (j = 0 ∧ 21 ≤ k ∧ k ≤ 29)
/-- a town in hand as it was told -/
def HT (w : AW) (T : Nat → Int) : Prop := HA w T ∧ w.1 0 28 = -1 ∧ w.1 0 29 = -1 ∧ ∀ r, 0 ≤ r → r < T 1 → w.1 10 r.toNat = own0 T (-1) r
theorem cv_hand {F : Nat} {t : Int} {w : AW} {P : AW → Prop} (hF : FB F) (ht : t = 0 ∨ t = 1) (hT : TK (TR w t)) (hp : ∀ w', Fr Shand w w' → HT w' (TR w t) → P w') : CV (m_X9_hand F [vR 0, vI t] w) P := by
  generalize hTT : TR w t = T at hT hp
  have hTi : ∀ (i : Int), 0 ≤ i → w.1 6 (232 * t + i).toNat = T i.toNat := fun i hi => by
    rw [show (232 * t + i).toNat = (232 * t).toNat + i.toNat from by omega, ← hTT]
    rfl
  have a1 := hT.2.1
  have a2 := hT.2.2.1
  have a3 := hT.2.2.2.1
  have fr : ∀ {w' : AW}, Fr Shand w w' → ∀ k, w'.1 6 k = w.1 6 k := fun h k => h.I 6 k (by simp [Shand])
  refine wp_X9_hand F t w _ ?_
  intro w1 e1
  have f1 : Fr Shand w w1 := by rw [e1]; exact Fr.rf.wI _ (by simp [Shand])
  refine ci_of (by omega) ?_
  intro w2 e2
  have f2 : Fr Shand w w2 := by rw [e2]; exact f1.wI _ (by simp [Shand])
  refine ci_of (by omega) ?_
  intro w3 e3
  have f3 : Fr Shand w w3 := by rw [e3]; exact f2.wI _ (by simp [Shand])
  refine ci_of (by omega) ?_
  intro w4 e4
  have f4 : Fr Shand w w4 := by rw [e4]; exact f3.wI _ (by simp [Shand])
  refine ci_of (by omega) ?_
  intro w5 e5
  have f5 : Fr Shand w w5 := by rw [e5]; exact f4.wI _ (by simp [Shand])
  refine ci_of (by omega) ?_
  intro w6 e6
  have f6 : Fr Shand w w6 := by rw [e6]; exact f5.wI _ (by simp [Shand])
  refine ci_of (by omega) ?_
  intro w7 e7
  have f7 : Fr Shand w w7 := by rw [e7]; exact f6.wI _ (by simp [Shand])
  intro w8 e8
  have f8 : Fr Shand w w8 := by rw [e8]; exact f7.wI _ (by simp [Shand])
  intro w9 e9
  have f9 : Fr Shand w w9 := by rw [e9]; exact f8.wI _ (by simp [Shand])
  rw [fr f1, hTi 0 (by omega)] at e2
  rw [fr f2, hTi 1 (by omega)] at e3
  rw [fr f3, hTi 2 (by omega)] at e4
  rw [fr f4, hTi 3 (by omega)] at e5
  rw [fr f5, hTi 4 (by omega)] at e6
  rw [fr f6, hTi 5 (by omega)] at e7
  have g21 : w9.1 0 21 = 232 * t := by rw [e9, e8, e7, e6, e5, e4, e3, e2, e1]; simp [wI_at]
  have g22 : w9.1 0 22 = T 0 := by rw [e9, e8, e7, e6, e5, e4, e3, e2]; simp [wI_at]
  have g23 : w9.1 0 23 = T 1 := by rw [e9, e8, e7, e6, e5, e4, e3]; simp [wI_at]
  have g24 : w9.1 0 24 = T 2 := by rw [e9, e8, e7, e6, e5, e4]; simp [wI_at]
  have g25 : w9.1 0 25 = T 3 := by rw [e9, e8, e7, e6, e5]; simp [wI_at]
  have g26 : w9.1 0 26 = T 4 := by rw [e9, e8, e7, e6]; simp [wI_at]
  have g27 : w9.1 0 27 = T 5 := by rw [e9, e8, e7]; simp [wI_at]
  have g28 : w9.1 0 28 = -1 := by rw [e9, e8]; simp [wI_at]
  have g29 : w9.1 0 29 = -1 := by rw [e9]; simp [wI_at]
  clear e1 e2 e3 e4 e5 e6 e7 e8 e9
  -- people
  refine tt_for (K := k_X9_hand_81 F) (T 2) (fun i w' l => Fr (fun j k => j = 11 ∨ j = 23) w9 w' ∧ l = [vR 0, vI t, vI i] ∧ 0 ≤ i ∧ i ≤ T 2 ∧ ∀ p, 0 ≤ p → p < i → w'.1 11 p.toNat = pK T p ∧ w'.1 23 p.toNat = pH T p) ?_ F 0 _ w9 (by omega) ⟨Fr.rf, rfl, by omega, by omega, fun r _ _ => by omega⟩
  rintro n i l wa ⟨fa, rfl, hi0, hi1, ha⟩ hk
  have fwa : Fr Shand w wa := f9.tr (fa.wk (by intro j k; simp only [Shand]; omega))
  have ea : ∀ k, wa.1 0 k = w9.1 0 k := fun k => fa.I 0 k (by simp)
  rw [ks_X9_hand_81]
  refine wp_X9_hand_81 F _ t i wa _ ?_
  rw [ea, g24, w_id (x := i) (by omega) (by omega), w_id (x := T 2) (by omega) (by omega)]
  refine ⟨fun q => ?_, fun q => ?_⟩
  · have hpo : ∀ (wb : AW) (c : Int) (PP : Int → AW → Prop), Fr Shand w wb → wb.1 0 21 = 232 * t → 0 ≤ c → c ≤ 2 → PP (T (160 + 3 * i + c).toNat) wb → CI (m_X9_personOf F [vR 0, vI i, vI c] wb) PP := by
      intro wb c PP hfb hb21 hc0 hc1 hPP
      refine wp_X9_personOf F i c wb _ ⟨⟨by omega, by omega⟩, q_i ?_⟩
      rw [hb21, fr hfb, show 232 * t + 160 + 3 * i + c = 232 * t + (160 + 3 * i + c) from by omega, hTi _ (by omega)]
      exact hPP
    refine hpo wa 2 _ fwa (by rw [ea]; exact g21) (by omega) (by omega) ⟨⟨hi0, by omega⟩, fun wb eb => ?_⟩
    have fb : Fr (fun j k => j = 11 ∨ j = 23) w9 wb := by rw [eb]; exact fa.wI _ (by simp)
    refine hpo wb 0 _ (f9.tr (fb.wk (by intro j k; simp only [Shand]; omega))) (by rw [fb.I 0 21 (by simp)]; exact g21) (by omega) (by omega) ⟨⟨hi0, by omega⟩, fun wc ec => ?_⟩
    refine hk _ _ ⟨by rw [ec]; exact fb.wI _ (by simp), rfl, by omega, by omega, fun p hp0 hp1 => ?_⟩ q
    rw [ec, eb]
    by_cases e : p = i
    · subst e
      refine ⟨?_, ?_⟩
      · rw [wI_cell _ _ _ _ (by decide), wI_same]
        unfold pK; congr 1; omega
      · rw [wI_same]
        unfold pH; congr 1; omega
    · have hne : p.toNat ≠ i.toNat := by omega
      rw [wI_idx _ _ _ _ hne, wI_idx _ _ _ _ hne, wI_idx _ _ _ _ hne, wI_idx _ _ _ _ hne]
      exact ha p hp0 (by omega)
  -- errands
  · refine tt_for (K := k_X9_hand_121 F) (T 3) (fun i w' l => Fr (fun j k => j = 24) wa w' ∧ l = [vR 0, vI t, vI i] ∧ 0 ≤ i ∧ i ≤ T 3 ∧ ∀ p, 0 ≤ p → p < i → w'.1 24 p.toNat = eM T p) ?_ F 0 _ wa (by omega) ⟨Fr.rf, rfl, by omega, by omega, fun r _ _ => by omega⟩
    rintro n' i' l' wb ⟨fb, rfl, hj0, hj1, hb⟩ hk'
    have fwb : Fr Shand w wb := fwa.tr (fb.wk (by intro j k; simp only [Shand]; omega))
    have eb : ∀ k, wb.1 0 k = w9.1 0 k := fun k => by rw [fb.I 0 k (by simp)]; exact ea k
    rw [ks_X9_hand_121]
    refine wp_X9_hand_121 F _ t i' wb _ ?_
    rw [eb, g25, w_id (x := i') (by omega) (by omega), w_id (x := T 3) (by omega) (by omega)]
    refine ⟨fun q' => ?_, fun q' => ?_⟩
    · refine wp_X9_errandOf F i' 2 wb _ ⟨by rw [eb, g21]; omega, q_i ⟨⟨hj0, by omega⟩, fun wc ec => ?_⟩⟩
      refine hk' _ _ ⟨by rw [ec]; exact fb.wI _ rfl, rfl, by omega, by omega, fun p hp0 hp1 => ?_⟩ q'
      rw [ec]
      by_cases e : p = i'
      · subst e
        rw [wI_same, eb, g21, fr fwb, show 232 * t + 184 + 4 * p + 2 = 232 * t + (186 + 4 * p) from by omega, hTi _ (by omega)]
        rfl
      · rw [wI_idx _ _ _ _ (by omega)]
        exact hb p hp0 (by omega)
    · have hH : HA wb T := by
        have e6 := fr fwb
        refine ⟨by rw [eb, g21]; omega, by rw [eb]; exact g22, by rw [eb]; exact g23, by rw [eb]; exact g24, by rw [eb]; exact g25, by rw [eb]; exact g26, by rw [eb]; exact g27, fun r h0 h1 => ?_, fun p h0 h1 => ?_, fun e h0 h1 => ?_, Or.inl (by rw [eb]; exact g29)⟩
        · rw [eb 21, eb 29, g21, g29, if_neg (by omega)]
          simp only [e6]
          refine ⟨?_, ?_, ?_, ?_, fun h hh0 hh1 => ?_, ?_⟩
          · rw [show 232 * t + 6 + 11 * r + 0 = 232 * t + (6 + 11 * r) from by omega, hTi _ (by omega)]; rfl
          · rw [show 232 * t + 6 + 11 * r + 1 = 232 * t + (7 + 11 * r) from by omega, hTi _ (by omega)]; rfl
          · rw [show 232 * t + 6 + 11 * r + 2 = 232 * t + (8 + 11 * r) from by omega, hTi _ (by omega)]; rfl
          · rw [show 232 * t + 6 + 11 * r + 3 = 232 * t + (9 + 11 * r) from by omega, hTi _ (by omega)]; rfl
          · rw [show 232 * t + 6 + 11 * r + (5 + h) = 232 * t + (11 + 11 * r + h) from by omega, hTi _ (by omega)]; rfl
          · rw [show 232 * t + 6 + 11 * r + 4 = 232 * t + (10 + 11 * r) from by omega, hTi _ (by omega)]; rfl
        · rw [eb 21, g21, e6, fb.I 11 _ (by simp), fb.I 23 _ (by simp)]
          have := ha p h0 (by omega)
          refine ⟨?_, this.1, this.2⟩
          rw [show 232 * t + 160 + 3 * p + 1 = 232 * t + (161 + 3 * p) from by omega, hTi _ (by omega)]; rfl
        · rw [eb 21, g21]
          simp only [e6]
          refine ⟨?_, ?_, ?_, hb e h0 (by omega)⟩
          · rw [show 232 * t + 184 + 4 * e + 0 = 232 * t + (184 + 4 * e) from by omega, hTi _ (by omega)]; rfl
          · rw [show 232 * t + 184 + 4 * e + 1 = 232 * t + (185 + 4 * e) from by omega, hTi _ (by omega)]; rfl
          · rw [show 232 * t + 184 + 4 * e + 3 = 232 * t + (187 + 4 * e) from by omega, hTi _ (by omega)]; rfl
      refine cv_own hF hH hT (by rw [eb]; exact g28) (by omega) (fun wd fd hd => q_v (hp wd (fwb.tr (fd.wk (by intro j k; simp only [Shand, Sown]; omega))) ⟨hH.fr fd (by intro j k; simp only [SHA, Sown]; omega), ?_, ?_, hd⟩))
      · rw [fd.I 0 28 (by simp [Sown]), eb]; exact g28
      · rw [fd.I 0 29 (by simp [Sown]), eb]; exact g29
