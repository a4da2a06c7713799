/-! WHERE TO LIVE -/
noncomputable def vd (T : Nat → Int) (p a : Int) : Nat → Int
  | 0 => 0
  | n + 1 => if vd T p a n = -1 then -1 else if eW T n = p then (if dsv T a (eP T n) = -1 then -1 else vd T p a n + dsv T a (eP T n)) else vd T p a n
theorem vd_step {T : Nat → Int} {p a e : Int} (h : 0 ≤ e) : vd T p a (e + 1).toNat = if vd T p a e.toNat = -1 then -1 else if eW T e = p then (if dsv T a (eP T e) = -1 then -1 else vd T p a e.toNat + dsv T a (eP T e)) else vd T p a e.toNat := by
  obtain ⟨n, hn⟩ : ∃ n : Nat, e = (n : Int) := ⟨e.toNat, by omega⟩
  subst hn
  rw [show ((n : Int) + 1).toNat = n + 1 from by omega, Int.toNat_natCast]
  rfl
theorem vd_stay {T : Nat → Int} {p a : Int} {n : Nat} (h : vd T p a n = -1) : ∀ k, vd T p a (n + k) = -1
  | 0 => h
  | k + 1 => by
    show (if vd T p a (n + k) = -1 then _ else _) = _
    rw [if_pos (vd_stay h k)]
theorem ci_mte {F : Nat} {j : Nat} {T : Nat → Int} {p a : Int} {w : AW} {P : Int → AW → Prop} (hF : FB F) (hj : isTw j) (hT : TK T) (hC : CA w j T) (hM : CHM T w) (hp : 0 ≤ p ∧ p < T 2) (ha : 0 ≤ a ∧ a < T 0) (h : (vd T p a (T 3).toNat = -1 ∨ (0 ≤ vd T p a (T 3).toNat ∧ vd T p a (T 3).toNat ≤ 2880)) → P (vd T p a (T 3).toNat) w) : CI (m_X8_minutesToErrands F [vR 34, vR j, vI p, vI a] w) P := by
  have a0 := hT.1
  have a2 := hT.2.2.1
  have a3 := hT.2.2.2.1
  refine wp_X8_minutesToErrands F j hj p a w _ ?_
  refine tt_for (K := k_X8_minutesToErrands_6 F) (T 3) (fun e w' l => w' = w ∧ 0 ≤ e ∧ e ≤ T 3 ∧ (0 ≤ vd T p a e.toNat ∧ vd T p a e.toNat ≤ 240 * e) ∧ ∃ v, l = [vR 34, vR j, vI p, vI a, vI (vd T p a e.toNat), vI e, v]) ?_ F 0 _ w (by omega) ⟨rfl, by omega, by omega, by show 0 ≤ (0 : Int) ∧ (0 : Int) ≤ 240 * 0; omega, vU, rfl⟩
  rintro n e l w2 ⟨rfl, he0, he1, hv, v, rfl⟩ hk
  rw [ks_X8_minutesToErrands_6]
  refine wp_X8_minutesToErrands_6 F _ j hj p a _ e v w2 _ ?_
  rw [hC.2.2.2.1, w_id (x := e) (by omega) (by omega), w_id (x := T 3) (by omega) (by omega), w_id (x := p) (by omega) (by omega)]
  refine ⟨fun q => ⟨⟨by omega, by omega⟩, ?_⟩, fun q => q_i ?_⟩
  · have her := hT.erra he0 q
    have st := vd_step (T := T) (p := p) (a := a) he0
    rw [if_neg (show ¬ vd T p a e.toNat = -1 by omega)] at st
    rw [(hC.erra he0 q).1, (hC.erra he0 q).2.1, w_id (x := eW T e) (by omega) (by omega)]
    have hd := dsv_b (b := eP T e) hT ha
    refine ⟨fun q2 => ⟨⟨by omega, by omega⟩, ⟨by omega, by omega⟩, fun x ex => ?_⟩, fun q2 => wp_X8_minutesToErrands_66 F _ j hj p a _ e v w2 _ (hk _ _ ⟨rfl, by omega, by omega, ?_, v, ?_⟩ q)⟩
    · rw [chm_dsv hM ha her.2.1] at ex
      rw [if_pos q2] at st
      rw [ex, w_id (x := dsv T a (eP T e)) (by omega) (by omega)]
      refine ⟨fun q3 => q_i ?_, fun q3 y ey => wp_X8_minutesToErrands_66 F _ j hj p a y e _ w2 _ (hk _ _ ⟨rfl, by omega, by omega, ?_, vI (dsv T a (eP T e)), ?_⟩ q)⟩
      · rw [if_pos q3] at st
        have hs := vd_stay st ((T 3).toNat - (e + 1).toNat)
        rw [show (e + 1).toNat + ((T 3).toNat - (e + 1).toNat) = (T 3).toNat from by omega] at hs
        have := h (Or.inl hs)
        rw [hs] at this
        exact this
      · rw [if_neg q3] at st
        rw [st]; omega
      · rw [if_neg q3] at st
        rw [st, ey]
    · rw [if_neg q2] at st
      rw [st]; omega
    · rw [if_neg q2] at st
      rw [st]
  · have e3 : e = T 3 := by omega
    rw [e3] at hv ⊢
    exact h (Or.inr (by omega))
noncomputable def lvs (T : Nat → Int) (p : Int) : Nat → Int × Int
  | 0 => (-1, -1)
  | n + 1 => if vd T p n (T 3).toNat = -1 then lvs T p n else if (lvs T p n).1 = -1 ∨ vd T p n (T 3).toNat < (lvs T p n).2 then ((n : Int), vd T p n (T 3).toNat) else lvs T p n
theorem lvs_step {T : Nat → Int} {p i : Int} (h : 0 ≤ i) : lvs T p (i + 1).toNat = if vd T p i (T 3).toNat = -1 then lvs T p i.toNat else if (lvs T p i.toNat).1 = -1 ∨ vd T p i (T 3).toNat < (lvs T p i.toNat).2 then (i, vd T p i (T 3).toNat) else lvs T p i.toNat := by
  obtain ⟨n, hn⟩ : ∃ n : Nat, i = (n : Int) := ⟨i.toNat, by omega⟩
  subst hn
  rw [show ((n : Int) + 1).toNat = n + 1 from by omega, Int.toNat_natCast]
  rfl
/-- what is so of the best so far -/
def lvo (x : Int × Int) (i : Int) : Prop := (x.1 = -1 ∧ x.2 = -1) ∨ ((0 ≤ x.1 ∧ x.1 < i) ∧ 0 ≤ x.2 ∧ x.2 ≤ 2880)
noncomputable def aLive (m : Int) (T : Nat → Int) (t p b : Int) : Int := by
  classical
  exact if (0 ≤ t ∧ t < m) ∧ (0 ≤ p ∧ p < T 2) then (if b = 0 then (lvs T p (T 0).toNat).1 else (lvs T p (T 0).toNat).2) else -1
theorem cc_live {F : Nat} {t p b : Int} {w : AW} {P : Int → AW → Prop} (hF : FB F) (hI : TwI w) (ht : iR t) (hpr : iR p) (hbr : iR b) (hp : ∀ w', KQ w w' → P (aLive (w.1 5 0) (TR w t) t p b) w') : CI (m_X8_live F [vR 34, vI t, vI p, vI b] w) P := by
  have hm := hI.1
  have no : ¬ ((0 ≤ t ∧ t < w.1 5 0) ∧ (0 ≤ p ∧ p < TR w t 2)) → P (-1) w := fun hk => by
    have hpk := hp w KQ.rf
    unfold aLive at hpk
    rw [if_neg hk] at hpk
    exact hpk
  refine wp_X8_live F t p b w _ (cr_townAt hI ht (fun hz => ⟨fun q => (by cases q), fun j hj => ?_⟩) (fun hz => ⟨fun _ => q_i (no (fun y => hz y.1)), fun j hj => (by cases hj)⟩))
  cases hj
  obtain ⟨hT, hC⟩ := hI.2.2 t hz.1 hz.2
  obtain ⟨htw, hap⟩ := tw_cell (t := t) ⟨hz.1, by omega⟩
  have a0 := hT.1
  have a2 := hT.2.2.1
  refine ⟨htw, ci_hasPerson htw hC hT hpr (fun z1 => br1 (cv_lay2 hF hI hz (fun w1 k1 hC1 hCH1 => ?_))) (fun z1 => br0 (q_i (no (fun y => z1 y.2))))⟩
  refine tt_for (K := k_X8_live_47 F) (TR w t 0) (fun i w' l => w' = w1 ∧ 0 ≤ i ∧ i ≤ TR w t 0 ∧ lvo (lvs (TR w t) p i.toNat) i ∧ ∃ v, l = [vR 34, vI t, vI p, vI b, vR (38 + 14 * t.toNat), vI (lvs (TR w t) p i.toNat).1, vI (lvs (TR w t) p i.toNat).2, vI i, v]) ?_ F 0 _ w1 (by omega) ⟨rfl, by omega, by omega, Or.inl ⟨rfl, rfl⟩, vU, rfl⟩
  rintro n i l w2 ⟨rfl, hi0, hi1, hlo, v, rfl⟩ hk
  rw [ks_X8_live_47]
  refine wp_X8_live_47 F _ t p b (38 + 14 * t.toNat) htw _ _ i v w2 _ ?_
  have hlr : -1 ≤ (lvs (TR w t) p i.toNat).1 ∧ (lvs (TR w t) p i.toNat).1 ≤ 9 ∧ -1 ≤ (lvs (TR w t) p i.toNat).2 ∧ (lvs (TR w t) p i.toNat).2 ≤ 2880 := by
    rcases hlo with h | h <;> omega
  rw [hC1.1, w_id (x := i) (by omega) (by omega), w_id (x := TR w t 0) (by omega) (by omega), w_id hbr.1 hbr.2]
  refine ⟨fun q => ci_mte hF htw hT hC1 hCH1.2.1 z1 ⟨hi0, q⟩ (fun hv => ?_), fun q => ?_⟩
  · have st := lvs_step (T := TR w t) (p := p) hi0
    rw [w_id (x := vd (TR w t) p i (TR w t 3).toNat) (by omega) (by omega), w_id (x := (lvs (TR w t) p i.toNat).1) (by omega) (by omega), w_id (x := (lvs (TR w t) p i.toNat).2) (by omega) (by omega)]
    have keep : lvs (TR w t) p (i + 1).toNat = lvs (TR w t) p i.toNat → TT (k_X8_live_95 F (k_X8_live_47 F n) [vR 34, vI t, vI p, vI b, vR (38 + 14 * t.toNat), vI (lvs (TR w t) p i.toNat).1, vI (lvs (TR w t) p i.toNat).2, vI i, vI (vd (TR w t) p i (TR w t 3).toNat)] [] w2) (qq 1 (fun r w => ∃ x, r = some (vI x) ∧ P x w)) := fun e => by
      refine wp_X8_live_95 F _ t p b (38 + 14 * t.toNat) htw _ _ i _ w2 _ (hk _ _ ⟨rfl, by omega, by omega, ?_, vI (vd (TR w t) p i (TR w t 3).toNat), ?_⟩ q)
      · rw [e]
        rcases hlo with h | h
        · exact Or.inl h
        · exact Or.inr ⟨⟨h.1.1, by omega⟩, h.2⟩
      · rw [e]
    have new : lvs (TR w t) p (i + 1).toNat = (i, vd (TR w t) p i (TR w t 3).toNat) → vd (TR w t) p i (TR w t 3).toNat ≠ -1 → TT (k_X8_live_87 F (k_X8_live_47 F n) [vR 34, vI t, vI p, vI b, vR (38 + 14 * t.toNat), vI (lvs (TR w t) p i.toNat).1, vI (lvs (TR w t) p i.toNat).2, vI i, vI (vd (TR w t) p i (TR w t 3).toNat)] [] w2) (qq 1 (fun r w => ∃ x, r = some (vI x) ∧ P x w)) := fun e hne => by
      refine wp_X8_live_87 F _ t p b (38 + 14 * t.toNat) htw _ _ i _ w2 _ (wp_X8_live_95 F _ t p b (38 + 14 * t.toNat) htw _ _ i _ w2 _ (hk _ _ ⟨rfl, by omega, by omega, ?_, vI (vd (TR w t) p i (TR w t 3).toNat), ?_⟩ q))
      · rw [e]
        refine Or.inr ⟨⟨hi0, by show i < i + 1; omega⟩, ?_⟩
        show 0 ≤ vd (TR w t) p i (TR w t 3).toNat ∧ vd (TR w t) p i (TR w t 3).toNat ≤ 2880
        rcases hv with h | h
        · exact absurd h hne
        · exact h
      · rw [e]
    refine ⟨fun q2 => keep (by rw [st, if_pos q2]), fun q2 => ⟨fun q3 => new (by rw [st, if_neg q2, if_pos (Or.inl q3)]) q2, fun q3 => ⟨fun q4 => new (by rw [st, if_neg q2, if_pos (Or.inr q4)]) q2, fun q4 => keep (by rw [st, if_neg q2, if_neg (by omega)])⟩⟩⟩
  · have hpk := hp w2 k1
    unfold aLive at hpk
    rw [if_pos ⟨hz, z1⟩] at hpk
    have ei : i = TR w t 0 := by omega
    rw [ei]
    refine ⟨fun q2 => q_i ?_, fun q2 => q_i ?_⟩
    · rw [if_pos q2] at hpk; exact hpk
    · rw [if_neg q2] at hpk; exact hpk
