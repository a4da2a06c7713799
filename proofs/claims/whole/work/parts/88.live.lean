/-! where to live, the reference -/
def ls' (x : Int × Int) : Int := if x.1 = -1 then 100000 else x.2
theorem cr_live {F : Nat} {t p b : Int} {w : AW} {P : Int → AW → Prop} (hF : FB F) (hI : TwI w) (ht : iR t) (hpr : iR p) (hbr : iR b) (hp : ∀ w', KQ w w' → P (aLive (w.1 5 0) (TR w t) t p b) w') : CI (m_X9_live F [vR 0, vI t, vI p, vI b] w) P := by
  have no : ¬ ((0 ≤ t ∧ t < w.1 5 0) ∧ (0 ≤ p ∧ p < TR w t 2)) → ∀ w', KQ w w' → P (-1) w' := fun hk w' k' => by
    have hpk := hp w' k'
    unfold aLive at hpk
    rw [if_neg hk] at hpk
    exact hpk
  refine wp_X9_live F t p b w _ (fun w0 e0 => ci_lay' hF hI e0 ht (by decide) (fun hg hT _ _ w1 k1 hX _ => br1 ?_) (fun hz w1 k1 => br0 (q_i (no (fun y => hz ⟨y.1, okS0⟩) w1 k1))))
  have a0 := hT.1
  have a2 := hT.2.2.1
  have a3 := hT.2.2.2.1
  refine ci_isPerson hX.1 hT hpr (fun z1 => br1 ?_) (fun z1 => br0 (q_i (no (fun y => z1 y.2) w1 k1)))
  have e22 : w1.1 0 22 = TR w t 0 := hX.1.2.1
  have e25 : w1.1 0 25 = TR w t 3 := hX.1.2.2.2.2.1
  refine tt_for (K := k_X9_live_35 F) (TR w t 0) (fun i w' l => w' = w1 ∧ 0 ≤ i ∧ i ≤ TR w t 0 ∧ lvo (lvs (TR w t) p i.toNat) i ∧ ∃ u v, l = [vR 0, vI t, vI p, vI b, vI (lvs (TR w t) p i.toNat).1, vI (ls' (lvs (TR w t) p i.toNat)), vI i, u, v]) ?_ F 0 _ w1 (by omega) ⟨rfl, by omega, by omega, Or.inl ⟨rfl, rfl⟩, vU, vU, rfl⟩
  rintro n i l w2 ⟨rfl, hi0, hi1, hlo, u, v, rfl⟩ hk
  have hlr : -1 ≤ (lvs (TR w t) p i.toNat).1 ∧ (lvs (TR w t) p i.toNat).1 ≤ 9 ∧ -1 ≤ (lvs (TR w t) p i.toNat).2 ∧ (lvs (TR w t) p i.toNat).2 ≤ 2880 := by
    rcases hlo with h | h <;> omega
  have hls : -1 ≤ ls' (lvs (TR w t) p i.toNat) ∧ ls' (lvs (TR w t) p i.toNat) ≤ 100000 := by
    unfold ls'
    split <;> omega
  rw [ks_X9_live_35]
  refine wp_X9_live_35 F _ t p b _ _ i u v w2 _ ?_
  rw [e22, w_id (x := i) (by omega) (by omega), w_id (x := TR w t 0) (by omega) (by omega), w_id (x := (lvs (TR w t) p i.toNat).1) (by omega) (by omega), w_id hbr.1 hbr.2]
  refine ⟨fun q => ?_, fun q => ?_⟩
  · refine tt_for (K := k_X9_live_50 F (k_X9_live_35 F n)) (TR w t 3) (fun e w' l => w' = w2 ∧ 0 ≤ e ∧ e ≤ TR w t 3 ∧ ∃ s, l = [vR 0, vI t, vI p, vI b, vI (lvs (TR w t) p i.toNat).1, vI (ls' (lvs (TR w t) p i.toNat)), vI i, vI s, vI e] ∧ ((vd (TR w t) p i e.toNat = -1 ∧ 100000 ≤ s ∧ s ≤ 100000 * e) ∨ (vd (TR w t) p i e.toNat = s ∧ 0 ≤ s ∧ s ≤ 240 * e))) ?_ F 0 _ w2 (by omega) ⟨rfl, by omega, by omega, 0, rfl, Or.inr ⟨rfl, by omega, by omega⟩⟩
    rintro m e l w3 ⟨rfl, he0, he1, s, rfl, hs⟩ hk2
    rw [ks_X9_live_50]
    refine wp_X9_live_50 F _ _ t p b _ _ i s e w3 _ ?_
    rw [e25, w_id (x := e) (by omega) (by omega), w_id (x := TR w t 3) (by omega) (by omega), w_id (x := p) (by omega) (by omega), w_id (x := s) (by omega) (by omega), w_id (x := ls' (lvs (TR w t) p i.toNat)) (by omega) (by omega)]
    refine ⟨fun q2 => ci_eW hX.1 hT he0 q2 ?_, fun q2 => ?_⟩
    · have her := hT.erra he0 q2
      have st := vd_step (T := TR w t) (p := p) (a := i) he0
      rw [w_id (x := eW (TR w t) e) (by omega) (by omega)]
      refine ⟨fun q3 => ci_eP hX.1 hT he0 q2 ⟨⟨by omega, by omega⟩, wp_X9_live_94 F _ _ t p b _ _ i s e _ _ w3 _ (fun x ex => hk2 _ _ ⟨rfl, by omega, by omega, x, rfl, ?_⟩ q2)⟩, fun q3 => wp_X9_live_94 F _ _ t p b _ _ i s e _ _ w3 _ (fun x ex => hk2 _ _ ⟨rfl, by omega, by omega, x, rfl, ?_⟩ q2)⟩
      · have hf := far_dsv hT hX.2.2 ⟨hi0, q⟩ her.2.1
        rcases hs with ⟨h1, h2, h3⟩ | ⟨h1, h2, h3⟩
        · rw [if_pos h1] at st
          refine Or.inl ⟨st, ?_⟩
          rw [ex]
          rcases hf with ⟨f1, _⟩ | ⟨f1, _, _⟩ <;> omega
        · rw [if_neg (by omega), if_pos q3] at st
          rcases hf with ⟨f1, f2⟩ | ⟨f1, f2, f3⟩
          · rw [if_pos f2] at st
            exact Or.inl ⟨st, by rw [ex, f1]; omega⟩
          · rw [if_neg (by omega)] at st
            exact Or.inr ⟨by rw [st, ex, f1, h1], by rw [ex, f1]; omega⟩
      · rcases hs with ⟨h1, h2, h3⟩ | ⟨h1, h2, h3⟩
        · rw [if_pos h1] at st
          exact Or.inl ⟨st, by rw [ex]; omega⟩
        · rw [if_neg (by omega), if_neg q3] at st
          exact Or.inr ⟨by rw [st, ex, h1]; omega, by rw [ex]; omega⟩
    · have ee : e = TR w t 3 := by omega
      rw [ee] at hs
      have st := lvs_step (T := TR w t) (p := p) hi0
      have new : s < ls' (lvs (TR w t) p i.toNat) → lvs (TR w t) p (i + 1).toNat = (i, s) ∧ 0 ≤ s ∧ s ≤ 2880 := fun h => by
        rcases hs with ⟨h1, h2, h3⟩ | ⟨h1, h2, h3⟩
        · omega
        · rw [h1, if_neg (by omega)] at st
          refine ⟨?_, by omega, by omega⟩
          by_cases z : (lvs (TR w t) p i.toNat).1 = -1
          · rw [st, if_pos (Or.inl z)]
          · unfold ls' at h
            rw [if_neg z] at h
            rw [st, if_pos (Or.inr h)]
      have keep : ¬ s < ls' (lvs (TR w t) p i.toNat) → lvs (TR w t) p (i + 1).toNat = lvs (TR w t) p i.toNat := fun h => by
        rcases hs with ⟨h1, h2, h3⟩ | ⟨h1, h2, h3⟩
        · rw [st, if_pos h1]
        · rw [h1, if_neg (by omega)] at st
          unfold ls' at h
          by_cases z : (lvs (TR w t) p i.toNat).1 = -1
          · rw [if_pos z] at h; omega
          · rw [if_neg z] at h
            rw [st, if_neg (by omega)]
      refine ⟨fun q3 => wp_X9_live_117 F _ t p b _ _ i s e i w3 _ ?_, fun q3 => wp_X9_live_117 F _ t p b _ _ i s e _ w3 _ ?_⟩
      · rw [w_id (x := s) (by omega) (by omega), w_id (x := ls' (lvs (TR w t) p i.toNat)) (by omega) (by omega)]
        obtain ⟨n1, n2, n3⟩ := new q3
        refine ⟨fun _ => wp_X9_live_133 F _ t p b _ _ i s e _ w3 _ (hk _ _ ⟨rfl, by omega, by omega, ?_, vI s, vI e, ?_⟩ q), fun z => absurd q3 z⟩
        · rw [n1]
          exact Or.inr ⟨⟨hi0, by show i < i + 1; omega⟩, n2, n3⟩
        · rw [n1]
          show _ = [vR 0, vI t, vI p, vI b, vI i, vI (ls' (i, s)), vI (i + 1), vI s, vI e]
          unfold ls'
          rw [if_neg (show ¬ (i, s).1 = -1 by show ¬ i = -1; omega)]
      · rw [w_id (x := s) (by omega) (by omega), w_id (x := ls' (lvs (TR w t) p i.toNat)) (by omega) (by omega)]
        refine ⟨fun z => absurd z q3, fun _ => wp_X9_live_133 F _ t p b _ _ i s e _ w3 _ (hk _ _ ⟨rfl, by omega, by omega, ?_, vI s, vI e, ?_⟩ q)⟩
        · rw [keep q3]
          rcases hlo with h | h
          · exact Or.inl h
          · exact Or.inr ⟨⟨h.1.1, by omega⟩, h.2⟩
        · rw [keep q3]
  · have hpk := hp w2 k1
    unfold aLive at hpk
    rw [if_pos ⟨hg.1, z1⟩, ← show i = TR w t 0 from by omega] at hpk
    refine ⟨fun q2 => q_i ?_, fun q2 => ⟨fun q3 => q_i ?_, fun q3 => q_i ?_⟩⟩
    · have : (lvs (TR w t) p i.toNat).1 = -1 ∧ (lvs (TR w t) p i.toNat).2 = -1 := by
        rcases hlo with h | h
        · exact h
        · omega
      rw [this.1, this.2] at hpk
      by_cases y : b = 0
      · rw [if_pos y] at hpk; exact hpk
      · rw [if_neg y] at hpk; exact hpk
    · rw [if_pos q3] at hpk; exact hpk
    · rw [if_neg q3] at hpk
      unfold ls'
      rw [if_neg q2]
      exact hpk
