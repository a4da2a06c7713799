/-! THE CLASS'S OUTING -/
def FrX (S : Nat → Nat → Prop) (w w' : AW) : Prop := (∀ j k, ¬ S j k → w'.1 j k = w.1 j k ∧ w'.2.1 j k = w.2.1 j k) ∧ w'.2.2.1 = w.2.2.1
theorem Fr.X {S : Nat → Nat → Prop} {w w' : AW} (h : Fr S w w') : FrX S w w' := ⟨h.1, by rw [h.2]⟩
theorem FrX.rf {S : Nat → Nat → Prop} {w : AW} : FrX S w w := ⟨fun _ _ _ => ⟨rfl, rfl⟩, rfl⟩
theorem FrX.tr {S : Nat → Nat → Prop} {w1 w2 w3 : AW} (h : FrX S w1 w2) (h' : FrX S w2 w3) : FrX S w1 w3 := ⟨fun j k q => ⟨(h'.1 j k q).1.trans (h.1 j k q).1, (h'.1 j k q).2.trans (h.1 j k q).2⟩, h'.2.trans h.2⟩
theorem FrX.wk {S S' : Nat → Nat → Prop} {w1 w2 : AW} (h : FrX S w1 w2) (hs : ∀ j k, S j k → S' j k) : FrX S' w1 w2 := ⟨fun j k q => h.1 j k (fun z => q (hs j k z)), h.2⟩
theorem FrX.I {S : Nat → Nat → Prop} {w w' : AW} (h : FrX S w w') (j k : Nat) (hs : ¬ S j k) : w'.1 j k = w.1 j k := (h.1 j k hs).1
theorem FrX.L {S : Nat → Nat → Prop} {w w' : AW} (h : FrX S w w') (j k : Nat) (hs : ¬ S j k) : w'.2.1 j k = w.2.1 j k := (h.1 j k hs).2
theorem FrX.wI {S : Nat → Nat → Prop} {w w' : AW} (h : FrX S w w') {j k : Nat} (x : Int) (hs : S j k) : FrX S w (wI w' j k x) := h.tr (Fr.rf.wI x hs).X
theorem CA.frX {w w' : AW} {j : Nat} {T : Nat → Int} {S : Nat → Nat → Prop} (h : CA w j T) (hf : FrX S w w') (hs : ∀ a k, j ≤ a → a ≤ j + 13 → ¬ S a k) : CA w' j T := h.eq (fun a k h1 h2 => hf.I a k (hs a k h1 h2))
theorem CH.frX {T : Nat → Int} {w w' : AW} {S : Nat → Nat → Prop} (h : CH T w) (hf : FrX S w w') (hs : ∀ j k, 229 ≤ j → j ≤ 233 → ¬ S j k) : CH T w' := h.eq (fun j k h1 h2 => hf.1 j k (hs j k h1 h2))
def CZ (w : AW) : Nat → Nat → Int := fun f k => match f with
  | 0 => w.1 255 k
  | 1 => w.1 258 k
  | 2 => w.1 259 k
  | 3 => w.1 260 k
  | 4 => w.1 261 k
  | 5 => w.1 262 k
  | 6 => w.1 263 k
  | 7 => w.1 257 k
  | 8 => w.1 256 k
  | _ => w.1 254 (3 + k)
/-- by no law a road is nobody's -/
def L3 (T O : Nat → Int) : Prop := T 4 = 3 → ∀ r : Nat, (r : Int) < T 1 → O r = -1
theorem ci_ownerBehind {F : Nat} {j : Nat} {T O : Nat → Int} {p r t : Int} {w : AW} {P : Int → AW → Prop} (hj : isTw j) (hC : CA w j T) (hT : TK T) (hO : OK T O) (hL : L3 T O) (hp0 : 0 ≤ p) (hp1 : p < T 2) (h0 : 0 ≤ r) (h1 : r < T 1) (ht : iR t) (h : P (obh T (-1) O p r t) w) : CI (m_X7_ownerBehind F [vR j, vI (O r.toNat), vI p, vI t] w) P := by
  have a2 := hT.2.2.1
  have a4 := hT.2.2.2.2.1
  have a5 := hT.2.2.2.2.2.1
  have e1 : w.1 j 17 = T 4 := hC.2.2.2.2.1
  have e2 : w.1 j 18 = T 5 := hC.2.2.2.2.2.1
  have ho := hO r h0 h1
  refine wp_X7_ownerBehind F j hj (O r.toNat) p t w _ ?_
  rw [e1, e2, w_id (x := T 4) (by omega) (by omega), w_id (x := O r.toNat) (by omega) (by omega), w_id ht.1 ht.2, w_id (x := T 5) (by omega) (by omega)]
  have yes : cms T (-1) O p r t → P p w := fun c => by rw [obh_y c] at h; exact h
  have no : ¬ cms T (-1) O p r t → P (O r.toNat) w := fun c => by rw [obh_n c] at h; exact h
  refine ⟨⟨fun q => q_i ?_, fun q => ⟨fun q2 => q_i ?_, fun q2 => q_i (no (fun c => ?_))⟩, fun q => ⟨fun q2 => q_i ?_, fun q2 => q_i (no (fun c => ?_))⟩, trivial⟩, fun q => q_i ?_⟩
  · by_cases z : O r.toNat = p
    · have := no (fun c => c.2.1 z)
      rw [z] at this
      exact this
    · exact yes ⟨by omega, z, Or.inl q⟩
  · exact yes ⟨by omega, by omega, Or.inr (Or.inl ⟨q, q2⟩)⟩
  · unfold cms at c; omega
  · by_cases z : O r.toNat = p
    · have := no (fun c => c.2.1 z)
      rw [z] at this
      exact this
    · exact yes ⟨by omega, z, Or.inr (Or.inr ⟨q, q2⟩)⟩
  · unfold cms at c; omega
  · have h3 : T 4 = 3 := by omega
    have := hL h3 r.toNat (by omega)
    have hn := no (fun c => by unfold cms at c; omega)
    rw [this] at hn
    exact hn
theorem cv_takeRoads {F : Nat} {j jo : Nat} {T O : Nat → Int} {p kind bg K : Int} {x : Cd} {w : AW} {P : AW → Prop} (hF : FB F) (hj : isTw j) (hja : apart j) (hjo : isI jo 14) (hjo2 : jo = 222 ∨ jo = 255) (hX : HX j jo T O p kind w) (hT : TK T) (hO : OK T O) (hL : L3 T O) (hp0 : 0 ≤ p) (hp1 : p < T 2) (hbg : 0 ≤ bg ∧ bg ≤ 100000) (hB : BC w K (some x)) (hl : x.2.2.length ≤ 9) (hnd : x.2.2.Nodup) (hr : ∀ r ∈ x.2.2, r < (T 1).toNat) (hp : ∀ w', Fr (fun a _ => a = jo) w w' → (∀ r : Nat, (r : Int) < T 1 → w'.1 jo r = wO T (-1) O p bg x.2.2 r) → P w') : CV (m_X3_takeRoadsOfBest F [vR 227, vI bg] w) P := by
  obtain ⟨b1, b2, b3, b4, b5⟩ := hB
  have a1 := hT.2.1
  have a2 := hT.2.2.1
  refine wp_X3_takeRoadsOfBest F bg w _ ?_
  refine tt_for (K := k_X3_takeRoadsOfBest_4 F) (x.2.2.length : Int) (fun i w' l => Fr (fun a _ => a = jo) w w' ∧ 0 ≤ i ∧ i ≤ x.2.2.length ∧ (∃ v, l = [vR 227, vI bg, vI (bg + sumL (fun r => rM T r) (x.2.2.take i.toNat)), vI i, v]) ∧ (∀ r : Nat, (r : Int) < T 1 → w'.1 jo r = wO T (-1) O p bg (x.2.2.take i.toNat) r) ∧ 0 ≤ sumL (fun r => rM T r) (x.2.2.take i.toNat) ∧ sumL (fun r => rM T r) (x.2.2.take i.toNat) ≤ 30 * i) ?_ F 0 _ w (by omega) ⟨Fr.rf, by omega, by omega, ⟨vU, by show _ = [vR 227, vI bg, vI (bg + 0), vI 0, vU]; rw [Int.add_zero]⟩, fun r hr' => by
    show _ = wO T (-1) O p bg [] r
    unfold wO
    rw [if_neg (show ¬ r ∈ ([] : List Nat) by simp)]
    have := hX.2.2.2.2.2.2 r (by omega) hr'
    rw [Int.toNat_natCast] at this
    exact this, Int.le_refl 0, Int.le_refl 0⟩
  rintro n i l w1 ⟨f1, hi0, hi1, ⟨v, rfl⟩, g10, hs0, hs1⟩ hk
  have hC1 : CA w1 j T := hX.2.2.1.fr f1 (by intro a k h1 h2; unfold apart at hja; omega)
  have hr4 : w1.2.2.2.1 = j := by rw [f1.2]; exact hX.1
  have hr5 : w1.2.2.2.2 = jo := by rw [f1.2]; exact hX.2.1
  rw [ks_X3_takeRoadsOfBest_4]
  refine wp_X3_takeRoadsOfBest_4 F _ bg _ i v w1 _ ?_
  rw [f1.I 227 2 (by omega), b2, w_id (x := i) (by omega) (by omega), w_id (x := (x.2.2.length : Int)) (by omega) (by omega)]
  refine ⟨fun q => ⟨⟨hi0, by omega⟩, fun x2 ex2 => ?_⟩, fun q => q_v (hp w1 f1 (fun r hr' => ?_))⟩
  · have hlt : i.toNat < x.2.2.length := by omega
    obtain ⟨r, hrd⟩ : ∃ r, x.2.2[i.toNat] = r := ⟨_, rfl⟩
    rw [f1.I 234 _ (by omega), b5 _ hlt, List.getD_eq_getElem?_getD, List.getElem?_eq_getElem hlt, hrd] at ex2
    have ex2 : x2 = (r : Int) := ex2
    subst ex2
    have hR := hr r (by rw [← hrd]; exact List.getElem_mem hlt)
    have h0 : (0 : Int) ≤ r := by omega
    have h1 : (r : Int) < T 1 := by omega
    have htk : x.2.2.take (i + 1).toNat = x.2.2.take i.toNat ++ [r] := by
      rw [show (i + 1).toNat = i.toNat + 1 from by omega, List.take_succ_eq_append_getElem hlt, hrd]
    obtain ⟨pre, hpre⟩ : ∃ pre, x.2.2.take i.toNat = pre := ⟨_, rfl⟩
    rw [hpre] at htk g10 hs0 hs1
    rw [hpre]
    have hnp : r ∉ pre := by
      have hsub : (pre ++ [r]).Nodup := by rw [← htk]; exact List.Nodup.sublist (List.take_sublist _ _) hnd
      rw [List.nodup_append] at hsub
      intro z
      exact hsub.2.2 r z r (by simp) rfl
    have own_r : w1.1 jo r = O r := by rw [g10 r h1]; unfold wO; rw [if_neg hnp]
    have htm := (hT.road h0 h1).2.2.2.1
    rw [hr5, hr4, f1.I 227 12 (by omega), hX.2.2.2.2.1, Int.toNat_natCast, own_r]
    refine ⟨hjo, ⟨by omega, by omega⟩, hj, ?_⟩
    have hob := ci_ownerBehind (F := F) (P := fun x6 ww4 => (0 ≤ (r : Int) ∧ (r : Int) < 14) ∧ ∀ ww7 : AW, ww7 = wI ww4 jo r x6 → isTw ww7.2.2.2.1 ∧ isI (ww7.2.2.2.1 + 3) 14 ∧ (0 ≤ (r : Int) ∧ (r : Int) < 14) ∧ ∀ x9 : Int, x9 = (bg + sumL (fun r => rM T r) pre) + ww7.1 (ww7.2.2.2.1 + 3) r → TT (k_X3_takeRoadsOfBest_4 F n [vR 227, vI bg, vI x9, vI (i + 1), vI r] [] ww7) (qq 0 (fun r w => r = none ∧ P w))) hj hC1 hT hO hL hp0 hp1 h0 h1 (t := bg + sumL (fun r => rM T r) pre) ⟨by omega, by omega⟩ ⟨⟨by omega, by omega⟩, fun w2 e2 => ?_⟩
    · rw [Int.toNat_natCast] at hob
      exact hob
    · have f2 : Fr (fun a _ => a = jo) w w2 := by rw [e2]; exact f1.wI _ rfl
      have hC2 : CA w2 j T := hX.2.2.1.fr f2 (by intro a k h1 h2; unfold apart at hja; omega)
      have hr4' : w2.2.2.2.1 = j := by rw [f2.2]; exact hX.1
      rw [hr4']
      have hm := (hC2.road h0 h1).2.2.1
      rw [Int.toNat_natCast] at hm
      rw [hm]
      refine ⟨hj, tw_a3 hj, ⟨by omega, by omega⟩, fun t et => hk _ _ ⟨f2, by omega, by omega, ⟨vI r, ?_⟩, fun r' h' => ?_, ?_, ?_⟩ q⟩
      · rw [htk, sumL_snoc, et, show bg + (sumL (fun r => rM T r) pre + rM T r) = bg + sumL (fun r => rM T r) pre + rM T r from by omega]
      · rw [htk, e2, wI_at]
        by_cases z : r' = r
        · rw [if_pos ⟨rfl, z⟩, z]
          unfold wO
          rw [if_pos (show r ∈ pre ++ [r] by simp), tmA_snoc, if_neg hnp, if_pos rfl]
        · rw [if_neg (fun y => z y.2), g10 r' h']
          unfold wO
          by_cases y : r' ∈ pre
          · rw [if_pos y, if_pos (show r' ∈ pre ++ [r] by simp [y]), tmA_snoc, if_pos y]
          · rw [if_neg y, if_neg (show ¬ r' ∈ pre ++ [r] by simp [y, z])]
      · rw [htk, sumL_snoc]; omega
      · rw [htk, sumL_snoc]; omega
  · have hle : x.2.2.take i.toNat = x.2.2 := List.take_of_length_le (by omega)
    rw [hle] at g10
    exact g10 r hr'
theorem cv_take {F : Nat} {j jo : Nat} {T O : Nat → Int} {p kind : Int} {w : AW} {P : AW → Prop} (hj : isTw j) (hja : apart j) (hjo : isI jo 14) (hjo2 : jo = 222 ∨ jo = 255) (hC : CA w j T) (hCH : CH T w) (hO : ∀ r, 0 ≤ r → r < T 1 → w.1 jo r.toNat = O r.toNat) (hp : ∀ w', FrX (fun a k => a = 227 ∧ (k = 2 ∨ k = 12 ∨ k = 13)) w w' → HX j jo T O p kind w' → P w') : CV (m_X3_take F [vR 227, vR j, vR jo, vI p, vI kind] w) P := by
  refine wp_X3_take F j hj jo 14 hjo p kind w _ ?_
  intro w1 e1 w2 e2 w3 e3 w4 e4 w5 e5
  have c2 : w2.1 = w.1 ∧ w2.2.1 = w.2.1 ∧ w2.2.2.1 = w.2.2.1 ∧ w2.2.2.2.1 = j ∧ w2.2.2.2.2 = jo := by rw [e2, e1]; exact ⟨rfl, rfl, rfl, rfl, rfl⟩
  have f2 : FrX (fun a k => a = 227 ∧ (k = 2 ∨ k = 12 ∨ k = 13)) w w2 := ⟨fun a k _ => by rw [c2.1, c2.2.1]; exact ⟨rfl, rfl⟩, c2.2.2.1⟩
  have f25 : Fr (fun a k => a = 227 ∧ (k = 2 ∨ k = 12 ∨ k = 13)) w2 w5 := by rw [e5, e4, e3]; exact ((Fr.rf.wI _ (by simp)).wI _ (by simp)).wI _ (by simp)
  have f5 := f2.tr f25.X
  refine q_v (hp w5 f5 ⟨by rw [f25.2]; exact c2.2.2.2.1, by rw [f25.2]; exact c2.2.2.2.2, hC.frX f5 (by intro a k h1 h2; unfold apart at hja; omega), hCH.frX f5 (by intro a k h1 h2; omega), ?_, ?_, fun r h0 h1 => ?_⟩)
  · rw [e5, e4, e3]; simp [wI_at]
  · rw [e5, e4]; simp [wI_at]
  · rw [f5.I jo _ (by omega)]; exact hO r h0 h1
abbrev Spay (j k : Nat) : Prop := j = 256 ∨ j = 257 ∨ j = 261 ∨ j = 262
theorem cv_payForWay {F : Nat} {j : Nat} {T : Nat → Int} {p kind K : Int} {x : Cd} {w : AW} {P : AW → Prop} (hF : FB F) (hj : isTw j) (hja : apart j) (hX : HX j 255 T (w.1 255) p kind w) (hT : TK T) (hO : OK T (w.1 255)) (hp0 : 0 ≤ p) (hp1 : p < T 2) (hB : BC w K (some x)) (hl : x.2.2.length ≤ 9) (hnd : x.2.2.Nodup) (hr : ∀ r ∈ x.2.2, r < (T 1).toNat) (hp : ∀ w', Fr Spay w w' → (∀ k, w'.1 261 k = if k = p.toNat then w.1 261 k + sumL (fun r => pys T (-1) (w.1 255) p r) x.2.2 else w.1 261 k) → (∀ k, w'.1 262 k = w.1 262 k + sumL (fun r => if w.1 255 r = k then pys T (-1) (w.1 255) p r else 0) x.2.2) → (∀ k, w'.1 257 k = w.1 257 k + (if k ∈ x.2.2 then 1 else 0)) → (∀ k, w'.1 256 k = w.1 256 k + (if k ∈ x.2.2 then pys T (-1) (w.1 255) p k else 0)) → P w') : CV (m_X4_payForWay F [vR 254, vI p] w) P := by
  obtain ⟨b1, b2, b3, b4, b5⟩ := hB
  have a1 := hT.2.1
  have a2 := hT.2.2.1
  refine wp_X4_payForWay F p w _ ?_
  refine tt_for (K := k_X4_payForWay_2 F) (x.2.2.length : Int) (fun i w' l => Fr Spay w w' ∧ 0 ≤ i ∧ i ≤ x.2.2.length ∧ (∃ v5 v6, l = [vR 254, vI p, vI i, v5, v6]) ∧ (∀ k, w'.1 261 k = if k = p.toNat then w.1 261 k + sumL (fun r => pys T (-1) (w.1 255) p r) (x.2.2.take i.toNat) else w.1 261 k) ∧ (∀ k, w'.1 262 k = w.1 262 k + sumL (fun r => if w.1 255 r = k then pys T (-1) (w.1 255) p r else 0) (x.2.2.take i.toNat)) ∧ (∀ k, w'.1 257 k = w.1 257 k + (if k ∈ x.2.2.take i.toNat then 1 else 0)) ∧ (∀ k, w'.1 256 k = w.1 256 k + (if k ∈ x.2.2.take i.toNat then pys T (-1) (w.1 255) p k else 0))) ?_ F 0 _ w (by omega) ⟨Fr.rf, by omega, by omega, ⟨vU, vU, rfl⟩, fun k => by show _ = if k = p.toNat then w.1 261 k + 0 else w.1 261 k; split <;> omega, fun k => by show _ = w.1 262 k + 0; omega, fun k => by show _ = w.1 257 k + (if k ∈ ([] : List Nat) then 1 else 0); rw [if_neg (show ¬ k ∈ ([] : List Nat) by simp)]; omega, fun k => by show _ = w.1 256 k + (if k ∈ ([] : List Nat) then _ else 0); rw [if_neg (show ¬ k ∈ ([] : List Nat) by simp)]; omega⟩
  rintro n i l w1 ⟨f1, hi0, hi1, ⟨v5, v6, rfl⟩, g28, g29, g31, g32⟩ hk
  have e255 : w1.1 255 = w.1 255 := by funext k; exact f1.I 255 k (by simp [Spay])
  have hX1 : HX j 255 T (w.1 255) p kind w1 := hX.fr f1 (by intro a k; simp only [SHX, Spay]; unfold apart at hja; omega)
  rw [ks_X4_payForWay_2]
  refine wp_X4_payForWay_2 F _ p i v5 v6 w1 _ ?_
  rw [f1.I 227 2 (by simp [Spay]), b2, w_id (x := i) (by omega) (by omega), w_id (x := (x.2.2.length : Int)) (by omega) (by omega)]
  refine ⟨fun q => ⟨⟨hi0, by omega⟩, fun x2 ex2 => ?_⟩, fun q => q_v ?_⟩
  · have hlt : i.toNat < x.2.2.length := by omega
    obtain ⟨r, hrd⟩ : ∃ r, x.2.2[i.toNat] = r := ⟨_, rfl⟩
    rw [f1.I 234 _ (by simp [Spay]), b5 _ hlt, List.getD_eq_getElem?_getD, List.getElem?_eq_getElem hlt, hrd] at ex2
    have ex2 : x2 = (r : Int) := ex2
    subst ex2
    have hR := hr r (by rw [← hrd]; exact List.getElem_mem hlt)
    have h0 : (0 : Int) ≤ r := by omega
    have h1 : (r : Int) < T 1 := by omega
    have htk : x.2.2.take (i + 1).toNat = x.2.2.take i.toNat ++ [r] := by
      rw [show (i + 1).toNat = i.toNat + 1 from by omega, List.take_succ_eq_append_getElem hlt, hrd]
    obtain ⟨pre, hpre⟩ : ∃ pre, x.2.2.take i.toNat = pre := ⟨_, rfl⟩
    rw [hpre] at htk g28 g29 g31 g32
    have hnp : r ∉ pre := by
      have hsub : (pre ++ [r]).Nodup := by rw [← htk]; exact List.Nodup.sublist (List.take_sublist _ _) hnd
      rw [List.nodup_append] at hsub
      intro z
      exact hsub.2.2 r z r (by simp) rfl
    have hOr := hO r h0 h1
    rw [Int.toNat_natCast] at hOr
    have hpb := pys_b (fr := -1) (p := p) (O := w.1 255) hT h0 h1
    refine ci_toll hj ⟨rfl, rfl⟩ hX1 hT hO ⟨by omega, by omega⟩ h0 h1 ⟨⟨h0, by omega⟩, ⟨h0, by omega⟩, fun w2 e2 => ⟨⟨h0, by omega⟩, ⟨h0, by omega⟩, fun w3 e3 => ⟨⟨hp0, by omega⟩, ⟨hp0, by omega⟩, fun w4 e4 => ⟨⟨h0, by omega⟩, ?_⟩⟩⟩⟩
    rw [Int.toNat_natCast] at e2 e3 ⊢
    have f4 : Fr Spay w w4 := by rw [e4, e3, e2]; exact ((f1.wI _ (by simp [Spay])).wI _ (by simp [Spay])).wI _ (by simp [Spay])
    have o4 : w4.1 255 r = w.1 255 r := f4.I 255 r (by simp [Spay])
    rw [o4, w_id (x := w.1 255 r) (by omega) (by omega)]
    have h61 : ∀ k, w4.1 261 k = if k = p.toNat then w.1 261 k + sumL (fun r => pys T (-1) (w.1 255) p r) (pre ++ [r]) else w.1 261 k := by
      intro k
      have e : ∀ k, w3.1 261 k = w1.1 261 k := fun k => by rw [e3, wI_cell _ _ _ _ (by decide), e2, wI_cell _ _ _ _ (by decide)]
      rw [e4, wI_at, sumL_snoc]
      by_cases z : k = p.toNat
      · rw [if_pos ⟨rfl, z⟩, if_pos z, z, e, g28, if_pos rfl]; omega
      · rw [if_neg (fun y => z y.2), if_neg z, e, g28, if_neg z]
    have h57 : ∀ k, w4.1 257 k = w.1 257 k + (if k ∈ pre ++ [r] then 1 else 0) := by
      intro k
      rw [e4, wI_cell _ _ _ _ (by decide), e3, wI_cell _ _ _ _ (by decide), e2, wI_at]
      by_cases z : k = r
      · rw [if_pos ⟨rfl, z⟩, z, g31, if_neg hnp, if_pos (show r ∈ pre ++ [r] by simp)]; omega
      · rw [if_neg (fun y => z y.2), g31]
        by_cases y : k ∈ pre
        · rw [if_pos y, if_pos (show k ∈ pre ++ [r] by simp [y])]
        · rw [if_neg y, if_neg (show ¬ k ∈ pre ++ [r] by simp [y, z])]
    have h56 : ∀ k, w4.1 256 k = w.1 256 k + (if k ∈ pre ++ [r] then pys T (-1) (w.1 255) p k else 0) := by
      intro k
      rw [e4, wI_cell _ _ _ _ (by decide), e3, wI_at]
      by_cases z : k = r
      · rw [if_pos ⟨rfl, z⟩, z, e2, wI_cell _ _ _ _ (by decide), g32, if_neg hnp, if_pos (show r ∈ pre ++ [r] by simp)]; omega
      · rw [if_neg (fun y => z y.2), e2, wI_cell _ _ _ _ (by decide), g32]
        by_cases y : k ∈ pre
        · rw [if_pos y, if_pos (show k ∈ pre ++ [r] by simp [y])]
        · rw [if_neg y, if_neg (show ¬ k ∈ pre ++ [r] by simp [y, z])]
    have h62 : ∀ k, w4.1 262 k = w1.1 262 k := fun k => by rw [e4, wI_cell _ _ _ _ (by decide), e3, wI_cell _ _ _ _ (by decide), e2, wI_cell _ _ _ _ (by decide)]
    refine ⟨fun z => wp_X4_payForWay_91 F _ p i r _ w4 _ (hk _ _ ⟨f4, by omega, by omega, ⟨_, _, rfl⟩, ?_, fun k => ?_, ?_, ?_⟩ q), fun z => ⟨⟨h0, by omega⟩, ⟨by omega, by omega⟩, ⟨by omega, by omega⟩, fun w5 e5 => wp_X4_payForWay_91 F _ p i r _ w5 _ (hk _ _ ⟨by rw [e5]; exact f4.wI _ (by simp [Spay]), by omega, by omega, ⟨_, _, rfl⟩, fun k => ?_, fun k => ?_, fun k => ?_, fun k => ?_⟩ q)⟩⟩
    · rw [htk]; exact h61
    · rw [htk, h62, g29, sumL_snoc, z, if_neg (by omega)]; omega
    · rw [htk]; exact h57
    · rw [htk]; exact h56
    · rw [htk, e5, wI_cell _ _ _ _ (by decide)]; exact h61 k
    · rw [htk, e5, wI_at, sumL_snoc]
      by_cases y : k = (w.1 255 r).toNat
      · rw [if_pos ⟨rfl, y⟩, if_pos (by omega), ← y, h62, g29]; omega
      · rw [if_neg (fun u => y u.2), if_neg (by omega), h62, g29]; omega
    · rw [htk, e5, wI_cell _ _ _ _ (by decide)]; exact h57 k
    · rw [htk, e5, wI_cell _ _ _ _ (by decide)]; exact h56 k
  · have hle : x.2.2.take i.toNat = x.2.2 := List.take_of_length_le (by omega)
    rw [hle] at g28 g29 g31 g32
    exact hp w1 f1 g28 g29 g31 g32
/-- what the outing writes -/
abbrev Sout (j k : Nat) : Prop := (234 ≤ j ∧ j ≤ 238) ∨ (255 ≤ j ∧ j ≤ 263) ∨ j = 227 ∨ (j = 254 ∧ (k = 3 ∨ k = 4))
set_option maxHeartbeats 4000000 in
theorem cv_errand {F : Nat} {j : Nat} {T : Nat → Int} {kind bg K p to mi : Int} {e : Nat} {x : Cd} {w : AW} {P : AW → Prop} (hF : FB F) (hj : isTw j) (hja : apart j) (hX : HX j 255 T (w.1 255) p kind w) (hT : TK T) (hO : OK T (w.1 255)) (hL : L3 T (w.1 255)) (he : (e : Int) < T 3) (hpe : p = eW T e) (hte : to = eP T e) (hme : mi = eM T e) (hbg : bg = (if mi < w.1 259 p.toNat then w.1 259 p.toNat else mi)) (hbgr : 0 ≤ bg ∧ bg ≤ 100000) (hst : 0 ≤ w.1 258 p.toNat ∧ w.1 258 p.toNat < T 0) (hla : 0 ≤ w.1 254 3 ∧ w.1 254 3 ≤ 100000) (hne : w.1 258 p.toNat ≠ to) (hb : bst T (-1) (w.1 255) p (pK T p) bg (w.1 258 p.toNat) to = some x) (hB : BC w K (some x)) (hp : ∀ w', FrX Sout w w' → ZE T (CZ w') (gOne T (-1) p to mi (CZ w)) → P w') : CV (m_X4_walkBest F [vR 254, vR j, vI e, vI bg] w) P := by
  have a0 := hT.1
  have a2 := hT.2.2.1
  have a3 := hT.2.2.2.1
  have her := hT.erra (e := e) (by omega) he
  have hce := hX.2.2.1.erra (e := e) (by omega) he
  rw [Int.toNat_natCast, ← hpe, ← hte, ← hme] at hce
  rw [← hpe, ← hte, ← hme] at her
  have hp0 := her.1.1
  have hp1 := her.1.2
  have hrow := bst_row hT hb
  have hmin := bst_mins hT hp0 hp1 hbgr.1 hne hb
  obtain ⟨c1, c2, c3, c4, c5⟩ := id hB
  refine wp_X4_walkBest F j hj e bg w _ ⟨⟨by omega, by omega⟩, fun x1 ex1 => ⟨⟨by omega, by omega⟩, fun x3 ex3 => ?_⟩⟩
  rw [Int.toNat_natCast, hce.1] at ex1
  rw [Int.toNat_natCast, hce.2.1] at ex3
  subst ex1 ex3
  intro x5 ex5
  rw [c3] at ex5
  refine ⟨⟨hp0, by omega⟩, ⟨hp0, by omega⟩, fun w1 e1 => ⟨⟨hp0, by omega⟩, ⟨hp0, by omega⟩, ?_⟩⟩
  have k258 : w1.1 258 x1.toNat = w.1 258 x1.toNat := by rw [e1, wI_cell _ _ _ _ (by decide)]
  rw [k258]
  refine ⟨⟨by omega, by omega⟩, ⟨hp0, by omega⟩, fun w2 e2 => ⟨⟨by omega, by omega⟩, fun w3 e3 w4 e4 => ⟨⟨hp0, by omega⟩, fun w5 e5 => ⟨⟨hp0, by omega⟩, fun w6 e6 => ?_⟩⟩⟩⟩
  -- how far it is
  have hfar : w1.1 232 (w.1 258 x1.toNat * 9 + x3).toNat = dsv T (w.1 258 x1.toNat) x3 := by
    rw [e1, wI_cell _ _ _ _ (by decide)]
    rcases hX.2.2.2.1.2.1 (w.1 258 x1.toNat) x3 hst.1 hst.2 her.2.1.1 her.2.1.2 with ⟨-, z⟩ | z
    · exfalso
      have hm := hrow.1
      rw [bsl_way hne] at hm
      obtain ⟨nn, hw⟩ := Wy_walk _ _ _ _ _ _ _ hm
      exact z _ _ hw
    · exact (dsv_eq z).symm
  rw [hfar] at e2
  have f2 : FrX Sout w w2 := by rw [e2, e1]; exact (FrX.rf.wI _ (by simp [Sout])).wI _ (by simp [Sout])
  have hmin2 : w2.1 (j + 12) ((e : Int)).toNat = mi := by
    rw [f2.I _ _ (by simp only [Sout]; unfold apart at hja; omega), Int.toNat_natCast]; exact hce.2.2.1
  rw [hmin2] at e3
  have c43 : w3.1 227 3 = x.2.1 := by rw [e3, wI_cell _ _ _ _ (by decide), e2, wI_cell _ _ _ _ (by decide), e1, wI_cell _ _ _ _ (by decide)]; exact c3
  have c254 : w3.1 254 3 = w.1 254 3 := by rw [e3, wI_idx _ _ _ _ (by decide), e2, wI_cell _ _ _ _ (by decide), e1, wI_cell _ _ _ _ (by decide)]
  rw [c43, c254, w_id (x := w.1 254 3) (by omega) (by omega), w_id (x := x.2.1) (by omega) (by omega)] at e4
  have c53 : w5.1 227 3 = x.2.1 := by rw [e5, wI_cell _ _ _ _ (by decide), e4, wI_cell _ _ _ _ (by decide)]; exact c43
  rw [c53] at e6
  have f6 : Fr (fun a k => (258 ≤ a ∧ a ≤ 260) ∨ a = 263 ∨ (a = 254 ∧ (k = 3 ∨ k = 4))) w w6 := by
    rw [e6, e5, e4, e3, e2, e1]
    exact (((((Fr.rf.wI _ (by simp)).wI _ (by simp)).wI _ (by simp)).wI _ (by simp)).wI _ (by simp)).wI _ (by simp)
  have e255 : w6.1 255 = w.1 255 := by funext k; exact f6.I 255 k (by omega)
  have hX6 : HX j 255 T (w6.1 255) x1 kind w6 := by rw [e255]; exact hX.fr f6 (by intro a k; simp only [SHX]; unfold apart at hja; omega)
  have hB6 : BC w6 K (some x) := hB.fr f6 (by omega) (by omega) (by omega) (by omega)
  refine cv_payForWay hF hj hja hX6 hT (by rw [e255]; exact hO) hp0 hp1 hB6 (by omega) hmin.2.2 hrow.2.2.2.1 (fun w7 f7 g61 g62 g57 g56 => ?_)
  rw [e255] at g61 g62 g56 hX6
  have hX7 : HX j 255 T (w.1 255) x1 kind w7 := hX6.fr f7 (by intro a k; simp only [SHX, Spay]; unfold apart at hja; omega)
  refine cv_takeRoads hF hj hja ⟨rfl, rfl⟩ (Or.inr rfl) hX7 hT hO hL hp0 hp1 hbgr (hB6.fr f7 (by simp [Spay]) (by simp [Spay]) (by simp [Spay]) (by simp [Spay])) (by omega) hmin.2.2 hrow.2.2.2.1 (fun w8 f8 g55 => q_v ?_)
  have hbg2 : (if mi < CZ w 2 x1.toNat then CZ w 2 x1.toNat else mi) = bg := hbg.symm
  have hne1 : ¬ CZ w 1 x1.toNat = x3 := hne
  have hG : ∀ f k, gOne T (-1) x1 x3 mi (CZ w) f k = (match f with
      | 0 => wO T (-1) (w.1 255) x1 bg x.2.2 k
      | 1 => if k = x1.toNat then x3 else w.1 258 k
      | 2 => if k = x1.toNat then x.2.1 else w.1 259 k
      | 3 => if k = x1.toNat then w.1 260 k + (x.2.1 - bg) else w.1 260 k
      | 4 => if k = x1.toNat then w.1 261 k + sumL (fun r => pys T (-1) (w.1 255) x1 r) x.2.2 else w.1 261 k
      | 5 => w.1 262 k + sumL (fun r => if w.1 255 r = k then pys T (-1) (w.1 255) x1 r else 0) x.2.2
      | 6 => if k = x1.toNat then w.1 263 k + (x.2.1 - bg - dsv T (w.1 258 x1.toNat) x3) else w.1 263 k
      | 7 => w.1 257 k + (if k ∈ x.2.2 then 1 else 0)
      | 8 => w.1 256 k + (if k ∈ x.2.2 then pys T (-1) (w.1 255) x1 k else 0)
      | _ => if k = 0 then (if w.1 254 3 < x.2.1 then x.2.1 else w.1 254 3) else w.1 254 4 + (bg - mi)) := by
    intro f k
    unfold gOne
    rw [if_neg hne1, hbg2]
    have hb' : bst T (-1) (CZ w 0) x1 (pK T x1) bg (CZ w 1 x1.toNat) x3 = some x := hb
    rw [hb']
    rfl
  have c8 : ∀ a k, a ≠ 255 → w8.1 a k = w7.1 a k := fun a k z => f8.I a k z
  refine hp w8 ?_ ⟨fun r hr => ?_, fun s hs => ⟨?_, ?_⟩, fun s hs => ⟨?_, ?_, ?_, ?_⟩, fun r hr => ⟨?_, ?_⟩, ?_, ?_⟩
  · exact ((f6.X.wk (S' := Sout) (by intro a k; simp only [Sout]; omega)).tr (f7.X.wk (by intro a k; simp only [Sout, Spay]; omega))).tr (f8.X.wk (by intro a k; simp only [Sout]; omega))
  · rw [hG]; exact g55 r hr
  · rw [hG]; show w8.1 258 s = if s = x1.toNat then x3 else w.1 258 s
    rw [c8 258 s (by decide), f7.I 258 s (by simp [Spay]), e6, wI_cell _ _ _ _ (by decide), e5, wI_at]
    by_cases z : s = x1.toNat
    · rw [if_pos ⟨rfl, z⟩, if_pos z]
    · rw [if_neg (fun y => z y.2), if_neg z, e4, wI_cell _ _ _ _ (by decide), e3, wI_cell _ _ _ _ (by decide), e2, wI_cell _ _ _ _ (by decide), e1, wI_cell _ _ _ _ (by decide)]
  · rw [hG]; show w8.1 259 s = if s = x1.toNat then x.2.1 else w.1 259 s
    rw [c8 259 s (by decide), f7.I 259 s (by simp [Spay]), e6, wI_at]
    by_cases z : s = x1.toNat
    · rw [if_pos ⟨rfl, z⟩, if_pos z]
    · rw [if_neg (fun y => z y.2), if_neg z, e5, wI_cell _ _ _ _ (by decide), e4, wI_cell _ _ _ _ (by decide), e3, wI_cell _ _ _ _ (by decide), e2, wI_cell _ _ _ _ (by decide), e1, wI_cell _ _ _ _ (by decide)]
  · rw [hG]; show w8.1 260 s = if s = x1.toNat then w.1 260 s + (x.2.1 - bg) else w.1 260 s
    rw [c8 260 s (by decide), f7.I 260 s (by simp [Spay]), e6, wI_cell _ _ _ _ (by decide), e5, wI_cell _ _ _ _ (by decide), e4, wI_cell _ _ _ _ (by decide), e3, wI_cell _ _ _ _ (by decide), e2, wI_cell _ _ _ _ (by decide), e1, wI_at]
    by_cases z : s = x1.toNat
    · rw [if_pos ⟨rfl, z⟩, if_pos z, z, ex5]
    · rw [if_neg (fun y => z y.2), if_neg z]
  · rw [hG]; show w8.1 261 s = if s = x1.toNat then w.1 261 s + sumL (fun r => pys T (-1) (w.1 255) x1 r) x.2.2 else w.1 261 s
    rw [c8 261 s (by decide), g61, f6.I 261 s (by omega)]
  · rw [hG]; show w8.1 262 s = w.1 262 s + sumL (fun r => if w.1 255 r = s then pys T (-1) (w.1 255) x1 r else 0) x.2.2
    rw [c8 262 s (by decide), g62, f6.I 262 s (by omega)]
  · rw [hG]; show w8.1 263 s = if s = x1.toNat then w.1 263 s + (x.2.1 - bg - dsv T (w.1 258 x1.toNat) x3) else w.1 263 s
    rw [c8 263 s (by decide), f7.I 263 s (by simp [Spay]), e6, wI_cell _ _ _ _ (by decide), e5, wI_cell _ _ _ _ (by decide), e4, wI_cell _ _ _ _ (by decide), e3, wI_cell _ _ _ _ (by decide), e2, wI_at]
    have e63 : ∀ k, w1.1 263 k = w.1 263 k := fun k => by rw [e1, wI_cell _ _ _ _ (by decide)]
    by_cases z : s = x1.toNat
    · rw [if_pos ⟨rfl, z⟩, if_pos z, z, ex5, e63]
    · rw [if_neg (fun y => z y.2), if_neg z, e63]
  · rw [hG]; show w8.1 257 r = w.1 257 r + (if r ∈ x.2.2 then 1 else 0)
    rw [c8 257 r (by decide), g57, f6.I 257 r (by omega)]
  · rw [hG]; show w8.1 256 r = w.1 256 r + (if r ∈ x.2.2 then pys T (-1) (w.1 255) x1 r else 0)
    rw [c8 256 r (by decide), g56, f6.I 256 r (by omega)]
  · rw [hG]; show w8.1 254 3 = if (0 : Nat) = 0 then (if w.1 254 3 < x.2.1 then x.2.1 else w.1 254 3) else _
    rw [if_pos rfl, c8 254 3 (by decide), f7.I 254 3 (by simp [Spay]), e6, wI_cell _ _ _ _ (by decide), e5, wI_cell _ _ _ _ (by decide), e4, wI_same]
  · rw [hG]; show w8.1 254 4 = if (1 : Nat) = 0 then _ else w.1 254 4 + (bg - mi)
    rw [if_neg (show ¬ ((1 : Nat) = 0) by decide), c8 254 4 (by decide), f7.I 254 4 (by simp [Spay]), e6, wI_cell _ _ _ _ (by decide), e5, wI_cell _ _ _ _ (by decide), e4, wI_idx _ _ _ _ (by decide), e3, wI_same, e2, wI_cell _ _ _ _ (by decide), e1, wI_cell _ _ _ _ (by decide)]
