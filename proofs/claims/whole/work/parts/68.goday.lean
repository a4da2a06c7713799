/-! THE CLASS'S DAY -/
theorem ci_order {F : Nat} {j : Nat} {T : Nat → Int} {set : Int} {w : AW} {P : Int → AW → Prop} (hF : FB F) (hj : isTw j) (hja : apart j) (hC : CA w j T) (hT : TK T) (hset : nB set) (hp : ∀ w', Fr (fun a _ => a = 264) w w' → (∀ i, i < (ordl T set).length → w'.1 264 i = ((ordl T set).getD i 0 : Nat)) → P (ordl T set).length w') : CI (m_X4_putInOrder F [vR 254, vR j, vI set] w) P := by
  have a3 := hT.2.2.2.1
  refine wp_X4_putInOrder F j hj set w _ ?_
  refine tt_for (K := k_X4_putInOrder_5 F) (T 3) (fun i w' l => Fr (fun a _ => a = 264) w w' ∧ 0 ≤ i ∧ i ≤ T 3 ∧ ∃ (es : List Nat) (v : AV), l = [vR 254, vR j, vI set, vI es.length, vI i, v] ∧ OrdOf T set i.toNat es ∧ ∀ k, k < es.length → w'.1 264 k = (es.getD k 0 : Nat)) ?_ F 0 _ w (by omega) ⟨Fr.rf, by omega, by omega, [], vU, rfl, ⟨List.Pairwise.nil, fun e => ⟨fun h => (by cases h), fun h => absurd h.1 (Nat.not_lt_zero e)⟩, Nat.le_refl 0⟩, fun k hk => absurd hk (Nat.not_lt_zero k)⟩
  rintro n i l w1 ⟨f1, hi0, hi1, es, v, rfl, ho, hes⟩ hk
  have hC1 : CA w1 j T := hC.fr f1 (by intro a k h1 h2; unfold apart at hja; omega)
  have hlen := ho.2.2
  rw [ks_X4_putInOrder_5]
  refine wp_X4_putInOrder_5 F _ j hj set es.length i v w1 _ ?_
  rw [hC1.2.2.2.1, w_id (x := i) (by omega) (by omega), w_id (x := T 3) (by omega) (by omega), tst0 hset hi0 (by omega)]
  refine ⟨fun q => ⟨fun q2 => wp_X4_putInOrder_89 F _ j hj set es.length i v w1 _ (hk _ _ ⟨f1, by omega, by omega, es, v, rfl, ?_, hes⟩ q), fun q2 => ?_⟩, fun q => q_i ?_⟩
  · rw [show (i + 1).toNat = i.toNat + 1 from by omega]
    exact Ord_skip ho q2
  · have hbit : tb set i.toNat = true := by
      cases h : tb set i.toNat with
      | true => rfl
      | false => exact absurd h q2
    have hmi := hC1.erra hi0 q
    have hri := hT.erra hi0 q
    -- the later ones are moved up
    refine tt_loop (K := k_X4_putInOrder_26 F (k_X4_putInOrder_5 F n)) (fun m lo w' => ∃ (l1 l2 : List Nat), m = l1.length ∧ es = l1 ++ l2 ∧ lo = [vR 254, vR j, vI set, vI es.length, vI i, vI l1.length] ∧ Fr (fun a _ => a = 264) w w' ∧ (∀ a ∈ l2, eM T i < eM T a) ∧ (∀ k, k < l1.length → w'.1 264 k = (l1.getD k 0 : Nat)) ∧ (∀ k, k < l2.length → w'.1 264 (l1.length + 1 + k) = (l2.getD k 0 : Nat))) ?_ es.length F _ w1 (by omega) ⟨es, [], rfl, by simp, rfl, f1, fun a ha => (by cases ha), hes, fun k hk' => absurd hk' (Nat.not_lt_zero k)⟩
    rintro m mm lo w2 ⟨l1, l2, hm, hsp, rfl, f2, hgt, h1, h2⟩ hcont
    have hC2 : CA w2 j T := hC.fr f2 (by intro a k h1 h2; unfold apart at hja; omega)
    have hmi2 := (hC2.erra hi0 q).2.2.1
    have hl12 : l1.length + l2.length = es.length := by rw [hsp]; simp
    -- the place is found
    have put : (∀ a ∈ l1, eM T a ≤ eM T i) → TT (k_X4_putInOrder_77 F (k_X4_putInOrder_5 F n) [vR 254, vR j, vI set, vI es.length, vI i, vI l1.length] [] w2) (qq 1 (fun r w => ∃ x, r = some (vI x) ∧ P x w)) := by
      intro hle
      refine wp_X4_putInOrder_77 F _ j hj set es.length i l1.length w2 _ ⟨⟨by omega, by omega⟩, fun w3 e3 => wp_X4_putInOrder_89 F _ j hj set _ i _ w3 _ (hk _ _ ⟨by rw [e3]; exact f2.wI _ rfl, by omega, by omega, l1 ++ i.toNat :: l2, vI l1.length, ?_, ?_, fun k hk' => ?_⟩ q)⟩
      · rw [show ((l1 ++ i.toNat :: l2).length : Int) = (es.length : Int) + 1 from by rw [List.length_append, List.length_cons]; omega]
      · rw [show (i + 1).toNat = i.toNat + 1 from by omega]
        rw [hsp] at ho
        refine Ord_ins ho hbit (fun a ha => ?_) (fun a ha => ?_)
        · rw [Int.toNat_of_nonneg hi0]; exact hle a ha
        · rw [Int.toNat_of_nonneg hi0]; exact hgt a ha
      · rw [e3, wI_at, Int.toNat_natCast]
        rw [List.length_append, List.length_cons] at hk'
        by_cases z : k = l1.length
        · rw [if_pos ⟨rfl, z⟩, z, List.getD_eq_getElem?_getD, List.getElem?_append_right (Nat.le_refl _)]
          simp
          omega
        · rw [if_neg (fun y => z y.2)]
          by_cases y : k < l1.length
          · rw [h1 k y, List.getD_eq_getElem?_getD, List.getD_eq_getElem?_getD, List.getElem?_append_left y]
          · obtain ⟨k', rfl⟩ : ∃ k', k = l1.length + 1 + k' := ⟨k - l1.length - 1, by omega⟩
            rw [h2 k' (by omega), List.getD_eq_getElem?_getD, List.getD_eq_getElem?_getD, List.getElem?_append_right (by omega), show l1.length + 1 + k' - l1.length = k' + 1 from by omega, List.getElem?_cons_succ]
    rw [ks_X4_putInOrder_26]
    refine wp_X4_putInOrder_26 F _ _ j hj set es.length i l1.length w2 _ ?_
    rw [w_id (x := (l1.length : Int)) (by omega) (by omega)]
    refine ⟨fun z => ?_, fun z => put (fun a ha => ?_)⟩
    · obtain ⟨l0, y, hl1⟩ : ∃ l0 y, l1 = l0 ++ [y] := ⟨l1.dropLast, l1.getLast (by intro e; rw [e] at z; simp at z), (List.dropLast_concat_getLast _).symm⟩
      have hl0 : l1.length = l0.length + 1 := by rw [hl1]; simp
      have hy : w2.1 264 ((l1.length : Int) - 1).toNat = (y : Nat) := by
        rw [show ((l1.length : Int) - 1).toNat = l0.length from by omega, h1 _ (by omega), hl1, List.getD_eq_getElem?_getD, List.getElem?_append_right (Nat.le_refl _)]
        simp
      have hye : y ∈ es := by rw [hsp, hl1]; simp
      have hy3 := ((ho.2.1 y).mp hye).1
      have hry := hT.erra (e := y) (by omega) (by omega)
      have hmy := (hC2.erra (e := y) (by omega) (by omega)).2.2.1
      rw [hy, hmi2, hmy, w_id (x := eM T i) (by omega) (by omega), w_id (x := eM T y) (by omega) (by omega)]
      refine ⟨⟨by omega, by omega⟩, ⟨by omega, by omega⟩, ⟨hi0, by omega⟩, fun u => ⟨⟨by omega, by omega⟩, ⟨by omega, by omega⟩, fun w3 e3 => hcont l0.length _ w3 (by omega) ⟨l0, y :: l2, rfl, by rw [hsp, hl1]; simp, ?_, by rw [e3]; exact f2.wI _ rfl, fun a ha => ?_, fun k hk' => ?_, fun k hk' => ?_⟩⟩, fun u => put (fun a ha => ?_)⟩
      · rw [show (l1.length : Int) + (-1) = (l0.length : Int) from by omega]
      · rcases List.mem_cons.mp ha with e | e
        · rw [e]; exact u
        · exact hgt a e
      · rw [e3, wI_idx _ _ _ _ (by omega), h1 k (by omega), hl1, List.getD_eq_getElem?_getD, List.getD_eq_getElem?_getD, List.getElem?_append_left hk']
      · rw [e3, wI_at, Int.toNat_natCast]
        cases k with
        | zero => rw [if_pos ⟨rfl, by omega⟩]; rfl
        | succ k =>
          rw [if_neg (by omega), show l0.length + 1 + (k + 1) = l1.length + 1 + k from by omega, h2 k (by simp at hk'; omega)]
          rfl
      · rw [hl1] at ha
        rcases List.mem_append.mp ha with e | e
        · have hp2 : Ord T (l0 ++ ([y] ++ l2)) := by
            have := ho.1
            rw [hsp, hl1, List.append_assoc] at this
            exact this
          have := (List.pairwise_append.mp hp2).2.2 a e y (by simp)
          unfold elt' at this
          omega
        · have : a = y := by simpa using e
          rw [this]; omega
    · have hz : l1 = [] := by
        cases l1 with
        | nil => rfl
        | cons a l => exact absurd (by rw [List.length_cons]; omega) z
      rw [hz] at ha
      cases ha
  · have hi : i.toNat = (T 3).toNat := by omega
    rw [hi] at ho
    have := ordl_eq ho
    rw [this] at hes ⊢
    exact hp w1 f1 hes
theorem gOne_L3 {T : Nat → Int} {p to mi : Int} {Z : Nat → Nat → Int} (h : L3 T (Z 0)) : L3 T (gOne T (-1) p to mi Z 0) := by
  intro h3 r hr
  unfold gOne
  generalize (if Z 1 p.toNat = to then none else bst T (-1) (Z 0) p (pK T p) (if mi < Z 2 p.toNat then Z 2 p.toNat else mi) (Z 1 p.toNat) to) = o
  cases o with
  | none => exact h h3 r hr
  | some x =>
    show wO T (-1) (Z 0) p _ x.2.2 r = -1
    unfold wO
    split
    · rw [obh_n (fun c => by unfold cms at c; omega), Int.toNat_natCast]; exact h h3 r hr
    · exact h h3 r hr
theorem gAll_L3 {T : Nat → Int} : ∀ (es : List Nat) (Z : Nat → Nat → Int), L3 T (Z 0) → L3 T (gAll T (-1) es Z 0)
  | [], Z, h => h
  | e :: es, Z, h => gAll_L3 es _ (gOne_L3 h)
theorem gAll_ZB {T : Nat → Int} {fr : Int} (hT : TK T) : ∀ (es : List Nat) (n : Int) (Z : Nat → Nat → Int), 0 ≤ n → n + es.length ≤ 20 → (∀ e ∈ es, (e : Int) < T 3) → ZB T n Z → ZB T (n + es.length) (gAll T fr es Z)
  | [], n, Z, _, _, _, h => by
    show ZB T (n + 0) Z
    rw [Int.add_zero]; exact h
  | e :: es, n, Z, h0, h1, he, h => by
    have her := hT.erra (e := e) (by omega) (he e List.mem_cons_self)
    have hl : ((e :: es).length : Int) = (es.length : Int) + 1 := by simp
    rw [hl] at h1 ⊢
    have := gAll_ZB (fr := fr) hT es (n + 1) _ (by omega) (by omega) (fun a ha => he a (List.mem_cons_of_mem _ ha)) (gOne_ZB (fr := fr) hT her.1.1 her.1.2 her.2.1 her.2.2.1 (by omega) h)
    rw [show n + ((es.length : Int) + 1) = n + 1 + (es.length : Int) from by omega]
    exact this
abbrev Sgd (j k : Nat) : Prop := Sout j k ∨ j = 264
set_option maxHeartbeats 4000000 in
theorem cv_goDay {F : Nat} {j : Nat} {T : Nat → Int} {set : Int} {w : AW} {P : AW → Prop} (hF : FB F) (hj : isTw j) (hja : apart j) (hC : CA w j T) (hCH : CH T w) (hT : TK T) (hO : OK T (w.1 255)) (hL : L3 T (w.1 255)) (hla : 0 ≤ w.1 254 3 ∧ w.1 254 3 ≤ 100000) (hset : nB set) (hp : ∀ w', FrX Sgd w w' → ZE T (CZ w') (gDay T (-1) set (CZ w)) → P w') : CV (m_X4_goDay F [vR 254, vR j, vI set] w) P := by
  have a0 := hT.1
  have a2 := hT.2.2.1
  have a3 := hT.2.2.2.1
  refine wp_X4_goDay F j hj set w _ ?_
  intro w1 e1
  have f1 : Fr (fun a _ => a = 258 ∨ a = 259 ∨ a = 264) w w1 := by rw [e1]; exact Fr.rf.wC (fun k _ _ => Or.inl rfl)
  refine cv_fill (n := 8) hF ⟨rfl, rfl⟩ (by omega) (fun w2 f2 h2 => ?_)
  have f2' : Fr (fun a _ => a = 258 ∨ a = 259 ∨ a = 264) w w2 := f1.tr (f2.wk (by intro a k h; exact Or.inr (Or.inl h)))
  have hC2 : CA w2 j T := hC.fr f2' (by intro a k h1 h2; unfold apart at hja; omega)
  refine ci_order hF hj hja hC2 hT hset (fun w3 f3 h3 => ?_)
  have f3' : Fr (fun a _ => a = 258 ∨ a = 259 ∨ a = 264) w w3 := f2'.tr (f3.wk (by intro a k h; exact Or.inr (Or.inr h)))
  have hord := ordl_ok T set
  obtain ⟨es, hes⟩ : ∃ es, ordl T set = es := ⟨_, rfl⟩
  rw [hes] at h3 hord ⊢
  have hlen := hord.2.2
  have hlt : ∀ e ∈ es, (e : Int) < T 3 := fun e he => by have := (hord.2.1 e).mp he; omega
  have hhome : ∀ p : Nat, (p : Int) < T 2 → w3.1 258 p = pH T p := by
    intro p hp'
    rw [f3.I 258 p (by omega), f2.I 258 p (by omega), e1, wC_at, if_pos ⟨rfl, by omega, by omega⟩]
    have := (hC.pers (p := p) (by omega) hp').1
    rw [Int.toNat_natCast] at this
    rw [show 0 + (p - 0) = p from by omega]
    exact this
  have hcame : ∀ p : Nat, (p : Int) < T 2 → w3.1 259 p = 0 := by
    intro p hp'
    rw [f3.I 259 p (by omega)]
    exact h2 p (by omega)
  have hmor : ZE T (CZ w3) (gMor T (CZ w)) := ⟨fun r hr => f3'.I 255 r (by omega), fun p hp' => ⟨hhome p hp', hcame p hp'⟩, fun p hp' => ⟨f3'.I 260 p (by omega), f3'.I 261 p (by omega), f3'.I 262 p (by omega), f3'.I 263 p (by omega)⟩, fun r hr => ⟨f3'.I 257 r (by omega), f3'.I 256 r (by omega)⟩, f3'.I 254 3 (by omega), f3'.I 254 4 (by omega)⟩
  have hZB0 : ZB T 0 (CZ w3) := by
    refine ⟨fun r hr => ?_, fun p hp' => ?_, ?_⟩
    · show -1 ≤ w3.1 255 r ∧ w3.1 255 r < T 2
      rw [f3'.I 255 r (by omega)]
      have := hO r (by omega) hr
      rw [Int.toNat_natCast] at this
      exact this
    · have h2 := (hT.pers (p := p) (by omega) hp').1
      show (0 ≤ w3.1 258 p ∧ w3.1 258 p < T 0) ∧ (0 ≤ w3.1 259 p ∧ w3.1 259 p ≤ 359 + 240 * 0)
      rw [hhome p hp', hcame p hp']
      omega
    · show 0 ≤ w3.1 254 3 ∧ w3.1 254 3 ≤ 100000
      rw [f3'.I 254 3 (by omega)]
      exact hla
  have hL0 : L3 T (w3.1 255) := fun z r hr => by rw [f3'.I 255 r (by omega)]; exact hL z r hr
  refine tt_for (K := k_X4_goDay_33 F) (es.length : Int) (fun i w' l => FrX Sgd w w' ∧ 0 ≤ i ∧ i ≤ es.length ∧ (∃ v5 v6 v7, l = [vR 254, vR j, vI set, vI es.length, vI i, v5, v6, v7]) ∧ (∀ k, k < es.length → w'.1 264 k = (es.getD k 0 : Nat)) ∧ ZB T i (CZ w') ∧ L3 T (w'.1 255) ∧ ZE T (gAll T (-1) (es.drop i.toNat) (CZ w')) (gDay T (-1) set (CZ w))) ?_ F 0 _ w3 (by omega) ⟨f3'.X.wk (by intro a k; simp only [Sgd, Sout]; omega), by omega, by omega, ⟨vU, vU, vU, rfl⟩, h3, hZB0, hL0, ?_⟩
  · rintro n i l w4 ⟨f4, hi0, hi1, ⟨v5, v6, v7, rfl⟩, h4, hZB, hL4, hZE⟩ hk
    have hC4 : CA w4 j T := hC.frX f4 (by intro a k h1 h2; simp only [Sgd, Sout]; unfold apart at hja; omega)
    have hCH4 : CH T w4 := hCH.frX f4 (by intro a k h1 h2; simp only [Sgd, Sout]; omega)
    rw [ks_X4_goDay_33]
    refine wp_X4_goDay_33 F _ j hj set es.length i v5 v6 v7 w4 _ ?_
    rw [w_id (x := i) (by omega) (by omega), w_id (x := (es.length : Int)) (by omega) (by omega)]
    refine ⟨fun q => ⟨⟨hi0, by omega⟩, fun x2 ex2 => ?_⟩, fun q => q_v (hp w4 f4 ?_)⟩
    · have hlti : i.toNat < es.length := by omega
      obtain ⟨e, hed⟩ : ∃ e, es[i.toNat] = e := ⟨_, rfl⟩
      rw [h4 _ hlti, List.getD_eq_getElem?_getD, List.getElem?_eq_getElem hlti, hed] at ex2
      have ex2 : x2 = (e : Int) := ex2
      subst ex2
      have hem : e ∈ es := by rw [← hed]; exact List.getElem_mem hlti
      have he3 := hlt e hem
      have her := hT.erra (e := e) (by omega) he3
      have hce := hC4.erra (e := e) (by omega) he3
      have hdrop : es.drop i.toNat = e :: es.drop (i + 1).toNat := by
        rw [List.drop_eq_getElem_cons hlti, hed, show (i + 1).toNat = i.toNat + 1 from by omega]
      rw [hdrop] at hZE
      refine ⟨⟨by omega, by omega⟩, fun p ep => ⟨⟨by omega, by omega⟩, ?_⟩⟩
      rw [hce.1] at ep
      have hpb : 0 ≤ p ∧ p < T 2 := by rw [ep]; exact her.1
      have hpp := hZB.2.1 p.toNat (by omega)
      have z1 : CZ w4 1 p.toNat = w4.1 258 p.toNat := rfl
      have z2 : CZ w4 2 p.toNat = w4.1 259 p.toNat := rfl
      rw [z1, z2] at hpp
      refine ⟨⟨by omega, by omega⟩, fun bg ebg => ⟨⟨by omega, by omega⟩, ?_⟩⟩
      rw [hce.2.2.1, w_id (x := eM T e) (by omega) (by omega), w_id (x := w4.1 259 p.toNat) (by omega) (by omega)] at ebg
      have hbgr : 0 ≤ bg ∧ bg ≤ 100000 := by rw [ebg]; split <;> omega
      have hper := hC4.pers hpb.1 hpb.2
      have hrp := hT.pers hpb.1 hpb.2
      rw [hper.2.2]
      refine cv_take (O := w4.1 255) hj hja ⟨rfl, rfl⟩ (Or.inr rfl) hC4 hCH4 (fun r _ _ => rfl) (fun w5 f5 hX5 => ⟨⟨by omega, by omega⟩, ⟨by omega, by omega⟩, ?_⟩)
      have hce5 := (hX5.2.2.1.erra (e := e) (by omega) he3).2.1
      rw [f5.I 258 _ (by omega), hce5]
      have hOK4 : OK T (w4.1 255) := hZB.OK
      have cz5 : ∀ f k, CZ w5 f k = CZ w4 f k := by
        intro f k
        have g : ∀ a k, a ≠ 227 → w5.1 a k = w4.1 a k := fun a k z => f5.I a k (by omega)
        unfold CZ
        split <;> exact g _ _ (by decide)
      -- nothing is gone
      have none' : (w4.1 258 p.toNat = eP T e ∨ bst T (-1) (w4.1 255) p (pK T p) bg (w4.1 258 p.toNat) (eP T e) = none) → ∀ w6, Fr Ssk w5 w6 → TT (k_X4_goDay_132 F (k_X4_goDay_33 F n) [vR 254, vR j, vI set, vI es.length, vI i, vI e, vI p, vI bg] [] w6) (qq 0 (fun r w => r = none ∧ P w)) := by
        intro hz w6 f6
        have g6 : ∀ a k, 250 ≤ a → w6.1 a k = w4.1 a k := fun a k z => by rw [f6.I a k (by simp only [Ssk]; omega), f5.I a k (by omega)]
        have cz6 : CZ w6 = CZ w4 := by
          funext f k
          unfold CZ
          split <;> exact g6 _ _ (by decide)
        refine wp_X4_goDay_132 F _ j hj set es.length i e p bg w6 _ (hk _ _ ⟨f4.tr ((f5.wk (by intro a k; simp only [Sgd, Sout]; omega)).tr (f6.X.wk (by intro a k; simp only [Sgd, Sout, Ssk]; omega))), by omega, by omega, ⟨_, _, _, rfl⟩, fun k hk' => by rw [g6 264 k (by decide)]; exact h4 k hk', ?_, ?_, ?_⟩ q)
        · rw [cz6]
          exact ⟨hZB.1, fun s hs => ⟨(hZB.2.1 s hs).1, (hZB.2.1 s hs).2.1, by have := (hZB.2.1 s hs).2.2; omega⟩, hZB.2.2⟩
        · intro z r hr
          rw [g6 255 r (by decide)]; exact hL4 z r hr
        · rw [cz6]
          have hg : gOne T (-1) (eW T e) (eP T e) (eM T e) (CZ w4) = CZ w4 := by
            unfold gOne
            rw [← ep, z1, z2, ← ebg]
            rcases hz with hz | hz
            · rw [if_pos hz]
            · have : (if w4.1 258 p.toNat = eP T e then none else bst T (-1) (CZ w4 0) p (pK T p) bg (w4.1 258 p.toNat) (eP T e)) = none := by
                split
                · rfl
                · exact hz
              rw [this]
          have : gAll T (-1) (e :: es.drop (i + 1).toNat) (CZ w4) = gAll T (-1) (es.drop (i + 1).toNat) (CZ w4) := by
            show gAll T (-1) (es.drop (i + 1).toNat) (gOne T (-1) (eW T e) (eP T e) (eM T e) (CZ w4)) = _
            rw [hg]
          rw [this] at hZE
          exact hZE
      refine ci_seekWay hF hj hja ⟨rfl, rfl⟩ (Or.inr rfl) hX5 hT hOK4 hpb.1 hpb.2 hrp.2.2 hbgr hpp.1 her.2.1 (fun hz w6 f6 => br0 (none' hz w6 f6)) (fun x w6 K hne hb f6 hB => br1 ?_)
      have hX6 : HX j 255 T (w4.1 255) p (pK T p) w6 := hX5.fr f6 (by intro a k; simp only [SHX, Ssk]; unfold apart at hja; omega)
      have g6 : ∀ a k, 250 ≤ a → w6.1 a k = w4.1 a k := fun a k z => by rw [f6.I a k (by simp only [Ssk]; omega), f5.I a k (by omega)]
      have e255 : w6.1 255 = w4.1 255 := by funext k; exact g6 255 k (by decide)
      have cz6 : CZ w6 = CZ w4 := by
        funext f k
        unfold CZ
        split <;> exact g6 _ _ (by decide)
      rw [← e255] at hX6
      refine cv_errand (mi := eM T e) hF hj hja hX6 hT (by rw [e255]; exact hOK4) (by rw [e255]; exact hL4) he3 ep rfl rfl (by rw [g6 259 _ (by decide)]; exact ebg) hbgr (by rw [g6 258 _ (by decide)]; exact hpp.1) (by rw [g6 254 3 (by decide)]; exact hZB.2.2) (by rw [g6 258 _ (by decide)]; exact hne) (by rw [e255, g6 258 _ (by decide)]; exact hb) hB (fun w7 f7 h7 => ?_)
      rw [cz6, ep] at h7
      have hgo := gOne_ZB (fr := -1) hT her.1.1 her.1.2 her.2.1 her.2.2.1 (n := i) (by omega) hZB
      refine wp_X4_goDay_132 F _ j hj set es.length i e p bg w7 _ (hk _ _ ⟨f4.tr ((f5.wk (by intro a k; simp only [Sgd, Sout]; omega)).tr ((f6.X.wk (by intro a k; simp only [Sgd, Sout, Ssk]; omega)).tr (f7.wk (by intro a k h; exact Or.inl h)))), by omega, by omega, ⟨_, _, _, rfl⟩, fun k hk' => by rw [f7.I 264 k (by simp [Sout]), g6 264 k (by decide)]; exact h4 k hk', hgo.ze h7, ?_, ?_⟩ q)
      · intro z r hr
        have := gOne_L3 (p := eW T e) (to := eP T e) (mi := eM T e) (Z := CZ w4) hL4 z r hr
        rw [show w7.1 255 r = CZ w7 0 r from rfl, h7.1 r hr]
        exact this
      · exact (gAll_congr hT _ _ _ (fun e' he' => hlt e' (List.mem_of_mem_drop he')) h7).tr hZE
    · have hi : i.toNat = es.length := by omega
      rw [hi, List.drop_length] at hZE
      exact hZE
  · show ZE T (gAll T (-1) es (CZ w3)) (gDay T (-1) set (CZ w))
    have : gDay T (-1) set (CZ w) = gAll T (-1) es (gMor T (CZ w)) := by unfold gDay; rw [hes]
    rw [this]
    exact gAll_congr hT es _ _ hlt hmor
/-! the beginning -/
def gNew (T : Nat → Int) (fr : Int) : Nat → Nat → Int := fun f k => match f with
  | 0 => own0 T fr k
  | _ => 0
theorem cv_firstOwners {F : Nat} {j jo : Nat} {T : Nat → Int} {w : AW} {P : AW → Prop} (hF : FB F) (hj : isTw j) (hja : apart j) (hjo : isI jo 14) (hjo2 : jo = 222 ∨ jo = 255) (hC : CA w j T) (hT : TK T) (hp : ∀ w', Fr (fun a _ => a = jo) w w' → (∀ r, 0 ≤ r → r < T 1 → w'.1 jo r.toNat = own0 T (-1) r) → P w') : CV (m_X7_putFirstOwners F [vR j, vR jo] w) P := by
  have a1 := hT.2.1
  have a4 := hT.2.2.2.2.1
  refine wp_X7_putFirstOwners F j hj jo 14 hjo w _ ?_
  refine tt_for (K := k_X7_putFirstOwners_2 F) 14 (fun i w' l => Fr (fun a _ => a = jo) w w' ∧ l = [vR j, vR jo, vI i] ∧ 0 ≤ i ∧ i ≤ 14 ∧ ∀ r, 0 ≤ r → r < i → r < T 1 → w'.1 jo r.toNat = own0 T (-1) r) ?_ F 0 _ w (by omega) ⟨Fr.rf, rfl, by omega, by omega, fun r h1 h2 => by omega⟩
  rintro n i l w1 ⟨f1, rfl, hi0, hi1, hw⟩ hk
  have hC1 : CA w1 j T := hC.fr f1 (by intro a k h1 h2; unfold apart at hja; omega)
  have e1 : w1.1 j 17 = T 4 := hC1.2.2.2.2.1
  rw [ks_X7_putFirstOwners_2]
  refine wp_X7_putFirstOwners_2 F _ j hj jo 14 hjo i w1 _ ?_
  rw [e1, w_id (x := i) (by omega) (by omega), w_id (x := T 4) (by omega) (by omega)]
  have put : i < 14 → ∀ v, (i < T 1 → v = own0 T (-1) i) → TT (k_X7_putFirstOwners_28 F (k_X7_putFirstOwners_2 F n) [vR j, vR jo, vI i] [vI v, vI i, vR jo] w1) (qq 0 (fun r w => r = none ∧ P w)) := by
    intro hi v hv
    refine wp_X7_putFirstOwners_28 F _ j hj jo 14 hjo i v i jo 14 hjo w1 _ ⟨⟨hi0, hi⟩, fun w2 e2 => hk _ _ ⟨by rw [e2]; exact f1.wI _ rfl, rfl, by omega, by omega, fun r h1 h2 h3 => ?_⟩ hi⟩
    rw [e2, wI_at]
    by_cases z : r = i
    · subst z; rw [if_pos ⟨rfl, rfl⟩]; exact hv h3
    · rw [if_neg (by omega)]; exact hw r h1 (by omega) h3
  refine ⟨fun q => ⟨fun q2 => put q _ (fun _ => by unfold own0; rw [if_pos (Or.inl q2)]), fun q2 => ⟨⟨hi0, q⟩, put q _ (fun hi => ?_)⟩⟩, fun q => q_v (hp w1 f1 (fun r h1 h2 => hw r h1 (by omega) h2))⟩
  unfold own0
  rw [if_neg (by omega)]
  exact (hC1.road hi0 hi).2.2.2.2.1
theorem own0_b {T : Nat → Int} (hT : TK T) {fr r : Int} (h0 : 0 ≤ r) (h1 : r < T 1) : -1 ≤ own0 T fr r ∧ own0 T fr r < T 2 := by
  have := (hT.road h0 h1).2.2.2.2.2.1
  have := hT.2.2.1
  unfold own0
  split <;> omega
theorem cv_begin {F : Nat} {j : Nat} {T : Nat → Int} {w : AW} {P : AW → Prop} (hF : FB F) (hj : isTw j) (hja : apart j) (hC : CA w j T) (hT : TK T) (hp : ∀ w', Fr (fun a k => (255 ≤ a ∧ a ≤ 257) ∨ (260 ≤ a ∧ a ≤ 263) ∨ (a = 254 ∧ (k = 3 ∨ k = 4))) w w' → (∀ r : Nat, (r : Int) < T 1 → w'.1 255 r = own0 T (-1) r) → (∀ p : Nat, p < 8 → w'.1 260 p = 0 ∧ w'.1 261 p = 0 ∧ w'.1 262 p = 0 ∧ w'.1 263 p = 0) → (∀ r : Nat, r < 14 → w'.1 257 r = 0 ∧ w'.1 256 r = 0) → w'.1 254 3 = 0 → w'.1 254 4 = 0 → P w') : CV (m_X4_begin F [vR 254, vR j] w) P := by
  refine wp_X4_begin F j hj w _ (cv_firstOwners hF hj hja ⟨rfl, rfl⟩ (Or.inr rfl) hC hT (fun w1 f1 h1 => ?_))
  refine cv_fill (n := 14) hF ⟨rfl, rfl⟩ (by omega) (fun w2 f2 h2 => ?_)
  refine cv_fill (n := 14) hF ⟨rfl, rfl⟩ (by omega) (fun w3 f3 h3 => ?_)
  refine cv_fill (n := 8) hF ⟨rfl, rfl⟩ (by omega) (fun w4 f4 h4 => ?_)
  refine cv_fill (n := 8) hF ⟨rfl, rfl⟩ (by omega) (fun w5 f5 h5 => ?_)
  refine cv_fill (n := 8) hF ⟨rfl, rfl⟩ (by omega) (fun w6 f6 h6 => ?_)
  refine cv_fill (n := 8) hF ⟨rfl, rfl⟩ (by omega) (fun w7 f7 h7 => ?_)
  intro w8 e8 w9 e9
  have c9 : ∀ a k, a ≠ 254 → w9.1 a k = w7.1 a k := fun a k z => by rw [e9, wI_cell _ _ _ _ z, e8, wI_cell _ _ _ _ z]
  refine q_v (hp w9 ?_ (fun r hr => ?_) (fun p hp' => ⟨?_, ?_, ?_, ?_⟩) (fun r hr => ⟨?_, ?_⟩) ?_ ?_)
  · rw [e9, e8]
    have S' : ∀ {b : Nat} {wa wb : AW}, Fr (fun a _ => a = b) wa wb → ((255 ≤ b ∧ b ≤ 257) ∨ (260 ≤ b ∧ b ≤ 263)) → Fr (fun a k => (255 ≤ a ∧ a ≤ 257) ∨ (260 ≤ a ∧ a ≤ 263) ∨ (a = 254 ∧ (k = 3 ∨ k = 4))) wa wb := fun h hb => h.wk (by intro a k e; omega)
    exact (((((((S' f1 (by omega)).tr (S' f2 (by omega))).tr (S' f3 (by omega))).tr (S' f4 (by omega))).tr (S' f5 (by omega))).tr (S' f6 (by omega))).tr (S' f7 (by omega))).wI _ (by simp) |>.wI _ (by simp)
  · rw [c9 255 r (by decide), f7.I 255 r (by omega), f6.I 255 r (by omega), f5.I 255 r (by omega), f4.I 255 r (by omega), f3.I 255 r (by omega), f2.I 255 r (by omega)]
    have := h1 r (by omega) hr
    rw [Int.toNat_natCast] at this
    exact this
  · rw [c9 260 p (by decide), f7.I 260 p (by omega), f6.I 260 p (by omega), f5.I 260 p (by omega)]; exact h4 p (by omega)
  · rw [c9 261 p (by decide), f7.I 261 p (by omega), f6.I 261 p (by omega)]; exact h5 p (by omega)
  · rw [c9 262 p (by decide), f7.I 262 p (by omega)]; exact h6 p (by omega)
  · rw [c9 263 p (by decide)]; exact h7 p (by omega)
  · rw [c9 257 r (by decide), f7.I 257 r (by omega), f6.I 257 r (by omega), f5.I 257 r (by omega), f4.I 257 r (by omega)]; exact h3 r (by omega)
  · rw [c9 256 r (by decide), f7.I 256 r (by omega), f6.I 256 r (by omega), f5.I 256 r (by omega), f4.I 256 r (by omega), f3.I 256 r (by omega)]; exact h2 r (by omega)
  · rw [e9, wI_idx _ _ _ _ (by decide), e8, wI_same]
  · rw [e9, wI_same]
/-- all errands of a day, from the first -/
noncomputable def gAd (T : Nat → Int) (fr set : Int) : Nat → Nat → Int := gDay T fr set (gNew T fr)
theorem cv_goAllC {F : Nat} {j : Nat} {T : Nat → Int} {set : Int} {w : AW} {P : AW → Prop} (hF : FB F) (hj : isTw j) (hja : apart j) (hC : CA w j T) (hCH : CH T w) (hT : TK T) (hset : nB set) (hp : ∀ w', FrX Sgd w w' → ZE T (CZ w') (gAd T (-1) set) → P w') : CV (m_X4_goAll F [vR 254, vR j, vI set] w) P := by
  refine wp_X4_goAll F j hj set w _ (cv_begin hF hj hja hC hT (fun w1 f1 h0 h1 h2 h3 h4 => ?_))
  have f1' : FrX Sgd w w1 := f1.X.wk (by intro a k; simp only [Sgd, Sout]; omega)
  have hnew : ZE T (gMor T (CZ w1)) (gMor T (gNew T (-1))) := by
    refine ⟨fun r hr => h0 r hr, fun p hp' => ⟨rfl, rfl⟩, fun p hp' => ?_, fun r hr => ?_, h3, h4⟩
    · exact h1 p hp'
    · exact h2 r hr
  refine cv_goDay hF hj hja (hC.fr f1 (by intro a k h1 h2; unfold apart at hja; omega)) (hCH.fr f1 (by intro a k h1 h2; omega)) hT (fun r x y => ?_) (fun z r hr => ?_) (by rw [h3]; omega) hset (fun w2 f2 h5 => q_v (hp w2 (f1'.tr f2) (h5.tr ?_)))
  · rw [h0 r.toNat (by omega), Int.toNat_of_nonneg x]; exact own0_b hT x y
  · rw [h0 r hr]; unfold own0; rw [if_pos (Or.inl z)]
  · unfold gAd gDay
    exact gAll_congr hT _ _ _ (fun e he => by have := ((ordl_ok T set).2.1 e).mp he; omega) hnew
