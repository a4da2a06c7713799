/-! THE REFERENCE'S SEARCH, FROM ITS CALL -/
noncomputable def bsl (T : Nat → Int) (fr : Int) (O : Nat → Int) (p kind mi fm to : Int) : List Cd := Wy (mp T fr O p kind) (fm = to) to (if fm = to then 6 else (T 0).toNat - 1) fm mi 0 [] [fm]
noncomputable def bst (T : Nat → Int) (fr : Int) (O : Nat → Int) (p kind mi fm to : Int) : Option Cd := (bsl T fr O p kind mi fm to).foldl kp none
abbrev Sfind (j k : Nat) : Prop := (16 ≤ j ∧ j ≤ 21) ∨ (j = 0 ∧ 46 ≤ k ∧ k ≤ 48)
theorem ci_finds {F : Nat} {T : Nat → Int} {fr p kind mi fm to : Int} {O : Nat → Int} {w : AW} {P : Int → AW → Prop} (hF : FB F) (hT : TK T) (hO : OK T O) (hCT : CT T fr O w) (hfr : -1 ≤ fr ∧ fr < 14) (hp0 : 0 ≤ p) (hp1 : p < T 2) (hk : 0 ≤ kind ∧ kind ≤ 2) (hmi : 0 ≤ mi ∧ mi ≤ 100000) (hfm : 0 ≤ fm ∧ fm < T 0) (hto : 0 ≤ to ∧ to < T 0) (hp : ∀ x w', Fr Sfind w w' → BI w' (bst T fr O p kind mi fm to) → AB (bst T fr O p kind mi fm to) → w'.1 0 48 = neg (bsl T fr O p kind mi fm to) → (x = 1 ∧ bst T fr O p kind mi fm to ≠ none ∨ x = 0 ∧ bst T fr O p kind mi fm to = none) → P x w') : CI (m_X9_finds F [vR 0, vI p, vI kind, vI mi, vI fm, vI to] w) P := by
  have a0 := hT.1
  have a1 := hT.2.1
  have main : ∀ (l6 : Int) (most : Nat), most = (if fm = to then 6 else (T 0).toNat - 1) → ((l6 = 1 ∧ fm = to) ∨ (l6 = 0 ∧ ¬ fm = to)) → TT (k_X9_finds_30 F [vR 0, vI p, vI kind, vI mi, vI fm, vI to, vI l6, vU, vU, vU, vU] [vI most] w) (qq 2 (fun r w => ∃ x, r = some (vI x) ∧ P x w)) := by
    intro l6 most hmost hl6
    have hm8 : most ≤ 8 := by rw [hmost]; split <;> omega
    refine wp_X9_finds_30 F p kind mi fm to l6 most w _ ?_
    intro w1 e1 w2 e2 w3 e3 w4 e4 w5 e5 w6 e6
    have f6 : Fr Sfind w w6 := by
      rw [e6, e5, e4, e3, e2, e1]
      exact (((((Fr.rf.wI _ (by simp [Sfind])).wI _ (by simp [Sfind])).wI _ (by simp [Sfind])).wI _ (by simp [Sfind])).wL _ (by simp [Sfind])).wI _ (by simp [Sfind])
    have g46 : w6.1 0 46 = 0 := by rw [e6, e5, e4, e3, e2, e1]; simp [wI_at, wL_I]
    have g48 : w6.1 0 48 = 0 := by rw [e6, e5, e4, e3, e2]; simp [wI_at, wL_I]
    have g18 : w6.1 18 0 = fm := by rw [e6, e5, e4, e3]; simp [wI_at, wL_I]
    have g19 : w6.1 19 0 = mi := by rw [e6, e5, e4]; simp [wI_at, wL_I]
    have g20 : w6.2.1 20 0 = 0 := by rw [e6, e5, wI_L, wL_at]; simp
    have g17 : w6.1 17 0 = 0 := by rw [e6]; simp [wI_at]
    have hbs : bsl T fr O p kind mi fm to = LL (mp T fr O p kind) (fm = to) to most fm mi 0 [] [fm] ((List.range (T 1).toNat).drop ((T 1).toNat - (T 1).toNat)) := by
      rw [Nat.sub_self, List.drop_zero]
      have := LL_all (mp T fr O p kind) (fm = to) to most fm mi 0 [] [fm]
      rw [show (mp T fr O p kind).R = (T 1).toNat from rfl] at this
      rw [this, hmost]
      rfl
    have hneed : need most (T 1).toNat ≤ 30 ^ 8 := by
      refine Nat.le_trans (need_mono most (show (T 1).toNat ≤ 14 by omega)) (Nat.le_trans (need_le most) ?_)
      exact Nat.pow_le_pow_right (by decide) hm8
    have h308 : (30 : Nat) ^ 8 = 656100000000 := by decide
    have := dfs_ref (fm := fm) (Q := qq 2 (fun r w => ∃ x, r = some (vI x) ∧ P x w)) hF hT hO hfr hp0 hp1 hk hmi ⟨hto.1, by omega⟩ hm8 hl6 most 0 (T 1).toNat [] [fm] fm mi 0 none w6 F vU vU (by omega) (Nat.le_refl _) (by rw [g17]; omega) ⟨rfl, fun i hi => by omega, fun v => by
      constructor
      · intro hv
        have : v = fm := by simpa using hv
        exact ⟨0, Nat.le_refl 0, by rw [g18, this]⟩
      · rintro ⟨i, h1, h2⟩
        have : i = 0 := by omega
        subst this
        rw [g18] at h2
        simp [h2], g18, g19, g20⟩ (hCT.fr f6 (by intro j k; simp only [SHA, Sfind]; omega)) g46 (fun y hy => by cases hy) (fun v hv => by
        have : v = fm := by simpa using hv
        omega) (by omega) (by omega) (fun r hr => by cases hr) (by omega)
    refine this (fun m w' b9 b10 hm hf hB hA hb => ?_)
    rw [← hbs] at hB hA hb
    obtain ⟨m', rfl⟩ : ∃ m', m = m' + 1 := ⟨m - 1, by omega⟩
    rw [ks_X9_finds_74]
    refine wp_X9_finds_74 F _ p kind mi fm to l6 most _ b9 b10 w' _ ⟨fun _ => ?_, fun q => absurd (by decide) q⟩
    have ff : Fr Sfind w w' := f6.tr (hf.wk (by intro j k; simp only [Sdfs, Sfind]; omega))
    rw [g48] at hb
    have hb : w'.1 0 48 = neg (bsl T fr O p kind mi fm to) := by omega
    cases hbst : bst T fr O p kind mi fm to with
    | none =>
      have hB2 : BI w' (bst T fr O p kind mi fm to) := hB
      rw [hbst] at hB2
      have hB2 : w'.1 0 46 = 0 := hB2
      rw [hB2]
      exact ⟨fun q => absurd q (by decide), fun _ => q_z0 (hp 0 w' ff hB hA hb (Or.inr ⟨rfl, hbst⟩))⟩
    | some x =>
      have hB2 : BI w' (bst T fr O p kind mi fm to) := hB
      have hA2 : AB (bst T fr O p kind mi fm to) := hA
      rw [hbst] at hB2 hA2
      have hl := List.length_pos_iff.mpr hB2.1
      have hl9 := (hA2 x rfl).2.2
      rw [hB2.2.1, w_id (x := (x.2.2.length : Int)) (by omega) (by omega)]
      exact ⟨fun _ => q_z1 (hp 1 w' ff hB hA hb (Or.inl ⟨rfl, by rw [hbst]; simp⟩)), fun q => absurd (by omega) q⟩
  have mid : ∀ l : Int, ((l = 1 ∧ fm = to) ∨ (l = 0 ∧ ¬ fm = to)) → TT (k_X9_finds_12 F [vR 0, vI p, vI kind, vI mi, vI fm, vI to, vU, vU, vU, vU, vU] [vI l] w) (qq 2 (fun r w => ∃ x, r = some (vI x) ∧ P x w)) := by
    intro l hl
    refine wp_X9_finds_12 F p kind mi fm to l w _ ?_
    rcases hl with ⟨e, h⟩ | ⟨e, h⟩
    · subst e
      exact br1 (main 1 6 (by rw [if_pos h]) (Or.inl ⟨rfl, h⟩))
    · subst e
      refine br0 ?_
      have e22 : w.1 0 22 = T 0 := hCT.1.2.1
      rw [e22, show T 0 - 1 = (((T 0).toNat - 1 : Nat) : Int) from by omega]
      exact main 0 _ (by rw [if_neg h]) (Or.inr ⟨rfl, h⟩)
  refine wp_X9_finds F p kind mi fm to w _ ?_
  rw [w_id (x := fm) (by omega) (by omega), w_id (x := to) (by omega) (by omega)]
  exact ⟨fun q => mid 1 (Or.inl ⟨rfl, q⟩), fun q => mid 0 (Or.inr ⟨rfl, q⟩)⟩
/-- the roads of the best are roads, no more than eight, and its minutes are theirs -/
theorem foldl_kp_mem : ∀ (l : List Cd) (acc : Option Cd) (x : Cd), l.foldl kp acc = some x → x ∈ l ∨ acc = some x
  | [], acc, x, h => Or.inr h
  | y :: l, acc, x, h => by
    rw [List.foldl_cons] at h
    rcases foldl_kp_mem l _ x h with z | z
    · exact Or.inl (List.mem_cons_of_mem _ z)
    · cases acc with
      | none => rw [kp_none] at z; cases z; exact Or.inl List.mem_cons_self
      | some u =>
        by_cases q : bt y u
        · rw [kp_pos q] at z; cases z; exact Or.inl List.mem_cons_self
        · rw [kp_neg q] at z; exact Or.inr z
theorem bst_row {T : Nat → Int} {fr p kind mi fm to : Int} {O : Nat → Int} {x : Cd} (hT : TK T) (h : bst T fr O p kind mi fm to = some x) : x ∈ bsl T fr O p kind mi fm to ∧ x.2.2 ≠ [] ∧ x.2.2.length ≤ 8 ∧ (∀ r ∈ x.2.2, r < (T 1).toNat) ∧ x.2.1 = mi + (x.2.2.map (fun r : Nat => rM T r)).sum := by
  have a0 := hT.1
  have hm : x ∈ bsl T fr O p kind mi fm to := (foldl_kp_mem _ none x h).resolve_right (by simp)
  obtain ⟨q, h1, h2, h3, h4, h5⟩ := Wy_row _ _ _ _ _ _ _ hm
  rw [List.nil_append] at h3
  rw [h3]
  refine ⟨hm, h1, ?_, h4, h5⟩
  split at h2 <;> omega
theorem ci_minutes {F : Nat} {T : Nat → Int} {w : AW} {x : Cd} {P : Int → AW → Prop} (hF : FB F) (hT : TK T) (hH : HA w T) (hB : BI w (some x)) (hl : x.2.2.length ≤ 9) (hr : ∀ r ∈ x.2.2, r < (T 1).toNat) (hp : P (x.2.2.map (fun r : Nat => rM T r)).sum w) : CI (m_X9_minutesOfBest F [vR 0] w) P := by
  obtain ⟨b1, b2, b3, b4⟩ := hB
  have a1 := hT.2.1
  refine wp_X9_minutesOfBest F w _ ?_
  refine tt_for (K := k_X9_minutesOfBest_4 F) (x.2.2.length : Int) (fun i w' l => w' = w ∧ 0 ≤ i ∧ i ≤ x.2.2.length ∧ ∃ s, l = [vR 0, vI s, vI i] ∧ s = ((x.2.2.take i.toNat).map (fun r : Nat => rM T r)).sum) ?_ F 0 _ w (by omega) ⟨rfl, by omega, by omega, 0, rfl, rfl⟩
  rintro n i l w' ⟨rfl, hi0, hi1, s, rfl, hs⟩ hk
  rw [ks_X9_minutesOfBest_4]
  refine wp_X9_minutesOfBest_4 F _ s i w' _ ?_
  rw [b2, w_id (x := i) (by omega) (by omega), w_id (x := (x.2.2.length : Int)) (by omega) (by omega)]
  refine ⟨fun q => ⟨⟨hi0, by omega⟩, ?_⟩, fun q => q_i ?_⟩
  · have hlt : i.toNat < x.2.2.length := by omega
    rw [b4 _ hlt]
    have hg : x.2.2.getD i.toNat 0 = x.2.2[i.toNat] := by rw [List.getD_eq_getElem?_getD, List.getElem?_eq_getElem hlt]; rfl
    rw [hg]
    have hR := hr _ (List.getElem_mem hlt)
    refine ci_rM hH hT (by omega) (by omega) (fun y hy => hk _ _ ⟨rfl, by omega, by omega, y, rfl, ?_⟩ q)
    rw [hy, hs, show (i + 1).toNat = i.toNat + 1 from by omega, List.take_succ_eq_append_getElem hlt, List.map_append, List.sum_append]
    simp
  · have e : i.toNat = x.2.2.length := by omega
    rw [hs, e, List.take_length]
    exact hp
/-! distances in the reference -/
noncomputable def Jt (T : Nat → Int) (x : Int) : Int → Int → Int → Prop := Jm (mp T (-1) (fun _ => 0) 0 0) x
theorem Jt_ok {T : Nat → Int} (hT : TK T) (x : Int) : JOK (Jt T x) ((T 0).toNat : Nat) := Jm_ok (mp_ok hT _ _ _ _) x
/-- the far row says how far it is -/
def FAR (T : Nat → Int) (x : Int) (w : AW) : Prop := ∀ a b, 0 ≤ a → a < T 0 → 0 ≤ b → b < T 0 → (w.1 22 (9 * a + b).toNat = 100000 ∧ ∀ n m, ¬ Wk (Jt T x) n a b m) ∨ (Ds (Jt T x) a b (w.1 22 (9 * a + b).toNat) ∧ w.1 22 (9 * a + b).toNat ≤ 240)
def fa (w : AW) (a b : Int) : Int := if 0 ≤ b ∧ b < 9 then w.1 22 (9 * a + b).toNat else 100000
theorem cv_nearer {F : Nat} {w : AW} {p a b by' : Int} {P : AW → Prop} (hp0 : 0 ≤ p ∧ p < 9) (ha : 0 ≤ a ∧ a < 9) (hb : 0 ≤ b ∧ b < 9) (hby : 0 ≤ by' ∧ by' ≤ 30) (hr : ∀ c, 0 ≤ c → c < 9 → 0 ≤ w.1 22 (9 * p + c).toNat ∧ w.1 22 (9 * p + c).toNat ≤ 100000) (hp : ∀ w', Fr (fun j k => j = 22) w w' → (∀ k : Nat, w'.1 22 k = if k = (9 * p + b).toNat ∧ w.1 22 (9 * p + a).toNat + by' < w.1 22 (9 * p + b).toNat then w.1 22 (9 * p + a).toNat + by' else w.1 22 k) → P w') : CV (m_X9_nearer F [vR 0, vI p, vI a, vI b, vI by'] w) P := by
  have r1 := hr a ha.1 ha.2
  have r2 := hr b hb.1 hb.2
  refine wp_X9_nearer F p a b by' w _ ?_
  rw [w_id (x := w.1 22 (9 * p + a).toNat + by') (by omega) (by omega), w_id (x := w.1 22 (9 * p + b).toNat) (by omega) (by omega)]
  refine ⟨⟨by omega, by omega⟩, ⟨by omega, by omega⟩, fun q => ⟨⟨by omega, by omega⟩, ⟨by omega, by omega⟩, fun w' e => q_v (hp w' ?_ ?_)⟩, fun q => q_v (hp w Fr.rf ?_)⟩
  · rw [e]; exact Fr.rf.wI _ rfl
  · intro k
    rw [e, wI_at]
    by_cases z : k = (9 * p + b).toNat
    · rw [if_pos ⟨rfl, z⟩, if_pos ⟨z, q⟩]
    · rw [if_neg (fun y => z y.2), if_neg (fun y => z y.1)]
  · intro k
    rw [if_neg (fun y => q y.2)]
/-- what holds within a pass: f is at most g was; over each road that was looked at it is at most as long as over it -/
def PS (T : Nat → Int) (x : Int) (w0 w : AW) (dn : Int → Int → Prop) : Prop := (∀ a, 0 ≤ a → a < T 0 → (RSnd (Jt T x) a (fa w a) ∧ (∀ b, 0 ≤ fa w a b) ∧ fa w a a ≤ 0 ∧ ∀ b, fa w a b ≤ fa w0 a b)) ∧ ∀ r a, 0 ≤ r → r < T 1 → 0 ≤ a → a < T 0 → r ≠ x → dn r a → fa w a (rB T r) ≤ fa w0 a (rA T r) + rM T r ∧ fa w a (rA T r) ≤ fa w0 a (rB T r) + rM T r
theorem PS_near {T : Nat → Int} {x : Int} {w0 w w' : AW} {dn : Int → Int → Prop} {p a b d : Int} (hT : TK T) (hp0 : 0 ≤ p) (hp1 : p < T 0) (ha : 0 ≤ a ∧ a < T 0) (hb : 0 ≤ b ∧ b < T 0) (hj : Jt T x a b d) (h : PS T x w0 w dn) (hw : ∀ k : Nat, w'.1 22 k = if k = (9 * p + b).toNat ∧ w.1 22 (9 * p + a).toNat + d < w.1 22 (9 * p + b).toNat then w.1 22 (9 * p + a).toNat + d else w.1 22 k) : PS T x w0 w' dn ∧ fa w' p b ≤ fa w p a + d ∧ ∀ a' b', fa w' a' b' ≤ fa w a' b' := by
  have a0 := hT.1
  have hJ := Jt_ok hT x
  have hd := (hJ.2 _ _ _ hj).1
  have ea : fa w p a = w.1 22 (9 * p + a).toNat := by unfold fa; rw [if_pos (by omega)]
  have eb : fa w p b = w.1 22 (9 * p + b).toNat := by unfold fa; rw [if_pos (by omega)]
  have hne : ∀ a' b', 0 ≤ a' → 0 ≤ b' → b' < 9 → (9 * a' + b').toNat = (9 * p + b).toNat → a' = p ∧ b' = b := by intro a' b' h1 h2 h3 h4; omega
  have hfa : ∀ a' b', 0 ≤ a' → fa w' a' b' = if a' = p ∧ b' = b ∧ fa w p a + d < fa w p b then fa w p a + d else fa w a' b' := by
    intro a' b' h1
    by_cases hr : 0 ≤ b' ∧ b' < 9
    · have e1 : fa w' a' b' = w'.1 22 (9 * a' + b').toNat := by unfold fa; rw [if_pos hr]
      have e2 : fa w a' b' = w.1 22 (9 * a' + b').toNat := by unfold fa; rw [if_pos hr]
      rw [e1, e2, hw, ea, eb]
      by_cases q : (9 * a' + b').toNat = (9 * p + b).toNat
      · obtain ⟨z1, z2⟩ := hne a' b' h1 hr.1 hr.2 q
        subst z1; subst z2
        by_cases y : w.1 22 (9 * a' + a).toNat + d < w.1 22 (9 * a' + b').toNat
        · rw [if_pos ⟨rfl, y⟩, if_pos ⟨rfl, rfl, y⟩]
        · rw [if_neg (fun z => y z.2), if_neg (fun z => y z.2.2)]
      · rw [if_neg (fun z => q z.1), if_neg (fun z => q (by rw [z.1, z.2.1]))]
    · have e1 : fa w' a' b' = 100000 := by unfold fa; rw [if_neg hr]
      have e2 : fa w a' b' = 100000 := by unfold fa; rw [if_neg hr]
      rw [e1, e2, if_neg (fun z => hr (by omega))]
  have hneg : ∀ a' b', ¬ 0 ≤ a' → fa w' a' b' ≤ fa w a' b' := by
    intro a' b' h1
    unfold fa
    by_cases hr : 0 ≤ b' ∧ b' < 9
    · rw [if_pos hr, if_pos hr, hw]
      split
      · rename_i z
        rw [z.1]; omega
      · omega
    · rw [if_neg hr, if_neg hr]; omega
  have mono : ∀ a' b', fa w' a' b' ≤ fa w a' b' := by
    intro a' b'
    by_cases h1 : 0 ≤ a'
    · rw [hfa a' b' h1]
      split
      · rename_i z
        rw [z.1, z.2.1]; omega
      · omega
    · exact hneg a' b' h1
  refine ⟨⟨fun a' h1 h2 => ?_, fun r a' h1 h2 h3 h4 h5 h6 => ?_⟩, ?_, mono⟩
  · obtain ⟨s1, s2, s3, s4⟩ := h.1 a' h1 h2
    refine ⟨fun b' => ?_, fun b' => ?_, ?_, fun b' => Int.le_trans (mono a' b') (s4 b')⟩
    · have sb := s1 b'
      refine ⟨Int.le_trans (mono a' b') sb.1, fun hlt => ?_⟩
      rw [hfa a' b' h1] at hlt ⊢
      by_cases z : a' = p ∧ b' = b ∧ fa w p a + d < fa w p b
      · rw [if_pos z] at hlt ⊢
        obtain ⟨z1, z2, z3⟩ := z
        subst z1; subst z2
        obtain ⟨n, hn⟩ := (s1 a).2 (by omega)
        exact ⟨n + 1, Wk_snoc hn hj⟩
      · rw [if_neg z] at hlt ⊢
        exact sb.2 hlt
    · rw [hfa a' b' h1]
      by_cases z : a' = p ∧ b' = b ∧ fa w p a + d < fa w p b
      · rw [if_pos z]
        have := s2 a
        rw [z.1] at this
        omega
      · rw [if_neg z]; exact s2 b'
    · exact Int.le_trans (mono a' a') s3
  · obtain ⟨z1, z2⟩ := h.2 r a' h1 h2 h3 h4 h5 h6
    exact ⟨Int.le_trans (mono _ _) z1, Int.le_trans (mono _ _) z2⟩
  · rw [hfa p b hp0]
    by_cases z : fa w p a + d < fa w p b
    · rw [if_pos ⟨rfl, rfl, z⟩]; omega
    · rw [if_neg (fun y => z y.2.2)]; omega
abbrev Sfar (j k : Nat) : Prop := j = 22
theorem cv_findFar {F : Nat} {T : Nat → Int} {x : Int} {w : AW} {P : AW → Prop} (hF : FB F) (hT : TK T) (hH : HA w T) (hx : -1 ≤ x ∧ x < 14) (hp : ∀ w', Fr Sfar w w' → FAR T x w' → P w') : CV (m_X9_findFar F [vR 0, vI x] w) P := by
  have a0 := hT.1
  have a1 := hT.2.1
  have hJ := Jt_ok hT x
  refine wp_X9_findFar F x w _ ?_
  -- the first row
  refine tt_for (K := k_X9_findFar_2 F) 81 (fun i w' l => Fr Sfar w w' ∧ l = [vR 0, vI x, vI i, vU, vU] ∧ 0 ≤ i ∧ i ≤ 81 ∧ ∀ k : Int, 0 ≤ k → k < i → w'.1 22 k.toNat = if k / 9 = k % 9 then 0 else 100000) ?_ F 0 _ w (by omega) ⟨Fr.rf, rfl, by omega, by omega, fun k h1 h2 => by omega⟩
  rintro n i l w1 ⟨f1, rfl, hi0, hi1, hw⟩ hk
  rw [ks_X9_findFar_2]
  refine wp_X9_findFar_2 F _ x i w1 _ ?_
  rw [w_id (x := i) (by omega) (by omega), td_nn 9 hi0, w_id (x := i / 9) (by omega) (by omega), w_id (x := i - i / 9 * 9) (by omega) (by omega)]
  refine ⟨fun q => ?_, fun q => ?_⟩
  · have put : ∀ v : Int, v = (if i / 9 = i % 9 then 0 else 100000) → TT (k_X9_findFar_31 F (k_X9_findFar_2 F n) [vR 0, vI x, vI i, vU, vU] [vI v, vI i, vR 22] w1) (qq 0 (fun r w => r = none ∧ P w)) := by
      intro v hv
      refine wp_X9_findFar_31 F _ x i v i w1 _ ⟨⟨hi0, q⟩, fun w2 e2 => hk _ _ ⟨by rw [e2]; exact f1.wI _ rfl, rfl, by omega, by omega, fun k h1 h2 => ?_⟩ q⟩
      rw [e2, wI_at]
      by_cases z : k = i
      · subst z; rw [if_pos ⟨rfl, rfl⟩]; exact hv
      · rw [if_neg (by omega)]; exact hw k h1 (by omega)
    exact ⟨fun z => put 0 (by rw [if_pos (by omega)]), fun z => put 100000 (by rw [if_neg (by omega)])⟩
  · have hi : i = 81 := by omega
    subst hi
    clear hk q
    have hfa1 : ∀ a b, 0 ≤ a → a < 9 → fa w1 a b = if a = b then 0 else 100000 := by
      intro a b h1 h2
      unfold fa
      by_cases hr : 0 ≤ b ∧ b < 9
      · rw [if_pos hr, hw (9 * a + b) (by omega) (by omega)]
        by_cases z : a = b
        · rw [if_pos z, if_pos (by omega)]
        · rw [if_neg z, if_neg (by omega)]
      · rw [if_neg hr, if_neg (by omega)]
    -- the passes
    refine tt_for (K := k_X9_findFar_40 F) (T 0) (fun t w' l => Fr Sfar w w' ∧ (∃ b3 b4, l = [vR 0, vI x, vI t, b3, b4]) ∧ 0 ≤ t ∧ t ≤ T 0 ∧ ∀ a, 0 ≤ a → a < T 0 → RSnd (Jt T x) a (fa w' a) ∧ (∀ b, 0 ≤ fa w' a b) ∧ fa w' a a ≤ 0 ∧ RUp (Jt T x) (T 0).toNat a t.toNat (fa w' a)) ?_ F 0 _ w1 (by omega) ⟨f1, ⟨vU, vU, rfl⟩, by omega, by omega, fun a h1 h2 => ?_⟩
    · rintro n t l w2 ⟨f2, ⟨b3, b4, rfl⟩, ht0, ht1, hI⟩ hk
      have hH2 : HA w2 T := hH.fr f2 (by intro j k; simp only [SHA, Sfar]; omega)
      have e22 : w2.1 0 22 = T 0 := hH2.2.1
      rw [ks_X9_findFar_40]
      refine wp_X9_findFar_40 F _ x t b3 b4 w2 _ ?_
      rw [e22, w_id (x := t) (by omega) (by omega), w_id (x := T 0) (by omega) (by omega)]
      refine ⟨fun q => ?_, fun q => q_v (hp w2 f2 ?_)⟩
      · -- a pass over the roads
        refine tt_for (K := k_X9_findFar_50 F (k_X9_findFar_40 F n)) (T 1) (fun r w' l => Fr Sfar w w' ∧ (∃ b4, l = [vR 0, vI x, vI t, vI r, b4]) ∧ 0 ≤ r ∧ r ≤ T 1 ∧ PS T x w2 w' (fun r' _ => r' < r)) ?_ F 0 _ w2 (by omega) ⟨f2, ⟨_, rfl⟩, by omega, by omega, ⟨fun a h1 h2 => ⟨(hI a h1 h2).1, (hI a h1 h2).2.1, (hI a h1 h2).2.2.1, fun b => Int.le_refl _⟩, fun r a h1 h2 h3 h4 h5 h6 => by omega⟩⟩
        rintro n2 r l w3 ⟨f3, ⟨b5, rfl⟩, hr0, hr1, hPS⟩ hk2
        have hH3 : HA w3 T := hH.fr f3 (by intro j k; simp only [SHA, Sfar]; omega)
        have e23 : w3.1 0 23 = T 1 := hH3.2.2.1
        rw [ks_X9_findFar_50]
        refine wp_X9_findFar_50 F _ _ x t r b5 w3 _ ?_
        rw [e23, w_id (x := r) (by omega) (by omega), w_id (x := T 1) (by omega) (by omega)]
        refine ⟨fun q2 => ?_, fun q2 => ?_⟩
        · have hrd := hT.road hr0 q2
          -- a road, from each place
          refine tt_for (K := k_X9_findFar_61 F (k_X9_findFar_40 F n) (k_X9_findFar_50 F (k_X9_findFar_40 F n) n2)) (T 0) (fun a w' l => Fr Sfar w w' ∧ l = [vR 0, vI x, vI t, vI r, vI a] ∧ 0 ≤ a ∧ a ≤ T 0 ∧ PS T x w2 w' (fun r' a' => r' < r ∨ (r' = r ∧ a' < a))) ?_ F 0 _ w3 (by omega) ⟨f3, rfl, by omega, by omega, ⟨hPS.1, fun r' a' h1 h2 h3 h4 h5 h6 => hPS.2 r' a' h1 h2 h3 h4 h5 (by omega)⟩⟩
          rintro n3 a l w4 ⟨f4, rfl, ha0, ha1, hPS4⟩ hk3
          have hH4 : HA w4 T := hH.fr f4 (by intro j k; simp only [SHA, Sfar]; omega)
          have e22' : w4.1 0 22 = T 0 := hH4.2.1
          have done : ∀ b4, (r = x ∨ a = T 0) → TT (k_X9_findFar_129 F (k_X9_findFar_40 F n) (k_X9_findFar_50 F (k_X9_findFar_40 F n) n2) [vR 0, vI x, vI t, vI r, vI b4] [] w4) (qq 0 (fun r w => r = none ∧ P w)) := by
            intro b4 hz
            refine wp_X9_findFar_129 F _ _ x t r b4 w4 _ (hk2 _ _ ⟨f4, ⟨_, rfl⟩, by omega, by omega, hPS4.1, fun r' a' h1 h2 h3 h4 h5 h6 => ?_⟩ q2)
            exact hPS4.2 r' a' h1 h2 h3 h4 h5 (by omega)
          rw [ks_X9_findFar_61]
          refine wp_X9_findFar_61 F _ _ _ x t r a w4 _ ?_
          rw [e22', w_id (x := a) (by omega) (by omega), w_id (x := T 0) (by omega) (by omega), w_id (x := r) (by omega) (by omega), w_id (x := x) (by omega) (by omega)]
          refine ⟨fun q3 => ⟨fun q4 => done a (Or.inl q4), fun q4 => ?_⟩, fun q3 => done a (Or.inr (by omega))⟩
          have hj1 : Jt T x (rA T r) (rB T r) (rM T r) := ⟨r.toNat, by show r.toNat < (T 1).toNat; omega, by omega, by show rM T r = rM T (r.toNat : Nat); rw [Int.toNat_of_nonneg hr0], Or.inl ⟨by show rA T r = rA T (r.toNat : Nat); rw [Int.toNat_of_nonneg hr0], by show rB T r = rB T (r.toNat : Nat); rw [Int.toNat_of_nonneg hr0]⟩⟩
          have hj2 : Jt T x (rB T r) (rA T r) (rM T r) := hJ.1 _ _ _ hj1
          have rng : ∀ {wz : AW} {dn : Int → Int → Prop}, PS T x w2 wz dn → ∀ c, 0 ≤ c → c < 9 → 0 ≤ wz.1 22 (9 * a + c).toNat ∧ wz.1 22 (9 * a + c).toNat ≤ 100000 := by
            intro wz dn hz c h1 h2
            have z := hz.1 a ha0 q3
            have z1 := z.2.1 c
            have z2 := (z.1 c).1
            have e : fa wz a c = wz.1 22 (9 * a + c).toNat := by unfold fa; rw [if_pos ⟨h1, h2⟩]
            omega
          refine ci_rA hH4 hT hr0 q2 (ci_rB hH4 hT hr0 q2 (ci_rM hH4 hT hr0 q2 (cv_nearer ⟨ha0, by omega⟩ (by omega) (by omega) (by omega) (rng hPS4) (fun w5 f5 hw5 => ?_))))
          have fw5 : Fr Sfar w w5 := f4.tr f5
          have hH5 : HA w5 T := hH.fr fw5 (by intro j k; simp only [SHA, Sfar]; omega)
          obtain ⟨p5, p5b, p5c⟩ := PS_near hT ha0 q3 hrd.1 hrd.2.1 hj1 hPS4 hw5
          refine ci_rB hH5 hT hr0 q2 (ci_rA hH5 hT hr0 q2 (ci_rM hH5 hT hr0 q2 (cv_nearer ⟨ha0, by omega⟩ (by omega) (by omega) (by omega) (rng p5) (fun w6 f6 hw6 => ?_))))
          obtain ⟨p6, p6b, p6c⟩ := PS_near hT ha0 q3 hrd.2.1 hrd.1 hj2 p5 hw6
          refine hk3 _ _ ⟨fw5.tr f6, rfl, by omega, by omega, p6.1, fun r' a' h1 h2 h3 h4 h5 h6 => ?_⟩ q3
          by_cases z : r' = r ∧ a' = a
          · obtain ⟨z1, z2⟩ := z
            subst z1; subst z2
            have s4 := (hPS4.1 a' h3 h4).2.2.2
            refine ⟨?_, ?_⟩
            · have := p6c a' (rB T r')
              have := s4 (rA T r')
              omega
            · have := p5c a' (rB T r')
              have := s4 (rB T r')
              omega
          · exact p6.2 r' a' h1 h2 h3 h4 h5 (by omega)
        · -- the pass is over
          refine hk _ _ ⟨f3, ⟨_, _, rfl⟩, by omega, by omega, fun a h1 h2 => ?_⟩ q
          obtain ⟨s1, s2, s3, s4⟩ := hPS.1 a h1 h2
          refine ⟨s1, s2, s3, ?_⟩
          rw [show (t + 1).toNat = t.toNat + 1 from by omega]
          refine RUp_step hJ (hI a h1 h2).2.2.2 s3 (fun c b d hj => ?_)
          obtain ⟨r', y1, y2, y3, y4⟩ := hj
          have y1 : r' < (T 1).toNat := y1
          have y3 : d = rM T r' := y3
          have hz := hPS.2 r' a (by omega) (by omega) h1 h2 y2 (by omega)
          rcases y4 with ⟨z1, z2⟩ | ⟨z1, z2⟩
          · have z1 : c = rA T r' := z1
            have z2 : b = rB T r' := z2
            rw [z1, z2, y3]; exact hz.1
          · have z1 : c = rB T r' := z1
            have z2 : b = rA T r' := z2
            rw [z1, z2, y3]; exact hz.2
      · -- all passes are over
        intro a b h1 h2 h3 h4
        obtain ⟨s1, s2, s3, s4⟩ := hI a h1 h2
        have e : fa w2 a b = w2.1 22 (9 * a + b).toNat := by unfold fa; rw [if_pos ⟨h3, by omega⟩]
        have := RUp_end hJ (by omega) h1 (by omega) (t := t.toNat) (by omega) s4 s1 b
        rw [e] at this
        exact this
    · refine ⟨fun b => ?_, fun b => ?_, ?_, ?_⟩
      · rw [hfa1 a b h1 (by omega)]
        by_cases z : a = b
        · rw [if_pos z]; exact ⟨by omega, fun _ => ⟨0, z, rfl⟩⟩
        · rw [if_neg z]; exact ⟨by omega, fun y => by omega⟩
      · rw [hfa1 a b h1 (by omega)]; split <;> omega
      · rw [hfa1 a a h1 (by omega), if_pos rfl]; omega
      · exact RUp_zero hJ (by rw [hfa1 a a h1 (by omega), if_pos rfl]; omega)
