/-! THE REFERENCE'S SEARCH -/
noncomputable def mp (T : Nat → Int) (fr : Int) (O : Nat → Int) (p kind : Int) : Mp := ((T 1).toNat, fun r => rA T r, fun r => rB T r, fun r => rM T r, fun r t => cst T fr O p kind r t)
theorem mp_ok {T : Nat → Int} (hT : TK T) (fr : Int) (O : Nat → Int) (p kind : Int) : MOK (mp T fr O p kind) (T 0).toNat := by
  intro r hr
  have hr : r < (T 1).toNat := hr
  have h := hT.road (r := r) (by omega) (by omega)
  have h0 := hT.1
  show 0 ≤ rA T r ∧ rA T r < (T 0).toNat ∧ 0 ≤ rB T r ∧ rB T r < (T 0).toNat ∧ rA T r ≠ rB T r ∧ 1 ≤ rM T r ∧ rM T r ≤ 30
  omega
/-- the best so far, as the reference keeps it -/
def BI (w : AW) : Option Cd → Prop
  | none => w.1 0 46 = 0
  | some x => x.2.2 ≠ [] ∧ w.1 0 46 = x.2.2.length ∧ w.2.1 0 47 = x.1 ∧ ∀ i, i < x.2.2.length → w.1 21 i = (x.2.2.getD i 0 : Nat)
def AB (acc : Option Cd) : Prop := ∀ y, acc = some y → -10000000000000000 ≤ y.1 ∧ y.1 ≤ 10000000000000000 ∧ y.2.2.length ≤ 9
abbrev Skeep (j k : Nat) : Prop := j = 21 ∨ (j = 0 ∧ (k = 46 ∨ k = 47 ∨ k = 48))
theorem cv_keep {F : Nat} {w : AW} {acc : Option Cd} {x : Cd} {n : Int} {P : AW → Prop} (hF : FB F) (hacc : BI w acc) (hab : AB acc) (hn : n = x.2.2.length) (hx0 : x.2.2 ≠ []) (hx1 : n ≤ 9) (hx2 : -10000000000000000 ≤ x.1 ∧ x.1 ≤ 10000000000000000) (hst : ∀ i, i < x.2.2.length → w.1 16 i = (x.2.2.getD i 0 : Nat)) (hp : ∀ w', Fr Skeep w w' → BI w' (kp acc x) → w'.1 0 48 = w.1 0 48 + (ind (x.1 < 0) : Int) → P w') : CV (m_X9_keep F [vR 0, vI n, vL x.1] w) P := by
  have hlen : 0 < x.2.2.length := List.length_pos_iff.mpr hx0
  have key : ∀ b : Int, b = (ind (x.1 < 0) : Int) → TT (k_X9_keep_16 F [vR 0, vI n, vL x.1, vU, vU] [vI b, vI (w.1 0 48), vR 0] w) (qq 0 (fun r w => r = none ∧ P w)) := by
    intro b hb
    refine wp_X9_keep_16 F n x.1 b (w.1 0 48) w _ (fun w1 e1 => ?_)
    have g46 : w1.1 0 46 = w.1 0 46 := by rw [e1, wI_idx _ _ _ _ (by decide)]
    have g47 : w1.2.1 0 47 = w.2.1 0 47 := by rw [e1]; rfl
    have g48 : w1.1 0 48 = w.1 0 48 + (ind (x.1 < 0) : Int) := by rw [e1, wI_same, hb]
    have f1 : Fr Skeep w w1 := by rw [e1]; exact Fr.rf.wI _ (by simp [Skeep])
    have put : kp acc x = some x → TT (k_X9_keep_53 F [vR 0, vI n, vL x.1, vU, vU] [] w1) (qq 0 (fun r w => r = none ∧ P w)) := by
      intro hk
      refine wp_X9_keep_53 F n x.1 w1 _ (fun w2 e2 w3 e3 => ?_)
      have f3 : Fr Skeep w w3 := by rw [e3, e2]; exact (f1.wI _ (by simp [Skeep])).wL _ (by simp [Skeep])
      refine tt_for (K := k_X9_keep_66 F) n (fun i w' l => Fr (fun j k => j = 21) w3 w' ∧ l = [vR 0, vI n, vL x.1, vU, vI i] ∧ 0 ≤ i ∧ i ≤ n ∧ ∀ q, q < i.toNat → w'.1 21 q = (x.2.2.getD q 0 : Nat)) ?_ F 0 _ w3 (by omega) ⟨Fr.rf, rfl, by omega, by omega, fun q hq => by omega⟩
      rintro m i l w' ⟨ff, rfl, hi0, hi1, hw⟩ hk2
      rw [ks_X9_keep_66]
      refine wp_X9_keep_66 F _ n x.1 i w' _ ?_
      rw [w_id (x := i) (by omega) (by omega), w_id (x := n) (by omega) (by omega)]
      refine ⟨fun q => ⟨⟨hi0, by omega⟩, ⟨hi0, by omega⟩, fun w4 e4 => hk2 _ _ ⟨by rw [e4]; exact ff.wI _ rfl, rfl, by omega, by omega, fun z hz => ?_⟩ q⟩, fun q => q_v (hp w' (f3.tr (ff.wk (by intro j k; simp only [Skeep]; omega))) ?_ ?_)⟩
      · rw [e4, wI_at]
        by_cases e : z = i.toNat
        · rw [if_pos ⟨rfl, e⟩, e, ff.I 16 _ (by simp), f3.I 16 _ (by simp [Skeep])]
          exact hst _ (by omega)
        · rw [if_neg (fun y => e y.2)]
          exact hw z (by omega)
      · rw [hk]
        refine ⟨hx0, ?_, ?_, fun z hz => hw z (by omega)⟩
        · rw [ff.I 0 46 (by simp), e3, wL_I, e2, wI_same, hn]
        · rw [ff.L 0 47 (by simp), e3, wL_at, if_pos ⟨rfl, rfl⟩]
      · rw [ff.I 0 48 (by simp), e3, wL_I, e2, wI_idx _ _ _ _ (by decide), g48]
    have no : kp acc x = acc → qq 0 (fun r w => r = none ∧ P w) none w1 := by
      intro hk
      refine q_v (hp w1 f1 ?_ g48)
      rw [hk]
      cases acc with
      | none => exact g46.trans hacc
      | some y => exact ⟨hacc.1, g46.trans hacc.2.1, g47.trans hacc.2.2.1, fun i hi => by rw [e1, wI_cell _ _ _ _ (by decide)]; exact hacc.2.2.2 i hi⟩
    rw [g46, g47]
    cases acc with
    | none =>
      have h46 : w.1 0 46 = 0 := hacc
      rw [h46]
      exact br0 (put rfl)
    | some y =>
      obtain ⟨y1, y2, y3, y4⟩ := hacc
      obtain ⟨b1, b2, b3⟩ := hab y rfl
      have hy : 0 < y.2.2.length := List.length_pos_iff.mpr y1
      rw [y2, y3, w_id (x := (y.2.2.length : Int)) (by omega) (by omega), wl_id (x := x.1) (by omega) (by omega), wl_id (x := y.1) (by omega) (by omega), w_id (x := n) (by omega) (by omega)]
      refine ⟨fun q => by omega, fun _ => ⟨fun q => put (kp_pos (Or.inl q)), fun q => ⟨fun q2 => ⟨fun q3 => put (kp_pos (Or.inr ⟨q2, by omega⟩)), fun q3 => no (kp_neg (fun z => ?_))⟩, fun q2 => no (kp_neg (fun z => ?_))⟩⟩⟩
      · rcases z with z | z <;> omega
      · rcases z with z | z <;> omega
  refine wp_X9_keep F n x.1 w _ ?_
  rw [wl_id (x := x.1) (by omega) (by omega)]
  exact ⟨fun q => key 1 (by rw [ind_pos q]; rfl), fun q => key 0 (by rw [ind_neg q]; rfl)⟩
theorem ci_onStack {F : Nat} {w : AW} {T : Nat → Int} {r n l6 : Int} {P : Int → AW → Prop} (hF : FB F) (hH : HA w T) (hT : TK T) (h0 : 0 ≤ r) (h1 : r < T 1) (hn : 0 ≤ n ∧ n < 9) (hl : l6 = 0 ∨ l6 = 1) (hr1 : ∀ i : Nat, (i : Int) < n → iR (w.1 16 i)) (hr2 : ∀ i : Nat, (i : Int) ≤ n → iR (w.1 18 i)) (hfe : iR (rA T r + rB T r - w.1 18 n.toNat)) (hy : (l6 = 1 ∧ ∃ i : Nat, (i : Int) < n ∧ w.1 16 i = r) ∨ (l6 = 0 ∧ ∃ i : Nat, (i : Int) ≤ n ∧ w.1 18 i = rA T r + rB T r - w.1 18 n.toNat) → P 1 w) (hno : ¬ ((l6 = 1 ∧ ∃ i : Nat, (i : Int) < n ∧ w.1 16 i = r) ∨ (l6 = 0 ∧ ∃ i : Nat, (i : Int) ≤ n ∧ w.1 18 i = rA T r + rB T r - w.1 18 n.toNat)) → P 0 w) : CI (m_X9_isOnStack F [vR 0, vI r, vI n, vI l6] w) P := by
  have a1 := hT.2.1
  have hl2 : w32 l6 = 0 ↔ l6 = 0 := by rcases hl with e | e <;> subst e <;> decide
  refine wp_X9_isOnStack F r n l6 w _ ?_
  refine tt_for (K := k_X9_isOnStack_3 F) n (fun i w' l => w' = w ∧ l = [vR 0, vI r, vI n, vI l6, vI i] ∧ 0 ≤ i ∧ i ≤ n ∧ (l6 = 1 → ∀ q : Nat, (q : Int) < i → w.1 16 q ≠ r)) ?_ F 0 _ w (by omega) ⟨rfl, rfl, by omega, by omega, fun _ q hq => by omega⟩
  rintro m i l w' ⟨rfl, rfl, hi0, hi1, hw⟩ hk
  rw [ks_X9_isOnStack_3]
  refine wp_X9_isOnStack_3 F _ r n l6 i w' _ ?_
  rw [w_id (x := i) (by omega) (by omega), w_id (x := n) (by omega) (by omega), hl2, w_id (x := r) (by omega) (by omega)]
  refine ⟨fun q => ⟨fun q2 => wp_X9_isOnStack_26 F _ r n l6 i w' _ (hk _ _ ⟨rfl, rfl, by omega, by omega, fun z => by omega⟩ q), fun q2 => ⟨⟨hi0, by omega⟩, ?_⟩⟩, fun q => ?_⟩
  · have hr := hr1 i.toNat (by omega)
    rw [w_id hr.1 hr.2]
    refine ⟨fun q3 => q_z1 (hy (Or.inl ⟨by omega, i.toNat, by omega, q3⟩)), fun q3 => wp_X9_isOnStack_26 F _ r n l6 i w' _ (hk _ _ ⟨rfl, rfl, by omega, by omega, fun z y hy2 => ?_⟩ q)⟩
    by_cases e : y = i.toNat
    · rw [e]; exact q3
    · exact hw z y (by omega)
  · have hi : i = n := by omega
    subst hi
    refine tt_for (K := k_X9_isOnStack_35 F) (i + 1) (fun b w'' l => w'' = w' ∧ l = [vR 0, vI r, vI i, vI l6, vI b] ∧ 0 ≤ b ∧ b ≤ i + 1 ∧ (l6 = 0 → ∀ q : Nat, (q : Int) < b → w'.1 18 q ≠ rA T r + rB T r - w'.1 18 i.toNat)) ?_ F 0 _ w' (by omega) ⟨rfl, rfl, by omega, by omega, fun _ q hq => by omega⟩
    rintro m' b l w'' ⟨rfl, rfl, hb0, hb1, hw2⟩ hk2
    rw [ks_X9_isOnStack_35]
    refine wp_X9_isOnStack_35 F _ r i l6 b w'' _ ?_
    rw [w_id (x := i) (by omega) (by omega), w_id (x := b) (by omega) (by omega), hl2]
    refine ⟨fun q1 => q_z0 (hno ?_), fun q1 => ⟨fun q2 => ⟨⟨hb0, by omega⟩, ⟨by omega, by omega⟩, ci_farEnd hH hT h0 h1 ?_⟩, fun q2 => q_z0 (hno ?_)⟩⟩
    · rintro (⟨z1, y, z2, z3⟩ | ⟨z1, y, z2, z3⟩)
      · exact hw z1 y z2 z3
      · exact hw2 z1 y (by omega) z3
    · have hr := hr2 b.toNat (by omega)
      rw [w_id hr.1 hr.2, w_id hfe.1 hfe.2]
      refine ⟨fun q3 => q_z1 (hy (Or.inr ⟨q2, b.toNat, by omega, q3⟩)), fun q3 => hk2 _ _ ⟨rfl, rfl, by omega, by omega, fun z y hy2 => ?_⟩ (by omega)⟩
      by_cases e : y = b.toNat
      · rw [e]; exact q3
      · exact hw2 z y (by omega)
    · rintro (⟨z1, y, z2, z3⟩ | ⟨z1, y, z2, z3⟩)
      · exact hw z1 y z2 z3
      · exact q2 z1
/-! the search as a list -/
def need (d j : Nat) : Nat := match d with
  | 0 => 1
  | d + 1 => 1 + j * (1 + 30 ^ d)
theorem need_le (d : Nat) : need d 14 ≤ 30 ^ d := by
  cases d with
  | zero => decide
  | succ d =>
    show 1 + 14 * (1 + 30 ^ d) ≤ 30 ^ (d + 1)
    have : 1 ≤ 30 ^ d := Nat.one_le_pow _ _ (by decide)
    rw [Nat.pow_succ]
    omega
theorem need_mono (d : Nat) {j j' : Nat} (h : j ≤ j') : need d j ≤ need d j' := by
  cases d with
  | zero => exact Nat.le_refl 1
  | succ d =>
    show 1 + j * (1 + 30 ^ d) ≤ 1 + j' * (1 + 30 ^ d)
    have := Nat.mul_le_mul_right (1 + 30 ^ d) h
    omega
noncomputable def neg (l : List Cd) : Int := (l.map (fun x => (ind (x.1 < 0) : Int))).sum
theorem neg_app (a b : List Cd) : neg (a ++ b) = neg a + neg b := by
  unfold neg
  rw [List.map_append, List.sum_append]
theorem AB_kp {acc : Option Cd} {x : Cd} (h : AB acc) (hx : -10000000000000000 ≤ x.1 ∧ x.1 ≤ 10000000000000000 ∧ x.2.2.length ≤ 9) : AB (kp acc x) := by
  cases acc with
  | none => intro y hy; rw [kp_none] at hy; cases hy; exact hx
  | some z =>
    by_cases q : bt x z
    · rw [kp_pos q]; intro y hy; cases hy; exact hx
    · rw [kp_neg q]; exact h
/-- what the stacks hold at level n -/
def NS (w : AW) (n : Nat) (st : List Nat) (vis : List Int) (s t c : Int) : Prop := st.length = n ∧ (∀ i, i < n → w.1 16 i = (st.getD i 0 : Nat)) ∧ (∀ v, v ∈ vis ↔ ∃ i, i ≤ n ∧ w.1 18 i = v) ∧ w.1 18 n = s ∧ w.1 19 n = t ∧ w.2.1 20 n = c
abbrev Sdfs (n : Nat) (j k : Nat) : Prop := (j = 16 ∧ n ≤ k) ∨ (j = 17 ∧ n ≤ k) ∨ (j = 18 ∧ n + 1 ≤ k) ∨ (j = 19 ∧ n + 1 ≤ k) ∨ (j = 20 ∧ n + 1 ≤ k) ∨ j = 21 ∨ (j = 0 ∧ (k = 46 ∨ k = 47 ∨ k = 48))
def CT (T : Nat → Int) (fr : Int) (O : Nat → Int) (w : AW) : Prop := HA w T ∧ w.1 10 = O ∧ w.1 0 28 = fr
theorem CT.fr {T : Nat → Int} {fr : Int} {O : Nat → Int} {w w' : AW} {S : Nat → Nat → Prop} (h : CT T fr O w) (hf : Fr S w w') (hs : ∀ j k, (SHA j k ∨ j = 10 ∨ (j = 0 ∧ k = 28)) → ¬ S j k) : CT T fr O w' := ⟨h.1.fr hf (fun j k z => hs j k (Or.inl z)), by funext k; rw [hf.I 10 k (hs 10 k (by simp)), h.2.1], by rw [hf.I 0 28 (hs 0 28 (by simp))]; exact h.2.2⟩
noncomputable def LL (g : Mp) (rd : Prop) (to : Int) (d : Nat) (s t c : Int) (st : List Nat) (vis : List Int) (rs : List Nat) : List Cd := match d with
  | 0 => []
  | d + 1 => rs.flatMap (Ws g rd to d s t c st vis)
theorem LL_all (g : Mp) (rd : Prop) (to : Int) (d : Nat) (s t c : Int) (st : List Nat) (vis : List Int) : LL g rd to d s t c st vis (List.range g.R) = Wy g rd to d s t c st vis := by
  cases d with
  | zero => rfl
  | succ d => rfl
theorem dfs_ref {F : Nat} {T : Nat → Int} {fr p kind mi fm to l6 : Int} {O : Nat → Int} {most : Nat} {rd : Prop} {Q : Option AV → AW → Prop} (hF : FB F) (hT : TK T) (hO : OK T O) (hfr : -1 ≤ fr ∧ fr < 14) (hp0 : 0 ≤ p) (hp1 : p < T 2) (hk : 0 ≤ kind ∧ kind ≤ 2) (hmi : 0 ≤ mi ∧ mi ≤ 100000) (hto : 0 ≤ to ∧ to < 9) (hmost : most ≤ 8) (hl6 : (l6 = 1 ∧ rd) ∨ (l6 = 0 ∧ ¬ rd)) : ∀ (d n j : Nat) (st : List Nat) (vis : List Int) (s t c : Int) (acc : Option Cd) (w : AW) (N : Nat) (a9 a10 : AV), n + d = most → j ≤ (T 1).toNat → w.1 17 n = ((T 1).toNat - j : Nat) → NS w n st vis s t c → CT T fr O w → BI w acc → AB acc → (∀ v ∈ vis, 0 ≤ v ∧ v < 9) → (0 ≤ t ∧ t ≤ mi + 30 * n) → (-1000000000000000 * n ≤ c ∧ c ≤ 1000000000000000 * n) → (∀ r ∈ st, r < 14) → need d j ≤ N → (∀ (m : Nat) (w' : AW) (b9 b10 : AV), N ≤ m + need d j → Fr (Sdfs n) w w' → BI w' ((LL (mp T fr O p kind) rd to d s t c st vis ((List.range (T 1).toNat).drop ((T 1).toNat - j))).foldl kp acc) → AB ((LL (mp T fr O p kind) rd to d s t c st vis ((List.range (T 1).toNat).drop ((T 1).toNat - j))).foldl kp acc) → w'.1 0 48 = w.1 0 48 + neg (LL (mp T fr O p kind) rd to d s t c st vis ((List.range (T 1).toNat).drop ((T 1).toNat - j))) → TT (k_X9_finds_74 F m [vR 0, vI p, vI kind, vI mi, vI fm, vI to, vI l6, vI most, vI ((n : Int) + (-1)), b9, b10] [] w') Q) → TT (k_X9_finds_74 F N [vR 0, vI p, vI kind, vI mi, vI fm, vI to, vI l6, vI most, vI n, a9, a10] [] w) Q := by
  have a1 := hT.2.1
  have a0 := hT.1
  have hl01 : l6 = 0 ∨ l6 = 1 := by rcases hl6 with h | h <;> omega
  have hlw : w32 l6 = 0 ↔ ¬ rd := by
    rcases hl6 with ⟨e, h⟩ | ⟨e, h⟩ <;> subst e
    · exact ⟨fun z => absurd z (by decide), fun z => absurd h z⟩
    · exact ⟨fun _ => h, fun _ => by decide⟩
  intro d
  induction d with
  | zero =>
    intro n j st vis s t c acc w N a9 a10 hn hj hnext hNS hCT hBI hAB hvis ht hc hst hN hcont
    obtain ⟨M, rfl⟩ : ∃ M, N = M + 1 := ⟨N - 1, by have : need 0 j = 1 := rfl; omega⟩
    rw [ks_X9_finds_74]
    refine wp_X9_finds_74 F _ p kind mi fm to l6 most n a9 a10 w _ ?_
    rw [w_id (x := (n : Int)) (by omega) (by omega), w_id (x := (most : Int)) (by omega) (by omega)]
    refine ⟨fun q => by omega, fun _ => ⟨⟨by omega, by omega⟩, fun x3 e3 => ⟨⟨by omega, by omega⟩, ⟨by omega, by omega⟩, fun w5 e5 => ?_⟩⟩⟩
    have f5 : Fr (Sdfs n) w w5 := by rw [e5]; exact Fr.rf.wI _ (by simp [Sdfs])
    have pop : TT (k_X9_finds_115 F (k_X9_finds_74 F M) [vR 0, vI p, vI kind, vI mi, vI fm, vI to, vI l6, vI most, vI n, vI x3, a10] [] w5) Q := by
      refine wp_X9_finds_115 F _ p kind mi fm to l6 most n x3 a10 w5 _ (hcont M w5 _ _ (by show M + 1 ≤ M + 1; omega) f5 ?_ hAB ?_)
      · show BI w5 acc
        have g : ∀ k, w5.1 0 k = w.1 0 k := fun k => by rw [e5, wI_cell _ _ _ _ (by decide)]
        cases acc with
        | none => exact (g 46).trans hBI
        | some y => exact ⟨hBI.1, (g 46).trans hBI.2.1, by rw [e5]; exact hBI.2.2.1, fun i hi => by rw [e5, wI_cell _ _ _ _ (by decide)]; exact hBI.2.2.2 i hi⟩
      · rw [e5, wI_cell _ _ _ _ (by decide)]
        show w.1 0 48 = w.1 0 48 + 0
        omega
    exact ⟨fun _ => pop, fun _ => ⟨fun _ => pop, fun q => absurd (show (n : Int) = most by omega) q⟩⟩
  | succ d ihd =>
    intro n j
    induction j with
    | zero =>
      intro st vis s t c acc w N a9 a10 hn hj hnext hNS hCT hBI hAB hvis ht hc hst hN hcont
      obtain ⟨M, rfl⟩ : ∃ M, N = M + 1 := ⟨N - 1, by have : need (d + 1) 0 = 1 + 0 * (1 + 30 ^ d) := rfl; omega⟩
      rw [ks_X9_finds_74]
      refine wp_X9_finds_74 F _ p kind mi fm to l6 most n a9 a10 w _ ?_
      rw [w_id (x := (n : Int)) (by omega) (by omega), w_id (x := (most : Int)) (by omega) (by omega)]
      refine ⟨fun q => by omega, fun _ => ⟨⟨by omega, by omega⟩, fun x3 e3 => ⟨⟨by omega, by omega⟩, ⟨by omega, by omega⟩, fun w5 e5 => ?_⟩⟩⟩
      have f5 : Fr (Sdfs n) w w5 := by rw [e5]; exact Fr.rf.wI _ (by simp [Sdfs])
      have e23 : w5.1 0 23 = T 1 := by rw [e5, wI_cell _ _ _ _ (by decide)]; exact hCT.1.2.2.1
      have hx3 : x3 = T 1 := by rw [e3, show ((n : Int)).toNat = n from by omega, hnext]; omega
      have hl : (List.range (T 1).toNat).drop ((T 1).toNat - 0) = [] := List.drop_eq_nil_of_le (by simp)
      rw [e23, hx3]
      refine ⟨fun _ => wp_X9_finds_115 F _ p kind mi fm to l6 most n (T 1) a10 w5 _ (hcont M w5 _ _ (by show M + 1 ≤ M + (1 + 0 * (1 + 30 ^ d)); omega) f5 ?_ ?_ ?_), fun q => absurd rfl q⟩
      · show BI w5 ((((List.range (T 1).toNat).drop ((T 1).toNat - 0)).flatMap _).foldl kp acc)
        rw [hl]
        show BI w5 acc
        have g : ∀ k, w5.1 0 k = w.1 0 k := fun k => by rw [e5, wI_cell _ _ _ _ (by decide)]
        cases acc with
        | none => exact (g 46).trans hBI
        | some y => exact ⟨hBI.1, (g 46).trans hBI.2.1, by rw [e5]; exact hBI.2.2.1, fun i hi => by rw [e5, wI_cell _ _ _ _ (by decide)]; exact hBI.2.2.2 i hi⟩
      · show AB ((((List.range (T 1).toNat).drop ((T 1).toNat - 0)).flatMap _).foldl kp acc)
        rw [hl]
        exact hAB
      · show w5.1 0 48 = w.1 0 48 + neg (((List.range (T 1).toNat).drop ((T 1).toNat - 0)).flatMap _)
        rw [hl, e5, wI_cell _ _ _ _ (by decide)]
        show w.1 0 48 = w.1 0 48 + 0
        omega
    | succ j ihj =>
      intro st vis s t c acc w N a9 a10 hn hj hnext hNS hCT hBI hAB hvis ht hc hst hN hcont
      obtain ⟨Z, hZ⟩ : ∃ Z : Nat, Z = 30 ^ d := ⟨_, rfl⟩
      have hneed : need (d + 1) (j + 1) = need (d + 1) j + (1 + Z) := by
        show 1 + (j + 1) * (1 + 30 ^ d) = 1 + j * (1 + 30 ^ d) + (1 + Z)
        rw [Nat.add_mul, hZ]
        omega
      obtain ⟨M, rfl⟩ : ∃ M, N = M + 1 := ⟨N - 1, by omega⟩
      obtain ⟨r, hr⟩ : ∃ r : Nat, r = (T 1).toNat - (j + 1) := ⟨_, rfl⟩
      have hrR : r < (T 1).toNat := by omega
      have hdrop : (List.range (T 1).toNat).drop ((T 1).toNat - (j + 1)) = r :: (List.range (T 1).toNat).drop ((T 1).toNat - j) := by
        rw [← hr, List.drop_eq_getElem_cons (by simpa using hrR)]
        congr 1
        · simp
        · congr 1; omega
      have h0 : (0 : Int) ≤ r := by omega
      have h1 : (r : Int) < T 1 := by omega
      rw [ks_X9_finds_74]
      refine wp_X9_finds_74 F _ p kind mi fm to l6 most n a9 a10 w _ ?_
      rw [w_id (x := (n : Int)) (by omega) (by omega), w_id (x := (most : Int)) (by omega) (by omega), show ((n : Int)).toNat = n from by omega]
      refine ⟨fun q => by omega, fun _ => ⟨⟨by omega, by omega⟩, fun x3 e3 => ⟨⟨by omega, by omega⟩, ⟨by omega, by omega⟩, fun w5 e5 => ?_⟩⟩⟩
      have hx3 : x3 = (r : Int) := by rw [e3, hnext, hr]
      subst hx3
      have f5 : Fr (Sdfs n) w w5 := by rw [e5]; exact Fr.rf.wI _ (by simp [Sdfs])
      have c5 : ∀ j k, j ≠ 17 → w5.1 j k = w.1 j k := fun j k hjk => by rw [e5, wI_cell _ _ _ _ hjk]
      have l5 : w5.2 = w.2 := by rw [e5]; rfl
      have hnx5 : w5.1 17 n = ((T 1).toNat - j : Nat) := by rw [e5, wI_same, hnext]; omega
      have hCT5 : CT T fr O w5 := hCT.fr (S := Sdfs n) f5 (by intro j k; simp only [SHA, Sdfs]; omega)
      have e23 : w5.1 0 23 = T 1 := hCT5.1.2.2.1
      obtain ⟨n1, n2, n3, n4, n5, n6⟩ := hNS
      have hNS5 : NS w5 n st vis s t c := ⟨n1, fun i hi => by rw [c5 16 i (by decide)]; exact n2 i hi, fun v => by rw [n3 v]; simp only [c5 18 _ (show 18 ≠ 17 by decide)], by rw [c5 18 _ (by decide)]; exact n4, by rw [c5 19 _ (by decide)]; exact n5, by rw [l5]; exact n6⟩
      have hBI5 : BI w5 acc := by
        cases acc with
        | none => exact (c5 0 46 (by decide)).trans hBI
        | some y => exact ⟨hBI.1, (c5 0 46 (by decide)).trans hBI.2.1, by rw [l5]; exact hBI.2.2.1, fun i hi => by rw [c5 21 i (by decide)]; exact hBI.2.2.2 i hi⟩
      have hb5 : w5.1 0 48 = w.1 0 48 := c5 0 48 (by decide)
      have hsin : s ∈ vis := (n3 s).mpr ⟨n, Nat.le_refl n, n4⟩
      have hsr := hvis s hsin
      have htr := hT.road h0 h1
      -- going on at this level
      have again : ∀ (acc' : Option Cd) (wz : AW) (m : Nat) (b9 b10 : AV) (l : List Cd), Fr (Sdfs n) w wz → NS wz n st vis s t c → wz.1 17 n = ((T 1).toNat - j : Nat) → CT T fr O wz → BI wz acc' → AB acc' → acc' = l.foldl kp acc → wz.1 0 48 = w.1 0 48 + neg l → Ws (mp T fr O p kind) rd to d s t c st vis r = l → M ≤ m + Z → TT (k_X9_finds_74 F m [vR 0, vI p, vI kind, vI mi, vI fm, vI to, vI l6, vI most, vI n, b9, b10] [] wz) Q := by
        intro acc' wz m b9 b10 l hfz hNSz hnz hCTz hBIz hABz hacc' hbz hl hm
        refine ihj st vis s t c acc' wz m b9 b10 hn (by omega) hnz hNSz hCTz hBIz hABz hvis ht hc hst (by omega) (fun m' w' c9 c10 hm' hf' hB' hA' hb' => hcont m' w' c9 c10 (by omega) (hfz.tr hf') ?_ ?_ ?_)
        · show BI w' ((((List.range (T 1).toNat).drop ((T 1).toNat - (j + 1))).flatMap _).foldl kp acc)
          rw [hdrop, List.flatMap_cons, hl, List.foldl_append, ← hacc']
          exact hB'
        · show AB ((((List.range (T 1).toNat).drop ((T 1).toNat - (j + 1))).flatMap _).foldl kp acc)
          rw [hdrop, List.flatMap_cons, hl, List.foldl_append, ← hacc']
          exact hA'
        · show w'.1 0 48 = w.1 0 48 + neg (((List.range (T 1).toNat).drop ((T 1).toNat - (j + 1))).flatMap _)
          rw [hdrop, List.flatMap_cons, hl, neg_app, hb', hbz]
          show w.1 0 48 + neg l + neg (((List.range (T 1).toNat).drop ((T 1).toNat - j)).flatMap _) = _
          omega
      have skip : ¬ okr (mp T fr O p kind) rd r s st vis → ∀ b9 b10, TT (k_X9_finds_74 F M [vR 0, vI p, vI kind, vI mi, vI fm, vI to, vI l6, vI most, vI n, b9, b10] [] w5) Q := fun hno b9 b10 => again acc w5 M b9 b10 [] f5 hNS5 hnx5 hCT5 hBI5 hAB rfl (by rw [hb5]; show w.1 0 48 = w.1 0 48 + 0; omega) (Ws_no hno) (by omega)
      rw [e23, w_id (x := (r : Int)) (by omega) (by omega), w_id (x := T 1) (by omega) (by omega)]
      refine ⟨fun q => by omega, fun _ => ⟨fun q => by omega, fun _ => ⟨⟨by omega, by omega⟩, ?_⟩⟩⟩
      rw [c5 18 n (by decide), n4]
      refine ci_ends hCT5.1 hT h0 h1 ⟨by omega, by omega⟩ (fun hends => br1 ?_) (fun hends => br0 (skip (fun z => hends z.1) _ _))
      have e18 : w5.1 18 ((n : Int)).toNat = s := by rw [show ((n : Int)).toNat = n from by omega, c5 18 n (by decide), n4]
      have hfar : 0 ≤ rA T r + rB T r - s ∧ rA T r + rB T r - s < T 0 := by rcases hends with z | z <;> omega
      refine ci_onStack hF hCT5.1 hT h0 h1 ⟨by omega, by omega⟩ hl01 (fun i hi => ?_) (fun i hi => ?_) (by rw [e18]; exact ⟨by omega, by omega⟩) (fun hon => ?_) (fun hon => br0 ?_)
      · rw [c5 16 i (by decide), n2 i (by omega)]
        have : st.getD i 0 < 14 := by
          rw [List.getD_eq_getElem?_getD, List.getElem?_eq_getElem (by omega)]
          exact hst _ (List.getElem_mem _)
        exact ⟨by omega, by omega⟩
      · rw [c5 18 i (by decide)]
        have := hvis _ ((n3 (w.1 18 i)).mpr ⟨i, by omega, rfl⟩)
        exact ⟨by omega, by omega⟩
      · refine br1 (skip ?_ _ _)
        rintro ⟨-, z1, z2⟩
        rcases hon with ⟨y1, i, y2, y3⟩ | ⟨y1, i, y2, y3⟩
        · refine z1 (by rcases hl6 with h | h; exact h.2; omega) ?_
          rw [c5 16 i (by decide), n2 i (by omega)] at y3
          rw [List.getD_eq_getElem?_getD, List.getElem?_eq_getElem (by omega)] at y3
          have y4 : ((st[i]'(by omega) : Nat) : Int) = (r : Int) := by simpa using y3
          have : st[i]'(by omega) = r := by omega
          rw [← this]
          exact List.getElem_mem _
        · refine z2 (by rcases hl6 with h | h; omega; exact h.2) ((n3 _).mpr ⟨i, by omega, ?_⟩)
          rw [c5 18 i (by decide), e18] at y3
          exact y3
      · have hok : okr (mp T fr O p kind) rd r s st vis := by
          refine ⟨hends, fun z hin => hon (Or.inl ⟨by rcases hl6 with h | h; exact h.1; exact absurd z h.2, ?_⟩), fun z hin => hon (Or.inr ⟨by rcases hl6 with h | h; exact absurd h.2 z; exact h.1, ?_⟩)⟩
          · obtain ⟨i, hi, e⟩ := List.getElem_of_mem hin
            refine ⟨i, by omega, ?_⟩
            rw [c5 16 i (by decide), n2 i (by omega), List.getD_eq_getElem?_getD, List.getElem?_eq_getElem hi, e]
            rfl
          · obtain ⟨i, hi, e⟩ := (n3 _).mp hin
            exact ⟨i, by omega, by rw [c5 18 i (by decide), e18]; exact e⟩
        refine ⟨⟨by omega, by omega⟩, fun w17 e17 => ⟨⟨by omega, by omega⟩, ?_⟩⟩
        have f17 : Fr (Sdfs n) w w17 := by rw [e17]; exact f5.wI _ (by simp [Sdfs])
        have hCT17 : CT T fr O w17 := hCT.fr f17 (by intro j k; simp only [SHA, Sdfs]; omega)
        have g18 : w17.1 18 n = s := by rw [e17, wI_cell _ _ _ _ (by decide), c5 18 n (by decide), n4]
        rw [g18]
        refine ci_farEnd hCT17.1 hT h0 h1 ⟨⟨by omega, by omega⟩, fun w22 e22 => ⟨⟨by omega, by omega⟩, ?_⟩⟩
        rw [show ((n : Int) + 1).toNat = n + 1 from by omega] at e22 ⊢
        have f22 : Fr (Sdfs n) w w22 := by rw [e22]; exact f17.wI _ (by simp [Sdfs])
        have hCT22 : CT T fr O w22 := hCT.fr f22 (by intro j k; simp only [SHA, Sdfs]; omega)
        refine ci_rM hCT22.1 hT h0 h1 ⟨⟨by omega, by omega⟩, fun w27 e27 => ⟨⟨by omega, by omega⟩, ⟨by omega, by omega⟩, ?_⟩⟩
        have g19 : w22.1 19 n = t := by rw [e22, wI_cell _ _ _ _ (by decide), e17, wI_cell _ _ _ _ (by decide), c5 19 n (by decide), n5]
        rw [g19] at e27
        have f27 : Fr (Sdfs n) w w27 := by rw [e27]; exact f22.wI _ (by simp [Sdfs])
        have hCT27 : CT T fr O w27 := hCT.fr f27 (by intro j k; simp only [SHA, Sdfs]; omega)
        have g19' : w27.1 19 n = t := by rw [e27, wI_idx _ _ _ _ (by omega)]; exact g19
        rw [g19']
        have hOO : w27.1 10 = O := hCT27.2.1
        refine cl_costOf hF hCT27.1 hT (by rw [hOO]; exact hO) hCT27.2.2 hfr hp0 hp1 hk ⟨ht.1, by omega⟩ h0 h1 ⟨⟨by omega, by omega⟩, fun w32' e32 => ⟨⟨by omega, by omega⟩, ?_⟩⟩
        rw [hOO] at e32
        have g20 : w27.2.1 20 n = c := by rw [e27, wI_L, e22, wI_L, e17, wI_L, l5, n6]
        rw [g20] at e32
        have hcb := cst_b (fr := fr) (p := p) (kind := kind) (O := O) hT h0 h1 hp0 hp1 ht.1
        have f32 : Fr (Sdfs n) w w32' := by rw [e32]; exact f27.wL _ (by simp [Sdfs])
        have hCT32 : CT T fr O w32' := hCT.fr f32 (by intro j k; simp only [SHA, Sdfs]; omega)
        -- what the world holds now
        have k16 : ∀ i, i < n + 1 → w32'.1 16 i = ((st ++ [r]).getD i 0 : Nat) := by
          intro i hi
          rw [e32, wL_I, e27, wI_cell _ _ _ _ (by decide), e22, wI_cell _ _ _ _ (by decide), e17, wI_at]
          by_cases e : i = n
          · rw [if_pos ⟨rfl, e⟩, e, List.getD_eq_getElem?_getD, List.getElem?_append_right (by omega)]
            simp [n1]
          · rw [if_neg (fun z => e z.2), c5 16 i (by decide), n2 i (by omega), List.getD_eq_getElem?_getD, List.getD_eq_getElem?_getD, List.getElem?_append_left (by omega)]
        have k18 : ∀ i, i ≤ n → w32'.1 18 i = w.1 18 i := by
          intro i hi
          rw [e32, wL_I, e27, wI_cell _ _ _ _ (by decide), e22, wI_idx _ _ _ _ (by omega), e17, wI_cell _ _ _ _ (by decide), c5 18 i (by decide)]
        have k18n : w32'.1 18 (n + 1) = frr (mp T fr O p kind) r s := by
          rw [e32, wL_I, e27, wI_cell _ _ _ _ (by decide), e22, wI_same]
          rfl
        have k19n : w32'.1 19 (n + 1) = t + rM T r := by rw [e32, wL_I, e27, wI_same]
        have k20n : w32'.2.1 20 (n + 1) = c + cst T fr O p kind r t := by rw [e32, wL_at, if_pos ⟨rfl, rfl⟩]
        have k17 : w32'.1 17 n = ((T 1).toNat - j : Nat) := by
          rw [e32, wL_I, e27, wI_cell _ _ _ _ (by decide), e22, wI_cell _ _ _ _ (by decide), e17, wI_cell _ _ _ _ (by decide)]
          exact hnx5
        have hBI32 : BI w32' acc := by
          have z1 : ∀ j k, j ≠ 16 → j ≠ 18 → j ≠ 19 → w32'.1 j k = w5.1 j k := fun j k z1 z2 z3 => by rw [e32, wL_I, e27, wI_cell _ _ _ _ z3, e22, wI_cell _ _ _ _ z2, e17, wI_cell _ _ _ _ z1]
          cases acc with
          | none => exact (z1 0 46 (by decide) (by decide) (by decide)).trans hBI5
          | some y =>
            refine ⟨hBI5.1, (z1 0 46 (by decide) (by decide) (by decide)).trans hBI5.2.1, ?_, fun i hi => (z1 21 i (by decide) (by decide) (by decide)).trans (hBI5.2.2.2 i hi)⟩
            rw [e32, wL_at, if_neg (by simp), e27, wI_L, e22, wI_L, e17, wI_L]
            exact hBI5.2.2.1
        have hb32 : w32'.1 0 48 = w.1 0 48 := by rw [e32, wL_I, e27, wI_cell _ _ _ _ (by decide), e22, wI_cell _ _ _ _ (by decide), e17, wI_cell _ _ _ _ (by decide)]; exact hb5
        have hNSn : ∀ wz, Fr Skeep w32' wz → NS wz (n + 1) (st ++ [r]) (frr (mp T fr O p kind) r s :: vis) (frr (mp T fr O p kind) r s) (t + rM T r) (c + cst T fr O p kind r t) := by
          intro wz hz
          refine ⟨by simp [n1], fun i hi => by rw [hz.I 16 i (by simp [Skeep])]; exact k16 i hi, fun v => ?_, by rw [hz.I 18 _ (by simp [Skeep])]; exact k18n, by rw [hz.I 19 _ (by simp [Skeep])]; exact k19n, by rw [hz.L 20 _ (by simp [Skeep])]; exact k20n⟩
          rw [List.mem_cons, n3 v]
          constructor
          · rintro (z | ⟨i, z1, z2⟩)
            · exact ⟨n + 1, Nat.le_refl _, by rw [hz.I 18 _ (by simp [Skeep]), k18n, z]⟩
            · exact ⟨i, by omega, by rw [hz.I 18 _ (by simp [Skeep]), k18 i z1]; exact z2⟩
          · rintro ⟨i, z1, z2⟩
            rw [hz.I 18 _ (by simp [Skeep])] at z2
            by_cases e : i = n + 1
            · rw [e, k18n] at z2; exact Or.inl z2.symm
            · rw [k18 i (by omega)] at z2; exact Or.inr ⟨i, by omega, z2⟩
        have hNSs : ∀ wz, Fr (Sdfs (n + 1)) w32' wz → NS wz n st vis s t c := by
          intro wz hz
          refine ⟨n1, fun i hi => ?_, fun v => ?_, ?_, ?_, ?_⟩
          · rw [hz.I 16 i (by simp [Sdfs]; omega), k16 i (by omega), List.getD_eq_getElem?_getD, List.getD_eq_getElem?_getD, List.getElem?_append_left (by omega)]
          · rw [n3 v]
            constructor
            · rintro ⟨i, z1, z2⟩; exact ⟨i, z1, by rw [hz.I 18 i (by simp [Sdfs]; omega), k18 i z1]; exact z2⟩
            · rintro ⟨i, z1, z2⟩; exact ⟨i, z1, by rw [hz.I 18 i (by simp [Sdfs]; omega), k18 i z1] at z2; exact z2⟩
          · rw [hz.I 18 n (by simp only [Sdfs]; omega), k18 n (Nat.le_refl n)]; exact n4
          · rw [hz.I 19 n (by simp only [Sdfs]; omega), e32, wL_I]; exact g19'
          · rw [hz.L 20 n (by simp only [Sdfs]; omega), e32, wL_at, if_neg (by omega)]; exact g20
        -- one level deeper, or on
        have deep : ∀ (wz : AW) (acc' : Option Cd) (e : List Cd) (thr : Int), Fr Skeep w32' wz → BI wz acc' → AB acc' → acc' = e.foldl kp acc → wz.1 0 48 = w.1 0 48 + neg e → (e = [(c + cst T fr O p kind r t, t + rM T r, st ++ [r])] ∧ (frr (mp T fr O p kind) r s = to ∧ (rd → st ≠ [])) ∨ e = [] ∧ ¬ (frr (mp T fr O p kind) r s = to ∧ (rd → st ≠ []))) → (w32 thr = 0 ↔ ¬ frr (mp T fr O p kind) r s = to) → TT (k_X9_finds_293 F (k_X9_finds_74 F M) [vR 0, vI p, vI kind, vI mi, vI fm, vI to, vI l6, vI most, vI n, vI r, vI thr] [] wz) Q := by
          intro wz acc' e thr hz hBz hAz hez hbz he hthr
          have fz : Fr (Sdfs n) w wz := f32.tr (hz.wk (by intro j k; simp only [Skeep, Sdfs]; omega))
          refine wp_X9_finds_293 F _ p kind mi fm to l6 most n r thr wz _ ?_
          have down : ¬ (frr (mp T fr O p kind) r s = to ∧ ¬ rd) → TT (k_X9_finds_303 F (k_X9_finds_74 F M) [vR 0, vI p, vI kind, vI mi, vI fm, vI to, vI l6, vI most, vI n, vI r, vI thr] [] wz) Q := by
            intro hd
            refine wp_X9_finds_303 F _ p kind mi fm to l6 most n r thr wz _ ⟨⟨by omega, by omega⟩, fun wy ey => wp_X9_finds_314 F _ p kind mi fm to l6 most _ r thr wy _ ?_⟩
            rw [show ((n : Int) + 1).toNat = n + 1 from by omega] at ey
            have cy : ∀ j k, j ≠ 17 → wy.1 j k = wz.1 j k := fun j k hj => by rw [ey, wI_cell _ _ _ _ hj]
            have ly : wy.2 = wz.2 := by rw [ey]; rfl
            have hNz := hNSn wz hz
            have hfy : Fr (Sdfs (n + 1)) w32' wy := by rw [ey]; exact (hz.wk (by intro j k; simp only [Skeep, Sdfs]; omega)).wI _ (by simp [Sdfs])
            have hneed2 : need d (T 1).toNat ≤ Z := by rw [hZ]; exact Nat.le_trans (need_mono d (by omega)) (need_le d)
            have hlist : LL (mp T fr O p kind) rd to d (frr (mp T fr O p kind) r s) (t + rM T r) (c + cst T fr O p kind r t) (st ++ [r]) (frr (mp T fr O p kind) r s :: vis) ((List.range (T 1).toNat).drop ((T 1).toNat - (T 1).toNat)) = Wy (mp T fr O p kind) rd to d (frr (mp T fr O p kind) r s) (t + rM T r) (c + cst T fr O p kind r t) (st ++ [r]) (frr (mp T fr O p kind) r s :: vis) := by
              rw [Nat.sub_self, List.drop_zero]
              exact LL_all _ _ _ _ _ _ _ _ _
            have := ihd (n + 1) (T 1).toNat (st ++ [r]) (frr (mp T fr O p kind) r s :: vis) (frr (mp T fr O p kind) r s) (t + rM T r) (c + cst T fr O p kind r t) acc' wy M (vI r) (vI thr) (by omega) (Nat.le_refl _) (by rw [ey, wI_same]; omega) ⟨hNz.1, fun i hi => by rw [cy 16 i (by decide)]; exact hNz.2.1 i hi, fun v => by rw [hNz.2.2.1 v]; simp only [cy 18 _ (show 18 ≠ 17 by decide)], by rw [cy 18 _ (by decide)]; exact hNz.2.2.2.1, by rw [cy 19 _ (by decide)]; exact hNz.2.2.2.2.1, by rw [ly]; exact hNz.2.2.2.2.2⟩ (hCT32.fr hfy (by intro j k; simp only [SHA, Sdfs]; omega)) (by
                cases acc' with
                | none => exact (cy 0 46 (by decide)).trans hBz
                | some y => exact ⟨hBz.1, (cy 0 46 (by decide)).trans hBz.2.1, by rw [ly]; exact hBz.2.2.1, fun i hi => by rw [cy 21 i (by decide)]; exact hBz.2.2.2 i hi⟩) hAz (fun v hv => by
                rcases List.mem_cons.mp hv with z | z
                · rw [z]; show 0 ≤ rA T r + rB T r - s ∧ rA T r + rB T r - s < 9; omega
                · exact hvis v z) ⟨by omega, by push_cast; omega⟩ ⟨by push_cast; omega, by push_cast; omega⟩ (fun r' hr' => by
                rcases List.mem_append.mp hr' with z | z
                · exact hst r' z
                · have : r' = r := by simpa using z
                  omega) (by omega)
            rw [show ((n + 1 : Nat) : Int) = (n : Int) + 1 from by omega] at this
            refine this (fun m w' b9 b10 hm hf' hB' hA' hb' => ?_)
            rw [show ((n : Int) + 1 + (-1)) = (n : Int) from by omega]
            rw [hlist] at hB' hA' hb'
            generalize hWy : Wy (mp T fr O p kind) rd to d (frr (mp T fr O p kind) r s) (t + rM T r) (c + cst T fr O p kind r t) (st ++ [r]) (frr (mp T fr O p kind) r s :: vis) = L at hB' hA' hb'
            have fw' : Fr (Sdfs (n + 1)) w32' w' := hfy.tr hf'
            have fw : Fr (Sdfs n) w w' := f32.tr (fw'.wk (by intro j k; simp only [Sdfs]; omega))
            refine again (L.foldl kp acc') w' m b9 b10 (e ++ L) fw (hNSs w' fw') ?_ (hCT.fr fw (by intro j k; simp only [SHA, Sdfs]; omega)) hB' hA' (by rw [List.foldl_append, hez]) (by rw [neg_app, hb', cy 0 48 (by decide), hbz]; omega) ?_ (by omega)
            · rw [fw'.I 17 n (by simp [Sdfs])]; exact k17
            · exact Ws_yes hok he (Or.inr ⟨hWy.symm, hd⟩)
          have over : frr (mp T fr O p kind) r s = to ∧ ¬ rd → TT (k_X9_finds_314 F (k_X9_finds_74 F M) [vR 0, vI p, vI kind, vI mi, vI fm, vI to, vI l6, vI most, vI n, vI r, vI thr] [] wz) Q := by
            intro hd
            refine wp_X9_finds_314 F _ p kind mi fm to l6 most n r thr wz _ ?_
            refine again acc' wz M _ _ e fz (hNSs wz (hz.wk (by intro j k; simp only [Skeep, Sdfs]; omega))) (by rw [hz.I 17 n (by simp [Skeep])]; exact k17) (hCT.fr fz (by intro j k; simp only [SHA, Sdfs]; omega)) hBz hAz hez hbz ?_ (by omega)
            have := Ws_yes hok he (Or.inl ⟨rfl, hd⟩) (d := d)
            rw [List.append_nil] at this
            exact this
          rw [hlw, hthr]
          exact ⟨fun z => ⟨fun y => down (fun x => y x.1), fun y => over ⟨by simpa using y, z⟩⟩, fun z => down (fun x => z x.2)⟩
        have nokeep : ∀ thr : Int, (w32 thr = 0 ↔ ¬ frr (mp T fr O p kind) r s = to) → ¬ (frr (mp T fr O p kind) r s = to ∧ (rd → st ≠ [])) → TT (k_X9_finds_293 F (k_X9_finds_74 F M) [vR 0, vI p, vI kind, vI mi, vI fm, vI to, vI l6, vI most, vI n, vI r, vI thr] [] w32') Q := fun thr hthr hno => deep w32' acc [] thr Fr.rf hBI32 hAB rfl (by rw [hb32]; show w.1 0 48 = w.1 0 48 + 0; omega) (Or.inr ⟨rfl, hno⟩) hthr
        have dokeep : ∀ thr : Int, (w32 thr = 0 ↔ ¬ frr (mp T fr O p kind) r s = to) → frr (mp T fr O p kind) r s = to ∧ (rd → st ≠ []) → TT (k_X9_finds_276 F (k_X9_finds_74 F M) [vR 0, vI p, vI kind, vI mi, vI fm, vI to, vI l6, vI most, vI n, vI r, vI thr] [] w32') Q := by
          intro thr hthr hyes
          refine wp_X9_finds_276 F _ p kind mi fm to l6 most n r thr w32' _ ⟨⟨by omega, by omega⟩, ?_⟩
          rw [show ((n : Int) + 1).toNat = n + 1 from by omega, k20n]
          refine cv_keep (x := (c + cst T fr O p kind r t, t + rM T r, st ++ [r])) hF hBI32 hAB (by show (n : Int) + 1 = ((st ++ [r]).length : Nat); simp [n1]) (by simp) (by omega) (by show _ ≤ c + cst T fr O p kind r t ∧ _; omega) (fun i hi => k16 i (by simpa [n1] using hi)) (fun wz hz hBz hbz => ?_)
          refine deep wz _ [(c + cst T fr O p kind r t, t + rM T r, st ++ [r])] thr hz hBz (AB_kp hAB ?_) rfl ?_ (Or.inl ⟨rfl, hyes⟩) hthr
          · show _ ≤ c + cst T fr O p kind r t ∧ _ ∧ (st ++ [r]).length ≤ 9
            simp [n1]; omega
          · rw [hbz, hb32]
            show w.1 0 48 + (ind (c + cst T fr O p kind r t < 0) : Int) = w.1 0 48 + ((ind (c + cst T fr O p kind r t < 0) : Int) + 0)
            rw [Int.add_zero]
        have k18n' : w32'.1 18 (n + 1) = rA T r + rB T r - s := k18n
        have hthr1 : frr (mp T fr O p kind) r s = to → (w32 1 = 0 ↔ ¬ frr (mp T fr O p kind) r s = to) := fun z => ⟨fun y => absurd y (by decide), fun y => absurd z y⟩
        have hthr0 : ¬ frr (mp T fr O p kind) r s = to → (w32 0 = 0 ↔ ¬ frr (mp T fr O p kind) r s = to) := fun z => ⟨fun _ => z, fun _ => by decide⟩
        have hst0 : (st ≠ []) ↔ 0 < n := by
          rw [← n1]
          constructor
          · intro z; exact List.length_pos_iff.mpr z
          · intro z; exact List.length_pos_iff.mp z
        rw [k18n', w_id (x := rA T r + rB T r - s) (by omega) (by omega), w_id (x := to) (by omega) (by omega)]
        refine ⟨fun z => wp_X9_finds_259 F _ p kind mi fm to l6 most n r a10 1 w32' _ ?_, fun z => wp_X9_finds_259 F _ p kind mi fm to l6 most n r a10 0 w32' _ ?_⟩
        · have z : frr (mp T fr O p kind) r s = to := z
          refine br1 ?_
          rw [hlw, w_id (x := (n : Int)) (by omega) (by omega)]
          refine ⟨fun y => dokeep 1 (hthr1 z) ⟨z, fun x => absurd x y⟩, fun y => ⟨fun x => dokeep 1 (hthr1 z) ⟨z, fun _ => hst0.mpr (by omega)⟩, fun x => nokeep 1 (hthr1 z) (fun v => ?_)⟩⟩
          have := hst0.mp (v.2 (by simpa using y))
          omega
        · have z : ¬ frr (mp T fr O p kind) r s = to := z
          exact br0 (nokeep 0 (hthr0 z) (fun v => z v.1))
