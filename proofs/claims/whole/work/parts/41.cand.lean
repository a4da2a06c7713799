/-! WAYS AND ROUNDS AS A LIST, IN THE ORDER OF THEIR ROWS OF ROADS -/
abbrev Cd : Type := Int × Int × List Nat
/-- a map: how many roads, the two ends, the minutes, the cost of a road at a minute -/
abbrev Mp : Type := Nat × (Nat → Int) × (Nat → Int) × (Nat → Int) × (Nat → Int → Int)
abbrev Mp.R (g : Mp) : Nat := g.1
abbrev Mp.a (g : Mp) (r : Nat) : Int := g.2.1 r
abbrev Mp.b (g : Mp) (r : Nat) : Int := g.2.2.1 r
abbrev Mp.m (g : Mp) (r : Nat) : Int := g.2.2.2.1 r
abbrev Mp.c (g : Mp) (r : Nat) (t : Int) : Int := g.2.2.2.2 r t
def eds (g : Mp) (r : Nat) (s : Int) : Prop := g.a r = s ∨ g.b r = s
def frr (g : Mp) (r : Nat) (s : Int) : Int := g.a r + g.b r - s
/-- may this road be walked next: rounds: it is not on the row; ways: its far end is a new place -/
def okr (g : Mp) (rd : Prop) (r : Nat) (s : Int) (st : List Nat) (vis : List Int) : Prop := eds g r s ∧ (rd → r ∉ st) ∧ (¬ rd → frr g r s ∉ vis)
noncomputable def Wy (g : Mp) (rd : Prop) (to : Int) : Nat → Int → Int → Int → List Nat → List Int → List Cd := by
  classical
  exact fun d => Nat.rec (fun _ _ _ _ _ => []) (fun _ rec s t c st vis => (List.range g.R).flatMap (fun r => if okr g rd r s st vis then (if frr g r s = to ∧ (rd → st ≠ []) then [(c + g.c r t, t + g.m r, st ++ [r])] else []) ++ (if frr g r s = to ∧ ¬ rd then [] else rec (frr g r s) (t + g.m r) (c + g.c r t) (st ++ [r]) (frr g r s :: vis)) else [])) d
/-- what comes of going along r -/
noncomputable def Ws (g : Mp) (rd : Prop) (to : Int) (d : Nat) (s t c : Int) (st : List Nat) (vis : List Int) (r : Nat) : List Cd := by
  classical
  exact if okr g rd r s st vis then (if frr g r s = to ∧ (rd → st ≠ []) then [(c + g.c r t, t + g.m r, st ++ [r])] else []) ++ (if frr g r s = to ∧ ¬ rd then [] else Wy g rd to d (frr g r s) (t + g.m r) (c + g.c r t) (st ++ [r]) (frr g r s :: vis)) else []
theorem Wy_zero (g : Mp) (rd : Prop) (to s t c : Int) (st : List Nat) (vis : List Int) : Wy g rd to 0 s t c st vis = [] := rfl
theorem Wy_succ (g : Mp) (rd : Prop) (to : Int) (d : Nat) (s t c : Int) (st : List Nat) (vis : List Int) : Wy g rd to (d + 1) s t c st vis = (List.range g.R).flatMap (Ws g rd to d s t c st vis) := rfl
theorem Ws_no {g : Mp} {rd : Prop} {to : Int} {d : Nat} {s t c : Int} {st : List Nat} {vis : List Int} {r : Nat} (h : ¬ okr g rd r s st vis) : Ws g rd to d s t c st vis r = [] := by
  unfold Ws
  rw [if_neg h]
theorem Ws_yes {g : Mp} {rd : Prop} {to : Int} {d : Nat} {s t c : Int} {st : List Nat} {vis : List Int} {r : Nat} (h : okr g rd r s st vis) {e k : List Cd} (he : e = [(c + g.c r t, t + g.m r, st ++ [r])] ∧ (frr g r s = to ∧ (rd → st ≠ [])) ∨ e = [] ∧ ¬ (frr g r s = to ∧ (rd → st ≠ []))) (hk : k = [] ∧ (frr g r s = to ∧ ¬ rd) ∨ k = Wy g rd to d (frr g r s) (t + g.m r) (c + g.c r t) (st ++ [r]) (frr g r s :: vis) ∧ ¬ (frr g r s = to ∧ ¬ rd)) : Ws g rd to d s t c st vis r = e ++ k := by
  unfold Ws
  rw [if_pos h]
  rcases he with ⟨h1, h2⟩ | ⟨h1, h2⟩ <;> rcases hk with ⟨h3, h4⟩ | ⟨h3, h4⟩
  · rw [if_pos h2, if_pos h4, h1, h3]
  · rw [if_pos h2, if_neg h4, h1, h3]
  · rw [if_neg h2, if_pos h4, h1, h3]
  · rw [if_neg h2, if_neg h4, h1, h3]
/-- a candidate of a road: the road itself, or one behind it -/
theorem Ws_mem {g : Mp} {rd : Prop} {to : Int} {d : Nat} {s t c : Int} {st : List Nat} {vis : List Int} {r : Nat} {x : Cd} (h : x ∈ Ws g rd to d s t c st vis r) : okr g rd r s st vis ∧ ((x = (c + g.c r t, t + g.m r, st ++ [r]) ∧ frr g r s = to ∧ (rd → st ≠ [])) ∨ (¬ (frr g r s = to ∧ ¬ rd) ∧ x ∈ Wy g rd to d (frr g r s) (t + g.m r) (c + g.c r t) (st ++ [r]) (frr g r s :: vis))) := by
  unfold Ws at h
  split at h
  · rename_i h1
    refine ⟨h1, ?_⟩
    rcases List.mem_append.mp h with h2 | h2
    · split at h2
      · rename_i h3
        exact Or.inl ⟨by simpa using h2, h3⟩
      · cases h2
    · split at h2
      · cases h2
      · rename_i h3
        exact Or.inr ⟨h3, h2⟩
  · cases h
theorem Wy_mem {g : Mp} {rd : Prop} {to : Int} {d : Nat} {s t c : Int} {st : List Nat} {vis : List Int} {x : Cd} (h : x ∈ Wy g rd to (d + 1) s t c st vis) : ∃ r, r < g.R ∧ x ∈ Ws g rd to d s t c st vis r := by
  rw [Wy_succ] at h
  obtain ⟨r, h1, h2⟩ := List.mem_flatMap.mp h
  exact ⟨r, List.mem_range.mp h1, h2⟩
/-- a town's map -/
def MOK (g : Mp) (P : Nat) : Prop := ∀ r, r < g.R → 0 ≤ g.a r ∧ g.a r < P ∧ 0 ≤ g.b r ∧ g.b r < P ∧ g.a r ≠ g.b r ∧ 1 ≤ g.m r ∧ g.m r ≤ 30
def Jm (g : Mp) (x : Int) (a b d : Int) : Prop := ∃ r, r < g.R ∧ (r : Int) ≠ x ∧ d = g.m r ∧ ((a = g.a r ∧ b = g.b r) ∨ (a = g.b r ∧ b = g.a r))
theorem Jm_ok {g : Mp} {P : Nat} (h : MOK g P) (x : Int) : JOK (Jm g x) P := by
  refine ⟨fun a b d hj => ?_, fun a b d hj => ?_⟩
  · obtain ⟨r, h1, h2, h3, h4⟩ := hj
    refine ⟨r, h1, h2, h3, ?_⟩
    rcases h4 with ⟨e1, e2⟩ | ⟨e1, e2⟩
    · exact Or.inr ⟨e2, e1⟩
    · exact Or.inl ⟨e2, e1⟩
  · obtain ⟨r, h1, h2, h3, h4⟩ := hj
    have := h r h1
    rcases h4 with ⟨e1, e2⟩ | ⟨e1, e2⟩ <;> subst e1 <;> subst e2 <;> subst h3 <;> exact ⟨by omega, by omega, by omega, by omega, by omega, by omega⟩
theorem frr_J {g : Mp} {r : Nat} {s : Int} (hr : r < g.R) (h : eds g r s) : Jm g (-1) s (frr g r s) (g.m r) := by
  refine ⟨r, hr, by omega, rfl, ?_⟩
  unfold frr
  rcases h with h | h <;> rw [← h]
  · exact Or.inl ⟨rfl, by omega⟩
  · exact Or.inr ⟨rfl, by omega⟩
theorem frr_in {g : Mp} {P : Nat} (hg : MOK g P) {r : Nat} {s : Int} (hr : r < g.R) (h : eds g r s) : 0 ≤ frr g r s ∧ frr g r s < P ∧ frr g r s ≠ s := by
  have := hg r hr
  unfold frr
  rcases h with h | h <;> exact ⟨by omega, by omega, by omega⟩
/-- every candidate is a walk of as many minutes, and costs at least what its minutes cost, less all hopes of further roads -/
theorem Wy_walk {g : Mp} {rd : Prop} {to : Int} : ∀ d s t c st vis x, x ∈ Wy g rd to d s t c st vis → ∃ n, Wk (Jm g (-1)) n s to (x.2.1 - t)
  | 0, s, t, c, st, vis, x, h => by cases h
  | d + 1, s, t, c, st, vis, x, h => by
    obtain ⟨r, h1, h2⟩ := Wy_mem h
    obtain ⟨h3, h4⟩ := Ws_mem h2
    have hj := frr_J h1 h3.1
    rcases h4 with ⟨e, h5, -⟩ | ⟨-, h5⟩
    · refine ⟨1, ?_⟩
      subst e
      rw [h5] at hj
      have := Wk_cons 0 s to to 0 (g.m r) hj ⟨rfl, rfl⟩
      rw [show (0 : Int) + g.m r = (t + g.m r) - t from by omega] at this
      exact this
    · obtain ⟨n, h6⟩ := Wy_walk d _ _ _ _ _ x h5
      refine ⟨n + 1, ?_⟩
      have := Wk_cons n s _ to _ _ hj h6
      rw [show x.2.1 - (t + g.m r) + g.m r = x.2.1 - t from by omega] at this
      exact this
/-- hopes of all roads that are not on the row -/
noncomputable def hsm (hp : Nat → Int) (st : List Nat) : Nat → Int
  | 0 => 0
  | n + 1 => hsm hp st n + (ind (n ∉ st) : Int) * hp n
theorem hsm_nonneg {hp : Nat → Int} (h : ∀ r, 0 ≤ hp r) (st : List Nat) : ∀ n, 0 ≤ hsm hp st n
  | 0 => Int.le_refl 0
  | n + 1 => by
    have := hsm_nonneg h st n
    have := h n
    unfold hsm
    by_cases q : n ∉ st
    · rw [ind_pos q]; omega
    · rw [ind_neg q]; omega
theorem hsm_out {hp : Nat → Int} {st : List Nat} {r : Nat} : ∀ n, n ≤ r → hsm hp (st ++ [r]) n = hsm hp st n
  | 0, _ => rfl
  | n + 1, h => by
    have h1 := hsm_out (hp := hp) (st := st) (r := r) n (by omega)
    unfold hsm
    rw [h1]
    have : n ≠ r := by omega
    by_cases q : n ∉ st
    · rw [ind_pos q, ind_pos (by simp [q, this])]
    · rw [ind_neg q, ind_neg (by simp at q; simp [q])]
theorem hsm_in {hp : Nat → Int} {st : List Nat} {r : Nat} (hr : r ∉ st) : ∀ n, r < n → hsm hp (st ++ [r]) n = hsm hp st n - hp r
  | 0, h => absurd h (Nat.not_lt_zero r)
  | n + 1, h => by
    unfold hsm
    by_cases e : r = n
    · subst e
      rw [hsm_out r (Nat.le_refl r), ind_neg (by simp), ind_pos hr]
      omega
    · rw [hsm_in hr n (by omega)]
      have : n ≠ r := fun z => e z.symm
      by_cases q : n ∉ st
      · rw [ind_pos q, ind_pos (by simp [q, this])]; omega
      · rw [ind_neg q, ind_neg (by simp at q; simp [q])]; omega
/-- a node: roads of the row have both ends among the places (ways) -/
def NdOK (g : Mp) (rd : Prop) (s : Int) (st : List Nat) (vis : List Int) : Prop := s ∈ vis ∧ (¬ rd → ∀ r, r ∈ st → g.a r ∈ vis ∧ g.b r ∈ vis)
theorem okr_new {g : Mp} {rd : Prop} {r : Nat} {s : Int} {st : List Nat} {vis : List Int} (hn : NdOK g rd s st vis) (h : okr g rd r s st vis) : r ∉ st := by
  intro hr
  by_cases q : rd
  · exact h.2.1 q hr
  · have h1 := hn.2 q r hr
    have h2 := h.2.2 q
    unfold frr at h2
    rcases h.1 with e | e
    · apply h2; rw [show g.a r + g.b r - s = g.b r from by omega]; exact h1.2
    · apply h2; rw [show g.a r + g.b r - s = g.a r from by omega]; exact h1.1
theorem NdOK_step {g : Mp} {rd : Prop} {r : Nat} {s : Int} {st : List Nat} {vis : List Int} (hn : NdOK g rd s st vis) (h : okr g rd r s st vis) : NdOK g rd (frr g r s) (st ++ [r]) (frr g r s :: vis) := by
  refine ⟨List.mem_cons_self, fun q r' hr' => ?_⟩
  rcases List.mem_append.mp hr' with h1 | h1
  · have := hn.2 q r' h1
    exact ⟨List.mem_cons_of_mem _ this.1, List.mem_cons_of_mem _ this.2⟩
  · have e : r' = r := by simpa using h1
    subst e
    rcases h.1 with z | z
    · refine ⟨List.mem_cons_of_mem _ (by rw [z]; exact hn.1), ?_⟩
      have : frr g r' s = g.b r' := by unfold frr; omega
      rw [this]; exact List.mem_cons_self
    · refine ⟨?_, List.mem_cons_of_mem _ (by rw [z]; exact hn.1)⟩
      have : frr g r' s = g.a r' := by unfold frr; omega
      rw [this]; exact List.mem_cons_self
theorem Wy_low {g : Mp} {rd : Prop} {to : Int} {P : Nat} (hg : MOK g P) {hp : Nat → Int} (hh : ∀ r, 0 ≤ hp r) {mc t0 : Int} (hc : ∀ r t, r < g.R → t0 ≤ t → mc * g.m r - hp r ≤ g.c r t) : ∀ d s t c st vis x, t0 ≤ t → NdOK g rd s st vis → x ∈ Wy g rd to d s t c st vis → c + mc * (x.2.1 - t) - hsm hp st g.R ≤ x.1
  | 0, s, t, c, st, vis, x, _, _, h => by cases h
  | d + 1, s, t, c, st, vis, x, ht, hn, h => by
    obtain ⟨r, h1, h2⟩ := Wy_mem h
    obtain ⟨h3, h4⟩ := Ws_mem h2
    have hm := (hg r h1).2.2.2.2.2.1
    have hcr := hc r t h1 ht
    have hnew := okr_new hn h3
    have hin := hsm_in (hp := hp) hnew g.R h1
    rcases h4 with ⟨e, h5, -⟩ | ⟨-, h5⟩
    · subst e
      have := hsm_nonneg hh (st ++ [r]) g.R
      show c + mc * (t + g.m r - t) - hsm hp st g.R ≤ c + g.c r t
      rw [show t + g.m r - t = g.m r from by omega]
      omega
    · have := Wy_low hg hh hc d _ _ _ _ _ x (by omega) (NdOK_step hn h3) h5
      have e : mc * (x.2.1 - t) = mc * (x.2.1 - (t + g.m r)) + mc * g.m r := by
        rw [← Int.mul_add]
        congr 1
        omega
      omega
/-- where each road costs its minutes alone, so does each candidate -/
theorem Wy_eq {g : Mp} {rd : Prop} {to U : Int} (hc : ∀ r t, r < g.R → g.c r t = U * g.m r) : ∀ d s t c st vis x, x ∈ Wy g rd to d s t c st vis → x.1 = c + U * (x.2.1 - t)
  | 0, s, t, c, st, vis, x, h => by cases h
  | d + 1, s, t, c, st, vis, x, h => by
    obtain ⟨r, h1, h2⟩ := Wy_mem h
    obtain ⟨h3, h4⟩ := Ws_mem h2
    have hcr := hc r t h1
    rcases h4 with ⟨e, h5, -⟩ | ⟨-, h5⟩
    · subst e
      show c + g.c r t = c + U * (t + g.m r - t)
      rw [hcr, show t + g.m r - t = g.m r from by omega]
    · have := Wy_eq hc d _ _ _ _ _ x h5
      have e : U * (x.2.1 - t) = U * (x.2.1 - (t + g.m r)) + U * g.m r := by
        rw [← Int.mul_add]
        congr 1
        omega
      omega
/-- the row of a candidate: it begins with the row of the node, its minutes and its cost are those of its roads -/
theorem Wy_row {g : Mp} {rd : Prop} {to : Int} : ∀ d s t c st vis x, x ∈ Wy g rd to d s t c st vis → ∃ q, q ≠ [] ∧ q.length ≤ d ∧ x.2.2 = st ++ q ∧ (∀ r ∈ q, r < g.R) ∧ x.2.1 = t + (q.map g.m).sum
  | 0, s, t, c, st, vis, x, h => by cases h
  | d + 1, s, t, c, st, vis, x, h => by
    obtain ⟨r, h1, h2⟩ := Wy_mem h
    obtain ⟨h3, h4⟩ := Ws_mem h2
    rcases h4 with ⟨e, h5, -⟩ | ⟨-, h5⟩
    · subst e
      refine ⟨[r], by simp, by simp, rfl, fun r' hr' => ?_, ?_⟩
      · have : r' = r := by simpa using hr'
        rw [this]; exact h1
      · show t + g.m r = t + (([r] : List Nat).map g.m).sum
        simp
    · obtain ⟨q, e1, e2, e3, e4, e5⟩ := Wy_row d _ _ _ _ _ x h5
      refine ⟨r :: q, by simp, by simp; omega, ?_, fun r' hr' => ?_, ?_⟩
      · rw [e3]; simp
      · rcases List.mem_cons.mp hr' with z | z
        · rw [z]; exact h1
        · exact e4 r' z
      · rw [e5]
        simp only [List.map_cons, List.sum_cons]
        omega
/-- a shortest way is among the candidates -/
theorem Wy_short {g : Mp} {to : Int} {P : Nat} (hg : MOK g P) (hto0 : 0 ≤ to) (hto1 : to < P) : ∀ d s t c st vis m, Ds (Jm g (-1)) to s m → s ≠ to → rnk (Jm g (-1)) P to m ≤ d → (∀ v ∈ vis, ∃ m', Ds (Jm g (-1)) to v m' ∧ m ≤ m') → ∃ x, x ∈ Wy g False to d s t c st vis ∧ x.2.1 = t + m
  | 0, s, t, c, st, vis, m, h, hs, hr, hv => by
    exfalso
    have hJ := Jm_ok hg (-1)
    obtain ⟨e, q, h1, h2⟩ := Ds_pred hJ h (Ne.symm hs)
    have h3 := hJ.2 _ _ _ h1
    have := rnk_lt hJ (b := e) (m := m) h3.2.2.1 h3.2.2.2.1 h2 (by omega)
    omega
  | d + 1, s, t, c, st, vis, m, h, hs, hr, hv => by
    have hJ := Jm_ok hg (-1)
    obtain ⟨e, q, h1, h2⟩ := Ds_pred hJ h (Ne.symm hs)
    have h3 := hJ.2 _ _ _ h1
    have h4 := rnk_lt hJ (b := e) (m := m) h3.2.2.1 h3.2.2.2.1 h2 (by omega)
    obtain ⟨r, hr1, hr2, hr3, hr4⟩ := h1
    have he : eds g r s ∧ frr g r s = e := by
      unfold eds frr
      rcases hr4 with ⟨z1, z2⟩ | ⟨z1, z2⟩
      · exact ⟨Or.inr z2.symm, by omega⟩
      · exact ⟨Or.inl z2.symm, by omega⟩
    have hnv : e ∉ vis := by
      intro hv1
      obtain ⟨m', h5, h6⟩ := hv e hv1
      have := Ds_uniq h2 h5
      omega
    have hok : okr g False r s st vis := ⟨he.1, fun z => z.elim, fun _ => by rw [he.2]; exact hnv⟩
    by_cases q1 : e = to
    · refine ⟨(c + g.c r t, t + g.m r, st ++ [r]), ?_, ?_⟩
      · rw [Wy_succ]
        refine List.mem_flatMap.mpr ⟨r, List.mem_range.mpr hr1, ?_⟩
        rw [Ws_yes hok (Or.inl ⟨rfl, by rw [he.2]; exact q1, fun z => z.elim⟩) (Or.inl ⟨rfl, by rw [he.2]; exact q1, fun z => z⟩)]
        simp
      · subst q1
        have := Ds_uniq h2 (Ds_self hJ e)
        show t + g.m r = t + m
        omega
    · obtain ⟨x, hx1, hx2⟩ := Wy_short hg hto0 hto1 d e (t + g.m r) (c + g.c r t) (st ++ [r]) (e :: vis) (m - q) h2 q1 (by omega) (fun v hv1 => by
        rcases List.mem_cons.mp hv1 with z | z
        · exact ⟨m - q, by rw [z]; exact h2, Int.le_refl _⟩
        · obtain ⟨m', h5, h6⟩ := hv v z
          exact ⟨m', h5, by omega⟩)
      refine ⟨x, ?_, by omega⟩
      rw [Wy_succ]
      refine List.mem_flatMap.mpr ⟨r, List.mem_range.mpr hr1, ?_⟩
      rw [Ws_yes hok (Or.inr ⟨rfl, fun z => q1 (by rw [← he.2]; exact z.1)⟩) (Or.inr ⟨rfl, fun z => q1 (by rw [← he.2]; exact z.1)⟩), he.2]
      simpa using hx1
/-- ways have no more roads than places but one: a deeper look finds nothing more -/
noncomputable def nfr (P : Nat) (vis : List Int) : Nat := cnt (fun i => (i : Int) ∉ vis) P
theorem Wy_deep {g : Mp} {to : Int} {P : Nat} (hg : MOK g P) : ∀ k e s t c st vis, nfr P vis ≤ k → Wy g False to (k + e) s t c st vis = Wy g False to k s t c st vis
  | 0, e, s, t, c, st, vis, h => by
    rw [Nat.zero_add]
    show Wy g False to e s t c st vis = []
    cases e with
    | zero => rfl
    | succ e =>
      rw [Wy_succ]
      apply List.flatMap_eq_nil_iff.mpr
      intro r hr
      apply Ws_no
      intro hok
      have h1 := frr_in hg (List.mem_range.mp hr) hok.1
      have h2 := cnt_lt (fun _ => False) (fun i => (i : Int) ∉ vis) (fun _ z => z.elim) (frr g r s).toNat (by rw [Int.toNat_of_nonneg h1.1]; exact hok.2.2 (fun z => z)) (fun z => z) P (by omega)
      have h3 : cnt (fun i => (i : Int) ∉ vis) P = nfr P vis := rfl
      omega
  | k + 1, e, s, t, c, st, vis, h => by
    rw [show k + 1 + e = (k + e) + 1 from by omega, Wy_succ, Wy_succ]
    have key : ∀ r ∈ List.range g.R, Ws g False to (k + e) s t c st vis r = Ws g False to k s t c st vis r := by
      intro r hr
      by_cases hok : okr g False r s st vis
      · have h1 := frr_in hg (List.mem_range.mp hr) hok.1
        have h2 : nfr P (frr g r s :: vis) < nfr P vis := by
          unfold nfr
          refine cnt_lt _ _ (fun i hi => ?_) (frr g r s).toNat ?_ ?_ P (by omega)
          · exact fun z => hi (List.mem_cons_of_mem _ z)
          · rw [Int.toNat_of_nonneg h1.1]; exact hok.2.2 (fun z => z)
          · intro z
            apply z
            rw [Int.toNat_of_nonneg h1.1]
            exact List.mem_cons_self
        have h3 := Wy_deep (to := to) hg k e (frr g r s) (t + g.m r) (c + g.c r t) (st ++ [r]) (frr g r s :: vis) (by omega)
        unfold Ws
        rw [if_pos hok, if_pos hok, h3]
      · rw [Ws_no hok, Ws_no hok]
    generalize List.range g.R = rs at key
    induction rs with
    | nil => rfl
    | cons r rs ih =>
      rw [List.flatMap_cons, List.flatMap_cons, key r List.mem_cons_self, ih (fun r' hr' => key r' (List.mem_cons_of_mem _ hr'))]
theorem nfr_one {P : Nat} {s : Int} (h0 : 0 ≤ s) (h1 : s < P) : nfr P [s] ≤ P - 1 := by
  have : nfr P [s] < P := cnt_full (fun i => (i : Int) ∉ [s]) s.toNat (by rw [Int.toNat_of_nonneg h0]; simp) P (by omega)
  omega
/-! THE BEST OF A LIST -/
def bt (x y : Cd) : Prop := x.1 < y.1 ∨ (x.1 = y.1 ∧ x.2.2.length < y.2.2.length)
noncomputable def kp (acc : Option Cd) (x : Cd) : Option Cd := by
  classical
  exact match acc with
    | none => some x
    | some y => if bt x y then some x else some y
noncomputable def kpK (K : Int) (acc : Option Cd) (x : Cd) : Option Cd := by
  classical
  exact if x.1 ≤ K then kp acc x else acc
theorem kp_none (x : Cd) : kp none x = some x := rfl
theorem kp_pos {x y : Cd} (h : bt x y) : kp (some y) x = some x := by
  unfold kp
  exact if_pos h
theorem kp_neg {x y : Cd} (h : ¬ bt x y) : kp (some y) x = some y := by
  unfold kp
  exact if_neg h
theorem kpK_le {K : Int} {acc : Option Cd} {x : Cd} (h : x.1 ≤ K) : kpK K acc x = kp acc x := by
  unfold kpK
  rw [if_pos h]
theorem kpK_gt {K : Int} {acc : Option Cd} {x : Cd} (h : K < x.1) : kpK K acc x = acc := by
  unfold kpK
  rw [if_neg (by omega)]
/-- with a bound, and without -/
theorem fold_bound {K : Int} : ∀ (l : List Cd) (A B : Option Cd), ((A = B ∧ ∀ y, B = some y → y.1 ≤ K) ∨ (B = none ∧ ∀ y, A = some y → K < y.1)) → ((l.foldl kp A = l.foldl (kpK K) B ∧ ∀ y, l.foldl (kpK K) B = some y → y.1 ≤ K) ∨ (l.foldl (kpK K) B = none ∧ ∀ y, l.foldl kp A = some y → K < y.1))
  | [], A, B, h => h
  | x :: l, A, B, h => by
    rw [List.foldl_cons, List.foldl_cons]
    refine fold_bound l _ _ ?_
    by_cases hx : x.1 ≤ K
    · rw [kpK_le hx]
      refine Or.inl ?_
      rcases h with ⟨h1, h2⟩ | ⟨h1, h2⟩
      · subst h1
        refine ⟨rfl, fun y hy => ?_⟩
        cases A with
        | none => rw [kp_none] at hy; cases hy; exact hx
        | some z =>
          by_cases q : bt x z
          · rw [kp_pos q] at hy; cases hy; exact hx
          · rw [kp_neg q] at hy; cases hy; exact h2 _ rfl
      · subst h1
        cases A with
        | none => exact ⟨rfl, fun y hy => by rw [kp_none] at hy; cases hy; exact hx⟩
        | some z =>
          have := h2 z rfl
          rw [kp_pos (Or.inl (by omega)), kp_none]
          exact ⟨rfl, fun y hy => by cases hy; exact hx⟩
    · rw [kpK_gt (by omega)]
      rcases h with ⟨h1, h2⟩ | ⟨h1, h2⟩
      · subst h1
        cases A with
        | none => exact Or.inr ⟨rfl, fun y hy => by rw [kp_none] at hy; cases hy; omega⟩
        | some z =>
          have := h2 z rfl
          rw [kp_neg (fun q => by rcases q with q | q <;> omega)]
          exact Or.inl ⟨rfl, h2⟩
      · subst h1
        refine Or.inr ⟨rfl, fun y hy => ?_⟩
        cases A with
        | none => rw [kp_none] at hy; cases hy; omega
        | some z =>
          have := h2 z rfl
          by_cases q : bt x z
          · rw [kp_pos q] at hy; cases hy; omega
          · rw [kp_neg q] at hy; cases hy; exact this
theorem fold_some {K : Int} : ∀ (l : List Cd) (B : Option Cd), B ≠ none → l.foldl (kpK K) B ≠ none
  | [], B, h => h
  | x :: l, B, h => by
    rw [List.foldl_cons]
    refine fold_some l _ ?_
    cases B with
    | none => exact absurd rfl h
    | some z =>
      unfold kpK
      split
      · by_cases q : bt x z
        · rw [kp_pos q]; simp
        · rw [kp_neg q]; simp
      · simp
theorem fold_ex {K : Int} : ∀ (l : List Cd) (B : Option Cd), (∃ x ∈ l, x.1 ≤ K) → l.foldl (kpK K) B ≠ none
  | [], B, h => by obtain ⟨x, h, -⟩ := h; cases h
  | x :: l, B, h => by
    rw [List.foldl_cons]
    by_cases hx : x.1 ≤ K
    · refine fold_some l _ ?_
      rw [kpK_le hx]
      cases B with
      | none => rw [kp_none]; simp
      | some z =>
        by_cases q : bt x z
        · rw [kp_pos q]; simp
        · rw [kp_neg q]; simp
    · refine fold_ex l _ ?_
      obtain ⟨y, hy, hy2⟩ := h
      rcases List.mem_cons.mp hy with e | e
      · subst e; exact absurd hy2 hx
      · exact ⟨y, e, hy2⟩
theorem fold_same {K : Int} (l : List Cd) (h : ∃ x ∈ l, x.1 ≤ K) : l.foldl kp none = l.foldl (kpK K) none := by
  rcases fold_bound (K := K) l none none (Or.inl ⟨rfl, fun y hy => by cases hy⟩) with h1 | h1
  · exact h1.1
  · exact absurd h1.1 (fold_ex l none h)
/-- what can't be better is left out -/
def bnd (K : Int) : Option Cd → Int
  | none => K
  | some y => y.1
theorem fold_cut {K : Int} : ∀ (l : List Cd) (B : Option Cd), (∀ x ∈ l, bnd K B < x.1) → l.foldl (kpK K) B = B
  | [], B, _ => rfl
  | x :: l, B, h => by
    rw [List.foldl_cons]
    have hx := h x List.mem_cons_self
    have e : kpK K B x = B := by
      cases B with
      | none => exact kpK_gt hx
      | some z =>
        have hx : z.1 < x.1 := hx
        unfold kpK
        split
        · exact kp_neg (fun q => by rcases q with q | q <;> omega)
        · rfl
    rw [e]
    exact fold_cut l B (fun y hy => h y (List.mem_cons_of_mem _ hy))
theorem bnd_le {K : Int} : ∀ (l : List Cd) (B : Option Cd), bnd K B ≤ K → bnd K (l.foldl (kpK K) B) ≤ K
  | [], B, h => h
  | x :: l, B, h => by
    rw [List.foldl_cons]
    refine bnd_le l _ ?_
    unfold kpK
    split
    · rename_i hx
      cases B with
      | none => exact hx
      | some z =>
        by_cases q : bt x z
        · rw [kp_pos q]; exact hx
        · rw [kp_neg q]; exact h
    · exact h
/-- roads that are not at a place give nothing -/
theorem flat_filter {α : Type} (p : Nat → Bool) (f : Nat → List α) (h : ∀ r, p r = false → f r = []) : ∀ l : List Nat, l.flatMap f = (l.filter p).flatMap f
  | [] => rfl
  | r :: l => by
    rw [List.flatMap_cons, List.filter_cons]
    cases hp : p r with
    | true => rw [if_pos rfl, List.flatMap_cons, flat_filter p f h l]
    | false => rw [if_neg (by simp), h r hp, List.nil_append, flat_filter p f h l]
