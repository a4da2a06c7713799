/-! WALKS AND DISTANCES: J c b d says that some road joins c to b in d minutes -/
def Wk (J : Int → Int → Int → Prop) : Nat → Int → Int → Int → Prop
  | 0, a, b, m => a = b ∧ m = 0
  | n + 1, a, b, m => ∃ c d, Wk J n a c d ∧ J c b (m - d)
def Ds (J : Int → Int → Int → Prop) (a b m : Int) : Prop := (∃ n, Wk J n a b m) ∧ ∀ n m', Wk J n a b m' → m ≤ m'
/-- what a town's roads give -/
def JOK (J : Int → Int → Int → Prop) (P : Int) : Prop := (∀ a b d, J a b d → J b a d) ∧ (∀ a b d, J a b d → 1 ≤ d ∧ d ≤ 30 ∧ 0 ≤ a ∧ a < P ∧ 0 ≤ b ∧ b < P)
theorem Wk_nonneg {J : Int → Int → Int → Prop} {P : Int} (hJ : JOK J P) : ∀ n a b m, Wk J n a b m → (n : Int) ≤ m
  | 0, a, b, m, h => by rw [h.2]; decide
  | n + 1, a, b, m, ⟨c, d, h1, h2⟩ => by
    have e1 := Wk_nonneg hJ n a c d h1
    have e2 := (hJ.2 _ _ _ h2).1
    omega
theorem Wk_cons {J : Int → Int → Int → Prop} : ∀ n a c b m d, J a c d → Wk J n c b m → Wk J (n + 1) a b (m + d)
  | 0, a, c, b, m, d, h, ⟨e1, e2⟩ => ⟨a, 0, ⟨rfl, rfl⟩, by subst e1; subst e2; rw [show (0 : Int) + d - 0 = d from by omega]; exact h⟩
  | n + 1, a, c, b, m, d, h, ⟨x, y, h1, h2⟩ => ⟨x, y + d, Wk_cons n a c x y d h h1, by rw [show m + d - (y + d) = m - y from by omega]; exact h2⟩
theorem Wk_snoc {J : Int → Int → Int → Prop} {n : Nat} {a c b m d : Int} (h : Wk J n a c m) (hj : J c b d) : Wk J (n + 1) a b (m + d) := ⟨c, m, h, by rw [show m + d - m = d from by omega]; exact hj⟩
theorem Wk_rev {J : Int → Int → Int → Prop} {P : Int} (hJ : JOK J P) : ∀ n a b m, Wk J n a b m → Wk J n b a m
  | 0, a, b, m, h => ⟨h.1.symm, h.2⟩
  | n + 1, a, b, m, ⟨c, d, h1, h2⟩ => by
    have := Wk_cons n b c a d (m - d) (hJ.1 _ _ _ h2) (Wk_rev hJ n a c d h1)
    rwa [show d + (m - d) = m from by omega] at this
theorem Wk_app {J : Int → Int → Int → Prop} : ∀ k n a c b m d, Wk J n a c m → Wk J k c b d → Wk J (n + k) a b (m + d)
  | 0, n, a, c, b, m, d, h1, ⟨e1, e2⟩ => by subst e1; subst e2; rw [Int.add_zero]; exact h1
  | k + 1, n, a, c, b, m, d, h1, ⟨x, y, h2, h3⟩ => ⟨x, m + y, Wk_app k n a c x m y h1 h2, by rw [show m + d - (m + y) = d - y from by omega]; exact h3⟩
theorem Wk_in {J : Int → Int → Int → Prop} {P : Int} (hJ : JOK J P) : ∀ n a b m, Wk J n a b m → 0 ≤ a → a < P → 0 ≤ b ∧ b < P
  | 0, a, b, m, h, h1, h2 => by rw [← h.1]; exact ⟨h1, h2⟩
  | n + 1, a, b, m, ⟨c, d, _, h2⟩, _, _ => ⟨(hJ.2 _ _ _ h2).2.2.2.2.1, (hJ.2 _ _ _ h2).2.2.2.2.2⟩
theorem min_ex (P : Nat → Prop) : ∀ n, P n → ∃ k, P k ∧ ∀ j, P j → k ≤ j := by
  intro n
  induction n using Nat.strongRecOn with
  | _ n ih =>
    intro h
    by_cases q : ∃ j, j < n ∧ P j
    · obtain ⟨j, h1, h2⟩ := q
      exact ih j h1 h2
    · exact ⟨n, h, fun j hj => Nat.not_lt.mp (fun z => q ⟨j, z, hj⟩)⟩
theorem Ds_ex {J : Int → Int → Int → Prop} {P : Int} (hJ : JOK J P) {n : Nat} {a b m : Int} (h : Wk J n a b m) : ∃ d, Ds J a b d ∧ d ≤ m := by
  have h0 : 0 ≤ m := by have := Wk_nonneg hJ n a b m h; omega
  obtain ⟨k, ⟨n1, h1⟩, h2⟩ := min_ex (fun k => ∃ n, Wk J n a b (k : Int)) m.toNat ⟨n, by rw [Int.toNat_of_nonneg h0]; exact h⟩
  have key : ∀ n' m', Wk J n' a b m' → (k : Int) ≤ m' := by
    intro n' m' h'
    have h0' : 0 ≤ m' := by have := Wk_nonneg hJ n' a b m' h'; omega
    have := h2 m'.toNat ⟨n', by rw [Int.toNat_of_nonneg h0']; exact h'⟩
    omega
  exact ⟨k, ⟨⟨n1, h1⟩, key⟩, key n m h⟩
theorem Ds_uniq {J : Int → Int → Int → Prop} {a b m m' : Int} (h : Ds J a b m) (h' : Ds J a b m') : m = m' := by
  obtain ⟨⟨n, h1⟩, h2⟩ := h
  obtain ⟨⟨n', h1'⟩, h2'⟩ := h'
  have := h2 _ _ h1'
  have := h2' _ _ h1
  omega
theorem Ds_self {J : Int → Int → Int → Prop} {P : Int} (hJ : JOK J P) (a : Int) : Ds J a a 0 := ⟨⟨0, rfl, rfl⟩, fun n m h => by have := Wk_nonneg hJ n a a m h; omega⟩
theorem Ds_nonneg {J : Int → Int → Int → Prop} {P : Int} (hJ : JOK J P) {a b m : Int} (h : Ds J a b m) : 0 ≤ m := by
  obtain ⟨⟨n, h1⟩, -⟩ := h
  have := Wk_nonneg hJ n a b m h1
  omega
theorem Ds_zero {J : Int → Int → Int → Prop} {P : Int} (hJ : JOK J P) {a b : Int} (h : Ds J a b 0) : a = b := by
  obtain ⟨⟨n, h1⟩, -⟩ := h
  have h2 := Wk_nonneg hJ n a b 0 h1
  cases n with
  | zero => exact h1.1
  | succ n => omega
theorem Ds_rev {J : Int → Int → Int → Prop} {P : Int} (hJ : JOK J P) {a b m : Int} (h : Ds J a b m) : Ds J b a m := by
  obtain ⟨⟨n, h1⟩, h2⟩ := h
  exact ⟨⟨n, Wk_rev hJ _ _ _ _ h1⟩, fun n' m' h' => h2 n' m' (Wk_rev hJ _ _ _ _ h')⟩
/-- the last road of a shortest walk -/
theorem Ds_pred {J : Int → Int → Int → Prop} {P : Int} (hJ : JOK J P) {a b m : Int} (h : Ds J a b m) (hab : a ≠ b) : ∃ c d, J c b d ∧ Ds J a c (m - d) := by
  obtain ⟨⟨n, h1⟩, h2⟩ := h
  cases n with
  | zero => exact absurd h1.1 hab
  | succ n =>
    obtain ⟨c, d, h3, h4⟩ := h1
    refine ⟨c, m - d, h4, ⟨⟨n, by rw [show m - (m - d) = d from by omega]; exact h3⟩, fun n' m' h' => ?_⟩⟩
    have := h2 _ _ (Wk_snoc h' h4)
    omega
theorem Ds_succ {J : Int → Int → Int → Prop} {P : Int} (hJ : JOK J P) {a b m : Int} (h : Ds J a b m) (hab : a ≠ b) : ∃ c d, J a c d ∧ Ds J c b (m - d) := by
  obtain ⟨c, d, h1, h2⟩ := Ds_pred hJ (Ds_rev hJ h) (Ne.symm hab)
  exact ⟨c, d, hJ.1 _ _ _ h1, Ds_rev hJ h2⟩
/-! counting: how many of the first n hold -/
noncomputable def ind (p : Prop) : Nat := by
  classical
  exact if p then 1 else 0
theorem ind_pos {p : Prop} (h : p) : ind p = 1 := by
  unfold ind
  rw [if_pos h]
theorem ind_neg {p : Prop} (h : ¬ p) : ind p = 0 := by
  unfold ind
  rw [if_neg h]
noncomputable def cnt (p : Nat → Prop) : Nat → Nat
  | 0 => 0
  | n + 1 => cnt p n + ind (p n)
theorem cnt_le (p : Nat → Prop) : ∀ n, cnt p n ≤ n
  | 0 => Nat.le_refl 0
  | n + 1 => by
    have := cnt_le p n
    unfold cnt
    by_cases h : p n
    · rw [ind_pos h]; omega
    · rw [ind_neg h]; omega
theorem cnt_mono (p q : Nat → Prop) (h : ∀ i, p i → q i) : ∀ n, cnt p n ≤ cnt q n
  | 0 => Nat.le_refl 0
  | n + 1 => by
    have := cnt_mono p q h n
    unfold cnt
    by_cases h1 : p n
    · rw [ind_pos h1, ind_pos (h n h1)]; omega
    · rw [ind_neg h1]; omega
theorem cnt_lt (p q : Nat → Prop) (h : ∀ i, p i → q i) (j : Nat) (hq : q j) (hp : ¬ p j) : ∀ n, j < n → cnt p n < cnt q n
  | 0, hj => absurd hj (Nat.not_lt_zero j)
  | n + 1, hj => by
    unfold cnt
    by_cases e : j = n
    · subst e
      have := cnt_mono p q h j
      rw [ind_neg hp, ind_pos hq]; omega
    · have := cnt_lt p q h j hq hp n (by omega)
      by_cases h1 : p n
      · rw [ind_pos h1, ind_pos (h n h1)]; omega
      · rw [ind_neg h1]; omega
theorem cnt_full (p : Nat → Prop) (j : Nat) (hp : ¬ p j) (n : Nat) (hj : j < n) : cnt p n < n := by
  have h1 := cnt_lt p (fun _ => True) (fun _ _ => trivial) j trivial hp n hj
  have h2 := cnt_le (fun _ => True) n
  omega
/-- how many places are nearer to a than by m -/
noncomputable def rnk (J : Int → Int → Int → Prop) (N : Nat) (a m : Int) : Nat := cnt (fun i => ∃ d, Ds J a (i : Int) d ∧ d < m) N
theorem rnk_lt {J : Int → Int → Int → Prop} {N : Nat} (hJ : JOK J (N : Int)) {a b m m' : Int} (hb0 : 0 ≤ b) (hb1 : b < N) (h : Ds J a b m') (hm : m' < m) : rnk J N a m' < rnk J N a m := by
  unfold rnk
  refine cnt_lt _ _ (fun i hi => ?_) b.toNat ?_ ?_ N (by omega)
  · obtain ⟨d, h1, h2⟩ := hi
    exact ⟨d, h1, by omega⟩
  · exact ⟨m', by rw [Int.toNat_of_nonneg hb0]; exact h, hm⟩
  · rintro ⟨d, h1, h2⟩
    rw [Int.toNat_of_nonneg hb0] at h1
    have := Ds_uniq h h1
    omega
theorem rnk_full {J : Int → Int → Int → Prop} {N : Nat} {a b m : Int} (hb0 : 0 ≤ b) (hb1 : b < N) (h : Ds J a b m) : rnk J N a m < N := by
  unfold rnk
  refine cnt_full _ b.toNat ?_ N (by omega)
  rintro ⟨d, h1, h2⟩
  rw [Int.toNat_of_nonneg hb0] at h1
  have := Ds_uniq h h1
  omega
theorem Ds_bound {J : Int → Int → Int → Prop} {N : Nat} (hJ : JOK J (N : Int)) {a : Int} (ha0 : 0 ≤ a) (ha1 : a < N) : ∀ (k : Nat) (b m : Int), Ds J a b m → rnk J N a m ≤ k → m ≤ 30 * k := by
  intro k
  induction k with
  | zero =>
    intro b m h hr
    by_cases hab : a = b
    · subst hab
      have := Ds_uniq h (Ds_self hJ a)
      omega
    · exfalso
      obtain ⟨c, d, h1, h2⟩ := Ds_pred hJ h hab
      have h3 := hJ.2 _ _ _ h1
      have := rnk_lt hJ (b := c) (m := m) h3.2.2.1 h3.2.2.2.1 h2 (by omega)
      omega
  | succ k ih =>
    intro b m h hr
    by_cases hab : a = b
    · subst hab
      have := Ds_uniq h (Ds_self hJ a)
      omega
    · obtain ⟨c, d, h1, h2⟩ := Ds_pred hJ h hab
      have h3 := hJ.2 _ _ _ h1
      have h4 := rnk_lt hJ (b := c) (m := m) h3.2.2.1 h3.2.2.2.1 h2 (by omega)
      have := ih c _ h2 (by omega)
      omega
/-! RELAXING, ROUND BY ROUND: f is the row of distances from a; a round makes it hold over every road -/
def RSnd (J : Int → Int → Int → Prop) (a : Int) (f : Int → Int) : Prop := ∀ b, f b ≤ 100000 ∧ (f b < 100000 → ∃ n, Wk J n a b (f b))
def RUp (J : Int → Int → Int → Prop) (N : Nat) (a : Int) (t : Nat) (f : Int → Int) : Prop := ∀ b m, Ds J a b m → rnk J N a m ≤ t → f b ≤ m
theorem RUp_step {J : Int → Int → Int → Prop} {N : Nat} (hJ : JOK J (N : Int)) {a : Int} {t : Nat} {f g : Int → Int} (h : RUp J N a t f) (ha : g a ≤ 0) (hg : ∀ c b d, J c b d → g b ≤ f c + d) : RUp J N a (t + 1) g := by
  intro b m hb hr
  by_cases hab : a = b
  · subst hab
    have := Ds_uniq hb (Ds_self hJ a)
    omega
  · obtain ⟨c, d, h1, h2⟩ := Ds_pred hJ hb hab
    have h3 := hJ.2 _ _ _ h1
    have h4 := rnk_lt hJ (b := c) (m := m) h3.2.2.1 h3.2.2.2.1 h2 (by omega)
    have h5 := h c _ h2 (by omega)
    have h6 := hg c b d h1
    omega
theorem RUp_zero {J : Int → Int → Int → Prop} {N : Nat} (hJ : JOK J (N : Int)) {a : Int} {f : Int → Int} (ha : f a ≤ 0) : RUp J N a 0 f := by
  intro b m hb hr
  by_cases hab : a = b
  · subst hab
    have := Ds_uniq hb (Ds_self hJ a)
    omega
  · obtain ⟨c, d, h1, h2⟩ := Ds_pred hJ hb hab
    have h3 := hJ.2 _ _ _ h1
    have h4 := rnk_lt hJ (b := c) (m := m) h3.2.2.1 h3.2.2.2.1 h2 (by omega)
    omega
/-- behind as many rounds as there are places the row has the distances -/
theorem RUp_end {J : Int → Int → Int → Prop} {N : Nat} (hJ : JOK J (N : Int)) (hN : N ≤ 9) {a : Int} (ha0 : 0 ≤ a) (ha1 : a < N) {t : Nat} (ht : N ≤ t + 1) {f : Int → Int} (h : RUp J N a t f) (hs : RSnd J a f) (b : Int) : (f b = 100000 ∧ ∀ n m, ¬ Wk J n a b m) ∨ (Ds J a b (f b) ∧ f b ≤ 240) := by
  by_cases hw : ∃ n m, Wk J n a b m
  · obtain ⟨n, m, hw⟩ := hw
    obtain ⟨d, h1, h2⟩ := Ds_ex hJ hw
    have hb := Wk_in hJ n a b m hw ha0 ha1
    have hr := rnk_full (J := J) (N := N) hb.1 hb.2 h1
    have hd : d ≤ 240 := by
      have := Ds_bound hJ ha0 ha1 (rnk J N a d) b d h1 (Nat.le_refl _)
      omega
    have hf := h b d h1 (by omega)
    obtain ⟨n2, hw2⟩ := (hs b).2 (by omega)
    have := h1.2 _ _ hw2
    have e : f b = d := by omega
    exact Or.inr ⟨by rw [e]; exact h1, by omega⟩
  · refine Or.inl ⟨?_, fun n m h => hw ⟨n, m, h⟩⟩
    have h1 := (hs b).1
    by_cases q : f b < 100000
    · obtain ⟨n, h2⟩ := (hs b).2 q
      exact absurd ⟨n, _, h2⟩ hw
    · omega
/-! OVER EACH PLACE: g i j is the fewest minutes, -1 where none are known -/
def FSnd (J : Int → Int → Int → Prop) (g : Int → Int → Int) : Prop := ∀ i j, g i j = -1 ∨ ∃ n, Wk J n i j (g i j)
def FLe (g : Int → Int → Int) (i j m : Int) : Prop := g i j ≠ -1 ∧ g i j ≤ m
def FCl (g : Int → Int → Int) (x : Int) : Prop := ∀ i j, g i x ≠ -1 → g x j ≠ -1 → FLe g i j (g i x + g x j)
theorem FW_end {J : Int → Int → Int → Prop} {P : Int} (hJ : JOK J P) {g : Int → Int → Int} (hs : FSnd J g) (h0 : ∀ i, 0 ≤ i → i < P → g i i = 0) (hE : ∀ a b d, J a b d → FLe g a b d) (hC : ∀ x, 0 ≤ x → x < P → FCl g x) (i j : Int) (hi0 : 0 ≤ i) (hi1 : i < P) : (g i j = -1 ∧ ∀ n m, ¬ Wk J n i j m) ∨ Ds J i j (g i j) := by
  have key : ∀ n b m, Wk J n i b m → FLe g i b m := by
    intro n
    induction n with
    | zero =>
      intro b m h
      obtain ⟨e1, e2⟩ := h
      subst e1; subst e2
      have := h0 i hi0 hi1
      exact ⟨by omega, by omega⟩
    | succ n ih =>
      intro b m h
      obtain ⟨c, d, h1, h2⟩ := h
      have h3 := ih c d h1
      have h4 := hE c b _ h2
      have h5 := hJ.2 _ _ _ h2
      have h6 := hC c h5.2.2.1 h5.2.2.2.1 i b h3.1 h4.1
      have := h3.2
      have := h4.2
      exact ⟨h6.1, by have := h6.2; omega⟩
  by_cases q : g i j = -1
  · exact Or.inl ⟨q, fun n m h => (key n j m h).1 q⟩
  · rcases hs i j with h | h
    · exact absurd h q
    · exact Or.inr ⟨h, fun n m h' => (key n j m h').2⟩
/-- one place more -/
theorem FW_step {J : Int → Int → Int → Prop} {P : Int} (hJ : JOK J P) {g g' : Int → Int → Int} {k : Int} (hs : FSnd J g) (hk : g k k = 0) (hg : ∀ i j, g' i j = (if g i k ≠ -1 ∧ g k j ≠ -1 ∧ (g i j = -1 ∨ g i k + g k j < g i j) then g i k + g k j else g i j)) : FSnd J g' ∧ (∀ i j m, FLe g i j m → FLe g' i j m) ∧ (∀ i, g i i = 0 → g' i i = 0) ∧ (∀ x, FCl g x → FCl g' x) ∧ FCl g' k := by
  have nn : ∀ i j, g i j ≠ -1 → 0 ≤ g i j := by
    intro i j h
    rcases hs i j with q | ⟨n, q⟩
    · exact absurd q h
    · have := Wk_nonneg hJ _ _ _ _ q
      omega
  have mono : ∀ i j m, FLe g i j m → FLe g' i j m := by
    intro i j m h
    unfold FLe at h ⊢
    rw [hg i j]
    split
    · rename_i q
      have := nn _ _ q.1
      have := nn _ _ q.2.1
      rcases q.2.2 with z | z
      · exact absurd z h.1
      · exact ⟨by omega, by omega⟩
    · exact h
  have via : ∀ i j, g i k ≠ -1 → g k j ≠ -1 → FLe g' i j (g i k + g k j) := by
    intro i j h1 h2
    have := nn _ _ h1
    have := nn _ _ h2
    unfold FLe
    rw [hg i j]
    split
    · exact ⟨by omega, by omega⟩
    · rename_i q
      by_cases z : g i j = -1
      · exact absurd ⟨h1, h2, Or.inl z⟩ q
      · refine ⟨z, ?_⟩
        by_cases y : g i k + g k j < g i j
        · exact absurd ⟨h1, h2, Or.inr y⟩ q
        · omega
  have row : ∀ i j, g' i j ≠ -1 → (g' i j = g i j ∧ g i j ≠ -1) ∨ (g' i j = g i k + g k j ∧ g i k ≠ -1 ∧ g k j ≠ -1) := by
    intro i j h
    rw [hg i j] at h ⊢
    split
    · rename_i q
      exact Or.inr ⟨rfl, q.1, q.2.1⟩
    · rename_i q
      rw [if_neg q] at h
      exact Or.inl ⟨rfl, h⟩
  have k1 : ∀ i, g' i k = g i k := by
    intro i
    rw [hg i k]
    split
    · rename_i q
      have := nn _ _ q.1
      rcases q.2.2 with z | z
      · exact absurd z q.1
      · omega
    · rfl
  have k2 : ∀ j, g' k j = g k j := by
    intro j
    rw [hg k j]
    split
    · rename_i q
      rcases q.2.2 with z | z
      · exact absurd z q.2.1
      · omega
    · rfl
  refine ⟨?_, mono, ?_, ?_, ?_⟩
  · intro i j
    by_cases q : g' i j = -1
    · exact Or.inl q
    · refine Or.inr ?_
      rcases row i j q with ⟨e, h⟩ | ⟨e, h1, h2⟩
      · rw [e]
        rcases hs i j with z | z
        · exact absurd z h
        · exact z
      · rw [e]
        rcases hs i k with z | ⟨n1, z1⟩
        · exact absurd z h1
        · rcases hs k j with z | ⟨n2, z2⟩
          · exact absurd z h2
          · exact ⟨_, Wk_app _ _ _ _ _ _ _ z1 z2⟩
  · intro i h
    rw [hg i i]
    split
    · rename_i q
      have := nn _ _ q.1
      have := nn _ _ q.2.1
      omega
    · exact h
  · intro x hx i j h1 h2
    rcases row i x h1 with ⟨e1, a1⟩ | ⟨e1, a1, b1⟩ <;> rcases row x j h2 with ⟨e2, a2⟩ | ⟨e2, a2, b2⟩
    · rw [e1, e2]
      exact mono _ _ _ (hx i j a1 a2)
    · have h3 := hx i k a1 a2
      have h4 := via i j h3.1 b2
      rw [e1, e2]
      exact ⟨h4.1, by have := h4.2; have := h3.2; omega⟩
    · have h3 := hx k j b1 a2
      have h4 := via i j a1 h3.1
      rw [e1, e2]
      exact ⟨h4.1, by have := h4.2; have := h3.2; omega⟩
    · have h4 := via i j a1 b2
      have := nn _ _ b1
      have := nn _ _ a2
      rw [e1, e2]
      exact ⟨h4.1, by have := h4.2; omega⟩
  · intro i j h1 h2
    rw [k1] at h1 ⊢
    rw [k2] at h2 ⊢
    exact via i j h1 h2
