/-! ROADS THAT ERRANDS NEED -/
noncomputable def bto (p : Nat → Prop) : Nat → Int
  | 0 => 0
  | n + 1 => bOr (bto p n) ((ind (p n) : Int) * bShl 1 n)
theorem bto_s {p : Nat → Prop} {n : Nat} : (p n → bto p (n + 1) = bOr (bto p n) (bShl 1 n)) ∧ (¬ p n → bto p (n + 1) = bOr (bto p n) 0) := by
  refine ⟨fun q => ?_, fun q => ?_⟩
  · show bOr (bto p n) ((ind (p n) : Int) * bShl 1 n) = _
    rw [ind_pos q]
    congr 1
    simp
  · show bOr (bto p n) ((ind (p n) : Int) * bShl 1 n) = _
    rw [ind_neg q]
    congr 1
    simp
theorem bto_ok {p : Nat → Prop} : ∀ n : Nat, n ≤ 20 → nB (bto p n) ∧ ∀ i : Nat, tb (bto p n) i = true ↔ i < n ∧ p i
  | 0, _ => ⟨⟨Int.le_refl _, by show (0 : Int) < 2147483648; decide⟩, fun i => by
    have : tb (bto p 0) i = false := tb_0 i
    rw [this]
    constructor
    · intro h; cases h
    · rintro ⟨h, -⟩; omega⟩
  | n + 1, hn => by
    obtain ⟨h1, h2⟩ := bto_ok (p := p) n (by omega)
    have hs := bShl_nB (k := n) (by omega) (by omega)
    by_cases q : p n
    · rw [bto_s.1 q]
      refine ⟨(bOr_eq h1 hs).2, fun i => ?_⟩
      rw [tb_or h1 hs, tb_shl (by omega) (by omega), Int.toNat_natCast, Bool.or_eq_true, h2, decide_eq_true_eq]
      constructor
      · rintro (⟨z1, z2⟩ | z)
        · exact ⟨by omega, z2⟩
        · subst z; exact ⟨by omega, q⟩
      · rintro ⟨z1, z2⟩
        by_cases e : n = i
        · exact Or.inr e
        · exact Or.inl ⟨by omega, z2⟩
    · rw [bto_s.2 q, bOr_0 h1]
      refine ⟨h1, fun i => ?_⟩
      rw [h2]
      constructor
      · rintro ⟨z1, z2⟩; exact ⟨by omega, z2⟩
      · rintro ⟨z1, z2⟩
        refine ⟨?_, z2⟩
        by_cases e : i = n
        · rw [e] at z2; exact absurd z2 q
        · omega
theorem bto_i {p : Nat → Prop} {i : Int} (h : 0 ≤ i) (h2 : i ≤ 20) : (p i.toNat → bto p (i + 1).toNat = bOr (bto p i.toNat) (bShl 1 i)) ∧ (¬ p i.toNat → bto p (i + 1).toNat = bto p i.toNat) := by
  obtain ⟨n, hn⟩ : ∃ n : Nat, i = (n : Int) := ⟨i.toNat, by omega⟩
  subst hn
  rw [show ((n : Int) + 1).toNat = n + 1 from by omega, Int.toNat_natCast]
  refine ⟨bto_s.1, fun q => ?_⟩
  rw [bto_s.2 q, bOr_0 (bto_ok n (by omega)).1]
theorem tb_eqv {x y : Int} (hx : nB x) (hy : nB y) (h : ∀ i, tb x i = true ↔ tb y i = true) : x = y := tb_ext hx.1 hy.1 (fun i => by
  have := h i
  cases h1 : tb x i <;> cases h2 : tb y i <;> rw [h1, h2] at this <;> simp at this <;> rfl)
/-- an errand can be done without a road -/
def wR (T : Nat → Int) (x : Int) (e : Nat) : Prop := ∃ n m, Wk (Jt T x) n (pH T (eW T e)) (eP T e) m
theorem wR_mono {T : Nat → Int} {x : Int} {e : Nat} (h : wR T x e) : wR T (-1) e := by
  obtain ⟨n, m, hw⟩ := h
  refine ⟨n, m, ?_⟩
  have key : ∀ n a b m, Wk (Jt T x) n a b m → Wk (Jt T (-1)) n a b m := by
    intro n
    induction n with
    | zero => intro a b m h; exact h
    | succ n ih =>
      rintro a b m ⟨c, d, h1, r, h2, h3, h4⟩
      exact ⟨c, d, ih _ _ _ h1, r, h2, by omega, h4⟩
  exact key n _ _ _ hw
noncomputable def rch (T : Nat → Int) (x : Int) : Int := bto (wR T x) (T 3).toNat
noncomputable def nd (T : Nat → Int) (x : Int) : Int := bto (fun e => wR T (-1) e ∧ ¬ wR T x e) (T 3).toNat
theorem nd_rch {T : Nat → Int} (hT : TK T) (x : Int) : bAnd (rch T (-1)) (bXor (rch T x) (-1)) = nd T x ∧ (rch T x = rch T (-1) ↔ nd T x = 0) := by
  have a3 := hT.2.2.2.1
  have hr := bto_ok (p := wR T (-1)) (T 3).toNat (by omega)
  have r1 : nB (rch T (-1)) := hr.1
  have r2 : ∀ i : Nat, tb (rch T (-1)) i = true ↔ i < (T 3).toNat ∧ wR T (-1) i := hr.2
  have hs := bto_ok (p := wR T x) (T 3).toNat (by omega)
  have s1 : nB (rch T x) := hs.1
  have s2 : ∀ i : Nat, tb (rch T x) i = true ↔ i < (T 3).toNat ∧ wR T x i := hs.2
  have ht := bto_ok (p := fun e => wR T (-1) e ∧ ¬ wR T x e) (T 3).toNat (by omega)
  have t1 : nB (nd T x) := ht.1
  have t2 : ∀ i : Nat, tb (nd T x) i = true ↔ i < (T 3).toNat ∧ (wR T (-1) i ∧ ¬ wR T x i) := ht.2
  obtain ⟨u1, u2⟩ := bcl_eq r1 s1
  have e : bAnd (rch T (-1)) (bXor (rch T x) (-1)) = nd T x := by
    refine tb_eqv u1 t1 (fun i => ?_)
    rw [t2, u2, Bool.and_eq_true, r2]
    constructor
    · rintro ⟨⟨z1, z2⟩, z3⟩
      refine ⟨z1, z2, fun z => ?_⟩
      rw [(s2 i).mpr ⟨z1, z⟩] at z3
      cases z3
    · rintro ⟨z1, z2, z3⟩
      refine ⟨⟨z1, z2⟩, ?_⟩
      cases h : tb (rch T x) i with
      | false => rfl
      | true => exact absurd ((s2 i).mp h).2 z3
  refine ⟨e, fun h => ?_, fun h => tb_eqv s1 r1 (fun i => ?_)⟩
  · refine tb_eqv t1 ⟨Int.le_refl _, by decide⟩ (fun i => ?_)
    rw [t2, tb_0]
    constructor
    · rintro ⟨z1, z2, z3⟩
      have hz : tb (rch T x) i = true := by rw [h]; exact (r2 i).mpr ⟨z1, z2⟩
      exact absurd ((s2 i).mp hz).2 z3
    · intro z; cases z
  · rw [r2, s2]
    constructor
    · rintro ⟨z1, z2⟩; exact ⟨z1, wR_mono z2⟩
    · rintro ⟨z1, z2⟩
      refine ⟨z1, ?_⟩
      apply Classical.byContradiction
      intro z3
      have : tb (nd T x) i = true := (t2 i).mpr ⟨z1, z2, z3⟩
      rw [h, tb_0] at this
      cases this
