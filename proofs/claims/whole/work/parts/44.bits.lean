/-! SETS AS BITS -/
def tb (x : Int) (i : Nat) : Bool := x.toNat.testBit i
abbrev nB (x : Int) : Prop := 0 ≤ x ∧ x < 2147483648
theorem bv_of {x : Int} (h : nB x) : (BitVec.ofInt 32 x).toNat = x.toNat := by
  rw [BitVec.toNat_ofInt, Int.emod_eq_of_lt h.1 (by have := h.2; show x < 4294967296; omega)]
theorem bv_int {b : BitVec 32} (h : b.toNat < 2147483648) : b.toInt = (b.toNat : Int) := BitVec.toInt_eq_toNat_of_lt (by show 2 * b.toNat < 4294967296; omega)
theorem bOr_eq {x y : Int} (hx : nB x) (hy : nB y) : bOr x y = ((x.toNat ||| y.toNat : Nat) : Int) ∧ nB (bOr x y) := by
  have e : (BitVec.ofInt 32 x ||| BitVec.ofInt 32 y).toNat = x.toNat ||| y.toNat := by rw [BitVec.toNat_or, bv_of hx, bv_of hy]
  have hl : x.toNat ||| y.toNat < 2 ^ 31 := Nat.or_lt_two_pow (by have := hx.2; show x.toNat < 2147483648; omega) (by have := hy.2; show y.toNat < 2147483648; omega)
  have hl : x.toNat ||| y.toNat < 2147483648 := hl
  have h1 : bOr x y = (BitVec.ofInt 32 x ||| BitVec.ofInt 32 y).toInt := rfl
  rw [h1, bv_int (by rw [e]; exact hl), e]
  exact ⟨rfl, by omega, by omega⟩
theorem bAnd_eq {x y : Int} (hx : nB x) (hy : nB y) : bAnd x y = ((x.toNat &&& y.toNat : Nat) : Int) ∧ nB (bAnd x y) := by
  have e : (BitVec.ofInt 32 x &&& BitVec.ofInt 32 y).toNat = x.toNat &&& y.toNat := by rw [BitVec.toNat_and, bv_of hx, bv_of hy]
  have hl : x.toNat &&& y.toNat ≤ x.toNat := Nat.and_le_left
  have hx2 := hx.2
  have h1 : bAnd x y = (BitVec.ofInt 32 x &&& BitVec.ofInt 32 y).toInt := rfl
  rw [h1, bv_int (by rw [e]; omega), e]
  exact ⟨rfl, by omega, by omega⟩
theorem tb_or {x y : Int} (hx : nB x) (hy : nB y) (i : Nat) : tb (bOr x y) i = (tb x i || tb y i) := by
  unfold tb
  rw [(bOr_eq hx hy).1, Int.toNat_natCast, Nat.testBit_or]
theorem tb_and {x y : Int} (hx : nB x) (hy : nB y) (i : Nat) : tb (bAnd x y) i = (tb x i && tb y i) := by
  unfold tb
  rw [(bAnd_eq hx hy).1, Int.toNat_natCast, Nat.testBit_and]
theorem shl_all : ∀ k, k < 31 → bShl 1 (k : Nat) = ((2 ^ k : Nat) : Int) := by decide +kernel
theorem bShl_eq {k : Int} (h0 : 0 ≤ k) (h1 : k < 31) : bShl 1 k = ((2 ^ k.toNat : Nat) : Int) := by
  have := shl_all k.toNat (by omega)
  rw [Int.toNat_of_nonneg h0] at this
  exact this
theorem bShl_nB {k : Int} (h0 : 0 ≤ k) (h1 : k < 31) : nB (bShl 1 k) := by
  rw [bShl_eq h0 h1]
  have : (2 : Nat) ^ k.toNat ≤ 2 ^ 30 := Nat.pow_le_pow_right (by decide) (by omega)
  have h2 : (2 : Nat) ^ 30 = 1073741824 := by decide
  exact ⟨Int.natCast_nonneg _, by omega⟩
theorem tb_shl {k : Int} (h0 : 0 ≤ k) (h1 : k < 31) (i : Nat) : tb (bShl 1 k) i = decide (k.toNat = i) := by
  unfold tb
  rw [bShl_eq h0 h1, Int.toNat_natCast, Nat.testBit_two_pow]
theorem bcl_eq {x y : Int} (hx : nB x) (hy : nB y) : nB (bAnd x (bXor y (-1))) ∧ ∀ i, tb (bAnd x (bXor y (-1))) i = (tb x i && !tb y i) := by
  have h1 : bAnd x (bXor y (-1)) = (BitVec.ofInt 32 x &&& (BitVec.ofInt 32 y ^^^ BitVec.ofInt 32 (-1))).toInt := by
    show (Int32.ofInt x &&& Int32.ofInt (Int32.ofInt y ^^^ Int32.ofInt (-1)).toInt).toInt = _
    rw [Int32.ofInt_toInt]
    rfl
  obtain ⟨N, hN⟩ : ∃ N, (BitVec.ofInt 32 x &&& (BitVec.ofInt 32 y ^^^ BitVec.ofInt 32 (-1))).toNat = N := ⟨_, rfl⟩
  have e : N = x.toNat &&& (y.toNat ^^^ 4294967295) := by
    rw [← hN, BitVec.toNat_and, BitVec.toNat_xor, bv_of hx, bv_of hy]
    rfl
  have hl : N ≤ x.toNat := by rw [e]; exact Nat.and_le_left
  have hx2 := hx.2
  have hx1 := hx.1
  rw [h1, bv_int (by rw [hN]; omega), hN]
  refine ⟨⟨by omega, by omega⟩, fun i => ?_⟩
  unfold tb
  rw [Int.toNat_natCast, e, Nat.testBit_and, Nat.testBit_xor]
  by_cases hi : i < 32
  · have : Nat.testBit 4294967295 i = true := (by decide +kernel : ∀ i, i < 32 → Nat.testBit 4294967295 i = true) i hi
    rw [this]
    cases x.toNat.testBit i <;> cases y.toNat.testBit i <;> rfl
  · have : x.toNat.testBit i = false := Nat.testBit_lt_two_pow (Nat.lt_of_lt_of_le (show x.toNat < 2 ^ 32 by show x.toNat < 4294967296; omega) (Nat.pow_le_pow_right (by decide) (by omega)))
    rw [this]
    rfl
theorem bcl_all {x : Int} (hx : nB x) : bAnd x (-1) = x := by
  have h1 : bAnd x (-1) = (BitVec.ofInt 32 x &&& BitVec.ofInt 32 (-1)).toInt := rfl
  have e : (BitVec.ofInt 32 x &&& BitVec.ofInt 32 (-1)).toNat = x.toNat := by
    rw [BitVec.toNat_and, bv_of hx]
    apply Nat.eq_of_testBit_eq
    intro i
    have hb : (BitVec.ofInt 32 (-1)).toNat = 4294967295 := rfl
    rw [hb, Nat.testBit_and]
    by_cases hi : i < 32
    · have : Nat.testBit 4294967295 i = true := (by decide +kernel : ∀ i, i < 32 → Nat.testBit 4294967295 i = true) i hi
      rw [this, Bool.and_true]
    · have : x.toNat.testBit i = false := Nat.testBit_lt_two_pow (Nat.lt_of_lt_of_le (show x.toNat < 2 ^ 32 by have := hx.2; show x.toNat < 4294967296; omega) (Nat.pow_le_pow_right (by decide) (by omega)))
      rw [this, Bool.false_and]
  have hx2 := hx.2
  have hx1 := hx.1
  rw [h1, bv_int (by rw [e]; omega), e]
  omega
theorem tb_ext {x y : Int} (hx : 0 ≤ x) (hy : 0 ≤ y) (h : ∀ i, tb x i = tb y i) : x = y := by
  have : x.toNat = y.toNat := Nat.eq_of_testBit_eq h
  omega
theorem tb_0 (i : Nat) : tb 0 i = false := by
  unfold tb
  exact Nat.zero_testBit i
theorem shr_and : ∀ k, k < 31 → (Int32.ofInt (k : Nat) &&& 31) = Int32.ofInt (k : Nat) := by decide +kernel
theorem bShr_eq {x k : Int} (hx : nB x) (h0 : 0 ≤ k) (h1 : k < 31) : bShr x k = ((x.toNat >>> k.toNat : Nat) : Int) ∧ nB (bShr x k) := by
  have hk : (Int32.ofInt k &&& 31) = Int32.ofInt k := by
    have := shr_and k.toNat (by omega)
    rwa [Int.toNat_of_nonneg h0] at this
  have h2 : bShr x k = (Int32.ofInt x >>> Int32.ofInt k).toInt := by
    unfold bShr
    rw [hk]
  have hxi : (Int32.ofInt x).toInt = x := i32 ⟨by have := hx.1; omega, by have := hx.2; omega⟩
  have hki : (Int32.ofInt k).toInt = k := i32 ⟨by omega, by omega⟩
  have h3 : (Int32.ofInt x >>> Int32.ofInt k).toInt = x >>> k.toNat := by
    show ((Int32.ofInt x).toBitVec.sshiftRight' ((Int32.ofInt k).toBitVec.smod 32)).toInt = _
    rw [BitVec.toInt_sshiftRight', ]
    have hs : ((Int32.ofInt k).toBitVec.smod 32).toNat = k.toNat := by
      have key : ∀ k, k < 31 → ((Int32.ofInt (k : Nat)).toBitVec.smod 32).toNat = k := by decide +kernel
      have := key k.toNat (by omega)
      rwa [Int.toNat_of_nonneg h0] at this
    rw [hs]
    show (Int32.ofInt x).toInt >>> k.toNat = _
    rw [hxi]
  have h4 : x >>> k.toNat = ((x.toNat >>> k.toNat : Nat) : Int) := by
    rw [Int.shiftRight_eq_div_pow, Nat.shiftRight_eq_div_pow]
    have : x = (x.toNat : Int) := by have := hx.1; omega
    rw [this]
    simp
  rw [h2, h3, h4]
  refine ⟨rfl, Int.natCast_nonneg _, ?_⟩
  rw [Nat.shiftRight_eq_div_pow]
  have := Nat.div_le_self x.toNat (2 ^ k.toNat)
  have := hx.2
  omega
theorem tst_eq {x k : Int} (hx : nB x) (h0 : 0 ≤ k) (h1 : k < 31) : bAnd (bShr x k) 1 = if tb x k.toNat then 1 else 0 := by
  obtain ⟨e1, e2⟩ := bShr_eq hx h0 h1
  rw [(bAnd_eq e2 (by decide)).1, e1, Int.toNat_natCast]
  show ((x.toNat >>> k.toNat &&& 1 : Nat) : Int) = _
  unfold tb
  rw [Nat.and_one_is_mod, Nat.shiftRight_eq_div_pow]
  rw [Nat.testBit_eq_decide_div_mod_eq]
  have := Nat.mod_two_eq_zero_or_one (x.toNat / 2 ^ k.toNat)
  rcases this with h | h
  · rw [h]; rfl
  · rw [h]; rfl
theorem tst0 {x k : Int} (hx : nB x) (h0 : 0 ≤ k) (h1 : k < 31) : w32 (bAnd (bShr x k) 1) = 0 ↔ tb x k.toNat = false := by
  rw [tst_eq hx h0 h1]
  cases tb x k.toNat
  · exact ⟨fun _ => rfl, fun _ => by decide⟩
  · exact ⟨fun h => absurd h (by decide), fun h => by cases h⟩
theorem tst1 {x k : Int} (hx : nB x) (h0 : 0 ≤ k) (h1 : k < 31) : w32 (bAnd (bShr x k) 1) = 1 ↔ tb x k.toNat = true := by
  rw [tst_eq hx h0 h1]
  cases tb x k.toNat
  · exact ⟨fun h => absurd h (by decide), fun h => by cases h⟩
  · exact ⟨fun _ => rfl, fun _ => by decide⟩
