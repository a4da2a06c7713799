/-! counting bits -/
def bcv (a : Int) : Int :=
  let x1 := a - bAnd (bUsh a 1) 1431655765
  let x3 := bAnd x1 858993459 + bAnd (bUsh x1 2) 858993459
  let x5 := bAnd (x3 + bUsh x3 4) 252645135
  let x7 := x5 + bUsh x5 8
  let x9 := x7 + bUsh x7 16
  bAnd x9 63
def cnb (x : Nat) : Nat → Int
  | 0 => 0
  | n + 1 => cnb x n + (if x.testBit n then 1 else 0)
theorem bcv_all : ∀ x, x < 512 → bcv (x : Nat) = cnb x 9 := by decide +kernel
theorem ci_bitCount {F : Nat} {x : Int} {w : AW} {P : Int → AW → Prop} (hx : 0 ≤ x ∧ x < 512) (h : P (cnb x.toNat 9) w) : CI (m_J6_bitCount_0f7a4 F [vI x] w) P := by
  refine wp_J6_bitCount_0f7a4 F x w _ (fun x1 e1 x3 e3 x5 e5 x7 e7 x9 e9 => q_i ?_)
  have e : bAnd x9 63 = bcv x := by rw [e9, e7, e5, e3, e1]; rfl
  have e2 := bcv_all x.toNat (by omega)
  rw [Int.toNat_of_nonneg hx.1] at e2
  rw [e, e2]
  exact h
