/-! WHAT THE STATEMENT GIVES OF THE START: static rows and words -/
def fl1 : List Cond := flatC (Jvm.Cond.and given_1 narrow_1)
abbrev tStat (e : Nat) : Term := .static "LastWalker$Reader" (xname e) "[I"
abbrev tStr (i : Nat) : Term := .string "LastWalker$Reader" (strIdx i)
abbrev tVal (i : Nat) : Term := .field (tStr i) "java/lang/String" "value" "[B"
set_option maxRecDepth 20000 in
theorem f_st : ∀ e, e < 3 → Cond.arrayOf (tStat e) .int ∈ fl1 ∧ Cond.eq (.length (tStat e)) (.int (Int32.ofNat (xlen e))) ∈ fl1 ∧ xlen e < 60 ∧ ∀ j, j < xlen e → Cond.eq (.elem (tStat e) (.int (Int32.ofNat j))) (.int (Int32.ofInt (xval e j))) ∈ fl1 := by decide +kernel
set_option maxRecDepth 20000 in
theorem f_sl : ∀ e, e < 3 → Cond.laysStatic "LastWalker$Reader" (xname e) "[I" ∈ lw_tbl := by decide +kernel
set_option maxRecDepth 20000 in
theorem f_str : ∀ i, i < 14 → Cond.exactly (tStr i) "java/lang/String" ∈ fl1 ∧ Cond.eq (.field (tStr i) "java/lang/String" "coder" "B") (.int 0) ∈ fl1 ∧ Cond.arrayOf (tVal i) .byte ∈ fl1 ∧ Cond.eq (.length (tVal i)) (.int (Int32.ofNat (strLen.getD i 0))) ∈ fl1 ∧ strLen.getD i 0 < 10 ∧ ∀ j, j < strLen.getD i 0 → Cond.eq (.elem (tVal i) (.int (Int32.ofNat j))) (.int ((strByt.getD i []).getD j 0)) ∈ fl1 := by decide +kernel
set_option maxRecDepth 20000 in
theorem f_sr : ∀ i, i < 14 → Cond.stringRef "LastWalker$Reader" (strIdx i) (strTxt i) ∈ lw_tbl := by decide +kernel
set_option maxRecDepth 20000 in
theorem f_cs : Cond.eq (.static "java/lang/String" "COMPACT_STRINGS" "Z") (.int 1) ∈ fl1 ∧ Cond.isRef (.static "jdk/internal/util/Preconditions" "SIOOBE_FORMATTER" "Ljava/util/function/BiFunction;") ∈ fl1 := by decide +kernel
set_option maxRecDepth 20000 in
theorem f_ls : Cond.laysStatic "java/lang/String" "COMPACT_STRINGS" "Z" ∈ lw_tbl ∧ Cond.laysStatic "jdk/internal/util/Preconditions" "SIOOBE_FORMATTER" "Ljava/util/function/BiFunction;" ∈ lw_tbl ∧ Cond.initialized "java/lang/String" ∈ lw_tbl ∧ Cond.initialized "jdk/internal/util/Preconditions" ∈ lw_tbl ∧ Cond.initialized "LastWalker$Reader" ∈ lw_tbl := by decide +kernel
