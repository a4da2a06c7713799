/-! WHAT THE STATEMENT GIVES OF THE START: static rows and words -/
def fl1 : List Cond := flatC (Jvm.Cond.and given_1 narrow_1)
abbrev tStat (e : Nat) : Term := .static "LastWalker$Reader" (xname e) "[I"
abbrev tStr (i : Nat) : Term := .string "LastWalker$Reader" (strIdx i)
abbrev tVal (i : Nat) : Term := .field (tStr i) "java/lang/String" "value" "[B"
set_option maxRecDepth 20000 in
theorem f_st : ∀ e, e < 3 → Cond.arrayOf (tStat e) .int ∈ fl1 ∧ Cond.eq (.length (tStat e)) (.int (Int32.ofNat (xlen e))) ∈ fl1 ∧ xlen e < 60 ∧ ∀ j, j < xlen e → Cond.eq (.elem (tStat e) (.int (Int32.ofNat j))) (.int (Int32.ofInt (xval e j))) ∈ fl1 := by decide +kernel
set_option maxRecDepth 20000 in
theorem f_sl : ∀ e, e < 3 → Cond.laysStatic "LastWalker$Reader" (xname e) "[I" ∈ lw_tbl := by decide +kernel
set_option maxRecDepth 20000 in
theorem f_str : ∀ i, i < 14 → Cond.exactly (tStr i) "java/lang/String" ∈ fl1 ∧ Cond.eq (.field (tStr i) "java/lang/String" "coder" "B") (.int 0) ∈ fl1 ∧ Cond.arrayOf (tVal i) .byte ∈ fl1 ∧ Cond.eq (.length (tVal i)) (.int (Int32.ofNat (strLen.getD i 0))) ∈ fl1 ∧ strLen.getD i 0 < 10 ∧ ∀ j, j < strLen.getD i 0 → Cond.eq (.elem (tVal i) (.int (Int32.ofNat j))) (.int ((strByt.getD i []).getD j 0)) ∈ fl1 := by decide +kernel
theorem fne_0_1 : Cond.not (Cond.eq (tStr 0) (tStr 1)) ∈ fl1 := List.mem_of_getElem? (i := 192) (by decide +kernel)
theorem fne_0_2 : Cond.not (Cond.eq (tStr 0) (tStr 2)) ∈ fl1 := List.mem_of_getElem? (i := 202) (by decide +kernel)
theorem fne_1_2 : Cond.not (Cond.eq (tStr 1) (tStr 2)) ∈ fl1 := List.mem_of_getElem? (i := 203) (by decide +kernel)
theorem fne_0_3 : Cond.not (Cond.eq (tStr 0) (tStr 3)) ∈ fl1 := List.mem_of_getElem? (i := 213) (by decide +kernel)
theorem fne_1_3 : Cond.not (Cond.eq (tStr 1) (tStr 3)) ∈ fl1 := List.mem_of_getElem? (i := 214) (by decide +kernel)
theorem fne_2_3 : Cond.not (Cond.eq (tStr 2) (tStr 3)) ∈ fl1 := List.mem_of_getElem? (i := 215) (by decide +kernel)
theorem fne_0_4 : Cond.not (Cond.eq (tStr 0) (tStr 4)) ∈ fl1 := List.mem_of_getElem? (i := 223) (by decide +kernel)
theorem fne_1_4 : Cond.not (Cond.eq (tStr 1) (tStr 4)) ∈ fl1 := List.mem_of_getElem? (i := 224) (by decide +kernel)
theorem fne_2_4 : Cond.not (Cond.eq (tStr 2) (tStr 4)) ∈ fl1 := List.mem_of_getElem? (i := 225) (by decide +kernel)
theorem fne_3_4 : Cond.not (Cond.eq (tStr 3) (tStr 4)) ∈ fl1 := List.mem_of_getElem? (i := 226) (by decide +kernel)
theorem fne_0_5 : Cond.not (Cond.eq (tStr 0) (tStr 5)) ∈ fl1 := List.mem_of_getElem? (i := 237) (by decide +kernel)
theorem fne_1_5 : Cond.not (Cond.eq (tStr 1) (tStr 5)) ∈ fl1 := List.mem_of_getElem? (i := 238) (by decide +kernel)
theorem fne_2_5 : Cond.not (Cond.eq (tStr 2) (tStr 5)) ∈ fl1 := List.mem_of_getElem? (i := 239) (by decide +kernel)
theorem fne_3_5 : Cond.not (Cond.eq (tStr 3) (tStr 5)) ∈ fl1 := List.mem_of_getElem? (i := 240) (by decide +kernel)
theorem fne_4_5 : Cond.not (Cond.eq (tStr 4) (tStr 5)) ∈ fl1 := List.mem_of_getElem? (i := 241) (by decide +kernel)
theorem fne_0_6 : Cond.not (Cond.eq (tStr 0) (tStr 6)) ∈ fl1 := List.mem_of_getElem? (i := 249) (by decide +kernel)
theorem fne_1_6 : Cond.not (Cond.eq (tStr 1) (tStr 6)) ∈ fl1 := List.mem_of_getElem? (i := 250) (by decide +kernel)
theorem fne_2_6 : Cond.not (Cond.eq (tStr 2) (tStr 6)) ∈ fl1 := List.mem_of_getElem? (i := 251) (by decide +kernel)
theorem fne_3_6 : Cond.not (Cond.eq (tStr 3) (tStr 6)) ∈ fl1 := List.mem_of_getElem? (i := 252) (by decide +kernel)
theorem fne_4_6 : Cond.not (Cond.eq (tStr 4) (tStr 6)) ∈ fl1 := List.mem_of_getElem? (i := 253) (by decide +kernel)
theorem fne_5_6 : Cond.not (Cond.eq (tStr 5) (tStr 6)) ∈ fl1 := List.mem_of_getElem? (i := 254) (by decide +kernel)
theorem fne_0_7 : Cond.not (Cond.eq (tStr 0) (tStr 7)) ∈ fl1 := List.mem_of_getElem? (i := 263) (by decide +kernel)
theorem fne_1_7 : Cond.not (Cond.eq (tStr 1) (tStr 7)) ∈ fl1 := List.mem_of_getElem? (i := 264) (by decide +kernel)
theorem fne_2_7 : Cond.not (Cond.eq (tStr 2) (tStr 7)) ∈ fl1 := List.mem_of_getElem? (i := 265) (by decide +kernel)
theorem fne_3_7 : Cond.not (Cond.eq (tStr 3) (tStr 7)) ∈ fl1 := List.mem_of_getElem? (i := 266) (by decide +kernel)
theorem fne_4_7 : Cond.not (Cond.eq (tStr 4) (tStr 7)) ∈ fl1 := List.mem_of_getElem? (i := 267) (by decide +kernel)
theorem fne_5_7 : Cond.not (Cond.eq (tStr 5) (tStr 7)) ∈ fl1 := List.mem_of_getElem? (i := 268) (by decide +kernel)
theorem fne_6_7 : Cond.not (Cond.eq (tStr 6) (tStr 7)) ∈ fl1 := List.mem_of_getElem? (i := 269) (by decide +kernel)
theorem fne_0_8 : Cond.not (Cond.eq (tStr 0) (tStr 8)) ∈ fl1 := List.mem_of_getElem? (i := 278) (by decide +kernel)
theorem fne_1_8 : Cond.not (Cond.eq (tStr 1) (tStr 8)) ∈ fl1 := List.mem_of_getElem? (i := 279) (by decide +kernel)
theorem fne_2_8 : Cond.not (Cond.eq (tStr 2) (tStr 8)) ∈ fl1 := List.mem_of_getElem? (i := 280) (by decide +kernel)
theorem fne_3_8 : Cond.not (Cond.eq (tStr 3) (tStr 8)) ∈ fl1 := List.mem_of_getElem? (i := 281) (by decide +kernel)
theorem fne_4_8 : Cond.not (Cond.eq (tStr 4) (tStr 8)) ∈ fl1 := List.mem_of_getElem? (i := 282) (by decide +kernel)
theorem fne_5_8 : Cond.not (Cond.eq (tStr 5) (tStr 8)) ∈ fl1 := List.mem_of_getElem? (i := 283) (by decide +kernel)
theorem fne_6_8 : Cond.not (Cond.eq (tStr 6) (tStr 8)) ∈ fl1 := List.mem_of_getElem? (i := 284) (by decide +kernel)
theorem fne_7_8 : Cond.not (Cond.eq (tStr 7) (tStr 8)) ∈ fl1 := List.mem_of_getElem? (i := 285) (by decide +kernel)
theorem fne_0_9 : Cond.not (Cond.eq (tStr 0) (tStr 9)) ∈ fl1 := List.mem_of_getElem? (i := 295) (by decide +kernel)
theorem fne_1_9 : Cond.not (Cond.eq (tStr 1) (tStr 9)) ∈ fl1 := List.mem_of_getElem? (i := 296) (by decide +kernel)
theorem fne_2_9 : Cond.not (Cond.eq (tStr 2) (tStr 9)) ∈ fl1 := List.mem_of_getElem? (i := 297) (by decide +kernel)
theorem fne_3_9 : Cond.not (Cond.eq (tStr 3) (tStr 9)) ∈ fl1 := List.mem_of_getElem? (i := 298) (by decide +kernel)
theorem fne_4_9 : Cond.not (Cond.eq (tStr 4) (tStr 9)) ∈ fl1 := List.mem_of_getElem? (i := 299) (by decide +kernel)
theorem fne_5_9 : Cond.not (Cond.eq (tStr 5) (tStr 9)) ∈ fl1 := List.mem_of_getElem? (i := 300) (by decide +kernel)
theorem fne_6_9 : Cond.not (Cond.eq (tStr 6) (tStr 9)) ∈ fl1 := List.mem_of_getElem? (i := 301) (by decide +kernel)
theorem fne_7_9 : Cond.not (Cond.eq (tStr 7) (tStr 9)) ∈ fl1 := List.mem_of_getElem? (i := 302) (by decide +kernel)
theorem fne_8_9 : Cond.not (Cond.eq (tStr 8) (tStr 9)) ∈ fl1 := List.mem_of_getElem? (i := 303) (by decide +kernel)
theorem fne_0_10 : Cond.not (Cond.eq (tStr 0) (tStr 10)) ∈ fl1 := List.mem_of_getElem? (i := 312) (by decide +kernel)
theorem fne_1_10 : Cond.not (Cond.eq (tStr 1) (tStr 10)) ∈ fl1 := List.mem_of_getElem? (i := 313) (by decide +kernel)
theorem fne_2_10 : Cond.not (Cond.eq (tStr 2) (tStr 10)) ∈ fl1 := List.mem_of_getElem? (i := 314) (by decide +kernel)
theorem fne_3_10 : Cond.not (Cond.eq (tStr 3) (tStr 10)) ∈ fl1 := List.mem_of_getElem? (i := 315) (by decide +kernel)
theorem fne_4_10 : Cond.not (Cond.eq (tStr 4) (tStr 10)) ∈ fl1 := List.mem_of_getElem? (i := 316) (by decide +kernel)
theorem fne_5_10 : Cond.not (Cond.eq (tStr 5) (tStr 10)) ∈ fl1 := List.mem_of_getElem? (i := 317) (by decide +kernel)
theorem fne_6_10 : Cond.not (Cond.eq (tStr 6) (tStr 10)) ∈ fl1 := List.mem_of_getElem? (i := 318) (by decide +kernel)
theorem fne_7_10 : Cond.not (Cond.eq (tStr 7) (tStr 10)) ∈ fl1 := List.mem_of_getElem? (i := 319) (by decide +kernel)
theorem fne_8_10 : Cond.not (Cond.eq (tStr 8) (tStr 10)) ∈ fl1 := List.mem_of_getElem? (i := 320) (by decide +kernel)
theorem fne_9_10 : Cond.not (Cond.eq (tStr 9) (tStr 10)) ∈ fl1 := List.mem_of_getElem? (i := 321) (by decide +kernel)
theorem fne_0_11 : Cond.not (Cond.eq (tStr 0) (tStr 11)) ∈ fl1 := List.mem_of_getElem? (i := 330) (by decide +kernel)
theorem fne_1_11 : Cond.not (Cond.eq (tStr 1) (tStr 11)) ∈ fl1 := List.mem_of_getElem? (i := 331) (by decide +kernel)
theorem fne_2_11 : Cond.not (Cond.eq (tStr 2) (tStr 11)) ∈ fl1 := List.mem_of_getElem? (i := 332) (by decide +kernel)
theorem fne_3_11 : Cond.not (Cond.eq (tStr 3) (tStr 11)) ∈ fl1 := List.mem_of_getElem? (i := 333) (by decide +kernel)
theorem fne_4_11 : Cond.not (Cond.eq (tStr 4) (tStr 11)) ∈ fl1 := List.mem_of_getElem? (i := 334) (by decide +kernel)
theorem fne_5_11 : Cond.not (Cond.eq (tStr 5) (tStr 11)) ∈ fl1 := List.mem_of_getElem? (i := 335) (by decide +kernel)
theorem fne_6_11 : Cond.not (Cond.eq (tStr 6) (tStr 11)) ∈ fl1 := List.mem_of_getElem? (i := 336) (by decide +kernel)
theorem fne_7_11 : Cond.not (Cond.eq (tStr 7) (tStr 11)) ∈ fl1 := List.mem_of_getElem? (i := 337) (by decide +kernel)
theorem fne_8_11 : Cond.not (Cond.eq (tStr 8) (tStr 11)) ∈ fl1 := List.mem_of_getElem? (i := 338) (by decide +kernel)
theorem fne_9_11 : Cond.not (Cond.eq (tStr 9) (tStr 11)) ∈ fl1 := List.mem_of_getElem? (i := 339) (by decide +kernel)
theorem fne_10_11 : Cond.not (Cond.eq (tStr 10) (tStr 11)) ∈ fl1 := List.mem_of_getElem? (i := 340) (by decide +kernel)
theorem fne_0_12 : Cond.not (Cond.eq (tStr 0) (tStr 12)) ∈ fl1 := List.mem_of_getElem? (i := 347) (by decide +kernel)
theorem fne_1_12 : Cond.not (Cond.eq (tStr 1) (tStr 12)) ∈ fl1 := List.mem_of_getElem? (i := 348) (by decide +kernel)
theorem fne_2_12 : Cond.not (Cond.eq (tStr 2) (tStr 12)) ∈ fl1 := List.mem_of_getElem? (i := 349) (by decide +kernel)
theorem fne_3_12 : Cond.not (Cond.eq (tStr 3) (tStr 12)) ∈ fl1 := List.mem_of_getElem? (i := 350) (by decide +kernel)
theorem fne_4_12 : Cond.not (Cond.eq (tStr 4) (tStr 12)) ∈ fl1 := List.mem_of_getElem? (i := 351) (by decide +kernel)
theorem fne_5_12 : Cond.not (Cond.eq (tStr 5) (tStr 12)) ∈ fl1 := List.mem_of_getElem? (i := 352) (by decide +kernel)
theorem fne_6_12 : Cond.not (Cond.eq (tStr 6) (tStr 12)) ∈ fl1 := List.mem_of_getElem? (i := 353) (by decide +kernel)
theorem fne_7_12 : Cond.not (Cond.eq (tStr 7) (tStr 12)) ∈ fl1 := List.mem_of_getElem? (i := 354) (by decide +kernel)
theorem fne_8_12 : Cond.not (Cond.eq (tStr 8) (tStr 12)) ∈ fl1 := List.mem_of_getElem? (i := 355) (by decide +kernel)
theorem fne_9_12 : Cond.not (Cond.eq (tStr 9) (tStr 12)) ∈ fl1 := List.mem_of_getElem? (i := 356) (by decide +kernel)
theorem fne_10_12 : Cond.not (Cond.eq (tStr 10) (tStr 12)) ∈ fl1 := List.mem_of_getElem? (i := 357) (by decide +kernel)
theorem fne_11_12 : Cond.not (Cond.eq (tStr 11) (tStr 12)) ∈ fl1 := List.mem_of_getElem? (i := 358) (by decide +kernel)
theorem fne_0_13 : Cond.not (Cond.eq (tStr 0) (tStr 13)) ∈ fl1 := List.mem_of_getElem? (i := 367) (by decide +kernel)
theorem fne_1_13 : Cond.not (Cond.eq (tStr 1) (tStr 13)) ∈ fl1 := List.mem_of_getElem? (i := 368) (by decide +kernel)
theorem fne_2_13 : Cond.not (Cond.eq (tStr 2) (tStr 13)) ∈ fl1 := List.mem_of_getElem? (i := 369) (by decide +kernel)
theorem fne_3_13 : Cond.not (Cond.eq (tStr 3) (tStr 13)) ∈ fl1 := List.mem_of_getElem? (i := 370) (by decide +kernel)
theorem fne_4_13 : Cond.not (Cond.eq (tStr 4) (tStr 13)) ∈ fl1 := List.mem_of_getElem? (i := 371) (by decide +kernel)
theorem fne_5_13 : Cond.not (Cond.eq (tStr 5) (tStr 13)) ∈ fl1 := List.mem_of_getElem? (i := 372) (by decide +kernel)
theorem fne_6_13 : Cond.not (Cond.eq (tStr 6) (tStr 13)) ∈ fl1 := List.mem_of_getElem? (i := 373) (by decide +kernel)
theorem fne_7_13 : Cond.not (Cond.eq (tStr 7) (tStr 13)) ∈ fl1 := List.mem_of_getElem? (i := 374) (by decide +kernel)
theorem fne_8_13 : Cond.not (Cond.eq (tStr 8) (tStr 13)) ∈ fl1 := List.mem_of_getElem? (i := 375) (by decide +kernel)
theorem fne_9_13 : Cond.not (Cond.eq (tStr 9) (tStr 13)) ∈ fl1 := List.mem_of_getElem? (i := 376) (by decide +kernel)
theorem fne_10_13 : Cond.not (Cond.eq (tStr 10) (tStr 13)) ∈ fl1 := List.mem_of_getElem? (i := 377) (by decide +kernel)
theorem fne_11_13 : Cond.not (Cond.eq (tStr 11) (tStr 13)) ∈ fl1 := List.mem_of_getElem? (i := 378) (by decide +kernel)
theorem fne_12_13 : Cond.not (Cond.eq (tStr 12) (tStr 13)) ∈ fl1 := List.mem_of_getElem? (i := 379) (by decide +kernel)
def nePairs : List (Nat × Nat) := [(0, 1), (0, 2), (1, 2), (0, 3), (1, 3), (2, 3), (0, 4), (1, 4), (2, 4), (3, 4), (0, 5), (1, 5), (2, 5), (3, 5), (4, 5), (0, 6), (1, 6), (2, 6), (3, 6), (4, 6), (5, 6), (0, 7), (1, 7), (2, 7), (3, 7), (4, 7), (5, 7), (6, 7), (0, 8), (1, 8), (2, 8), (3, 8), (4, 8), (5, 8), (6, 8), (7, 8), (0, 9), (1, 9), (2, 9), (3, 9), (4, 9), (5, 9), (6, 9), (7, 9), (8, 9), (0, 10), (1, 10), (2, 10), (3, 10), (4, 10), (5, 10), (6, 10), (7, 10), (8, 10), (9, 10), (0, 11), (1, 11), (2, 11), (3, 11), (4, 11), (5, 11), (6, 11), (7, 11), (8, 11), (9, 11), (10, 11), (0, 12), (1, 12), (2, 12), (3, 12), (4, 12), (5, 12), (6, 12), (7, 12), (8, 12), (9, 12), (10, 12), (11, 12), (0, 13), (1, 13), (2, 13), (3, 13), (4, 13), (5, 13), (6, 13), (7, 13), (8, 13), (9, 13), (10, 13), (11, 13), (12, 13)]
set_option maxRecDepth 20000 in
theorem fne_all : ∀ q ∈ nePairs, Cond.not (Cond.eq (tStr q.1) (tStr q.2)) ∈ fl1 := (List.forall_mem_cons.mpr ⟨fne_0_1, (List.forall_mem_cons.mpr ⟨fne_0_2, (List.forall_mem_cons.mpr ⟨fne_1_2, (List.forall_mem_cons.mpr ⟨fne_0_3, (List.forall_mem_cons.mpr ⟨fne_1_3, (List.forall_mem_cons.mpr ⟨fne_2_3, (List.forall_mem_cons.mpr ⟨fne_0_4, (List.forall_mem_cons.mpr ⟨fne_1_4, (List.forall_mem_cons.mpr ⟨fne_2_4, (List.forall_mem_cons.mpr ⟨fne_3_4, (List.forall_mem_cons.mpr ⟨fne_0_5, (List.forall_mem_cons.mpr ⟨fne_1_5, (List.forall_mem_cons.mpr ⟨fne_2_5, (List.forall_mem_cons.mpr ⟨fne_3_5, (List.forall_mem_cons.mpr ⟨fne_4_5, (List.forall_mem_cons.mpr ⟨fne_0_6, (List.forall_mem_cons.mpr ⟨fne_1_6, (List.forall_mem_cons.mpr ⟨fne_2_6, (List.forall_mem_cons.mpr ⟨fne_3_6, (List.forall_mem_cons.mpr ⟨fne_4_6, (List.forall_mem_cons.mpr ⟨fne_5_6, (List.forall_mem_cons.mpr ⟨fne_0_7, (List.forall_mem_cons.mpr ⟨fne_1_7, (List.forall_mem_cons.mpr ⟨fne_2_7, (List.forall_mem_cons.mpr ⟨fne_3_7, (List.forall_mem_cons.mpr ⟨fne_4_7, (List.forall_mem_cons.mpr ⟨fne_5_7, (List.forall_mem_cons.mpr ⟨fne_6_7, (List.forall_mem_cons.mpr ⟨fne_0_8, (List.forall_mem_cons.mpr ⟨fne_1_8, (List.forall_mem_cons.mpr ⟨fne_2_8, (List.forall_mem_cons.mpr ⟨fne_3_8, (List.forall_mem_cons.mpr ⟨fne_4_8, (List.forall_mem_cons.mpr ⟨fne_5_8, (List.forall_mem_cons.mpr ⟨fne_6_8, (List.forall_mem_cons.mpr ⟨fne_7_8, (List.forall_mem_cons.mpr ⟨fne_0_9, (List.forall_mem_cons.mpr ⟨fne_1_9, (List.forall_mem_cons.mpr ⟨fne_2_9, (List.forall_mem_cons.mpr ⟨fne_3_9, (List.forall_mem_cons.mpr ⟨fne_4_9, (List.forall_mem_cons.mpr ⟨fne_5_9, (List.forall_mem_cons.mpr ⟨fne_6_9, (List.forall_mem_cons.mpr ⟨fne_7_9, (List.forall_mem_cons.mpr ⟨fne_8_9, (List.forall_mem_cons.mpr ⟨fne_0_10, (List.forall_mem_cons.mpr ⟨fne_1_10, (List.forall_mem_cons.mpr ⟨fne_2_10, (List.forall_mem_cons.mpr ⟨fne_3_10, (List.forall_mem_cons.mpr ⟨fne_4_10, (List.forall_mem_cons.mpr ⟨fne_5_10, (List.forall_mem_cons.mpr ⟨fne_6_10, (List.forall_mem_cons.mpr ⟨fne_7_10, (List.forall_mem_cons.mpr ⟨fne_8_10, (List.forall_mem_cons.mpr ⟨fne_9_10, (List.forall_mem_cons.mpr ⟨fne_0_11, (List.forall_mem_cons.mpr ⟨fne_1_11, (List.forall_mem_cons.mpr ⟨fne_2_11, (List.forall_mem_cons.mpr ⟨fne_3_11, (List.forall_mem_cons.mpr ⟨fne_4_11, (List.forall_mem_cons.mpr ⟨fne_5_11, (List.forall_mem_cons.mpr ⟨fne_6_11, (List.forall_mem_cons.mpr ⟨fne_7_11, (List.forall_mem_cons.mpr ⟨fne_8_11, (List.forall_mem_cons.mpr ⟨fne_9_11, (List.forall_mem_cons.mpr ⟨fne_10_11, (List.forall_mem_cons.mpr ⟨fne_0_12, (List.forall_mem_cons.mpr ⟨fne_1_12, (List.forall_mem_cons.mpr ⟨fne_2_12, (List.forall_mem_cons.mpr ⟨fne_3_12, (List.forall_mem_cons.mpr ⟨fne_4_12, (List.forall_mem_cons.mpr ⟨fne_5_12, (List.forall_mem_cons.mpr ⟨fne_6_12, (List.forall_mem_cons.mpr ⟨fne_7_12, (List.forall_mem_cons.mpr ⟨fne_8_12, (List.forall_mem_cons.mpr ⟨fne_9_12, (List.forall_mem_cons.mpr ⟨fne_10_12, (List.forall_mem_cons.mpr ⟨fne_11_12, (List.forall_mem_cons.mpr ⟨fne_0_13, (List.forall_mem_cons.mpr ⟨fne_1_13, (List.forall_mem_cons.mpr ⟨fne_2_13, (List.forall_mem_cons.mpr ⟨fne_3_13, (List.forall_mem_cons.mpr ⟨fne_4_13, (List.forall_mem_cons.mpr ⟨fne_5_13, (List.forall_mem_cons.mpr ⟨fne_6_13, (List.forall_mem_cons.mpr ⟨fne_7_13, (List.forall_mem_cons.mpr ⟨fne_8_13, (List.forall_mem_cons.mpr ⟨fne_9_13, (List.forall_mem_cons.mpr ⟨fne_10_13, (List.forall_mem_cons.mpr ⟨fne_11_13, (List.forall_mem_cons.mpr ⟨fne_12_13, (fun _ h => absurd h List.not_mem_nil)⟩)⟩)⟩)⟩)⟩)⟩)⟩)⟩)⟩)⟩)⟩)⟩)⟩)⟩)⟩)⟩)⟩)⟩)⟩)⟩)⟩)⟩)⟩)⟩)⟩)⟩)⟩)⟩)⟩)⟩)⟩)⟩)⟩)⟩)⟩)⟩)⟩)⟩)⟩)⟩)⟩)⟩)⟩)⟩)⟩)⟩)⟩)⟩)⟩)⟩)⟩)⟩)⟩)⟩)⟩)⟩)⟩)⟩)⟩)⟩)⟩)⟩)⟩)⟩)⟩)⟩)⟩)⟩)⟩)⟩)⟩)⟩)⟩)⟩)⟩)⟩)⟩)⟩)⟩)⟩)⟩)⟩)⟩)⟩)⟩)⟩)⟩)⟩)⟩)⟩)⟩)
theorem fne_cov : ∀ i, i < 14 → ∀ j, j < 14 → i ≠ j → ((i, j) ∈ nePairs ∨ (j, i) ∈ nePairs) := by decide +kernel
theorem f_ne : ∀ i, i < 14 → ∀ j, j < 14 → i ≠ j → (Cond.not (Cond.eq (tStr i) (tStr j)) ∈ fl1 ∨ Cond.not (Cond.eq (tStr j) (tStr i)) ∈ fl1) := fun i hi j hj h => (fne_cov i hi j hj h).imp (fun q => fne_all _ q) (fun q => fne_all _ q)
set_option maxRecDepth 20000 in
theorem f_sr : ∀ i, i < 14 → Cond.stringRef "LastWalker$Reader" (strIdx i) (strTxt i) ∈ lw_tbl := by decide +kernel
set_option maxRecDepth 20000 in
theorem f_cs : Cond.eq (.static "java/lang/String" "COMPACT_STRINGS" "Z") (.int 1) ∈ fl1 ∧ Cond.isRef (.static "jdk/internal/util/Preconditions" "SIOOBE_FORMATTER" "Ljava/util/function/BiFunction;") ∈ fl1 := by decide +kernel
set_option maxRecDepth 20000 in
theorem f_ls : Cond.laysStatic "java/lang/String" "COMPACT_STRINGS" "Z" ∈ lw_tbl ∧ Cond.laysStatic "jdk/internal/util/Preconditions" "SIOOBE_FORMATTER" "Ljava/util/function/BiFunction;" ∈ lw_tbl ∧ Cond.initialized "java/lang/String" ∈ lw_tbl ∧ Cond.initialized "jdk/internal/util/Preconditions" ∈ lw_tbl ∧ Cond.initialized "LastWalker$Reader" ∈ lw_tbl := by decide +kernel
theorem ext_of {args : Array Value} {s : State} {A : Nat → Prop} (hgv : (Jvm.Cond.and given_1 narrow_1).before args s = true) (hts : ∀ w ∈ lw_tbl, w.before args s = true) (hA : ∀ a : Nat, a < s.heap.size → ¬ A a) :
    ∃ (tS adK adV : Nat → Nat) (fm : Nat), ∀ ad : Nat → Nat, (∀ e, e < 3 → ad (300 + e) = tS e) → (∀ i, i < 14 → ad (310 + i) = adK i) → (∀ i, i < 14 → ad (330 + i) = adV i) → ad 399 = fm → EXT ad A s s.heap := by
  have hf := flat_of_before _ hgv
  have hst : ∀ e : Nat, ∃ t : Nat, e < 3 → va_Z "LastWalker$Reader" (xname e) "[I" (.ref t) A s s.heap ∧ va_T .int t (xlen e) (fun k => .int (Int32.ofInt (xval e k))) A s s.heap := by
    intro e
    by_cases he : e < 3
    · obtain ⟨h1, h2, h3, h4⟩ := f_st e he
      obtain ⟨t, ht, hT⟩ := va_Tof (tm := tStat e) (N := xlen e) (f := fun k => .int (Int32.ofInt (xval e k))) (A := A) (by omega) (hf _ h1) (va_eqt (hf _ h2)) (fun j hj => va_eqt (hf _ (h4 j hj))) hA
      exact ⟨t, fun _ => ⟨va_Zref (hts _ (f_sl e he)) (hts _ f_ls.2.2.2.2) ht hA, hT⟩⟩
    · exact ⟨0, fun h => absurd h he⟩
  obtain ⟨tS, htS⟩ := Classical.axiomOfChoice hst
  obtain ⟨adK, adV, hS, hev⟩ := vk_Sof (args := args) (s := s) (N := 14) (tm := tStr) (len := strLen) (byt := strByt) (A := A) (fun i hi => by have := (f_str i hi).2.2.2.2.1; omega) (fun i hi => hf _ (f_str i hi).1) (fun i hi => hf _ (f_str i hi).2.1) (fun i hi => hf _ (f_str i hi).2.2.1) (fun i hi => hf _ (f_str i hi).2.2.2.1) (fun i hi j hj => hf _ ((f_str i hi).2.2.2.2.2 j hj)) (fun i j hi hj hij => (f_ne i hi j hj hij).imp (hf _) (hf _)) hA
  have hcs := va_Zof (hts _ f_ls.1) (hts _ f_ls.2.2.1) (va_eqi (hf _ f_cs.1)) hA
  have hfm : ∃ fm : Nat, va_Z "jdk/internal/util/Preconditions" "SIOOBE_FORMATTER" "Ljava/util/function/BiFunction;" .null A s s.heap ∨ va_Z "jdk/internal/util/Preconditions" "SIOOBE_FORMATTER" "Ljava/util/function/BiFunction;" (.ref fm) A s s.heap := by
    rcases va_Zqof (hts _ f_ls.2.1) (hts _ f_ls.2.2.2.1) (hf _ f_cs.2) hA with h | ⟨t, h⟩
    · exact ⟨0, Or.inl h⟩
    · exact ⟨t, Or.inr h⟩
  obtain ⟨fm, hfm⟩ := hfm
  refine ⟨tS, adK, adV, fm, fun ad a1 a2 a3 a4 => ⟨fun e he => ?_, ⟨fun i hi => ?_, fun i j hi hj hij => ?_⟩, fun i hi => ?_, hcs, ?_⟩⟩
  · rw [a1 e he]
    exact htS e he
  · show va_O "java/lang/String" (ad (310 + i)) A s s.heap ∧ va_OF "java/lang/String" "coder" "B" (.int 0) (ad (310 + i)) A s s.heap ∧ va_OF "java/lang/String" "value" "[B" (.ref (ad (330 + i))) (ad (310 + i)) A s s.heap ∧ va_T .byte (ad (330 + i)) (strLen.getD i 0) (fun j => .int ((strByt.getD i []).getD j 0)) A s s.heap
    rw [a2 i hi, a3 i hi]
    exact hS.1 i hi
  · have h2 : ad (310 + i) = ad (310 + j) := hij
    rw [a2 i hi, a2 j hj] at h2
    exact hS.2 i j hi hj h2
  · rw [a2 i hi]
    exact vk_R.of (hts _ (f_sr i hi)) (hev i hi)
  · rw [a4]
    exact hfm
/-! THE FIRST WORLD -/
def gA : AG := [gnew 8]
def gB : AG := (g_X8_init [vR 0] gA).getD []
def gC : AG := gB ++ [gnew 9]
def gD : AG := (g_X9_init [vR gB.length] gC).getD []
theorem opt_getD {α : Type} {o : Option α} (d : α) (h : o.isSome = true) : o = some (o.getD d) := by
  cases o with
  | none => cases h
  | some x => rfl
set_option maxRecDepth 100000 in
theorem gB_ok : g_X8_init [vR 0] gA = some gB := opt_getD [] (by decide +kernel)
set_option maxRecDepth 100000 in
theorem gD_ok : g_X9_init [vR gB.length] gC = some gD := opt_getD [] (by decide +kernel)
set_option maxRecDepth 100000 in
theorem g_lens : gB.length = 245 ∧ gC.length = 245 + 1 ∧ gD.length = NC ∧ gsl gD ≤ 100000 := by decide +kernel
/-- the order of making -/
def ord (j : Nat) : Nat := bif Nat.blt j 34 then 245 + j else j - 34
def I0 (j k : Nat) : Int := bif Nat.blt (gat gD (ord j)).1.1 10 then (match (gat gD (ord j)).2.1.getD k vN with
  | .inl x => x
  | _ => 0) else (gat gD (ord j)).2.2 k
def L0 (j k : Nat) : Int := bif Nat.blt (gat gD (ord j)).1.1 10 then (match (gat gD (ord j)).2.1.getD k vN with
  | .inr (.inl x) => x
  | _ => 0) else (gat gD (ord j)).2.2 k
def w0 : AW := (I0, L0, 218, 239, 253)
/-- a field of the first world is as its cell has it -/
def chkF (j ci k : Nat) : Bool := match fty ci k, (gat gD (ord j)).2.1.getD k vN with
  | 0, .inl _ => true
  | 1, .inr (.inl _) => true
  | 2, .inr (.inr (some (some r))) => Nat.beq r (ord (cref j k)) && Nat.blt (cref j k) NC
  | 3, .inr (.inr (some (some r))) => Nat.beq r (ord 218)
  | 4, .inr (.inr (some (some r))) => Nat.beq r (ord 239)
  | 5, .inr (.inr (some (some r))) => Nat.beq r (ord 253)
  | _, _ => false
def chkC (j : Nat) : Bool := decide ((gat gD (ord j)).1 = shp j) && Nat.blt (ord j) NC && (bif Nat.blt (shp j).1 10 then decide ((gat gD (ord j)).2.1.length = (shp j).2) && (List.range (shp j).2).all (fun k => chkF j (shp j).1 k) else (bif Nat.blt (shp j).1 14 then true else (List.range (shp j).2).all (fun k => match (gat gD (ord j)).2.1.getD k vN with
  | .inr (.inr (some (some r))) => Nat.beq r (ord (cref j k)) && Nat.blt (cref j k) NC
  | _ => false)))
set_option maxRecDepth 100000 in
theorem chk_all : ∀ j, j < NC → chkC j = true := by decide +kernel
theorem ord_eq (j : Nat) : ord j = if j < 34 then 245 + j else j - 34 := by
  unfold ord
  by_cases h : j < 34
  · rw [if_pos h, show Nat.blt j 34 = true from Nat.ble_eq_true_of_le h]
    rfl
  · rw [if_neg h]
    cases hb : Nat.blt j 34 with
    | false => rfl
    | true => exact absurd (Nat.le_of_ble_eq_true hb) h
theorem ord_inj : ∀ i j, i < NC → j < NC → ord i = ord j → i = j := by
  intro i j hi hj h
  have e1 : i < 279 := hi
  have e2 : j < 279 := hj
  rw [ord_eq, ord_eq] at h
  split at h <;> split at h <;> omega
theorem arrV_congr {cI : ClassId} {N : Nat} {f g : Nat → Value} (h : ∀ k, k < N → f k = g k) : arrV cI N f = arrV cI N g := by
  unfold arrV
  congr 1
  apply Array.ext
  · simp
  · intro i h1 h2
    simp at h1
    simp [h i h1]
theorem world0 {D : va_G} {cA : Nat → ClassId} {ad : Nat → Nat} {sz : Nat} {H : Heap} (had : ∀ j, j < NC → ad j = sz + ord j) (hP : va_P D vwCl (gw sz cA gD) H) : va_P D vwCl (cw ad cA w0) H := by
  intro k q hq
  obtain ⟨hk, rfl⟩ := cw_inv hq
  have hc := chk_all k hk
  unfold chkC at hc
  obtain ⟨hc12, hc3⟩ := Bool.and_eq_true_iff.mp hc
  obtain ⟨hc1, hc2⟩ := Bool.and_eq_true_iff.mp hc12
  have hsh : (gat gD (ord k)).1 = shp k := of_decide_eq_true hc1
  have hol : ord k < gD.length := by rw [g_lens.2.2.1]; exact Nat.le_of_ble_eq_true hc2
  obtain ⟨c, hcg⟩ : ∃ c, gD[ord k]? = some c := ⟨gD[ord k], List.getElem?_eq_getElem hol⟩
  have hgat : gat gD (ord k) = c := by unfold gat; rw [hcg]; rfl
  have hat := hP (ord k) _ (gw_get hcg)
  rw [had k hk]
  obtain ⟨t, n, hs⟩ : ∃ t n, shp k = (t, n) := ⟨_, _, rfl⟩
  rw [hgat] at hsh
  rw [hs] at hc3 hsh
  have ht : c.1.1 = t := by rw [hsh]
  have hn : c.1.2 = n := by rw [hsh]
  by_cases h10 : t < 10
  · have hb : Nat.blt t 10 = true := Nat.ble_eq_true_of_le h10
    dsimp only at hc3
    rw [hb] at hc3
    dsimp only [cond] at hc3
    obtain ⟨hl1, hl2⟩ := Bool.and_eq_true_iff.mp hc3
    have hlen : c.2.1.length = n := by have := of_decide_eq_true hl1; rwa [hgat] at this
    have hge : gelt sz cA c = .inr (t, c.2.1.map (cv (adz sz))) := by
      unfold gelt
      rw [if_pos (by rw [ht]; exact h10), ht]
    rw [hge] at hat
    rw [elt_obj hs h10]
    have hlist : (List.range n).map (fun i => cv ad (fv w0 k t i)) = c.2.1.map (cv (adz sz)) := by
      apply List.ext_getElem?
      intro i
      by_cases hi : i < n
      · have hchk := List.all_eq_true.mp hl2 i (List.mem_range.mpr hi)
        unfold chkF at hchk
        rw [hgat] at hchk
        obtain ⟨v, hv⟩ : ∃ v, c.2.1[i]? = some v := ⟨c.2.1[i]'(by omega), List.getElem?_eq_getElem (by omega)⟩
        have hgd : c.2.1.getD i vN = v := by rw [List.getD_eq_getElem?_getD, hv]; rfl
        rw [hgd] at hchk
        rw [List.getElem?_map, List.getElem?_range hi, List.getElem?_map, hv]
        simp only [Option.map_some]
        refine congrArg some ?_
        have hI : w0.1 k i = (match v with | .inl x => x | _ => 0) := by
          show I0 k i = _
          unfold I0
          rw [hgat, ht, hb, hgd]
          rfl
        have hL : w0.2.1 k i = (match v with | .inr (.inl x) => x | _ => 0) := by
          show L0 k i = _
          unfold L0
          rw [hgat, ht, hb, hgd]
          rfl
        unfold fv
        generalize fty t i = ft at hchk ⊢
        rcases v with x | x | _ | _ | x
        · rcases ft with _ | _ | _ | _ | _ | _ | ft <;> first | (cases hchk; done) | skip
          rw [show w0.1 k i = x from hI]
          rfl
        · rcases ft with _ | _ | _ | _ | _ | _ | ft <;> first | (cases hchk; done) | skip
          rw [show w0.2.1 k i = x from hL]
          rfl
        · rcases ft with _ | _ | _ | _ | _ | _ | ft <;> cases hchk
        · rcases ft with _ | _ | _ | _ | _ | _ | ft <;> cases hchk
        · rcases ft with _ | _ | _ | _ | _ | _ | ft <;> first | (cases hchk; done) | skip
          · obtain ⟨q1, q2⟩ := Bool.and_eq_true_iff.mp hchk
            show Value.ref (ad (cref k i)) = Value.ref (sz + x)
            rw [had _ (Nat.le_of_ble_eq_true q2), Nat.eq_of_beq_eq_true q1]
          · show Value.ref (ad 218) = Value.ref (sz + x)
            rw [had _ (by decide), Nat.eq_of_beq_eq_true hchk]
          · show Value.ref (ad 239) = Value.ref (sz + x)
            rw [had _ (by decide), Nat.eq_of_beq_eq_true hchk]
          · show Value.ref (ad 253) = Value.ref (sz + x)
            rw [had _ (by decide), Nat.eq_of_beq_eq_true hchk]
      · rw [List.getElem?_eq_none (by simp; omega), List.getElem?_eq_none (by simp; omega)]
    rw [hlist]
    exact hat
  · have hbl : Nat.blt t 10 = false := by
      cases hb : Nat.blt t 10 with
      | false => rfl
      | true => exact absurd (Nat.le_of_ble_eq_true hb) h10
    have hI : ∀ i, w0.1 k i = c.2.2 i := by
      intro i
      show I0 k i = _
      unfold I0
      rw [hgat, ht, hbl]
      rfl
    have hL : ∀ i, w0.2.1 k i = c.2.2 i := by
      intro i
      show L0 k i = _
      unfold L0
      rw [hgat, ht, hbl]
      rfl
    by_cases h13 : t < 13
    · have hge : gelt sz cA c = .inl (cA t, n, .inl (fun i => Int32.ofInt (c.2.2 i))) := by
        unfold gelt
        rw [if_neg (by rw [ht]; exact h10), if_pos (by rw [ht]; exact h13), ht, hn]
      rw [hge] at hat
      rw [elt_ia hs (by omega) h13]
      have : (fun i => Int32.ofInt (w0.1 k i)) = (fun i => Int32.ofInt (c.2.2 i)) := by funext i; rw [hI i]
      rw [this]
      exact hat
    · by_cases h14 : t = 13
      · subst h14
        have hge : gelt sz cA c = .inl (cA 13, n, .inr (.inl (fun i => Int64.ofInt (c.2.2 i)))) := by
          unfold gelt
          rw [if_neg (by rw [ht]; decide), if_neg (by rw [ht]; decide), if_pos ht, hn]
        rw [hge] at hat
        rw [elt_la hs]
        have : (fun i => Int64.ofInt (w0.2.1 k i)) = (fun i => Int64.ofInt (c.2.2 i)) := by funext i; rw [hL i]
        rw [this]
        exact hat
      · have hge : gelt sz cA c = .inl (cA t, n, .inr (.inr (.inr (.inr (fun i => (gref (c.2.1.getD i vN)).map (adz sz)))))) := by
          unfold gelt
          rw [if_neg (by rw [ht]; exact h10), if_neg (by rw [ht]; exact h13), if_neg (by rw [ht]; exact h14), ht, hn]
        rw [hge] at hat
        rw [elt_ra hs (by omega)]
        have hb14 : Nat.blt t 14 = false := by
          cases hb : Nat.blt t 14 with
          | false => rfl
          | true =>
            have : t < 14 := Nat.le_of_ble_eq_true hb
            omega
        dsimp only at hc3
        rw [hbl] at hc3
        dsimp only [cond] at hc3
        rw [hb14] at hc3
        dsimp only at hc3
        have hat2 : H[sz + ord k]? = some (arrV (cA t) n (fun i => va_rf ((gref (c.2.1.getD i vN)).map (adz sz)))) := hat
        show H[sz + ord k]? = some (arrV (cA t) n (fun i => va_rf (some (ad (cref k i)))))
        rw [hat2]
        refine congrArg some (arrV_congr (fun i hi => ?_))
        have hchk := List.all_eq_true.mp hc3 i (List.mem_range.mpr hi)
        rw [hgat] at hchk
        generalize c.2.1.getD i vN = v at hchk ⊢
        rcases v with x | x | _ | _ | x <;> first | (cases hchk; done) | skip
        obtain ⟨q1, q2⟩ := Bool.and_eq_true_iff.mp hchk
        show va_rf (some (sz + x)) = va_rf (some (ad (cref k i)))
        rw [had _ (Nat.le_of_ble_eq_true q2), Nat.eq_of_beq_eq_true q1]
