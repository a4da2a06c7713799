/-! WHAT THE STATEMENT GIVES OF THE START: static rows and words -/
def fl1 : List Cond := flatC (Jvm.Cond.and given_1 narrow_1)
abbrev tStat (e : Nat) : Term := .static "LastWalker$Reader" (xname e) "[I"
abbrev tStr (i : Nat) : Term := .string "LastWalker$Reader" (strIdx i)
abbrev tVal (i : Nat) : Term := .field (tStr i) "java/lang/String" "value" "[B"
set_option maxRecDepth 20000 in
theorem f_st : ∀ e, e < 3 → Cond.arrayOf (tStat e) .int ∈ fl1 ∧ Cond.eq (.length (tStat e)) (.int (Int32.ofNat (xlen e))) ∈ fl1 ∧ xlen e < 60 ∧ ∀ j, j < xlen e → Cond.eq (.elem (tStat e) (.int (Int32.ofNat j))) (.int (Int32.ofInt (xval e j))) ∈ fl1 := by decide +kernel
set_option maxRecDepth 20000 in
theorem f_sl : ∀ e, e < 3 → Cond.laysStatic "LastWalker$Reader" (xname e) "[I" ∈ lw_tbl := by decide +kernel
set_option maxRecDepth 20000 in
theorem f_str : ∀ i, i < 14 → Cond.exactly (tStr i) "java/lang/String" ∈ fl1 ∧ Cond.eq (.field (tStr i) "java/lang/String" "coder" "B") (.int 0) ∈ fl1 ∧ Cond.arrayOf (tVal i) .byte ∈ fl1 ∧ Cond.eq (.length (tVal i)) (.int (Int32.ofNat (strLen.getD i 0))) ∈ fl1 ∧ strLen.getD i 0 < 10 ∧ ∀ j, j < strLen.getD i 0 → Cond.eq (.elem (tVal i) (.int (Int32.ofNat j))) (.int ((strByt.getD i []).getD j 0)) ∈ fl1 := by decide +kernel
set_option maxRecDepth 20000 in
theorem f_ne : ∀ i, i < 14 → ∀ j, j < 14 → i ≠ j → (Cond.not (Cond.eq (tStr i) (tStr j)) ∈ fl1 ∨ Cond.not (Cond.eq (tStr j) (tStr i)) ∈ fl1) := by decide +kernel
set_option maxRecDepth 20000 in
theorem f_sr : ∀ i, i < 14 → Cond.stringRef "LastWalker$Reader" (strIdx i) (strTxt i) ∈ lw_tbl := by decide +kernel
set_option maxRecDepth 20000 in
theorem f_cs : Cond.eq (.static "java/lang/String" "COMPACT_STRINGS" "Z") (.int 1) ∈ fl1 ∧ Cond.isRef (.static "jdk/internal/util/Preconditions" "SIOOBE_FORMATTER" "Ljava/util/function/BiFunction;") ∈ fl1 := by decide +kernel
set_option maxRecDepth 20000 in
theorem f_ls : Cond.laysStatic "java/lang/String" "COMPACT_STRINGS" "Z" ∈ lw_tbl ∧ Cond.laysStatic "jdk/internal/util/Preconditions" "SIOOBE_FORMATTER" "Ljava/util/function/BiFunction;" ∈ lw_tbl ∧ Cond.initialized "java/lang/String" ∈ lw_tbl ∧ Cond.initialized "jdk/internal/util/Preconditions" ∈ lw_tbl ∧ Cond.initialized "LastWalker$Reader" ∈ lw_tbl := by decide +kernel
theorem ext_of {args : Array Value} {s : State} {A : Nat → Prop} (hgv : (Jvm.Cond.and given_1 narrow_1).before args s = true) (hts : ∀ w ∈ lw_tbl, w.before args s = true) (hA : ∀ a : Nat, a < s.heap.size → ¬ A a) :
    ∃ (tS adK adV : Nat → Nat) (fm : Nat), ∀ ad : Nat → Nat, (∀ e, e < 3 → ad (300 + e) = tS e) → (∀ i, i < 14 → ad (310 + i) = adK i) → (∀ i, i < 14 → ad (330 + i) = adV i) → ad 399 = fm → EXT ad A s s.heap := by
  have hf := flat_of_before _ hgv
  have hst : ∀ e : Nat, ∃ t : Nat, e < 3 → va_Z "LastWalker$Reader" (xname e) "[I" (.ref t) A s s.heap ∧ va_T .int t (xlen e) (fun k => .int (Int32.ofInt (xval e k))) A s s.heap := by
    intro e
    by_cases he : e < 3
    · obtain ⟨h1, h2, h3, h4⟩ := f_st e he
      obtain ⟨t, ht, hT⟩ := va_Tof (tm := tStat e) (N := xlen e) (f := fun k => .int (Int32.ofInt (xval e k))) (A := A) (by omega) (hf _ h1) (va_eqt (hf _ h2)) (fun j hj => va_eqt (hf _ (h4 j hj))) hA
      exact ⟨t, fun _ => ⟨va_Zref (hts _ (f_sl e he)) (hts _ f_ls.2.2.2.2) ht hA, hT⟩⟩
    · exact ⟨0, fun h => absurd h he⟩
  obtain ⟨tS, htS⟩ := Classical.axiomOfChoice hst
  obtain ⟨adK, adV, hS, hev⟩ := vk_Sof (args := args) (s := s) (N := 14) (tm := tStr) (len := strLen) (byt := strByt) (A := A) (fun i hi => by have := (f_str i hi).2.2.2.2.1; omega) (fun i hi => hf _ (f_str i hi).1) (fun i hi => hf _ (f_str i hi).2.1) (fun i hi => hf _ (f_str i hi).2.2.1) (fun i hi => hf _ (f_str i hi).2.2.2.1) (fun i hi j hj => hf _ ((f_str i hi).2.2.2.2.2 j hj)) (fun i j hi hj hij => (f_ne i hi j hj hij).imp (hf _) (hf _)) hA
  have hcs := va_Zof (hts _ f_ls.1) (hts _ f_ls.2.2.1) (va_eqi (hf _ f_cs.1)) hA
  have hfm : ∃ fm : Nat, va_Z "jdk/internal/util/Preconditions" "SIOOBE_FORMATTER" "Ljava/util/function/BiFunction;" .null A s s.heap ∨ va_Z "jdk/internal/util/Preconditions" "SIOOBE_FORMATTER" "Ljava/util/function/BiFunction;" (.ref fm) A s s.heap := by
    rcases va_Zqof (hts _ f_ls.2.1) (hts _ f_ls.2.2.2.1) (hf _ f_cs.2) hA with h | ⟨t, h⟩
    · exact ⟨0, Or.inl h⟩
    · exact ⟨t, Or.inr h⟩
  obtain ⟨fm, hfm⟩ := hfm
  refine ⟨tS, adK, adV, fm, fun ad a1 a2 a3 a4 => ⟨fun e he => ?_, ⟨fun i hi => ?_, fun i j hi hj hij => ?_⟩, fun i hi => ?_, hcs, ?_⟩⟩
  · rw [a1 e he]
    exact htS e he
  · show va_O "java/lang/String" (ad (310 + i)) A s s.heap ∧ va_OF "java/lang/String" "coder" "B" (.int 0) (ad (310 + i)) A s s.heap ∧ va_OF "java/lang/String" "value" "[B" (.ref (ad (330 + i))) (ad (310 + i)) A s s.heap ∧ va_T .byte (ad (330 + i)) (strLen.getD i 0) (fun j => .int ((strByt.getD i []).getD j 0)) A s s.heap
    rw [a2 i hi, a3 i hi]
    exact hS.1 i hi
  · have h2 : ad (310 + i) = ad (310 + j) := hij
    rw [a2 i hi, a2 j hj] at h2
    exact hS.2 i j hi hj h2
  · rw [a2 i hi]
    exact vk_R.of (hts _ (f_sr i hi)) (hev i hi)
  · rw [a4]
    exact hfm
/-! THE FIRST WORLD -/
def gA : AG := [gnew 8]
def gB : AG := (g_X8_init [vR 0] gA).getD []
def gC : AG := gB ++ [gnew 9]
def gD : AG := (g_X9_init [vR gB.length] gC).getD []
theorem opt_getD {α : Type} {o : Option α} (d : α) (h : o.isSome = true) : o = some (o.getD d) := by
  cases o with
  | none => cases h
  | some x => rfl
set_option maxRecDepth 100000 in
theorem gB_ok : g_X8_init [vR 0] gA = some gB := opt_getD [] (by decide +kernel)
set_option maxRecDepth 100000 in
theorem gD_ok : g_X9_init [vR gB.length] gC = some gD := opt_getD [] (by decide +kernel)
set_option maxRecDepth 100000 in
theorem g_lens : gB.length = 245 ∧ gC.length = 245 + 1 ∧ gD.length = NC ∧ gsl gD ≤ 100000 := by decide +kernel
/-- the order of making -/
def ord (j : Nat) : Nat := bif Nat.blt j 34 then 245 + j else j - 34
def I0 (j k : Nat) : Int := bif Nat.blt (gat gD (ord j)).1.1 10 then (match (gat gD (ord j)).2.1.getD k vN with
  | .inl x => x
  | _ => 0) else (gat gD (ord j)).2.2 k
def L0 (j k : Nat) : Int := bif Nat.blt (gat gD (ord j)).1.1 10 then (match (gat gD (ord j)).2.1.getD k vN with
  | .inr (.inl x) => x
  | _ => 0) else (gat gD (ord j)).2.2 k
def w0 : AW := (I0, L0, 218, 239, 253)
/-- a field of the first world is as its cell has it -/
def chkF (j ci k : Nat) : Bool := match fty ci k, (gat gD (ord j)).2.1.getD k vN with
  | 0, .inl _ => true
  | 1, .inr (.inl _) => true
  | 2, .inr (.inr (some (some r))) => Nat.beq r (ord (cref j k)) && Nat.blt (cref j k) NC
  | 3, .inr (.inr (some (some r))) => Nat.beq r (ord 218)
  | 4, .inr (.inr (some (some r))) => Nat.beq r (ord 239)
  | 5, .inr (.inr (some (some r))) => Nat.beq r (ord 253)
  | _, _ => false
def chkC (j : Nat) : Bool := decide ((gat gD (ord j)).1 = shp j) && Nat.blt (ord j) NC && (bif Nat.blt (shp j).1 10 then decide ((gat gD (ord j)).2.1.length = (shp j).2) && (List.range (shp j).2).all (fun k => chkF j (shp j).1 k) else (bif Nat.blt (shp j).1 14 then true else (List.range (shp j).2).all (fun k => match (gat gD (ord j)).2.1.getD k vN with
  | .inr (.inr (some (some r))) => Nat.beq r (ord (cref j k)) && Nat.blt (cref j k) NC
  | _ => false)))
set_option maxRecDepth 100000 in
theorem chk_all : ∀ j, j < NC → chkC j = true := by decide +kernel
theorem ord_inj : ∀ i j, i < NC → j < NC → ord i = ord j → i = j := by
  intro i j hi hj h
  unfold ord at h
  cases h1 : Nat.blt i 34 <;> cases h2 : Nat.blt j 34 <;> rw [h1, h2] at h
  all_goals (try have a1 : i < 34 := Nat.le_of_ble_eq_true h1)
  all_goals (try have a2 : j < 34 := Nat.le_of_ble_eq_true h2)
  all_goals (try have b1 : ¬ i < 34 := fun q => by have := Nat.ble_eq_true_of_le q; rw [show Nat.blt i 34 = Nat.ble (i + 1) 34 from rfl] at h1; rw [this] at h1; cases h1)
  all_goals (try have b2 : ¬ j < 34 := fun q => by have := Nat.ble_eq_true_of_le q; rw [show Nat.blt j 34 = Nat.ble (j + 1) 34 from rfl] at h2; rw [this] at h2; cases h2)
  all_goals (dsimp only [cond] at h)
  all_goals (have e1 : i < 279 := hi)
  all_goals (have e2 : j < 279 := hj)
  all_goals omega
theorem arrV_congr {cI : ClassId} {N : Nat} {f g : Nat → Value} (h : ∀ k, k < N → f k = g k) : arrV cI N f = arrV cI N g := by
  unfold arrV
  congr 1
  apply Array.ext
  · simp
  · intro i h1 h2
    simp at h1
    simp [h i h1]
theorem world0 {D : va_G} {cA : Nat → ClassId} {ad : Nat → Nat} {sz : Nat} {H : Heap} (had : ∀ j, j < NC → ad j = sz + ord j) (hP : va_P D vwCl (gw sz cA gD) H) : va_P D vwCl (cw ad cA w0) H := by
  intro k q hq
  obtain ⟨hk, rfl⟩ := cw_inv hq
  have hc := chk_all k hk
  unfold chkC at hc
  obtain ⟨hc12, hc3⟩ := Bool.and_eq_true_iff.mp hc
  obtain ⟨hc1, hc2⟩ := Bool.and_eq_true_iff.mp hc12
  have hsh : (gat gD (ord k)).1 = shp k := of_decide_eq_true hc1
  have hol : ord k < gD.length := by rw [g_lens.2.2.1]; exact Nat.le_of_ble_eq_true hc2
  obtain ⟨c, hcg⟩ : ∃ c, gD[ord k]? = some c := ⟨gD[ord k], List.getElem?_eq_getElem hol⟩
  have hgat : gat gD (ord k) = c := by unfold gat; rw [hcg]; rfl
  have hat := hP (ord k) _ (gw_get hcg)
  rw [had k hk]
  obtain ⟨t, n, hs⟩ : ∃ t n, shp k = (t, n) := ⟨_, _, rfl⟩
  rw [hgat] at hsh
  rw [hs] at hc3 hsh
  have ht : c.1.1 = t := by rw [hsh]
  have hn : c.1.2 = n := by rw [hsh]
  by_cases h10 : t < 10
  · have hb : Nat.blt t 10 = true := Nat.ble_eq_true_of_le h10
    dsimp only at hc3
    rw [hb] at hc3
    dsimp only [cond] at hc3
    obtain ⟨hl1, hl2⟩ := Bool.and_eq_true_iff.mp hc3
    have hlen : c.2.1.length = n := by have := of_decide_eq_true hl1; rwa [hgat] at this
    have hge : gelt sz cA c = .inr (t, c.2.1.map (cv (adz sz))) := by
      unfold gelt
      rw [if_pos (by rw [ht]; exact h10), ht]
    rw [hge] at hat
    rw [elt_obj hs h10]
    have hlist : (List.range n).map (fun i => cv ad (fv w0 k t i)) = c.2.1.map (cv (adz sz)) := by
      apply List.ext_getElem?
      intro i
      by_cases hi : i < n
      · have hchk := List.all_eq_true.mp hl2 i (List.mem_range.mpr hi)
        unfold chkF at hchk
        rw [hgat] at hchk
        obtain ⟨v, hv⟩ : ∃ v, c.2.1[i]? = some v := ⟨c.2.1[i]'(by omega), List.getElem?_eq_getElem (by omega)⟩
        have hgd : c.2.1.getD i vN = v := by rw [List.getD_eq_getElem?_getD, hv]; rfl
        rw [hgd] at hchk
        rw [List.getElem?_map, List.getElem?_range hi, List.getElem?_map, hv]
        simp only [Option.map_some]
        refine congrArg some ?_
        have hI : w0.1 k i = (match v with | .inl x => x | _ => 0) := by
          show I0 k i = _
          unfold I0
          rw [hgat, ht, hb, hgd]
          rfl
        have hL : w0.2.1 k i = (match v with | .inr (.inl x) => x | _ => 0) := by
          show L0 k i = _
          unfold L0
          rw [hgat, ht, hb, hgd]
          rfl
        unfold fv
        generalize fty t i = ft at hchk ⊢
        rcases v with x | x | _ | _ | x
        · rcases ft with _ | _ | _ | _ | _ | _ | ft <;> first | (cases hchk; done) | skip
          rw [show w0.1 k i = x from hI]
          rfl
        · rcases ft with _ | _ | _ | _ | _ | _ | ft <;> first | (cases hchk; done) | skip
          rw [show w0.2.1 k i = x from hL]
          rfl
        · rcases ft with _ | _ | _ | _ | _ | _ | ft <;> cases hchk
        · rcases ft with _ | _ | _ | _ | _ | _ | ft <;> cases hchk
        · rcases ft with _ | _ | _ | _ | _ | _ | ft <;> first | (cases hchk; done) | skip
          · obtain ⟨q1, q2⟩ := Bool.and_eq_true_iff.mp hchk
            show Value.ref (ad (cref k i)) = Value.ref (sz + x)
            rw [had _ (Nat.le_of_ble_eq_true q2), Nat.eq_of_beq_eq_true q1]
          · show Value.ref (ad 218) = Value.ref (sz + x)
            rw [had _ (by decide), Nat.eq_of_beq_eq_true hchk]
          · show Value.ref (ad 239) = Value.ref (sz + x)
            rw [had _ (by decide), Nat.eq_of_beq_eq_true hchk]
          · show Value.ref (ad 253) = Value.ref (sz + x)
            rw [had _ (by decide), Nat.eq_of_beq_eq_true hchk]
      · rw [List.getElem?_eq_none (by simp; omega), List.getElem?_eq_none (by simp; omega)]
    rw [hlist]
    exact hat
  · have hbl : Nat.blt t 10 = false := by
      cases hb : Nat.blt t 10 with
      | false => rfl
      | true => exact absurd (Nat.le_of_ble_eq_true hb) h10
    have hI : ∀ i, w0.1 k i = c.2.2 i := by
      intro i
      show I0 k i = _
      unfold I0
      rw [hgat, ht, hbl]
      rfl
    have hL : ∀ i, w0.2.1 k i = c.2.2 i := by
      intro i
      show L0 k i = _
      unfold L0
      rw [hgat, ht, hbl]
      rfl
    by_cases h13 : t < 13
    · have hge : gelt sz cA c = .inl (cA t, n, .inl (fun i => Int32.ofInt (c.2.2 i))) := by
        unfold gelt
        rw [if_neg (by rw [ht]; exact h10), if_pos (by rw [ht]; exact h13), ht, hn]
      rw [hge] at hat
      rw [elt_ia hs (by omega) h13]
      have : (fun i => Int32.ofInt (w0.1 k i)) = (fun i => Int32.ofInt (c.2.2 i)) := by funext i; rw [hI i]
      rw [this]
      exact hat
    · by_cases h14 : t = 13
      · subst h14
        have hge : gelt sz cA c = .inl (cA 13, n, .inr (.inl (fun i => Int64.ofInt (c.2.2 i)))) := by
          unfold gelt
          rw [if_neg (by rw [ht]; decide), if_neg (by rw [ht]; decide), if_pos ht, hn]
        rw [hge] at hat
        rw [elt_la hs]
        have : (fun i => Int64.ofInt (w0.2.1 k i)) = (fun i => Int64.ofInt (c.2.2 i)) := by funext i; rw [hL i]
        rw [this]
        exact hat
      · have hge : gelt sz cA c = .inl (cA t, n, .inr (.inr (.inr (.inr (fun i => (gref (c.2.1.getD i vN)).map (adz sz)))))) := by
          unfold gelt
          rw [if_neg (by rw [ht]; exact h10), if_neg (by rw [ht]; exact h13), if_neg (by rw [ht]; exact h14), ht, hn]
        rw [hge] at hat
        rw [elt_ra hs (by omega)]
        have hb14 : Nat.blt t 14 = false := by
          cases hb : Nat.blt t 14 with
          | false => rfl
          | true =>
            have : t < 14 := Nat.le_of_ble_eq_true hb
            omega
        dsimp only at hc3
        rw [hbl] at hc3
        dsimp only [cond] at hc3
        rw [hb14] at hc3
        dsimp only at hc3
        have hat2 : H[sz + ord k]? = some (arrV (cA t) n (fun i => va_rf ((gref (c.2.1.getD i vN)).map (adz sz)))) := hat
        show H[sz + ord k]? = some (arrV (cA t) n (fun i => va_rf (some (ad (cref k i)))))
        rw [hat2]
        refine congrArg some (arrV_congr (fun i hi => ?_))
        have hchk := List.all_eq_true.mp hc3 i (List.mem_range.mpr hi)
        rw [hgat] at hchk
        generalize c.2.1.getD i vN = v at hchk ⊢
        rcases v with x | x | _ | _ | x <;> first | (cases hchk; done) | skip
        obtain ⟨q1, q2⟩ := Bool.and_eq_true_iff.mp hchk
        show va_rf (some (sz + x)) = va_rf (some (ad (cref k i)))
        rw [had _ (Nat.le_of_ble_eq_true q2), Nat.eq_of_beq_eq_true q1]
