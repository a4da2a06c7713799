/-! mutable references, statics, words, copies, calls -/
def setR (m x : Nat) (w : AW) : AW := match m with
  | 3 => (w.1, w.2.1, x, w.2.2.2)
  | 4 => (w.1, w.2.1, w.2.2.1, x, w.2.2.2.2)
  | _ => (w.1, w.2.1, w.2.2.1, w.2.2.2.1, x)
theorem elt_fv_congr {ad : Nat → Nat} {cA : Nat → ClassId} {w w' : AW} {i : Nat} (h1 : w'.1 = w.1) (h2 : w'.2.1 = w.2.1) (h : (shp i).1 < 10 → ∀ k, k < (shp i).2 → fv w' i (shp i).1 k = fv w i (shp i).1 k) : elt ad cA w' i = elt ad cA w i := by
  obtain ⟨c, n, hs⟩ : ∃ c n, shp i = (c, n) := ⟨_, _, rfl⟩
  by_cases hc : c < 10
  · rw [elt_obj hs hc, elt_obj hs hc]
    rw [hs] at h
    refine congrArg (fun q => (Sum.inr (c, q) : va_E)) ?_
    refine List.map_congr_left (fun k hk => ?_)
    rw [h hc k (List.mem_range.mp hk)]
  · unfold elt
    rw [hs]
    simp only [hc, if_false, h1, h2]
theorem map_set_rangeB {α : Type} (f g : Nat → α) (n k : Nat) (h : ∀ i, i < n → i ≠ k → g i = f i) : ((List.range n).map f).set k (g k) = (List.range n).map g := by
  apply List.ext_getElem?
  intro i
  rw [List.getElem?_set]
  by_cases e : k = i
  · subst e
    by_cases hl : k < n <;> simp [hl]
  · rw [if_neg e]
    by_cases hl : i < n
    · simp [hl, h i hl (Ne.symm e)]
    · simp [hl]
theorem fv_setR {w : AW} {mr x i ci k : Nat} (hm : mr = 3 ∨ mr = 4 ∨ mr = 5) (h : fty ci k ≠ mr) (h6 : fty ci k < 6) : fv (setR mr x w) i ci k = fv w i ci k := by
  unfold fv
  generalize fty ci k = t at h h6 ⊢
  rcases hm with rfl | rfl | rfl <;> (rcases t with _ | _ | _ | _ | _ | _ | t <;> first | rfl | exact absurd rfl h | omega)
theorem fv_setR_same {w : AW} {mr x i ci k : Nat} (hm : mr = 3 ∨ mr = 4 ∨ mr = 5) (h : fty ci k = mr) : fv (setR mr x w) i ci k = vR x := by
  unfold fv
  rcases hm with rfl | rfl | rfl <;> rw [h] <;> rfl
abbrev ak_putr (mr ci f : Nat) (k : AK) : AK := fun lo st w => match st with
  | .inr (.inr (some (some x))) :: .inr (.inr (some (some j))) :: r => bif isO j ci then k lo r (setR mr x w) else none
  | _ => none
theorem fty_six : ∀ c, c < 10 → ∀ k, k < 64 → fty c k < 6 := by decide +kernel
theorem clN_le : ∀ c, c < 10 → clN c ≤ 64 := by decide +kernel
theorem snd_putr {Ξ : XT} {own : String} {cc : ByteArray} {nL d pc : Nat}  {C : String} {T : u_T} {N ci f ix mr : Nat} {ty : Nat → FieldType} {k : AK} (hc : Cls ci C T N ty) (hf : f < N) (hm : mr = 3 ∨ mr = 4 ∨ mr = 5) (hft : fty ci f = mr) (hty : (∃ z, ty f = .object z) ∨ ∃ z, ty f = .array z) (hfin : (T f).2.2.2 = false) (hun : ∀ c, c < 10 → ∀ k, k < 64 → fty c k = mr → c = ci ∧ k = f) (hone : ∀ i, i < NC → ∀ j, j < NC → (shp i).1 = ci → (shp j).1 = ci → i = j) (hlk : Cond.fieldLink own ix (T f).1 (T f).2.1 (T f).2.2.1 ∈ lw_gw) (hd : decode cc pc = .ok (.putfield ix, 3)) (hk : Snd Ξ own cc nL d (pc + 3) k) : Snd Ξ own cc nL d pc (ak_putr mr ci f k) := by
  intro p l e R s m args below meth c D cA ad A cells slots Q C Z H locs ls lo st w o hrun hl hP hS hr
  have C0 := C
  obtain ⟨⟨hx, hb, hml, hown, hts⟩, hK, hi, hAd, hA, hE, hfr, hlo, hce, hsl⟩ := C0
  unfold ak_putr at hrun
  split at hrun
  · rename_i x j r
    cases hq : isO j ci with
    | false => rw [hq] at hrun; cases hrun
    | true =>
      rw [hq] at hrun
      dsimp only [cond] at hrun
      obtain ⟨c1, c2, c3, c4, c5, c6⟩ := hc
      obtain ⟨h1, h2⟩ := isO_shp hq c3
      rw [c2] at h2
      have hN : N ≤ 64 := by rw [← c2]; exact clN_le ci c3
      have he := cw_get (ad := ad) (cA := cA) (w := w) h1
      rw [elt_obj h2 c3] at he
      have hnf : narrow (ty f) (.ref (ad x)) = .ref (ad x) ∧ fits (ty f) (.ref (ad x)) = true := by
        rcases hty with ⟨z, hz⟩ | ⟨z, hz⟩ <;> rw [hz] <;> exact ⟨rfl, rfl⟩
      refine va_put (v := .ref (ad x)) (ty := ty f) hx hb hts c4 ty c5 c6 hown hK hP (cw_Cx C) hS j he c1 f hf (hts _ hlk) (fun _ h9 => h9) hfin (c5 f hf) hnf.1 hnf.2 (by simp [hf]) hd (fun H1 locs1 hP1 _ hS1 => ?_)
      have e1 : (setR mr x w).1 = w.1 := by rcases hm with rfl | rfl | rfl <;> rfl
      have e2 : (setR mr x w).2.1 = w.2.1 := by rcases hm with rfl | rfl | rfl <;> rfl
      have ej : elt ad cA (setR mr x w) j = .inr (ci, ((List.range N).map (fun k => cv ad (fv w j ci k))).set f (.ref (ad x))) := by
        rw [elt_obj h2 c3]
        refine congrArg (fun q => (Sum.inr (ci, q) : va_E)) ?_
        have e3 : (.ref (ad x) : Value) = (fun i => cv ad (fv (setR mr x w) j ci i)) f := by
          show _ = cv ad (fv (setR mr x w) j ci f)
          rw [fv_setR_same hm hft]
          rfl
        rw [e3]
        refine (map_set_rangeB (fun i => cv ad (fv w j ci i)) _ N f (fun i hi hne => ?_)).symm
        show cv ad (fv (setR mr x w) j ci i) = cv ad (fv w j ci i)
        rw [fv_setR hm (fun q => hne (hun ci c3 i (by omega) q).2) (fty_six ci c3 i (by omega))]
      rw [cw_set (ad := ad) (cA := cA) (w := w) (w' := setR mr x w) (fun i hi hij => elt_fv_congr e1 e2 (fun hc9 k9 hk9 => by
        have hk64 : k9 < 64 := by
          have q1 := (shp_ok i hi).1 hc9
          have q2 := clN_le _ hc9
          omega
        refine fv_setR hm (fun q => ?_) (fty_six _ hc9 k9 hk64)
        have q3 := (hun _ hc9 k9 hk64 q).1
        exact hij (hone i hi j h1 q3 (by rw [h2])))) ej] at hP1
      exact hk p l e R s m args below meth c D cA ad A cells slots Q C Z H1 locs1 ls lo r (setR mr x w) o hrun hl hP1 hS1 hr
  · cases hrun
theorem snd_gets {Ξ : XT} {own : String} {cc : ByteArray} {nL d pc : Nat}  {e0 ix : Nat} {k : AK} (he0 : e0 < 3) (hlk : Cond.fieldLink own ix "LastWalker$Reader" (xname e0) "[I" ∈ lw_gw) (hd : decode cc pc = .ok (.getstatic ix, 3)) (hk : Snd Ξ own cc nL d (pc + 3) k) : Snd Ξ own cc nL d pc (ak_push (vR (300 + e0)) k) := by
  intro p l e R s m args below meth c D cA ad A cells slots Q C Z H locs ls lo st w o hrun hl hP hS hr
  have C0 := C
  obtain ⟨⟨hx, hb, hml, hown, hts⟩, hK, hi, hAd, hA, hE, hfr, hlo, hce, hsl⟩ := C0
  refine va_gets hx hb (hE.1 e0 he0).1 hS hown (hts _ hlk) (fun _ h9 => h9) hd ?_
  exact hk p l e R s m args below meth c D cA ad A cells slots Q C Z H locs ls lo (vR (300 + e0) :: st) w o hrun hl hP hS hr
theorem snd_getc {Ξ : XT} {own : String} {cc : ByteArray} {nL d pc : Nat}  {ix : Nat} {k : AK} (hlk : Cond.fieldLink own ix "java/lang/String" "COMPACT_STRINGS" "Z" ∈ lw_gw) (hd : decode cc pc = .ok (.getstatic ix, 3)) (hk : Snd Ξ own cc nL d (pc + 3) k) : Snd Ξ own cc nL d pc (ak_push (vI 1) k) := by
  intro p l e R s m args below meth c D cA ad A cells slots Q C Z H locs ls lo st w o hrun hl hP hS hr
  have C0 := C
  obtain ⟨⟨hx, hb, hml, hown, hts⟩, hK, hi, hAd, hA, hE, hfr, hlo, hce, hsl⟩ := C0
  refine va_gets hx hb hE.2.2.2.1 hS hown (hts _ hlk) (fun _ h9 => h9) hd ?_
  exact hk p l e R s m args below meth c D cA ad A cells slots Q C Z H locs ls lo (vI 1 :: st) w o hrun hl hP hS hr
theorem snd_ldcS {Ξ : XT} {cc : ByteArray} {nL d pc : Nat} {i ix : Nat} {k : AK} (hi0 : i < 14) (hix : strIdx i = ix) (hd : decode cc pc = .ok (.ldc ix, 2)) (hk : Snd Ξ "LastWalker$Reader" cc nL d (pc + 2) k) : Snd Ξ "LastWalker$Reader" cc nL d pc (ak_push (vR (310 + i)) k) := by
  intro p l e R s m args below meth c D cA ad A cells slots Q C Z H locs ls lo st w o hrun hl hP hS hr
  have C0 := C
  obtain ⟨⟨hx, hb, hml, hown, hts⟩, hK, hi, hAd, hA, hE, hfr, hlo, hce, hsl⟩ := C0
  subst hix
  refine va_ldcS hx hb hown (hE.2.2.1 i hi0) hd ?_
  exact hk p l e R s m args below meth c D cA ad A cells slots Q C Z H locs ls lo (vR (310 + i) :: st) w o hrun hl hP hS hr
abbrev isS (j : Nat) : Bool := Nat.blt 309 j && Nat.blt j 324
theorem isS_iff {j : Nat} (h : isS j = true) : ∃ q, q < 14 ∧ j = 310 + q := by
  obtain ⟨z1, z2⟩ := Bool.and_eq_true_iff.mp h
  have z3 : 309 < j := Nat.le_of_ble_eq_true z1
  have z4 : j < 324 := Nat.le_of_ble_eq_true z2
  exact ⟨j - 310, by omega, by omega⟩
abbrev ak_sval (k : AK) : AK := fun lo st w => match st with
  | .inr (.inr (some (some j))) :: r => bif isS j then k lo (vR (j + 20) :: r) w else none
  | _ => none
theorem snd_sval {Ξ : XT} {own : String} {cc : ByteArray} {nL d pc : Nat}  {ix : Nat} {k : AK} (hlk : Cond.fieldLink own ix "java/lang/String" "value" "[B" ∈ lw_gw) (hd : decode cc pc = .ok (.getfield ix, 3)) (hk : Snd Ξ own cc nL d (pc + 3) k) : Snd Ξ own cc nL d pc (ak_sval k) := by
  intro p l e R s m args below meth c D cA ad A cells slots Q C Z H locs ls lo st w o hrun hl hP hS hr
  have C0 := C
  obtain ⟨⟨hx, hb, hml, hown, hts⟩, hK, hi, hAd, hA, hE, hfr, hlo, hce, hsl⟩ := C0
  unfold ak_sval at hrun
  split at hrun
  · rename_i j r
    cases hq : isS j with
    | false => rw [hq] at hrun; cases hrun
    | true =>
      rw [hq] at hrun
      obtain ⟨q, hq2, rfl⟩ := isS_iff hq
      refine vk_getf hx hb (hE.2.1.1 q hq2).2.2.1 hS hown (hts _ hlk) (fun _ h9 => h9) hd ?_
      have e9 : 310 + q + 20 = 330 + q := by omega
      have key := hk p l e R s m args below meth c D cA ad A cells slots Q C Z H locs ls lo (vR (310 + q + 20) :: r) w o hrun hl hP hS hr
      rw [e9] at key
      exact key
  · cases hrun
abbrev ak_scod (k : AK) : AK := fun lo st w => match st with
  | .inr (.inr (some (some j))) :: r => bif isS j then k lo (vI 0 :: r) w else none
  | _ => none
theorem snd_scod {Ξ : XT} {own : String} {cc : ByteArray} {nL d pc : Nat}  {ix : Nat} {k : AK} (hlk : Cond.fieldLink own ix "java/lang/String" "coder" "B" ∈ lw_gw) (hd : decode cc pc = .ok (.getfield ix, 3)) (hk : Snd Ξ own cc nL d (pc + 3) k) : Snd Ξ own cc nL d pc (ak_scod k) := by
  intro p l e R s m args below meth c D cA ad A cells slots Q C Z H locs ls lo st w o hrun hl hP hS hr
  have C0 := C
  obtain ⟨⟨hx, hb, hml, hown, hts⟩, hK, hi, hAd, hA, hE, hfr, hlo, hce, hsl⟩ := C0
  unfold ak_scod at hrun
  split at hrun
  · rename_i j r
    cases hq : isS j with
    | false => rw [hq] at hrun; cases hrun
    | true =>
      rw [hq] at hrun
      obtain ⟨q, hq2, rfl⟩ := isS_iff hq
      refine vk_getf hx hb (hE.2.1.1 q hq2).2.1 hS hown (hts _ hlk) (fun _ h9 => h9) hd ?_
      exact hk p l e R s m args below meth c D cA ad A cells slots Q C Z H locs ls lo (vI 0 :: r) w o hrun hl hP hS hr
  · cases hrun
/-- a static that holds a reference or null: what follows must not ask which -/
abbrev ak_getq (k : AK) : AK := fun lo st w => k lo (vN :: st) w
theorem snd_getq {Ξ : XT} {own : String} {cc : ByteArray} {nL d pc : Nat}  {ix : Nat} {k : AK} (hsame : ∀ lo st w, k lo (vR 399 :: st) w = k lo (vN :: st) w) (hlk : Cond.fieldLink own ix "jdk/internal/util/Preconditions" "SIOOBE_FORMATTER" "Ljava/util/function/BiFunction;" ∈ lw_gw) (hd : decode cc pc = .ok (.getstatic ix, 3)) (hk : Snd Ξ own cc nL d (pc + 3) k) : Snd Ξ own cc nL d pc (ak_getq k) := by
  intro p l e R s m args below meth c D cA ad A cells slots Q C Z H locs ls lo st w o hrun hl hP hS hr
  have C0 := C
  obtain ⟨⟨hx, hb, hml, hown, hts⟩, hK, hi, hAd, hA, hE, hfr, hlo, hce, hsl⟩ := C0
  rcases hE.2.2.2.2 with hz | hz
  · refine va_gets hx hb hz hS hown (hts _ hlk) (fun _ h9 => h9) hd ?_
    exact hk p l e R s m args below meth c D cA ad A cells slots Q C Z H locs ls lo (vN :: st) w o hrun hl hP hS hr
  · refine va_gets hx hb hz hS hown (hts _ hlk) (fun _ h9 => h9) hd ?_
    exact hk p l e R s m args below meth c D cA ad A cells slots Q C Z H locs ls lo (vR 399 :: st) w o ((hsame lo st w).trans hrun) hl hP hS hr
def cpy (I : Nat → Nat → Int) (a b sp dp n : Nat) : Nat → Nat → Int := fun x k => if x = b then (if dp ≤ k ∧ k < dp + n then I a (sp + (k - dp)) else I x k) else I x k
abbrev ak_copy (k : AK) : AK := fun lo st w => match st with
  | .inl n :: .inl dp :: .inr (.inr (some (some b))) :: .inl sp :: .inr (.inr (some (some a))) :: r =>
    bif (isO a 10 && isO b 10) || (isO a 11 && isO b 11) then
      (if (0 ≤ n ∧ 0 ≤ sp ∧ 0 ≤ dp ∧ sp + n ≤ ((shp a).2 : Nat) ∧ dp + n ≤ ((shp b).2 : Nat)) ∧ (isO a 10 = true ∨ ∀ k, k < n.toNat → -128 ≤ w.1 a (sp.toNat + k) ∧ w.1 a (sp.toNat + k) ≤ 127) then k lo r (cpy w.1 a b sp.toNat dp.toNat n.toNat, w.2) else none) else none
  | _ => none
def csum : List AV → Nat
  | [] => 0
  | .inl _ :: r => csum r + 1
  | .inr (.inl _) :: r => csum r + 2
  | .inr (.inr _) :: r => csum r + 1
theorem csum_ok (ad : Nat → Nat) : ∀ r : List AV, ((r.map (cv ad)).map fun v => v.category).sum = csum r
  | [] => rfl
  | .inl _ :: r => by rw [csum, ← csum_ok ad r]; simp [cv, Value.category]; omega
  | .inr (.inl _) :: r => by rw [csum, ← csum_ok ad r]; simp [cv, Value.category]; omega
  | .inr (.inr v) :: r => by
    rw [csum, ← csum_ok ad r, List.map_cons, List.map_cons, List.sum_cons, cv_cat (fun x q => by cases q)]
    omega
abbrev ak_copy0 (k : AK) : AK := fun lo st w => bif Nat.ble (csum (st.drop 5)) 8 then ak_copy k lo st w else none
theorem fitb {x : Int} (h1 : -128 ≤ x) (h2 : x ≤ 127) : fits .byte (.int (Int32.ofInt x)) = true := by
  have e : iR x := ⟨by omega, by omega⟩
  have a : (-128 : Int32) ≤ Int32.ofInt x := (i32_le (x := -128) (by decide) e).mpr h1
  have b : Int32.ofInt x ≤ (127 : Int32) := (i32_le (y := 127) e (by decide)).mpr h2
  simp only [fits, a, b, decide_true, Bool.and_self]
theorem snd_copy {Ξ : XT} {own : String} {cc : ByteArray} {nL d pc : Nat}  {ix : Nat} {k : AK} (hd1 : 1 ≤ d) (hlk : Cond.methodLink own ix arraycopyName ∈ lw_gw) (hnat : Cond.native arraycopyName ∈ lw_gw) (hstat : Cond.static arraycopyName ∈ lw_gw) (hini : Cond.initialized "java/lang/System" ∈ lw_gw) (hd : decode cc pc = .ok (.invokestatic ix, 3)) (hk : Snd Ξ own cc nL d (pc + 3) k) : Snd Ξ own cc nL d pc (ak_copy0 k) := by
  intro p l e R s m args below meth c D cA ad A cells slots Q C Z H locs ls lo st w o hrun hl hP hS hr
  have C0 := C
  obtain ⟨⟨hx, hb, hml, hown, hts⟩, hK, hi, hAd, hA, hE, hfr, hlo, hce, hsl⟩ := C0
  unfold ak_copy0 at hrun
  cases hcs : Nat.ble (csum (st.drop 5)) 8 with
  | false => rw [hcs] at hrun; cases hrun
  | true =>
  rw [hcs] at hrun
  dsimp only [cond] at hrun
  unfold ak_copy at hrun
  split at hrun
  · rename_i n dp b sp a r
    have hcs2 : csum r ≤ 8 := Nat.le_of_ble_eq_true hcs
    cases hq : ((isO a 10 && isO b 10) || (isO a 11 && isO b 11)) with
    | false => rw [hq] at hrun; cases hrun
    | true =>
      rw [hq] at hrun
      dsimp only [cond] at hrun
      split at hrun
      · rename_i hg
        obtain ⟨⟨g1, g2, g3, g4, g5⟩, g6⟩ := hg
        obtain ⟨t, t0, ty, ha, hb2, ht1, ht2, ht3, ht4, ht5⟩ : ∃ (t t0 : Nat) (ty : FieldType), isO a t = true ∧ isO b t = true ∧ 10 ≤ t ∧ t < 13 ∧ (tysA cA)[t0]? = some (cA t, ty) ∧ refKind ty = false ∧ (ty = .int ∨ (ty = .byte ∧ isO a 10 = false)) := by
          rcases Bool.or_eq_true_iff.mp hq with q | q
          · obtain ⟨q1, q2⟩ := Bool.and_eq_true_iff.mp q
            exact ⟨10, 0, .int, q1, q2, by decide, by decide, rfl, rfl, Or.inl rfl⟩
          · obtain ⟨q1, q2⟩ := Bool.and_eq_true_iff.mp q
            refine ⟨11, 1, .byte, q1, q2, by decide, by decide, rfl, rfl, Or.inr ⟨rfl, ?_⟩⟩
            obtain ⟨q3, q4⟩ := isO_iff q1
            cases hz : isO a 10 with
            | false => rfl
            | true =>
              have := (isO_iff hz).2
              omega
        obtain ⟨a1, a2, a3⟩ := isO_arr ha
        obtain ⟨b1, b2, b3⟩ := isO_arr hb2
        have hea := cw_get (ad := ad) (cA := cA) (w := w) a1
        rw [elt_ia a2 ht1 ht2] at hea
        have heb := cw_get (ad := ad) (cA := cA) (w := w) b1
        rw [elt_ia b2 ht1 ht2] at heb
        have cl : ∀ z : Int, 0 ≤ z → z ≤ 2400 → (Int32.ofInt z).toNatClampNeg = z.toNat ∧ ¬ Int32.ofInt z < 0 := by
          intro z z1 z2
          refine ⟨(i32_idx (n := 2401) z1 (by omega) (by decide)).2, ?_⟩
          intro q
          have q2 := (i32_lt (x := z) (y := 0) ⟨by omega, by omega⟩ (by decide)).mp q
          omega
        obtain ⟨n1, n2⟩ := cl n g1 (by omega)
        obtain ⟨s1, s2⟩ := cl sp g2 (by omega)
        obtain ⟨p1, p2⟩ := cl dp g3 (by omega)
        have hnfw : nativeFrameWords "java/lang/System" "arraycopy" 5 = 7 := by decide +kernel
        refine va_copyi hx hb (by rw [hml]; exact hl.choose_spec.1.1.symm) hown (hts _ hlk) (hts _ hnat) (hts _ hstat) (hts _ hini) hK hP (cw_Cx C) hS a b t0 t0 hea heb ht3 ht3 ht4 s2 p2 n2 (by rw [s1, n1]; omega) (by rw [p1, n1]; omega) (fun i hi => ?_) (by omega) (by rw [csum_ok, hnfw]; omega) hd (fun H1 locs1 hP1 _ hS1 => ?_)
        · rcases ht5 with rfl | ⟨rfl, q⟩
          · rfl
          · rcases g6 with z | z
            · rw [z] at q; cases q
            · rw [n1] at hi
              obtain ⟨z1, z2⟩ := z i hi
              rw [s1]
              exact fitb z1 z2
        · rw [n1, s1, p1, cw_set (ad := ad) (cA := cA) (w := w) (w' := (cpy w.1 a b sp.toNat dp.toNat n.toNat, w.2)) (fun i _ hi => elt_congr (by funext k; simp [cpy, hi]) rfl rfl) (by
            rw [elt_ia b2 ht1 ht2]
            refine congrArg (fun q => (Sum.inl (cA t, (shp b).2, Sum.inl q) : va_E)) ?_
            funext k
            by_cases q : dp.toNat ≤ k ∧ k < dp.toNat + n.toNat
            · simp only [cpy, va_cpy, if_true, if_pos q]
            · simp only [cpy, va_cpy, if_true, if_neg q])] at hP1
          exact hk p l e R s m args below meth c D cA ad A cells slots Q C Z H1 locs1 ls lo r (cpy w.1 a b sp.toNat dp.toNat n.toNat, w.2) o hrun hl hP1 hS1 hr
      · cases hrun
  · cases hrun
/-! CALLS: a method as a function of arguments and world, and its contract -/
abbrev AF : Type := List AV → AW → Option AR
def rmD (d : Nat) : Room := { frames := d, cells := 0, slots := 0, locals := d * 60 }
def AA (ad : Nat → Nat) (sz : Nat) : Nat → Prop := fun q => (∃ j, j < NC ∧ q = ad j) ∨ sz ≤ q
def preA (D : va_G) (cA : Nat → ClassId) (ad : Nat → Nat) (w : AW) (sz : Nat) (U : State) : Prop := U.heap.size = sz ∧ va_P D vwCl (cw ad cA w) U.heap ∧ va_K D vwCl (tysA cA) U ∧ EXT ad (AA ad sz) U U.heap
def postA (D : va_G) (cA : Nat → ClassId) (ad : Nat → Nat) (o : AR) (A : Nat → Prop) : Array Value → State → Outcome → State → Prop := fun _ st oc t => oc = .returned (o.1.map (cv ad)) ∧ va_P D vwCl (cw ad cA o.2) t.heap ∧ va_F A st t
def MA (y : MethodName) (bytes : ByteArray) (maxL : Nat) (ret : Option FieldType) (d : Nat) (f : AF) : Prop :=
  ∀ (l : Launch) (D : va_G) (cA : Nat → ClassId) (ad : Nat → Nat) (as : List AV) (w : AW) (o : AR) (sz : Nat), (∀ i j, i < NC → j < NC → ad i = ad j → i = j) → f as w = some o →
    Met l y (.code y bytes maxL ret :: lw_gw) (rmD d) (va_Pc (as.map (cv ad)) (preA D cA ad w sz)) (postA D cA ad o (AA ad sz)) 0 0 (AA ad sz)
theorem good_self {ws : List Cond} (h : ∀ w ∈ ws, w ∈ lw_gw) : GoodIn lw_gw ws := fun w hw => ⟨h w hw, good_of_word (List.mem_filter.mp (h w hw)).2⟩
abbrev ak_call (n : Nat) (f : AF) (k : AK) : AK := fun lo st w => bif Nat.ble n st.length && Nat.ble (csum (st.drop n)) 8 then (match f (st.take n).reverse w with
  | some o => k lo (o.1.toList ++ st.drop n) o.2
  | none => none) else none
/-- a call of a static method -/
theorem snd_callS {Ξ : XT} {own : String} {cc : ByteArray} {nL d pc : Nat}  {y : MethodName} {bytes : ByteArray} {maxL n ix d2 : Nat} {ret : Option FieldType} {f : AF} {k : AK} (hM : MA y bytes maxL ret d2 f) (hd2 : d2 < d) (hmx : maxL ≤ 40) (hcode : Cond.code y bytes maxL ret ∈ lw_gw) (hlk : Cond.methodLink own ix y ∈ lw_gw) (hst : Cond.static y ∈ lw_gw) (hini : Cond.initialized y.cls ∈ lw_gw) (hy : y.cls ≠ "java/lang/invoke/MethodHandle" ∧ y.cls ≠ "java/lang/invoke/VarHandle" ∧ (parseMethodDescriptor y.desc).map (fun d => d.parameters.length) = some n) (hd : decode cc pc = .ok (.invokestatic ix, 3)) (hk : Snd Ξ own cc nL d (pc + 3) k) : Snd Ξ own cc nL d pc (ak_call n f k) := by
  intro p l e R s m args below meth c D cA ad A cells slots Q C Z H locs ls lo st w o hrun hl hP hS hr
  have C0 := C
  obtain ⟨⟨hx, hb, hml, hown, hts⟩, hK, hi, hAd, hA, hE, hfr, hlo, hce, hsl⟩ := C0
  unfold ak_call at hrun
  cases hq : (Nat.ble n st.length && Nat.ble (csum (st.drop n)) 8) with
  | false => rw [hq] at hrun; cases hrun
  | true =>
  rw [hq] at hrun
  dsimp only [cond] at hrun
  obtain ⟨q1, q2⟩ := Bool.and_eq_true_iff.mp hq
  have hn : n ≤ st.length := Nat.le_of_ble_eq_true q1
  have hcs : csum (st.drop n) ≤ 8 := Nat.le_of_ble_eq_true q2
  cases hf : f (st.take n).reverse w with
  | none => rw [hf] at hrun; cases hrun
  | some o1 =>
  rw [hf] at hrun
  dsimp only at hrun
  have hsub : ∀ q, AA ad H.size q → A q := by
    intro q h
    rcases h with ⟨j, h1, rfl⟩ | h
    · exact hAd j h1
    · exact hA q (Nat.le_trans hS.1 h)
  have hgood : ∀ w ∈ (Cond.code y bytes maxL ret :: lw_gw), w ∈ lw_gw := fun w h => (List.mem_cons.mp h).elim (fun e => e ▸ hcode) id
  have hMM := hM l D cA ad (st.take n).reverse w o1 H.size hi hf
  have hpre : PreS s H (va_Pc ((st.take n).reverse.map (cv ad)) (preA D cA ad w H.size)) ((st.take n).reverse.map (cv ad)) := by
    refine ⟨fun a U g mk q => ?_, fun U hU hW => ?_⟩
    · obtain ⟨a1, a2, a3, a4, a5⟩ := q
      exact ⟨a1, a2, a3, va_K.moved (u := U) (U := U.calling g mk a) (Vm.Alike.refl U.vm) a4, EXT.same (u := U) (U := U.calling g mk a) rfl a5⟩
    · refine ⟨rfl, by rw [hU], by rw [hU]; exact hP, va_K.moved hW.alike hK, ?_⟩
      have e1 := (hE.warm hW).kept (H1 := H) hS.2.1
      rw [hU]
      exact e1.narrow hsub
  have hcb := callB_of (rm := rmD d2) (mc := 0) (ms := 0) (R := R) (own := own) (index := ix) n hts (good_self hgood) rfl rfl rfl (hts _ hini) (hts _ hlk) hy ⟨by show d2 + 1 ≤ _; omega, by show 8 + (maxL + 11) + d2 * 60 ≤ _; omega⟩
  have hrun2 := va_runS (g := F0 m pc ls (st.map (cv ad))) (rest := (st.drop n).map (cv ad)) (cells := cells) (slots := slots) (locs := locs) (below := below) (meth := meth) (e := e) ⟨hx, hb, hml, hown, hts⟩ hMM ⟨hcb, hts _ hst⟩ hpre rfl (by simp; omega) hl.choose_spec.1.1 (by
      show st.map (cv ad) = _
      rw [← List.map_reverse, List.reverse_reverse, ← List.map_append, List.take_append_drop]) (by
      show 2 * 0 + _ ≤ 8
      rw [csum_ok]
      omega) hd ⟨by omega, by omega⟩
  intro T hT X
  obtain ⟨v, st₀, t, T', L, h0, X', hL, e1, e2, ⟨hv, hPt, hz, hkk⟩, stp⟩ := hrun2 T hT X
  cases hv
  rw [h0] at hz hkk
  have hS1 : va_S A s.heap T'.heap (locs ++ L) := ⟨Nat.le_trans hS.1 (by rw [e1]; exact hz), fun q h1 h2 => by rw [e1, hkk q (Nat.lt_of_lt_of_le h1 hS.1) (fun z => h2 (hsub q z))]; exact hS.2.1 q h1 h2, fun q hq => by
      rcases List.mem_append.mp hq with h | h
      · exact hS.2.2 q h
      · exact hsub _ (hL q h)⟩
  have key := hk p l e R s m args below meth c D cA ad A cells slots Q C Z T'.heap (locs ++ L) ls lo (o1.1.toList ++ st.drop n) o1.2 o hrun hl (by rw [e1]; exact hPt) hS1 hr
  obtain ⟨t2, a1, b1⟩ := key T' rfl X'
  refine ⟨t2, stp t2 ?_, b1⟩
  have e5 : (Option.map (cv ad) o1.1).toList ++ (st.drop n).map (cv ad) = (o1.1.toList ++ st.drop n).map (cv ad) := by
    cases o1.1 <;> simp
  rw [e5]
  exact a1
/-- a call of a method of an object of this world: n counts the receiver -/
abbrev ak_callv (ci n : Nat) (f : AF) (k : AK) : AK := fun lo st w => match st.drop n with
  | .inr (.inr (some (some j))) :: r => bif isO j ci && Nat.ble n st.length && Nat.ble (csum r) 8 then (match f (vR j :: (st.take n).reverse) w with
    | some o => k lo (o.1.toList ++ r) o.2
    | none => none) else none
  | _ => none
theorem snd_callV {Ξ : XT} {own : String} {cc : ByteArray} {nL d pc : Nat}  {CS : String} {T0 : u_T} {N ci : Nat} {ty : Nat → FieldType} {y : MethodName} {bytes : ByteArray} {maxL n ix d2 : Nat} {ret : Option FieldType} {f : AF} {k : AK} (hc : Cls ci CS T0 N ty) (hM : MA y bytes maxL ret d2 f) (hd2 : d2 < d) (hmx : maxL ≤ 40) (hcode : Cond.code y bytes maxL ret ∈ lw_gw) (hlk : Cond.methodLink own ix y ∈ lw_gw) (hin : Cond.instanceMethod y ∈ lw_gw) (hsel : Cond.selects CS y y ∈ lw_gw) (hini : Cond.initialized y.cls ∈ lw_gw) (hy : y.cls ≠ "java/lang/invoke/MethodHandle" ∧ y.cls ≠ "java/lang/invoke/VarHandle" ∧ (parseMethodDescriptor y.desc).map (fun d => d.parameters.length) = some n) (hd : decode cc pc = .ok (.invokevirtual ix, 3)) (hk : Snd Ξ own cc nL d (pc + 3) k) : Snd Ξ own cc nL d pc (ak_callv ci n f k) := by
  intro p l e R s m args below meth c D cA ad A cells slots Q C Z H locs ls lo st w o hrun hl hP hS hr
  have C0 := C
  obtain ⟨⟨hx, hb, hml, hown, hts⟩, hK, hi, hAd, hA, hE, hfr, hlo, hce, hsl⟩ := C0
  unfold ak_callv at hrun
  split at hrun
  · rename_i j r hdr
    cases hq : (isO j ci && Nat.ble n st.length && Nat.ble (csum r) 8) with
    | false => rw [hq] at hrun; cases hrun
    | true =>
    rw [hq] at hrun
    dsimp only [cond] at hrun
    obtain ⟨q12, q3⟩ := Bool.and_eq_true_iff.mp hq
    obtain ⟨q1, q2⟩ := Bool.and_eq_true_iff.mp q12
    have hn : n ≤ st.length := Nat.le_of_ble_eq_true q2
    have hcs : csum r ≤ 8 := Nat.le_of_ble_eq_true q3
    cases hf : f (vR j :: (st.take n).reverse) w with
    | none => rw [hf] at hrun; cases hrun
    | some o1 =>
    rw [hf] at hrun
    dsimp only at hrun
    obtain ⟨c1, c2, c3, c4, c5, c6⟩ := hc
    obtain ⟨j1, j2⟩ := isO_shp q1 c3
    rw [c2] at j2
    have hsub : ∀ q, AA ad H.size q → A q := by
      intro q h
      rcases h with ⟨j, h1, rfl⟩ | h
      · exact hAd j h1
      · exact hA q (Nat.le_trans hS.1 h)
    have hgood : ∀ w ∈ (Cond.code y bytes maxL ret :: lw_gw), w ∈ lw_gw := fun w h => (List.mem_cons.mp h).elim (fun e => e ▸ hcode) id
    have hMM := hM l D cA ad (vR j :: (st.take n).reverse) w o1 H.size hi hf
    have he := cw_get (ad := ad) (cA := cA) (w := w) j1
    rw [elt_obj j2 c3] at he
    have hpre : PreV s H CS (ad j) (va_Pc ((vR j :: (st.take n).reverse).map (cv ad)) (preA D cA ad w H.size)) ((st.take n).reverse.map (cv ad)) := by
      refine ⟨fun a U g mk q => ?_, va_recv hK hP c1 he, fun U hU hW => ?_⟩
      · obtain ⟨a1, a2, a3, a4, a5⟩ := q
        exact ⟨a1, a2, a3, va_K.moved (u := U) (U := U.calling g mk a) (Vm.Alike.refl U.vm) a4, EXT.same (u := U) (U := U.calling g mk a) rfl a5⟩
      · refine ⟨rfl, by rw [hU], by rw [hU]; exact hP, va_K.moved hW.alike hK, ?_⟩
        have e1 := (hE.warm hW).kept (H1 := H) hS.2.1
        rw [hU]
        exact e1.narrow hsub
    have hcb := callB_of (rm := rmD d2) (mc := 0) (ms := 0) (R := R) (own := own) (index := ix) n hts (good_self hgood) rfl rfl rfl (hts _ hini) (hts _ hlk) hy ⟨by show d2 + 1 ≤ _; omega, by show 8 + (maxL + 11) + d2 * 60 ≤ _; omega⟩
    have hrun2 := va_runV (As := (st.take n).reverse.map (cv ad)) (g := F0 m pc ls (st.map (cv ad))) (rest := r.map (cv ad)) (cells := cells) (slots := slots) (locs := locs) (below := below) (meth := meth) (e := e) ⟨hx, hb, hml, hown, hts⟩ hMM ⟨hcb, hts _ hin, hts _ hsel⟩ hpre rfl (by simp; omega) hl.choose_spec.1.1 (by
        show st.map (cv ad) = _
        have e9 : st = st.take n ++ (vR j :: r) := by rw [← hdr, List.take_append_drop]
        conv => lhs; rw [e9]
        rw [List.map_append, ← List.map_reverse, List.reverse_reverse]
        rfl) (by
        show 2 * 0 + _ ≤ 8
        rw [csum_ok]
        omega) hd ⟨by omega, by omega⟩
    intro T hT X
    obtain ⟨v, st₀, t, T', L, h0, X', hL, e1, e2, ⟨hv, hPt, hz, hkk⟩, stp⟩ := hrun2 T hT X
    cases hv
    rw [h0] at hz hkk
    have hS1 : va_S A s.heap T'.heap (locs ++ L) := ⟨Nat.le_trans hS.1 (by rw [e1]; exact hz), fun q h1 h2 => by rw [e1, hkk q (Nat.lt_of_lt_of_le h1 hS.1) (fun z => h2 (hsub q z))]; exact hS.2.1 q h1 h2, fun q hq => by
        rcases List.mem_append.mp hq with h | h
        · exact hS.2.2 q h
        · exact hsub _ (hL q h)⟩
    have key := hk p l e R s m args below meth c D cA ad A cells slots Q C Z T'.heap (locs ++ L) ls lo (o1.1.toList ++ r) o1.2 o hrun hl (by rw [e1]; exact hPt) hS1 hr
    obtain ⟨t2, a1, b1⟩ := key T' rfl X'
    refine ⟨t2, stp t2 ?_, b1⟩
    have e5 : (Option.map (cv ad) o1.1).toList ++ r.map (cv ad) = (o1.1.toList ++ r).map (cv ad) := by
      cases o1.1 <;> simp
    rw [e5]
    exact a1
  · cases hrun
/-- the locals at entry -/
def sl1 : List AV → List AV
  | [] => []
  | .inr (.inl x) :: r => vL x :: vU :: sl1 r
  | v :: r => v :: sl1 r
def entA (n : Nat) (as : List AV) : List AV := sl1 as ++ List.replicate (n - (sl1 as).length) vU
/-- a return's answer is of the method's kind -/
def rok (ret : Option FieldType) : Option AV → Prop
  | none => ret = none
  | some (.inl x) => ret = some .int ∨ ((ret = some .boolean ∨ ret = some .char ∨ ret = some .byte) ∧ (x = 0 ∨ x = 1))
  | some (.inr (.inl _)) => ret = some .long
  | some (.inr (.inr v)) => v ≠ none ∧ ((∃ n, ret = some (.object n)) ∨ ∃ t, ret = some (.array t))
