/-! THE CLAIM OUT OF ONE WALK OF THE LAW'S BODY. Your part is whole_start (and what it stands on); all else here is the same for every law, but numbers. -/
def R_law : String := "LastWalkerLaw"
def lw_P (b : Addr) (xs : List Int32) (args : Array Value) (s : State) : Prop := args = #[.ref b] ∧ s.IntsAt b xs ∧ xs.length ≤ 5120 ∧ (Jvm.Cond.and given_1 narrow_1).before args s = true
def lw_Q (_ : Array Value) (s : State) (o : Outcome) (t : State) : Prop := o = .returned (some (.int 1)) ∧ Framed s o t [] 600000 7302250
def lw_Z (below : List Frame) (a : Array Value) (s : State) : State → Prop := fun t => ∃ o, t.status = .running ∧ Ended t below o ∧ lw_Q a s o t
/-- the law's own end, with 1 on the stack, nothing written that was there before, its room as the claim has it -/
theorem lw_ret {p : Program} {l : Launch} {e : Env} {s : State} {m : MethodId} {below : List Frame} {meth : Method} {c : Code} {b : Nat} (hx : p.tables.exec = Jvm.exec) (hb : c.code = code) (hr : meth.sig.returnType = ret) (hlocks : meth.locks = false) {pc : Nat} {H : Heap} {ls : Array Slot} (hdg : decode code pc = .ok (.ireturn, 1)) : W p l e room_1 s m #[Value.ref b] below meth c H [] 600000 7302250 (lw_Z below #[Value.ref b] s) (F0 m pc ls [.int 1]) := by
  intro T hT X
  obtain ⟨fs, hret, hrun, hended, hW, hframe⟩ := X.leave (v := some (.int 1)) (hlocks := hlocks) (fun h => by rw [hr] at h; cases h)
  have hmeth' : T.vm.method? m = some meth := X.method'
  refine ⟨T.setFrames fs, ?_, .returned (some (.int 1)), hrun, hended, rfl, ⟨_, rfl⟩, hW, hframe⟩
  jvm_step X.here [X.here.top, hx, hb, hdg, hmeth', hr, ret, narrow_b1]
  (try refine ⟨rfl, ?_⟩); (try refine ⟨rfl, ?_⟩)
  first | (intro acts; rw [hret _ acts rfl rfl rfl]) | rw [hret _ _ rfl rfl rfl]
  exact Steps.refl _
/-- what holds at the law's entry: the machine, the code, the tables' words (any of lw_tbl by 'hts w (by decide +kernel)'), the script of L ints xs at the cell b, what the Statement gives of the start (any of its parts by flat_of_before) -/
def lw_At (p : Program) (s : State) (m : MethodId) (meth : Method) (c : Code) (b L : Nat) (xs : Nat → Int32) : Prop :=
  p.tables.exec = Jvm.exec ∧ c.code = code ∧ meth.sig.returnType = ret ∧ c.maxLocals = 4 ∧ s.vm.findClass R_law = some m.cls ∧ (∀ w ∈ lw_tbl, w.before #[Value.ref b] s = true) ∧ va_X b L xs s s.heap ∧ b < s.heap.size ∧ meth.locks = false ∧ (Jvm.Cond.and given_1 narrow_1).before #[Value.ref b] s = true
/-! THE CLAIM OUT OF A STATEMENT ABOUT THE ABSTRACT MACHINE ALONE -/
def PureW (w0 : AW) : Prop := ∀ (L : Nat) (xs : Nat → Int), L ≤ 5120 → (∀ j, iR (xs j)) → ∃ (F : Nat) (w1 : AW), k_L_law_18 F L xs F [vR 398, vR 34, vR 0, vI 0] [] w0 = some (some (vI 1), w1)
theorem arr_p {s : State} {args : Array Value} {ty : FieldType} (h : (Cond.arrayClass ty).before args s = true) (hn : ∀ C, ty ≠ .object C) : ∃ c, ArrOfT s c ty ∧ va_RA s c ty := by
  obtain ⟨c, k, comp, h1, h2, h3⟩ := Cond.arrayClass_spec h
  refine ⟨c, fun n z => ⟨fun k h => (by cases h), k, h2, comp, h3⟩, ?_⟩
  cases ty with
  | object C => exact absurd rfl (hn C)
  | _ => exact h1
theorem arr_o {s : State} {args : Array Value} {C : String} (h : (Cond.arrayOver (.object C)).before args s = true) : ∃ c, ArrOfT s c (.object C) ∧ va_RA s c (.object C) := by
  obtain ⟨comp, c, k, h1, -, h2, h3, h4⟩ := Cond.arrayOver_spec h
  exact ⟨c, fun n z => ⟨fun k h => (by cases h), k, h2, comp, h3⟩, k, comp, h2, h3, h1, h4⟩
set_option maxRecDepth 20000 in
theorem f_ao : Cond.arrayOver (.object "LastWalker$Book") ∈ lw_tbl ∧ Cond.arrayOver (.object "LastWalker$Town") ∈ lw_tbl ∧ Cond.arrayOver (.object "LastWalker$Day") ∈ lw_tbl := by decide +kernel
theorem cls_known {s : State} {args : Array Value} (hts : ∀ w ∈ lw_gw, w.before args s = true) : ∃ D : va_G, ∀ (k : Nat) (q : vw_C), vwCl[k]? = some q → u_Kn s q.1 q.2.1 q.2.2 (D.1 k) (D.2 k) := by
  have h : ∀ k : Nat, ∃ x : ClassId × (Nat → Nat), ∀ q : vw_C, vwCl[k]? = some q → u_Kn s q.1 q.2.1 q.2.2 x.1 x.2 := by
    intro k
    match k with
    | 0 =>
      obtain ⟨cC, iS, hk⟩ := u_known (n := 9) hts cls0.2.2.2.1 (hts _ wd_147)
      exact ⟨(cC, iS), fun q hq => by cases hq; exact hk⟩
    | 1 =>
      obtain ⟨cC, iS, hk⟩ := u_known (n := 5) hts cls1.2.2.2.1 (hts _ wd_440)
      exact ⟨(cC, iS), fun q hq => by cases hq; exact hk⟩
    | 2 =>
      obtain ⟨cC, iS, hk⟩ := u_known (n := 3) hts cls2.2.2.2.1 (hts _ wd_282)
      exact ⟨(cC, iS), fun q hq => by cases hq; exact hk⟩
    | 3 =>
      obtain ⟨cC, iS, hk⟩ := u_known (n := 18) hts cls3.2.2.2.1 (hts _ wd_434)
      exact ⟨(cC, iS), fun q hq => by cases hq; exact hk⟩
    | 4 =>
      obtain ⟨cC, iS, hk⟩ := u_known (n := 13) hts cls4.2.2.2.1 (hts _ wd_536)
      exact ⟨(cC, iS), fun q hq => by cases hq; exact hk⟩
    | 5 =>
      obtain ⟨cC, iS, hk⟩ := u_known (n := 13) hts cls5.2.2.2.1 (hts _ wd_342)
      exact ⟨(cC, iS), fun q hq => by cases hq; exact hk⟩
    | 6 =>
      obtain ⟨cC, iS, hk⟩ := u_known (n := 8) hts cls6.2.2.2.1 (hts _ wd_396)
      exact ⟨(cC, iS), fun q hq => by cases hq; exact hk⟩
    | 7 =>
      obtain ⟨cC, iS, hk⟩ := u_known (n := 19) hts cls7.2.2.2.1 (hts _ wd_154)
      exact ⟨(cC, iS), fun q hq => by cases hq; exact hk⟩
    | 8 =>
      obtain ⟨cC, iS, hk⟩ := u_known (n := 7) hts cls8.2.2.2.1 (hts _ wd_139)
      exact ⟨(cC, iS), fun q hq => by cases hq; exact hk⟩
    | 9 =>
      obtain ⟨cC, iS, hk⟩ := u_known (n := 64) hts cls9.2.2.2.1 (hts _ wd_1298)
      exact ⟨(cC, iS), fun q hq => by cases hq; exact hk⟩
    | k + 10 => exact ⟨(0, fun _ => 0), fun q hq => by simp [vwCl] at hq⟩
  obtain ⟨x, hx⟩ := Classical.axiomOfChoice h
  exact ⟨(fun k => (x k).1, fun k => (x k).2), hx⟩
theorem start_gen {gB gC gD : AG} {w0 : AW} (gB_ok : g_X8_init [vR 0] gA = some gB) (gC_eq : gC = gB ++ [gnew 9]) (gD_ok : g_X9_init [vR gB.length] gC = some gD) (g_lens : gB.length = 245 ∧ gC.length = 245 + 1 ∧ gD.length = NC ∧ gsl gD ≤ 100000) (world0 : ∀ {D : va_G} {cA : Nat → ClassId} {ad : Nat → Nat} {sz : Nat} {H : Heap}, (∀ j, j < NC → ad j = sz + ord j) → va_P D vwCl (gw sz cA gD) H → va_P D vwCl (cw ad cA w0) H) (hp : PureW w0) {p : Program} {e : Env} {s : State} {m : MethodId} {below : List Frame} {meth : Method} {c : Code} (l : Launch) {b L : Nat} {xs : Nat → Int32} (hL : L ≤ 5120) (C0 : lw_At p s m meth c b L xs) : W p l e room_1 s m #[Value.ref b] below meth c s.heap [] 0 0 (lw_Z below #[Value.ref b] s) (entryFrame m ([Value.ref b] : List Value).toArray 4) := by
  subst gC_eq
  obtain ⟨hx, hb, hr, hml, hown, hts, hX, hbl, hlocks, hgv⟩ := id C0
  have htg : ∀ w ∈ lw_gw, w.before #[Value.ref b] s = true := fun w h => hts w (List.mem_filter.mp h).1
  obtain ⟨D, hKc⟩ := cls_known htg
  obtain ⟨a10, r10⟩ := arr_p (htg _ wd_279) (fun C h => by cases h)
  obtain ⟨a11, r11⟩ := arr_p (htg _ wd_278) (fun C h => by cases h)
  obtain ⟨a12, r12⟩ := arr_p (htg _ wd_1496) (fun C h => by cases h)
  obtain ⟨a13, r13⟩ := arr_p (htg _ wd_468) (fun C h => by cases h)
  obtain ⟨a14, r14⟩ := arr_o (hts _ f_ao.1)
  obtain ⟨a15, r15⟩ := arr_o (hts _ f_ao.2.1)
  obtain ⟨a16, r16⟩ := arr_o (hts _ f_ao.2.2)
  obtain ⟨cA, hcA⟩ : ∃ cA : Nat → ClassId, cA 10 = a10 ∧ cA 11 = a11 ∧ cA 12 = a12 ∧ cA 13 = a13 ∧ cA 14 = a14 ∧ cA 15 = a15 ∧ cA 16 = a16 := ⟨fun t => if t = 10 then a10 else if t = 11 then a11 else if t = 12 then a12 else if t = 13 then a13 else if t = 14 then a14 else if t = 15 then a15 else a16, rfl, rfl, rfl, rfl, rfl, rfl, rfl⟩
  obtain ⟨b10, b11, b12, b13, b14, b15, b16⟩ := hcA
  subst b10 b11 b12 b13 b14 b15 b16
  have hK : va_K D vwCl (tysA cA) s := by
    refine ⟨hKc, fun k q hq => ?_⟩
    match k, hq with
    | 0, hq => cases hq; exact r10
    | 1, hq => cases hq; exact r11
    | 2, hq => cases hq; exact r12
    | 3, hq => cases hq; exact r13
    | 4, hq => cases hq; exact r14
    | 5, hq => cases hq; exact r15
    | 6, hq => cases hq; exact r16
    | k + 7, hq => simp [tysA] at hq
  have hao : va_AO "LastWalker$Book" s ∧ va_AO "LastWalker$Town" s ∧ va_AO "LastWalker$Day" s := ⟨va_AO.of (hts _ f_ao.1), va_AO.of (hts _ f_ao.2.1), va_AO.of (hts _ f_ao.2.2)⟩
  have CX : CxG RL code 4 21 p room_1 s m #[Value.ref b] meth c D cA s.heap.size 0 := ⟨⟨hx, hb, hml, hown, htg⟩, hK, rfl, hao, Or.inl rfl, by decide, by decide⟩
  have hl := lv_entry ([.ref b]) (n := 4) (Nat.le_of_ble_eq_true rfl)
  rw [lg_entry_eq]
  generalize (lg_sl ([.ref b]) ++ List.replicate (4 - (lg_sl ([.ref b])).length) Slot.unset).toArray = ls at hl ⊢
  have hl : lv_has ls 4 [(0, .ref b)] := hl
  have hP0 : va_P D vwCl (gw s.heap.size cA []) s.heap := fun k q h => by simp [gw] at h
  obtain ⟨q1, q2, q3, q4⟩ := g_lens
  have q3' : gD.length = 279 := q3
  have lA : gA.length = 1 := rfl
  have sA : gsl gA = 7 := by decide +kernel
  have hmB := (sg_X8_init _ _ _ gB_ok).1
  have hmD := (sg_X9_init _ _ _ gD_ok).1
  have sC : gsl (gB ++ [gnew 9]) = gsl gB + 64 := by
    rw [gsl_push]
    rfl
  refine rw_new (g := []) (N := 7) (slots := 0) cls8 df_8 wd_138 wd_139 wd_120 dL_law_0 CX hP0 va_S.rf rfl (by decide) (by decide) (fun H hP hS => ?_)
  refine lv_dup hx hb dL_law_3 rfl ?_
  refine rw_ctor (g := gA) (g1 := gB) (j := 0) sg_X8_init (by decide) (by decide) wd_142 wd_140 wd_141 wd_120 rfl hy_X8_init dL_law_4 CX hl.1 hP hS rfl gB_ok (by show _ ≤ 600000; omega) (by show _ ≤ 7302250; omega) (Nat.le_of_ble_eq_true rfl) (fun H locs hP hS => ?_)
  refine lv_astore_n (lv' := [(1, .ref (s.heap.size + 0)), (0, .ref b)]) hx hb dL_law_7 rfl hl (by decide) rfl (fun ls hl => ?_)
  refine rw_new (g := gB) (N := 64) cls9 df_9 wd_1297 wd_1298 wd_129 dL_law_8 CX hP hS (by omega) (by show _ ≤ 600000; omega) (by show _ ≤ 7302250; omega) (fun H hP hS => ?_)
  refine lv_dup hx hb dL_law_11 rfl ?_
  refine rw_ctor (g := gB ++ [gnew 9]) (g1 := gD) (j := gB.length) sg_X9_init (by decide) (by decide) wd_1301 wd_1299 wd_1300 wd_129 rfl hy_X9_init dL_law_12 CX hl.1 hP hS (by omega) gD_ok (by show _ ≤ 600000; omega) (by show _ ≤ 7302250; omega) (Nat.le_of_ble_eq_true rfl) (fun H locs hP hS => ?_)
  refine lv_astore_n (lv' := [(2, .ref (s.heap.size + gB.length)), (1, .ref (s.heap.size + 0)), (0, .ref b)]) hx hb dL_law_15 rfl hl (by decide) rfl (fun ls hl => ?_)
  refine lv_iconst (v := 0) hx hb dL_law_16 (by decide) ?_
  refine lv_istore_n (lv' := [(3, .int 0), (2, .ref (s.heap.size + gB.length)), (1, .ref (s.heap.size + 0)), (0, .ref b)]) hx hb dL_law_17 rfl hl (by decide) rfl (fun ls hl => ?_)
  have hAn : ∀ a : Nat, a < s.heap.size → ¬ (fun q : Nat => s.heap.size ≤ q) a := fun a h => Nat.not_le.mpr h
  obtain ⟨tS, adK, adV, fm, hext⟩ := ext_of (A := fun q : Nat => s.heap.size ≤ q) hgv hts hAn
  obtain ⟨ad, had⟩ : ∃ ad : Nat → Nat, ∀ j, ad j = if j < NC then s.heap.size + ord j else if j < 303 then tS (j - 300) else if j < 324 then adK (j - 310) else if j < 344 then adV (j - 330) else if j = 398 then b else fm := ⟨_, fun j => rfl⟩
  have had0 : ∀ j, j < NC → ad j = s.heap.size + ord j := fun j hj => by rw [had, if_pos hj]
  have hadb : ad 398 = b := by rw [had]; rfl
  have hE : EXT ad (fun q : Nat => s.heap.size ≤ q) s s.heap := by
    refine hext ad (fun e he => ?_) (fun i hi => ?_) (fun i hi => ?_) ?_
    · rw [had, if_neg (by show ¬ 300 + e < 279; omega), if_pos (by omega), show 300 + e - 300 = e from by omega]
    · rw [had, if_neg (by show ¬ 310 + i < 279; omega), if_neg (by omega), if_pos (by omega), show 310 + i - 310 = i from by omega]
    · rw [had, if_neg (by show ¬ 330 + i < 279; omega), if_neg (by omega), if_neg (by omega), if_pos (by omega), show 330 + i - 330 = i from by omega]
    · rw [had]; rfl
  have hPw := world0 had0 hP
  have hinj : ∀ i j, i < NC → j < NC → ad i = ad j → i = j := fun i j hi hj h => by
    rw [had0 i hi, had0 j hj] at h
    exact ord_inj i j hi hj (by omega)
  obtain ⟨F, w1, hrun⟩ := hp L (fun j => (xs j).toInt) hL (fun j => ⟨Int32.le_toInt (xs j), by have := Int32.toInt_lt (xs j); omega⟩)
  have hZ : XS L (fun j => (xs j).toInt) ad (fun q : Nat => s.heap.size ≤ q) s := by
    refine ⟨?_, by rw [hadb]; exact hbl, by rw [hadb]; exact Nat.not_le.mpr hbl, hL⟩
    rw [hadb]
    have : (fun j => Int32.ofInt (xs j).toInt) = xs := by funext j; exact Int32.ofInt_toInt (xs j)
    rw [this]
    exact hX
  have Cw : Cx RL code 4 21 p room_1 s m #[Value.ref b] c D cA ad (fun q : Nat => s.heap.size ≤ q) _ _ := ⟨⟨hx, hb, hml, hown, htg⟩, hK, hinj, fun j hj => by show s.heap.size ≤ ad j; rw [had0 j hj]; omega, fun q h => h, hE, by decide, by decide, by show 0 + 1 + (gB.length - gA.length) + 1 + (gD.length - (gB ++ [gnew 9]).length) ≤ 600000; omega, by show 0 + 7 + (gsl gB - gsl gA) + 64 + (gsl gD - gsl (gB ++ [gnew 9])) ≤ 7302250; omega⟩
  have hLR : LR ad ls 4 [vR 398, vR 34, vR 0, vI 0] := by
    refine ⟨_, hl, fun i hi => ?_⟩
    match i, hi with
    | 0, _ =>
      show (0, Value.ref (ad 398)) ∈ _
      rw [hadb]; simp
    | 1, _ =>
      show (1, Value.ref (ad 34)) ∈ _
      rw [had0 _ (by decide), show ord 34 = 0 from rfl]; simp
    | 2, _ =>
      show (2, Value.ref (ad 0)) ∈ _
      rw [had0 _ (by decide), show ord 0 = 245 from rfl, q1]; simp
    | 3, _ =>
      show (3, Value.int (Int32.ofInt 0)) ∈ _
      simp
    | i + 4, hi => exact absurd rfl hi
  refine sk_L_law_18 F L (fun j => (xs j).toInt) F p l e room_1 s m _ below meth c D cA ad _ _ _ _ Cw hZ H locs ls _ [] w0 _ hrun hLR hPw hS ?_
  intro pc2 ls2 H2 locs2 hP2 hS2 hd2
  refine va_forget (fun q hq => hS2.2.2 q hq) ?_
  refine W.widen (k := 600000) (n := 7302250) (by omega) (by omega) ?_
  exact lw_ret hx hb hr hlocks hd2
def PureOK : Prop := PureW w0
theorem start_of_pure (hp : PureOK) {p : Program} {e : Env} {s : State} {m : MethodId} {below : List Frame} {meth : Method} {c : Code} (l : Launch) {b L : Nat} {xs : Nat → Int32} (hL : L ≤ 5120) (C0 : lw_At p s m meth c b L xs) : W p l e room_1 s m #[Value.ref b] below meth c s.heap [] 0 0 (lw_Z below #[Value.ref b] s) (entryFrame m ([Value.ref b] : List Value).toArray 4) := by
  refine start_gen gB_ok (gC := gC) ?_ gD_ok g_lens world0 hp l hL C0
  unfold gC
  rfl
