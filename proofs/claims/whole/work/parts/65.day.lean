/-! A DAY OF ERRANDS, PURE -/
theorem Wy_nodup {g : Mp} {rd : Prop} {to : Int} : ∀ d s t c st vis x, NdOK g rd s st vis → st.Nodup → x ∈ Wy g rd to d s t c st vis → x.2.2.Nodup
  | 0, s, t, c, st, vis, x, _, _, h => by cases h
  | d + 1, s, t, c, st, vis, x, hn, hs, h => by
    obtain ⟨r, h1, h2⟩ := Wy_mem h
    obtain ⟨h3, h4⟩ := Ws_mem h2
    have hnew := okr_new hn h3
    have hs2 : (st ++ [r]).Nodup := by
      rw [List.nodup_append]
      refine ⟨hs, by simp, fun a ha b hb => ?_⟩
      have : b = r := by simpa using hb
      intro e
      rw [e, this] at ha
      exact hnew ha
    rcases h4 with ⟨e, -⟩ | ⟨-, h5⟩
    · subst e; exact hs2
    · exact Wy_nodup d _ _ _ _ _ x (NdOK_step hn h3) hs2 h5
theorem Wy_congr {g g' : Mp} (hR : g.R = g'.R) (hc : ∀ r, r < g.R → g.a r = g'.a r ∧ g.b r = g'.b r ∧ g.m r = g'.m r ∧ ∀ t, g.c r t = g'.c r t) {rd : Prop} {to : Int} : ∀ d s t c st vis, Wy g rd to d s t c st vis = Wy g' rd to d s t c st vis
  | 0, s, t, c, st, vis => rfl
  | d + 1, s, t, c, st, vis => by
    rw [Wy_succ, Wy_succ, ← hR]
    have key : ∀ r ∈ List.range g.R, Ws g rd to d s t c st vis r = Ws g' rd to d s t c st vis r := by
      intro r hr
      obtain ⟨h1, h2, h3, h4⟩ := hc r (List.mem_range.mp hr)
      have hf : frr g r s = frr g' r s := by unfold frr; rw [h1, h2]
      have ho : okr g rd r s st vis ↔ okr g' rd r s st vis := by unfold okr eds; rw [h1, h2, hf]
      by_cases hok : okr g rd r s st vis
      · have hok' := ho.mp hok
        unfold Ws
        rw [if_pos hok, if_pos hok', hf, h3, h4 t, Wy_congr hR hc d]
      · rw [Ws_no hok, Ws_no (fun z => hok (ho.mpr z))]
    generalize List.range g.R = rs at key
    induction rs with
    | nil => rfl
    | cons r rs ih => rw [List.flatMap_cons, List.flatMap_cons, key r List.mem_cons_self, ih (fun r' hr' => key r' (List.mem_cons_of_mem _ hr'))]
theorem pys_congr {T O O' : Nat → Int} {fr p r : Int} (h : O r.toNat = O' r.toNat) : pys T fr O p r = pys T fr O' p r := by unfold pys; rw [h]
theorem cms_congr {T O O' : Nat → Int} {fr p r t : Int} (h : O r.toNat = O' r.toNat) : cms T fr O p r t ↔ cms T fr O' p r t := by unfold cms; rw [h]
theorem bsl_congr {T O O' : Nat → Int} {fr p kind mi fm to : Int} (h : ∀ r : Nat, (r : Int) < T 1 → O r = O' r) : bsl T fr O p kind mi fm to = bsl T fr O' p kind mi fm to := by
  unfold bsl
  refine Wy_congr (g := mp T fr O p kind) (g' := mp T fr O' p kind) rfl (fun r hr => ⟨rfl, rfl, rfl, fun t => ?_⟩) _ _ _ _ _ _
  have hr : r < (T 1).toNat := hr
  have e : O ((r : Int)).toNat = O' ((r : Int)).toNat := by rw [Int.toNat_natCast]; exact h r (by omega)
  show cst T fr O p kind r t = cst T fr O' p kind r t
  unfold cst
  rw [pys_congr e]
  have : (kind = 2 ∧ cms T fr O p r t) = (kind = 2 ∧ cms T fr O' p r t) := propext ⟨fun z => ⟨z.1, (cms_congr e).mp z.2⟩, fun z => ⟨z.1, (cms_congr e).mpr z.2⟩⟩
  rw [this]
theorem bst_congr {T O O' : Nat → Int} {fr p kind mi fm to : Int} (h : ∀ r : Nat, (r : Int) < T 1 → O r = O' r) : bst T fr O p kind mi fm to = bst T fr O' p kind mi fm to := by
  unfold bst
  rw [bsl_congr h]
/-- whose a road is behind a walk along it -/
noncomputable def obh (T : Nat → Int) (fr : Int) (O : Nat → Int) (p r t : Int) : Int := (ind (cms T fr O p r t) : Int) * p + (ind (¬ cms T fr O p r t) : Int) * O r.toNat
theorem obh_y {T O : Nat → Int} {fr p r t : Int} (h : cms T fr O p r t) : obh T fr O p r t = p := by
  unfold obh
  rw [ind_pos h, ind_neg (fun z => z h)]
  omega
theorem obh_n {T O : Nat → Int} {fr p r t : Int} (h : ¬ cms T fr O p r t) : obh T fr O p r t = O r.toNat := by
  unfold obh
  rw [ind_neg h, ind_pos h]
  omega
/-- the minute at which a road of a row is walked -/
def tmA (T : Nat → Int) (t : Int) : List Nat → Nat → Int
  | [], _ => t
  | q :: rs, r => if q = r then t else tmA T (t + rM T q) rs r
def sumL (f : Nat → Int) (l : List Nat) : Int := (l.map f).sum
theorem sumL_snoc (f : Nat → Int) (l : List Nat) (r : Nat) : sumL f (l ++ [r]) = sumL f l + f r := by
  unfold sumL
  rw [List.map_append, List.sum_append]
  simp
theorem tmA_snoc {T : Nat → Int} : ∀ (l : List Nat) (t : Int) (q r : Nat), tmA T t (l ++ [q]) r = if r ∈ l then tmA T t l r else if q = r then t + sumL (fun r => rM T r) l else t + sumL (fun r => rM T r) l + rM T q
  | [], t, q, r => by
    show (if q = r then t else t + rM T q) = if r ∈ ([] : List Nat) then t else if q = r then t + 0 else t + 0 + rM T q
    rw [if_neg (show ¬ r ∈ ([] : List Nat) by simp), Int.add_zero]
  | a :: l, t, q, r => by
    show (if a = r then t else tmA T (t + rM T a) (l ++ [q]) r) = _
    have hs : sumL (fun r => rM T r) (a :: l) = rM T a + sumL (fun r => rM T r) l := by unfold sumL; simp
    by_cases e : a = r
    · rw [if_pos e, if_pos (show r ∈ a :: l by simp [e])]
      show t = if a = r then t else _
      rw [if_pos e]
    · rw [if_neg e, tmA_snoc l (t + rM T a) q r, hs]
      have hne : ¬ r = a := fun z => e z.symm
      by_cases h : r ∈ l
      · rw [if_pos h, if_pos (show r ∈ a :: l by simp [h])]
        show _ = if a = r then t else _
        rw [if_neg e]
      · rw [if_neg h, if_neg (show ¬ r ∈ a :: l by simp [h, hne])]
        by_cases e2 : q = r
        · rw [if_pos e2, if_pos e2]; omega
        · rw [if_neg e2, if_neg e2]; omega
noncomputable def wO (T : Nat → Int) (fr : Int) (O : Nat → Int) (p bg : Int) (rs : List Nat) (r : Nat) : Int := if r ∈ rs then obh T fr O p r (tmA T bg rs r) else O r
/-- distances as numbers -/
noncomputable def dsv (T : Nat → Int) (a b : Int) : Int := by
  classical
  exact if h : ∃ m, Ds (Jt T (-1)) a b m then h.choose else -1
theorem dsv_eq {T : Nat → Int} {a b m : Int} (h : Ds (Jt T (-1)) a b m) : dsv T a b = m := by
  unfold dsv
  have hx : ∃ m, Ds (Jt T (-1)) a b m := ⟨m, h⟩
  rw [dif_pos hx]
  exact Ds_uniq hx.choose_spec h
/-- one errand -/
noncomputable def gOne (T : Nat → Int) (fr p to mi : Int) (Z : Nat → Nat → Int) : Nat → Nat → Int :=
  match (if Z 1 p.toNat = to then none else bst T fr (Z 0) p (pK T p) (if mi < Z 2 p.toNat then Z 2 p.toNat else mi) (Z 1 p.toNat) to) with
  | none => Z
  | some x => fun f k => match f with
    | 0 => wO T fr (Z 0) p (if mi < Z 2 p.toNat then Z 2 p.toNat else mi) x.2.2 k
    | 1 => if k = p.toNat then to else Z 1 k
    | 2 => if k = p.toNat then x.2.1 else Z 2 k
    | 3 => if k = p.toNat then Z 3 k + (x.2.1 - (if mi < Z 2 p.toNat then Z 2 p.toNat else mi)) else Z 3 k
    | 4 => if k = p.toNat then Z 4 k + sumL (fun r => pys T fr (Z 0) p r) x.2.2 else Z 4 k
    | 5 => Z 5 k + sumL (fun r => if Z 0 r = k then pys T fr (Z 0) p r else 0) x.2.2
    | 6 => if k = p.toNat then Z 6 k + (x.2.1 - (if mi < Z 2 p.toNat then Z 2 p.toNat else mi) - dsv T (Z 1 p.toNat) to) else Z 6 k
    | 7 => Z 7 k + (if k ∈ x.2.2 then 1 else 0)
    | 8 => Z 8 k + (if k ∈ x.2.2 then pys T fr (Z 0) p k else 0)
    | _ => if k = 0 then (if Z 9 0 < x.2.1 then x.2.1 else Z 9 0) else Z 9 1 + ((if mi < Z 2 p.toNat then Z 2 p.toNat else mi) - mi)
/-- states that say the same of what there is -/
def ZE (T : Nat → Int) (Z Z' : Nat → Nat → Int) : Prop := (∀ r : Nat, (r : Int) < T 1 → Z 0 r = Z' 0 r) ∧ (∀ p : Nat, (p : Int) < T 2 → Z 1 p = Z' 1 p ∧ Z 2 p = Z' 2 p) ∧ (∀ p : Nat, p < 8 → Z 3 p = Z' 3 p ∧ Z 4 p = Z' 4 p ∧ Z 5 p = Z' 5 p ∧ Z 6 p = Z' 6 p) ∧ (∀ r : Nat, r < 14 → Z 7 r = Z' 7 r ∧ Z 8 r = Z' 8 r) ∧ Z 9 0 = Z' 9 0 ∧ Z 9 1 = Z' 9 1
theorem ZE.rf {T : Nat → Int} {Z : Nat → Nat → Int} : ZE T Z Z := ⟨fun _ _ => rfl, fun _ _ => ⟨rfl, rfl⟩, fun _ _ => ⟨rfl, rfl, rfl, rfl⟩, fun _ _ => ⟨rfl, rfl⟩, rfl, rfl⟩
theorem ZE.sy {T : Nat → Int} {Z Z' : Nat → Nat → Int} (h : ZE T Z Z') : ZE T Z' Z := ⟨fun r x => (h.1 r x).symm, fun p x => ⟨(h.2.1 p x).1.symm, (h.2.1 p x).2.symm⟩, fun p x => ⟨(h.2.2.1 p x).1.symm, (h.2.2.1 p x).2.1.symm, (h.2.2.1 p x).2.2.1.symm, (h.2.2.1 p x).2.2.2.symm⟩, fun r x => ⟨(h.2.2.2.1 r x).1.symm, (h.2.2.2.1 r x).2.symm⟩, h.2.2.2.2.1.symm, h.2.2.2.2.2.symm⟩
theorem ZE.tr {T : Nat → Int} {Z Z' Z'' : Nat → Nat → Int} (h : ZE T Z Z') (h' : ZE T Z' Z'') : ZE T Z Z'' := ⟨fun r x => (h.1 r x).trans (h'.1 r x), fun p x => ⟨(h.2.1 p x).1.trans (h'.2.1 p x).1, (h.2.1 p x).2.trans (h'.2.1 p x).2⟩, fun p x => ⟨(h.2.2.1 p x).1.trans (h'.2.2.1 p x).1, (h.2.2.1 p x).2.1.trans (h'.2.2.1 p x).2.1, (h.2.2.1 p x).2.2.1.trans (h'.2.2.1 p x).2.2.1, (h.2.2.1 p x).2.2.2.trans (h'.2.2.1 p x).2.2.2⟩, fun r x => ⟨(h.2.2.2.1 r x).1.trans (h'.2.2.2.1 r x).1, (h.2.2.2.1 r x).2.trans (h'.2.2.2.1 r x).2⟩, h.2.2.2.2.1.trans h'.2.2.2.2.1, h.2.2.2.2.2.trans h'.2.2.2.2.2⟩
theorem sumL_congr {f g : Nat → Int} : ∀ {l : List Nat}, (∀ r ∈ l, f r = g r) → sumL f l = sumL g l
  | [], _ => rfl
  | a :: l, h => by
    have ih := sumL_congr (l := l) (fun r hr => h r (List.mem_cons_of_mem _ hr))
    unfold sumL at ih ⊢
    rw [List.map_cons, List.map_cons, List.sum_cons, List.sum_cons, h a List.mem_cons_self, ih]
theorem gOne_congr {T : Nat → Int} {fr p to mi : Int} {Z Z' : Nat → Nat → Int} (hT : TK T) (hp0 : 0 ≤ p) (hp1 : p < T 2) (h : ZE T Z Z') : ZE T (gOne T fr p to mi Z) (gOne T fr p to mi Z') := by
  have e1 := h.2.1 p.toNat (by omega)
  unfold gOne
  rw [← e1.1, ← e1.2, bst_congr (O := Z' 0) (O' := Z 0) (fun r x => (h.1 r x).symm)]
  cases hb : (if Z 1 p.toNat = to then none else bst T fr (Z 0) p (pK T p) (if mi < Z 2 p.toNat then Z 2 p.toNat else mi) (Z 1 p.toNat) to) with
  | none => exact h
  | some x =>
    have hx : bst T fr (Z 0) p (pK T p) (if mi < Z 2 p.toNat then Z 2 p.toNat else mi) (Z 1 p.toNat) to = some x := by
      by_cases q : Z 1 p.toNat = to
      · rw [if_pos q] at hb; cases hb
      · rw [if_neg q] at hb; exact hb
    have hrow := bst_row hT hx
    have hr : ∀ r ∈ x.2.2, Z 0 r = Z' 0 r := fun r hr => h.1 r (by have := hrow.2.2.2.1 r hr; omega)
    have hpy : ∀ r ∈ x.2.2, pys T fr (Z 0) p r = pys T fr (Z' 0) p r := fun r hr' => pys_congr (by rw [Int.toNat_natCast]; exact hr r hr')
    refine ⟨fun r hr' => ?_, fun q hq => ⟨?_, ?_⟩, fun q hq => ⟨?_, ?_, ?_, ?_⟩, fun r hr' => ⟨?_, ?_⟩, ?_, ?_⟩
    · show wO T fr (Z 0) p _ x.2.2 r = wO T fr (Z' 0) p _ x.2.2 r
      unfold wO
      by_cases q : r ∈ x.2.2
      · rw [if_pos q, if_pos q]
        have e : Z 0 ((r : Int)).toNat = Z' 0 ((r : Int)).toNat := by rw [Int.toNat_natCast]; exact hr r q
        by_cases c : cms T fr (Z 0) p r (tmA T (if mi < Z 2 p.toNat then Z 2 p.toNat else mi) x.2.2 r)
        · rw [obh_y c, obh_y ((cms_congr e).mp c)]
        · rw [obh_n c, obh_n (fun z => c ((cms_congr e).mpr z)), e]
      · rw [if_neg q, if_neg q]; exact h.1 r hr'
    · show (if q = p.toNat then to else Z 1 q) = (if q = p.toNat then to else Z' 1 q)
      rw [(h.2.1 q hq).1]
    · show (if q = p.toNat then x.2.1 else Z 2 q) = (if q = p.toNat then x.2.1 else Z' 2 q)
      rw [(h.2.1 q hq).2]
    · show (if q = p.toNat then Z 3 q + _ else Z 3 q) = (if q = p.toNat then Z' 3 q + _ else Z' 3 q)
      rw [(h.2.2.1 q hq).1]
    · show (if q = p.toNat then Z 4 q + _ else Z 4 q) = (if q = p.toNat then Z' 4 q + _ else Z' 4 q)
      rw [(h.2.2.1 q hq).2.1, sumL_congr hpy]
    · show Z 5 q + _ = Z' 5 q + _
      rw [(h.2.2.1 q hq).2.2.1, sumL_congr (fun r hr' => by rw [hr r hr', hpy r hr'])]
    · show (if q = p.toNat then Z 6 q + _ else Z 6 q) = (if q = p.toNat then Z' 6 q + _ else Z' 6 q)
      rw [(h.2.2.1 q hq).2.2.2]
    · show Z 7 r + _ = Z' 7 r + _
      rw [(h.2.2.2.1 r hr').1]
    · show Z 8 r + (if r ∈ x.2.2 then pys T fr (Z 0) p r else 0) = Z' 8 r + (if r ∈ x.2.2 then pys T fr (Z' 0) p r else 0)
      rw [(h.2.2.2.1 r hr').2]
      by_cases q : r ∈ x.2.2
      · rw [if_pos q, if_pos q, hpy r q]
      · rw [if_neg q, if_neg q]
    · show (if (0 : Nat) = 0 then (if Z 9 0 < x.2.1 then x.2.1 else Z 9 0) else _) = (if (0 : Nat) = 0 then (if Z' 9 0 < x.2.1 then x.2.1 else Z' 9 0) else _)
      rw [if_pos rfl, if_pos rfl, h.2.2.2.2.1]
    · show (if (1 : Nat) = 0 then _ else Z 9 1 + _) = (if (1 : Nat) = 0 then _ else Z' 9 1 + _)
      rw [if_neg (show ¬ ((1 : Nat) = 0) by decide), if_neg (show ¬ ((1 : Nat) = 0) by decide), h.2.2.2.2.2]
/-- bounds that hold behind n errands of a day -/
def ZB (T : Nat → Int) (n : Int) (Z : Nat → Nat → Int) : Prop := (∀ r : Nat, (r : Int) < T 1 → -1 ≤ Z 0 r ∧ Z 0 r < T 2) ∧ (∀ p : Nat, (p : Int) < T 2 → (0 ≤ Z 1 p ∧ Z 1 p < T 0) ∧ (0 ≤ Z 2 p ∧ Z 2 p ≤ 359 + 240 * n)) ∧ (0 ≤ Z 9 0 ∧ Z 9 0 ≤ 100000)
theorem bst_mins {T : Nat → Int} {fr p kind mi fm to : Int} {O : Nat → Int} {x : Cd} (hT : TK T) (hp0 : 0 ≤ p) (hp1 : p < T 2) (hmi : 0 ≤ mi) (hne : fm ≠ to) (h : bst T fr O p kind mi fm to = some x) : mi ≤ x.2.1 ∧ x.2.1 ≤ mi + 240 ∧ x.2.2.Nodup := by
  have a0 := hT.1
  have hm := (bst_row hT h).1
  rw [bsl_way hne] at hm
  have := Wy_bounds hT hp0 hp1 _ _ _ _ _ _ _ hmi hm
  refine ⟨this.2.2.2.2.1, by have := this.2.2.2.2.2; omega, Wy_nodup _ _ _ _ _ _ _ ⟨List.mem_cons_self, fun _ r hr => by cases hr⟩ List.nodup_nil hm⟩
theorem gOne_ZB {T : Nat → Int} {fr p to mi n : Int} {Z : Nat → Nat → Int} (hT : TK T) (hp0 : 0 ≤ p) (hp1 : p < T 2) (hto : 0 ≤ to ∧ to < T 0) (hmi : 0 ≤ mi ∧ mi ≤ 359) (hn : 0 ≤ n ∧ n ≤ 20) (h : ZB T n Z) : ZB T (n + 1) (gOne T fr p to mi Z) := by
  have hpp := h.2.1 p.toNat (by omega)
  have weak : ZB T (n + 1) Z := ⟨h.1, fun q hq => ⟨(h.2.1 q hq).1, (h.2.1 q hq).2.1, by have := (h.2.1 q hq).2.2; omega⟩, h.2.2⟩
  unfold gOne
  obtain ⟨bg, hbg⟩ : ∃ bg, (if mi < Z 2 p.toNat then Z 2 p.toNat else mi) = bg := ⟨_, rfl⟩
  have hbgr : 0 ≤ bg ∧ bg ≤ 359 + 240 * n := by rw [← hbg]; split <;> omega
  rw [hbg]
  cases hb : (if Z 1 p.toNat = to then none else bst T fr (Z 0) p (pK T p) bg (Z 1 p.toNat) to) with
  | none => exact weak
  | some x =>
    by_cases q : Z 1 p.toNat = to
    · rw [if_pos q] at hb; cases hb
    · rw [if_neg q] at hb
      have hm := bst_mins hT hp0 hp1 hbgr.1 q hb
      refine ⟨fun r hr => ?_, fun s hs => ⟨?_, ?_⟩, ?_⟩
      · show -1 ≤ wO T fr (Z 0) p bg x.2.2 r ∧ wO T fr (Z 0) p bg x.2.2 r < T 2
        have hr0 := h.1 r hr
        unfold wO
        by_cases z : r ∈ x.2.2
        · rw [if_pos z]
          by_cases c : cms T fr (Z 0) p r (tmA T bg x.2.2 r)
          · rw [obh_y c]; omega
          · rw [obh_n c, Int.toNat_natCast]; exact hr0
        · rw [if_neg z]; exact hr0
      · show 0 ≤ (if s = p.toNat then to else Z 1 s) ∧ (if s = p.toNat then to else Z 1 s) < T 0
        have := (h.2.1 s hs).1
        split <;> omega
      · show 0 ≤ (if s = p.toNat then x.2.1 else Z 2 s) ∧ (if s = p.toNat then x.2.1 else Z 2 s) ≤ 359 + 240 * (n + 1)
        have := (h.2.1 s hs).2
        split <;> omega
      · show 0 ≤ (if (0 : Nat) = 0 then (if Z 9 0 < x.2.1 then x.2.1 else Z 9 0) else _) ∧ (if (0 : Nat) = 0 then (if Z 9 0 < x.2.1 then x.2.1 else Z 9 0) else _) ≤ 100000
        rw [if_pos rfl]
        have := h.2.2
        split <;> omega
/-! THE REFERENCE'S ERRAND -/
def RZ (w : AW) : Nat → Nat → Int := fun f k => match f with
  | 0 => w.1 10 k
  | 1 => w.1 25 k
  | 2 => w.1 26 k
  | 3 => w.1 27 k
  | 4 => w.1 28 k
  | 5 => w.1 29 k
  | 6 => w.1 30 k
  | 7 => w.1 31 k
  | 8 => w.1 32 k
  | _ => w.1 0 (60 + k)
abbrev Swk (j k : Nat) : Prop := j = 10 ∨ j = 27 ∨ j = 28 ∨ j = 29 ∨ j = 31 ∨ j = 32
theorem cv_walk {F : Nat} {T : Nat → Int} {fr p bg : Int} {w : AW} {x : Cd} {P : AW → Prop} (hF : FB F) (hT : TK T) (hH : HA w T) (hO : OK T (w.1 10)) (hf : w.1 0 28 = fr) (hfr : -1 ≤ fr ∧ fr < 14) (hp0 : 0 ≤ p) (hp1 : p < T 2) (hbg : 0 ≤ bg ∧ bg ≤ 100000) (hB : BI w (some x)) (hl : x.2.2.length ≤ 9) (hnd : x.2.2.Nodup) (hr : ∀ r ∈ x.2.2, r < (T 1).toNat) (hp : ∀ w', Fr Swk w w' → (∀ r : Nat, (r : Int) < T 1 → w'.1 10 r = wO T fr (w.1 10) p bg x.2.2 r) → (∀ k, w'.1 27 k = if k = p.toNat then w.1 27 k + sumL (fun r => rM T r) x.2.2 else w.1 27 k) → (∀ k, w'.1 28 k = if k = p.toNat then w.1 28 k + sumL (fun r => pys T fr (w.1 10) p r) x.2.2 else w.1 28 k) → (∀ k, w'.1 29 k = w.1 29 k + sumL (fun r => if w.1 10 r = k then pys T fr (w.1 10) p r else 0) x.2.2) → (∀ k, w'.1 31 k = w.1 31 k + (if k ∈ x.2.2 then 1 else 0)) → (∀ k, w'.1 32 k = w.1 32 k + (if k ∈ x.2.2 then pys T fr (w.1 10) p k else 0)) → P w') : CV (m_X9_walk F [vR 0, vI p, vI bg] w) P := by
  obtain ⟨b1, b2, b3, b4⟩ := hB
  have a1 := hT.2.1
  have a2 := hT.2.2.1
  refine wp_X9_walk F p bg w _ ?_
  refine tt_for (K := k_X9_walk_5 F) (x.2.2.length : Int) (fun i w' l => Fr Swk w w' ∧ 0 ≤ i ∧ i ≤ x.2.2.length ∧ (∃ v5 v6, l = [vR 0, vI p, vI bg, vI (bg + sumL (fun r => rM T r) (x.2.2.take i.toNat)), vI i, v5, v6]) ∧ (∀ r : Nat, (r : Int) < T 1 → w'.1 10 r = wO T fr (w.1 10) p bg (x.2.2.take i.toNat) r) ∧ (∀ k, w'.1 27 k = w.1 27 k) ∧ (∀ k, w'.1 28 k = if k = p.toNat then w.1 28 k + sumL (fun r => pys T fr (w.1 10) p r) (x.2.2.take i.toNat) else w.1 28 k) ∧ (∀ k, w'.1 29 k = w.1 29 k + sumL (fun r => if w.1 10 r = k then pys T fr (w.1 10) p r else 0) (x.2.2.take i.toNat)) ∧ (∀ k, w'.1 31 k = w.1 31 k + (if k ∈ x.2.2.take i.toNat then 1 else 0)) ∧ (∀ k, w'.1 32 k = w.1 32 k + (if k ∈ x.2.2.take i.toNat then pys T fr (w.1 10) p k else 0))) ?_ F 0 _ w (by omega) ⟨Fr.rf, by omega, by omega, ⟨vU, vU, by show _ = [vR 0, vI p, vI bg, vI (bg + 0), vI 0, vU, vU]; rw [Int.add_zero]⟩, fun r _ => by show _ = wO T fr (w.1 10) p bg [] r; unfold wO; rw [if_neg (by simp)], fun k => rfl, fun k => by show _ = if k = p.toNat then w.1 28 k + 0 else w.1 28 k; split <;> omega, fun k => by show _ = w.1 29 k + 0; omega, fun k => by show _ = w.1 31 k + (if k ∈ ([] : List Nat) then 1 else 0); rw [if_neg (by simp)]; omega, fun k => by show _ = w.1 32 k + (if k ∈ ([] : List Nat) then _ else 0); rw [if_neg (by simp)]; omega⟩
  rintro n i l w1 ⟨f1, hi0, hi1, ⟨v5, v6, rfl⟩, g10, g27, g28, g29, g31, g32⟩ hk
  have hH1 : HA w1 T := hH.fr f1 (by intro j k; simp only [SHA, Swk]; omega)
  have hf1 : w1.1 0 28 = fr := by rw [f1.I 0 28 (by simp [Swk])]; exact hf
  rw [ks_X9_walk_5]
  refine wp_X9_walk_5 F _ p bg _ i v5 v6 w1 _ ?_
  rw [f1.I 0 46 (by simp [Swk]), b2, w_id (x := i) (by omega) (by omega), w_id (x := (x.2.2.length : Int)) (by omega) (by omega)]
  refine ⟨fun q => ⟨⟨hi0, by omega⟩, fun x2 ex2 => ?_⟩, fun q => ⟨⟨hp0, by omega⟩, ⟨hp0, by omega⟩, fun w2 e2 => q_v (hp w2 ?_ ?_ ?_ ?_ ?_ ?_ ?_)⟩⟩
  · have hlt : i.toNat < x.2.2.length := by omega
    obtain ⟨r, hrd⟩ : ∃ r, x.2.2[i.toNat] = r := ⟨_, rfl⟩
    rw [f1.I 21 _ (by simp [Swk]), b4 _ hlt, List.getD_eq_getElem?_getD, List.getElem?_eq_getElem hlt, hrd] at ex2
    have ex2 : x2 = (r : Int) := ex2
    subst ex2
    have hR := hr r (by rw [← hrd]; exact List.getElem_mem hlt)
    have h0 : (0 : Int) ≤ r := by omega
    have h1 : (r : Int) < T 1 := by omega
    have htk : x.2.2.take (i + 1).toNat = x.2.2.take i.toNat ++ [r] := by
      rw [show (i + 1).toNat = i.toNat + 1 from by omega, List.take_succ_eq_append_getElem hlt, hrd]
    obtain ⟨pre, hpre⟩ : ∃ pre, x.2.2.take i.toNat = pre := ⟨_, rfl⟩
    rw [hpre] at htk g10 g28 g29 g31 g32
    rw [hpre]
    have hnp : r ∉ pre := by
      have hsub : (pre ++ [r]).Nodup := by rw [← htk]; exact List.Nodup.sublist (List.take_sublist _ _) hnd
      rw [List.nodup_append] at hsub
      intro z
      exact hsub.2.2 r z r (by simp) rfl
    have hpl : pre.length ≤ 9 := by rw [← hpre, List.length_take]; omega
    have hO1 : OK T (w1.1 10) := by
      intro r' h0' h1'
      rw [g10 r'.toNat (by omega)]
      unfold wO
      have := hO r' h0' h1'
      by_cases z : r'.toNat ∈ pre
      · rw [if_pos z]
        by_cases c : cms T fr (w.1 10) p (r'.toNat : Nat) (tmA T bg pre r'.toNat)
        · rw [obh_y c]; omega
        · rw [obh_n c, Int.toNat_natCast]; exact this
      · rw [if_neg z]; exact this
    have own_r : w1.1 10 r = w.1 10 r := by rw [g10 r h1]; unfold wO; rw [if_neg hnp]
    have hpy : pys T fr (w1.1 10) p r = pys T fr (w.1 10) p r := pys_congr (by rw [Int.toNat_natCast]; exact own_r)
    have hOr := hO r h0 h1
    rw [Int.toNat_natCast] at hOr
    have hpb := pys_b (fr := fr) (p := p) (O := w.1 10) hT h0 h1
    have htm := (hT.road h0 h1).2.2.2.1
    have hsb : 0 ≤ sumL (fun r => rM T r) pre ∧ sumL (fun r => rM T r) pre ≤ 30 * pre.length := by
      have hpm : ∀ r' ∈ pre, r' < (T 1).toNat := fun r' hr' => hr r' (by rw [← hpre] at hr'; exact List.mem_of_mem_take hr')
      clear hpre htk g10 g28 g29 g31 g32 hnp hpl hk hO1 own_r hpy
      induction pre with
      | nil => exact ⟨Int.le_refl _, Int.le_refl _⟩
      | cons a pre ih =>
        have := ih (fun r' hr' => hpm r' (List.mem_cons_of_mem _ hr'))
        have ha := hpm a List.mem_cons_self
        have hb := (hT.road (r := a) (by omega) (by omega)).2.2.2.1
        have e : sumL (fun r => rM T r) (a :: pre) = rM T a + sumL (fun r => rM T r) pre := by unfold sumL; simp
        rw [e, List.length_cons]
        push_cast
        omega
    refine ci_pays hH1 hT hO1 hf1 hfr ⟨by omega, by omega⟩ h0 h1 ⟨⟨hp0, by omega⟩, ⟨hp0, by omega⟩, fun w2 e2 => ?_⟩
    rw [hpy] at e2 ⊢
    rw [w_id (x := pys T fr (w.1 10) p r) (by omega) (by omega)]
    have f2 : Fr Swk w w2 := by rw [e2]; exact f1.wI _ (by simp [Swk])
    have o2 : w2.1 10 r = w.1 10 r := by rw [e2, wI_cell _ _ _ _ (by decide)]; exact own_r
    -- behind the payment
    have rest : ∀ w3 : AW, Fr Swk w w3 → (∀ r : Nat, (r : Int) < T 1 → w3.1 10 r = wO T fr (w.1 10) p bg pre r) → (∀ k, w3.1 27 k = w.1 27 k) → (∀ k, w3.1 28 k = if k = p.toNat then w.1 28 k + sumL (fun r => pys T fr (w.1 10) p r) (pre ++ [r]) else w.1 28 k) → (∀ k, w3.1 29 k = w.1 29 k + sumL (fun r => if w.1 10 r = k then pys T fr (w.1 10) p r else 0) (pre ++ [r])) → (∀ k, w3.1 31 k = w1.1 31 k) → (∀ k, w3.1 32 k = w1.1 32 k) → TT (k_X9_walk_65 F (k_X9_walk_5 F n) [vR 0, vI p, vI bg, vI (bg + sumL (fun r => rM T r) pre), vI i, vI r, vI (pys T fr (w.1 10) p r)] [] w3) (qq 0 (fun r w => r = none ∧ P w)) := by
      intro w3 f3 k10 k27 k28 k29 k31 k32
      refine wp_X9_walk_65 F _ p bg _ i r _ w3 _ ⟨⟨h0, by omega⟩, ⟨h0, by omega⟩, fun w4 e4 => ⟨⟨h0, by omega⟩, ⟨h0, by omega⟩, fun w5 e5 => ?_⟩⟩
      rw [Int.toNat_natCast] at e4 e5
      have f5 : Fr Swk w w5 := by rw [e5, e4]; exact (f3.wI _ (by simp [Swk])).wI _ (by simp [Swk])
      have c5 : ∀ j k, j ≠ 31 → j ≠ 32 → w5.1 j k = w3.1 j k := fun j k z1 z2 => by rw [e5, wI_cell _ _ _ _ z2, e4, wI_cell _ _ _ _ z1]
      have hH5 : HA w5 T := hH.fr f5 (by intro j k; simp only [SHA, Swk]; omega)
      have hf5 : w5.1 0 28 = fr := by rw [f5.I 0 28 (by simp [Swk])]; exact hf
      have hO5 : OK T (w5.1 10) := by
        intro r' h0' h1'
        rw [c5 10 _ (by decide) (by decide), k10 r'.toNat (by omega), ← g10 r'.toNat (by omega)]
        exact hO1 r' h0' h1'
      have o5 : w5.1 10 r = w.1 10 r := by
        rw [c5 10 _ (by decide) (by decide), k10 r h1]; unfold wO; rw [if_neg hnp]
      have hcm : cms T fr (w5.1 10) p r (bg + sumL (fun r => rM T r) pre) ↔ cms T fr (w.1 10) p r (bg + sumL (fun r => rM T r) pre) := cms_congr (by rw [Int.toNat_natCast]; exact o5)
      have fin : ∀ v : Int, v = obh T fr (w.1 10) p r (bg + sumL (fun r => rM T r) pre) → TT (k_X9_walk_116 F (k_X9_walk_5 F n) [vR 0, vI p, vI bg, vI (bg + sumL (fun r => rM T r) pre), vI i, vI r, vI (pys T fr (w.1 10) p r)] [vI v, vI r, vR 10] w5) (qq 0 (fun r w => r = none ∧ P w)) := by
        intro v hv
        refine wp_X9_walk_116 F _ p bg _ i r _ v r w5 _ ⟨⟨h0, by omega⟩, fun w6 e6 => ?_⟩
        rw [Int.toNat_natCast] at e6
        have f6 : Fr Swk w w6 := by rw [e6]; exact f5.wI _ (by simp [Swk])
        have hH6 : HA w6 T := hH.fr f6 (by intro j k; simp only [SHA, Swk]; omega)
        have c6 : ∀ j k, j ≠ 10 → w6.1 j k = w5.1 j k := fun j k z => by rw [e6, wI_cell _ _ _ _ z]
        refine ci_rM hH6 hT h0 h1 (fun t et => hk _ _ ⟨f6, by omega, by omega, ⟨vI r, vI (pys T fr (w.1 10) p r), ?_⟩, fun r' h' => ?_, fun k => ?_, fun k => ?_, fun k => ?_, fun k => ?_, fun k => ?_⟩ q)
        · rw [htk, sumL_snoc, et, show bg + (sumL (fun r => rM T r) pre + rM T r) = bg + sumL (fun r => rM T r) pre + rM T r from by omega]
        · rw [htk, e6, wI_at]
          by_cases z : r' = r
          · rw [if_pos ⟨rfl, z⟩, z]
            unfold wO
            rw [if_pos (by simp), tmA_snoc, if_neg hnp, if_pos rfl]
            exact hv
          · rw [if_neg (fun y => z y.2), c5 10 _ (by decide) (by decide), k10 r' h']
            unfold wO
            by_cases y : r' ∈ pre
            · rw [if_pos y, if_pos (by simp [y]), tmA_snoc, if_pos y]
            · rw [if_neg y, if_neg (by simp [y, z])]
        · rw [c6 27 k (by decide), c5 27 k (by decide) (by decide)]; exact k27 k
        · rw [htk, c6 28 k (by decide), c5 28 k (by decide) (by decide)]; exact k28 k
        · rw [htk, c6 29 k (by decide), c5 29 k (by decide) (by decide)]; exact k29 k
        · rw [htk, c6 31 k (by decide), e5, wI_cell _ _ _ _ (by decide), e4, wI_at]
          by_cases z : k = r
          · rw [if_pos ⟨rfl, z⟩, z, k31, g31, if_neg hnp, if_pos (by simp)]; omega
          · rw [if_neg (fun y => z y.2), k31, g31]
            by_cases y : k ∈ pre
            · rw [if_pos y, if_pos (by simp [y])]
            · rw [if_neg y, if_neg (by simp [y, z])]
        · rw [htk, c6 32 k (by decide), e5, wI_at]
          by_cases z : k = r
          · rw [if_pos ⟨rfl, z⟩, z, e4, wI_cell _ _ _ _ (by decide), k32, g32, if_neg hnp, if_pos (by simp)]; omega
          · rw [if_neg (fun y => z y.2), e4, wI_cell _ _ _ _ (by decide), k32, g32]
            by_cases y : k ∈ pre
            · rw [if_pos y, if_pos (by simp [y])]
            · rw [if_neg y, if_neg (by simp [y, z])]
      refine ci_comes hH5 hT hO5 hf5 hfr ⟨by omega, by omega⟩ ⟨by omega, by omega⟩ h0 h1 (fun c => br1 (fin p ?_)) (fun c => br0 ⟨⟨h0, by omega⟩, fin _ ?_⟩)
      · rw [obh_y (hcm.mp c)]
      · rw [Int.toNat_natCast, o5, obh_n (fun z => c (hcm.mpr z)), Int.toNat_natCast]
    have k28' : ∀ k, w2.1 28 k = if k = p.toNat then w.1 28 k + sumL (fun r => pys T fr (w.1 10) p r) (pre ++ [r]) else w.1 28 k := by
      intro k
      rw [e2, wI_at, sumL_snoc]
      by_cases z : k = p.toNat
      · rw [if_pos ⟨rfl, z⟩, if_pos z, z, g28, if_pos rfl]; omega
      · rw [if_neg (fun y => z y.2), if_neg z, g28, if_neg z]
    refine ⟨fun z => ⟨⟨h0, by omega⟩, ?_⟩, fun z => rest w2 f2 (fun r' h' => by rw [e2, wI_cell _ _ _ _ (by decide)]; exact g10 r' h') (fun k => by rw [e2, wI_cell _ _ _ _ (by decide)]; exact g27 k) k28' (fun k => ?_) (fun k => by rw [e2, wI_cell _ _ _ _ (by decide)]) (fun k => by rw [e2, wI_cell _ _ _ _ (by decide)])⟩
    · rw [Int.toNat_natCast, o2]
      have hne : w.1 10 r ≠ -1 := by
        intro e
        unfold pys at z
        rw [Int.toNat_natCast, if_neg (by omega)] at z
        omega
      refine ⟨⟨by omega, by omega⟩, ⟨by omega, by omega⟩, fun w3 e3 => rest w3 (by rw [e3]; exact f2.wI _ (by simp [Swk])) (fun r' h' => ?_) (fun k => ?_) (fun k => ?_) (fun k => ?_) (fun k => ?_) (fun k => ?_)⟩
      · rw [e3, wI_cell _ _ _ _ (by decide), e2, wI_cell _ _ _ _ (by decide)]; exact g10 r' h'
      · rw [e3, wI_cell _ _ _ _ (by decide), e2, wI_cell _ _ _ _ (by decide)]; exact g27 k
      · rw [e3, wI_cell _ _ _ _ (by decide)]; exact k28' k
      · rw [e3, wI_at, sumL_snoc]
        have e29 : ∀ k, w2.1 29 k = w1.1 29 k := fun k => by rw [e2, wI_cell _ _ _ _ (by decide)]
        by_cases y : k = (w.1 10 r).toNat
        · rw [if_pos ⟨rfl, y⟩, if_pos (by omega), ← y, e29, g29]; omega
        · rw [if_neg (fun u => y u.2), if_neg (by omega), e29, g29]; omega
      · rw [e3, wI_cell _ _ _ _ (by decide), e2, wI_cell _ _ _ _ (by decide)]
      · rw [e3, wI_cell _ _ _ _ (by decide), e2, wI_cell _ _ _ _ (by decide)]
    · rw [e2, wI_cell _ _ _ _ (by decide), g29, sumL_snoc]
      have : pys T fr (w.1 10) p r = 0 := by omega
      rw [this]
      split <;> omega
  · rw [e2]; exact f1.wI _ (by simp [Swk])
  all_goals (have hle : x.2.2.take i.toNat = x.2.2 := List.take_of_length_le (by omega); rw [hle] at g10 g28 g29 g31 g32 e2)
  · intro r hr'
    rw [e2, wI_cell _ _ _ _ (by decide)]; exact g10 r hr'
  · intro k
    rw [e2, wI_at]
    by_cases z : k = p.toNat
    · rw [if_pos ⟨rfl, z⟩, if_pos z, z, g27]; omega
    · rw [if_neg (fun y => z y.2), if_neg z]; exact g27 k
  · intro k; rw [e2, wI_cell _ _ _ _ (by decide)]; exact g28 k
  · intro k; rw [e2, wI_cell _ _ _ _ (by decide)]; exact g29 k
  · intro k; rw [e2, wI_cell _ _ _ _ (by decide)]; exact g31 k
  · intro k; rw [e2, wI_cell _ _ _ _ (by decide)]; exact g32 k
