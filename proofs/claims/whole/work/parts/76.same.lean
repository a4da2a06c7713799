/-! DAYS OF TOWNS THAT DIFFER IN WHAT DOES NOT MATTER -/
theorem Wy_congr0 {g g' : Mp} (hR : g.R = g'.R) (hc : ∀ r, r < g.R → g.a r = g'.a r ∧ g.b r = g'.b r ∧ g.m r = g'.m r ∧ 0 ≤ g'.m r ∧ ∀ t, 0 ≤ t → g.c r t = g'.c r t) {rd : Prop} {to : Int} : ∀ d s t c st vis, 0 ≤ t → Wy g rd to d s t c st vis = Wy g' rd to d s t c st vis
  | 0, s, t, c, st, vis, _ => rfl
  | d + 1, s, t, c, st, vis, ht => by
    rw [Wy_succ, Wy_succ, ← hR]
    have key : ∀ r ∈ List.range g.R, Ws g rd to d s t c st vis r = Ws g' rd to d s t c st vis r := by
      intro r hr
      obtain ⟨h1, h2, h3, h5, h4⟩ := hc r (List.mem_range.mp hr)
      have hf : frr g r s = frr g' r s := by unfold frr; rw [h1, h2]
      have ho : okr g rd r s st vis ↔ okr g' rd r s st vis := by unfold okr eds; rw [h1, h2, hf]
      by_cases hok : okr g rd r s st vis
      · have hok' := ho.mp hok
        unfold Ws
        rw [if_pos hok, if_pos hok', hf, h3, h4 t ht, Wy_congr0 hR hc d _ _ _ _ _ (by omega)]
      · rw [Ws_no hok, Ws_no (fun z => hok (ho.mpr z))]
    generalize List.range g.R = rs at key
    induction rs with
    | nil => rfl
    | cons r rs ih => rw [List.flatMap_cons, List.flatMap_cons, key r List.mem_cons_self, ih (fun r' hr' => key r' (List.mem_cons_of_mem _ hr'))]
theorem bst_E {T T' : Nat → Int} {fr fr' : Int} {O O' : Nat → Int} {p kind mi fm to : Int} (hT : TK T) (a : RdE T T') (hc : ∀ r : Int, 0 ≤ r → r < T 1 → ∀ t, 0 ≤ t → cst T' fr' O' p kind r t = cst T fr O p kind r t) (hmi : 0 ≤ mi) : bst T' fr' O' p kind mi fm to = bst T fr O p kind mi fm to := by
  have a1 := hT.2.1
  have e : bsl T' fr' O' p kind mi fm to = bsl T fr O p kind mi fm to := by
    unfold bsl
    rw [a.1]
    refine Wy_congr0 (g := mp T' fr' O' p kind) (g' := mp T fr O p kind) (show (T' 1).toNat = (T 1).toNat by rw [a.2.1]) (fun r hr => ?_) _ _ _ _ _ _ hmi
    have hr : r < (T' 1).toNat := hr
    rw [a.2.1] at hr
    obtain ⟨e1, e2, e3⟩ := a.2.2 r (by omega) (by omega)
    have := (hT.road (r := r) (by omega) (by omega)).2.2.2.1
    exact ⟨e1, e2, e3, show 0 ≤ rM T r by omega, fun t ht => hc r (by omega) (by omega) t ht⟩
  unfold bst
  rw [e]
theorem dsv_E {T T' : Nat → Int} (hT : TK T) (a : RdE T T') (p q : Int) : dsv T' p q = dsv T p q := by
  unfold dsv
  rw [Jt_RdE hT a]
/-- states that say the same but for whose road x is -/
def ZF (T : Nat → Int) (x : Int) (Z Z' : Nat → Nat → Int) : Prop := (∀ r : Nat, (r : Int) < T 1 → (r : Int) ≠ x → Z 0 r = Z' 0 r) ∧ (∀ p : Nat, (p : Int) < T 2 → Z 1 p = Z' 1 p ∧ Z 2 p = Z' 2 p) ∧ (∀ p : Nat, p < 8 → Z 3 p = Z' 3 p ∧ Z 4 p = Z' 4 p ∧ Z 5 p = Z' 5 p ∧ Z 6 p = Z' 6 p) ∧ (∀ r : Nat, r < 14 → Z 7 r = Z' 7 r ∧ Z 8 r = Z' 8 r) ∧ Z 9 0 = Z' 9 0 ∧ Z 9 1 = Z' 9 1
theorem fig_zf {T : Nat → Int} {x : Int} {Z Z' : Nat → Nat → Int} (h : ZF T x Z Z') {q : Nat} (hq : q < 8) (what : Int) : fig T Z q what = fig T Z' q what := by
  obtain ⟨h3, h4, h5, h6⟩ := h.2.2.1 q hq
  unfold fig
  rw [h3, h4, h5, h6]
theorem figS_zf {T : Nat → Int} {x : Int} {Z Z' : Nat → Nat → Int} (h : ZF T x Z Z') (what : Int) : ∀ n, n ≤ 8 → figS T Z what n = figS T Z' what n
  | 0, _ => rfl
  | n + 1, hn => by
    unfold figS
    rw [figS_zf h what n (by omega), fig_zf h (by omega)]
/-- what must agree for one walker -/
def AGr (T T' : Nat → Int) (fr fr' x p : Int) : Prop := ∀ O O' : Nat → Int, (∀ r : Nat, (r : Int) < T 1 → (r : Int) ≠ x → O r = O' r) → ∀ r : Int, 0 ≤ r → r < T 1 → pys T' fr' O' p r = pys T fr O p r ∧ (r = x → pys T fr O p r = 0) ∧ (r ≠ x → ∀ t, cms T' fr' O' p r t ↔ cms T fr O p r t) ∧ ∀ t, 0 ≤ t → cst T' fr' O' p (pK T p) r t = cst T fr O p (pK T p) r t
theorem gOne_E {T T' : Nat → Int} {fr fr' x p to mi : Int} {Z Z' : Nat → Nat → Int} (hT : TK T) (a : RdE T T') (hp0 : 0 ≤ p) (hp1 : p < T 2) (hk : pK T' p = pK T p) (hA : AGr T T' fr fr' x p) (hmi : 0 ≤ mi) (h : ZF T x Z Z') : ZF T x (gOne T fr p to mi Z) (gOne T' fr' p to mi Z') := by
  have e1 := h.2.1 p.toNat (by omega)
  have hG := hA (Z 0) (Z' 0) h.1
  have hbg : 0 ≤ (if mi < Z 2 p.toNat then Z 2 p.toNat else mi) := by split <;> omega
  unfold gOne
  rw [← e1.1, ← e1.2, hk, bst_E (O := Z 0) (O' := Z' 0) (fr := fr) hT a (fun r x y => (hG r x y).2.2.2) hbg]
  cases hb : (if Z 1 p.toNat = to then none else bst T fr (Z 0) p (pK T p) (if mi < Z 2 p.toNat then Z 2 p.toNat else mi) (Z 1 p.toNat) to) with
  | none => exact h
  | some c =>
    have hx : bst T fr (Z 0) p (pK T p) (if mi < Z 2 p.toNat then Z 2 p.toNat else mi) (Z 1 p.toNat) to = some c := by
      by_cases q : Z 1 p.toNat = to
      · rw [if_pos q] at hb; cases hb
      · rw [if_neg q] at hb; exact hb
    have hrow := bst_row hT hx
    have hrr : ∀ r ∈ c.2.2, (0 : Int) ≤ (r : Int) ∧ (r : Int) < T 1 := fun r hr => ⟨by omega, by have := hrow.2.2.2.1 r hr; omega⟩
    have hpy : ∀ r ∈ c.2.2, pys T fr (Z 0) p r = pys T' fr' (Z' 0) p r := fun r hr' => (hG r (hrr r hr').1 (hrr r hr').2).1.symm
    refine ⟨fun r hr' hrx => ?_, fun q hq => ⟨?_, ?_⟩, fun q hq => ⟨?_, ?_, ?_, ?_⟩, fun r hr' => ⟨?_, ?_⟩, ?_, ?_⟩
    · show wO T fr (Z 0) p _ c.2.2 r = wO T' fr' (Z' 0) p _ c.2.2 r
      have htm : ∀ (l : List Nat) (t : Int), (∀ q ∈ l, q < (T 1).toNat) → tmA T' t l r = tmA T t l r := by
        intro l
        induction l with
        | nil => intro t _; rfl
        | cons q l ih =>
          intro t hl
          have hq := hl q List.mem_cons_self
          have a1 := hT.2.1
          unfold tmA
          rw [(a.2.2 q (by omega) (by omega)).2.2, ih _ (fun q' hq' => hl q' (List.mem_cons_of_mem _ hq'))]
      unfold wO
      by_cases q : r ∈ c.2.2
      · rw [if_pos q, if_pos q, htm _ _ (fun q' hq' => by have := hrow.2.2.2.1 q' hq'; omega)]
        have hcm := (hG r (hrr r q).1 (hrr r q).2).2.2.1 hrx (tmA T (if mi < Z 2 p.toNat then Z 2 p.toNat else mi) c.2.2 r)
        have e : Z 0 ((r : Int)).toNat = Z' 0 ((r : Int)).toNat := by rw [Int.toNat_natCast]; exact h.1 r hr' hrx
        by_cases y : cms T fr (Z 0) p r (tmA T (if mi < Z 2 p.toNat then Z 2 p.toNat else mi) c.2.2 r)
        · rw [obh_y y, obh_y (hcm.mpr y)]
        · rw [obh_n y, obh_n (fun z => y (hcm.mp z)), e]
      · rw [if_neg q, if_neg q]; exact h.1 r hr' hrx
    · show (if q = p.toNat then to else Z 1 q) = (if q = p.toNat then to else Z' 1 q)
      rw [(h.2.1 q hq).1]
    · show (if q = p.toNat then c.2.1 else Z 2 q) = (if q = p.toNat then c.2.1 else Z' 2 q)
      rw [(h.2.1 q hq).2]
    · show (if q = p.toNat then Z 3 q + _ else Z 3 q) = (if q = p.toNat then Z' 3 q + _ else Z' 3 q)
      rw [(h.2.2.1 q hq).1]
    · show (if q = p.toNat then Z 4 q + _ else Z 4 q) = (if q = p.toNat then Z' 4 q + _ else Z' 4 q)
      rw [(h.2.2.1 q hq).2.1, sumL_congr hpy]
    · show Z 5 q + _ = Z' 5 q + _
      rw [(h.2.2.1 q hq).2.2.1]
      congr 1
      refine sumL_congr (fun r hr' => ?_)
      rw [← hpy r hr']
      by_cases y : (r : Int) = x
      · have := (hG r (hrr r hr').1 (hrr r hr').2).2.1 y
        rw [this]
        split <;> split <;> rfl
      · rw [h.1 r (hrr r hr').2 y]
    · show (if q = p.toNat then Z 6 q + _ else Z 6 q) = (if q = p.toNat then Z' 6 q + _ else Z' 6 q)
      rw [(h.2.2.1 q hq).2.2.2, dsv_E hT a]
    · show Z 7 r + _ = Z' 7 r + _
      rw [(h.2.2.2.1 r hr').1]
    · show Z 8 r + (if r ∈ c.2.2 then pys T fr (Z 0) p r else 0) = Z' 8 r + (if r ∈ c.2.2 then pys T' fr' (Z' 0) p r else 0)
      rw [(h.2.2.2.1 r hr').2]
      by_cases q : r ∈ c.2.2
      · rw [if_pos q, if_pos q, hpy r q]
      · rw [if_neg q, if_neg q]
    · show (if (0 : Nat) = 0 then (if Z 9 0 < c.2.1 then c.2.1 else Z 9 0) else _) = (if (0 : Nat) = 0 then (if Z' 9 0 < c.2.1 then c.2.1 else Z' 9 0) else _)
      rw [if_pos rfl, if_pos rfl, h.2.2.2.2.1]
    · show (if (1 : Nat) = 0 then _ else Z 9 1 + _) = (if (1 : Nat) = 0 then _ else Z' 9 1 + _)
      rw [if_neg (show ¬ ((1 : Nat) = 0) by decide), if_neg (show ¬ ((1 : Nat) = 0) by decide), h.2.2.2.2.2]
theorem gAll_E {T T' : Nat → Int} {fr fr' x : Int} (hT : TK T) (a : RdE T T') (er : ErE T T') (em : EmE T T') : ∀ (es : List Nat) (Z Z' : Nat → Nat → Int), (∀ e ∈ es, (e : Int) < T 3 ∧ pK T' (eW T e) = pK T (eW T e) ∧ AGr T T' fr fr' x (eW T e)) → ZF T x Z Z' → ZF T x (gAll T fr es Z) (gAll T' fr' es Z')
  | [], Z, Z', _, h => h
  | e :: es, Z, Z', he, h => by
    have a3 := hT.2.2.2.1
    obtain ⟨h1, h2, h3⟩ := he e List.mem_cons_self
    have hw := hT.erra (e := e) (by omega) h1
    have hs := gOne_E (to := eP T e) (mi := eM T e) hT a hw.1.1 hw.1.2 h2 h3 hw.2.2.1.1 h
    have := gAll_E hT a er em es _ _ (fun b hb => he b (List.mem_cons_of_mem _ hb)) hs
    obtain ⟨e1, e2, -⟩ := er.2 e (by omega) (by omega)
    show ZF T x (gAll T fr es (gOne T fr (eW T e) (eP T e) (eM T e) Z)) (gAll T' fr' es (gOne T' fr' (eW T' e) (eP T' e) (eM T' e) Z'))
    rw [e1, e2, em e (by omega) (by omega)]
    exact this
theorem ordl_E {T T' : Nat → Int} {set : Int} (hT : TK T) (er : ErE T T') (em : EmE T T') : ordl T' set = ordl T set := by
  have a3 := hT.2.2.2.1
  obtain ⟨h1, h2, h3⟩ := ordl_ok T set
  symm
  refine ordl_eq ⟨?_, ?_, ?_⟩
  · refine List.Pairwise.imp_of_mem (fun {b c} hb hc hbc => ?_) h1
    have hb' := (h2 b).mp hb
    have hc' := (h2 c).mp hc
    unfold elt' at hbc ⊢
    rw [em b (by omega) (by omega), em c (by omega) (by omega)]
    exact hbc
  · rw [er.1]; exact h2
  · rw [er.1]; exact h3
theorem gAd_E {T T' : Nat → Int} {fr fr' x set : Int} (hT : TK T) (a : RdE T T') (er : ErE T T') (em : EmE T T') (ph : PhE T T') (hag : ∀ e ∈ ordl T set, pK T' (eW T e) = pK T (eW T e) ∧ AGr T T' fr fr' x (eW T e)) (hown : ∀ r : Nat, (r : Int) < T 1 → (r : Int) ≠ x → own0 T' fr' r = own0 T fr r) : ZF T x (gAd T fr set) (gAd T' fr' set) := by
  have a2 := hT.2.2.1
  unfold gAd gDay
  rw [ordl_E hT er em]
  refine gAll_E hT a er em _ _ _ (fun e he => ⟨by have := ((ordl_ok T set).2.1 e).mp he; omega, hag e he⟩) ⟨fun r hr hx => (hown r hr hx).symm, fun p hp => ⟨(ph p (by omega) (by omega)).symm, rfl⟩, fun p hp => ⟨rfl, rfl, rfl, rfl⟩, fun r hr => ⟨rfl, rfl⟩, rfl, rfl⟩
/-- towns that differ in kinds, houses, minutes and owners: the same costs -/
theorem AGr_E {T T' : Nat → Int} {fr p : Int} (hT : TK T) (a : RdE T T') (rp : RpE T T') (c : RcE T T') (pc : PcE T T') (lw : LwE T T') (hp0 : 0 ≤ p) (hp1 : p < T 2) : AGr T T' fr fr (-1) p := by
  intro O O' hO r h0 h1
  have a1 := hT.2.1
  have a2 := hT.2.2.1
  have e0 : O r.toNat = O' r.toNat := hO r.toNat (by omega) (by omega)
  have e1 : pys T' fr O' p r = pys T fr O p r := by
    unfold pys
    rw [e0, pny_E rp h0 (by omega)]
  have e2 : ∀ t, cms T' fr O' p r t ↔ cms T fr O p r t := fun t => by
    unfold cms
    rw [e0, show T' 4 = T 4 from lw, c.1]
  refine ⟨e1, fun z => by omega, fun _ => e2, fun t ht => ?_⟩
  unfold cst
  have hh : 0 ≤ hrt t + 1 ∧ hrt t + 1 ≤ 6 := by unfold hrt; split <;> omega
  rw [e1, (a.2.2 r h0 (by omega)).2.2, pc.2 p hp0 (by omega), wrt_E rp c lw h0 (by omega) hh.1 hh.2]
  have : (pK T p = 2 ∧ cms T' fr O' p r t) = (pK T p = 2 ∧ cms T fr O p r t) := propext ⟨fun z => ⟨z.1, (e2 t).mp z.2⟩, fun z => ⟨z.1, (e2 t).mpr z.2⟩⟩
  rw [this]
/-- who has no errand needs no kind -/
theorem nk_none {T : Nat → Int} {set p k : Int} (hT : TK T) (h0 : 0 ≤ p) (h1 : p < T 2) (hno : ∀ e : Nat, (e : Int) < T 3 → tb set e = true → eW T e ≠ p) : nk T set p k = fig T (gAd T (-1) set) p.toNat 4 := by
  have a2 := hT.2.2.1
  have a1 := hT.2.1
  obtain ⟨a, rp, rh, c, pc, ph, er, em, lw⟩ := kd_E (T := T) (v := k) h0 (show p < 8 by omega)
  have := gAd_E (fr := -1) (fr' := -1) (x := -1) (set := set) hT a er em ph (fun e he => ?_) (fun r hr _ => ?_)
  · unfold nk
    exact (fig_zf this (by omega) 4).symm
  · have hm := ((ordl_ok T set).2.1 e).mp he
    have hw := hT.erra (e := e) (by omega) (by omega)
    refine ⟨?_, AGr_E hT a rp c pc lw hw.1.1 hw.1.2⟩
    rw [kd_K h0 hw.1.1, if_neg (hno e (by omega) hm.2)]
  · unfold own0
    rw [show kd T p k 4 = T 4 from lw, rh r (by omega) (by omega)]
/-- a free road is as one without a penny -/
def pn0 (T : Nat → Int) (r : Int) : Nat → Int := fu T (9 + 11 * r) 0
theorem wlp_0 {T : Nat → Int} {fr r : Int} (h : pny T fr r = 0) : ∀ (n : Nat) (k W s : Int), wlp T fr r n k W s = s
  | 0, _, _, _ => rfl
  | n + 1, k, W, s => by
    unfold wlp
    rw [wlp_0 h n, h]
    omega
theorem pn0_E {T : Nat → Int} {r : Int} (h0 : 0 ≤ r) (h1 : r < 14) : RdE T (pn0 T r) ∧ RhE T (pn0 T r) ∧ RcE T (pn0 T r) ∧ PcE T (pn0 T r) ∧ PhE T (pn0 T r) ∧ PkE T (pn0 T r) ∧ ErE T (pn0 T r) ∧ EmE T (pn0 T r) ∧ LwE T (pn0 T r) := ⟨rdE_fu (by omega) (fun r x y => by omega), rhE_fu (fun r x y => by omega), rcE_fu (by omega) (fun r x y => by omega), pcE_fu (by omega) (fun r x y => by omega), phE_fu (fun r x y => by omega), pkE_fu (fun r x y => by omega), erE_fu (by omega) (fun r x y => by omega), emE_fu (fun r x y => by omega), lwE_fu (by omega)⟩
theorem pn0_P {T : Nat → Int} {r q : Int} (h0 : 0 ≤ r) (h1 : 0 ≤ q) : rP (pn0 T r) q = if q = r then 0 else rP T q := by
  by_cases e : q = r
  · rw [if_pos e]; exact fu_eq (by omega)
  · rw [if_neg e]; exact fu_ne (by omega)
theorem pn0_pny {T : Nat → Int} {r q : Int} (h0 : 0 ≤ r) (h1 : 0 ≤ q) : pny (pn0 T r) (-1) q = pny T r q := by
  unfold pny
  rw [if_neg (by omega), pn0_P h0 h1]
theorem wlp_pn {T T' : Nat → Int} {fr fr' r : Int} (hc : RcE T T') (hl : LwE T T') (hp : pny T' fr' r = pny T fr r) (h0 : 0 ≤ r) (h1 : r < 14) : ∀ (n : Nat) (h W s : Int), 0 ≤ h → h + n ≤ 6 → wlp T' fr' r n h W s = wlp T fr r n h W s
  | 0, _, _, _, _, _ => rfl
  | n + 1, h, W, s, x, y => by
    unfold wlp
    rw [hp, hc.2 r h0 h1 h x (by omega), hc.1, show T' 4 = T 4 from hl, wlp_pn hc hl hp h0 h1 n (h + 1) _ _ (by omega) (by omega)]
theorem AGr_pn0 {T : Nat → Int} {r p : Int} (hT : TK T) (hr0 : 0 ≤ r) (hr1 : r < T 1) (hp0 : 0 ≤ p) (hp1 : p < T 2) : AGr T (pn0 T r) r (-1) r p := by
  intro O O' hO q h0 h1
  have a1 := hT.2.1
  have a2 := hT.2.2.1
  obtain ⟨a, rh, c, pc, ph, pk, er, em, lw⟩ := pn0_E (T := T) (r := r) hr0 (by omega)
  have hpn := pn0_pny (T := T) hr0 h0
  have hh : ∀ t, 0 ≤ t → 0 ≤ hrt t + 1 ∧ hrt t + 1 ≤ 6 := fun t ht => by unfold hrt; split <;> omega
  have hw : ∀ h, 0 ≤ h → h ≤ 6 → wrt (pn0 T r) (-1) q h = wrt T r q h := fun h x y => by
    unfold wrt
    rw [show pn0 T r 4 = T 4 from lw, wlp_pn c lw hpn h0 (by omega) _ h _ _ x (by omega)]
  by_cases e : q = r
  · have z : pny T r q = 0 := by unfold pny; rw [if_pos e]
    have z1 : pys T r O p q = 0 := by unfold pys; rw [z]; split <;> rfl
    have z2 : pys (pn0 T r) (-1) O' p q = 0 := by unfold pys; rw [hpn, z]; split <;> rfl
    have z3 : ∀ h, wrt T r q h = 0 := fun h => by
      unfold wrt
      rw [wlp_0 z]
      split <;> rfl
    refine ⟨by rw [z1, z2], fun _ => z1, fun y => absurd e y, fun t ht => ?_⟩
    unfold cst
    rw [z1, z2, (a.2.2 q h0 (by omega)).2.2, pc.2 p hp0 (by omega), hw _ (hh t ht).1 (hh t ht).2, z3]
    simp
  · have e0 : O q.toNat = O' q.toNat := hO q.toNat (by omega) (by omega)
    have e1 : pys (pn0 T r) (-1) O' p q = pys T r O p q := by unfold pys; rw [e0, hpn]
    have e2 : ∀ t, cms (pn0 T r) (-1) O' p q t ↔ cms T r O p q t := fun t => by
      unfold cms
      rw [e0, show pn0 T r 4 = T 4 from lw, c.1]
      constructor
      · rintro ⟨-, y⟩; exact ⟨e, y⟩
      · rintro ⟨-, y⟩; exact ⟨by omega, y⟩
    refine ⟨e1, fun y => absurd y e, fun _ => e2, fun t ht => ?_⟩
    unfold cst
    rw [e1, (a.2.2 q h0 (by omega)).2.2, pc.2 p hp0 (by omega), hw _ (hh t ht).1 (hh t ht).2]
    have : (pK T p = 2 ∧ cms (pn0 T r) (-1) O' p q t) = (pK T p = 2 ∧ cms T r O p q t) := propext ⟨fun z => ⟨z.1, (e2 t).mp z.2⟩, fun z => ⟨z.1, (e2 t).mpr z.2⟩⟩
    rw [this]
theorem free_same {T : Nat → Int} {r set : Int} (hT : TK T) (h0 : 0 ≤ r) (h1 : r < T 1) (what : Int) : figS T (gAd (pn0 T r) (-1) set) what (T 2).toNat = figS T (gAd T r set) what (T 2).toNat := by
  have a1 := hT.2.1
  have a2 := hT.2.2.1
  obtain ⟨a, rh, c, pc, ph, pk, er, em, lw⟩ := pn0_E (T := T) (r := r) h0 (by omega)
  have := gAd_E (fr := r) (fr' := -1) (x := r) (set := set) hT a er em ph (fun e he => ?_) (fun q hq hne => ?_)
  · exact (figS_zf this what _ (by omega)).symm
  · have hm := ((ordl_ok T set).2.1 e).mp he
    have hw := hT.erra (e := e) (by omega) (by omega)
    exact ⟨pk _ hw.1.1 (by omega), AGr_pn0 hT h0 h1 hw.1.1 hw.1.2⟩
  · unfold own0
    rw [show pn0 T r 4 = T 4 from lw, rh q (by omega) (by omega)]
    have e1 : (T 4 = 3 ∨ (q : Int) = -1) ↔ (T 4 = 3 ∨ (q : Int) = r) := by
      constructor
      · rintro (y | y)
        · exact Or.inl y
        · omega
      · rintro (y | y)
        · exact Or.inl y
        · exact absurd y hne
    by_cases y : T 4 = 3 ∨ (q : Int) = r
    · rw [if_pos y, if_pos (e1.mpr y)]
    · rw [if_neg y, if_neg (fun z => y (e1.mp z))]
