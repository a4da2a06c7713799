/-! A TOWN WITH ONE ENTRY CHANGED -/
def fu (T : Nat → Int) (i v : Int) : Nat → Int := fun k => if (k : Int) = i then v else T k
theorem fu_ne {T : Nat → Int} {i v : Int} {k : Nat} (h : (k : Int) ≠ i) : fu T i v k = T k := if_neg h
theorem fu_eq {T : Nat → Int} {i v : Int} {k : Nat} (h : (k : Int) = i) : fu T i v k = v := if_pos h
theorem fu_self {T : Nat → Int} {i : Int} : fu T i (T i.toNat) = T := by
  funext k
  by_cases h : (k : Int) = i
  · rw [fu_eq h]
    congr 1
    omega
  · exact fu_ne h
/-- where accessors look -/
def RdE (T T' : Nat → Int) : Prop := T' 0 = T 0 ∧ T' 1 = T 1 ∧ ∀ r : Int, 0 ≤ r → r < 14 → rA T' r = rA T r ∧ rB T' r = rB T r ∧ rM T' r = rM T r
def RpE (T T' : Nat → Int) : Prop := ∀ r : Int, 0 ≤ r → r < 14 → rP T' r = rP T r
def RhE (T T' : Nat → Int) : Prop := ∀ r : Int, 0 ≤ r → r < 14 → rH T' r = rH T r
def RcE (T T' : Nat → Int) : Prop := T' 5 = T 5 ∧ ∀ r : Int, 0 ≤ r → r < 14 → ∀ h : Int, 0 ≤ h → h < 6 → rC T' r h = rC T r h
def PcE (T T' : Nat → Int) : Prop := T' 2 = T 2 ∧ ∀ p : Int, 0 ≤ p → p < 8 → pC T' p = pC T p
def PhE (T T' : Nat → Int) : Prop := ∀ p : Int, 0 ≤ p → p < 8 → pH T' p = pH T p
def PkE (T T' : Nat → Int) : Prop := ∀ p : Int, 0 ≤ p → p < 8 → pK T' p = pK T p
def ErE (T T' : Nat → Int) : Prop := T' 3 = T 3 ∧ ∀ e : Int, 0 ≤ e → e < 12 → eW T' e = eW T e ∧ eP T' e = eP T e ∧ eL T' e = eL T e
def EmE (T T' : Nat → Int) : Prop := ∀ e : Int, 0 ≤ e → e < 12 → eM T' e = eM T e
def LwE (T T' : Nat → Int) : Prop := T' 4 = T 4
theorem rdE_fu {T : Nat → Int} {i v : Int} (h : 4 ≤ i) (h2 : ∀ r : Int, 0 ≤ r → r < 14 → i ≠ 6 + 11 * r ∧ i ≠ 7 + 11 * r ∧ i ≠ 8 + 11 * r) : RdE T (fu T i v) := ⟨fu_ne (by omega), fu_ne (by omega), fun r x y => by have := h2 r x y; exact ⟨fu_ne (by omega), fu_ne (by omega), fu_ne (by omega)⟩⟩
theorem rpE_fu {T : Nat → Int} {i v : Int} (h2 : ∀ r : Int, 0 ≤ r → r < 14 → i ≠ 9 + 11 * r) : RpE T (fu T i v) := fun r x y => by have := h2 r x y; exact fu_ne (by omega)
theorem rhE_fu {T : Nat → Int} {i v : Int} (h2 : ∀ r : Int, 0 ≤ r → r < 14 → i ≠ 10 + 11 * r) : RhE T (fu T i v) := fun r x y => by have := h2 r x y; exact fu_ne (by omega)
theorem rcE_fu {T : Nat → Int} {i v : Int} (h : i ≠ 5) (h2 : ∀ r : Int, 0 ≤ r → r < 14 → i < 11 + 11 * r ∨ 17 + 11 * r ≤ i) : RcE T (fu T i v) := ⟨fu_ne (by omega), fun r x y k z1 z2 => by have := h2 r x y; exact fu_ne (by omega)⟩
theorem pcE_fu {T : Nat → Int} {i v : Int} (h : i ≠ 2) (h2 : ∀ r : Int, 0 ≤ r → r < 8 → i ≠ 161 + 3 * r) : PcE T (fu T i v) := ⟨fu_ne (by omega), fun r x y => by have := h2 r x y; exact fu_ne (by omega)⟩
theorem phE_fu {T : Nat → Int} {i v : Int} (h2 : ∀ r : Int, 0 ≤ r → r < 8 → i ≠ 160 + 3 * r) : PhE T (fu T i v) := fun r x y => by have := h2 r x y; exact fu_ne (by omega)
theorem pkE_fu {T : Nat → Int} {i v : Int} (h2 : ∀ r : Int, 0 ≤ r → r < 8 → i ≠ 162 + 3 * r) : PkE T (fu T i v) := fun r x y => by have := h2 r x y; exact fu_ne (by omega)
theorem erE_fu {T : Nat → Int} {i v : Int} (h : i ≠ 3) (h2 : ∀ r : Int, 0 ≤ r → r < 12 → i ≠ 184 + 4 * r ∧ i ≠ 185 + 4 * r ∧ i ≠ 187 + 4 * r) : ErE T (fu T i v) := ⟨fu_ne (by omega), fun r x y => by have := h2 r x y; exact ⟨fu_ne (by omega), fu_ne (by omega), fu_ne (by omega)⟩⟩
theorem emE_fu {T : Nat → Int} {i v : Int} (h2 : ∀ r : Int, 0 ≤ r → r < 12 → i ≠ 186 + 4 * r) : EmE T (fu T i v) := fun r x y => by have := h2 r x y; exact fu_ne (by omega)
theorem lwE_fu {T : Nat → Int} {i v : Int} (h : i ≠ 4) : LwE T (fu T i v) := fu_ne (by omega)
/-- a town stays valid -/
theorem TK_of {T T' : Nat → Int} (hT : TK T) (a : RdE T T') (c : RcE T T') (pc : PcE T T') (er : ErE T T') (h4 : 0 ≤ T' 4 ∧ T' 4 ≤ 3) (rp : ∀ r, 0 ≤ r → r < T 1 → 0 ≤ rP T' r ∧ rP T' r ≤ 99) (rh : ∀ r, 0 ≤ r → r < T 1 → -1 ≤ rH T' r ∧ rH T' r < T 2) (ph : ∀ p, 0 ≤ p → p < T 2 → 0 ≤ pH T' p ∧ pH T' p < T 0) (pk : ∀ p, 0 ≤ p → p < T 2 → 0 ≤ pK T' p ∧ pK T' p ≤ 2) (em : ∀ e, 0 ≤ e → e < T 3 → 0 ≤ eM T' e ∧ eM T' e ≤ 359) : TK T' := by
  have a1 := hT.2.1
  have a2 := hT.2.2.1
  have a3 := hT.2.2.2.1
  obtain ⟨s0, s1, a⟩ := a
  obtain ⟨s5, c⟩ := c
  obtain ⟨s2, pc⟩ := pc
  obtain ⟨s3, er⟩ := er
  refine ⟨by rw [s0]; exact hT.1, by rw [s1]; exact hT.2.1, by rw [s2]; exact hT.2.2.1, by rw [s3]; exact hT.2.2.2.1, h4, by rw [s5]; exact hT.2.2.2.2.2.1, fun r x y => ?_, fun p x y => ?_, fun e x y => ?_⟩
  · rw [s1] at y
    obtain ⟨e1, e2, e3⟩ := a r x (by omega)
    have h := hT.road x y
    rw [e1, e2, e3, s0, s2]
    exact ⟨h.1, h.2.1, h.2.2.1, h.2.2.2.1, rp r x y, rh r x y, fun k z1 z2 => by rw [c r x (by omega) k z1 z2]; exact h.2.2.2.2.2.2 k z1 z2⟩
  · rw [s2] at y
    rw [s0, pc p x (by omega)]
    exact ⟨ph p x y, (hT.pers x y).2.1, pk p x y⟩
  · rw [s3] at y
    obtain ⟨e1, e2, e3⟩ := er e x (by omega)
    have h := hT.erra x y
    rw [e1, e2, e3, s0, s2]
    exact ⟨h.1, h.2.1, em e x y, h.2.2.2⟩
/-- roads of the same shape -/
theorem Jt_RdE {T T' : Nat → Int} (hT : TK T) (a : RdE T T') (x : Int) : Jt T' x = Jt T x := by
  have a1 := hT.2.1
  funext p q d
  have key : ∀ r : Nat, r < (T 1).toNat → (d = rM T' r ∧ ((p = rA T' r ∧ q = rB T' r) ∨ (p = rB T' r ∧ q = rA T' r)) ↔ d = rM T r ∧ ((p = rA T r ∧ q = rB T r) ∨ (p = rB T r ∧ q = rA T r))) := fun r hr => by
    obtain ⟨e1, e2, e3⟩ := a.2.2 r (by omega) (by omega)
    rw [e1, e2, e3]
  refine propext ⟨?_, ?_⟩
  · rintro ⟨r, h1, h2, h3⟩
    have h1' : r < (T' 1).toNat := h1
    rw [a.2.1] at h1'
    exact ⟨r, h1', h2, (key r h1').mp h3⟩
  · rintro ⟨r, h1, h2, h3⟩
    have h1' : r < (T 1).toNat := h1
    exact ⟨r, show r < (T' 1).toNat by rw [a.2.1]; exact h1', h2, (key r h1').mpr h3⟩
theorem FAR_RdE {T T' : Nat → Int} (hT : TK T) (a : RdE T T') {x : Int} {w : AW} (h : FAR T x w) : FAR T' x w := by
  intro p q h1 h2 h3 h4
  rw [Jt_RdE hT a]
  rw [a.1] at h2 h4
  exact h p q h1 h2 h3 h4
theorem adj_RdE {T T' : Nat → Int} (a : RdE T T') (s : Int) : ∀ n : Nat, n ≤ 14 → adj T' s n = adj T s n
  | 0, _ => rfl
  | n + 1, hn => by
    obtain ⟨e1, e2, _⟩ := a.2.2 n (by omega) (by omega)
    rw [adj_succ, adj_succ, adj_RdE a s n (by omega), e1, e2]
theorem CH_RdE {T T' : Nat → Int} (hT : TK T) (a : RdE T T') {w : AW} (hR : CHR T w (T 1).toNat) (hM : CHM T w) (hw : CHW T' w) : CH T' w := by
  have a1 := hT.2.1
  refine ⟨fun s h0 h1 => ?_, fun p q h1 h2 h3 h4 => ?_, hw⟩
  · rw [a.2.1, adj_RdE a s _ (by omega)]
    have := hR s h0 h1
    refine ⟨this.1, fun i hi => ?_⟩
    have h5 := this.2 i hi
    have hr : (adj T s (T 1).toNat).getD i 0 < (T 1).toNat := by
      rw [List.getD_eq_getElem?_getD, List.getElem?_eq_getElem hi]
      have hm := List.getElem_mem hi
      unfold adj at hm
      exact List.mem_range.mp (List.mem_filter.mp hm).1
    obtain ⟨e1, e2, _⟩ := a.2.2 ((adj T s (T 1).toNat).getD i 0 : Nat) (by omega) (by omega)
    rw [e1, e2]
    exact h5
  · rw [Jt_RdE hT a]
    rw [a.1] at h2 h4
    exact hM p q h1 h2 h3 h4
theorem pny_E {T T' : Nat → Int} (hp : RpE T T') {fr r : Int} (h0 : 0 ≤ r) (h1 : r < 14) : pny T' fr r = pny T fr r := by unfold pny; rw [hp r h0 h1]
theorem wlp_E {T T' : Nat → Int} (hp : RpE T T') (hc : RcE T T') (hl : LwE T T') {fr r : Int} (h0 : 0 ≤ r) (h1 : r < 14) : ∀ (n : Nat) (h W s : Int), 0 ≤ h → h + n ≤ 6 → wlp T' fr r n h W s = wlp T fr r n h W s
  | 0, _, _, _, _, _ => rfl
  | n + 1, h, W, s, x, y => by
    unfold wlp
    rw [pny_E hp h0 h1, hc.2 r h0 h1 h x (by omega), hc.1, show T' 4 = T 4 from hl, wlp_E hp hc hl h0 h1 n (h + 1) _ _ (by omega) (by omega)]
theorem wrt_E {T T' : Nat → Int} (hp : RpE T T') (hc : RcE T T') (hl : LwE T T') {fr r h : Int} (h0 : 0 ≤ r) (h1 : r < 14) (x : 0 ≤ h) (y : h ≤ 6) : wrt T' fr r h = wrt T fr r h := by
  unfold wrt
  rw [show T' 4 = T 4 from hl, wlp_E hp hc hl h0 h1 _ h _ _ x (by omega)]
theorem CHW_E {T T' : Nat → Int} (hT : TK T) (a : RdE T T') (hp : RpE T T') (hc : RcE T T') (hl : LwE T T') {w : AW} (h : CHW T w) : CHW T' w := by
  have a1 := hT.2.1
  intro r k h1 h2 h3 h4
  rw [a.2.1] at h2
  rw [wrt_E hp hc hl h1 (by omega) h3 h4]
  exact h r k h1 h2 h3 h4
theorem CH_E {T T' : Nat → Int} (hT : TK T) (a : RdE T T') (hp : RpE T T') (hc : RcE T T') (hl : LwE T T') {w : AW} (h : CH T w) : CH T' w := CH_RdE hT a h.1 h.2.1 (CHW_E hT a hp hc hl h.2.2)
/-- the reference holds the changed town -/
theorem HA_of {T T' : Nat → Int} {w w' : AW} (hT : TK T) (hH : HA w T) (a : RdE T T') (c : RcE T T') (pc : PcE T T') (er : ErE T T') (rp : RpE T T') (f6 : ∀ k, w'.1 6 k = w.1 6 k) (f0 : ∀ k, 21 ≤ k → k ≤ 27 → k ≠ 26 → w'.1 0 k = w.1 0 k) (h26 : w'.1 0 26 = T' 4) (hh : ∀ r, 0 ≤ r → r < T 1 → (if r = w'.1 0 29 then w'.1 0 30 else w.1 6 ((((w.1 0 21) + 6) + (11 * r)) + 4).toNat) = rH T' r) (hp : ∀ p, 0 ≤ p → p < T 2 → w'.1 11 p.toNat = pK T' p ∧ w'.1 23 p.toNat = pH T' p) (he : ∀ e, 0 ≤ e → e < T 3 → w'.1 24 e.toNat = eM T' e) (h29 : w'.1 0 29 = -1 ∨ (0 ≤ w'.1 0 29 ∧ w'.1 0 29 < 14)) : HA w' T' := by
  have a1 := hT.2.1
  have a2 := hT.2.2.1
  have a3 := hT.2.2.2.1
  obtain ⟨s0, s1, a⟩ := a
  obtain ⟨s5, c⟩ := c
  obtain ⟨s2, pc⟩ := pc
  obtain ⟨s3, er⟩ := er
  have hH' := hH
  obtain ⟨q1, q2, q3, q4, q5, q6, q7, -⟩ := hH'
  refine ⟨by rw [f0 21 (by omega) (by omega) (by omega)]; exact q1, by rw [f0 22 (by omega) (by omega) (by omega), s0]; exact q2, by rw [f0 23 (by omega) (by omega) (by omega), s1]; exact q3, by rw [f0 24 (by omega) (by omega) (by omega), s2]; exact q4, by rw [f0 25 (by omega) (by omega) (by omega), s3]; exact q5, h26, by rw [f0 27 (by omega) (by omega) (by omega), s5]; exact q7, fun r x y => ?_, fun p x y => ?_, fun e x y => ?_, h29⟩
  · rw [s1] at y
    have h := hH.road x y
    obtain ⟨e1, e2, e3⟩ := a r x (by omega)
    simp only [f0 21 (by omega) (by omega) (by omega), f6]
    rw [e1, e2, e3, rp r x (by omega)]
    exact ⟨h.1, h.2.1, h.2.2.1, h.2.2.2.1, fun k z1 z2 => by rw [c r x (by omega) k z1 z2]; exact h.2.2.2.2.1 k z1 z2, hh r x y⟩
  · rw [s2] at y
    simp only [f0 21 (by omega) (by omega) (by omega), f6]
    rw [pc p x (by omega)]
    exact ⟨(hH.pers x y).1, (hp p x y).1, (hp p x y).2⟩
  · rw [s3] at y
    have h := hH.erra x y
    obtain ⟨e1, e2, e3⟩ := er e x (by omega)
    simp only [f0 21 (by omega) (by omega) (by omega), f6]
    rw [e1, e2, e3]
    exact ⟨h.1, h.2.1, h.2.2.1, he e x y⟩
/-- the class's plan holds the changed town -/
theorem CA_of {T T' : Nat → Int} {w w' : AW} {j : Nat} (hT : TK T) (hC : CA w j T) (a : RdE T T') (c : RcE T T') (pc : PcE T T') (er : ErE T T') (f0 : ∀ k, k ≠ 17 → w'.1 j k = w.1 j k) (f1 : ∀ i k, (i = 1 ∨ i = 2 ∨ i = 3 ∨ i = 6 ∨ i = 8 ∨ i = 10 ∨ i = 11 ∨ i = 13) → w'.1 (j + i) k = w.1 (j + i) k) (h17 : w'.1 j 17 = T' 4) (hr : ∀ r, 0 ≤ r → r < T 1 → w'.1 (j + 4) r.toNat = rP T' r ∧ w'.1 (j + 5) r.toNat = rH T' r) (hp : ∀ p, 0 ≤ p → p < T 2 → w'.1 (j + 7) p.toNat = pH T' p ∧ w'.1 (j + 9) p.toNat = pK T' p) (he : ∀ e, 0 ≤ e → e < T 3 → w'.1 (j + 12) e.toNat = eM T' e) : CA w' j T' := by
  have a1 := hT.2.1
  have a2 := hT.2.2.1
  have a3 := hT.2.2.2.1
  obtain ⟨s0, s1, a⟩ := a
  obtain ⟨s5, c⟩ := c
  obtain ⟨s2, pc⟩ := pc
  obtain ⟨s3, er⟩ := er
  refine ⟨by rw [f0 0 (by decide), s0]; exact hC.1, by rw [f0 1 (by decide), s1]; exact hC.2.1, by rw [f0 8 (by decide), s2]; exact hC.2.2.1, by rw [f0 12 (by decide), s3]; exact hC.2.2.2.1, h17, by rw [f0 18 (by decide), s5]; exact hC.2.2.2.2.2.1, fun r x y => ?_, fun p x y => ?_, fun e x y => ?_⟩
  · rw [s1] at y
    have h := hC.road x y
    obtain ⟨e1, e2, e3⟩ := a r x (by omega)
    rw [f1 1 _ (by decide), f1 2 _ (by decide), f1 3 _ (by decide), e1, e2, e3]
    exact ⟨h.1, h.2.1, h.2.2.1, (hr r x y).1, (hr r x y).2, fun k z1 z2 => by rw [f1 6 _ (by decide), c r x (by omega) k z1 z2]; exact h.2.2.2.2.2 k z1 z2⟩
  · rw [s2] at y
    rw [f1 8 _ (by decide), pc p x (by omega)]
    exact ⟨(hp p x y).1, (hC.pers x y).2.1, (hp p x y).2⟩
  · rw [s3] at y
    have h := hC.erra x y
    obtain ⟨e1, e2, e3⟩ := er e x (by omega)
    rw [f1 10 _ (by decide), f1 11 _ (by decide), f1 13 _ (by decide), e1, e2, e3]
    exact ⟨h.1, h.2.1, he e x y, h.2.2.2⟩
