/-! THE ABSTRACT MACHINE: values are whole numbers (an int x stands for Int32.ofInt x, whatever its size; it must be in range only where it is compared), references are numbers of cells; a block of code is a function of locals, stack and world -/
abbrev AV : Type := Int ⊕ Int ⊕ Option (Option Nat)
abbrev AW : Type := (Nat → Nat → Int) × (Nat → Nat → Int) × Nat × Nat × Nat
abbrev AR : Type := Option AV × AW
abbrev AK : Type := List AV → List AV → AW → Option AR
abbrev vU : AV := .inr (.inr none)
abbrev vN : AV := .inr (.inr (some none))
abbrev vR (j : Nat) : AV := .inr (.inr (some (some j)))
abbrev vI (x : Int) : AV := .inl x
abbrev vL (x : Int) : AV := .inr (.inl x)
def lgt : List AV → Nat → AV
  | [], _ => vU
  | a :: _, 0 => a
  | _ :: l, n + 1 => lgt l n
def lst : List AV → Nat → AV → List AV
  | [], _, _ => []
  | _ :: l, 0, v => v :: l
  | a :: l, n + 1, v => a :: lst l n v
def lclr (l : List AV) (i : Nat) : List AV := match lgt l i with
  | .inr (.inl _) => lst l i vU
  | _ => l
def ls1 (l : List AV) : Nat → AV → List AV
  | 0, v => lst l 0 v
  | i + 1, v => lst (lclr l i) (i + 1) v
def ls2 (l : List AV) (i : Nat) (v : AV) : List AV := ls1 (lst l (i + 1) vU) i v
abbrev iR (x : Int) : Prop := -2147483648 ≤ x ∧ x ≤ 2147483647
abbrev lR (x : Int) : Prop := -9223372036854775808 ≤ x ∧ x ≤ 9223372036854775807
def u2 (f : Nat → Nat → Int) (j k : Nat) (x : Int) : Nat → Nat → Int := fun a b => if a = j then (if b = k then x else f a b) else f a b
/-- a field of a cell -/
def fv (w : AW) (j ci k : Nat) : AV := match fty ci k with
  | 0 => vI (w.1 j k)
  | 1 => vL (w.2.1 j k)
  | 2 => vR (cref j k)
  | 3 => vR w.2.2.1
  | 4 => vR w.2.2.2.1
  | _ => vR w.2.2.2.2
/-- concrete values -/
def cv (ad : Nat → Nat) : AV → Value
  | .inl x => .int (Int32.ofInt x)
  | .inr (.inl x) => .long (Int64.ofInt x)
  | .inr (.inr (some (some j))) => .ref (ad j)
  | .inr (.inr _) => .null
def elt (ad : Nat → Nat) (cA : Nat → ClassId) (w : AW) (j : Nat) : va_E :=
  if (shp j).1 < 10 then .inr ((shp j).1, (List.range (shp j).2).map (fun k => cv ad (fv w j (shp j).1 k)))
  else if (shp j).1 < 13 then .inl (cA (shp j).1, (shp j).2, .inl (fun k => Int32.ofInt (w.1 j k)))
  else if (shp j).1 = 13 then .inl (cA 13, (shp j).2, .inr (.inl (fun k => Int64.ofInt (w.2.1 j k))))
  else .inl (cA (shp j).1, (shp j).2, .inr (.inr (.inr (.inr (fun k => some (ad (cref j k)))))))
def cw (ad : Nat → Nat) (cA : Nat → ClassId) (w : AW) : va_W := (List.range NC).map (fun j => (ad j, elt ad cA w j))
theorem cw_get {ad : Nat → Nat} {cA : Nat → ClassId} {w : AW} {j : Nat} (h : j < NC) : (cw ad cA w)[j]? = some (ad j, elt ad cA w j) := by
  simp only [cw, List.getElem?_map, List.getElem?_range h, Option.map_some]
theorem cw_len {ad : Nat → Nat} {cA : Nat → ClassId} {w : AW} : (cw ad cA w).length = NC := by simp [cw]
theorem cw_set {ad : Nat → Nat} {cA : Nat → ClassId} {w w' : AW} {j : Nat} (h : ∀ i, i < NC → i ≠ j → elt ad cA w' i = elt ad cA w i) {e : va_E} (he : elt ad cA w' j = e) : (cw ad cA w).set j (ad j, e) = cw ad cA w' := by
  subst he
  apply List.ext_getElem?
  intro i
  rw [List.getElem?_set]
  by_cases hi : j = i
  · subst hi
    by_cases hl : j < NC
    · rw [if_pos rfl, cw_get hl, if_pos (by rw [cw_len]; exact hl)]
    · rw [if_pos rfl, if_neg (by rw [cw_len]; exact hl)]
      exact (List.getElem?_eq_none (by rw [cw_len]; exact Nat.not_lt.mp hl)).symm
  · rw [if_neg hi]
    by_cases hl : i < NC
    · rw [cw_get hl, cw_get hl, h i hl (Ne.symm hi)]
    · rw [List.getElem?_eq_none (by rw [cw_len]; exact Nat.not_lt.mp hl), List.getElem?_eq_none (by rw [cw_len]; exact Nat.not_lt.mp hl)]
theorem cw_inv {ad : Nat → Nat} {cA : Nat → ClassId} {w : AW} {k : Nat} {q : Nat × va_E} (h : (cw ad cA w)[k]? = some q) : k < NC ∧ q = (ad k, elt ad cA w k) := by
  have hk : k < NC := by
    have := (List.getElem?_eq_some_iff.mp h).1
    rwa [cw_len] at this
  rw [cw_get hk] at h
  exact ⟨hk, (Option.some.inj h).symm⟩
theorem cw_D {ad : Nat → Nat} {cA : Nat → ClassId} {w : AW} {A : Nat → Prop} (hi : ∀ i j, i < NC → j < NC → ad i = ad j → i = j) (hA : ∀ j, j < NC → A (ad j)) : va_D A (cw ad cA w) := by
  refine ⟨fun i j p q hp hq e => ?_, fun k q h => ?_⟩
  · obtain ⟨h1, rfl⟩ := cw_inv hp
    obtain ⟨h2, rfl⟩ := cw_inv hq
    exact hi i j h1 h2 e
  · obtain ⟨h1, rfl⟩ := cw_inv h
    exact hA k h1
/-- locals -/
def LR (ad : Nat → Nat) (ls : Array Slot) (nL : Nat) (l : List AV) : Prop := ∃ lv, lv_has ls nL lv ∧ ∀ i, lgt l i ≠ vU → (i, cv ad (lgt l i)) ∈ lv
theorem LR.at {ad : Nat → Nat} {ls : Array Slot} {nL : Nat} {l : List AV} (h : LR ad ls nL l) {i : Nat} {v : AV} (hv : lgt l i = v) (hu : v ≠ vU) : ls[i]? = some (.val (cv ad v)) := by
  obtain ⟨lv, h1, h2⟩ := h
  subst hv
  exact h1.2.2 _ (h2 i hu)
theorem lgt_lst_same : ∀ (l : List AV) (i : Nat) (v : AV), lgt (lst l i v) i = v ∨ lgt (lst l i v) i = vU
  | [], _, _ => Or.inr rfl
  | _ :: _, 0, _ => Or.inl rfl
  | _ :: l, n + 1, v => lgt_lst_same l n v
theorem lgt_lst_ne : ∀ (l : List AV) (i j : Nat) (v : AV), j ≠ i → lgt (lst l i v) j = lgt l j
  | [], _, _, _, _ => rfl
  | _ :: _, 0, 0, _, h => absurd rfl h
  | _ :: _, 0, _ + 1, _, _ => rfl
  | _ :: _, _ + 1, 0, _, _ => rfl
  | _ :: l, n + 1, m + 1, v, h => lgt_lst_ne l n m v (fun e => h (by rw [e]))
theorem lgt_lclr (l : List AV) (i j : Nat) (h : lgt (lclr l i) j ≠ vU) : lgt (lclr l i) j = lgt l j ∧ (j = i → ∀ x, lgt l j ≠ vL x) := by
  unfold lclr at h ⊢
  split at h
  · rename_i x hx
    by_cases e : j = i
    · subst e
      rcases lgt_lst_same l j vU with q | q <;> exact absurd q h
    · rw [lgt_lst_ne _ _ _ _ e] at h ⊢
      exact ⟨rfl, fun q => absurd q e⟩
  · rename_i hx
    exact ⟨rfl, fun e x q => hx x (by rw [← e]; exact q)⟩
theorem cv_cat {ad : Nat → Nat} {v : AV} (h : ∀ x, v ≠ vL x) : (cv ad v).category = 1 := by
  rcases v with x | x | x
  · rfl
  · exact absurd rfl (h x)
  · rcases x with _ | _ | x <;> rfl
theorem lgt_ls1 (l : List AV) (i j : Nat) (v : AV) (h : lgt (ls1 l i v) j ≠ vU) : (j = i ∧ lgt (ls1 l i v) j = v) ∨ (j ≠ i ∧ lgt (ls1 l i v) j = lgt l j ∧ (j + 1 = i → ∀ x, lgt l j ≠ vL x)) := by
  cases i with
  | zero =>
    by_cases e : j = 0
    · subst e
      rcases lgt_lst_same l 0 v with q | q
      · exact Or.inl ⟨rfl, q⟩
      · exact absurd q h
    · exact Or.inr ⟨e, lgt_lst_ne _ _ _ _ e, fun q => by omega⟩
  | succ i =>
    by_cases e : j = i + 1
    · subst e
      rcases lgt_lst_same (lclr l i) (i + 1) v with q | q
      · exact Or.inl ⟨rfl, q⟩
      · exact absurd q h
    · have h1 : lgt (ls1 l (i + 1) v) j = lgt (lclr l i) j := lgt_lst_ne _ _ _ _ e
      rw [h1] at h ⊢
      obtain ⟨a, b⟩ := lgt_lclr l i j h
      exact Or.inr ⟨e, a, fun q => b (by omega)⟩
theorem LR.st1 {ad : Nat → Nat} {ls' : Array Slot} {nL : Nat} {l : List AV} {lv : List (Nat × Value)} {i : Nat} {v : AV} (h2 : ∀ i, lgt l i ≠ vU → (i, cv ad (lgt l i)) ∈ lv) (h : lv_has ls' nL ((i, cv ad v) :: lv.filter (fun q => !(q.1 == i) && !(q.1 + 1 == i && q.2.category == 2)))) : LR ad ls' nL (ls1 l i v) := by
  refine ⟨_, h, fun j hj => ?_⟩
  rcases lgt_ls1 l i j v hj with ⟨e1, e2⟩ | ⟨e1, e2, e3⟩
  · rw [e2, e1]; exact List.mem_cons_self
  · rw [e2] at hj ⊢
    refine List.mem_cons_of_mem _ (List.mem_filter.mpr ⟨h2 j hj, ?_⟩)
    by_cases q : j + 1 = i
    · have := cv_cat (ad := ad) (e3 q)
      simp [e1, this]
    · simp [e1, q]
theorem LR.st2 {ad : Nat → Nat} {ls' : Array Slot} {nL : Nat} {l : List AV} {lv : List (Nat × Value)} {i : Nat} {v : AV} (h2 : ∀ i, lgt l i ≠ vU → (i, cv ad (lgt l i)) ∈ lv) (h : lv_has ls' nL ((i, cv ad v) :: lv.filter (fun q => !(q.1 == i) && (!(q.1 == i + 1) && !(q.1 + 1 == i && q.2.category == 2))))) : LR ad ls' nL (ls2 l i v) := by
  refine ⟨_, h, fun j hj => ?_⟩
  rcases lgt_ls1 (lst l (i + 1) vU) i j v hj with ⟨e1, e2⟩ | ⟨e1, e2, e3⟩
  · show (j, cv ad (lgt (ls1 (lst l (i + 1) vU) i v) j)) ∈ _
    rw [e2, e1]; exact List.mem_cons_self
  · have e4 : lgt (ls2 l i v) j = lgt (lst l (i + 1) vU) j := e2
    rw [e4] at hj ⊢
    by_cases q : j = i + 1
    · subst q
      rcases lgt_lst_same l (i + 1) vU with z | z <;> exact absurd z hj
    · rw [lgt_lst_ne _ _ _ _ q] at hj ⊢
      refine List.mem_cons_of_mem _ (List.mem_filter.mpr ⟨h2 j hj, ?_⟩)
      by_cases z : j + 1 = i
      · have e5 := e3 z
        rw [lgt_lst_ne _ _ _ _ q] at e5
        have := cv_cat (ad := ad) e5
        simp [e1, q, this]
      · simp [e1, q, z]
theorem i32 {x : Int} (h : iR x) : (Int32.ofInt x).toInt = x := by
  rw [Int32.toInt_ofInt]
  exact Int.bmod_eq_of_le (by have := h.1; simp; omega) (by have := h.2; simp; omega)
theorem i64 {x : Int} (h : lR x) : (Int64.ofInt x).toInt = x := by
  rw [Int64.toInt_ofInt]
  exact Int.bmod_eq_of_le (by have := h.1; simp; omega) (by have := h.2; simp; omega)
theorem i32_lt {x y : Int} (hx : iR x) (hy : iR y) : Int32.ofInt x < Int32.ofInt y ↔ x < y := by rw [Int32.lt_iff_toInt_lt, i32 hx, i32 hy]
theorem i32_le {x y : Int} (hx : iR x) (hy : iR y) : Int32.ofInt x ≤ Int32.ofInt y ↔ x ≤ y := by rw [Int32.le_iff_toInt_le, i32 hx, i32 hy]
theorem i32_eq {x y : Int} (hx : iR x) (hy : iR y) : Int32.ofInt x = Int32.ofInt y ↔ x = y := ⟨fun h => by rw [← i32 hx, ← i32 hy, h], fun h => by rw [h]⟩
theorem i64_lt {x y : Int} (hx : lR x) (hy : lR y) : Int64.ofInt x < Int64.ofInt y ↔ x < y := by rw [Int64.lt_iff_toInt_lt, i64 hx, i64 hy]
theorem i32_idx {x : Int} {n : Nat} (h0 : 0 ≤ x) (h1 : x < n) (hn : n < 2147483648) : vp_in (Int32.ofInt x) n ∧ (Int32.ofInt x).toNatClampNeg = x.toNat := by
  have e : (Int32.ofInt x).toInt = x := i32 ⟨by omega, by omega⟩
  refine ⟨vp_in_iff.mpr ⟨by rw [e]; exact h0, by rw [e]; exact h1⟩, ?_⟩
  rw [Int32.toNatClampNeg, e]
