/-! THE GROWING MACHINE: constructors. A world is the list of the cells made so far, the cell i lies at sz + i -/
abbrev GC : Type := (Nat × Nat) × List AV × (Nat → Int)
abbrev AG : Type := List GC
abbrev GK : Type := List AV → List AV → AG → Option (Nat × List AV × List AV × AG)
def gc0 : GC := ((99, 0), [], fun _ => 0)
def gat (g : AG) (i : Nat) : GC := (g[i]?).getD gc0
abbrev adz (sz : Nat) : Nat → Nat := fun i => sz + i
def gref : AV → Option Nat
  | .inr (.inr (some (some j))) => some j
  | _ => none
def gelt (sz : Nat) (cA : Nat → ClassId) (c : GC) : va_E :=
  if c.1.1 < 10 then .inr (c.1.1, c.2.1.map (cv (adz sz)))
  else if c.1.1 < 13 then .inl (cA c.1.1, c.1.2, .inl (fun k => Int32.ofInt (c.2.2 k)))
  else if c.1.1 = 13 then .inl (cA 13, c.1.2, .inr (.inl (fun k => Int64.ofInt (c.2.2 k))))
  else .inl (cA c.1.1, c.1.2, .inr (.inr (.inr (.inr (fun k => (gref (c.2.1.getD k vN)).map (adz sz))))))
def gw (sz : Nat) (cA : Nat → ClassId) (g : AG) : va_W := (List.range g.length).map (fun i => (sz + i, gelt sz cA (gat g i)))
def gsl (g : AG) : Nat := (g.map (fun c => c.1.2)).sum
theorem gw_len {sz : Nat} {cA : Nat → ClassId} {g : AG} : (gw sz cA g).length = g.length := by simp [gw]
theorem gw_get {sz : Nat} {cA : Nat → ClassId} {g : AG} {i : Nat} {c : GC} (h : g[i]? = some c) : (gw sz cA g)[i]? = some (sz + i, gelt sz cA c) := by
  have hl : i < g.length := (List.getElem?_eq_some_iff.mp h).1
  simp only [gw, List.getElem?_map, List.getElem?_range hl, Option.map_some, gat, h, Option.getD_some]
theorem gw_inv {sz : Nat} {cA : Nat → ClassId} {g : AG} {i : Nat} {q : Nat × va_E} (h : (gw sz cA g)[i]? = some q) : i < g.length ∧ q = (sz + i, gelt sz cA (gat g i)) := by
  have hl : i < g.length := by
    have := (List.getElem?_eq_some_iff.mp h).1
    rwa [gw_len] at this
  have h2 : (gw sz cA g)[i]? = some (sz + i, gelt sz cA (gat g i)) := by simp only [gw, List.getElem?_map, List.getElem?_range hl, Option.map_some]
  exact ⟨hl, Option.some.inj (h.symm.trans h2)⟩
theorem gw_D {sz : Nat} {cA : Nat → ClassId} (g : AG) : va_D (fun q : Nat => sz ≤ q) (gw sz cA g) := by
  refine ⟨fun i j p q hp hq e => ?_, fun k q h => ?_⟩
  · obtain ⟨h1, rfl⟩ := gw_inv hp
    obtain ⟨h2, rfl⟩ := gw_inv hq
    have : sz + i = sz + j := e
    omega
  · obtain ⟨h1, rfl⟩ := gw_inv h
    show sz ≤ sz + k
    omega
theorem gw_push {sz : Nat} {cA : Nat → ClassId} (g : AG) (c : GC) : gw sz cA (g ++ [c]) = gw sz cA g ++ [(sz + g.length, gelt sz cA c)] := by
  apply List.ext_getElem?
  intro i
  by_cases h : i < g.length
  · rw [List.getElem?_append_left (by rw [gw_len]; exact h)]
    obtain ⟨x, hx⟩ : ∃ x, g[i]? = some x := ⟨g[i], List.getElem?_eq_getElem h⟩
    rw [gw_get hx, gw_get (c := x) (by rw [List.getElem?_append_left h]; exact hx)]
  · by_cases h2 : i = g.length
    · subst h2
      rw [gw_get (c := c) (by simp), List.getElem?_append_right (by rw [gw_len]; exact Nat.le_refl _), gw_len]
      simp
    · rw [List.getElem?_eq_none (by rw [gw_len]; simp; omega), List.getElem?_eq_none (by simp [gw_len]; omega)]
theorem gw_set {sz : Nat} {cA : Nat → ClassId} (g : AG) (i : Nat) (c : GC) : (gw sz cA g).set i (sz + i, gelt sz cA c) = gw sz cA (g.set i c) := by
  apply List.ext_getElem?
  intro j
  rw [List.getElem?_set]
  by_cases e : i = j
  · subst e
    by_cases h : i < g.length
    · rw [if_pos rfl, if_pos (by rw [gw_len]; exact h), gw_get (c := c) (by rw [List.getElem?_set]; simp [h])]
    · rw [if_pos rfl, if_neg (by rw [gw_len]; exact h), List.getElem?_eq_none (by rw [gw_len, List.length_set]; omega)]
  · rw [if_neg e]
    by_cases h : j < g.length
    · obtain ⟨x, hx⟩ : ∃ x, g[j]? = some x := ⟨g[j], List.getElem?_eq_getElem h⟩
      rw [gw_get hx, gw_get (c := x) (by rw [List.getElem?_set, if_neg e]; exact hx)]
    · rw [List.getElem?_eq_none (by rw [gw_len]; omega), List.getElem?_eq_none (by rw [gw_len, List.length_set]; omega)]
theorem gsl_push (g : AG) (c : GC) : gsl (g ++ [c]) = gsl g + c.1.2 := by simp [gsl]
theorem gsl_set (g : AG) (i : Nat) (c c' : GC) (h : g[i]? = some c) (hc : c'.1.2 = c.1.2) : gsl (g.set i c') = gsl g := by
  have e : (g.set i c').map (fun c => c.1.2) = g.map (fun c => c.1.2) := by
    apply List.ext_getElem?
    intro j
    simp only [List.getElem?_map, List.getElem?_set]
    by_cases q : i = j
    · subst q
      have hl : i < g.length := (List.getElem?_eq_some_iff.mp h).1
      simp [hl, hc]
      have := (List.getElem?_eq_some_iff.mp h).2
      rw [← this]
    · simp [q]
  rw [gsl, e]
  rfl
theorem gw_size {p : Program} {l : Launch} {e : Env} {R : Room} {s : State} {m : MethodId} {args : Array Value} {below : List Frame} {meth : Method} {c : Code} {T : State} {locs : List Loc} {cells slots : Nat} (X : Stand p l e R s m args below meth c T locs cells slots) {H : Heap} (hT : T.heap = H) {D : va_G} {sz n0 : Nat} {cA : Nat → ClassId} {g : AG} (hsz : s.heap.size = sz + n0) (hP : va_P D vwCl (gw sz cA g) H) (hce : cells + n0 = g.length) : H.size = sz + g.length := by
  have h1 : s.heap.size ≤ T.heap.size := X.same.2.1
  have h2 : T.heap.size ≤ s.heap.size + cells := X.same.2.2.1
  rw [hT] at h1 h2
  by_cases hg : g.length = 0
  · omega
  · obtain ⟨x, hx⟩ : ∃ x, g[g.length - 1]? = some x := ⟨g[g.length - 1]'(by omega), List.getElem?_eq_getElem (by omega)⟩
    have h3 := (hP (g.length - 1) _ (gw_get hx)).lt
    have h4 : sz + (g.length - 1) < H.size := h3
    omega
theorem W_size {p : Program} {l : Launch} {e : Env} {R : Room} {s : State} {m : MethodId} {args : Array Value} {below : List Frame} {meth : Method} {c : Code} {locs : List Loc} {cells slots : Nat} {H : Heap} {Q : State → Prop} {fr : JFrame} {D : va_G} {sz n0 : Nat} {cA : Nat → ClassId} {g : AG} (hsz : s.heap.size = sz + n0) (hP : va_P D vwCl (gw sz cA g) H) (hce : cells + n0 = g.length) (k : H.size = sz + g.length → W p l e R s m args below meth c H locs cells slots Q fr) : W p l e R s m args below meth c H locs cells slots Q fr := fun T hT X => k (gw_size X hT hsz hP hce) T hT X
def MonoG (k : GK) : Prop := ∀ lo st g o, k lo st g = some o → g.length ≤ o.2.2.2.length ∧ gsl g ≤ gsl o.2.2.2
def CxG (own : String) (cc : ByteArray) (nL d : Nat) (p : Program) (R : Room) (s : State) (m : MethodId) (args : Array Value) (meth : Method) (c : Code) (D : va_G) (cA : Nat → ClassId) (sz n0 : Nat) : Prop :=
  (p.tables.exec = Jvm.exec ∧ c.code = cc ∧ c.maxLocals = nL ∧ s.vm.findClass own = some m.cls ∧ ∀ w ∈ lw_gw, w.before args s = true) ∧ va_K D vwCl (tysA cA) s ∧ s.heap.size = sz + n0 ∧ (va_AO "LastWalker$Book" s ∧ va_AO "LastWalker$Town" s ∧ va_AO "LastWalker$Day" s) ∧ (own = RL ∨ meth.name = "<init>") ∧ d ≤ R.frames ∧ d * 60 ≤ R.locals
def EndOK (p : Program) (l : Launch) (e : Env) (R : Room) (s : State) (m : MethodId) (args : Array Value) (below : List Frame) (meth : Method) (c : Code) (D : va_G) (cA : Nat → ClassId) (sz n0 s0 nL : Nat) (Q : State → Prop) (o : Nat × List AV × List AV × AG) : Prop :=
  ∀ (H : Heap) (locs : List Loc) (ls : Array Slot) (cells slots : Nat), LR (adz sz) ls nL o.2.1 → va_P D vwCl (gw sz cA o.2.2.2) H → va_S (fun q : Nat => sz ≤ q) s.heap H locs → cells + n0 = o.2.2.2.length → slots + s0 = gsl o.2.2.2 → W p l e R s m args below meth c H locs cells slots Q (F0 m o.1 ls (o.2.2.1.map (cv (adz sz))))
def SndG (own : String) (cc : ByteArray) (nL d : Nat) (pc : Nat) (k : GK) : Prop :=
  MonoG k ∧ ∀ (p : Program) (l : Launch) (e : Env) (R : Room) (s : State) (m : MethodId) (args : Array Value) (below : List Frame) (meth : Method) (c : Code) (D : va_G) (cA : Nat → ClassId) (sz n0 s0 : Nat) (Q : State → Prop),
    CxG own cc nL d p R s m args meth c D cA sz n0 →
    ∀ (H : Heap) (locs : List Loc) (ls : Array Slot) (lo st : List AV) (g : AG) (o : Nat × List AV × List AV × AG) (cells slots : Nat), k lo st g = some o → LR (adz sz) ls nL lo → va_P D vwCl (gw sz cA g) H → va_S (fun q : Nat => sz ≤ q) s.heap H locs → cells + n0 = g.length → slots + s0 = gsl g → (o.2.2.2.length ≤ n0 + R.cells ∧ gsl o.2.2.2 ≤ s0 + R.slots) → EndOK p l e R s m args below meth c D cA sz n0 s0 nL Q o →
    W p l e R s m args below meth c H locs cells slots Q (F0 m pc ls (st.map (cv (adz sz))))
abbrev gk_none : GK := fun _ _ _ => none
abbrev gk_end (pc : Nat) : GK := fun lo st g => some (pc, lo, st, g)
theorem sg_end {own : String} {cc : ByteArray} {nL d pc : Nat} : SndG own cc nL d pc (gk_end pc) := by
  refine ⟨fun lo st g o h => by cases h; exact ⟨Nat.le_refl _, Nat.le_refl _⟩, ?_⟩
  intro p l e R s m args below meth c D cA sz n0 s0 Q C H locs ls lo st g o cells slots hrun hl hP hS hce hsl hroom hend
  have C0 := C
  obtain ⟨⟨hx, hb, hml, hown, hts⟩, hK, hsz, hAO, hin2, hfr, hlo⟩ := C0
  refine W_size hsz hP hce (fun hH => ?_)
  have hD := gw_D (sz := sz) (cA := cA) g
  cases hrun
  exact hend H locs ls cells slots hl hP hS hce hsl
theorem sg_none {own : String} {cc : ByteArray} {nL d pc : Nat} : SndG own cc nL d pc gk_none := by
  refine ⟨fun _ _ _ _ h => (by cases h), ?_⟩
  intro p l e R s m args below meth c D cA sz n0 s0 Q C H locs ls lo st g o cells slots hrun hl hP hS hce hsl hroom hend
  have C0 := C
  obtain ⟨⟨hx, hb, hml, hown, hts⟩, hK, hsz, hAO, hin2, hfr, hlo⟩ := C0
  refine W_size hsz hP hce (fun hH => ?_)
  have hD := gw_D (sz := sz) (cA := cA) g
  cases hrun
abbrev gk_push (v : AV) (k : GK) : GK := fun lo st g => k lo (v :: st) g
theorem sg_iconst {own : String} {cc : ByteArray} {nL d pc : Nat} {n : Int} {k : GK} (hd : decode cc pc = .ok (.iconst n, 1)) (hk : SndG own cc nL d (pc + 1) k) : SndG own cc nL d pc (gk_push (vI n) k) := by
  refine ⟨fun lo st g o h => hk.1 lo _ g o h, ?_⟩
  intro p l e R s m args below meth c D cA sz n0 s0 Q C H locs ls lo st g o cells slots hrun hl hP hS hce hsl hroom hend
  have C0 := C
  obtain ⟨⟨hx, hb, hml, hown, hts⟩, hK, hsz, hAO, hin2, hfr, hlo⟩ := C0
  refine W_size hsz hP hce (fun hH => ?_)
  have hD := gw_D (sz := sz) (cA := cA) g
  refine lv_iconst (v := Int32.ofInt n) hx hb hd rfl ?_
  exact hk.2 p l e R s m args below meth c D cA sz n0 s0 Q C H locs ls lo (vI n :: st) g o cells slots hrun hl hP hS hce hsl hroom hend
theorem sg_bipush {own : String} {cc : ByteArray} {nL d pc : Nat} {n v : Int} (hv : (Int8.ofInt n).toInt32 = Int32.ofInt v) {k : GK} (hd : decode cc pc = .ok (.bipush n, 2)) (hk : SndG own cc nL d (pc + 2) k) : SndG own cc nL d pc (gk_push (vI v) k) := by
  refine ⟨fun lo st g o h => hk.1 lo _ g o h, ?_⟩
  intro p l e R s m args below meth c D cA sz n0 s0 Q C H locs ls lo st g o cells slots hrun hl hP hS hce hsl hroom hend
  have C0 := C
  obtain ⟨⟨hx, hb, hml, hown, hts⟩, hK, hsz, hAO, hin2, hfr, hlo⟩ := C0
  refine W_size hsz hP hce (fun hH => ?_)
  have hD := gw_D (sz := sz) (cA := cA) g
  refine lv_bipush (v := Int32.ofInt v) hx hb hd hv ?_
  exact hk.2 p l e R s m args below meth c D cA sz n0 s0 Q C H locs ls lo (vI v :: st) g o cells slots hrun hl hP hS hce hsl hroom hend
theorem sg_sipush {own : String} {cc : ByteArray} {nL d pc : Nat} {n v : Int} (hv : (Int16.ofInt n).toInt32 = Int32.ofInt v) {k : GK} (hd : decode cc pc = .ok (.sipush n, 3)) (hk : SndG own cc nL d (pc + 3) k) : SndG own cc nL d pc (gk_push (vI v) k) := by
  refine ⟨fun lo st g o h => hk.1 lo _ g o h, ?_⟩
  intro p l e R s m args below meth c D cA sz n0 s0 Q C H locs ls lo st g o cells slots hrun hl hP hS hce hsl hroom hend
  have C0 := C
  obtain ⟨⟨hx, hb, hml, hown, hts⟩, hK, hsz, hAO, hin2, hfr, hlo⟩ := C0
  refine W_size hsz hP hce (fun hH => ?_)
  have hD := gw_D (sz := sz) (cA := cA) g
  refine lv_sipush (v := Int32.ofInt v) hx hb hd hv ?_
  exact hk.2 p l e R s m args below meth c D cA sz n0 s0 Q C H locs ls lo (vI v :: st) g o cells slots hrun hl hP hS hce hsl hroom hend
abbrev gk_load (i : Nat) (k : GK) : GK := fun lo st g => match lgt lo i with
  | .inl x => k lo (vI x :: st) g
  | .inr (.inr (some (some x))) => k lo (vR x :: st) g
  | _ => none
abbrev gk_iload (i : Nat) (k : GK) : GK := fun lo st g => match lgt lo i with
  | .inl x => k lo (vI x :: st) g
  | _ => none
abbrev gk_aload (i : Nat) (k : GK) : GK := fun lo st g => match lgt lo i with
  | .inr (.inr (some (some x))) => k lo (vR x :: st) g
  | _ => none
theorem sg_iload_n {own : String} {cc : ByteArray} {nL d pc : Nat} {i : Fin 4} {k : GK} (hd : decode cc pc = .ok (.iload_n i, 1)) (hk : SndG own cc nL d (pc + 1) k) : SndG own cc nL d pc (gk_iload (i : Nat) k) := by
  refine ⟨fun lo st g o h => ?_, ?_⟩
  · unfold gk_iload at h
    split at h
    · exact hk.1 _ _ _ _ h
    · cases h
  intro p l e R s m args below meth c D cA sz n0 s0 Q C H locs ls lo st g o cells slots hrun hl hP hS hce hsl hroom hend
  have C0 := C
  obtain ⟨⟨hx, hb, hml, hown, hts⟩, hK, hsz, hAO, hin2, hfr, hlo⟩ := C0
  refine W_size hsz hP hce (fun hH => ?_)
  have hD := gw_D (sz := sz) (cA := cA) g
  unfold gk_iload at hrun
  split at hrun
  · rename_i x hx1
    refine lv_iload_n hx hb hd rfl (hl.at hx1 (fun q => by cases q)) ?_
    exact hk.2 p l e R s m args below meth c D cA sz n0 s0 Q C H locs ls lo (vI x :: st) g o cells slots hrun hl hP hS hce hsl hroom hend
  · cases hrun
theorem sg_aload_n {own : String} {cc : ByteArray} {nL d pc : Nat} {i : Fin 4} {k : GK} (hd : decode cc pc = .ok (.aload_n i, 1)) (hk : SndG own cc nL d (pc + 1) k) : SndG own cc nL d pc (gk_aload (i : Nat) k) := by
  refine ⟨fun lo st g o h => ?_, ?_⟩
  · unfold gk_aload at h
    split at h
    · exact hk.1 _ _ _ _ h
    · cases h
  intro p l e R s m args below meth c D cA sz n0 s0 Q C H locs ls lo st g o cells slots hrun hl hP hS hce hsl hroom hend
  have C0 := C
  obtain ⟨⟨hx, hb, hml, hown, hts⟩, hK, hsz, hAO, hin2, hfr, hlo⟩ := C0
  refine W_size hsz hP hce (fun hH => ?_)
  have hD := gw_D (sz := sz) (cA := cA) g
  unfold gk_aload at hrun
  split at hrun
  · rename_i x hx1
    refine lv_aload_n hx hb hd rfl (hl.at hx1 (fun q => by cases q)) ?_
    exact hk.2 p l e R s m args below meth c D cA sz n0 s0 Q C H locs ls lo (vR x :: st) g o cells slots hrun hl hP hS hce hsl hroom hend
  · cases hrun
abbrev gk_istore (i : Nat) (k : GK) : GK := fun lo st g => match st with
  | .inl x :: r => k (ls1 lo i (vI x)) r g
  | _ => none
abbrev gk_astore (i : Nat) (k : GK) : GK := fun lo st g => match st with
  | .inr (.inr (some (some x))) :: r => k (ls1 lo i (vR x)) r g
  | _ => none
theorem sg_istore_n {own : String} {cc : ByteArray} {nL d pc : Nat} {i : Fin 4} (hn : (i : Nat) < nL) {k : GK} (hd : decode cc pc = .ok (.istore_n i, 1)) (hk : SndG own cc nL d (pc + 1) k) : SndG own cc nL d pc (gk_istore (i : Nat) k) := by
  refine ⟨fun lo st g o h => ?_, ?_⟩
  · unfold gk_istore at h
    split at h
    · exact hk.1 _ _ _ _ h
    · cases h
  intro p l e R s m args below meth c D cA sz n0 s0 Q C H locs ls lo st g o cells slots hrun hl hP hS hce hsl hroom hend
  have C0 := C
  obtain ⟨⟨hx, hb, hml, hown, hts⟩, hK, hsz, hAO, hin2, hfr, hlo⟩ := C0
  refine W_size hsz hP hce (fun hH => ?_)
  have hD := gw_D (sz := sz) (cA := cA) g
  unfold gk_istore at hrun
  split at hrun
  · rename_i x r
    obtain ⟨lv, h1, h2⟩ := hl
    refine lv_istore_n hx hb hd rfl h1 hn rfl (fun ls' hl' => ?_)
    exact hk.2 p l e R s m args below meth c D cA sz n0 s0 Q C H locs ls' (ls1 lo i (vI x)) r g o cells slots hrun (LR.st1 h2 hl') hP hS hce hsl hroom hend
  · cases hrun
theorem sg_astore_n {own : String} {cc : ByteArray} {nL d pc : Nat} {i : Fin 4} (hn : (i : Nat) < nL) {k : GK} (hd : decode cc pc = .ok (.astore_n i, 1)) (hk : SndG own cc nL d (pc + 1) k) : SndG own cc nL d pc (gk_astore (i : Nat) k) := by
  refine ⟨fun lo st g o h => ?_, ?_⟩
  · unfold gk_astore at h
    split at h
    · exact hk.1 _ _ _ _ h
    · cases h
  intro p l e R s m args below meth c D cA sz n0 s0 Q C H locs ls lo st g o cells slots hrun hl hP hS hce hsl hroom hend
  have C0 := C
  obtain ⟨⟨hx, hb, hml, hown, hts⟩, hK, hsz, hAO, hin2, hfr, hlo⟩ := C0
  refine W_size hsz hP hce (fun hH => ?_)
  have hD := gw_D (sz := sz) (cA := cA) g
  unfold gk_astore at hrun
  split at hrun
  · rename_i x r
    obtain ⟨lv, h1, h2⟩ := hl
    refine lv_astore_n hx hb hd rfl h1 hn rfl (fun ls' hl' => ?_)
    exact hk.2 p l e R s m args below meth c D cA sz n0 s0 Q C H locs ls' (ls1 lo i (vR x)) r g o cells slots hrun (LR.st1 h2 hl') hP hS hce hsl hroom hend
  · cases hrun
abbrev gk_iinc (i : Nat) (n : Int) (k : GK) : GK := fun lo st g => match lgt lo i with
  | .inl x => k (ls1 lo i (vI (x + n))) st g
  | _ => none
theorem sg_iinc {own : String} {cc : ByteArray} {nL d pc : Nat} {i : Nat} {n : Int} (hn : i < nL) {k : GK} (hd : decode cc pc = .ok (.iinc i n, 3)) (hk : SndG own cc nL d (pc + 3) k) : SndG own cc nL d pc (gk_iinc i n k) := by
  refine ⟨fun lo st g o h => ?_, ?_⟩
  · unfold gk_iinc at h
    split at h
    · exact hk.1 _ _ _ _ h
    · cases h
  intro p l e R s m args below meth c D cA sz n0 s0 Q C H locs ls lo st g o cells slots hrun hl hP hS hce hsl hroom hend
  have C0 := C
  obtain ⟨⟨hx, hb, hml, hown, hts⟩, hK, hsz, hAO, hin2, hfr, hlo⟩ := C0
  refine W_size hsz hP hce (fun hH => ?_)
  have hD := gw_D (sz := sz) (cA := cA) g
  unfold gk_iinc at hrun
  split at hrun
  · rename_i x hx1
    obtain ⟨lv, h1, h2⟩ := hl
    have hm : (i, cv (adz sz) (lgt lo i)) ∈ lv := h2 i (by rw [hx1]; exact fun q => by cases q)
    rw [hx1] at hm
    obtain ⟨q, hq⟩ := List.mem_iff_getElem?.mp hm
    refine lv_iinc (v := Int32.ofInt (x + n)) hx hb hd h1 (k := q) hq (Int32.ofInt_add x n).symm hn rfl (fun ls' hl' => ?_)
    exact hk.2 p l e R s m args below meth c D cA sz n0 s0 Q C H locs ls' (ls1 lo i (vI (x + n))) st g o cells slots hrun (LR.st1 h2 hl') hP hS hce hsl hroom hend
  · cases hrun
abbrev gk_dup (k : GK) : GK := fun lo st g => match st with
  | .inr (.inr (some (some x))) :: r => k lo (vR x :: vR x :: r) g
  | _ => none
theorem sg_dup {own : String} {cc : ByteArray} {nL d pc : Nat} {k : GK} (hd : decode cc pc = .ok (.dup, 1)) (hk : SndG own cc nL d (pc + 1) k) : SndG own cc nL d pc (gk_dup k) := by
  refine ⟨fun lo st g o h => ?_, ?_⟩
  · unfold gk_dup at h
    split at h
    · exact hk.1 _ _ _ _ h
    · cases h
  intro p l e R s m args below meth c D cA sz n0 s0 Q C H locs ls lo st g o cells slots hrun hl hP hS hce hsl hroom hend
  have C0 := C
  obtain ⟨⟨hx, hb, hml, hown, hts⟩, hK, hsz, hAO, hin2, hfr, hlo⟩ := C0
  refine W_size hsz hP hce (fun hH => ?_)
  have hD := gw_D (sz := sz) (cA := cA) g
  unfold gk_dup at hrun
  split at hrun
  · rename_i x r
    refine lv_dup hx hb hd rfl ?_
    exact hk.2 p l e R s m args below meth c D cA sz n0 s0 Q C H locs ls lo (vR x :: vR x :: r) g o cells slots hrun hl hP hS hce hsl hroom hend
  · cases hrun
abbrev gk_cmplt (kt kf : GK) : GK := fun lo st g => match st with
  | .inl y :: .inl x :: r => if iR x ∧ iR y then (if x < y then kt lo r g else kf lo r g) else none
  | _ => none
theorem sg_icmpge {own : String} {cc : ByteArray} {nL d pc : Nat} {off : Int} {tgt : Nat} {kt kf : GK} (ht : (pc : Int) + off = (tgt : Int)) (hd : decode cc pc = .ok (.if_icmp .ge off, 3)) (h1 : SndG own cc nL d tgt kf) (h2 : SndG own cc nL d (pc + 3) kt) : SndG own cc nL d pc (gk_cmplt kt kf) := by
  refine ⟨fun lo st g o h => ?_, ?_⟩
  · unfold gk_cmplt at h
    split at h
    · split at h
      · split at h
        · exact h2.1 _ _ _ _ h
        · exact h1.1 _ _ _ _ h
      · cases h
    · cases h
  intro p l e R s m args below meth c D cA sz n0 s0 Q C H locs ls lo st g o cells slots hrun hl hP hS hce hsl hroom hend
  have C0 := C
  obtain ⟨⟨hx, hb, hml, hown, hts⟩, hK, hsz, hAO, hin2, hfr, hlo⟩ := C0
  refine W_size hsz hP hce (fun hH => ?_)
  have hD := gw_D (sz := sz) (cA := cA) g
  unfold gk_cmplt at hrun
  split at hrun
  · rename_i y x r
    split at hrun
    · rename_i hg
      refine lv_icmp_ge hx hb hd ht (fun q => ?_) (fun q => ?_)
      · rw [if_neg (by have := (i32_le hg.2 hg.1).mp q; omega)] at hrun
        exact h1.2 p l e R s m args below meth c D cA sz n0 s0 Q C H locs ls lo r g o cells slots hrun hl hP hS hce hsl hroom hend
      · rw [if_pos (by have := mt (i32_le hg.2 hg.1).mpr q; omega)] at hrun
        exact h2.2 p l e R s m args below meth c D cA sz n0 s0 Q C H locs ls lo r g o cells slots hrun hl hP hS hce hsl hroom hend
    · cases hrun
  · cases hrun
theorem sg_goto {own : String} {cc : ByteArray} {nL d pc : Nat} {off : Int} {tgt : Nat} {k : GK} (ht : (pc : Int) + off = (tgt : Int)) (hd : decode cc pc = .ok (.goto off, 3)) (hk : SndG own cc nL d tgt k) : SndG own cc nL d pc k := by
  refine ⟨hk.1, ?_⟩
  intro p l e R s m args below meth c D cA sz n0 s0 Q C H locs ls lo st g o cells slots hrun hl hP hS hce hsl hroom hend
  have C0 := C
  obtain ⟨⟨hx, hb, hml, hown, hts⟩, hK, hsz, hAO, hin2, hfr, hlo⟩ := C0
  refine W_size hsz hP hce (fun hH => ?_)
  have hD := gw_D (sz := sz) (cA := cA) g
  refine lv_goto hx hb hd ht ?_
  exact hk.2 p l e R s m args below meth c D cA sz n0 s0 Q C H locs ls lo st g o cells slots hrun hl hP hS hce hsl hroom hend
/-- a field's first value -/
def gdef (t : Nat) : AV := match t with
  | 0 => vI 0
  | 1 => vL 0
  | _ => vN
def gnew (ci : Nat) : GC := ((ci, clN ci), (List.range (clN ci)).map (fun k => gdef (fty ci k)), fun _ => 0)
abbrev gk_new (ci : Nat) (k : GK) : GK := fun lo st g => k lo (vR g.length :: st) (g ++ [gnew ci])
theorem sg_new {own : String} {cc : ByteArray} {nL d pc : Nat} {C : String} {T : u_T} {N ci ix : Nat} {ty : Nat → FieldType} {k : GK} (hc : Cls ci C T N ty) (hdf : ∀ j, j < N → defaultValue (ty j) = cv id (gdef (fty ci j))) (hcl : Cond.classLink own ix C ∈ lw_gw) (hinst : Cond.instantiable C N ∈ lw_gw) (hini : Cond.initialized C ∈ lw_gw) (hd : decode cc pc = .ok (.new ix, 3)) (hk : SndG own cc nL d (pc + 3) k) : SndG own cc nL d pc (gk_new ci k) := by
  refine ⟨fun lo st g o h => ?_, ?_⟩
  · have := hk.1 _ _ _ _ h
    rw [gsl_push, List.length_append] at this
    omega
  intro p l e R s m args below meth c D cA sz n0 s0 Q C H locs ls lo st g o cells slots hrun hl hP hS hce hsl hroom hend
  have C0 := C
  obtain ⟨⟨hx, hb, hml, hown, hts⟩, hK, hsz, hAO, hin2, hfr, hlo⟩ := C0
  refine W_size hsz hP hce (fun hH => ?_)
  have hD := gw_D (sz := sz) (cA := cA) g
  obtain ⟨c1, c2, c3, c4, c5, c6⟩ := hc
  have hKn := hK.1 ci _ c1
  have hmono := hk.1 _ _ _ _ hrun
  rw [gsl_push, List.length_append] at hmono
  have hN : (gnew ci).1.2 = N := c2
  rw [hN] at hmono
  simp only [List.length_cons, List.length_nil] at hmono
  refine W.newcK hx hb hown (hts _ hcl) (hts _ hinst) (hts _ hini) rfl hd (by omega) (by omega) hKn.2.1 rfl fun H1 kC hkC e1 z1 o1 => ?_
  have hkp : ∀ (k : Nat) (x : Nat × va_E), (gw sz cA g)[k]? = some x → H1[x.1]? = H[x.1]? := fun k x hx => o1 x.1 ((hP k x hx).lt)
  have hP1 : va_P D vwCl (gw sz cA (g ++ [gnew ci])) H1 := by
    rw [gw_push]
    refine (hP.kept hkp).app (fun k x hx => ?_)
    have hz : k < 1 := (List.getElem?_eq_some_iff.mp hx).1
    rw [show k = 0 by omega] at hx
    cases hx
    have hge : gelt sz cA (gnew ci) = .inr (ci, (gnew ci).2.1.map (cv (adz sz))) := by
      unfold gelt
      rw [if_pos (show (gnew ci).1.1 < 10 from c3)]
      rfl
    rw [hge]
    refine ⟨_, c1, (u_born ty hts c4 hKn hkC (o := sz + g.length) (by rw [← hH]; exact e1) c5).to (fun j hj => ?_)⟩
    have e2 : vp_V ((gnew ci).2.1.map (cv (adz sz))) j = cv (adz sz) (gdef (fty ci j)) := by
      have hj2 : j < clN ci := by rw [c2]; exact hj
      simp [vp_V, gnew, hj2]
    rw [e2, hdf j hj]
    unfold gdef
    split <;> rfl
  have hS1 : va_S (fun q : Nat => sz ≤ q) s.heap H1 locs := ⟨Nat.le_trans hS.1 (by omega), fun x h1 h2 => (o1 x (Nat.lt_of_lt_of_le h1 hS.1)).trans (hS.2.1 x h1 h2), hS.2.2⟩
  rw [hH]
  exact hk.2 p l e R s m args below meth c D cA sz n0 s0 Q C H1 locs ls lo (vR g.length :: st) (g ++ [gnew ci]) o (cells + 1) (slots + N) hrun hl hP1 hS1 (by rw [List.length_append]; simp; omega) (by rw [gsl_push, hN]; omega) hroom hend
def garr (t n : Nat) : GC := ((t, n), [], fun _ => 0)
abbrev gk_newa (t : Nat) (k : GK) : GK := fun lo st g => match st with
  | .inl n :: r => if 0 ≤ n ∧ n ≤ 2400 then k lo (vR g.length :: r) (g ++ [garr t n.toNat]) else none
  | _ => none
theorem sg_newa {own : String} {cc : ByteArray} {nL d pc : Nat} {atype : ArrayType} {ty : FieldType} {t t0 : Nat} {k : GK} (hty : newarray.typeOf atype = ty) (ht : ∀ cA : Nat → ClassId, (tysA cA)[t0]? = some (cA t, ty)) (hne : ∀ C, ty ≠ .object C) (hby : componentBytes ty ≤ 8) (hge : ∀ (sz : Nat) (cA : Nat → ClassId) (n : Nat), ∃ a0 : vp_A, gelt sz cA (garr t n) = .inl (cA t, a0) ∧ ∀ cX : ClassId, vp_cell cX a0 = arrV cX n (fun _ => defaultValue ty)) (harr : Cond.arrayClass ty ∈ lw_gw) (hd : decode cc pc = .ok (.newarray atype, 2)) (hk : SndG own cc nL d (pc + 2) k) : SndG own cc nL d pc (gk_newa t k) := by
  refine ⟨fun lo st g o h => ?_, ?_⟩
  · unfold gk_newa at h
    split at h
    · split at h
      · have := hk.1 _ _ _ _ h
        rw [gsl_push, List.length_append] at this
        omega
      · cases h
    · cases h
  intro p l e R s m args below meth c D cA sz n0 s0 Q C H locs ls lo st g o cells slots hrun hl hP hS hce hsl hroom hend
  have C0 := C
  obtain ⟨⟨hx, hb, hml, hown, hts⟩, hK, hsz, hAO, hin2, hfr, hlo⟩ := C0
  refine W_size hsz hP hce (fun hH => ?_)
  have hD := gw_D (sz := sz) (cA := cA) g
  unfold gk_newa at hrun
  split at hrun
  · rename_i n r
    split at hrun
    · rename_i hg
      have hmono := hk.1 _ _ _ _ hrun
      rw [gsl_push, List.length_append] at hmono
      have hN : (garr t n.toNat).1.2 = n.toNat := rfl
      rw [hN] at hmono
      simp only [List.length_cons, List.length_nil] at hmono
      have hn1 : (Int32.ofInt n).toNatClampNeg = n.toNat := (i32_idx (n := 2401) hg.1 (by omega) (by decide)).2
      have hn0 : ¬ Int32.ofInt n < 0 := by
        intro q
        have q2 := (i32_lt (x := n) (y := 0) ⟨by omega, by omega⟩ (by decide)).mp q
        omega
      subst hty
      refine va_newaK hx hb (hts _ harr) rfl hd rfl hn0 hn1 (Nat.le_trans (Nat.mul_le_mul_left _ hby) (by omega)) (by omega) (by omega) rfl fun H1 cX e1 z1 o1 hAr hNm => ?_
      have hcX : cX = cA t := by
        have h2 := (hK.2 t0 _ (ht cA)).2
        have h3 : s.vm.findClass ("[" ++ (newarray.typeOf atype).toString) = some (cA t) := by
          revert h2
          cases atype <;> exact id
        exact Option.some.inj (hNm.symm.trans h3)
      have hkp : ∀ (k : Nat) (x : Nat × va_E), (gw sz cA g)[k]? = some x → H1[x.1]? = H[x.1]? := fun k x hx => o1 x.1 ((hP k x hx).lt)
      obtain ⟨a0, ha0, ha1⟩ := hge sz cA n.toNat
      have hP1 : va_P D vwCl (gw sz cA (g ++ [garr t n.toNat])) H1 := by
        rw [gw_push]
        refine (hP.kept hkp).app (fun k x hx => ?_)
        have hz : k < 1 := (List.getElem?_eq_some_iff.mp hx).1
        rw [show k = 0 by omega] at hx
        cases hx
        rw [ha0]
        show H1[sz + g.length]? = some (vp_cell _ _)
        rw [ha1, ← hH, ← hcX]
        exact e1
      have hS1 : va_S (fun q : Nat => sz ≤ q) s.heap H1 locs := ⟨Nat.le_trans hS.1 (by omega), fun x h1 h2 => (o1 x (Nat.lt_of_lt_of_le h1 hS.1)).trans (hS.2.1 x h1 h2), hS.2.2⟩
      rw [hH]
      exact hk.2 p l e R s m args below meth c D cA sz n0 s0 Q C H1 locs ls lo (vR g.length :: r) (g ++ [garr t n.toNat]) o (cells + 1) (slots + n.toNat) hrun hl hP1 hS1 (by rw [List.length_append]; simp; omega) (by rw [gsl_push, hN]; omega) hroom hend
    · cases hrun
  · cases hrun
def grarr (t n : Nat) : GC := ((t, n), List.replicate n vN, fun _ => 0)
theorem grarr_elt (sz : Nat) (cA : Nat → ClassId) (t n : Nat) (ht : 14 ≤ t) : gelt sz cA (grarr t n) = .inl (cA t, n, .inr (.inr (.inr (.inr (fun _ => none))))) := by
  unfold gelt
  have a1 : ¬ (grarr t n).1.1 < 10 := by show ¬ t < 10; omega
  have a2 : ¬ (grarr t n).1.1 < 13 := by show ¬ t < 13; omega
  have a3 : ¬ (grarr t n).1.1 = 13 := by show ¬ t = 13; omega
  rw [if_neg a1, if_neg a2, if_neg a3]
  refine congrArg (fun q => (Sum.inl (cA t, n, Sum.inr (Sum.inr (Sum.inr (Sum.inr q)))) : va_E)) ?_
  funext k
  have : (List.replicate n vN).getD k vN = vN := by
    rw [List.getD_eq_getElem?_getD]
    by_cases h : k < n
    · simp [h]
    · simp [h]
  show (gref ((List.replicate n vN).getD k vN)).map (adz sz) = none
  rw [this]
  rfl
abbrev gk_anew (t : Nat) (k : GK) : GK := fun lo st g => match st with
  | .inl n :: r => if 0 ≤ n ∧ n ≤ 2400 then k lo (vR g.length :: r) (g ++ [grarr t n.toNat]) else none
  | _ => none
theorem sg_anew {own : String} {cc : ByteArray} {nL d pc : Nat} {CS : String} {t t0 ix : Nat} {k : GK} (h14 : 14 ≤ t) (ht : ∀ cA : Nat → ClassId, (tysA cA)[t0]? = some (cA t, .object CS)) (hC : CS = "LastWalker$Book" ∨ CS = "LastWalker$Town" ∨ CS = "LastWalker$Day") (hcl : Cond.classLink own ix CS ∈ lw_gw) (hd : decode cc pc = .ok (.anewarray ix, 3)) (hk : SndG own cc nL d (pc + 3) k) : SndG own cc nL d pc (gk_anew t k) := by
  refine ⟨fun lo st g o h => ?_, ?_⟩
  · unfold gk_anew at h
    split at h
    · split at h
      · have := hk.1 _ _ _ _ h
        rw [gsl_push, List.length_append] at this
        omega
      · cases h
    · cases h
  intro p l e R s m args below meth c D cA sz n0 s0 Q C H locs ls lo st g o cells slots hrun hl hP hS hce hsl hroom hend
  have C0 := C
  obtain ⟨⟨hx, hb, hml, hown, hts⟩, hK, hsz, hAO, hin2, hfr, hlo⟩ := C0
  refine W_size hsz hP hce (fun hH => ?_)
  have hD := gw_D (sz := sz) (cA := cA) g
  unfold gk_anew at hrun
  split at hrun
  · rename_i n r
    split at hrun
    · rename_i hg
      have hmono := hk.1 _ _ _ _ hrun
      rw [gsl_push, List.length_append] at hmono
      have hN : (grarr t n.toNat).1.2 = n.toNat := rfl
      rw [hN] at hmono
      simp only [List.length_cons, List.length_nil] at hmono
      have hn1 : (Int32.ofInt n).toNatClampNeg = n.toNat := (i32_idx (n := 2401) hg.1 (by omega) (by decide)).2
      have hn0 : ¬ Int32.ofInt n < 0 := by
        intro q
        have q2 := (i32_lt (x := n) (y := 0) ⟨by omega, by omega⟩ (by decide)).mp q
        omega
      have hover : va_AO CS s := by
        rcases hC with rfl | rfl | rfl
        · exact hAO.1
        · exact hAO.2.1
        · exact hAO.2.2
      refine W.anew hx hb hown (hts _ hcl) (va_AO.use hover) rfl hd rfl hn0 (by rw [hn1]; omega) (by omega) (by rw [hn1]; omega) fun cX kX comp f1 f2 f3 f4 => ?_
      rw [hn1]
      have hcX : cX = cA t := by
        obtain ⟨kA, comp2, q1, q2, q3, q4⟩ := (hK.2 t0 _ (ht cA)).2
        exact Option.some.inj (f1.symm.trans q4)
      subst hcX
      generalize hH1 : H.push ({ cls := cA t, slots := Array.replicate n.toNat .null, vm := .none } : Cell) = H1
      have z1 : H1.size = H.size + 1 := by rw [← hH1, Array.size_push]
      have e1 : H1[H.size]? = some (arrV (cA t) n.toNat (fun _ => .null)) := by rw [← hH1, Array.getElem?_push_size, ← arrV_new]
      have o1 : ∀ q : Nat, q < H.size → H1[q]? = H[q]? := fun q hq => by rw [← hH1, Array.getElem?_push, if_neg (Nat.ne_of_lt hq)]
      have hkp : ∀ (k : Nat) (x : Nat × va_E), (gw sz cA g)[k]? = some x → H1[x.1]? = H[x.1]? := fun k x hx => o1 x.1 ((hP k x hx).lt)
      have hP1 : va_P D vwCl (gw sz cA (g ++ [grarr t n.toNat])) H1 := by
        rw [gw_push]
        refine (hP.kept hkp).app (fun k x hx => ?_)
        have hz : k < 1 := (List.getElem?_eq_some_iff.mp hx).1
        rw [show k = 0 by omega] at hx
        cases hx
        rw [grarr_elt sz cA t n.toNat h14]
        show H1[sz + g.length]? = some (vp_cell _ _)
        rw [← hH]
        exact e1
      have hS1 : va_S (fun q : Nat => sz ≤ q) s.heap H1 locs := ⟨Nat.le_trans hS.1 (by omega), fun x h1 h2 => (o1 x (Nat.lt_of_lt_of_le h1 hS.1)).trans (hS.2.1 x h1 h2), hS.2.2⟩
      rw [hH]
      exact hk.2 p l e R s m args below meth c D cA sz n0 s0 Q C H1 locs ls lo (vR g.length :: r) (g ++ [grarr t n.toNat]) o (cells + 1) (slots + n.toNat) hrun hl hP1 hS1 (by rw [List.length_append]; simp; omega) (by rw [gsl_push, hN]; omega) hroom hend
    · cases hrun
  · cases hrun
abbrev gk_put0 (ci f : Nat) (k : GK) : GK := fun lo st g => match st with
  | .inl x :: .inr (.inr (some (some j))) :: r => (match g[j]? with
    | some c => bif Nat.beq c.1.1 ci && Nat.blt f c.2.1.length then k lo r (g.set j (c.1, c.2.1.set f (vI x), c.2.2)) else none
    | none => none)
  | _ => none
abbrev gk_put2 (ci f : Nat) (k : GK) : GK := fun lo st g => match st with
  | .inr (.inr (some (some x))) :: .inr (.inr (some (some j))) :: r => (match g[j]? with
    | some c => bif Nat.beq c.1.1 ci && Nat.blt f c.2.1.length then k lo r (g.set j (c.1, c.2.1.set f (vR x), c.2.2)) else none
    | none => none)
  | _ => none
theorem sg_put0 {own : String} {cc : ByteArray} {nL d pc : Nat} {C : String} {T : u_T} {N ci f ix : Nat} {ty : Nat → FieldType} {k : GK} (hc : Cls ci C T N ty) (hf : f < N) (hnf : ∀ (sz : Nat) (x : Int), narrow (ty f) (cv (adz sz) (vI x)) = cv (adz sz) (vI x) ∧ fits (ty f) (cv (adz sz) (vI x)) = true) (hfin : (T f).2.2.2 = false) (hlk : Cond.fieldLink own ix (T f).1 (T f).2.1 (T f).2.2.1 ∈ lw_gw) (hd : decode cc pc = .ok (.putfield ix, 3)) (hk : SndG own cc nL d (pc + 3) k) : SndG own cc nL d pc (gk_put0 ci f k) := by
  refine ⟨fun lo st g o h => ?_, ?_⟩
  · unfold gk_put0 at h
    split at h
    · rename_i x j r
      split at h
      · rename_i cc0 hj
        cases hq : (Nat.beq cc0.1.1 ci && Nat.blt f cc0.2.1.length) with
        | false => rw [hq] at h; cases h
        | true =>
          rw [hq] at h
          have q := hk.1 _ _ _ _ h
          rw [List.length_set, gsl_set g j cc0 (cc0.1, cc0.2.1.set f (vI x), cc0.2.2) hj rfl] at q
          exact q
      · cases h
    · cases h
  intro p l e R s m args below meth c D cA sz n0 s0 Q C H locs ls lo st g o cells slots hrun hl hP hS hce hsl hroom hend
  have C0 := C
  obtain ⟨⟨hx, hb, hml, hown, hts⟩, hK, hsz, hAO, hin2, hfr, hlo⟩ := C0
  refine W_size hsz hP hce (fun hH => ?_)
  have hD := gw_D (sz := sz) (cA := cA) g
  unfold gk_put0 at hrun
  split at hrun
  · rename_i x j r
    split at hrun
    · rename_i cc0 hj
      cases hq : (Nat.beq cc0.1.1 ci && Nat.blt f cc0.2.1.length) with
      | false => rw [hq] at hrun; cases hrun
      | true =>
        rw [hq] at hrun
        dsimp only [cond] at hrun
        obtain ⟨q1, q2⟩ := Bool.and_eq_true_iff.mp hq
        have k1 : cc0.1.1 = ci := Nat.eq_of_beq_eq_true q1
        have k2 : f < cc0.2.1.length := Nat.le_of_ble_eq_true q2
        obtain ⟨c1, c2, c3, c4, c5, c6⟩ := hc
        have he := gw_get (sz := sz) (cA := cA) hj
        have hge : ∀ fs : List AV, gelt sz cA (cc0.1, fs, cc0.2.2) = .inr (ci, fs.map (cv (adz sz))) := by
          intro fs
          unfold gelt
          rw [if_pos (show cc0.1.1 < 10 by rw [k1]; exact c3)]
          show (Sum.inr (cc0.1.1, _) : va_E) = _
          rw [k1]
        rw [show cc0 = (cc0.1, cc0.2.1, cc0.2.2) from rfl, hge] at he
        refine va_put (v := cv (adz sz) (vI x)) (ty := ty f) hx hb hts c4 ty c5 c6 hown hK hP hD hS j he c1 f hf (hts _ hlk) (fun _ h9 => h9) hfin (c5 f hf) (hnf _ _).1 (hnf _ _).2 (by rw [List.length_map]; exact k2) hd (fun H1 locs1 hP1 _ hS1 => ?_)
        rw [← List.map_set, ← hge, gw_set] at hP1
        exact hk.2 p l e R s m args below meth c D cA sz n0 s0 Q C H1 locs1 ls lo r (g.set j (cc0.1, cc0.2.1.set f (vI x), cc0.2.2)) o cells slots hrun hl hP1 hS1 (by rw [List.length_set]; exact hce) (by rw [gsl_set g j cc0 (cc0.1, cc0.2.1.set f (vI x), cc0.2.2) hj rfl]; exact hsl) hroom hend
    · cases hrun
  · cases hrun
theorem sg_put2 {own : String} {cc : ByteArray} {nL d pc : Nat} {C : String} {T : u_T} {N ci f ix : Nat} {ty : Nat → FieldType} {k : GK} (hc : Cls ci C T N ty) (hf : f < N) (hnf : ∀ (sz : Nat) (x : Nat), narrow (ty f) (cv (adz sz) (vR x)) = cv (adz sz) (vR x) ∧ fits (ty f) (cv (adz sz) (vR x)) = true) (hfin : (T f).2.2.2 = false) (hlk : Cond.fieldLink own ix (T f).1 (T f).2.1 (T f).2.2.1 ∈ lw_gw) (hd : decode cc pc = .ok (.putfield ix, 3)) (hk : SndG own cc nL d (pc + 3) k) : SndG own cc nL d pc (gk_put2 ci f k) := by
  refine ⟨fun lo st g o h => ?_, ?_⟩
  · unfold gk_put2 at h
    split at h
    · rename_i x j r
      split at h
      · rename_i cc0 hj
        cases hq : (Nat.beq cc0.1.1 ci && Nat.blt f cc0.2.1.length) with
        | false => rw [hq] at h; cases h
        | true =>
          rw [hq] at h
          have q := hk.1 _ _ _ _ h
          rw [List.length_set, gsl_set g j cc0 (cc0.1, cc0.2.1.set f (vR x), cc0.2.2) hj rfl] at q
          exact q
      · cases h
    · cases h
  intro p l e R s m args below meth c D cA sz n0 s0 Q C H locs ls lo st g o cells slots hrun hl hP hS hce hsl hroom hend
  have C0 := C
  obtain ⟨⟨hx, hb, hml, hown, hts⟩, hK, hsz, hAO, hin2, hfr, hlo⟩ := C0
  refine W_size hsz hP hce (fun hH => ?_)
  have hD := gw_D (sz := sz) (cA := cA) g
  unfold gk_put2 at hrun
  split at hrun
  · rename_i x j r
    split at hrun
    · rename_i cc0 hj
      cases hq : (Nat.beq cc0.1.1 ci && Nat.blt f cc0.2.1.length) with
      | false => rw [hq] at hrun; cases hrun
      | true =>
        rw [hq] at hrun
        dsimp only [cond] at hrun
        obtain ⟨q1, q2⟩ := Bool.and_eq_true_iff.mp hq
        have k1 : cc0.1.1 = ci := Nat.eq_of_beq_eq_true q1
        have k2 : f < cc0.2.1.length := Nat.le_of_ble_eq_true q2
        obtain ⟨c1, c2, c3, c4, c5, c6⟩ := hc
        have he := gw_get (sz := sz) (cA := cA) hj
        have hge : ∀ fs : List AV, gelt sz cA (cc0.1, fs, cc0.2.2) = .inr (ci, fs.map (cv (adz sz))) := by
          intro fs
          unfold gelt
          rw [if_pos (show cc0.1.1 < 10 by rw [k1]; exact c3)]
          show (Sum.inr (cc0.1.1, _) : va_E) = _
          rw [k1]
        rw [show cc0 = (cc0.1, cc0.2.1, cc0.2.2) from rfl, hge] at he
        refine va_put (v := cv (adz sz) (vR x)) (ty := ty f) hx hb hts c4 ty c5 c6 hown hK hP hD hS j he c1 f hf (hts _ hlk) (fun _ h9 => h9) hfin (c5 f hf) (hnf _ _).1 (hnf _ _).2 (by rw [List.length_map]; exact k2) hd (fun H1 locs1 hP1 _ hS1 => ?_)
        rw [← List.map_set, ← hge, gw_set] at hP1
        exact hk.2 p l e R s m args below meth c D cA sz n0 s0 Q C H1 locs1 ls lo r (g.set j (cc0.1, cc0.2.1.set f (vR x), cc0.2.2)) o cells slots hrun hl hP1 hS1 (by rw [List.length_set]; exact hce) (by rw [gsl_set g j cc0 (cc0.1, cc0.2.1.set f (vR x), cc0.2.2) hj rfl]; exact hsl) hroom hend
    · cases hrun
  · cases hrun
theorem sg_put2F {own : String} {cc : ByteArray} {nL d pc : Nat} {C : String} {T : u_T} {N ci f ix : Nat} {ty : Nat → FieldType} {k : GK} (hc : Cls ci C T N ty) (hf : f < N) (hnf : ∀ (sz : Nat) (x : Nat), narrow (ty f) (cv (adz sz) (vR x)) = cv (adz sz) (vR x) ∧ fits (ty f) (cv (adz sz) (vR x)) = true) (hfin : (T f).2.2.2 = true) (hne : own ≠ RL) (hdecl : (T f).1 = own) (hlk : Cond.fieldLink own ix (T f).1 (T f).2.1 (T f).2.2.1 ∈ lw_gw) (hd : decode cc pc = .ok (.putfield ix, 3)) (hk : SndG own cc nL d (pc + 3) k) : SndG own cc nL d pc (gk_put2 ci f k) := by
  refine ⟨fun lo st g o h => ?_, ?_⟩
  · unfold gk_put2 at h
    split at h
    · rename_i x j r
      split at h
      · rename_i cc0 hj
        cases hq : (Nat.beq cc0.1.1 ci && Nat.blt f cc0.2.1.length) with
        | false => rw [hq] at h; cases h
        | true =>
          rw [hq] at h
          have q := hk.1 _ _ _ _ h
          rw [List.length_set, gsl_set g j cc0 (cc0.1, cc0.2.1.set f (vR x), cc0.2.2) hj rfl] at q
          exact q
      · cases h
    · cases h
  intro p l e R s m args below meth c D cA sz n0 s0 Q C H locs ls lo st g o cells slots hrun hl hP hS hce hsl hroom hend
  have C0 := C
  obtain ⟨⟨hx, hb, hml, hown, hts⟩, hK, hsz, hAO, hin2, hfr, hlo⟩ := C0
  refine W_size hsz hP hce (fun hH => ?_)
  have hD := gw_D (sz := sz) (cA := cA) g
  unfold gk_put2 at hrun
  split at hrun
  · rename_i x j r
    split at hrun
    · rename_i cc0 hj
      cases hq : (Nat.beq cc0.1.1 ci && Nat.blt f cc0.2.1.length) with
      | false => rw [hq] at hrun; cases hrun
      | true =>
        rw [hq] at hrun
        dsimp only [cond] at hrun
        obtain ⟨q1, q2⟩ := Bool.and_eq_true_iff.mp hq
        have k1 : cc0.1.1 = ci := Nat.eq_of_beq_eq_true q1
        have k2 : f < cc0.2.1.length := Nat.le_of_ble_eq_true q2
        obtain ⟨c1, c2, c3, c4, c5, c6⟩ := hc
        have he := gw_get (sz := sz) (cA := cA) hj
        have hge : ∀ fs : List AV, gelt sz cA (cc0.1, fs, cc0.2.2) = .inr (ci, fs.map (cv (adz sz))) := by
          intro fs
          unfold gelt
          rw [if_pos (show cc0.1.1 < 10 by rw [k1]; exact c3)]
          show (Sum.inr (cc0.1.1, _) : va_E) = _
          rw [k1]
        rw [show cc0 = (cc0.1, cc0.2.1, cc0.2.2) from rfl, hge] at he
        refine va_putF (v := cv (adz sz) (vR x)) (ty := ty f) hx hb hts c4 ty c5 c6 hown hK hP hD hS j he c1 f hf (hts _ hlk) (fun _ h9 => h9) hfin (hin2.resolve_left hne) hdecl (c5 f hf) (hnf _ _).1 (hnf _ _).2 (by rw [List.length_map]; exact k2) hd (fun H1 locs1 hP1 _ hS1 => ?_)
        rw [← List.map_set, ← hge, gw_set] at hP1
        exact hk.2 p l e R s m args below meth c D cA sz n0 s0 Q C H1 locs1 ls lo r (g.set j (cc0.1, cc0.2.1.set f (vR x), cc0.2.2)) o cells slots hrun hl hP1 hS1 (by rw [List.length_set]; exact hce) (by rw [gsl_set g j cc0 (cc0.1, cc0.2.1.set f (vR x), cc0.2.2) hj rfl]; exact hsl) hroom hend
    · cases hrun
  · cases hrun
abbrev gk_getf (ci f : Nat) (k : GK) : GK := fun lo st g => match st with
  | .inr (.inr (some (some j))) :: r => (match g[j]? with
    | some c => bif Nat.beq c.1.1 ci && Nat.blt f c.2.1.length then k lo (c.2.1.getD f vN :: r) g else none
    | none => none)
  | _ => none
theorem sg_getf {own : String} {cc : ByteArray} {nL d pc : Nat} {C : String} {T : u_T} {N ci f ix : Nat} {ty : Nat → FieldType} {k : GK} (hc : Cls ci C T N ty) (hf : f < N) (hlk : Cond.fieldLink own ix (T f).1 (T f).2.1 (T f).2.2.1 ∈ lw_gw) (hd : decode cc pc = .ok (.getfield ix, 3)) (hk : SndG own cc nL d (pc + 3) k) : SndG own cc nL d pc (gk_getf ci f k) := by
  refine ⟨fun lo st g o h => ?_, ?_⟩
  · unfold gk_getf at h
    split at h
    · split at h
      · rename_i cc0 hj
        cases hq : (Nat.beq cc0.1.1 ci && Nat.blt f cc0.2.1.length) with
        | false => rw [hq] at h; cases h
        | true =>
          rw [hq] at h
          exact hk.1 _ _ _ _ h
      · cases h
    · cases h
  intro p l e R s m args below meth c D cA sz n0 s0 Q C H locs ls lo st g o cells slots hrun hl hP hS hce hsl hroom hend
  have C0 := C
  obtain ⟨⟨hx, hb, hml, hown, hts⟩, hK, hsz, hAO, hin2, hfr, hlo⟩ := C0
  refine W_size hsz hP hce (fun hH => ?_)
  have hD := gw_D (sz := sz) (cA := cA) g
  unfold gk_getf at hrun
  split at hrun
  · rename_i j r
    split at hrun
    · rename_i cc0 hj
      cases hq : (Nat.beq cc0.1.1 ci && Nat.blt f cc0.2.1.length) with
      | false => rw [hq] at hrun; cases hrun
      | true =>
        rw [hq] at hrun
        dsimp only [cond] at hrun
        obtain ⟨q1, q2⟩ := Bool.and_eq_true_iff.mp hq
        have k1 : cc0.1.1 = ci := Nat.eq_of_beq_eq_true q1
        have k2 : f < cc0.2.1.length := Nat.le_of_ble_eq_true q2
        obtain ⟨c1, c2, c3, c4, c5, c6⟩ := hc
        have he := gw_get (sz := sz) (cA := cA) hj
        have hge : gelt sz cA cc0 = .inr (ci, cc0.2.1.map (cv (adz sz))) := by
          unfold gelt
          rw [if_pos (show cc0.1.1 < 10 by rw [k1]; exact c3), k1]
        rw [hge] at he
        refine va_get (v := cv (adz sz) (cc0.2.1.getD f vN)) hx hb hts c4 hown hK hP j he c1 f hf (hts _ hlk) (fun _ h9 => h9) (by simp [List.getD_eq_getElem?_getD, k2]) hd ?_
        exact hk.2 p l e R s m args below meth c D cA sz n0 s0 Q C H locs ls lo (cc0.2.1.getD f vN :: r) g o cells slots hrun hl hP hS hce hsl hroom hend
    · cases hrun
  · cases hrun
abbrev gk_iast (k : GK) : GK := fun lo st g => match st with
  | .inl x :: .inl i :: .inr (.inr (some (some j))) :: r => (match g[j]? with
    | some c => if c.1.1 = 10 ∧ 0 ≤ i ∧ i < (c.1.2 : Nat) ∧ c.1.2 ≤ 2400 then k lo r (g.set j (c.1, c.2.1, fun k => if k = i.toNat then x else c.2.2 k)) else none
    | none => none)
  | _ => none
theorem sg_iast {own : String} {cc : ByteArray} {nL d pc : Nat} {k : GK} (hd : decode cc pc = .ok (.iastore, 1)) (hk : SndG own cc nL d (pc + 1) k) : SndG own cc nL d pc (gk_iast k) := by
  refine ⟨fun lo st g o h => ?_, ?_⟩
  · unfold gk_iast at h
    split at h
    · rename_i x i j r
      split at h
      · rename_i cc0 hj
        split at h
        · have q := hk.1 _ _ _ _ h
          rw [List.length_set, gsl_set g j cc0 (cc0.1, cc0.2.1, fun k => if k = i.toNat then x else cc0.2.2 k) hj rfl] at q
          exact q
        · cases h
      · cases h
    · cases h
  intro p l e R s m args below meth c D cA sz n0 s0 Q C H locs ls lo st g o cells slots hrun hl hP hS hce hsl hroom hend
  have C0 := C
  obtain ⟨⟨hx, hb, hml, hown, hts⟩, hK, hsz, hAO, hin2, hfr, hlo⟩ := C0
  refine W_size hsz hP hce (fun hH => ?_)
  have hD := gw_D (sz := sz) (cA := cA) g
  unfold gk_iast at hrun
  split at hrun
  · rename_i x i j r
    split at hrun
    · rename_i cc0 hj
      split at hrun
      · rename_i hg
        obtain ⟨g1, g2, g3, g4⟩ := hg
        have he := gw_get (sz := sz) (cA := cA) hj
        have hge : ∀ f : Nat → Int, gelt sz cA (cc0.1, cc0.2.1, f) = .inl (cA 10, cc0.1.2, .inl (fun k => Int32.ofInt (f k))) := by
          intro f
          unfold gelt
          rw [if_neg (show ¬ cc0.1.1 < 10 by omega), if_pos (show cc0.1.1 < 13 by omega)]
          show (Sum.inl (cA cc0.1.1, _) : va_E) = _
          rw [g1]
        rw [show cc0 = (cc0.1, cc0.2.1, cc0.2.2) from rfl, hge] at he
        obtain ⟨i1, i2⟩ := i32_idx g2 g3 (by omega)
        refine va_iast hx hb hK hP hD hS j 0 he rfl i1 hd (fun H1 locs1 hP1 _ hS1 => ?_)
        rw [i2, show upd (fun k => Int32.ofInt (cc0.2.2 k)) i.toNat (Int32.ofInt x) = (fun k => Int32.ofInt ((fun k => if k = i.toNat then x else cc0.2.2 k) k)) from by
          funext b
          by_cases q : b = i.toNat <;> simp [upd, q], ← hge, gw_set] at hP1
        exact hk.2 p l e R s m args below meth c D cA sz n0 s0 Q C H1 locs1 ls lo r (g.set j (cc0.1, cc0.2.1, fun k => if k = i.toNat then x else cc0.2.2 k)) o cells slots hrun hl hP1 hS1 (by rw [List.length_set]; exact hce) (by rw [gsl_set g j cc0 (cc0.1, cc0.2.1, fun k => if k = i.toNat then x else cc0.2.2 k) hj rfl]; exact hsl) hroom hend
      · cases hrun
    · cases hrun
  · cases hrun
abbrev gk_aast (t ci : Nat) (k : GK) : GK := fun lo st g => match st with
  | .inr (.inr (some (some v))) :: .inl i :: .inr (.inr (some (some j))) :: r => (match g[j]?, g[v]? with
    | some c, some e => if c.1.1 = t ∧ e.1.1 = ci ∧ 0 ≤ i ∧ i < (c.1.2 : Nat) ∧ c.1.2 ≤ 2400 ∧ c.2.1.length = c.1.2 then k lo r (g.set j (c.1, c.2.1.set i.toNat (vR v), c.2.2)) else none
    | _, _ => none)
  | _ => none
theorem sg_aast {own : String} {cc : ByteArray} {nL d pc : Nat} {C : String} {T : u_T} {N ci t t0 : Nat} {ty : Nat → FieldType} {k : GK} (hc : Cls ci C T N ty) (h14 : 14 ≤ t) (ht : ∀ cA : Nat → ClassId, (tysA cA)[t0]? = some (cA t, .object C)) (hd : decode cc pc = .ok (.aastore, 1)) (hk : SndG own cc nL d (pc + 1) k) : SndG own cc nL d pc (gk_aast t ci k) := by
  refine ⟨fun lo st g o h => ?_, ?_⟩
  · unfold gk_aast at h
    split at h
    · rename_i v i j r
      split at h
      · rename_i cc0 ee0 hj hv
        split at h
        · have q := hk.1 _ _ _ _ h
          rw [List.length_set, gsl_set g j cc0 (cc0.1, cc0.2.1.set i.toNat (vR v), cc0.2.2) hj rfl] at q
          exact q
        · cases h
      · cases h
    · cases h
  intro p l e R s m args below meth c D cA sz n0 s0 Q C H locs ls lo st g o cells slots hrun hl hP hS hce hsl hroom hend
  have C0 := C
  obtain ⟨⟨hx, hb, hml, hown, hts⟩, hK, hsz, hAO, hin2, hfr, hlo⟩ := C0
  refine W_size hsz hP hce (fun hH => ?_)
  have hD := gw_D (sz := sz) (cA := cA) g
  unfold gk_aast at hrun
  split at hrun
  · rename_i v i j r
    split at hrun
    · rename_i cc0 ee0 hj hv
      split at hrun
      · rename_i hg
        obtain ⟨g1, ge, g2, g3, g4, g5⟩ := hg
        obtain ⟨c1, c2, c3, c4, c5, c6⟩ := hc
        have he := gw_get (sz := sz) (cA := cA) hj
        have hge : ∀ f : List AV, gelt sz cA (cc0.1, f, cc0.2.2) = .inl (cA t, cc0.1.2, .inr (.inr (.inr (.inr (fun k => (gref (f.getD k vN)).map (adz sz)))))) := by
          intro f
          unfold gelt
          rw [if_neg (show ¬ cc0.1.1 < 10 by omega), if_neg (show ¬ cc0.1.1 < 13 by omega), if_neg (show ¬ cc0.1.1 = 13 by omega)]
          show (Sum.inl (cA cc0.1.1, _) : va_E) = _
          rw [g1]
        rw [show cc0 = (cc0.1, cc0.2.1, cc0.2.2) from rfl, hge] at he
        have hve := gw_get (sz := sz) (cA := cA) hv
        have hge2 : gelt sz cA ee0 = .inr (ci, ee0.2.1.map (cv (adz sz))) := by
          unfold gelt
          rw [if_pos (show ee0.1.1 < 10 by rw [ge]; exact c3), ge]
        rw [hge2] at hve
        obtain ⟨i1, i2⟩ := i32_idx g2 g3 (by omega)
        refine va_astq hx hb hK hP hD hS j t0 v ci he (ht cA) hve c1 i1 hd (fun H1 locs1 hP1 _ hS1 => ?_)
        rw [i2, show va_up (fun k => (gref (cc0.2.1.getD k vN)).map (adz sz)) i.toNat (some (sz + v)) = (fun k => (gref ((cc0.2.1.set i.toNat (vR v)).getD k vN)).map (adz sz)) from by
          funext b
          have hil : i.toNat < cc0.2.1.length := by omega
          by_cases q : b = i.toNat
          · subst q
            simp [va_up, List.getD_eq_getElem?_getD, hil, gref]
          · simp [va_up, List.getD_eq_getElem?_getD, q, Ne.symm q], ← hge, gw_set] at hP1
        exact hk.2 p l e R s m args below meth c D cA sz n0 s0 Q C H1 locs1 ls lo r (g.set j (cc0.1, cc0.2.1.set i.toNat (vR v), cc0.2.2)) o cells slots hrun hl hP1 hS1 (by rw [List.length_set]; exact hce) (by rw [gsl_set g j cc0 (cc0.1, cc0.2.1.set i.toNat (vR v), cc0.2.2) hj rfl]; exact hsl) hroom hend
      · cases hrun
    · cases hrun
  · cases hrun
abbrev gk_obj (k : GK) : GK := fun lo st g => match st with
  | .inr (.inr (some (some _))) :: r => bif Nat.ble (csum r) 8 then k lo r g else none
  | _ => none
theorem sg_obj {own : String} {cc : ByteArray} {nL d pc : Nat} {ix : Nat} {k : GK} (hd1 : 1 ≤ d) (hlk : Cond.methodLink own ix Lib.objectInit ∈ lw_gw) (hin : Cond.instanceMethod Lib.objectInit ∈ lw_gw) (hcode : Cond.code Lib.objectInit ⟨#[0xb1]⟩ 1 none ∈ lw_gw) (hd : decode cc pc = .ok (.invokespecial ix, 3)) (hk : SndG own cc nL d (pc + 3) k) : SndG own cc nL d pc (gk_obj k) := by
  refine ⟨fun lo st g o h => ?_, ?_⟩
  · unfold gk_obj at h
    split at h
    · rename_i j r
      cases hq : Nat.ble (csum r) 8 with
      | false => rw [hq] at h; cases h
      | true =>
        rw [hq] at h
        exact hk.1 _ _ _ _ h
    · cases h
  intro p l e R s m args below meth c D cA sz n0 s0 Q C H locs ls lo st g o cells slots hrun hl hP hS hce hsl hroom hend
  have C0 := C
  obtain ⟨⟨hx, hb, hml, hown, hts⟩, hK, hsz, hAO, hin2, hfr, hlo⟩ := C0
  refine W_size hsz hP hce (fun hH => ?_)
  have hD := gw_D (sz := sz) (cA := cA) g
  unfold gk_obj at hrun
  split at hrun
  · rename_i j r
    cases hq : Nat.ble (csum r) 8 with
    | false => rw [hq] at hrun; cases hrun
    | true =>
      rw [hq] at hrun
      have hcs : csum r ≤ 8 := Nat.le_of_ble_eq_true hq
      refine W.objInit (g := F0 m pc ls ((vR j :: r).map (cv (adz sz)))) hx hb hown (hts _ hlk) (hts _ hin) (hts _ hcode) rfl (by show ls.size = _; rw [hml]; exact hl.choose_spec.1.1) (a := sz + j) (rest := r.map (cv (adz sz))) rfl hd (by omega) (by show 2 * 0 + _ + 12 ≤ _; rw [csum_ok]; omega) ?_
      exact hk.2 p l e R s m args below meth c D cA sz n0 s0 Q C H locs ls lo r g o cells slots hrun hl hP hS hce hsl hroom hend
  · cases hrun
/-! constructors as functions -/
abbrev GF : Type := List AV → AG → Option AG
def rmG (d k n : Nat) : Room := { frames := d, cells := k, slots := n, locals := d * 60 }
def aoG (U : State) : Prop := va_AO "LastWalker$Book" U ∧ va_AO "LastWalker$Town" U ∧ va_AO "LastWalker$Day" U
def preG (D : va_G) (cA : Nat → ClassId) (sz : Nat) (g : AG) (U : State) : Prop := U.heap.size = sz + g.length ∧ va_P D vwCl (gw sz cA g) U.heap ∧ va_K D vwCl (tysA cA) U ∧ aoG U
def postG (D : va_G) (cA : Nat → ClassId) (sz : Nat) (o : AG) : Array Value → State → Outcome → State → Prop := fun _ st oc t => oc = .returned none ∧ va_P D vwCl (gw sz cA o) t.heap ∧ va_F (fun q : Nat => sz ≤ q) st t
def MG (y : MethodName) (bytes : ByteArray) (maxL d : Nat) (f : GF) : Prop :=
  ∀ (as : List AV) (g o : AG), f as g = some o → (g.length ≤ o.length ∧ gsl g ≤ gsl o) ∧ ∀ (l : Launch) (D : va_G) (cA : Nat → ClassId) (sz : Nat),
    Met l y (.code y bytes maxL none :: lw_gw) (rmG d (o.length - g.length) (gsl o - gsl g)) (va_Pc (as.map (cv (adz sz))) (preG D cA sz g)) (postG D cA sz o) (o.length - g.length) (gsl o - gsl g) (fun q : Nat => sz ≤ q)
def mkG (nL rpc : Nat) (k : GK) : GF := fun as g => bif Nat.ble (sl1 as).length nL then (match k (entA nL as) [] g with
  | some o => bif Nat.beq o.1 rpc && o.2.2.1.isEmpty then some o.2.2.2 else none
  | none => none) else none
abbrev gk_ctor (n : Nat) (f : GF) (k : GK) : GK := fun lo st g => match st.drop n with
  | .inr (.inr (some (some j))) :: r => bif Nat.ble n st.length && Nat.ble (csum r) 8 then (match f (vR j :: (st.take n).reverse) g with
    | some g1 => k lo r g1
    | none => none) else none
  | _ => none
theorem sg_ctor {own : String} {cc : ByteArray} {nL d pc : Nat} {y : MethodName} {bytes : ByteArray} {maxL n ix d2 : Nat} {f : GF} {k : GK} (hM : MG y bytes maxL d2 f) (hd2 : d2 < d) (hmx : maxL ≤ 40) (hcode : Cond.code y bytes maxL none ∈ lw_gw) (hlk : Cond.methodLink own ix y ∈ lw_gw) (hin : Cond.instanceMethod y ∈ lw_gw) (hini : Cond.initialized y.cls ∈ lw_gw) (hy1 : y.name = "<init>") (hy : y.cls ≠ "java/lang/invoke/MethodHandle" ∧ y.cls ≠ "java/lang/invoke/VarHandle" ∧ (parseMethodDescriptor y.desc).map (fun d => d.parameters.length) = some n) (hd : decode cc pc = .ok (.invokespecial ix, 3)) (hk : SndG own cc nL d (pc + 3) k) : SndG own cc nL d pc (gk_ctor n f k) := by
  refine ⟨fun lo st g o h => ?_, ?_⟩
  · unfold gk_ctor at h
    split at h
    · rename_i j r hdr
      cases hq : (Nat.ble n st.length && Nat.ble (csum r) 8) with
      | false => rw [hq] at h; cases h
      | true =>
        rw [hq] at h
        dsimp only [cond] at h
        cases hf : f (vR j :: (st.take n).reverse) g with
        | none => rw [hf] at h; cases h
        | some g1 =>
          rw [hf] at h
          have q1 := hk.1 _ _ _ _ h
          have q2 := (hM _ _ _ hf).1
          omega
    · cases h
  intro p l e R s m args below meth c D cA sz n0 s0 Q C H locs ls lo st g o cells slots hrun hl hP hS hce hsl hroom hend
  have C0 := C
  obtain ⟨⟨hx, hb, hml, hown, hts⟩, hK, hsz, hAO, hin2, hfr, hlo⟩ := C0
  refine W_size hsz hP hce (fun hH => ?_)
  have hD := gw_D (sz := sz) (cA := cA) g
  unfold gk_ctor at hrun
  split at hrun
  · rename_i j r hdr
    cases hq : (Nat.ble n st.length && Nat.ble (csum r) 8) with
    | false => rw [hq] at hrun; cases hrun
    | true =>
    rw [hq] at hrun
    dsimp only [cond] at hrun
    obtain ⟨q1, q2⟩ := Bool.and_eq_true_iff.mp hq
    have hn : n ≤ st.length := Nat.le_of_ble_eq_true q1
    have hcs : csum r ≤ 8 := Nat.le_of_ble_eq_true q2
    cases hf : f (vR j :: (st.take n).reverse) g with
    | none => rw [hf] at hrun; cases hrun
    | some g1 =>
    rw [hf] at hrun
    dsimp only at hrun
    obtain ⟨hmo, hMM⟩ := hM _ _ _ hf
    have hmk := hk.1 _ _ _ _ hrun
    have hMM := hMM l D cA sz
    have hgood : ∀ w ∈ (Cond.code y bytes maxL none :: lw_gw), w ∈ lw_gw := fun w h => (List.mem_cons.mp h).elim (fun e => e ▸ hcode) id
    have hpre : PreS s H (va_Pc ((vR j :: (st.take n).reverse).map (cv (adz sz))) (preG D cA sz g)) (.ref (sz + j) :: (st.take n).reverse.map (cv (adz sz))) := by
      refine ⟨fun a U g2 mk q => ?_, fun U hU hW => ?_⟩
      · obtain ⟨a1, a2, a3, a4, a5⟩ := q
        exact ⟨a1, a2, a3, va_K.moved (u := U) (U := U.calling g2 mk a) (Vm.Alike.refl U.vm) a4, a5.1.moved (U := U.calling g2 mk a) (Vm.Alike.refl U.vm), a5.2.1.moved (U := U.calling g2 mk a) (Vm.Alike.refl U.vm), a5.2.2.moved (U := U.calling g2 mk a) (Vm.Alike.refl U.vm)⟩
      · exact ⟨rfl, by rw [hU]; exact hH, by rw [hU]; exact hP, va_K.moved hW.alike hK, hAO.1.moved hW.alike, hAO.2.1.moved hW.alike, hAO.2.2.moved hW.alike⟩
    have hcb := callB_of (rm := rmG d2 (g1.length - g.length) (gsl g1 - gsl g)) (mc := g1.length - g.length) (ms := gsl g1 - gsl g) (R := R) (own := own) (index := ix) n hts (good_self hgood) rfl rfl rfl (hts _ hini) (hts _ hlk) hy ⟨by show d2 + 1 ≤ _; omega, by show 8 + (maxL + 11) + d2 * 60 ≤ _; omega⟩
    have hrun2 := va_runI (As := (st.take n).reverse.map (cv (adz sz))) (b := sz + j) (g := F0 m pc ls (st.map (cv (adz sz)))) (rest := r.map (cv (adz sz))) (cells := cells) (slots := slots) (locs := locs) (below := below) (meth := meth) (e := e) ⟨hx, hb, hml, hown, hts⟩ hMM ⟨hcb, hy1, hts _ hin⟩ hpre rfl (by simp; omega) hl.choose_spec.1.1 (by
        show st.map (cv (adz sz)) = _
        have e9 : st = st.take n ++ (vR j :: r) := by rw [← hdr, List.take_append_drop]
        conv => lhs; rw [e9]
        rw [List.map_append, ← List.map_reverse, List.reverse_reverse]
        rfl) (by
        show 2 * 0 + _ ≤ 8
        rw [csum_ok]
        omega) hd ⟨by omega, by omega⟩
    intro T hT X
    obtain ⟨v, st₀, t, T', L, h0, X', hL, e1, e2, ⟨hv, hPt, hz, hkk⟩, stp⟩ := hrun2 T hT X
    cases hv
    rw [h0] at hz hkk
    have hS1 : va_S (fun q : Nat => sz ≤ q) s.heap T'.heap (locs ++ L) := ⟨Nat.le_trans hS.1 (by rw [e1]; exact hz), fun q h1 h2 => by rw [e1, hkk q (Nat.lt_of_lt_of_le h1 hS.1) h2]; exact hS.2.1 q h1 h2, fun q hq => by
        rcases List.mem_append.mp hq with h | h
        · exact hS.2.2 q h
        · exact hL q h⟩
    have key := hk.2 p l e R s m args below meth c D cA sz n0 s0 Q C T'.heap (locs ++ L) ls lo r g1 o (cells + (g1.length - g.length)) (slots + (gsl g1 - gsl g)) hrun hl (by rw [e1]; exact hPt) hS1 (by omega) (by omega) hroom hend
    obtain ⟨t2, a1, b1⟩ := key T' rfl X'
    exact ⟨t2, stp t2 a1, b1⟩
  · cases hrun
theorem metG {y : MethodName} {bytes : ByteArray} {nL d rpc : Nat} {k : GK} (hpl : plainName y.cls = true) (hnm : y.name = "<init>") (hrp : decode bytes rpc = .ok (.return_, 1)) (hs : SndG y.cls bytes nL d 0 k) : MG y bytes nL d (mkG nL rpc k) := by
  intro as g o hf
  unfold mkG at hf
  cases hq : Nat.ble (sl1 as).length nL with
  | false => rw [hq] at hf; cases hf
  | true =>
  rw [hq] at hf
  dsimp only [cond] at hf
  cases hk : k (entA nL as) [] g with
  | none => rw [hk] at hf; cases hf
  | some o1 =>
  rw [hk] at hf
  dsimp only at hf
  cases hz : (Nat.beq o1.1 rpc && o1.2.2.1.isEmpty) with
  | false => rw [hz] at hf; cases hf
  | true =>
  rw [hz] at hf
  cases hf
  obtain ⟨z1, z2⟩ := Bool.and_eq_true_iff.mp hz
  have hpc : o1.1 = rpc := Nat.eq_of_beq_eq_true z1
  have hst : o1.2.2.1 = [] := List.isEmpty_iff.mp z2
  have hmo := hs.1 _ _ _ _ hk
  refine ⟨hmo, fun l D cA sz => ?_⟩
  refine Met.ofW (cc := bytes) (maxL := nL) (ret := none) hpl rfl ?_
  intro p e s m args below meth c s₁ B hml hv
  obtain ⟨rfl, hsz, hP, hK, hao⟩ := hv
  have hx := B.exec
  have hb := B.bytes
  have hr := B.returns
  have hts := atoms_spec (ws := Cond.code y bytes nL none :: lw_gw) B.pre
  have hown : s.vm.findClass y.cls = some m.cls := findClass_of_methodNamed B.named
  have hlocks := B.notSynchronized
  have hinit : meth.name = "<init>" := by
    have := (name_of_methodNamed B.named B.method).1
    rw [this]
    exact hnm
  have hlen : (sl1 as).length ≤ nL := Nat.le_of_ble_eq_true hq
  have hl := lv_entry (as.map (cv (adz sz))) (n := nL) (by rw [sl1_len]; exact hlen)
  rw [lg_entry_eq]
  generalize (lg_sl (as.map (cv (adz sz))) ++ List.replicate (nL - (lg_sl (as.map (cv (adz sz)))).length) Slot.unset).toArray = ls at hl ⊢
  have L : LR (adz sz) ls nL (entA nL as) := ⟨_, hl, fun i hi => by
    have := ent_args (adz sz) as (nL - (sl1 as).length) 0 i hi
    rw [Nat.zero_add] at this
    exact this⟩
  have C : CxG y.cls bytes nL d p (rmG d (o1.2.2.2.length - g.length) (gsl o1.2.2.2 - gsl g)) s m (as.map (cv (adz sz))).toArray meth c D cA sz g.length := ⟨⟨hx, hb, hml, hown, fun w h => hts w (List.mem_cons_of_mem _ h)⟩, hK, hsz, hao, Or.inr hinit, Nat.le_refl _, Nat.le_refl _⟩
  refine hs.2 p l e _ s m _ below meth c D cA sz g.length (gsl g) _ C s.heap [] ls (entA nL as) [] g o1 0 0 hk L hP va_S.rf (by omega) (by omega) ⟨by show _ ≤ g.length + (o1.2.2.2.length - g.length); omega, by show _ ≤ gsl g + (gsl o1.2.2.2 - gsl g); omega⟩ ?_
  intro H locs ls1 cells slots hl1 hP1 hS1 hc1 hs1
  rw [hst]
  have ec : cells = o1.2.2.2.length - g.length := by omega
  have es : slots = gsl o1.2.2.2 - gsl g := by omega
  subst ec
  subst es
  rw [hpc]
  exact W.vret hx hb hr (fun t ht hW => ⟨rfl, by rw [ht]; exact hP1, hS1.F ht⟩) hS1.2.2 hrp
