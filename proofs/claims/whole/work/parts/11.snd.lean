/-! WHAT A BLOCK MEANS: if the abstract block returns, the machine comes to the return instruction with that answer and that world -/
def tysA (cA : Nat → ClassId) : List (ClassId × FieldType) := [(cA 10, .int), (cA 11, .byte), (cA 12, .boolean), (cA 13, .long), (cA 14, .object "LastWalker$Book"), (cA 15, .object "LastWalker$Town"), (cA 16, .object "LastWalker$Day")]
def rop : Option AV → Instr × Nat
  | none => (.return_, 1)
  | some (.inl _) => (.ireturn, 1)
  | some (.inr (.inl _)) => (.lreturn, 1)
  | some (.inr (.inr _)) => (.areturn, 1)
/-- what the class reads outside the two objects: static rows, its words -/
def EXT (ad : Nat → Nat) (A : Nat → Prop) (U : State) (H : Heap) : Prop :=
  (∀ e, e < 3 → va_Z "LastWalker$Reader" (xname e) "[I" (.ref (ad (300 + e))) A U H ∧ va_T .int (ad (300 + e)) (xlen e) (fun k => .int (Int32.ofInt (xval e k))) A U H) ∧
  vk_S 14 strLen strByt (fun i => ad (310 + i)) (fun i => ad (330 + i)) A U H ∧ (∀ i, i < 14 → vk_R "LastWalker$Reader" (strIdx i) (strTxt i) (ad (310 + i)) U) ∧ va_Z "java/lang/String" "COMPACT_STRINGS" "Z" (.int 1) A U H ∧
  (va_Z "jdk/internal/util/Preconditions" "SIOOBE_FORMATTER" "Ljava/util/function/BiFunction;" .null A U H ∨ va_Z "jdk/internal/util/Preconditions" "SIOOBE_FORMATTER" "Ljava/util/function/BiFunction;" (.ref (ad 399)) A U H)
theorem EXT.warm {ad : Nat → Nat} {A : Nat → Prop} {s U : State} {H : Heap} (hW : s.WarmedH U.vm) (h : EXT ad A s H) : EXT ad A U H := ⟨fun e he => ⟨(h.1 e he).1.moved hW.alike, (h.1 e he).2.moved hW.alike⟩, h.2.1.moved hW.alike, fun i hi => (h.2.2.1 i hi).warm hW, h.2.2.2.1.moved hW.alike, h.2.2.2.2.imp (va_Z.moved hW.alike) (va_Z.moved hW.alike)⟩
theorem EXT.same {ad : Nat → Nat} {A : Nat → Prop} {u U : State} {H : Heap} (hv : U.vm = u.vm) (h : EXT ad A u H) : EXT ad A U H := by
  have ha : u.vm.Alike U.vm := by rw [hv]; exact Vm.Alike.refl u.vm
  exact ⟨fun e he => ⟨(h.1 e he).1.moved ha, (h.1 e he).2.moved ha⟩, h.2.1.moved ha, fun i hi => (h.2.2.1 i hi).same hv, h.2.2.2.1.moved ha, h.2.2.2.2.imp (va_Z.moved ha) (va_Z.moved ha)⟩
theorem EXT.kept {ad : Nat → Nat} {A : Nat → Prop} {U : State} {H H1 : Heap} (h : EXT ad A U H) (hq : ∀ a : Nat, a < H.size → ¬ A a → H1[a]? = H[a]?) : EXT ad A U H1 := ⟨fun e he => ⟨(h.1 e he).1.kept hq, (h.1 e he).2.kept hq⟩, h.2.1.kept hq, h.2.2.1, h.2.2.2.1.kept hq, h.2.2.2.2.imp (fun z => va_Z.kept z hq) (fun z => va_Z.kept z hq)⟩
theorem EXT.narrow {ad : Nat → Nat} {A B : Nat → Prop} {U : State} {H : Heap} (h : EXT ad A U H) (hAB : ∀ q, B q → A q) : EXT ad B U H := ⟨fun e he => ⟨(h.1 e he).1.narrow hAB, (h.1 e he).2.narrow hAB⟩, h.2.1.narrow hAB, h.2.2.1, h.2.2.2.1.narrow hAB, h.2.2.2.2.imp (fun z => va_Z.narrow z hAB) (fun z => va_Z.narrow z hAB)⟩
/-- the fixed part of a walk: the machine, the code, the words, the classes, the addresses, the room -/
def Cx (own : String) (cc : ByteArray) (nL d : Nat) (p : Program) (R : Room) (s : State) (m : MethodId) (args : Array Value) (c : Code) (D : va_G) (cA : Nat → ClassId) (ad : Nat → Nat) (A : Nat → Prop) (cells slots : Nat) : Prop :=
  (p.tables.exec = Jvm.exec ∧ c.code = cc ∧ c.maxLocals = nL ∧ s.vm.findClass own = some m.cls ∧ ∀ w ∈ lw_gw, w.before args s = true) ∧
  va_K D vwCl (tysA cA) s ∧ (∀ i j, i < NC → j < NC → ad i = ad j → i = j) ∧ (∀ j, j < NC → A (ad j)) ∧ (∀ q, s.heap.size ≤ q → A q) ∧ EXT ad A s s.heap ∧
  d ≤ R.frames ∧ d * 60 ≤ R.locals ∧ cells ≤ R.cells ∧ slots ≤ R.slots
/-- what is taken of the end: the machine at a return instruction with that answer and that world -/
def RetOK (cc : ByteArray) (p : Program) (l : Launch) (e : Env) (R : Room) (s : State) (m : MethodId) (args : Array Value) (below : List Frame) (meth : Method) (c : Code) (D : va_G) (cA : Nat → ClassId) (ad : Nat → Nat) (A : Nat → Prop) (cells slots : Nat) (Q : State → Prop) (o : AR) : Prop :=
  ∀ (pc : Nat) (ls : Array Slot) (H : Heap) (locs : List Loc), va_P D vwCl (cw ad cA o.2) H → va_S A s.heap H locs → decode cc pc = .ok (rop o.1) → W p l e R s m args below meth c H locs cells slots Q (F0 m pc ls (o.1.toList.map (cv ad)))
/-- what else a walk may know of its start -/
abbrev XT : Type := (Nat → Nat) → (Nat → Prop) → State → Prop
abbrev X0 : XT := fun _ _ _ => True
def Snd (Ξ : XT) (own : String) (cc : ByteArray) (nL d : Nat) (pc : Nat) (k : AK) : Prop :=
  ∀ (p : Program) (l : Launch) (e : Env) (R : Room) (s : State) (m : MethodId) (args : Array Value) (below : List Frame) (meth : Method) (c : Code) (D : va_G) (cA : Nat → ClassId) (ad : Nat → Nat) (A : Nat → Prop) (cells slots : Nat) (Q : State → Prop),
    Cx own cc nL d p R s m args c D cA ad A cells slots → Ξ ad A s →
    ∀ (H : Heap) (locs : List Loc) (ls : Array Slot) (lo st : List AV) (w : AW) (o : AR), k lo st w = some o → LR ad ls nL lo → va_P D vwCl (cw ad cA w) H → va_S A s.heap H locs → RetOK cc p l e R s m args below meth c D cA ad A cells slots Q o →
    W p l e R s m args below meth c H locs cells slots Q (F0 m pc ls (st.map (cv ad)))
theorem cw_Cx {own : String} {cc : ByteArray} {nL d : Nat} {p : Program} {R : Room} {s : State} {m : MethodId} {args : Array Value} {c : Code} {D : va_G} {cA : Nat → ClassId} {ad : Nat → Nat} {A : Nat → Prop} {cells slots : Nat} (C : Cx own cc nL d p R s m args c D cA ad A cells slots) {w : AW} : va_D A (cw ad cA w) := cw_D C.2.2.1 C.2.2.2.1
/-! cells and their fields -/
theorem fv_congr {w w' : AW} {i ci k : Nat} (h1 : w'.1 i = w.1 i) (h2 : w'.2.1 i = w.2.1 i) (h3 : w'.2.2 = w.2.2) : fv w' i ci k = fv w i ci k := by
  unfold fv
  rw [h1, h2, h3]
theorem elt_congr {ad : Nat → Nat} {cA : Nat → ClassId} {w w' : AW} {i : Nat} (h1 : w'.1 i = w.1 i) (h2 : w'.2.1 i = w.2.1 i) (h3 : w'.2.2 = w.2.2) : elt ad cA w' i = elt ad cA w i := by
  unfold elt
  simp only [fv_congr h1 h2 h3, h1, h2]
theorem u2_ne (f : Nat → Nat → Int) {j i : Nat} (k : Nat) (x : Int) (h : i ≠ j) : u2 f j k x i = f i := by
  funext b
  simp [u2, h]
theorem u2_row (f : Nat → Nat → Int) (j k : Nat) (x : Int) : u2 f j k x j = fun b => if b = k then x else f j b := by
  funext b
  simp [u2]
theorem elt_obj {ad : Nat → Nat} {cA : Nat → ClassId} {w : AW} {j ci n : Nat} (h : shp j = (ci, n)) (hc : ci < 10) : elt ad cA w j = .inr (ci, (List.range n).map (fun k => cv ad (fv w j ci k))) := by
  unfold elt
  rw [h]
  simp only [hc, if_true]
theorem elt_ia {ad : Nat → Nat} {cA : Nat → ClassId} {w : AW} {j t n : Nat} (h : shp j = (t, n)) (h1 : 10 ≤ t) (h2 : t < 13) : elt ad cA w j = .inl (cA t, n, .inl (fun k => Int32.ofInt (w.1 j k))) := by
  unfold elt
  rw [h]
  simp only [Nat.not_lt.mpr h1, h2, if_true, if_false]
theorem elt_la {ad : Nat → Nat} {cA : Nat → ClassId} {w : AW} {j n : Nat} (h : shp j = (13, n)) : elt ad cA w j = .inl (cA 13, n, .inr (.inl (fun k => Int64.ofInt (w.2.1 j k)))) := by
  unfold elt
  rw [h]
  simp
theorem elt_ra {ad : Nat → Nat} {cA : Nat → ClassId} {w : AW} {j t n : Nat} (h : shp j = (t, n)) (h1 : 14 ≤ t) : elt ad cA w j = .inl (cA t, n, .inr (.inr (.inr (.inr (fun k => some (ad (cref j k))))))) := by
  unfold elt
  rw [h]
  have a1 : ¬ t < 10 := by omega
  have a2 : ¬ t < 13 := by omega
  have a3 : ¬ t = 13 := by omega
  simp only [a1, a2, a3, if_false]
theorem map_set_range {α : Type} (f g : Nat → α) (n k : Nat) (h : ∀ i, i ≠ k → g i = f i) : ((List.range n).map f).set k (g k) = (List.range n).map g := by
  apply List.ext_getElem?
  intro i
  rw [List.getElem?_set]
  by_cases e : k = i
  · subst e
    by_cases hl : k < n
    · simp [hl]
    · simp [hl]
  · rw [if_neg e]
    simp only [List.getElem?_map]
    by_cases hl : i < n
    · simp [hl, h i (Ne.symm e)]
    · simp [hl]
/-- an int field put -/
theorem elt_put0 {ad : Nat → Nat} {cA : Nat → ClassId} {w : AW} {j ci n k : Nat} (x : Int) (h : shp j = (ci, n)) (hc : ci < 10) (hf : fty ci k = 0) : elt ad cA (u2 w.1 j k x, w.2) j = .inr (ci, ((List.range n).map (fun k => cv ad (fv w j ci k))).set k (.int (Int32.ofInt x))) := by
  rw [elt_obj h hc]
  have e : (.int (Int32.ofInt x) : Value) = (fun i => cv ad (fv (u2 w.1 j k x, w.2) j ci i)) k := by
    simp [fv, hf, cv, u2]
  refine congrArg (fun q => (Sum.inr (ci, q) : va_E)) ?_
  rw [e]
  refine (map_set_range (fun i => cv ad (fv w j ci i)) _ n k ?_).symm
  intro i hi
  show cv ad (fv _ j ci i) = cv ad (fv w j ci i)
  unfold fv
  simp [u2, hi]
theorem elt_put1 {ad : Nat → Nat} {cA : Nat → ClassId} {w : AW} {j ci n k : Nat} (x : Int) (h : shp j = (ci, n)) (hc : ci < 10) (hf : fty ci k = 1) : elt ad cA (w.1, u2 w.2.1 j k x, w.2.2) j = .inr (ci, ((List.range n).map (fun k => cv ad (fv w j ci k))).set k (.long (Int64.ofInt x))) := by
  rw [elt_obj h hc]
  have e : (.long (Int64.ofInt x) : Value) = (fun i => cv ad (fv (w.1, u2 w.2.1 j k x, w.2.2) j ci i)) k := by
    simp [fv, hf, cv, u2]
  refine congrArg (fun q => (Sum.inr (ci, q) : va_E)) ?_
  rw [e]
  refine (map_set_range (fun i => cv ad (fv w j ci i)) _ n k ?_).symm
  intro i hi
  show cv ad (fv _ j ci i) = cv ad (fv w j ci i)
  unfold fv
  simp [u2, hi]
theorem ia_upd {w : AW} {j k : Nat} {x : Int} : (fun b => Int32.ofInt (u2 w.1 j k x j b)) = upd (fun b => Int32.ofInt (w.1 j b)) k (Int32.ofInt x) := by
  funext b
  by_cases e : b = k
  · subst e; simp [u2, upd]
  · simp [u2, upd, e]
theorem la_upd {w : AW} {j k : Nat} {x : Int} : (fun b => Int64.ofInt (u2 w.2.1 j k x j b)) = vp_updL (fun b => Int64.ofInt (w.2.1 j b)) k (Int64.ofInt x) := by
  funext b
  by_cases e : b = k
  · subst e; simp [u2, vp_updL]
  · simp [u2, vp_updL, e]
