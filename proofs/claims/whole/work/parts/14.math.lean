section VMAL
variable {p : Program} {l : Launch} {e : Env} {R : Room} {s : State} {m : MethodId} {args : Array Value} {below : List Frame} {meth : Method} {c : Code} {cells slots : Nat} {T : State} {locs : List Loc}
theorem mathMaxL (X : Stand p l e R s m args below meth c T locs cells slots) (hexec : p.tables.exec = Jvm.exec) {own : String} {index : Nat} (hown : s.vm.findClass own = some m.cls)
    (hlink : (Cond.methodLink own index Lib.MathLoose.max_long.x).before args s = true) (hstat : (Cond.static Lib.MathLoose.max_long.x).before args s = true) (hinit : (Cond.initialized "java/lang/Math").before args s = true)
    (hcode : (Cond.code Lib.MathLoose.max_long.x Lib.MathLoose.max_long.code 4 (some .long)).before args s = true)
    {g : JFrame} (hg : g.method = m) (hsize : g.locals.size = c.maxLocals) {a b : Int64} {rest : List Value} (hstack : g.stack = .long b :: .long a :: rest) (hdg : decode c.code g.pc = .ok (.invokestatic index, 3))
    (hframes : 1 ≤ R.frames) (hlocals : 2 * g.monitorRoom + (rest.map fun v => v.category).sum + 15 ≤ R.locals) (hcells : cells ≤ R.cells) (hslots : slots ≤ R.slots) :
    ∃ vm', Stand p l e R s m args below meth c (T.setVm vm') locs cells slots ∧
      ∀ target, Steps p.tables e below ((T.setVm vm').setTop { g with pc := g.pc + 3, stack := .long (if a < b then b else a) :: rest }) target → Steps p.tables e below (T.setTop g) target := by
  obtain ⟨v, T', X', ⟨first, t, hpost⟩, hstep⟩ := X.staticByContractV hexec hown hlink hstat hinit hcode (by decide)
    (Lib.MathLoose.max_long l)
    rfl rfl rfl rfl
    (fun args' first o s₂ h => by
      cases o with
      | returned r => exact ⟨r, rfl⟩
      | threw y =>
        exfalso
        simp only [Lib.MathLoose.max_long.spec, Cond.after, Cond.holds, Cond.value] at h
        revert h
        generalize Term.eval args' first (some (Outcome.threw y)) [] s₂ (Term.arg 1) = A1
        generalize Term.eval args' first (some (Outcome.threw y)) [] s₂ (Term.arg 0) = A0
        generalize Term.eval args' first (some (Outcome.threw y)) [] s₂ Term.result = A2
        intro h
        rcases A0 with _ | x0 <;> rcases A1 with _ | x1
        all_goals (try cases x0) <;> (try cases x1) <;> simp at h
        all_goals (rename_i u1 u2; revert h; cases decide (u2 < u1) <;> cases decide (u1 = u2) <;> simp))
    hg hsize (argsL := [.long a, .long b]) (rest := rest)
    (fun sig hs => by
      have h : parseMethodDescriptor "(JJ)J" = some { parameters := [.long, .long], returnType := some .long } := by decide +kernel
      rw [show Lib.MathLoose.max_long.x.desc = "(JJ)J" from rfl, h] at hs
      rw [← Option.some.inj hs]; rfl)
    hstack hdg
    (fun vm' hW => by
      simp only [Lib.MathLoose.max_long.spec, Cond.before_and, Bool.and_eq_true]
      refine ⟨?_, rfl, rfl, rfl⟩
      have q := hcode
      rw [← Cond.code_setVm hW.alike] at q
      simp only [Cond.before, Cond.holds, Cond.value, State.methodNamed?, State.vm_setVm] at q ⊢
      exact q)
    (by show 0 + 1 ≤ R.frames; omega) (by show 2 * g.monitorRoom + (rest.map fun v => v.category).sum + (4 + 11) + 0 ≤ R.locals; omega) (by show cells + 0 ≤ R.cells; omega) (by show slots + 0 ≤ R.slots; omega)
  refine ⟨T', X', fun target h => hstep target ?_⟩
  have hv : v = some (.long (if a < b then b else a)) := by
    by_cases h1 : b < a
    · have h3 : ¬ a < b := by
        rw [Int64.lt_iff_toInt_lt] at h1 ⊢
        omega
      simp [Lib.MathLoose.max_long.spec, Cond.after, Cond.holds, Cond.value, Term.eval, h1] at hpost
      rw [if_neg h3]
      cases v with
      | none => simp at hpost
      | some x =>
        cases x <;> try (simp_all; done)
        rename_i z
        by_cases q : z = a <;> simp [q] at hpost ⊢
    · by_cases h2 : a = b
      · subst h2
        simp [Lib.MathLoose.max_long.spec, Cond.after, Cond.holds, Cond.value, Term.eval, h1] at hpost
        rw [if_neg h1]
        cases v with
        | none => simp at hpost
        | some x =>
          cases x <;> try (simp_all; done)
          rename_i z
          by_cases q : z = a <;> simp [q] at hpost ⊢
      · have h3 : a < b := by
          rw [Int64.lt_iff_toInt_lt] at h1 ⊢
          have : a.toInt ≠ b.toInt := fun q => h2 (Int64.toInt_inj.mp q)
          omega
        simp [Lib.MathLoose.max_long.spec, Cond.after, Cond.holds, Cond.value, Term.eval, h1, h2] at hpost
        rw [if_pos h3]
        cases v with
        | none => simp at hpost
        | some x => cases x <;> simp_all
  rw [hv]
  exact h
end VMAL
abbrev ak_imax (k : AK) : AK := fun lo st w => match st with
  | .inl y :: .inl x :: r => bif Nat.ble (csum r) 8 then k lo (vI (if w32 x < w32 y then y else x) :: r) w else none
  | _ => none
theorem snd_imax {Ξ : XT} {own : String} {cc : ByteArray} {nL d pc : Nat}  {ix : Nat} {k : AK} (hd1 : 1 ≤ d) (hlk : Cond.methodLink own ix Lib.Math.max.name ∈ lw_gw) (hst : Cond.static Lib.Math.max.name ∈ lw_gw) (hini : Cond.initialized "java/lang/Math" ∈ lw_gw) (hcode : Cond.code Lib.Math.max.name Lib.Math.max.code 2 (some .int) ∈ lw_gw) (hd : decode cc pc = .ok (.invokestatic ix, 3)) (hk : Snd Ξ own cc nL d (pc + 3) k) : Snd Ξ own cc nL d pc (ak_imax k) := by
  intro p l e R s m args below meth c D cA ad A cells slots Q C Z H locs ls lo st w o hrun hl hP hS hr
  have C0 := C
  obtain ⟨⟨hx, hb, hml, hown, hts⟩, hK, hi, hAd, hA, hE, hfr, hlo, hce, hsl⟩ := C0
  unfold ak_imax at hrun
  split at hrun
  · rename_i y x r
    cases hcs : Nat.ble (csum r) 8 with
    | false => rw [hcs] at hrun; cases hrun
    | true =>
    have hcs2 : csum r ≤ 8 := Nat.le_of_ble_eq_true hcs
    rw [hcs] at hrun
    dsimp only [cond] at hrun
    have hif : (if Int32.ofInt x < Int32.ofInt y then Int32.ofInt y else Int32.ofInt x) = Int32.ofInt (if w32 x < w32 y then y else x) := by
      by_cases q : w32 x < w32 y
      · rw [if_pos ((w_lt x y).mpr q), if_pos q]
      · rw [if_neg (fun z => q ((w_lt x y).mp z)), if_neg q]
    refine va_mmax hx hb (by rw [hml]; exact hl.choose_spec.1.1.symm) hown (hts _ hlk) (hts _ hst) (hts _ hini) (hts _ hcode) (by omega) (by rw [csum_ok]; omega) hce hsl hd ?_
    rw [hif]
    exact hk p l e R s m args below meth c D cA ad A cells slots Q C Z H locs ls lo (vI (if w32 x < w32 y then y else x) :: r) w o hrun hl hP hS hr
  · cases hrun
abbrev ak_imin (k : AK) : AK := fun lo st w => match st with
  | .inl y :: .inl x :: r => bif Nat.ble (csum r) 8 then k lo (vI (if w32 y < w32 x then y else x) :: r) w else none
  | _ => none
theorem snd_imin {Ξ : XT} {own : String} {cc : ByteArray} {nL d pc : Nat}  {ix : Nat} {k : AK} (hd1 : 1 ≤ d) (hlk : Cond.methodLink own ix Lib.Math.min.name ∈ lw_gw) (hst : Cond.static Lib.Math.min.name ∈ lw_gw) (hini : Cond.initialized "java/lang/Math" ∈ lw_gw) (hcode : Cond.code Lib.Math.min.name Lib.Math.min.code 2 (some .int) ∈ lw_gw) (hd : decode cc pc = .ok (.invokestatic ix, 3)) (hk : Snd Ξ own cc nL d (pc + 3) k) : Snd Ξ own cc nL d pc (ak_imin k) := by
  intro p l e R s m args below meth c D cA ad A cells slots Q C Z H locs ls lo st w o hrun hl hP hS hr
  have C0 := C
  obtain ⟨⟨hx, hb, hml, hown, hts⟩, hK, hi, hAd, hA, hE, hfr, hlo, hce, hsl⟩ := C0
  unfold ak_imin at hrun
  split at hrun
  · rename_i y x r
    cases hcs : Nat.ble (csum r) 8 with
    | false => rw [hcs] at hrun; cases hrun
    | true =>
    have hcs2 : csum r ≤ 8 := Nat.le_of_ble_eq_true hcs
    rw [hcs] at hrun
    dsimp only [cond] at hrun
    have hif : (if Int32.ofInt y < Int32.ofInt x then Int32.ofInt y else Int32.ofInt x) = Int32.ofInt (if w32 y < w32 x then y else x) := by
      by_cases q : w32 y < w32 x
      · rw [if_pos ((w_lt y x).mpr q), if_pos q]
      · rw [if_neg (fun z => q ((w_lt y x).mp z)), if_neg q]
    refine va_mmin hx hb (by rw [hml]; exact hl.choose_spec.1.1.symm) hown (hts _ hlk) (hts _ hst) (hts _ hini) (hts _ hcode) (by omega) (by rw [csum_ok]; omega) hce hsl hd ?_
    rw [hif]
    exact hk p l e R s m args below meth c D cA ad A cells slots Q C Z H locs ls lo (vI (if w32 y < w32 x then y else x) :: r) w o hrun hl hP hS hr
  · cases hrun
abbrev ak_lmax (k : AK) : AK := fun lo st w => match st with
  | .inr (.inl y) :: .inr (.inl x) :: r => bif Nat.ble (csum r) 8 then k lo (vL (if w64 x < w64 y then y else x) :: r) w else none
  | _ => none
theorem snd_lmax {Ξ : XT} {own : String} {cc : ByteArray} {nL d pc : Nat}  {ix : Nat} {k : AK} (hd1 : 1 ≤ d) (hlk : Cond.methodLink own ix Lib.MathLoose.max_long.x ∈ lw_gw) (hst : Cond.static Lib.MathLoose.max_long.x ∈ lw_gw) (hini : Cond.initialized "java/lang/Math" ∈ lw_gw) (hcode : Cond.code Lib.MathLoose.max_long.x Lib.MathLoose.max_long.code 4 (some .long) ∈ lw_gw) (hd : decode cc pc = .ok (.invokestatic ix, 3)) (hk : Snd Ξ own cc nL d (pc + 3) k) : Snd Ξ own cc nL d pc (ak_lmax k) := by
  intro p l e R s m args below meth c D cA ad A cells slots Q C Z H locs ls lo st w o hrun hl hP hS hr
  have C0 := C
  obtain ⟨⟨hx, hb, hml, hown, hts⟩, hK, hi, hAd, hA, hE, hfr, hlo, hce, hsl⟩ := C0
  unfold ak_lmax at hrun
  split at hrun
  · rename_i y x r
    cases hcs : Nat.ble (csum r) 8 with
    | false => rw [hcs] at hrun; cases hrun
    | true =>
    have hcs2 : csum r ≤ 8 := Nat.le_of_ble_eq_true hcs
    rw [hcs] at hrun
    dsimp only [cond] at hrun
    have hif : (if Int64.ofInt x < Int64.ofInt y then Int64.ofInt y else Int64.ofInt x) = Int64.ofInt (if w64 x < w64 y then y else x) := by
      by_cases q : w64 x < w64 y
      · rw [if_pos ((wl_lt x y).mpr q), if_pos q]
      · rw [if_neg (fun z => q ((wl_lt x y).mp z)), if_neg q]
    intro T hT X
    obtain ⟨vm', X', stp⟩ := mathMaxL X hx hown (hts _ hlk) (hts _ hst) (hts _ hini) (hts _ hcode) (g := F0 m pc ls ((vL y :: vL x :: r).map (cv ad))) rfl (by show ls.size = _; rw [hml]; exact hl.choose_spec.1.1) (a := Int64.ofInt x) (b := Int64.ofInt y) (rest := r.map (cv ad)) rfl (by rw [hb]; exact hd) (by omega) (by show 2 * 0 + _ + 15 ≤ _; rw [csum_ok]; omega) hce hsl
    have key := hk p l e R s m args below meth c D cA ad A cells slots Q C Z H locs ls lo (vL (if w64 x < w64 y then y else x) :: r) w o hrun hl hP hS hr
    obtain ⟨t, a1, b1⟩ := key (T.setVm vm') hT X'
    refine ⟨t, stp t ?_, b1⟩
    rw [hif]
    exact a1
  · cases hrun
