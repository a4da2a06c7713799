/-! new and a constructor without arguments, raw: for the law's own beginning -/
theorem rw_new {own : String} {cc : ByteArray} {nL d pc : Nat} {C : String} {T : u_T} {N ci ix : Nat} {ty : Nat → FieldType} (hc : Cls ci C T N ty) (hdf : ∀ j, j < N → defaultValue (ty j) = cv id (gdef (fty ci j))) (hcl : Cond.classLink own ix C ∈ lw_gw) (hinst : Cond.instantiable C N ∈ lw_gw) (hini : Cond.initialized C ∈ lw_gw) (hd : decode cc pc = .ok (.new ix, 3))
    {p : Program} {l : Launch} {e : Env} {R : Room} {s : State} {m : MethodId} {args : Array Value} {below : List Frame} {meth : Method} {c : Code} {D : va_G} {cA : Nat → ClassId} {sz n0 : Nat} {Q : State → Prop} (CX : CxG own cc nL d p R s m args meth c D cA sz n0) {H : Heap} {locs : List Loc} {ls : Array Slot} {rest : List Value} {g : AG} {cells slots : Nat} (hP : va_P D vwCl (gw sz cA g) H) (hS : va_S (fun q : Nat => sz ≤ q) s.heap H locs) (hce : cells + n0 = g.length) (hr1 : cells + 1 ≤ R.cells) (hr2 : slots + N ≤ R.slots)
    (kk : ∀ H1, va_P D vwCl (gw sz cA (g ++ [gnew ci])) H1 → va_S (fun q : Nat => sz ≤ q) s.heap H1 locs → W p l e R s m args below meth c H1 locs (cells + 1) (slots + N) Q (F0 m (pc + 3) ls (.ref (sz + g.length) :: rest))) : W p l e R s m args below meth c H locs cells slots Q (F0 m pc ls rest) := by
  obtain ⟨⟨hx, hb, hml, hown, hts⟩, hK, hsz, hAO, hin2, hfr, hlo⟩ := CX
  refine W_size hsz hP hce (fun hH => ?_)
  obtain ⟨c1, c2, c3, c4, c5, c6⟩ := hc
  have hKn := hK.1 ci _ c1
  refine W.newcK hx hb hown (hts _ hcl) (hts _ hinst) (hts _ hini) rfl hd hr1 hr2 hKn.2.1 rfl fun H1 kC hkC e1 z1 o1 => ?_
  have hkp : ∀ (k : Nat) (x : Nat × va_E), (gw sz cA g)[k]? = some x → H1[x.1]? = H[x.1]? := fun k x hx => o1 x.1 ((hP k x hx).lt)
  have hP1 : va_P D vwCl (gw sz cA (g ++ [gnew ci])) H1 := by
    rw [gw_push]
    refine (hP.kept hkp).app (fun k x hx => ?_)
    have hz : k < 1 := (List.getElem?_eq_some_iff.mp hx).1
    rw [show k = 0 by omega] at hx
    cases hx
    have hge : gelt sz cA (gnew ci) = .inr (ci, (gnew ci).2.1.map (cv (adz sz))) := by
      unfold gelt
      rw [if_pos (show (gnew ci).1.1 < 10 from c3)]
      rfl
    rw [hge]
    refine ⟨_, c1, (u_born ty hts c4 hKn hkC (o := sz + g.length) (by rw [← hH]; exact e1) c5).to (fun j hj => ?_)⟩
    have e2 : vp_V ((gnew ci).2.1.map (cv (adz sz))) j = cv (adz sz) (gdef (fty ci j)) := by
      have hj2 : j < clN ci := by rw [c2]; exact hj
      simp [vp_V, gnew, hj2]
    rw [e2, hdf j hj]
    unfold gdef
    split <;> rfl
  have hS1 : va_S (fun q : Nat => sz ≤ q) s.heap H1 locs := ⟨Nat.le_trans hS.1 (by omega), fun x h1 h2 => (o1 x (Nat.lt_of_lt_of_le h1 hS.1)).trans (hS.2.1 x h1 h2), hS.2.2⟩
  rw [hH]
  exact kk H1 hP1 hS1
theorem rw_ctor {own : String} {cc : ByteArray} {nL d pc : Nat} {y : MethodName} {bytes : ByteArray} {maxL ix d2 : Nat} {f : GF} (hM : MG y bytes maxL d2 f) (hd2 : d2 < d) (hmx : maxL ≤ 40) (hcode : Cond.code y bytes maxL none ∈ lw_gw) (hlk : Cond.methodLink own ix y ∈ lw_gw) (hin : Cond.instanceMethod y ∈ lw_gw) (hini : Cond.initialized y.cls ∈ lw_gw) (hy1 : y.name = "<init>") (hy : y.cls ≠ "java/lang/invoke/MethodHandle" ∧ y.cls ≠ "java/lang/invoke/VarHandle" ∧ (parseMethodDescriptor y.desc).map (fun d => d.parameters.length) = some 0) (hd : decode cc pc = .ok (.invokespecial ix, 3))
    {p : Program} {l : Launch} {e : Env} {R : Room} {s : State} {m : MethodId} {args : Array Value} {below : List Frame} {meth : Method} {c : Code} {D : va_G} {cA : Nat → ClassId} {sz n0 : Nat} {Q : State → Prop} (CX : CxG own cc nL d p R s m args meth c D cA sz n0) {H : Heap} {locs : List Loc} {ls : Array Slot} {rest : List Value} {g g1 : AG} {j cells slots : Nat} (hlz : ls.size = nL) (hP : va_P D vwCl (gw sz cA g) H) (hS : va_S (fun q : Nat => sz ≤ q) s.heap H locs) (hce : cells + n0 = g.length) (hf : f [vR j] g = some g1) (hr1 : cells + (g1.length - g.length) ≤ R.cells) (hr2 : slots + (gsl g1 - gsl g) ≤ R.slots) (hcs : (rest.map fun v => v.category).sum ≤ 8)
    (kk : ∀ H1 locs1, va_P D vwCl (gw sz cA g1) H1 → va_S (fun q : Nat => sz ≤ q) s.heap H1 locs1 → W p l e R s m args below meth c H1 locs1 (cells + (g1.length - g.length)) (slots + (gsl g1 - gsl g)) Q (F0 m (pc + 3) ls rest)) : W p l e R s m args below meth c H locs cells slots Q (F0 m pc ls (.ref (sz + j) :: rest)) := by
  obtain ⟨⟨hx, hb, hml, hown, hts⟩, hK, hsz, hAO, hin2, hfr, hlo⟩ := CX
  refine W_size hsz hP hce (fun hH => ?_)
  obtain ⟨hmo, hMM⟩ := hM _ _ _ hf
  have hMM := hMM l D cA sz
  have hgood : ∀ w ∈ (Cond.code y bytes maxL none :: lw_gw), w ∈ lw_gw := fun w h => (List.mem_cons.mp h).elim (fun e => e ▸ hcode) id
  have hpre : PreS s H (va_Pc ([vR j].map (cv (adz sz))) (preG D cA sz g)) (.ref (sz + j) :: []) := by
    refine ⟨fun a U g2 mk q => ?_, fun U hU hW => ?_⟩
    · obtain ⟨a1, a2, a3, a4, a5⟩ := q
      exact ⟨a1, a2, a3, va_K.moved (u := U) (U := U.calling g2 mk a) (Vm.Alike.refl U.vm) a4, a5.1.moved (U := U.calling g2 mk a) (Vm.Alike.refl U.vm), a5.2.1.moved (U := U.calling g2 mk a) (Vm.Alike.refl U.vm), a5.2.2.moved (U := U.calling g2 mk a) (Vm.Alike.refl U.vm)⟩
    · exact ⟨rfl, by rw [hU]; exact hH, by rw [hU]; exact hP, va_K.moved hW.alike hK, hAO.1.moved hW.alike, hAO.2.1.moved hW.alike, hAO.2.2.moved hW.alike⟩
  have hcb := callB_of (rm := rmG d2 (g1.length - g.length) (gsl g1 - gsl g)) (mc := g1.length - g.length) (ms := gsl g1 - gsl g) (R := R) (own := own) (index := ix) 0 hts (good_self hgood) rfl rfl rfl (hts _ hini) (hts _ hlk) hy ⟨by show d2 + 1 ≤ _; omega, by show 8 + (maxL + 11) + d2 * 60 ≤ _; omega⟩
  have hrun2 := va_runI (As := []) (b := sz + j) (g := F0 m pc ls (.ref (sz + j) :: rest)) (rest := rest) (cells := cells) (slots := slots) (locs := locs) (below := below) (meth := meth) (e := e) ⟨hx, hb, hml, hown, hts⟩ hMM ⟨hcb, hy1, hts _ hin⟩ hpre rfl rfl hlz rfl (by show 2 * 0 + _ ≤ 8; omega) hd ⟨hr1, hr2⟩
  intro T hT X
  obtain ⟨v, st₀, t, T', L, h0, X', hL, e1, e2, ⟨hv, hPt, hz, hkk⟩, stp⟩ := hrun2 T hT X
  cases hv
  rw [h0] at hz hkk
  have hS1 : va_S (fun q : Nat => sz ≤ q) s.heap T'.heap (locs ++ L) := ⟨Nat.le_trans hS.1 (by rw [e1]; exact hz), fun q h1 h2 => by rw [e1, hkk q (Nat.lt_of_lt_of_le h1 hS.1) h2]; exact hS.2.1 q h1 h2, fun q hq => by
      rcases List.mem_append.mp hq with h | h
      · exact hS.2.2 q h
      · exact hL q h⟩
  obtain ⟨t2, a1, b1⟩ := kk T'.heap (locs ++ L) (by rw [e1]; exact hPt) hS1 T' rfl X'
  exact ⟨t2, stp t2 a1, b1⟩
/-! the script -/
def XS (L : Nat) (xs : Nat → Int) : XT := fun ad A s => va_X (ad 398) L (fun j => Int32.ofInt (xs j)) s s.heap ∧ ad 398 < s.heap.size ∧ ¬ A (ad 398) ∧ L ≤ 5120
abbrev ak_slen (L : Nat) (k : AK) : AK := fun lo st w => match st with
  | .inr (.inr (some (some j))) :: r => bif Nat.beq j 398 then k lo (vI (L : Nat) :: r) w else none
  | _ => none
theorem snd_slen {own : String} {cc : ByteArray} {nL d pc : Nat}  {L : Nat} {xs : Nat → Int} {k : AK} (hd : decode cc pc = .ok (.arraylength, 1)) (hk : Snd (XS L xs) own cc nL d (pc + 1) k) : Snd (XS L xs) own cc nL d pc (ak_slen L k) := by
  intro p l e R s m args below meth c D cA ad A cells slots Q C Z H locs ls lo st w o hrun hl hP hS hr
  have C0 := C
  obtain ⟨⟨hx, hb, hml, hown, hts⟩, hK, hi, hAd, hA, hE, hfr, hlo, hce, hsl⟩ := C0
  unfold ak_slen at hrun
  split at hrun
  · rename_i j r
    cases hq : Nat.beq j 398 with
    | false => rw [hq] at hrun; cases hrun
    | true =>
      rw [hq] at hrun
      have hj : j = 398 := Nat.eq_of_beq_eq_true hq
      subst hj
      refine va_slen hx hb Z.1 Z.2.1 Z.2.2.1 hS hd ?_
      exact hk p l e R s m args below meth c D cA ad A cells slots Q C Z H locs ls lo (vI (L : Nat) :: r) w o hrun hl hP hS hr
  · cases hrun
abbrev ak_sld (L : Nat) (xs : Nat → Int) (k : AK) : AK := fun lo st w => match st with
  | .inl i :: .inr (.inr (some (some j))) :: r => bif Nat.beq j 398 then (if 0 ≤ i ∧ i < (L : Nat) then k lo (vI (xs i.toNat) :: r) w else none) else none
  | _ => none
theorem snd_sld {own : String} {cc : ByteArray} {nL d pc : Nat}  {L : Nat} {xs : Nat → Int} {k : AK} (hd : decode cc pc = .ok (.iaload, 1)) (hk : Snd (XS L xs) own cc nL d (pc + 1) k) : Snd (XS L xs) own cc nL d pc (ak_sld L xs k) := by
  intro p l e R s m args below meth c D cA ad A cells slots Q C Z H locs ls lo st w o hrun hl hP hS hr
  have C0 := C
  obtain ⟨⟨hx, hb, hml, hown, hts⟩, hK, hi, hAd, hA, hE, hfr, hlo, hce, hsl⟩ := C0
  unfold ak_sld at hrun
  split at hrun
  · rename_i i j r
    cases hq : Nat.beq j 398 with
    | false => rw [hq] at hrun; cases hrun
    | true =>
      rw [hq] at hrun
      dsimp only [cond] at hrun
      have hj : j = 398 := Nat.eq_of_beq_eq_true hq
      subst hj
      split at hrun
      · rename_i hg
        have hL := Z.2.2.2
        obtain ⟨g1, g2⟩ := i32_idx hg.1 hg.2 (by omega)
        refine va_sld hx hb Z.1 Z.2.1 Z.2.2.1 hS g1 hd ?_
        rw [g2]
        exact hk p l e R s m args below meth c D cA ad A cells slots Q C Z H locs ls lo (vI (xs i.toNat) :: r) w o hrun hl hP hS hr
      · cases hrun
  · cases hrun
