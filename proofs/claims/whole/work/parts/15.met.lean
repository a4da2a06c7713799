/-! A METHOD'S CONTRACT OUT OF ITS BLOCK -/
def retK (k : Nat) (o : AR) : Bool := match k, o.1 with
  | 0, none => true
  | 1, some (.inl _) => true
  | 2, some (.inl x) => decide (x = 0) || decide (x = 1)
  | 3, some (.inl x) => decide (0 ≤ x) && decide (x ≤ 127)
  | 4, some (.inr (.inl _)) => true
  | 5, some (.inr (.inr (some _))) => true
  | _, _ => false
def mkF (rk nL : Nat) (k : AK) : AF := fun as w => bif Nat.ble (sl1 as).length nL then (match k (entA nL as) [] w with
  | some o => bif retK rk o then some o else none
  | none => none) else none
theorem sl1_len (ad : Nat → Nat) : ∀ as : List AV, (lg_sl (as.map (cv ad))).length = (sl1 as).length
  | [] => rfl
  | .inl _ :: r => by
    have := sl1_len ad r
    simp [sl1, lg_sl, cv, Value.category] at this ⊢
    omega
  | .inr (.inl _) :: r => by
    have := sl1_len ad r
    simp [sl1, lg_sl, cv, Value.category] at this ⊢
    omega
  | .inr (.inr v) :: r => by
    have := sl1_len ad r
    rcases v with _ | _ | v <;> simp [sl1, lg_sl, cv, Value.category] at this ⊢ <;> omega
theorem ent_args (ad : Nat → Nat) : ∀ (as : List AV) (n b i : Nat), lgt (sl1 as ++ List.replicate n vU) i ≠ vU → (b + i, cv ad (lgt (sl1 as ++ List.replicate n vU) i)) ∈ lv_args b (as.map (cv ad))
  | [], n, b, i, h => by
    exfalso
    apply h
    show lgt (List.replicate n vU) i = vU
    clear h
    induction n generalizing i with
    | zero => rfl
    | succ n ih => cases i with
      | zero => rfl
      | succ i => exact ih i
  | .inl x :: r, n, b, 0, _ => by simp [sl1, lgt, lv_args, cv]
  | .inl x :: r, n, b, i + 1, h => by
    have := ent_args ad r n (b + 1) i h
    rw [show b + (i + 1) = b + 1 + i from by omega]
    simpa [sl1, lgt, lv_args, cv, Value.category] using Or.inr this
  | .inr (.inl x) :: r, n, b, 0, _ => by simp [sl1, lgt, lv_args, cv]
  | .inr (.inl x) :: r, n, b, 1, h => absurd rfl h
  | .inr (.inl x) :: r, n, b, i + 2, h => by
    have := ent_args ad r n (b + 2) i h
    rw [show b + (i + 2) = b + 2 + i from by omega]
    simpa [sl1, lgt, lv_args, cv, Value.category] using Or.inr this
  | .inr (.inr v) :: r, n, b, 0, _ => by simp [sl1, lgt, lv_args]
  | .inr (.inr v) :: r, n, b, i + 1, h => by
    have := ent_args ad r n (b + 1) i h
    rw [show b + (i + 1) = b + 1 + i from by omega]
    have hc : (cv ad (.inr (.inr v))).category = 1 := cv_cat (fun x q => by cases q)
    simpa [sl1, lgt, lv_args, hc] using Or.inr this
def rkOK (rk : Nat) (ret : Option FieldType) : Prop := (rk = 0 ∧ ret = none) ∨ (rk = 1 ∧ ret = some .int) ∨ (rk = 2 ∧ ret = some .boolean) ∨ (rk = 3 ∧ (ret = some .char ∨ ret = some .byte)) ∨ (rk = 4 ∧ ret = some .long) ∨ (rk = 5 ∧ ((∃ n, ret = some (.object n)) ∨ ∃ t, ret = some (.array t)))
theorem nar_small {x : Int} (h1 : 0 ≤ x) (h2 : x ≤ 127) : narrow .char (.int (Int32.ofInt x)) = .int (Int32.ofInt x) ∧ narrow .byte (.int (Int32.ofInt x)) = .int (Int32.ofInt x) := by
  obtain ⟨n, rfl⟩ := Int.eq_ofNat_of_zero_le h1
  have hn : n < 128 := by omega
  have key : ∀ n, n < 128 → narrow .char (.int (Int32.ofInt (n : Nat))) = .int (Int32.ofInt (n : Nat)) ∧ narrow .byte (.int (Int32.ofInt (n : Nat))) = .int (Int32.ofInt (n : Nat)) := by decide +kernel
  exact key n hn
theorem met_of {y : MethodName} {bytes : ByteArray} {nL d rk : Nat} {ret : Option FieldType} {k : AK} (hrk : rkOK rk ret) (hpl : plainName y.cls = true) (hs : Snd X0 y.cls bytes nL d 0 k) : MA y bytes nL ret d (mkF rk nL k) := by
  intro l D cA ad as w o sz hinj hf
  refine Met.ofW (cc := bytes) (maxL := nL) (ret := ret) hpl rfl ?_
  intro p e s m args below meth c s₁ B hml hv
  obtain ⟨rfl, hsz, hP, hK, hE⟩ := hv
  have hx := B.exec
  have hb := B.bytes
  have hr := B.returns
  have hts := atoms_spec (ws := Cond.code y bytes nL ret :: lw_gw) B.pre
  have hown : s.vm.findClass y.cls = some m.cls := findClass_of_methodNamed B.named
  have hlocks := B.notSynchronized
  subst hsz
  unfold mkF at hf
  cases hq : Nat.ble (sl1 as).length nL with
  | false => rw [hq] at hf; cases hf
  | true =>
  rw [hq] at hf
  dsimp only [cond] at hf
  cases hk : k (entA nL as) [] w with
  | none => rw [hk] at hf; cases hf
  | some o1 =>
  rw [hk] at hf
  dsimp only at hf
  cases hrt : retK rk o1 with
  | false => rw [hrt] at hf; cases hf
  | true =>
  rw [hrt] at hf
  cases hf
  have hlen : (sl1 as).length ≤ nL := Nat.le_of_ble_eq_true hq
  have hl := lv_entry (as.map (cv ad)) (n := nL) (by rw [sl1_len]; exact hlen)
  rw [lg_entry_eq]
  generalize (lg_sl (as.map (cv ad)) ++ List.replicate (nL - (lg_sl (as.map (cv ad))).length) Slot.unset).toArray = ls at hl ⊢
  have L : LR ad ls nL (entA nL as) := ⟨_, hl, fun i hi => by
    have := ent_args ad as (nL - (sl1 as).length) 0 i hi
    rw [Nat.zero_add] at this
    exact this⟩
  have C : Cx y.cls bytes nL d p (rmD d) s m (as.map (cv ad)).toArray c D cA ad (AA ad s.heap.size) 0 0 := ⟨⟨hx, hb, hml, hown, fun w h => hts w (List.mem_cons_of_mem _ h)⟩, hK, hinj, fun j hj => Or.inl ⟨j, hj, rfl⟩, fun q h => Or.inr h, hE, Nat.le_refl _, Nat.le_refl _, Nat.le_refl _, Nat.le_refl _⟩
  refine hs p l e _ s m _ below meth c D cA ad (AA ad s.heap.size) 0 0 _ C trivial s.heap [] ls (entA nL as) [] w o hk L hP va_S.rf ?_
  intro pc ls1 H locs hP1 hS1 hd
  obtain ⟨v, w1⟩ := o
  rcases v with _ | x | x | x
  · rcases hrk with ⟨rfl, hret⟩ | ⟨rfl, -⟩ | ⟨rfl, -⟩ | ⟨rfl, -⟩ | ⟨rfl, -⟩ | ⟨rfl, -⟩ <;> try (cases hrt)
    subst hret
    exact W.vret hx hb hr (fun t ht hW => ⟨rfl, by rw [ht]; exact hP1, hS1.F ht⟩) hS1.2.2 hd
  · rcases hrk with ⟨rfl, hret⟩ | ⟨rfl, hret⟩ | ⟨rfl, hret⟩ | ⟨rfl, hret⟩ | ⟨rfl, hret⟩ | ⟨rfl, hret⟩
    · cases hrt
    · subst hret
      exact W.iret hx hb hr (fun t ht hW => ⟨rfl, by rw [ht]; exact hP1, hS1.F ht⟩) hS1.2.2 hd
    · subst hret
      have hx01 : x = 0 ∨ x = 1 := by simpa [retK] using hrt
      exact W.zret hx hb hr (by rcases hx01 with rfl | rfl <;> rfl) (fun t ht hW => ⟨rfl, by rw [ht]; exact hP1, hS1.F ht⟩) hS1.2.2 hd
    · have hxr : 0 ≤ x ∧ x ≤ 127 := by simpa [retK] using hrt
      rcases hret with hret | hret <;> subst hret
      · exact W.zret hx hb hr (nar_small hxr.1 hxr.2).1 (fun t ht hW => ⟨rfl, by rw [ht]; exact hP1, hS1.F ht⟩) hS1.2.2 hd
      · exact W.zret hx hb hr (nar_small hxr.1 hxr.2).2 (fun t ht hW => ⟨rfl, by rw [ht]; exact hP1, hS1.F ht⟩) hS1.2.2 hd
    · cases hrt
    · cases hrt
  · rcases hrk with ⟨rfl, hret⟩ | ⟨rfl, hret⟩ | ⟨rfl, hret⟩ | ⟨rfl, hret⟩ | ⟨rfl, hret⟩ | ⟨rfl, hret⟩ <;> try (cases hrt)
    subst hret
    exact W.lret hx hb hr (fun t ht hW => ⟨rfl, by rw [ht]; exact hP1, hS1.F ht⟩) hS1.2.2 hd
  · rcases hrk with ⟨rfl, hret⟩ | ⟨rfl, hret⟩ | ⟨rfl, hret⟩ | ⟨rfl, hret⟩ | ⟨rfl, hret⟩ | ⟨rfl, hret⟩ <;> try (cases hrt)
    rcases x with _ | x
    · cases hrt
    · obtain ⟨rt, hrt2, hrt3⟩ : ∃ rt, ret = some rt ∧ ((∃ n, rt = .object n) ∨ ∃ t, rt = .array t) := by
        rcases hret with ⟨n, h⟩ | ⟨t, h⟩
        · exact ⟨_, h, Or.inl ⟨n, rfl⟩⟩
        · exact ⟨_, h, Or.inr ⟨t, rfl⟩⟩
      subst hrt2
      refine W.aret hx hb hr hrt3 ?_ (fun t ht hW => ⟨rfl, by rw [ht]; exact hP1, hS1.F ht⟩) hS1.2.2 hd
      rcases x with _ | x
      · exact Or.inl rfl
      · exact Or.inr ⟨_, rfl⟩
