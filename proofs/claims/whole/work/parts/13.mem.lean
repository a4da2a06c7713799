/-! fields, arrays -/
def clN (ci : Nat) : Nat := ([9, 5, 3, 18, 13, 13, 8, 19, 7, 64] : List Nat).getD ci 0
theorem shp_ok : ∀ j, j < NC → ((shp j).1 < 10 → (shp j).2 = clN (shp j).1) ∧ (shp j).2 ≤ 2400 ∧ (shp j).1 < 17 := by decide +kernel
def Cls (ci : Nat) (C : String) (T : u_T) (N : Nat) (ty : Nat → FieldType) : Prop := vwCl[ci]? = some (C, T, N) ∧ clN ci = N ∧ ci < 10 ∧ (∀ w ∈ u_ws C T N, w ∈ lw_gw) ∧ (∀ k, k < N → parseFieldDescriptor (T k).2.2.1 = some (ty k)) ∧ (∀ a, a < N → ∀ b, b < N → a ≠ b → (T a).2.1 ≠ (T b).2.1)
abbrev isO (j ci : Nat) : Bool := Nat.blt j NC && Nat.beq (shp j).1 ci
theorem isO_iff {j ci : Nat} (h : isO j ci = true) : j < NC ∧ (shp j).1 = ci := by
  obtain ⟨h1, h2⟩ := Bool.and_eq_true_iff.mp h
  exact ⟨Nat.le_of_ble_eq_true h1, Nat.eq_of_beq_eq_true h2⟩
theorem isO_shp {j ci : Nat} (h : isO j ci = true) (hc : ci < 10) : j < NC ∧ shp j = (ci, clN ci) := by
  obtain ⟨h1, h2⟩ := isO_iff h
  have h3 := (shp_ok j h1).1 (by rw [h2]; exact hc)
  rw [h2] at h3
  exact ⟨h1, Prod.ext h2 h3⟩
theorem isO_arr {j t : Nat} (h : isO j t = true) : j < NC ∧ shp j = (t, (shp j).2) ∧ (shp j).2 ≤ 2400 := by
  obtain ⟨h1, h2⟩ := isO_iff h
  exact ⟨h1, Prod.ext h2 rfl, (shp_ok j h1).2.1⟩
abbrev ak_getf (ci f : Nat) (k : AK) : AK := fun lo st w => match st with
  | .inr (.inr (some (some j))) :: r => bif isO j ci then k lo (fv w j ci f :: r) w else none
  | _ => none
theorem snd_getf {Ξ : XT} {own : String} {cc : ByteArray} {nL d pc : Nat}  {C : String} {T : u_T} {N ci f ix : Nat} {ty : Nat → FieldType} {k : AK} (hc : Cls ci C T N ty) (hf : f < N) (hlk : Cond.fieldLink own ix (T f).1 (T f).2.1 (T f).2.2.1 ∈ lw_gw) (hd : decode cc pc = .ok (.getfield ix, 3)) (hk : Snd Ξ own cc nL d (pc + 3) k) : Snd Ξ own cc nL d pc (ak_getf ci f k) := by
  intro p l e R s m args below meth c D cA ad A cells slots Q C Z H locs ls lo st w o hrun hl hP hS hr
  have C0 := C
  obtain ⟨⟨hx, hb, hml, hown, hts⟩, hK, hi, hAd, hA, hE, hfr, hlo, hce, hsl⟩ := C0
  unfold ak_getf at hrun
  split at hrun
  · rename_i j r
    cases hq : isO j ci with
    | false => rw [hq] at hrun; cases hrun
    | true =>
      rw [hq] at hrun
      obtain ⟨c1, c2, c3, c4, c5, c6⟩ := hc
      obtain ⟨h1, h2⟩ := isO_shp hq c3
      rw [c2] at h2
      have he := cw_get (ad := ad) (cA := cA) (w := w) h1
      rw [elt_obj h2 c3] at he
      refine va_get (v := cv ad (fv w j ci f)) hx hb hts c4 hown hK hP j he c1 f hf (hts _ hlk) (fun _ h9 => h9) (by simp [hf]) hd ?_
      exact hk p l e R s m args below meth c D cA ad A cells slots Q C Z H locs ls lo (fv w j ci f :: r) w o hrun hl hP hS hr
  · cases hrun
abbrev ak_putf (ci f : Nat) (k : AK) : AK := fun lo st w => match st with
  | .inl x :: .inr (.inr (some (some j))) :: r => bif isO j ci then k lo r (u2 w.1 j f x, w.2) else none
  | _ => none
theorem snd_putf {Ξ : XT} {own : String} {cc : ByteArray} {nL d pc : Nat}  {C : String} {T : u_T} {N ci f ix : Nat} {ty : Nat → FieldType} {k : AK} (hc : Cls ci C T N ty) (hf : f < N) (hty : ty f = .int) (hft : fty ci f = 0) (hfin : (T f).2.2.2 = false) (hlk : Cond.fieldLink own ix (T f).1 (T f).2.1 (T f).2.2.1 ∈ lw_gw) (hd : decode cc pc = .ok (.putfield ix, 3)) (hk : Snd Ξ own cc nL d (pc + 3) k) : Snd Ξ own cc nL d pc (ak_putf ci f k) := by
  intro p l e R s m args below meth c D cA ad A cells slots Q C Z H locs ls lo st w o hrun hl hP hS hr
  have C0 := C
  obtain ⟨⟨hx, hb, hml, hown, hts⟩, hK, hi, hAd, hA, hE, hfr, hlo, hce, hsl⟩ := C0
  unfold ak_putf at hrun
  split at hrun
  · rename_i x j r
    cases hq : isO j ci with
    | false => rw [hq] at hrun; cases hrun
    | true =>
      rw [hq] at hrun
      dsimp only [cond] at hrun
      obtain ⟨c1, c2, c3, c4, c5, c6⟩ := hc
      obtain ⟨h1, h2⟩ := isO_shp hq c3
      rw [c2] at h2
      have he := cw_get (ad := ad) (cA := cA) (w := w) h1
      rw [elt_obj h2 c3] at he
      refine va_put (v := .int (Int32.ofInt x)) (ty := .int) hx hb hts c4 ty c5 c6 hown hK hP (cw_Cx C) hS j he c1 f hf (hts _ hlk) (fun _ h9 => h9) hfin (by rw [c5 f hf, hty]) (rfl) (rfl) (by simp [hf]) hd (fun H1 locs1 hP1 _ hS1 => ?_)
      rw [cw_set (ad := ad) (cA := cA) (w := w) (w' := (u2 w.1 j f x, w.2)) (fun i _ hi => elt_congr (u2_ne _ _ _ hi) rfl rfl) (elt_put0 x h2 c3 hft)] at hP1
      exact hk p l e R s m args below meth c D cA ad A cells slots Q C Z H1 locs1 ls lo r (u2 w.1 j f x, w.2) o hrun hl hP1 hS1 hr
  · cases hrun
abbrev ak_putz (ci f : Nat) (k : AK) : AK := fun lo st w => match st with
  | .inl x :: .inr (.inr (some (some j))) :: r => bif isO j ci then if x = 0 ∨ x = 1 then k lo r (u2 w.1 j f x, w.2) else none else none
  | _ => none
theorem snd_putz {Ξ : XT} {own : String} {cc : ByteArray} {nL d pc : Nat}  {C : String} {T : u_T} {N ci f ix : Nat} {ty : Nat → FieldType} {k : AK} (hc : Cls ci C T N ty) (hf : f < N) (hty : ty f = .boolean) (hft : fty ci f = 0) (hfin : (T f).2.2.2 = false) (hlk : Cond.fieldLink own ix (T f).1 (T f).2.1 (T f).2.2.1 ∈ lw_gw) (hd : decode cc pc = .ok (.putfield ix, 3)) (hk : Snd Ξ own cc nL d (pc + 3) k) : Snd Ξ own cc nL d pc (ak_putz ci f k) := by
  intro p l e R s m args below meth c D cA ad A cells slots Q C Z H locs ls lo st w o hrun hl hP hS hr
  have C0 := C
  obtain ⟨⟨hx, hb, hml, hown, hts⟩, hK, hi, hAd, hA, hE, hfr, hlo, hce, hsl⟩ := C0
  unfold ak_putz at hrun
  split at hrun
  · rename_i x j r
    cases hq : isO j ci with
    | false => rw [hq] at hrun; cases hrun
    | true =>
      rw [hq] at hrun
      dsimp only [cond] at hrun
      split at hrun
      · rename_i hg
        obtain ⟨c1, c2, c3, c4, c5, c6⟩ := hc
        obtain ⟨h1, h2⟩ := isO_shp hq c3
        rw [c2] at h2
        have he := cw_get (ad := ad) (cA := cA) (w := w) h1
        rw [elt_obj h2 c3] at he
        refine va_put (v := .int (Int32.ofInt x)) (ty := .boolean) hx hb hts c4 ty c5 c6 hown hK hP (cw_Cx C) hS j he c1 f hf (hts _ hlk) (fun _ h9 => h9) hfin (by rw [c5 f hf, hty]) (by rcases hg with rfl | rfl <;> rfl) (by rcases hg with rfl | rfl <;> rfl) (by simp [hf]) hd (fun H1 locs1 hP1 _ hS1 => ?_)
        rw [cw_set (ad := ad) (cA := cA) (w := w) (w' := (u2 w.1 j f x, w.2)) (fun i _ hi => elt_congr (u2_ne _ _ _ hi) rfl rfl) (elt_put0 x h2 c3 hft)] at hP1
        exact hk p l e R s m args below meth c D cA ad A cells slots Q C Z H1 locs1 ls lo r (u2 w.1 j f x, w.2) o hrun hl hP1 hS1 hr
      · cases hrun
  · cases hrun
abbrev ak_putl (ci f : Nat) (k : AK) : AK := fun lo st w => match st with
  | .inr (.inl x) :: .inr (.inr (some (some j))) :: r => bif isO j ci then k lo r (w.1, u2 w.2.1 j f x, w.2.2) else none
  | _ => none
theorem snd_putl {Ξ : XT} {own : String} {cc : ByteArray} {nL d pc : Nat}  {C : String} {T : u_T} {N ci f ix : Nat} {ty : Nat → FieldType} {k : AK} (hc : Cls ci C T N ty) (hf : f < N) (hty : ty f = .long) (hft : fty ci f = 1) (hfin : (T f).2.2.2 = false) (hlk : Cond.fieldLink own ix (T f).1 (T f).2.1 (T f).2.2.1 ∈ lw_gw) (hd : decode cc pc = .ok (.putfield ix, 3)) (hk : Snd Ξ own cc nL d (pc + 3) k) : Snd Ξ own cc nL d pc (ak_putl ci f k) := by
  intro p l e R s m args below meth c D cA ad A cells slots Q C Z H locs ls lo st w o hrun hl hP hS hr
  have C0 := C
  obtain ⟨⟨hx, hb, hml, hown, hts⟩, hK, hi, hAd, hA, hE, hfr, hlo, hce, hsl⟩ := C0
  unfold ak_putl at hrun
  split at hrun
  · rename_i x j r
    cases hq : isO j ci with
    | false => rw [hq] at hrun; cases hrun
    | true =>
      rw [hq] at hrun
      dsimp only [cond] at hrun
      obtain ⟨c1, c2, c3, c4, c5, c6⟩ := hc
      obtain ⟨h1, h2⟩ := isO_shp hq c3
      rw [c2] at h2
      have he := cw_get (ad := ad) (cA := cA) (w := w) h1
      rw [elt_obj h2 c3] at he
      refine va_put (v := .long (Int64.ofInt x)) (ty := .long) hx hb hts c4 ty c5 c6 hown hK hP (cw_Cx C) hS j he c1 f hf (hts _ hlk) (fun _ h9 => h9) hfin (by rw [c5 f hf, hty]) (rfl) (rfl) (by simp [hf]) hd (fun H1 locs1 hP1 _ hS1 => ?_)
      rw [cw_set (ad := ad) (cA := cA) (w := w) (w' := (w.1, u2 w.2.1 j f x, w.2.2)) (fun i _ hi => elt_congr rfl (u2_ne _ _ _ hi) rfl) (elt_put1 x h2 c3 hft)] at hP1
      exact hk p l e R s m args below meth c D cA ad A cells slots Q C Z H1 locs1 ls lo r (w.1, u2 w.2.1 j f x, w.2.2) o hrun hl hP1 hS1 hr
  · cases hrun
abbrev ak_iald (k : AK) : AK := fun lo st w => match st with
  | .inl i :: .inr (.inr (some (some j))) :: r => bif isO j 10 then (if 0 ≤ i ∧ i < ((shp j).2 : Nat) then k lo (vI (w.1 j i.toNat) :: r) w else none) else (bif Nat.blt 299 j && Nat.blt j 303 then (if 0 ≤ i ∧ i < (xlen (j - 300) : Nat) then k lo (vI (xval (j - 300) i.toNat) :: r) w else none) else none)
  | _ => none
theorem snd_iald {Ξ : XT} {own : String} {cc : ByteArray} {nL d pc : Nat}  {k : AK} (hd : decode cc pc = .ok (.iaload, 1)) (hk : Snd Ξ own cc nL d (pc + 1) k) : Snd Ξ own cc nL d pc (ak_iald k) := by
  intro p l e R s m args below meth c D cA ad A cells slots Q C Z H locs ls lo st w o hrun hl hP hS hr
  have C0 := C
  obtain ⟨⟨hx, hb, hml, hown, hts⟩, hK, hi, hAd, hA, hE, hfr, hlo, hce, hsl⟩ := C0
  unfold ak_iald at hrun
  split at hrun
  · rename_i i j r
    cases hq : isO j 10 with
    | true =>
      rw [hq] at hrun
      dsimp only [cond] at hrun
      split at hrun
      · rename_i hg
        obtain ⟨h1, h2, h3⟩ := isO_arr hq
        obtain ⟨g1, g2⟩ := i32_idx hg.1 hg.2 (by omega)
        have he := cw_get (ad := ad) (cA := cA) (w := w) h1
        rw [elt_ia h2 (by decide) (by decide)] at he
        refine va_iald hx hb hK hP j 0 he rfl g1 hd ?_
        rw [g2]
        exact hk p l e R s m args below meth c D cA ad A cells slots Q C Z H locs ls lo (vI (w.1 j i.toNat) :: r) w o hrun hl hP hS hr
      · cases hrun
    | false =>
      rw [hq] at hrun
      dsimp only [cond] at hrun
      cases hz : (Nat.blt 299 j && Nat.blt j 303) with
      | false => rw [hz] at hrun; cases hrun
      | true =>
        rw [hz] at hrun
        dsimp only at hrun
        obtain ⟨z1, z2⟩ := Bool.and_eq_true_iff.mp hz
        have z3 : 299 < j := Nat.le_of_ble_eq_true z1
        have z4 : j < 303 := Nat.le_of_ble_eq_true z2
        obtain ⟨e, he, rfl⟩ : ∃ e, e < 3 ∧ j = 300 + e := ⟨j - 300, by omega, by omega⟩
        rw [show 300 + e - 300 = e from by omega] at hrun
        split at hrun
        · rename_i hg
          have hxl : xlen e ≤ 56 := by
            rcases e with _ | _ | _ | e
            · decide
            · decide
            · decide
            · omega
          obtain ⟨g1, g2⟩ := i32_idx hg.1 hg.2 (by omega)
          refine va_ti (v := .int (Int32.ofInt (xval e i.toNat))) hx hb (hE.1 e he).2 hS g1 (by rw [g2]) hd ?_
          exact hk p l _ R s m args below meth c D cA ad A cells slots Q C Z H locs ls lo (vI (xval e i.toNat) :: r) w o hrun hl hP hS hr
        · cases hrun
  · cases hrun
abbrev ak_bald (k : AK) : AK := fun lo st w => match st with
  | .inl i :: .inr (.inr (some (some j))) :: r => bif isO j 11 || isO j 12 then (if 0 ≤ i ∧ i < ((shp j).2 : Nat) then k lo (vI (w.1 j i.toNat) :: r) w else none) else (bif Nat.blt 329 j && Nat.blt j 344 then (if 0 ≤ i ∧ i < (strN (j - 330) : Nat) then k lo (vI (strCh (j - 330) i.toNat) :: r) w else none) else none)
  | _ => none
theorem str_ok : ∀ i, i < 14 → strLen.getD i 0 = strN i ∧ strN i ≤ 6 ∧ ∀ k, k < strN i → (strByt.getD i []).getD k 0 = Int32.ofInt (strCh i k) := by decide +kernel
theorem snd_bald {Ξ : XT} {own : String} {cc : ByteArray} {nL d pc : Nat}  {k : AK} (hd : decode cc pc = .ok (.baload, 1)) (hk : Snd Ξ own cc nL d (pc + 1) k) : Snd Ξ own cc nL d pc (ak_bald k) := by
  intro p l e R s m args below meth c D cA ad A cells slots Q C Z H locs ls lo st w o hrun hl hP hS hr
  have C0 := C
  obtain ⟨⟨hx, hb, hml, hown, hts⟩, hK, hi, hAd, hA, hE, hfr, hlo, hce, hsl⟩ := C0
  unfold ak_bald at hrun
  split at hrun
  · rename_i i j r
    cases hq : (isO j 11 || isO j 12) with
    | true =>
      rw [hq] at hrun
      dsimp only [cond] at hrun
      split at hrun
      · rename_i hg
        rcases Bool.or_eq_true_iff.mp hq with hq | hq
        · obtain ⟨h1, h2, h3⟩ := isO_arr hq
          obtain ⟨g1, g2⟩ := i32_idx hg.1 hg.2 (by omega)
          have he := cw_get (ad := ad) (cA := cA) (w := w) h1
          rw [elt_ia h2 (by decide) (by decide)] at he
          refine va_bald hx hb hK hP j 1 he rfl g1 hd ?_
          rw [g2]
          exact hk p l e R s m args below meth c D cA ad A cells slots Q C Z H locs ls lo (vI (w.1 j i.toNat) :: r) w o hrun hl hP hS hr
        · obtain ⟨h1, h2, h3⟩ := isO_arr hq
          obtain ⟨g1, g2⟩ := i32_idx hg.1 hg.2 (by omega)
          have he := cw_get (ad := ad) (cA := cA) (w := w) h1
          rw [elt_ia h2 (by decide) (by decide)] at he
          refine va_zald hx hb hK hP j 2 he rfl g1 hd ?_
          rw [g2]
          exact hk p l e R s m args below meth c D cA ad A cells slots Q C Z H locs ls lo (vI (w.1 j i.toNat) :: r) w o hrun hl hP hS hr
      · cases hrun
    | false =>
      rw [hq] at hrun
      dsimp only [cond] at hrun
      cases hz : (Nat.blt 329 j && Nat.blt j 344) with
      | false => rw [hz] at hrun; cases hrun
      | true =>
        rw [hz] at hrun
        dsimp only at hrun
        obtain ⟨z1, z2⟩ := Bool.and_eq_true_iff.mp hz
        have z3 : 329 < j := Nat.le_of_ble_eq_true z1
        have z4 : j < 344 := Nat.le_of_ble_eq_true z2
        obtain ⟨q, hq2, rfl⟩ : ∃ q, q < 14 ∧ j = 330 + q := ⟨j - 330, by omega, by omega⟩
        rw [show 330 + q - 330 = q from by omega] at hrun
        split at hrun
        · rename_i hg
          obtain ⟨y1, y2, y3⟩ := str_ok q hq2
          obtain ⟨g1, g2⟩ := i32_idx hg.1 hg.2 (by omega)
          refine va_tb (v := .int (Int32.ofInt (strCh q i.toNat))) hx hb (hE.2.1.1 q hq2).2.2.2 hS (by rw [y1]; exact g1) (by rw [g2]; exact congrArg Value.int (y3 _ (by omega))) hd ?_
          exact hk p l e R s m args below meth c D cA ad A cells slots Q C Z H locs ls lo (vI (strCh q i.toNat) :: r) w o hrun hl hP hS hr
        · cases hrun
  · cases hrun
abbrev ak_iast (k : AK) : AK := fun lo st w => match st with
  | .inl x :: .inl i :: .inr (.inr (some (some j))) :: r => bif isO j 10 then (if 0 ≤ i ∧ i < ((shp j).2 : Nat) then k lo r (u2 w.1 j i.toNat x, w.2) else none) else none
  | _ => none
theorem snd_iast {Ξ : XT} {own : String} {cc : ByteArray} {nL d pc : Nat}  {k : AK} (hd : decode cc pc = .ok (.iastore, 1)) (hk : Snd Ξ own cc nL d (pc + 1) k) : Snd Ξ own cc nL d pc (ak_iast k) := by
  intro p l e R s m args below meth c D cA ad A cells slots Q C Z H locs ls lo st w o hrun hl hP hS hr
  have C0 := C
  obtain ⟨⟨hx, hb, hml, hown, hts⟩, hK, hi, hAd, hA, hE, hfr, hlo, hce, hsl⟩ := C0
  unfold ak_iast at hrun
  split at hrun
  · rename_i x i j r
    cases hq : isO j 10 with
    | false => rw [hq] at hrun; cases hrun
    | true =>
      rw [hq] at hrun
      dsimp only [cond] at hrun
      split at hrun
      · rename_i hg
        obtain ⟨h1, h2, h3⟩ := isO_arr hq
        obtain ⟨g1, g2⟩ := i32_idx hg.1 hg.2 (by omega)
        have he := cw_get (ad := ad) (cA := cA) (w := w) h1
        rw [elt_ia h2 (by decide) (by decide)] at he
        refine va_iast hx hb hK hP (cw_Cx C) hS j 0 he rfl g1 hd (fun H1 locs1 hP1 _ hS1 => ?_)
        rw [g2, cw_set (ad := ad) (cA := cA) (w := w) (w' := (u2 w.1 j i.toNat x, w.2)) (fun i _ hi => elt_congr (u2_ne _ _ _ hi) rfl rfl) (by rw [elt_ia h2 (by decide) (by decide), ia_upd])] at hP1
        exact hk p l e R s m args below meth c D cA ad A cells slots Q C Z H1 locs1 ls lo r (u2 w.1 j i.toNat x, w.2) o hrun hl hP1 hS1 hr
      · cases hrun
  · cases hrun
abbrev ak_bast (k : AK) : AK := fun lo st w => match st with
  | .inl x :: .inl i :: .inr (.inr (some (some j))) :: r => bif isO j 11 then (if 0 ≤ i ∧ i < ((shp j).2 : Nat) then k lo r (u2 w.1 j i.toNat (Int32.ofInt x).toInt8.toInt32.toInt, w.2) else none) else (bif isO j 12 then (if (0 ≤ i ∧ i < ((shp j).2 : Nat)) ∧ (x = 0 ∨ x = 1) then k lo r (u2 w.1 j i.toNat x, w.2) else none) else none)
  | _ => none
theorem snd_bast {Ξ : XT} {own : String} {cc : ByteArray} {nL d pc : Nat}  {k : AK} (hd : decode cc pc = .ok (.bastore, 1)) (hk : Snd Ξ own cc nL d (pc + 1) k) : Snd Ξ own cc nL d pc (ak_bast k) := by
  intro p l e R s m args below meth c D cA ad A cells slots Q C Z H locs ls lo st w o hrun hl hP hS hr
  have C0 := C
  obtain ⟨⟨hx, hb, hml, hown, hts⟩, hK, hi, hAd, hA, hE, hfr, hlo, hce, hsl⟩ := C0
  unfold ak_bast at hrun
  split at hrun
  · rename_i x i j r
    cases hq : isO j 11 with
    | true =>
      rw [hq] at hrun
      dsimp only [cond] at hrun
      split at hrun
      · rename_i hg
        obtain ⟨h1, h2, h3⟩ := isO_arr hq
        obtain ⟨g1, g2⟩ := i32_idx hg.1 hg.2 (by omega)
        have he := cw_get (ad := ad) (cA := cA) (w := w) h1
        rw [elt_ia h2 (by decide) (by decide)] at he
        refine va_bast hx hb hK hP (cw_Cx C) hS j 1 he rfl g1 hd (fun H1 locs1 hP1 _ hS1 => ?_)
        rw [g2, vp_nar_byte, cw_set (ad := ad) (cA := cA) (w := w) (w' := (u2 w.1 j i.toNat (Int32.ofInt x).toInt8.toInt32.toInt, w.2)) (fun i _ hi => elt_congr (u2_ne _ _ _ hi) rfl rfl) (by rw [elt_ia h2 (by decide) (by decide), ia_upd, Int32.ofInt_toInt])] at hP1
        exact hk p l e R s m args below meth c D cA ad A cells slots Q C Z H1 locs1 ls lo r (u2 w.1 j i.toNat (Int32.ofInt x).toInt8.toInt32.toInt, w.2) o hrun hl hP1 hS1 hr
      · cases hrun
    | false =>
      rw [hq] at hrun
      dsimp only [cond] at hrun
      cases hq : isO j 12 with
      | false => rw [hq] at hrun; cases hrun
      | true =>
        rw [hq] at hrun
        dsimp only at hrun
        split at hrun
        · rename_i hg
          obtain ⟨h1, h2, h3⟩ := isO_arr hq
          obtain ⟨g1, g2⟩ := i32_idx hg.1.1 hg.1.2 (by omega)
          have he := cw_get (ad := ad) (cA := cA) (w := w) h1
          rw [elt_ia h2 (by decide) (by decide)] at he
          have hnx : vp_nar .boolean (Int32.ofInt x) = Int32.ofInt x := by rcases hg.2 with rfl | rfl <;> rfl
          refine va_zast hx hb hK hP (cw_Cx C) hS j 2 he rfl g1 hd (fun H1 locs1 hP1 _ hS1 => ?_)
          rw [g2, hnx, cw_set (ad := ad) (cA := cA) (w := w) (w' := (u2 w.1 j i.toNat x, w.2)) (fun i _ hi => elt_congr (u2_ne _ _ _ hi) rfl rfl) (by rw [elt_ia h2 (by decide) (by decide), ia_upd])] at hP1
          exact hk p l e R s m args below meth c D cA ad A cells slots Q C Z H1 locs1 ls lo r (u2 w.1 j i.toNat x, w.2) o hrun hl hP1 hS1 hr
        · cases hrun
  · cases hrun
abbrev ak_lald (k : AK) : AK := fun lo st w => match st with
  | .inl i :: .inr (.inr (some (some j))) :: r => bif isO j 13 then (if 0 ≤ i ∧ i < ((shp j).2 : Nat) then k lo (vL (w.2.1 j i.toNat) :: r) w else none) else none
  | _ => none
theorem snd_lald {Ξ : XT} {own : String} {cc : ByteArray} {nL d pc : Nat}  {k : AK} (hd : decode cc pc = .ok (.laload, 1)) (hk : Snd Ξ own cc nL d (pc + 1) k) : Snd Ξ own cc nL d pc (ak_lald k) := by
  intro p l e R s m args below meth c D cA ad A cells slots Q C Z H locs ls lo st w o hrun hl hP hS hr
  have C0 := C
  obtain ⟨⟨hx, hb, hml, hown, hts⟩, hK, hi, hAd, hA, hE, hfr, hlo, hce, hsl⟩ := C0
  unfold ak_lald at hrun
  split at hrun
  · rename_i i j r
    cases hq : isO j 13 with
    | false => rw [hq] at hrun; cases hrun
    | true =>
      rw [hq] at hrun
      dsimp only [cond] at hrun
      split at hrun
      · rename_i hg
        obtain ⟨h1, h2, h3⟩ := isO_arr hq
        obtain ⟨g1, g2⟩ := i32_idx hg.1 hg.2 (by omega)
        have he := cw_get (ad := ad) (cA := cA) (w := w) h1
        rw [elt_la h2] at he
        refine va_lald hx hb hK hP j 3 he rfl g1 hd ?_
        rw [g2]
        exact hk p l e R s m args below meth c D cA ad A cells slots Q C Z H locs ls lo (vL (w.2.1 j i.toNat) :: r) w o hrun hl hP hS hr
      · cases hrun
  · cases hrun
abbrev ak_last (k : AK) : AK := fun lo st w => match st with
  | .inr (.inl x) :: .inl i :: .inr (.inr (some (some j))) :: r => bif isO j 13 then (if 0 ≤ i ∧ i < ((shp j).2 : Nat) then k lo r (w.1, u2 w.2.1 j i.toNat x, w.2.2) else none) else none
  | _ => none
theorem snd_last {Ξ : XT} {own : String} {cc : ByteArray} {nL d pc : Nat}  {k : AK} (hd : decode cc pc = .ok (.lastore, 1)) (hk : Snd Ξ own cc nL d (pc + 1) k) : Snd Ξ own cc nL d pc (ak_last k) := by
  intro p l e R s m args below meth c D cA ad A cells slots Q C Z H locs ls lo st w o hrun hl hP hS hr
  have C0 := C
  obtain ⟨⟨hx, hb, hml, hown, hts⟩, hK, hi, hAd, hA, hE, hfr, hlo, hce, hsl⟩ := C0
  unfold ak_last at hrun
  split at hrun
  · rename_i x i j r
    cases hq : isO j 13 with
    | false => rw [hq] at hrun; cases hrun
    | true =>
      rw [hq] at hrun
      dsimp only [cond] at hrun
      split at hrun
      · rename_i hg
        obtain ⟨h1, h2, h3⟩ := isO_arr hq
        obtain ⟨g1, g2⟩ := i32_idx hg.1 hg.2 (by omega)
        have he := cw_get (ad := ad) (cA := cA) (w := w) h1
        rw [elt_la h2] at he
        refine va_last hx hb hK hP (cw_Cx C) hS j 3 he rfl g1 hd (fun H1 locs1 hP1 _ hS1 => ?_)
        rw [g2, cw_set (ad := ad) (cA := cA) (w := w) (w' := (w.1, u2 w.2.1 j i.toNat x, w.2.2)) (fun i _ hi => elt_congr rfl (u2_ne _ _ _ hi) rfl) (by rw [elt_la h2, la_upd])] at hP1
        exact hk p l e R s m args below meth c D cA ad A cells slots Q C Z H1 locs1 ls lo r (w.1, u2 w.2.1 j i.toNat x, w.2.2) o hrun hl hP1 hS1 hr
      · cases hrun
  · cases hrun
abbrev ak_aald (k : AK) : AK := fun lo st w => match st with
  | .inl i :: .inr (.inr (some (some j))) :: r => bif Nat.blt j NC && Nat.blt 13 (shp j).1 then (if 0 ≤ i ∧ i < ((shp j).2 : Nat) then k lo (vR (cref j i.toNat) :: r) w else none) else none
  | _ => none
theorem snd_aald {Ξ : XT} {own : String} {cc : ByteArray} {nL d pc : Nat}  {k : AK} (hd : decode cc pc = .ok (.aaload, 1)) (hk : Snd Ξ own cc nL d (pc + 1) k) : Snd Ξ own cc nL d pc (ak_aald k) := by
  intro p l e R s m args below meth c D cA ad A cells slots Q C Z H locs ls lo st w o hrun hl hP hS hr
  have C0 := C
  obtain ⟨⟨hx, hb, hml, hown, hts⟩, hK, hi, hAd, hA, hE, hfr, hlo, hce, hsl⟩ := C0
  unfold ak_aald at hrun
  split at hrun
  · rename_i i j r
    cases hq : (Nat.blt j NC && Nat.blt 13 (shp j).1) with
    | false => rw [hq] at hrun; cases hrun
    | true =>
      rw [hq] at hrun
      dsimp only [cond] at hrun
      split at hrun
      · rename_i hg
        obtain ⟨z1, z2⟩ := Bool.and_eq_true_iff.mp hq
        have h1 : j < NC := Nat.le_of_ble_eq_true z1
        have h4 : 13 < (shp j).1 := Nat.le_of_ble_eq_true z2
        obtain ⟨-, h3, h5⟩ := shp_ok j h1
        obtain ⟨g1, g2⟩ := i32_idx hg.1 hg.2 (by omega)
        have he := cw_get (ad := ad) (cA := cA) (w := w) h1
        rw [elt_ra (t := (shp j).1) (n := (shp j).2) rfl (by omega)] at he
        have ht : ∃ (t0 : Nat) (C : String), (tysA cA)[t0]? = some (cA (shp j).1, .object C) := by
          rcases (by omega : (shp j).1 = 14 ∨ (shp j).1 = 15 ∨ (shp j).1 = 16) with q | q | q <;> rw [q]
          · exact ⟨4, _, rfl⟩
          · exact ⟨5, _, rfl⟩
          · exact ⟨6, _, rfl⟩
        obtain ⟨t0, C9, ht⟩ := ht
        refine va_aldq hx hb hK hP j t0 he ht g1 hd ?_
        rw [g2]
        exact hk p l e R s m args below meth c D cA ad A cells slots Q C Z H locs ls lo (vR (cref j i.toNat) :: r) w o hrun hl hP hS hr
      · cases hrun
  · cases hrun
abbrev ak_alen (k : AK) : AK := fun lo st w => match st with
  | .inr (.inr (some (some j))) :: r => bif isO j 10 || isO j 11 then k lo (vI ((shp j).2 : Nat) :: r) w else (bif Nat.blt 329 j && Nat.blt j 344 then k lo (vI (strN (j - 330) : Nat) :: r) w else none)
  | _ => none
theorem snd_alen {Ξ : XT} {own : String} {cc : ByteArray} {nL d pc : Nat}  {k : AK} (hd : decode cc pc = .ok (.arraylength, 1)) (hk : Snd Ξ own cc nL d (pc + 1) k) : Snd Ξ own cc nL d pc (ak_alen k) := by
  intro p l e R s m args below meth c D cA ad A cells slots Q C Z H locs ls lo st w o hrun hl hP hS hr
  have C0 := C
  obtain ⟨⟨hx, hb, hml, hown, hts⟩, hK, hi, hAd, hA, hE, hfr, hlo, hce, hsl⟩ := C0
  unfold ak_alen at hrun
  split at hrun
  · rename_i j r
    cases hq : (isO j 10 || isO j 11) with
    | true =>
      rw [hq] at hrun
      dsimp only [cond] at hrun
      rcases Bool.or_eq_true_iff.mp hq with hq | hq
      · obtain ⟨h1, h2, h3⟩ := isO_arr hq
        have he := cw_get (ad := ad) (cA := cA) (w := w) h1
        rw [elt_ia h2 (by decide) (by decide)] at he
        refine va_alen (v := Int32.ofInt ((shp j).2 : Nat)) hx hb hK hP j 0 he (ty := .int) rfl rfl hd ?_
        exact hk p l e R s m args below meth c D cA ad A cells slots Q C Z H locs ls lo (vI ((shp j).2 : Nat) :: r) w o hrun hl hP hS hr
      · obtain ⟨h1, h2, h3⟩ := isO_arr hq
        have he := cw_get (ad := ad) (cA := cA) (w := w) h1
        rw [elt_ia h2 (by decide) (by decide)] at he
        refine va_alen (v := Int32.ofInt ((shp j).2 : Nat)) hx hb hK hP j 1 he (ty := .byte) rfl rfl hd ?_
        exact hk p l e R s m args below meth c D cA ad A cells slots Q C Z H locs ls lo (vI ((shp j).2 : Nat) :: r) w o hrun hl hP hS hr
    | false =>
      rw [hq] at hrun
      dsimp only [cond] at hrun
      cases hz : (Nat.blt 329 j && Nat.blt j 344) with
      | false => rw [hz] at hrun; cases hrun
      | true =>
        rw [hz] at hrun
        dsimp only at hrun
        obtain ⟨z1, z2⟩ := Bool.and_eq_true_iff.mp hz
        have z3 : 329 < j := Nat.le_of_ble_eq_true z1
        have z4 : j < 344 := Nat.le_of_ble_eq_true z2
        obtain ⟨q, hq2, rfl⟩ : ∃ q, q < 14 ∧ j = 330 + q := ⟨j - 330, by omega, by omega⟩
        rw [show 330 + q - 330 = q from by omega] at hrun
        obtain ⟨y1, y2, y3⟩ := str_ok q hq2
        refine va_tlen (v := Int32.ofInt (strN q : Nat)) hx hb (hE.2.1.1 q hq2).2.2.2 hS (by rw [y1]; rfl) hd ?_
        exact hk p l e R s m args below meth c D cA ad A cells slots Q C Z H locs ls lo (vI (strN q : Nat) :: r) w o hrun hl hP hS hr
  · cases hrun
