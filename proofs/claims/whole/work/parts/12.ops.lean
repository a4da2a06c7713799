/-- an int as the machine sees it -/
def w32 (x : Int) : Int := Int.bmod x 4294967296
def w64 (x : Int) : Int := Int.bmod x 18446744073709551616
theorem w_to (x : Int) : (Int32.ofInt x).toInt = w32 x := Int32.toInt_ofInt
theorem wl_to (x : Int) : (Int64.ofInt x).toInt = w64 x := Int64.toInt_ofInt
theorem w_0 : w32 0 = 0 := by decide
theorem w_id {x : Int} (h1 : -2147483648 ≤ x) (h2 : x ≤ 2147483647) : w32 x = x := by rw [← w_to]; exact i32 ⟨h1, h2⟩
theorem wl_id {x : Int} (h1 : -9223372036854775808 ≤ x) (h2 : x ≤ 9223372036854775807) : w64 x = x := by rw [← wl_to]; exact i64 ⟨h1, h2⟩
theorem w_lt (x y : Int) : Int32.ofInt x < Int32.ofInt y ↔ w32 x < w32 y := by rw [Int32.lt_iff_toInt_lt, w_to, w_to]
theorem w_le (x y : Int) : Int32.ofInt x ≤ Int32.ofInt y ↔ w32 x ≤ w32 y := by rw [Int32.le_iff_toInt_le, w_to, w_to]
theorem w_eq (x y : Int) : Int32.ofInt x = Int32.ofInt y ↔ w32 x = w32 y := by rw [← Int32.toInt_inj, w_to, w_to]
theorem wl_lt (x y : Int) : Int64.ofInt x < Int64.ofInt y ↔ w64 x < w64 y := by rw [Int64.lt_iff_toInt_lt, wl_to, wl_to]
theorem wl_eq (x y : Int) : Int64.ofInt x = Int64.ofInt y ↔ w64 x = w64 y := by rw [← Int64.toInt_inj, wl_to, wl_to]
theorem w_lt0 (x : Int) : Int32.ofInt x < Int32.ofInt 0 ↔ w32 x < 0 := by rw [w_lt, w_0]
theorem w_gt0 (x : Int) : Int32.ofInt 0 < Int32.ofInt x ↔ 0 < w32 x := by rw [w_lt, w_0]
theorem w_eq0 (x : Int) : Int32.ofInt x = Int32.ofInt 0 ↔ w32 x = 0 := by rw [w_eq, w_0]
theorem wl_0 : w64 0 = 0 := by decide
theorem w_div (x y : Int) : Int32.ofInt x / Int32.ofInt y = Int32.ofInt (Int.tdiv (w32 x) (w32 y)) := by
  apply Int32.toInt_inj.mp
  rw [Int32.toInt_div, w_to, w_to, Int32.toInt_ofInt]
theorem wl_div (x y : Int) : Int64.ofInt x / Int64.ofInt y = Int64.ofInt (Int.tdiv (w64 x) (w64 y)) := by
  apply Int64.toInt_inj.mp
  rw [Int64.toInt_div, wl_to, wl_to, Int64.toInt_ofInt]
theorem wl_cmp (x y : Int) : lg_cmp (Int64.ofInt x) (Int64.ofInt y) = Int32.ofInt (if w64 y < w64 x then 1 else if w64 x = w64 y then 0 else -1) := by
  unfold lg_cmp
  simp only [gt_iff_lt, wl_lt, wl_eq]
  split
  · rfl
  · split <;> rfl
theorem w_64 (x : Int) : (Int32.ofInt x).toInt64 = Int64.ofInt (w32 x) := by
  apply Int64.toInt_inj.mp
  rw [Int32.toInt_toInt64, w_to, i64]
  have h1 := Int32.le_toInt (Int32.ofInt x)
  have h2 := Int32.toInt_lt (Int32.ofInt x)
  rw [w_to] at h1 h2
  exact ⟨by omega, by omega⟩
abbrev ak_push (v : AV) (k : AK) : AK := fun lo st w => k lo (v :: st) w
theorem snd_iconst {Ξ : XT} {own : String} {cc : ByteArray} {nL d pc : Nat} {n : Int} {k : AK} (hd : decode cc pc = .ok (.iconst n, 1)) (hk : Snd Ξ own cc nL d (pc + 1) k) : Snd Ξ own cc nL d pc (ak_push (vI n) k) := by
  intro p l e R s m args below meth c D cA ad A cells slots Q C Z H locs ls lo st w o hrun hl hP hS hr
  have C0 := C
  obtain ⟨⟨hx, hb, hml, hown, hts⟩, hK, hi, hAd, hA, hE, hfr, hlo, hce, hsl⟩ := C0
  refine lv_iconst (v := Int32.ofInt n) hx hb hd rfl ?_
  exact hk p l e R s m args below meth c D cA ad A cells slots Q C Z H locs ls lo (vI n :: st) w o hrun hl hP hS hr
theorem snd_bipush {Ξ : XT} {own : String} {cc : ByteArray} {nL d pc : Nat} {n : Int} {v : Int} (hv : (Int8.ofInt n).toInt32 = Int32.ofInt v) {k : AK} (hd : decode cc pc = .ok (.bipush n, 2)) (hk : Snd Ξ own cc nL d (pc + 2) k) : Snd Ξ own cc nL d pc (ak_push (vI v) k) := by
  intro p l e R s m args below meth c D cA ad A cells slots Q C Z H locs ls lo st w o hrun hl hP hS hr
  have C0 := C
  obtain ⟨⟨hx, hb, hml, hown, hts⟩, hK, hi, hAd, hA, hE, hfr, hlo, hce, hsl⟩ := C0
  refine lv_bipush (v := Int32.ofInt v) hx hb hd hv ?_
  exact hk p l e R s m args below meth c D cA ad A cells slots Q C Z H locs ls lo (vI v :: st) w o hrun hl hP hS hr
theorem snd_sipush {Ξ : XT} {own : String} {cc : ByteArray} {nL d pc : Nat} {n : Int} {v : Int} (hv : (Int16.ofInt n).toInt32 = Int32.ofInt v) {k : AK} (hd : decode cc pc = .ok (.sipush n, 3)) (hk : Snd Ξ own cc nL d (pc + 3) k) : Snd Ξ own cc nL d pc (ak_push (vI v) k) := by
  intro p l e R s m args below meth c D cA ad A cells slots Q C Z H locs ls lo st w o hrun hl hP hS hr
  have C0 := C
  obtain ⟨⟨hx, hb, hml, hown, hts⟩, hK, hi, hAd, hA, hE, hfr, hlo, hce, hsl⟩ := C0
  refine lv_sipush (v := Int32.ofInt v) hx hb hd hv ?_
  exact hk p l e R s m args below meth c D cA ad A cells slots Q C Z H locs ls lo (vI v :: st) w o hrun hl hP hS hr
theorem snd_ldc {Ξ : XT} {own : String} {cc : ByteArray} {nL d pc : Nat} {ix : Nat} {v : Int} {z : Int32} (hz : z = Int32.ofInt v) (hc : Cond.constant own ix z ∈ lw_gw) {k : AK} (hd : decode cc pc = .ok (.ldc ix, 2)) (hk : Snd Ξ own cc nL d (pc + 2) k) : Snd Ξ own cc nL d pc (ak_push (vI v) k) := by
  intro p l e R s m args below meth c D cA ad A cells slots Q C Z H locs ls lo st w o hrun hl hP hS hr
  have C0 := C
  obtain ⟨⟨hx, hb, hml, hown, hts⟩, hK, hi, hAd, hA, hE, hfr, hlo, hce, hsl⟩ := C0
  refine lv_ldc (v := Int32.ofInt v) hx hb hown (by rw [← hz]; exact hts _ hc) hd ?_
  exact hk p l e R s m args below meth c D cA ad A cells slots Q C Z H locs ls lo (vI v :: st) w o hrun hl hP hS hr
theorem snd_ldcw {Ξ : XT} {own : String} {cc : ByteArray} {nL d pc : Nat} {ix : Nat} {v : Int} {z : Int32} (hz : z = Int32.ofInt v) (hc : Cond.constant own ix z ∈ lw_gw) {k : AK} (hd : decode cc pc = .ok (.ldc_w ix, 3)) (hk : Snd Ξ own cc nL d (pc + 3) k) : Snd Ξ own cc nL d pc (ak_push (vI v) k) := by
  intro p l e R s m args below meth c D cA ad A cells slots Q C Z H locs ls lo st w o hrun hl hP hS hr
  have C0 := C
  obtain ⟨⟨hx, hb, hml, hown, hts⟩, hK, hi, hAd, hA, hE, hfr, hlo, hce, hsl⟩ := C0
  refine lv_ldcw (v := Int32.ofInt v) hx hb hown (by rw [← hz]; exact hts _ hc) hd ?_
  exact hk p l e R s m args below meth c D cA ad A cells slots Q C Z H locs ls lo (vI v :: st) w o hrun hl hP hS hr
theorem snd_ldc2 {Ξ : XT} {own : String} {cc : ByteArray} {nL d pc : Nat} {ix : Nat} {v : Int} {z : Int64} (hz : z = Int64.ofInt v) (hc : Cond.constantLong own ix z ∈ lw_gw) {k : AK} (hd : decode cc pc = .ok (.ldc2_w ix, 3)) (hk : Snd Ξ own cc nL d (pc + 3) k) : Snd Ξ own cc nL d pc (ak_push (vL v) k) := by
  intro p l e R s m args below meth c D cA ad A cells slots Q C Z H locs ls lo st w o hrun hl hP hS hr
  have C0 := C
  obtain ⟨⟨hx, hb, hml, hown, hts⟩, hK, hi, hAd, hA, hE, hfr, hlo, hce, hsl⟩ := C0
  refine lv_ldc2 (v := Int64.ofInt v) hx hb hown (by rw [← hz]; exact hts _ hc) hd ?_
  exact hk p l e R s m args below meth c D cA ad A cells slots Q C Z H locs ls lo (vL v :: st) w o hrun hl hP hS hr
theorem snd_lconst {Ξ : XT} {own : String} {cc : ByteArray} {nL d pc : Nat} {n : Fin 2} {v : Int} (hv : Int64.ofNat (n : Nat) = Int64.ofInt v) {k : AK} (hd : decode cc pc = .ok (.lconst n, 1)) (hk : Snd Ξ own cc nL d (pc + 1) k) : Snd Ξ own cc nL d pc (ak_push (vL v) k) := by
  intro p l e R s m args below meth c D cA ad A cells slots Q C Z H locs ls lo st w o hrun hl hP hS hr
  have C0 := C
  obtain ⟨⟨hx, hb, hml, hown, hts⟩, hK, hi, hAd, hA, hE, hfr, hlo, hce, hsl⟩ := C0
  refine lv_lconst (v := Int64.ofInt v) hx hb hd hv ?_
  exact hk p l e R s m args below meth c D cA ad A cells slots Q C Z H locs ls lo (vL v :: st) w o hrun hl hP hS hr
theorem snd_null {Ξ : XT} {own : String} {cc : ByteArray} {nL d pc : Nat}  {k : AK} (hd : decode cc pc = .ok (.aconst_null, 1)) (hk : Snd Ξ own cc nL d (pc + 1) k) : Snd Ξ own cc nL d pc (ak_push (vN) k) := by
  intro p l e R s m args below meth c D cA ad A cells slots Q C Z H locs ls lo st w o hrun hl hP hS hr
  have C0 := C
  obtain ⟨⟨hx, hb, hml, hown, hts⟩, hK, hi, hAd, hA, hE, hfr, hlo, hce, hsl⟩ := C0
  refine lv_null hx hb hd ?_
  exact hk p l e R s m args below meth c D cA ad A cells slots Q C Z H locs ls lo (vN :: st) w o hrun hl hP hS hr
abbrev ak_iload (i : Nat) (k : AK) : AK := fun lo st w => match lgt lo i with
  | .inl x => k lo (vI x :: st) w
  | _ => none
abbrev ak_lload (i : Nat) (k : AK) : AK := fun lo st w => match lgt lo i with
  | .inr (.inl x) => k lo (vL x :: st) w
  | _ => none
abbrev ak_aload (i : Nat) (k : AK) : AK := fun lo st w => match lgt lo i with
  | .inr (.inr (some x)) => k lo (.inr (.inr (some x)) :: st) w
  | _ => none
theorem snd_iload {Ξ : XT} {own : String} {cc : ByteArray} {nL d pc : Nat} {i : Nat} {k : AK} (hd : decode cc pc = .ok (.iload i, 2)) (hk : Snd Ξ own cc nL d (pc + 2) k) : Snd Ξ own cc nL d pc (ak_iload i k) := by
  intro p l e R s m args below meth c D cA ad A cells slots Q C Z H locs ls lo st w o hrun hl hP hS hr
  have C0 := C
  obtain ⟨⟨hx, hb, hml, hown, hts⟩, hK, hi, hAd, hA, hE, hfr, hlo, hce, hsl⟩ := C0
  unfold ak_iload at hrun
  split at hrun
  · rename_i x hx1
    refine lv_iload hx hb hd (hl.at hx1 (fun q => by cases q)) ?_
    exact hk p l e R s m args below meth c D cA ad A cells slots Q C Z H locs ls lo (vI x :: st) w o hrun hl hP hS hr
  · cases hrun
theorem snd_iload_n {Ξ : XT} {own : String} {cc : ByteArray} {nL d pc : Nat} {i : Fin 4} {k : AK} (hd : decode cc pc = .ok (.iload_n i, 1)) (hk : Snd Ξ own cc nL d (pc + 1) k) : Snd Ξ own cc nL d pc (ak_iload (i : Nat) k) := by
  intro p l e R s m args below meth c D cA ad A cells slots Q C Z H locs ls lo st w o hrun hl hP hS hr
  have C0 := C
  obtain ⟨⟨hx, hb, hml, hown, hts⟩, hK, hi, hAd, hA, hE, hfr, hlo, hce, hsl⟩ := C0
  unfold ak_iload at hrun
  split at hrun
  · rename_i x hx1
    refine lv_iload_n hx hb hd rfl (hl.at hx1 (fun q => by cases q)) ?_
    exact hk p l e R s m args below meth c D cA ad A cells slots Q C Z H locs ls lo (vI x :: st) w o hrun hl hP hS hr
  · cases hrun
theorem snd_lload {Ξ : XT} {own : String} {cc : ByteArray} {nL d pc : Nat} {i : Nat} {k : AK} (hd : decode cc pc = .ok (.lload i, 2)) (hk : Snd Ξ own cc nL d (pc + 2) k) : Snd Ξ own cc nL d pc (ak_lload i k) := by
  intro p l e R s m args below meth c D cA ad A cells slots Q C Z H locs ls lo st w o hrun hl hP hS hr
  have C0 := C
  obtain ⟨⟨hx, hb, hml, hown, hts⟩, hK, hi, hAd, hA, hE, hfr, hlo, hce, hsl⟩ := C0
  unfold ak_lload at hrun
  split at hrun
  · rename_i x hx1
    refine lv_lload hx hb hd (hl.at hx1 (fun q => by cases q)) ?_
    exact hk p l e R s m args below meth c D cA ad A cells slots Q C Z H locs ls lo (vL x :: st) w o hrun hl hP hS hr
  · cases hrun
theorem snd_lload_n {Ξ : XT} {own : String} {cc : ByteArray} {nL d pc : Nat} {i : Fin 4} {k : AK} (hd : decode cc pc = .ok (.lload_n i, 1)) (hk : Snd Ξ own cc nL d (pc + 1) k) : Snd Ξ own cc nL d pc (ak_lload (i : Nat) k) := by
  intro p l e R s m args below meth c D cA ad A cells slots Q C Z H locs ls lo st w o hrun hl hP hS hr
  have C0 := C
  obtain ⟨⟨hx, hb, hml, hown, hts⟩, hK, hi, hAd, hA, hE, hfr, hlo, hce, hsl⟩ := C0
  unfold ak_lload at hrun
  split at hrun
  · rename_i x hx1
    refine lv_lload_n hx hb hd rfl (hl.at hx1 (fun q => by cases q)) ?_
    exact hk p l e R s m args below meth c D cA ad A cells slots Q C Z H locs ls lo (vL x :: st) w o hrun hl hP hS hr
  · cases hrun
theorem snd_aload {Ξ : XT} {own : String} {cc : ByteArray} {nL d pc : Nat} {i : Nat} {k : AK} (hd : decode cc pc = .ok (.aload i, 2)) (hk : Snd Ξ own cc nL d (pc + 2) k) : Snd Ξ own cc nL d pc (ak_aload i k) := by
  intro p l e R s m args below meth c D cA ad A cells slots Q C Z H locs ls lo st w o hrun hl hP hS hr
  have C0 := C
  obtain ⟨⟨hx, hb, hml, hown, hts⟩, hK, hi, hAd, hA, hE, hfr, hlo, hce, hsl⟩ := C0
  unfold ak_aload at hrun
  split at hrun
  · rename_i x hx1
    rcases x with _ | x
    · refine lv_aloadN hx hb hd (hl.at hx1 (fun q => by cases q)) ?_
      exact hk p l e R s m args below meth c D cA ad A cells slots Q C Z H locs ls lo (vN :: st) w o hrun hl hP hS hr
    · refine lv_aload hx hb hd (hl.at hx1 (fun q => by cases q)) ?_
      exact hk p l e R s m args below meth c D cA ad A cells slots Q C Z H locs ls lo (vR x :: st) w o hrun hl hP hS hr
  · cases hrun
theorem snd_aload_n {Ξ : XT} {own : String} {cc : ByteArray} {nL d pc : Nat} {i : Fin 4} {k : AK} (hd : decode cc pc = .ok (.aload_n i, 1)) (hk : Snd Ξ own cc nL d (pc + 1) k) : Snd Ξ own cc nL d pc (ak_aload (i : Nat) k) := by
  intro p l e R s m args below meth c D cA ad A cells slots Q C Z H locs ls lo st w o hrun hl hP hS hr
  have C0 := C
  obtain ⟨⟨hx, hb, hml, hown, hts⟩, hK, hi, hAd, hA, hE, hfr, hlo, hce, hsl⟩ := C0
  unfold ak_aload at hrun
  split at hrun
  · rename_i x hx1
    rcases x with _ | x
    · refine lv_aload_nN hx hb hd rfl (hl.at hx1 (fun q => by cases q)) ?_
      exact hk p l e R s m args below meth c D cA ad A cells slots Q C Z H locs ls lo (vN :: st) w o hrun hl hP hS hr
    · refine lv_aload_n hx hb hd rfl (hl.at hx1 (fun q => by cases q)) ?_
      exact hk p l e R s m args below meth c D cA ad A cells slots Q C Z H locs ls lo (vR x :: st) w o hrun hl hP hS hr
  · cases hrun
abbrev ak_istore (i : Nat) (k : AK) : AK := fun lo st w => match st with
  | .inl x :: r => k (ls1 lo i (vI x)) r w
  | _ => none
abbrev ak_lstore (i : Nat) (k : AK) : AK := fun lo st w => match st with
  | .inr (.inl x) :: r => k (ls2 lo i (vL x)) r w
  | _ => none
abbrev ak_astore (i : Nat) (k : AK) : AK := fun lo st w => match st with
  | .inr (.inr (some x)) :: r => k (ls1 lo i (.inr (.inr (some x)))) r w
  | _ => none
theorem snd_istore {Ξ : XT} {own : String} {cc : ByteArray} {nL d pc : Nat} {i : Nat} (hn : i < nL) {k : AK} (hd : decode cc pc = .ok (.istore i, 2)) (hk : Snd Ξ own cc nL d (pc + 2) k) : Snd Ξ own cc nL d pc (ak_istore i k) := by
  intro p l e R s m args below meth c D cA ad A cells slots Q C Z H locs ls lo st w o hrun hl hP hS hr
  have C0 := C
  obtain ⟨⟨hx, hb, hml, hown, hts⟩, hK, hi, hAd, hA, hE, hfr, hlo, hce, hsl⟩ := C0
  unfold ak_istore at hrun
  split at hrun
  · rename_i x r
    obtain ⟨lv, h1, h2⟩ := hl
    refine lv_istore hx hb hd h1 hn rfl (fun ls' hl' => ?_)
    exact hk p l e R s m args below meth c D cA ad A cells slots Q C Z H locs ls' (ls1 lo i (vI x)) r w o hrun (LR.st1 h2 hl') hP hS hr
  · cases hrun
theorem snd_istore_n {Ξ : XT} {own : String} {cc : ByteArray} {nL d pc : Nat} {i : Fin 4} (hn : (i : Nat) < nL) {k : AK} (hd : decode cc pc = .ok (.istore_n i, 1)) (hk : Snd Ξ own cc nL d (pc + 1) k) : Snd Ξ own cc nL d pc (ak_istore (i : Nat) k) := by
  intro p l e R s m args below meth c D cA ad A cells slots Q C Z H locs ls lo st w o hrun hl hP hS hr
  have C0 := C
  obtain ⟨⟨hx, hb, hml, hown, hts⟩, hK, hi, hAd, hA, hE, hfr, hlo, hce, hsl⟩ := C0
  unfold ak_istore at hrun
  split at hrun
  · rename_i x r
    obtain ⟨lv, h1, h2⟩ := hl
    refine lv_istore_n hx hb hd rfl h1 hn rfl (fun ls' hl' => ?_)
    exact hk p l e R s m args below meth c D cA ad A cells slots Q C Z H locs ls' (ls1 lo i (vI x)) r w o hrun (LR.st1 h2 hl') hP hS hr
  · cases hrun
theorem snd_lstore {Ξ : XT} {own : String} {cc : ByteArray} {nL d pc : Nat} {i : Nat} (hn : i + 1 < nL) {k : AK} (hd : decode cc pc = .ok (.lstore i, 2)) (hk : Snd Ξ own cc nL d (pc + 2) k) : Snd Ξ own cc nL d pc (ak_lstore i k) := by
  intro p l e R s m args below meth c D cA ad A cells slots Q C Z H locs ls lo st w o hrun hl hP hS hr
  have C0 := C
  obtain ⟨⟨hx, hb, hml, hown, hts⟩, hK, hi, hAd, hA, hE, hfr, hlo, hce, hsl⟩ := C0
  unfold ak_lstore at hrun
  split at hrun
  · rename_i x r
    obtain ⟨lv, h1, h2⟩ := hl
    refine lv_lstore hx hb hd h1 hn rfl (fun ls' hl' => ?_)
    exact hk p l e R s m args below meth c D cA ad A cells slots Q C Z H locs ls' (ls2 lo i (vL x)) r w o hrun (LR.st2 h2 hl') hP hS hr
  · cases hrun
theorem snd_lstore_n {Ξ : XT} {own : String} {cc : ByteArray} {nL d pc : Nat} {i : Fin 4} (hn : (i : Nat) + 1 < nL) {k : AK} (hd : decode cc pc = .ok (.lstore_n i, 1)) (hk : Snd Ξ own cc nL d (pc + 1) k) : Snd Ξ own cc nL d pc (ak_lstore (i : Nat) k) := by
  intro p l e R s m args below meth c D cA ad A cells slots Q C Z H locs ls lo st w o hrun hl hP hS hr
  have C0 := C
  obtain ⟨⟨hx, hb, hml, hown, hts⟩, hK, hi, hAd, hA, hE, hfr, hlo, hce, hsl⟩ := C0
  unfold ak_lstore at hrun
  split at hrun
  · rename_i x r
    obtain ⟨lv, h1, h2⟩ := hl
    refine lv_lstore_n hx hb hd rfl h1 hn rfl (fun ls' hl' => ?_)
    exact hk p l e R s m args below meth c D cA ad A cells slots Q C Z H locs ls' (ls2 lo i (vL x)) r w o hrun (LR.st2 h2 hl') hP hS hr
  · cases hrun
theorem snd_astore {Ξ : XT} {own : String} {cc : ByteArray} {nL d pc : Nat} {i : Nat} (hn : i < nL) {k : AK} (hd : decode cc pc = .ok (.astore i, 2)) (hk : Snd Ξ own cc nL d (pc + 2) k) : Snd Ξ own cc nL d pc (ak_astore i k) := by
  intro p l e R s m args below meth c D cA ad A cells slots Q C Z H locs ls lo st w o hrun hl hP hS hr
  have C0 := C
  obtain ⟨⟨hx, hb, hml, hown, hts⟩, hK, hi, hAd, hA, hE, hfr, hlo, hce, hsl⟩ := C0
  unfold ak_astore at hrun
  split at hrun
  · rename_i x r
    obtain ⟨lv, h1, h2⟩ := hl
    rcases x with _ | x
    · refine lv_astoreN hx hb hd h1 hn rfl (fun ls' hl' => ?_)
      exact hk p l e R s m args below meth c D cA ad A cells slots Q C Z H locs ls' (ls1 lo i vN) r w o hrun (LR.st1 h2 hl') hP hS hr
    · refine lv_astore hx hb hd h1 hn rfl (fun ls' hl' => ?_)
      exact hk p l e R s m args below meth c D cA ad A cells slots Q C Z H locs ls' (ls1 lo i (vR x)) r w o hrun (LR.st1 h2 hl') hP hS hr
  · cases hrun
theorem snd_astore_n {Ξ : XT} {own : String} {cc : ByteArray} {nL d pc : Nat} {i : Fin 4} (hn : (i : Nat) < nL) {k : AK} (hd : decode cc pc = .ok (.astore_n i, 1)) (hk : Snd Ξ own cc nL d (pc + 1) k) : Snd Ξ own cc nL d pc (ak_astore (i : Nat) k) := by
  intro p l e R s m args below meth c D cA ad A cells slots Q C Z H locs ls lo st w o hrun hl hP hS hr
  have C0 := C
  obtain ⟨⟨hx, hb, hml, hown, hts⟩, hK, hi, hAd, hA, hE, hfr, hlo, hce, hsl⟩ := C0
  unfold ak_astore at hrun
  split at hrun
  · rename_i x r
    obtain ⟨lv, h1, h2⟩ := hl
    rcases x with _ | x
    · refine lv_astore_nN hx hb hd rfl h1 hn rfl (fun ls' hl' => ?_)
      exact hk p l e R s m args below meth c D cA ad A cells slots Q C Z H locs ls' (ls1 lo i vN) r w o hrun (LR.st1 h2 hl') hP hS hr
    · refine lv_astore_n hx hb hd rfl h1 hn rfl (fun ls' hl' => ?_)
      exact hk p l e R s m args below meth c D cA ad A cells slots Q C Z H locs ls' (ls1 lo i (vR x)) r w o hrun (LR.st1 h2 hl') hP hS hr
  · cases hrun
abbrev ak_iinc (i : Nat) (n : Int) (k : AK) : AK := fun lo st w => match lgt lo i with
  | .inl x => k (ls1 lo i (vI (x + n))) st w
  | _ => none
theorem snd_iinc {Ξ : XT} {own : String} {cc : ByteArray} {nL d pc : Nat} {i : Nat} {n : Int} (hn : i < nL) {k : AK} (hd : decode cc pc = .ok (.iinc i n, 3)) (hk : Snd Ξ own cc nL d (pc + 3) k) : Snd Ξ own cc nL d pc (ak_iinc i n k) := by
  intro p l e R s m args below meth c D cA ad A cells slots Q C Z H locs ls lo st w o hrun hl hP hS hr
  have C0 := C
  obtain ⟨⟨hx, hb, hml, hown, hts⟩, hK, hi, hAd, hA, hE, hfr, hlo, hce, hsl⟩ := C0
  unfold ak_iinc at hrun
  split at hrun
  · rename_i x hx1
    obtain ⟨lv, h1, h2⟩ := hl
    have hm : (i, cv ad (lgt lo i)) ∈ lv := h2 i (by rw [hx1]; exact fun q => by cases q)
    rw [hx1] at hm
    obtain ⟨q, hq⟩ := List.mem_iff_getElem?.mp hm
    refine lv_iinc (v := Int32.ofInt (x + n)) hx hb hd h1 (k := q) hq (Int32.ofInt_add x n).symm hn rfl (fun ls' hl' => ?_)
    exact hk p l e R s m args below meth c D cA ad A cells slots Q C Z H locs ls' (ls1 lo i (vI (x + n))) st w o hrun (LR.st1 h2 hl') hP hS hr
  · cases hrun
abbrev ak_iadd (k : AK) : AK := fun lo st w => match st with
  | .inl y :: .inl x :: r => k lo (vI (x + y) :: r) w
  | _ => none
theorem snd_iadd {Ξ : XT} {own : String} {cc : ByteArray} {nL d pc : Nat}  {k : AK} (hd : decode cc pc = .ok (.iadd, 1)) (hk : Snd Ξ own cc nL d (pc + 1) k) : Snd Ξ own cc nL d pc (ak_iadd k) := by
  intro p l e R s m args below meth c D cA ad A cells slots Q C Z H locs ls lo st w o hrun hl hP hS hr
  have C0 := C
  obtain ⟨⟨hx, hb, hml, hown, hts⟩, hK, hi, hAd, hA, hE, hfr, hlo, hce, hsl⟩ := C0
  unfold ak_iadd at hrun
  split at hrun
  · rename_i y x r
    refine lv_iadd hx hb hd ?_
    rw [← Int32.ofInt_add]
    exact hk p l e R s m args below meth c D cA ad A cells slots Q C Z H locs ls lo (vI (x + y) :: r) w o hrun hl hP hS hr
  · cases hrun
abbrev ak_isub (k : AK) : AK := fun lo st w => match st with
  | .inl y :: .inl x :: r => k lo (vI (x - y) :: r) w
  | _ => none
theorem snd_isub {Ξ : XT} {own : String} {cc : ByteArray} {nL d pc : Nat}  {k : AK} (hd : decode cc pc = .ok (.isub, 1)) (hk : Snd Ξ own cc nL d (pc + 1) k) : Snd Ξ own cc nL d pc (ak_isub k) := by
  intro p l e R s m args below meth c D cA ad A cells slots Q C Z H locs ls lo st w o hrun hl hP hS hr
  have C0 := C
  obtain ⟨⟨hx, hb, hml, hown, hts⟩, hK, hi, hAd, hA, hE, hfr, hlo, hce, hsl⟩ := C0
  unfold ak_isub at hrun
  split at hrun
  · rename_i y x r
    refine lv_isub hx hb hd ?_
    rw [← Int32.ofInt_sub]
    exact hk p l e R s m args below meth c D cA ad A cells slots Q C Z H locs ls lo (vI (x - y) :: r) w o hrun hl hP hS hr
  · cases hrun
abbrev ak_imul (k : AK) : AK := fun lo st w => match st with
  | .inl y :: .inl x :: r => k lo (vI (x * y) :: r) w
  | _ => none
theorem snd_imul {Ξ : XT} {own : String} {cc : ByteArray} {nL d pc : Nat}  {k : AK} (hd : decode cc pc = .ok (.imul, 1)) (hk : Snd Ξ own cc nL d (pc + 1) k) : Snd Ξ own cc nL d pc (ak_imul k) := by
  intro p l e R s m args below meth c D cA ad A cells slots Q C Z H locs ls lo st w o hrun hl hP hS hr
  have C0 := C
  obtain ⟨⟨hx, hb, hml, hown, hts⟩, hK, hi, hAd, hA, hE, hfr, hlo, hce, hsl⟩ := C0
  unfold ak_imul at hrun
  split at hrun
  · rename_i y x r
    refine lv_imul hx hb hd ?_
    rw [← Int32.ofInt_mul]
    exact hk p l e R s m args below meth c D cA ad A cells slots Q C Z H locs ls lo (vI (x * y) :: r) w o hrun hl hP hS hr
  · cases hrun
abbrev ak_ladd (k : AK) : AK := fun lo st w => match st with
  | .inr (.inl y) :: .inr (.inl x) :: r => k lo (vL (x + y) :: r) w
  | _ => none
theorem snd_ladd {Ξ : XT} {own : String} {cc : ByteArray} {nL d pc : Nat}  {k : AK} (hd : decode cc pc = .ok (.ladd, 1)) (hk : Snd Ξ own cc nL d (pc + 1) k) : Snd Ξ own cc nL d pc (ak_ladd k) := by
  intro p l e R s m args below meth c D cA ad A cells slots Q C Z H locs ls lo st w o hrun hl hP hS hr
  have C0 := C
  obtain ⟨⟨hx, hb, hml, hown, hts⟩, hK, hi, hAd, hA, hE, hfr, hlo, hce, hsl⟩ := C0
  unfold ak_ladd at hrun
  split at hrun
  · rename_i y x r
    refine lv_ladd hx hb hd ?_
    rw [← Int64.ofInt_add]
    exact hk p l e R s m args below meth c D cA ad A cells slots Q C Z H locs ls lo (vL (x + y) :: r) w o hrun hl hP hS hr
  · cases hrun
abbrev ak_lsub (k : AK) : AK := fun lo st w => match st with
  | .inr (.inl y) :: .inr (.inl x) :: r => k lo (vL (x - y) :: r) w
  | _ => none
theorem snd_lsub {Ξ : XT} {own : String} {cc : ByteArray} {nL d pc : Nat}  {k : AK} (hd : decode cc pc = .ok (.lsub, 1)) (hk : Snd Ξ own cc nL d (pc + 1) k) : Snd Ξ own cc nL d pc (ak_lsub k) := by
  intro p l e R s m args below meth c D cA ad A cells slots Q C Z H locs ls lo st w o hrun hl hP hS hr
  have C0 := C
  obtain ⟨⟨hx, hb, hml, hown, hts⟩, hK, hi, hAd, hA, hE, hfr, hlo, hce, hsl⟩ := C0
  unfold ak_lsub at hrun
  split at hrun
  · rename_i y x r
    refine lv_lsub hx hb hd ?_
    rw [← Int64.ofInt_sub]
    exact hk p l e R s m args below meth c D cA ad A cells slots Q C Z H locs ls lo (vL (x - y) :: r) w o hrun hl hP hS hr
  · cases hrun
abbrev ak_lmul (k : AK) : AK := fun lo st w => match st with
  | .inr (.inl y) :: .inr (.inl x) :: r => k lo (vL (x * y) :: r) w
  | _ => none
theorem snd_lmul {Ξ : XT} {own : String} {cc : ByteArray} {nL d pc : Nat}  {k : AK} (hd : decode cc pc = .ok (.lmul, 1)) (hk : Snd Ξ own cc nL d (pc + 1) k) : Snd Ξ own cc nL d pc (ak_lmul k) := by
  intro p l e R s m args below meth c D cA ad A cells slots Q C Z H locs ls lo st w o hrun hl hP hS hr
  have C0 := C
  obtain ⟨⟨hx, hb, hml, hown, hts⟩, hK, hi, hAd, hA, hE, hfr, hlo, hce, hsl⟩ := C0
  unfold ak_lmul at hrun
  split at hrun
  · rename_i y x r
    refine lv_lmul hx hb hd ?_
    rw [← Int64.ofInt_mul]
    exact hk p l e R s m args below meth c D cA ad A cells slots Q C Z H locs ls lo (vL (x * y) :: r) w o hrun hl hP hS hr
  · cases hrun
abbrev ak_idiv (k : AK) : AK := fun lo st w => match st with
  | .inl y :: .inl x :: r => if w32 y ≠ 0 then k lo (vI (Int.tdiv (w32 x) (w32 y)) :: r) w else none
  | _ => none
theorem snd_idiv {Ξ : XT} {own : String} {cc : ByteArray} {nL d pc : Nat}  {k : AK} (hd : decode cc pc = .ok (.idiv, 1)) (hk : Snd Ξ own cc nL d (pc + 1) k) : Snd Ξ own cc nL d pc (ak_idiv k) := by
  intro p l e R s m args below meth c D cA ad A cells slots Q C Z H locs ls lo st w o hrun hl hP hS hr
  have C0 := C
  obtain ⟨⟨hx, hb, hml, hown, hts⟩, hK, hi, hAd, hA, hE, hfr, hlo, hce, hsl⟩ := C0
  unfold ak_idiv at hrun
  split at hrun
  · rename_i y x r
    split at hrun
    · rename_i hg
      refine lv_idiv hx hb hd (fun q => hg ((w_eq0 y).mp q)) ?_
      rw [w_div]
      exact hk p l e R s m args below meth c D cA ad A cells slots Q C Z H locs ls lo (vI (Int.tdiv (w32 x) (w32 y)) :: r) w o hrun hl hP hS hr
    · cases hrun
  · cases hrun
abbrev ak_irem (k : AK) : AK := fun lo st w => match st with
  | .inl y :: .inl x :: r => if w32 y ≠ 0 then k lo (vI (x - Int.tdiv (w32 x) (w32 y) * y) :: r) w else none
  | _ => none
theorem snd_irem {Ξ : XT} {own : String} {cc : ByteArray} {nL d pc : Nat}  {k : AK} (hd : decode cc pc = .ok (.irem, 1)) (hk : Snd Ξ own cc nL d (pc + 1) k) : Snd Ξ own cc nL d pc (ak_irem k) := by
  intro p l e R s m args below meth c D cA ad A cells slots Q C Z H locs ls lo st w o hrun hl hP hS hr
  have C0 := C
  obtain ⟨⟨hx, hb, hml, hown, hts⟩, hK, hi, hAd, hA, hE, hfr, hlo, hce, hsl⟩ := C0
  unfold ak_irem at hrun
  split at hrun
  · rename_i y x r
    split at hrun
    · rename_i hg
      refine lv_irem hx hb hd (fun q => hg ((w_eq0 y).mp q)) ?_
      rw [w_div, ← Int32.ofInt_mul, ← Int32.ofInt_sub]
      exact hk p l e R s m args below meth c D cA ad A cells slots Q C Z H locs ls lo (vI (x - Int.tdiv (w32 x) (w32 y) * y) :: r) w o hrun hl hP hS hr
    · cases hrun
  · cases hrun
abbrev ak_ldiv (k : AK) : AK := fun lo st w => match st with
  | .inr (.inl y) :: .inr (.inl x) :: r => if w64 y ≠ 0 then k lo (vL (Int.tdiv (w64 x) (w64 y)) :: r) w else none
  | _ => none
theorem snd_ldiv {Ξ : XT} {own : String} {cc : ByteArray} {nL d pc : Nat}  {k : AK} (hd : decode cc pc = .ok (.ldiv, 1)) (hk : Snd Ξ own cc nL d (pc + 1) k) : Snd Ξ own cc nL d pc (ak_ldiv k) := by
  intro p l e R s m args below meth c D cA ad A cells slots Q C Z H locs ls lo st w o hrun hl hP hS hr
  have C0 := C
  obtain ⟨⟨hx, hb, hml, hown, hts⟩, hK, hi, hAd, hA, hE, hfr, hlo, hce, hsl⟩ := C0
  unfold ak_ldiv at hrun
  split at hrun
  · rename_i y x r
    split at hrun
    · rename_i hg
      refine lv_ldiv hx hb hd (fun q => hg (((wl_eq y 0).mp q).trans wl_0)) ?_
      rw [wl_div]
      exact hk p l e R s m args below meth c D cA ad A cells slots Q C Z H locs ls lo (vL (Int.tdiv (w64 x) (w64 y)) :: r) w o hrun hl hP hS hr
    · cases hrun
  · cases hrun
abbrev ak_iand (k : AK) : AK := fun lo st w => match st with
  | .inl y :: .inl x :: r => k lo (vI ((Int32.ofInt x &&& Int32.ofInt y).toInt) :: r) w
  | _ => none
theorem snd_iand {Ξ : XT} {own : String} {cc : ByteArray} {nL d pc : Nat}  {k : AK} (hd : decode cc pc = .ok (.iand, 1)) (hk : Snd Ξ own cc nL d (pc + 1) k) : Snd Ξ own cc nL d pc (ak_iand k) := by
  intro p l e R s m args below meth c D cA ad A cells slots Q C Z H locs ls lo st w o hrun hl hP hS hr
  have C0 := C
  obtain ⟨⟨hx, hb, hml, hown, hts⟩, hK, hi, hAd, hA, hE, hfr, hlo, hce, hsl⟩ := C0
  unfold ak_iand at hrun
  split at hrun
  · rename_i y x r
    refine lv_iand hx hb hd ?_
    rw [← Int32.ofInt_toInt (Int32.ofInt x &&& Int32.ofInt y)]
    exact hk p l e R s m args below meth c D cA ad A cells slots Q C Z H locs ls lo (vI ((Int32.ofInt x &&& Int32.ofInt y).toInt) :: r) w o hrun hl hP hS hr
  · cases hrun
abbrev ak_ior (k : AK) : AK := fun lo st w => match st with
  | .inl y :: .inl x :: r => k lo (vI ((Int32.ofInt x ||| Int32.ofInt y).toInt) :: r) w
  | _ => none
theorem snd_ior {Ξ : XT} {own : String} {cc : ByteArray} {nL d pc : Nat}  {k : AK} (hd : decode cc pc = .ok (.ior, 1)) (hk : Snd Ξ own cc nL d (pc + 1) k) : Snd Ξ own cc nL d pc (ak_ior k) := by
  intro p l e R s m args below meth c D cA ad A cells slots Q C Z H locs ls lo st w o hrun hl hP hS hr
  have C0 := C
  obtain ⟨⟨hx, hb, hml, hown, hts⟩, hK, hi, hAd, hA, hE, hfr, hlo, hce, hsl⟩ := C0
  unfold ak_ior at hrun
  split at hrun
  · rename_i y x r
    refine lv_ior hx hb hd ?_
    rw [← Int32.ofInt_toInt (Int32.ofInt x ||| Int32.ofInt y)]
    exact hk p l e R s m args below meth c D cA ad A cells slots Q C Z H locs ls lo (vI ((Int32.ofInt x ||| Int32.ofInt y).toInt) :: r) w o hrun hl hP hS hr
  · cases hrun
abbrev ak_ixor (k : AK) : AK := fun lo st w => match st with
  | .inl y :: .inl x :: r => k lo (vI ((Int32.ofInt x ^^^ Int32.ofInt y).toInt) :: r) w
  | _ => none
theorem snd_ixor {Ξ : XT} {own : String} {cc : ByteArray} {nL d pc : Nat}  {k : AK} (hd : decode cc pc = .ok (.ixor, 1)) (hk : Snd Ξ own cc nL d (pc + 1) k) : Snd Ξ own cc nL d pc (ak_ixor k) := by
  intro p l e R s m args below meth c D cA ad A cells slots Q C Z H locs ls lo st w o hrun hl hP hS hr
  have C0 := C
  obtain ⟨⟨hx, hb, hml, hown, hts⟩, hK, hi, hAd, hA, hE, hfr, hlo, hce, hsl⟩ := C0
  unfold ak_ixor at hrun
  split at hrun
  · rename_i y x r
    refine lv_ixor hx hb hd ?_
    rw [← Int32.ofInt_toInt (Int32.ofInt x ^^^ Int32.ofInt y)]
    exact hk p l e R s m args below meth c D cA ad A cells slots Q C Z H locs ls lo (vI ((Int32.ofInt x ^^^ Int32.ofInt y).toInt) :: r) w o hrun hl hP hS hr
  · cases hrun
abbrev ak_ishl (k : AK) : AK := fun lo st w => match st with
  | .inl y :: .inl x :: r => k lo (vI ((Int32.ofInt x <<< (Int32.ofInt y &&& 31)).toInt) :: r) w
  | _ => none
theorem snd_ishl {Ξ : XT} {own : String} {cc : ByteArray} {nL d pc : Nat}  {k : AK} (hd : decode cc pc = .ok (.ishl, 1)) (hk : Snd Ξ own cc nL d (pc + 1) k) : Snd Ξ own cc nL d pc (ak_ishl k) := by
  intro p l e R s m args below meth c D cA ad A cells slots Q C Z H locs ls lo st w o hrun hl hP hS hr
  have C0 := C
  obtain ⟨⟨hx, hb, hml, hown, hts⟩, hK, hi, hAd, hA, hE, hfr, hlo, hce, hsl⟩ := C0
  unfold ak_ishl at hrun
  split at hrun
  · rename_i y x r
    refine lv_ishl hx hb hd ?_
    rw [← Int32.ofInt_toInt (Int32.ofInt x <<< (Int32.ofInt y &&& 31))]
    exact hk p l e R s m args below meth c D cA ad A cells slots Q C Z H locs ls lo (vI ((Int32.ofInt x <<< (Int32.ofInt y &&& 31)).toInt) :: r) w o hrun hl hP hS hr
  · cases hrun
abbrev ak_ishr (k : AK) : AK := fun lo st w => match st with
  | .inl y :: .inl x :: r => k lo (vI ((Int32.ofInt x >>> (Int32.ofInt y &&& 31)).toInt) :: r) w
  | _ => none
theorem snd_ishr {Ξ : XT} {own : String} {cc : ByteArray} {nL d pc : Nat}  {k : AK} (hd : decode cc pc = .ok (.ishr, 1)) (hk : Snd Ξ own cc nL d (pc + 1) k) : Snd Ξ own cc nL d pc (ak_ishr k) := by
  intro p l e R s m args below meth c D cA ad A cells slots Q C Z H locs ls lo st w o hrun hl hP hS hr
  have C0 := C
  obtain ⟨⟨hx, hb, hml, hown, hts⟩, hK, hi, hAd, hA, hE, hfr, hlo, hce, hsl⟩ := C0
  unfold ak_ishr at hrun
  split at hrun
  · rename_i y x r
    refine lv_ishr hx hb hd ?_
    rw [← Int32.ofInt_toInt (Int32.ofInt x >>> (Int32.ofInt y &&& 31))]
    exact hk p l e R s m args below meth c D cA ad A cells slots Q C Z H locs ls lo (vI ((Int32.ofInt x >>> (Int32.ofInt y &&& 31)).toInt) :: r) w o hrun hl hP hS hr
  · cases hrun
abbrev ak_iushr (k : AK) : AK := fun lo st w => match st with
  | .inl y :: .inl x :: r => k lo (vI (((Int32.ofInt x).toUInt32 >>> ((Int32.ofInt y).toUInt32 &&& Int32.toUInt32 31)).toInt32.toInt) :: r) w
  | _ => none
theorem snd_iushr {Ξ : XT} {own : String} {cc : ByteArray} {nL d pc : Nat}  {k : AK} (hd : decode cc pc = .ok (.iushr, 1)) (hk : Snd Ξ own cc nL d (pc + 1) k) : Snd Ξ own cc nL d pc (ak_iushr k) := by
  intro p l e R s m args below meth c D cA ad A cells slots Q C Z H locs ls lo st w o hrun hl hP hS hr
  have C0 := C
  obtain ⟨⟨hx, hb, hml, hown, hts⟩, hK, hi, hAd, hA, hE, hfr, hlo, hce, hsl⟩ := C0
  unfold ak_iushr at hrun
  split at hrun
  · rename_i y x r
    refine lv_iushr (v := Int32.ofInt ((Int32.ofInt x).toUInt32 >>> ((Int32.ofInt y).toUInt32 &&& Int32.toUInt32 31)).toInt32.toInt) hx hb hd (Int32.ofInt_toInt _).symm ?_
    exact hk p l e R s m args below meth c D cA ad A cells slots Q C Z H locs ls lo (vI (((Int32.ofInt x).toUInt32 >>> ((Int32.ofInt y).toUInt32 &&& Int32.toUInt32 31)).toInt32.toInt) :: r) w o hrun hl hP hS hr
  · cases hrun
abbrev ak_lor (k : AK) : AK := fun lo st w => match st with
  | .inr (.inl y) :: .inr (.inl x) :: r => k lo (vL ((Int64.ofInt x ||| Int64.ofInt y).toInt) :: r) w
  | _ => none
theorem snd_lor {Ξ : XT} {own : String} {cc : ByteArray} {nL d pc : Nat}  {k : AK} (hd : decode cc pc = .ok (.lor, 1)) (hk : Snd Ξ own cc nL d (pc + 1) k) : Snd Ξ own cc nL d pc (ak_lor k) := by
  intro p l e R s m args below meth c D cA ad A cells slots Q C Z H locs ls lo st w o hrun hl hP hS hr
  have C0 := C
  obtain ⟨⟨hx, hb, hml, hown, hts⟩, hK, hi, hAd, hA, hE, hfr, hlo, hce, hsl⟩ := C0
  unfold ak_lor at hrun
  split at hrun
  · rename_i y x r
    refine lv_lor hx hb hd ?_
    rw [← Int64.ofInt_toInt (Int64.ofInt x ||| Int64.ofInt y)]
    exact hk p l e R s m args below meth c D cA ad A cells slots Q C Z H locs ls lo (vL ((Int64.ofInt x ||| Int64.ofInt y).toInt) :: r) w o hrun hl hP hS hr
  · cases hrun
abbrev ak_lshl (k : AK) : AK := fun lo st w => match st with
  | .inl y :: .inr (.inl x) :: r => k lo (vL ((Int64.ofInt x <<< ((Int32.ofInt y).toInt64 &&& 63)).toInt) :: r) w
  | _ => none
theorem snd_lshl {Ξ : XT} {own : String} {cc : ByteArray} {nL d pc : Nat}  {k : AK} (hd : decode cc pc = .ok (.lshl, 1)) (hk : Snd Ξ own cc nL d (pc + 1) k) : Snd Ξ own cc nL d pc (ak_lshl k) := by
  intro p l e R s m args below meth c D cA ad A cells slots Q C Z H locs ls lo st w o hrun hl hP hS hr
  have C0 := C
  obtain ⟨⟨hx, hb, hml, hown, hts⟩, hK, hi, hAd, hA, hE, hfr, hlo, hce, hsl⟩ := C0
  unfold ak_lshl at hrun
  split at hrun
  · rename_i y x r
    refine lv_lshl (v := Int64.ofInt (Int64.ofInt x <<< ((Int32.ofInt y).toInt64 &&& 63)).toInt) hx hb hd (Int64.ofInt_toInt _).symm ?_
    exact hk p l e R s m args below meth c D cA ad A cells slots Q C Z H locs ls lo (vL ((Int64.ofInt x <<< ((Int32.ofInt y).toInt64 &&& 63)).toInt) :: r) w o hrun hl hP hS hr
  · cases hrun
abbrev ak_lcmp (k : AK) : AK := fun lo st w => match st with
  | .inr (.inl y) :: .inr (.inl x) :: r => k lo (vI (if w64 y < w64 x then 1 else if w64 x = w64 y then 0 else -1) :: r) w
  | _ => none
theorem snd_lcmp {Ξ : XT} {own : String} {cc : ByteArray} {nL d pc : Nat}  {k : AK} (hd : decode cc pc = .ok (.lcmp, 1)) (hk : Snd Ξ own cc nL d (pc + 1) k) : Snd Ξ own cc nL d pc (ak_lcmp k) := by
  intro p l e R s m args below meth c D cA ad A cells slots Q C Z H locs ls lo st w o hrun hl hP hS hr
  have C0 := C
  obtain ⟨⟨hx, hb, hml, hown, hts⟩, hK, hi, hAd, hA, hE, hfr, hlo, hce, hsl⟩ := C0
  unfold ak_lcmp at hrun
  split at hrun
  · rename_i y x r
    refine W.lcmp hx hb hd ?_
    rw [wl_cmp]
    exact hk p l e R s m args below meth c D cA ad A cells slots Q C Z H locs ls lo (vI (if w64 y < w64 x then 1 else if w64 x = w64 y then 0 else -1) :: r) w o hrun hl hP hS hr
  · cases hrun
abbrev ak_i2l (k : AK) : AK := fun lo st w => match st with
  | .inl x :: r => k lo (vL (w32 x) :: r) w
  | _ => none
theorem snd_i2l {Ξ : XT} {own : String} {cc : ByteArray} {nL d pc : Nat}  {k : AK} (hd : decode cc pc = .ok (.i2l, 1)) (hk : Snd Ξ own cc nL d (pc + 1) k) : Snd Ξ own cc nL d pc (ak_i2l k) := by
  intro p l e R s m args below meth c D cA ad A cells slots Q C Z H locs ls lo st w o hrun hl hP hS hr
  have C0 := C
  obtain ⟨⟨hx, hb, hml, hown, hts⟩, hK, hi, hAd, hA, hE, hfr, hlo, hce, hsl⟩ := C0
  unfold ak_i2l at hrun
  split at hrun
  · rename_i x r
    refine lv_i2l (v := Int64.ofInt (w32 x)) hx hb hd (w_64 x) ?_
    exact hk p l e R s m args below meth c D cA ad A cells slots Q C Z H locs ls lo (vL (w32 x) :: r) w o hrun hl hP hS hr
  · cases hrun
abbrev ak_i2b (k : AK) : AK := fun lo st w => match st with
  | .inl x :: r => k lo (vI ((Int32.ofInt x).toInt8.toInt32).toInt :: r) w
  | _ => none
theorem snd_i2b {Ξ : XT} {own : String} {cc : ByteArray} {nL d pc : Nat}  {k : AK} (hd : decode cc pc = .ok (.i2b, 1)) (hk : Snd Ξ own cc nL d (pc + 1) k) : Snd Ξ own cc nL d pc (ak_i2b k) := by
  intro p l e R s m args below meth c D cA ad A cells slots Q C Z H locs ls lo st w o hrun hl hP hS hr
  have C0 := C
  obtain ⟨⟨hx, hb, hml, hown, hts⟩, hK, hi, hAd, hA, hE, hfr, hlo, hce, hsl⟩ := C0
  unfold ak_i2b at hrun
  split at hrun
  · rename_i x r
    refine lv_i2b (v := Int32.ofInt ((Int32.ofInt x).toInt8.toInt32).toInt) hx hb hd (Int32.ofInt_toInt _).symm ?_
    exact hk p l e R s m args below meth c D cA ad A cells slots Q C Z H locs ls lo (vI ((Int32.ofInt x).toInt8.toInt32).toInt :: r) w o hrun hl hP hS hr
  · cases hrun
abbrev ak_i2c (k : AK) : AK := fun lo st w => match st with
  | .inl x :: r => k lo (vI (((Int32.ofInt x).toUInt32 % 65536).toInt32).toInt :: r) w
  | _ => none
theorem snd_i2c {Ξ : XT} {own : String} {cc : ByteArray} {nL d pc : Nat}  {k : AK} (hd : decode cc pc = .ok (.i2c, 1)) (hk : Snd Ξ own cc nL d (pc + 1) k) : Snd Ξ own cc nL d pc (ak_i2c k) := by
  intro p l e R s m args below meth c D cA ad A cells slots Q C Z H locs ls lo st w o hrun hl hP hS hr
  have C0 := C
  obtain ⟨⟨hx, hb, hml, hown, hts⟩, hK, hi, hAd, hA, hE, hfr, hlo, hce, hsl⟩ := C0
  unfold ak_i2c at hrun
  split at hrun
  · rename_i x r
    refine lv_i2c (v := Int32.ofInt (((Int32.ofInt x).toUInt32 % 65536).toInt32).toInt) hx hb hd (Int32.ofInt_toInt _).symm ?_
    exact hk p l e R s m args below meth c D cA ad A cells slots Q C Z H locs ls lo (vI (((Int32.ofInt x).toUInt32 % 65536).toInt32).toInt :: r) w o hrun hl hP hS hr
  · cases hrun
def c1 : AV → Bool
  | .inr (.inl _) => false
  | _ => true
theorem c1_cat {ad : Nat → Nat} {v : AV} (h : c1 v = true) : (cv ad v).category = 1 := cv_cat (fun x q => by rw [q] at h; cases h)
abbrev ak_dup (k : AK) : AK := fun lo st w => match st with
  | v :: r => bif c1 v then k lo (v :: v :: r) w else none
  | _ => none
theorem snd_dup {Ξ : XT} {own : String} {cc : ByteArray} {nL d pc : Nat}  {k : AK} (hd : decode cc pc = .ok (.dup, 1)) (hk : Snd Ξ own cc nL d (pc + 1) k) : Snd Ξ own cc nL d pc (ak_dup k) := by
  intro p l e R s m args below meth c D cA ad A cells slots Q C Z H locs ls lo st w o hrun hl hP hS hr
  have C0 := C
  obtain ⟨⟨hx, hb, hml, hown, hts⟩, hK, hi, hAd, hA, hE, hfr, hlo, hce, hsl⟩ := C0
  unfold ak_dup at hrun
  split at hrun
  · rename_i v r
    cases hc : c1 v with
    | false => rw [hc] at hrun; cases hrun
    | true =>
      rw [hc] at hrun
      refine lv_dup hx hb hd (c1_cat hc) ?_
      exact hk p l e R s m args below meth c D cA ad A cells slots Q C Z H locs ls lo (v :: v :: r) w o hrun hl hP hS hr
  · cases hrun
abbrev ak_pop (k : AK) : AK := fun lo st w => match st with
  | v :: r => bif c1 v then k lo r w else none
  | _ => none
theorem snd_pop {Ξ : XT} {own : String} {cc : ByteArray} {nL d pc : Nat}  {k : AK} (hd : decode cc pc = .ok (.pop, 1)) (hk : Snd Ξ own cc nL d (pc + 1) k) : Snd Ξ own cc nL d pc (ak_pop k) := by
  intro p l e R s m args below meth c D cA ad A cells slots Q C Z H locs ls lo st w o hrun hl hP hS hr
  have C0 := C
  obtain ⟨⟨hx, hb, hml, hown, hts⟩, hK, hi, hAd, hA, hE, hfr, hlo, hce, hsl⟩ := C0
  unfold ak_pop at hrun
  split at hrun
  · rename_i v r
    cases hc : c1 v with
    | false => rw [hc] at hrun; cases hrun
    | true =>
      rw [hc] at hrun
      refine lv_pop hx hb hd (c1_cat hc) ?_
      exact hk p l e R s m args below meth c D cA ad A cells slots Q C Z H locs ls lo r w o hrun hl hP hS hr
  · cases hrun
abbrev ak_dup2 (k : AK) : AK := fun lo st w => match st with
  | v :: u :: r => bif c1 v && c1 u then k lo (v :: u :: v :: u :: r) w else none
  | _ => none
theorem snd_dup2 {Ξ : XT} {own : String} {cc : ByteArray} {nL d pc : Nat}  {k : AK} (hd : decode cc pc = .ok (.dup2, 1)) (hk : Snd Ξ own cc nL d (pc + 1) k) : Snd Ξ own cc nL d pc (ak_dup2 k) := by
  intro p l e R s m args below meth c D cA ad A cells slots Q C Z H locs ls lo st w o hrun hl hP hS hr
  have C0 := C
  obtain ⟨⟨hx, hb, hml, hown, hts⟩, hK, hi, hAd, hA, hE, hfr, hlo, hce, hsl⟩ := C0
  unfold ak_dup2 at hrun
  split at hrun
  · rename_i v u r
    cases hc : (c1 v && c1 u) with
    | false => rw [hc] at hrun; cases hrun
    | true =>
      rw [hc] at hrun
      obtain ⟨h1, h2⟩ := Bool.and_eq_true_iff.mp hc
      refine lv_dup2_11 hx hb hd (c1_cat h1) (c1_cat h2) ?_
      exact hk p l e R s m args below meth c D cA ad A cells slots Q C Z H locs ls lo (v :: u :: v :: u :: r) w o hrun hl hP hS hr
  · cases hrun
abbrev ak_cmplt (kt kf : AK) : AK := fun lo st w => match st with
  | .inl y :: .inl x :: r => if w32 x < w32 y then kt lo r w else kf lo r w
  | _ => none
abbrev ak_cmpgt (kt kf : AK) : AK := fun lo st w => match st with
  | .inl y :: .inl x :: r => if w32 y < w32 x then kt lo r w else kf lo r w
  | _ => none
abbrev ak_cmpeq (kt kf : AK) : AK := fun lo st w => match st with
  | .inl y :: .inl x :: r => if w32 x = w32 y then kt lo r w else kf lo r w
  | _ => none
abbrev ak_iflt (kt kf : AK) : AK := fun lo st w => match st with
  | .inl x :: r => if w32 x < 0 then kt lo r w else kf lo r w
  | _ => none
abbrev ak_ifgt (kt kf : AK) : AK := fun lo st w => match st with
  | .inl x :: r => if 0 < w32 x then kt lo r w else kf lo r w
  | _ => none
abbrev ak_ifeq (kt kf : AK) : AK := fun lo st w => match st with
  | .inl x :: r => if w32 x = 0 then kt lo r w else kf lo r w
  | _ => none
theorem snd_icmplt {Ξ : XT} {own : String} {cc : ByteArray} {nL d pc : Nat} {off : Int} {tgt : Nat} {kt kf : AK} (ht : (pc : Int) + off = (tgt : Int)) (hd : decode cc pc = .ok (.if_icmp .lt off, 3)) (h1 : Snd Ξ own cc nL d tgt kt) (h2 : Snd Ξ own cc nL d (pc + 3) kf) : Snd Ξ own cc nL d pc (ak_cmplt kt kf) := by
  intro p l e R s m args below meth c D cA ad A cells slots Q C Z H locs ls lo st w o hrun hl hP hS hr
  have C0 := C
  obtain ⟨⟨hx, hb, hml, hown, hts⟩, hK, hi, hAd, hA, hE, hfr, hlo, hce, hsl⟩ := C0
  unfold ak_cmplt at hrun
  split at hrun
  · rename_i y x r
    refine lv_icmp_lt hx hb hd ht (fun q => ?_) (fun q => ?_)
    · rw [if_pos ((w_lt x y).mp q)] at hrun
      exact h1 p l e R s m args below meth c D cA ad A cells slots Q C Z H locs ls lo r w o hrun hl hP hS hr
    · rw [if_neg (fun z => q ((w_lt x y).mpr z))] at hrun
      exact h2 p l e R s m args below meth c D cA ad A cells slots Q C Z H locs ls lo r w o hrun hl hP hS hr
  · cases hrun
theorem snd_icmpge {Ξ : XT} {own : String} {cc : ByteArray} {nL d pc : Nat} {off : Int} {tgt : Nat} {kt kf : AK} (ht : (pc : Int) + off = (tgt : Int)) (hd : decode cc pc = .ok (.if_icmp .ge off, 3)) (h1 : Snd Ξ own cc nL d tgt kf) (h2 : Snd Ξ own cc nL d (pc + 3) kt) : Snd Ξ own cc nL d pc (ak_cmplt kt kf) := by
  intro p l e R s m args below meth c D cA ad A cells slots Q C Z H locs ls lo st w o hrun hl hP hS hr
  have C0 := C
  obtain ⟨⟨hx, hb, hml, hown, hts⟩, hK, hi, hAd, hA, hE, hfr, hlo, hce, hsl⟩ := C0
  unfold ak_cmplt at hrun
  split at hrun
  · rename_i y x r
    refine lv_icmp_ge hx hb hd ht (fun q => ?_) (fun q => ?_)
    · rw [if_neg (by have := (w_le y x).mp q; omega)] at hrun
      exact h1 p l e R s m args below meth c D cA ad A cells slots Q C Z H locs ls lo r w o hrun hl hP hS hr
    · rw [if_pos (by have := mt (w_le y x).mpr q; omega)] at hrun
      exact h2 p l e R s m args below meth c D cA ad A cells slots Q C Z H locs ls lo r w o hrun hl hP hS hr
  · cases hrun
theorem snd_icmpgt {Ξ : XT} {own : String} {cc : ByteArray} {nL d pc : Nat} {off : Int} {tgt : Nat} {kt kf : AK} (ht : (pc : Int) + off = (tgt : Int)) (hd : decode cc pc = .ok (.if_icmp .gt off, 3)) (h1 : Snd Ξ own cc nL d tgt kt) (h2 : Snd Ξ own cc nL d (pc + 3) kf) : Snd Ξ own cc nL d pc (ak_cmpgt kt kf) := by
  intro p l e R s m args below meth c D cA ad A cells slots Q C Z H locs ls lo st w o hrun hl hP hS hr
  have C0 := C
  obtain ⟨⟨hx, hb, hml, hown, hts⟩, hK, hi, hAd, hA, hE, hfr, hlo, hce, hsl⟩ := C0
  unfold ak_cmpgt at hrun
  split at hrun
  · rename_i y x r
    refine lv_icmp_gt hx hb hd ht (fun q => ?_) (fun q => ?_)
    · rw [if_pos ((w_lt y x).mp q)] at hrun
      exact h1 p l e R s m args below meth c D cA ad A cells slots Q C Z H locs ls lo r w o hrun hl hP hS hr
    · rw [if_neg (fun z => q ((w_lt y x).mpr z))] at hrun
      exact h2 p l e R s m args below meth c D cA ad A cells slots Q C Z H locs ls lo r w o hrun hl hP hS hr
  · cases hrun
theorem snd_icmple {Ξ : XT} {own : String} {cc : ByteArray} {nL d pc : Nat} {off : Int} {tgt : Nat} {kt kf : AK} (ht : (pc : Int) + off = (tgt : Int)) (hd : decode cc pc = .ok (.if_icmp .le off, 3)) (h1 : Snd Ξ own cc nL d tgt kf) (h2 : Snd Ξ own cc nL d (pc + 3) kt) : Snd Ξ own cc nL d pc (ak_cmpgt kt kf) := by
  intro p l e R s m args below meth c D cA ad A cells slots Q C Z H locs ls lo st w o hrun hl hP hS hr
  have C0 := C
  obtain ⟨⟨hx, hb, hml, hown, hts⟩, hK, hi, hAd, hA, hE, hfr, hlo, hce, hsl⟩ := C0
  unfold ak_cmpgt at hrun
  split at hrun
  · rename_i y x r
    refine lv_icmp_le hx hb hd ht (fun q => ?_) (fun q => ?_)
    · rw [if_neg (by have := (w_le x y).mp q; omega)] at hrun
      exact h1 p l e R s m args below meth c D cA ad A cells slots Q C Z H locs ls lo r w o hrun hl hP hS hr
    · rw [if_pos (by have := mt (w_le x y).mpr q; omega)] at hrun
      exact h2 p l e R s m args below meth c D cA ad A cells slots Q C Z H locs ls lo r w o hrun hl hP hS hr
  · cases hrun
theorem snd_icmpeq {Ξ : XT} {own : String} {cc : ByteArray} {nL d pc : Nat} {off : Int} {tgt : Nat} {kt kf : AK} (ht : (pc : Int) + off = (tgt : Int)) (hd : decode cc pc = .ok (.if_icmp .eq off, 3)) (h1 : Snd Ξ own cc nL d tgt kt) (h2 : Snd Ξ own cc nL d (pc + 3) kf) : Snd Ξ own cc nL d pc (ak_cmpeq kt kf) := by
  intro p l e R s m args below meth c D cA ad A cells slots Q C Z H locs ls lo st w o hrun hl hP hS hr
  have C0 := C
  obtain ⟨⟨hx, hb, hml, hown, hts⟩, hK, hi, hAd, hA, hE, hfr, hlo, hce, hsl⟩ := C0
  unfold ak_cmpeq at hrun
  split at hrun
  · rename_i y x r
    refine lv_icmp_eq hx hb hd ht (fun q => ?_) (fun q => ?_)
    · rw [if_pos ((w_eq x y).mp q)] at hrun
      exact h1 p l e R s m args below meth c D cA ad A cells slots Q C Z H locs ls lo r w o hrun hl hP hS hr
    · rw [if_neg (fun z => q ((w_eq x y).mpr z))] at hrun
      exact h2 p l e R s m args below meth c D cA ad A cells slots Q C Z H locs ls lo r w o hrun hl hP hS hr
  · cases hrun
theorem snd_icmpne {Ξ : XT} {own : String} {cc : ByteArray} {nL d pc : Nat} {off : Int} {tgt : Nat} {kt kf : AK} (ht : (pc : Int) + off = (tgt : Int)) (hd : decode cc pc = .ok (.if_icmp .ne off, 3)) (h1 : Snd Ξ own cc nL d tgt kf) (h2 : Snd Ξ own cc nL d (pc + 3) kt) : Snd Ξ own cc nL d pc (ak_cmpeq kt kf) := by
  intro p l e R s m args below meth c D cA ad A cells slots Q C Z H locs ls lo st w o hrun hl hP hS hr
  have C0 := C
  obtain ⟨⟨hx, hb, hml, hown, hts⟩, hK, hi, hAd, hA, hE, hfr, hlo, hce, hsl⟩ := C0
  unfold ak_cmpeq at hrun
  split at hrun
  · rename_i y x r
    refine lv_icmp_ne hx hb hd ht (fun q => ?_) (fun q => ?_)
    · rw [if_neg (fun z => q ((w_eq x y).mpr z))] at hrun
      exact h1 p l e R s m args below meth c D cA ad A cells slots Q C Z H locs ls lo r w o hrun hl hP hS hr
    · rw [if_pos ((w_eq x y).mp q)] at hrun
      exact h2 p l e R s m args below meth c D cA ad A cells slots Q C Z H locs ls lo r w o hrun hl hP hS hr
  · cases hrun
theorem snd_iflt {Ξ : XT} {own : String} {cc : ByteArray} {nL d pc : Nat} {off : Int} {tgt : Nat} {kt kf : AK} (ht : (pc : Int) + off = (tgt : Int)) (hd : decode cc pc = .ok (.ifCond .lt off, 3)) (h1 : Snd Ξ own cc nL d tgt kt) (h2 : Snd Ξ own cc nL d (pc + 3) kf) : Snd Ξ own cc nL d pc (ak_iflt kt kf) := by
  intro p l e R s m args below meth c D cA ad A cells slots Q C Z H locs ls lo st w o hrun hl hP hS hr
  have C0 := C
  obtain ⟨⟨hx, hb, hml, hown, hts⟩, hK, hi, hAd, hA, hE, hfr, hlo, hce, hsl⟩ := C0
  unfold ak_iflt at hrun
  split at hrun
  · rename_i x r
    refine lv_if_lt hx hb hd ht (fun q => ?_) (fun q => ?_)
    · rw [if_pos ((w_lt0 x).mp q)] at hrun
      exact h1 p l e R s m args below meth c D cA ad A cells slots Q C Z H locs ls lo r w o hrun hl hP hS hr
    · rw [if_neg (fun z => q ((w_lt0 x).mpr z))] at hrun
      exact h2 p l e R s m args below meth c D cA ad A cells slots Q C Z H locs ls lo r w o hrun hl hP hS hr
  · cases hrun
theorem snd_ifge {Ξ : XT} {own : String} {cc : ByteArray} {nL d pc : Nat} {off : Int} {tgt : Nat} {kt kf : AK} (ht : (pc : Int) + off = (tgt : Int)) (hd : decode cc pc = .ok (.ifCond .ge off, 3)) (h1 : Snd Ξ own cc nL d tgt kf) (h2 : Snd Ξ own cc nL d (pc + 3) kt) : Snd Ξ own cc nL d pc (ak_iflt kt kf) := by
  intro p l e R s m args below meth c D cA ad A cells slots Q C Z H locs ls lo st w o hrun hl hP hS hr
  have C0 := C
  obtain ⟨⟨hx, hb, hml, hown, hts⟩, hK, hi, hAd, hA, hE, hfr, hlo, hce, hsl⟩ := C0
  unfold ak_iflt at hrun
  split at hrun
  · rename_i x r
    refine lv_if_ge hx hb hd ht (fun q => ?_) (fun q => ?_)
    · rw [if_neg (by have := (w_le 0 x).mp q; rw [w_0] at this; omega)] at hrun
      exact h1 p l e R s m args below meth c D cA ad A cells slots Q C Z H locs ls lo r w o hrun hl hP hS hr
    · rw [if_pos (by have := mt (w_le 0 x).mpr q; rw [w_0] at this; omega)] at hrun
      exact h2 p l e R s m args below meth c D cA ad A cells slots Q C Z H locs ls lo r w o hrun hl hP hS hr
  · cases hrun
theorem snd_ifgt {Ξ : XT} {own : String} {cc : ByteArray} {nL d pc : Nat} {off : Int} {tgt : Nat} {kt kf : AK} (ht : (pc : Int) + off = (tgt : Int)) (hd : decode cc pc = .ok (.ifCond .gt off, 3)) (h1 : Snd Ξ own cc nL d tgt kt) (h2 : Snd Ξ own cc nL d (pc + 3) kf) : Snd Ξ own cc nL d pc (ak_ifgt kt kf) := by
  intro p l e R s m args below meth c D cA ad A cells slots Q C Z H locs ls lo st w o hrun hl hP hS hr
  have C0 := C
  obtain ⟨⟨hx, hb, hml, hown, hts⟩, hK, hi, hAd, hA, hE, hfr, hlo, hce, hsl⟩ := C0
  unfold ak_ifgt at hrun
  split at hrun
  · rename_i x r
    refine lv_if_gt hx hb hd ht (fun q => ?_) (fun q => ?_)
    · rw [if_pos ((w_gt0 x).mp q)] at hrun
      exact h1 p l e R s m args below meth c D cA ad A cells slots Q C Z H locs ls lo r w o hrun hl hP hS hr
    · rw [if_neg (fun z => q ((w_gt0 x).mpr z))] at hrun
      exact h2 p l e R s m args below meth c D cA ad A cells slots Q C Z H locs ls lo r w o hrun hl hP hS hr
  · cases hrun
theorem snd_ifle {Ξ : XT} {own : String} {cc : ByteArray} {nL d pc : Nat} {off : Int} {tgt : Nat} {kt kf : AK} (ht : (pc : Int) + off = (tgt : Int)) (hd : decode cc pc = .ok (.ifCond .le off, 3)) (h1 : Snd Ξ own cc nL d tgt kf) (h2 : Snd Ξ own cc nL d (pc + 3) kt) : Snd Ξ own cc nL d pc (ak_ifgt kt kf) := by
  intro p l e R s m args below meth c D cA ad A cells slots Q C Z H locs ls lo st w o hrun hl hP hS hr
  have C0 := C
  obtain ⟨⟨hx, hb, hml, hown, hts⟩, hK, hi, hAd, hA, hE, hfr, hlo, hce, hsl⟩ := C0
  unfold ak_ifgt at hrun
  split at hrun
  · rename_i x r
    refine lv_if_le hx hb hd ht (fun q => ?_) (fun q => ?_)
    · rw [if_neg (by have := (w_le x 0).mp q; rw [w_0] at this; omega)] at hrun
      exact h1 p l e R s m args below meth c D cA ad A cells slots Q C Z H locs ls lo r w o hrun hl hP hS hr
    · rw [if_pos (by have := mt (w_le x 0).mpr q; rw [w_0] at this; omega)] at hrun
      exact h2 p l e R s m args below meth c D cA ad A cells slots Q C Z H locs ls lo r w o hrun hl hP hS hr
  · cases hrun
theorem snd_ifeq {Ξ : XT} {own : String} {cc : ByteArray} {nL d pc : Nat} {off : Int} {tgt : Nat} {kt kf : AK} (ht : (pc : Int) + off = (tgt : Int)) (hd : decode cc pc = .ok (.ifCond .eq off, 3)) (h1 : Snd Ξ own cc nL d tgt kt) (h2 : Snd Ξ own cc nL d (pc + 3) kf) : Snd Ξ own cc nL d pc (ak_ifeq kt kf) := by
  intro p l e R s m args below meth c D cA ad A cells slots Q C Z H locs ls lo st w o hrun hl hP hS hr
  have C0 := C
  obtain ⟨⟨hx, hb, hml, hown, hts⟩, hK, hi, hAd, hA, hE, hfr, hlo, hce, hsl⟩ := C0
  unfold ak_ifeq at hrun
  split at hrun
  · rename_i x r
    refine lv_if_eq hx hb hd ht (fun q => ?_) (fun q => ?_)
    · rw [if_pos ((w_eq0 x).mp q)] at hrun
      exact h1 p l e R s m args below meth c D cA ad A cells slots Q C Z H locs ls lo r w o hrun hl hP hS hr
    · rw [if_neg (fun z => q ((w_eq0 x).mpr z))] at hrun
      exact h2 p l e R s m args below meth c D cA ad A cells slots Q C Z H locs ls lo r w o hrun hl hP hS hr
  · cases hrun
theorem snd_ifne {Ξ : XT} {own : String} {cc : ByteArray} {nL d pc : Nat} {off : Int} {tgt : Nat} {kt kf : AK} (ht : (pc : Int) + off = (tgt : Int)) (hd : decode cc pc = .ok (.ifCond .ne off, 3)) (h1 : Snd Ξ own cc nL d tgt kf) (h2 : Snd Ξ own cc nL d (pc + 3) kt) : Snd Ξ own cc nL d pc (ak_ifeq kt kf) := by
  intro p l e R s m args below meth c D cA ad A cells slots Q C Z H locs ls lo st w o hrun hl hP hS hr
  have C0 := C
  obtain ⟨⟨hx, hb, hml, hown, hts⟩, hK, hi, hAd, hA, hE, hfr, hlo, hce, hsl⟩ := C0
  unfold ak_ifeq at hrun
  split at hrun
  · rename_i x r
    refine lv_if_ne hx hb hd ht (fun q => ?_) (fun q => ?_)
    · rw [if_neg (fun z => q ((w_eq0 x).mpr z))] at hrun
      exact h1 p l e R s m args below meth c D cA ad A cells slots Q C Z H locs ls lo r w o hrun hl hP hS hr
    · rw [if_pos ((w_eq0 x).mp q)] at hrun
      exact h2 p l e R s m args below meth c D cA ad A cells slots Q C Z H locs ls lo r w o hrun hl hP hS hr
  · cases hrun
abbrev ak_ifnull (kt kf : AK) : AK := fun lo st w => match st with
  | .inr (.inr (some none)) :: r => kt lo r w
  | .inr (.inr (some (some _))) :: r => kf lo r w
  | _ => none
theorem snd_ifnull {Ξ : XT} {own : String} {cc : ByteArray} {nL d pc : Nat} {off : Int} {tgt : Nat} {kt kf : AK} (ht : (pc : Int) + off = (tgt : Int)) (hd : decode cc pc = .ok (.ifnull off, 3)) (h1 : Snd Ξ own cc nL d tgt kt) (h2 : Snd Ξ own cc nL d (pc + 3) kf) : Snd Ξ own cc nL d pc (ak_ifnull kt kf) := by
  intro p l e R s m args below meth c D cA ad A cells slots Q C Z H locs ls lo st w o hrun hl hP hS hr
  have C0 := C
  obtain ⟨⟨hx, hb, hml, hown, hts⟩, hK, hi, hAd, hA, hE, hfr, hlo, hce, hsl⟩ := C0
  unfold ak_ifnull at hrun
  split at hrun
  · rename_i r
    refine lv_ifnullN hx hb hd ht ?_
    exact h1 p l e R s m args below meth c D cA ad A cells slots Q C Z H locs ls lo r w o hrun hl hP hS hr
  · rename_i j r
    refine lv_ifnull hx hb hd ?_
    exact h2 p l e R s m args below meth c D cA ad A cells slots Q C Z H locs ls lo r w o hrun hl hP hS hr
  · cases hrun
theorem snd_ifnonnull {Ξ : XT} {own : String} {cc : ByteArray} {nL d pc : Nat} {off : Int} {tgt : Nat} {kt kf : AK} (ht : (pc : Int) + off = (tgt : Int)) (hd : decode cc pc = .ok (.ifnonnull off, 3)) (h1 : Snd Ξ own cc nL d tgt kf) (h2 : Snd Ξ own cc nL d (pc + 3) kt) : Snd Ξ own cc nL d pc (ak_ifnull kt kf) := by
  intro p l e R s m args below meth c D cA ad A cells slots Q C Z H locs ls lo st w o hrun hl hP hS hr
  have C0 := C
  obtain ⟨⟨hx, hb, hml, hown, hts⟩, hK, hi, hAd, hA, hE, hfr, hlo, hce, hsl⟩ := C0
  unfold ak_ifnull at hrun
  split at hrun
  · rename_i r
    refine lv_ifnonnullN hx hb hd ?_
    exact h2 p l e R s m args below meth c D cA ad A cells slots Q C Z H locs ls lo r w o hrun hl hP hS hr
  · rename_i j r
    refine lv_ifnonnull hx hb hd ht ?_
    exact h1 p l e R s m args below meth c D cA ad A cells slots Q C Z H locs ls lo r w o hrun hl hP hS hr
  · cases hrun
theorem snd_goto {Ξ : XT} {own : String} {cc : ByteArray} {nL d pc : Nat} {off : Int} {tgt : Nat} {k : AK} (ht : (pc : Int) + off = (tgt : Int)) (hd : decode cc pc = .ok (.goto off, 3)) (hk : Snd Ξ own cc nL d tgt k) : Snd Ξ own cc nL d pc k := by
  intro p l e R s m args below meth c D cA ad A cells slots Q C Z H locs ls lo st w o hrun hl hP hS hr
  have C0 := C
  obtain ⟨⟨hx, hb, hml, hown, hts⟩, hK, hi, hAd, hA, hE, hfr, hlo, hce, hsl⟩ := C0
  refine lv_goto hx hb hd ht ?_
  exact hk p l e R s m args below meth c D cA ad A cells slots Q C Z H locs ls lo st w o hrun hl hP hS hr
abbrev ak_switch (lo0 : Int) (ks : List AK) (kd : AK) : AK := fun lo st w => match st with
  | .inl x :: r => if lo0 ≤ w32 x ∧ w32 x < lo0 + ks.length then (ks.getD (w32 x - lo0).toNat kd) lo r w else kd lo r w
  | _ => none
theorem snd_switch {Ξ : XT} {own : String} {cc : ByteArray} {nL d pc : Nat}  {dflt lo0 hi0 : Int} {offs : Array Int} {len tgd : Nat} {ks : List AK} {kd : AK} (hd : decode cc pc = .ok (.tableswitch dflt lo0 hi0 offs, len)) (hn : hi0 + 1 = lo0 + ks.length) (htd : (pc : Int) + dflt = (tgd : Int)) (hkd : Snd Ξ own cc nL d tgd kd) (hks : ∀ i, i < ks.length → ∃ (off : Int) (tgt : Nat), offs[i]? = some off ∧ (pc : Int) + off = (tgt : Int) ∧ Snd Ξ own cc nL d tgt (ks.getD i kd)) : Snd Ξ own cc nL d pc (ak_switch lo0 ks kd) := by
  intro p l e R s m args below meth c D cA ad A cells slots Q C Z H locs ls lo st w o hrun hl hP hS hr
  have C0 := C
  obtain ⟨⟨hx, hb, hml, hown, hts⟩, hK, hi, hAd, hA, hE, hfr, hlo, hce, hsl⟩ := C0
  unfold ak_switch at hrun
  split at hrun
  · rename_i x r
    by_cases hin : lo0 ≤ w32 x ∧ w32 x < lo0 + ks.length
    · rw [if_pos hin] at hrun
      obtain ⟨off, tgt, g1, g2, g3⟩ := hks (w32 x - lo0).toNat (by omega)
      refine lv_tableIn (off := off) (tgt := tgt) hx hb hd (by rw [w_to]; omega) (by rw [w_to]; omega) (by rw [w_to]; exact g1) g2 ?_
      exact g3 p l e R s m args below meth c D cA ad A cells slots Q C Z H locs ls lo r w o hrun hl hP hS hr
    · rw [if_neg hin] at hrun
      refine lv_tableOut (tgt := tgd) hx hb hd (by rw [w_to]; omega) htd ?_
      exact hkd p l e R s m args below meth c D cA ad A cells slots Q C Z H locs ls lo r w o hrun hl hP hS hr
  · cases hrun
def SwAll (Ξ : XT) (own : String) (cc : ByteArray) (nL d pc : Nat) : List Int → List AK → Prop
  | [], [] => True
  | o :: os, k :: ks => (∃ tgt : Nat, (pc : Int) + o = (tgt : Int) ∧ Snd Ξ own cc nL d tgt k) ∧ SwAll Ξ own cc nL d pc os ks
  | _, _ => False
theorem sw_nil {Ξ : XT} {own : String} {cc : ByteArray} {nL d pc : Nat}  : SwAll Ξ own cc nL d pc [] [] := trivial
theorem sw_cons {Ξ : XT} {own : String} {cc : ByteArray} {nL d pc : Nat}  {o : Int} {tgt : Nat} {os : List Int} {k : AK} {ks : List AK} (h1 : (pc : Int) + o = (tgt : Int)) (h2 : Snd Ξ own cc nL d tgt k) (h3 : SwAll Ξ own cc nL d pc os ks) : SwAll Ξ own cc nL d pc (o :: os) (k :: ks) := ⟨⟨tgt, h1, h2⟩, h3⟩
theorem sw_at {Ξ : XT} {own : String} {cc : ByteArray} {nL d pc : Nat}  {kd : AK} : ∀ {os : List Int} {ks : List AK}, SwAll Ξ own cc nL d pc os ks → ∀ i, i < ks.length → ∃ (off : Int) (tgt : Nat), os.toArray[i]? = some off ∧ (pc : Int) + off = (tgt : Int) ∧ Snd Ξ own cc nL d tgt (ks.getD i kd)
  | [], [], _, i, hi => absurd hi (Nat.not_lt_zero i)
  | [], _ :: _, h, _, _ => h.elim
  | _ :: _, [], h, _, _ => h.elim
  | o :: os, k :: ks, h, 0, _ => by
    obtain ⟨⟨tgt, h1, h2⟩, h3⟩ := h
    exact ⟨o, tgt, by simp, h1, h2⟩
  | o :: os, k :: ks, h, i + 1, hi => by
    obtain ⟨off, tgt, h1, h2, h3⟩ := sw_at (kd := kd) h.2 i (by simpa using hi)
    exact ⟨off, tgt, by simpa using h1, h2, by simpa using h3⟩
theorem snd_switchL {Ξ : XT} {own : String} {cc : ByteArray} {nL d pc : Nat}  {dflt lo0 hi0 : Int} {ol : List Int} {len tgd : Nat} {ks : List AK} {kd : AK} (hd : decode cc pc = .ok (.tableswitch dflt lo0 hi0 ol.toArray, len)) (hn : hi0 + 1 = lo0 + ks.length) (htd : (pc : Int) + dflt = (tgd : Int)) (hkd : Snd Ξ own cc nL d tgd kd) (hall : SwAll Ξ own cc nL d pc ol ks) : Snd Ξ own cc nL d pc (ak_switch lo0 ks kd) := snd_switch hd hn htd hkd (fun i hi => sw_at hall i hi)
abbrev ak_ireturn : AK := fun _ st w => match st with
  | [.inl x] => some (some (vI x), w)
  | _ => none
abbrev ak_lreturn : AK := fun _ st w => match st with
  | [.inr (.inl x)] => some (some (vL x), w)
  | _ => none
abbrev ak_areturn : AK := fun _ st w => match st with
  | [.inr (.inr (some x))] => some (some (.inr (.inr (some x))), w)
  | _ => none
abbrev ak_return : AK := fun _ st w => match st with
  | [] => some (none, w)
  | _ => none
theorem snd_ireturn {Ξ : XT} {own : String} {cc : ByteArray} {nL d pc : Nat}  (hd : decode cc pc = .ok (.ireturn, 1)) : Snd Ξ own cc nL d pc ak_ireturn := by
  intro p l e R s m args below meth c D cA ad A cells slots Q C Z H locs ls lo st w o hrun hl hP hS hr
  have C0 := C
  obtain ⟨⟨hx, hb, hml, hown, hts⟩, hK, hi, hAd, hA, hE, hfr, hlo, hce, hsl⟩ := C0
  unfold ak_ireturn at hrun
  split at hrun
  · cases hrun
    exact hr pc ls H locs hP hS hd
  · cases hrun
theorem snd_lreturn {Ξ : XT} {own : String} {cc : ByteArray} {nL d pc : Nat}  (hd : decode cc pc = .ok (.lreturn, 1)) : Snd Ξ own cc nL d pc ak_lreturn := by
  intro p l e R s m args below meth c D cA ad A cells slots Q C Z H locs ls lo st w o hrun hl hP hS hr
  have C0 := C
  obtain ⟨⟨hx, hb, hml, hown, hts⟩, hK, hi, hAd, hA, hE, hfr, hlo, hce, hsl⟩ := C0
  unfold ak_lreturn at hrun
  split at hrun
  · cases hrun
    exact hr pc ls H locs hP hS hd
  · cases hrun
theorem snd_areturn {Ξ : XT} {own : String} {cc : ByteArray} {nL d pc : Nat}  (hd : decode cc pc = .ok (.areturn, 1)) : Snd Ξ own cc nL d pc ak_areturn := by
  intro p l e R s m args below meth c D cA ad A cells slots Q C Z H locs ls lo st w o hrun hl hP hS hr
  have C0 := C
  obtain ⟨⟨hx, hb, hml, hown, hts⟩, hK, hi, hAd, hA, hE, hfr, hlo, hce, hsl⟩ := C0
  unfold ak_areturn at hrun
  split at hrun
  · cases hrun
    exact hr pc ls H locs hP hS hd
  · cases hrun
theorem snd_return {Ξ : XT} {own : String} {cc : ByteArray} {nL d pc : Nat}  (hd : decode cc pc = .ok (.return_, 1)) : Snd Ξ own cc nL d pc ak_return := by
  intro p l e R s m args below meth c D cA ad A cells slots Q C Z H locs ls lo st w o hrun hl hP hS hr
  have C0 := C
  obtain ⟨⟨hx, hb, hml, hown, hts⟩, hK, hi, hAd, hA, hE, hfr, hlo, hce, hsl⟩ := C0
  unfold ak_return at hrun
  split at hrun
  · cases hrun
    exact hr pc ls H locs hP hS hd
  · cases hrun
abbrev ak_none : AK := fun _ _ _ => none
theorem snd_none {Ξ : XT} {own : String} {cc : ByteArray} {nL d pc : Nat}  : Snd Ξ own cc nL d pc ak_none := by
  intro p l e R s m args below meth c D cA ad A cells slots Q C Z H locs ls lo st w o hrun hl hP hS hr
  have C0 := C
  obtain ⟨⟨hx, hb, hml, hown, hts⟩, hK, hi, hAd, hA, hE, hfr, hlo, hce, hsl⟩ := C0
  cases hrun
