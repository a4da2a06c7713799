/-! WHAT A BLOCK BRINGS: TT o Q says that the abstract machine comes to an end there, with an answer and a world of which Q holds -/
def TT (o : Option AR) (Q : Option AV → AW → Prop) : Prop := ∃ r w, o = some (r, w) ∧ Q r w
def qq (rk : Nat) (Q : Option AV → AW → Prop) : Option AV → AW → Prop := fun r w => retK rk (r, w) = true ∧ Q r w
def CI (o : Option AR) (P : Int → AW → Prop) : Prop := TT o (fun r w => ∃ x, r = some (vI x) ∧ P x w)
def CL (o : Option AR) (P : Int → AW → Prop) : Prop := TT o (fun r w => ∃ x, r = some (vL x) ∧ P x w)
def CV (o : Option AR) (P : AW → Prop) : Prop := TT o (fun r w => r = none ∧ P w)
def CR (o : Option AR) (P : Option Nat → AW → Prop) : Prop := TT o (fun r w => ∃ v, r = some (.inr (.inr (some v))) ∧ P v w)
def bAnd (x y : Int) : Int := (Int32.ofInt x &&& Int32.ofInt y).toInt
def bOr (x y : Int) : Int := (Int32.ofInt x ||| Int32.ofInt y).toInt
def bXor (x y : Int) : Int := (Int32.ofInt x ^^^ Int32.ofInt y).toInt
def bShl (x y : Int) : Int := (Int32.ofInt x <<< (Int32.ofInt y &&& 31)).toInt
def bShr (x y : Int) : Int := (Int32.ofInt x >>> (Int32.ofInt y &&& 31)).toInt
def bUsh (x y : Int) : Int := ((Int32.ofInt x).toUInt32 >>> ((Int32.ofInt y).toUInt32 &&& Int32.toUInt32 31)).toInt32.toInt
def lOr (x y : Int) : Int := (Int64.ofInt x ||| Int64.ofInt y).toInt
def lShl (x y : Int) : Int := (Int64.ofInt x <<< ((Int32.ofInt y).toInt64 &&& 63)).toInt
def tB (x : Int) : Int := ((Int32.ofInt x).toInt8.toInt32).toInt
def tC (x : Int) : Int := (((Int32.ofInt x).toUInt32 % 65536).toInt32).toInt
def wI (w : AW) (j k : Nat) (x : Int) : AW := (u2 w.1 j k x, w.2)
def wL (w : AW) (j k : Nat) (x : Int) : AW := (w.1, u2 w.2.1 j k x, w.2.2)
def wC (w : AW) (a b sp dp n : Nat) : AW := (cpy w.1 a b sp dp n, w.2)
theorem tt_mono {o : Option AR} {P Q : Option AV → AW → Prop} (h : TT o P) (hi : ∀ r w, P r w → Q r w) : TT o Q := by
  obtain ⟨r, w, h1, h2⟩ := h
  exact ⟨r, w, h1, hi r w h2⟩
theorem tt_m {rk nL : Nat} {k : AK} {as lo : List AV} {w : AW} {Q : Option AV → AW → Prop} (hl : Nat.ble (sl1 as).length nL = true) (he : entA nL as = lo) (h : TT (k lo [] w) (qq rk Q)) : TT (mkF rk nL k as w) Q := by
  obtain ⟨r, w1, h1, h2, h3⟩ := h
  refine ⟨r, w1, ?_, h3⟩
  unfold mkF
  rw [hl, he, h1]
  show (bif retK rk (r, w1) then some (r, w1) else none) = some (r, w1)
  rw [h2]
  rfl
theorem tt_push {v : AV} {k : AK} {lo st : List AV} {w : AW} {Q : Option AV → AW → Prop} (h : TT (k lo (v :: st) w) Q) : TT (ak_push v k lo st w) Q := h
theorem tt_iload {i : Nat} {k : AK} {lo st : List AV} {w : AW} {Q : Option AV → AW → Prop} {x : Int} (hx : lgt lo i = vI x) (h : TT (k lo (vI x :: st) w) Q) : TT (ak_iload i k lo st w) Q := by
  unfold ak_iload
  rw [hx]
  exact h
theorem tt_lload {i : Nat} {k : AK} {lo st : List AV} {w : AW} {Q : Option AV → AW → Prop} {x : Int} (hx : lgt lo i = vL x) (h : TT (k lo (vL x :: st) w) Q) : TT (ak_lload i k lo st w) Q := by
  unfold ak_lload
  rw [hx]
  exact h
theorem tt_aload {i : Nat} {k : AK} {lo st : List AV} {w : AW} {Q : Option AV → AW → Prop} {x : Option Nat} (hx : lgt lo i = .inr (.inr (some x))) (h : TT (k lo (.inr (.inr (some x)) :: st) w) Q) : TT (ak_aload i k lo st w) Q := by
  unfold ak_aload
  rw [hx]
  exact h
theorem tt_istore {i : Nat} {k : AK} {lo lo' st : List AV} {w : AW} {Q : Option AV → AW → Prop} {x : Int} (hl : ls1 lo i (vI x) = lo') (h : TT (k lo' st w) Q) : TT (ak_istore i k lo (vI x :: st) w) Q := by
  subst hl
  exact h
theorem tt_istoreE {i : Nat} {k : AK} {lo st : List AV} {w : AW} {Q : Option AV → AW → Prop} {x : Int} (lo' : Int → List AV) (hl : ∀ y, ls1 lo i (vI y) = lo' y) (h : ∀ y, y = x → TT (k (lo' y) st w) Q) : TT (ak_istore i k lo (vI x :: st) w) Q := by
  have := h x rfl
  rw [← hl x] at this
  exact this
theorem tt_lstore {i : Nat} {k : AK} {lo lo' st : List AV} {w : AW} {Q : Option AV → AW → Prop} {x : Int} (hl : ls2 lo i (vL x) = lo') (h : TT (k lo' st w) Q) : TT (ak_lstore i k lo (vL x :: st) w) Q := by
  subst hl
  exact h
theorem tt_lstoreE {i : Nat} {k : AK} {lo st : List AV} {w : AW} {Q : Option AV → AW → Prop} {x : Int} (lo' : Int → List AV) (hl : ∀ y, ls2 lo i (vL y) = lo' y) (h : ∀ y, y = x → TT (k (lo' y) st w) Q) : TT (ak_lstore i k lo (vL x :: st) w) Q := by
  have := h x rfl
  rw [← hl x] at this
  exact this
theorem tt_astore {i : Nat} {k : AK} {lo lo' st : List AV} {w : AW} {Q : Option AV → AW → Prop} {x : Option Nat} (hl : ls1 lo i (.inr (.inr (some x))) = lo') (h : TT (k lo' st w) Q) : TT (ak_astore i k lo (.inr (.inr (some x)) :: st) w) Q := by
  subst hl
  exact h
theorem tt_iinc {i : Nat} {n : Int} {k : AK} {lo lo' st : List AV} {w : AW} {Q : Option AV → AW → Prop} {x : Int} (hx : lgt lo i = vI x) (hl : ls1 lo i (vI (x + n)) = lo') (h : TT (k lo' st w) Q) : TT (ak_iinc i n k lo st w) Q := by
  subst hl
  unfold ak_iinc
  rw [hx]
  exact h
theorem tt_iadd {k : AK} {lo st : List AV} {w : AW} {Q : Option AV → AW → Prop} {x y : Int} (h : TT (k lo (vI (x + y) :: st) w) Q) : TT (ak_iadd k lo (vI y :: vI x :: st) w) Q := h
theorem tt_isub {k : AK} {lo st : List AV} {w : AW} {Q : Option AV → AW → Prop} {x y : Int} (h : TT (k lo (vI (x - y) :: st) w) Q) : TT (ak_isub k lo (vI y :: vI x :: st) w) Q := h
theorem tt_imul {k : AK} {lo st : List AV} {w : AW} {Q : Option AV → AW → Prop} {x y : Int} (h : TT (k lo (vI (x * y) :: st) w) Q) : TT (ak_imul k lo (vI y :: vI x :: st) w) Q := h
theorem tt_iand {k : AK} {lo st : List AV} {w : AW} {Q : Option AV → AW → Prop} {x y : Int} (h : TT (k lo (vI (bAnd x y) :: st) w) Q) : TT (ak_iand k lo (vI y :: vI x :: st) w) Q := h
theorem tt_ior {k : AK} {lo st : List AV} {w : AW} {Q : Option AV → AW → Prop} {x y : Int} (h : TT (k lo (vI (bOr x y) :: st) w) Q) : TT (ak_ior k lo (vI y :: vI x :: st) w) Q := h
theorem tt_ixor {k : AK} {lo st : List AV} {w : AW} {Q : Option AV → AW → Prop} {x y : Int} (h : TT (k lo (vI (bXor x y) :: st) w) Q) : TT (ak_ixor k lo (vI y :: vI x :: st) w) Q := h
theorem tt_ishl {k : AK} {lo st : List AV} {w : AW} {Q : Option AV → AW → Prop} {x y : Int} (h : TT (k lo (vI (bShl x y) :: st) w) Q) : TT (ak_ishl k lo (vI y :: vI x :: st) w) Q := h
theorem tt_ishr {k : AK} {lo st : List AV} {w : AW} {Q : Option AV → AW → Prop} {x y : Int} (h : TT (k lo (vI (bShr x y) :: st) w) Q) : TT (ak_ishr k lo (vI y :: vI x :: st) w) Q := h
theorem tt_iushr {k : AK} {lo st : List AV} {w : AW} {Q : Option AV → AW → Prop} {x y : Int} (h : TT (k lo (vI (bUsh x y) :: st) w) Q) : TT (ak_iushr k lo (vI y :: vI x :: st) w) Q := h
theorem tt_ladd {k : AK} {lo st : List AV} {w : AW} {Q : Option AV → AW → Prop} {x y : Int} (h : TT (k lo (vL (x + y) :: st) w) Q) : TT (ak_ladd k lo (vL y :: vL x :: st) w) Q := h
theorem tt_lsub {k : AK} {lo st : List AV} {w : AW} {Q : Option AV → AW → Prop} {x y : Int} (h : TT (k lo (vL (x - y) :: st) w) Q) : TT (ak_lsub k lo (vL y :: vL x :: st) w) Q := h
theorem tt_lmul {k : AK} {lo st : List AV} {w : AW} {Q : Option AV → AW → Prop} {x y : Int} (h : TT (k lo (vL (x * y) :: st) w) Q) : TT (ak_lmul k lo (vL y :: vL x :: st) w) Q := h
theorem tt_lor {k : AK} {lo st : List AV} {w : AW} {Q : Option AV → AW → Prop} {x y : Int} (h : TT (k lo (vL (lOr x y) :: st) w) Q) : TT (ak_lor k lo (vL y :: vL x :: st) w) Q := h
theorem tt_idiv {k : AK} {lo st : List AV} {w : AW} {Q : Option AV → AW → Prop} {x y c : Int} (hc : w32 y = c) (h0 : c ≠ 0) (h : TT (k lo (vI (Int.tdiv (w32 x) c) :: st) w) Q) : TT (ak_idiv k lo (vI y :: vI x :: st) w) Q := by
  subst hc
  show TT (if w32 y ≠ 0 then _ else none) Q
  rw [if_pos h0]
  exact h
theorem tt_irem {k : AK} {lo st : List AV} {w : AW} {Q : Option AV → AW → Prop} {x y c : Int} (hc : w32 y = c) (h0 : c ≠ 0) (h : TT (k lo (vI (x - Int.tdiv (w32 x) c * y) :: st) w) Q) : TT (ak_irem k lo (vI y :: vI x :: st) w) Q := by
  subst hc
  show TT (if w32 y ≠ 0 then _ else none) Q
  rw [if_pos h0]
  exact h
theorem tt_ldiv {k : AK} {lo st : List AV} {w : AW} {Q : Option AV → AW → Prop} {x y c : Int} (hc : w64 y = c) (h0 : c ≠ 0) (h : TT (k lo (vL (Int.tdiv (w64 x) c) :: st) w) Q) : TT (ak_ldiv k lo (vL y :: vL x :: st) w) Q := by
  subst hc
  show TT (if w64 y ≠ 0 then _ else none) Q
  rw [if_pos h0]
  exact h
theorem tt_lshl {k : AK} {lo st : List AV} {w : AW} {Q : Option AV → AW → Prop} {x y : Int} (h : TT (k lo (vL (lShl x y) :: st) w) Q) : TT (ak_lshl k lo (vI y :: vL x :: st) w) Q := h
theorem tt_i2l {k : AK} {lo st : List AV} {w : AW} {Q : Option AV → AW → Prop} {x : Int} (h : TT (k lo (vL (w32 x) :: st) w) Q) : TT (ak_i2l k lo (vI x :: st) w) Q := h
theorem tt_i2b {k : AK} {lo st : List AV} {w : AW} {Q : Option AV → AW → Prop} {x : Int} (h : TT (k lo (vI (tB x) :: st) w) Q) : TT (ak_i2b k lo (vI x :: st) w) Q := h
theorem tt_i2c {k : AK} {lo st : List AV} {w : AW} {Q : Option AV → AW → Prop} {x : Int} (h : TT (k lo (vI (tC x) :: st) w) Q) : TT (ak_i2c k lo (vI x :: st) w) Q := h
theorem tt_dup {k : AK} {lo st : List AV} {w : AW} {Q : Option AV → AW → Prop} {v : AV} (hc : c1 v = true) (h : TT (k lo (v :: v :: st) w) Q) : TT (ak_dup k lo (v :: st) w) Q := by
  show TT (bif c1 v then _ else none) Q
  rw [hc]
  exact h
theorem tt_pop {k : AK} {lo st : List AV} {w : AW} {Q : Option AV → AW → Prop} {v : AV} (hc : c1 v = true) (h : TT (k lo st w) Q) : TT (ak_pop k lo (v :: st) w) Q := by
  show TT (bif c1 v then _ else none) Q
  rw [hc]
  exact h
theorem tt_dup2 {k : AK} {lo st : List AV} {w : AW} {Q : Option AV → AW → Prop} {v u : AV} (hc : (c1 v && c1 u) = true) (h : TT (k lo (v :: u :: v :: u :: st) w) Q) : TT (ak_dup2 k lo (v :: u :: st) w) Q := by
  show TT (bif c1 v && c1 u then _ else none) Q
  rw [hc]
  exact h
theorem tt_ite {c : Prop} {inst : Decidable c} {a b : Option AR} {Q : Option AV → AW → Prop} (h1 : c → TT a Q) (h2 : ¬ c → TT b Q) : TT (@ite _ c inst a b) Q := by
  by_cases h : c
  · rw [if_pos h]; exact h1 h
  · rw [if_neg h]; exact h2 h
theorem tt_cmplt {kt kf : AK} {lo st : List AV} {w : AW} {Q : Option AV → AW → Prop} {x y : Int} (h1 : w32 x < w32 y → TT (kt lo st w) Q) (h2 : ¬ w32 x < w32 y → TT (kf lo st w) Q) : TT (ak_cmplt kt kf lo (vI y :: vI x :: st) w) Q := tt_ite h1 h2
theorem tt_cmpgt {kt kf : AK} {lo st : List AV} {w : AW} {Q : Option AV → AW → Prop} {x y : Int} (h1 : w32 y < w32 x → TT (kt lo st w) Q) (h2 : ¬ w32 y < w32 x → TT (kf lo st w) Q) : TT (ak_cmpgt kt kf lo (vI y :: vI x :: st) w) Q := tt_ite h1 h2
theorem tt_cmpeq {kt kf : AK} {lo st : List AV} {w : AW} {Q : Option AV → AW → Prop} {x y : Int} (h1 : w32 x = w32 y → TT (kt lo st w) Q) (h2 : ¬ w32 x = w32 y → TT (kf lo st w) Q) : TT (ak_cmpeq kt kf lo (vI y :: vI x :: st) w) Q := tt_ite h1 h2
theorem tt_iflt {kt kf : AK} {lo st : List AV} {w : AW} {Q : Option AV → AW → Prop} {x : Int} (h1 : w32 x < 0 → TT (kt lo st w) Q) (h2 : ¬ w32 x < 0 → TT (kf lo st w) Q) : TT (ak_iflt kt kf lo (vI x :: st) w) Q := tt_ite h1 h2
theorem tt_ifgt {kt kf : AK} {lo st : List AV} {w : AW} {Q : Option AV → AW → Prop} {x : Int} (h1 : 0 < w32 x → TT (kt lo st w) Q) (h2 : ¬ 0 < w32 x → TT (kf lo st w) Q) : TT (ak_ifgt kt kf lo (vI x :: st) w) Q := tt_ite h1 h2
theorem tt_ifeq {kt kf : AK} {lo st : List AV} {w : AW} {Q : Option AV → AW → Prop} {x : Int} (h1 : w32 x = 0 → TT (kt lo st w) Q) (h2 : ¬ w32 x = 0 → TT (kf lo st w) Q) : TT (ak_ifeq kt kf lo (vI x :: st) w) Q := tt_ite h1 h2
theorem tt_cmplt' {kt kf : AK} {lo st : List AV} {w : AW} {Q : Option AV → AW → Prop} {x y X Y : Int} (hx : w32 x = X) (hy : w32 y = Y) (h1 : X < Y → TT (kt lo st w) Q) (h2 : ¬ X < Y → TT (kf lo st w) Q) : TT (ak_cmplt kt kf lo (vI y :: vI x :: st) w) Q := by
  subst hx hy
  exact tt_ite h1 h2
theorem tt_cmpgt' {kt kf : AK} {lo st : List AV} {w : AW} {Q : Option AV → AW → Prop} {x y X Y : Int} (hx : w32 x = X) (hy : w32 y = Y) (h1 : Y < X → TT (kt lo st w) Q) (h2 : ¬ Y < X → TT (kf lo st w) Q) : TT (ak_cmpgt kt kf lo (vI y :: vI x :: st) w) Q := by
  subst hx hy
  exact tt_ite h1 h2
theorem tt_cmpeq' {kt kf : AK} {lo st : List AV} {w : AW} {Q : Option AV → AW → Prop} {x y X Y : Int} (hx : w32 x = X) (hy : w32 y = Y) (h1 : X = Y → TT (kt lo st w) Q) (h2 : ¬ X = Y → TT (kf lo st w) Q) : TT (ak_cmpeq kt kf lo (vI y :: vI x :: st) w) Q := by
  subst hx hy
  exact tt_ite h1 h2
theorem tt_iflt' {kt kf : AK} {lo st : List AV} {w : AW} {Q : Option AV → AW → Prop} {x X : Int} (hx : w32 x = X) (h1 : X < 0 → TT (kt lo st w) Q) (h2 : ¬ X < 0 → TT (kf lo st w) Q) : TT (ak_iflt kt kf lo (vI x :: st) w) Q := by
  subst hx
  exact tt_ite h1 h2
theorem tt_ifgt' {kt kf : AK} {lo st : List AV} {w : AW} {Q : Option AV → AW → Prop} {x X : Int} (hx : w32 x = X) (h1 : 0 < X → TT (kt lo st w) Q) (h2 : ¬ 0 < X → TT (kf lo st w) Q) : TT (ak_ifgt kt kf lo (vI x :: st) w) Q := by
  subst hx
  exact tt_ite h1 h2
theorem tt_ifeq' {kt kf : AK} {lo st : List AV} {w : AW} {Q : Option AV → AW → Prop} {x X : Int} (hx : w32 x = X) (h1 : X = 0 → TT (kt lo st w) Q) (h2 : ¬ X = 0 → TT (kf lo st w) Q) : TT (ak_ifeq kt kf lo (vI x :: st) w) Q := by
  subst hx
  exact tt_ite h1 h2
theorem cmp_gt (x y : Int) : (0 < w32 (if w64 y < w64 x then 1 else if w64 x = w64 y then 0 else -1)) ↔ w64 y < w64 x := by
  by_cases h : w64 y < w64 x
  · rw [if_pos h]; exact ⟨fun _ => h, fun _ => by decide⟩
  · rw [if_neg h]
    by_cases e : w64 x = w64 y
    · rw [if_pos e]; exact ⟨fun q => absurd q (by decide), fun q => absurd q h⟩
    · rw [if_neg e]; exact ⟨fun q => absurd q (by decide), fun q => absurd q h⟩
theorem cmp_lt (x y : Int) : (w32 (if w64 y < w64 x then 1 else if w64 x = w64 y then 0 else -1) < 0) ↔ w64 x < w64 y := by
  by_cases h : w64 y < w64 x
  · rw [if_pos h]; exact ⟨fun q => absurd q (by decide), fun q => by omega⟩
  · rw [if_neg h]
    by_cases e : w64 x = w64 y
    · rw [if_pos e]; exact ⟨fun q => absurd q (by decide), fun q => by omega⟩
    · rw [if_neg e]; exact ⟨fun _ => by omega, fun _ => by decide⟩
theorem cmp_eq (x y : Int) : (w32 (if w64 y < w64 x then 1 else if w64 x = w64 y then 0 else -1) = 0) ↔ w64 x = w64 y := by
  by_cases h : w64 y < w64 x
  · rw [if_pos h]; exact ⟨fun q => absurd q (by decide), fun q => by omega⟩
  · rw [if_neg h]
    by_cases e : w64 x = w64 y
    · rw [if_pos e]; exact ⟨fun _ => e, fun _ => by decide⟩
    · rw [if_neg e]; exact ⟨fun q => absurd q (by decide), fun q => absurd q e⟩
theorem tt_lcgt {kt kf : AK} {lo st : List AV} {w : AW} {Q : Option AV → AW → Prop} {x y : Int} (h1 : w64 y < w64 x → TT (kt lo st w) Q) (h2 : ¬ w64 y < w64 x → TT (kf lo st w) Q) : TT (ak_lcmp (ak_ifgt kt kf) lo (vL y :: vL x :: st) w) Q := tt_ite (fun h => h1 ((cmp_gt x y).mp h)) (fun h => h2 (fun q => h ((cmp_gt x y).mpr q)))
theorem tt_lclt {kt kf : AK} {lo st : List AV} {w : AW} {Q : Option AV → AW → Prop} {x y : Int} (h1 : w64 x < w64 y → TT (kt lo st w) Q) (h2 : ¬ w64 x < w64 y → TT (kf lo st w) Q) : TT (ak_lcmp (ak_iflt kt kf) lo (vL y :: vL x :: st) w) Q := tt_ite (fun h => h1 ((cmp_lt x y).mp h)) (fun h => h2 (fun q => h ((cmp_lt x y).mpr q)))
theorem tt_lceq {kt kf : AK} {lo st : List AV} {w : AW} {Q : Option AV → AW → Prop} {x y : Int} (h1 : w64 x = w64 y → TT (kt lo st w) Q) (h2 : ¬ w64 x = w64 y → TT (kf lo st w) Q) : TT (ak_lcmp (ak_ifeq kt kf) lo (vL y :: vL x :: st) w) Q := tt_ite (fun h => h1 ((cmp_eq x y).mp h)) (fun h => h2 (fun q => h ((cmp_eq x y).mpr q)))
theorem tt_lclt' {kt kf : AK} {lo st : List AV} {w : AW} {Q : Option AV → AW → Prop} {x y X Y : Int} (hx : w64 x = X) (hy : w64 y = Y) (h1 : X < Y → TT (kt lo st w) Q) (h2 : ¬ X < Y → TT (kf lo st w) Q) : TT (ak_lcmp (ak_iflt kt kf) lo (vL y :: vL x :: st) w) Q := by
  subst hx hy
  exact tt_lclt h1 h2
theorem tt_lcgt' {kt kf : AK} {lo st : List AV} {w : AW} {Q : Option AV → AW → Prop} {x y X Y : Int} (hx : w64 x = X) (hy : w64 y = Y) (h1 : Y < X → TT (kt lo st w) Q) (h2 : ¬ Y < X → TT (kf lo st w) Q) : TT (ak_lcmp (ak_ifgt kt kf) lo (vL y :: vL x :: st) w) Q := by
  subst hx hy
  exact tt_lcgt h1 h2
theorem tt_lceq' {kt kf : AK} {lo st : List AV} {w : AW} {Q : Option AV → AW → Prop} {x y X Y : Int} (hx : w64 x = X) (hy : w64 y = Y) (h1 : X = Y → TT (kt lo st w) Q) (h2 : ¬ X = Y → TT (kf lo st w) Q) : TT (ak_lcmp (ak_ifeq kt kf) lo (vL y :: vL x :: st) w) Q := by
  subst hx hy
  exact tt_lceq h1 h2
theorem tt_ifnullO {kt kf : AK} {lo st : List AV} {w : AW} {Q : Option AV → AW → Prop} {v : Option Nat} (h1 : v = none → TT (kt lo st w) Q) (h2 : ∀ j, v = some j → TT (kf lo st w) Q) : TT (ak_ifnull kt kf lo (.inr (.inr (some v)) :: st) w) Q := by
  cases v with
  | none => exact h1 rfl
  | some j => exact h2 j rfl
theorem tt_ifnullR {kt kf : AK} {lo st : List AV} {w : AW} {Q : Option AV → AW → Prop} {j : Nat} (h2 : TT (kf lo st w) Q) : TT (ak_ifnull kt kf lo (vR j :: st) w) Q := h2
theorem tt_ifnullN {kt kf : AK} {lo st : List AV} {w : AW} {Q : Option AV → AW → Prop} (h2 : TT (kt lo st w) Q) : TT (ak_ifnull kt kf lo (vN :: st) w) Q := h2
def swP (x : Int) (lo st : List AV) (w : AW) (Q : Option AV → AW → Prop) : Int → List AK → Prop
  | _, [] => True
  | b, k :: ks => (w32 x = b → TT (k lo st w) Q) ∧ swP x lo st w Q (b + 1) ks
theorem swP_at {x : Int} {lo st : List AV} {w : AW} {Q : Option AV → AW → Prop} {kd : AK} : ∀ (ks : List AK) (b : Int), swP x lo st w Q b ks → ∀ i, i < ks.length → w32 x = b + i → TT ((ks.getD i kd) lo st w) Q
  | [], _, _, i, hi, _ => absurd hi (Nat.not_lt_zero i)
  | k :: ks, b, h, 0, _, e => h.1 (by rw [e]; simp)
  | k :: ks, b, h, i + 1, hi, e => swP_at ks (b + 1) h.2 i (Nat.lt_of_succ_lt_succ hi) (by rw [e]; push_cast; omega)
theorem tt_switch {lo0 : Int} {ks : List AK} {kd : AK} {lo st : List AV} {w : AW} {Q : Option AV → AW → Prop} {x : Int} (h1 : swP x lo st w Q lo0 ks) (h2 : ¬ (lo0 ≤ w32 x ∧ w32 x < lo0 + ks.length) → TT (kd lo st w) Q) : TT (ak_switch lo0 ks kd lo (vI x :: st) w) Q := by
  refine tt_ite (fun h => ?_) h2
  exact swP_at ks lo0 h1 (w32 x - lo0).toNat (by omega) (by omega)
theorem tt_ireturn {lo : List AV} {w : AW} {Q : Option AV → AW → Prop} {x : Int} (h : Q (some (vI x)) w) : TT (ak_ireturn lo [vI x] w) Q := ⟨_, _, rfl, h⟩
theorem tt_lreturn {lo : List AV} {w : AW} {Q : Option AV → AW → Prop} {x : Int} (h : Q (some (vL x)) w) : TT (ak_lreturn lo [vL x] w) Q := ⟨_, _, rfl, h⟩
theorem tt_areturn {lo : List AV} {w : AW} {Q : Option AV → AW → Prop} {x : Option Nat} (h : Q (some (.inr (.inr (some x)))) w) : TT (ak_areturn lo [.inr (.inr (some x))] w) Q := ⟨_, _, rfl, h⟩
theorem tt_return {lo : List AV} {w : AW} {Q : Option AV → AW → Prop} (h : Q none w) : TT (ak_return lo [] w) Q := ⟨_, _, rfl, h⟩
theorem tt_getf {ci f : Nat} {k : AK} {lo st : List AV} {w : AW} {Q : Option AV → AW → Prop} {j : Nat} {v : AV} (hj : isO j ci = true) (hv : fv w j ci f = v) (h : TT (k lo (v :: st) w) Q) : TT (ak_getf ci f k lo (vR j :: st) w) Q := by
  subst hv
  show TT (bif isO j ci then _ else none) Q
  rw [hj]
  exact h
theorem tt_putf {ci f : Nat} {k : AK} {lo st : List AV} {w : AW} {Q : Option AV → AW → Prop} {j : Nat} {x : Int} (hj : isO j ci = true) (h : ∀ w', w' = wI w j f x → TT (k lo st w') Q) : TT (ak_putf ci f k lo (vI x :: vR j :: st) w) Q := by
  show TT (bif isO j ci then _ else none) Q
  rw [hj]
  exact h _ rfl
theorem tt_putz {ci f : Nat} {k : AK} {lo st : List AV} {w : AW} {Q : Option AV → AW → Prop} {j : Nat} {x : Int} (hj : isO j ci = true) (hx : x = 0 ∨ x = 1) (h : ∀ w', w' = wI w j f x → TT (k lo st w') Q) : TT (ak_putz ci f k lo (vI x :: vR j :: st) w) Q := by
  show TT (bif isO j ci then (if x = 0 ∨ x = 1 then _ else none) else none) Q
  rw [hj, if_pos hx]
  exact h _ rfl
theorem tt_putl {ci f : Nat} {k : AK} {lo st : List AV} {w : AW} {Q : Option AV → AW → Prop} {j : Nat} {x : Int} (hj : isO j ci = true) (h : ∀ w', w' = wL w j f x → TT (k lo st w') Q) : TT (ak_putl ci f k lo (vL x :: vR j :: st) w) Q := by
  show TT (bif isO j ci then _ else none) Q
  rw [hj]
  exact h _ rfl
theorem tt_putr {mr ci f : Nat} {k : AK} {lo st : List AV} {w : AW} {Q : Option AV → AW → Prop} {j x : Nat} (hj : isO j ci = true) (h : ∀ w', w' = setR mr x w → TT (k lo st w') Q) : TT (ak_putr mr ci f k lo (vR x :: vR j :: st) w) Q := by
  show TT (bif isO j ci then _ else none) Q
  rw [hj]
  exact h _ rfl
/-- an int row of so many -/
def isI (j : Nat) (n : Int) : Prop := isO j 10 = true ∧ (((shp j).2 : Nat) : Int) = n
def isB (j : Nat) (n : Int) : Prop := isO j 11 = true ∧ (((shp j).2 : Nat) : Int) = n
theorem tt_iald {k : AK} {lo st : List AV} {w : AW} {Q : Option AV → AW → Prop} {i : Int} {j : Nat} {n : Int} (hj : isI j n) (hb : 0 ≤ i ∧ i < n) (h : TT (k lo (vI (w.1 j i.toNat) :: st) w) Q) : TT (ak_iald k lo (vI i :: vR j :: st) w) Q := by
  obtain ⟨h1, rfl⟩ := hj
  unfold ak_iald
  dsimp only
  rw [h1]
  show TT (if _ then _ else none) Q
  rw [if_pos hb]
  exact h
theorem tt_xald {k : AK} {lo st : List AV} {w : AW} {Q : Option AV → AW → Prop} {i : Int} {e : Nat} {n : Int} (hj : isO (300 + e) 10 = false ∧ (Nat.blt 299 (300 + e) && Nat.blt (300 + e) 303) = true ∧ 300 + e - 300 = e) (hn : ((xlen e : Nat) : Int) = n) (hb : 0 ≤ i ∧ i < n) (h : TT (k lo (vI (xval e i.toNat) :: st) w) Q) : TT (ak_iald k lo (vI i :: vR (300 + e) :: st) w) Q := by
  obtain ⟨h1, h2, h3⟩ := hj
  subst hn
  unfold ak_iald
  dsimp only
  rw [h1, h2, h3]
  show TT (if _ then _ else none) Q
  rw [if_pos hb]
  exact h
theorem tt_bald {k : AK} {lo st : List AV} {w : AW} {Q : Option AV → AW → Prop} {i : Int} {j : Nat} {n : Int} (hj : isB j n) (hb : 0 ≤ i ∧ i < n) (h : TT (k lo (vI (w.1 j i.toNat) :: st) w) Q) : TT (ak_bald k lo (vI i :: vR j :: st) w) Q := by
  obtain ⟨h1, rfl⟩ := hj
  unfold ak_bald
  dsimp only
  rw [h1]
  show TT (if _ then _ else none) Q
  rw [if_pos hb]
  exact h
theorem tt_zald {k : AK} {lo st : List AV} {w : AW} {Q : Option AV → AW → Prop} {i : Int} {j : Nat} {n : Int} (hj : isO j 12 = true ∧ (((shp j).2 : Nat) : Int) = n) (hb : 0 ≤ i ∧ i < n) (h : TT (k lo (vI (w.1 j i.toNat) :: st) w) Q) : TT (ak_bald k lo (vI i :: vR j :: st) w) Q := by
  obtain ⟨h1, rfl⟩ := hj
  unfold ak_bald
  dsimp only
  rw [h1, Bool.or_true]
  show TT (if _ then _ else none) Q
  rw [if_pos hb]
  exact h
theorem tt_sald {k : AK} {lo st : List AV} {w : AW} {Q : Option AV → AW → Prop} {i : Int} {e : Nat} (he : e < 14) (hb : 0 ≤ i ∧ i < (strN e : Nat)) (h : TT (k lo (vI (strCh e i.toNat) :: st) w) Q) : TT (ak_bald k lo (vI i :: vR (330 + e) :: st) w) Q := by
  have h1 : (isO (330 + e) 11 || isO (330 + e) 12) = false ∧ (Nat.blt 329 (330 + e) && Nat.blt (330 + e) 344) = true := (by decide +kernel : ∀ e, e < 14 → (isO (330 + e) 11 || isO (330 + e) 12) = false ∧ (Nat.blt 329 (330 + e) && Nat.blt (330 + e) 344) = true) e he
  unfold ak_bald
  dsimp only
  rw [h1.1, h1.2, show 330 + e - 330 = e from by omega]
  show TT (if _ then _ else none) Q
  rw [if_pos hb]
  exact h
theorem tt_lald {k : AK} {lo st : List AV} {w : AW} {Q : Option AV → AW → Prop} {i : Int} {j : Nat} {n : Int} (hj : isO j 13 = true ∧ (((shp j).2 : Nat) : Int) = n) (hb : 0 ≤ i ∧ i < n) (h : TT (k lo (vL (w.2.1 j i.toNat) :: st) w) Q) : TT (ak_lald k lo (vI i :: vR j :: st) w) Q := by
  obtain ⟨h1, rfl⟩ := hj
  unfold ak_lald
  dsimp only
  rw [h1]
  show TT (if _ then _ else none) Q
  rw [if_pos hb]
  exact h
theorem tt_aald {k : AK} {lo st : List AV} {w : AW} {Q : Option AV → AW → Prop} {i : Int} {j : Nat} {n : Int} (hj : (Nat.blt j NC && Nat.blt 13 (shp j).1) = true ∧ (((shp j).2 : Nat) : Int) = n) (hb : 0 ≤ i ∧ i < n) (h : TT (k lo (vR (cref j i.toNat) :: st) w) Q) : TT (ak_aald k lo (vI i :: vR j :: st) w) Q := by
  obtain ⟨h1, rfl⟩ := hj
  unfold ak_aald
  dsimp only
  rw [h1]
  show TT (if _ then _ else none) Q
  rw [if_pos hb]
  exact h
theorem tt_iast {k : AK} {lo st : List AV} {w : AW} {Q : Option AV → AW → Prop} {i x : Int} {j : Nat} {n : Int} (hj : isI j n) (hb : 0 ≤ i ∧ i < n) (h : ∀ w', w' = wI w j i.toNat x → TT (k lo st w') Q) : TT (ak_iast k lo (vI x :: vI i :: vR j :: st) w) Q := by
  obtain ⟨h1, rfl⟩ := hj
  unfold ak_iast
  dsimp only
  rw [h1]
  show TT (if _ then _ else none) Q
  rw [if_pos hb]
  exact h _ rfl
theorem tt_bast {k : AK} {lo st : List AV} {w : AW} {Q : Option AV → AW → Prop} {i x : Int} {j : Nat} {n : Int} (hj : isB j n) (hb : 0 ≤ i ∧ i < n) (h : ∀ w', w' = wI w j i.toNat (tB x) → TT (k lo st w') Q) : TT (ak_bast k lo (vI x :: vI i :: vR j :: st) w) Q := by
  obtain ⟨h1, rfl⟩ := hj
  unfold ak_bast
  dsimp only
  rw [h1]
  show TT (if _ then _ else none) Q
  rw [if_pos hb]
  exact h _ rfl
theorem tt_zast {k : AK} {lo st : List AV} {w : AW} {Q : Option AV → AW → Prop} {i x : Int} {j : Nat} {n : Int} (hj : isO j 11 = false ∧ isO j 12 = true ∧ (((shp j).2 : Nat) : Int) = n) (hb : 0 ≤ i ∧ i < n) (hx : x = 0 ∨ x = 1) (h : ∀ w', w' = wI w j i.toNat x → TT (k lo st w') Q) : TT (ak_bast k lo (vI x :: vI i :: vR j :: st) w) Q := by
  obtain ⟨h0, h1, rfl⟩ := hj
  unfold ak_bast
  dsimp only
  rw [h0, h1]
  show TT (if _ then _ else none) Q
  rw [if_pos ⟨hb, hx⟩]
  exact h _ rfl
theorem tt_last {k : AK} {lo st : List AV} {w : AW} {Q : Option AV → AW → Prop} {i x : Int} {j : Nat} {n : Int} (hj : isO j 13 = true ∧ (((shp j).2 : Nat) : Int) = n) (hb : 0 ≤ i ∧ i < n) (h : ∀ w', w' = wL w j i.toNat x → TT (k lo st w') Q) : TT (ak_last k lo (vL x :: vI i :: vR j :: st) w) Q := by
  obtain ⟨h1, rfl⟩ := hj
  unfold ak_last
  dsimp only
  rw [h1]
  show TT (if _ then _ else none) Q
  rw [if_pos hb]
  exact h _ rfl
theorem tt_alenI {k : AK} {lo st : List AV} {w : AW} {Q : Option AV → AW → Prop} {j : Nat} {n : Int} (hj : isI j n) (h : TT (k lo (vI n :: st) w) Q) : TT (ak_alen k lo (vR j :: st) w) Q := by
  obtain ⟨h1, rfl⟩ := hj
  unfold ak_alen
  dsimp only
  rw [h1]
  exact h
theorem tt_alenB {k : AK} {lo st : List AV} {w : AW} {Q : Option AV → AW → Prop} {j : Nat} {n : Int} (hj : isB j n) (h : TT (k lo (vI n :: st) w) Q) : TT (ak_alen k lo (vR j :: st) w) Q := by
  obtain ⟨h1, rfl⟩ := hj
  unfold ak_alen
  dsimp only
  rw [h1, Bool.or_true]
  exact h
theorem tt_copyI {k : AK} {lo st : List AV} {w : AW} {Q : Option AV → AW → Prop} {n sp dp na nb : Int} {a b : Nat} (hc : Nat.ble (csum st) 8 = true) (ha : isI a na) (hb : isI b nb) (hg : 0 ≤ n ∧ 0 ≤ sp ∧ 0 ≤ dp ∧ sp + n ≤ na ∧ dp + n ≤ nb) (h : ∀ w', w' = wC w a b sp.toNat dp.toNat n.toNat → TT (k lo st w') Q) : TT (ak_copy0 k lo (vI n :: vI dp :: vR b :: vI sp :: vR a :: st) w) Q := by
  obtain ⟨h1, rfl⟩ := ha
  obtain ⟨h2, rfl⟩ := hb
  show TT (bif Nat.ble (csum st) 8 then _ else none) Q
  rw [hc]
  show TT (bif (isO a 10 && isO b 10) || (isO a 11 && isO b 11) then _ else none) Q
  rw [h1, h2]
  show TT (if _ then _ else none) Q
  rw [if_pos ⟨hg, Or.inl rfl⟩]
  exact h _ rfl
theorem tt_copyB {k : AK} {lo st : List AV} {w : AW} {Q : Option AV → AW → Prop} {n sp dp na nb : Int} {a b : Nat} (hc : Nat.ble (csum st) 8 = true) (ha : isB a na) (hb : isB b nb) (hg : 0 ≤ n ∧ 0 ≤ sp ∧ 0 ≤ dp ∧ sp + n ≤ na ∧ dp + n ≤ nb) (hby : ∀ i, i < n.toNat → -128 ≤ w.1 a (sp.toNat + i) ∧ w.1 a (sp.toNat + i) ≤ 127) (h : ∀ w', w' = wC w a b sp.toNat dp.toNat n.toNat → TT (k lo st w') Q) : TT (ak_copy0 k lo (vI n :: vI dp :: vR b :: vI sp :: vR a :: st) w) Q := by
  obtain ⟨h1, rfl⟩ := ha
  obtain ⟨h2, rfl⟩ := hb
  show TT (bif Nat.ble (csum st) 8 then _ else none) Q
  rw [hc]
  show TT (bif (isO a 10 && isO b 10) || (isO a 11 && isO b 11) then _ else none) Q
  rw [h1, h2]
  simp only [Bool.and_self, Bool.or_true]
  show TT (if _ then _ else none) Q
  rw [if_pos ⟨hg, Or.inr hby⟩]
  exact h _ rfl
theorem tt_imax {k : AK} {lo st : List AV} {w : AW} {Q : Option AV → AW → Prop} {x y : Int} (hc : Nat.ble (csum st) 8 = true) (h : TT (k lo (vI (if w32 x < w32 y then y else x) :: st) w) Q) : TT (ak_imax k lo (vI y :: vI x :: st) w) Q := by
  show TT (bif Nat.ble (csum st) 8 then _ else none) Q
  rw [hc]
  exact h
theorem tt_imin {k : AK} {lo st : List AV} {w : AW} {Q : Option AV → AW → Prop} {x y : Int} (hc : Nat.ble (csum st) 8 = true) (h : TT (k lo (vI (if w32 y < w32 x then y else x) :: st) w) Q) : TT (ak_imin k lo (vI y :: vI x :: st) w) Q := by
  show TT (bif Nat.ble (csum st) 8 then _ else none) Q
  rw [hc]
  exact h
theorem tt_lmax {k : AK} {lo st : List AV} {w : AW} {Q : Option AV → AW → Prop} {x y : Int} (hc : Nat.ble (csum st) 8 = true) (h : TT (k lo (vL (if w64 x < w64 y then y else x) :: st) w) Q) : TT (ak_lmax k lo (vL y :: vL x :: st) w) Q := by
  show TT (bif Nat.ble (csum st) 8 then _ else none) Q
  rw [hc]
  exact h
/-! calls -/
theorem tt_call {n : Nat} {f : AF} {k : AK} {lo st as r : List AV} {w : AW} {Q : Option AV → AW → Prop} (hb : (Nat.ble n st.length && Nat.ble (csum (st.drop n)) 8) = true) (ha : (st.take n).reverse = as) (hr : st.drop n = r) (h : TT (f as w) (fun v w' => TT (k lo (v.toList ++ r) w') Q)) : TT (ak_call n f k lo st w) Q := by
  obtain ⟨v, w1, h1, h2⟩ := h
  subst ha hr
  show TT (bif _ then _ else none) Q
  rw [hb]
  show TT (match f (st.take n).reverse w with
    | some o => k lo (o.1.toList ++ st.drop n) o.2
    | none => none) Q
  rw [h1]
  exact h2
theorem tt_callv {ci n : Nat} {f : AF} {k : AK} {lo st as r : List AV} {w : AW} {Q : Option AV → AW → Prop} {j : Nat} (hd : st.drop n = vR j :: r) (hj : isO j ci = true) (hb : (Nat.ble n st.length && Nat.ble (csum r) 8) = true) (ha : vR j :: (st.take n).reverse = as) (h : TT (f as w) (fun v w' => TT (k lo (v.toList ++ r) w') Q)) : TT (ak_callv ci n f k lo st w) Q := by
  obtain ⟨v, w1, h1, h2⟩ := h
  subst ha
  unfold ak_callv
  rw [hd]
  show TT (bif isO j ci && Nat.ble n st.length && Nat.ble (csum r) 8 then (match f (vR j :: (st.take n).reverse) w with
    | some o => k lo (o.1.toList ++ r) o.2
    | none => none) else none) Q
  rw [Bool.and_assoc, hj, hb, h1]
  exact h2
theorem tt_callx {n : Nat} {f : AF} {k : AK} {lo st as r : List AV} {w : AW} {Q : Option AV → AW → Prop} {j : Nat} (hd : st.drop n = vR j :: r) (hj : isS j = true) (hb : (Nat.ble n st.length && Nat.ble (csum r) 8) = true) (ha : vR j :: (st.take n).reverse = as) (h : TT (f as w) (fun v w' => TT (k lo (v.toList ++ r) w') Q)) : TT (ak_callx n f k lo st w) Q := by
  obtain ⟨v, w1, h1, h2⟩ := h
  subst ha
  unfold ak_callx
  rw [hd]
  show TT (bif isS j && Nat.ble n st.length && Nat.ble (csum r) 8 then (match f (vR j :: (st.take n).reverse) w with
    | some o => k lo (o.1.toList ++ r) o.2
    | none => none) else none) Q
  rw [Bool.and_assoc, hj, hb, h1]
  exact h2
theorem ci_tt {o : Option AR} {k : AK} {lo r : List AV} {P : Int → AW → Prop} {Q : Option AV → AW → Prop} (h : CI o P) (hk : ∀ x w, P x w → TT (k lo (vI x :: r) w) Q) : TT o (fun v w' => TT (k lo (v.toList ++ r) w') Q) := by
  obtain ⟨v, w1, h1, x, h2, h3⟩ := h
  subst h2
  exact ⟨_, _, h1, hk x w1 h3⟩
theorem cl_tt {o : Option AR} {k : AK} {lo r : List AV} {P : Int → AW → Prop} {Q : Option AV → AW → Prop} (h : CL o P) (hk : ∀ x w, P x w → TT (k lo (vL x :: r) w) Q) : TT o (fun v w' => TT (k lo (v.toList ++ r) w') Q) := by
  obtain ⟨v, w1, h1, x, h2, h3⟩ := h
  subst h2
  exact ⟨_, _, h1, hk x w1 h3⟩
theorem cv_tt {o : Option AR} {k : AK} {lo r : List AV} {P : AW → Prop} {Q : Option AV → AW → Prop} (h : CV o P) (hk : ∀ w, P w → TT (k lo r w) Q) : TT o (fun v w' => TT (k lo (v.toList ++ r) w') Q) := by
  obtain ⟨v, w1, h1, h2, h3⟩ := h
  subst h2
  exact ⟨_, _, h1, hk w1 h3⟩
theorem cr_tt {o : Option AR} {k : AK} {lo r : List AV} {P : Option Nat → AW → Prop} {Q : Option AV → AW → Prop} (h : CR o P) (hk : ∀ v w, P v w → TT (k lo (.inr (.inr (some v)) :: r) w) Q) : TT o (fun v w' => TT (k lo (v.toList ++ r) w') Q) := by
  obtain ⟨v, w1, h1, x, h2, h3⟩ := h
  subst h2
  exact ⟨_, _, h1, hk x w1 h3⟩
theorem ci_mono {o : Option AR} {P P' : Int → AW → Prop} (h : CI o P) (hi : ∀ x w, P x w → P' x w) : CI o P' := tt_mono h (fun _ _ ⟨x, h1, h2⟩ => ⟨x, h1, hi _ _ h2⟩)
theorem cl_mono {o : Option AR} {P P' : Int → AW → Prop} (h : CL o P) (hi : ∀ x w, P x w → P' x w) : CL o P' := tt_mono h (fun _ _ ⟨x, h1, h2⟩ => ⟨x, h1, hi _ _ h2⟩)
theorem cv_mono {o : Option AR} {P P' : AW → Prop} (h : CV o P) (hi : ∀ w, P w → P' w) : CV o P' := tt_mono h (fun _ _ ⟨h1, h2⟩ => ⟨h1, hi _ h2⟩)
theorem cr_mono {o : Option AR} {P P' : Option Nat → AW → Prop} (h : CR o P) (hi : ∀ x w, P x w → P' x w) : CR o P' := tt_mono h (fun _ _ ⟨x, h1, h2⟩ => ⟨x, h1, hi _ _ h2⟩)
/-- a callee that leaves the world as it is -/
theorem ci_eq {o : Option AR} {P : Int → AW → Prop} {x : Int} {w : AW} (h : CI o (fun y w' => y = x ∧ w' = w)) (hp : P x w) : CI o P := ci_mono h (fun y w' ⟨e1, e2⟩ => by rw [e1, e2]; exact hp)
theorem cl_eq {o : Option AR} {P : Int → AW → Prop} {x : Int} {w : AW} (h : CL o (fun y w' => y = x ∧ w' = w)) (hp : P x w) : CL o P := cl_mono h (fun y w' ⟨e1, e2⟩ => by rw [e1, e2]; exact hp)
theorem cr_eq {o : Option AR} {P : Option Nat → AW → Prop} {x : Option Nat} {w : AW} (h : CR o (fun y w' => y = x ∧ w' = w)) (hp : P x w) : CR o P := cr_mono h (fun y w' ⟨e1, e2⟩ => by rw [e1, e2]; exact hp)
/-! loops: a number that goes down -/
theorem tt_loop {K : Nat → AK} {Q : Option AV → AW → Prop} (I : Nat → List AV → AW → Prop) (hs : ∀ n m lo w, I m lo w → (∀ m' lo' w', m' < m → I m' lo' w' → TT (K n lo' [] w') Q) → TT (K (n + 1) lo [] w) Q) : ∀ m n lo w, m < n → I m lo w → TT (K n lo [] w) Q := by
  intro m
  induction m using Nat.strongRecOn with
  | _ m ih =>
    intro n lo w hmn hI
    cases n with
    | zero => exact absurd hmn (Nat.not_lt_zero m)
    | succ n => exact hs n m lo w hI (fun m' lo' w' hm hI' => ih m' hm n lo' w' (by omega) hI')
/-! the cells of towns, days, books -/
def isTw (j : Nat) : Prop := j ∈ [38, 52, 80, 94, 121, 135, 162, 176, 201, 239, 265]
def isDy (j : Nat) : Prop := j ∈ [67, 70, 73, 109, 112, 115, 150, 153, 156, 191, 194, 197, 215]
def isBk (j : Nat) : Prop := j ∈ [35, 77, 118, 159]
theorem is_S {e : Nat} (h : e < 14) : isS (310 + e) = true := (by decide +kernel : ∀ e, e < 14 → isS (310 + e) = true) e h
theorem tw_o {j : Nat} (h : isTw j) : isO j 7 = true := (by decide +kernel : ∀ j ∈ [38, 52, 80, 94, 121, 135, 162, 176, 201, 239, 265], isO j 7 = true) j h
theorem dy_o {j : Nat} (h : isDy j) : isO j 2 = true := (by decide +kernel : ∀ j ∈ [67, 70, 73, 109, 112, 115, 150, 153, 156, 191, 194, 197, 215], isO j 2 = true) j h
theorem bk_o {j : Nat} (h : isBk j) : isO j 0 = true := (by decide +kernel : ∀ j ∈ [35, 77, 118, 159], isO j 0 = true) j h
theorem tw_f2 {j : Nat} {w : AW} (h : isTw j) : fv w j 7 2 = vR (j + 1) := by
  show vR (cref j 2) = vR (j + 1)
  rw [(by decide +kernel : ∀ j ∈ [38, 52, 80, 94, 121, 135, 162, 176, 201, 239, 265], cref j 2 = j + 1) j h]
theorem tw_a1 {j : Nat} (h : isTw j) : isI (j + 1) 14 := ⟨(by decide +kernel : ∀ j ∈ [38, 52, 80, 94, 121, 135, 162, 176, 201, 239, 265], isO (j + 1) 10 = true) j h, (by decide +kernel : ∀ j ∈ [38, 52, 80, 94, 121, 135, 162, 176, 201, 239, 265], (((shp (j + 1)).2 : Nat) : Int) = 14) j h⟩
theorem tw_f3 {j : Nat} {w : AW} (h : isTw j) : fv w j 7 3 = vR (j + 2) := by
  show vR (cref j 3) = vR (j + 2)
  rw [(by decide +kernel : ∀ j ∈ [38, 52, 80, 94, 121, 135, 162, 176, 201, 239, 265], cref j 3 = j + 2) j h]
theorem tw_a2 {j : Nat} (h : isTw j) : isI (j + 2) 14 := ⟨(by decide +kernel : ∀ j ∈ [38, 52, 80, 94, 121, 135, 162, 176, 201, 239, 265], isO (j + 2) 10 = true) j h, (by decide +kernel : ∀ j ∈ [38, 52, 80, 94, 121, 135, 162, 176, 201, 239, 265], (((shp (j + 2)).2 : Nat) : Int) = 14) j h⟩
theorem tw_f4 {j : Nat} {w : AW} (h : isTw j) : fv w j 7 4 = vR (j + 3) := by
  show vR (cref j 4) = vR (j + 3)
  rw [(by decide +kernel : ∀ j ∈ [38, 52, 80, 94, 121, 135, 162, 176, 201, 239, 265], cref j 4 = j + 3) j h]
theorem tw_a3 {j : Nat} (h : isTw j) : isI (j + 3) 14 := ⟨(by decide +kernel : ∀ j ∈ [38, 52, 80, 94, 121, 135, 162, 176, 201, 239, 265], isO (j + 3) 10 = true) j h, (by decide +kernel : ∀ j ∈ [38, 52, 80, 94, 121, 135, 162, 176, 201, 239, 265], (((shp (j + 3)).2 : Nat) : Int) = 14) j h⟩
theorem tw_f5 {j : Nat} {w : AW} (h : isTw j) : fv w j 7 5 = vR (j + 4) := by
  show vR (cref j 5) = vR (j + 4)
  rw [(by decide +kernel : ∀ j ∈ [38, 52, 80, 94, 121, 135, 162, 176, 201, 239, 265], cref j 5 = j + 4) j h]
theorem tw_a4 {j : Nat} (h : isTw j) : isI (j + 4) 14 := ⟨(by decide +kernel : ∀ j ∈ [38, 52, 80, 94, 121, 135, 162, 176, 201, 239, 265], isO (j + 4) 10 = true) j h, (by decide +kernel : ∀ j ∈ [38, 52, 80, 94, 121, 135, 162, 176, 201, 239, 265], (((shp (j + 4)).2 : Nat) : Int) = 14) j h⟩
theorem tw_f6 {j : Nat} {w : AW} (h : isTw j) : fv w j 7 6 = vR (j + 5) := by
  show vR (cref j 6) = vR (j + 5)
  rw [(by decide +kernel : ∀ j ∈ [38, 52, 80, 94, 121, 135, 162, 176, 201, 239, 265], cref j 6 = j + 5) j h]
theorem tw_a5 {j : Nat} (h : isTw j) : isI (j + 5) 14 := ⟨(by decide +kernel : ∀ j ∈ [38, 52, 80, 94, 121, 135, 162, 176, 201, 239, 265], isO (j + 5) 10 = true) j h, (by decide +kernel : ∀ j ∈ [38, 52, 80, 94, 121, 135, 162, 176, 201, 239, 265], (((shp (j + 5)).2 : Nat) : Int) = 14) j h⟩
theorem tw_f7 {j : Nat} {w : AW} (h : isTw j) : fv w j 7 7 = vR (j + 6) := by
  show vR (cref j 7) = vR (j + 6)
  rw [(by decide +kernel : ∀ j ∈ [38, 52, 80, 94, 121, 135, 162, 176, 201, 239, 265], cref j 7 = j + 6) j h]
theorem tw_a6 {j : Nat} (h : isTw j) : isI (j + 6) 84 := ⟨(by decide +kernel : ∀ j ∈ [38, 52, 80, 94, 121, 135, 162, 176, 201, 239, 265], isO (j + 6) 10 = true) j h, (by decide +kernel : ∀ j ∈ [38, 52, 80, 94, 121, 135, 162, 176, 201, 239, 265], (((shp (j + 6)).2 : Nat) : Int) = 84) j h⟩
theorem tw_f9 {j : Nat} {w : AW} (h : isTw j) : fv w j 7 9 = vR (j + 7) := by
  show vR (cref j 9) = vR (j + 7)
  rw [(by decide +kernel : ∀ j ∈ [38, 52, 80, 94, 121, 135, 162, 176, 201, 239, 265], cref j 9 = j + 7) j h]
theorem tw_a7 {j : Nat} (h : isTw j) : isI (j + 7) 8 := ⟨(by decide +kernel : ∀ j ∈ [38, 52, 80, 94, 121, 135, 162, 176, 201, 239, 265], isO (j + 7) 10 = true) j h, (by decide +kernel : ∀ j ∈ [38, 52, 80, 94, 121, 135, 162, 176, 201, 239, 265], (((shp (j + 7)).2 : Nat) : Int) = 8) j h⟩
theorem tw_f10 {j : Nat} {w : AW} (h : isTw j) : fv w j 7 10 = vR (j + 8) := by
  show vR (cref j 10) = vR (j + 8)
  rw [(by decide +kernel : ∀ j ∈ [38, 52, 80, 94, 121, 135, 162, 176, 201, 239, 265], cref j 10 = j + 8) j h]
theorem tw_a8 {j : Nat} (h : isTw j) : isI (j + 8) 8 := ⟨(by decide +kernel : ∀ j ∈ [38, 52, 80, 94, 121, 135, 162, 176, 201, 239, 265], isO (j + 8) 10 = true) j h, (by decide +kernel : ∀ j ∈ [38, 52, 80, 94, 121, 135, 162, 176, 201, 239, 265], (((shp (j + 8)).2 : Nat) : Int) = 8) j h⟩
theorem tw_f11 {j : Nat} {w : AW} (h : isTw j) : fv w j 7 11 = vR (j + 9) := by
  show vR (cref j 11) = vR (j + 9)
  rw [(by decide +kernel : ∀ j ∈ [38, 52, 80, 94, 121, 135, 162, 176, 201, 239, 265], cref j 11 = j + 9) j h]
theorem tw_a9 {j : Nat} (h : isTw j) : isI (j + 9) 8 := ⟨(by decide +kernel : ∀ j ∈ [38, 52, 80, 94, 121, 135, 162, 176, 201, 239, 265], isO (j + 9) 10 = true) j h, (by decide +kernel : ∀ j ∈ [38, 52, 80, 94, 121, 135, 162, 176, 201, 239, 265], (((shp (j + 9)).2 : Nat) : Int) = 8) j h⟩
theorem tw_f13 {j : Nat} {w : AW} (h : isTw j) : fv w j 7 13 = vR (j + 10) := by
  show vR (cref j 13) = vR (j + 10)
  rw [(by decide +kernel : ∀ j ∈ [38, 52, 80, 94, 121, 135, 162, 176, 201, 239, 265], cref j 13 = j + 10) j h]
theorem tw_a10 {j : Nat} (h : isTw j) : isI (j + 10) 12 := ⟨(by decide +kernel : ∀ j ∈ [38, 52, 80, 94, 121, 135, 162, 176, 201, 239, 265], isO (j + 10) 10 = true) j h, (by decide +kernel : ∀ j ∈ [38, 52, 80, 94, 121, 135, 162, 176, 201, 239, 265], (((shp (j + 10)).2 : Nat) : Int) = 12) j h⟩
theorem tw_f14 {j : Nat} {w : AW} (h : isTw j) : fv w j 7 14 = vR (j + 11) := by
  show vR (cref j 14) = vR (j + 11)
  rw [(by decide +kernel : ∀ j ∈ [38, 52, 80, 94, 121, 135, 162, 176, 201, 239, 265], cref j 14 = j + 11) j h]
theorem tw_a11 {j : Nat} (h : isTw j) : isI (j + 11) 12 := ⟨(by decide +kernel : ∀ j ∈ [38, 52, 80, 94, 121, 135, 162, 176, 201, 239, 265], isO (j + 11) 10 = true) j h, (by decide +kernel : ∀ j ∈ [38, 52, 80, 94, 121, 135, 162, 176, 201, 239, 265], (((shp (j + 11)).2 : Nat) : Int) = 12) j h⟩
theorem tw_f15 {j : Nat} {w : AW} (h : isTw j) : fv w j 7 15 = vR (j + 12) := by
  show vR (cref j 15) = vR (j + 12)
  rw [(by decide +kernel : ∀ j ∈ [38, 52, 80, 94, 121, 135, 162, 176, 201, 239, 265], cref j 15 = j + 12) j h]
theorem tw_a12 {j : Nat} (h : isTw j) : isI (j + 12) 12 := ⟨(by decide +kernel : ∀ j ∈ [38, 52, 80, 94, 121, 135, 162, 176, 201, 239, 265], isO (j + 12) 10 = true) j h, (by decide +kernel : ∀ j ∈ [38, 52, 80, 94, 121, 135, 162, 176, 201, 239, 265], (((shp (j + 12)).2 : Nat) : Int) = 12) j h⟩
theorem tw_f16 {j : Nat} {w : AW} (h : isTw j) : fv w j 7 16 = vR (j + 13) := by
  show vR (cref j 16) = vR (j + 13)
  rw [(by decide +kernel : ∀ j ∈ [38, 52, 80, 94, 121, 135, 162, 176, 201, 239, 265], cref j 16 = j + 13) j h]
theorem tw_a13 {j : Nat} (h : isTw j) : isI (j + 13) 12 := ⟨(by decide +kernel : ∀ j ∈ [38, 52, 80, 94, 121, 135, 162, 176, 201, 239, 265], isO (j + 13) 10 = true) j h, (by decide +kernel : ∀ j ∈ [38, 52, 80, 94, 121, 135, 162, 176, 201, 239, 265], (((shp (j + 13)).2 : Nat) : Int) = 12) j h⟩
theorem dy_f1 {j : Nat} {w : AW} (h : isDy j) : fv w j 2 1 = vR (j + 1) := by
  show vR (cref j 1) = vR (j + 1)
  rw [(by decide +kernel : ∀ j ∈ [67, 70, 73, 109, 112, 115, 150, 153, 156, 191, 194, 197, 215], cref j 1 = j + 1) j h]
theorem dy_a1 {j : Nat} (h : isDy j) : isI (j + 1) 40 := ⟨(by decide +kernel : ∀ j ∈ [67, 70, 73, 109, 112, 115, 150, 153, 156, 191, 194, 197, 215], isO (j + 1) 10 = true) j h, (by decide +kernel : ∀ j ∈ [67, 70, 73, 109, 112, 115, 150, 153, 156, 191, 194, 197, 215], (((shp (j + 1)).2 : Nat) : Int) = 40) j h⟩
theorem dy_f2 {j : Nat} {w : AW} (h : isDy j) : fv w j 2 2 = vR (j + 2) := by
  show vR (cref j 2) = vR (j + 2)
  rw [(by decide +kernel : ∀ j ∈ [67, 70, 73, 109, 112, 115, 150, 153, 156, 191, 194, 197, 215], cref j 2 = j + 2) j h]
theorem dy_a2 {j : Nat} (h : isDy j) : isI (j + 2) 40 := ⟨(by decide +kernel : ∀ j ∈ [67, 70, 73, 109, 112, 115, 150, 153, 156, 191, 194, 197, 215], isO (j + 2) 10 = true) j h, (by decide +kernel : ∀ j ∈ [67, 70, 73, 109, 112, 115, 150, 153, 156, 191, 194, 197, 215], (((shp (j + 2)).2 : Nat) : Int) = 40) j h⟩
theorem bk_f0 {j : Nat} {w : AW} (h : isBk j) : fv w j 0 0 = vR (j + 1) := by
  show vR (cref j 0) = vR (j + 1)
  rw [(by decide +kernel : ∀ j ∈ [35, 77, 118, 159], cref j 0 = j + 1) j h]
theorem bk_f4 {j : Nat} {w : AW} (h : isBk j) : fv w j 0 4 = vR (j + 2) := by
  show vR (cref j 4) = vR (j + 2)
  rw [(by decide +kernel : ∀ j ∈ [35, 77, 118, 159], cref j 4 = j + 2) j h]
theorem bk_f6 {j : Nat} {w : AW} (h : isBk j) : fv w j 0 6 = vR (j + 31) := by
  show vR (cref j 6) = vR (j + 31)
  rw [(by decide +kernel : ∀ j ∈ [35, 77, 118, 159], cref j 6 = j + 31) j h]
theorem bk_a1 {j : Nat} (h : isBk j) : isB (j + 1) 600 := ⟨(by decide +kernel : ∀ j ∈ [35, 77, 118, 159], isO (j + 1) 11 = true) j h, (by decide +kernel : ∀ j ∈ [35, 77, 118, 159], (((shp (j + 1)).2 : Nat) : Int) = 600) j h⟩
theorem bk_c2 {j : Nat} (h : isBk j) : (Nat.blt (j + 2) NC && Nat.blt 13 (shp (j + 2)).1) = true ∧ (((shp (j + 2)).2 : Nat) : Int) = 2 := (by decide +kernel : ∀ j ∈ [35, 77, 118, 159], (Nat.blt (j + 2) NC && Nat.blt 13 (shp (j + 2)).1) = true ∧ (((shp (j + 2)).2 : Nat) : Int) = 2) j h
theorem bk_c31 {j : Nat} (h : isBk j) : (Nat.blt (j + 31) NC && Nat.blt 13 (shp (j + 31)).1) = true ∧ (((shp (j + 31)).2 : Nat) : Int) = 3 := (by decide +kernel : ∀ j ∈ [35, 77, 118, 159], (Nat.blt (j + 31) NC && Nat.blt 13 (shp (j + 31)).1) = true ∧ (((shp (j + 31)).2 : Nat) : Int) = 3) j h
theorem bk_tw {j : Nat} (h : isBk j) (i : Nat) (hi : i < 2) : cref (j + 2) i = j + 3 + 14 * i ∧ isTw (j + 3 + 14 * i) := (by decide +kernel : ∀ j ∈ [35, 77, 118, 159], ∀ i, i < 2 → cref (j + 2) i = j + 3 + 14 * i ∧ (j + 3 + 14 * i) ∈ [38, 52, 80, 94, 121, 135, 162, 176, 201, 239, 265]) j h i hi
theorem bk_dy {j : Nat} (h : isBk j) (i : Nat) (hi : i < 3) : cref (j + 31) i = j + 32 + 3 * i ∧ isDy (j + 32 + 3 * i) := (by decide +kernel : ∀ j ∈ [35, 77, 118, 159], ∀ i, i < 3 → cref (j + 31) i = j + 32 + 3 * i ∧ (j + 32 + 3 * i) ∈ [67, 70, 73, 109, 112, 115, 150, 153, 156, 191, 194, 197, 215]) j h i hi
