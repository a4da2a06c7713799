/-! TEXTS: the reference, lines of towns -/
def RW (w : AW) (S : Nat → Int) : Prop := ∀ i, i < 232 → w.1 8 i = S i
def RBt (w : AW) : Prop := (0 ≤ w.1 8 1 ∧ w.1 8 1 ≤ 14) ∧ (0 ≤ w.1 8 2 ∧ w.1 8 2 ≤ 8) ∧ (0 ≤ w.1 8 3 ∧ w.1 8 3 ≤ 12) ∧ (-1 ≤ w.1 0 20 ∧ w.1 0 20 ≤ 999)
def HI (w : AW) (S : Nat → Int) : Prop := ∀ x, 0 ≤ x → (w.1 0 20 < x ↔ FT S x)
def LPs (w : AW) (b : Nat → Int) (N : Int) (L : Nat) (S : Nat → Int) (s : Int) (f : Int × Int) (l : NL) : Prop :=
  ∃ a, RTr w b N ∧ TkA w b N a ∧ (0 ≤ a ∧ a ≤ N) ∧ FTS w (ufc L S l (fl0 L S s f) (nms L)) (stt b N a) ∧ l.length = nms L ∧ rdn b N (nms L) (ten b N s) [] = rdn b N 0 a l ∧ RBt w ∧ ((ufc L S l (fl0 L S s f) (nms L)).1 = 0 → RW w (tkl L S l) ∧ HI w (tkl L S l))
theorem LC.done {w : AW} {b : Nat → Int} {N s : Int} {L o : Nat} {S : Nat → Int} {f : Int × Int} {ll hh : Nat → Int} {l : NL} (h : LC w b N L S s (fl0 L S s f) o ll hh l) (hl : l.length = nms L) (hb : RBt w) (hw : (ufc L S l (fl0 L S s f) (nms L)).1 = 0 → RW w (tkl L S l) ∧ HI w (tkl L S l)) : LPs w b N L S s f l := by
  obtain ⟨a, hR, hT, ha, hn, hfs, hrd, hle, hg1, hg2, hg3⟩ := h
  rw [hl] at hfs hrd
  rw [Nat.sub_self] at hrd
  exact ⟨a, hR, hT, ha, hfs, hl, hrd, hb, hw⟩
theorem fl0_z {L : Nat} {S : Nat → Int} {s : Int} {f : Int × Int} (h : (fl0 L S s f).1 = 0) : f.1 = 0 ∧ ¬ full L S := by
  unfold fl0 at h
  by_cases z : full L S
  · rw [if_pos z] at h
    unfold upf at h
    by_cases q : f.1 = 0
    · rw [if_pos q] at h; exact absurd h (by show ¬ (3 : Int) = 0; decide)
    · rw [if_neg q] at h; exact absurd h q
  · rw [if_neg z] at h; exact ⟨h, z⟩
theorem ufc_z {L : Nat} {S : Nat → Int} {l : NL} {f0 : Int × Int} {n : Nat} (h : (ufc L S l f0 n).1 = 0) : f0.1 = 0 := by
  by_cases z : f0.1 = 0
  · exact z
  · rw [ufc_ne z] at h; exact absurd h z
theorem can_new {L : Nat} {S : Nat → Int} {l : NL} {lo hi : Int} (hn : ¬ (L = 1 ∧ l.length = 1)) (h1 : lo = xval 1 (L * 4 + l.length)) (h2 : hi = hiB L l.length S) : ∀ v p, 0 ≤ v → v ≤ 999 → ((lo ≤ v ∧ v ≤ hi ∧ v ≠ -1) ↔ can L l.length S (l ++ [(v, p)])) := by
  intro v p v0 v1
  unfold can
  rw [nv_new.1, ← h1, ← h2]
  exact ⟨fun y => ⟨y.1, y.2.1, fun z => hn ⟨z.1, z.2.1⟩⟩, fun y => ⟨y.1, y.2.1, by omega⟩⟩
theorem mx_lt {a v x : Int} : mx a v < x ↔ a < x ∧ v < x := by
  unfold mx; split <;> omega
theorem mx_b {a v : Int} (h1 : -1 ≤ a ∧ a ≤ 999) (h2 : 0 ≤ v ∧ v ≤ 999) : -1 ≤ mx a v ∧ mx a v ≤ 999 := by
  unfold mx; split <;> omega
theorem addR_at {S : Nat → Int} {a b c d : Int} (h : 0 ≤ S 1) (j : Nat) : addR S a b c d j = if j = 1 then S 1 + 1 else if (j : Int) = 6 + 11 * S 1 then a else if (j : Int) = 7 + 11 * S 1 then b else if (j : Int) = 8 + 11 * S 1 then c else if (j : Int) = 9 + 11 * S 1 then d else if (j : Int) = 10 + 11 * S 1 then -1 else if 11 + 11 * S 1 ≤ j ∧ (j : Int) < 17 + 11 * S 1 then 0 else S j := by
  by_cases c1 : j = 1
  · rw [if_pos c1, c1]; exact addR_1
  rw [if_neg c1]
  unfold addR
  by_cases c2 : (j : Int) = 6 + 11 * S 1
  · rw [if_pos c2]; (repeat rw [fu_ne (by omega)]); rw [fu_eq (by omega)]
  rw [if_neg c2]
  by_cases c3 : (j : Int) = 7 + 11 * S 1
  · rw [if_pos c3]; (repeat rw [fu_ne (by omega)]); rw [fu_eq (by omega)]
  rw [if_neg c3]
  by_cases c4 : (j : Int) = 8 + 11 * S 1
  · rw [if_pos c4]; (repeat rw [fu_ne (by omega)]); rw [fu_eq (by omega)]
  rw [if_neg c4]
  by_cases c5 : (j : Int) = 9 + 11 * S 1
  · rw [if_pos c5]; (repeat rw [fu_ne (by omega)]); rw [fu_eq (by omega)]
  rw [if_neg c5]
  by_cases c6 : (j : Int) = 10 + 11 * S 1
  · rw [if_pos c6]; (repeat rw [fu_ne (by omega)]); rw [fu_eq (by omega)]
  rw [if_neg c6]
  by_cases c7 : 11 + 11 * S 1 ≤ j ∧ (j : Int) < 17 + 11 * S 1
  · rw [if_pos c7]
    have : (j : Int) = 11 + 11 * S 1 ∨ (j : Int) = 12 + 11 * S 1 ∨ (j : Int) = 13 + 11 * S 1 ∨ (j : Int) = 14 + 11 * S 1 ∨ (j : Int) = 15 + 11 * S 1 ∨ (j : Int) = 16 + 11 * S 1 := by omega
    rcases this with e | e | e | e | e | e <;> ((repeat rw [fu_ne (by omega)]); rw [fu_eq (by omega)])
  · rw [if_neg c7]
    repeat rw [fu_ne (by omega)]
theorem addP_at {S : Nat → Int} {a b c : Int} (h : 0 ≤ S 2) (j : Nat) : addP S a b c j = if j = 2 then S 2 + 1 else if (j : Int) = 160 + 3 * S 2 then a else if (j : Int) = 161 + 3 * S 2 then b else if (j : Int) = 162 + 3 * S 2 then c else S j := by
  by_cases c1 : j = 2
  · rw [if_pos c1, c1]; exact addP_2
  rw [if_neg c1]
  unfold addP
  by_cases c2 : (j : Int) = 160 + 3 * S 2
  · rw [if_pos c2]; (repeat rw [fu_ne (by omega)]); rw [fu_eq (by omega)]
  rw [if_neg c2]
  by_cases c3 : (j : Int) = 161 + 3 * S 2
  · rw [if_pos c3]; (repeat rw [fu_ne (by omega)]); rw [fu_eq (by omega)]
  rw [if_neg c3]
  by_cases c4 : (j : Int) = 162 + 3 * S 2
  · rw [if_pos c4]; (repeat rw [fu_ne (by omega)]); rw [fu_eq (by omega)]
  · rw [if_neg c4]
    repeat rw [fu_ne (by omega)]
theorem addE_at {S : Nat → Int} {a b c d : Int} (h : 0 ≤ S 3) (j : Nat) : addE S a b c d j = if j = 3 then S 3 + 1 else if (j : Int) = 184 + 4 * S 3 then a else if (j : Int) = 185 + 4 * S 3 then b else if (j : Int) = 186 + 4 * S 3 then c else if (j : Int) = 187 + 4 * S 3 then d else S j := by
  by_cases c1 : j = 3
  · rw [if_pos c1, c1]; exact addE_3
  rw [if_neg c1]
  unfold addE
  by_cases c2 : (j : Int) = 184 + 4 * S 3
  · rw [if_pos c2]; (repeat rw [fu_ne (by omega)]); rw [fu_eq (by omega)]
  rw [if_neg c2]
  by_cases c3 : (j : Int) = 185 + 4 * S 3
  · rw [if_pos c3]; (repeat rw [fu_ne (by omega)]); rw [fu_eq (by omega)]
  rw [if_neg c3]
  by_cases c4 : (j : Int) = 186 + 4 * S 3
  · rw [if_pos c4]; (repeat rw [fu_ne (by omega)]); rw [fu_eq (by omega)]
  rw [if_neg c4]
  by_cases c5 : (j : Int) = 187 + 4 * S 3
  · rw [if_pos c5]; (repeat rw [fu_ne (by omega)]); rw [fu_eq (by omega)]
  · rw [if_neg c5]
    repeat rw [fu_ne (by omega)]
theorem addM_at {S : Nat → Int} {a b c : Int} (h : 0 ≤ S 0) (j : Nat) : addM S a b c j = if j = 0 then S 0 + 1 else if (j : Int) = 1 + 3 * S 0 then a else if (j : Int) = 2 + 3 * S 0 then b else if (j : Int) = 3 + 3 * S 0 then c else S j := by
  by_cases c1 : j = 0
  · rw [if_pos c1, c1]; exact fu_eq rfl
  rw [if_neg c1]
  unfold addM
  by_cases c2 : (j : Int) = 1 + 3 * S 0
  · rw [if_pos c2]; (repeat rw [fu_ne (by omega)]); rw [fu_eq (by omega)]
  rw [if_neg c2]
  by_cases c3 : (j : Int) = 2 + 3 * S 0
  · rw [if_pos c3]; (repeat rw [fu_ne (by omega)]); rw [fu_eq (by omega)]
  rw [if_neg c3]
  by_cases c4 : (j : Int) = 3 + 3 * S 0
  · rw [if_pos c4]; (repeat rw [fu_ne (by omega)]); rw [fu_eq (by omega)]
  · rw [if_neg c4]
    repeat rw [fu_ne (by omega)]
/-! places -/
theorem ft_addR {S : Nat → Int} {a b c d x : Int} (h : 0 ≤ S 1 ∧ S 1 < 14) (h2 : 0 ≤ S 2) (h3 : 0 ≤ S 3) : FT (addR S a b c d) x ↔ FT S x ∧ a < x ∧ b < x := by
  have n := fun k h1 h2 => addR_ne (S := S) (a := a) (b := b) (c := c) (d := d) (k := k) h1 h2
  have nw := addR_new (S := S) (a := a) (b := b) (c := c) (d := d) (by omega)
  unfold FT
  rw [addR_1, n 2 (by omega) (by omega), n 3 (by omega) (by omega)]
  have hr := fun r (r0 : 0 ≤ r) (r1 : r < S 1) => rd_same (S := S) (S' := addR S a b c d) (r := r) (fun k k1 k2 => n k (by omega) (by omega)) r0
  have hp := fun p (p0 : 0 ≤ p) => pe_same (S := S) (S' := addR S a b c d) (p := p) (fun k k1 k2 => n k (by omega) (by omega)) p0
  have he := fun e (e0 : 0 ≤ e) => er_same (S := S) (S' := addR S a b c d) (e := e) (fun k k1 k2 => n k (by omega) (by omega)) e0
  constructor
  · rintro ⟨y1, y2, y3⟩
    have := y1 (S 1) (by omega) (by omega)
    rw [nw.1, nw.2.1] at this
    refine ⟨⟨fun r r0 r1 => ?_, fun p p0 p1 => ?_, fun e e0 e1 => ?_⟩, this⟩
    · have := y1 r r0 (by omega)
      rw [(hr r r0 r1).1, (hr r r0 r1).2.1] at this
      exact this
    · have := y2 p p0 p1
      rw [(hp p p0).1] at this
      exact this
    · have := y3 e e0 e1
      rw [(he e e0).2.1] at this
      exact this
  · rintro ⟨⟨y1, y2, y3⟩, y4⟩
    refine ⟨fun r r0 r1 => ?_, fun p p0 p1 => ?_, fun e e0 e1 => ?_⟩
    · by_cases z : r = S 1
      · rw [z, nw.1, nw.2.1]; exact y4
      · rw [(hr r r0 (by omega)).1, (hr r r0 (by omega)).2.1]; exact y1 r r0 (by omega)
    · rw [(hp p p0).1]; exact y2 p p0 p1
    · rw [(he e e0).2.1]; exact y3 e e0 e1
theorem ft_addP {S : Nat → Int} {a b c x : Int} (h1 : 0 ≤ S 1 ∧ S 1 ≤ 14) (h : 0 ≤ S 2 ∧ S 2 < 8) : FT (addP S a b c) x ↔ FT S x ∧ a < x := by
  have n := fun k h1 h2 => addP_ne (S := S) (a := a) (b := b) (c := c) (k := k) h1 h2
  have nw := addP_new (S := S) (a := a) (b := b) (c := c) (by omega)
  unfold FT
  rw [addP_2, n 1 (by omega) (by omega), n 3 (by omega) (by omega)]
  have hr := fun r (r0 : 0 ≤ r) (r1 : r < S 1) => rd_same (S := S) (S' := addP S a b c) (r := r) (fun k k1 k2 => n k (by omega) (by omega)) r0
  have hp := fun p (p0 : 0 ≤ p) (p1 : p < S 2) => pe_same (S := S) (S' := addP S a b c) (p := p) (fun k k1 k2 => n k (by omega) (by omega)) p0
  have he := fun e (e0 : 0 ≤ e) => er_same (S := S) (S' := addP S a b c) (e := e) (fun k k1 k2 => n k (by omega) (by omega)) e0
  constructor
  · rintro ⟨y1, y2, y3⟩
    have := y2 (S 2) (by omega) (by omega)
    rw [nw.1] at this
    refine ⟨⟨fun r r0 r1 => ?_, fun p p0 p1 => ?_, fun e e0 e1 => ?_⟩, this⟩
    · have := y1 r r0 (by omega)
      rw [(hr r r0 r1).1, (hr r r0 r1).2.1] at this
      exact this
    · have := y2 p p0 (by omega)
      rw [(hp p p0 p1).1] at this
      exact this
    · have := y3 e e0 e1
      rw [(he e e0).2.1] at this
      exact this
  · rintro ⟨⟨y1, y2, y3⟩, y4⟩
    refine ⟨fun r r0 r1 => ?_, fun p p0 p1 => ?_, fun e e0 e1 => ?_⟩
    · rw [(hr r r0 (by omega)).1, (hr r r0 (by omega)).2.1]; exact y1 r r0 (by omega)
    · by_cases z : p = S 2
      · rw [z, nw.1]; exact y4
      · rw [(hp p p0 (by omega)).1]; exact y2 p p0 (by omega)
    · rw [(he e e0).2.1]; exact y3 e e0 e1
theorem ft_addE {S : Nat → Int} {a b c d x : Int} (h1 : 0 ≤ S 1 ∧ S 1 ≤ 14) (h2 : 0 ≤ S 2 ∧ S 2 ≤ 8) (h : 0 ≤ S 3 ∧ S 3 < 12) : FT (addE S a b c d) x ↔ FT S x ∧ b < x := by
  have n := fun k h1 h2 => addE_ne (S := S) (a := a) (b := b) (c := c) (d := d) (k := k) h1 h2
  have nw := addE_new (S := S) (a := a) (b := b) (c := c) (d := d) (by omega)
  unfold FT
  rw [addE_3, n 1 (by omega) (by omega), n 2 (by omega) (by omega)]
  have hr := fun r (r0 : 0 ≤ r) (r1 : r < S 1) => rd_same (S := S) (S' := addE S a b c d) (r := r) (fun k k1 k2 => n k (by omega) (by omega)) r0
  have hp := fun p (p0 : 0 ≤ p) (p1 : p < S 2) => pe_same (S := S) (S' := addE S a b c d) (p := p) (fun k k1 k2 => n k (by omega) (by omega)) p0
  have he := fun e (e0 : 0 ≤ e) (e1 : e < S 3) => er_same (S := S) (S' := addE S a b c d) (e := e) (fun k k1 k2 => n k (by omega) (by omega)) e0
  constructor
  · rintro ⟨y1, y2, y3⟩
    have := y3 (S 3) (by omega) (by omega)
    rw [nw.2.1] at this
    refine ⟨⟨fun r r0 r1 => ?_, fun p p0 p1 => ?_, fun e e0 e1 => ?_⟩, this⟩
    · have := y1 r r0 (by omega)
      rw [(hr r r0 r1).1, (hr r r0 r1).2.1] at this
      exact this
    · have := y2 p p0 (by omega)
      rw [(hp p p0 p1).1] at this
      exact this
    · have := y3 e e0 (by omega)
      rw [(he e e0 e1).2.1] at this
      exact this
  · rintro ⟨⟨y1, y2, y3⟩, y4⟩
    refine ⟨fun r r0 r1 => ?_, fun p p0 p1 => ?_, fun e e0 e1 => ?_⟩
    · rw [(hr r r0 (by omega)).1, (hr r r0 (by omega)).2.1]; exact y1 r r0 (by omega)
    · rw [(hp p p0 (by omega)).1]; exact y2 p p0 (by omega)
    · by_cases z : e = S 3
      · rw [z, nw.2.1]; exact y4
      · rw [(he e e0 (by omega)).2.1]; exact y3 e e0 (by omega)
theorem ft_fu {S : Nat → Int} {i v x : Int} (h : i = 0 ∨ i = 4 ∨ i = 5 ∨ ∃ r k : Int, 0 ≤ r ∧ r < 14 ∧ 4 ≤ k ∧ k ≤ 10 ∧ i = 6 + 11 * r + k) : FT (fu S i v) x ↔ FT S x := by
  have n : ∀ j : Nat, (j : Int) ≠ i → fu S i v j = S j := fun j hj => fu_ne hj
  have nr : ∀ r : Int, 0 ≤ r → rA (fu S i v) r = rA S r ∧ rB (fu S i v) r = rB S r := fun r r0 => by
    unfold rA rB
    refine ⟨n _ ?_, n _ ?_⟩ <;> rcases h with h | h | h | ⟨r', k, h⟩ <;> omega
  have npp : ∀ p : Int, 0 ≤ p → pH (fu S i v) p = pH S p := fun p p0 => by
    unfold pH
    refine n _ ?_
    rcases h with h | h | h | ⟨r', k, h⟩ <;> omega
  have ne : ∀ e : Int, 0 ≤ e → eP (fu S i v) e = eP S e := fun e e0 => by
    unfold eP
    refine n _ ?_
    rcases h with h | h | h | ⟨r', k, h⟩ <;> omega
  have e1 : fu S i v 1 = S 1 := n 1 (by rcases h with h | h | h | ⟨r', k, h⟩ <;> omega)
  have e2 : fu S i v 2 = S 2 := n 2 (by rcases h with h | h | h | ⟨r', k, h⟩ <;> omega)
  have e3 : fu S i v 3 = S 3 := n 3 (by rcases h with h | h | h | ⟨r', k, h⟩ <;> omega)
  unfold FT
  rw [e1, e2, e3]
  constructor
  · rintro ⟨y1, y2, y3⟩
    refine ⟨fun r r0 r1 => ?_, fun p p0 p1 => ?_, fun e e0 e1 => ?_⟩
    · have := y1 r r0 r1
      rw [(nr r r0).1, (nr r r0).2] at this
      exact this
    · rw [← npp p p0]; exact y2 p p0 p1
    · rw [← ne e e0]; exact y3 e e0 e1
  · rintro ⟨y1, y2, y3⟩
    refine ⟨fun r r0 r1 => ?_, fun p p0 p1 => ?_, fun e e0 e1 => ?_⟩
    · rw [(nr r r0).1, (nr r r0).2]; exact y1 r r0 r1
    · rw [npp p p0]; exact y2 p p0 p1
    · rw [ne e e0]; exact y3 e e0 e1
theorem RW.fu {w : AW} {S : Nat → Int} {k v : Int} (h : RW w S) (h0 : 0 ≤ k) : RW (wI w 8 k.toNat v) (fu S k v) := by
  intro i hi
  rw [wI_at]
  by_cases z : i = k.toNat
  · rw [if_pos ⟨rfl, z⟩, fu_eq (by omega)]
  · rw [if_neg (fun y => z y.2), fu_ne (by omega)]; exact h i hi
