/-! RUNS: the pure run of a day's moves -/
abbrev RS := Nat → Nat → Int
def RE (T : Nat → Int) (A B : RS) : Prop :=
  (∀ r : Nat, (r : Int) < T 1 → A 0 r = B 0 r) ∧ (∀ p : Nat, (p : Int) < T 2 → A 1 p = B 1 p ∧ A 2 p = B 2 p ∧ A 3 p = B 3 p) ∧ (∀ k : Nat, k < 64 → A 4 k = B 4 k) ∧ A 5 0 = B 5 0 ∧ A 5 1 = B 5 1 ∧ A 5 2 = B 5 2
def RBd (T : Nat → Int) (n : Int) (A : RS) : Prop :=
  (∀ r : Nat, (r : Int) < T 1 → -1 ≤ A 0 r ∧ A 0 r < T 2) ∧ (∀ p : Nat, (p : Int) < T 2 → (0 ≤ A 1 p ∧ A 1 p < T 0) ∧ (0 ≤ A 2 p ∧ A 2 p ≤ 999 * n + 30) ∧ (-1 ≤ A 3 p ∧ A 3 p < 14)) ∧ (0 ≤ A 5 0 ∧ A 5 0 ≤ 999 * n) ∧ L3 T (A 0)
def okm (T : Nat → Int) (p mu : Int) (A : RS) : Prop := (0 ≤ p ∧ p < T 2) ∧ (0 ≤ mu ∧ mu < T 1) ∧ (rA T mu = A 1 p.toNat ∨ rB T mu = A 1 p.toNat) ∧ A 2 p.toNat ≤ A 5 0
def wth (T : Nat → Int) (p mu : Int) (A : RS) : Prop := ∃ q : Nat, (q : Int) < T 2 ∧ (q : Int) ≠ p ∧ A 3 q = mu ∧ A 5 0 < A 2 q
noncomputable def aft (T : Nat → Int) (p mu : Int) (A : RS) : RS := fun f k => match f with
  | 0 => if k = mu.toNat then obh T (-1) (A 0) p mu (A 5 0) else A 0 k
  | 1 => if k = p.toNat then rA T mu + rB T mu - A 1 k else A 1 k
  | 2 => if k = p.toNat then A 5 0 + rM T mu else A 2 k
  | 3 => if k = p.toNat then mu else A 3 k
  | 4 => if k = (8 * p + A 0 mu.toNat).toNat then A 4 k + pys T (-1) (A 0) p mu else A 4 k
  | _ => if k = 1 then A 5 1 + pys T (-1) (A 0) p mu else if k = 2 then A 5 2 + (ind (wth T p mu A) : Int) else A 5 k
def wat (mu : Int) (A : RS) : RS := fun f k => if f = 5 ∧ k = 0 then A 5 0 + mu else A f k
noncomputable def sp (T : Nat → Int) (wh p mu : Int) (A : RS) : Option RS := by
  classical
  exact if wh = 1 then some (wat mu A) else if okm T p mu A then some (aft T p mu A) else none
def MV (wh p mu : Int) : Prop := (wh = 0 ∧ (0 ≤ p ∧ p ≤ 7) ∧ (0 ≤ mu ∧ mu ≤ 13)) ∨ (wh = 1 ∧ p = -1 ∧ (1 ≤ mu ∧ mu ≤ 999))
theorem sp_w {T : Nat → Int} {p mu : Int} {A : RS} : sp T 1 p mu A = some (wat mu A) := by
  unfold sp
  rw [if_pos rfl]
theorem sp_y {T : Nat → Int} {p mu : Int} {A : RS} (h : okm T p mu A) : sp T 0 p mu A = some (aft T p mu A) := by
  unfold sp
  rw [if_neg (by decide), if_pos h]
theorem sp_n {T : Nat → Int} {p mu : Int} {A : RS} (h : ¬ okm T p mu A) : sp T 0 p mu A = none := by
  unfold sp
  rw [if_neg (by decide), if_neg h]
theorem sp_b {T : Nat → Int} {n wh p mu : Int} {A A' : RS} (hT : TK T) (hB : RBd T n A) (hn : 0 ≤ n) (hm : MV wh p mu) (h : sp T wh p mu A = some A') : RBd T (n + 1) A' := by
  rcases hm with ⟨rfl, hp, hmu⟩ | ⟨rfl, hp, hmu⟩
  · by_cases hk : okm T p mu A
    · rw [sp_y hk] at h
      cases h
      obtain ⟨b1, b2, b3, b4⟩ := hB
      obtain ⟨k1, k2, k3, k4⟩ := hk
      have hr := hT.road k2.1 k2.2
      have o1 := b1 mu.toNat (by omega)
      refine ⟨fun r hr2 => ?_, fun q hq => ⟨?_, ?_, ?_⟩, ?_, fun h3 r hr2 => ?_⟩
      · show -1 ≤ (if r = mu.toNat then obh T (-1) (A 0) p mu (A 5 0) else A 0 r) ∧ (if r = mu.toNat then obh T (-1) (A 0) p mu (A 5 0) else A 0 r) < T 2
        have := b1 r hr2
        split
        · by_cases c : cms T (-1) (A 0) p mu (A 5 0)
          · rw [obh_y c]; omega
          · rw [obh_n c]; omega
        · omega
      · show 0 ≤ (if q = p.toNat then rA T mu + rB T mu - A 1 q else A 1 q) ∧ (if q = p.toNat then rA T mu + rB T mu - A 1 q else A 1 q) < T 0
        have := b2 q hq
        split
        · rename_i e; rw [← e] at k3; omega
        · omega
      · show 0 ≤ (if q = p.toNat then A 5 0 + rM T mu else A 2 q) ∧ (if q = p.toNat then A 5 0 + rM T mu else A 2 q) ≤ 999 * (n + 1) + 30
        have := b2 q hq
        split <;> omega
      · show -1 ≤ (if q = p.toNat then mu else A 3 q) ∧ (if q = p.toNat then mu else A 3 q) < 14
        have := b2 q hq
        split <;> omega
      · show 0 ≤ (if (0:Nat) = 1 then A 5 1 + pys T (-1) (A 0) p mu else if (0:Nat) = 2 then A 5 2 + (ind (wth T p mu A) : Int) else A 5 0) ∧ (if (0:Nat) = 1 then A 5 1 + pys T (-1) (A 0) p mu else if (0:Nat) = 2 then A 5 2 + (ind (wth T p mu A) : Int) else A 5 0) ≤ 999 * (n + 1)
        rw [if_neg (by decide), if_neg (by decide)]
        omega
      · show (if r = mu.toNat then obh T (-1) (A 0) p mu (A 5 0) else A 0 r) = -1
        split
        · rw [obh_n (fun c => by unfold cms at c; omega)]
          exact b4 h3 _ (by omega)
        · exact b4 h3 r hr2
    · rw [sp_n hk] at h
      cases h
  · rw [sp_w] at h
    cases h
    obtain ⟨b1, b2, b3, b4⟩ := hB
    refine ⟨fun r hr => b1 r hr, fun q hq => ⟨(b2 q hq).1, ?_, (b2 q hq).2.2⟩, ?_, b4⟩
    · have := (b2 q hq).2.1
      show 0 ≤ A 2 q ∧ A 2 q ≤ _
      omega
    · show 0 ≤ A 5 0 + mu ∧ A 5 0 + mu ≤ _
      omega
/-! the reference -/
def RG (w : AW) : RS := fun f k => match f with
  | 0 => w.1 10 k
  | 1 => w.1 12 k
  | 2 => w.1 13 k
  | 3 => w.1 14 k
  | 4 => w.1 15 k
  | _ => w.1 0 (33 + k)
abbrev Srun (j k : Nat) : Prop := j = 10 ∨ j = 12 ∨ j = 13 ∨ j = 14 ∨ j = 15 ∨ (j = 0 ∧ 33 ≤ k ∧ k ≤ 35)
theorem HA.run {w w' : AW} {T : Nat → Int} (h : HA w T) (f : Fr Srun w w') : HA w' T := h.fr f (by intro j k; simp only [SHA, Srun]; omega)
theorem ci_does_b {F : Nat} {n wh p mu x4 : Int} {w w2 : AW} {T : Nat → Int} {A : RS} {P : Int → AW → Prop} (hF : FB F) (hH : HA w T) (hT : TK T) (hf : w.1 0 28 = -1) (hE : RE T (RG w) A) (hB : RBd T n A) (hn : 0 ≤ n ∧ n ≤ 1000) (hk : okm T p mu A) (f2 : Fr (fun j k => j = 15 ∨ (j = 0 ∧ k = 34)) w w2) (h4 : ∀ k, k < 64 → w2.1 15 k = aft T p mu A 4 k) (h51 : w2.1 0 34 = aft T p mu A 5 1) (h1 : ∀ w', Fr Srun w w' → RE T (RG w') (aft T p mu A) → P 1 w') : TT (k_X9_does_107 F [vR 0, vI wh, vI p, vI mu, vI x4, vU, vU] [] w2) (qq 2 (fun r w => ∃ x, r = some (vI x) ∧ P x w)) := by
  obtain ⟨e0, e1, e4, e50, e51, e52⟩ := hE
  obtain ⟨b1, b2, b3, b4⟩ := hB
  obtain ⟨k1, k2, k3, k4⟩ := hk
  have a0 := hT.1
  have a1 := hT.2.1
  have a2 := hT.2.2.1
  have hr := hT.road k2.1 k2.2
  have g10 : ∀ k, w2.1 10 k = w.1 10 k := fun k => f2.I 10 k (by omega)
  have g12 : ∀ k, w2.1 12 k = w.1 12 k := fun k => f2.I 12 k (by omega)
  have g13 : ∀ k, w2.1 13 k = w.1 13 k := fun k => f2.I 13 k (by omega)
  have g14 : ∀ k, w2.1 14 k = w.1 14 k := fun k => f2.I 14 k (by omega)
  have g0 : ∀ k, k ≠ 34 → w2.1 0 k = w.1 0 k := fun k hk => f2.I 0 k (by omega)
  have fr2 : Fr Srun w w2 := f2.wk (by intro j k; simp only [Srun]; omega)
  have hH2 : HA w2 T := hH.run fr2
  have c33 : w2.1 0 33 = A 5 0 := by rw [g0 33 (by decide)]; exact e50
  have fin : ∀ (v c i : Int), v = (ind (wth T p mu A) : Int) → TT (k_X9_does_184 F [vR 0, vI wh, vI p, vI mu, vI x4, vI c, vI i] [vI v, vI (w2.1 0 35), vR 0] w2) (qq 2 (fun r w => ∃ x, r = some (vI x) ∧ P x w)) := by
    intro v c i hv
    refine wp_X9_does_184 F wh p mu x4 c i v (w2.1 0 35) w2 _ (fun w3 q3 => ?_)
    have fr3 : Fr Srun w w3 := by rw [q3]; exact fr2.wI _ (by first | (simp [Srun]; done) | (simp only [Srun]; omega))
    have hH3 : HA w3 T := hH.run fr3
    have d10 : ∀ k, w3.1 10 k = w.1 10 k := fun k => by rw [q3, wI_cell _ _ _ _ (by decide)]; exact g10 k
    have d33 : w3.1 0 33 = A 5 0 := by rw [q3, wI_idx _ _ _ _ (by decide)]; exact c33
    have hO3 : OK T (w3.1 10) := fun r h0 h1 => by
      rw [d10]
      have := e0 r.toNat (by omega)
      have := b1 r.toNat (by omega)
      have : w.1 10 r.toNat = A 0 r.toNat := e0 r.toNat (by omega)
      omega
    have o3 : w3.1 10 mu.toNat = A 0 mu.toNat := by rw [d10]; exact e0 mu.toNat (by omega)
    have last : ∀ x, x = obh T (-1) (A 0) p mu (A 5 0) → TT (k_X9_does_216 F [vR 0, vI wh, vI p, vI mu, vI x4, vI c, vI i] [vI x, vI mu, vR 10] w3) (qq 2 (fun r w => ∃ x, r = some (vI x) ∧ P x w)) := by
      intro x hx
      refine wp_X9_does_216 F wh p mu x4 c i x mu w3 _ ⟨⟨by omega, by omega⟩, fun w4 q4 => ⟨⟨by omega, by omega⟩, ?_⟩⟩
      have fr4 : Fr Srun w w4 := by rw [q4]; exact fr3.wI _ (by first | (simp [Srun]; done) | (simp only [Srun]; omega))
      refine ci_farEnd (hH.run fr4) hT k2.1 k2.2 ⟨⟨by omega, by omega⟩, fun w5 q5 => ?_⟩
      have fr5 : Fr Srun w w5 := by rw [q5]; exact fr4.wI _ (by first | (simp [Srun]; done) | (simp only [Srun]; omega))
      refine ci_rM (hH.run fr5) hT k2.1 k2.2 ⟨⟨by omega, by omega⟩, fun w6 q6 => ⟨⟨by omega, by omega⟩, fun w7 q7 => q_z1 (h1 w7 ?_ ?_)⟩⟩
      · rw [q7, q6]; exact (fr5.wI _ (by first | (simp [Srun]; done) | (simp only [Srun]; omega))).wI _ (by first | (simp [Srun]; done) | (simp only [Srun]; omega))
      · refine ⟨fun r hr2 => ?_, fun q hq => ⟨?_, ?_, ?_⟩, fun k hk => ?_, ?_, ?_, ?_⟩
        · show w7.1 10 r = if r = mu.toNat then obh T (-1) (A 0) p mu (A 5 0) else A 0 r
          rw [q7, wI_cell _ _ _ _ (by decide), q6, wI_cell _ _ _ _ (by decide), q5, wI_cell _ _ _ _ (by decide), q4, wI_at]
          by_cases z : r = mu.toNat
          · rw [if_pos ⟨rfl, z⟩, if_pos z]; exact hx
          · rw [if_neg (fun y => z y.2), if_neg z, d10]; exact e0 r hr2
        · show w7.1 12 q = if q = p.toNat then rA T mu + rB T mu - A 1 q else A 1 q
          rw [q7, wI_cell _ _ _ _ (by decide), q6, wI_cell _ _ _ _ (by decide), q5, wI_at]
          have t12 : ∀ k, w4.1 12 k = w.1 12 k := fun k => by rw [q4, wI_cell _ _ _ _ (by decide), q3, wI_cell _ _ _ _ (by decide)]; exact g12 k
          have u12 : w.1 12 q = A 1 q := (e1 q hq).1
          by_cases z : q = p.toNat
          · rw [if_pos ⟨rfl, z⟩, if_pos z, ← z, t12, u12]
          · rw [if_neg (fun y => z y.2), if_neg z, t12]; exact u12
        · show w7.1 13 q = if q = p.toNat then A 5 0 + rM T mu else A 2 q
          rw [q7, wI_cell _ _ _ _ (by decide), q6, wI_at]
          by_cases z : q = p.toNat
          · rw [if_pos ⟨rfl, z⟩, if_pos z, q5, wI_cell _ _ _ _ (by decide), q4, wI_cell _ _ _ _ (by decide), d33]
          · rw [if_neg (fun y => z y.2), if_neg z, q5, wI_cell _ _ _ _ (by decide), q4, wI_cell _ _ _ _ (by decide), q3, wI_cell _ _ _ _ (by decide), g13]; exact (e1 q hq).2.1
        · show w7.1 14 q = if q = p.toNat then mu else A 3 q
          rw [q7, wI_at]
          by_cases z : q = p.toNat
          · rw [if_pos ⟨rfl, z⟩, if_pos z]
          · rw [if_neg (fun y => z y.2), if_neg z, q6, wI_cell _ _ _ _ (by decide), q5, wI_cell _ _ _ _ (by decide), q4, wI_cell _ _ _ _ (by decide), q3, wI_cell _ _ _ _ (by decide), g14]; exact (e1 q hq).2.2
        · show w7.1 15 k = _
          rw [q7, wI_cell _ _ _ _ (by decide), q6, wI_cell _ _ _ _ (by decide), q5, wI_cell _ _ _ _ (by decide), q4, wI_cell _ _ _ _ (by decide), q3, wI_cell _ _ _ _ (by decide)]
          exact h4 k hk
        · show w7.1 0 33 = A 5 0
          rw [q7, wI_cell _ _ _ _ (by decide), q6, wI_cell _ _ _ _ (by decide), q5, wI_cell _ _ _ _ (by decide), q4, wI_cell _ _ _ _ (by decide)]
          exact d33
        · show w7.1 0 34 = _
          rw [q7, wI_cell _ _ _ _ (by decide), q6, wI_cell _ _ _ _ (by decide), q5, wI_cell _ _ _ _ (by decide), q4, wI_cell _ _ _ _ (by decide), q3, wI_idx _ _ _ _ (by decide)]
          exact h51
        · show w7.1 0 35 = A 5 2 + (ind (wth T p mu A) : Int)
          rw [q7, wI_cell _ _ _ _ (by decide), q6, wI_cell _ _ _ _ (by decide), q5, wI_cell _ _ _ _ (by decide), q4, wI_cell _ _ _ _ (by decide), q3, wI_same, hv, g0 35 (by decide)]
          have : w.1 0 35 = A 5 2 := e52
          rw [this]
    have hcm := cms_congr (T := T) (O := w3.1 10) (O' := A 0) (fr := -1) (p := p) (r := mu) (t := w3.1 0 33) o3
    have tb3 : iR (w3.1 0 33) := by rw [d33]; exact ⟨by omega, by omega⟩
    refine ci_comes (fr := -1) hH3 hT hO3 (by rw [q3, wI_idx _ _ _ _ (by decide), g0 28 (by decide)]; exact hf) (by omega) ⟨by omega, by omega⟩ tb3 k2.1 k2.2 (fun c => br1 (last p ?_)) (fun c => br0 ⟨⟨by omega, by omega⟩, last _ ?_⟩)
    · rw [d33] at c hcm
      rw [obh_y (hcm.mp c)]
    · rw [d33] at c hcm
      rw [obh_n (fun z => c (hcm.mpr z))]; exact o3
  refine wp_X9_does_107 F wh p mu x4 w2 _ ?_
  refine tt_for (K := k_X9_does_113 F) (T 2) (fun i w' l => w' = w2 ∧ (∃ c, l = [vR 0, vI wh, vI p, vI mu, vI x4, vI c, vI i] ∧ 0 ≤ c ∧ c ≤ i ∧ (0 < c ↔ ∃ q : Nat, (q : Int) < i ∧ (q : Int) ≠ p ∧ A 3 q = mu ∧ A 5 0 < A 2 q)) ∧ 0 ≤ i ∧ i ≤ T 2) ?_ F 0 _ w2 (by omega) ⟨rfl, ⟨0, rfl, by omega, by omega, ⟨fun h => by omega, fun ⟨q, hq, _⟩ => by omega⟩⟩, by omega, by omega⟩
  rintro m i l w3 ⟨rfl, ⟨c, rfl, hc0, hc1, hc⟩, hi0, hi1⟩ hk
  rw [ks_X9_does_113]
  refine wp_X9_does_113 F _ wh p mu x4 c i w3 _ ?_
  rw [hH2.2.2.2.1, w_id (x := i) (by omega) (by omega), w_id (x := T 2) (by omega) (by omega), w_id (x := p) (by omega) (by omega), w_id (x := mu) (by omega) (by omega), w_id (x := c) (by omega) (by omega)]
  refine ⟨fun q => ?_, fun q => ?_⟩
  · have no : ¬ (i ≠ p ∧ A 3 i.toNat = mu ∧ A 5 0 < A 2 i.toNat) → TT (k_X9_does_159 F (k_X9_does_113 F m) [vR 0, vI wh, vI p, vI mu, vI x4, vI c, vI i] [vI c] w3) (qq 2 (fun r w => ∃ x, r = some (vI x) ∧ P x w)) := by
      intro hno
      refine wp_X9_does_159 F _ wh p mu x4 c i c w3 _ (wp_X9_does_160 F _ wh p mu x4 c i 0 c w3 _ (fun x hx => hk _ _ ⟨rfl, ⟨x, rfl, by omega, by omega, ?_⟩, by omega, by omega⟩ q))
      rw [show x = c from by omega, hc]
      refine ⟨fun ⟨q1, y1, y2⟩ => ⟨q1, by omega, y2⟩, fun ⟨q1, y1, y2⟩ => ⟨q1, ?_, y2⟩⟩
      by_cases z : (q1 : Int) = i
      · exfalso
        apply hno
        rw [← z, Int.toNat_natCast]
        exact y2
      · omega
    have f14 : w3.1 14 i.toNat = A 3 i.toNat := by rw [g14]; exact (e1 i.toNat (by omega)).2.2
    have f13 : w3.1 13 i.toNat = A 2 i.toNat := by rw [g13]; exact (e1 i.toNat (by omega)).2.1
    have := b2 i.toNat (by omega)
    rw [f14, f13, c33, w_id (x := A 3 i.toNat) (by omega) (by omega), w_id (x := A 2 i.toNat) (by omega) (by omega), w_id (x := A 5 0) (by omega) (by omega)]
    refine ⟨fun z => no (fun y => y.1 z), fun z => ⟨⟨by omega, by omega⟩, fun z2 => ⟨⟨by omega, by omega⟩, fun z3 => ?_, fun z3 => no (fun y => z3 y.2.2)⟩, fun z2 => no (fun y => z2 y.2.1)⟩⟩
    refine wp_X9_does_160 F _ wh p mu x4 c i 1 c w3 _ (fun x hx => hk _ _ ⟨rfl, ⟨x, rfl, by omega, by omega, ⟨fun _ => ⟨i.toNat, by omega, by omega, z2, z3⟩, fun _ => by omega⟩⟩, by omega, by omega⟩ q)
  · have ei : i = T 2 := by omega
    rw [ei] at hc
    refine ⟨fun z => fin 1 c i ?_, fun z => fin 0 c i ?_⟩
    · rw [ind_pos (p := wth T p mu A) (hc.mp z)]; rfl
    · rw [ind_neg (p := wth T p mu A) (fun y => z (hc.mpr y))]; rfl
theorem ci_does {F : Nat} {n wh p mu : Int} {w : AW} {T : Nat → Int} {A : RS} {P : Int → AW → Prop} (hF : FB F) (hH : HA w T) (hT : TK T) (hf : w.1 0 28 = -1) (hE : RE T (RG w) A) (hB : RBd T n A) (hn : 0 ≤ n ∧ n ≤ 1000) (hm : MV wh p mu) (h0 : sp T wh p mu A = none → P 0 w) (h1 : ∀ A', sp T wh p mu A = some A' → ∀ w', Fr Srun w w' → RE T (RG w') A' → P 1 w') : CI (m_X9_does F [vR 0, vI wh, vI p, vI mu] w) P := by
  have a0 := hT.1
  have a1 := hT.2.1
  have a2 := hT.2.2.1
  refine wp_X9_does F wh p mu w _ ?_
  rcases hm with ⟨rfl, hp, hmu⟩ | ⟨rfl, hp, hmu⟩
  · refine ⟨fun q => absurd q (by decide), fun _ => ?_⟩
    have no : ¬ okm T p mu A → P 0 w := fun h => h0 (sp_n h)
    refine ci_isPerson hH hT ⟨by omega, by omega⟩ (fun z1 => br1 (ci_isRoad hH hT ⟨by omega, by omega⟩ (fun z2 => br1 ⟨⟨by omega, by omega⟩, ?_⟩) (fun z2 => br0 (q_z0 (no (fun y => z2 y.2.1)))))) (fun z1 => br0 (q_z0 (no (fun y => z1 y.1))))
    have g1 : w.1 12 p.toNat = A 1 p.toNat := (hE.2.1 p.toNat (by omega)).1
    have g2 : w.1 13 p.toNat = A 2 p.toNat := (hE.2.1 p.toNat (by omega)).2.1
    have g0 : w.1 10 mu.toNat = A 0 mu.toNat := hE.1 mu.toNat (by omega)
    have g5 : w.1 0 33 = A 5 0 := hE.2.2.2.1
    have bb := hB.2.1 p.toNat (by omega)
    have b3 := hB.2.2.1
    have bo := hB.1 mu.toNat (by omega)
    rw [g1]
    refine ci_ends hH hT z2.1 z2.2 ⟨by omega, by omega⟩ (fun z3 => br1 ⟨⟨by omega, by omega⟩, ?_⟩) (fun z3 => br0 (q_z0 (no (fun y => z3 y.2.2.1))))
    rw [g2, g5, w_id (x := A 2 p.toNat) (by omega) (by omega), w_id (x := A 5 0) (by omega) (by omega)]
    refine ⟨fun q => q_z0 (no (fun y => by have := y.2.2.2; omega)), fun q => ?_⟩
    have hk : okm T p mu A := ⟨z1, z2, z3, by omega⟩
    have hO : OK T (w.1 10) := fun r h0 h1 => by
      have := hB.1 r.toNat (by omega)
      have : w.1 10 r.toNat = A 0 r.toNat := hE.1 r.toNat (by omega)
      omega
    have hpy : pys T (-1) (w.1 10) p mu = pys T (-1) (A 0) p mu := by unfold pys; rw [g0]
    have pb := pys_b (fr := -1) (O := A 0) (p := p) hT z2.1 z2.2
    refine ci_pays hH hT hO hf (by omega) ⟨by omega, by omega⟩ z2.1 z2.2 ?_
    rw [hpy, w_id (x := pys T (-1) (A 0) p mu) (by omega) (by omega), g0]
    have i4 : ∀ k, k < 64 → w.1 15 k = A 4 k := fun k hk => hE.2.2.1 k hk
    have i51 : w.1 0 34 = A 5 1 := hE.2.2.2.2.1
    refine ⟨fun q2 => ?_, fun q2 => ?_⟩
    · have ho : A 0 mu.toNat ≠ -1 := fun y => by unfold pys at q2; rw [if_neg (fun z => z.1 y)] at q2; omega
      refine ⟨⟨by omega, by omega⟩, ⟨by omega, by omega⟩, ⟨by omega, by omega⟩, fun w2 e2 w3 e3 => ?_⟩
      refine ci_does_b (A := A) hF hH hT hf hE hB hn hk ?_ (fun k hk => ?_) ?_ (fun w' f' h' => h1 _ (sp_y hk) w' f' h')
      · rw [e3, e2]; exact (Fr.rf.wI _ (by omega)).wI _ (by omega)
      · rw [e3, wI_cell _ _ _ _ (by decide), e2, wI_at]
        show _ = if k = (8 * p + A 0 mu.toNat).toNat then A 4 k + pys T (-1) (A 0) p mu else A 4 k
        by_cases z : k = (8 * p + A 0 mu.toNat).toNat
        · rw [if_pos ⟨rfl, z⟩, if_pos z, ← z, i4 k hk]
        · rw [if_neg (fun y => z y.2), if_neg z, i4 k hk]
      · rw [e3, wI_same, e2, wI_cell _ _ _ _ (by decide), i51]
        rfl
    · have z0 : pys T (-1) (A 0) p mu = 0 := by omega
      refine ci_does_b (A := A) hF hH hT hf hE hB hn hk Fr.rf (fun k hk => ?_) ?_ (fun w' f' h' => h1 _ (sp_y hk) w' f' h')
      · show _ = if k = (8 * p + A 0 mu.toNat).toNat then A 4 k + pys T (-1) (A 0) p mu else A 4 k
        rw [z0, i4 k hk]
        split <;> omega
      · show _ = A 5 1 + pys T (-1) (A 0) p mu
        rw [z0, i51]; omega
  · refine ⟨fun q w2 e2 => q_z1 (h1 _ sp_w w2 ?_ ?_), fun q => absurd (by decide) q⟩
    · rw [e2]; exact Fr.rf.wI _ (by first | (simp [Srun]; done) | (simp only [Srun]; omega))
    · obtain ⟨e0, e1, e4, e50, e51, e52⟩ := hE
      have c : ∀ a b, a ≠ 0 → w2.1 a b = w.1 a b := fun a b h => by rw [e2, wI_cell _ _ _ _ h]
      refine ⟨fun r hr => ?_, fun q hq => ⟨?_, ?_, ?_⟩, fun k hk => ?_, ?_, ?_, ?_⟩
      · exact (c 10 r (by decide)).trans (e0 r hr)
      · exact (c 12 q (by decide)).trans (e1 q hq).1
      · exact (c 13 q (by decide)).trans (e1 q hq).2.1
      · exact (c 14 q (by decide)).trans (e1 q hq).2.2
      · exact (c 15 k (by decide)).trans (e4 k hk)
      · show w2.1 0 33 = A 5 0 + mu
        rw [e2, wI_same]
        have : w.1 0 33 = A 5 0 := e50
        rw [this]
      · show w2.1 0 34 = A 5 1
        rw [e2, wI_idx _ _ _ _ (by decide)]
        exact e51
      · show w2.1 0 35 = A 5 2
        rw [e2, wI_idx _ _ _ _ (by decide)]
        exact e52
