/-! PAIRS OF CALLS THAT WRITE: feed, end -/
theorem Inv.now {w w' : AW} (h : Inv w) (hn : Bk w' 35 0) (hi : ∀ j k, (j = 33 ∨ (77 ≤ j ∧ j ≤ 199)) → w'.1 j k = w.1 j k) (h1 : ∀ k, 600 ≤ k → w'.1 1 k = w.1 1 k) (h2 : ∀ s, 1 ≤ s → w'.1 2 s = w.1 2 s ∧ w'.1 3 s = w.1 3 s ∧ w'.1 4 s = w.1 4 s) (h5 : ∀ k, 2 ≤ k → w'.1 5 k = w.1 5 k) (h6 : ∀ k, 464 ≤ k → w'.1 6 k = w.1 6 k) (h7 : ∀ k, 363 ≤ k → w'.1 7 k = w.1 7 k) : Inv w' := by
  refine ⟨hn, fun k hk => ?_⟩
  obtain ⟨i1, i2, i3⟩ := h.2 k hk
  rw [hi 33 k (by omega), hi (77 + 41 * k) 8 (by omega)]
  refine ⟨i1, i2, fun z => (i3 z).eq ⟨(h2 _ (by omega)).1, (h2 _ (by omega)).2.1, (h2 _ (by omega)).2.2, h5 _ (by omega), h5 _ (by omega)⟩ (fun c h1' _ => h1 c (by omega)) (fun c => h6 _ (by omega)) (fun c => h7 _ (by omega)) (fun j c h1' h2' _ => hi j c (by omega))⟩
def ubt (t : Nat → Int) (n v : Int) : Nat → Int := fun k => if n ≤ k ∧ (k : Int) < n + 4 then byt v (k - n.toNat) else t k
theorem ubt_c {t t' : Nat → Int} {n v : Int} (h : ∀ k, k < 600 → t k = t' k ∧ -128 ≤ t' k ∧ t' k ≤ 127) : ∀ k, k < 600 → ubt t n v k = ubt t' n v k ∧ -128 ≤ ubt t' n v k ∧ ubt t' n v k ≤ 127 := by
  intro k hk
  unfold ubt
  by_cases z : n ≤ k ∧ (k : Int) < n + 4
  · rw [if_pos z, if_pos z]
    exact ⟨rfl, tB_b _⟩
  · rw [if_neg z, if_neg z]; exact h k hk
theorem pr_feed {F : Nat} {a b c d e : Int} {w : AW} (hF : FB F) (hI : Inv w) : CI (m_X8_feed F [vR 34, vI a, vI b, vI c, vI d, vI e] w) (fun x w1 => CI (m_X9_feed F [vR 0, vI a, vI b, vI c, vI d, vI e] w1) (fun y w2 => x = y ∧ Inv w2)) := by
  obtain ⟨⟨a1, a2, a3, a4, a5, a6, a7, a8, a9, a10, a11⟩, _⟩ := id hI
  have a1' : 0 ≤ w.1 2 0 ∧ w.1 2 0 ≤ 600 := a1
  have a2' : w.1 35 1 = w.1 2 0 := a2
  generalize hn : w.1 2 0 = n at a1' a2'
  refine wp_X8_feed F a b c d e w _ ?_
  rw [a2', w_id (x := n + 20) (by omega) (by omega)]
  refine ⟨fun q => q_i (wp_X9_feed F a b c d e w _ (fun w1 e1 => ?_)), fun q => ?_⟩
  · have k1 : KQ w w1 := by rw [e1]; exact wI0_KQ
    have hn1 : w1.1 2 0 = n := by rw [k1.1 2 0 (by omega)]; exact hn
    rw [hn1, w_id (x := n + 20) (by omega) (by omega)]
    exact ⟨fun _ => q_i ⟨rfl, hI.Q k1⟩, fun y => absurd q y⟩
  · refine cv_push hF a2' (by omega) (fun w1 f1 n1 t1 => cv_push hF n1 (by omega) (fun w2 f2 n2 t2 => cv_push hF n2 (by omega) (fun w3 f3 n3 t3 => cv_push hF n3 (by omega) (fun w4 f4 n4 t4 => cv_push hF n4 (by omega) (fun w5 f5 n5 t5 => q_i (wp_X9_feed F a b c d e w5 _ (fun v0 e0 => ?_)))))))
    have ff : Fr (fun j k => j = 36 ∨ (j = 35 ∧ k = 1)) w w5 := (((f1.tr f2).tr f3).tr f4).tr f5
    have tt : ∀ k, w5.1 36 k = ubt (ubt (ubt (ubt (ubt (w.1 36) n a) (n + 4) b) (n + 4 + 4) c) (n + 4 + 4 + 4) d) (n + 4 + 4 + 4 + 4) e k := fun k => by
      rw [t5 k]; unfold ubt
      rw [t4 k, t3 k, t2 k, t1 k]
    have f0 : Fr (fun j k => j = 0 ∧ k = 0) w5 v0 := by rw [e0]; exact Fr.rf.wI _ (by omega)
    have hn0 : v0.1 2 0 = n := by rw [f0.I 2 0 (by omega), ff.I 2 0 (by omega)]; exact hn
    rw [hn0, w_id (x := n + 20) (by omega) (by omega)]
    refine ⟨fun y => absurd y q, fun _ => ?_⟩
    refine cv_four hF hn0 (by omega) (fun v1 g1 m1 s1 => cv_four hF m1 (by omega) (fun v2 g2 m2 s2 => cv_four hF m2 (by omega) (fun v3 g3 m3 s3 => cv_four hF m3 (by omega) (fun v4 g4 m4 s4 => cv_four hF m4 (by omega) (fun v5 g5 m5 s5 => q_i ⟨by rw [n5, m5], ?_⟩)))))
    have gg : Fr (fun j k => (j = 1 ∧ k < 600) ∨ (j = 2 ∧ k = 0)) v0 v5 := (((g1.tr g2).tr g3).tr g4).tr g5
    have ss : ∀ k, v5.1 1 k = ubt (ubt (ubt (ubt (ubt (v0.1 1) n a) (n + 4) b) (n + 4 + 4) c) (n + 4 + 4 + 4) d) (n + 4 + 4 + 4 + 4) e k := fun k => by
      rw [s5 k]; unfold ubt
      rw [s4 k, s3 k, s2 k, s1 k]
    have c1 : ∀ k, v0.1 1 k = w.1 1 k := fun k => by rw [f0.I 1 k (by omega), ff.I 1 k (by omega)]
    have base : ∀ k, k < 600 → w.1 36 k = v0.1 1 k ∧ -128 ≤ v0.1 1 k ∧ v0.1 1 k ≤ 127 := fun k hk => by
      have := a9 k hk
      rw [show 600 * 0 + k = k from by omega] at this
      rw [c1]; exact this
    have all := ubt_c (n := n + 4 + 4 + 4 + 4) (v := e) (ubt_c (n := n + 4 + 4 + 4) (v := d) (ubt_c (n := n + 4 + 4) (v := c) (ubt_c (n := n + 4) (v := b) (ubt_c (n := n) (v := a) base))))
    have keep : ∀ j k, ¬ ((j = 1 ∧ k < 600) ∨ (j = 2 ∧ k = 0)) → ¬ (j = 0 ∧ k = 0) → ¬ (j = 36 ∨ (j = 35 ∧ k = 1)) → v5.1 j k = w.1 j k := fun j k x1 x2 x3 => by rw [gg.I j k x1, f0.I j k x2, ff.I j k x3]
    have k36 : ∀ k, v5.1 36 k = w5.1 36 k := fun k => by rw [gg.I 36 k (by omega), f0.I 36 k (by omega)]
    refine hI.now ⟨?_, ?_, ?_, ?_, ?_, ?_, ?_, ?_, fun k hk => ?_, fun t ht => ?_, fun d' hd => ?_⟩ (fun j k hj => keep j k (by omega) (by omega) (by omega)) (fun k hk => keep 1 k (by omega) (by omega) (by omega)) (fun s hs => ⟨keep 2 s (by omega) (by omega) (by omega), keep 3 s (by omega) (by omega) (by omega), keep 4 s (by omega) (by omega) (by omega)⟩) (fun k hk => keep 5 k (by omega) (by omega) (by omega)) (fun k hk => keep 6 k (by omega) (by omega) (by omega)) (fun k hk => keep 7 k (by omega) (by omega) (by omega))
    · rw [m5]; omega
    · rw [m5, gg.I 35 1 (by omega), f0.I 35 1 (by omega), n5]
    · rw [keep 35 2 (by omega) (by omega) (by omega), keep 3 0 (by omega) (by omega) (by omega)]; exact a3
    · rw [keep 35 3 (by omega) (by omega) (by omega), keep 4 0 (by omega) (by omega) (by omega)]; exact a4
    · rw [keep 5 _ (by omega) (by omega) (by omega)]; exact a5
    · rw [keep 35 5 (by omega) (by omega) (by omega), keep 5 _ (by omega) (by omega) (by omega)]; exact a6
    · rw [keep 5 _ (by omega) (by omega) (by omega)]; exact a7
    · rw [keep 35 7 (by omega) (by omega) (by omega), keep 5 _ (by omega) (by omega) (by omega)]; exact a8
    · have := all k hk
      rw [← tt, ← ss] at this
      rw [show 600 * 0 + k = k from by omega]
      show v5.1 36 k = _ ∧ _
      rw [k36]
      exact this
    · rw [keep 5 _ (by omega) (by omega) (by omega)] at ht
      have eT : TS v5 0 t = TS w 0 t := by funext i; exact keep 6 _ (by omega) (by omega) (by omega)
      rw [eT]
      exact ⟨(a10 t ht).1, (a10 t ht).2.eq (fun x k y1 y2 => keep x k (by omega) (by omega) (by omega))⟩
    · rw [keep 5 _ (by omega) (by omega) (by omega)] at hd
      have eD : DS v5 0 d' = DS w 0 d' := by funext i; exact keep 7 _ (by omega) (by omega) (by omega)
      rw [eD]
      obtain ⟨d1, d2, d3⟩ := a11 d' hd
      refine ⟨d1, by rw [keep _ 0 (by omega) (by omega) (by omega)]; exact d2, fun k k0 k1 => ?_⟩
      rw [keep _ _ (by omega) (by omega) (by omega), keep _ _ (by omega) (by omega) (by omega)]
      exact d3 k k0 k1
/-- the book and its slot, where only the head is written -/
theorem Bk.head {w w' : AW} (h : Bk w 35 0) (hk : ∀ j k, (1 ≤ j ∧ j ≤ 7) ∨ (35 ≤ j ∧ j ≤ 75) → ¬ (j = 35 ∧ (k = 1 ∨ k = 2 ∨ k = 3)) → ¬ ((j = 2 ∨ j = 3 ∨ j = 4) ∧ k = 0) → w'.1 j k = w.1 j k) (h2 : 0 ≤ w'.1 2 0 ∧ w'.1 2 0 ≤ 600) (e1 : w'.1 35 1 = w'.1 2 0) (e2 : w'.1 35 2 = w'.1 3 0) (e3 : w'.1 35 3 = w'.1 4 0) : Bk w' 35 0 := by
  obtain ⟨a1, a2, a3, a4, a5, a6, a7, a8, a9, a10, a11⟩ := h
  refine ⟨h2, e1, e2, e3, by rw [hk 5 _ (by omega) (by omega) (by omega)]; exact a5, by rw [hk 5 _ (by omega) (by omega) (by omega), hk 35 5 (by omega) (by omega) (by omega)]; exact a6, by rw [hk 5 _ (by omega) (by omega) (by omega)]; exact a7, by rw [hk 5 _ (by omega) (by omega) (by omega), hk 35 7 (by omega) (by omega) (by omega)]; exact a8, fun k hk' => by rw [hk 1 _ (by omega) (by omega) (by omega), hk (35 + 1) k (by omega) (by omega) (by omega)]; exact a9 k hk', fun t ht => ?_, fun d hd => ?_⟩
  · rw [hk 5 _ (by omega) (by omega) (by omega)] at ht
    have eT : TS w' 0 t = TS w 0 t := by funext i; exact hk 6 _ (by omega) (by omega) (by omega)
    rw [eT]
    exact ⟨(a10 t ht).1, (a10 t ht).2.eq (fun x k y1 y2 => hk x k (by omega) (by omega) (by omega))⟩
  · rw [hk 5 _ (by omega) (by omega) (by omega)] at hd
    have eD : DS w' 0 d = DS w 0 d := by funext i; exact hk 7 _ (by omega) (by omega) (by omega)
    rw [eD]
    obtain ⟨d1, d2, d3⟩ := a11 d hd
    refine ⟨d1, by rw [hk _ 0 (by omega) (by omega) (by omega)]; exact d2, fun k k0 k1 => ?_⟩
    rw [hk _ _ (by omega) (by omega) (by omega), hk _ _ (by omega) (by omega) (by omega)]
    exact d3 k k0 k1
theorem Inv.head {w w' : AW} (h : Inv w) (hk : ∀ j k, (1 ≤ j ∧ j ≤ 7) ∨ (33 ≤ j ∧ j ≤ 199) → ¬ (j = 35 ∧ (k = 1 ∨ k = 2 ∨ k = 3)) → ¬ ((j = 2 ∨ j = 3 ∨ j = 4) ∧ k = 0) → w'.1 j k = w.1 j k) (h2 : 0 ≤ w'.1 2 0 ∧ w'.1 2 0 ≤ 600) (e1 : w'.1 35 1 = w'.1 2 0) (e2 : w'.1 35 2 = w'.1 3 0) (e3 : w'.1 35 3 = w'.1 4 0) : Inv w' :=
  h.now (h.1.head (fun j k h1 => hk j k (by omega)) h2 e1 e2 e3) (fun j k hj => hk j k (by omega) (by omega) (by omega)) (fun k hk' => hk 1 k (by omega) (by omega) (by omega)) (fun s hs => ⟨hk 2 s (by omega) (by omega) (by omega), hk 3 s (by omega) (by omega) (by omega), hk 4 s (by omega) (by omega) (by omega)⟩) (fun k hk' => hk 5 k (by omega) (by omega) (by omega)) (fun k hk' => hk 6 k (by omega) (by omega) (by omega)) (fun k hk' => hk 7 k (by omega) (by omega) (by omega))
theorem pr_end {F : Nat} {a : Int} {w : AW} (hI : Inv w) (ha : iR a) : CI (m_X8_end F [vR 34, vI a] w) (fun x w1 => CI (m_X9_end F [vR 0, vI a] w1) (fun y w2 => x = y ∧ Inv w2)) := by
  obtain ⟨a1, a2, a3, a4, _⟩ := id hI.1
  have a1' : 0 ≤ w.1 2 0 ∧ w.1 2 0 ≤ 600 := a1
  have a2' : w.1 35 1 = w.1 2 0 := a2
  have a3' : w.1 35 2 = w.1 3 0 := a3
  have a4' : w.1 35 3 = w.1 4 0 := a4
  have no : ¬ (0 ≤ a ∧ a ≤ w.1 2 0) → CI (m_X9_end F [vR 0, vI a] w) (fun y w2 => -1 = y ∧ Inv w2) := by
    intro hz
    refine wp_X9_end F a w _ (fun w1 e1 => ?_)
    have k1 : KQ w w1 := by rw [e1]; exact wI0_KQ
    rw [k1.1 2 0 (by omega)]
    exact ci_in ha (by decide) ⟨by omega, by omega⟩ (fun y => absurd y hz) (fun y => br0 (q_i ⟨rfl, hI.Q k1⟩))
  refine wp_X8_end F a w _ ?_
  rw [a2', w_id ha.1 ha.2, w_id (x := w.1 2 0) (by omega) (by omega)]
  refine ⟨fun q => q_i (no (by omega)), fun q => ⟨fun q2 => q_i (no (by omega)), fun q2 w1 e1 => q_i (wp_X9_end F a w1 _ (fun w2 e2 => ?_))⟩⟩
  have h2 : w2.1 2 0 = w.1 2 0 := by rw [e2, wI_cell _ _ _ _ (by decide), e1, wI_cell _ _ _ _ (by decide)]
  rw [h2]
  refine ci_in ha (by decide) ⟨by omega, by omega⟩ (fun y => br1 (fun w3 e3 => q_i ⟨rfl, ?_⟩)) (fun y => absurd ⟨by omega, by omega⟩ y)
  refine hI.head (fun j k h1 h2 h3 => ?_) ?_ ?_ ?_ ?_
  · rw [e3, wI_at, if_neg (by omega), e2, wI_at, if_neg (by omega), e1, wI_at, if_neg (by omega)]
  · rw [e3, wI_same]; omega
  · rw [e3, wI_same, wI_cell _ _ _ _ (by decide), e2, wI_cell _ _ _ _ (by decide), e1, wI_same]
  · rw [e3, wI_cell _ _ _ _ (by decide), wI_cell _ _ _ _ (by decide), e2, wI_cell _ _ _ _ (by decide), wI_cell _ _ _ _ (by decide), e1, wI_idx _ _ _ _ (by decide), wI_cell _ _ _ _ (by decide)]; exact a3'
  · rw [e3, wI_cell _ _ _ _ (by decide), wI_cell _ _ _ _ (by decide), e2, wI_cell _ _ _ _ (by decide), wI_cell _ _ _ _ (by decide), e1, wI_idx _ _ _ _ (by decide), wI_cell _ _ _ _ (by decide)]; exact a4'
