/-! TEXTS: the reference's tokens -/
theorem bAnd255 {c : Int} (h0 : -128 ≤ c) (h1 : c ≤ 127) : bAnd c 255 = if c < 0 then c + 256 else c := by
  have key : ∀ i : Fin 256, bAnd ((i.val : Int) - 128) 255 = if ((i.val : Int) - 128) < 0 then ((i.val : Int) - 128) + 256 else ((i.val : Int) - 128) := by decide +kernel
  have := key ⟨(c + 128).toNat, by omega⟩
  simp only [] at this
  rw [show (((c + 128).toNat : Nat) : Int) - 128 = c from by omega] at this
  exact this
theorem lor_shl {W c : Int} (h0 : 0 ≤ W) (h1 : W < 36028797018963968) (c0 : 0 ≤ c) (c1 : c < 256) : lOr (lShl W 8) c = W * 256 + c := by
  unfold lOr lShl
  have e8 : ((Int32.ofInt 8).toInt64 &&& 63) = 8 := by decide
  rw [e8, Int64.ofInt_toInt]
  obtain ⟨n, rfl⟩ := Int.eq_ofNat_of_zero_le h0
  obtain ⟨m, rfl⟩ := Int.eq_ofNat_of_zero_le c0
  have hb : (Int64.ofInt (n : Int) <<< 8 ||| Int64.ofInt (m : Int)).toBitVec = BitVec.ofNat 64 (n * 256 + m) := by
    rw [Int64.toBitVec_or, Int64.toBitVec_shiftLeft]
    rw [Int64.toBitVec_ofInt, Int64.toBitVec_ofInt, BitVec.ofInt_natCast, BitVec.ofInt_natCast]
    apply BitVec.eq_of_toNat_eq
    have : ((8 : Int64).toBitVec.smod 64) = 8#64 := by decide
    rw [this]
    simp only [BitVec.toNat_or, BitVec.toNat_shiftLeft, BitVec.toNat_ofNat, BitVec.shiftLeft_eq']
    have e1 : n % 2 ^ 64 = n := Nat.mod_eq_of_lt (by omega)
    have e2 : m % 2 ^ 64 = m := Nat.mod_eq_of_lt (by omega)
    rw [e1, e2]
    have e3 : n <<< (8 % 2 ^ 64) = n * 256 := by rw [Nat.shiftLeft_eq]
    rw [e3, Nat.mod_eq_of_lt (by omega), Nat.mod_eq_of_lt (by omega)]
    have := Nat.shiftLeft_add_eq_or_of_lt (a := n) (i := 8) (b := m) (by omega)
    rw [Nat.shiftLeft_eq] at this
    exact this.symm
  have : (Int64.ofInt (n : Int) <<< 8 ||| Int64.ofInt (m : Int)).toInt = (BitVec.ofNat 64 (n * 256 + m)).toInt := by rw [← hb]; rfl
  rw [this, BitVec.toInt_eq_toNat_bmod, BitVec.toNat_ofNat, Nat.mod_eq_of_lt (by omega), Int.bmod_def]
  omega
def ub (c : Int) : Int := if c < 0 then c + 256 else c
def RTr (w : AW) (b : Nat → Int) (N : Int) : Prop := w.1 0 9 = N ∧ ∀ k, k < 600 → w.1 1 k = b k
abbrev Str (j k : Nat) : Prop := j = 0 ∧ 8 ≤ k ∧ k ≤ 13 ∧ k ≠ 9
theorem RTr.fr {w w' : AW} {b : Nat → Int} {N : Int} {S : Nat → Nat → Prop} (h : RTr w b N) (f : Fr S w w') (h1 : ∀ k, ¬ S 1 k) (h2 : ¬ S 0 9) : RTr w' b N := ⟨by rw [f.I 0 9 h2]; exact h.1, fun k hk => by rw [f.I 1 k (h1 k)]; exact h.2 k hk⟩
theorem ci_see {F : Nat} {a N : Int} {b : Nat → Int} {w : AW} {P : Int → AW → Prop} (hB : BB b N) (hR : RTr w b N) (ha : w.1 0 8 = a) (h0 : 0 ≤ a ∧ a ≤ N) (h1 : a < N → P (ub (b a.toNat)) w) (h2 : ¬ a < N → P (-1) w) : CI (m_X9_see F [vR 0] w) P := by
  have hb := hB.2
  refine wp_X9_see F w _ ?_
  rw [ha, hR.1, w_id (x := a) (by omega) (by omega), w_id (x := N) (by omega) (by omega)]
  refine ⟨fun q => ⟨⟨by omega, by omega⟩, q_i ?_⟩, fun q => q_i (h2 q)⟩
  have hc := hB.1 a.toNat (by omega)
  rw [hR.2 a.toNat (by omega), bAnd255 hc.1 hc.2]
  exact h1 q
def wd (b : Nat → Int) (s : Int) : Nat → Int
  | 0 => 0
  | k + 1 => wd b s k * 256 + b (s + k).toNat
noncomputable def wrd (b : Nat → Int) (N s : Int) : Int := if sc ltr b N s - s ≤ 8 then wd b s (sc ltr b N s - s).toNat else 0
def rtk (c : Int) : Int := if c = 0 then 0 else if c = 4 then 1 else c + 1
theorem wd_b {b : Nat → Int} {s : Int} : ∀ k : Nat, (∀ i : Nat, i < k → ltr (b (s + i).toNat)) → 0 ≤ wd b s k ∧ 255 * wd b s k + 122 ≤ 122 * 256 ^ k
  | 0, _ => ⟨by show (0 : Int) ≤ 0; omega, by show 255 * (0 : Int) + 122 ≤ 122 * 1; omega⟩
  | k + 1, h => by
    have h1 := wd_b k (fun i hi => h i (by omega))
    have h2 := h k (by omega)
    unfold ltr at h2
    have e : wd b s (k + 1) = wd b s k * 256 + b (s + k).toNat := rfl
    rw [e, Int.pow_succ]
    omega
theorem ub_r {c : Int} (h : -128 ≤ c ∧ c ≤ 127) : 0 ≤ ub c ∧ ub c ≤ 255 ∧ (ltr (ub c) ↔ ltr c) ∧ (dgt (ub c) ↔ dgt c) ∧ (ub c = 10 ↔ c = 10) ∧ (ub c = 32 ↔ c = 32) ∧ (ub c = 59 ↔ c = 59) ∧ (ltr c ∨ dgt c → ub c = c) := by
  unfold ub ltr dgt
  split <;> omega
theorem cv_word {F : Nat} {s N x : Int} {b : Nat → Int} {w : AW} {P : AW → Prop} (hF : FB F) (hB : BB b N) (hR : RTr w b N) (ha : w.1 0 8 = s) (h0 : 0 ≤ s ∧ s ≤ N) (hw : w.2.1 0 13 = 0) (hp : ∀ w', Fr (fun j k => j = 0 ∧ (k = 8 ∨ k = 11 ∨ k = 13)) w w' → w'.1 0 11 = 2 → w'.1 0 8 = sc ltr b N s → w'.2.1 0 13 = wrd b N s → P w') : TT (k_X9_token_74 F F [vR 0, vI x, vI 0] [] w) (qq 0 (fun r w => r = none ∧ P w)) := by
  have hb := hB.2
  refine tt_for (K := k_X9_token_74 F) N (fun i w' l => Fr (fun j k => j = 0 ∧ (k = 8 ∨ k = 11 ∨ k = 13)) w w' ∧ l = [vR 0, vI x, vI (i - s)] ∧ s ≤ i ∧ i ≤ N ∧ w'.1 0 8 = i ∧ (i - s ≤ 8 → w'.2.1 0 13 = wd b s (i - s).toNat) ∧ (∀ k : Nat, (k : Int) < i - s → ltr (b (s + k).toNat)) ∧ sc ltr b N s = sc ltr b N i) ?_ F s _ w (by omega) ⟨Fr.rf, by rw [Int.sub_self], by omega, by omega, ha, fun _ => by rw [Int.sub_self, hw]; rfl, fun k hk => by omega, rfl⟩
  rintro n i l w2 ⟨f2, rfl, hi0, hi1, g8, g13, hl, hs⟩ hk
  have hR2 : RTr w2 b N := hR.fr f2 (by intro k; omega) (by omega)
  have fin : sc ltr b N i = i → (∀ V, V = (if i - s ≤ 8 then wd b s (i - s).toNat else 0) → TT (k_X9_token_136 F [vR 0, vI x, vI (i - s)] [vL V, vR 0] w2) (qq 0 (fun r w => r = none ∧ P w))) := by
    intro hstop V hV
    have hse : sc ltr b N s = i := by rw [hs, hstop]
    refine wp_X9_token_136 F x (i - s) V w2 _ (fun w3 e3 w4 e4 => q_v (hp w4 ?_ ?_ ?_ ?_))
    · rw [e4, e3]; exact (f2.wL _ (by omega)).wI _ (by omega)
    · rw [e4, wI_same]
    · rw [e4, wI_idx _ _ _ _ (by decide), e3, wL_I, hse]; exact g8
    · rw [e4, wI_L, e3, wL_at, if_pos ⟨rfl, rfl⟩, hV]
      unfold wrd
      rw [hse]
  rw [ks_X9_token_74]
  refine wp_X9_token_74 F _ x (i - s) w2 _ ?_
  refine ci_see hB hR2 g8 (by omega) (fun q => ?_) (fun q => ?_)
  · have hc := hB.1 i.toNat (by omega)
    obtain ⟨u1, u2, u3, u4, u5, u6, u7, u8⟩ := ub_r hc
    refine ci_in ⟨by omega, by omega⟩ (by decide) (by decide) (fun y => br1 ?_) (fun y => br0 ?_)
    · have yl : ltr (b i.toNat) := u3.mp y
      have ue := u8 (Or.inl yl)
      refine ci_see hB hR2 g8 (by omega) (fun _ w3 e3 w4 e4 => hk _ _ ⟨by rw [e4, e3]; exact (f2.wL _ (by omega)).wI _ (by omega), by rw [show i + 1 - s = i - s + 1 from by omega], by omega, by omega, by rw [e4, wI_same, e3, wL_I, g8], fun z => ?_, fun k hk2 => ?_, by rw [hs, sc_step ⟨q, yl⟩]⟩ q) (fun y2 => absurd q y2)
      · rw [e4, wI_L, e3, wL_at, if_pos ⟨rfl, rfl⟩, g13 (by omega), ue, w_id (x := b i.toNat) (by omega) (by omega)]
        have hwb := wd_b (b := b) (s := s) (i - s).toNat (fun k hk2 => hl k (by omega))
        have hpw : (256 : Int) ^ (i - s).toNat ≤ 72057594037927936 := by
          have : (i - s).toNat = 0 ∨ (i - s).toNat = 1 ∨ (i - s).toNat = 2 ∨ (i - s).toNat = 3 ∨ (i - s).toNat = 4 ∨ (i - s).toNat = 5 ∨ (i - s).toNat = 6 ∨ (i - s).toNat = 7 := by omega
          rcases this with e | e | e | e | e | e | e | e <;> rw [e] <;> decide
        unfold ltr at yl
        rw [lor_shl hwb.1 (by omega) (by omega) (by omega), show (i + 1 - s).toNat = (i - s).toNat + 1 from by omega]
        show _ = wd b s (i - s).toNat * 256 + b (s + ((i - s).toNat : Int)).toNat
        rw [show s + ((i - s).toNat : Int) = i from by omega]
      · by_cases zk : (k : Int) = i - s
        · rw [zk, show s + (i - s) = i from by omega]; exact yl
        · exact hl k (by omega)
    · have hst : sc ltr b N i = i := sc_stop (fun z => y (u3.mpr z.2))
      rw [w_id (x := i - s) (by omega) (by omega)]
      exact ⟨fun z => fin hst 0 (by rw [if_neg (by omega)]), fun z => fin hst _ (by rw [if_pos (by omega)]; exact g13 (by omega))⟩
  · have hst : sc ltr b N i = i := sc_stop (fun z => q z.1)
    refine ci_in (by decide) (by decide) (by decide) (fun y => by omega) (fun y => br0 ?_)
    rw [w_id (x := i - s) (by omega) (by omega)]
    exact ⟨fun z => fin hst 0 (by rw [if_neg (by omega)]), fun z => fin hst _ (by rw [if_pos (by omega)]; exact g13 (by omega))⟩
theorem cv_numb {F : Nat} {s N x : Int} {b : Nat → Int} {w : AW} {P : AW → Prop} (hF : FB F) (hB : BB b N) (hR : RTr w b N) (ha : w.1 0 8 = s) (h0 : 0 ≤ s ∧ s ≤ N) (hw : w.1 0 12 = 0) (hp : ∀ w', Fr (fun j k => j = 0 ∧ (k = 8 ∨ k = 11 ∨ k = 12)) w w' → w'.1 0 11 = (if sc dgt b N s - s ≤ 3 then 3 else 1) → w'.1 0 8 = sc dgt b N s → (sc dgt b N s - s ≤ 3 → w'.1 0 12 = vv b s (sc dgt b N s - s).toNat) → P w') : TT (k_X9_token_163 F F [vR 0, vI x, vI 0] [] w) (qq 0 (fun r w => r = none ∧ P w)) := by
  have hb := hB.2
  refine tt_for (K := k_X9_token_163 F) N (fun i w' l => Fr (fun j k => j = 0 ∧ (k = 8 ∨ k = 11 ∨ k = 12)) w w' ∧ l = [vR 0, vI x, vI (i - s)] ∧ s ≤ i ∧ i ≤ N ∧ w'.1 0 8 = i ∧ (i - s ≤ 3 → w'.1 0 12 = vv b s (i - s).toNat) ∧ sc dgt b N s = sc dgt b N i) ?_ F s _ w (by omega) ⟨Fr.rf, by rw [Int.sub_self], by omega, by omega, ha, fun _ => by rw [Int.sub_self, hw]; rfl, rfl⟩
  rintro n i l w2 ⟨f2, rfl, hi0, hi1, g8, g12, hs⟩ hk
  have hR2 : RTr w2 b N := hR.fr f2 (by intro k; omega) (by omega)
  have fin : sc dgt b N i = i → (∀ V, V = (if i - s ≤ 3 then 3 else 1) → TT (k_X9_token_235 F [vR 0, vI x, vI (i - s)] [vI V, vR 0] w2) (qq 0 (fun r w => r = none ∧ P w))) := by
    intro hstop V hV
    have hse : sc dgt b N s = i := by rw [hs, hstop]
    refine wp_X9_token_235 F x (i - s) V w2 _ (fun w3 e3 => q_v (hp w3 ?_ ?_ ?_ (fun z => ?_)))
    · rw [e3]; exact f2.wI _ (by omega)
    · rw [e3, wI_same, hV, hse]
    · rw [e3, wI_idx _ _ _ _ (by decide), hse]; exact g8
    · rw [hse] at z ⊢
      rw [e3, wI_idx _ _ _ _ (by decide)]; exact g12 z
  have stp : sc dgt b N i = i → ((3 < w32 (i - s) → TT (k_X9_token_235 F [vR 0, vI x, vI (i - s)] [vI 1, vR 0] w2) (qq 0 (fun r w => r = none ∧ P w))) ∧ (¬ 3 < w32 (i - s) → TT (k_X9_token_235 F [vR 0, vI x, vI (i - s)] [vI 3, vR 0] w2) (qq 0 (fun r w => r = none ∧ P w)))) := by
    intro hst
    rw [w_id (x := i - s) (by omega) (by omega)]
    exact ⟨fun z => fin hst 1 (by rw [if_neg (by omega)]), fun z => fin hst 3 (by rw [if_pos (by omega)])⟩
  rw [ks_X9_token_163]
  refine wp_X9_token_163 F _ x (i - s) w2 _ ?_
  refine ci_see hB hR2 g8 (by omega) (fun q => ?_) (fun q => ?_)
  · have hc := hB.1 i.toNat (by omega)
    obtain ⟨u1, u2, u3, u4, u5, u6, u7, u8⟩ := ub_r hc
    refine ci_in ⟨by omega, by omega⟩ (by decide) (by decide) (fun y => br1 ?_) (fun y => br0 (stp (sc_stop (fun z => y (u4.mpr z.2)))))
    have yl : dgt (b i.toNat) := u4.mp y
    have ue := u8 (Or.inr yl)
    have nx : ∀ V, (i + 1 - s ≤ 3 → V = vv b s (i + 1 - s).toNat) → TT (k_X9_token_205 F (k_X9_token_163 F n) [vR 0, vI x, vI (i - s)] [vI V, vR 0] w2) (qq 0 (fun r w => r = none ∧ P w)) := by
      intro V hV
      refine wp_X9_token_205 F _ x (i - s) V w2 _ (fun w3 e3 w4 e4 => hk _ _ ⟨by rw [e4, e3]; exact (f2.wI _ (by omega)).wI _ (by omega), by rw [show i + 1 - s = i - s + 1 from by omega], by omega, by omega, by rw [e4, wI_same, e3, wI_idx _ _ _ _ (by decide), g8], fun z => ?_, by rw [hs, sc_step ⟨q, yl⟩]⟩ q)
      rw [e4, wI_idx _ _ _ _ (by decide), e3, wI_same]; exact hV z
    rw [w_id (x := i - s) (by omega) (by omega)]
    refine ⟨fun z => ci_see hB hR2 g8 (by omega) (fun _ => nx _ (fun z2 => ?_)) (fun y2 => absurd q y2), fun z => nx _ (fun z2 => by omega)⟩
    rw [g12 (by omega), ue, show (i + 1 - s).toNat = (i - s).toNat + 1 from by omega]
    show _ = vv b s (i - s).toNat * 10 + b (s + ((i - s).toNat : Int)).toNat - 48
    rw [show s + ((i - s).toNat : Int) = i from by omega]
    omega
  · exact ci_in (by decide) (by decide) (by decide) (fun y => by omega) (fun y => br0 (stp (sc_stop (fun z => q z.1))))
theorem cv_token {F : Nat} {a N : Int} {b : Nat → Int} {w : AW} {P : AW → Prop} (hF : FB F) (hB : BB b N) (hR : RTr w b N) (ha : w.1 0 8 = a) (h0 : 0 ≤ a ∧ a ≤ N) (hp : ∀ w', Fr Str w w' → w'.1 0 10 = stt b N a → w'.1 0 11 = rtk (tks b N (stt b N a)) → (tks b N (stt b N a) = 1 ∨ tks b N (stt b N a) = 2 ∨ tks b N (stt b N a) = 3 → w'.1 0 8 = ten b N (stt b N a)) → (tks b N (stt b N a) = 2 → w'.1 0 12 = vll b N (stt b N a)) → (tks b N (stt b N a) = 1 → w'.2.1 0 13 = wrd b N (stt b N a)) → P w') : CV (m_X9_token F [vR 0] w) P := by
  refine wp_X9_token F w _ ?_
  have hb := hB.2
  refine tt_for (K := k_X9_token_0 F) N (fun i w' l => Fr Str w w' ∧ l = [vR 0, vU, vU] ∧ a ≤ i ∧ i ≤ N ∧ w'.1 0 8 = i ∧ sc blk b N a = sc blk b N i) ?_ F a _ w (by omega) ⟨Fr.rf, rfl, by omega, by omega, ha, rfl⟩
  rintro n i l w2 ⟨f2, rfl, hi0, hi1, g8, hs⟩ hk
  have hR2 : RTr w2 b N := hR.fr f2 (by intro k; simp only [Str]; omega) (by first | (simp [Str]; done) | (simp only [Str]; omega))
  rw [ks_X9_token_0]
  refine wp_X9_token_0 F _ w2 _ ?_
  by_cases q : i < N
  · have hc := hB.1 i.toNat (by omega)
    obtain ⟨u1, u2, u3, u4, u5, u6, u7, u8⟩ := ub_r hc
    have adv : blk (b i.toNat) → TT (k_X9_token_18 F (k_X9_token_0 F n) [vR 0, vU, vU] [] w2) (qq 0 (fun r w => r = none ∧ P w)) := by
      intro hbl
      refine wp_X9_token_18 F _ w2 _ (fun w3 e3 => hk _ _ ⟨by rw [e3]; exact f2.wI _ (by first | (simp [Str]; done) | (simp only [Str]; omega)), rfl, by omega, by omega, by rw [e3, wI_same, g8], by rw [hs, sc_step ⟨q, hbl⟩]⟩ q)
    refine ci_see hB hR2 g8 (by omega) (fun _ => ?_) (fun y => absurd q y)
    rw [w_id (x := ub (b i.toNat)) (by omega) (by omega)]
    refine ⟨fun y => adv (Or.inl (u5.mp y)), fun y => ci_see hB hR2 g8 (by omega) (fun _ => ?_) (fun y => absurd q y)⟩
    rw [w_id (x := ub (b i.toNat)) (by omega) (by omega)]
    refine ⟨fun y2 => adv (Or.inr (u6.mp y2)), fun y2 w3 e3 => ?_⟩
    have hst : sc blk b N i = i := sc_stop (fun z => z.2.elim (fun e => y (u5.mpr e)) (fun e => y2 (u6.mpr e)))
    have hse : stt b N a = i := by unfold stt; rw [hs, hst]
    rw [hse] at hp
    have f3 : Fr Str w w3 := by rw [e3]; exact f2.wI _ (by first | (simp [Str]; done) | (simp only [Str]; omega))
    have t8 : w3.1 0 8 = i := by rw [e3, wI_idx _ _ _ _ (by decide)]; exact g8
    have hR3 : RTr w3 b N := hR.fr f3 (by intro k; simp only [Str]; omega) (by first | (simp [Str]; done) | (simp only [Str]; omega))
    refine ci_see hB hR3 t8 (by omega) (fun _ w4 e4 => ?_) (fun y => absurd q y)
    have f4 : Fr Str w w4 := by rw [e4]; exact f3.wL _ (by first | (simp [Str]; done) | (simp only [Str]; omega))
    have hR4 : RTr w4 b N := hR.fr f4 (by intro k; simp only [Str]; omega) (by first | (simp [Str]; done) | (simp only [Str]; omega))
    have s8 : w4.1 0 8 = i := by rw [e4, wL_I]; exact t8
    have s10 : w4.1 0 10 = i := by rw [e4, wL_I, e3, wI_same]; exact g8
    have s13 : w4.2.1 0 13 = 0 := by rw [e4, wL_at, if_pos ⟨rfl, rfl⟩]
    rw [w_id (x := ub (b i.toNat)) (by omega) (by omega)]
    refine ⟨fun y3 => by omega, fun _ => ci_in ⟨by omega, by omega⟩ (by decide) (by decide) (fun y3 => br1 ?_) (fun y3 => br0 ?_)⟩
    · have ht := tks_1 q (u3.mp y3)
      refine cv_word hF hB hR4 s8 (by omega) s13 (fun w5 f5 p11 p8 p13 => hp w5 (f4.tr (f5.wk (by intro j k; simp only [Str]; omega))) ?_ ?_ (fun _ => by rw [p8, ht.2]) (fun z => by rw [ht.1] at z; omega) (fun _ => p13))
      · rw [f5.I 0 10 (by omega)]; exact s10
      · rw [p11, ht.1]; rfl
    · have nl : ¬ ltr (b i.toNat) := fun z => y3 (u3.mpr z)
      refine ci_in ⟨by omega, by omega⟩ (by decide) (by decide) (fun y4 => br1 (fun w5 e5 => ?_)) (fun y4 => br0 (fun w5 e5 => ?_))
      · have ht := tks_2 q nl (u4.mp y4)
        have f5 : Fr Str w w5 := by rw [e5]; exact f4.wI _ (by first | (simp [Str]; done) | (simp only [Str]; omega))
        have hR5 : RTr w5 b N := hR.fr f5 (by intro k; simp only [Str]; omega) (by first | (simp [Str]; done) | (simp only [Str]; omega))
        refine cv_numb (s := i) hF hB hR5 (by rw [e5, wI_idx _ _ _ _ (by decide)]; exact s8) (by omega) (by rw [e5, wI_same]) (fun w6 f6 p11 p8 p12 => hp w6 (f5.tr (f6.wk (by intro j k; simp only [Str]; omega))) ?_ ?_ (fun _ => by rw [p8, ht.2]) (fun z => ?_) (fun z => ?_))
        · rw [f6.I 0 10 (by omega), e5, wI_idx _ _ _ _ (by decide)]; exact s10
        · rw [p11, ht.1]
          by_cases zz : sc dgt b N i - i ≤ 3
          · rw [if_pos zz, if_pos zz]; rfl
          · rw [if_neg zz, if_neg zz]; rfl
        · rw [ht.1] at z
          exact p12 (by by_cases zz : sc dgt b N i - i ≤ 3; · exact zz
                        · rw [if_neg zz] at z; omega)
        · rw [ht.1] at z
          split at z <;> omega
      · have nd : ¬ dgt (b i.toNat) := fun z => y4 (u4.mpr z)
        have ht := tks_3 q nl nd
        have f5 : Fr Str w w5 := by rw [e5]; exact f4.wI _ (by first | (simp [Str]; done) | (simp only [Str]; omega))
        refine ⟨fun y5 w6 e6 => q_v ?_, fun y5 w6 e6 => q_v ?_⟩
        · rw [if_pos (u7.mp y5)] at ht
          refine hp w6 (by rw [e6]; exact f5.wI _ (by first | (simp [Str]; done) | (simp only [Str]; omega))) ?_ ?_ (fun _ => ?_) (fun z => by rw [ht.1] at z; omega) (fun z => by rw [ht.1] at z; omega)
          · rw [e6, wI_idx _ _ _ _ (by decide), e5, wI_idx _ _ _ _ (by decide)]; exact s10
          · rw [e6, wI_same, ht.1]; rfl
          · rw [e6, wI_idx _ _ _ _ (by decide), e5, wI_same, s8, ht.2]
        · rw [if_neg (fun z => y5 (u7.mpr z))] at ht
          refine hp w6 (by rw [e6]; exact f5.wI _ (by first | (simp [Str]; done) | (simp only [Str]; omega))) ?_ ?_ (fun z => by rw [ht.1] at z; omega) (fun z => by rw [ht.1] at z; omega) (fun z => by rw [ht.1] at z; omega)
          · rw [e6, wI_idx _ _ _ _ (by decide), e5, wI_idx _ _ _ _ (by decide)]; exact s10
          · rw [e6, wI_same, ht.1]; rfl
  · have hst : sc blk b N i = i := sc_stop (fun z => q z.1)
    have hse : stt b N a = i := by unfold stt; rw [hs, hst]
    rw [hse] at hp
    refine ci_see hB hR2 g8 (by omega) (fun y => absurd y q) (fun _ => ⟨fun y => absurd y (by decide), fun _ => ci_see hB hR2 g8 (by omega) (fun y => absurd y q) (fun _ => ⟨fun y => absurd y (by decide), fun _ w3 e3 => ?_⟩)⟩)
    have f3 : Fr Str w w3 := by rw [e3]; exact f2.wI _ (by first | (simp [Str]; done) | (simp only [Str]; omega))
    have t8 : w3.1 0 8 = i := by rw [e3, wI_idx _ _ _ _ (by decide)]; exact g8
    have hR3 : RTr w3 b N := hR.fr f3 (by intro k; simp only [Str]; omega) (by first | (simp [Str]; done) | (simp only [Str]; omega))
    have ht := tks_0 (b := b) q
    refine ci_see hB hR3 t8 (by omega) (fun y => absurd y q) (fun _ w4 e4 => ⟨fun _ w5 e5 => q_v ?_, fun y => absurd (by decide) y⟩)
    refine hp w5 (by rw [e5, e4]; exact (f3.wL _ (by first | (simp [Str]; done) | (simp only [Str]; omega))).wI _ (by first | (simp [Str]; done) | (simp only [Str]; omega))) ?_ ?_ (fun z => by rw [ht] at z; omega) (fun z => by rw [ht] at z; omega) (fun z => by rw [ht] at z; omega)
    · rw [e5, wI_idx _ _ _ _ (by decide), e4, wL_I, e3, wI_same]; exact g8
    · rw [e5, wI_same, ht]; rfl
