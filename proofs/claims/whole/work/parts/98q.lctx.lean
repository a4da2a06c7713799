/-! TEXTS: the reference, within a line -/
def LC (w : AW) (b : Nat → Int) (N : Int) (L : Nat) (S : Nat → Int) (s : Int) (f0 : Int × Int) (o : Nat) (ll hh : Nat → Int) (l : NL) : Prop :=
  ∃ a, RTr w b N ∧ TkA w b N a ∧ (0 ≤ a ∧ a ≤ N) ∧ (∀ k, k < l.length → w.1 9 (o + k) = nv l k ∧ 0 ≤ nv l k ∧ nv l k ≤ 999) ∧ FTS w (ufc L S l f0 l.length) (stt b N a) ∧ rdn b N (nms L) (ten b N s) [] = rdn b N (nms L - l.length) a l ∧ l.length ≤ nms L ∧ ((ufc L S l f0 l.length).1 = 0 → w.1 0 17 = 1) ∧ (w.1 0 17 = 1 → ∀ k, k < l.length → ll k ≤ nv l k ∧ nv l k ≤ hh k) ∧ (w.1 0 17 = 0 ∨ w.1 0 17 = 1)
theorem ci_takeLx {F : Nat} {L o k : Nat} {s lo hi but N : Int} {b : Nat → Int} {S : Nat → Int} {f0 : Int × Int} {ll hh : Nat → Int} {l : NL} {w : AW} {P : Int → AW → Prop} (hF : FB F) (hB : BB b N) (hC : LC w b N L S s f0 o ll hh l) (hk : k = o + l.length) (hk4 : k < 4) (hlt : l.length < nms L) (hlo : lo = ll l.length) (hhi : hi = hh l.length) (rlo : iR lo) (rhi : iR hi) (rbut : iR but) (hc : f0.1 = 0 → ∀ v p, 0 ≤ v → v ≤ 999 → ((lo ≤ v ∧ v ≤ hi ∧ v ≠ but) ↔ can L l.length S (l ++ [(v, p)]))) (h0 : ∀ w', Fr Sta w w' → rdn b N (nms L) (ten b N s) [] = .inl (w'.1 0 14) → P 0 w') (h1 : ∀ w' x, Fr Sta w w' → LC w' b N L S s f0 o ll hh (l ++ [x]) → (∀ i, i ≠ k → w'.1 9 i = w.1 9 i) → P 1 w') : CI (m_X9_take F [vR 0, vI k, vI lo, vI hi, vI but] w) P := by
  obtain ⟨a, hR, hT, ha, hn, hfs, hrd, hle, hg1, hg2, hg3⟩ := hC
  have hst := stt_b (b := b) (N := N) ha.2
  have en : nms L - l.length = (nms L - (l.length + 1)) + 1 := by omega
  rw [en] at hrd
  refine ci_take hF hB hR hT ha hfs hk4 rlo rhi rbut (fun ht w1 f1 g14 => h0 w1 f1 ?_) (fun ht w1 f1 hR1 hT1 g9 hcond => h1 w1 (vll b N (stt b N a), stt b N a) f1 ?_ (fun i hi => by rw [g9, if_neg hi]))
  · rw [hrd]
    show (if tks b N (stt b N a) = 2 then _ else _) = _
    rw [if_neg ht, g14]
  · have hte := ten_b (b := b) (N := N) (s := stt b N a) hst.2 (by omega)
    have hv := vll_b (b := b) (N := N) (s := stt b N a) hst.2 ht
    generalize hV : vll b N (stt b N a) = V at *
    generalize hSt : stt b N a = st at *
    have nn := nv_new (l := l) (x := (V, st))
    have len : (l ++ [(V, st)]).length = l.length + 1 := by rw [List.length_append, List.length_singleton]
    have uf : ufc L S (l ++ [(V, st)]) f0 (l.length + 1) = ufs L S (l ++ [(V, st)]) l.length (ufc L S l f0 l.length) := by
      show ufs L S (l ++ [(V, st)]) l.length (ufc L S (l ++ [(V, st)]) f0 l.length) = _
      rw [ufc_app l.length (Nat.le_refl _)]
    have key : (lo ≤ V ∧ V ≤ hi ∧ V ≠ but → FTS w1 (ufc L S (l ++ [(V, st)]) f0 (l.length + 1)) (stt b N (ten b N st)) ∧ w1.1 0 17 = w.1 0 17 ∧ ((ufc L S (l ++ [(V, st)]) f0 (l.length + 1)).1 = 0 → (ufc L S l f0 l.length).1 = 0)) ∧ (¬ (lo ≤ V ∧ V ≤ hi ∧ V ≠ but) → FTS w1 (ufc L S (l ++ [(V, st)]) f0 (l.length + 1)) (stt b N (ten b N st)) ∧ w1.1 0 17 = 0 ∧ (ufc L S (l ++ [(V, st)]) f0 (l.length + 1)).1 ≠ 0) := by
      by_cases z : f0.1 = 0
      · have hcc := hc z V st hv.1 hv.2
        refine ⟨fun y => ?_, fun y => ?_⟩
        · rw [uf, ufs_y (hcc.mp y)]
          exact ⟨(hcond.1 y).1, (hcond.1 y).2, fun q => q⟩
        · rw [uf, ufs_n (fun q => y (hcc.mpr q)), nn.2]
          refine ⟨(hcond.2 y).1, (hcond.2 y).2, ?_⟩
          unfold upf
          by_cases q : (ufc L S l f0 l.length).1 = 0
          · rw [if_pos q]; show (2 : Int) ≠ 0; decide
          · rw [if_neg q]; exact q
      · have e1 := ufc_ne (L := L) (S := S) (l := l) z l.length
        rw [e1] at hcond ⊢
        have e2 := ufc_ne (L := L) (S := S) (l := l ++ [(V, st)]) z (l.length + 1)
        rw [e2]
        refine ⟨fun y => ⟨(hcond.1 y).1, (hcond.1 y).2, fun q => q⟩, fun y => ⟨?_, (hcond.2 y).2, z⟩⟩
        have := (hcond.2 y).1
        rw [upf_ne z] at this
        exact this
    have stn := stt_b (b := b) (N := N) (a := ten b N st) hte.2
    refine ⟨ten b N st, hR1, hT1, by omega, fun j hj => ?_, ?_, ?_, by rw [len]; omega, fun q => ?_, fun q j hj => ?_, ?_⟩
    · rw [len] at hj
      rw [g9]
      by_cases z : j = l.length
      · rw [z, if_pos hk.symm, nn.1]
        exact ⟨rfl, hv⟩
      · rw [if_neg (by omega), (nv_app (l := l) (x := (V, st)) (i := j) (by omega)).1]
        exact hn j (by omega)
    · rw [len]
      by_cases y : lo ≤ V ∧ V ≤ hi ∧ V ≠ but
      · exact (key.1 y).1
      · exact (key.2 y).1
    · rw [hrd, len]
      show (if tks b N (stt b N a) = 2 then _ else _) = _
      rw [hSt, if_pos ht, hV]
    · rw [len] at q
      by_cases y : lo ≤ V ∧ V ≤ hi ∧ V ≠ but
      · rw [(key.1 y).2.1]; exact hg1 ((key.1 y).2.2 q)
      · exact absurd q (key.2 y).2.2
    · rw [len] at hj
      by_cases y : lo ≤ V ∧ V ≤ hi ∧ V ≠ but
      · rw [(key.1 y).2.1] at q
        by_cases z : j = l.length
        · rw [z, nn.1, ← hlo, ← hhi]; exact ⟨y.1, y.2.1⟩
        · rw [(nv_app (l := l) (x := (V, st)) (i := j) (by omega)).1]; exact hg2 q j (by omega)
      · rw [(key.2 y).2.1] at q; omega
    · by_cases y : lo ≤ V ∧ V ≤ hi ∧ V ≠ but
      · rw [(key.1 y).2.1]; exact hg3
      · exact Or.inl (key.2 y).2.1
theorem ci_takeL {F : Nat} {L o k : Nat} {s lo hi but N : Int} {b : Nat → Int} {S : Nat → Int} {f0 : Int × Int} {ll hh : Nat → Int} {l : NL} {w : AW} {P : Int → AW → Prop} (hF : FB F) (hB : BB b N) (hC : LC w b N L S s f0 o ll hh l) (hk : k = o + l.length) (hk4 : k < 4) (hlt : l.length < nms L) (hlo : lo = ll l.length) (hhi : hi = hh l.length) (rlo : iR lo) (rhi : iR hi) (rbut : iR but) (hc : f0.1 = 0 → ∀ v p, 0 ≤ v → v ≤ 999 → ((lo ≤ v ∧ v ≤ hi ∧ v ≠ but) ↔ can L l.length S (l ++ [(v, p)]))) (h0 : ∀ w', Fr Sta w w' → rdn b N (nms L) (ten b N s) [] = .inl (w'.1 0 14) → P 0 w') (h1 : ∀ w' x, Fr Sta w w' → LC w' b N L S s f0 o ll hh (l ++ [x]) → P 1 w') : CI (m_X9_take F [vR 0, vI k, vI lo, vI hi, vI but] w) P :=
  ci_takeLx hF hB hC hk hk4 hlt hlo hhi rlo rhi rbut hc h0 (fun w' x f c _ => h1 w' x f c)
theorem LC.fr {w w' : AW} {b : Nat → Int} {N s : Int} {L o : Nat} {S : Nat → Int} {f0 : Int × Int} {ll hh : Nat → Int} {l : NL} {R : Nat → Nat → Prop} (h : LC w b N L S s f0 o ll hh l) (f : Fr R w w') (h1 : ∀ k, ¬ R 1 k) (h0 : ∀ k, 8 ≤ k → k ≤ 17 → ¬ R 0 k) (h9 : ∀ k, k < l.length → ¬ R 9 (o + k)) : LC w' b N L S s f0 o ll hh l := by
  obtain ⟨a, hR, hT, ha, hn, hfs, hrd, hle, hg1, hg2, hg3⟩ := h
  refine ⟨a, hR.fr f h1 (h0 9 (by omega) (by omega)), hT.fr f (fun k hk => h0 k (by omega) (by omega)), ha, fun k hk => by rw [f.I 9 _ (h9 k hk)]; exact hn k hk, hfs.fr f (h0 _ (by omega) (by omega)) (h0 _ (by omega) (by omega)), hrd, hle, fun q => by rw [f.I 0 17 (h0 _ (by omega) (by omega))]; exact hg1 q, fun q => ?_, by rw [f.I 0 17 (h0 _ (by omega) (by omega))]; exact hg3⟩
  rw [f.I 0 17 (h0 _ (by omega) (by omega))] at q
  exact hg2 q
def mx (x v : Int) : Int := if x < v then v else x
abbrev Spl (j k : Nat) : Prop := j = 9 ∨ (j = 0 ∧ 8 ≤ k ∧ k ≤ 20 ∧ k ≠ 9)
theorem ci_placedL {F : Nat} {L o k : Nat} {s but N : Int} {b : Nat → Int} {S : Nat → Int} {f0 : Int × Int} {ll hh : Nat → Int} {l : NL} {w : AW} {P : Int → AW → Prop} (hF : FB F) (hB : BB b N) (hC : LC w b N L S s f0 o ll hh l) (h20 : -1 ≤ w.1 0 20 ∧ w.1 0 20 ≤ 999) (hk : k = o + l.length) (hk4 : k < 4) (hlt : l.length < nms L) (hlo : 0 = ll l.length) (hhi : 8 = hh l.length) (rbut : iR but) (hc : f0.1 = 0 → ∀ v p, 0 ≤ v → v ≤ 999 → ((0 ≤ v ∧ v ≤ 8 ∧ v ≠ but) ↔ can L l.length S (l ++ [(v, p)]))) (h0 : ∀ w', Fr Spl w w' → rdn b N (nms L) (ten b N s) [] = .inl (w'.1 0 14) → P 0 w') (h1 : ∀ w' x, Fr Spl w w' → LC w' b N L S s f0 o ll hh (l ++ [x]) → w'.1 0 20 = mx (w.1 0 20) x.1 → (0 ≤ x.1 ∧ x.1 ≤ 999) → P 1 w') : CI (m_X9_placed F [vR 0, vI k, vI but] w) P := by
  refine wp_X9_placed F k but w _ (ci_takeL hF hB hC hk hk4 hlt hlo hhi (by decide) (by decide) rbut hc (fun w1 f1 hrd => br0 ?_) (fun w1 x f1 hC1 => br1 ⟨⟨by omega, by omega⟩, ?_⟩))
  · refine wp_X9_placed_37 F k but 0 w1 _ (fun w2 e2 => q_z0 (h0 w2 ?_ ?_))
    · rw [e2]; exact (f1.wk (by intro j k; simp only [Sta, Spl]; omega)).wI _ (by simp [Spl])
    · rw [e2, wI_idx _ _ _ _ (by decide)]; exact hrd
  · have e20 : w1.1 0 20 = w.1 0 20 := f1.I 0 20 (by simp [Sta])
    have hx : w1.1 9 k = x.1 ∧ 0 ≤ x.1 ∧ x.1 ≤ 999 := by
      obtain ⟨a, _, _, _, hn, _⟩ := hC1
      have := hn l.length (by rw [List.length_append, List.length_singleton]; omega)
      rw [nv_new.1, ← hk] at this
      exact this
    rw [Int.toNat_natCast, hx.1, e20, w_id (x := w.1 0 20) (by omega) (by omega), w_id (x := x.1) (by omega) (by omega)]
    refine ⟨fun q => ⟨⟨by omega, by omega⟩, fun w2 e2 => q_z1 (h1 w2 x ?_ ?_ ?_ hx.2)⟩, fun q => wp_X9_placed_37 F k but 1 w1 _ (fun w2 e2 => q_z1 (h1 w2 x ?_ ?_ ?_ hx.2))⟩
    · rw [e2]; exact (f1.wk (by intro j k; simp only [Sta, Spl]; omega)).wI _ (by simp [Spl])
    · rw [e2]; exact hC1.fr (Fr.rf.wI (S := fun j k => j = 0 ∧ k = 20) _ (by omega)) (by intro k; omega) (by intro k h1 h2; omega) (by intro k h1; omega)
    · rw [e2, wI_same]; unfold mx; rw [if_pos q]
    · rw [e2]; exact (f1.wk (by intro j k; simp only [Sta, Spl]; omega)).wI _ (by simp [Spl])
    · rw [e2]; exact hC1.fr (Fr.rf.wI (S := fun j k => j = 0 ∧ k = 20) _ (by omega)) (by intro k; omega) (by intro k h1 h2; omega) (by intro k h1; omega)
    · rw [e2, wI_same]; unfold mx; rw [if_neg q]; exact e20
theorem cv_lay4 {F : Nat} {c n : Nat} {most at' wide : Int} {w : AW} {P : AW → Prop} (hF : FB F) (hc : c < at') (hc4 : c < 4) (hn : n ≤ 4) (hk : 0 ≤ w.1 8 c ∧ w.1 8 c ≤ 1000) (hm : 0 ≤ most ∧ most ≤ 1000) (hat : 0 ≤ at') (hw : 0 ≤ wide ∧ wide ≤ 11) (hin : w.1 8 c < most → 0 ≤ wide * w.1 8 c ∧ at' + wide * w.1 8 c + n ≤ 232) (h0 : ¬ w.1 8 c < most → P w) (h1 : w.1 8 c < most → ∀ w', Fr (fun j _ => j = 8) w w' → (∀ j : Nat, w'.1 8 j = if j = c then w.1 8 c + 1 else if at' + wide * w.1 8 c ≤ j ∧ (j : Int) < at' + wide * w.1 8 c + n then w.1 9 (j - (at' + wide * w.1 8 c).toNat) else w.1 8 j) → P w') : CV (m_X9_lay4 F [vR 0, vI c, vI most, vI at', vI wide, vI n] w) P := by
  by_cases hq : w.1 8 c < most
  · obtain ⟨i0, i1⟩ := hin hq
    refine wp_X9_lay4 F c most at' wide n w _ ⟨⟨by omega, by omega⟩, fun x hx => ?_⟩
    rw [Int.toNat_natCast] at hx
    subst hx
    rw [w_id (x := w.1 8 c) (by omega) (by omega), w_id (x := most) (by omega) (by omega)]
    refine ⟨fun _ => ?_, fun q => absurd hq q⟩
    generalize hB : wide * w.1 8 c = base at *
    refine tt_for (K := k_X9_lay4_17 F) (n : Int) (fun i w' lo => Fr (fun j _ => j = 8) w w' ∧ lo = [vR 0, vI c, vI most, vI at', vI wide, vI n, vI (w.1 8 c), vI i] ∧ 0 ≤ i ∧ i ≤ n ∧ ∀ j : Nat, w'.1 8 j = if at' + base ≤ j ∧ (j : Int) < at' + base + i then w.1 9 (j - (at' + base).toNat) else w.1 8 j) ?_ F 0 _ w (by omega) ⟨Fr.rf, rfl, by omega, by omega, fun j => by rw [if_neg (by omega)]⟩
    rintro m i lo w2 ⟨f2, rfl, hi0, hi1, hw2⟩ hk2
    rw [ks_X9_lay4_17]
    refine wp_X9_lay4_17 F _ c most at' wide n (w.1 8 c) i w2 _ ?_
    rw [w_id (x := i) (by omega) (by omega), w_id (x := (n : Int)) (by omega) (by omega)]
    refine ⟨fun q => ⟨⟨by omega, by omega⟩, ⟨by rw [hB]; omega, by rw [hB]; omega⟩, fun w3 e3 => hk2 _ _ ⟨by rw [e3]; exact f2.wI _ rfl, rfl, by omega, by omega, fun j => ?_⟩ q⟩, fun q => ⟨⟨by omega, by omega⟩, ⟨by omega, by omega⟩, fun w3 e3 => q_v (h1 hq w3 (by rw [e3]; exact f2.wI _ rfl) (fun j => ?_))⟩⟩
    · rw [e3, wI_at, hB, f2.I 9 _ (by decide)]
      by_cases z : j = (at' + base + i).toNat
      · rw [if_pos ⟨rfl, z⟩, if_pos (by omega), show j - (at' + base).toNat = i.toNat from by omega]
      · rw [if_neg (fun y => z y.2), hw2]
        by_cases y : at' + base ≤ j ∧ (j : Int) < at' + base + i
        · rw [if_pos y, if_pos (by omega)]
        · rw [if_neg y, if_neg (by omega)]
    · rw [e3, wI_at, Int.toNat_natCast]
      by_cases z : j = c
      · rw [if_pos ⟨rfl, z⟩, if_pos z, hw2, if_neg (by omega)]
      · rw [if_neg (fun y => z y.2), if_neg z, hw2]
        by_cases y : at' + base ≤ j ∧ (j : Int) < at' + base + i
        · rw [if_pos y, if_pos (by omega)]
        · rw [if_neg y, if_neg (by omega)]
  · refine wp_X9_lay4 F c most at' wide n w _ ⟨⟨by omega, ?_⟩, fun x hx => ?_⟩
    · omega
    · rw [Int.toNat_natCast] at hx
      subst hx
      rw [w_id (x := w.1 8 c) (by omega) (by omega), w_id (x := most) (by omega) (by omega)]
      exact ⟨fun q => absurd q hq, fun _ => q_v (h0 hq)⟩
