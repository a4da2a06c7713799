/-! TEXTS: the reference, takes -/
def TkA (w : AW) (b : Nat → Int) (N a : Int) : Prop := w.1 0 10 = stt b N a ∧ w.1 0 11 = rtk (tks b N (stt b N a)) ∧ (tks b N (stt b N a) = 1 ∨ tks b N (stt b N a) = 2 ∨ tks b N (stt b N a) = 3 → w.1 0 8 = ten b N (stt b N a)) ∧ (tks b N (stt b N a) = 2 → w.1 0 12 = vll b N (stt b N a)) ∧ (tks b N (stt b N a) = 1 → w.2.1 0 13 = wrd b N (stt b N a))
/-- the first fault so far, ahead of c -/
def FTS (w : AW) (f : Int × Int) (c : Int) : Prop := w.1 0 15 = f.1 ∧ (f.1 ≠ 0 → w.1 0 16 = f.2 ∧ 0 ≤ f.2 ∧ f.2 < c) ∧ (0 ≤ f.1 ∧ f.1 ≤ 4) ∧ (f.1 = 0 → f = (0, -1))
def upf (f x : Int × Int) : Int × Int := if f.1 = 0 then x else f
theorem rtk_b {c : Int} (h : 0 ≤ c ∧ c ≤ 4) : 0 ≤ rtk c ∧ rtk c ≤ 4 ∧ (rtk c = 0 ↔ c = 0) ∧ (rtk c = 2 ↔ c = 1) ∧ (rtk c = 3 ↔ c = 2) ∧ (rtk c = 4 ↔ c = 3) := by
  unfold rtk
  split
  · omega
  · split <;> omega
theorem TkA.fr {w w' : AW} {b : Nat → Int} {N a : Int} {S : Nat → Nat → Prop} (h : TkA w b N a) (f : Fr S w w') (hs : ∀ k, (k = 8 ∨ k = 10 ∨ k = 11 ∨ k = 12 ∨ k = 13) → ¬ S 0 k) : TkA w' b N a := by
  obtain ⟨h1, h2, h3, h4, h5⟩ := h
  exact ⟨by rw [f.I 0 10 (hs _ (by omega))]; exact h1, by rw [f.I 0 11 (hs _ (by omega))]; exact h2, fun z => by rw [f.I 0 8 (hs _ (by omega))]; exact h3 z, fun z => by rw [f.I 0 12 (hs _ (by omega))]; exact h4 z, fun z => by rw [f.L 0 13 (hs _ (by omega))]; exact h5 z⟩
theorem FTS.fr {w w' : AW} {f : Int × Int} {c : Int} {S : Nat → Nat → Prop} (h : FTS w f c) (hf : Fr S w w') (h1 : ¬ S 0 15) (h2 : ¬ S 0 16) : FTS w' f c := by
  obtain ⟨a1, a2, a3, a4⟩ := h
  exact ⟨by rw [hf.I 0 15 h1]; exact a1, fun z => by rw [hf.I 0 16 h2]; exact a2 z, a3, a4⟩
theorem FTS.mono {w : AW} {f : Int × Int} {c c' : Int} (h : FTS w f c) (hc : c ≤ c') : FTS w f c' := by
  obtain ⟨a1, a2, a3, a4⟩ := h
  exact ⟨a1, fun z => ⟨(a2 z).1, (a2 z).2.1, by have := (a2 z).2.2; omega⟩, a3, a4⟩
abbrev Sla (j k : Nat) : Prop := j = 0 ∧ (k = 15 ∨ k = 16)
theorem cv_later {F : Nat} {x p c : Int} {f : Int × Int} {w : AW} {P : AW → Prop} (hf : FTS w f p) (hx : 1 ≤ x ∧ x ≤ 4) (hpb : 0 ≤ p ∧ p ≤ 600) (hpc : p < c) (hp : ∀ w', Fr Sla w w' → FTS w' (upf f (x, p)) c → P w') : CV (m_X9_later F [vR 0, vI x, vI p] w) P := by
  obtain ⟨a1, a2, a3, a4⟩ := hf
  unfold upf at hp
  refine wp_X9_later F x p w _ ?_
  rw [a1, w_id (x := f.1) (by omega) (by omega)]
  refine ⟨fun q => ?_, fun q => ?_⟩
  · rw [if_pos q] at hp
    refine wp_X9_later_31 F x p w _ (fun w1 e1 w2 e2 => q_v (hp w2 ?_ ⟨?_, fun _ => ⟨?_, hpb.1, hpc⟩, ⟨by show 0 ≤ x; omega, by show x ≤ 4; omega⟩, fun z => ?_⟩))
    · rw [e2, e1]; exact (Fr.rf.wI _ (by simp [Sla])).wI _ (by simp [Sla])
    · rw [e2, wI_idx _ _ _ _ (by decide), e1, wI_same]
    · rw [e2, wI_same]
    · have z : x = 0 := z
      omega
  · rw [if_neg q] at hp
    obtain ⟨b1, b2, b3⟩ := a2 q
    rw [b1, w_id (x := p) (by omega) (by omega), w_id (x := f.2) (by omega) (by omega)]
    have hfin := hp w Fr.rf ⟨a1, fun _ => ⟨b1, b2, by omega⟩, a3, a4⟩
    exact ⟨fun y => by omega, fun _ => ⟨fun y => by omega, fun _ => q_v hfin⟩⟩
theorem cv_tokenA {F : Nat} {a N : Int} {b : Nat → Int} {w : AW} {P : AW → Prop} (hF : FB F) (hB : BB b N) (hR : RTr w b N) (ha : w.1 0 8 = a) (h0 : 0 ≤ a ∧ a ≤ N) (hp : ∀ w', Fr Str w w' → RTr w' b N → TkA w' b N a → P w') : CV (m_X9_token F [vR 0] w) P :=
  cv_token hF hB hR ha h0 (fun w' f' t1 t2 t3 t4 t5 => hp w' f' (hR.fr f' (by intro k; simp only [Str]; omega) (by simp [Str])) ⟨t1, t2, t3, t4, t5⟩)
abbrev Sta (j k : Nat) : Prop := j = 9 ∨ (j = 0 ∧ 8 ≤ k ∧ k ≤ 17 ∧ k ≠ 9)
theorem ci_take {F : Nat} {k : Nat} {lo hi but a N : Int} {b : Nat → Int} {f : Int × Int} {w : AW} {P : Int → AW → Prop} (hF : FB F) (hB : BB b N) (hR : RTr w b N) (hT : TkA w b N a) (ha : 0 ≤ a ∧ a ≤ N) (hfs : FTS w f (stt b N a)) (hk : k < 4) (hlo : iR lo) (hhi : iR hi) (hbut : iR but) (h0 : tks b N (stt b N a) ≠ 2 → ∀ w', Fr Sta w w' → w'.1 0 14 = stt b N a → P 0 w') (h1 : tks b N (stt b N a) = 2 → ∀ w', Fr Sta w w' → RTr w' b N → TkA w' b N (ten b N (stt b N a)) → (∀ i, w'.1 9 i = if i = k then vll b N (stt b N a) else w.1 9 i) → ((lo ≤ vll b N (stt b N a) ∧ vll b N (stt b N a) ≤ hi ∧ vll b N (stt b N a) ≠ but → FTS w' f (stt b N (ten b N (stt b N a))) ∧ w'.1 0 17 = w.1 0 17) ∧ (¬ (lo ≤ vll b N (stt b N a) ∧ vll b N (stt b N a) ≤ hi ∧ vll b N (stt b N a) ≠ but) → FTS w' (upf f (2, stt b N a)) (stt b N (ten b N (stt b N a))) ∧ w'.1 0 17 = 0)) → P 1 w') : CI (m_X9_take F [vR 0, vI k, vI lo, vI hi, vI but] w) P := by
  have hb := hB.2
  have hst := stt_b (b := b) (N := N) ha.2
  have htr := tks_r (b := b) (N := N) (s := stt b N a)
  have hrb := rtk_b htr
  generalize hs : stt b N a = s at *
  refine wp_X9_take F k lo hi but w _ ?_
  have t11 : w.1 0 11 = rtk (tks b N s) := by rw [← hs]; exact hT.2.1
  have t10 : w.1 0 10 = s := by rw [← hs]; exact hT.1
  rw [t11, w_id (x := rtk (tks b N s)) (by omega) (by omega)]
  refine ⟨fun q => ⟨⟨by omega, by omega⟩, fun w2 e2 => ?_⟩, fun q => wp_X9_stops F w _ (fun w2 e2 => q_z0 (q_z0 (h0 (fun y => q (hrb.2.2.2.2.1.mpr y)) w2 ?_ ?_)))⟩
  · have ht2 : tks b N s = 2 := hrb.2.2.2.2.1.mp q
    have hte := ten_b (b := b) (N := N) (s := s) hst.2 (by omega)
    have hstt := stt_b (b := b) (N := N) (a := ten b N s) hte.2
    have hv := vll_b (b := b) (N := N) (s := s) hst.2 ht2
    have t12 : w.1 0 12 = vll b N s := by rw [← hs]; exact hT.2.2.2.1 (by rw [hs]; exact ht2)
    have t8 : w.1 0 8 = ten b N s := by rw [← hs]; exact hT.2.2.1 (by rw [hs]; omega)
    have f2 : Fr Sta w w2 := by rw [e2]; exact Fr.rf.wI _ (by simp [Sta])
    have hR2 : RTr w2 b N := hR.fr f2 (by intro k; simp [Sta]) (by simp [Sta])
    have u12 : w2.1 0 12 = vll b N s := by rw [e2, wI_cell _ _ _ _ (by decide)]; exact t12
    have u10 : w2.1 0 10 = s := by rw [e2, wI_cell _ _ _ _ (by decide)]; exact t10
    have u8 : w2.1 0 8 = ten b N s := by rw [e2, wI_cell _ _ _ _ (by decide)]; exact t8
    have u17 : w2.1 0 17 = w.1 0 17 := by rw [e2, wI_cell _ _ _ _ (by decide)]
    have u9 : ∀ i, w2.1 9 i = if i = k then vll b N s else w.1 9 i := fun i => by
      rw [e2, wI_at, Int.toNat_natCast, t12]
      by_cases z : i = k
      · rw [if_pos ⟨rfl, z⟩, if_pos z]
      · rw [if_neg (fun y => z y.2), if_neg z]
    have fs2 : FTS w2 f s := by rw [e2]; exact hfs.fr (Fr.rf.wI (S := fun j _ => j = 9) _ rfl) (by omega) (by omega)
    have good : (lo ≤ vll b N s ∧ vll b N s ≤ hi ∧ vll b N s ≠ but) → TT (k_X9_take_58 F [vR 0, vI k, vI lo, vI hi, vI but] [] w2) (qq 2 (fun r w => ∃ x, r = some (vI x) ∧ P x w)) := by
      intro hc
      refine wp_X9_take_58 F k lo hi but w2 _ (cv_tokenA hF hB hR2 u8 (by omega) (fun w3 f3 hR3 hT3 => q_z1 (h1 ht2 w3 (f2.tr (f3.wk (by intro j k; simp only [Str, Sta]; omega))) hR3 hT3 (fun i => ?_) ⟨fun _ => ⟨?_, ?_⟩, fun z => absurd hc z⟩)))
      · rw [f3.I 9 i (by simp [Str])]; exact u9 i
      · exact (fs2.mono (by omega)).fr f3 (by simp [Str]) (by simp [Str])
      · rw [f3.I 0 17 (by simp [Str])]; exact u17
    have bad : ¬ (lo ≤ vll b N s ∧ vll b N s ≤ hi ∧ vll b N s ≠ but) → TT (k_X9_take_44 F [vR 0, vI k, vI lo, vI hi, vI but] [] w2) (qq 2 (fun r w => ∃ x, r = some (vI x) ∧ P x w)) := by
      intro hc
      refine wp_X9_take_44 F k lo hi but w2 _ ?_
      rw [u10]
      refine cv_later (c := stt b N (ten b N s)) fs2 (by omega) (by omega) (by omega) (fun w3 f3 fs3 w4 e4 => ?_)
      have f4 : Fr Sta w w4 := by rw [e4]; exact (f2.tr (f3.wk (by intro j k; simp only [Sla, Sta]; omega))).wI _ (by simp [Sta])
      have hR4 : RTr w4 b N := hR.fr f4 (by intro k; simp [Sta]) (by simp [Sta])
      refine wp_X9_take_58 F k lo hi but w4 _ (cv_tokenA hF hB hR4 ?_ (by omega) (fun w5 f5 hR5 hT5 => q_z1 (h1 ht2 w5 (f4.tr (f5.wk (by intro j k; simp only [Str, Sta]; omega))) hR5 hT5 (fun i => ?_) ⟨fun z => absurd z hc, fun _ => ⟨?_, ?_⟩⟩)))
      · rw [e4, wI_idx _ _ _ _ (by decide), f3.I 0 8 (by simp [Sla])]; exact u8
      · rw [f5.I 9 i (by simp [Str]), e4, wI_cell _ _ _ _ (by decide), f3.I 9 i (by simp [Sla])]; exact u9 i
      · have fs4 : FTS w4 (upf f (2, s)) (stt b N (ten b N s)) := by
          rw [e4]
          exact fs3.fr (Fr.rf.wI (S := fun j k => j = 0 ∧ k = 17) _ (by omega)) (by omega) (by omega)
        exact fs4.fr f5 (by simp [Str]) (by simp [Str])
      · rw [f5.I 0 17 (by simp [Str]), e4, wI_same]
    rw [u12]
    refine ci_in ⟨by omega, by omega⟩ hlo hhi (fun y => br1 ?_) (fun y => br0 (bad (fun z => y ⟨z.1, z.2.1⟩)))
    rw [u12, w_id (x := vll b N s) (by omega) (by omega), w_id hbut.1 hbut.2]
    exact ⟨fun y2 => bad (fun z => z.2.2 y2), fun y2 => good ⟨y.1, y.2, y2⟩⟩
  · rw [e2]; exact Fr.rf.wI _ (by simp [Sta])
  · rw [e2, wI_same]; exact t10
/-! the fault behind the first n numbers of a line -/
noncomputable def ufs (L : Nat) (S : Nat → Int) (l : NL) (n : Nat) (f : Int × Int) : Int × Int := by
  classical
  exact if can L n S l then f else upf f (2, np l n)
noncomputable def ufc (L : Nat) (S : Nat → Int) (l : NL) (f0 : Int × Int) : Nat → Int × Int
  | 0 => f0
  | n + 1 => ufs L S l n (ufc L S l f0 n)
theorem ufs_y {L : Nat} {S : Nat → Int} {l : NL} {n : Nat} {f : Int × Int} (h : can L n S l) : ufs L S l n f = f := by unfold ufs; rw [if_pos h]
theorem ufs_n {L : Nat} {S : Nat → Int} {l : NL} {n : Nat} {f : Int × Int} (h : ¬ can L n S l) : ufs L S l n f = upf f (2, np l n) := by unfold ufs; rw [if_neg h]
theorem upf_ne {f x : Int × Int} (h : f.1 ≠ 0) : upf f x = f := if_neg h
theorem upf_0 {f x : Int × Int} (h : f.1 = 0) : upf f x = x := if_pos h
theorem ufs_ne {L : Nat} {S : Nat → Int} {l : NL} {n : Nat} {f : Int × Int} (h : f.1 ≠ 0) : ufs L S l n f = f := by
  by_cases z : can L n S l
  · exact ufs_y z
  · rw [ufs_n z, upf_ne h]
theorem ufc_ne {L : Nat} {S : Nat → Int} {l : NL} {f0 : Int × Int} (h : f0.1 ≠ 0) : ∀ n, ufc L S l f0 n = f0
  | 0 => rfl
  | n + 1 => by
    show ufs L S l n (ufc L S l f0 n) = f0
    rw [ufc_ne h n, ufs_ne h]
theorem nv_app {l : NL} {x : Int × Int} {i : Nat} (h : i < l.length) : nv (l ++ [x]) i = nv l i ∧ np (l ++ [x]) i = np l i := by
  unfold nv np
  rw [List.getD_eq_getElem?_getD, List.getElem?_append_left h, ← List.getD_eq_getElem?_getD]
  exact ⟨rfl, rfl⟩
theorem nv_new {l : NL} {x : Int × Int} : nv (l ++ [x]) l.length = x.1 ∧ np (l ++ [x]) l.length = x.2 := by
  unfold nv np
  rw [List.getD_eq_getElem?_getD, List.getElem?_append_right (Nat.le_refl _), Nat.sub_self]
  exact ⟨rfl, rfl⟩
theorem can_app {L i : Nat} {S : Nat → Int} {l : NL} {x : Int × Int} (h : i < l.length) : can L i S (l ++ [x]) ↔ can L i S l := by
  unfold can
  rw [(nv_app h).1]
  by_cases z : i = 1
  · rw [(nv_app (i := 1) (by omega)).1, (nv_app (i := 0) (by omega)).1]
  · constructor
    · exact fun y => ⟨y.1, y.2.1, fun w => z w.2.1⟩
    · exact fun y => ⟨y.1, y.2.1, fun w => z w.2.1⟩
theorem ufc_app {L : Nat} {S : Nat → Int} {l : NL} {x f0 : Int × Int} : ∀ n, n ≤ l.length → ufc L S (l ++ [x]) f0 n = ufc L S l f0 n
  | 0, _ => rfl
  | n + 1, h => by
    show ufs L S (l ++ [x]) n (ufc L S (l ++ [x]) f0 n) = ufs L S l n (ufc L S l f0 n)
    rw [ufc_app n (by omega)]
    by_cases z : can L n S l
    · rw [ufs_y z, ufs_y ((can_app (by omega)).mpr z)]
    · rw [ufs_n z, ufs_n (fun y => z ((can_app (by omega)).mp y)), (nv_app (by omega)).2]
theorem ufc_ckl {L : Nat} {S : Nat → Int} {l : NL} {f0 : Int × Int} : ∀ n i : Nat, ((ufc L S l f0 i).1 = 0 → ufc L S l f0 i = (0, -1)) → ufc L S l f0 (i + n) = if (ufc L S l f0 i).1 = 0 then ckl L S l n i else ufc L S l f0 i
  | 0, i, h => by
    show ufc L S l f0 i = _
    by_cases z : (ufc L S l f0 i).1 = 0
    · rw [if_pos z, h z]; rfl
    · rw [if_neg z]
  | n + 1, i, h => by
    rw [show i + (n + 1) = (i + 1) + n from by omega]
    have e : ufc L S l f0 (i + 1) = ufs L S l i (ufc L S l f0 i) := rfl
    by_cases c : can L i S l
    · rw [ufs_y c] at e
      rw [ufc_ckl n (i + 1) (by rw [e]; exact h), e, cks_y c]
    · rw [ufs_n c] at e
      by_cases z : (ufc L S l f0 i).1 = 0
      · rw [upf_0 z] at e
        have ne : (ufc L S l f0 (i + 1)).1 ≠ 0 := by rw [e]; show (2 : Int) ≠ 0; decide
        rw [ufc_ckl n (i + 1) (fun y => absurd y ne), if_neg ne, if_pos z, cks_n c, e]
      · rw [upf_ne z] at e
        have ne : (ufc L S l f0 (i + 1)).1 ≠ 0 := by rw [e]; exact z
        rw [ufc_ckl n (i + 1) (fun y => absurd y ne), if_neg ne, if_neg z, e]
/-- the fault behind a line -/
noncomputable def fl0 (L : Nat) (S : Nat → Int) (s : Int) (f : Int × Int) : Int × Int := by
  classical
  exact if full L S then upf f (3, s) else f
theorem ufc_chk {L : Nat} {S : Nat → Int} {l : NL} {s : Int} {f : Int × Int} (h : f.1 = 0 → f = (0, -1)) : ufc L S l (fl0 L S s f) (nms L) = if f.1 = 0 then chk L S s l else f := by
  have e := ufc_ckl (L := L) (S := S) (l := l) (f0 := fl0 L S s f) (nms L) 0
  rw [Nat.zero_add] at e
  unfold chk
  by_cases z : f.1 = 0
  · rw [if_pos z]
    have ef := h z
    by_cases c : full L S
    · rw [if_pos c]
      have e1 : fl0 L S s f = (3, s) := by unfold fl0; rw [if_pos c, upf_0 z]
      rw [ufc_ne (by rw [e1]; show (3 : Int) ≠ 0; decide), e1]
    · rw [if_neg c]
      have e1 : fl0 L S s f = f := by unfold fl0; rw [if_neg c]
      have e2 : ufc L S l (fl0 L S s f) 0 = f := e1
      rw [e2] at e
      rw [e h, if_pos z]
  · rw [if_neg z]
    have e1 : fl0 L S s f = f := by
      unfold fl0
      by_cases c : full L S
      · rw [if_pos c, upf_ne z]
      · rw [if_neg c]
    rw [ufc_ne (by rw [e1]; exact z), e1]
