/-! THE FIRST WORLD -/
noncomputable def gA : AG := [gnew 8]
noncomputable def gB : AG := (g_X8_init [vR 0] gA).getD []
noncomputable def gC : AG := gB ++ [gnew 9]
noncomputable def gD : AG := (g_X9_init [vR gB.length] gC).getD []
theorem opt_getD {α : Type} {o : Option α} (d : α) (h : o.isSome = true) : o = some (o.getD d) := by
  cases o with
  | none => cases h
  | some x => rfl
set_option maxRecDepth 100000 in
theorem gB_ok : g_X8_init [vR 0] gA = some gB := opt_getD [] (by decide +kernel)
set_option maxRecDepth 100000 in
theorem gD_ok : g_X9_init [vR gB.length] gC = some gD := opt_getD [] (by decide +kernel)
set_option maxRecDepth 100000 in
theorem g_lens : gB.length = 245 ∧ gC.length = 245 + 1 ∧ gD.length = NC ∧ gsl gD ≤ 100000 := by decide +kernel
/-- the order of making -/
def ord (j : Nat) : Nat := bif Nat.blt j 34 then 245 + j else j - 34
def avI : AV → Int
  | .inl x => x
  | _ => 0
def avL : AV → Int
  | .inr (.inl x) => x
  | _ => 0
def cellI (g : AG) (j k : Nat) : Int := bif Nat.blt (gat g (ord j)).1.1 10 then avI ((gat g (ord j)).2.1.getD k vN) else (gat g (ord j)).2.2 k
def cellL (g : AG) (j k : Nat) : Int := bif Nat.blt (gat g (ord j)).1.1 10 then avL ((gat g (ord j)).2.1.getD k vN) else (gat g (ord j)).2.2 k
def mkW (g : AG) : AW := (cellI g, cellL g, 218, 239, 253)
/-- a field of the first world is as its cell has it -/
def chkV (t r0 : Nat) (v : AV) : Bool := match t, v with
  | 0, .inl _ => true
  | 1, .inr (.inl _) => true
  | 2, .inr (.inr (some (some r))) => Nat.beq r (ord r0) && Nat.blt r0 NC
  | 3, .inr (.inr (some (some r))) => Nat.beq r (ord 218)
  | 4, .inr (.inr (some (some r))) => Nat.beq r (ord 239)
  | 5, .inr (.inr (some (some r))) => Nat.beq r (ord 253)
  | _, _ => false
def chkFs (j ci : Nat) : Nat → List AV → Bool
  | _, [] => true
  | k, v :: l => chkV (fty ci k) (cref j k) v && chkFs j ci (k + 1) l
def chkRs (j : Nat) : Nat → List AV → Bool
  | _, [] => true
  | k, v :: l => chkV 2 (cref j k) v && chkRs j (k + 1) l
def chkCell (j : Nat) (c : GC) : Bool := match c with
  | ((t, n), fs, _) => Nat.beq t (shp j).1 && Nat.beq n (shp j).2 && (bif Nat.blt t 10 then Nat.beq fs.length n && chkFs j t 0 fs else (bif Nat.blt t 14 then true else Nat.beq fs.length n && chkRs j 0 fs))
def inv (i : Nat) : Nat := bif Nat.blt i 245 then i + 34 else i - 245
def chkL : Nat → List GC → Bool
  | _, [] => true
  | i, c :: g => chkCell (inv i) c && chkL (i + 1) g
set_option maxRecDepth 100000 in
theorem chkL_ok : chkL 0 gD = true := by decide +kernel
theorem chkL_at : ∀ (g : List GC) (i : Nat), chkL i g = true → ∀ (k : Nat) (c : GC), g[k]? = some c → chkCell (inv (i + k)) c = true
  | [], _, _, k, c, h => by simp at h
  | c0 :: g, i, h, 0, c, hk => by
    have hk : c0 = c := by simpa using hk
    subst hk
    exact (Bool.and_eq_true_iff.mp h).1
  | c0 :: g, i, h, k + 1, c, hk => by
    have := chkL_at g (i + 1) (Bool.and_eq_true_iff.mp h).2 k c (by simpa using hk)
    rw [show i + (k + 1) = i + 1 + k from by omega]
    exact this
theorem chkFs_at (j ci : Nat) : ∀ (l : List AV) (i : Nat), chkFs j ci i l = true → ∀ (k : Nat) (v : AV), l[k]? = some v → chkV (fty ci (i + k)) (cref j (i + k)) v = true
  | [], _, _, k, v, h => by simp at h
  | v0 :: l, i, h, 0, v, hk => by
    have hk : v0 = v := by simpa using hk
    subst hk
    exact (Bool.and_eq_true_iff.mp h).1
  | v0 :: l, i, h, k + 1, v, hk => by
    have := chkFs_at j ci l (i + 1) (Bool.and_eq_true_iff.mp h).2 k v (by simpa using hk)
    rw [show i + (k + 1) = i + 1 + k from by omega]
    exact this
theorem chkRs_at (j : Nat) : ∀ (l : List AV) (i : Nat), chkRs j i l = true → ∀ (k : Nat) (v : AV), l[k]? = some v → chkV 2 (cref j (i + k)) v = true
  | [], _, _, k, v, h => by simp at h
  | v0 :: l, i, h, 0, v, hk => by
    have hk : v0 = v := by simpa using hk
    subst hk
    exact (Bool.and_eq_true_iff.mp h).1
  | v0 :: l, i, h, k + 1, v, hk => by
    have := chkRs_at j l (i + 1) (Bool.and_eq_true_iff.mp h).2 k v (by simpa using hk)
    rw [show i + (k + 1) = i + 1 + k from by omega]
    exact this
theorem ord_eq (j : Nat) : ord j = if j < 34 then 245 + j else j - 34 := by
  unfold ord
  by_cases h : j < 34
  · rw [if_pos h, show Nat.blt j 34 = true from Nat.ble_eq_true_of_le h]
    rfl
  · rw [if_neg h]
    cases hb : Nat.blt j 34 with
    | false => rfl
    | true => exact absurd (Nat.le_of_ble_eq_true hb) h
theorem ord_inj : ∀ i j, i < NC → j < NC → ord i = ord j → i = j := by
  intro i j hi hj h
  have e1 : i < 279 := hi
  have e2 : j < 279 := hj
  rw [ord_eq, ord_eq] at h
  split at h <;> split at h <;> omega
theorem inv_ord (j : Nat) (h : j < NC) : inv (ord j) = j ∧ ord j < NC := by
  have h2 : j < 279 := h
  rw [ord_eq]
  unfold inv
  by_cases q : j < 34
  · rw [if_pos q]
    have : Nat.blt (245 + j) 245 = false := by
      cases hb : Nat.blt (245 + j) 245 with
      | false => rfl
      | true =>
        have := Nat.le_of_ble_eq_true hb
        omega
    rw [this]
    exact ⟨by show 245 + j - 245 = j; omega, by show 245 + j < 279; omega⟩
  · rw [if_neg q]
    have : Nat.blt (j - 34) 245 = true := Nat.ble_eq_true_of_le (by omega)
    rw [this]
    exact ⟨by show j - 34 + 34 = j; omega, by show j - 34 < 279; omega⟩
theorem arrV_congr {cI : ClassId} {N : Nat} {f g : Nat → Value} (h : ∀ k, k < N → f k = g k) : arrV cI N f = arrV cI N g := by
  unfold arrV
  congr 1
  apply Array.ext
  · simp
  · intro i h1 h2
    simp at h1
    simp [h i h1]
theorem world_of {g : AG} {w : AW} (hg : chkL 0 g = true) (hgl : g.length = NC) (hw1 : ∀ j k, w.1 j k = cellI g j k) (hw2 : ∀ j k, w.2.1 j k = cellL g j k) (hw3 : w.2.2 = (218, 239, 253)) {D : va_G} {cA : Nat → ClassId} {ad : Nat → Nat} {sz : Nat} {H : Heap} (had : ∀ j, j < NC → ad j = sz + ord j) (hP : va_P D vwCl (gw sz cA g) H) : va_P D vwCl (cw ad cA w) H := by
  intro k q hq
  obtain ⟨hk, rfl⟩ := cw_inv hq
  obtain ⟨hio, hol0⟩ := inv_ord k hk
  have hol : ord k < g.length := by rw [hgl]; exact hol0
  obtain ⟨c, hcg⟩ : ∃ c, g[ord k]? = some c := ⟨g[ord k], List.getElem?_eq_getElem hol⟩
  have hc := chkL_at g 0 hg (ord k) c hcg
  rw [Nat.zero_add, hio] at hc
  have hgat : gat g (ord k) = c := by unfold gat; rw [hcg]; rfl
  have hat := hP (ord k) _ (gw_get hcg)
  rw [had k hk]
  obtain ⟨t, n, hs⟩ : ∃ t n, shp k = (t, n) := ⟨_, _, rfl⟩
  obtain ⟨⟨ct, cn⟩, cfs, cI⟩ := c
  unfold chkCell at hc
  rw [hs] at hc
  obtain ⟨hc12, hc3⟩ := Bool.and_eq_true_iff.mp hc
  obtain ⟨hc1, hc2⟩ := Bool.and_eq_true_iff.mp hc12
  have e1 : ct = t := Nat.eq_of_beq_eq_true hc1
  have e2 : cn = n := Nat.eq_of_beq_eq_true hc2
  subst e1
  subst e2
  generalize hcc : (((ct, cn), cfs, cI) : GC) = c at hcg hgat hat
  have ht : c.1.1 = ct := by rw [← hcc]
  have hn : c.1.2 = cn := by rw [← hcc]
  have hfs : c.2.1 = cfs := by rw [← hcc]
  by_cases h10 : ct < 10
  · have hb : Nat.blt ct 10 = true := Nat.ble_eq_true_of_le h10
    rw [hb] at hc3
    dsimp only [cond] at hc3
    obtain ⟨hl1, hl2⟩ := Bool.and_eq_true_iff.mp hc3
    have hlen : c.2.1.length = cn := by rw [hfs]; exact Nat.eq_of_beq_eq_true hl1
    have hge : gelt sz cA c = .inr (ct, c.2.1.map (cv (adz sz))) := by
      unfold gelt
      rw [if_pos (by rw [ht]; exact h10), ht]
    rw [hge] at hat
    rw [elt_obj hs h10]
    have hlist : (List.range cn).map (fun i => cv ad (fv w k ct i)) = c.2.1.map (cv (adz sz)) := by
      apply List.ext_getElem?
      intro i
      by_cases hi : i < cn
      · obtain ⟨v, hv⟩ : ∃ v, c.2.1[i]? = some v := ⟨c.2.1[i]'(by omega), List.getElem?_eq_getElem (by omega)⟩
        have hgd : c.2.1.getD i vN = v := by rw [List.getD_eq_getElem?_getD, hv]; rfl
        have hchk := chkFs_at k ct cfs 0 hl2 i v (by rw [← hfs]; exact hv)
        rw [Nat.zero_add] at hchk
        unfold chkV at hchk
        rw [List.getElem?_map, List.getElem?_range hi, List.getElem?_map, hv]
        simp only [Option.map_some]
        refine congrArg some ?_
        have hI : w.1 k i = avI v := by
          rw [hw1]
          unfold cellI
          rw [hgat, ht, hb, hgd]
          rfl
        have hL : w.2.1 k i = avL v := by
          rw [hw2]
          unfold cellL
          rw [hgat, ht, hb, hgd]
          rfl
        unfold fv
        rw [hw3]
        generalize fty ct i = ft at hchk ⊢
        rcases v with x | x | _ | _ | x
        · rcases ft with _ | _ | _ | _ | _ | _ | ft <;> first | (cases hchk; done) | skip
          rw [hI]
          rfl
        · rcases ft with _ | _ | _ | _ | _ | _ | ft <;> first | (cases hchk; done) | skip
          rw [hL]
          rfl
        · rcases ft with _ | _ | _ | _ | _ | _ | ft <;> cases hchk
        · rcases ft with _ | _ | _ | _ | _ | _ | ft <;> cases hchk
        · rcases ft with _ | _ | _ | _ | _ | _ | ft <;> first | (cases hchk; done) | skip
          · obtain ⟨q1, q2⟩ := Bool.and_eq_true_iff.mp hchk
            show Value.ref (ad (cref k i)) = Value.ref (sz + x)
            rw [had _ (Nat.le_of_ble_eq_true q2), Nat.eq_of_beq_eq_true q1]
          · show Value.ref (ad 218) = Value.ref (sz + x)
            rw [had _ (by decide), Nat.eq_of_beq_eq_true hchk]
          · show Value.ref (ad 239) = Value.ref (sz + x)
            rw [had _ (by decide), Nat.eq_of_beq_eq_true hchk]
          · show Value.ref (ad 253) = Value.ref (sz + x)
            rw [had _ (by decide), Nat.eq_of_beq_eq_true hchk]
      · rw [List.getElem?_eq_none (by simp; omega), List.getElem?_eq_none (by simp; omega)]
    rw [hlist]
    exact hat
  · have hbl : Nat.blt ct 10 = false := by
      cases hb : Nat.blt ct 10 with
      | false => rfl
      | true => exact absurd (Nat.le_of_ble_eq_true hb) h10
    have hI : ∀ i, w.1 k i = c.2.2 i := by
      intro i
      rw [hw1]
      unfold cellI
      rw [hgat, ht, hbl]
      rfl
    have hL : ∀ i, w.2.1 k i = c.2.2 i := by
      intro i
      rw [hw2]
      unfold cellL
      rw [hgat, ht, hbl]
      rfl
    by_cases h13 : ct < 13
    · have hge : gelt sz cA c = .inl (cA ct, cn, .inl (fun i => Int32.ofInt (c.2.2 i))) := by
        unfold gelt
        rw [if_neg (by rw [ht]; exact h10), if_pos (by rw [ht]; exact h13), ht, hn]
      rw [hge] at hat
      rw [elt_ia hs (by omega) h13]
      have : (fun i => Int32.ofInt (w.1 k i)) = (fun i => Int32.ofInt (c.2.2 i)) := by funext i; rw [hI i]
      rw [this]
      exact hat
    · by_cases h14 : ct = 13
      · subst h14
        have hge : gelt sz cA c = .inl (cA 13, cn, .inr (.inl (fun i => Int64.ofInt (c.2.2 i)))) := by
          unfold gelt
          rw [if_neg (by rw [ht]; decide), if_neg (by rw [ht]; decide), if_pos ht, hn]
        rw [hge] at hat
        rw [elt_la hs]
        have : (fun i => Int64.ofInt (w.2.1 k i)) = (fun i => Int64.ofInt (c.2.2 i)) := by funext i; rw [hL i]
        rw [this]
        exact hat
      · have hge : gelt sz cA c = .inl (cA ct, cn, .inr (.inr (.inr (.inr (fun i => (gref (c.2.1.getD i vN)).map (adz sz)))))) := by
          unfold gelt
          rw [if_neg (by rw [ht]; exact h10), if_neg (by rw [ht]; exact h13), if_neg (by rw [ht]; exact h14), ht, hn]
        rw [hge] at hat
        rw [elt_ra hs (by omega)]
        have hb14 : Nat.blt ct 14 = false := by
          cases hb : Nat.blt ct 14 with
          | false => rfl
          | true =>
            have : ct < 14 := Nat.le_of_ble_eq_true hb
            omega
        rw [hbl] at hc3
        dsimp only [cond] at hc3
        rw [hb14] at hc3
        dsimp only at hc3
        obtain ⟨hl1, hl2⟩ := Bool.and_eq_true_iff.mp hc3
        have hlen : c.2.1.length = cn := by rw [hfs]; exact Nat.eq_of_beq_eq_true hl1
        have hat2 : H[sz + ord k]? = some (arrV (cA ct) cn (fun i => va_rf ((gref (c.2.1.getD i vN)).map (adz sz)))) := hat
        show H[sz + ord k]? = some (arrV (cA ct) cn (fun i => va_rf (some (ad (cref k i)))))
        rw [hat2]
        refine congrArg some (arrV_congr (fun i hi => ?_))
        obtain ⟨v, hv⟩ : ∃ v, c.2.1[i]? = some v := ⟨c.2.1[i]'(by omega), List.getElem?_eq_getElem (by omega)⟩
        have hgd : c.2.1.getD i vN = v := by rw [List.getD_eq_getElem?_getD, hv]; rfl
        have hchk := chkRs_at k cfs 0 hl2 i v (by rw [← hfs]; exact hv)
        rw [Nat.zero_add] at hchk
        unfold chkV at hchk
        rw [hgd]
        rcases v with x | x | _ | _ | x <;> first | (cases hchk; done) | skip
        obtain ⟨q1, q2⟩ := Bool.and_eq_true_iff.mp hchk
        show va_rf (some (sz + x)) = va_rf (some (ad (cref k i)))
        rw [had _ (Nat.le_of_ble_eq_true q2), Nat.eq_of_beq_eq_true q1]
theorem world_g {g : AG} (hg : chkL 0 g = true) (hgl : g.length = NC) {D : va_G} {cA : Nat → ClassId} {ad : Nat → Nat} {sz : Nat} {H : Heap} (had : ∀ j, j < NC → ad j = sz + ord j) (hP : va_P D vwCl (gw sz cA g) H) : va_P D vwCl (cw ad cA (mkW g)) H := world_of hg hgl (fun _ _ => rfl) (fun _ _ => rfl) rfl had hP
noncomputable def w0 : AW := mkW gD
theorem world0 {D : va_G} {cA : Nat → ClassId} {ad : Nat → Nat} {sz : Nat} {H : Heap} (had : ∀ j, j < NC → ad j = sz + ord j) (hP : va_P D vwCl (gw sz cA gD) H) : va_P D vwCl (cw ad cA w0) H := by
  unfold w0
  generalize hG : gD = g at hP
  have h1 : chkL 0 g = true := by rw [← hG]; exact chkL_ok
  have h2 : g.length = NC := by rw [← hG]; exact g_lens.2.2.1
  exact world_g h1 h2 had hP
