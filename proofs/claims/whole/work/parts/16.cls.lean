theorem in_by {us : List Cond} (ps : List Nat) (hp : us = ps.filterMap (fun i => lw_tbl[i]?)) (h : us.all goodWord = true) : ∀ w ∈ us, w ∈ lw_gw := by
  intro w hw
  have h1 := List.all_eq_true.mp h w hw
  rw [hp] at hw
  obtain ⟨i, -, hi⟩ := List.mem_filterMap.mp hw
  exact gm (List.mem_of_getElem? hi) h1
theorem mut_3 : ∀ c, c < 10 → ∀ k, k < 64 → fty c k = 3 → c = 5 ∧ k = 4 := by decide +kernel
theorem mut_4 : ∀ c, c < 10 → ∀ k, k < 64 → fty c k = 4 → c = 3 ∧ k = 10 := by decide +kernel
theorem mut_5 : ∀ c, c < 10 → ∀ k, k < 64 → fty c k = 5 → c = 3 ∧ k = 11 := by decide +kernel
theorem one_at {ci j0 : Nat} (h : ∀ i, i < NC → (shp i).1 = ci → i = j0) : ∀ i, i < NC → ∀ j, j < NC → (shp i).1 = ci → (shp j).1 = ci → i = j := fun i hi j hj e1 e2 => (h i hi e1).trans (h j hj e2).symm
theorem one_5 : ∀ i, i < NC → ∀ j, j < NC → (shp i).1 = 5 → (shp j).1 = 5 → i = j := one_at (j0 := 200) (by decide +kernel)
theorem one_3 : ∀ i, i < NC → ∀ j, j < NC → (shp i).1 = 3 → (shp j).1 = 3 → i = j := one_at (j0 := 227) (by decide +kernel)
set_option maxRecDepth 20000 in
theorem cls0 : Cls 0 RX0 TX0 9 tyX0 := ⟨rfl, rfl, by decide, in_by [321, 323, 325, 327, 329, 331, 333, 335, 337] (by decide +kernel) (by decide +kernel), tyX0_ok, nmX0⟩
set_option maxRecDepth 20000 in
theorem cls1 : Cls 1 RX1 TX1 5 tyX1 := ⟨rfl, rfl, by decide, in_by [457, 459, 461, 463, 465] (by decide +kernel) (by decide +kernel), tyX1_ok, nmX1⟩
set_option maxRecDepth 20000 in
theorem cls2 : Cls 2 RX2 TX2 3 tyX2 := ⟨rfl, rfl, by decide, in_by [297, 299, 301] (by decide +kernel) (by decide +kernel), tyX2_ok, nmX2⟩
set_option maxRecDepth 20000 in
theorem cls3 : Cls 3 RX3 TX3 18 tyX3 := ⟨rfl, rfl, by decide, in_by [498, 500, 502, 504, 506, 508, 510, 512, 514, 516, 518, 520, 522, 524, 526, 528, 530, 532] (by decide +kernel) (by decide +kernel), tyX3_ok, nmX3⟩
set_option maxRecDepth 20000 in
theorem cls4 : Cls 4 RX4 TX4 13 tyX4 := ⟨rfl, rfl, by decide, in_by [559, 561, 563, 565, 567, 569, 571, 573, 575, 577, 579, 581, 583] (by decide +kernel) (by decide +kernel), tyX4_ok, nmX4⟩
set_option maxRecDepth 20000 in
theorem cls5 : Cls 5 RX5 TX5 13 tyX5 := ⟨rfl, rfl, by decide, in_by [368, 370, 372, 374, 376, 378, 380, 382, 384, 386, 388, 390, 392] (by decide +kernel) (by decide +kernel), tyX5_ok, nmX5⟩
set_option maxRecDepth 20000 in
theorem cls6 : Cls 6 RX6 TX6 8 tyX6 := ⟨rfl, rfl, by decide, in_by [416, 418, 420, 422, 424, 426, 428, 430] (by decide +kernel) (by decide +kernel), tyX6_ok, nmX6⟩
set_option maxRecDepth 20000 in
theorem cls7 : Cls 7 RX7 TX7 19 tyX7 := ⟨rfl, rfl, by decide, in_by [239, 241, 243, 245, 247, 249, 251, 253, 255, 257, 259, 261, 263, 265, 267, 269, 271, 273, 275] (by decide +kernel) (by decide +kernel), tyX7_ok, nmX7⟩
set_option maxRecDepth 20000 in
theorem cls8 : Cls 8 RX8 TX8 7 tyX8 := ⟨rfl, rfl, by decide, in_by [595, 597, 599, 601, 603, 605, 607] (by decide +kernel) (by decide +kernel), tyX8_ok, nmX8⟩
set_option maxRecDepth 20000 in
theorem cls9 : Cls 9 RX9 TX9 64 tyX9 := ⟨rfl, rfl, by decide, in_by [1367, 1369, 1371, 1373, 1375, 1377, 1379, 1381, 1383, 1385, 1387, 1389, 1391, 1393, 1395, 1397, 1399, 1401, 1403, 1405, 1407, 1409, 1411, 1413, 1415, 1417, 1419, 1421, 1423, 1425, 1427, 1429, 1431, 1433, 1435, 1437, 1439, 1441, 1443, 1445, 1447, 1449, 1451, 1453, 1455, 1457, 1459, 1461, 1463, 1465, 1467, 1469, 1471, 1473, 1475, 1477, 1479, 1481, 1483, 1485, 1487, 1489, 1491, 1493] (by decide +kernel) (by decide +kernel), tyX9_ok, nmX9⟩
/-- a call of a method of one of the words -/
abbrev ak_callx (n : Nat) (f : AF) (k : AK) : AK := fun lo st w => match st.drop n with
  | .inr (.inr (some (some j))) :: r => bif isS j && Nat.ble n st.length && Nat.ble (csum r) 8 then (match f (vR j :: (st.take n).reverse) w with
    | some o => k lo (o.1.toList ++ r) o.2
    | none => none) else none
  | _ => none
theorem snd_callX {Ξ : XT} {own : String} {cc : ByteArray} {nL d pc : Nat}  {y : MethodName} {bytes : ByteArray} {maxL n ix d2 : Nat} {ret : Option FieldType} {f : AF} {k : AK} (hM : MA y bytes maxL ret d2 f) (hd2 : d2 < d) (hmx : maxL ≤ 40) (hcode : Cond.code y bytes maxL ret ∈ lw_gw) (hlk : Cond.methodLink own ix y ∈ lw_gw) (hin : Cond.instanceMethod y ∈ lw_gw) (hsel : Cond.selects "java/lang/String" y y ∈ lw_gw) (hini : Cond.initialized y.cls ∈ lw_gw) (hy : y.cls ≠ "java/lang/invoke/MethodHandle" ∧ y.cls ≠ "java/lang/invoke/VarHandle" ∧ (parseMethodDescriptor y.desc).map (fun d => d.parameters.length) = some n) (hd : decode cc pc = .ok (.invokevirtual ix, 3)) (hk : Snd Ξ own cc nL d (pc + 3) k) : Snd Ξ own cc nL d pc (ak_callx n f k) := by
  intro p l e R s m args below meth c D cA ad A cells slots Q C Z H locs ls lo st w o hrun hl hP hS hr
  have C0 := C
  obtain ⟨⟨hx, hb, hml, hown, hts⟩, hK, hi, hAd, hA, hE, hfr, hlo, hce, hsl⟩ := C0
  unfold ak_callx at hrun
  split at hrun
  · rename_i j r hdr
    cases hq : (isS j && Nat.ble n st.length && Nat.ble (csum r) 8) with
    | false => rw [hq] at hrun; cases hrun
    | true =>
    rw [hq] at hrun
    dsimp only [cond] at hrun
    obtain ⟨q12, q3⟩ := Bool.and_eq_true_iff.mp hq
    obtain ⟨q1, q2⟩ := Bool.and_eq_true_iff.mp q12
    have hn : n ≤ st.length := Nat.le_of_ble_eq_true q2
    have hcs : csum r ≤ 8 := Nat.le_of_ble_eq_true q3
    cases hf : f (vR j :: (st.take n).reverse) w with
    | none => rw [hf] at hrun; cases hrun
    | some o1 =>
    rw [hf] at hrun
    dsimp only at hrun
    obtain ⟨sq, hsq, hjq⟩ := isS_iff q1
    have hsub : ∀ q, AA ad H.size q → A q := by
      intro q h
      rcases h with ⟨j, h1, rfl⟩ | h
      · exact hAd j h1
      · exact hA q (Nat.le_trans hS.1 h)
    have hgood : ∀ w ∈ (Cond.code y bytes maxL ret :: lw_gw), w ∈ lw_gw := fun w h => (List.mem_cons.mp h).elim (fun e => e ▸ hcode) id
    have hMM := hM l D cA ad (vR j :: (st.take n).reverse) w o1 H.size hi hf
    have hpre : PreV s H "java/lang/String" (ad j) (va_Pc ((vR j :: (st.take n).reverse).map (cv ad)) (preA D cA ad w H.size)) ((st.take n).reverse.map (cv ad)) := by
      refine ⟨fun a U g mk q => ?_, by rw [hjq]; exact vk_recv (adK := fun i => ad (310 + i)) (i := sq) hE.2.1 hsq hS, fun U hU hW => ?_⟩
      · obtain ⟨a1, a2, a3, a4, a5⟩ := q
        exact ⟨a1, a2, a3, va_K.moved (u := U) (U := U.calling g mk a) (Vm.Alike.refl U.vm) a4, EXT.same (u := U) (U := U.calling g mk a) rfl a5⟩
      · refine ⟨rfl, by rw [hU], by rw [hU]; exact hP, va_K.moved hW.alike hK, ?_⟩
        have e1 := (hE.warm hW).kept (H1 := H) hS.2.1
        rw [hU]
        exact e1.narrow hsub
    have hcb := callB_of (rm := rmD d2) (mc := 0) (ms := 0) (R := R) (own := own) (index := ix) n hts (good_self hgood) rfl rfl rfl (hts _ hini) (hts _ hlk) hy ⟨by show d2 + 1 ≤ _; omega, by show 8 + (maxL + 11) + d2 * 60 ≤ _; omega⟩
    have hrun2 := va_runV (As := (st.take n).reverse.map (cv ad)) (g := F0 m pc ls (st.map (cv ad))) (rest := r.map (cv ad)) (cells := cells) (slots := slots) (locs := locs) (below := below) (meth := meth) (e := e) ⟨hx, hb, hml, hown, hts⟩ hMM ⟨hcb, hts _ hin, hts _ hsel⟩ hpre rfl (by simp; omega) hl.choose_spec.1.1 (by
        show st.map (cv ad) = _
        have e9 : st = st.take n ++ (vR j :: r) := by rw [← hdr, List.take_append_drop]
        conv => lhs; rw [e9]
        rw [List.map_append, ← List.map_reverse, List.reverse_reverse]
        rfl) (by
        show 2 * 0 + _ ≤ 8
        rw [csum_ok]
        omega) hd ⟨by omega, by omega⟩
    intro T hT X
    obtain ⟨v, st₀, t, T', L, h0, X', hL, e1, e2, ⟨hv, hPt, hz, hkk⟩, stp⟩ := hrun2 T hT X
    cases hv
    rw [h0] at hz hkk
    have hS1 : va_S A s.heap T'.heap (locs ++ L) := ⟨Nat.le_trans hS.1 (by rw [e1]; exact hz), fun q h1 h2 => by rw [e1, hkk q (Nat.lt_of_lt_of_le h1 hS.1) (fun z => h2 (hsub q z))]; exact hS.2.1 q h1 h2, fun q hq => by
        rcases List.mem_append.mp hq with h | h
        · exact hS.2.2 q h
        · exact hsub _ (hL q h)⟩
    have key := hk p l e R s m args below meth c D cA ad A cells slots Q C Z T'.heap (locs ++ L) ls lo (o1.1.toList ++ r) o1.2 o hrun hl (by rw [e1]; exact hPt) hS1 hr
    obtain ⟨t2, a1, b1⟩ := key T' rfl X'
    refine ⟨t2, stp t2 ?_, b1⟩
    have e5 : (Option.map (cv ad) o1.1).toList ++ r.map (cv ad) = (o1.1.toList ++ r).map (cv ad) := by
      cases o1.1 <;> simp
    rw [e5]
    exact a1
  · cases hrun
