theorem ext_of {args : Array Value} {s : State} {A : Nat → Prop} (hgv : (Jvm.Cond.and given_1 narrow_1).before args s = true) (hts : ∀ w ∈ lw_tbl, w.before args s = true) (hA : ∀ a : Nat, a < s.heap.size → ¬ A a) :
    ∃ (tS adK adV : Nat → Nat) (fm : Nat), ∀ ad : Nat → Nat, (∀ e, e < 3 → ad (300 + e) = tS e) → (∀ i, i < 14 → ad (310 + i) = adK i) → (∀ i, i < 14 → ad (330 + i) = adV i) → ad 399 = fm → EXT ad A s s.heap := by
  have hf := flat_of_before _ hgv
  have hst : ∀ e : Nat, ∃ t : Nat, e < 3 → va_Z "LastWalker$Reader" (xname e) "[I" (.ref t) A s s.heap ∧ va_T .int t (xlen e) (fun k => .int (Int32.ofInt (xval e k))) A s s.heap := by
    intro e
    by_cases he : e < 3
    · obtain ⟨h1, h2, h3, h4⟩ := f_st e he
      obtain ⟨t, ht, hT⟩ := va_Tof (tm := tStat e) (N := xlen e) (f := fun k => .int (Int32.ofInt (xval e k))) (A := A) (by omega) (hf _ h1) (va_eqt (hf _ h2)) (fun j hj => va_eqt (hf _ (h4 j hj))) hA
      exact ⟨t, fun _ => ⟨va_Zref (hts _ (f_sl e he)) (hts _ f_ls.2.2.2.2) ht hA, hT⟩⟩
    · exact ⟨0, fun h => absurd h he⟩
  obtain ⟨tS, htS⟩ := Classical.axiomOfChoice hst
  obtain ⟨adK, adV, hS, hev⟩ := vk_Sof (args := args) (s := s) (N := 14) (tm := tStr) (len := strLen) (byt := strByt) (A := A) (fun i hi => by have := (f_str i hi).2.2.2.2.1; omega) (fun i hi => hf _ (f_str i hi).1) (fun i hi => hf _ (f_str i hi).2.1) (fun i hi => hf _ (f_str i hi).2.2.1) (fun i hi => hf _ (f_str i hi).2.2.2.1) (fun i hi j hj => hf _ ((f_str i hi).2.2.2.2.2 j hj)) (fun i j hi hj hij => (f_ne i hi j hj hij).imp (hf _) (hf _)) hA
  have hcs := va_Zof (hts _ f_ls.1) (hts _ f_ls.2.2.1) (va_eqi (hf _ f_cs.1)) hA
  have hfm : ∃ fm : Nat, va_Z "jdk/internal/util/Preconditions" "SIOOBE_FORMATTER" "Ljava/util/function/BiFunction;" .null A s s.heap ∨ va_Z "jdk/internal/util/Preconditions" "SIOOBE_FORMATTER" "Ljava/util/function/BiFunction;" (.ref fm) A s s.heap := by
    rcases va_Zqof (hts _ f_ls.2.1) (hts _ f_ls.2.2.2.1) (hf _ f_cs.2) hA with h | ⟨t, h⟩
    · exact ⟨0, Or.inl h⟩
    · exact ⟨t, Or.inr h⟩
  obtain ⟨fm, hfm⟩ := hfm
  refine ⟨tS, adK, adV, fm, fun ad a1 a2 a3 a4 => ⟨fun e he => ?_, ⟨fun i hi => ?_, fun i j hi hj hij => ?_⟩, fun i hi => ?_, hcs, ?_⟩⟩
  · rw [a1 e he]
    exact htS e he
  · show va_O "java/lang/String" (ad (310 + i)) A s s.heap ∧ va_OF "java/lang/String" "coder" "B" (.int 0) (ad (310 + i)) A s s.heap ∧ va_OF "java/lang/String" "value" "[B" (.ref (ad (330 + i))) (ad (310 + i)) A s s.heap ∧ va_T .byte (ad (330 + i)) (strLen.getD i 0) (fun j => .int ((strByt.getD i []).getD j 0)) A s s.heap
    rw [a2 i hi, a3 i hi]
    exact hS.1 i hi
  · have h2 : ad (310 + i) = ad (310 + j) := hij
    rw [a2 i hi, a2 j hj] at h2
    exact hS.2 i j hi hj h2
  · rw [a2 i hi]
    exact vk_R.of (hts _ (f_sr i hi)) (hev i hi)
  · rw [a4]
    exact hfm
