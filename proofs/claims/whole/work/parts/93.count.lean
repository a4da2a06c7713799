/-! how many there are -/
def aCount (m d a : Int) : Int := if a = 0 then m else if a = 1 then d else -2
theorem cc_count {F : Nat} {a : Int} {w : AW} {P : Int → AW → Prop} (har : iR a) (h0 : w.1 35 5 = w.1 5 0) (h1 : w.1 35 7 = w.1 5 1) (hp : ∀ w', KQ w w' → P (aCount (w.1 5 0) (w.1 5 1) a) w') : CI (m_X8_count F [vR 34, vI a] w) P := by
  have hpk := hp w KQ.rf
  unfold aCount at hpk
  refine wp_X8_count F a w _ ?_
  rw [w_id har.1 har.2, h0, h1]
  refine ⟨fun q => q_i ?_, fun q => ⟨fun q2 => q_i ?_, fun q2 => q_i ?_⟩⟩
  · rw [if_pos q] at hpk; exact hpk
  · rw [if_neg q, if_pos q2] at hpk; exact hpk
  · rw [if_neg q, if_neg q2] at hpk; exact hpk
theorem cr_count {F : Nat} {a : Int} {w : AW} {P : Int → AW → Prop} (har : iR a) (hp : ∀ w', KQ w w' → P (aCount (w.1 5 0) (w.1 5 1) a) w') : CI (m_X9_count F [vR 0, vI a] w) P := by
  refine wp_X9_count F a w _ (fun w0 e0 => ?_)
  have k0 : KQ w w0 := by rw [e0]; exact wI0_KQ
  have hpk := hp w0 k0
  unfold aCount at hpk
  rw [← k0.1 5 0 (by omega), ← k0.1 5 1 (by omega)] at hpk
  refine ci_in har (by decide) (by decide) (fun z => br1 ⟨⟨by omega, by omega⟩, q_i ?_⟩) (fun z => br0 (q_i ?_))
  · by_cases q : a = 0
    · rw [if_pos q] at hpk
      rw [q]; exact hpk
    · have q1 : a = 1 := by omega
      rw [if_neg q, if_pos q1] at hpk
      rw [q1]; exact hpk
  · rw [if_neg (by omega), if_neg (by omega)] at hpk; exact hpk
