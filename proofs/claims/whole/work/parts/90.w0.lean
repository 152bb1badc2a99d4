/-! what holds at first -/
theorem inv_w0 : Inv w0 := by
  have h9 : (w0.1 56 9).toInt = 0 := by decide +kernel
  have h10 : (w0.1 56 10).toInt = 0 := by decide +kernel
  have h18 : (w0.1 55 18).toInt = 0 := by decide +kernel
  refine ⟨⟨⟨⟨?_, ?_, ?_, ?_, ?_, ?_, fun n hn => ?_, fun n hn => ?_⟩, ⟨?_, ?_, ?_, ?_, ?_, fun n hn => ?_, fun n hn => ?_⟩⟩, ⟨?_, Or.inl ?_, fun q => ?_⟩, ⟨?_, ?_⟩, ⟨?_, ?_, fun i hi => ?_⟩, ?_, ?_⟩, Or.inl ?_, Or.inl ?_⟩
  · decide +kernel
  · decide +kernel
  · decide +kernel
  · decide +kernel
  · decide +kernel
  · decide +kernel
  · rw [h9] at hn; omega
  · rw [h10] at hn; omega
  · unfold WFt tF tP tLn tG; decide +kernel
  · decide +kernel
  · decide +kernel
  · rw [h9]; omega
  · rw [h10]; omega
  · rw [h9] at hn; omega
  · rw [h10] at hn; omega
  · decide +kernel
  · decide +kernel
  · exact absurd q (by decide +kernel)
  · decide +kernel
  · decide +kernel
  · decide +kernel
  · rw [h18]; omega
  · rw [h18] at hi; omega
  · unfold SheetOK; decide +kernel
  · unfold TabOK; decide +kernel
  · decide +kernel
  · decide +kernel
