/-! level 2: alike answers: a sight hangs on the year, how often shown, the seats -/
theorem sg_cg {C : Cr} {z z' : Nat → Nat} {t w seat : Nat} (hC : okCr C) (h0 : z 0 = z' 0) (h9 : z (9 + t) = z' (9 + t)) : sg C z t w seat = sg C z' t w seat := by
  unfold sg vl
  obtain ⟨-, -, -, -, -, ⟨-, hal, -⟩, -⟩ := hC
  have : evA (fct C z t w seat) (fun _ => 0) (cS C) [] = evA (fct C z' t w seat) (fun _ => 0) (cS C) [] := by
    refine evA_c (cS C) [] (fun c hc => ?_) (fun c hc h1 h2 => ?_) (fun c hc => ?_)
    · have := hal c hc; unfold alw at this; omega
    · have := hal c hc
      unfold alw at this
      have : c = 40 ∨ c = 41 ∨ c = 42 ∨ c = 43 ∨ c = 44 := by omega
      unfold fct
      rcases this with rfl | rfl | rfl | rfl | rfl
      · rfl
      · exact congrArg Int.ofNat h9
      · exact congrArg Int.ofNat h0
      · rfl
      · rfl
    · have := hal c hc; unfold alw at this; unfold okA; omega
  rw [this]
theorem sgT_cg {C : Cr} {z z' : Nat → Nat} {t : Nat} (hC : okCr C) (h0 : z 0 = z' 0) (h9 : z (9 + t) = z' (9 + t)) (hw : ∀ w, w < cW C → z (21 + w) = z' (21 + w)) : sgT C z t = sgT C z' t := smT_c _ (fun w hw' => by rw [hw w hw', sg_cg hC h0 h9])
