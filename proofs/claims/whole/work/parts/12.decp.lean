theorem dk268_8 : ∀ x ∈ cd268_8, decode code x.1 = .ok (x.2.1, x.2.2) := by decide +kernel
