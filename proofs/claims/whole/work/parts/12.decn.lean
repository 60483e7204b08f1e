theorem dk268_6 : ∀ x ∈ cd268_6, decode code x.1 = .ok (x.2.1, x.2.2) := by decide +kernel
