theorem dk268_5 : ∀ x ∈ cd268_5, decode code x.1 = .ok (x.2.1, x.2.2) := by decide +kernel
