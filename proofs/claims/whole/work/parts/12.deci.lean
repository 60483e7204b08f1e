theorem dk268_1 : ∀ x ∈ cd268_1, decode code x.1 = .ok (x.2.1, x.2.2) := by decide +kernel
