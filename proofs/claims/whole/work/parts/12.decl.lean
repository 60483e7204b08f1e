theorem dk268_4 : ∀ x ∈ cd268_4, decode code x.1 = .ok (x.2.1, x.2.2) := by decide +kernel
