theorem dk268_2 : ∀ x ∈ cd268_2, decode code x.1 = .ok (x.2.1, x.2.2) := by decide +kernel
