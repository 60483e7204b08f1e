theorem dk268_7 : ∀ x ∈ cd268_7, decode code x.1 = .ok (x.2.1, x.2.2) := by decide +kernel
