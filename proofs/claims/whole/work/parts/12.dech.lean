theorem dk268_0 : ∀ x ∈ cd268_0, decode code x.1 = .ok (x.2.1, x.2.2) := by decide +kernel
