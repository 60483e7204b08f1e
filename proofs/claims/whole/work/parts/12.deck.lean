theorem dk268_3 : ∀ x ∈ cd268_3, decode code x.1 = .ok (x.2.1, x.2.2) := by decide +kernel
