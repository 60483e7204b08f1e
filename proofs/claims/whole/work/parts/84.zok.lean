/-! WHERE THE CORE SPEAKS: cases -/
section OKS
variable {c c1 : CO} {g i k : Nat}
theorem ok_i0 (h : g = 0) (h1 : i = 0) (h2 : k = 0) : ok c g i k := Or.inl ⟨h, h1, h2⟩
theorem ok_i1 (h : g = 1) (h1 : i < cn c 0) (h2 : k < 6) : ok c g i k := Or.inr (Or.inl ⟨h, h1, h2⟩)
theorem ok_i2 (h : g = 2) (h1 : i < cn c 0) (h2 : (k : Int) < cD c 1 i 2) : ok c g i k := Or.inr (Or.inr (Or.inl ⟨h, h1, h2⟩))
theorem ok_i3 (h : g = 3 ∨ g = 4) (h1 : i < cn c 0) (h2 : (k : Int) < cD c 1 i 5) : ok c g i k := Or.inr (Or.inr (Or.inr (Or.inl ⟨h, h1, h2⟩)))
theorem ok_i5 (h : g = 5) (h1 : i < cn c 1) (h2 : k < 2) : ok c g i k := Or.inr (Or.inr (Or.inr (Or.inr (Or.inl ⟨h, h1, h2⟩))))
theorem ok_i6 (h : g = 6 ∨ g = 7 ∨ g = 8 ∨ g = 9) (h1 : i < cn c 1) (h2 : k < 20) : ok c g i k := Or.inr (Or.inr (Or.inr (Or.inr (Or.inr (Or.inl ⟨h, h1, h2⟩)))))
theorem ok_i10 (h : g = 10) (h1 : i < cn c 1) (h2 : k < 60) (h3 : ((k % 3 : Nat) : Int) < cD c 8 i (k / 3)) : ok c g i k := Or.inr (Or.inr (Or.inr (Or.inr (Or.inr (Or.inr (Or.inl ⟨h, h1, h2, h3⟩))))))
theorem ok_i11 (h : g = 11) (h1 : i < cn c 2) (h2 : (k : Int) < cD c 12 i 0) : ok c g i k := Or.inr (Or.inr (Or.inr (Or.inr (Or.inr (Or.inr (Or.inr (Or.inl ⟨h, h1, h2⟩)))))))
theorem ok_i12 (h : g = 12) (h1 : i < cn c 2) (h2 : k = 0) : ok c g i k := Or.inr (Or.inr (Or.inr (Or.inr (Or.inr (Or.inr (Or.inr (Or.inr ⟨h, h1, h2⟩)))))))
theorem ok_cs {P : Prop} (z : ok c g i k) (h0 : g = 0 → i = 0 → k = 0 → P) (h1 : g = 1 → i < cn c 0 → k < 6 → P) (h2 : g = 2 → i < cn c 0 → (k : Int) < cD c 1 i 2 → P) (h3 : g = 3 ∨ g = 4 → i < cn c 0 → (k : Int) < cD c 1 i 5 → P) (h5 : g = 5 → i < cn c 1 → k < 2 → P) (h6 : g = 6 ∨ g = 7 ∨ g = 8 ∨ g = 9 → i < cn c 1 → k < 20 → P) (h10 : g = 10 → i < cn c 1 → k < 60 → ((k % 3 : Nat) : Int) < cD c 8 i (k / 3) → P) (h11 : g = 11 → i < cn c 2 → (k : Int) < cD c 12 i 0 → P) (h12 : g = 12 → i < cn c 2 → k = 0 → P) : P := by
  unfold ok at z
  rcases z with z | z | z | z | z | z | z | z | z
  · exact h0 z.1 z.2.1 z.2.2
  · exact h1 z.1 z.2.1 z.2.2
  · exact h2 z.1 z.2.1 z.2.2
  · exact h3 z.1 z.2.1 z.2.2
  · exact h5 z.1 z.2.1 z.2.2
  · exact h6 z.1 z.2.1 z.2.2
  · exact h10 z.1 z.2.1 z.2.2.1 z.2.2.2
  · exact h11 z.1 z.2.1 z.2.2
  · exact h12 z.1 z.2.1 z.2.2
theorem ok_map (z : ok c g i k) (h0 : cn c 0 ≤ cn c1 0) (h1 : cn c 1 ≤ cn c1 1) (h2 : cn c 2 ≤ cn c1 2) (e2 : i < cn c 0 → cD c 1 i 2 ≤ cD c1 1 i 2) (e5 : i < cn c 0 → cD c 1 i 5 ≤ cD c1 1 i 5) (e8 : i < cn c 1 → ∀ j, cD c 8 i j ≤ cD c1 8 i j) (e12 : i < cn c 2 → cD c 12 i 0 ≤ cD c1 12 i 0) : ok c1 g i k :=
  ok_cs z ok_i0 (fun a b d => ok_i1 a (by omega) d) (fun a b d => ok_i2 a (by omega) (by have := e2 b; omega)) (fun a b d => ok_i3 a (by omega) (by have := e5 b; omega)) (fun a b d => ok_i5 a (by omega) d) (fun a b d => ok_i6 a (by omega) d) (fun a b d e => ok_i10 a (by omega) d (by have := e8 b (k / 3); omega)) (fun a b d => ok_i11 a (by omega) (by have := e12 b; omega)) (fun a b d => ok_i12 a (by omega) d)
end OKS
/-- where numbers stand: places of no matter to some act -/
theorem plK {g i k : Nat} : aC g i ≠ 67 ∧ aC g i ≠ 70 ∧ (aC g i = 64 → kC g i k = 9) := by
  have q1 := aC_c g i
  refine ⟨?_, ?_, fun h => ?_⟩
  · rcases q1 with q | q | q | q | q <;> omega
  · rcases q1 with q | q | q | q | q <;> omega
  · have : g = 0 := by rcases q1 with q | q | q | q | q <;> omega
    rw [this]
    rfl
theorem plT {t g i : Nat} (h : ¬ (i = t ∧ 5 ≤ g ∧ g ≤ 9)) (ht : t < 8) : ¬ (172 + 6 * t ≤ aC g i ∧ aC g i ≤ 176 + 6 * t) ∨ (g ≤ 4 ∧ 20 ≤ i) := by
  have q1 := aC_c g i
  rcases q1 with q | q | q | q | q <;> omega
theorem plN {g i k : Nat} : aM g i ≠ 223 ∧ (aM g i = 220 → kM g k = 7) := by
  have q1 := aM_c g i
  refine ⟨?_, fun h => ?_⟩
  · rcases q1 with q | q | q <;> omega
  · have : g = 0 := by rcases q1 with q | q | q <;> omega
    rw [this]
    rfl
theorem plU {t g i : Nat} (h : ¬ (i = t ∧ 5 ≤ g ∧ g ≤ 9)) (h9 : g ≤ 9) : ¬ (416 + 7 * t ≤ aM g i ∧ aM g i ≤ 420 + 7 * t) ∨ (g ≤ 4 ∧ 20 ≤ i) := by
  have q1 := aM_c g i
  rcases q1 with q | q | q <;> omega
theorem vd_20 {g i k : Nat} (v : vd g i k) : ¬ (1 ≤ g ∧ g ≤ 4 ∧ 20 ≤ i) := by
  unfold vd at v
  omega
