/-! buy: the core -/
def cBu (c : CO) (t r h : Nat) : CO := (c.1, ud (ud (cD c) 10 t (3 * r + h) (cD c 0 0 0)) 8 t r ((h : Int) + 1), cR c, cF c, cW c, uf (cP c) t (cP c t ++ [(cD c 0 0 0, cD c 4 r h)]))
theorem paL_a {m : Int} (a : List (Int × Int)) (y : Int × Int) : paL m (a ++ [y]) = paL m a + (if y.1 ≤ m then y.2 else 0) := by
  induction a with
  | nil => simp [paL]
  | cons z a ih => simp only [List.cons_append, paL, ih]; omega
section BU
variable {c : CO} {t r h : Nat}
theorem cBu_D {g i k : Nat} : cD (cBu c t r h) g i k = if g = 8 ∧ i = t ∧ k = r then (h : Int) + 1 else if g = 10 ∧ i = t ∧ k = 3 * r + h then cD c 0 0 0 else cD c g i k := rfl
theorem cBu_o {g i k : Nat} (z : g ≠ 8) (z1 : g ≠ 10) : cD (cBu c t r h) g i k = cD c g i k := by rw [cBu_D, if_neg (by omega), if_neg (by omega)]
theorem cBu_8 {i k : Nat} : cD (cBu c t r h) 8 i k = if i = t ∧ k = r then (h : Int) + 1 else cD c 8 i k := by
  rw [cBu_D]
  by_cases e : i = t ∧ k = r
  · rw [if_pos ⟨rfl, e.1, e.2⟩, if_pos e]
  · rw [if_neg (fun q => e q.2), if_neg (by omega), if_neg e]
theorem cBu_ok (hh : cD c 8 t r = (h : Int)) (h3 : h < 3) {g i k : Nat} (z : ok (cBu c t r h) g i k) : ok c g i k ∨ (g = 10 ∧ i = t ∧ k = 3 * r + h) := by
  refine ok_cs z (fun a b d => Or.inl (ok_i0 a b d)) (fun a b d => Or.inl (ok_i1 a b d)) (fun a b d => Or.inl (ok_i2 a b (by rw [cBu_o (by decide) (by decide)] at d; exact d))) (fun a b d => Or.inl (ok_i3 a b (by rw [cBu_o (by decide) (by decide)] at d; exact d))) (fun a b d => Or.inl (ok_i5 a b d)) (fun a b d => Or.inl (ok_i6 a b d)) (fun a b d e => ?_) (fun a b d => Or.inl (ok_i11 a b (by rw [cBu_o (by decide) (by decide)] at d; exact d))) (fun a b d => Or.inl (ok_i12 a b d))
  rw [cBu_8] at e
  by_cases q : i = t ∧ k / 3 = r
  · rw [if_pos q] at e
    by_cases ek : k % 3 = h
    · exact Or.inr ⟨a, q.1, by omega⟩
    · refine Or.inl (ok_i10 a b d ?_)
      rw [q.1, q.2, hh]
      omega
  · rw [if_neg q] at e
    exact Or.inl (ok_i10 a b d e)
theorem cBu_ok2 (hh : cD c 8 t r = (h : Int)) (h3 : h < 3) {g i k : Nat} (z : ok c g i k) : ok (cBu c t r h) g i k ∧ cD c g i k = ud (cD (cBu c t r h)) 8 t r (h : Int) g i k := by
  have hn : ¬ (g = 10 ∧ i = t ∧ k = 3 * r + h) := fun q => by
    refine ok_cs z (fun a b d => by omega) (fun a b d => by omega) (fun a b d => by omega) (fun a b d => by omega) (fun a b d => by omega) (fun a b d => by omega) (fun a b d e => ?_) (fun a b d => by omega) (fun a b d => by omega)
    rw [q.2.1, show k / 3 = r by omega, hh] at e
    omega
  refine ⟨ok_map z (Nat.le_refl _) (Nat.le_refl _) (Nat.le_refl _) (fun _ => by rw [cBu_o (by decide) (by decide)]; exact Int.le_refl _) (fun _ => by rw [cBu_o (by decide) (by decide)]; exact Int.le_refl _) (fun _ j => ?_) (fun _ => by rw [cBu_o (by decide) (by decide)]; exact Int.le_refl _), ?_⟩
  · rw [cBu_8]
    by_cases e : i = t ∧ j = r
    · rw [if_pos e, e.1, e.2, hh]; omega
    · rw [if_neg e]; exact Int.le_refl _
  · unfold ud
    by_cases e : g = 8 ∧ i = t ∧ k = r
    · rw [if_pos e, e.1, e.2.1, e.2.2, hh]
    · rw [if_neg e, cBu_D, if_neg e, if_neg hn]
theorem prI_put {at_ pr : Nat → Int} {m now : Int} (h3 : h < 3) : prI ((h : Int) + 1) (fun x => if x = 3 * r + h then now else at_ x) pr m r 3 = prI (h : Int) at_ pr m r 3 + (if now ≤ m then pr h else 0) := by
  have e : ∀ j, j ≠ h → (if 3 * r + j = 3 * r + h then now else at_ (3 * r + j)) = at_ (3 * r + j) := fun j hj => if_neg (by omega)
  have e1 : (if 3 * r + h = 3 * r + h then now else at_ (3 * r + h)) = now := if_pos rfl
  obtain rfl | rfl | rfl : h = 0 ∨ h = 1 ∨ h = 2 := by omega
  · simp only [prI]
    rw [if_pos trivial, e 1 (by omega), e 2 (by omega)]
    rw [if_neg (show ¬ (((1 : Nat) : Int) < ((0 : Nat) : Int) + 1 ∧ at_ (3 * r + 1) ≤ m) by omega), if_neg (show ¬ (((2 : Nat) : Int) < ((0 : Nat) : Int) + 1 ∧ at_ (3 * r + 2) ≤ m) by omega), if_neg (show ¬ (((0 : Nat) : Int) < ((0 : Nat) : Int) ∧ at_ (3 * r + 0) ≤ m) by omega), if_neg (show ¬ (((1 : Nat) : Int) < ((0 : Nat) : Int) ∧ at_ (3 * r + 1) ≤ m) by omega), if_neg (show ¬ (((2 : Nat) : Int) < ((0 : Nat) : Int) ∧ at_ (3 * r + 2) ≤ m) by omega)]
    by_cases q : now ≤ m
    · rw [if_pos ⟨by omega, q⟩, if_pos q]; omega
    · rw [if_neg (fun z => q z.2), if_neg q]; omega
  · simp only [prI]
    rw [if_pos trivial, e 0 (by omega), e 2 (by omega)]
    rw [if_neg (show ¬ (((2 : Nat) : Int) < ((1 : Nat) : Int) + 1 ∧ at_ (3 * r + 2) ≤ m) by omega), if_neg (show ¬ (((1 : Nat) : Int) < ((1 : Nat) : Int) ∧ at_ (3 * r + 1) ≤ m) by omega), if_neg (show ¬ (((2 : Nat) : Int) < ((1 : Nat) : Int) ∧ at_ (3 * r + 2) ≤ m) by omega)]
    by_cases q : now ≤ m
    · rw [if_pos (show ((1 : Nat) : Int) < ((1 : Nat) : Int) + 1 ∧ now ≤ m from ⟨by omega, q⟩), if_pos q]
      by_cases q0 : at_ (3 * r + 0) ≤ m
      · rw [if_pos ⟨by omega, q0⟩, if_pos ⟨by omega, q0⟩]; omega
      · rw [if_neg (fun z => q0 z.2), if_neg (fun z => q0 z.2)]; omega
    · rw [if_neg (show ¬ (((1 : Nat) : Int) < ((1 : Nat) : Int) + 1 ∧ now ≤ m) from fun z => q z.2), if_neg q]
      by_cases q0 : at_ (3 * r + 0) ≤ m
      · rw [if_pos ⟨by omega, q0⟩, if_pos ⟨by omega, q0⟩]; omega
      · rw [if_neg (fun z => q0 z.2), if_neg (fun z => q0 z.2)]; omega
  · simp only [prI]
    rw [if_pos trivial, e 0 (by omega), e 1 (by omega)]
    rw [if_neg (show ¬ (((2 : Nat) : Int) < ((2 : Nat) : Int) ∧ at_ (3 * r + 2) ≤ m) by omega)]
    have a0 : (if ((0 : Nat) : Int) < ((2 : Nat) : Int) + 1 ∧ at_ (3 * r + 0) ≤ m then pr 0 else 0) = (if ((0 : Nat) : Int) < ((2 : Nat) : Int) ∧ at_ (3 * r + 0) ≤ m then pr 0 else 0) := by
      by_cases q0 : at_ (3 * r + 0) ≤ m
      · rw [if_pos ⟨by omega, q0⟩, if_pos ⟨by omega, q0⟩]
      · rw [if_neg (fun z => q0 z.2), if_neg (fun z => q0 z.2)]
    have a1 : (if ((1 : Nat) : Int) < ((2 : Nat) : Int) + 1 ∧ at_ (3 * r + 1) ≤ m then pr 1 else 0) = (if ((1 : Nat) : Int) < ((2 : Nat) : Int) ∧ at_ (3 * r + 1) ≤ m then pr 1 else 0) := by
      by_cases q0 : at_ (3 * r + 1) ≤ m
      · rw [if_pos ⟨by omega, q0⟩, if_pos ⟨by omega, q0⟩]
      · rw [if_neg (fun z => q0 z.2), if_neg (fun z => q0 z.2)]
    rw [a0, a1]
    by_cases q : now ≤ m
    · rw [if_pos (show ((2 : Nat) : Int) < ((2 : Nat) : Int) + 1 ∧ now ≤ m from ⟨by omega, q⟩), if_pos q]; omega
    · rw [if_neg (show ¬ (((2 : Nat) : Int) < ((2 : Nat) : Int) + 1 ∧ now ≤ m) from fun z => q z.2), if_neg q]; omega
theorem prC_put {bo at_ : Nat → Int} {pr : Nat → Nat → Int} {m now : Int} (hh : bo r = (h : Int)) (h3 : h < 3) : ∀ n, prC (fun x => if x = r then (h : Int) + 1 else bo x) (fun x => if x = 3 * r + h then now else at_ x) pr m n = prC bo at_ pr m n + (if r < n ∧ now ≤ m then pr r h else 0)
  | 0 => by
    simp only [prC]
    rw [if_neg (by omega)]
    rfl
  | n + 1 => by
    simp only [prC]
    rw [prC_put hh h3 n]
    by_cases e : n = r
    · subst e
      rw [if_pos rfl, prI_put h3, hh, if_neg (show ¬ (n < n ∧ now ≤ m) by omega)]
      by_cases q : now ≤ m
      · rw [if_pos q, if_pos ⟨by omega, q⟩]; omega
      · rw [if_neg q, if_neg (fun z => q z.2)]; omega
    · rw [if_neg e]
      have ei : prI (bo n) (fun x => if x = 3 * r + h then now else at_ x) (pr n) m n 3 = prI (bo n) at_ (pr n) m n 3 := prI_cg 3 (fun j hj _ => ⟨if_neg (by omega), rfl⟩)
      rw [ei]
      by_cases q : r < n ∧ now ≤ m
      · rw [if_pos q, if_pos ⟨by omega, q.2⟩]; omega
      · rw [if_neg q, if_neg (fun z => q ⟨by omega, z.2⟩)]; omega
theorem sB_put {bo : Nat → Int} (hh : bo r = (h : Int)) : ∀ n, sB (fun x => if x = r then (h : Int) + 1 else bo x) n = sB bo n + (if r < n then 1 else 0)
  | 0 => by
    simp only [sB]
    rw [if_neg (by omega)]
    rfl
  | n + 1 => by
    simp only [sB]
    rw [sB_put hh n]
    by_cases e : n = r
    · subst e
      rw [if_pos rfl, if_neg (show ¬ n < n by omega), if_pos (by omega), hh]
      omega
    · rw [if_neg e]
      by_cases q : r < n
      · rw [if_pos q, if_pos (by omega)]; omega
      · rw [if_neg q, if_neg (by omega)]; omega
theorem wf_buy (w : WF c) (ht : t < cn c 1) (hr : r < cn c 0) (hh : cD c 8 t r = (h : Int)) (hl : (h : Int) < cD c 1 r 5) : WF (cBu c t r h) := by
  have w0 := w
  obtain ⟨w1, w2, w3, w4, w5⟩ := w
  have hr20 := w1.1
  have h5 := (w2 r hr).2.2.2.2.2.1
  have h3 : h < 3 := by omega
  have eg : ∀ g i, g ≠ 8 → g ≠ 10 → cD (cBu c t r h) g i = cD c g i := fun g i z z1 => funext fun k => cBu_o z z1
  have e0 : cD (cBu c t r h) 0 0 0 = cD c 0 0 0 := cBu_o (by decide) (by decide)
  refine ⟨⟨w1.1, w1.2.1, w1.2.2.1, by rw [e0]; exact w1.2.2.2.1, by rw [e0]; exact w1.2.2.2.2⟩, fun i hi => ?_, fun i hi => ?_, fun u hu => ?_, fun i hi => ?_⟩
  · rw [eg 1 i (by decide) (by decide), eg 2 i (by decide) (by decide), eg 3 i (by decide) (by decide), eg 4 i (by decide) (by decide)]; exact w2 i hi
  · obtain ⟨a1, a2, a3⟩ := w3 i hi
    rw [e0, eg 5 i (by decide) (by decide), eg 6 i (by decide) (by decide), eg 7 i (by decide) (by decide), eg 9 i (by decide) (by decide)]
    refine ⟨a1, a2, fun k hk => ?_⟩
    obtain ⟨b1, b2, ⟨b3, b4, b5, b6⟩, b7⟩ := a3 k hk
    rw [cBu_8, eg 1 k (by decide) (by decide)]
    refine ⟨b1, b2, ?_, b7⟩
    by_cases e : i = t ∧ k = r
    · rw [if_pos e]
      refine ⟨by omega, by omega, fun q => ?_, fun q => ?_⟩
      · have q : cn c 0 ≤ k := q
        omega
      · rw [e.2]; omega
    · rw [if_neg e]
      exact ⟨b3, b4, b5, b6⟩
  · rw [eg 11 u (by decide) (by decide), eg 12 u (by decide) (by decide)]; exact w4 u hu
  · obtain ⟨a1, a2, a3⟩ := w5 i hi
    have e4 : cD (cBu c t r h) 4 = cD c 4 := funext fun j => eg 4 j (by decide) (by decide)
    rw [e4]
    by_cases e : i = t
    · subst e
      have ep : cP (cBu c i r h) i = cP c i ++ [(cD c 0 0 0, cD c 4 r h)] := by
        show uf (cP c) i _ i = _
        unfold uf
        rw [if_pos rfl]
      have f8 : cD (cBu c i r h) 8 i = fun x => if x = r then (h : Int) + 1 else cD c 8 i x := funext fun k => by
        rw [cBu_8]
        by_cases q : k = r
        · rw [if_pos ⟨rfl, q⟩, if_pos q]
        · rw [if_neg (fun z => q z.2), if_neg q]
      have f10 : cD (cBu c i r h) 10 i = fun x => if x = 3 * r + h then cD c 0 0 0 else cD c 10 i x := funext fun k => by
        rw [cBu_D, if_neg (by omega)]
        by_cases q : k = 3 * r + h
        · rw [if_pos ⟨rfl, rfl, q⟩, if_pos q]
        · rw [if_neg (fun z => q z.2.2), if_neg q]
      rw [ep, f8, f10]
      refine ⟨fun m => ?_, ?_, fun x hx => ?_⟩
      · rw [paL_a, a1 m, prC_put hh h3 20]
        by_cases q : cD c 0 0 0 ≤ m
        · rw [if_pos q, if_pos ⟨by omega, q⟩]
        · rw [if_neg q, if_neg (fun z => q z.2)]
      · rw [List.length_append, sB_put hh 20, if_pos (by omega), ← a2]
        rfl
      · rcases List.mem_append.mp hx with hx | hx
        · exact a3 x hx
        · rw [List.mem_singleton.mp hx]
          exact ((w2 r hr).2.2.2.2.2.2.2 h hl).2
    · have ep : cP (cBu c t r h) i = cP c i := by
        show uf (cP c) t _ i = _
        unfold uf
        rw [if_neg e]
      have f8 : cD (cBu c t r h) 8 i = cD c 8 i := funext fun k => by rw [cBu_8, if_neg (fun z => e z.1)]
      have f10 : cD (cBu c t r h) 10 i = cD c 10 i := funext fun k => by rw [cBu_D, if_neg (by omega), if_neg (fun z => e z.2.1)]
      rw [ep, f8, f10]
      exact ⟨a1, a2, a3⟩
end BU
