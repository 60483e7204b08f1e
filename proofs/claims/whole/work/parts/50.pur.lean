/-! RUNS, PURELY: more steps and more open calls change nothing -/
theorem run_le : ∀ (n : Nat) {n' d d' mi pc : Nat} {L : LO} {st : List AV} {σ : ST} {x : RS × ST}, n ≤ n' → d ≤ d' → run n d mi pc L st σ = some x → run n' d' mi pc L st σ = some x := by
  intro n
  induction n with
  | zero =>
    intro n' d d' mi pc L st σ x _ _ h
    cases h
  | succ n ih =>
    intro n' d d' mi pc L st σ x hn hd h
    cases n' with
    | zero => omega
    | succ k =>
      have hk : n ≤ k := by omega
      obtain ⟨i, len, so, hcd, hso, h⟩ := run_inv h
      have hst : step mi pc L st σ = some so := by unfold step; rw [hcd]; exact hso
      simp only [run]
      rw [hst]
      rcases h with ⟨fr, σ1, rfl, h⟩ | ⟨cm, as, fr, d1, rfl, rfl, y, hy, h⟩ | ⟨v, σ1, rfl, rfl⟩ | ⟨a, σ1, rfl, hd16, hw8, h⟩
      · exact ih hk hd h
      · cases d' with
        | zero => omega
        | succ d2 =>
          have hd2 : d1 ≤ d2 := by omega
          have hy2 : (if cm < 1000 then run k d2 cm 0 (iL (MX cm) as) [] σ else if d2 < 16 then none else BF cm as σ) = some y := by
            rcases hy with ⟨hc, hy⟩ | ⟨hc, h16, hy⟩
            · rw [if_pos hc]
              exact ih hk hd2 hy
            · rw [if_neg (by omega), if_neg (by omega)]
              exact hy
          simp only [hy2]
          obtain ⟨y1, σ2⟩ := y
          rcases h with ⟨v, hv, h⟩ | ⟨a, ix, ha, rfl, h⟩
          · cases hv
            exact ih hk hd h
          · cases ha
            have hxo : XO mi pc a σ2 = HX mi pc a σ2 := by unfold XO; rw [hcd]
            rcases h with ⟨h9, hx, h⟩ | ⟨hx, rfl⟩
            · simp only [hxo, hx]
              exact ih hk hd h
            · simp only [hxo, hx]
      · rfl
      · have e0 : ¬ (d' < 16 ∨ 8 < wt st) := by omega
        rcases h with ⟨h9, hx, h⟩ | ⟨hx, rfl⟩
        · simp only [if_neg e0, hx]
          exact ih hk hd h
        · simp only [if_neg e0, hx]
