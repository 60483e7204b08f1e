/-! THE LOGS -/
def LGP (a k : Nat) : Prop := a = 90 ∨ a = 91 ∨ (a = 89 ∧ (k = 2 ∨ k = 3))
theorem wr5 {n j : Nat} (h : n < 1000) (hj : j ≤ 5) : wr (((5 * n : Nat) : Int) + (j : Int)) = ((5 * n + j : Nat) : Int) := add_n (by omega)
theorem EnC.sm {τ τ1 : T2} {j : Nat} {e : ENT} (h : EnC τ j e) (h1 : ∀ k, 5 * j ≤ k → k < 5 * j + 5 → tI τ1 90 k = tI τ 90 k) (h2 : tP τ1 91 j = tP τ 91 j) : EnC τ1 j e := by
  obtain ⟨⟨a1, a2, a3, a4, a5⟩, a6⟩ := h
  unfold EnC
  rw [h1 _ (by omega) (by omega), h1 _ (by omega) (by omega), h1 _ (by omega) (by omega), h1 _ (by omega) (by omega), h1 _ (by omega) (by omega), h2]
  exact ⟨⟨a1, a2, a3, a4, a5⟩, a6⟩
section LOG
variable {d : Nat} {τ : T2} {Q : RS → T2 → Prop}
theorem c28 (F : FX2 τ) {E : List ENT} (h : LgC τ E) (hd : 17 ≤ d) {x1 x2 x3 x4 x5 : Int} (k : ∀ τ1, OC LGP τ τ1 → FX2 τ1 → tN τ1 = tN τ → tZ τ1 = tZ τ → LgC τ1 (((x1, x2, x3, x4, x5), none) :: E.take 99) → Q (.inl none) τ1) : G d 28 0 [vR 89, vI x1, vI x2, vI x3, vI x4, vI x5, none] [] τ Q := by
  obtain ⟨top, h1, h2, h3, h4, h5⟩ := h
  have sh : ∀ τ : T2, FX2 τ → tS τ 89 = (1, 5, 0) := fun τ F => F.sh rfl (by omega) (by omega)
  refine t28x_0 (sh τ F) ?_
  have e0 : wr (tI τ 89 2 * 5) = ((5 * top : Nat) : Int) := by rw [h2, wr_id (by unfold okI; omega)]; omega
  rw [e0]
  have w1 : wr (((5 * top : Nat) : Int) + 1) = ((5 * top + 1 : Nat) : Int) := wr5 (n := top) (j := 1) (by omega) (by omega)
  have w2 : wr (((5 * top : Nat) : Int) + 2) = ((5 * top + 2 : Nat) : Int) := wr5 (n := top) (j := 2) (by omega) (by omega)
  have w3 : wr (((5 * top : Nat) : Int) + 3) = ((5 * top + 3 : Nat) : Int) := wr5 (n := top) (j := 3) (by omega) (by omega)
  have w4 : wr (((5 * top : Nat) : Int) + 4) = ((5 * top + 4 : Nat) : Int) := wr5 (n := top) (j := 4) (by omega) (by omega)
  have w5 : wr (((5 * top : Nat) : Int) + 5) = ((5 * top + 5 : Nat) : Int) := wr5 (n := top) (j := 5) (by omega) (by omega)
  refine t28x_8 (q3 := 90) (n5 := 500) (sh τ F) (F.p rfl) (F.sh rfl (by omega) (by omega)) (fun _ _ => ⟨Int.natCast_nonneg _, by omega⟩) (fun _ _ => by rw [w1]; omega) (fun _ _ => by rw [w2]; omega) (fun _ _ => by rw [w3]; omega) (fun _ _ => by rw [w4]; omega) (fun c => by omega) (fun _ _ => ?_) (fun _ c => by rw [w5] at c; omega)
  rw [w1, w2, w3, w4]
  simp only [Int.toNat_natCast]
  have F1 : FX2 (uI (uI (uI (uI (uI τ 90 (5 * top) x1) 90 (5 * top + 1) x2) 90 (5 * top + 2) x3) 90 (5 * top + 3) x4) 90 (5 * top + 4) x5) := F
  have g1 : ∀ k, tI (uI (uI (uI (uI (uI τ 90 (5 * top) x1) 90 (5 * top + 1) x2) 90 (5 * top + 2) x3) 90 (5 * top + 3) x4) 90 (5 * top + 4) x5) 89 k = tI τ 89 k := fun k => by
    rw [tI_uI, if_neg (by omega), tI_uI, if_neg (by omega), tI_uI, if_neg (by omega), tI_uI, if_neg (by omega), tI_uI, if_neg (by omega)]
  have o1 : OC LGP τ (uI (uI (uI (uI (uI τ 90 (5 * top) x1) 90 (5 * top + 1) x2) 90 (5 * top + 2) x3) 90 (5 * top + 3) x4) 90 (5 * top + 4) x5) := ((((OC.rf.j (Or.inl rfl)).j (Or.inl rfl)).j (Or.inl rfl)).j (Or.inl rfl)).j (Or.inl rfl)
  have g2 : ∀ k, (k < 5 * top ∨ 5 * top + 5 ≤ k) → tI (uI (uI (uI (uI (uI τ 90 (5 * top) x1) 90 (5 * top + 1) x2) 90 (5 * top + 2) x3) 90 (5 * top + 3) x4) 90 (5 * top + 4) x5) 90 k = tI τ 90 k := fun k hk => by
    rw [tI_uI, if_neg (by omega), tI_uI, if_neg (by omega), tI_uI, if_neg (by omega), tI_uI, if_neg (by omega), tI_uI, if_neg (by omega)]
  have g3 : (tI (uI (uI (uI (uI (uI τ 90 (5 * top) x1) 90 (5 * top + 1) x2) 90 (5 * top + 2) x3) 90 (5 * top + 3) x4) 90 (5 * top + 4) x5) 90 (5 * top) = x1 ∧ tI (uI (uI (uI (uI (uI τ 90 (5 * top) x1) 90 (5 * top + 1) x2) 90 (5 * top + 2) x3) 90 (5 * top + 3) x4) 90 (5 * top + 4) x5) 90 (5 * top + 1) = x2 ∧ tI (uI (uI (uI (uI (uI τ 90 (5 * top) x1) 90 (5 * top + 1) x2) 90 (5 * top + 2) x3) 90 (5 * top + 3) x4) 90 (5 * top + 4) x5) 90 (5 * top + 2) = x3 ∧ tI (uI (uI (uI (uI (uI τ 90 (5 * top) x1) 90 (5 * top + 1) x2) 90 (5 * top + 2) x3) 90 (5 * top + 3) x4) 90 (5 * top + 4) x5) 90 (5 * top + 3) = x4 ∧ tI (uI (uI (uI (uI (uI τ 90 (5 * top) x1) 90 (5 * top + 1) x2) 90 (5 * top + 2) x3) 90 (5 * top + 3) x4) 90 (5 * top + 4) x5) 90 (5 * top + 4) = x5) := by
    refine ⟨?_, ?_, ?_, ?_, ?_⟩
    · rw [tI_uI, if_neg (by omega), tI_uI, if_neg (by omega), tI_uI, if_neg (by omega), tI_uI, if_neg (by omega), tI_uI, if_pos ⟨rfl, rfl⟩]
    · rw [tI_uI, if_neg (by omega), tI_uI, if_neg (by omega), tI_uI, if_neg (by omega), tI_uI, if_pos ⟨rfl, rfl⟩]
    · rw [tI_uI, if_neg (by omega), tI_uI, if_neg (by omega), tI_uI, if_pos ⟨rfl, rfl⟩]
    · rw [tI_uI, if_neg (by omega), tI_uI, if_pos ⟨rfl, rfl⟩]
    · rw [tI_uI, if_pos ⟨rfl, rfl⟩]
  have g4 : tP (uI (uI (uI (uI (uI τ 90 (5 * top) x1) 90 (5 * top + 1) x2) 90 (5 * top + 2) x3) 90 (5 * top + 3) x4) 90 (5 * top + 4) x5) = tP τ := rfl
  have g5 : tN (uI (uI (uI (uI (uI τ 90 (5 * top) x1) 90 (5 * top + 1) x2) 90 (5 * top + 2) x3) 90 (5 * top + 3) x4) 90 (5 * top + 4) x5) = tN τ := rfl
  have g6 : tZ (uI (uI (uI (uI (uI τ 90 (5 * top) x1) 90 (5 * top + 1) x2) 90 (5 * top + 2) x3) 90 (5 * top + 3) x4) 90 (5 * top + 4) x5) = tZ τ := rfl
  generalize (uI (uI (uI (uI (uI τ 90 (5 * top) x1) 90 (5 * top + 1) x2) 90 (5 * top + 2) x3) 90 (5 * top + 3) x4) 90 (5 * top + 4) x5) = τ1 at F1 g1 o1 g2 g3 g4 g5 g6
  refine t28x_76 (q2 := 91) (n4 := 100) (sh _ F1) (F1.p rfl) (F1.sh rfl (by omega) (by omega)) (by rw [g1, h2]; omega) ?_
  rw [g1, h2, Int.toNat_natCast]
  have F2 : FX2 (uP τ1 91 top none) := F1.q rfl
  refine t28x_86 (sh _ F2) (fun c => ?_) (fun c => ?_)
  all_goals
    have e2 : tI (uP τ1 91 top none) 89 2 = (top : Int) := by rw [tI_uP, g1, h2]
    rw [e2] at c
    rw [wr_nat (by omega)] at c
  · refine t28x_111 hd (sh _ F2) ?_
    have e3 : tI (uI (uP τ1 91 top none) 89 2 0) 89 3 = (E.length : Int) := by rw [tI_uI, if_neg (by decide), tI_uP, g1, h3]
    rw [e3, wr_nat (by omega)]
    refine k _ (((o1.q (Or.inr (Or.inl rfl))).j (Or.inr (Or.inr ⟨rfl, Or.inl rfl⟩))).j (Or.inr (Or.inr ⟨rfl, Or.inr rfl⟩))) F2 g5 g6 ⟨0, by omega, ?_, ?_, ?_, fun i e he => ?_⟩
    · rw [tI_uI, if_neg (by decide), tI_uI, if_pos ⟨rfl, rfl⟩]; rfl
    · rw [tI_uI, if_pos ⟨rfl, rfl⟩, List.length_cons, List.length_take]
      split <;> omega
    · rw [List.length_cons, List.length_take]; omega
    · match i, he with
      | 0, he =>
        obtain rfl := Option.some.inj he
        have et : (0 + 99 - 0) % 100 = top := by omega
        rw [et]
        have g9 : ∀ (k : Nat) (y z : Int), tI (uI (uI (uP τ1 91 top none) 89 2 y) 89 3 z) 90 k = tI τ1 90 k := fun k y z => by rw [tI_uI, if_neg (by omega), tI_uI, if_neg (by omega), tI_uP]
        refine ⟨?_, ?_⟩
        · rw [g9, g9, g9, g9, g9]
          exact g3
        · rw [tP_uI, tP_uI, tP_uP, if_pos ⟨rfl, rfl⟩]
      | i + 1, he =>
        rw [List.getElem?_cons_succ, List.getElem?_take] at he
        by_cases hi : i < 99
        · rw [if_pos hi] at he
          have := h5 i e he
          rw [show (0 + 99 - (i + 1)) % 100 = (top + 99 - i) % 100 by omega]
          refine this.sm (fun k hk1 hk2 => ?_) ?_
          · rw [tI_uI, if_neg (by omega), tI_uI, if_neg (by omega), tI_uP]
            exact g2 k (by omega)
          · rw [tP_uI, tP_uI, tP_uP, if_neg (by omega), g4]
        · rw [if_neg hi] at he; cases he
  · refine t28x_111 hd (sh _ F2) ?_
    rw [e2, wr_nat (by omega)]
    have e3 : tI (uI (uP τ1 91 top none) 89 2 ((top + 1 : Nat) : Int)) 89 3 = (E.length : Int) := by rw [tI_uI, if_neg (by decide), tI_uP, g1, h3]
    rw [e3, wr_nat (by omega)]
    refine k _ (((o1.q (Or.inr (Or.inl rfl))).j (Or.inr (Or.inr ⟨rfl, Or.inl rfl⟩))).j (Or.inr (Or.inr ⟨rfl, Or.inr rfl⟩))) F2 g5 g6 ⟨top + 1, by omega, ?_, ?_, ?_, fun i e he => ?_⟩
    · rw [tI_uI, if_neg (by decide), tI_uI, if_pos ⟨rfl, rfl⟩]
    · rw [tI_uI, if_pos ⟨rfl, rfl⟩, List.length_cons, List.length_take]
      split <;> omega
    · rw [List.length_cons, List.length_take]; omega
    · match i, he with
      | 0, he =>
        obtain rfl := Option.some.inj he
        have et : (top + 1 + 99 - 0) % 100 = top := by omega
        rw [et]
        have g9 : ∀ (k : Nat) (y z : Int), tI (uI (uI (uP τ1 91 top none) 89 2 y) 89 3 z) 90 k = tI τ1 90 k := fun k y z => by rw [tI_uI, if_neg (by omega), tI_uI, if_neg (by omega), tI_uP]
        refine ⟨?_, ?_⟩
        · rw [g9, g9, g9, g9, g9]
          exact g3
        · rw [tP_uI, tP_uI, tP_uP, if_pos ⟨rfl, rfl⟩]
      | i + 1, he =>
        rw [List.getElem?_cons_succ, List.getElem?_take] at he
        by_cases hi : i < 99
        · rw [if_pos hi] at he
          have := h5 i e he
          rw [show (top + 1 + 99 - (i + 1)) % 100 = (top + 99 - i) % 100 by omega]
          have hs : (top + 99 - i) % 100 ≠ top := by omega
          refine this.sm (fun k hk1 hk2 => ?_) ?_
          · rw [tI_uI, if_neg (by omega), tI_uI, if_neg (by omega), tI_uP]
            exact g2 k (by omega)
          · rw [tP_uI, tP_uI, tP_uP, if_neg (by omega), g4]
        · rw [if_neg hi] at he; cases he
def ACP (a k : Nat) : Prop := LGP a k ∨ (a = 64 ∧ k = 16)
/-- the class notes an act -/
theorem c127 (F : FX2 τ) {E : List ENT} (h : LgC τ E) (hd : 18 ≤ d) {x1 x2 x3 x4 x5 : Int} (k : ∀ τ1, OC ACP τ τ1 → FX2 τ1 → tN τ1 = tN τ → tZ τ1 = tZ τ → tI τ1 64 16 = 0 → LgC τ1 (((x1, x2, x3, x4, x5), none) :: E.take 99) → Q (.inl none) τ1) : G d 127 0 [vR 64, vI x1, vI x2, vI x3, vI x4, vI x5] [] τ Q := by
  have F1 : FX2 (uI τ 64 16 0) := F
  refine t127_0 (q2 := 89) (by omega) (F.sh rfl (by omega) (by omega)) (F.p rfl) (F.sh rfl (by omega) (by omega)) (c28 F1 (h.oc F (OC.rf.j (P := fun a k => a = 64 ∧ k = 16) ⟨rfl, rfl⟩) (fun a k z => by omega)) (by omega) fun τ1 o F2 hn hz hl => ?_)
  refine t127_19 (k τ1 (OC.tr (OC.rf.j (Or.inr ⟨rfl, rfl⟩)) (o.mo fun a k z => Or.inl z)) F2 hn hz ?_ hl)
  rw [(o.2.2.2 64 16 (by have := F1.1; omega) (by unfold LGP; omega)).1, tI_uI, if_pos ⟨rfl, rfl⟩]
/-- with the text before -/
theorem c128 (F : FX2 τ) {E : List ENT} (h : LgC τ E) (hd : 19 ≤ d) {x1 x2 : Int} {p : Option Nat} (hp : ∀ q, p = some q → tS τ q = (1, 3, 0)) (hq : ∀ q, p = some q → q < tN τ) (k : ∀ τ1, OC ACP τ τ1 → FX2 τ1 → tN τ1 = tN τ → tZ τ1 = tZ τ → tI τ1 64 16 = 0 → LgC τ1 (((x1, x2, 0, 0, 0), p) :: E.take 99) → Q (.inl none) τ1) : G d 128 0 [vR 64, vI x1, vI x2, vQ p] [] τ Q := by
  refine t128_0 (by omega) (F.sh rfl (by omega) (by omega)) (c127 F h (by omega) fun τ1 o F1 hn hz h0 hl => ?_)
  show G d 128 9 _ _ _ Q
  obtain ⟨top, h1, h2, h3, h4, h5⟩ := hl
  have hs : tS τ1 89 = (1, 5, 0) := F1.sh rfl (by omega) (by omega)
  have hs91 : tS τ1 91 = (3, 6, 100) := F1.sh rfl (by omega) (by omega)
  have fin : ∀ j : Nat, j = (top + 99) % 100 → G d 128 17 [none, none, none, none] [] (uP τ1 91 j p) Q := fun j hj => by
    refine t128_17 (k _ (o.q (Or.inl (Or.inr (Or.inl rfl)))) (F1.q rfl) hn hz ?_ ⟨top, h1, ?_, ?_, h4, fun i e he => ?_⟩)
    · rw [tI_uP]; exact h0
    · rw [tI_uP]; exact h2
    · rw [tI_uP]; exact h3
    · match i, he with
      | 0, he =>
        obtain rfl := Option.some.inj he
        have h6 := h5 0 _ rfl
        refine ⟨by rw [tI_uP]; exact h6.1, ?_⟩
        rw [tP_uP, if_pos ⟨rfl, by omega⟩]
      | i + 1, he =>
        have h6 := h5 (i + 1) e he
        have hi : i + 1 < 100 := by
          have := (List.getElem?_eq_some_iff.mp he).1
          simp only [List.length_cons] at this h4
          omega
        refine h6.sm (fun k _ _ => by rw [tI_uP]) ?_
        rw [tP_uP, if_neg (by omega)]
  cases p with
  | none =>
    refine t128_9 (q2 := 89) (by omega) (F1.sh rfl (by omega) (by omega)) (F1.p rfl) hs (t29_n (q4 := 91) (n6 := 100) hs (F1.p rfl) hs91 (by omega) (fun c1 c2 => ?_) (fun _ c => by omega) (fun c _ => ?_) (fun c1 c2 => ?_) (fun c1 c2 => ?_))
    · rw [h2] at c1 c2 ⊢; rw [wr_id (by unfold okI; omega)] at c2 ⊢; omega
    · exact fin 99 (by omega)
    · exfalso; rw [h2] at c1 c2; rw [wr_id (by unfold okI; omega)] at c2; omega
    · rw [h2] at c1 c2 ⊢
      rw [wr_id (by unfold okI; omega)] at c2 ⊢
      exact fin _ (by omega)
  | some q =>
    have hq1 := hq q rfl
    have sq : tS τ1 q = (1, 3, 0) := by rw [o.2.2.1 q hq1]; exact hp q rfl
    have oe : okEs 6 (tS τ1 q) = true := by rw [sq]; rfl
    refine t128_9 (q2 := 89) (by omega) (F1.sh rfl (by omega) (by omega)) (F1.p rfl) hs (t29_0 (q4 := 91) (n6 := 100) hs (F1.p rfl) hs91 (by omega) (fun _ _ => oe) (fun c1 c2 => ?_) (fun _ _ => oe) (fun _ c => by omega) (fun c _ => ?_) (fun c1 c2 => ?_) (fun c1 c2 => ?_))
    · rw [h2] at c1 c2 ⊢; rw [wr_id (by unfold okI; omega)] at c2 ⊢; omega
    · exact fin 99 (by omega)
    · exfalso; rw [h2] at c1 c2; rw [wr_id (by unfold okI; omega)] at c2; omega
    · rw [h2] at c1 c2 ⊢
      rw [wr_id (by unfold okI; omega)] at c2 ⊢
      exact fin _ (by omega)
end LOG
