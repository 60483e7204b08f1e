/-! team -/
/-- a row is filled -/
def fil (f : Nat → Int) (x : Int) (n : Nat) : Nat → Int := fun j => if j < n then x else f j
theorem uI_rI {τ : T2} {a k : Nat} {g : Nat → Int} {x : Int} : uI (rI τ a g) a k x = rI τ a (aU g k x) := by
  have e : up (rw2 (tI τ) a g) a k x = rw2 (tI τ) a (aU g k x) := by
    funext b j
    unfold up rw2 aU
    by_cases h : b = a
    · by_cases h1 : j = k
      · rw [if_pos ⟨h, h1⟩, if_pos h, if_pos h1]
      · rw [if_neg (fun z => h1 z.2), if_pos h, if_pos h, if_neg h1]
    · rw [if_neg (fun z => h z.1), if_neg h, if_neg h]
  show (up (rw2 (tI τ) a g) a k x, tP τ, tS τ, tN τ, tZ τ) = _
  rw [e]
  rfl
theorem rI_self {τ : T2} {a : Nat} : rI τ a (tI τ a) = τ := by
  have e : rw2 (tI τ) a (tI τ a) = tI τ := by
    funext b j
    unfold rw2
    by_cases h : b = a
    · rw [if_pos h, h]
    · rw [if_neg h]
  show (rw2 (tI τ) a (tI τ a), tP τ, tS τ, tN τ, tZ τ) = τ
  rw [e]
  rfl
theorem fil_s {f : Nat → Int} {x : Int} {n : Nat} : aU (fil f x n) n x = fil f x (n + 1) := by
  funext j
  unfold aU fil
  by_cases h : j = n
  · rw [if_pos h, if_pos (by omega)]
  · by_cases h1 : j < n
    · rw [if_neg h, if_pos h1, if_pos (by omega)]
    · rw [if_neg h, if_neg h1, if_neg (by omega)]
theorem fil_0 {f : Nat → Int} {x : Int} : fil f x 0 = f := by
  funext j
  unfold fil
  rw [if_neg (by omega)]
theorem c261 {d : Nat} {τ : T2} {Q : RS → T2 → Prop} {a n : Nat} {x : Int} (hs : tS τ a = (2, 0, n)) (hn : n ≤ 10000) (h : Q (.inl none) (rI τ a (fil (tI τ a) x n))) : G d 261 0 [vR a, vI x, none, none] [] τ Q := by
  have st : ∀ g : Nat → Int, tS (rI τ a g) a = (2, 0, n) := fun _ => hs
  have lp : ∀ (j k : Nat), k + j = n → G d 261 5 [vR a, vI x, vI (k : Int), vI (n : Int)] [] (rI τ a (fil (tI τ a) x k)) Q := by
    intro j
    induction j with
    | zero =>
      intro k hk
      have e : k = n := by omega
      subst e
      exact t261_5 (n2 := k) (st _) (fun c => by omega) (fun _ => h) (fun c => by omega)
    | succ j ih =>
      intro k hk
      refine t261_5 (n2 := n) (st _) (fun c => by omega) (fun c => by omega) (fun _ => ?_)
      rw [wr_nat (by omega), Int.toNat_natCast, uI_rI, fil_s]
      exact ih (k + 1) (by omega)
  refine t261_0 (n1 := n) hs ?_
  have := lp n 0 (by omega)
  rw [fil_0, rI_self] at this
  exact this
section TB
variable {d : Nat} {τ : T2} {Q : RS → T2 → Prop} {t : Nat} {m : Int}
theorem c60 (F : FX2 τ) (ht : t < 8) (hd : 1 ≤ d) (k : ∀ τ1, OC (fun a k => (a = 172 + 6 * t ∧ k < 2) ∨ (173 + 6 * t ≤ a ∧ a ≤ 176 + 6 * t)) τ τ1 → FX2 τ1 → tN τ1 = tN τ → tZ τ1 = tZ τ → tP τ1 = tP τ → tI τ1 (172 + 6 * t) 0 = m → tI τ1 (172 + 6 * t) 1 = 0 → (∀ j, j < 20 → tI τ1 (173 + 6 * t) j = -1 ∧ tI τ1 (174 + 6 * t) j = 0 ∧ tI τ1 (175 + 6 * t) j = 0 ∧ tI τ1 (176 + 6 * t) j = 0) → Q (.inl none) τ1) : G d 60 0 [vR (172 + 6 * t), vI m] [] τ Q := by
  have st := shT t ht
  have pt := ptT t ht
  have s1 : ∀ τ : T2, FX2 τ → tS τ (172 + 6 * t) = (1, 8, 0) := fun τ F => F.sh st.1 (by omega) (by omega)
  refine t60_0 hd (s1 τ F) ?_
  have F1 : FX2 (uI (uI τ (172 + 6 * t) 0 m) (172 + 6 * t) 1 0) := F.j.j
  rw [F1.p pt.2.1]
  refine c261 (n := 20) (F1.sh st.2.1 (by omega) (by omega)) (by omega) ?_
  refine t60_18 hd (s1 _ F1.r) ?_
  rw [F1.r.p pt.2.2.1]
  refine c261 (n := 20) (F1.r.sh st.2.2.1 (by omega) (by omega)) (by omega) ?_
  refine t60_26 hd (s1 _ F1.r.r) ?_
  rw [F1.r.r.p pt.2.2.2.1]
  refine c261 (n := 20) (F1.r.r.sh st.2.2.2.1 (by omega) (by omega)) (by omega) ?_
  refine t60_34 hd (s1 _ F1.r.r.r) ?_
  rw [F1.r.r.r.p pt.2.2.2.2.1]
  refine c261 (n := 20) (F1.r.r.r.sh st.2.2.2.2.1 (by omega) (by omega)) (by omega) ?_
  have rr : ∀ (τ : T2) (a b : Nat) (g : Nat → Int), b ≠ a → tI (rI τ a g) b = tI τ b := fun τ a b g h => rw2_oth (tI τ) g h
  have rs : ∀ (τ : T2) (a : Nat) (g : Nat → Int), tI (rI τ a g) a = g := fun τ a g => rw2_row (tI τ) a g
  refine t60_42 (k _ ?_ F1.r.r.r.r rfl rfl rfl ?_ ?_ ?_)
  · exact OC.r (P := fun a k => (a = 172 + 6 * t ∧ k < 2) ∨ (173 + 6 * t ≤ a ∧ a ≤ 176 + 6 * t)) (OC.r (P := fun a k => (a = 172 + 6 * t ∧ k < 2) ∨ (173 + 6 * t ≤ a ∧ a ≤ 176 + 6 * t)) (OC.r (P := fun a k => (a = 172 + 6 * t ∧ k < 2) ∨ (173 + 6 * t ≤ a ∧ a ≤ 176 + 6 * t)) (OC.r (P := fun a k => (a = 172 + 6 * t ∧ k < 2) ∨ (173 + 6 * t ≤ a ∧ a ≤ 176 + 6 * t)) (OC.j (P := fun a k => (a = 172 + 6 * t ∧ k < 2) ∨ (173 + 6 * t ≤ a ∧ a ≤ 176 + 6 * t)) (OC.j (P := fun a k => (a = 172 + 6 * t ∧ k < 2) ∨ (173 + 6 * t ≤ a ∧ a ≤ 176 + 6 * t)) OC.rf (by omega)) (by omega)) (fun k => by omega)) (fun k => by omega)) (fun k => by omega)) (fun k => by omega)
  · rw [rr _ _ _ _ (by omega), rr _ _ _ _ (by omega), rr _ _ _ _ (by omega), rr _ _ _ _ (by omega), tI_uI, if_neg (by omega), tI_uI, if_pos ⟨rfl, rfl⟩]
  · rw [rr _ _ _ _ (by omega), rr _ _ _ _ (by omega), rr _ _ _ _ (by omega), rr _ _ _ _ (by omega), tI_uI, if_pos ⟨rfl, rfl⟩]
  · intro j hj
    refine ⟨?_, ?_, ?_, ?_⟩
    · rw [rr _ _ _ _ (by omega), rr _ _ _ _ (by omega), rr _ _ _ _ (by omega), rs]; unfold fil; rw [if_pos hj]
    · rw [rr _ _ _ _ (by omega), rr _ _ _ _ (by omega), rs]; unfold fil; rw [if_pos hj]
    · rw [rr _ _ _ _ (by omega), rs]; unfold fil; rw [if_pos hj]
    · rw [rs]; unfold fil; rw [if_pos hj]
theorem m156 (F : FX2 τ) (ht : t < 8) (k : ∀ τ1, OC (fun a k => (a = 416 + 7 * t ∧ k < 3) ∨ (417 + 7 * t ≤ a ∧ a ≤ 420 + 7 * t)) τ τ1 → FX2 τ1 → tN τ1 = tN τ → tZ τ1 = tZ τ → tP τ1 = tP τ → tI τ1 (416 + 7 * t) 0 = m → tI τ1 (416 + 7 * t) 1 = 0 → tI τ1 (416 + 7 * t) 2 = 0 → (∀ j, j < 20 → tI τ1 (417 + 7 * t) j = -1 ∧ tI τ1 (418 + 7 * t) j = 0 ∧ tI τ1 (419 + 7 * t) j = 0 ∧ tI τ1 (420 + 7 * t) j = 0) → Q (.inl none) τ1) : G d 156 0 [vR (416 + 7 * t), vI m, none] [] τ Q := by
  have st := shU t ht
  have pt := ptU t ht
  have s1 : ∀ τ : T2, FX2 τ → tS τ (416 + 7 * t) = (1, 19, 0) := fun τ F => F.sh st.1 (by omega) (by omega)
  have lp : ∀ (j n : Nat) (τ1 : T2), n + j = 20 → OC (fun a k => (a = 416 + 7 * t ∧ k < 3) ∨ (417 + 7 * t ≤ a ∧ a ≤ 420 + 7 * t)) τ τ1 → FX2 τ1 → tN τ1 = tN τ → tZ τ1 = tZ τ → tP τ1 = tP τ → tI τ1 (416 + 7 * t) 0 = m → tI τ1 (416 + 7 * t) 1 = 0 → tI τ1 (416 + 7 * t) 2 = 0 → (∀ j, j < n → tI τ1 (417 + 7 * t) j = -1 ∧ tI τ1 (418 + 7 * t) j = 0 ∧ tI τ1 (419 + 7 * t) j = 0 ∧ tI τ1 (420 + 7 * t) j = 0) → G d 156 17 [vR (416 + 7 * t), none, vI (n : Int)] [] τ1 Q := by
    intro j
    induction j with
    | zero =>
      intro n τ1 hn o F1 e1 e2 e3 e4 e5 e6 e7
      have e : n = 20 := by omega
      subst e
      exact t156_17 (n5 := 20) (n10 := 20) (n15 := 20) (n20 := 20) (s1 _ F1) (F1.p pt.2.1) (F1.sh st.2.1 (by omega) (by omega)) (fun c => by omega) (F1.p pt.2.2.1) (F1.sh st.2.2.1 (by omega) (by omega)) (fun c => by omega) (F1.p pt.2.2.2.1) (F1.sh st.2.2.2.1 (by omega) (by omega)) (fun c => by omega) (F1.p pt.2.2.2.2.1) (F1.sh st.2.2.2.2.1 (by omega) (by omega)) (fun c => by omega) (fun _ => k τ1 o F1 e1 e2 e3 e4 e5 e6 e7) (fun c => by omega)
    | succ j ih =>
      intro n τ1 hn o F1 e1 e2 e3 e4 e5 e6 e7
      refine t156_17 (n5 := 20) (n10 := 20) (n15 := 20) (n20 := 20) (s1 _ F1) (F1.p pt.2.1) (F1.sh st.2.1 (by omega) (by omega)) (fun c => by omega) (F1.p pt.2.2.1) (F1.sh st.2.2.1 (by omega) (by omega)) (fun c => by omega) (F1.p pt.2.2.2.1) (F1.sh st.2.2.2.1 (by omega) (by omega)) (fun c => by omega) (F1.p pt.2.2.2.2.1) (F1.sh st.2.2.2.2.1 (by omega) (by omega)) (fun c => by omega) (fun c => by omega) (fun _ => ?_)
      rw [wr_nat (by omega), Int.toNat_natCast]
      have g : ∀ i, tI (uI (uI (uI (uI τ1 (417 + 7 * t) n (-1)) (418 + 7 * t) n 0) (419 + 7 * t) n 0) (420 + 7 * t) n 0) (416 + 7 * t) i = tI τ1 (416 + 7 * t) i := fun i => by
        rw [tI_uI, if_neg (by omega), tI_uI, if_neg (by omega), tI_uI, if_neg (by omega), tI_uI, if_neg (by omega)]
      refine ih (n + 1) _ (by omega) ?_ F1.j.j.j.j e1 e2 e3 (by rw [g]; exact e4) (by rw [g]; exact e5) (by rw [g]; exact e6) (fun i hi => ?_)
      · exact OC.j (P := fun a k => (a = 416 + 7 * t ∧ k < 3) ∨ (417 + 7 * t ≤ a ∧ a ≤ 420 + 7 * t)) (OC.j (P := fun a k => (a = 416 + 7 * t ∧ k < 3) ∨ (417 + 7 * t ≤ a ∧ a ≤ 420 + 7 * t)) (OC.j (P := fun a k => (a = 416 + 7 * t ∧ k < 3) ∨ (417 + 7 * t ≤ a ∧ a ≤ 420 + 7 * t)) (OC.j (P := fun a k => (a = 416 + 7 * t ∧ k < 3) ∨ (417 + 7 * t ≤ a ∧ a ≤ 420 + 7 * t)) o (by omega)) (by omega)) (by omega)) (by omega)
      · by_cases e : i = n
        · subst e
          refine ⟨?_, ?_, ?_, ?_⟩
          · rw [tI_uI, if_neg (by omega), tI_uI, if_neg (by omega), tI_uI, if_neg (by omega), tI_uI, if_pos ⟨rfl, rfl⟩]
          · rw [tI_uI, if_neg (by omega), tI_uI, if_neg (by omega), tI_uI, if_pos ⟨rfl, rfl⟩]
          · rw [tI_uI, if_neg (by omega), tI_uI, if_pos ⟨rfl, rfl⟩]
          · rw [tI_uI, if_pos ⟨rfl, rfl⟩]
        · have g2 : ∀ a, tI (uI (uI (uI (uI τ1 (417 + 7 * t) n (-1)) (418 + 7 * t) n 0) (419 + 7 * t) n 0) (420 + 7 * t) n 0) a i = tI τ1 a i := fun a => by
            rw [tI_uI, if_neg (by omega), tI_uI, if_neg (by omega), tI_uI, if_neg (by omega), tI_uI, if_neg (by omega)]
          rw [g2, g2, g2, g2]
          exact e7 i (by omega)
  refine t156_0 (s1 τ F) ?_
  refine lp 20 0 _ (by omega) ?_ F.j.j.j rfl rfl rfl ?_ ?_ ?_ (fun j hj => by omega)
  · exact OC.j (P := fun a k => (a = 416 + 7 * t ∧ k < 3) ∨ (417 + 7 * t ≤ a ∧ a ≤ 420 + 7 * t)) (OC.j (P := fun a k => (a = 416 + 7 * t ∧ k < 3) ∨ (417 + 7 * t ≤ a ∧ a ≤ 420 + 7 * t)) (OC.j (P := fun a k => (a = 416 + 7 * t ∧ k < 3) ∨ (417 + 7 * t ≤ a ∧ a ≤ 420 + 7 * t)) OC.rf (by omega)) (by omega)) (by omega)
  · rw [tI_uI, if_neg (by omega), tI_uI, if_neg (by omega), tI_uI, if_pos ⟨rfl, rfl⟩]
  · rw [tI_uI, if_neg (by omega), tI_uI, if_pos ⟨rfl, rfl⟩]
  · rw [tI_uI, if_pos ⟨rfl, rfl⟩]
end TB
def cTe (c : CO) : CO := (uf (cn c) 1 (cn c 1 + 1), (fun g i k => if i = cn c 1 ∧ g = 5 then (if k = 0 then cD c 0 0 0 else 0) else if i = cn c 1 ∧ g = 6 then -1 else if i = cn c 1 ∧ (g = 7 ∨ g = 8 ∨ g = 9) then 0 else cD c g i k), cR c, cF c, cW c, uf (cP c) (cn c 1) [])
def sp_team (S : HSx) : Int × HSx := if cn S.1 1 < 8 then ((cn S.1 1 : Int), acS S (cTe S.1)) else (-1, rfS S 3)
section TE
variable {c : CO}
theorem cTe_n : cn (cTe c) 0 = cn c 0 ∧ cn (cTe c) 1 = cn c 1 + 1 ∧ cn (cTe c) 2 = cn c 2 := ⟨rfl, rfl, rfl⟩
theorem cTe_o {g i k : Nat} (h : ¬ (i = cn c 1 ∧ 5 ≤ g ∧ g ≤ 9)) : cD (cTe c) g i k = cD c g i k := by
  show (if i = cn c 1 ∧ g = 5 then (if k = 0 then cD c 0 0 0 else 0) else if i = cn c 1 ∧ g = 6 then -1 else if i = cn c 1 ∧ (g = 7 ∨ g = 8 ∨ g = 9) then 0 else cD c g i k) = _
  rw [if_neg (by omega), if_neg (by omega), if_neg (by omega)]
theorem cTe_5 {k : Nat} : cD (cTe c) 5 (cn c 1) k = if k = 0 then cD c 0 0 0 else 0 := by
  show (if cn c 1 = cn c 1 ∧ 5 = 5 then (if k = 0 then cD c 0 0 0 else 0) else _) = _
  rw [if_pos ⟨rfl, rfl⟩]
theorem cTe_6 {k : Nat} : cD (cTe c) 6 (cn c 1) k = -1 := by
  show (if cn c 1 = cn c 1 ∧ 6 = 5 then (if k = 0 then cD c 0 0 0 else 0) else if cn c 1 = cn c 1 ∧ 6 = 6 then -1 else _) = _
  rw [if_neg (by omega), if_pos ⟨rfl, rfl⟩]
theorem cTe_7 {g k : Nat} (h : g = 7 ∨ g = 8 ∨ g = 9) : cD (cTe c) g (cn c 1) k = 0 := by
  show (if cn c 1 = cn c 1 ∧ g = 5 then (if k = 0 then cD c 0 0 0 else 0) else if cn c 1 = cn c 1 ∧ g = 6 then -1 else if cn c 1 = cn c 1 ∧ (g = 7 ∨ g = 8 ∨ g = 9) then 0 else cD c g (cn c 1) k) = _
  rw [if_neg (by omega), if_neg (by omega), if_pos ⟨rfl, h⟩]
theorem cTe_ok {g i k : Nat} (z : ok (cTe c) g i k) : (ok c g i k ∧ ¬ (i = cn c 1 ∧ 5 ≤ g ∧ g ≤ 10)) ∨ (i = cn c 1 ∧ ((g = 5 ∧ k < 2) ∨ (6 ≤ g ∧ g ≤ 9 ∧ k < 20))) := by
  refine ok_cs z (fun a b d => Or.inl ⟨ok_i0 a b d, by omega⟩) (fun a b d => Or.inl ⟨ok_i1 a b d, by omega⟩) (fun a b d => Or.inl ⟨ok_i2 a b (by rw [cTe_o (by omega)] at d; exact d), by omega⟩) (fun a b d => Or.inl ⟨ok_i3 a b (by rw [cTe_o (by omega)] at d; exact d), by omega⟩) (fun a b d => ?_) (fun a b d => ?_) (fun a b d e => ?_) (fun a b d => Or.inl ⟨ok_i11 a b (by rw [cTe_o (by omega)] at d; exact d), by omega⟩) (fun a b d => Or.inl ⟨ok_i12 a b d, by omega⟩)
  all_goals
    rw [cTe_n.2.1] at b
    by_cases hi : i = cn c 1
  · exact Or.inr ⟨hi, Or.inl ⟨a, d⟩⟩
  · exact Or.inl ⟨ok_i5 a (by omega) d, fun q => hi q.1⟩
  · exact Or.inr ⟨hi, Or.inr ⟨by omega, by omega, d⟩⟩
  · exact Or.inl ⟨ok_i6 a (by omega) d, fun q => hi q.1⟩
  · rw [hi, cTe_7 (by omega)] at e
    omega
  · exact Or.inl ⟨ok_i10 a (by omega) d (by rw [cTe_o (by omega)] at e; exact e), fun q => hi q.1⟩
theorem cTe_ok2 {g i k : Nat} (z : ok c g i k) : ok (cTe c) g i k ∧ cD c g i k = cD (cTe c) g i k := by
  have hn : ¬ (i = cn c 1 ∧ 5 ≤ g ∧ g ≤ 9) := by
    unfold ok at z
    omega
  exact ⟨ok_map z (Nat.le_refl _) (by rw [cTe_n.2.1]; omega) (Nat.le_refl _) (fun _ => by rw [cTe_o (by omega)]; exact Int.le_refl _) (fun _ => by rw [cTe_o (by omega)]; exact Int.le_refl _) (fun q j => by rw [cTe_o (by omega)]; exact Int.le_refl _) (fun _ => by rw [cTe_o (by omega)]; exact Int.le_refl _), (cTe_o hn).symm⟩
theorem wf_tea (w : WF c) (h8 : cn c 1 < 8) : WF (cTe c) := by
  obtain ⟨w1, w2, w3, w4, w5⟩ := w
  have e0 : cD (cTe c) 0 0 0 = cD c 0 0 0 := cTe_o (by omega)
  have e1 : ∀ g i, g < 5 ∨ 10 < g → cD (cTe c) g i = cD c g i := fun g i h => funext fun k => cTe_o (by omega)
  have ei : ∀ g i, i ≠ cn c 1 → cD (cTe c) g i = cD c g i := fun g i h => funext fun k => cTe_o (by omega)
  refine ⟨⟨w1.1, by rw [cTe_n.2.1]; omega, w1.2.2.1, by rw [e0]; exact w1.2.2.2.1, by rw [e0]; exact w1.2.2.2.2⟩, fun r hr => ?_, fun t ht => ?_, fun u hu => ?_, fun t ht => ?_⟩
  · rw [e1 1 r (by omega), e1 2 r (by omega), e1 3 r (by omega), e1 4 r (by omega)]; exact w2 r hr
  · rw [e0]
    by_cases hi : t = cn c 1
    · subst hi
      rw [cTe_5, cTe_5, if_pos rfl, if_neg (by omega)]
      refine ⟨⟨w1.2.2.2.1, Int.le_refl _⟩, by unfold okI; omega, fun r hr => ?_⟩
      rw [cTe_6, cTe_7 (by omega), cTe_7 (by omega), cTe_7 (by omega), e1 1 r (by omega), cTe_n.1]
      refine ⟨Or.inl rfl, by unfold okI; omega, ⟨by omega, by omega, fun _ => rfl, fun q => ?_⟩, by unfold okI; omega⟩
      exact (w2 r q).2.2.2.2.2.1.1
    · rw [ei 5 t hi, ei 6 t hi, ei 7 t hi, ei 8 t hi, ei 9 t hi, cTe_n.1]
      rw [cTe_n.2.1] at ht
      obtain ⟨a1, a2, a3⟩ := w3 t (by omega)
      exact ⟨a1, a2, fun r hr => by rw [e1 1 r (by omega)]; exact a3 r hr⟩
  · rw [e1 11 u (by omega), e1 12 u (by omega)]; exact w4 u hu
  · have e4 : cD (cTe c) 4 = cD c 4 := funext fun i => e1 4 i (by omega)
    rw [e4]
    by_cases hi : t = cn c 1
    · subst hi
      have ep : cP (cTe c) (cn c 1) = [] := by
        show uf (cP c) (cn c 1) [] (cn c 1) = []
        unfold uf
        rw [if_pos rfl]
      rw [ep]
      refine ⟨fun m => ?_, ?_, fun x hx => by cases hx⟩
      · have z : ∀ n, prC (cD (cTe c) 8 (cn c 1)) (cD (cTe c) 10 (cn c 1)) (cD c 4) m n = 0 := by
          intro n
          induction n with
          | zero => rfl
          | succ n ih =>
            simp only [prC, ih]
            rw [cTe_7 (by omega)]
            simp only [prI]
            rw [if_neg (by omega), if_neg (by omega), if_neg (by omega)]
            rfl
        rw [z]
        rfl
      · have z : ∀ n, sB (cD (cTe c) 8 (cn c 1)) n = 0 := by
          intro n
          induction n with
          | zero => rfl
          | succ n ih => simp only [sB, ih]; rw [cTe_7 (by omega)]; rfl
        rw [z]
        rfl
    · rw [cTe_n.2.1] at ht
      have ep : cP (cTe c) t = cP c t := by
        show uf (cP c) (cn c 1) [] t = _
        unfold uf
        rw [if_neg hi]
      rw [ei 8 t hi, ei 10 t hi, ep]
      exact w5 t (by omega)
end TE
theorem ws_tea {S : HSx} (w : WS S) : WS (sp_team S).2 := by
  unfold sp_team
  split
  · rename_i h
    exact w.act (wf_tea (w.1 _ (by simp)) h)
  · exact w.rfs 3
