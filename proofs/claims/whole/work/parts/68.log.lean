/-! TREES with cuts of my own: the logs (wip/whole/tree.py cut) -/
set_option maxRecDepth 8192 in
theorem t28x_0 {d : Nat} {τ : T2} {Q : RS → T2 → Prop} {x1 x2 x3 x4 x5 : Int} {r0 : Nat} (sh1 : tS τ r0 = (1, 5, 0)) (k1 : G d 28 8 [vR r0, vI x1, vI x2, vI x3, vI x4, vI x5, vI (wr ((tI τ r0 2) * 5))] [] τ Q) : G d 28 0 [vR r0, vI x1, vI x2, vI x3, vI x4, vI x5, none] [] τ Q := by
  refine g_sk 1 (pc1 := 1) (st1 := [AR r0]) rfl ?_
  refine g_gI rfl (ci := 5) (k := 2) rfl sh1 ?_
  refine g_sx 3 (pc1 := 8) (L1 := [vR r0, vI x1, vI x2, vI x3, vI x4, vI x5, vI (wr ((tI τ r0 2) * 5))]) (st1 := []) rfl ?_
  exact k1

set_option maxRecDepth 8192 in
theorem t28x_8 {d : Nat} {τ : T2} {Q : RS → T2 → Prop} {x1 x2 x3 x4 x5 x6 : Int} {r0 q3 n5 : Nat} (sh2 : tS τ r0 = (1, 5, 0)) (p4 : tP τ r0 0 = some q3) (sh6 : tS τ q3 = (2, 0, n5)) (b8 : 0 ≤ x6 → (wr (x6 + 5)) ≤ (n5 : Int) → (0 : Int) ≤ x6 ∧ x6 < (n5 : Int)) (b9 : 0 ≤ x6 → (wr (x6 + 5)) ≤ (n5 : Int) → (0 : Int) ≤ (wr (x6 + 1)) ∧ (wr (x6 + 1)) < (n5 : Int)) (b10 : 0 ≤ x6 → (wr (x6 + 5)) ≤ (n5 : Int) → (0 : Int) ≤ (wr (x6 + 2)) ∧ (wr (x6 + 2)) < (n5 : Int)) (b11 : 0 ≤ x6 → (wr (x6 + 5)) ≤ (n5 : Int) → (0 : Int) ≤ (wr (x6 + 3)) ∧ (wr (x6 + 3)) < (n5 : Int)) (b12 : 0 ≤ x6 → (wr (x6 + 5)) ≤ (n5 : Int) → (0 : Int) ≤ (wr (x6 + 4)) ∧ (wr (x6 + 4)) < (n5 : Int)) (k1 : x6 < 0 → Q (.inl none) τ) (k2 : 0 ≤ x6 → (wr (x6 + 5)) ≤ (n5 : Int) → G d 28 76 [vR r0, none, none, none, none, none, none] [] (uI (uI (uI (uI (uI τ q3 x6.toNat x1) q3 (wr (x6 + 1)).toNat x2) q3 (wr (x6 + 2)).toNat x3) q3 (wr (x6 + 3)).toNat x4) q3 (wr (x6 + 4)).toNat x5) Q) (k3 : 0 ≤ x6 → (n5 : Int) < (wr (x6 + 5)) → Q (.inl none) τ) : G d 28 8 [vR r0, vI x1, vI x2, vI x3, vI x4, vI x5, vI x6] [] τ Q := by
  refine g_sk 1 (pc1 := 10) (st1 := [AI x6]) rfl ?_
  refine g_br1 rfl (t := 25) rfl (fun c1 => ?_) (fun c1 => ?_)
  · have c1 : x6 < 0 := of_decide_eq_true c1
    refine g_vret rfl rfl ?_
    exact (k1 c1)
  · have c1 : 0 ≤ x6 := Int.not_lt.mp (of_decide_eq_false c1)
    refine g_sk 4 (pc1 := 18) (st1 := [AR r0, AI (wr (x6 + 5))]) rfl ?_
    refine g_gQ rfl (ci := 5) (k := 0) rfl sh2 p4 ?_
    refine g_al2 rfl sh6 ?_
    refine g_br2 rfl (t := 26) rfl (fun c7 => ?_) (fun c7 => ?_)
    · have c7 : (wr (x6 + 5)) ≤ (n5 : Int) := of_decide_eq_true c7
      refine g_sk 1 (pc1 := 27) (st1 := [AR r0]) rfl ?_
      refine g_gQ rfl (ci := 5) (k := 0) rfl sh2 p4 ?_
      refine g_sk 2 (pc1 := 33) (st1 := [AI x1, AI x6, AR q3]) rfl ?_
      refine g_iast rfl sh6 (b8 c1 c7).1 (b8 c1 c7).2 ?_
      refine g_sk 1 (pc1 := 35) (st1 := [AR r0]) rfl ?_
      refine g_gQ rfl (ci := 5) (k := 0) rfl sh2 p4 ?_
      refine g_sk 4 (pc1 := 43) (st1 := [AI x2, AI (wr (x6 + 1)), AR q3]) rfl ?_
      refine g_iast rfl sh6 (b9 c1 c7).1 (b9 c1 c7).2 ?_
      refine g_sk 1 (pc1 := 45) (st1 := [AR r0]) rfl ?_
      refine g_gQ rfl (ci := 5) (k := 0) rfl sh2 p4 ?_
      refine g_sk 4 (pc1 := 53) (st1 := [AI x3, AI (wr (x6 + 2)), AR q3]) rfl ?_
      refine g_iast rfl sh6 (b10 c1 c7).1 (b10 c1 c7).2 ?_
      refine g_sk 1 (pc1 := 55) (st1 := [AR r0]) rfl ?_
      refine g_gQ rfl (ci := 5) (k := 0) rfl sh2 p4 ?_
      refine g_sk 4 (pc1 := 64) (st1 := [AI x4, AI (wr (x6 + 3)), AR q3]) rfl ?_
      refine g_iast rfl sh6 (b11 c1 c7).1 (b11 c1 c7).2 ?_
      refine g_sk 1 (pc1 := 66) (st1 := [AR r0]) rfl ?_
      refine g_gQ rfl (ci := 5) (k := 0) rfl sh2 p4 ?_
      refine g_sk 4 (pc1 := 75) (st1 := [AI x5, AI (wr (x6 + 4)), AR q3]) rfl ?_
      refine g_iast rfl sh6 (b12 c1 c7).1 (b12 c1 c7).2 ?_
      exact G_fg (lw2_k _ (lw2_f _ (lw2_f _ (lw2_f _ (lw2_f _ (lw2_f _ (lw2_f _ lw2_nil))))))) (k2 c1 c7)
    · have c7 : (n5 : Int) < (wr (x6 + 5)) := Int.not_le.mp (of_decide_eq_false c7)
      refine g_vret rfl rfl ?_
      exact (k3 c1 c7)

set_option maxRecDepth 8192 in
theorem t28x_76 {d : Nat} {τ : T2} {Q : RS → T2 → Prop} {r0 q2 n4 : Nat} (sh1 : tS τ r0 = (1, 5, 0)) (p3 : tP τ r0 1 = some q2) (sh5 : tS τ q2 = (3, 6, n4)) (b6 : (0 : Int) ≤ (tI τ r0 2) ∧ (tI τ r0 2) < (n4 : Int)) (k1 : G d 28 86 [vR r0, none, none, none, none, none, none] [] (uP τ q2 (tI τ r0 2).toNat none) Q) : G d 28 76 [vR r0, none, none, none, none, none, none] [] τ Q := by
  refine g_sk 1 (pc1 := 77) (st1 := [AR r0]) rfl ?_
  refine g_gQ rfl (ci := 5) (k := 1) rfl sh1 p3 ?_
  refine g_sk 1 (pc1 := 81) (st1 := [AR r0, AR q2]) rfl ?_
  refine g_gI rfl (ci := 5) (k := 2) rfl sh1 ?_
  refine g_sk 1 (pc1 := 85) (st1 := [AN, AI (tI τ r0 2), AR q2]) rfl ?_
  refine g_aastN rfl sh5 (by decide) b6.1 b6.2 ?_
  exact k1

set_option maxRecDepth 8192 in
theorem t28x_86 {d : Nat} {τ : T2} {Q : RS → T2 → Prop} {r0 : Nat} (sh1 : tS τ r0 = (1, 5, 0)) (k1 : 100 ≤ (wr ((tI τ r0 2) + 1)) → G d 28 111 [vR r0, none, none, none, none, none, none] [] (uI τ r0 2 0) Q) (k2 : (wr ((tI τ r0 2) + 1)) < 100 → G d 28 111 [vR r0, none, none, none, none, none, none] [] (uI τ r0 2 (wr ((tI τ r0 2) + 1))) Q) : G d 28 86 [vR r0, none, none, none, none, none, none] [] τ Q := by
  refine g_sk 2 (pc1 := 88) (st1 := [AR r0, AR r0]) rfl ?_
  refine g_gI rfl (ci := 5) (k := 2) rfl sh1 ?_
  refine g_sk 3 (pc1 := 95) (st1 := [AI 100, AI (wr ((tI τ r0 2) + 1)), AR r0]) rfl ?_
  refine g_br2 rfl (t := 107) rfl (fun c2 => ?_) (fun c2 => ?_)
  · have c2 : 100 ≤ (wr ((tI τ r0 2) + 1)) := of_decide_eq_true c2
    refine g_sk 1 (pc1 := 108) (st1 := [AI 0, AR r0]) rfl ?_
    refine g_putI (x := 0) rfl (ci := 5) (k := 2) (kd := 0) rfl (by decide) rfl rfl sh1 ?_
    exact (k1 c2)
  · have c2 : (wr ((tI τ r0 2) + 1)) < 100 := Int.not_le.mp (of_decide_eq_false c2)
    refine g_sk 1 (pc1 := 99) (st1 := [AR r0, AR r0]) rfl ?_
    refine g_gI rfl (ci := 5) (k := 2) rfl sh1 ?_
    refine g_sk 3 (pc1 := 108) (st1 := [AI (wr ((tI τ r0 2) + 1)), AR r0]) rfl ?_
    refine g_putI (x := (wr ((tI τ r0 2) + 1))) rfl (ci := 5) (k := 2) (kd := 0) rfl (by decide) rfl rfl sh1 ?_
    exact (k2 c2)

set_option maxRecDepth 8192 in
theorem t28x_111 {d : Nat} {τ : T2} {Q : RS → T2 → Prop} {r0 : Nat} (hd : 17 ≤ d) (sh1 : tS τ r0 = (1, 5, 0)) (k1 : Q (.inl none) (uI τ r0 3 (if 100 < (wr ((tI τ r0 3) + 1)) then 100 else (wr ((tI τ r0 3) + 1))))) : G d 28 111 [vR r0, none, none, none, none, none, none] [] τ Q := by
  refine g_sk 2 (pc1 := 113) (st1 := [AR r0, AR r0]) rfl ?_
  refine g_gI rfl (ci := 5) (k := 3) rfl sh1 ?_
  refine g_sk 3 (pc1 := 120) (st1 := [AI 100, AI (wr ((tI τ r0 3) + 1)), AR r0]) rfl ?_
  refine g_min rfl rfl rfl hd ?_
  refine g_putI (x := (if 100 < (wr ((tI τ r0 3) + 1)) then 100 else (wr ((tI τ r0 3) + 1)))) rfl (ci := 5) (k := 3) (kd := 0) rfl (by decide) rfl rfl sh1 ?_
  refine g_vret rfl rfl ?_
  exact k1

set_option maxRecDepth 8192 in
theorem t30x_0 {d : Nat} {τ : T2} {Q : RS → T2 → Prop} {r0 : Nat} (sh1 : tS τ r0 = (1, 5, 0)) (k1 : 0 < (tI τ r0 3) → (tI (uI τ r0 3 (wr ((tI τ r0 3) - 1))) r0 2) ≤ 0 → G d 30 41 [vR r0, none] [] (uI (uI τ r0 3 (wr ((tI τ r0 3) - 1))) r0 2 99) Q) (k2 : 0 < (tI τ r0 3) → 0 < (tI (uI τ r0 3 (wr ((tI τ r0 3) - 1))) r0 2) → G d 30 41 [vR r0, none] [] (uI (uI τ r0 3 (wr ((tI τ r0 3) - 1))) r0 2 (wr ((tI (uI τ r0 3 (wr ((tI τ r0 3) - 1))) r0 2) - 1))) Q) (k3 : (tI τ r0 3) ≤ 0 → Q (.inl (some (AI 0))) τ) : G d 30 0 [vR r0, none] [] τ Q := by
  refine g_sk 1 (pc1 := 1) (st1 := [AR r0]) rfl ?_
  refine g_gI rfl (ci := 5) (k := 3) rfl sh1 ?_
  refine g_br1 rfl (t := 9) rfl (fun c2 => ?_) (fun c2 => ?_)
  · have c2 : 0 < (tI τ r0 3) := of_decide_eq_true c2
    refine g_sk 2 (pc1 := 11) (st1 := [AR r0, AR r0]) rfl ?_
    refine g_gI rfl (ci := 5) (k := 3) rfl sh1 ?_
    refine g_sk 2 (pc1 := 16) (st1 := [AI (wr ((tI τ r0 3) - 1)), AR r0]) rfl ?_
    refine g_putI (x := (wr ((tI τ r0 3) - 1))) rfl (ci := 5) (k := 3) (kd := 0) rfl (by decide) rfl rfl sh1 ?_
    refine g_sk 2 (pc1 := 21) (st1 := [AR r0, AR r0]) rfl ?_
    refine g_gI rfl (ci := 5) (k := 2) rfl sh1 ?_
    refine g_br1 rfl (t := 36) rfl (fun c3 => ?_) (fun c3 => ?_)
    · have c3 : (tI (uI τ r0 3 (wr ((tI τ r0 3) - 1))) r0 2) ≤ 0 := of_decide_eq_true c3
      refine g_sk 1 (pc1 := 38) (st1 := [AI 99, AR r0]) rfl ?_
      refine g_putI (x := 99) rfl (ci := 5) (k := 2) (kd := 0) rfl (by decide) rfl rfl sh1 ?_
      exact (k1 c2 c3)
    · have c3 : 0 < (tI (uI τ r0 3 (wr ((tI τ r0 3) - 1))) r0 2) := Int.not_le.mp (of_decide_eq_false c3)
      refine g_sk 1 (pc1 := 28) (st1 := [AR r0, AR r0]) rfl ?_
      refine g_gI rfl (ci := 5) (k := 2) rfl sh1 ?_
      refine g_sk 3 (pc1 := 38) (st1 := [AI (wr ((tI (uI τ r0 3 (wr ((tI τ r0 3) - 1))) r0 2) - 1)), AR r0]) rfl ?_
      refine g_putI (x := (wr ((tI (uI τ r0 3 (wr ((tI τ r0 3) - 1))) r0 2) - 1))) rfl (ci := 5) (k := 2) (kd := 0) rfl (by decide) rfl rfl sh1 ?_
      exact (k2 c2 c3)
  · have c2 : (tI τ r0 3) ≤ 0 := Int.not_lt.mp (of_decide_eq_false c2)
    refine g_sk 1 (pc1 := 8) (st1 := [AI 0]) rfl ?_
    refine g_zret rfl rfl (by decide) ?_
    exact (k3 c2)

set_option maxRecDepth 8192 in
theorem t30x_41 {d : Nat} {τ : T2} {Q : RS → T2 → Prop} {r0 : Nat} (sh1 : tS τ r0 = (1, 5, 0)) (k1 : G d 30 48 [vR r0, vI (wr ((tI τ r0 2) * 5))] [] τ Q) : G d 30 41 [vR r0, none] [] τ Q := by
  refine g_sk 1 (pc1 := 42) (st1 := [AR r0]) rfl ?_
  refine g_gI rfl (ci := 5) (k := 2) rfl sh1 ?_
  refine g_sx 3 (pc1 := 48) (L1 := [vR r0, vI (wr ((tI τ r0 2) * 5))]) (st1 := []) rfl ?_
  exact k1

set_option maxRecDepth 8192 in
theorem t30x_48 {d : Nat} {τ : T2} {Q : RS → T2 → Prop} {x1 : Int} {r0 q2 n4 : Nat} (sh1 : tS τ r0 = (1, 5, 0)) (p3 : tP τ r0 0 = some q2) (sh5 : tS τ q2 = (2, 0, n4)) (b7 : (wr (x1 + 5)) ≤ (n4 : Int) → (0 : Int) ≤ x1 ∧ x1 < (n4 : Int)) (k1 : (wr (x1 + 5)) ≤ (n4 : Int) → G d 30 71 [vR r0, vI x1] [] (uI τ r0 4 (tI τ q2 x1.toNat)) Q) (k2 : (n4 : Int) < (wr (x1 + 5)) → Q (.inl (some (AI 0))) τ) : G d 30 48 [vR r0, vI x1] [] τ Q := by
  refine g_sk 4 (pc1 := 52) (st1 := [AR r0, AI (wr (x1 + 5))]) rfl ?_
  refine g_gQ rfl (ci := 5) (k := 0) rfl sh1 p3 ?_
  refine g_al2 rfl sh5 ?_
  refine g_br2 rfl (t := 61) rfl (fun c6 => ?_) (fun c6 => ?_)
  · have c6 : (wr (x1 + 5)) ≤ (n4 : Int) := of_decide_eq_true c6
    refine g_sk 2 (pc1 := 63) (st1 := [AR r0, AR r0]) rfl ?_
    refine g_gQ rfl (ci := 5) (k := 0) rfl sh1 p3 ?_
    refine g_sk 1 (pc1 := 67) (st1 := [AI x1, AR q2, AR r0]) rfl ?_
    refine g_iald rfl sh5 (by decide) (b7 c6).1 (b7 c6).2 ?_
    refine g_putI (x := (tI τ q2 x1.toNat)) rfl (ci := 5) (k := 4) (kd := 0) rfl (by decide) rfl rfl sh1 ?_
    exact (k1 c6)
  · have c6 : (n4 : Int) < (wr (x1 + 5)) := Int.not_le.mp (of_decide_eq_false c6)
    refine g_sk 1 (pc1 := 60) (st1 := [AI 0]) rfl ?_
    refine g_zret rfl rfl (by decide) ?_
    exact (k2 c6)

set_option maxRecDepth 8192 in
theorem t30x_71 {d : Nat} {τ : T2} {Q : RS → T2 → Prop} {x1 : Int} {r0 q2 n4 : Nat} (sh1 : tS τ r0 = (1, 5, 0)) (p3 : tP τ r0 0 = some q2) (sh5 : tS τ q2 = (2, 0, n4)) (b6 : (0 : Int) ≤ (wr (x1 + 1)) ∧ (wr (x1 + 1)) < (n4 : Int)) (k1 : G d 30 83 [vR r0, vI x1] [] (uI τ r0 5 (tI τ q2 (wr (x1 + 1)).toNat)) Q) : G d 30 71 [vR r0, vI x1] [] τ Q := by
  refine g_sk 2 (pc1 := 73) (st1 := [AR r0, AR r0]) rfl ?_
  refine g_gQ rfl (ci := 5) (k := 0) rfl sh1 p3 ?_
  refine g_sk 3 (pc1 := 79) (st1 := [AI (wr (x1 + 1)), AR q2, AR r0]) rfl ?_
  refine g_iald rfl sh5 (by decide) b6.1 b6.2 ?_
  refine g_putI (x := (tI τ q2 (wr (x1 + 1)).toNat)) rfl (ci := 5) (k := 5) (kd := 0) rfl (by decide) rfl rfl sh1 ?_
  exact k1

set_option maxRecDepth 8192 in
theorem t30x_83 {d : Nat} {τ : T2} {Q : RS → T2 → Prop} {x1 : Int} {r0 q2 n4 : Nat} (sh1 : tS τ r0 = (1, 5, 0)) (p3 : tP τ r0 0 = some q2) (sh5 : tS τ q2 = (2, 0, n4)) (b6 : (0 : Int) ≤ (wr (x1 + 2)) ∧ (wr (x1 + 2)) < (n4 : Int)) (k1 : G d 30 95 [vR r0, vI x1] [] (uI τ r0 6 (tI τ q2 (wr (x1 + 2)).toNat)) Q) : G d 30 83 [vR r0, vI x1] [] τ Q := by
  refine g_sk 2 (pc1 := 85) (st1 := [AR r0, AR r0]) rfl ?_
  refine g_gQ rfl (ci := 5) (k := 0) rfl sh1 p3 ?_
  refine g_sk 3 (pc1 := 91) (st1 := [AI (wr (x1 + 2)), AR q2, AR r0]) rfl ?_
  refine g_iald rfl sh5 (by decide) b6.1 b6.2 ?_
  refine g_putI (x := (tI τ q2 (wr (x1 + 2)).toNat)) rfl (ci := 5) (k := 6) (kd := 0) rfl (by decide) rfl rfl sh1 ?_
  exact k1

set_option maxRecDepth 8192 in
theorem t30x_95 {d : Nat} {τ : T2} {Q : RS → T2 → Prop} {x1 : Int} {r0 q2 n4 : Nat} (sh1 : tS τ r0 = (1, 5, 0)) (p3 : tP τ r0 0 = some q2) (sh5 : tS τ q2 = (2, 0, n4)) (b6 : (0 : Int) ≤ (wr (x1 + 3)) ∧ (wr (x1 + 3)) < (n4 : Int)) (k1 : G d 30 107 [vR r0, vI x1] [] (uI τ r0 7 (tI τ q2 (wr (x1 + 3)).toNat)) Q) : G d 30 95 [vR r0, vI x1] [] τ Q := by
  refine g_sk 2 (pc1 := 97) (st1 := [AR r0, AR r0]) rfl ?_
  refine g_gQ rfl (ci := 5) (k := 0) rfl sh1 p3 ?_
  refine g_sk 3 (pc1 := 103) (st1 := [AI (wr (x1 + 3)), AR q2, AR r0]) rfl ?_
  refine g_iald rfl sh5 (by decide) b6.1 b6.2 ?_
  refine g_putI (x := (tI τ q2 (wr (x1 + 3)).toNat)) rfl (ci := 5) (k := 7) (kd := 0) rfl (by decide) rfl rfl sh1 ?_
  exact k1

set_option maxRecDepth 8192 in
theorem t30x_107 {d : Nat} {τ : T2} {Q : RS → T2 → Prop} {x1 : Int} {r0 q2 n4 : Nat} (sh1 : tS τ r0 = (1, 5, 0)) (p3 : tP τ r0 0 = some q2) (sh5 : tS τ q2 = (2, 0, n4)) (b6 : (0 : Int) ≤ (wr (x1 + 4)) ∧ (wr (x1 + 4)) < (n4 : Int)) (k1 : G d 30 120 [vR r0, none] [AR r0] (uI τ r0 8 (tI τ q2 (wr (x1 + 4)).toNat)) Q) : G d 30 107 [vR r0, vI x1] [] τ Q := by
  refine g_sk 2 (pc1 := 109) (st1 := [AR r0, AR r0]) rfl ?_
  refine g_gQ rfl (ci := 5) (k := 0) rfl sh1 p3 ?_
  refine g_sk 3 (pc1 := 115) (st1 := [AI (wr (x1 + 4)), AR q2, AR r0]) rfl ?_
  refine g_iald rfl sh5 (by decide) b6.1 b6.2 ?_
  refine g_putI (x := (tI τ q2 (wr (x1 + 4)).toNat)) rfl (ci := 5) (k := 8) (kd := 0) rfl (by decide) rfl rfl sh1 ?_
  refine g_sk 1 (pc1 := 120) (st1 := [AR r0]) rfl ?_
  exact G_fg (lw2_k _ (lw2_f _ lw2_nil)) k1

set_option maxRecDepth 8192 in
theorem t30x_120 {d : Nat} {τ : T2} {Q : RS → T2 → Prop} {r0 s0 q2 n4 : Nat} (sh1 : tS τ r0 = (1, 5, 0)) (p3 : tP τ r0 1 = some q2) (sh5 : tS τ q2 = (3, 6, n4)) (b6 : (0 : Int) ≤ (tI τ r0 2) ∧ (tI τ r0 2) < (n4 : Int)) (sh7 : tS τ s0 = (1, 5, 0)) (k1 : Q (.inl (some (AI 1))) (uP τ s0 9 (tP τ q2 (tI τ r0 2).toNat))) : G d 30 120 [vR r0, none] [AR s0] τ Q := by
  refine g_sk 1 (pc1 := 121) (st1 := [AR r0, AR s0]) rfl ?_
  refine g_gQ rfl (ci := 5) (k := 1) rfl sh1 p3 ?_
  refine g_sk 1 (pc1 := 125) (st1 := [AR r0, AR q2, AR s0]) rfl ?_
  refine g_gI rfl (ci := 5) (k := 2) rfl sh1 ?_
  refine g_aald rfl sh5 (by decide) b6.1 b6.2 ?_
  refine g_putP rfl (ci := 5) (k := 9) rfl sh7 ?_
  refine g_sk 1 (pc1 := 133) (st1 := [AI 1]) rfl ?_
  refine g_zret rfl rfl (by decide) ?_
  exact k1

set_option maxRecDepth 8192 in
theorem t170x_0 {d : Nat} {τ : T2} {Q : RS → T2 → Prop} {x1 x2 x3 x4 x5 : Int} {r0 q3 n5 : Nat} (sh1 : tS τ r0 = (1, 21, 0)) (p4 : tP τ r0 11 = some q3) (sh6 : tS τ q3 = (3, 9, n5)) (b7 : (0 : Int) ≤ 0 ∧ 0 < (n5 : Int)) (k1 : ¬ (tI τ r0 12) = 100 → G d 170 68 [vR r0, vI x1, vI x2, vI x3, vI x4, vI x5, none, none] [] τ Q) (k2 : (tI τ r0 12) = 100 → G d 170 20 [vR r0, vI x1, vI x2, vI x3, vI x4, vI x5, vQ (tP τ q3 0), vI 1] [] τ Q) : G d 170 0 [vR r0, vI x1, vI x2, vI x3, vI x4, vI x5, none, none] [] τ Q := by
  refine g_sk 1 (pc1 := 1) (st1 := [AR r0]) rfl ?_
  refine g_gI rfl (ci := 21) (k := 12) rfl sh1 ?_
  refine g_sk 1 (pc1 := 6) (st1 := [AI 100, AI (tI τ r0 12)]) rfl ?_
  refine g_br2 rfl (t := 68) rfl (fun c2 => ?_) (fun c2 => ?_)
  · have c2 : ¬ (tI τ r0 12) = 100 := of_decide_eq_true c2
    exact (k1 c2)
  · have c2 : (tI τ r0 12) = 100 := Decidable.of_not_not (of_decide_eq_false c2)
    refine g_sk 1 (pc1 := 10) (st1 := [AR r0]) rfl ?_
    refine g_gQ rfl (ci := 21) (k := 11) rfl sh1 p4 ?_
    refine g_sk 1 (pc1 := 14) (st1 := [AI 0, AR q3]) rfl ?_
    refine g_aald rfl sh6 (by decide) b7.1 b7.2 ?_
    refine g_sx 3 (pc1 := 20) (L1 := [vR r0, vI x1, vI x2, vI x3, vI x4, vI x5, vQ (tP τ q3 0), vI 1]) (st1 := []) rfl ?_
    exact (k2 c2)

set_option maxRecDepth 8192 in
theorem t170x_20 {d : Nat} {τ : T2} {Q : RS → T2 → Prop} {x1 x2 x3 x4 x5 x7 : Int} {r0 r6 q3 n5 q10 : Nat} (sh2 : tS τ r0 = (1, 21, 0)) (p4 : tP τ r0 11 = some q3) (sh6 : tS τ q3 = (3, 9, n5)) (b7 : (0 : Int) ≤ 99 ∧ 99 < (n5 : Int)) (p8 : 100 ≤ x7 → okEs 9 (tS τ r6) = true) (b9 : x7 < 100 → (0 : Int) ≤ x7 ∧ x7 < (n5 : Int)) (p11 : x7 < 100 → tP τ q3 x7.toNat = some q10) (b12 : x7 < 100 → (0 : Int) ≤ (wr (x7 - 1)) ∧ (wr (x7 - 1)) < (n5 : Int)) (p13 : x7 < 100 → okEs 9 (tS τ q10) = true) (k1 : 100 ≤ x7 → G d 170 68 [vR r0, vI x1, vI x2, vI x3, vI x4, vI x5, none, none] [] (uI (uP τ q3 99 (some r6)) r0 12 (wr ((tI (uP τ q3 99 (some r6)) r0 12) - 1))) Q) (k2 : x7 < 100 → G d 170 20 [vR r0, vI x1, vI x2, vI x3, vI x4, vI x5, vR r6, vI (wr (x7 + 1))] [] (uP τ q3 (wr (x7 - 1)).toNat (some q10)) Q) : G d 170 20 [vR r0, vI x1, vI x2, vI x3, vI x4, vI x5, vR r6, vI x7] [] τ Q := by
  refine g_sk 2 (pc1 := 24) (st1 := [AI 100, AI x7]) rfl ?_
  refine g_br2 rfl (t := 49) rfl (fun c1 => ?_) (fun c1 => ?_)
  · have c1 : 100 ≤ x7 := of_decide_eq_true c1
    refine g_sk 1 (pc1 := 50) (st1 := [AR r0]) rfl ?_
    refine g_gQ rfl (ci := 21) (k := 11) rfl sh2 p4 ?_
    refine g_sk 2 (pc1 := 57) (st1 := [AR r6, AI 99, AR q3]) rfl ?_
    refine g_aast rfl sh6 (by decide) b7.1 b7.2 (p8 c1) ?_
    refine g_sk 2 (pc1 := 60) (st1 := [AR r0, AR r0]) rfl ?_
    refine g_gI rfl (ci := 21) (k := 12) rfl sh2 ?_
    refine g_sk 2 (pc1 := 65) (st1 := [AI (wr ((tI (uP τ q3 99 (some r6)) r0 12) - 1)), AR r0]) rfl ?_
    refine g_putI (x := (wr ((tI (uP τ q3 99 (some r6)) r0 12) - 1))) rfl (ci := 21) (k := 12) (kd := 0) rfl (by decide) rfl rfl sh2 ?_
    exact G_fg (lw2_k _ (lw2_k _ (lw2_k _ (lw2_k _ (lw2_k _ (lw2_k _ (lw2_f _ (lw2_f _ lw2_nil)))))))) (k1 c1)
  · have c1 : x7 < 100 := Int.not_le.mp (of_decide_eq_false c1)
    refine g_sk 1 (pc1 := 28) (st1 := [AR r0]) rfl ?_
    refine g_gQ rfl (ci := 21) (k := 11) rfl sh2 p4 ?_
    refine g_sk 4 (pc1 := 36) (st1 := [AR r0, AI (wr (x7 - 1)), AR q3]) rfl ?_
    refine g_gQ rfl (ci := 21) (k := 11) rfl sh2 p4 ?_
    refine g_sk 1 (pc1 := 41) (st1 := [AI x7, AR q3, AI (wr (x7 - 1)), AR q3]) rfl ?_
    refine g_aalQ rfl sh6 (by decide) (b9 c1).1 (b9 c1).2 (p11 c1) ?_
    refine g_aast rfl sh6 (by decide) (b12 c1).1 (b12 c1).2 (p13 c1) ?_
    refine g_sx 2 (pc1 := 20) (L1 := [vR r0, vI x1, vI x2, vI x3, vI x4, vI x5, vR r6, vI (wr (x7 + 1))]) (st1 := []) rfl ?_
    exact (k2 c1)

set_option maxRecDepth 8192 in
theorem t170x_68 {d : Nat} {τ : T2} {Q : RS → T2 → Prop} {x1 x2 x3 x4 x5 : Int} {r0 q2 n4 q7 : Nat} (sh1 : tS τ r0 = (1, 21, 0)) (p3 : tP τ r0 11 = some q2) (sh5 : tS τ q2 = (3, 9, n4)) (b6 : (0 : Int) ≤ (tI τ r0 12) ∧ (tI τ r0 12) < (n4 : Int)) (p8 : tP τ q2 (tI τ r0 12).toNat = some q7) (sh9 : tS τ q7 = (1, 12, 0)) (k1 : Q (.inl (some (AR q7))) (uI (uI (uI (uI (uI (uI τ r0 12 (wr ((tI τ r0 12) + 1))) q7 0 x1) q7 1 x2) q7 2 x3) q7 3 x4) q7 4 x5)) : G d 170 68 [vR r0, vI x1, vI x2, vI x3, vI x4, vI x5, none, none] [] τ Q := by
  refine g_sk 1 (pc1 := 69) (st1 := [AR r0]) rfl ?_
  refine g_gQ rfl (ci := 21) (k := 11) rfl sh1 p3 ?_
  refine g_sk 1 (pc1 := 73) (st1 := [AR r0, AR q2]) rfl ?_
  refine g_gI rfl (ci := 21) (k := 12) rfl sh1 ?_
  refine g_aalQ rfl sh5 (by decide) b6.1 b6.2 p8 ?_
  refine g_sx 3 (pc1 := 81) (L1 := [vR r0, vI x1, vI x2, vI x3, vI x4, vI x5, vR q7, none]) (st1 := [AR r0, AR r0]) rfl ?_
  refine g_gI rfl (ci := 21) (k := 12) rfl sh1 ?_
  refine g_sk 2 (pc1 := 86) (st1 := [AI (wr ((tI τ r0 12) + 1)), AR r0]) rfl ?_
  refine g_putI (x := (wr ((tI τ r0 12) + 1))) rfl (ci := 21) (k := 12) (kd := 0) rfl (by decide) rfl rfl sh1 ?_
  refine g_sk 2 (pc1 := 92) (st1 := [AI x1, AR q7]) rfl ?_
  refine g_putI (x := x1) rfl (ci := 12) (k := 0) (kd := 0) rfl (by decide) rfl rfl sh9 ?_
  refine g_sk 2 (pc1 := 98) (st1 := [AI x2, AR q7]) rfl ?_
  refine g_putI (x := x2) rfl (ci := 12) (k := 1) (kd := 0) rfl (by decide) rfl rfl sh9 ?_
  refine g_sk 2 (pc1 := 104) (st1 := [AI x3, AR q7]) rfl ?_
  refine g_putI (x := x3) rfl (ci := 12) (k := 2) (kd := 0) rfl (by decide) rfl rfl sh9 ?_
  refine g_sk 2 (pc1 := 111) (st1 := [AI x4, AR q7]) rfl ?_
  refine g_putI (x := x4) rfl (ci := 12) (k := 3) (kd := 0) rfl (by decide) rfl rfl sh9 ?_
  refine g_sk 2 (pc1 := 118) (st1 := [AI x5, AR q7]) rfl ?_
  refine g_putI (x := x5) rfl (ci := 12) (k := 4) (kd := 0) rfl (by decide) rfl rfl sh9 ?_
  refine g_sk 1 (pc1 := 123) (st1 := [AR q7]) rfl ?_
  refine g_aret rfl rfl ?_
  exact k1

