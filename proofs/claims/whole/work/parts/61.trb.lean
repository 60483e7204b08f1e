/-! TREES of methods 0 to 49, written by program (wip/whole/tree.py) -/
set_option maxRecDepth 8192 in
theorem t0_0 {d : Nat} {τ : T2} {Q : RS → T2 → Prop} {r0 : Nat} (hd : 17 ≤ d) (k1 : G d 0 10 [vR r0] [AR (tN τ), AR r0] (nC τ (2, 1, 480) 480) Q) : G d 0 0 [vR r0] [] τ Q := by
  refine g_sk 1 (pc1 := 1) (st1 := [AR r0]) rfl ?_
  refine g_oin (na := 1) rfl rfl rfl hd ?_
  refine g_sk 2 (pc1 := 8) (st1 := [AI 480, AR r0]) rfl ?_
  refine g_newa rfl rfl (by decide) (by decide) ?_
  exact k1

set_option maxRecDepth 8192 in
theorem t0_10 {d : Nat} {τ : T2} {Q : RS → T2 → Prop} {r0 s1 : Nat} {s0 : Option Nat} (sh1 : tS τ s1 = (1, 2, 0)) (k1 : G d 0 18 [vR r0] [AR (tN (uP τ s1 0 s0)), AR r0] (nC (uP τ s1 0 s0) (2, 0, 40) 40) Q) : G d 0 10 [vR r0] [AP s0, AR s1] τ Q := by
  refine g_putP rfl (ci := 2) (k := 0) rfl sh1 ?_
  refine g_sk 2 (pc1 := 16) (st1 := [AI 40, AR r0]) rfl ?_
  refine g_newa rfl rfl (by decide) (by decide) ?_
  exact k1

set_option maxRecDepth 8192 in
theorem t0_18 {d : Nat} {τ : T2} {Q : RS → T2 → Prop} {r0 s1 : Nat} {s0 : Option Nat} (sh1 : tS τ s1 = (1, 2, 0)) (sh2 : tS τ r0 = (1, 2, 0)) (k1 : Q (.inl none) (uI (uP τ s1 1 s0) r0 2 0)) : G d 0 18 [vR r0] [AP s0, AR s1] τ Q := by
  refine g_putP rfl (ci := 2) (k := 1) rfl sh1 ?_
  refine g_sk 2 (pc1 := 23) (st1 := [AI 0, AR r0]) rfl ?_
  refine g_putI (x := 0) rfl (ci := 2) (k := 2) (kd := 0) rfl (by decide) rfl rfl sh2 ?_
  refine g_vret rfl rfl ?_
  exact k1

set_option maxRecDepth 8192 in
theorem t1_0 {d : Nat} {τ : T2} {Q : RS → T2 → Prop} {x2 x3 : Int} {r0 : Nat} {r1 : Option Nat} (sh1 : tS τ r0 = (1, 2, 0)) (k1 : (tI τ r0 2) < 0 → Q (.inl none) τ) (k2 : 0 ≤ (tI τ r0 2) → (tI τ r0 2) < 40 → G d 1 23 [vR r0, vQ r1, none, vI x3, vI 0, vI x2] [] τ Q) (k3 : 0 ≤ (tI τ r0 2) → 40 ≤ (tI τ r0 2) → Q (.inl none) τ) : G d 1 0 [vR r0, vQ r1, vI x2, vI x3, none, none] [] τ Q := by
  refine g_sk 1 (pc1 := 1) (st1 := [AR r0]) rfl ?_
  refine g_gI rfl (ci := 2) (k := 2) rfl sh1 ?_
  refine g_br1 rfl (t := 16) rfl (fun c2 => ?_) (fun c2 => ?_)
  · have c2 : (tI τ r0 2) < 0 := of_decide_eq_true c2
    refine g_vret rfl rfl ?_
    exact (k1 c2)
  · have c2 : 0 ≤ (tI τ r0 2) := Int.not_lt.mp (of_decide_eq_false c2)
    refine g_sk 1 (pc1 := 8) (st1 := [AR r0]) rfl ?_
    refine g_gI rfl (ci := 2) (k := 2) rfl sh1 ?_
    refine g_sk 1 (pc1 := 13) (st1 := [AI 40, AI (tI τ r0 2)]) rfl ?_
    refine g_br2 rfl (t := 17) rfl (fun c3 => ?_) (fun c3 => ?_)
    · have c3 : (tI τ r0 2) < 40 := of_decide_eq_true c3
      refine g_sx 4 (pc1 := 23) (L1 := [vR r0, vQ r1, vI x2, vI x3, vI 0, vI x2]) (st1 := []) rfl ?_
      exact G_fg (lw2_k _ (lw2_k _ (lw2_f _ (lw2_k _ (lw2_k _ (lw2_k _ lw2_nil)))))) (k2 c2 c3)
    · have c3 : 40 ≤ (tI τ r0 2) := Int.not_lt.mp (of_decide_eq_false c3)
      refine g_vret rfl rfl ?_
      exact (k3 c2 c3)

set_option maxRecDepth 8192 in
theorem t1_23 {d : Nat} {τ : T2} {Q : RS → T2 → Prop} {x3 x4 x5 : Int} {r0 r1 q3 n5 n10 q16 n19 : Nat} (sh2 : tS τ r0 = (1, 2, 0)) (p4 : tP τ r0 1 = some q3) (sh6 : tS τ q3 = (2, 0, n5)) (b7 : x5 < 0 → (0 : Int) ≤ (tI τ r0 2) ∧ (tI τ r0 2) < (n5 : Int)) (b9 : 0 ≤ x5 → x3 ≤ x5 → (0 : Int) ≤ (tI τ r0 2) ∧ (tI τ r0 2) < (n5 : Int)) (sh11 : tS τ r1 = (2, 1, n10)) (b13 : 0 ≤ x5 → x5 < x3 → (n10 : Int) ≤ x5 → (0 : Int) ≤ (tI τ r0 2) ∧ (tI τ r0 2) < (n5 : Int)) (b15 : 0 ≤ x5 → x5 < x3 → x5 < (n10 : Int) → 12 ≤ x4 → (0 : Int) ≤ (tI τ r0 2) ∧ (tI τ r0 2) < (n5 : Int)) (p17 : tP τ r0 0 = some q16) (b18 : 0 ≤ x5 → x5 < x3 → x5 < (n10 : Int) → x4 < 12 → (0 : Int) ≤ x5 ∧ x5 < (n10 : Int)) (sh20 : tS τ q16 = (2, 1, n19)) (b21 : 0 ≤ x5 → x5 < x3 → x5 < (n10 : Int) → x4 < 12 → (0 : Int) ≤ (wr ((wr ((tI τ r0 2) * 12)) + x4)) ∧ (wr ((wr ((tI τ r0 2) * 12)) + x4)) < (n19 : Int)) (k1 : x5 < 0 → Q (.inl none) (uI (uI τ q3 (tI τ r0 2).toNat x4) r0 2 (wr ((tI (uI τ q3 (tI τ r0 2).toNat x4) r0 2) + 1)))) (k2 : 0 ≤ x5 → x3 ≤ x5 → Q (.inl none) (uI (uI τ q3 (tI τ r0 2).toNat x4) r0 2 (wr ((tI (uI τ q3 (tI τ r0 2).toNat x4) r0 2) + 1)))) (k3 : 0 ≤ x5 → x5 < x3 → (n10 : Int) ≤ x5 → Q (.inl none) (uI (uI τ q3 (tI τ r0 2).toNat x4) r0 2 (wr ((tI (uI τ q3 (tI τ r0 2).toNat x4) r0 2) + 1)))) (k4 : 0 ≤ x5 → x5 < x3 → x5 < (n10 : Int) → 12 ≤ x4 → Q (.inl none) (uI (uI τ q3 (tI τ r0 2).toNat x4) r0 2 (wr ((tI (uI τ q3 (tI τ r0 2).toNat x4) r0 2) + 1)))) (k5 : 0 ≤ x5 → x5 < x3 → x5 < (n10 : Int) → x4 < 12 → G d 1 23 [vR r0, vR r1, none, vI x3, vI (wr (x4 + 1)), vI (wr (x5 + 1))] [] (uI τ q16 (wr ((wr ((tI τ r0 2) * 12)) + x4)).toNat (zbyt (tI τ r1 x5.toNat))) Q) : G d 1 23 [vR r0, vR r1, none, vI x3, vI x4, vI x5] [] τ Q := by
  refine g_sk 1 (pc1 := 25) (st1 := [AI x5]) rfl ?_
  refine g_br1 rfl (t := 76) rfl (fun c1 => ?_) (fun c1 => ?_)
  · have c1 : x5 < 0 := of_decide_eq_true c1
    refine g_sk 1 (pc1 := 77) (st1 := [AR r0]) rfl ?_
    refine g_gQ rfl (ci := 2) (k := 1) rfl sh2 p4 ?_
    refine g_sk 1 (pc1 := 81) (st1 := [AR r0, AR q3]) rfl ?_
    refine g_gI rfl (ci := 2) (k := 2) rfl sh2 ?_
    refine g_sk 1 (pc1 := 86) (st1 := [AI x4, AI (tI τ r0 2), AR q3]) rfl ?_
    refine g_iast rfl sh6 (b7 c1).1 (b7 c1).2 ?_
    refine g_sk 2 (pc1 := 89) (st1 := [AR r0, AR r0]) rfl ?_
    refine g_gI rfl (ci := 2) (k := 2) rfl sh2 ?_
    refine g_sk 2 (pc1 := 94) (st1 := [AI (wr ((tI (uI τ q3 (tI τ r0 2).toNat x4) r0 2) + 1)), AR r0]) rfl ?_
    refine g_putI (x := (wr ((tI (uI τ q3 (tI τ r0 2).toNat x4) r0 2) + 1))) rfl (ci := 2) (k := 2) (kd := 0) rfl (by decide) rfl rfl sh2 ?_
    refine g_vret rfl rfl ?_
    exact (k1 c1)
  · have c1 : 0 ≤ x5 := Int.not_lt.mp (of_decide_eq_false c1)
    refine g_sk 2 (pc1 := 31) (st1 := [AI x3, AI x5]) rfl ?_
    refine g_br2 rfl (t := 76) rfl (fun c8 => ?_) (fun c8 => ?_)
    · have c8 : x3 ≤ x5 := of_decide_eq_true c8
      refine g_sk 1 (pc1 := 77) (st1 := [AR r0]) rfl ?_
      refine g_gQ rfl (ci := 2) (k := 1) rfl sh2 p4 ?_
      refine g_sk 1 (pc1 := 81) (st1 := [AR r0, AR q3]) rfl ?_
      refine g_gI rfl (ci := 2) (k := 2) rfl sh2 ?_
      refine g_sk 1 (pc1 := 86) (st1 := [AI x4, AI (tI τ r0 2), AR q3]) rfl ?_
      refine g_iast rfl sh6 (b9 c1 c8).1 (b9 c1 c8).2 ?_
      refine g_sk 2 (pc1 := 89) (st1 := [AR r0, AR r0]) rfl ?_
      refine g_gI rfl (ci := 2) (k := 2) rfl sh2 ?_
      refine g_sk 2 (pc1 := 94) (st1 := [AI (wr ((tI (uI τ q3 (tI τ r0 2).toNat x4) r0 2) + 1)), AR r0]) rfl ?_
      refine g_putI (x := (wr ((tI (uI τ q3 (tI τ r0 2).toNat x4) r0 2) + 1))) rfl (ci := 2) (k := 2) (kd := 0) rfl (by decide) rfl rfl sh2 ?_
      refine g_vret rfl rfl ?_
      exact (k2 c1 c8)
    · have c8 : x5 < x3 := Int.not_le.mp (of_decide_eq_false c8)
      refine g_sk 2 (pc1 := 37) (st1 := [AR r1, AI x5]) rfl ?_
      refine g_al2 rfl sh11 ?_
      refine g_br2 rfl (t := 76) rfl (fun c12 => ?_) (fun c12 => ?_)
      · have c12 : (n10 : Int) ≤ x5 := of_decide_eq_true c12
        refine g_sk 1 (pc1 := 77) (st1 := [AR r0]) rfl ?_
        refine g_gQ rfl (ci := 2) (k := 1) rfl sh2 p4 ?_
        refine g_sk 1 (pc1 := 81) (st1 := [AR r0, AR q3]) rfl ?_
        refine g_gI rfl (ci := 2) (k := 2) rfl sh2 ?_
        refine g_sk 1 (pc1 := 86) (st1 := [AI x4, AI (tI τ r0 2), AR q3]) rfl ?_
        refine g_iast rfl sh6 (b13 c1 c8 c12).1 (b13 c1 c8 c12).2 ?_
        refine g_sk 2 (pc1 := 89) (st1 := [AR r0, AR r0]) rfl ?_
        refine g_gI rfl (ci := 2) (k := 2) rfl sh2 ?_
        refine g_sk 2 (pc1 := 94) (st1 := [AI (wr ((tI (uI τ q3 (tI τ r0 2).toNat x4) r0 2) + 1)), AR r0]) rfl ?_
        refine g_putI (x := (wr ((tI (uI τ q3 (tI τ r0 2).toNat x4) r0 2) + 1))) rfl (ci := 2) (k := 2) (kd := 0) rfl (by decide) rfl rfl sh2 ?_
        refine g_vret rfl rfl ?_
        exact (k3 c1 c8 c12)
      · have c12 : x5 < (n10 : Int) := Int.not_le.mp (of_decide_eq_false c12)
        refine g_sk 2 (pc1 := 45) (st1 := [AI 12, AI x4]) rfl ?_
        refine g_br2 rfl (t := 76) rfl (fun c14 => ?_) (fun c14 => ?_)
        · have c14 : 12 ≤ x4 := of_decide_eq_true c14
          refine g_sk 1 (pc1 := 77) (st1 := [AR r0]) rfl ?_
          refine g_gQ rfl (ci := 2) (k := 1) rfl sh2 p4 ?_
          refine g_sk 1 (pc1 := 81) (st1 := [AR r0, AR q3]) rfl ?_
          refine g_gI rfl (ci := 2) (k := 2) rfl sh2 ?_
          refine g_sk 1 (pc1 := 86) (st1 := [AI x4, AI (tI τ r0 2), AR q3]) rfl ?_
          refine g_iast rfl sh6 (b15 c1 c8 c12 c14).1 (b15 c1 c8 c12 c14).2 ?_
          refine g_sk 2 (pc1 := 89) (st1 := [AR r0, AR r0]) rfl ?_
          refine g_gI rfl (ci := 2) (k := 2) rfl sh2 ?_
          refine g_sk 2 (pc1 := 94) (st1 := [AI (wr ((tI (uI τ q3 (tI τ r0 2).toNat x4) r0 2) + 1)), AR r0]) rfl ?_
          refine g_putI (x := (wr ((tI (uI τ q3 (tI τ r0 2).toNat x4) r0 2) + 1))) rfl (ci := 2) (k := 2) (kd := 0) rfl (by decide) rfl rfl sh2 ?_
          refine g_vret rfl rfl ?_
          exact (k4 c1 c8 c12 c14)
        · have c14 : x4 < 12 := Int.not_le.mp (of_decide_eq_false c14)
          refine g_sk 1 (pc1 := 49) (st1 := [AR r0]) rfl ?_
          refine g_gQ rfl (ci := 2) (k := 0) rfl sh2 p17 ?_
          refine g_sk 1 (pc1 := 53) (st1 := [AR r0, AR q16]) rfl ?_
          refine g_gI rfl (ci := 2) (k := 2) rfl sh2 ?_
          refine g_sk 6 (pc1 := 65) (st1 := [AI x5, AR r1, AI (wr ((wr ((tI τ r0 2) * 12)) + x4)), AR q16]) rfl ?_
          refine g_bald rfl sh11 (by decide) (b18 c1 c8 c12 c14).1 (b18 c1 c8 c12 c14).2 ?_
          refine g_bast rfl sh20 (b21 c1 c8 c12 c14).1 (b21 c1 c8 c12 c14).2 ?_
          refine g_sx 3 (pc1 := 23) (L1 := [vR r0, vR r1, none, vI x3, vI (wr (x4 + 1)), vI (wr (x5 + 1))]) (st1 := []) rfl ?_
          exact (k5 c1 c8 c12 c14)

set_option maxRecDepth 8192 in
theorem t2_0 {d : Nat} {τ : T2} {Q : RS → T2 → Prop} {r0 : Nat} {r1 : Option Nat} (k1 : G d 2 4 [vR r0, vQ r1, vI 0, vI 0] [] τ Q) : G d 2 0 [vR r0, vQ r1, none, none] [] τ Q := by
  refine g_sx 4 (pc1 := 4) (L1 := [vR r0, vQ r1, vI 0, vI 0]) (st1 := []) rfl ?_
  exact k1

set_option maxRecDepth 8192 in
theorem t2_4 {d : Nat} {τ : T2} {Q : RS → T2 → Prop} {x2 x3 : Int} {r0 : Nat} {r1 : Option Nat} (hd : 1 ≤ d) (sh1 : tS τ r0 = (1, 2, 0)) (k1 : (tI τ r0 2) ≤ x3 → Q (.inl (some (AI x2))) τ) (k2 : x3 < (tI τ r0 2) → 40 ≤ x3 → Q (.inl (some (AI x2))) τ) (k3 : x3 < (tI τ r0 2) → x3 < 40 → G (d - 1) 3 0 [vR r0, vI x3, vQ r1, none] [] τ (KC d 2 21 24 [vR r0, vQ r1, vI x2, vI x3] [] Q)) : G d 2 4 [vR r0, vQ r1, vI x2, vI x3] [] τ Q := by
  refine g_sk 2 (pc1 := 6) (st1 := [AR r0, AI x3]) rfl ?_
  refine g_gI rfl (ci := 2) (k := 2) rfl sh1 ?_
  refine g_br2 rfl (t := 36) rfl (fun c2 => ?_) (fun c2 => ?_)
  · have c2 : (tI τ r0 2) ≤ x3 := of_decide_eq_true c2
    refine g_sk 1 (pc1 := 37) (st1 := [AI x2]) rfl ?_
    refine g_iret rfl rfl ?_
    exact (k1 c2)
  · have c2 : x3 < (tI τ r0 2) := Int.not_le.mp (of_decide_eq_false c2)
    refine g_sk 2 (pc1 := 15) (st1 := [AI 40, AI x3]) rfl ?_
    refine g_br2 rfl (t := 36) rfl (fun c3 => ?_) (fun c3 => ?_)
    · have c3 : 40 ≤ x3 := of_decide_eq_true c3
      refine g_sk 1 (pc1 := 37) (st1 := [AI x2]) rfl ?_
      refine g_iret rfl rfl ?_
      exact (k2 c2 c3)
    · have c3 : x3 < 40 := Int.not_le.mp (of_decide_eq_false c3)
      refine g_sk 3 (pc1 := 21) (st1 := [AP r1, AI x3, AR r0]) rfl ?_
      refine g_cv rfl rfl (by decide) rfl rfl (Nat.le_of_ble_eq_true rfl) (as2 := [AI x3, AP r1]) rfl sh1 rfl (by omega) (L0 := [vR r0, vI x3, vQ r1, none]) rfl ?_
      exact (k3 c2 c3)

set_option maxRecDepth 8192 in
theorem t2_24 {d : Nat} {τ : T2} {Q : RS → T2 → Prop} {x2 x3 y0 : Int} {r0 : Nat} {r1 : Option Nat} (k1 : y0 = 0 → G d 2 4 [vR r0, vQ r1, vI x2, vI (wr (x3 + 1))] [] τ Q) (k2 : ¬ y0 = 0 → G d 2 4 [vR r0, vQ r1, vI (wr (x2 + 1)), vI (wr (x3 + 1))] [] τ Q) : G d 2 24 [vR r0, vQ r1, vI x2, vI x3] [AI y0] τ Q := by
  refine g_br1 rfl (t := 30) rfl (fun c1 => ?_) (fun c1 => ?_)
  · have c1 : y0 = 0 := of_decide_eq_true c1
    refine g_sx 2 (pc1 := 4) (L1 := [vR r0, vQ r1, vI x2, vI (wr (x3 + 1))]) (st1 := []) rfl ?_
    exact (k1 c1)
  · have c1 : ¬ y0 = 0 := of_decide_eq_false c1
    refine g_sx 3 (pc1 := 4) (L1 := [vR r0, vQ r1, vI (wr (x2 + 1)), vI (wr (x3 + 1))]) (st1 := []) rfl ?_
    exact (k2 c1)

set_option maxRecDepth 8192 in
theorem t3_0 {d : Nat} {τ : T2} {Q : RS → T2 → Prop} {x1 : Int} {r0 r2 q2 n4 : Nat} (sh1 : tS τ r0 = (1, 2, 0)) (p3 : tP τ r0 1 = some q2) (sh5 : tS τ q2 = (2, 0, n4)) (b6 : (0 : Int) ≤ x1 ∧ x1 < (n4 : Int)) (sh7 : tS τ r2 = (1, 7, 0)) (k1 : (tI τ q2 x1.toNat) = (tI τ r2 1) → G d 3 17 [vR r0, vI x1, vR r2, vI 0] [] τ Q) (k2 : ¬ (tI τ q2 x1.toNat) = (tI τ r2 1) → Q (.inl (some (AI 0))) τ) : G d 3 0 [vR r0, vI x1, vR r2, none] [] τ Q := by
  refine g_sk 1 (pc1 := 1) (st1 := [AR r0]) rfl ?_
  refine g_gQ rfl (ci := 2) (k := 1) rfl sh1 p3 ?_
  refine g_sk 1 (pc1 := 5) (st1 := [AI x1, AR q2]) rfl ?_
  refine g_iald rfl sh5 (by decide) b6.1 b6.2 ?_
  refine g_sk 1 (pc1 := 7) (st1 := [AR r2, AI (tI τ q2 x1.toNat)]) rfl ?_
  refine g_gI rfl (ci := 7) (k := 1) rfl sh7 ?_
  refine g_br2 rfl (t := 15) rfl (fun c8 => ?_) (fun c8 => ?_)
  · have c8 : (tI τ q2 x1.toNat) = (tI τ r2 1) := of_decide_eq_true c8
    refine g_sx 2 (pc1 := 17) (L1 := [vR r0, vI x1, vR r2, vI 0]) (st1 := []) rfl ?_
    exact (k1 c8)
  · have c8 : ¬ (tI τ q2 x1.toNat) = (tI τ r2 1) := of_decide_eq_false c8
    refine g_sk 1 (pc1 := 14) (st1 := [AI 0]) rfl ?_
    refine g_zret rfl rfl (by decide) ?_
    exact (k2 c8)

set_option maxRecDepth 8192 in
theorem t3_17 {d : Nat} {τ : T2} {Q : RS → T2 → Prop} {x1 x3 : Int} {r0 r2 q4 n6 q11 n13 : Nat} (sh1 : tS τ r2 = (1, 7, 0)) (p5 : tP τ r2 0 = some q4) (sh7 : tS τ q4 = (2, 1, n6)) (b8 : x3 < (tI τ r2 1) → x3 < 12 → (0 : Int) ≤ x3 ∧ x3 < (n6 : Int)) (sh10 : tS τ r0 = (1, 2, 0)) (p12 : tP τ r0 0 = some q11) (sh14 : tS τ q11 = (2, 1, n13)) (b15 : x3 < (tI τ r2 1) → x3 < 12 → ¬ (tI τ q4 x3.toNat) = 63 → (0 : Int) ≤ (wr ((wr (x1 * 12)) + x3)) ∧ (wr ((wr (x1 * 12)) + x3)) < (n13 : Int)) (k1 : (tI τ r2 1) ≤ x3 → Q (.inl (some (AI 1))) τ) (k2 : x3 < (tI τ r2 1) → 12 ≤ x3 → Q (.inl (some (AI 1))) τ) (k3 : x3 < (tI τ r2 1) → x3 < 12 → (tI τ q4 x3.toNat) = 63 → G d 3 17 [vR r0, vI x1, vR r2, vI (wr (x3 + 1))] [] τ Q) (k4 : x3 < (tI τ r2 1) → x3 < 12 → ¬ (tI τ q4 x3.toNat) = 63 → (tI τ q4 x3.toNat) = (tI τ q11 (wr ((wr (x1 * 12)) + x3)).toNat) → G d 3 17 [vR r0, vI x1, vR r2, vI (wr (x3 + 1))] [] τ Q) (k5 : x3 < (tI τ r2 1) → x3 < 12 → ¬ (tI τ q4 x3.toNat) = 63 → ¬ (tI τ q4 x3.toNat) = (tI τ q11 (wr ((wr (x1 * 12)) + x3)).toNat) → Q (.inl (some (AI 0))) τ) : G d 3 17 [vR r0, vI x1, vR r2, vI x3] [] τ Q := by
  refine g_sk 2 (pc1 := 19) (st1 := [AR r2, AI x3]) rfl ?_
  refine g_gI rfl (ci := 7) (k := 1) rfl sh1 ?_
  refine g_br2 rfl (t := 70) rfl (fun c2 => ?_) (fun c2 => ?_)
  · have c2 : (tI τ r2 1) ≤ x3 := of_decide_eq_true c2
    refine g_sk 1 (pc1 := 71) (st1 := [AI 1]) rfl ?_
    refine g_zret rfl rfl (by decide) ?_
    exact (k1 c2)
  · have c2 : x3 < (tI τ r2 1) := Int.not_le.mp (of_decide_eq_false c2)
    refine g_sk 2 (pc1 := 28) (st1 := [AI 12, AI x3]) rfl ?_
    refine g_br2 rfl (t := 70) rfl (fun c3 => ?_) (fun c3 => ?_)
    · have c3 : 12 ≤ x3 := of_decide_eq_true c3
      refine g_sk 1 (pc1 := 71) (st1 := [AI 1]) rfl ?_
      refine g_zret rfl rfl (by decide) ?_
      exact (k2 c2 c3)
    · have c3 : x3 < 12 := Int.not_le.mp (of_decide_eq_false c3)
      refine g_sk 1 (pc1 := 32) (st1 := [AR r2]) rfl ?_
      refine g_gQ rfl (ci := 7) (k := 0) rfl sh1 p5 ?_
      refine g_sk 1 (pc1 := 36) (st1 := [AI x3, AR q4]) rfl ?_
      refine g_bald rfl sh7 (by decide) (b8 c2 c3).1 (b8 c2 c3).2 ?_
      refine g_sk 1 (pc1 := 39) (st1 := [AI 63, AI (tI τ q4 x3.toNat)]) rfl ?_
      refine g_br2 rfl (t := 64) rfl (fun c9 => ?_) (fun c9 => ?_)
      · have c9 : (tI τ q4 x3.toNat) = 63 := of_decide_eq_true c9
        refine g_sx 2 (pc1 := 17) (L1 := [vR r0, vI x1, vR r2, vI (wr (x3 + 1))]) (st1 := []) rfl ?_
        exact (k3 c2 c3 c9)
      · have c9 : ¬ (tI τ q4 x3.toNat) = 63 := of_decide_eq_false c9
        refine g_sk 1 (pc1 := 43) (st1 := [AR r2]) rfl ?_
        refine g_gQ rfl (ci := 7) (k := 0) rfl sh1 p5 ?_
        refine g_sk 1 (pc1 := 47) (st1 := [AI x3, AR q4]) rfl ?_
        refine g_bald rfl sh7 (by decide) (b8 c2 c3).1 (b8 c2 c3).2 ?_
        refine g_sk 1 (pc1 := 49) (st1 := [AR r0, AI (tI τ q4 x3.toNat)]) rfl ?_
        refine g_gQ rfl (ci := 2) (k := 0) rfl sh10 p12 ?_
        refine g_sk 5 (pc1 := 58) (st1 := [AI (wr ((wr (x1 * 12)) + x3)), AR q11, AI (tI τ q4 x3.toNat)]) rfl ?_
        refine g_bald rfl sh14 (by decide) (b15 c2 c3 c9).1 (b15 c2 c3 c9).2 ?_
        refine g_br2 rfl (t := 64) rfl (fun c16 => ?_) (fun c16 => ?_)
        · have c16 : (tI τ q4 x3.toNat) = (tI τ q11 (wr ((wr (x1 * 12)) + x3)).toNat) := of_decide_eq_true c16
          refine g_sx 2 (pc1 := 17) (L1 := [vR r0, vI x1, vR r2, vI (wr (x3 + 1))]) (st1 := []) rfl ?_
          exact (k4 c2 c3 c9 c16)
        · have c16 : ¬ (tI τ q4 x3.toNat) = (tI τ q11 (wr ((wr (x1 * 12)) + x3)).toNat) := of_decide_eq_false c16
          refine g_sk 1 (pc1 := 63) (st1 := [AI 0]) rfl ?_
          refine g_zret rfl rfl (by decide) ?_
          exact (k5 c2 c3 c9 c16)

set_option maxRecDepth 8192 in
theorem t4_0 {d : Nat} {τ : T2} {Q : RS → T2 → Prop} {r0 : Nat} {r1 r2 : Option Nat} (hd : 17 ≤ d) (sh1 : tS τ r0 = (1, 3, 0)) (k1 : Q (.inl none) (uP (uP τ r0 0 r1) r0 1 r2)) : G d 4 0 [vR r0, vQ r1, vQ r2] [] τ Q := by
  refine g_sk 1 (pc1 := 1) (st1 := [AR r0]) rfl ?_
  refine g_oin (na := 1) rfl rfl rfl hd ?_
  refine g_sk 2 (pc1 := 6) (st1 := [AP r1, AR r0]) rfl ?_
  refine g_putP rfl (ci := 3) (k := 0) rfl sh1 ?_
  refine g_sk 2 (pc1 := 11) (st1 := [AP r2, AR r0]) rfl ?_
  refine g_putP rfl (ci := 3) (k := 1) rfl sh1 ?_
  refine g_vret rfl rfl ?_
  exact k1

set_option maxRecDepth 8192 in
theorem t5_0 {d : Nat} {τ : T2} {Q : RS → T2 → Prop} {r0 : Option Nat} (hd : 1 ≤ d) (k1 : G (d - 1) 6 0 [vQ r0, vI 0, none, none, none] [] τ (KC d 5 2 5 [vQ r0] [] Q)) : G d 5 0 [vQ r0] [] τ Q := by
  refine g_sk 2 (pc1 := 2) (st1 := [AI 0, AP r0]) rfl ?_
  refine g_cs rfl rfl (by decide) rfl rfl (Nat.le_of_ble_eq_true rfl) rfl (by omega) (L0 := [vQ r0, vI 0, none, none, none]) rfl ?_
  exact k1

set_option maxRecDepth 8192 in
theorem t5_5 {d : Nat} {τ : T2} {Q : RS → T2 → Prop} {y0 : Int} {r0 : Nat} (hd : 1 ≤ d) (sh2 : tS τ r0 = (1, 9, 0)) (k1 : y0 = 0 → Q (.inl (some (AI 0))) τ) (k2 : ¬ y0 = 0 → G (d - 1) 75 0 [vR r0] [] τ (KC d 5 9 12 [none] [] Q)) : G d 5 5 [vR r0] [AI y0] τ Q := by
  refine g_br1 rfl (t := 19) rfl (fun c1 => ?_) (fun c1 => ?_)
  · have c1 : y0 = 0 := of_decide_eq_true c1
    refine g_sk 1 (pc1 := 20) (st1 := [AI 0]) rfl ?_
    refine g_zret rfl rfl (by decide) ?_
    exact (k1 c1)
  · have c1 : ¬ y0 = 0 := of_decide_eq_false c1
    refine g_sk 1 (pc1 := 9) (st1 := [AR r0]) rfl ?_
    refine G_fg (lw2_f _ lw2_nil) ?_
    refine g_cv rfl rfl (by decide) rfl rfl (Nat.le_of_ble_eq_true rfl) (as2 := []) rfl sh2 rfl (by omega) (L0 := [vR r0]) rfl ?_
    exact (k2 c1)

set_option maxRecDepth 8192 in
theorem t5_12 {d : Nat} {τ : T2} {Q : RS → T2 → Prop} {y0 : Int} (k1 : y0 = 0 → Q (.inl (some (AI 0))) τ) (k2 : ¬ y0 = 0 → Q (.inl (some (AI 1))) τ) : G d 5 12 [none] [AI y0] τ Q := by
  refine g_br1 rfl (t := 19) rfl (fun c1 => ?_) (fun c1 => ?_)
  · have c1 : y0 = 0 := of_decide_eq_true c1
    refine g_sk 1 (pc1 := 20) (st1 := [AI 0]) rfl ?_
    refine g_zret rfl rfl (by decide) ?_
    exact (k1 c1)
  · have c1 : ¬ y0 = 0 := of_decide_eq_false c1
    refine g_sk 2 (pc1 := 20) (st1 := [AI 1]) rfl ?_
    refine g_zret rfl rfl (by decide) ?_
    exact (k2 c1)

set_option maxRecDepth 8192 in
theorem t6_0 {d : Nat} {τ : T2} {Q : RS → T2 → Prop} {x1 : Int} {r0 : Nat} (hd : 1 ≤ d) (sh1 : tS τ r0 = (1, 9, 0)) (k1 : G (d - 1) 78 0 [vR r0, vI 4, vI (wr ((tI τ r0 10) + 3)), vI 0, none] [] τ (KC d 6 9 12 [vR r0, vI x1, none, none, none] [] Q)) : G d 6 0 [vR r0, vI x1, none, none, none] [] τ Q := by
  refine g_sk 3 (pc1 := 3) (st1 := [AR r0, AI 4, AR r0]) rfl ?_
  refine g_gI rfl (ci := 9) (k := 10) rfl sh1 ?_
  refine g_sk 3 (pc1 := 9) (st1 := [AI 0, AI (wr ((tI τ r0 10) + 3)), AI 4, AR r0]) rfl ?_
  refine g_cv rfl rfl (by decide) rfl rfl (Nat.le_of_ble_eq_true rfl) (as2 := [AI 4, AI (wr ((tI τ r0 10) + 3)), AI 0]) rfl sh1 rfl (by omega) (L0 := [vR r0, vI 4, vI (wr ((tI τ r0 10) + 3)), vI 0, none]) rfl ?_
  exact k1

set_option maxRecDepth 8192 in
theorem t6_12 {d : Nat} {τ : T2} {Q : RS → T2 → Prop} {x1 y0 : Int} {r0 : Option Nat} (hd : 1 ≤ d) (k1 : G (d - 1) 7 0 [vQ r0, vI x1, none] [] τ (KC d 6 15 18 [vQ r0, vI x1, vI y0, none, none] [] Q)) : G d 6 12 [vQ r0, vI x1, none, none, none] [AI y0] τ Q := by
  refine g_sx 3 (pc1 := 15) (L1 := [vQ r0, vI x1, vI y0, none, none]) (st1 := [AI x1, AP r0]) rfl ?_
  refine g_cs rfl rfl (by decide) rfl rfl (Nat.le_of_ble_eq_true rfl) rfl (by omega) (L0 := [vQ r0, vI x1, none]) rfl ?_
  exact k1

set_option maxRecDepth 8192 in
theorem t6_18 {d : Nat} {τ : T2} {Q : RS → T2 → Prop} {x1 x2 y0 : Int} {r0 : Option Nat} (k1 : ¬ y0 = 0 → G d 6 28 [vQ r0, vI x1, vI x2, vI (-1), vI 0] [] τ Q) (k2 : y0 = 0 → Q (.inl (some (AI 0))) τ) : G d 6 18 [vQ r0, vI x1, vI x2, none, none] [AI y0] τ Q := by
  refine g_br1 rfl (t := 23) rfl (fun c1 => ?_) (fun c1 => ?_)
  · have c1 : ¬ y0 = 0 := of_decide_eq_true c1
    refine g_sx 4 (pc1 := 28) (L1 := [vQ r0, vI x1, vI x2, vI (-1), vI 0]) (st1 := []) rfl ?_
    exact (k1 c1)
  · have c1 : y0 = 0 := Decidable.of_not_not (of_decide_eq_false c1)
    refine g_sk 1 (pc1 := 22) (st1 := [AI 0]) rfl ?_
    refine g_zret rfl rfl (by decide) ?_
    exact (k2 c1)

set_option maxRecDepth 8192 in
theorem t6_28 {d : Nat} {τ : T2} {Q : RS → T2 → Prop} {x1 x2 x3 x4 : Int} {r0 : Nat} (hd : 1 ≤ d) (sh2 : tS τ r0 = (1, 9, 0)) (k1 : 300 ≤ x4 → G (d - 1) 80 0 [vR r0, vI x3, none, none, none] [] τ (KC d 6 97 100 [none, none, none, none, none] [] Q)) (k2 : x4 < 300 → G (d - 1) 73 0 [vR r0, vI 47] [] τ (KC d 6 39 42 [vR r0, vI x1, vI x2, vI x3, vI x4] [] Q)) : G d 6 28 [vR r0, vI x1, vI x2, vI x3, vI x4] [] τ Q := by
  refine g_sk 2 (pc1 := 33) (st1 := [AI 300, AI x4]) rfl ?_
  refine g_br2 rfl (t := 95) rfl (fun c1 => ?_) (fun c1 => ?_)
  · have c1 : 300 ≤ x4 := of_decide_eq_true c1
    refine g_sk 2 (pc1 := 97) (st1 := [AI x3, AR r0]) rfl ?_
    refine G_fg (lw2_f _ (lw2_f _ (lw2_f _ (lw2_f _ (lw2_f _ lw2_nil))))) ?_
    refine g_cv rfl rfl (by decide) rfl rfl (Nat.le_of_ble_eq_true rfl) (as2 := [AI x3]) rfl sh2 rfl (by omega) (L0 := [vR r0, vI x3, none, none, none]) rfl ?_
    exact (k1 c1)
  · have c1 : x4 < 300 := Int.not_le.mp (of_decide_eq_false c1)
    refine g_sk 2 (pc1 := 39) (st1 := [AI 47, AR r0]) rfl ?_
    refine g_cv rfl rfl (by decide) rfl rfl (Nat.le_of_ble_eq_true rfl) (as2 := [AI 47]) rfl sh2 rfl (by omega) (L0 := [vR r0, vI 47]) rfl ?_
    exact (k2 c1)

set_option maxRecDepth 8192 in
theorem t6_42 {d : Nat} {τ : T2} {Q : RS → T2 → Prop} {x1 x2 x3 x4 y0 : Int} {r0 : Nat} (hd : 1 ≤ d) (sh2 : tS τ r0 = (1, 9, 0)) (k1 : y0 = 0 → G (d - 1) 80 0 [vR r0, vI x3, none, none, none] [] τ (KC d 6 97 100 [none, none, none, none, none] [] Q)) (k2 : ¬ y0 = 0 → G (d - 1) 78 0 [vR r0, vI 5, vI x3, vI 0, none] [] τ (KC d 6 49 52 [vR r0, vI x1, vI x2, none, vI x4] [] Q)) : G d 6 42 [vR r0, vI x1, vI x2, vI x3, vI x4] [AI y0] τ Q := by
  refine g_br1 rfl (t := 95) rfl (fun c1 => ?_) (fun c1 => ?_)
  · have c1 : y0 = 0 := of_decide_eq_true c1
    refine g_sk 2 (pc1 := 97) (st1 := [AI x3, AR r0]) rfl ?_
    refine G_fg (lw2_f _ (lw2_f _ (lw2_f _ (lw2_f _ (lw2_f _ lw2_nil))))) ?_
    refine g_cv rfl rfl (by decide) rfl rfl (Nat.le_of_ble_eq_true rfl) (as2 := [AI x3]) rfl sh2 rfl (by omega) (L0 := [vR r0, vI x3, none, none, none]) rfl ?_
    exact (k1 c1)
  · have c1 : ¬ y0 = 0 := of_decide_eq_false c1
    refine g_sk 4 (pc1 := 49) (st1 := [AI 0, AI x3, AI 5, AR r0]) rfl ?_
    refine G_fg (lw2_k _ (lw2_k _ (lw2_k _ (lw2_f _ (lw2_k _ lw2_nil))))) ?_
    refine g_cv rfl rfl (by decide) rfl rfl (Nat.le_of_ble_eq_true rfl) (as2 := [AI 5, AI x3, AI 0]) rfl sh2 rfl (by omega) (L0 := [vR r0, vI 5, vI x3, vI 0, none]) rfl ?_
    exact (k2 c1)

set_option maxRecDepth 8192 in
theorem t6_52 {d : Nat} {τ : T2} {Q : RS → T2 → Prop} {x1 x2 x4 y0 : Int} {r0 : Nat} (hd : 1 ≤ d) (sh1 : tS τ r0 = (1, 9, 0)) (k1 : G (d - 1) 79 0 [vR r0, vI x2, vI (tI τ r0 10)] [] τ (KC d 6 59 62 [vR r0, vI x1, none, vI y0, vI x4] [] Q)) : G d 6 52 [vR r0, vI x1, vI x2, none, vI x4] [AI y0] τ Q := by
  refine g_sx 4 (pc1 := 56) (L1 := [vR r0, vI x1, vI x2, vI y0, vI x4]) (st1 := [AR r0, AI x2, AR r0]) rfl ?_
  refine g_gI rfl (ci := 9) (k := 10) rfl sh1 ?_
  refine G_fg (lw2_k _ (lw2_k _ (lw2_f _ (lw2_k _ (lw2_k _ lw2_nil))))) ?_
  refine g_cv rfl rfl (by decide) rfl rfl (Nat.le_of_ble_eq_true rfl) (as2 := [AI x2, AI (tI τ r0 10)]) rfl sh1 rfl (by omega) (L0 := [vR r0, vI x2, vI (tI τ r0 10)]) rfl ?_
  exact k1

set_option maxRecDepth 8192 in
theorem t6_62 {d : Nat} {τ : T2} {Q : RS → T2 → Prop} {x1 x3 x4 : Int} {r0 : Nat} (hd : 1 ≤ d) (sh1 : tS τ r0 = (1, 9, 0)) (k1 : G (d - 1) 78 0 [vR r0, vI 4, vI (wr ((tI τ r0 10) + 3)), vI 0, none] [] τ (KC d 6 71 74 [vR r0, vI x1, none, vI x3, vI x4] [] Q)) : G d 6 62 [vR r0, vI x1, none, vI x3, vI x4] [] τ Q := by
  refine g_sk 3 (pc1 := 65) (st1 := [AR r0, AI 4, AR r0]) rfl ?_
  refine g_gI rfl (ci := 9) (k := 10) rfl sh1 ?_
  refine g_sk 3 (pc1 := 71) (st1 := [AI 0, AI (wr ((tI τ r0 10) + 3)), AI 4, AR r0]) rfl ?_
  refine g_cv rfl rfl (by decide) rfl rfl (Nat.le_of_ble_eq_true rfl) (as2 := [AI 4, AI (wr ((tI τ r0 10) + 3)), AI 0]) rfl sh1 rfl (by omega) (L0 := [vR r0, vI 4, vI (wr ((tI τ r0 10) + 3)), vI 0, none]) rfl ?_
  exact k1

set_option maxRecDepth 8192 in
theorem t6_74 {d : Nat} {τ : T2} {Q : RS → T2 → Prop} {x1 x3 x4 y0 : Int} {r0 : Nat} (hd : 1 ≤ d) (sh1 : tS τ r0 = (1, 9, 0)) (k1 : G (d - 1) 68 0 [vR r0, none, none, none] [] τ (KC d 6 76 79 [vR r0, vI x1, vI y0, vI x3, vI x4] [] Q)) : G d 6 74 [vR r0, vI x1, none, vI x3, vI x4] [AI y0] τ Q := by
  refine g_sx 2 (pc1 := 76) (L1 := [vR r0, vI x1, vI y0, vI x3, vI x4]) (st1 := [AR r0]) rfl ?_
  refine g_cv rfl rfl (by decide) rfl rfl (Nat.le_of_ble_eq_true rfl) (as2 := []) rfl sh1 rfl (by omega) (L0 := [vR r0, none, none, none]) rfl ?_
  exact k1

set_option maxRecDepth 8192 in
theorem t6_79 {d : Nat} {τ : T2} {Q : RS → T2 → Prop} {x1 x2 x3 x4 : Int} {r0 : Option Nat} (hd : 1 ≤ d) (k1 : G (d - 1) 7 0 [vQ r0, vI x1, none] [] τ (KC d 6 81 84 [vQ r0, vI x1, vI x2, vI x3, vI x4] [] Q)) : G d 6 79 [vQ r0, vI x1, vI x2, vI x3, vI x4] [] τ Q := by
  refine g_sk 2 (pc1 := 81) (st1 := [AI x1, AP r0]) rfl ?_
  refine g_cs rfl rfl (by decide) rfl rfl (Nat.le_of_ble_eq_true rfl) rfl (by omega) (L0 := [vQ r0, vI x1, none]) rfl ?_
  exact k1

set_option maxRecDepth 8192 in
theorem t6_84 {d : Nat} {τ : T2} {Q : RS → T2 → Prop} {x1 x2 x3 x4 y0 : Int} {r0 : Option Nat} (k1 : ¬ y0 = 0 → G d 6 28 [vQ r0, vI x1, vI x2, vI x3, vI (wr (x4 + 1))] [] τ Q) (k2 : y0 = 0 → Q (.inl (some (AI 0))) τ) : G d 6 84 [vQ r0, vI x1, vI x2, vI x3, vI x4] [AI y0] τ Q := by
  refine g_br1 rfl (t := 89) rfl (fun c1 => ?_) (fun c1 => ?_)
  · have c1 : ¬ y0 = 0 := of_decide_eq_true c1
    refine g_sx 2 (pc1 := 28) (L1 := [vQ r0, vI x1, vI x2, vI x3, vI (wr (x4 + 1))]) (st1 := []) rfl ?_
    exact (k1 c1)
  · have c1 : y0 = 0 := Decidable.of_not_not (of_decide_eq_false c1)
    refine g_sk 1 (pc1 := 88) (st1 := [AI 0]) rfl ?_
    refine g_zret rfl rfl (by decide) ?_
    exact (k2 c1)

set_option maxRecDepth 8192 in
theorem t6_100 {d : Nat} {τ : T2} {Q : RS → T2 → Prop}  (k1 : Q (.inl (some (AI 1))) τ) : G d 6 100 [none, none, none, none, none] [] τ Q := by
  refine g_sk 1 (pc1 := 101) (st1 := [AI 1]) rfl ?_
  refine g_zret rfl rfl (by decide) ?_
  exact k1

set_option maxRecDepth 8192 in
theorem t7_0 {d : Nat} {τ : T2} {Q : RS → T2 → Prop} {x1 : Int} {r0 : Option Nat} (hd : 1 ≤ d) (k1 : G (d - 1) 9 0 [vQ r0, vI x1] [] τ (KC d 7 2 5 [vQ r0, vI x1, none] [] Q)) : G d 7 0 [vQ r0, vI x1, none] [] τ Q := by
  refine g_sk 2 (pc1 := 2) (st1 := [AI x1, AP r0]) rfl ?_
  refine g_cs rfl rfl (by decide) rfl rfl (Nat.le_of_ble_eq_true rfl) rfl (by omega) (L0 := [vQ r0, vI x1]) rfl ?_
  exact k1

set_option maxRecDepth 8192 in
theorem t7_5 {d : Nat} {τ : T2} {Q : RS → T2 → Prop} {x1 y0 : Int} {r0 : Option Nat} (k1 : ¬ y0 = 0 → G d 7 12 [vQ r0, vI x1, vI 0] [] τ Q) (k2 : y0 = 0 → Q (.inl (some (AI 0))) τ) : G d 7 5 [vQ r0, vI x1, none] [AI y0] τ Q := by
  refine g_br1 rfl (t := 10) rfl (fun c1 => ?_) (fun c1 => ?_)
  · have c1 : ¬ y0 = 0 := of_decide_eq_true c1
    refine g_sx 2 (pc1 := 12) (L1 := [vQ r0, vI x1, vI 0]) (st1 := []) rfl ?_
    exact (k1 c1)
  · have c1 : y0 = 0 := Decidable.of_not_not (of_decide_eq_false c1)
    refine g_sk 1 (pc1 := 9) (st1 := [AI 0]) rfl ?_
    refine g_zret rfl rfl (by decide) ?_
    exact (k2 c1)

set_option maxRecDepth 8192 in
theorem t7_12 {d : Nat} {τ : T2} {Q : RS → T2 → Prop} {x1 x2 : Int} {r0 : Option Nat} (hd : 1 ≤ d) (k1 : 300 ≤ x2 → Q (.inl (some (AI 1))) τ) (k2 : x2 < 300 → G (d - 1) 8 0 [vQ r0] [] τ (KC d 7 20 23 [vQ r0, vI x1, vI x2] [] Q)) : G d 7 12 [vQ r0, vI x1, vI x2] [] τ Q := by
  refine g_sk 2 (pc1 := 16) (st1 := [AI 300, AI x2]) rfl ?_
  refine g_br2 rfl (t := 42) rfl (fun c1 => ?_) (fun c1 => ?_)
  · have c1 : 300 ≤ x2 := of_decide_eq_true c1
    refine g_sk 1 (pc1 := 43) (st1 := [AI 1]) rfl ?_
    refine g_zret rfl rfl (by decide) ?_
    exact (k1 c1)
  · have c1 : x2 < 300 := Int.not_le.mp (of_decide_eq_false c1)
    refine g_sk 1 (pc1 := 20) (st1 := [AP r0]) rfl ?_
    refine g_cs rfl rfl (by decide) rfl rfl (Nat.le_of_ble_eq_true rfl) rfl (by omega) (L0 := [vQ r0]) rfl ?_
    exact (k2 c1)

set_option maxRecDepth 8192 in
theorem t7_23 {d : Nat} {τ : T2} {Q : RS → T2 → Prop} {x1 x2 y0 : Int} {r0 : Option Nat} (hd : 1 ≤ d) (k1 : y0 = 0 → Q (.inl (some (AI 1))) τ) (k2 : ¬ y0 = 0 → G (d - 1) 9 0 [vQ r0, vI x1] [] τ (KC d 7 28 31 [vQ r0, vI x1, vI x2] [] Q)) : G d 7 23 [vQ r0, vI x1, vI x2] [AI y0] τ Q := by
  refine g_br1 rfl (t := 42) rfl (fun c1 => ?_) (fun c1 => ?_)
  · have c1 : y0 = 0 := of_decide_eq_true c1
    refine g_sk 1 (pc1 := 43) (st1 := [AI 1]) rfl ?_
    refine g_zret rfl rfl (by decide) ?_
    exact (k1 c1)
  · have c1 : ¬ y0 = 0 := of_decide_eq_false c1
    refine g_sk 2 (pc1 := 28) (st1 := [AI x1, AP r0]) rfl ?_
    refine g_cs rfl rfl (by decide) rfl rfl (Nat.le_of_ble_eq_true rfl) rfl (by omega) (L0 := [vQ r0, vI x1]) rfl ?_
    exact (k2 c1)

set_option maxRecDepth 8192 in
theorem t7_31 {d : Nat} {τ : T2} {Q : RS → T2 → Prop} {x1 x2 y0 : Int} {r0 : Option Nat} (k1 : ¬ y0 = 0 → G d 7 12 [vQ r0, vI x1, vI (wr (x2 + 1))] [] τ Q) (k2 : y0 = 0 → Q (.inl (some (AI 0))) τ) : G d 7 31 [vQ r0, vI x1, vI x2] [AI y0] τ Q := by
  refine g_br1 rfl (t := 36) rfl (fun c1 => ?_) (fun c1 => ?_)
  · have c1 : ¬ y0 = 0 := of_decide_eq_true c1
    refine g_sx 2 (pc1 := 12) (L1 := [vQ r0, vI x1, vI (wr (x2 + 1))]) (st1 := []) rfl ?_
    exact (k1 c1)
  · have c1 : y0 = 0 := Decidable.of_not_not (of_decide_eq_false c1)
    refine g_sk 1 (pc1 := 35) (st1 := [AI 0]) rfl ?_
    refine g_zret rfl rfl (by decide) ?_
    exact (k2 c1)

set_option maxRecDepth 8192 in
theorem t8_0 {d : Nat} {τ : T2} {Q : RS → T2 → Prop} {r0 : Nat} (hd : 1 ≤ d) (sh1 : tS τ r0 = (1, 9, 0)) (k1 : G (d - 1) 70 0 [vR r0] [] τ (KC d 8 1 4 [vR r0] [] Q)) : G d 8 0 [vR r0] [] τ Q := by
  refine g_sk 1 (pc1 := 1) (st1 := [AR r0]) rfl ?_
  refine g_cv rfl rfl (by decide) rfl rfl (Nat.le_of_ble_eq_true rfl) (as2 := []) rfl sh1 rfl (by omega) (L0 := [vR r0]) rfl ?_
  exact k1

set_option maxRecDepth 8192 in
theorem t8_4 {d : Nat} {τ : T2} {Q : RS → T2 → Prop} {y0 : Int} {r0 : Nat} (hd : 1 ≤ d) (sh2 : tS τ r0 = (1, 9, 0)) (k1 : ¬ y0 = 0 → Q (.inl (some (AI 1))) τ) (k2 : y0 = 0 → G (d - 1) 73 0 [vR r0, vI 40] [] τ (KC d 8 10 13 [vR r0] [] Q)) : G d 8 4 [vR r0] [AI y0] τ Q := by
  refine g_br1 rfl (t := 25) rfl (fun c1 => ?_) (fun c1 => ?_)
  · have c1 : ¬ y0 = 0 := of_decide_eq_true c1
    refine g_sk 2 (pc1 := 30) (st1 := [AI 1]) rfl ?_
    refine g_zret rfl rfl (by decide) ?_
    exact (k1 c1)
  · have c1 : y0 = 0 := Decidable.of_not_not (of_decide_eq_false c1)
    refine g_sk 2 (pc1 := 10) (st1 := [AI 40, AR r0]) rfl ?_
    refine g_cv rfl rfl (by decide) rfl rfl (Nat.le_of_ble_eq_true rfl) (as2 := [AI 40]) rfl sh2 rfl (by omega) (L0 := [vR r0, vI 40]) rfl ?_
    exact (k2 c1)

set_option maxRecDepth 8192 in
theorem t8_13 {d : Nat} {τ : T2} {Q : RS → T2 → Prop} {y0 : Int} {r0 : Nat} (hd : 1 ≤ d) (sh2 : tS τ r0 = (1, 9, 0)) (k1 : ¬ y0 = 0 → Q (.inl (some (AI 1))) τ) (k2 : y0 = 0 → G (d - 1) 73 0 [vR r0, vI 91] [] τ (KC d 8 19 22 [none] [] Q)) : G d 8 13 [vR r0] [AI y0] τ Q := by
  refine g_br1 rfl (t := 25) rfl (fun c1 => ?_) (fun c1 => ?_)
  · have c1 : ¬ y0 = 0 := of_decide_eq_true c1
    refine g_sk 2 (pc1 := 30) (st1 := [AI 1]) rfl ?_
    refine g_zret rfl rfl (by decide) ?_
    exact (k1 c1)
  · have c1 : y0 = 0 := Decidable.of_not_not (of_decide_eq_false c1)
    refine g_sk 2 (pc1 := 19) (st1 := [AI 91, AR r0]) rfl ?_
    refine G_fg (lw2_f _ lw2_nil) ?_
    refine g_cv rfl rfl (by decide) rfl rfl (Nat.le_of_ble_eq_true rfl) (as2 := [AI 91]) rfl sh2 rfl (by omega) (L0 := [vR r0, vI 91]) rfl ?_
    exact (k2 c1)

set_option maxRecDepth 8192 in
theorem t8_22 {d : Nat} {τ : T2} {Q : RS → T2 → Prop} {y0 : Int} (k1 : y0 = 0 → Q (.inl (some (AI 0))) τ) (k2 : ¬ y0 = 0 → Q (.inl (some (AI 1))) τ) : G d 8 22 [none] [AI y0] τ Q := by
  refine g_br1 rfl (t := 29) rfl (fun c1 => ?_) (fun c1 => ?_)
  · have c1 : y0 = 0 := of_decide_eq_true c1
    refine g_sk 1 (pc1 := 30) (st1 := [AI 0]) rfl ?_
    refine g_zret rfl rfl (by decide) ?_
    exact (k1 c1)
  · have c1 : ¬ y0 = 0 := of_decide_eq_false c1
    refine g_sk 2 (pc1 := 30) (st1 := [AI 1]) rfl ?_
    refine g_zret rfl rfl (by decide) ?_
    exact (k2 c1)

set_option maxRecDepth 8192 in
theorem t9_0 {d : Nat} {τ : T2} {Q : RS → T2 → Prop} {x1 : Int} {r0 : Nat} (hd : 1 ≤ d) (sh1 : tS τ r0 = (1, 9, 0)) (k1 : G (d - 1) 73 0 [vR r0, vI 40] [] τ (KC d 9 3 6 [vR r0, vI x1] [] Q)) : G d 9 0 [vR r0, vI x1] [] τ Q := by
  refine g_sk 2 (pc1 := 3) (st1 := [AI 40, AR r0]) rfl ?_
  refine g_cv rfl rfl (by decide) rfl rfl (Nat.le_of_ble_eq_true rfl) (as2 := [AI 40]) rfl sh1 rfl (by omega) (L0 := [vR r0, vI 40]) rfl ?_
  exact k1

set_option maxRecDepth 8192 in
theorem t9_6 {d : Nat} {τ : T2} {Q : RS → T2 → Prop} {x1 y0 : Int} {r0 : Nat} (hd : 1 ≤ d) (sh2 : tS τ r0 = (1, 9, 0)) (k1 : y0 = 0 → G (d - 1) 73 0 [vR r0, vI 91] [] τ (KC d 9 18 21 [vR r0, none] [] Q)) (k2 : ¬ y0 = 0 → G (d - 1) 10 0 [vR r0, vI x1, none] [] τ (KC d 9 11 14 [none, none] [] Q)) : G d 9 6 [vR r0, vI x1] [AI y0] τ Q := by
  refine g_br1 rfl (t := 15) rfl (fun c1 => ?_) (fun c1 => ?_)
  · have c1 : y0 = 0 := of_decide_eq_true c1
    refine g_sk 2 (pc1 := 18) (st1 := [AI 91, AR r0]) rfl ?_
    refine G_fg (lw2_k _ (lw2_f _ lw2_nil)) ?_
    refine g_cv rfl rfl (by decide) rfl rfl (Nat.le_of_ble_eq_true rfl) (as2 := [AI 91]) rfl sh2 rfl (by omega) (L0 := [vR r0, vI 91]) rfl ?_
    exact (k1 c1)
  · have c1 : ¬ y0 = 0 := of_decide_eq_false c1
    refine g_sk 2 (pc1 := 11) (st1 := [AI x1, AR r0]) rfl ?_
    refine G_fg (lw2_f _ (lw2_f _ lw2_nil)) ?_
    refine g_cs rfl rfl (by decide) rfl rfl (Nat.le_of_ble_eq_true rfl) rfl (by omega) (L0 := [vR r0, vI x1, none]) rfl ?_
    exact (k2 c1)

set_option maxRecDepth 8192 in
theorem t9_14 {d : Nat} {τ : T2} {Q : RS → T2 → Prop} {y0 : Int} (p1 : y0 = 0 ∨ y0 = 1) (k1 : Q (.inl (some (AI y0))) τ) : G d 9 14 [none, none] [AI y0] τ Q := by
  refine g_zret rfl rfl p1 ?_
  exact k1

set_option maxRecDepth 8192 in
theorem t9_21 {d : Nat} {τ : T2} {Q : RS → T2 → Prop} {y0 : Int} {r0 : Option Nat} (hd : 1 ≤ d) (k1 : y0 = 0 → G (d - 1) 11 0 [vQ r0, none, none, none] [] τ (KC d 9 32 35 [none, none] [] Q)) (k2 : ¬ y0 = 0 → G (d - 1) 12 0 [vQ r0, none, none] [] τ (KC d 9 25 28 [none, none] [] Q)) : G d 9 21 [vQ r0, none] [AI y0] τ Q := by
  refine g_br1 rfl (t := 31) rfl (fun c1 => ?_) (fun c1 => ?_)
  · have c1 : y0 = 0 := of_decide_eq_true c1
    refine g_sk 1 (pc1 := 32) (st1 := [AP r0]) rfl ?_
    refine G_fg (lw2_f _ (lw2_k _ lw2_nil)) ?_
    refine g_cs rfl rfl (by decide) rfl rfl (Nat.le_of_ble_eq_true rfl) rfl (by omega) (L0 := [vQ r0, none, none, none]) rfl ?_
    exact (k1 c1)
  · have c1 : ¬ y0 = 0 := of_decide_eq_false c1
    refine g_sk 1 (pc1 := 25) (st1 := [AP r0]) rfl ?_
    refine G_fg (lw2_f _ (lw2_k _ lw2_nil)) ?_
    refine g_cs rfl rfl (by decide) rfl rfl (Nat.le_of_ble_eq_true rfl) rfl (by omega) (L0 := [vQ r0, none, none]) rfl ?_
    exact (k2 c1)

set_option maxRecDepth 8192 in
theorem t9_28 {d : Nat} {τ : T2} {Q : RS → T2 → Prop} {y0 : Int} (p1 : y0 = 0 ∨ y0 = 1) (k1 : Q (.inl (some (AI y0))) τ) : G d 9 28 [none, none] [AI y0] τ Q := by
  refine g_sk 1 (pc1 := 35) (st1 := [AI y0]) rfl ?_
  refine g_zret rfl rfl p1 ?_
  exact k1

set_option maxRecDepth 8192 in
theorem t9_35 {d : Nat} {τ : T2} {Q : RS → T2 → Prop} {y0 : Int} (p1 : y0 = 0 ∨ y0 = 1) (k1 : Q (.inl (some (AI y0))) τ) : G d 9 35 [none, none] [AI y0] τ Q := by
  refine g_zret rfl rfl p1 ?_
  exact k1

set_option maxRecDepth 8192 in
theorem t10_0 {d : Nat} {τ : T2} {Q : RS → T2 → Prop} {x1 : Int} {r0 : Nat} (hd : 1 ≤ d) (sh2 : tS τ r0 = (1, 9, 0)) (k1 : x1 < 8 → G (d - 1) 68 0 [vR r0, none, none, none] [] τ (KC d 10 13 16 [vR r0, vI x1, none] [] Q)) (k2 : 8 ≤ x1 → G (d - 1) 76 0 [vR r0, vI 4] [] τ (KC d 10 8 11 [none, none, none] [] Q)) : G d 10 0 [vR r0, vI x1, none] [] τ Q := by
  refine g_sk 2 (pc1 := 3) (st1 := [AI 8, AI x1]) rfl ?_
  refine g_br2 rfl (t := 12) rfl (fun c1 => ?_) (fun c1 => ?_)
  · have c1 : x1 < 8 := of_decide_eq_true c1
    refine g_sk 1 (pc1 := 13) (st1 := [AR r0]) rfl ?_
    refine g_cv rfl rfl (by decide) rfl rfl (Nat.le_of_ble_eq_true rfl) (as2 := []) rfl sh2 rfl (by omega) (L0 := [vR r0, none, none, none]) rfl ?_
    exact (k1 c1)
  · have c1 : 8 ≤ x1 := Int.not_lt.mp (of_decide_eq_false c1)
    refine g_sk 2 (pc1 := 8) (st1 := [AI 4, AR r0]) rfl ?_
    refine G_fg (lw2_f _ (lw2_f _ (lw2_k _ lw2_nil))) ?_
    refine g_cv rfl rfl (by decide) rfl rfl (Nat.le_of_ble_eq_true rfl) (as2 := [AI 4]) rfl sh2 rfl (by omega) (L0 := [vR r0, vI 4]) rfl ?_
    exact (k2 c1)

set_option maxRecDepth 8192 in
theorem t10_11 {d : Nat} {τ : T2} {Q : RS → T2 → Prop} {y0 : Int} (p1 : y0 = 0 ∨ y0 = 1) (k1 : Q (.inl (some (AI y0))) τ) : G d 10 11 [none, none, none] [AI y0] τ Q := by
  refine g_zret rfl rfl p1 ?_
  exact k1

set_option maxRecDepth 8192 in
theorem t10_16 {d : Nat} {τ : T2} {Q : RS → T2 → Prop} {x1 : Int} {r0 : Nat} (hd : 1 ≤ d) (sh1 : tS τ r0 = (1, 9, 0)) (k1 : G (d - 1) 78 0 [vR r0, vI 4, vI (wr ((tI τ r0 10) + 3)), vI 0, none] [] τ (KC d 10 25 28 [vR r0, vI x1, none] [] Q)) : G d 10 16 [vR r0, vI x1, none] [] τ Q := by
  refine g_sk 3 (pc1 := 19) (st1 := [AR r0, AI 4, AR r0]) rfl ?_
  refine g_gI rfl (ci := 9) (k := 10) rfl sh1 ?_
  refine g_sk 3 (pc1 := 25) (st1 := [AI 0, AI (wr ((tI τ r0 10) + 3)), AI 4, AR r0]) rfl ?_
  refine g_cv rfl rfl (by decide) rfl rfl (Nat.le_of_ble_eq_true rfl) (as2 := [AI 4, AI (wr ((tI τ r0 10) + 3)), AI 0]) rfl sh1 rfl (by omega) (L0 := [vR r0, vI 4, vI (wr ((tI τ r0 10) + 3)), vI 0, none]) rfl ?_
  exact k1

set_option maxRecDepth 8192 in
theorem t10_28 {d : Nat} {τ : T2} {Q : RS → T2 → Prop} {x1 y0 : Int} {r0 : Option Nat} (hd : 1 ≤ d) (k1 : G (d - 1) 6 0 [vQ r0, vI (wr (x1 + 1)), none, none, none] [] τ (KC d 10 33 36 [vQ r0, none, vI y0] [] Q)) : G d 10 28 [vQ r0, vI x1, none] [AI y0] τ Q := by
  refine g_sx 5 (pc1 := 33) (L1 := [vQ r0, vI x1, vI y0]) (st1 := [AI (wr (x1 + 1)), AP r0]) rfl ?_
  refine G_fg (lw2_k _ (lw2_f _ (lw2_k _ lw2_nil))) ?_
  refine g_cs rfl rfl (by decide) rfl rfl (Nat.le_of_ble_eq_true rfl) rfl (by omega) (L0 := [vQ r0, vI (wr (x1 + 1)), none, none, none]) rfl ?_
  exact k1

set_option maxRecDepth 8192 in
theorem t10_36 {d : Nat} {τ : T2} {Q : RS → T2 → Prop} {x2 y0 : Int} {r0 : Nat} (hd : 1 ≤ d) (sh2 : tS τ r0 = (1, 9, 0)) (k1 : ¬ y0 = 0 → G (d - 1) 73 0 [vR r0, vI 41] [] τ (KC d 10 44 47 [vR r0, none, vI x2] [] Q)) (k2 : y0 = 0 → Q (.inl (some (AI 0))) τ) : G d 10 36 [vR r0, none, vI x2] [AI y0] τ Q := by
  refine g_br1 rfl (t := 41) rfl (fun c1 => ?_) (fun c1 => ?_)
  · have c1 : ¬ y0 = 0 := of_decide_eq_true c1
    refine g_sk 2 (pc1 := 44) (st1 := [AI 41, AR r0]) rfl ?_
    refine g_cv rfl rfl (by decide) rfl rfl (Nat.le_of_ble_eq_true rfl) (as2 := [AI 41]) rfl sh2 rfl (by omega) (L0 := [vR r0, vI 41]) rfl ?_
    exact (k1 c1)
  · have c1 : y0 = 0 := Decidable.of_not_not (of_decide_eq_false c1)
    refine g_sk 1 (pc1 := 40) (st1 := [AI 0]) rfl ?_
    refine g_zret rfl rfl (by decide) ?_
    exact (k2 c1)

set_option maxRecDepth 8192 in
theorem t10_47 {d : Nat} {τ : T2} {Q : RS → T2 → Prop} {x2 y0 : Int} {r0 : Nat} (hd : 1 ≤ d) (sh2 : tS τ r0 = (1, 9, 0)) (k1 : ¬ y0 = 0 → G (d - 1) 68 0 [vR r0, none, none, none] [] τ (KC d 10 57 60 [vR r0, none, vI x2] [] Q)) (k2 : y0 = 0 → G (d - 1) 76 0 [vR r0, vI 1] [] τ (KC d 10 52 55 [none, none, none] [] Q)) : G d 10 47 [vR r0, none, vI x2] [AI y0] τ Q := by
  refine g_br1 rfl (t := 56) rfl (fun c1 => ?_) (fun c1 => ?_)
  · have c1 : ¬ y0 = 0 := of_decide_eq_true c1
    refine g_sk 1 (pc1 := 57) (st1 := [AR r0]) rfl ?_
    refine g_cv rfl rfl (by decide) rfl rfl (Nat.le_of_ble_eq_true rfl) (as2 := []) rfl sh2 rfl (by omega) (L0 := [vR r0, none, none, none]) rfl ?_
    exact (k1 c1)
  · have c1 : y0 = 0 := Decidable.of_not_not (of_decide_eq_false c1)
    refine g_sk 2 (pc1 := 52) (st1 := [AI 1, AR r0]) rfl ?_
    refine G_fg (lw2_f _ (lw2_k _ (lw2_f _ lw2_nil))) ?_
    refine g_cv rfl rfl (by decide) rfl rfl (Nat.le_of_ble_eq_true rfl) (as2 := [AI 1]) rfl sh2 rfl (by omega) (L0 := [vR r0, vI 1]) rfl ?_
    exact (k2 c1)

set_option maxRecDepth 8192 in
theorem t10_55 {d : Nat} {τ : T2} {Q : RS → T2 → Prop} {y0 : Int} (p1 : y0 = 0 ∨ y0 = 1) (k1 : Q (.inl (some (AI y0))) τ) : G d 10 55 [none, none, none] [AI y0] τ Q := by
  refine g_zret rfl rfl p1 ?_
  exact k1

set_option maxRecDepth 8192 in
theorem t10_60 {d : Nat} {τ : T2} {Q : RS → T2 → Prop} {x2 : Int} {r0 : Nat} (hd : 1 ≤ d) (sh1 : tS τ r0 = (1, 9, 0)) (k1 : G (d - 1) 73 0 [vR r0, vI 63] [] τ (KC d 10 63 66 [vR r0, none, vI x2] [] Q)) : G d 10 60 [vR r0, none, vI x2] [] τ Q := by
  refine g_sk 2 (pc1 := 63) (st1 := [AI 63, AR r0]) rfl ?_
  refine g_cv rfl rfl (by decide) rfl rfl (Nat.le_of_ble_eq_true rfl) (as2 := [AI 63]) rfl sh1 rfl (by omega) (L0 := [vR r0, vI 63]) rfl ?_
  exact k1

set_option maxRecDepth 8192 in
theorem t10_66 {d : Nat} {τ : T2} {Q : RS → T2 → Prop} {x2 y0 : Int} {r0 : Nat} (hd : 1 ≤ d) (sh2 : tS τ r0 = (1, 9, 0)) (k1 : y0 = 0 → Q (.inl (some (AI 1))) τ) (k2 : ¬ y0 = 0 → G (d - 1) 79 0 [vR r0, vI x2, vI (tI τ r0 10)] [] τ (KC d 10 75 78 [vR r0, none, none] [] Q)) : G d 10 66 [vR r0, none, vI x2] [AI y0] τ Q := by
  refine g_br1 rfl (t := 82) rfl (fun c1 => ?_) (fun c1 => ?_)
  · have c1 : y0 = 0 := of_decide_eq_true c1
    refine g_sk 1 (pc1 := 83) (st1 := [AI 1]) rfl ?_
    refine g_zret rfl rfl (by decide) ?_
    exact (k1 c1)
  · have c1 : ¬ y0 = 0 := of_decide_eq_false c1
    refine g_sk 3 (pc1 := 72) (st1 := [AR r0, AI x2, AR r0]) rfl ?_
    refine g_gI rfl (ci := 9) (k := 10) rfl sh2 ?_
    refine G_fg (lw2_k _ (lw2_k _ (lw2_f _ lw2_nil))) ?_
    refine g_cv rfl rfl (by decide) rfl rfl (Nat.le_of_ble_eq_true rfl) (as2 := [AI x2, AI (tI τ r0 10)]) rfl sh2 rfl (by omega) (L0 := [vR r0, vI x2, vI (tI τ r0 10)]) rfl ?_
    exact (k2 c1)

set_option maxRecDepth 8192 in
theorem t10_78 {d : Nat} {τ : T2} {Q : RS → T2 → Prop} {r0 : Nat} (hd : 1 ≤ d) (sh1 : tS τ r0 = (1, 9, 0)) (k1 : G (d - 1) 68 0 [vR r0, none, none, none] [] τ (KC d 10 79 82 [none, none, none] [] Q)) : G d 10 78 [vR r0, none, none] [] τ Q := by
  refine g_sk 1 (pc1 := 79) (st1 := [AR r0]) rfl ?_
  refine G_fg (lw2_f _ (lw2_k _ (lw2_k _ lw2_nil))) ?_
  refine g_cv rfl rfl (by decide) rfl rfl (Nat.le_of_ble_eq_true rfl) (as2 := []) rfl sh1 rfl (by omega) (L0 := [vR r0, none, none, none]) rfl ?_
  exact k1

set_option maxRecDepth 8192 in
theorem t10_82 {d : Nat} {τ : T2} {Q : RS → T2 → Prop}  (k1 : Q (.inl (some (AI 1))) τ) : G d 10 82 [none, none, none] [] τ Q := by
  refine g_sk 1 (pc1 := 83) (st1 := [AI 1]) rfl ?_
  refine g_zret rfl rfl (by decide) ?_
  exact k1

set_option maxRecDepth 8192 in
theorem t11_0 {d : Nat} {τ : T2} {Q : RS → T2 → Prop} {r0 : Nat} (hd : 1 ≤ d) (sh1 : tS τ r0 = (1, 9, 0)) (k1 : G (d - 1) 70 0 [vR r0] [] τ (KC d 11 1 4 [vR r0, none, none, none] [] Q)) : G d 11 0 [vR r0, none, none, none] [] τ Q := by
  refine g_sk 1 (pc1 := 1) (st1 := [AR r0]) rfl ?_
  refine g_cv rfl rfl (by decide) rfl rfl (Nat.le_of_ble_eq_true rfl) (as2 := []) rfl sh1 rfl (by omega) (L0 := [vR r0]) rfl ?_
  exact k1

set_option maxRecDepth 8192 in
theorem t11_4 {d : Nat} {τ : T2} {Q : RS → T2 → Prop} {y0 : Int} {r0 : Nat} (hd : 1 ≤ d) (sh2 : tS τ r0 = (1, 9, 0)) (k1 : ¬ y0 = 0 → G (d - 1) 77 0 [vR r0, vI 40] [] τ (KC d 11 16 19 [vR r0, none, none, none] [] Q)) (k2 : y0 = 0 → G (d - 1) 76 0 [vR r0, vI 1] [] τ (KC d 11 9 12 [none, none, none, none] [] Q)) : G d 11 4 [vR r0, none, none, none] [AI y0] τ Q := by
  refine g_br1 rfl (t := 13) rfl (fun c1 => ?_) (fun c1 => ?_)
  · have c1 : ¬ y0 = 0 := of_decide_eq_true c1
    refine g_sk 2 (pc1 := 16) (st1 := [AI 40, AR r0]) rfl ?_
    refine g_cv rfl rfl (by decide) rfl rfl (Nat.le_of_ble_eq_true rfl) (as2 := [AI 40]) rfl sh2 rfl (by omega) (L0 := [vR r0, vI 40]) rfl ?_
    exact (k1 c1)
  · have c1 : y0 = 0 := Decidable.of_not_not (of_decide_eq_false c1)
    refine g_sk 2 (pc1 := 9) (st1 := [AI 1, AR r0]) rfl ?_
    refine G_fg (lw2_f _ (lw2_k _ (lw2_k _ (lw2_k _ lw2_nil)))) ?_
    refine g_cv rfl rfl (by decide) rfl rfl (Nat.le_of_ble_eq_true rfl) (as2 := [AI 1]) rfl sh2 rfl (by omega) (L0 := [vR r0, vI 1]) rfl ?_
    exact (k2 c1)

set_option maxRecDepth 8192 in
theorem t11_12 {d : Nat} {τ : T2} {Q : RS → T2 → Prop} {y0 : Int} (p1 : y0 = 0 ∨ y0 = 1) (k1 : Q (.inl (some (AI y0))) τ) : G d 11 12 [none, none, none, none] [AI y0] τ Q := by
  refine g_zret rfl rfl p1 ?_
  exact k1

set_option maxRecDepth 8192 in
theorem t11_19 {d : Nat} {τ : T2} {Q : RS → T2 → Prop} {y0 : Int} {r0 : Nat} (hd : 1 ≤ d) (sh2 : tS τ r0 = (1, 9, 0)) (k1 : ¬ y0 = 0 → G (d - 1) 68 0 [vR r0, none, none, none] [] τ (KC d 11 35 38 [vR r0, vI (tI τ r0 4), vI (tI τ r0 5), none] [] Q)) (k2 : y0 = 0 → Q (.inl (some (AI 0))) τ) : G d 11 19 [vR r0, none, none, none] [AI y0] τ Q := by
  refine g_br1 rfl (t := 24) rfl (fun c1 => ?_) (fun c1 => ?_)
  · have c1 : ¬ y0 = 0 := of_decide_eq_true c1
    refine g_sk 1 (pc1 := 25) (st1 := [AR r0]) rfl ?_
    refine g_gI rfl (ci := 9) (k := 4) rfl sh2 ?_
    refine g_sx 2 (pc1 := 30) (L1 := [vR r0, vI (tI τ r0 4), none, none]) (st1 := [AR r0]) rfl ?_
    refine g_gI rfl (ci := 9) (k := 5) rfl sh2 ?_
    refine g_sx 2 (pc1 := 35) (L1 := [vR r0, vI (tI τ r0 4), vI (tI τ r0 5), none]) (st1 := [AR r0]) rfl ?_
    refine g_cv rfl rfl (by decide) rfl rfl (Nat.le_of_ble_eq_true rfl) (as2 := []) rfl sh2 rfl (by omega) (L0 := [vR r0, none, none, none]) rfl ?_
    exact (k1 c1)
  · have c1 : y0 = 0 := Decidable.of_not_not (of_decide_eq_false c1)
    refine g_sk 1 (pc1 := 23) (st1 := [AI 0]) rfl ?_
    refine g_zret rfl rfl (by decide) ?_
    exact (k2 c1)

set_option maxRecDepth 8192 in
theorem t11_38 {d : Nat} {τ : T2} {Q : RS → T2 → Prop} {x1 x2 : Int} {r0 : Nat} (hd : 1 ≤ d) (sh1 : tS τ r0 = (1, 9, 0)) (k1 : G (d - 1) 73 0 [vR r0, vI 63] [] τ (KC d 11 41 44 [vR r0, vI x1, vI x2, none] [] Q)) : G d 11 38 [vR r0, vI x1, vI x2, none] [] τ Q := by
  refine g_sk 2 (pc1 := 41) (st1 := [AI 63, AR r0]) rfl ?_
  refine g_cv rfl rfl (by decide) rfl rfl (Nat.le_of_ble_eq_true rfl) (as2 := [AI 63]) rfl sh1 rfl (by omega) (L0 := [vR r0, vI 63]) rfl ?_
  exact k1

set_option maxRecDepth 8192 in
theorem t11_44 {d : Nat} {τ : T2} {Q : RS → T2 → Prop} {x1 x2 y0 : Int} {r0 : Nat} (hd : 1 ≤ d) (sh3 : tS τ r0 = (1, 9, 0)) (k1 : y0 = 0 → y0 = 0 → G (d - 1) 78 0 [vR r0, vI 1, vI x1, vI x2, none] [] τ (KC d 11 65 68 [none, none, none, none] [] Q)) (k2 : y0 = 0 → ¬ y0 = 0 → G (d - 1) 78 0 [vR r0, vI 2, vI x1, vI x2, none] [] τ (KC d 11 65 68 [none, none, none, none] [] Q)) (k3 : ¬ y0 = 0 → G (d - 1) 68 0 [vR r0, none, none, none] [] τ (KC d 11 50 53 [vR r0, vI x1, vI x2, vI y0] [] Q)) : G d 11 44 [vR r0, vI x1, vI x2, none] [AI y0] τ Q := by
  refine g_sx 2 (pc1 := 46) (L1 := [vR r0, vI x1, vI x2, vI y0]) (st1 := [AI y0]) rfl ?_
  refine g_br1 rfl (t := 53) rfl (fun c1 => ?_) (fun c1 => ?_)
  · have c1 : y0 = 0 := of_decide_eq_true c1
    refine g_sk 2 (pc1 := 55) (st1 := [AI y0, AR r0]) rfl ?_
    refine g_br1 rfl (t := 62) rfl (fun c2 => ?_) (fun c2 => ?_)
    · have c2 : y0 = 0 := of_decide_eq_true c2
      refine g_sk 3 (pc1 := 65) (st1 := [AI x2, AI x1, AI 1, AR r0]) rfl ?_
      refine G_fg (lw2_f _ (lw2_f _ (lw2_f _ (lw2_f _ lw2_nil)))) ?_
      refine g_cv rfl rfl (by decide) rfl rfl (Nat.le_of_ble_eq_true rfl) (as2 := [AI 1, AI x1, AI x2]) rfl sh3 rfl (by omega) (L0 := [vR r0, vI 1, vI x1, vI x2, none]) rfl ?_
      exact (k1 c1 c2)
    · have c2 : ¬ y0 = 0 := of_decide_eq_false c2
      refine g_sk 4 (pc1 := 65) (st1 := [AI x2, AI x1, AI 2, AR r0]) rfl ?_
      refine G_fg (lw2_f _ (lw2_f _ (lw2_f _ (lw2_f _ lw2_nil)))) ?_
      refine g_cv rfl rfl (by decide) rfl rfl (Nat.le_of_ble_eq_true rfl) (as2 := [AI 2, AI x1, AI x2]) rfl sh3 rfl (by omega) (L0 := [vR r0, vI 2, vI x1, vI x2, none]) rfl ?_
      exact (k2 c1 c2)
  · have c1 : ¬ y0 = 0 := of_decide_eq_false c1
    refine g_sk 1 (pc1 := 50) (st1 := [AR r0]) rfl ?_
    refine g_cv rfl rfl (by decide) rfl rfl (Nat.le_of_ble_eq_true rfl) (as2 := []) rfl sh3 rfl (by omega) (L0 := [vR r0, none, none, none]) rfl ?_
    exact (k3 c1)

set_option maxRecDepth 8192 in
theorem t11_53 {d : Nat} {τ : T2} {Q : RS → T2 → Prop} {x1 x2 x3 : Int} {r0 : Nat} (hd : 1 ≤ d) (sh2 : tS τ r0 = (1, 9, 0)) (k1 : x3 = 0 → G (d - 1) 78 0 [vR r0, vI 1, vI x1, vI x2, none] [] τ (KC d 11 65 68 [none, none, none, none] [] Q)) (k2 : ¬ x3 = 0 → G (d - 1) 78 0 [vR r0, vI 2, vI x1, vI x2, none] [] τ (KC d 11 65 68 [none, none, none, none] [] Q)) : G d 11 53 [vR r0, vI x1, vI x2, vI x3] [] τ Q := by
  refine g_sk 2 (pc1 := 55) (st1 := [AI x3, AR r0]) rfl ?_
  refine g_br1 rfl (t := 62) rfl (fun c1 => ?_) (fun c1 => ?_)
  · have c1 : x3 = 0 := of_decide_eq_true c1
    refine g_sk 3 (pc1 := 65) (st1 := [AI x2, AI x1, AI 1, AR r0]) rfl ?_
    refine G_fg (lw2_f _ (lw2_f _ (lw2_f _ (lw2_f _ lw2_nil)))) ?_
    refine g_cv rfl rfl (by decide) rfl rfl (Nat.le_of_ble_eq_true rfl) (as2 := [AI 1, AI x1, AI x2]) rfl sh2 rfl (by omega) (L0 := [vR r0, vI 1, vI x1, vI x2, none]) rfl ?_
    exact (k1 c1)
  · have c1 : ¬ x3 = 0 := of_decide_eq_false c1
    refine g_sk 4 (pc1 := 65) (st1 := [AI x2, AI x1, AI 2, AR r0]) rfl ?_
    refine G_fg (lw2_f _ (lw2_f _ (lw2_f _ (lw2_f _ lw2_nil)))) ?_
    refine g_cv rfl rfl (by decide) rfl rfl (Nat.le_of_ble_eq_true rfl) (as2 := [AI 2, AI x1, AI x2]) rfl sh2 rfl (by omega) (L0 := [vR r0, vI 2, vI x1, vI x2, none]) rfl ?_
    exact (k2 c1)

set_option maxRecDepth 8192 in
theorem t11_68 {d : Nat} {τ : T2} {Q : RS → T2 → Prop} {y0 : Int} (k1 : Q (.inl (some (AI 1))) τ) : G d 11 68 [none, none, none, none] [AI y0] τ Q := by
  refine g_sk 2 (pc1 := 70) (st1 := [AI 1]) rfl ?_
  refine g_zret rfl rfl (by decide) ?_
  exact k1

set_option maxRecDepth 8192 in
theorem t12_0 {d : Nat} {τ : T2} {Q : RS → T2 → Prop} {r0 : Nat} (hd : 1 ≤ d) (sh1 : tS τ r0 = (1, 9, 0)) (k1 : G (d - 1) 78 0 [vR r0, vI 3, vI 0, vI 0, none] [] τ (KC d 12 4 7 [vR r0, none, none] [] Q)) : G d 12 0 [vR r0, none, none] [] τ Q := by
  refine g_sk 4 (pc1 := 4) (st1 := [AI 0, AI 0, AI 3, AR r0]) rfl ?_
  refine g_cv rfl rfl (by decide) rfl rfl (Nat.le_of_ble_eq_true rfl) (as2 := [AI 3, AI 0, AI 0]) rfl sh1 rfl (by omega) (L0 := [vR r0, vI 3, vI 0, vI 0, none]) rfl ?_
  exact k1

set_option maxRecDepth 8192 in
theorem t12_7 {d : Nat} {τ : T2} {Q : RS → T2 → Prop} {y0 : Int} {r0 : Nat} (hd : 1 ≤ d) (sh1 : tS τ r0 = (1, 9, 0)) (k1 : G (d - 1) 68 0 [vR r0, none, none, none] [] τ (KC d 12 9 12 [vR r0, vI y0, none] [] Q)) : G d 12 7 [vR r0, none, none] [AI y0] τ Q := by
  refine g_sx 2 (pc1 := 9) (L1 := [vR r0, vI y0, none]) (st1 := [AR r0]) rfl ?_
  refine g_cv rfl rfl (by decide) rfl rfl (Nat.le_of_ble_eq_true rfl) (as2 := []) rfl sh1 rfl (by omega) (L0 := [vR r0, none, none, none]) rfl ?_
  exact k1

set_option maxRecDepth 8192 in
theorem t12_12 {d : Nat} {τ : T2} {Q : RS → T2 → Prop} {x1 : Int} {r0 : Nat} (hd : 1 ≤ d) (sh1 : tS τ r0 = (1, 9, 0)) (k1 : G (d - 1) 70 0 [vR r0] [] τ (KC d 12 13 16 [vR r0, vI x1, none] [] Q)) : G d 12 12 [vR r0, vI x1, none] [] τ Q := by
  refine g_sk 1 (pc1 := 13) (st1 := [AR r0]) rfl ?_
  refine g_cv rfl rfl (by decide) rfl rfl (Nat.le_of_ble_eq_true rfl) (as2 := []) rfl sh1 rfl (by omega) (L0 := [vR r0]) rfl ?_
  exact k1

set_option maxRecDepth 8192 in
theorem t12_16 {d : Nat} {τ : T2} {Q : RS → T2 → Prop} {x1 y0 : Int} {r0 : Nat} (hd : 1 ≤ d) (sh2 : tS τ r0 = (1, 9, 0)) (k1 : ¬ y0 = 0 → G d 12 27 [vR r0, vI x1, vI 0] [] τ Q) (k2 : y0 = 0 → G (d - 1) 76 0 [vR r0, vI 1] [] τ (KC d 12 21 24 [none, none, none] [] Q)) : G d 12 16 [vR r0, vI x1, none] [AI y0] τ Q := by
  refine g_br1 rfl (t := 25) rfl (fun c1 => ?_) (fun c1 => ?_)
  · have c1 : ¬ y0 = 0 := of_decide_eq_true c1
    refine g_sx 2 (pc1 := 27) (L1 := [vR r0, vI x1, vI 0]) (st1 := []) rfl ?_
    exact (k1 c1)
  · have c1 : y0 = 0 := Decidable.of_not_not (of_decide_eq_false c1)
    refine g_sk 2 (pc1 := 21) (st1 := [AI 1, AR r0]) rfl ?_
    refine G_fg (lw2_f _ (lw2_f _ (lw2_k _ lw2_nil))) ?_
    refine g_cv rfl rfl (by decide) rfl rfl (Nat.le_of_ble_eq_true rfl) (as2 := [AI 1]) rfl sh2 rfl (by omega) (L0 := [vR r0, vI 1]) rfl ?_
    exact (k2 c1)

set_option maxRecDepth 8192 in
theorem t12_24 {d : Nat} {τ : T2} {Q : RS → T2 → Prop} {y0 : Int} (p1 : y0 = 0 ∨ y0 = 1) (k1 : Q (.inl (some (AI y0))) τ) : G d 12 24 [none, none, none] [AI y0] τ Q := by
  refine g_zret rfl rfl p1 ?_
  exact k1

set_option maxRecDepth 8192 in
theorem t12_27 {d : Nat} {τ : T2} {Q : RS → T2 → Prop} {x1 x2 : Int} {r0 : Nat} (hd : 1 ≤ d) (sh2 : tS τ r0 = (1, 9, 0)) (k1 : 4 < x2 → G (d - 1) 73 0 [vR r0, vI 93] [] τ (KC d 12 88 91 [vR r0, vI x1, vI x2] [] Q)) (k2 : x2 ≤ 4 → G (d - 1) 70 0 [vR r0] [] τ (KC d 12 33 36 [vR r0, vI x1, vI x2] [] Q)) : G d 12 27 [vR r0, vI x1, vI x2] [] τ Q := by
  refine g_sk 2 (pc1 := 29) (st1 := [AI 4, AI x2]) rfl ?_
  refine g_br2 rfl (t := 85) rfl (fun c1 => ?_) (fun c1 => ?_)
  · have c1 : 4 < x2 := of_decide_eq_true c1
    refine g_sk 2 (pc1 := 88) (st1 := [AI 93, AR r0]) rfl ?_
    refine g_cv rfl rfl (by decide) rfl rfl (Nat.le_of_ble_eq_true rfl) (as2 := [AI 93]) rfl sh2 rfl (by omega) (L0 := [vR r0, vI 93]) rfl ?_
    exact (k1 c1)
  · have c1 : x2 ≤ 4 := Int.not_lt.mp (of_decide_eq_false c1)
    refine g_sk 1 (pc1 := 33) (st1 := [AR r0]) rfl ?_
    refine g_cv rfl rfl (by decide) rfl rfl (Nat.le_of_ble_eq_true rfl) (as2 := []) rfl sh2 rfl (by omega) (L0 := [vR r0]) rfl ?_
    exact (k2 c1)

set_option maxRecDepth 8192 in
theorem t12_36 {d : Nat} {τ : T2} {Q : RS → T2 → Prop} {x1 x2 y0 : Int} {r0 : Nat} (hd : 1 ≤ d) (sh2 : tS τ r0 = (1, 9, 0)) (k1 : y0 = 0 → G (d - 1) 73 0 [vR r0, vI 93] [] τ (KC d 12 88 91 [vR r0, vI x1, vI x2] [] Q)) (k2 : ¬ y0 = 0 → ¬ x2 = 4 → G (d - 1) 77 0 [vR r0, vI 40] [] τ (KC d 12 53 56 [vR r0, vI x1, vI x2] [] Q)) (k3 : ¬ y0 = 0 → x2 = 4 → G (d - 1) 76 0 [vR r0, vI 4] [] τ (KC d 12 46 49 [none, none, none] [] Q)) : G d 12 36 [vR r0, vI x1, vI x2] [AI y0] τ Q := by
  refine g_br1 rfl (t := 85) rfl (fun c1 => ?_) (fun c1 => ?_)
  · have c1 : y0 = 0 := of_decide_eq_true c1
    refine g_sk 2 (pc1 := 88) (st1 := [AI 93, AR r0]) rfl ?_
    refine g_cv rfl rfl (by decide) rfl rfl (Nat.le_of_ble_eq_true rfl) (as2 := [AI 93]) rfl sh2 rfl (by omega) (L0 := [vR r0, vI 93]) rfl ?_
    exact (k1 c1)
  · have c1 : ¬ y0 = 0 := of_decide_eq_false c1
    refine g_sk 2 (pc1 := 41) (st1 := [AI 4, AI x2]) rfl ?_
    refine g_br2 rfl (t := 50) rfl (fun c3 => ?_) (fun c3 => ?_)
    · have c3 : ¬ x2 = 4 := of_decide_eq_true c3
      refine g_sk 2 (pc1 := 53) (st1 := [AI 40, AR r0]) rfl ?_
      refine g_cv rfl rfl (by decide) rfl rfl (Nat.le_of_ble_eq_true rfl) (as2 := [AI 40]) rfl sh2 rfl (by omega) (L0 := [vR r0, vI 40]) rfl ?_
      exact (k2 c1 c3)
    · have c3 : x2 = 4 := Decidable.of_not_not (of_decide_eq_false c3)
      refine g_sk 2 (pc1 := 46) (st1 := [AI 4, AR r0]) rfl ?_
      refine G_fg (lw2_f _ (lw2_f _ (lw2_f _ lw2_nil))) ?_
      refine g_cv rfl rfl (by decide) rfl rfl (Nat.le_of_ble_eq_true rfl) (as2 := [AI 4]) rfl sh2 rfl (by omega) (L0 := [vR r0, vI 4]) rfl ?_
      exact (k3 c1 c3)

set_option maxRecDepth 8192 in
theorem t12_49 {d : Nat} {τ : T2} {Q : RS → T2 → Prop} {y0 : Int} (p1 : y0 = 0 ∨ y0 = 1) (k1 : Q (.inl (some (AI y0))) τ) : G d 12 49 [none, none, none] [AI y0] τ Q := by
  refine g_zret rfl rfl p1 ?_
  exact k1

set_option maxRecDepth 8192 in
theorem t12_56 {d : Nat} {τ : T2} {Q : RS → T2 → Prop} {x1 x2 y0 : Int} {r0 : Nat} (hd : 1 ≤ d) (sh2 : tS τ r0 = (1, 9, 0)) (k1 : ¬ y0 = 0 → G (d - 1) 78 0 [vR r0, vI 1, vI (tI τ r0 4), vI (tI τ r0 5), none] [] τ (KC d 12 71 74 [vR r0, vI x1, vI x2] [] Q)) (k2 : y0 = 0 → Q (.inl (some (AI 0))) τ) : G d 12 56 [vR r0, vI x1, vI x2] [AI y0] τ Q := by
  refine g_br1 rfl (t := 61) rfl (fun c1 => ?_) (fun c1 => ?_)
  · have c1 : ¬ y0 = 0 := of_decide_eq_true c1
    refine g_sk 3 (pc1 := 64) (st1 := [AR r0, AI 1, AR r0]) rfl ?_
    refine g_gI rfl (ci := 9) (k := 4) rfl sh2 ?_
    refine g_sk 1 (pc1 := 68) (st1 := [AR r0, AI (tI τ r0 4), AI 1, AR r0]) rfl ?_
    refine g_gI rfl (ci := 9) (k := 5) rfl sh2 ?_
    refine g_cv rfl rfl (by decide) rfl rfl (Nat.le_of_ble_eq_true rfl) (as2 := [AI 1, AI (tI τ r0 4), AI (tI τ r0 5)]) rfl sh2 rfl (by omega) (L0 := [vR r0, vI 1, vI (tI τ r0 4), vI (tI τ r0 5), none]) rfl ?_
    exact (k1 c1)
  · have c1 : y0 = 0 := Decidable.of_not_not (of_decide_eq_false c1)
    refine g_sk 1 (pc1 := 60) (st1 := [AI 0]) rfl ?_
    refine g_zret rfl rfl (by decide) ?_
    exact (k2 c1)

set_option maxRecDepth 8192 in
theorem t12_74 {d : Nat} {τ : T2} {Q : RS → T2 → Prop} {x1 x2 y0 : Int} {r0 : Nat} (hd : 1 ≤ d) (sh1 : tS τ r0 = (1, 9, 0)) (k1 : G (d - 1) 68 0 [vR r0, none, none, none] [] τ (KC d 12 76 79 [vR r0, vI x1, vI x2] [] Q)) : G d 12 74 [vR r0, vI x1, vI x2] [AI y0] τ Q := by
  refine g_sk 2 (pc1 := 76) (st1 := [AR r0]) rfl ?_
  refine g_cv rfl rfl (by decide) rfl rfl (Nat.le_of_ble_eq_true rfl) (as2 := []) rfl sh1 rfl (by omega) (L0 := [vR r0, none, none, none]) rfl ?_
  exact k1

set_option maxRecDepth 8192 in
theorem t12_79 {d : Nat} {τ : T2} {Q : RS → T2 → Prop} {x1 x2 : Int} {r0 : Option Nat} (k1 : G d 12 27 [vQ r0, vI x1, vI (wr (x2 + 1))] [] τ Q) : G d 12 79 [vQ r0, vI x1, vI x2] [] τ Q := by
  refine g_sx 2 (pc1 := 27) (L1 := [vQ r0, vI x1, vI (wr (x2 + 1))]) (st1 := []) rfl ?_
  exact k1

set_option maxRecDepth 8192 in
theorem t12_91 {d : Nat} {τ : T2} {Q : RS → T2 → Prop} {x1 x2 y0 : Int} {r0 : Nat} (hd : 1 ≤ d) (sh2 : tS τ r0 = (1, 9, 0)) (k1 : ¬ y0 = 0 → G (d - 1) 79 0 [vR r0, vI x1, vI x2] [] τ (KC d 12 103 106 [vR r0, none, none] [] Q)) (k2 : y0 = 0 → G (d - 1) 76 0 [vR r0, vI 1] [] τ (KC d 12 96 99 [none, none, none] [] Q)) : G d 12 91 [vR r0, vI x1, vI x2] [AI y0] τ Q := by
  refine g_br1 rfl (t := 100) rfl (fun c1 => ?_) (fun c1 => ?_)
  · have c1 : ¬ y0 = 0 := of_decide_eq_true c1
    refine g_sk 3 (pc1 := 103) (st1 := [AI x2, AI x1, AR r0]) rfl ?_
    refine G_fg (lw2_k _ (lw2_f _ (lw2_f _ lw2_nil))) ?_
    refine g_cv rfl rfl (by decide) rfl rfl (Nat.le_of_ble_eq_true rfl) (as2 := [AI x1, AI x2]) rfl sh2 rfl (by omega) (L0 := [vR r0, vI x1, vI x2]) rfl ?_
    exact (k1 c1)
  · have c1 : y0 = 0 := Decidable.of_not_not (of_decide_eq_false c1)
    refine g_sk 2 (pc1 := 96) (st1 := [AI 1, AR r0]) rfl ?_
    refine G_fg (lw2_f _ (lw2_f _ (lw2_f _ lw2_nil))) ?_
    refine g_cv rfl rfl (by decide) rfl rfl (Nat.le_of_ble_eq_true rfl) (as2 := [AI 1]) rfl sh2 rfl (by omega) (L0 := [vR r0, vI 1]) rfl ?_
    exact (k2 c1)

set_option maxRecDepth 8192 in
theorem t12_99 {d : Nat} {τ : T2} {Q : RS → T2 → Prop} {y0 : Int} (p1 : y0 = 0 ∨ y0 = 1) (k1 : Q (.inl (some (AI y0))) τ) : G d 12 99 [none, none, none] [AI y0] τ Q := by
  refine g_zret rfl rfl p1 ?_
  exact k1

set_option maxRecDepth 8192 in
theorem t12_106 {d : Nat} {τ : T2} {Q : RS → T2 → Prop} {r0 : Nat} (hd : 1 ≤ d) (sh1 : tS τ r0 = (1, 9, 0)) (k1 : G (d - 1) 68 0 [vR r0, none, none, none] [] τ (KC d 12 107 110 [none, none, none] [] Q)) : G d 12 106 [vR r0, none, none] [] τ Q := by
  refine g_sk 1 (pc1 := 107) (st1 := [AR r0]) rfl ?_
  refine G_fg (lw2_f _ (lw2_k _ (lw2_k _ lw2_nil))) ?_
  refine g_cv rfl rfl (by decide) rfl rfl (Nat.le_of_ble_eq_true rfl) (as2 := []) rfl sh1 rfl (by omega) (L0 := [vR r0, none, none, none]) rfl ?_
  exact k1

set_option maxRecDepth 8192 in
theorem t12_110 {d : Nat} {τ : T2} {Q : RS → T2 → Prop}  (k1 : Q (.inl (some (AI 1))) τ) : G d 12 110 [none, none, none] [] τ Q := by
  refine g_sk 1 (pc1 := 111) (st1 := [AI 1]) rfl ?_
  refine g_zret rfl rfl (by decide) ?_
  exact k1

set_option maxRecDepth 8192 in
theorem t13_0 {d : Nat} {τ : T2} {Q : RS → T2 → Prop} {r0 : Nat} (hd : 17 ≤ d) (k1 : G d 13 10 [vR r0] [AR (tN τ), AR r0] (nC τ (2, 1, 300) 300) Q) : G d 13 0 [vR r0] [] τ Q := by
  refine g_sk 1 (pc1 := 1) (st1 := [AR r0]) rfl ?_
  refine g_oin (na := 1) rfl rfl rfl hd ?_
  refine g_sk 2 (pc1 := 8) (st1 := [AI 300, AR r0]) rfl ?_
  refine g_newa rfl rfl (by decide) (by decide) ?_
  exact k1

set_option maxRecDepth 8192 in
theorem t13_10 {d : Nat} {τ : T2} {Q : RS → T2 → Prop} {r0 s1 : Nat} {s0 : Option Nat} (sh1 : tS τ s1 = (1, 4, 0)) (sh2 : tS τ r0 = (1, 4, 0)) (k1 : G d 13 24 [vR r0] [AR (tN (uI (uP τ s1 0 s0) r0 1 0)), AR r0] (nC (uI (uP τ s1 0 s0) r0 1 0) (2, 3, 2085) 2085) Q) : G d 13 10 [vR r0] [AP s0, AR s1] τ Q := by
  refine g_putP rfl (ci := 4) (k := 0) rfl sh1 ?_
  refine g_sk 2 (pc1 := 15) (st1 := [AI 0, AR r0]) rfl ?_
  refine g_putI (x := 0) rfl (ci := 4) (k := 1) (kd := 0) rfl (by decide) rfl rfl sh2 ?_
  refine g_sk 2 (pc1 := 22) (st1 := [AI 2085, AR r0]) rfl ?_
  refine g_newa rfl rfl (by decide) (by decide) ?_
  exact k1

set_option maxRecDepth 8192 in
theorem t13_24 {d : Nat} {τ : T2} {Q : RS → T2 → Prop} {r0 s1 : Nat} {s0 : Option Nat} (sh1 : tS τ s1 = (1, 4, 0)) (k1 : G d 13 32 [none] [AR (tN (uP τ s1 2 s0)), AR r0] (nC (uP τ s1 2 s0) (2, 0, 13) 13) Q) : G d 13 24 [vR r0] [AP s0, AR s1] τ Q := by
  refine g_putP rfl (ci := 4) (k := 2) rfl sh1 ?_
  refine g_sk 2 (pc1 := 30) (st1 := [AI 13, AR r0]) rfl ?_
  refine g_newa rfl rfl (by decide) (by decide) ?_
  exact G_fg (lw2_f _ lw2_nil) k1

set_option maxRecDepth 8192 in
theorem t13_32 {d : Nat} {τ : T2} {Q : RS → T2 → Prop} {s1 : Nat} {s0 : Option Nat} (sh1 : tS τ s1 = (1, 4, 0)) (k1 : Q (.inl none) (uP τ s1 3 s0)) : G d 13 32 [none] [AP s0, AR s1] τ Q := by
  refine g_putP rfl (ci := 4) (k := 3) rfl sh1 ?_
  refine g_vret rfl rfl ?_
  exact k1

set_option maxRecDepth 8192 in
theorem t14_0 {d : Nat} {τ : T2} {Q : RS → T2 → Prop} {x2 : Int} {r0 : Nat} {r1 : Option Nat} (sh1 : tS τ r0 = (1, 4, 0)) (k1 : G d 14 7 [vR r0, vQ r1, vI x2, vI 0, none] [] (uI τ r0 1 0) Q) : G d 14 0 [vR r0, vQ r1, vI x2, none, none] [] τ Q := by
  refine g_sk 2 (pc1 := 2) (st1 := [AI 0, AR r0]) rfl ?_
  refine g_putI (x := 0) rfl (ci := 4) (k := 1) (kd := 0) rfl (by decide) rfl rfl sh1 ?_
  refine g_sx 2 (pc1 := 7) (L1 := [vR r0, vQ r1, vI x2, vI 0, none]) (st1 := []) rfl ?_
  exact k1

set_option maxRecDepth 8192 in
theorem t14_7 {d : Nat} {τ : T2} {Q : RS → T2 → Prop} {x2 x3 : Int} {r0 r1 n2 : Nat} (hd : 1 ≤ d) (sh3 : tS τ r1 = (2, 1, n2)) (sh5 : tS τ r0 = (1, 4, 0)) (b7 : x3 < x2 → x3 < (n2 : Int) → (tI τ r0 1) < 300 → (0 : Int) ≤ x3 ∧ x3 < (n2 : Int)) (k1 : x2 ≤ x3 → Q (.inl none) τ) (k2 : x3 < x2 → (n2 : Int) ≤ x3 → Q (.inl none) τ) (k3 : x3 < x2 → x3 < (n2 : Int) → 300 ≤ (tI τ r0 1) → Q (.inl none) τ) (k4 : x3 < x2 → x3 < (n2 : Int) → (tI τ r0 1) < 300 → (tI τ r1 x3.toNat) < 65 → G (d - 1) 133 0 [vI (tI τ r1 x3.toNat)] [] τ (KC d 14 60 63 [vR r0, vR r1, vI x2, vI x3, vI (tI τ r1 x3.toNat)] [] Q)) (k5 : x3 < x2 → x3 < (n2 : Int) → (tI τ r0 1) < 300 → 65 ≤ (tI τ r1 x3.toNat) → 90 < (tI τ r1 x3.toNat) → G (d - 1) 133 0 [vI (tI τ r1 x3.toNat)] [] τ (KC d 14 60 63 [vR r0, vR r1, vI x2, vI x3, vI (tI τ r1 x3.toNat)] [] Q)) (k6 : x3 < x2 → x3 < (n2 : Int) → (tI τ r0 1) < 300 → 65 ≤ (tI τ r1 x3.toNat) → (tI τ r1 x3.toNat) ≤ 90 → G (d - 1) 133 0 [vI (wr ((tI τ r1 x3.toNat) + 32))] [] τ (KC d 14 60 63 [vR r0, vR r1, vI x2, vI x3, vI (wr ((tI τ r1 x3.toNat) + 32))] [] Q)) : G d 14 7 [vR r0, vR r1, vI x2, vI x3, none] [] τ Q := by
  refine g_sk 2 (pc1 := 9) (st1 := [AI x2, AI x3]) rfl ?_
  refine g_br2 rfl (t := 94) rfl (fun c1 => ?_) (fun c1 => ?_)
  · have c1 : x2 ≤ x3 := of_decide_eq_true c1
    refine g_vret rfl rfl ?_
    exact (k1 c1)
  · have c1 : x3 < x2 := Int.not_le.mp (of_decide_eq_false c1)
    refine g_sk 2 (pc1 := 14) (st1 := [AR r1, AI x3]) rfl ?_
    refine g_al2 rfl sh3 ?_
    refine g_br2 rfl (t := 94) rfl (fun c4 => ?_) (fun c4 => ?_)
    · have c4 : (n2 : Int) ≤ x3 := of_decide_eq_true c4
      refine g_vret rfl rfl ?_
      exact (k2 c1 c4)
    · have c4 : x3 < (n2 : Int) := Int.not_le.mp (of_decide_eq_false c4)
      refine g_sk 1 (pc1 := 19) (st1 := [AR r0]) rfl ?_
      refine g_gI rfl (ci := 4) (k := 1) rfl sh5 ?_
      refine g_sk 1 (pc1 := 25) (st1 := [AI 300, AI (tI τ r0 1)]) rfl ?_
      refine g_br2 rfl (t := 94) rfl (fun c6 => ?_) (fun c6 => ?_)
      · have c6 : 300 ≤ (tI τ r0 1) := of_decide_eq_true c6
        refine g_vret rfl rfl ?_
        exact (k3 c1 c4 c6)
      · have c6 : (tI τ r0 1) < 300 := Int.not_le.mp (of_decide_eq_false c6)
        refine g_sk 2 (pc1 := 30) (st1 := [AI x3, AR r1]) rfl ?_
        refine g_bald rfl sh3 (by decide) (b7 c1 c4 c6).1 (b7 c1 c4 c6).2 ?_
        refine g_sk 1 (pc1 := 33) (st1 := [AI 65, AI (tI τ r1 x3.toNat)]) rfl ?_
        refine g_br2 rfl (t := 53) rfl (fun c8 => ?_) (fun c8 => ?_)
        · have c8 : (tI τ r1 x3.toNat) < 65 := of_decide_eq_true c8
          refine g_sk 2 (pc1 := 55) (st1 := [AI x3, AR r1]) rfl ?_
          refine g_bald rfl sh3 (by decide) (b7 c1 c4 c6).1 (b7 c1 c4 c6).2 ?_
          refine g_sx 2 (pc1 := 60) (L1 := [vR r0, vR r1, vI x2, vI x3, vI (tI τ r1 x3.toNat)]) (st1 := [AI (tI τ r1 x3.toNat)]) rfl ?_
          refine g_cs rfl rfl (by decide) rfl rfl (Nat.le_of_ble_eq_true rfl) rfl (by omega) (L0 := [vI (tI τ r1 x3.toNat)]) rfl ?_
          exact (k4 c1 c4 c6 c8)
        · have c8 : 65 ≤ (tI τ r1 x3.toNat) := Int.not_lt.mp (of_decide_eq_false c8)
          refine g_sk 2 (pc1 := 38) (st1 := [AI x3, AR r1]) rfl ?_
          refine g_bald rfl sh3 (by decide) (b7 c1 c4 c6).1 (b7 c1 c4 c6).2 ?_
          refine g_sk 1 (pc1 := 41) (st1 := [AI 90, AI (tI τ r1 x3.toNat)]) rfl ?_
          refine g_br2 rfl (t := 53) rfl (fun c9 => ?_) (fun c9 => ?_)
          · have c9 : 90 < (tI τ r1 x3.toNat) := of_decide_eq_true c9
            refine g_sk 2 (pc1 := 55) (st1 := [AI x3, AR r1]) rfl ?_
            refine g_bald rfl sh3 (by decide) (b7 c1 c4 c6).1 (b7 c1 c4 c6).2 ?_
            refine g_sx 2 (pc1 := 60) (L1 := [vR r0, vR r1, vI x2, vI x3, vI (tI τ r1 x3.toNat)]) (st1 := [AI (tI τ r1 x3.toNat)]) rfl ?_
            refine g_cs rfl rfl (by decide) rfl rfl (Nat.le_of_ble_eq_true rfl) rfl (by omega) (L0 := [vI (tI τ r1 x3.toNat)]) rfl ?_
            exact (k5 c1 c4 c6 c8 c9)
          · have c9 : (tI τ r1 x3.toNat) ≤ 90 := Int.not_lt.mp (of_decide_eq_false c9)
            refine g_sk 2 (pc1 := 46) (st1 := [AI x3, AR r1]) rfl ?_
            refine g_bald rfl sh3 (by decide) (b7 c1 c4 c6).1 (b7 c1 c4 c6).2 ?_
            refine g_sx 5 (pc1 := 60) (L1 := [vR r0, vR r1, vI x2, vI x3, vI (wr ((tI τ r1 x3.toNat) + 32))]) (st1 := [AI (wr ((tI τ r1 x3.toNat) + 32))]) rfl ?_
            refine g_cs rfl rfl (by decide) rfl rfl (Nat.le_of_ble_eq_true rfl) rfl (by omega) (L0 := [vI (wr ((tI τ r1 x3.toNat) + 32))]) rfl ?_
            exact (k6 c1 c4 c6 c8 c9)

set_option maxRecDepth 8192 in
theorem t14_63 {d : Nat} {τ : T2} {Q : RS → T2 → Prop} {x2 x3 x4 y0 : Int} {r0 q3 n5 : Nat} {r1 : Option Nat} (sh2 : tS τ r0 = (1, 4, 0)) (p4 : tP τ r0 0 = some q3) (sh6 : tS τ q3 = (2, 1, n5)) (b7 : ¬ y0 = 0 → (0 : Int) ≤ (tI τ r0 1) ∧ (tI τ r0 1) < (n5 : Int)) (k1 : y0 = 0 → G d 14 7 [vR r0, vQ r1, vI x2, vI (wr (x3 + 1)), none] [] τ Q) (k2 : ¬ y0 = 0 → G d 14 7 [vR r0, vQ r1, vI x2, vI (wr (x3 + 1)), none] [] (uI (uI τ q3 (tI τ r0 1).toNat (zbyt (zbyt x4))) r0 1 (wr ((tI (uI τ q3 (tI τ r0 1).toNat (zbyt (zbyt x4))) r0 1) + 1))) Q) : G d 14 63 [vR r0, vQ r1, vI x2, vI x3, vI x4] [AI y0] τ Q := by
  refine g_br1 rfl (t := 88) rfl (fun c1 => ?_) (fun c1 => ?_)
  · have c1 : y0 = 0 := of_decide_eq_true c1
    refine g_sx 2 (pc1 := 7) (L1 := [vR r0, vQ r1, vI x2, vI (wr (x3 + 1)), vI x4]) (st1 := []) rfl ?_
    exact G_fg (lw2_k _ (lw2_k _ (lw2_k _ (lw2_k _ (lw2_f _ lw2_nil))))) (k1 c1)
  · have c1 : ¬ y0 = 0 := of_decide_eq_false c1
    refine g_sk 1 (pc1 := 67) (st1 := [AR r0]) rfl ?_
    refine g_gQ rfl (ci := 4) (k := 0) rfl sh2 p4 ?_
    refine g_sk 1 (pc1 := 71) (st1 := [AR r0, AR q3]) rfl ?_
    refine g_gI rfl (ci := 4) (k := 1) rfl sh2 ?_
    refine g_sk 2 (pc1 := 77) (st1 := [AI (zbyt x4), AI (tI τ r0 1), AR q3]) rfl ?_
    refine g_bast rfl sh6 (b7 c1).1 (b7 c1).2 ?_
    refine g_sk 2 (pc1 := 80) (st1 := [AR r0, AR r0]) rfl ?_
    refine g_gI rfl (ci := 4) (k := 1) rfl sh2 ?_
    refine g_sk 2 (pc1 := 85) (st1 := [AI (wr ((tI (uI τ q3 (tI τ r0 1).toNat (zbyt (zbyt x4))) r0 1) + 1)), AR r0]) rfl ?_
    refine g_putI (x := (wr ((tI (uI τ q3 (tI τ r0 1).toNat (zbyt (zbyt x4))) r0 1) + 1))) rfl (ci := 4) (k := 1) (kd := 0) rfl (by decide) rfl rfl sh2 ?_
    refine g_sx 2 (pc1 := 7) (L1 := [vR r0, vQ r1, vI x2, vI (wr (x3 + 1)), vI x4]) (st1 := []) rfl ?_
    exact G_fg (lw2_k _ (lw2_k _ (lw2_k _ (lw2_k _ (lw2_f _ lw2_nil))))) (k2 c1)

set_option maxRecDepth 8192 in
theorem t15_0 {d : Nat} {τ : T2} {Q : RS → T2 → Prop} {r0 r1 : Nat} (hd : 1 ≤ d) (sh1 : tS τ r1 = (1, 6, 0)) (sh4 : tS τ r0 = (1, 4, 0)) (k1 : ∀ q3, (tP τ r1 10) = some q3 → G d 15 15 [vR r0, vR r1, none] [] τ Q) (k2 : (tP τ r1 10) = none → G (d - 1) 16 0 [vR r0, vR r1] [] τ (KC d 15 9 12 [vR r0, vR r1, none] [] Q)) : G d 15 0 [vR r0, vR r1, none] [] τ Q := by
  refine g_sk 1 (pc1 := 1) (st1 := [AR r1]) rfl ?_
  refine g_gP rfl (ci := 6) (k := 10) rfl sh1 ?_
  refine g_nnl rfl (t := 15) rfl (fun q3 c2 => ?_) (fun c2 => ?_)
  · skip
    exact (k1 q3 c2)
  · skip
    refine g_sk 2 (pc1 := 9) (st1 := [AR r1, AR r0]) rfl ?_
    refine g_cv rfl rfl (by decide) rfl rfl (Nat.le_of_ble_eq_true rfl) (as2 := [AR r1]) rfl sh4 rfl (by omega) (L0 := [vR r0, vR r1]) rfl ?_
    exact (k2 c2)

set_option maxRecDepth 8192 in
theorem t15_7 {d : Nat} {τ : T2} {Q : RS → T2 → Prop} {r0 : Nat} {r1 : Option Nat} (hd : 1 ≤ d) (sh1 : tS τ r0 = (1, 4, 0)) (k1 : G (d - 1) 16 0 [vR r0, vQ r1] [] τ (KC d 15 9 12 [vR r0, vQ r1, none] [] Q)) : G d 15 7 [vR r0, vQ r1, none] [] τ Q := by
  refine g_sk 2 (pc1 := 9) (st1 := [AP r1, AR r0]) rfl ?_
  refine g_cv rfl rfl (by decide) rfl rfl (Nat.le_of_ble_eq_true rfl) (as2 := [AP r1]) rfl sh1 rfl (by omega) (L0 := [vR r0, vQ r1]) rfl ?_
  exact k1

set_option maxRecDepth 8192 in
theorem t15_12 {d : Nat} {τ : T2} {Q : RS → T2 → Prop} {y0 : Int} {r0 : Nat} {r1 : Option Nat} (hd : 1 ≤ d) (sh2 : tS τ r0 = (1, 4, 0)) (k1 : y0 = 0 → G (d - 1) 18 0 [vR r0, vQ r1, none, none, none, none, none] [] τ (KC d 15 32 35 [none, vQ r1, none] [] Q)) (k2 : ¬ y0 = 0 → Q (.inl (some (AI 1))) τ) : G d 15 12 [vR r0, vQ r1, none] [AI y0] τ Q := by
  refine g_sx 3 (pc1 := 25) (L1 := [vR r0, vQ r1, vI y0]) (st1 := [AI y0]) rfl ?_
  refine g_br1 rfl (t := 30) rfl (fun c1 => ?_) (fun c1 => ?_)
  · have c1 : y0 = 0 := of_decide_eq_true c1
    refine g_sk 2 (pc1 := 32) (st1 := [AP r1, AR r0]) rfl ?_
    refine G_fg (lw2_f _ (lw2_k _ (lw2_f _ lw2_nil))) ?_
    refine g_cv rfl rfl (by decide) rfl rfl (Nat.le_of_ble_eq_true rfl) (as2 := [AP r1]) rfl sh2 rfl (by omega) (L0 := [vR r0, vQ r1, none, none, none, none, none]) rfl ?_
    exact (k1 c1)
  · have c1 : ¬ y0 = 0 := of_decide_eq_false c1
    refine g_sk 1 (pc1 := 29) (st1 := [AI 1]) rfl ?_
    refine g_iret rfl rfl ?_
    exact (k2 c1)

set_option maxRecDepth 8192 in
theorem t15_15 {d : Nat} {τ : T2} {Q : RS → T2 → Prop} {r0 r1 : Nat} (hd : 1 ≤ d) (sh1 : tS τ r1 = (1, 6, 0)) (sh2 : tS τ r0 = (1, 4, 0)) (k1 : G (d - 1) 19 0 [vR r0, vQ (tP τ r1 10), none, none, none] [] τ (KC d 15 20 23 [vR r0, vR r1, none] [] Q)) : G d 15 15 [vR r0, vR r1, none] [] τ Q := by
  refine g_sk 2 (pc1 := 17) (st1 := [AR r1, AR r0]) rfl ?_
  refine g_gP rfl (ci := 6) (k := 10) rfl sh1 ?_
  refine g_cv rfl rfl (by decide) rfl rfl (Nat.le_of_ble_eq_true rfl) (as2 := [AP (tP τ r1 10)]) rfl sh2 rfl (by omega) (L0 := [vR r0, vQ (tP τ r1 10), none, none, none]) rfl ?_
  exact k1

set_option maxRecDepth 8192 in
theorem t15_23 {d : Nat} {τ : T2} {Q : RS → T2 → Prop} {y0 : Int} {r0 : Nat} {r1 : Option Nat} (hd : 1 ≤ d) (sh2 : tS τ r0 = (1, 4, 0)) (k1 : y0 = 0 → G (d - 1) 18 0 [vR r0, vQ r1, none, none, none, none, none] [] τ (KC d 15 32 35 [none, vQ r1, none] [] Q)) (k2 : ¬ y0 = 0 → Q (.inl (some (AI 1))) τ) : G d 15 23 [vR r0, vQ r1, none] [AI y0] τ Q := by
  refine g_sx 2 (pc1 := 25) (L1 := [vR r0, vQ r1, vI y0]) (st1 := [AI y0]) rfl ?_
  refine g_br1 rfl (t := 30) rfl (fun c1 => ?_) (fun c1 => ?_)
  · have c1 : y0 = 0 := of_decide_eq_true c1
    refine g_sk 2 (pc1 := 32) (st1 := [AP r1, AR r0]) rfl ?_
    refine G_fg (lw2_f _ (lw2_k _ (lw2_f _ lw2_nil))) ?_
    refine g_cv rfl rfl (by decide) rfl rfl (Nat.le_of_ble_eq_true rfl) (as2 := [AP r1]) rfl sh2 rfl (by omega) (L0 := [vR r0, vQ r1, none, none, none, none, none]) rfl ?_
    exact (k1 c1)
  · have c1 : ¬ y0 = 0 := of_decide_eq_false c1
    refine g_sk 1 (pc1 := 29) (st1 := [AI 1]) rfl ?_
    refine g_iret rfl rfl ?_
    exact (k2 c1)

set_option maxRecDepth 8192 in
theorem t15_35 {d : Nat} {τ : T2} {Q : RS → T2 → Prop} {y0 : Int} {r1 : Nat} (sh1 : tS τ r1 = (1, 6, 0)) (k1 : (tI τ r1 4) < y0 → Q (.inl (some (AI 0))) τ) (k2 : y0 ≤ (tI τ r1 4) → Q (.inl (some (AI 2))) τ) : G d 15 35 [none, vR r1, none] [AI y0] τ Q := by
  refine g_sk 1 (pc1 := 36) (st1 := [AR r1, AI y0]) rfl ?_
  refine g_gI rfl (ci := 6) (k := 4) rfl sh1 ?_
  refine g_br2 rfl (t := 46) rfl (fun c2 => ?_) (fun c2 => ?_)
  · have c2 : (tI τ r1 4) < y0 := of_decide_eq_true c2
    refine g_sk 1 (pc1 := 47) (st1 := [AI 0]) rfl ?_
    refine g_iret rfl rfl ?_
    exact (k1 c2)
  · have c2 : y0 ≤ (tI τ r1 4) := Int.not_lt.mp (of_decide_eq_false c2)
    refine g_sk 2 (pc1 := 47) (st1 := [AI 2]) rfl ?_
    refine g_iret rfl rfl ?_
    exact (k2 c2)

set_option maxRecDepth 8192 in
theorem t16_0 {d : Nat} {τ : T2} {Q : RS → T2 → Prop} {r0 r1 : Nat} (hd : 1 ≤ d) (sh1 : tS τ r0 = (1, 4, 0)) (sh2 : tS τ r1 = (1, 6, 0)) (k1 : ¬ (tI τ r0 1) = (tI τ r1 3) → Q (.inl (some (AI 0))) τ) (k2 : (tI τ r0 1) = (tI τ r1 3) → G (d - 1) 17 0 [vR r0, vI 0, vQ (tP τ r1 2), vI 0, vI (tI τ r1 3), none] [] τ (KC d 16 22 25 [none, none] [] Q)) : G d 16 0 [vR r0, vR r1] [] τ Q := by
  refine g_sk 1 (pc1 := 1) (st1 := [AR r0]) rfl ?_
  refine g_gI rfl (ci := 4) (k := 1) rfl sh1 ?_
  refine g_sk 1 (pc1 := 5) (st1 := [AR r1, AI (tI τ r0 1)]) rfl ?_
  refine g_gI rfl (ci := 6) (k := 3) rfl sh2 ?_
  refine g_br2 rfl (t := 32) rfl (fun c3 => ?_) (fun c3 => ?_)
  · have c3 : ¬ (tI τ r0 1) = (tI τ r1 3) := of_decide_eq_true c3
    refine g_sk 1 (pc1 := 33) (st1 := [AI 0]) rfl ?_
    refine g_zret rfl rfl (by decide) ?_
    exact (k1 c3)
  · have c3 : (tI τ r0 1) = (tI τ r1 3) := Decidable.of_not_not (of_decide_eq_false c3)
    refine g_sk 3 (pc1 := 14) (st1 := [AR r1, AI 0, AR r0]) rfl ?_
    refine g_gP rfl (ci := 6) (k := 2) rfl sh2 ?_
    refine g_sk 2 (pc1 := 19) (st1 := [AR r1, AI 0, AP (tP τ r1 2), AI 0, AR r0]) rfl ?_
    refine g_gI rfl (ci := 6) (k := 3) rfl sh2 ?_
    refine G_fg (lw2_f _ (lw2_f _ lw2_nil)) ?_
    refine g_cv rfl rfl (by decide) rfl rfl (Nat.le_of_ble_eq_true rfl) (as2 := [AI 0, AP (tP τ r1 2), AI 0, AI (tI τ r1 3)]) rfl sh1 rfl (by omega) (L0 := [vR r0, vI 0, vQ (tP τ r1 2), vI 0, vI (tI τ r1 3), none]) rfl ?_
    exact (k2 c3)

set_option maxRecDepth 8192 in
theorem t16_25 {d : Nat} {τ : T2} {Q : RS → T2 → Prop} {y0 : Int} (k1 : y0 = 0 → Q (.inl (some (AI 0))) τ) (k2 : ¬ y0 = 0 → Q (.inl (some (AI 1))) τ) : G d 16 25 [none, none] [AI y0] τ Q := by
  refine g_br1 rfl (t := 32) rfl (fun c1 => ?_) (fun c1 => ?_)
  · have c1 : y0 = 0 := of_decide_eq_true c1
    refine g_sk 1 (pc1 := 33) (st1 := [AI 0]) rfl ?_
    refine g_zret rfl rfl (by decide) ?_
    exact (k1 c1)
  · have c1 : ¬ y0 = 0 := of_decide_eq_false c1
    refine g_sk 2 (pc1 := 33) (st1 := [AI 1]) rfl ?_
    refine g_zret rfl rfl (by decide) ?_
    exact (k2 c1)

set_option maxRecDepth 8192 in
theorem t17_0 {d : Nat} {τ : T2} {Q : RS → T2 → Prop} {x1 x3 x4 : Int} {r0 r2 n3 : Nat} (sh4 : tS τ r2 = (2, 1, n3)) (sh6 : tS τ r0 = (1, 4, 0)) (k1 : x1 < 0 → Q (.inl (some (AI 0))) τ) (k2 : 0 ≤ x1 → x3 < 0 → Q (.inl (some (AI 0))) τ) (k3 : 0 ≤ x1 → 0 ≤ x3 → (n3 : Int) < x4 → Q (.inl (some (AI 0))) τ) (k4 : 0 ≤ x1 → 0 ≤ x3 → x4 ≤ (n3 : Int) → (wr ((wr (x1 + x4)) - x3)) ≤ (tI τ r0 1) → G d 17 33 [vR r0, vI x1, vR r2, vI x3, vI x4, vI x3] [] τ Q) (k5 : 0 ≤ x1 → 0 ≤ x3 → x4 ≤ (n3 : Int) → (tI τ r0 1) < (wr ((wr (x1 + x4)) - x3)) → Q (.inl (some (AI 0))) τ) : G d 17 0 [vR r0, vI x1, vR r2, vI x3, vI x4, none] [] τ Q := by
  refine g_sk 1 (pc1 := 1) (st1 := [AI x1]) rfl ?_
  refine g_br1 rfl (t := 28) rfl (fun c1 => ?_) (fun c1 => ?_)
  · have c1 : x1 < 0 := of_decide_eq_true c1
    refine g_sk 1 (pc1 := 29) (st1 := [AI 0]) rfl ?_
    refine g_zret rfl rfl (by decide) ?_
    exact (k1 c1)
  · have c1 : 0 ≤ x1 := Int.not_lt.mp (of_decide_eq_false c1)
    refine g_sk 1 (pc1 := 5) (st1 := [AI x3]) rfl ?_
    refine g_br1 rfl (t := 28) rfl (fun c2 => ?_) (fun c2 => ?_)
    · have c2 : x3 < 0 := of_decide_eq_true c2
      refine g_sk 1 (pc1 := 29) (st1 := [AI 0]) rfl ?_
      refine g_zret rfl rfl (by decide) ?_
      exact (k2 c1 c2)
    · have c2 : 0 ≤ x3 := Int.not_lt.mp (of_decide_eq_false c2)
      refine g_sk 2 (pc1 := 11) (st1 := [AR r2, AI x4]) rfl ?_
      refine g_al2 rfl sh4 ?_
      refine g_br2 rfl (t := 28) rfl (fun c5 => ?_) (fun c5 => ?_)
      · have c5 : (n3 : Int) < x4 := of_decide_eq_true c5
        refine g_sk 1 (pc1 := 29) (st1 := [AI 0]) rfl ?_
        refine g_zret rfl rfl (by decide) ?_
        exact (k3 c1 c2 c5)
      · have c5 : x4 ≤ (n3 : Int) := Int.not_lt.mp (of_decide_eq_false c5)
        refine g_sk 6 (pc1 := 22) (st1 := [AR r0, AI (wr ((wr (x1 + x4)) - x3))]) rfl ?_
        refine g_gI rfl (ci := 4) (k := 1) rfl sh6 ?_
        refine g_br2 rfl (t := 30) rfl (fun c7 => ?_) (fun c7 => ?_)
        · have c7 : (wr ((wr (x1 + x4)) - x3)) ≤ (tI τ r0 1) := of_decide_eq_true c7
          refine g_sx 2 (pc1 := 33) (L1 := [vR r0, vI x1, vR r2, vI x3, vI x4, vI x3]) (st1 := []) rfl ?_
          exact (k4 c1 c2 c5 c7)
        · have c7 : (tI τ r0 1) < (wr ((wr (x1 + x4)) - x3)) := Int.not_le.mp (of_decide_eq_false c7)
          refine g_sk 1 (pc1 := 29) (st1 := [AI 0]) rfl ?_
          refine g_zret rfl rfl (by decide) ?_
          exact (k5 c1 c2 c5 c7)

set_option maxRecDepth 8192 in
theorem t17_33 {d : Nat} {τ : T2} {Q : RS → T2 → Prop} {x1 x3 x4 x5 : Int} {r0 r2 q4 n6 n9 : Nat} (sh3 : tS τ r0 = (1, 4, 0)) (p5 : tP τ r0 0 = some q4) (sh7 : tS τ q4 = (2, 1, n6)) (b8 : x5 < x4 → (wr ((wr (x1 + x5)) - x3)) < 300 → (0 : Int) ≤ (wr ((wr (x1 + x5)) - x3)) ∧ (wr ((wr (x1 + x5)) - x3)) < (n6 : Int)) (sh10 : tS τ r2 = (2, 1, n9)) (b11 : x5 < x4 → (wr ((wr (x1 + x5)) - x3)) < 300 → (0 : Int) ≤ x5 ∧ x5 < (n9 : Int)) (k1 : x4 ≤ x5 → Q (.inl (some (AI 1))) τ) (k2 : x5 < x4 → 300 ≤ (wr ((wr (x1 + x5)) - x3)) → Q (.inl (some (AI 1))) τ) (k3 : x5 < x4 → (wr ((wr (x1 + x5)) - x3)) < 300 → (tI τ q4 (wr ((wr (x1 + x5)) - x3)).toNat) = (tI τ r2 x5.toNat) → G d 17 33 [vR r0, vI x1, vR r2, vI x3, vI x4, vI (wr (x5 + 1))] [] τ Q) (k4 : x5 < x4 → (wr ((wr (x1 + x5)) - x3)) < 300 → ¬ (tI τ q4 (wr ((wr (x1 + x5)) - x3)).toNat) = (tI τ r2 x5.toNat) → Q (.inl (some (AI 0))) τ) : G d 17 33 [vR r0, vI x1, vR r2, vI x3, vI x4, vI x5] [] τ Q := by
  refine g_sk 2 (pc1 := 37) (st1 := [AI x4, AI x5]) rfl ?_
  refine g_br2 rfl (t := 78) rfl (fun c1 => ?_) (fun c1 => ?_)
  · have c1 : x4 ≤ x5 := of_decide_eq_true c1
    refine g_sk 1 (pc1 := 79) (st1 := [AI 1]) rfl ?_
    refine g_zret rfl rfl (by decide) ?_
    exact (k1 c1)
  · have c1 : x5 < x4 := Int.not_le.mp (of_decide_eq_false c1)
    refine g_sk 6 (pc1 := 49) (st1 := [AI 300, AI (wr ((wr (x1 + x5)) - x3))]) rfl ?_
    refine g_br2 rfl (t := 78) rfl (fun c2 => ?_) (fun c2 => ?_)
    · have c2 : 300 ≤ (wr ((wr (x1 + x5)) - x3)) := of_decide_eq_true c2
      refine g_sk 1 (pc1 := 79) (st1 := [AI 1]) rfl ?_
      refine g_zret rfl rfl (by decide) ?_
      exact (k2 c1 c2)
    · have c2 : (wr ((wr (x1 + x5)) - x3)) < 300 := Int.not_le.mp (of_decide_eq_false c2)
      refine g_sk 1 (pc1 := 53) (st1 := [AR r0]) rfl ?_
      refine g_gQ rfl (ci := 4) (k := 0) rfl sh3 p5 ?_
      refine g_sk 5 (pc1 := 62) (st1 := [AI (wr ((wr (x1 + x5)) - x3)), AR q4]) rfl ?_
      refine g_bald rfl sh7 (by decide) (b8 c1 c2).1 (b8 c1 c2).2 ?_
      refine g_sk 2 (pc1 := 66) (st1 := [AI x5, AR r2, AI (tI τ q4 (wr ((wr (x1 + x5)) - x3)).toNat)]) rfl ?_
      refine g_bald rfl sh10 (by decide) (b11 c1 c2).1 (b11 c1 c2).2 ?_
      refine g_br2 rfl (t := 72) rfl (fun c12 => ?_) (fun c12 => ?_)
      · have c12 : (tI τ q4 (wr ((wr (x1 + x5)) - x3)).toNat) = (tI τ r2 x5.toNat) := of_decide_eq_true c12
        refine g_sx 2 (pc1 := 33) (L1 := [vR r0, vI x1, vR r2, vI x3, vI x4, vI (wr (x5 + 1))]) (st1 := []) rfl ?_
        exact (k3 c1 c2 c12)
      · have c12 : ¬ (tI τ q4 (wr ((wr (x1 + x5)) - x3)).toNat) = (tI τ r2 x5.toNat) := of_decide_eq_false c12
        refine g_sk 1 (pc1 := 71) (st1 := [AI 0]) rfl ?_
        refine g_zret rfl rfl (by decide) ?_
        exact (k4 c1 c2 c12)

set_option maxRecDepth 8192 in
theorem t18_0 {d : Nat} {τ : T2} {Q : RS → T2 → Prop} {r0 r1 : Nat} (hd : 17 ≤ d) (sh1 : tS τ r1 = (1, 6, 0)) (k1 : G d 18 12 [vR r0, vR r1, vI (if 12 < (tI τ r1 3) then 12 else (tI τ r1 3)), vI 0, none, none, none] [] τ Q) : G d 18 0 [vR r0, vR r1, none, none, none, none, none] [] τ Q := by
  refine g_sk 1 (pc1 := 1) (st1 := [AR r1]) rfl ?_
  refine g_gI rfl (ci := 6) (k := 3) rfl sh1 ?_
  refine g_sk 1 (pc1 := 6) (st1 := [AI 12, AI (tI τ r1 3)]) rfl ?_
  refine g_min rfl rfl rfl hd ?_
  refine g_sx 3 (pc1 := 12) (L1 := [vR r0, vR r1, vI (if 12 < (tI τ r1 3) then 12 else (tI τ r1 3)), vI 0, none, none, none]) (st1 := []) rfl ?_
  exact k1

set_option maxRecDepth 8192 in
theorem t18_12 {d : Nat} {τ : T2} {Q : RS → T2 → Prop} {x2 x3 : Int} {r0 q3 n5 : Nat} {r1 : Option Nat} (sh2 : tS τ r0 = (1, 4, 0)) (p4 : tP τ r0 3 = some q3) (sh6 : tS τ q3 = (2, 0, n5)) (b7 : x3 ≤ x2 → (0 : Int) ≤ x3 ∧ x3 < (n5 : Int)) (k1 : x2 < x3 → G d 18 32 [vR r0, vQ r1, vI x2, vI 0, none, none, none] [] τ Q) (k2 : x3 ≤ x2 → G d 18 12 [vR r0, vQ r1, vI x2, vI (wr (x3 + 1)), none, none, none] [] (uI τ q3 x3.toNat x3) Q) : G d 18 12 [vR r0, vQ r1, vI x2, vI x3, none, none, none] [] τ Q := by
  refine g_sk 2 (pc1 := 14) (st1 := [AI x2, AI x3]) rfl ?_
  refine g_br2 rfl (t := 30) rfl (fun c1 => ?_) (fun c1 => ?_)
  · have c1 : x2 < x3 := of_decide_eq_true c1
    refine g_sx 2 (pc1 := 32) (L1 := [vR r0, vQ r1, vI x2, vI 0, none, none, none]) (st1 := []) rfl ?_
    exact (k1 c1)
  · have c1 : x3 ≤ x2 := Int.not_lt.mp (of_decide_eq_false c1)
    refine g_sk 1 (pc1 := 18) (st1 := [AR r0]) rfl ?_
    refine g_gQ rfl (ci := 4) (k := 3) rfl sh2 p4 ?_
    refine g_sk 2 (pc1 := 23) (st1 := [AI x3, AI x3, AR q3]) rfl ?_
    refine g_iast rfl sh6 (b7 c1).1 (b7 c1).2 ?_
    refine g_sx 2 (pc1 := 12) (L1 := [vR r0, vQ r1, vI x2, vI (wr (x3 + 1)), none, none, none]) (st1 := []) rfl ?_
    exact (k2 c1)

set_option maxRecDepth 8192 in
theorem t18_32 {d : Nat} {τ : T2} {Q : RS → T2 → Prop} {x2 x3 : Int} {r0 q4 n6 : Nat} {r1 : Option Nat} (sh1 : tS τ r0 = (1, 4, 0)) (p5 : tP τ r0 3 = some q4) (sh7 : tS τ q4 = (2, 0, n6)) (b8 : (tI τ r0 1) ≤ x3 → 0 ≤ x2 → (0 : Int) ≤ x2 ∧ x2 < (n6 : Int)) (b11 : x3 < (tI τ r0 1) → 300 ≤ x3 → 0 ≤ x2 → (0 : Int) ≤ x2 ∧ x2 < (n6 : Int)) (b12 : (0 : Int) ≤ 0 ∧ 0 < (n6 : Int)) (k1 : (tI τ r0 1) ≤ x3 → 0 ≤ x2 → Q (.inl (some (AI (tI τ q4 x2.toNat)))) τ) (k2 : (tI τ r0 1) ≤ x3 → x2 < 0 → Q (.inl (some (AI (tI τ r0 1)))) τ) (k3 : x3 < (tI τ r0 1) → 300 ≤ x3 → 0 ≤ x2 → Q (.inl (some (AI (tI τ q4 x2.toNat)))) τ) (k4 : x3 < (tI τ r0 1) → 300 ≤ x3 → x2 < 0 → Q (.inl (some (AI (tI τ r0 1)))) τ) (k5 : x3 < (tI τ r0 1) → x3 < 300 → G d 18 67 [vR r0, vQ r1, vI x2, vI x3, vI (tI τ q4 0), vI 1, none] [] (uI τ q4 0 (wr (x3 + 1))) Q) : G d 18 32 [vR r0, vQ r1, vI x2, vI x3, none, none, none] [] τ Q := by
  refine g_sk 2 (pc1 := 34) (st1 := [AR r0, AI x3]) rfl ?_
  refine g_gI rfl (ci := 4) (k := 1) rfl sh1 ?_
  refine g_br2 rfl (t := 155) rfl (fun c2 => ?_) (fun c2 => ?_)
  · have c2 : (tI τ r0 1) ≤ x3 := of_decide_eq_true c2
    refine g_sk 1 (pc1 := 156) (st1 := [AI x2]) rfl ?_
    refine g_br1 rfl (t := 166) rfl (fun c3 => ?_) (fun c3 => ?_)
    · have c3 : 0 ≤ x2 := of_decide_eq_true c3
      refine g_sk 1 (pc1 := 167) (st1 := [AR r0]) rfl ?_
      refine g_gQ rfl (ci := 4) (k := 3) rfl sh1 p5 ?_
      refine g_sk 1 (pc1 := 171) (st1 := [AI x2, AR q4]) rfl ?_
      refine g_iald rfl sh7 (by decide) (b8 c2 c3).1 (b8 c2 c3).2 ?_
      refine g_iret rfl rfl ?_
      exact (k1 c2 c3)
    · have c3 : x2 < 0 := Int.not_le.mp (of_decide_eq_false c3)
      refine g_sk 1 (pc1 := 160) (st1 := [AR r0]) rfl ?_
      refine g_gI rfl (ci := 4) (k := 1) rfl sh1 ?_
      refine g_sk 1 (pc1 := 172) (st1 := [AI (tI τ r0 1)]) rfl ?_
      refine g_iret rfl rfl ?_
      exact (k2 c2 c3)
  · have c2 : x3 < (tI τ r0 1) := Int.not_le.mp (of_decide_eq_false c2)
    refine g_sk 2 (pc1 := 44) (st1 := [AI 300, AI x3]) rfl ?_
    refine g_br2 rfl (t := 155) rfl (fun c9 => ?_) (fun c9 => ?_)
    · have c9 : 300 ≤ x3 := of_decide_eq_true c9
      refine g_sk 1 (pc1 := 156) (st1 := [AI x2]) rfl ?_
      refine g_br1 rfl (t := 166) rfl (fun c10 => ?_) (fun c10 => ?_)
      · have c10 : 0 ≤ x2 := of_decide_eq_true c10
        refine g_sk 1 (pc1 := 167) (st1 := [AR r0]) rfl ?_
        refine g_gQ rfl (ci := 4) (k := 3) rfl sh1 p5 ?_
        refine g_sk 1 (pc1 := 171) (st1 := [AI x2, AR q4]) rfl ?_
        refine g_iald rfl sh7 (by decide) (b11 c2 c9 c10).1 (b11 c2 c9 c10).2 ?_
        refine g_iret rfl rfl ?_
        exact (k3 c2 c9 c10)
      · have c10 : x2 < 0 := Int.not_le.mp (of_decide_eq_false c10)
        refine g_sk 1 (pc1 := 160) (st1 := [AR r0]) rfl ?_
        refine g_gI rfl (ci := 4) (k := 1) rfl sh1 ?_
        refine g_sk 1 (pc1 := 172) (st1 := [AI (tI τ r0 1)]) rfl ?_
        refine g_iret rfl rfl ?_
        exact (k4 c2 c9 c10)
    · have c9 : x3 < 300 := Int.not_le.mp (of_decide_eq_false c9)
      refine g_sk 1 (pc1 := 48) (st1 := [AR r0]) rfl ?_
      refine g_gQ rfl (ci := 4) (k := 3) rfl sh1 p5 ?_
      refine g_sk 1 (pc1 := 52) (st1 := [AI 0, AR q4]) rfl ?_
      refine g_iald rfl sh7 (by decide) b12.1 b12.2 ?_
      refine g_sx 2 (pc1 := 56) (L1 := [vR r0, vQ r1, vI x2, vI x3, vI (tI τ q4 0), none, none]) (st1 := [AR r0]) rfl ?_
      refine g_gQ rfl (ci := 4) (k := 3) rfl sh1 p5 ?_
      refine g_sk 4 (pc1 := 63) (st1 := [AI (wr (x3 + 1)), AI 0, AR q4]) rfl ?_
      refine g_iast rfl sh7 b12.1 b12.2 ?_
      refine g_sx 2 (pc1 := 67) (L1 := [vR r0, vQ r1, vI x2, vI x3, vI (tI τ q4 0), vI 1, none]) (st1 := []) rfl ?_
      exact (k5 c2 c9)

set_option maxRecDepth 8192 in
theorem t18_67 {d : Nat} {τ : T2} {Q : RS → T2 → Prop} {x2 x3 x4 x5 : Int} {r0 r1 q3 n5 q9 n11 q15 n17 : Nat} (hd : 17 ≤ d) (sh2 : tS τ r0 = (1, 4, 0)) (p4 : tP τ r0 0 = some q3) (sh6 : tS τ q3 = (2, 1, n5)) (b7 : x5 ≤ x2 → (0 : Int) ≤ x3 ∧ x3 < (n5 : Int)) (sh8 : tS τ r1 = (1, 6, 0)) (p10 : tP τ r1 2 = some q9) (sh12 : tS τ q9 = (2, 1, n11)) (b13 : x5 ≤ x2 → (0 : Int) ≤ (wr (x5 - 1)) ∧ (wr (x5 - 1)) < (n11 : Int)) (p16 : tP τ r0 3 = some q15) (sh18 : tS τ q15 = (2, 0, n17)) (b19 : x5 ≤ x2 → ¬ (tI τ q3 x3.toNat) = (tI τ q9 (wr (x5 - 1)).toNat) → (0 : Int) ≤ x5 ∧ x5 < (n17 : Int)) (b20 : x5 ≤ x2 → ¬ (tI τ q3 x3.toNat) = (tI τ q9 (wr (x5 - 1)).toNat) → (0 : Int) ≤ (wr (x5 - 1)) ∧ (wr (x5 - 1)) < (n17 : Int)) (b23 : x5 ≤ x2 → (tI τ q3 x3.toNat) = (tI τ q9 (wr (x5 - 1)).toNat) → (0 : Int) ≤ x5 ∧ x5 < (n17 : Int)) (b24 : x5 ≤ x2 → (tI τ q3 x3.toNat) = (tI τ q9 (wr (x5 - 1)).toNat) → (0 : Int) ≤ (wr (x5 - 1)) ∧ (wr (x5 - 1)) < (n17 : Int)) (k1 : x2 < x5 → G d 18 32 [vR r0, vR r1, vI x2, vI (wr (x3 + 1)), none, none, none] [] τ Q) (k2 : x5 ≤ x2 → ¬ (tI τ q3 x3.toNat) = (tI τ q9 (wr (x5 - 1)).toNat) → ∀ τ21, (uI τ q15 x5.toNat (if (wr ((if (tI τ q15 (wr (x5 - 1)).toNat) < (tI τ q15 x5.toNat) then (tI τ q15 (wr (x5 - 1)).toNat) else (tI τ q15 x5.toNat)) + 1)) < (wr (x4 + 1)) then (wr ((if (tI τ q15 (wr (x5 - 1)).toNat) < (tI τ q15 x5.toNat) then (tI τ q15 (wr (x5 - 1)).toNat) else (tI τ q15 x5.toNat)) + 1)) else (wr (x4 + 1)))) = τ21 → G d 18 67 [vR r0, vR r1, vI x2, vI x3, vI (tI τ q15 x5.toNat), vI (wr (x5 + 1)), none] [] τ21 Q) (k3 : x5 ≤ x2 → (tI τ q3 x3.toNat) = (tI τ q9 (wr (x5 - 1)).toNat) → ∀ τ25, (uI τ q15 x5.toNat (if (wr ((if (tI τ q15 (wr (x5 - 1)).toNat) < (tI τ q15 x5.toNat) then (tI τ q15 (wr (x5 - 1)).toNat) else (tI τ q15 x5.toNat)) + 1)) < (wr (x4 + 0)) then (wr ((if (tI τ q15 (wr (x5 - 1)).toNat) < (tI τ q15 x5.toNat) then (tI τ q15 (wr (x5 - 1)).toNat) else (tI τ q15 x5.toNat)) + 1)) else (wr (x4 + 0)))) = τ25 → G d 18 67 [vR r0, vR r1, vI x2, vI x3, vI (tI τ q15 x5.toNat), vI (wr (x5 + 1)), none] [] τ25 Q) : G d 18 67 [vR r0, vR r1, vI x2, vI x3, vI x4, vI x5, none] [] τ Q := by
  refine g_sk 2 (pc1 := 70) (st1 := [AI x2, AI x5]) rfl ?_
  refine g_br2 rfl (t := 149) rfl (fun c1 => ?_) (fun c1 => ?_)
  · have c1 : x2 < x5 := of_decide_eq_true c1
    refine g_sx 2 (pc1 := 32) (L1 := [vR r0, vR r1, vI x2, vI (wr (x3 + 1)), vI x4, vI x5, none]) (st1 := []) rfl ?_
    exact G_fg (lw2_k _ (lw2_k _ (lw2_k _ (lw2_k _ (lw2_f _ (lw2_f _ (lw2_k _ lw2_nil))))))) (k1 c1)
  · have c1 : x5 ≤ x2 := Int.not_lt.mp (of_decide_eq_false c1)
    refine g_sk 2 (pc1 := 76) (st1 := [AR r0, AI x4]) rfl ?_
    refine g_gQ rfl (ci := 4) (k := 0) rfl sh2 p4 ?_
    refine g_sk 1 (pc1 := 80) (st1 := [AI x3, AR q3, AI x4]) rfl ?_
    refine g_bald rfl sh6 (by decide) (b7 c1).1 (b7 c1).2 ?_
    refine g_sk 1 (pc1 := 82) (st1 := [AR r1, AI (tI τ q3 x3.toNat), AI x4]) rfl ?_
    refine g_gQ rfl (ci := 6) (k := 2) rfl sh8 p10 ?_
    refine g_sk 3 (pc1 := 89) (st1 := [AI (wr (x5 - 1)), AR q9, AI (tI τ q3 x3.toNat), AI x4]) rfl ?_
    refine g_bald rfl sh12 (by decide) (b13 c1).1 (b13 c1).2 ?_
    refine g_br2 rfl (t := 97) rfl (fun c14 => ?_) (fun c14 => ?_)
    · have c14 : ¬ (tI τ q3 x3.toNat) = (tI τ q9 (wr (x5 - 1)).toNat) := of_decide_eq_true c14
      refine g_sx 4 (pc1 := 102) (L1 := [vR r0, vR r1, vI x2, vI x3, vI x4, vI x5, vI (wr (x4 + 1))]) (st1 := [AR r0]) rfl ?_
      refine g_gQ rfl (ci := 4) (k := 3) rfl sh2 p16 ?_
      refine g_sk 1 (pc1 := 107) (st1 := [AI x5, AR q15]) rfl ?_
      refine g_iald rfl sh18 (by decide) (b19 c1 c14).1 (b19 c1 c14).2 ?_
      refine g_sx 2 (pc1 := 111) (L1 := [vR r0, vR r1, vI x2, vI x3, vI (tI τ q15 x5.toNat), vI x5, vI (wr (x4 + 1))]) (st1 := [AR r0]) rfl ?_
      refine g_gQ rfl (ci := 4) (k := 3) rfl sh2 p16 ?_
      refine g_sk 3 (pc1 := 119) (st1 := [AR r0, AI (wr (x4 + 1)), AI x5, AR q15]) rfl ?_
      refine g_gQ rfl (ci := 4) (k := 3) rfl sh2 p16 ?_
      refine g_sk 1 (pc1 := 124) (st1 := [AI x5, AR q15, AI (wr (x4 + 1)), AI x5, AR q15]) rfl ?_
      refine g_iald rfl sh18 (by decide) (b19 c1 c14).1 (b19 c1 c14).2 ?_
      refine g_sk 1 (pc1 := 126) (st1 := [AR r0, AI (tI τ q15 x5.toNat), AI (wr (x4 + 1)), AI x5, AR q15]) rfl ?_
      refine g_gQ rfl (ci := 4) (k := 3) rfl sh2 p16 ?_
      refine g_sk 3 (pc1 := 133) (st1 := [AI (wr (x5 - 1)), AR q15, AI (tI τ q15 x5.toNat), AI (wr (x4 + 1)), AI x5, AR q15]) rfl ?_
      refine g_iald rfl sh18 (by decide) (b20 c1 c14).1 (b20 c1 c14).2 ?_
      refine g_min rfl rfl rfl hd ?_
      refine g_sk 2 (pc1 := 139) (st1 := [AI (wr ((if (tI τ q15 (wr (x5 - 1)).toNat) < (tI τ q15 x5.toNat) then (tI τ q15 (wr (x5 - 1)).toNat) else (tI τ q15 x5.toNat)) + 1)), AI (wr (x4 + 1)), AI x5, AR q15]) rfl ?_
      refine g_min rfl rfl rfl hd ?_
      refine g_iast rfl sh18 (b19 c1 c14).1 (b19 c1 c14).2 ?_
      generalize e22 : (uI τ q15 x5.toNat (if (wr ((if (tI τ q15 (wr (x5 - 1)).toNat) < (tI τ q15 x5.toNat) then (tI τ q15 (wr (x5 - 1)).toNat) else (tI τ q15 x5.toNat)) + 1)) < (wr (x4 + 1)) then (wr ((if (tI τ q15 (wr (x5 - 1)).toNat) < (tI τ q15 x5.toNat) then (tI τ q15 (wr (x5 - 1)).toNat) else (tI τ q15 x5.toNat)) + 1)) else (wr (x4 + 1)))) = τ21
      refine g_sx 2 (pc1 := 67) (L1 := [vR r0, vR r1, vI x2, vI x3, vI (tI τ q15 x5.toNat), vI (wr (x5 + 1)), vI (wr (x4 + 1))]) (st1 := []) rfl ?_
      exact G_fg (lw2_k _ (lw2_k _ (lw2_k _ (lw2_k _ (lw2_k _ (lw2_k _ (lw2_f _ lw2_nil))))))) (k2 c1 c14 τ21 e22)
    · have c14 : (tI τ q3 x3.toNat) = (tI τ q9 (wr (x5 - 1)).toNat) := Decidable.of_not_not (of_decide_eq_false c14)
      refine g_sx 5 (pc1 := 102) (L1 := [vR r0, vR r1, vI x2, vI x3, vI x4, vI x5, vI (wr (x4 + 0))]) (st1 := [AR r0]) rfl ?_
      refine g_gQ rfl (ci := 4) (k := 3) rfl sh2 p16 ?_
      refine g_sk 1 (pc1 := 107) (st1 := [AI x5, AR q15]) rfl ?_
      refine g_iald rfl sh18 (by decide) (b23 c1 c14).1 (b23 c1 c14).2 ?_
      refine g_sx 2 (pc1 := 111) (L1 := [vR r0, vR r1, vI x2, vI x3, vI (tI τ q15 x5.toNat), vI x5, vI (wr (x4 + 0))]) (st1 := [AR r0]) rfl ?_
      refine g_gQ rfl (ci := 4) (k := 3) rfl sh2 p16 ?_
      refine g_sk 3 (pc1 := 119) (st1 := [AR r0, AI (wr (x4 + 0)), AI x5, AR q15]) rfl ?_
      refine g_gQ rfl (ci := 4) (k := 3) rfl sh2 p16 ?_
      refine g_sk 1 (pc1 := 124) (st1 := [AI x5, AR q15, AI (wr (x4 + 0)), AI x5, AR q15]) rfl ?_
      refine g_iald rfl sh18 (by decide) (b23 c1 c14).1 (b23 c1 c14).2 ?_
      refine g_sk 1 (pc1 := 126) (st1 := [AR r0, AI (tI τ q15 x5.toNat), AI (wr (x4 + 0)), AI x5, AR q15]) rfl ?_
      refine g_gQ rfl (ci := 4) (k := 3) rfl sh2 p16 ?_
      refine g_sk 3 (pc1 := 133) (st1 := [AI (wr (x5 - 1)), AR q15, AI (tI τ q15 x5.toNat), AI (wr (x4 + 0)), AI x5, AR q15]) rfl ?_
      refine g_iald rfl sh18 (by decide) (b24 c1 c14).1 (b24 c1 c14).2 ?_
      refine g_min rfl rfl rfl hd ?_
      refine g_sk 2 (pc1 := 139) (st1 := [AI (wr ((if (tI τ q15 (wr (x5 - 1)).toNat) < (tI τ q15 x5.toNat) then (tI τ q15 (wr (x5 - 1)).toNat) else (tI τ q15 x5.toNat)) + 1)), AI (wr (x4 + 0)), AI x5, AR q15]) rfl ?_
      refine g_min rfl rfl rfl hd ?_
      refine g_iast rfl sh18 (b23 c1 c14).1 (b23 c1 c14).2 ?_
      generalize e26 : (uI τ q15 x5.toNat (if (wr ((if (tI τ q15 (wr (x5 - 1)).toNat) < (tI τ q15 x5.toNat) then (tI τ q15 (wr (x5 - 1)).toNat) else (tI τ q15 x5.toNat)) + 1)) < (wr (x4 + 0)) then (wr ((if (tI τ q15 (wr (x5 - 1)).toNat) < (tI τ q15 x5.toNat) then (tI τ q15 (wr (x5 - 1)).toNat) else (tI τ q15 x5.toNat)) + 1)) else (wr (x4 + 0)))) = τ25
      refine g_sx 2 (pc1 := 67) (L1 := [vR r0, vR r1, vI x2, vI x3, vI (tI τ q15 x5.toNat), vI (wr (x5 + 1)), vI (wr (x4 + 0))]) (st1 := []) rfl ?_
      exact G_fg (lw2_k _ (lw2_k _ (lw2_k _ (lw2_k _ (lw2_k _ (lw2_k _ (lw2_f _ lw2_nil))))))) (k3 c1 c14 τ25 e26)

set_option maxRecDepth 8192 in
theorem t19_0 {d : Nat} {τ : T2} {Q : RS → T2 → Prop} {r0 r1 q2 n4 : Nat} (hd : 1 ≤ d) (sh1 : tS τ r1 = (1, 3, 0)) (p3 : tP τ r1 0 = some q2) (sh5 : tS τ q2 = (2, 0, n4)) (sh7 : tS τ r0 = (1, 4, 0)) (k1 : (zdiv (n4 : Int) 3) ≤ 400 → G (d - 1) 260 0 [vQ (tP τ r0 2), vI 0, vI (wr ((wr ((zdiv (n4 : Int) 3) + 1)) * 5)), vJ 0, none, none] [] τ (KC d 19 28 31 [vR r0, vR r1, vI (zdiv (n4 : Int) 3), none, none] [] Q)) (k2 : 400 < (zdiv (n4 : Int) 3) → Q (.inl (some (AI 0))) τ) : G d 19 0 [vR r0, vR r1, none, none, none] [] τ Q := by
  refine g_sk 1 (pc1 := 1) (st1 := [AR r1]) rfl ?_
  refine g_gQ rfl (ci := 3) (k := 0) rfl sh1 p3 ?_
  refine g_al2 rfl sh5 ?_
  refine g_sk 1 (pc1 := 6) (st1 := [AI 3, AI (n4 : Int)]) rfl ?_
  refine g_div rfl (by decide) ?_
  refine g_sx 3 (pc1 := 12) (L1 := [vR r0, vR r1, vI (zdiv (n4 : Int) 3), none, none]) (st1 := [AI 400, AI (zdiv (n4 : Int) 3)]) rfl ?_
  refine g_br2 rfl (t := 17) rfl (fun c6 => ?_) (fun c6 => ?_)
  · have c6 : (zdiv (n4 : Int) 3) ≤ 400 := of_decide_eq_true c6
    refine g_sk 1 (pc1 := 18) (st1 := [AR r0]) rfl ?_
    refine g_gP rfl (ci := 4) (k := 2) rfl sh7 ?_
    refine g_sk 7 (pc1 := 28) (st1 := [AL 0, AI (wr ((wr ((zdiv (n4 : Int) 3) + 1)) * 5)), AI 0, AP (tP τ r0 2)]) rfl ?_
    refine g_cs rfl rfl (by decide) rfl rfl (Nat.le_of_ble_eq_true rfl) rfl (by omega) (L0 := [vQ (tP τ r0 2), vI 0, vI (wr ((wr ((zdiv (n4 : Int) 3) + 1)) * 5)), vJ 0, none, none]) rfl ?_
    exact (k1 c6)
  · have c6 : 400 < (zdiv (n4 : Int) 3) := Int.not_le.mp (of_decide_eq_false c6)
    refine g_sk 1 (pc1 := 16) (st1 := [AI 0]) rfl ?_
    refine g_zret rfl rfl (by decide) ?_
    exact (k2 c6)

set_option maxRecDepth 8192 in
theorem t19_31 {d : Nat} {τ : T2} {Q : RS → T2 → Prop} {x2 : Int} {r0 q2 n4 : Nat} {r1 : Option Nat} (sh1 : tS τ r0 = (1, 4, 0)) (p3 : tP τ r0 2 = some q2) (sh5 : tS τ q2 = (2, 3, n4)) (b6 : (0 : Int) ≤ 0 ∧ 0 < (n4 : Int)) (k1 : G d 19 45 [vR r0, vQ r1, vI x2, vI 0, vI 400] [] (uI τ q2 0 1) Q) : G d 19 31 [vR r0, vQ r1, vI x2, none, none] [] τ Q := by
  refine g_sk 1 (pc1 := 32) (st1 := [AR r0]) rfl ?_
  refine g_gQ rfl (ci := 4) (k := 2) rfl sh1 p3 ?_
  refine g_sk 2 (pc1 := 37) (st1 := [AL 1, AI 0, AR q2]) rfl ?_
  refine g_last rfl sh5 b6.1 b6.2 ?_
  refine g_sx 4 (pc1 := 45) (L1 := [vR r0, vQ r1, vI x2, vI 0, vI 400]) (st1 := []) rfl ?_
  exact k1

set_option maxRecDepth 8192 in
theorem t19_45 {d : Nat} {τ : T2} {Q : RS → T2 → Prop} {x2 x3 x4 : Int} {r0 : Nat} {r1 : Option Nat} (hd : 1 ≤ d) (sh2 : tS τ r0 = (1, 4, 0)) (k1 : x4 ≤ 0 → G (d - 1) 24 0 [vR r0, vI x2, vI (tI τ r0 1)] [] τ (KC d 19 74 77 [none, none, none, none, none] [] Q)) (k2 : 0 < x4 → x2 ≤ x3 → G (d - 1) 24 0 [vR r0, vI x2, vI (tI τ r0 1)] [] τ (KC d 19 74 77 [none, none, none, none, none] [] Q)) (k3 : 0 < x4 → x3 < x2 → G (d - 1) 20 0 [vR r0, vI x3, vQ r1, none, none] [] τ (KC d 19 58 61 [vR r0, vQ r1, vI x2, none, vI x4] [] Q)) : G d 19 45 [vR r0, vQ r1, vI x2, vI x3, vI x4] [] τ Q := by
  refine g_sk 1 (pc1 := 47) (st1 := [AI x4]) rfl ?_
  refine g_br1 rfl (t := 68) rfl (fun c1 => ?_) (fun c1 => ?_)
  · have c1 : x4 ≤ 0 := of_decide_eq_true c1
    refine g_sk 3 (pc1 := 71) (st1 := [AR r0, AI x2, AR r0]) rfl ?_
    refine g_gI rfl (ci := 4) (k := 1) rfl sh2 ?_
    refine G_fg (lw2_f _ (lw2_f _ (lw2_f _ (lw2_f _ (lw2_f _ lw2_nil))))) ?_
    refine g_cv rfl rfl (by decide) rfl rfl (Nat.le_of_ble_eq_true rfl) (as2 := [AI x2, AI (tI τ r0 1)]) rfl sh2 rfl (by omega) (L0 := [vR r0, vI x2, vI (tI τ r0 1)]) rfl ?_
    exact (k1 c1)
  · have c1 : 0 < x4 := Int.not_le.mp (of_decide_eq_false c1)
    refine g_sk 2 (pc1 := 52) (st1 := [AI x2, AI x3]) rfl ?_
    refine g_br2 rfl (t := 68) rfl (fun c3 => ?_) (fun c3 => ?_)
    · have c3 : x2 ≤ x3 := of_decide_eq_true c3
      refine g_sk 3 (pc1 := 71) (st1 := [AR r0, AI x2, AR r0]) rfl ?_
      refine g_gI rfl (ci := 4) (k := 1) rfl sh2 ?_
      refine G_fg (lw2_f _ (lw2_f _ (lw2_f _ (lw2_f _ (lw2_f _ lw2_nil))))) ?_
      refine g_cv rfl rfl (by decide) rfl rfl (Nat.le_of_ble_eq_true rfl) (as2 := [AI x2, AI (tI τ r0 1)]) rfl sh2 rfl (by omega) (L0 := [vR r0, vI x2, vI (tI τ r0 1)]) rfl ?_
      exact (k2 c1 c3)
    · have c3 : x3 < x2 := Int.not_le.mp (of_decide_eq_false c3)
      refine g_sk 3 (pc1 := 58) (st1 := [AP r1, AI x3, AR r0]) rfl ?_
      refine G_fg (lw2_k _ (lw2_k _ (lw2_k _ (lw2_f _ (lw2_k _ lw2_nil))))) ?_
      refine g_cv rfl rfl (by decide) rfl rfl (Nat.le_of_ble_eq_true rfl) (as2 := [AI x3, AP r1]) rfl sh2 rfl (by omega) (L0 := [vR r0, vI x3, vQ r1, none, none]) rfl ?_
      exact (k3 c1 c3)

set_option maxRecDepth 8192 in
theorem t19_61 {d : Nat} {τ : T2} {Q : RS → T2 → Prop} {x2 x4 y0 : Int} {r0 : Nat} {r1 : Option Nat} (k1 : G d 19 45 [vR r0, vQ r1, vI x2, vI y0, vI (wr (x4 + (-1)))] [] τ Q) : G d 19 61 [vR r0, vQ r1, vI x2, none, vI x4] [AI y0] τ Q := by
  refine g_sx 3 (pc1 := 45) (L1 := [vR r0, vQ r1, vI x2, vI y0, vI (wr (x4 + (-1)))]) (st1 := []) rfl ?_
  exact k1

set_option maxRecDepth 8192 in
theorem t19_77 {d : Nat} {τ : T2} {Q : RS → T2 → Prop} {y0 : Int} (p1 : y0 = 0 ∨ y0 = 1) (k1 : Q (.inl (some (AI y0))) τ) : G d 19 77 [none, none, none, none, none] [AI y0] τ Q := by
  refine g_zret rfl rfl p1 ?_
  exact k1

set_option maxRecDepth 8192 in
theorem t20_0 {d : Nat} {τ : T2} {Q : RS → T2 → Prop} {x1 : Int} {r0 r2 q2 n4 : Nat} (sh1 : tS τ r2 = (1, 3, 0)) (p3 : tP τ r2 0 = some q2) (sh5 : tS τ q2 = (2, 0, n4)) (b6 : (0 : Int) ≤ (wr ((wr (x1 * 3)) + 1)) ∧ (wr ((wr (x1 * 3)) + 1)) < (n4 : Int)) (b7 : (0 : Int) ≤ (wr ((wr (x1 * 3)) + 2)) ∧ (wr ((wr (x1 * 3)) + 2)) < (n4 : Int)) (b8 : (0 : Int) ≤ (wr (x1 * 3)) ∧ (wr (x1 * 3)) < (n4 : Int)) (k1 : G d 20 31 [vR r0, vI x1, vR r2, vI (tI τ q2 (wr ((wr (x1 * 3)) + 1)).toNat), vI (tI τ q2 (wr ((wr (x1 * 3)) + 2)).toNat)] [AI (tI τ q2 (wr (x1 * 3)).toNat)] τ Q) : G d 20 0 [vR r0, vI x1, vR r2, none, none] [] τ Q := by
  refine g_sk 1 (pc1 := 1) (st1 := [AR r2]) rfl ?_
  refine g_gQ rfl (ci := 3) (k := 0) rfl sh1 p3 ?_
  refine g_sk 5 (pc1 := 9) (st1 := [AI (wr ((wr (x1 * 3)) + 1)), AR q2]) rfl ?_
  refine g_iald rfl sh5 (by decide) b6.1 b6.2 ?_
  refine g_sx 2 (pc1 := 12) (L1 := [vR r0, vI x1, vR r2, vI (tI τ q2 (wr ((wr (x1 * 3)) + 1)).toNat), none]) (st1 := [AR r2]) rfl ?_
  refine g_gQ rfl (ci := 3) (k := 0) rfl sh1 p3 ?_
  refine g_sk 5 (pc1 := 20) (st1 := [AI (wr ((wr (x1 * 3)) + 2)), AR q2]) rfl ?_
  refine g_iald rfl sh5 (by decide) b7.1 b7.2 ?_
  refine g_sx 2 (pc1 := 24) (L1 := [vR r0, vI x1, vR r2, vI (tI τ q2 (wr ((wr (x1 * 3)) + 1)).toNat), vI (tI τ q2 (wr ((wr (x1 * 3)) + 2)).toNat)]) (st1 := [AR r2]) rfl ?_
  refine g_gQ rfl (ci := 3) (k := 0) rfl sh1 p3 ?_
  refine g_sk 3 (pc1 := 30) (st1 := [AI (wr (x1 * 3)), AR q2]) rfl ?_
  refine g_iald rfl sh5 (by decide) b8.1 b8.2 ?_
  exact k1

set_option maxRecDepth 8192 in
theorem t20_79 {d : Nat} {τ : T2} {Q : RS → T2 → Prop} {x1 : Int} (k1 : Q (.inl (some (AI (wr (x1 + 1))))) τ) : G d 20 79 [none, vI x1, none, none, none] [] τ Q := by
  refine g_sk 3 (pc1 := 82) (st1 := [AI (wr (x1 + 1))]) rfl ?_
  refine g_iret rfl rfl ?_
  exact k1

set_option maxRecDepth 8192 in
theorem t20_98 {d : Nat} {τ : T2} {Q : RS → T2 → Prop} {x1 : Int} {r0 : Nat} (hd : 1 ≤ d) (sh1 : tS τ r0 = (1, 4, 0)) (k1 : G (d - 1) 26 0 [vR r0, vI x1, vI (wr (x1 + 1)), none] [] τ (KC d 20 103 106 [none, vI x1, none, none, none] [] Q)) : G d 20 98 [vR r0, vI x1, none, none, none] [] τ Q := by
  refine g_sk 5 (pc1 := 103) (st1 := [AI (wr (x1 + 1)), AI x1, AR r0]) rfl ?_
  refine G_fg (lw2_f _ (lw2_k _ (lw2_k _ (lw2_k _ (lw2_k _ lw2_nil))))) ?_
  refine g_cv rfl rfl (by decide) rfl rfl (Nat.le_of_ble_eq_true rfl) (as2 := [AI x1, AI (wr (x1 + 1))]) rfl sh1 rfl (by omega) (L0 := [vR r0, vI x1, vI (wr (x1 + 1)), none]) rfl ?_
  exact k1

set_option maxRecDepth 8192 in
theorem t20_106 {d : Nat} {τ : T2} {Q : RS → T2 → Prop} {x1 : Int} (k1 : Q (.inl (some (AI (wr (x1 + 1))))) τ) : G d 20 106 [none, vI x1, none, none, none] [] τ Q := by
  refine g_sk 3 (pc1 := 109) (st1 := [AI (wr (x1 + 1))]) rfl ?_
  refine g_iret rfl rfl ?_
  exact k1

set_option maxRecDepth 8192 in
theorem t20_118 {d : Nat} {τ : T2} {Q : RS → T2 → Prop} {x1 x3 : Int} {r0 : Nat} (hd : 1 ≤ d) (sh1 : tS τ r0 = (1, 4, 0)) (k1 : G (d - 1) 26 0 [vR r0, vI x1, vI (zdiv x3 3), none] [] τ (KC d 20 123 126 [none, vI x1, none, none, none] [] Q)) : G d 20 118 [vR r0, vI x1, none, vI x3, none] [] τ Q := by
  refine g_sk 4 (pc1 := 122) (st1 := [AI 3, AI x3, AI x1, AR r0]) rfl ?_
  refine g_div rfl (by decide) ?_
  refine G_fg (lw2_f _ (lw2_k _ (lw2_k _ (lw2_f _ (lw2_k _ lw2_nil))))) ?_
  refine g_cv rfl rfl (by decide) rfl rfl (Nat.le_of_ble_eq_true rfl) (as2 := [AI x1, AI (zdiv x3 3)]) rfl sh1 rfl (by omega) (L0 := [vR r0, vI x1, vI (zdiv x3 3), none]) rfl ?_
  exact k1

set_option maxRecDepth 8192 in
theorem t20_126 {d : Nat} {τ : T2} {Q : RS → T2 → Prop} {x1 : Int} (k1 : Q (.inl (some (AI (wr (x1 + 1))))) τ) : G d 20 126 [none, vI x1, none, none, none] [] τ Q := by
  refine g_sk 3 (pc1 := 129) (st1 := [AI (wr (x1 + 1))]) rfl ?_
  refine g_iret rfl rfl ?_
  exact k1

set_option maxRecDepth 8192 in
theorem t20_138 {d : Nat} {τ : T2} {Q : RS → T2 → Prop} {x1 : Int} (k1 : Q (.inl (some (AI (wr (x1 + 1))))) τ) : G d 20 138 [none, vI x1, none, none, none] [] τ Q := by
  refine g_sk 3 (pc1 := 141) (st1 := [AI (wr (x1 + 1))]) rfl ?_
  refine g_iret rfl rfl ?_
  exact k1

set_option maxRecDepth 8192 in
theorem t20_149 {d : Nat} {τ : T2} {Q : RS → T2 → Prop} {x1 x3 : Int} (k1 : Q (.inl (some (AI (wr ((wr (x1 + 1)) + x3))))) τ) : G d 20 149 [none, vI x1, none, vI x3, none] [] τ Q := by
  refine g_sk 5 (pc1 := 154) (st1 := [AI (wr ((wr (x1 + 1)) + x3))]) rfl ?_
  refine g_iret rfl rfl ?_
  exact k1

set_option maxRecDepth 8192 in
theorem t21_0 {d : Nat} {τ : T2} {Q : RS → T2 → Prop} {x1 x2 : Int} {r0 r3 q4 n6 : Nat} (hd : 1 ≤ d) (sh3 : tS τ r3 = (1, 3, 0)) (p5 : tP τ r3 0 = some q4) (sh7 : tS τ q4 = (2, 0, n6)) (sh9 : tS τ r0 = (1, 4, 0)) (k1 : (wr ((zshl 1 x2) - 1)) < 0 → Q (.inl none) τ) (k2 : 0 ≤ (wr ((zshl 1 x2) - 1)) → 16 ≤ (wr ((zshl 1 x2) - 1)) → Q (.inl none) τ) (k3 : 0 ≤ (wr ((zshl 1 x2) - 1)) → (wr ((zshl 1 x2) - 1)) < 16 → (wr ((wr ((wr (x1 + 1)) + x2)) * 3)) ≤ (n6 : Int) → G (d - 1) 260 0 [vQ (tP τ r0 2), vI 2005, vI 2085, vJ 0, none, none] [] τ (KC d 21 46 49 [vR r0, vI x1, vI x2, vR r3, vI (wr ((zshl 1 x2) - 1)), none, none, none, none] [] Q)) (k4 : 0 ≤ (wr ((zshl 1 x2) - 1)) → (wr ((zshl 1 x2) - 1)) < 16 → (n6 : Int) < (wr ((wr ((wr (x1 + 1)) + x2)) * 3)) → Q (.inl none) τ) : G d 21 0 [vR r0, vI x1, vI x2, vR r3, none, none, none, none, none] [] τ Q := by
  refine g_sx 7 (pc1 := 9) (L1 := [vR r0, vI x1, vI x2, vR r3, vI (wr ((zshl 1 x2) - 1)), none, none, none, none]) (st1 := [AI (wr ((zshl 1 x2) - 1))]) rfl ?_
  refine g_br1 rfl (t := 34) rfl (fun c1 => ?_) (fun c1 => ?_)
  · have c1 : (wr ((zshl 1 x2) - 1)) < 0 := of_decide_eq_true c1
    refine g_vret rfl rfl ?_
    exact (k1 c1)
  · have c1 : 0 ≤ (wr ((zshl 1 x2) - 1)) := Int.not_lt.mp (of_decide_eq_false c1)
    refine g_sk 2 (pc1 := 16) (st1 := [AI 16, AI (wr ((zshl 1 x2) - 1))]) rfl ?_
    refine g_br2 rfl (t := 34) rfl (fun c2 => ?_) (fun c2 => ?_)
    · have c2 : 16 ≤ (wr ((zshl 1 x2) - 1)) := of_decide_eq_true c2
      refine g_vret rfl rfl ?_
      exact (k2 c1 c2)
    · have c2 : (wr ((zshl 1 x2) - 1)) < 16 := Int.not_le.mp (of_decide_eq_false c2)
      refine g_sk 8 (pc1 := 27) (st1 := [AR r3, AI (wr ((wr ((wr (x1 + 1)) + x2)) * 3))]) rfl ?_
      refine g_gQ rfl (ci := 3) (k := 0) rfl sh3 p5 ?_
      refine g_al2 rfl sh7 ?_
      refine g_br2 rfl (t := 35) rfl (fun c8 => ?_) (fun c8 => ?_)
      · have c8 : (wr ((wr ((wr (x1 + 1)) + x2)) * 3)) ≤ (n6 : Int) := of_decide_eq_true c8
        refine g_sk 1 (pc1 := 36) (st1 := [AR r0]) rfl ?_
        refine g_gP rfl (ci := 4) (k := 2) rfl sh9 ?_
        refine g_sk 3 (pc1 := 46) (st1 := [AL 0, AI 2085, AI 2005, AP (tP τ r0 2)]) rfl ?_
        refine g_cs rfl rfl (by decide) rfl rfl (Nat.le_of_ble_eq_true rfl) rfl (by omega) (L0 := [vQ (tP τ r0 2), vI 2005, vI 2085, vJ 0, none, none]) rfl ?_
        exact (k3 c1 c2 c8)
      · have c8 : (n6 : Int) < (wr ((wr ((wr (x1 + 1)) + x2)) * 3)) := Int.not_le.mp (of_decide_eq_false c8)
        refine g_vret rfl rfl ?_
        exact (k4 c1 c2 c8)

set_option maxRecDepth 8192 in
theorem t21_49 {d : Nat} {τ : T2} {Q : RS → T2 → Prop} {x1 x2 x4 : Int} {r0 : Nat} {r3 : Option Nat} (hd : 1 ≤ d) (sh1 : tS τ r0 = (1, 4, 0)) (k1 : G (d - 1) 26 0 [vR r0, vI x1, vI 401, none] [] τ (KC d 21 54 57 [vR r0, vI x1, vI x2, vQ r3, vI x4, none, none, none, none] [] Q)) : G d 21 49 [vR r0, vI x1, vI x2, vQ r3, vI x4, none, none, none, none] [] τ Q := by
  refine g_sk 3 (pc1 := 54) (st1 := [AI 401, AI x1, AR r0]) rfl ?_
  refine g_cv rfl rfl (by decide) rfl rfl (Nat.le_of_ble_eq_true rfl) (as2 := [AI x1, AI 401]) rfl sh1 rfl (by omega) (L0 := [vR r0, vI x1, vI 401, none]) rfl ?_
  exact k1

set_option maxRecDepth 8192 in
theorem t21_57 {d : Nat} {τ : T2} {Q : RS → T2 → Prop} {x1 x2 x4 : Int} {r0 : Nat} {r3 : Option Nat} (k1 : G d 21 60 [vR r0, vI x1, vI x2, vQ r3, vI x4, vI 0, none, none, none] [] τ Q) : G d 21 57 [vR r0, vI x1, vI x2, vQ r3, vI x4, none, none, none, none] [] τ Q := by
  refine g_sx 2 (pc1 := 60) (L1 := [vR r0, vI x1, vI x2, vQ r3, vI x4, vI 0, none, none, none]) (st1 := []) rfl ?_
  exact k1

set_option maxRecDepth 8192 in
theorem t21_60 {d : Nat} {τ : T2} {Q : RS → T2 → Prop} {x1 x2 x4 x5 : Int} {r0 : Nat} {r3 : Option Nat} (hd : 1 ≤ d) (sh2 : tS τ r0 = (1, 4, 0)) (k1 : x4 ≤ x5 → G (d - 1) 26 0 [vR r0, vI (wr (401 + x4)), vI (wr ((wr (x1 + 1)) + x2)), none] [] τ (KC d 21 167 170 [none, none, none, none, none, none, none, none, none] [] Q)) (k2 : x5 < x4 → G d 21 70 [vR r0, vI x1, vI x2, vQ r3, vI x4, vI x5, vI 0, none, none] [] τ Q) : G d 21 60 [vR r0, vI x1, vI x2, vQ r3, vI x4, vI x5, none, none, none] [] τ Q := by
  refine g_sk 2 (pc1 := 64) (st1 := [AI x4, AI x5]) rfl ?_
  refine g_br2 rfl (t := 155) rfl (fun c1 => ?_) (fun c1 => ?_)
  · have c1 : x4 ≤ x5 := of_decide_eq_true c1
    refine g_sk 9 (pc1 := 167) (st1 := [AI (wr ((wr (x1 + 1)) + x2)), AI (wr (401 + x4)), AR r0]) rfl ?_
    refine G_fg (lw2_f _ (lw2_f _ (lw2_f _ (lw2_f _ (lw2_f _ (lw2_f _ (lw2_k _ (lw2_k _ (lw2_k _ lw2_nil))))))))) ?_
    refine g_cv rfl rfl (by decide) rfl rfl (Nat.le_of_ble_eq_true rfl) (as2 := [AI (wr (401 + x4)), AI (wr ((wr (x1 + 1)) + x2))]) rfl sh2 rfl (by omega) (L0 := [vR r0, vI (wr (401 + x4)), vI (wr ((wr (x1 + 1)) + x2)), none]) rfl ?_
    exact (k1 c1)
  · have c1 : x5 < x4 := Int.not_le.mp (of_decide_eq_false c1)
    refine g_sx 2 (pc1 := 70) (L1 := [vR r0, vI x1, vI x2, vQ r3, vI x4, vI x5, vI 0, none, none]) (st1 := []) rfl ?_
    exact (k2 c1)

set_option maxRecDepth 8192 in
theorem t21_70 {d : Nat} {τ : T2} {Q : RS → T2 → Prop} {x1 x2 x4 x5 x6 : Int} {r0 r3 q4 n6 : Nat} (hd : 1 ≤ d) (sh3 : tS τ r3 = (1, 3, 0)) (p5 : tP τ r3 0 = some q4) (sh7 : tS τ q4 = (2, 0, n6)) (b8 : x6 < x2 → (zand (zshr x5 x6) 1) = 0 → (0 : Int) ≤ (wr ((wr ((wr ((wr (x1 + 1)) + x6)) * 3)) + 1)) ∧ (wr ((wr ((wr ((wr (x1 + 1)) + x6)) * 3)) + 1)) < (n6 : Int)) (b9 : x6 < x2 → (zand (zshr x5 x6) 1) = 0 → (0 : Int) ≤ (wr ((wr ((wr ((wr (x1 + 1)) + x6)) * 3)) + 2)) ∧ (wr ((wr ((wr ((wr (x1 + 1)) + x6)) * 3)) + 2)) < (n6 : Int)) (sh10 : tS τ r0 = (1, 4, 0)) (k1 : x2 ≤ x6 → G d 21 60 [vR r0, vI x1, vI x2, vR r3, vI x4, vI (wr (x5 + 1)), none, none, none] [] τ Q) (k2 : x6 < x2 → ¬ (zand (zshr x5 x6) 1) = 0 → G d 21 70 [vR r0, vI x1, vI x2, vR r3, vI x4, vI x5, vI (wr (x6 + 1)), none, none] [] τ Q) (k3 : x6 < x2 → (zand (zshr x5 x6) 1) = 0 → G (d - 1) 22 0 [vR r0, vI (wr (401 + x5)), vI (wr (401 + (zor x5 (zshl 1 x6)))), vQ (tP τ r3 1), vI (tI τ q4 (wr ((wr ((wr ((wr (x1 + 1)) + x6)) * 3)) + 1)).toNat), vI (tI τ q4 (wr ((wr ((wr ((wr (x1 + 1)) + x6)) * 3)) + 2)).toNat), none] [] τ (KC d 21 140 143 [vR r0, vI x1, vI x2, vR r3, vI x4, vI x5, vI x6, none, none] [] Q)) : G d 21 70 [vR r0, vI x1, vI x2, vR r3, vI x4, vI x5, vI x6, none, none] [] τ Q := by
  refine g_sk 2 (pc1 := 73) (st1 := [AI x2, AI x6]) rfl ?_
  refine g_br2 rfl (t := 149) rfl (fun c1 => ?_) (fun c1 => ?_)
  · have c1 : x2 ≤ x6 := of_decide_eq_true c1
    refine g_sx 2 (pc1 := 60) (L1 := [vR r0, vI x1, vI x2, vR r3, vI x4, vI (wr (x5 + 1)), vI x6, none, none]) (st1 := []) rfl ?_
    exact G_fg (lw2_k _ (lw2_k _ (lw2_k _ (lw2_k _ (lw2_k _ (lw2_k _ (lw2_f _ (lw2_k _ (lw2_k _ lw2_nil))))))))) (k1 c1)
  · have c1 : x6 < x2 := Int.not_le.mp (of_decide_eq_false c1)
    refine g_sk 5 (pc1 := 83) (st1 := [AI (zand (zshr x5 x6) 1)]) rfl ?_
    refine g_br1 rfl (t := 143) rfl (fun c2 => ?_) (fun c2 => ?_)
    · have c2 : ¬ (zand (zshr x5 x6) 1) = 0 := of_decide_eq_true c2
      refine g_sx 2 (pc1 := 70) (L1 := [vR r0, vI x1, vI x2, vR r3, vI x4, vI x5, vI (wr (x6 + 1)), none, none]) (st1 := []) rfl ?_
      exact (k2 c1 c2)
    · have c2 : (zand (zshr x5 x6) 1) = 0 := Decidable.of_not_not (of_decide_eq_false c2)
      refine g_sx 22 (pc1 := 119) (L1 := [vR r0, vI x1, vI x2, vR r3, vI x4, vI x5, vI x6, vI (wr ((wr ((wr (x1 + 1)) + x6)) * 3)), vI (wr (401 + (zor x5 (zshl 1 x6))))]) (st1 := [AR r3, AI (wr (401 + (zor x5 (zshl 1 x6)))), AI (wr (401 + x5)), AR r0]) rfl ?_
      refine g_gP rfl (ci := 3) (k := 1) rfl sh3 ?_
      refine g_sk 1 (pc1 := 123) (st1 := [AR r3, AP (tP τ r3 1), AI (wr (401 + (zor x5 (zshl 1 x6)))), AI (wr (401 + x5)), AR r0]) rfl ?_
      refine g_gQ rfl (ci := 3) (k := 0) rfl sh3 p5 ?_
      refine g_sk 3 (pc1 := 130) (st1 := [AI (wr ((wr ((wr ((wr (x1 + 1)) + x6)) * 3)) + 1)), AR q4, AP (tP τ r3 1), AI (wr (401 + (zor x5 (zshl 1 x6)))), AI (wr (401 + x5)), AR r0]) rfl ?_
      refine g_iald rfl sh7 (by decide) (b8 c1 c2).1 (b8 c1 c2).2 ?_
      refine g_sk 1 (pc1 := 132) (st1 := [AR r3, AI (tI τ q4 (wr ((wr ((wr ((wr (x1 + 1)) + x6)) * 3)) + 1)).toNat), AP (tP τ r3 1), AI (wr (401 + (zor x5 (zshl 1 x6)))), AI (wr (401 + x5)), AR r0]) rfl ?_
      refine g_gQ rfl (ci := 3) (k := 0) rfl sh3 p5 ?_
      refine g_sk 3 (pc1 := 139) (st1 := [AI (wr ((wr ((wr ((wr (x1 + 1)) + x6)) * 3)) + 2)), AR q4, AI (tI τ q4 (wr ((wr ((wr ((wr (x1 + 1)) + x6)) * 3)) + 1)).toNat), AP (tP τ r3 1), AI (wr (401 + (zor x5 (zshl 1 x6)))), AI (wr (401 + x5)), AR r0]) rfl ?_
      refine g_iald rfl sh7 (by decide) (b9 c1 c2).1 (b9 c1 c2).2 ?_
      refine G_fg (lw2_k _ (lw2_k _ (lw2_k _ (lw2_k _ (lw2_k _ (lw2_k _ (lw2_k _ (lw2_f _ (lw2_f _ lw2_nil))))))))) ?_
      refine g_cv rfl rfl (by decide) rfl rfl (Nat.le_of_ble_eq_true rfl) (as2 := [AI (wr (401 + x5)), AI (wr (401 + (zor x5 (zshl 1 x6)))), AP (tP τ r3 1), AI (tI τ q4 (wr ((wr ((wr ((wr (x1 + 1)) + x6)) * 3)) + 1)).toNat), AI (tI τ q4 (wr ((wr ((wr ((wr (x1 + 1)) + x6)) * 3)) + 2)).toNat)]) rfl sh10 rfl (by omega) (L0 := [vR r0, vI (wr (401 + x5)), vI (wr (401 + (zor x5 (zshl 1 x6)))), vQ (tP τ r3 1), vI (tI τ q4 (wr ((wr ((wr ((wr (x1 + 1)) + x6)) * 3)) + 1)).toNat), vI (tI τ q4 (wr ((wr ((wr ((wr (x1 + 1)) + x6)) * 3)) + 2)).toNat), none]) rfl ?_
      exact (k3 c1 c2)

set_option maxRecDepth 8192 in
theorem t21_143 {d : Nat} {τ : T2} {Q : RS → T2 → Prop} {x1 x2 x4 x5 x6 : Int} {r0 : Nat} {r3 : Option Nat} (k1 : G d 21 70 [vR r0, vI x1, vI x2, vQ r3, vI x4, vI x5, vI (wr (x6 + 1)), none, none] [] τ Q) : G d 21 143 [vR r0, vI x1, vI x2, vQ r3, vI x4, vI x5, vI x6, none, none] [] τ Q := by
  refine g_sx 2 (pc1 := 70) (L1 := [vR r0, vI x1, vI x2, vQ r3, vI x4, vI x5, vI (wr (x6 + 1)), none, none]) (st1 := []) rfl ?_
  exact k1

set_option maxRecDepth 8192 in
theorem t21_170 {d : Nat} {τ : T2} {Q : RS → T2 → Prop}  (k1 : Q (.inl none) τ) : G d 21 170 [none, none, none, none, none, none, none, none, none] [] τ Q := by
  refine g_vret rfl rfl ?_
  exact k1

set_option maxRecDepth 8192 in
theorem t22_0 {d : Nat} {τ : T2} {Q : RS → T2 → Prop} {x1 x2 x4 x5 : Int} {r0 : Nat} {r3 : Option Nat} (hd : 1 ≤ d) (sh1 : tS τ r0 = (1, 4, 0)) (k1 : G (d - 1) 23 0 [vR r0, vI x1, none] [] τ (KC d 22 2 5 [vR r0, vI x1, vI x2, vQ r3, vI x4, vI x5, none] [] Q)) : G d 22 0 [vR r0, vI x1, vI x2, vQ r3, vI x4, vI x5, none] [] τ Q := by
  refine g_sk 2 (pc1 := 2) (st1 := [AI x1, AR r0]) rfl ?_
  refine g_cv rfl rfl (by decide) rfl rfl (Nat.le_of_ble_eq_true rfl) (as2 := [AI x1]) rfl sh1 rfl (by omega) (L0 := [vR r0, vI x1, none]) rfl ?_
  exact k1

set_option maxRecDepth 8192 in
theorem t22_5 {d : Nat} {τ : T2} {Q : RS → T2 → Prop} {x1 x2 x4 x5 y0 : Int} {r0 : Nat} {r3 : Option Nat} (k1 : y0 = 0 → G d 22 12 [vR r0, vI x1, vI x2, vQ r3, vI x4, vI x5, vI 0] [] τ Q) (k2 : ¬ y0 = 0 → Q (.inl none) τ) : G d 22 5 [vR r0, vI x1, vI x2, vQ r3, vI x4, vI x5, none] [AI y0] τ Q := by
  refine g_br1 rfl (t := 9) rfl (fun c1 => ?_) (fun c1 => ?_)
  · have c1 : y0 = 0 := of_decide_eq_true c1
    refine g_sx 2 (pc1 := 12) (L1 := [vR r0, vI x1, vI x2, vQ r3, vI x4, vI x5, vI 0]) (st1 := []) rfl ?_
    exact (k1 c1)
  · have c1 : ¬ y0 = 0 := of_decide_eq_false c1
    refine g_vret rfl rfl ?_
    exact (k2 c1)

set_option maxRecDepth 8192 in
theorem t22_12 {d : Nat} {τ : T2} {Q : RS → T2 → Prop} {x1 x2 x4 x5 x6 : Int} {r0 : Nat} {r3 : Option Nat} (hd : 1 ≤ d) (sh1 : tS τ r0 = (1, 4, 0)) (k1 : (tI τ r0 1) < (wr ((wr (x6 + x5)) - x4)) → Q (.inl none) τ) (k2 : (wr ((wr (x6 + x5)) - x4)) ≤ (tI τ r0 1) → G (d - 1) 24 0 [vR r0, vI x1, vI x6] [] τ (KC d 22 31 34 [vR r0, vI x1, vI x2, vQ r3, vI x4, vI x5, vI x6] [] Q)) : G d 22 12 [vR r0, vI x1, vI x2, vQ r3, vI x4, vI x5, vI x6] [] τ Q := by
  refine g_sk 6 (pc1 := 21) (st1 := [AR r0, AI (wr ((wr (x6 + x5)) - x4))]) rfl ?_
  refine g_gI rfl (ci := 4) (k := 1) rfl sh1 ?_
  refine g_br2 rfl (t := 70) rfl (fun c2 => ?_) (fun c2 => ?_)
  · have c2 : (tI τ r0 1) < (wr ((wr (x6 + x5)) - x4)) := of_decide_eq_true c2
    refine g_vret rfl rfl ?_
    exact (k1 c2)
  · have c2 : (wr ((wr (x6 + x5)) - x4)) ≤ (tI τ r0 1) := Int.not_lt.mp (of_decide_eq_false c2)
    refine g_sk 3 (pc1 := 31) (st1 := [AI x6, AI x1, AR r0]) rfl ?_
    refine g_cv rfl rfl (by decide) rfl rfl (Nat.le_of_ble_eq_true rfl) (as2 := [AI x1, AI x6]) rfl sh1 rfl (by omega) (L0 := [vR r0, vI x1, vI x6]) rfl ?_
    exact (k2 c2)

set_option maxRecDepth 8192 in
theorem t22_34 {d : Nat} {τ : T2} {Q : RS → T2 → Prop} {x1 x2 x4 x5 x6 y0 : Int} {r0 : Nat} {r3 : Option Nat} (hd : 1 ≤ d) (sh2 : tS τ r0 = (1, 4, 0)) (k1 : y0 = 0 → G d 22 12 [vR r0, vI x1, vI x2, vQ r3, vI x4, vI x5, vI (wr (x6 + 1))] [] τ Q) (k2 : ¬ y0 = 0 → G (d - 1) 17 0 [vR r0, vI x6, vQ r3, vI x4, vI x5, none] [] τ (KC d 22 45 48 [vR r0, vI x1, vI x2, vQ r3, vI x4, vI x5, vI x6] [] Q)) : G d 22 34 [vR r0, vI x1, vI x2, vQ r3, vI x4, vI x5, vI x6] [AI y0] τ Q := by
  refine g_br1 rfl (t := 64) rfl (fun c1 => ?_) (fun c1 => ?_)
  · have c1 : y0 = 0 := of_decide_eq_true c1
    refine g_sx 2 (pc1 := 12) (L1 := [vR r0, vI x1, vI x2, vQ r3, vI x4, vI x5, vI (wr (x6 + 1))]) (st1 := []) rfl ?_
    exact (k1 c1)
  · have c1 : ¬ y0 = 0 := of_decide_eq_false c1
    refine g_sk 5 (pc1 := 45) (st1 := [AI x5, AI x4, AP r3, AI x6, AR r0]) rfl ?_
    refine g_cv rfl rfl (by decide) rfl rfl (Nat.le_of_ble_eq_true rfl) (as2 := [AI x6, AP r3, AI x4, AI x5]) rfl sh2 rfl (by omega) (L0 := [vR r0, vI x6, vQ r3, vI x4, vI x5, none]) rfl ?_
    exact (k2 c1)

set_option maxRecDepth 8192 in
theorem t22_48 {d : Nat} {τ : T2} {Q : RS → T2 → Prop} {x1 x2 x4 x5 x6 y0 : Int} {r0 : Nat} {r3 : Option Nat} (hd : 1 ≤ d) (sh2 : tS τ r0 = (1, 4, 0)) (k1 : y0 = 0 → G d 22 12 [vR r0, vI x1, vI x2, vQ r3, vI x4, vI x5, vI (wr (x6 + 1))] [] τ Q) (k2 : ¬ y0 = 0 → G (d - 1) 25 0 [vR r0, vI x2, vI (wr ((wr (x6 + x5)) - x4))] [] τ (KC d 22 61 64 [vR r0, vI x1, vI x2, vQ r3, vI x4, vI x5, vI x6] [] Q)) : G d 22 48 [vR r0, vI x1, vI x2, vQ r3, vI x4, vI x5, vI x6] [AI y0] τ Q := by
  refine g_br1 rfl (t := 64) rfl (fun c1 => ?_) (fun c1 => ?_)
  · have c1 : y0 = 0 := of_decide_eq_true c1
    refine g_sx 2 (pc1 := 12) (L1 := [vR r0, vI x1, vI x2, vQ r3, vI x4, vI x5, vI (wr (x6 + 1))]) (st1 := []) rfl ?_
    exact (k1 c1)
  · have c1 : ¬ y0 = 0 := of_decide_eq_false c1
    refine g_sk 7 (pc1 := 61) (st1 := [AI (wr ((wr (x6 + x5)) - x4)), AI x2, AR r0]) rfl ?_
    refine g_cv rfl rfl (by decide) rfl rfl (Nat.le_of_ble_eq_true rfl) (as2 := [AI x2, AI (wr ((wr (x6 + x5)) - x4))]) rfl sh2 rfl (by omega) (L0 := [vR r0, vI x2, vI (wr ((wr (x6 + x5)) - x4))]) rfl ?_
    exact (k2 c1)

set_option maxRecDepth 8192 in
theorem t22_64 {d : Nat} {τ : T2} {Q : RS → T2 → Prop} {x1 x2 x4 x5 x6 : Int} {r0 : Nat} {r3 : Option Nat} (k1 : G d 22 12 [vR r0, vI x1, vI x2, vQ r3, vI x4, vI x5, vI (wr (x6 + 1))] [] τ Q) : G d 22 64 [vR r0, vI x1, vI x2, vQ r3, vI x4, vI x5, vI x6] [] τ Q := by
  refine g_sx 2 (pc1 := 12) (L1 := [vR r0, vI x1, vI x2, vQ r3, vI x4, vI x5, vI (wr (x6 + 1))]) (st1 := []) rfl ?_
  exact k1

set_option maxRecDepth 8192 in
theorem t23_0 {d : Nat} {τ : T2} {Q : RS → T2 → Prop} {x1 : Int} {r0 : Nat} (k1 : G d 23 2 [vR r0, vI x1, vI 0] [] τ Q) : G d 23 0 [vR r0, vI x1, none] [] τ Q := by
  refine g_sx 2 (pc1 := 2) (L1 := [vR r0, vI x1, vI 0]) (st1 := []) rfl ?_
  exact k1

set_option maxRecDepth 8192 in
theorem t23_2 {d : Nat} {τ : T2} {Q : RS → T2 → Prop} {x1 x2 : Int} {r0 q5 n7 : Nat} (sh4 : tS τ r0 = (1, 4, 0)) (p6 : tP τ r0 2 = some q5) (sh8 : tS τ q5 = (2, 3, n7)) (b9 : x2 < 5 → 0 ≤ x1 → x1 < 417 → (0 : Int) ≤ (wr ((wr (x1 * 5)) + x2)) ∧ (wr ((wr (x1 * 5)) + x2)) < (n7 : Int)) (k1 : 5 ≤ x2 → Q (.inl (some (AI 1))) τ) (k2 : x2 < 5 → x1 < 0 → Q (.inl (some (AI 1))) τ) (k3 : x2 < 5 → 0 ≤ x1 → 417 ≤ x1 → Q (.inl (some (AI 1))) τ) (k4 : x2 < 5 → 0 ≤ x1 → x1 < 417 → (lcm (tI τ q5 (wr ((wr (x1 * 5)) + x2)).toNat) 0) = 0 → G d 23 2 [vR r0, vI x1, vI (wr (x2 + 1))] [] τ Q) (k5 : x2 < 5 → 0 ≤ x1 → x1 < 417 → ¬ (lcm (tI τ q5 (wr ((wr (x1 * 5)) + x2)).toNat) 0) = 0 → Q (.inl (some (AI 0))) τ) : G d 23 2 [vR r0, vI x1, vI x2] [] τ Q := by
  refine g_sk 2 (pc1 := 4) (st1 := [AI 5, AI x2]) rfl ?_
  refine g_br2 rfl (t := 41) rfl (fun c1 => ?_) (fun c1 => ?_)
  · have c1 : 5 ≤ x2 := of_decide_eq_true c1
    refine g_sk 1 (pc1 := 42) (st1 := [AI 1]) rfl ?_
    refine g_zret rfl rfl (by decide) ?_
    exact (k1 c1)
  · have c1 : x2 < 5 := Int.not_le.mp (of_decide_eq_false c1)
    refine g_sk 1 (pc1 := 8) (st1 := [AI x1]) rfl ?_
    refine g_br1 rfl (t := 41) rfl (fun c2 => ?_) (fun c2 => ?_)
    · have c2 : x1 < 0 := of_decide_eq_true c2
      refine g_sk 1 (pc1 := 42) (st1 := [AI 1]) rfl ?_
      refine g_zret rfl rfl (by decide) ?_
      exact (k2 c1 c2)
    · have c2 : 0 ≤ x1 := Int.not_lt.mp (of_decide_eq_false c2)
      refine g_sk 2 (pc1 := 15) (st1 := [AI 417, AI x1]) rfl ?_
      refine g_br2 rfl (t := 41) rfl (fun c3 => ?_) (fun c3 => ?_)
      · have c3 : 417 ≤ x1 := of_decide_eq_true c3
        refine g_sk 1 (pc1 := 42) (st1 := [AI 1]) rfl ?_
        refine g_zret rfl rfl (by decide) ?_
        exact (k3 c1 c2 c3)
      · have c3 : x1 < 417 := Int.not_le.mp (of_decide_eq_false c3)
        refine g_sk 1 (pc1 := 19) (st1 := [AR r0]) rfl ?_
        refine g_gQ rfl (ci := 4) (k := 2) rfl sh4 p6 ?_
        refine g_sk 5 (pc1 := 27) (st1 := [AI (wr ((wr (x1 * 5)) + x2)), AR q5]) rfl ?_
        refine g_lald rfl sh8 (b9 c1 c2 c3).1 (b9 c1 c2 c3).2 ?_
        refine g_sk 2 (pc1 := 30) (st1 := [AI (lcm (tI τ q5 (wr ((wr (x1 * 5)) + x2)).toNat) 0)]) rfl ?_
        refine g_br1 rfl (t := 35) rfl (fun c10 => ?_) (fun c10 => ?_)
        · have c10 : (lcm (tI τ q5 (wr ((wr (x1 * 5)) + x2)).toNat) 0) = 0 := of_decide_eq_true c10
          refine g_sx 2 (pc1 := 2) (L1 := [vR r0, vI x1, vI (wr (x2 + 1))]) (st1 := []) rfl ?_
          exact (k4 c1 c2 c3 c10)
        · have c10 : ¬ (lcm (tI τ q5 (wr ((wr (x1 * 5)) + x2)).toNat) 0) = 0 := of_decide_eq_false c10
          refine g_sk 1 (pc1 := 34) (st1 := [AI 0]) rfl ?_
          refine g_zret rfl rfl (by decide) ?_
          exact (k5 c1 c2 c3 c10)

set_option maxRecDepth 8192 in
theorem t24_0 {d : Nat} {τ : T2} {Q : RS → T2 → Prop} {x1 x2 : Int} {r0 q6 n8 : Nat} (sh5 : tS τ r0 = (1, 4, 0)) (p7 : tP τ r0 2 = some q6) (sh9 : tS τ q6 = (2, 3, n8)) (b10 : 0 ≤ x1 → x1 < 417 → 0 ≤ x2 → x2 ≤ 300 → (0 : Int) ≤ (wr ((wr (x1 * 5)) + (zshr x2 6))) ∧ (wr ((wr (x1 * 5)) + (zshr x2 6))) < (n8 : Int)) (k1 : x1 < 0 → Q (.inl (some (AI 0))) τ) (k2 : 0 ≤ x1 → 417 ≤ x1 → Q (.inl (some (AI 0))) τ) (k3 : 0 ≤ x1 → x1 < 417 → x2 < 0 → Q (.inl (some (AI 0))) τ) (k4 : 0 ≤ x1 → x1 < 417 → 0 ≤ x2 → x2 ≤ 300 → ¬ (lcm (land (lush (tI τ q6 (wr ((wr (x1 * 5)) + (zshr x2 6))).toNat) (zand x2 63)) 1) 1) = 0 → Q (.inl (some (AI 0))) τ) (k5 : 0 ≤ x1 → x1 < 417 → 0 ≤ x2 → x2 ≤ 300 → (lcm (land (lush (tI τ q6 (wr ((wr (x1 * 5)) + (zshr x2 6))).toNat) (zand x2 63)) 1) 1) = 0 → Q (.inl (some (AI 1))) τ) (k6 : 0 ≤ x1 → x1 < 417 → 0 ≤ x2 → 300 < x2 → Q (.inl (some (AI 0))) τ) : G d 24 0 [vR r0, vI x1, vI x2] [] τ Q := by
  refine g_sk 1 (pc1 := 1) (st1 := [AI x1]) rfl ?_
  refine g_br1 rfl (t := 22) rfl (fun c1 => ?_) (fun c1 => ?_)
  · have c1 : x1 < 0 := of_decide_eq_true c1
    refine g_sk 1 (pc1 := 23) (st1 := [AI 0]) rfl ?_
    refine g_zret rfl rfl (by decide) ?_
    exact (k1 c1)
  · have c1 : 0 ≤ x1 := Int.not_lt.mp (of_decide_eq_false c1)
    refine g_sk 2 (pc1 := 8) (st1 := [AI 417, AI x1]) rfl ?_
    refine g_br2 rfl (t := 22) rfl (fun c2 => ?_) (fun c2 => ?_)
    · have c2 : 417 ≤ x1 := of_decide_eq_true c2
      refine g_sk 1 (pc1 := 23) (st1 := [AI 0]) rfl ?_
      refine g_zret rfl rfl (by decide) ?_
      exact (k2 c1 c2)
    · have c2 : x1 < 417 := Int.not_le.mp (of_decide_eq_false c2)
      refine g_sk 1 (pc1 := 12) (st1 := [AI x2]) rfl ?_
      refine g_br1 rfl (t := 22) rfl (fun c3 => ?_) (fun c3 => ?_)
      · have c3 : x2 < 0 := of_decide_eq_true c3
        refine g_sk 1 (pc1 := 23) (st1 := [AI 0]) rfl ?_
        refine g_zret rfl rfl (by decide) ?_
        exact (k3 c1 c2 c3)
      · have c3 : 0 ≤ x2 := Int.not_lt.mp (of_decide_eq_false c3)
        refine g_sk 2 (pc1 := 19) (st1 := [AI 300, AI x2]) rfl ?_
        refine g_br2 rfl (t := 24) rfl (fun c4 => ?_) (fun c4 => ?_)
        · have c4 : x2 ≤ 300 := of_decide_eq_true c4
          refine g_sk 1 (pc1 := 25) (st1 := [AR r0]) rfl ?_
          refine g_gQ rfl (ci := 4) (k := 2) rfl sh5 p7 ?_
          refine g_sk 7 (pc1 := 36) (st1 := [AI (wr ((wr (x1 * 5)) + (zshr x2 6))), AR q6]) rfl ?_
          refine g_lald rfl sh9 (b10 c1 c2 c3 c4).1 (b10 c1 c2 c3 c4).2 ?_
          refine g_sk 8 (pc1 := 46) (st1 := [AI (lcm (land (lush (tI τ q6 (wr ((wr (x1 * 5)) + (zshr x2 6))).toNat) (zand x2 63)) 1) 1)]) rfl ?_
          refine g_br1 rfl (t := 53) rfl (fun c11 => ?_) (fun c11 => ?_)
          · have c11 : ¬ (lcm (land (lush (tI τ q6 (wr ((wr (x1 * 5)) + (zshr x2 6))).toNat) (zand x2 63)) 1) 1) = 0 := of_decide_eq_true c11
            refine g_sk 1 (pc1 := 54) (st1 := [AI 0]) rfl ?_
            refine g_zret rfl rfl (by decide) ?_
            exact (k4 c1 c2 c3 c4 c11)
          · have c11 : (lcm (land (lush (tI τ q6 (wr ((wr (x1 * 5)) + (zshr x2 6))).toNat) (zand x2 63)) 1) 1) = 0 := Decidable.of_not_not (of_decide_eq_false c11)
            refine g_sk 2 (pc1 := 54) (st1 := [AI 1]) rfl ?_
            refine g_zret rfl rfl (by decide) ?_
            exact (k5 c1 c2 c3 c4 c11)
        · have c4 : 300 < x2 := Int.not_le.mp (of_decide_eq_false c4)
          refine g_sk 1 (pc1 := 23) (st1 := [AI 0]) rfl ?_
          refine g_zret rfl rfl (by decide) ?_
          exact (k6 c1 c2 c3 c4)

set_option maxRecDepth 8192 in
theorem t25_0 {d : Nat} {τ : T2} {Q : RS → T2 → Prop} {x1 x2 : Int} {r0 q6 n8 : Nat} (sh5 : tS τ r0 = (1, 4, 0)) (p7 : tP τ r0 2 = some q6) (sh9 : tS τ q6 = (2, 3, n8)) (b10 : 0 ≤ x1 → x1 < 417 → 0 ≤ x2 → x2 ≤ 300 → (0 : Int) ≤ (wr ((wr (x1 * 5)) + (zshr x2 6))) ∧ (wr ((wr (x1 * 5)) + (zshr x2 6))) < (n8 : Int)) (k1 : x1 < 0 → Q (.inl none) τ) (k2 : 0 ≤ x1 → 417 ≤ x1 → Q (.inl none) τ) (k3 : 0 ≤ x1 → x1 < 417 → x2 < 0 → Q (.inl none) τ) (k4 : 0 ≤ x1 → x1 < 417 → 0 ≤ x2 → 300 < x2 → Q (.inl none) τ) (k5 : 0 ≤ x1 → x1 < 417 → 0 ≤ x2 → x2 ≤ 300 → Q (.inl none) (uI τ q6 (wr ((wr (x1 * 5)) + (zshr x2 6))).toNat (lor (tI τ q6 (wr ((wr (x1 * 5)) + (zshr x2 6))).toNat) (lshl 1 (zand x2 63))))) : G d 25 0 [vR r0, vI x1, vI x2] [] τ Q := by
  refine g_sk 1 (pc1 := 1) (st1 := [AI x1]) rfl ?_
  refine g_br1 rfl (t := 44) rfl (fun c1 => ?_) (fun c1 => ?_)
  · have c1 : x1 < 0 := of_decide_eq_true c1
    refine g_vret rfl rfl ?_
    exact (k1 c1)
  · have c1 : 0 ≤ x1 := Int.not_lt.mp (of_decide_eq_false c1)
    refine g_sk 2 (pc1 := 8) (st1 := [AI 417, AI x1]) rfl ?_
    refine g_br2 rfl (t := 44) rfl (fun c2 => ?_) (fun c2 => ?_)
    · have c2 : 417 ≤ x1 := of_decide_eq_true c2
      refine g_vret rfl rfl ?_
      exact (k2 c1 c2)
    · have c2 : x1 < 417 := Int.not_le.mp (of_decide_eq_false c2)
      refine g_sk 1 (pc1 := 12) (st1 := [AI x2]) rfl ?_
      refine g_br1 rfl (t := 44) rfl (fun c3 => ?_) (fun c3 => ?_)
      · have c3 : x2 < 0 := of_decide_eq_true c3
        refine g_vret rfl rfl ?_
        exact (k3 c1 c2 c3)
      · have c3 : 0 ≤ x2 := Int.not_lt.mp (of_decide_eq_false c3)
        refine g_sk 2 (pc1 := 19) (st1 := [AI 300, AI x2]) rfl ?_
        refine g_br2 rfl (t := 44) rfl (fun c4 => ?_) (fun c4 => ?_)
        · have c4 : 300 < x2 := of_decide_eq_true c4
          refine g_vret rfl rfl ?_
          exact (k4 c1 c2 c3 c4)
        · have c4 : x2 ≤ 300 := Int.not_lt.mp (of_decide_eq_false c4)
          refine g_sk 1 (pc1 := 23) (st1 := [AR r0]) rfl ?_
          refine g_gQ rfl (ci := 4) (k := 2) rfl sh5 p7 ?_
          refine g_sk 8 (pc1 := 35) (st1 := [AI (wr ((wr (x1 * 5)) + (zshr x2 6))), AR q6, AI (wr ((wr (x1 * 5)) + (zshr x2 6))), AR q6]) rfl ?_
          refine g_lald rfl sh9 (b10 c1 c2 c3 c4).1 (b10 c1 c2 c3 c4).2 ?_
          refine g_sk 6 (pc1 := 43) (st1 := [AL (lor (tI τ q6 (wr ((wr (x1 * 5)) + (zshr x2 6))).toNat) (lshl 1 (zand x2 63))), AI (wr ((wr (x1 * 5)) + (zshr x2 6))), AR q6]) rfl ?_
          refine g_last rfl sh9 (b10 c1 c2 c3 c4).1 (b10 c1 c2 c3 c4).2 ?_
          refine g_vret rfl rfl ?_
          exact (k5 c1 c2 c3 c4)

set_option maxRecDepth 8192 in
theorem t26_0 {d : Nat} {τ : T2} {Q : RS → T2 → Prop} {x1 x2 : Int} {r0 : Nat} (k1 : x1 < 0 → Q (.inl none) τ) (k2 : 0 ≤ x1 → 417 ≤ x1 → Q (.inl none) τ) (k3 : 0 ≤ x1 → x1 < 417 → x2 < 0 → Q (.inl none) τ) (k4 : 0 ≤ x1 → x1 < 417 → 0 ≤ x2 → x2 < 417 → G d 26 25 [vR r0, vI x1, vI x2, vI 0] [] τ Q) (k5 : 0 ≤ x1 → x1 < 417 → 0 ≤ x2 → 417 ≤ x2 → Q (.inl none) τ) : G d 26 0 [vR r0, vI x1, vI x2, none] [] τ Q := by
  refine g_sk 1 (pc1 := 1) (st1 := [AI x1]) rfl ?_
  refine g_br1 rfl (t := 22) rfl (fun c1 => ?_) (fun c1 => ?_)
  · have c1 : x1 < 0 := of_decide_eq_true c1
    refine g_vret rfl rfl ?_
    exact (k1 c1)
  · have c1 : 0 ≤ x1 := Int.not_lt.mp (of_decide_eq_false c1)
    refine g_sk 2 (pc1 := 8) (st1 := [AI 417, AI x1]) rfl ?_
    refine g_br2 rfl (t := 22) rfl (fun c2 => ?_) (fun c2 => ?_)
    · have c2 : 417 ≤ x1 := of_decide_eq_true c2
      refine g_vret rfl rfl ?_
      exact (k2 c1 c2)
    · have c2 : x1 < 417 := Int.not_le.mp (of_decide_eq_false c2)
      refine g_sk 1 (pc1 := 12) (st1 := [AI x2]) rfl ?_
      refine g_br1 rfl (t := 22) rfl (fun c3 => ?_) (fun c3 => ?_)
      · have c3 : x2 < 0 := of_decide_eq_true c3
        refine g_vret rfl rfl ?_
        exact (k3 c1 c2 c3)
      · have c3 : 0 ≤ x2 := Int.not_lt.mp (of_decide_eq_false c3)
        refine g_sk 2 (pc1 := 19) (st1 := [AI 417, AI x2]) rfl ?_
        refine g_br2 rfl (t := 23) rfl (fun c4 => ?_) (fun c4 => ?_)
        · have c4 : x2 < 417 := of_decide_eq_true c4
          refine g_sx 2 (pc1 := 25) (L1 := [vR r0, vI x1, vI x2, vI 0]) (st1 := []) rfl ?_
          exact (k4 c1 c2 c3 c4)
        · have c4 : 417 ≤ x2 := Int.not_lt.mp (of_decide_eq_false c4)
          refine g_vret rfl rfl ?_
          exact (k5 c1 c2 c3 c4)

set_option maxRecDepth 8192 in
theorem t26_25 {d : Nat} {τ : T2} {Q : RS → T2 → Prop} {x1 x2 x3 : Int} {r0 q3 n5 : Nat} (sh2 : tS τ r0 = (1, 4, 0)) (p4 : tP τ r0 2 = some q3) (sh6 : tS τ q3 = (2, 3, n5)) (b7 : x3 < 5 → (0 : Int) ≤ (wr ((wr (x2 * 5)) + x3)) ∧ (wr ((wr (x2 * 5)) + x3)) < (n5 : Int)) (b8 : x3 < 5 → (0 : Int) ≤ (wr ((wr (x1 * 5)) + x3)) ∧ (wr ((wr (x1 * 5)) + x3)) < (n5 : Int)) (k1 : 5 ≤ x3 → Q (.inl none) τ) (k2 : x3 < 5 → G d 26 25 [vR r0, vI x1, vI x2, vI (wr (x3 + 1))] [] (uI τ q3 (wr ((wr (x2 * 5)) + x3)).toNat (lor (tI τ q3 (wr ((wr (x2 * 5)) + x3)).toNat) (tI τ q3 (wr ((wr (x1 * 5)) + x3)).toNat))) Q) : G d 26 25 [vR r0, vI x1, vI x2, vI x3] [] τ Q := by
  refine g_sk 2 (pc1 := 27) (st1 := [AI 5, AI x3]) rfl ?_
  refine g_br2 rfl (t := 59) rfl (fun c1 => ?_) (fun c1 => ?_)
  · have c1 : 5 ≤ x3 := of_decide_eq_true c1
    refine g_vret rfl rfl ?_
    exact (k1 c1)
  · have c1 : x3 < 5 := Int.not_le.mp (of_decide_eq_false c1)
    refine g_sk 1 (pc1 := 31) (st1 := [AR r0]) rfl ?_
    refine g_gQ rfl (ci := 4) (k := 2) rfl sh2 p4 ?_
    refine g_sk 6 (pc1 := 40) (st1 := [AI (wr ((wr (x2 * 5)) + x3)), AR q3, AI (wr ((wr (x2 * 5)) + x3)), AR q3]) rfl ?_
    refine g_lald rfl sh6 (b7 c1).1 (b7 c1).2 ?_
    refine g_sk 1 (pc1 := 42) (st1 := [AR r0, AL (tI τ q3 (wr ((wr (x2 * 5)) + x3)).toNat), AI (wr ((wr (x2 * 5)) + x3)), AR q3]) rfl ?_
    refine g_gQ rfl (ci := 4) (k := 2) rfl sh2 p4 ?_
    refine g_sk 5 (pc1 := 50) (st1 := [AI (wr ((wr (x1 * 5)) + x3)), AR q3, AL (tI τ q3 (wr ((wr (x2 * 5)) + x3)).toNat), AI (wr ((wr (x2 * 5)) + x3)), AR q3]) rfl ?_
    refine g_lald rfl sh6 (b8 c1).1 (b8 c1).2 ?_
    refine g_sk 1 (pc1 := 52) (st1 := [AL (lor (tI τ q3 (wr ((wr (x2 * 5)) + x3)).toNat) (tI τ q3 (wr ((wr (x1 * 5)) + x3)).toNat)), AI (wr ((wr (x2 * 5)) + x3)), AR q3]) rfl ?_
    refine g_last rfl sh6 (b7 c1).1 (b7 c1).2 ?_
    refine g_sx 2 (pc1 := 25) (L1 := [vR r0, vI x1, vI x2, vI (wr (x3 + 1))]) (st1 := []) rfl ?_
    exact (k2 c1)

set_option maxRecDepth 8192 in
theorem t27_0 {d : Nat} {τ : T2} {Q : RS → T2 → Prop} {r0 : Nat} (hd : 17 ≤ d) (k1 : G d 27 10 [vR r0] [AR (tN τ), AR r0] (nC τ (2, 0, 500) 500) Q) : G d 27 0 [vR r0] [] τ Q := by
  refine g_sk 1 (pc1 := 1) (st1 := [AR r0]) rfl ?_
  refine g_oin (na := 1) rfl rfl rfl hd ?_
  refine g_sk 2 (pc1 := 8) (st1 := [AI 500, AR r0]) rfl ?_
  refine g_newa rfl rfl (by decide) (by decide) ?_
  exact k1

set_option maxRecDepth 8192 in
theorem t27_10 {d : Nat} {τ : T2} {Q : RS → T2 → Prop} {r0 s1 : Nat} {s0 : Option Nat} (sh1 : tS τ s1 = (1, 5, 0)) (k1 : G d 27 19 [vR r0] [AR (tN (uP τ s1 0 s0)), AR r0] (nC (uP τ s1 0 s0) (3, 6, 100) 100) Q) : G d 27 10 [vR r0] [AP s0, AR s1] τ Q := by
  refine g_putP rfl (ci := 5) (k := 0) rfl sh1 ?_
  refine g_sk 2 (pc1 := 16) (st1 := [AI 100, AR r0]) rfl ?_
  refine g_newq rfl rfl (by decide) (by decide) ?_
  exact k1

set_option maxRecDepth 8192 in
theorem t27_19 {d : Nat} {τ : T2} {Q : RS → T2 → Prop} {r0 s1 : Nat} {s0 : Option Nat} (sh1 : tS τ s1 = (1, 5, 0)) (sh2 : tS τ r0 = (1, 5, 0)) (k1 : Q (.inl none) (uP (uI (uI (uI (uI (uI (uI (uI (uP τ s1 1 s0) r0 2 0) r0 3 0) r0 4 0) r0 5 0) r0 6 0) r0 7 0) r0 8 0) r0 9 none)) : G d 27 19 [vR r0] [AP s0, AR s1] τ Q := by
  refine g_putP rfl (ci := 5) (k := 1) rfl sh1 ?_
  refine g_sk 2 (pc1 := 24) (st1 := [AI 0, AR r0]) rfl ?_
  refine g_putI (x := 0) rfl (ci := 5) (k := 2) (kd := 0) rfl (by decide) rfl rfl sh2 ?_
  refine g_sk 2 (pc1 := 29) (st1 := [AI 0, AR r0]) rfl ?_
  refine g_putI (x := 0) rfl (ci := 5) (k := 3) (kd := 0) rfl (by decide) rfl rfl sh2 ?_
  refine g_sk 2 (pc1 := 34) (st1 := [AI 0, AR r0]) rfl ?_
  refine g_putI (x := 0) rfl (ci := 5) (k := 4) (kd := 0) rfl (by decide) rfl rfl sh2 ?_
  refine g_sk 2 (pc1 := 39) (st1 := [AI 0, AR r0]) rfl ?_
  refine g_putI (x := 0) rfl (ci := 5) (k := 5) (kd := 0) rfl (by decide) rfl rfl sh2 ?_
  refine g_sk 2 (pc1 := 44) (st1 := [AI 0, AR r0]) rfl ?_
  refine g_putI (x := 0) rfl (ci := 5) (k := 6) (kd := 0) rfl (by decide) rfl rfl sh2 ?_
  refine g_sk 2 (pc1 := 49) (st1 := [AI 0, AR r0]) rfl ?_
  refine g_putI (x := 0) rfl (ci := 5) (k := 7) (kd := 0) rfl (by decide) rfl rfl sh2 ?_
  refine g_sk 2 (pc1 := 54) (st1 := [AI 0, AR r0]) rfl ?_
  refine g_putI (x := 0) rfl (ci := 5) (k := 8) (kd := 0) rfl (by decide) rfl rfl sh2 ?_
  refine g_sk 2 (pc1 := 59) (st1 := [AN, AR r0]) rfl ?_
  refine g_putP rfl (ci := 5) (k := 9) rfl sh2 ?_
  refine g_vret rfl rfl ?_
  exact k1

set_option maxRecDepth 8192 in
theorem t28_0 {d : Nat} {τ : T2} {Q : RS → T2 → Prop} {x1 x2 x3 x4 x5 : Int} {r0 q3 n5 q13 n15 : Nat} (hd : 17 ≤ d) (sh1 : tS τ r0 = (1, 5, 0)) (p4 : tP τ r0 0 = some q3) (sh6 : tS τ q3 = (2, 0, n5)) (b8 : 0 ≤ (wr ((tI τ r0 2) * 5)) → (wr ((wr ((tI τ r0 2) * 5)) + 5)) ≤ (n5 : Int) → (0 : Int) ≤ (wr ((tI τ r0 2) * 5)) ∧ (wr ((tI τ r0 2) * 5)) < (n5 : Int)) (b9 : 0 ≤ (wr ((tI τ r0 2) * 5)) → (wr ((wr ((tI τ r0 2) * 5)) + 5)) ≤ (n5 : Int) → (0 : Int) ≤ (wr ((wr ((tI τ r0 2) * 5)) + 1)) ∧ (wr ((wr ((tI τ r0 2) * 5)) + 1)) < (n5 : Int)) (b10 : 0 ≤ (wr ((tI τ r0 2) * 5)) → (wr ((wr ((tI τ r0 2) * 5)) + 5)) ≤ (n5 : Int) → (0 : Int) ≤ (wr ((wr ((tI τ r0 2) * 5)) + 2)) ∧ (wr ((wr ((tI τ r0 2) * 5)) + 2)) < (n5 : Int)) (b11 : 0 ≤ (wr ((tI τ r0 2) * 5)) → (wr ((wr ((tI τ r0 2) * 5)) + 5)) ≤ (n5 : Int) → (0 : Int) ≤ (wr ((wr ((tI τ r0 2) * 5)) + 3)) ∧ (wr ((wr ((tI τ r0 2) * 5)) + 3)) < (n5 : Int)) (b12 : 0 ≤ (wr ((tI τ r0 2) * 5)) → (wr ((wr ((tI τ r0 2) * 5)) + 5)) ≤ (n5 : Int) → (0 : Int) ≤ (wr ((wr ((tI τ r0 2) * 5)) + 4)) ∧ (wr ((wr ((tI τ r0 2) * 5)) + 4)) < (n5 : Int)) (p14 : tP τ r0 1 = some q13) (sh16 : tS τ q13 = (3, 6, n15)) (b17 : 0 ≤ (wr ((tI τ r0 2) * 5)) → (wr ((wr ((tI τ r0 2) * 5)) + 5)) ≤ (n5 : Int) → (0 : Int) ≤ (tI (uI (uI (uI (uI (uI τ q3 (wr ((tI τ r0 2) * 5)).toNat x1) q3 (wr ((wr ((tI τ r0 2) * 5)) + 1)).toNat x2) q3 (wr ((wr ((tI τ r0 2) * 5)) + 2)).toNat x3) q3 (wr ((wr ((tI τ r0 2) * 5)) + 3)).toNat x4) q3 (wr ((wr ((tI τ r0 2) * 5)) + 4)).toNat x5) r0 2) ∧ (tI (uI (uI (uI (uI (uI τ q3 (wr ((tI τ r0 2) * 5)).toNat x1) q3 (wr ((wr ((tI τ r0 2) * 5)) + 1)).toNat x2) q3 (wr ((wr ((tI τ r0 2) * 5)) + 2)).toNat x3) q3 (wr ((wr ((tI τ r0 2) * 5)) + 3)).toNat x4) q3 (wr ((wr ((tI τ r0 2) * 5)) + 4)).toNat x5) r0 2) < (n15 : Int)) (k1 : (wr ((tI τ r0 2) * 5)) < 0 → Q (.inl none) τ) (k2 : 0 ≤ (wr ((tI τ r0 2) * 5)) → (wr ((wr ((tI τ r0 2) * 5)) + 5)) ≤ (n5 : Int) → ∀ τ18, (uP (uI (uI (uI (uI (uI τ q3 (wr ((tI τ r0 2) * 5)).toNat x1) q3 (wr ((wr ((tI τ r0 2) * 5)) + 1)).toNat x2) q3 (wr ((wr ((tI τ r0 2) * 5)) + 2)).toNat x3) q3 (wr ((wr ((tI τ r0 2) * 5)) + 3)).toNat x4) q3 (wr ((wr ((tI τ r0 2) * 5)) + 4)).toNat x5) q13 (tI (uI (uI (uI (uI (uI τ q3 (wr ((tI τ r0 2) * 5)).toNat x1) q3 (wr ((wr ((tI τ r0 2) * 5)) + 1)).toNat x2) q3 (wr ((wr ((tI τ r0 2) * 5)) + 2)).toNat x3) q3 (wr ((wr ((tI τ r0 2) * 5)) + 3)).toNat x4) q3 (wr ((wr ((tI τ r0 2) * 5)) + 4)).toNat x5) r0 2).toNat none) = τ18 → 100 ≤ (wr ((tI τ18 r0 2) + 1)) → Q (.inl none) (uI (uI τ18 r0 2 0) r0 3 (if 100 < (wr ((tI (uI τ18 r0 2 0) r0 3) + 1)) then 100 else (wr ((tI (uI τ18 r0 2 0) r0 3) + 1))))) (k3 : 0 ≤ (wr ((tI τ r0 2) * 5)) → (wr ((wr ((tI τ r0 2) * 5)) + 5)) ≤ (n5 : Int) → ∀ τ18, (uP (uI (uI (uI (uI (uI τ q3 (wr ((tI τ r0 2) * 5)).toNat x1) q3 (wr ((wr ((tI τ r0 2) * 5)) + 1)).toNat x2) q3 (wr ((wr ((tI τ r0 2) * 5)) + 2)).toNat x3) q3 (wr ((wr ((tI τ r0 2) * 5)) + 3)).toNat x4) q3 (wr ((wr ((tI τ r0 2) * 5)) + 4)).toNat x5) q13 (tI (uI (uI (uI (uI (uI τ q3 (wr ((tI τ r0 2) * 5)).toNat x1) q3 (wr ((wr ((tI τ r0 2) * 5)) + 1)).toNat x2) q3 (wr ((wr ((tI τ r0 2) * 5)) + 2)).toNat x3) q3 (wr ((wr ((tI τ r0 2) * 5)) + 3)).toNat x4) q3 (wr ((wr ((tI τ r0 2) * 5)) + 4)).toNat x5) r0 2).toNat none) = τ18 → (wr ((tI τ18 r0 2) + 1)) < 100 → Q (.inl none) (uI (uI τ18 r0 2 (wr ((tI τ18 r0 2) + 1))) r0 3 (if 100 < (wr ((tI (uI τ18 r0 2 (wr ((tI τ18 r0 2) + 1))) r0 3) + 1)) then 100 else (wr ((tI (uI τ18 r0 2 (wr ((tI τ18 r0 2) + 1))) r0 3) + 1))))) (k4 : 0 ≤ (wr ((tI τ r0 2) * 5)) → (n5 : Int) < (wr ((wr ((tI τ r0 2) * 5)) + 5)) → Q (.inl none) τ) : G d 28 0 [vR r0, vI x1, vI x2, vI x3, vI x4, vI x5, none] [] τ Q := by
  refine g_sk 1 (pc1 := 1) (st1 := [AR r0]) rfl ?_
  refine g_gI rfl (ci := 5) (k := 2) rfl sh1 ?_
  refine g_sx 4 (pc1 := 10) (L1 := [vR r0, vI x1, vI x2, vI x3, vI x4, vI x5, vI (wr ((tI τ r0 2) * 5))]) (st1 := [AI (wr ((tI τ r0 2) * 5))]) rfl ?_
  refine g_br1 rfl (t := 25) rfl (fun c2 => ?_) (fun c2 => ?_)
  · have c2 : (wr ((tI τ r0 2) * 5)) < 0 := of_decide_eq_true c2
    refine g_vret rfl rfl ?_
    exact (k1 c2)
  · have c2 : 0 ≤ (wr ((tI τ r0 2) * 5)) := Int.not_lt.mp (of_decide_eq_false c2)
    refine g_sk 4 (pc1 := 18) (st1 := [AR r0, AI (wr ((wr ((tI τ r0 2) * 5)) + 5))]) rfl ?_
    refine g_gQ rfl (ci := 5) (k := 0) rfl sh1 p4 ?_
    refine g_al2 rfl sh6 ?_
    refine g_br2 rfl (t := 26) rfl (fun c7 => ?_) (fun c7 => ?_)
    · have c7 : (wr ((wr ((tI τ r0 2) * 5)) + 5)) ≤ (n5 : Int) := of_decide_eq_true c7
      refine g_sk 1 (pc1 := 27) (st1 := [AR r0]) rfl ?_
      refine g_gQ rfl (ci := 5) (k := 0) rfl sh1 p4 ?_
      refine g_sk 2 (pc1 := 33) (st1 := [AI x1, AI (wr ((tI τ r0 2) * 5)), AR q3]) rfl ?_
      refine g_iast rfl sh6 (b8 c2 c7).1 (b8 c2 c7).2 ?_
      refine g_sk 1 (pc1 := 35) (st1 := [AR r0]) rfl ?_
      refine g_gQ rfl (ci := 5) (k := 0) rfl sh1 p4 ?_
      refine g_sk 4 (pc1 := 43) (st1 := [AI x2, AI (wr ((wr ((tI τ r0 2) * 5)) + 1)), AR q3]) rfl ?_
      refine g_iast rfl sh6 (b9 c2 c7).1 (b9 c2 c7).2 ?_
      refine g_sk 1 (pc1 := 45) (st1 := [AR r0]) rfl ?_
      refine g_gQ rfl (ci := 5) (k := 0) rfl sh1 p4 ?_
      refine g_sk 4 (pc1 := 53) (st1 := [AI x3, AI (wr ((wr ((tI τ r0 2) * 5)) + 2)), AR q3]) rfl ?_
      refine g_iast rfl sh6 (b10 c2 c7).1 (b10 c2 c7).2 ?_
      refine g_sk 1 (pc1 := 55) (st1 := [AR r0]) rfl ?_
      refine g_gQ rfl (ci := 5) (k := 0) rfl sh1 p4 ?_
      refine g_sk 4 (pc1 := 64) (st1 := [AI x4, AI (wr ((wr ((tI τ r0 2) * 5)) + 3)), AR q3]) rfl ?_
      refine g_iast rfl sh6 (b11 c2 c7).1 (b11 c2 c7).2 ?_
      refine g_sk 1 (pc1 := 66) (st1 := [AR r0]) rfl ?_
      refine g_gQ rfl (ci := 5) (k := 0) rfl sh1 p4 ?_
      refine g_sk 4 (pc1 := 75) (st1 := [AI x5, AI (wr ((wr ((tI τ r0 2) * 5)) + 4)), AR q3]) rfl ?_
      refine g_iast rfl sh6 (b12 c2 c7).1 (b12 c2 c7).2 ?_
      refine g_sk 1 (pc1 := 77) (st1 := [AR r0]) rfl ?_
      refine g_gQ rfl (ci := 5) (k := 1) rfl sh1 p14 ?_
      refine g_sk 1 (pc1 := 81) (st1 := [AR r0, AR q13]) rfl ?_
      refine g_gI rfl (ci := 5) (k := 2) rfl sh1 ?_
      refine g_sk 1 (pc1 := 85) (st1 := [AN, AI (tI (uI (uI (uI (uI (uI τ q3 (wr ((tI τ r0 2) * 5)).toNat x1) q3 (wr ((wr ((tI τ r0 2) * 5)) + 1)).toNat x2) q3 (wr ((wr ((tI τ r0 2) * 5)) + 2)).toNat x3) q3 (wr ((wr ((tI τ r0 2) * 5)) + 3)).toNat x4) q3 (wr ((wr ((tI τ r0 2) * 5)) + 4)).toNat x5) r0 2), AR q13]) rfl ?_
      refine g_aastN rfl sh16 (by decide) (b17 c2 c7).1 (b17 c2 c7).2 ?_
      generalize e19 : (uP (uI (uI (uI (uI (uI τ q3 (wr ((tI τ r0 2) * 5)).toNat x1) q3 (wr ((wr ((tI τ r0 2) * 5)) + 1)).toNat x2) q3 (wr ((wr ((tI τ r0 2) * 5)) + 2)).toNat x3) q3 (wr ((wr ((tI τ r0 2) * 5)) + 3)).toNat x4) q3 (wr ((wr ((tI τ r0 2) * 5)) + 4)).toNat x5) q13 (tI (uI (uI (uI (uI (uI τ q3 (wr ((tI τ r0 2) * 5)).toNat x1) q3 (wr ((wr ((tI τ r0 2) * 5)) + 1)).toNat x2) q3 (wr ((wr ((tI τ r0 2) * 5)) + 2)).toNat x3) q3 (wr ((wr ((tI τ r0 2) * 5)) + 3)).toNat x4) q3 (wr ((wr ((tI τ r0 2) * 5)) + 4)).toNat x5) r0 2).toNat none) = τ18
      refine g_sk 2 (pc1 := 88) (st1 := [AR r0, AR r0]) rfl ?_
      refine g_gI rfl (ci := 5) (k := 2) rfl (by rw [← e19]; exact sh1) ?_
      refine g_sk 3 (pc1 := 95) (st1 := [AI 100, AI (wr ((tI τ18 r0 2) + 1)), AR r0]) rfl ?_
      refine g_br2 rfl (t := 107) rfl (fun c20 => ?_) (fun c20 => ?_)
      · have c20 : 100 ≤ (wr ((tI τ18 r0 2) + 1)) := of_decide_eq_true c20
        refine g_sk 1 (pc1 := 108) (st1 := [AI 0, AR r0]) rfl ?_
        refine g_putI (x := 0) rfl (ci := 5) (k := 2) (kd := 0) rfl (by decide) rfl rfl (by rw [← e19]; exact sh1) ?_
        refine g_sk 2 (pc1 := 113) (st1 := [AR r0, AR r0]) rfl ?_
        refine g_gI rfl (ci := 5) (k := 3) rfl (by rw [← e19]; exact sh1) ?_
        refine g_sk 3 (pc1 := 120) (st1 := [AI 100, AI (wr ((tI (uI τ18 r0 2 0) r0 3) + 1)), AR r0]) rfl ?_
        refine g_min rfl rfl rfl hd ?_
        refine g_putI (x := (if 100 < (wr ((tI (uI τ18 r0 2 0) r0 3) + 1)) then 100 else (wr ((tI (uI τ18 r0 2 0) r0 3) + 1)))) rfl (ci := 5) (k := 3) (kd := 0) rfl (by decide) rfl rfl (by rw [← e19]; exact sh1) ?_
        refine g_vret rfl rfl ?_
        exact (k2 c2 c7 τ18 e19 c20)
      · have c20 : (wr ((tI τ18 r0 2) + 1)) < 100 := Int.not_le.mp (of_decide_eq_false c20)
        refine g_sk 1 (pc1 := 99) (st1 := [AR r0, AR r0]) rfl ?_
        refine g_gI rfl (ci := 5) (k := 2) rfl (by rw [← e19]; exact sh1) ?_
        refine g_sk 3 (pc1 := 108) (st1 := [AI (wr ((tI τ18 r0 2) + 1)), AR r0]) rfl ?_
        refine g_putI (x := (wr ((tI τ18 r0 2) + 1))) rfl (ci := 5) (k := 2) (kd := 0) rfl (by decide) rfl rfl (by rw [← e19]; exact sh1) ?_
        refine g_sk 2 (pc1 := 113) (st1 := [AR r0, AR r0]) rfl ?_
        refine g_gI rfl (ci := 5) (k := 3) rfl (by rw [← e19]; exact sh1) ?_
        refine g_sk 3 (pc1 := 120) (st1 := [AI 100, AI (wr ((tI (uI τ18 r0 2 (wr ((tI τ18 r0 2) + 1))) r0 3) + 1)), AR r0]) rfl ?_
        refine g_min rfl rfl rfl hd ?_
        refine g_putI (x := (if 100 < (wr ((tI (uI τ18 r0 2 (wr ((tI τ18 r0 2) + 1))) r0 3) + 1)) then 100 else (wr ((tI (uI τ18 r0 2 (wr ((tI τ18 r0 2) + 1))) r0 3) + 1)))) rfl (ci := 5) (k := 3) (kd := 0) rfl (by decide) rfl rfl (by rw [← e19]; exact sh1) ?_
        refine g_vret rfl rfl ?_
        exact (k3 c2 c7 τ18 e19 c20)
    · have c7 : (n5 : Int) < (wr ((wr ((tI τ r0 2) * 5)) + 5)) := Int.not_le.mp (of_decide_eq_false c7)
      refine g_vret rfl rfl ?_
      exact (k4 c2 c7)

set_option maxRecDepth 8192 in
theorem t29_0 {d : Nat} {τ : T2} {Q : RS → T2 → Prop} {r0 r1 q4 n6 : Nat} (sh1 : tS τ r0 = (1, 5, 0)) (p5 : tP τ r0 1 = some q4) (sh7 : tS τ q4 = (3, 6, n6)) (b8 : (0 : Int) ≤ 99 ∧ 99 < (n6 : Int)) (p9 : (tI τ r0 2) ≤ 0 → (99 : Int) < (100 : Int) → okEs 6 (tS τ r1) = true) (b11 : 0 < (tI τ r0 2) → (wr ((tI τ r0 2) - 1)) < 100 → (0 : Int) ≤ (wr ((tI τ r0 2) - 1)) ∧ (wr ((tI τ r0 2) - 1)) < (n6 : Int)) (p12 : 0 < (tI τ r0 2) → (wr ((tI τ r0 2) - 1)) < 100 → okEs 6 (tS τ r1) = true) (k1 : (tI τ r0 2) ≤ 0 → (100 : Int) ≤ (99 : Int) → Q (.inl none) τ) (k2 : (tI τ r0 2) ≤ 0 → (99 : Int) < (100 : Int) → Q (.inl none) (uP τ q4 99 (some r1))) (k3 : 0 < (tI τ r0 2) → 100 ≤ (wr ((tI τ r0 2) - 1)) → Q (.inl none) τ) (k4 : 0 < (tI τ r0 2) → (wr ((tI τ r0 2) - 1)) < 100 → Q (.inl none) (uP τ q4 (wr ((tI τ r0 2) - 1)).toNat (some r1))) : G d 29 0 [vR r0, vR r1, none] [] τ Q := by
  refine g_sk 1 (pc1 := 1) (st1 := [AR r0]) rfl ?_
  refine g_gI rfl (ci := 5) (k := 2) rfl sh1 ?_
  refine g_br1 rfl (t := 16) rfl (fun c2 => ?_) (fun c2 => ?_)
  · have c2 : (tI τ r0 2) ≤ 0 := of_decide_eq_true c2
    refine g_sx 4 (pc1 := 22) (L1 := [vR r0, vR r1, vI 99]) (st1 := [AI 100, AI 99]) rfl ?_
    refine g_br2 rfl (t := 32) rfl (fun c3 => ?_) (fun c3 => ?_)
    · have c3 : (100 : Int) ≤ (99 : Int) := of_decide_eq_true c3
      refine g_vret rfl rfl ?_
      exact (k1 c2 c3)
    · have c3 : (99 : Int) < (100 : Int) := Int.not_le.mp (of_decide_eq_false c3)
      refine g_sk 1 (pc1 := 26) (st1 := [AR r0]) rfl ?_
      refine g_gQ rfl (ci := 5) (k := 1) rfl sh1 p5 ?_
      refine g_sk 2 (pc1 := 31) (st1 := [AR r1, AI 99, AR q4]) rfl ?_
      refine g_aast rfl sh7 (by decide) b8.1 b8.2 (p9 c2 c3) ?_
      refine g_vret rfl rfl ?_
      exact (k2 c2 c3)
  · have c2 : 0 < (tI τ r0 2) := Int.not_le.mp (of_decide_eq_false c2)
    refine g_sk 1 (pc1 := 8) (st1 := [AR r0]) rfl ?_
    refine g_gI rfl (ci := 5) (k := 2) rfl sh1 ?_
    refine g_sx 6 (pc1 := 22) (L1 := [vR r0, vR r1, vI (wr ((tI τ r0 2) - 1))]) (st1 := [AI 100, AI (wr ((tI τ r0 2) - 1))]) rfl ?_
    refine g_br2 rfl (t := 32) rfl (fun c10 => ?_) (fun c10 => ?_)
    · have c10 : 100 ≤ (wr ((tI τ r0 2) - 1)) := of_decide_eq_true c10
      refine g_vret rfl rfl ?_
      exact (k3 c2 c10)
    · have c10 : (wr ((tI τ r0 2) - 1)) < 100 := Int.not_le.mp (of_decide_eq_false c10)
      refine g_sk 1 (pc1 := 26) (st1 := [AR r0]) rfl ?_
      refine g_gQ rfl (ci := 5) (k := 1) rfl sh1 p5 ?_
      refine g_sk 2 (pc1 := 31) (st1 := [AR r1, AI (wr ((tI τ r0 2) - 1)), AR q4]) rfl ?_
      refine g_aast rfl sh7 (by decide) (b11 c2 c10).1 (b11 c2 c10).2 (p12 c2 c10) ?_
      refine g_vret rfl rfl ?_
      exact (k4 c2 c10)

set_option maxRecDepth 8192 in
theorem t30_0 {d : Nat} {τ : T2} {Q : RS → T2 → Prop} {r0 q4 n6 q18 n20 : Nat} (sh1 : tS τ r0 = (1, 5, 0)) (p5 : tP τ r0 0 = some q4) (sh7 : tS τ q4 = (2, 0, n6)) (b9 : 0 < (tI τ r0 3) → (tI (uI τ r0 3 (wr ((tI τ r0 3) - 1))) r0 2) ≤ 0 → (wr ((wr ((tI (uI (uI τ r0 3 (wr ((tI τ r0 3) - 1))) r0 2 99) r0 2) * 5)) + 5)) ≤ (n6 : Int) → (0 : Int) ≤ (wr ((tI (uI (uI τ r0 3 (wr ((tI τ r0 3) - 1))) r0 2 99) r0 2) * 5)) ∧ (wr ((tI (uI (uI τ r0 3 (wr ((tI τ r0 3) - 1))) r0 2 99) r0 2) * 5)) < (n6 : Int)) (b10 : 0 < (tI τ r0 3) → (tI (uI τ r0 3 (wr ((tI τ r0 3) - 1))) r0 2) ≤ 0 → (wr ((wr ((tI (uI (uI τ r0 3 (wr ((tI τ r0 3) - 1))) r0 2 99) r0 2) * 5)) + 5)) ≤ (n6 : Int) → (0 : Int) ≤ (wr ((wr ((tI (uI (uI τ r0 3 (wr ((tI τ r0 3) - 1))) r0 2 99) r0 2) * 5)) + 1)) ∧ (wr ((wr ((tI (uI (uI τ r0 3 (wr ((tI τ r0 3) - 1))) r0 2 99) r0 2) * 5)) + 1)) < (n6 : Int)) (b13 : 0 < (tI τ r0 3) → (tI (uI τ r0 3 (wr ((tI τ r0 3) - 1))) r0 2) ≤ 0 → (wr ((wr ((tI (uI (uI τ r0 3 (wr ((tI τ r0 3) - 1))) r0 2 99) r0 2) * 5)) + 5)) ≤ (n6 : Int) → ∀ τ11, (uI (uI (uI (uI τ r0 3 (wr ((tI τ r0 3) - 1))) r0 2 99) r0 4 (tI (uI (uI τ r0 3 (wr ((tI τ r0 3) - 1))) r0 2 99) q4 (wr ((tI (uI (uI τ r0 3 (wr ((tI τ r0 3) - 1))) r0 2 99) r0 2) * 5)).toNat)) r0 5 (tI (uI (uI (uI τ r0 3 (wr ((tI τ r0 3) - 1))) r0 2 99) r0 4 (tI (uI (uI τ r0 3 (wr ((tI τ r0 3) - 1))) r0 2 99) q4 (wr ((tI (uI (uI τ r0 3 (wr ((tI τ r0 3) - 1))) r0 2 99) r0 2) * 5)).toNat)) q4 (wr ((wr ((tI (uI (uI τ r0 3 (wr ((tI τ r0 3) - 1))) r0 2 99) r0 2) * 5)) + 1)).toNat)) = τ11 → (0 : Int) ≤ (wr ((wr ((tI (uI (uI τ r0 3 (wr ((tI τ r0 3) - 1))) r0 2 99) r0 2) * 5)) + 2)) ∧ (wr ((wr ((tI (uI (uI τ r0 3 (wr ((tI τ r0 3) - 1))) r0 2 99) r0 2) * 5)) + 2)) < (n6 : Int)) (b14 : 0 < (tI τ r0 3) → (tI (uI τ r0 3 (wr ((tI τ r0 3) - 1))) r0 2) ≤ 0 → (wr ((wr ((tI (uI (uI τ r0 3 (wr ((tI τ r0 3) - 1))) r0 2 99) r0 2) * 5)) + 5)) ≤ (n6 : Int) → ∀ τ11, (uI (uI (uI (uI τ r0 3 (wr ((tI τ r0 3) - 1))) r0 2 99) r0 4 (tI (uI (uI τ r0 3 (wr ((tI τ r0 3) - 1))) r0 2 99) q4 (wr ((tI (uI (uI τ r0 3 (wr ((tI τ r0 3) - 1))) r0 2 99) r0 2) * 5)).toNat)) r0 5 (tI (uI (uI (uI τ r0 3 (wr ((tI τ r0 3) - 1))) r0 2 99) r0 4 (tI (uI (uI τ r0 3 (wr ((tI τ r0 3) - 1))) r0 2 99) q4 (wr ((tI (uI (uI τ r0 3 (wr ((tI τ r0 3) - 1))) r0 2 99) r0 2) * 5)).toNat)) q4 (wr ((wr ((tI (uI (uI τ r0 3 (wr ((tI τ r0 3) - 1))) r0 2 99) r0 2) * 5)) + 1)).toNat)) = τ11 → (0 : Int) ≤ (wr ((wr ((tI (uI (uI τ r0 3 (wr ((tI τ r0 3) - 1))) r0 2 99) r0 2) * 5)) + 3)) ∧ (wr ((wr ((tI (uI (uI τ r0 3 (wr ((tI τ r0 3) - 1))) r0 2 99) r0 2) * 5)) + 3)) < (n6 : Int)) (b17 : 0 < (tI τ r0 3) → (tI (uI τ r0 3 (wr ((tI τ r0 3) - 1))) r0 2) ≤ 0 → (wr ((wr ((tI (uI (uI τ r0 3 (wr ((tI τ r0 3) - 1))) r0 2 99) r0 2) * 5)) + 5)) ≤ (n6 : Int) → ∀ τ11, (uI (uI (uI (uI τ r0 3 (wr ((tI τ r0 3) - 1))) r0 2 99) r0 4 (tI (uI (uI τ r0 3 (wr ((tI τ r0 3) - 1))) r0 2 99) q4 (wr ((tI (uI (uI τ r0 3 (wr ((tI τ r0 3) - 1))) r0 2 99) r0 2) * 5)).toNat)) r0 5 (tI (uI (uI (uI τ r0 3 (wr ((tI τ r0 3) - 1))) r0 2 99) r0 4 (tI (uI (uI τ r0 3 (wr ((tI τ r0 3) - 1))) r0 2 99) q4 (wr ((tI (uI (uI τ r0 3 (wr ((tI τ r0 3) - 1))) r0 2 99) r0 2) * 5)).toNat)) q4 (wr ((wr ((tI (uI (uI τ r0 3 (wr ((tI τ r0 3) - 1))) r0 2 99) r0 2) * 5)) + 1)).toNat)) = τ11 → ∀ τ15, (uI (uI τ11 r0 6 (tI τ11 q4 (wr ((wr ((tI (uI (uI τ r0 3 (wr ((tI τ r0 3) - 1))) r0 2 99) r0 2) * 5)) + 2)).toNat)) r0 7 (tI (uI τ11 r0 6 (tI τ11 q4 (wr ((wr ((tI (uI (uI τ r0 3 (wr ((tI τ r0 3) - 1))) r0 2 99) r0 2) * 5)) + 2)).toNat)) q4 (wr ((wr ((tI (uI (uI τ r0 3 (wr ((tI τ r0 3) - 1))) r0 2 99) r0 2) * 5)) + 3)).toNat)) = τ15 → (0 : Int) ≤ (wr ((wr ((tI (uI (uI τ r0 3 (wr ((tI τ r0 3) - 1))) r0 2 99) r0 2) * 5)) + 4)) ∧ (wr ((wr ((tI (uI (uI τ r0 3 (wr ((tI τ r0 3) - 1))) r0 2 99) r0 2) * 5)) + 4)) < (n6 : Int)) (p19 : tP τ r0 1 = some q18) (sh21 : tS τ q18 = (3, 6, n20)) (b22 : 0 < (tI τ r0 3) → (tI (uI τ r0 3 (wr ((tI τ r0 3) - 1))) r0 2) ≤ 0 → (wr ((wr ((tI (uI (uI τ r0 3 (wr ((tI τ r0 3) - 1))) r0 2 99) r0 2) * 5)) + 5)) ≤ (n6 : Int) → ∀ τ11, (uI (uI (uI (uI τ r0 3 (wr ((tI τ r0 3) - 1))) r0 2 99) r0 4 (tI (uI (uI τ r0 3 (wr ((tI τ r0 3) - 1))) r0 2 99) q4 (wr ((tI (uI (uI τ r0 3 (wr ((tI τ r0 3) - 1))) r0 2 99) r0 2) * 5)).toNat)) r0 5 (tI (uI (uI (uI τ r0 3 (wr ((tI τ r0 3) - 1))) r0 2 99) r0 4 (tI (uI (uI τ r0 3 (wr ((tI τ r0 3) - 1))) r0 2 99) q4 (wr ((tI (uI (uI τ r0 3 (wr ((tI τ r0 3) - 1))) r0 2 99) r0 2) * 5)).toNat)) q4 (wr ((wr ((tI (uI (uI τ r0 3 (wr ((tI τ r0 3) - 1))) r0 2 99) r0 2) * 5)) + 1)).toNat)) = τ11 → ∀ τ15, (uI (uI τ11 r0 6 (tI τ11 q4 (wr ((wr ((tI (uI (uI τ r0 3 (wr ((tI τ r0 3) - 1))) r0 2 99) r0 2) * 5)) + 2)).toNat)) r0 7 (tI (uI τ11 r0 6 (tI τ11 q4 (wr ((wr ((tI (uI (uI τ r0 3 (wr ((tI τ r0 3) - 1))) r0 2 99) r0 2) * 5)) + 2)).toNat)) q4 (wr ((wr ((tI (uI (uI τ r0 3 (wr ((tI τ r0 3) - 1))) r0 2 99) r0 2) * 5)) + 3)).toNat)) = τ15 → (0 : Int) ≤ (tI (uI τ15 r0 8 (tI τ15 q4 (wr ((wr ((tI (uI (uI τ r0 3 (wr ((tI τ r0 3) - 1))) r0 2 99) r0 2) * 5)) + 4)).toNat)) r0 2) ∧ (tI (uI τ15 r0 8 (tI τ15 q4 (wr ((wr ((tI (uI (uI τ r0 3 (wr ((tI τ r0 3) - 1))) r0 2 99) r0 2) * 5)) + 4)).toNat)) r0 2) < (n20 : Int)) (b26 : 0 < (tI τ r0 3) → 0 < (tI (uI τ r0 3 (wr ((tI τ r0 3) - 1))) r0 2) → (wr ((wr ((tI (uI (uI τ r0 3 (wr ((tI τ r0 3) - 1))) r0 2 (wr ((tI (uI τ r0 3 (wr ((tI τ r0 3) - 1))) r0 2) - 1))) r0 2) * 5)) + 5)) ≤ (n6 : Int) → (0 : Int) ≤ (wr ((tI (uI (uI τ r0 3 (wr ((tI τ r0 3) - 1))) r0 2 (wr ((tI (uI τ r0 3 (wr ((tI τ r0 3) - 1))) r0 2) - 1))) r0 2) * 5)) ∧ (wr ((tI (uI (uI τ r0 3 (wr ((tI τ r0 3) - 1))) r0 2 (wr ((tI (uI τ r0 3 (wr ((tI τ r0 3) - 1))) r0 2) - 1))) r0 2) * 5)) < (n6 : Int)) (b29 : 0 < (tI τ r0 3) → 0 < (tI (uI τ r0 3 (wr ((tI τ r0 3) - 1))) r0 2) → (wr ((wr ((tI (uI (uI τ r0 3 (wr ((tI τ r0 3) - 1))) r0 2 (wr ((tI (uI τ r0 3 (wr ((tI τ r0 3) - 1))) r0 2) - 1))) r0 2) * 5)) + 5)) ≤ (n6 : Int) → ∀ τ27, (uI (uI (uI τ r0 3 (wr ((tI τ r0 3) - 1))) r0 2 (wr ((tI (uI τ r0 3 (wr ((tI τ r0 3) - 1))) r0 2) - 1))) r0 4 (tI (uI (uI τ r0 3 (wr ((tI τ r0 3) - 1))) r0 2 (wr ((tI (uI τ r0 3 (wr ((tI τ r0 3) - 1))) r0 2) - 1))) q4 (wr ((tI (uI (uI τ r0 3 (wr ((tI τ r0 3) - 1))) r0 2 (wr ((tI (uI τ r0 3 (wr ((tI τ r0 3) - 1))) r0 2) - 1))) r0 2) * 5)).toNat)) = τ27 → (0 : Int) ≤ (wr ((wr ((tI (uI (uI τ r0 3 (wr ((tI τ r0 3) - 1))) r0 2 (wr ((tI (uI τ r0 3 (wr ((tI τ r0 3) - 1))) r0 2) - 1))) r0 2) * 5)) + 1)) ∧ (wr ((wr ((tI (uI (uI τ r0 3 (wr ((tI τ r0 3) - 1))) r0 2 (wr ((tI (uI τ r0 3 (wr ((tI τ r0 3) - 1))) r0 2) - 1))) r0 2) * 5)) + 1)) < (n6 : Int)) (b30 : 0 < (tI τ r0 3) → 0 < (tI (uI τ r0 3 (wr ((tI τ r0 3) - 1))) r0 2) → (wr ((wr ((tI (uI (uI τ r0 3 (wr ((tI τ r0 3) - 1))) r0 2 (wr ((tI (uI τ r0 3 (wr ((tI τ r0 3) - 1))) r0 2) - 1))) r0 2) * 5)) + 5)) ≤ (n6 : Int) → ∀ τ27, (uI (uI (uI τ r0 3 (wr ((tI τ r0 3) - 1))) r0 2 (wr ((tI (uI τ r0 3 (wr ((tI τ r0 3) - 1))) r0 2) - 1))) r0 4 (tI (uI (uI τ r0 3 (wr ((tI τ r0 3) - 1))) r0 2 (wr ((tI (uI τ r0 3 (wr ((tI τ r0 3) - 1))) r0 2) - 1))) q4 (wr ((tI (uI (uI τ r0 3 (wr ((tI τ r0 3) - 1))) r0 2 (wr ((tI (uI τ r0 3 (wr ((tI τ r0 3) - 1))) r0 2) - 1))) r0 2) * 5)).toNat)) = τ27 → (0 : Int) ≤ (wr ((wr ((tI (uI (uI τ r0 3 (wr ((tI τ r0 3) - 1))) r0 2 (wr ((tI (uI τ r0 3 (wr ((tI τ r0 3) - 1))) r0 2) - 1))) r0 2) * 5)) + 2)) ∧ (wr ((wr ((tI (uI (uI τ r0 3 (wr ((tI τ r0 3) - 1))) r0 2 (wr ((tI (uI τ r0 3 (wr ((tI τ r0 3) - 1))) r0 2) - 1))) r0 2) * 5)) + 2)) < (n6 : Int)) (b33 : 0 < (tI τ r0 3) → 0 < (tI (uI τ r0 3 (wr ((tI τ r0 3) - 1))) r0 2) → (wr ((wr ((tI (uI (uI τ r0 3 (wr ((tI τ r0 3) - 1))) r0 2 (wr ((tI (uI τ r0 3 (wr ((tI τ r0 3) - 1))) r0 2) - 1))) r0 2) * 5)) + 5)) ≤ (n6 : Int) → ∀ τ27, (uI (uI (uI τ r0 3 (wr ((tI τ r0 3) - 1))) r0 2 (wr ((tI (uI τ r0 3 (wr ((tI τ r0 3) - 1))) r0 2) - 1))) r0 4 (tI (uI (uI τ r0 3 (wr ((tI τ r0 3) - 1))) r0 2 (wr ((tI (uI τ r0 3 (wr ((tI τ r0 3) - 1))) r0 2) - 1))) q4 (wr ((tI (uI (uI τ r0 3 (wr ((tI τ r0 3) - 1))) r0 2 (wr ((tI (uI τ r0 3 (wr ((tI τ r0 3) - 1))) r0 2) - 1))) r0 2) * 5)).toNat)) = τ27 → ∀ τ31, (uI (uI τ27 r0 5 (tI τ27 q4 (wr ((wr ((tI (uI (uI τ r0 3 (wr ((tI τ r0 3) - 1))) r0 2 (wr ((tI (uI τ r0 3 (wr ((tI τ r0 3) - 1))) r0 2) - 1))) r0 2) * 5)) + 1)).toNat)) r0 6 (tI (uI τ27 r0 5 (tI τ27 q4 (wr ((wr ((tI (uI (uI τ r0 3 (wr ((tI τ r0 3) - 1))) r0 2 (wr ((tI (uI τ r0 3 (wr ((tI τ r0 3) - 1))) r0 2) - 1))) r0 2) * 5)) + 1)).toNat)) q4 (wr ((wr ((tI (uI (uI τ r0 3 (wr ((tI τ r0 3) - 1))) r0 2 (wr ((tI (uI τ r0 3 (wr ((tI τ r0 3) - 1))) r0 2) - 1))) r0 2) * 5)) + 2)).toNat)) = τ31 → (0 : Int) ≤ (wr ((wr ((tI (uI (uI τ r0 3 (wr ((tI τ r0 3) - 1))) r0 2 (wr ((tI (uI τ r0 3 (wr ((tI τ r0 3) - 1))) r0 2) - 1))) r0 2) * 5)) + 3)) ∧ (wr ((wr ((tI (uI (uI τ r0 3 (wr ((tI τ r0 3) - 1))) r0 2 (wr ((tI (uI τ r0 3 (wr ((tI τ r0 3) - 1))) r0 2) - 1))) r0 2) * 5)) + 3)) < (n6 : Int)) (b34 : 0 < (tI τ r0 3) → 0 < (tI (uI τ r0 3 (wr ((tI τ r0 3) - 1))) r0 2) → (wr ((wr ((tI (uI (uI τ r0 3 (wr ((tI τ r0 3) - 1))) r0 2 (wr ((tI (uI τ r0 3 (wr ((tI τ r0 3) - 1))) r0 2) - 1))) r0 2) * 5)) + 5)) ≤ (n6 : Int) → ∀ τ27, (uI (uI (uI τ r0 3 (wr ((tI τ r0 3) - 1))) r0 2 (wr ((tI (uI τ r0 3 (wr ((tI τ r0 3) - 1))) r0 2) - 1))) r0 4 (tI (uI (uI τ r0 3 (wr ((tI τ r0 3) - 1))) r0 2 (wr ((tI (uI τ r0 3 (wr ((tI τ r0 3) - 1))) r0 2) - 1))) q4 (wr ((tI (uI (uI τ r0 3 (wr ((tI τ r0 3) - 1))) r0 2 (wr ((tI (uI τ r0 3 (wr ((tI τ r0 3) - 1))) r0 2) - 1))) r0 2) * 5)).toNat)) = τ27 → ∀ τ31, (uI (uI τ27 r0 5 (tI τ27 q4 (wr ((wr ((tI (uI (uI τ r0 3 (wr ((tI τ r0 3) - 1))) r0 2 (wr ((tI (uI τ r0 3 (wr ((tI τ r0 3) - 1))) r0 2) - 1))) r0 2) * 5)) + 1)).toNat)) r0 6 (tI (uI τ27 r0 5 (tI τ27 q4 (wr ((wr ((tI (uI (uI τ r0 3 (wr ((tI τ r0 3) - 1))) r0 2 (wr ((tI (uI τ r0 3 (wr ((tI τ r0 3) - 1))) r0 2) - 1))) r0 2) * 5)) + 1)).toNat)) q4 (wr ((wr ((tI (uI (uI τ r0 3 (wr ((tI τ r0 3) - 1))) r0 2 (wr ((tI (uI τ r0 3 (wr ((tI τ r0 3) - 1))) r0 2) - 1))) r0 2) * 5)) + 2)).toNat)) = τ31 → (0 : Int) ≤ (wr ((wr ((tI (uI (uI τ r0 3 (wr ((tI τ r0 3) - 1))) r0 2 (wr ((tI (uI τ r0 3 (wr ((tI τ r0 3) - 1))) r0 2) - 1))) r0 2) * 5)) + 4)) ∧ (wr ((wr ((tI (uI (uI τ r0 3 (wr ((tI τ r0 3) - 1))) r0 2 (wr ((tI (uI τ r0 3 (wr ((tI τ r0 3) - 1))) r0 2) - 1))) r0 2) * 5)) + 4)) < (n6 : Int)) (b37 : 0 < (tI τ r0 3) → 0 < (tI (uI τ r0 3 (wr ((tI τ r0 3) - 1))) r0 2) → (wr ((wr ((tI (uI (uI τ r0 3 (wr ((tI τ r0 3) - 1))) r0 2 (wr ((tI (uI τ r0 3 (wr ((tI τ r0 3) - 1))) r0 2) - 1))) r0 2) * 5)) + 5)) ≤ (n6 : Int) → ∀ τ27, (uI (uI (uI τ r0 3 (wr ((tI τ r0 3) - 1))) r0 2 (wr ((tI (uI τ r0 3 (wr ((tI τ r0 3) - 1))) r0 2) - 1))) r0 4 (tI (uI (uI τ r0 3 (wr ((tI τ r0 3) - 1))) r0 2 (wr ((tI (uI τ r0 3 (wr ((tI τ r0 3) - 1))) r0 2) - 1))) q4 (wr ((tI (uI (uI τ r0 3 (wr ((tI τ r0 3) - 1))) r0 2 (wr ((tI (uI τ r0 3 (wr ((tI τ r0 3) - 1))) r0 2) - 1))) r0 2) * 5)).toNat)) = τ27 → ∀ τ31, (uI (uI τ27 r0 5 (tI τ27 q4 (wr ((wr ((tI (uI (uI τ r0 3 (wr ((tI τ r0 3) - 1))) r0 2 (wr ((tI (uI τ r0 3 (wr ((tI τ r0 3) - 1))) r0 2) - 1))) r0 2) * 5)) + 1)).toNat)) r0 6 (tI (uI τ27 r0 5 (tI τ27 q4 (wr ((wr ((tI (uI (uI τ r0 3 (wr ((tI τ r0 3) - 1))) r0 2 (wr ((tI (uI τ r0 3 (wr ((tI τ r0 3) - 1))) r0 2) - 1))) r0 2) * 5)) + 1)).toNat)) q4 (wr ((wr ((tI (uI (uI τ r0 3 (wr ((tI τ r0 3) - 1))) r0 2 (wr ((tI (uI τ r0 3 (wr ((tI τ r0 3) - 1))) r0 2) - 1))) r0 2) * 5)) + 2)).toNat)) = τ31 → ∀ τ35, (uI (uI τ31 r0 7 (tI τ31 q4 (wr ((wr ((tI (uI (uI τ r0 3 (wr ((tI τ r0 3) - 1))) r0 2 (wr ((tI (uI τ r0 3 (wr ((tI τ r0 3) - 1))) r0 2) - 1))) r0 2) * 5)) + 3)).toNat)) r0 8 (tI (uI τ31 r0 7 (tI τ31 q4 (wr ((wr ((tI (uI (uI τ r0 3 (wr ((tI τ r0 3) - 1))) r0 2 (wr ((tI (uI τ r0 3 (wr ((tI τ r0 3) - 1))) r0 2) - 1))) r0 2) * 5)) + 3)).toNat)) q4 (wr ((wr ((tI (uI (uI τ r0 3 (wr ((tI τ r0 3) - 1))) r0 2 (wr ((tI (uI τ r0 3 (wr ((tI τ r0 3) - 1))) r0 2) - 1))) r0 2) * 5)) + 4)).toNat)) = τ35 → (0 : Int) ≤ (tI τ35 r0 2) ∧ (tI τ35 r0 2) < (n20 : Int)) (k1 : 0 < (tI τ r0 3) → (tI (uI τ r0 3 (wr ((tI τ r0 3) - 1))) r0 2) ≤ 0 → (wr ((wr ((tI (uI (uI τ r0 3 (wr ((tI τ r0 3) - 1))) r0 2 99) r0 2) * 5)) + 5)) ≤ (n6 : Int) → ∀ τ11, (uI (uI (uI (uI τ r0 3 (wr ((tI τ r0 3) - 1))) r0 2 99) r0 4 (tI (uI (uI τ r0 3 (wr ((tI τ r0 3) - 1))) r0 2 99) q4 (wr ((tI (uI (uI τ r0 3 (wr ((tI τ r0 3) - 1))) r0 2 99) r0 2) * 5)).toNat)) r0 5 (tI (uI (uI (uI τ r0 3 (wr ((tI τ r0 3) - 1))) r0 2 99) r0 4 (tI (uI (uI τ r0 3 (wr ((tI τ r0 3) - 1))) r0 2 99) q4 (wr ((tI (uI (uI τ r0 3 (wr ((tI τ r0 3) - 1))) r0 2 99) r0 2) * 5)).toNat)) q4 (wr ((wr ((tI (uI (uI τ r0 3 (wr ((tI τ r0 3) - 1))) r0 2 99) r0 2) * 5)) + 1)).toNat)) = τ11 → ∀ τ15, (uI (uI τ11 r0 6 (tI τ11 q4 (wr ((wr ((tI (uI (uI τ r0 3 (wr ((tI τ r0 3) - 1))) r0 2 99) r0 2) * 5)) + 2)).toNat)) r0 7 (tI (uI τ11 r0 6 (tI τ11 q4 (wr ((wr ((tI (uI (uI τ r0 3 (wr ((tI τ r0 3) - 1))) r0 2 99) r0 2) * 5)) + 2)).toNat)) q4 (wr ((wr ((tI (uI (uI τ r0 3 (wr ((tI τ r0 3) - 1))) r0 2 99) r0 2) * 5)) + 3)).toNat)) = τ15 → ∀ τ23, (uP (uI τ15 r0 8 (tI τ15 q4 (wr ((wr ((tI (uI (uI τ r0 3 (wr ((tI τ r0 3) - 1))) r0 2 99) r0 2) * 5)) + 4)).toNat)) r0 9 (tP (uI τ15 r0 8 (tI τ15 q4 (wr ((wr ((tI (uI (uI τ r0 3 (wr ((tI τ r0 3) - 1))) r0 2 99) r0 2) * 5)) + 4)).toNat)) q18 (tI (uI τ15 r0 8 (tI τ15 q4 (wr ((wr ((tI (uI (uI τ r0 3 (wr ((tI τ r0 3) - 1))) r0 2 99) r0 2) * 5)) + 4)).toNat)) r0 2).toNat)) = τ23 → Q (.inl (some (AI 1))) τ23) (k2 : 0 < (tI τ r0 3) → (tI (uI τ r0 3 (wr ((tI τ r0 3) - 1))) r0 2) ≤ 0 → (n6 : Int) < (wr ((wr ((tI (uI (uI τ r0 3 (wr ((tI τ r0 3) - 1))) r0 2 99) r0 2) * 5)) + 5)) → Q (.inl (some (AI 0))) (uI (uI τ r0 3 (wr ((tI τ r0 3) - 1))) r0 2 99)) (k3 : 0 < (tI τ r0 3) → 0 < (tI (uI τ r0 3 (wr ((tI τ r0 3) - 1))) r0 2) → (wr ((wr ((tI (uI (uI τ r0 3 (wr ((tI τ r0 3) - 1))) r0 2 (wr ((tI (uI τ r0 3 (wr ((tI τ r0 3) - 1))) r0 2) - 1))) r0 2) * 5)) + 5)) ≤ (n6 : Int) → ∀ τ27, (uI (uI (uI τ r0 3 (wr ((tI τ r0 3) - 1))) r0 2 (wr ((tI (uI τ r0 3 (wr ((tI τ r0 3) - 1))) r0 2) - 1))) r0 4 (tI (uI (uI τ r0 3 (wr ((tI τ r0 3) - 1))) r0 2 (wr ((tI (uI τ r0 3 (wr ((tI τ r0 3) - 1))) r0 2) - 1))) q4 (wr ((tI (uI (uI τ r0 3 (wr ((tI τ r0 3) - 1))) r0 2 (wr ((tI (uI τ r0 3 (wr ((tI τ r0 3) - 1))) r0 2) - 1))) r0 2) * 5)).toNat)) = τ27 → ∀ τ31, (uI (uI τ27 r0 5 (tI τ27 q4 (wr ((wr ((tI (uI (uI τ r0 3 (wr ((tI τ r0 3) - 1))) r0 2 (wr ((tI (uI τ r0 3 (wr ((tI τ r0 3) - 1))) r0 2) - 1))) r0 2) * 5)) + 1)).toNat)) r0 6 (tI (uI τ27 r0 5 (tI τ27 q4 (wr ((wr ((tI (uI (uI τ r0 3 (wr ((tI τ r0 3) - 1))) r0 2 (wr ((tI (uI τ r0 3 (wr ((tI τ r0 3) - 1))) r0 2) - 1))) r0 2) * 5)) + 1)).toNat)) q4 (wr ((wr ((tI (uI (uI τ r0 3 (wr ((tI τ r0 3) - 1))) r0 2 (wr ((tI (uI τ r0 3 (wr ((tI τ r0 3) - 1))) r0 2) - 1))) r0 2) * 5)) + 2)).toNat)) = τ31 → ∀ τ35, (uI (uI τ31 r0 7 (tI τ31 q4 (wr ((wr ((tI (uI (uI τ r0 3 (wr ((tI τ r0 3) - 1))) r0 2 (wr ((tI (uI τ r0 3 (wr ((tI τ r0 3) - 1))) r0 2) - 1))) r0 2) * 5)) + 3)).toNat)) r0 8 (tI (uI τ31 r0 7 (tI τ31 q4 (wr ((wr ((tI (uI (uI τ r0 3 (wr ((tI τ r0 3) - 1))) r0 2 (wr ((tI (uI τ r0 3 (wr ((tI τ r0 3) - 1))) r0 2) - 1))) r0 2) * 5)) + 3)).toNat)) q4 (wr ((wr ((tI (uI (uI τ r0 3 (wr ((tI τ r0 3) - 1))) r0 2 (wr ((tI (uI τ r0 3 (wr ((tI τ r0 3) - 1))) r0 2) - 1))) r0 2) * 5)) + 4)).toNat)) = τ35 → Q (.inl (some (AI 1))) (uP τ35 r0 9 (tP τ35 q18 (tI τ35 r0 2).toNat))) (k4 : 0 < (tI τ r0 3) → 0 < (tI (uI τ r0 3 (wr ((tI τ r0 3) - 1))) r0 2) → (n6 : Int) < (wr ((wr ((tI (uI (uI τ r0 3 (wr ((tI τ r0 3) - 1))) r0 2 (wr ((tI (uI τ r0 3 (wr ((tI τ r0 3) - 1))) r0 2) - 1))) r0 2) * 5)) + 5)) → Q (.inl (some (AI 0))) (uI (uI τ r0 3 (wr ((tI τ r0 3) - 1))) r0 2 (wr ((tI (uI τ r0 3 (wr ((tI τ r0 3) - 1))) r0 2) - 1)))) (k5 : (tI τ r0 3) ≤ 0 → Q (.inl (some (AI 0))) τ) : G d 30 0 [vR r0, none] [] τ Q := by
  refine g_sk 1 (pc1 := 1) (st1 := [AR r0]) rfl ?_
  refine g_gI rfl (ci := 5) (k := 3) rfl sh1 ?_
  refine g_br1 rfl (t := 9) rfl (fun c2 => ?_) (fun c2 => ?_)
  · have c2 : 0 < (tI τ r0 3) := of_decide_eq_true c2
    refine g_sk 2 (pc1 := 11) (st1 := [AR r0, AR r0]) rfl ?_
    refine g_gI rfl (ci := 5) (k := 3) rfl sh1 ?_
    refine g_sk 2 (pc1 := 16) (st1 := [AI (wr ((tI τ r0 3) - 1)), AR r0]) rfl ?_
    refine g_putI (x := (wr ((tI τ r0 3) - 1))) rfl (ci := 5) (k := 3) (kd := 0) rfl (by decide) rfl rfl sh1 ?_
    refine g_sk 2 (pc1 := 21) (st1 := [AR r0, AR r0]) rfl ?_
    refine g_gI rfl (ci := 5) (k := 2) rfl sh1 ?_
    refine g_br1 rfl (t := 36) rfl (fun c3 => ?_) (fun c3 => ?_)
    · have c3 : (tI (uI τ r0 3 (wr ((tI τ r0 3) - 1))) r0 2) ≤ 0 := of_decide_eq_true c3
      refine g_sk 1 (pc1 := 38) (st1 := [AI 99, AR r0]) rfl ?_
      refine g_putI (x := 99) rfl (ci := 5) (k := 2) (kd := 0) rfl (by decide) rfl rfl sh1 ?_
      refine g_sk 1 (pc1 := 42) (st1 := [AR r0]) rfl ?_
      refine g_gI rfl (ci := 5) (k := 2) rfl sh1 ?_
      refine g_sx 7 (pc1 := 52) (L1 := [vR r0, vI (wr ((tI (uI (uI τ r0 3 (wr ((tI τ r0 3) - 1))) r0 2 99) r0 2) * 5))]) (st1 := [AR r0, AI (wr ((wr ((tI (uI (uI τ r0 3 (wr ((tI τ r0 3) - 1))) r0 2 99) r0 2) * 5)) + 5))]) rfl ?_
      refine g_gQ rfl (ci := 5) (k := 0) rfl sh1 p5 ?_
      refine g_al2 rfl sh7 ?_
      refine g_br2 rfl (t := 61) rfl (fun c8 => ?_) (fun c8 => ?_)
      · have c8 : (wr ((wr ((tI (uI (uI τ r0 3 (wr ((tI τ r0 3) - 1))) r0 2 99) r0 2) * 5)) + 5)) ≤ (n6 : Int) := of_decide_eq_true c8
        refine g_sk 2 (pc1 := 63) (st1 := [AR r0, AR r0]) rfl ?_
        refine g_gQ rfl (ci := 5) (k := 0) rfl sh1 p5 ?_
        refine g_sk 1 (pc1 := 67) (st1 := [AI (wr ((tI (uI (uI τ r0 3 (wr ((tI τ r0 3) - 1))) r0 2 99) r0 2) * 5)), AR q4, AR r0]) rfl ?_
        refine g_iald rfl sh7 (by decide) (b9 c2 c3 c8).1 (b9 c2 c3 c8).2 ?_
        refine g_putI (x := (tI (uI (uI τ r0 3 (wr ((tI τ r0 3) - 1))) r0 2 99) q4 (wr ((tI (uI (uI τ r0 3 (wr ((tI τ r0 3) - 1))) r0 2 99) r0 2) * 5)).toNat)) rfl (ci := 5) (k := 4) (kd := 0) rfl (by decide) rfl rfl sh1 ?_
        refine g_sk 2 (pc1 := 73) (st1 := [AR r0, AR r0]) rfl ?_
        refine g_gQ rfl (ci := 5) (k := 0) rfl sh1 p5 ?_
        refine g_sk 3 (pc1 := 79) (st1 := [AI (wr ((wr ((tI (uI (uI τ r0 3 (wr ((tI τ r0 3) - 1))) r0 2 99) r0 2) * 5)) + 1)), AR q4, AR r0]) rfl ?_
        refine g_iald rfl sh7 (by decide) (b10 c2 c3 c8).1 (b10 c2 c3 c8).2 ?_
        refine g_putI (x := (tI (uI (uI (uI τ r0 3 (wr ((tI τ r0 3) - 1))) r0 2 99) r0 4 (tI (uI (uI τ r0 3 (wr ((tI τ r0 3) - 1))) r0 2 99) q4 (wr ((tI (uI (uI τ r0 3 (wr ((tI τ r0 3) - 1))) r0 2 99) r0 2) * 5)).toNat)) q4 (wr ((wr ((tI (uI (uI τ r0 3 (wr ((tI τ r0 3) - 1))) r0 2 99) r0 2) * 5)) + 1)).toNat)) rfl (ci := 5) (k := 5) (kd := 0) rfl (by decide) rfl rfl sh1 ?_
        generalize e12 : (uI (uI (uI (uI τ r0 3 (wr ((tI τ r0 3) - 1))) r0 2 99) r0 4 (tI (uI (uI τ r0 3 (wr ((tI τ r0 3) - 1))) r0 2 99) q4 (wr ((tI (uI (uI τ r0 3 (wr ((tI τ r0 3) - 1))) r0 2 99) r0 2) * 5)).toNat)) r0 5 (tI (uI (uI (uI τ r0 3 (wr ((tI τ r0 3) - 1))) r0 2 99) r0 4 (tI (uI (uI τ r0 3 (wr ((tI τ r0 3) - 1))) r0 2 99) q4 (wr ((tI (uI (uI τ r0 3 (wr ((tI τ r0 3) - 1))) r0 2 99) r0 2) * 5)).toNat)) q4 (wr ((wr ((tI (uI (uI τ r0 3 (wr ((tI τ r0 3) - 1))) r0 2 99) r0 2) * 5)) + 1)).toNat)) = τ11
        refine g_sk 2 (pc1 := 85) (st1 := [AR r0, AR r0]) rfl ?_
        refine g_gQ rfl (ci := 5) (k := 0) rfl (by rw [← e12]; exact sh1) (by rw [← e12]; exact p5) ?_
        refine g_sk 3 (pc1 := 91) (st1 := [AI (wr ((wr ((tI (uI (uI τ r0 3 (wr ((tI τ r0 3) - 1))) r0 2 99) r0 2) * 5)) + 2)), AR q4, AR r0]) rfl ?_
        refine g_iald rfl (by rw [← e12]; exact sh7) (by decide) (b13 c2 c3 c8 τ11 e12).1 (b13 c2 c3 c8 τ11 e12).2 ?_
        refine g_putI (x := (tI τ11 q4 (wr ((wr ((tI (uI (uI τ r0 3 (wr ((tI τ r0 3) - 1))) r0 2 99) r0 2) * 5)) + 2)).toNat)) rfl (ci := 5) (k := 6) (kd := 0) rfl (by decide) rfl rfl (by rw [← e12]; exact sh1) ?_
        refine g_sk 2 (pc1 := 97) (st1 := [AR r0, AR r0]) rfl ?_
        refine g_gQ rfl (ci := 5) (k := 0) rfl (by rw [← e12]; exact sh1) (by rw [← e12]; exact p5) ?_
        refine g_sk 3 (pc1 := 103) (st1 := [AI (wr ((wr ((tI (uI (uI τ r0 3 (wr ((tI τ r0 3) - 1))) r0 2 99) r0 2) * 5)) + 3)), AR q4, AR r0]) rfl ?_
        refine g_iald rfl (by rw [← e12]; exact sh7) (by decide) (b14 c2 c3 c8 τ11 e12).1 (b14 c2 c3 c8 τ11 e12).2 ?_
        refine g_putI (x := (tI (uI τ11 r0 6 (tI τ11 q4 (wr ((wr ((tI (uI (uI τ r0 3 (wr ((tI τ r0 3) - 1))) r0 2 99) r0 2) * 5)) + 2)).toNat)) q4 (wr ((wr ((tI (uI (uI τ r0 3 (wr ((tI τ r0 3) - 1))) r0 2 99) r0 2) * 5)) + 3)).toNat)) rfl (ci := 5) (k := 7) (kd := 0) rfl (by decide) rfl rfl (by rw [← e12]; exact sh1) ?_
        generalize e16 : (uI (uI τ11 r0 6 (tI τ11 q4 (wr ((wr ((tI (uI (uI τ r0 3 (wr ((tI τ r0 3) - 1))) r0 2 99) r0 2) * 5)) + 2)).toNat)) r0 7 (tI (uI τ11 r0 6 (tI τ11 q4 (wr ((wr ((tI (uI (uI τ r0 3 (wr ((tI τ r0 3) - 1))) r0 2 99) r0 2) * 5)) + 2)).toNat)) q4 (wr ((wr ((tI (uI (uI τ r0 3 (wr ((tI τ r0 3) - 1))) r0 2 99) r0 2) * 5)) + 3)).toNat)) = τ15
        refine g_sk 2 (pc1 := 109) (st1 := [AR r0, AR r0]) rfl ?_
        refine g_gQ rfl (ci := 5) (k := 0) rfl (by rw [← e16, ← e12]; exact sh1) (by rw [← e16, ← e12]; exact p5) ?_
        refine g_sk 3 (pc1 := 115) (st1 := [AI (wr ((wr ((tI (uI (uI τ r0 3 (wr ((tI τ r0 3) - 1))) r0 2 99) r0 2) * 5)) + 4)), AR q4, AR r0]) rfl ?_
        refine g_iald rfl (by rw [← e16, ← e12]; exact sh7) (by decide) (b17 c2 c3 c8 τ11 e12 τ15 e16).1 (b17 c2 c3 c8 τ11 e12 τ15 e16).2 ?_
        refine g_putI (x := (tI τ15 q4 (wr ((wr ((tI (uI (uI τ r0 3 (wr ((tI τ r0 3) - 1))) r0 2 99) r0 2) * 5)) + 4)).toNat)) rfl (ci := 5) (k := 8) (kd := 0) rfl (by decide) rfl rfl (by rw [← e16, ← e12]; exact sh1) ?_
        refine g_sk 2 (pc1 := 121) (st1 := [AR r0, AR r0]) rfl ?_
        refine g_gQ rfl (ci := 5) (k := 1) rfl (by rw [← e16, ← e12]; exact sh1) (by rw [← e16, ← e12]; exact p19) ?_
        refine g_sk 1 (pc1 := 125) (st1 := [AR r0, AR q18, AR r0]) rfl ?_
        refine g_gI rfl (ci := 5) (k := 2) rfl (by rw [← e16, ← e12]; exact sh1) ?_
        refine g_aald rfl (by rw [← e16, ← e12]; exact sh21) (by decide) (b22 c2 c3 c8 τ11 e12 τ15 e16).1 (b22 c2 c3 c8 τ11 e12 τ15 e16).2 ?_
        refine g_putP rfl (ci := 5) (k := 9) rfl (by rw [← e16, ← e12]; exact sh1) ?_
        generalize e24 : (uP (uI τ15 r0 8 (tI τ15 q4 (wr ((wr ((tI (uI (uI τ r0 3 (wr ((tI τ r0 3) - 1))) r0 2 99) r0 2) * 5)) + 4)).toNat)) r0 9 (tP (uI τ15 r0 8 (tI τ15 q4 (wr ((wr ((tI (uI (uI τ r0 3 (wr ((tI τ r0 3) - 1))) r0 2 99) r0 2) * 5)) + 4)).toNat)) q18 (tI (uI τ15 r0 8 (tI τ15 q4 (wr ((wr ((tI (uI (uI τ r0 3 (wr ((tI τ r0 3) - 1))) r0 2 99) r0 2) * 5)) + 4)).toNat)) r0 2).toNat)) = τ23
        refine g_sk 1 (pc1 := 133) (st1 := [AI 1]) rfl ?_
        refine g_zret rfl rfl (by decide) ?_
        exact (k1 c2 c3 c8 τ11 e12 τ15 e16 τ23 e24)
      · have c8 : (n6 : Int) < (wr ((wr ((tI (uI (uI τ r0 3 (wr ((tI τ r0 3) - 1))) r0 2 99) r0 2) * 5)) + 5)) := Int.not_le.mp (of_decide_eq_false c8)
        refine g_sk 1 (pc1 := 60) (st1 := [AI 0]) rfl ?_
        refine g_zret rfl rfl (by decide) ?_
        exact (k2 c2 c3 c8)
    · have c3 : 0 < (tI (uI τ r0 3 (wr ((tI τ r0 3) - 1))) r0 2) := Int.not_le.mp (of_decide_eq_false c3)
      refine g_sk 1 (pc1 := 28) (st1 := [AR r0, AR r0]) rfl ?_
      refine g_gI rfl (ci := 5) (k := 2) rfl sh1 ?_
      refine g_sk 3 (pc1 := 38) (st1 := [AI (wr ((tI (uI τ r0 3 (wr ((tI τ r0 3) - 1))) r0 2) - 1)), AR r0]) rfl ?_
      refine g_putI (x := (wr ((tI (uI τ r0 3 (wr ((tI τ r0 3) - 1))) r0 2) - 1))) rfl (ci := 5) (k := 2) (kd := 0) rfl (by decide) rfl rfl sh1 ?_
      refine g_sk 1 (pc1 := 42) (st1 := [AR r0]) rfl ?_
      refine g_gI rfl (ci := 5) (k := 2) rfl sh1 ?_
      refine g_sx 7 (pc1 := 52) (L1 := [vR r0, vI (wr ((tI (uI (uI τ r0 3 (wr ((tI τ r0 3) - 1))) r0 2 (wr ((tI (uI τ r0 3 (wr ((tI τ r0 3) - 1))) r0 2) - 1))) r0 2) * 5))]) (st1 := [AR r0, AI (wr ((wr ((tI (uI (uI τ r0 3 (wr ((tI τ r0 3) - 1))) r0 2 (wr ((tI (uI τ r0 3 (wr ((tI τ r0 3) - 1))) r0 2) - 1))) r0 2) * 5)) + 5))]) rfl ?_
      refine g_gQ rfl (ci := 5) (k := 0) rfl sh1 p5 ?_
      refine g_al2 rfl sh7 ?_
      refine g_br2 rfl (t := 61) rfl (fun c25 => ?_) (fun c25 => ?_)
      · have c25 : (wr ((wr ((tI (uI (uI τ r0 3 (wr ((tI τ r0 3) - 1))) r0 2 (wr ((tI (uI τ r0 3 (wr ((tI τ r0 3) - 1))) r0 2) - 1))) r0 2) * 5)) + 5)) ≤ (n6 : Int) := of_decide_eq_true c25
        refine g_sk 2 (pc1 := 63) (st1 := [AR r0, AR r0]) rfl ?_
        refine g_gQ rfl (ci := 5) (k := 0) rfl sh1 p5 ?_
        refine g_sk 1 (pc1 := 67) (st1 := [AI (wr ((tI (uI (uI τ r0 3 (wr ((tI τ r0 3) - 1))) r0 2 (wr ((tI (uI τ r0 3 (wr ((tI τ r0 3) - 1))) r0 2) - 1))) r0 2) * 5)), AR q4, AR r0]) rfl ?_
        refine g_iald rfl sh7 (by decide) (b26 c2 c3 c25).1 (b26 c2 c3 c25).2 ?_
        refine g_putI (x := (tI (uI (uI τ r0 3 (wr ((tI τ r0 3) - 1))) r0 2 (wr ((tI (uI τ r0 3 (wr ((tI τ r0 3) - 1))) r0 2) - 1))) q4 (wr ((tI (uI (uI τ r0 3 (wr ((tI τ r0 3) - 1))) r0 2 (wr ((tI (uI τ r0 3 (wr ((tI τ r0 3) - 1))) r0 2) - 1))) r0 2) * 5)).toNat)) rfl (ci := 5) (k := 4) (kd := 0) rfl (by decide) rfl rfl sh1 ?_
        generalize e28 : (uI (uI (uI τ r0 3 (wr ((tI τ r0 3) - 1))) r0 2 (wr ((tI (uI τ r0 3 (wr ((tI τ r0 3) - 1))) r0 2) - 1))) r0 4 (tI (uI (uI τ r0 3 (wr ((tI τ r0 3) - 1))) r0 2 (wr ((tI (uI τ r0 3 (wr ((tI τ r0 3) - 1))) r0 2) - 1))) q4 (wr ((tI (uI (uI τ r0 3 (wr ((tI τ r0 3) - 1))) r0 2 (wr ((tI (uI τ r0 3 (wr ((tI τ r0 3) - 1))) r0 2) - 1))) r0 2) * 5)).toNat)) = τ27
        refine g_sk 2 (pc1 := 73) (st1 := [AR r0, AR r0]) rfl ?_
        refine g_gQ rfl (ci := 5) (k := 0) rfl (by rw [← e28]; exact sh1) (by rw [← e28]; exact p5) ?_
        refine g_sk 3 (pc1 := 79) (st1 := [AI (wr ((wr ((tI (uI (uI τ r0 3 (wr ((tI τ r0 3) - 1))) r0 2 (wr ((tI (uI τ r0 3 (wr ((tI τ r0 3) - 1))) r0 2) - 1))) r0 2) * 5)) + 1)), AR q4, AR r0]) rfl ?_
        refine g_iald rfl (by rw [← e28]; exact sh7) (by decide) (b29 c2 c3 c25 τ27 e28).1 (b29 c2 c3 c25 τ27 e28).2 ?_
        refine g_putI (x := (tI τ27 q4 (wr ((wr ((tI (uI (uI τ r0 3 (wr ((tI τ r0 3) - 1))) r0 2 (wr ((tI (uI τ r0 3 (wr ((tI τ r0 3) - 1))) r0 2) - 1))) r0 2) * 5)) + 1)).toNat)) rfl (ci := 5) (k := 5) (kd := 0) rfl (by decide) rfl rfl (by rw [← e28]; exact sh1) ?_
        refine g_sk 2 (pc1 := 85) (st1 := [AR r0, AR r0]) rfl ?_
        refine g_gQ rfl (ci := 5) (k := 0) rfl (by rw [← e28]; exact sh1) (by rw [← e28]; exact p5) ?_
        refine g_sk 3 (pc1 := 91) (st1 := [AI (wr ((wr ((tI (uI (uI τ r0 3 (wr ((tI τ r0 3) - 1))) r0 2 (wr ((tI (uI τ r0 3 (wr ((tI τ r0 3) - 1))) r0 2) - 1))) r0 2) * 5)) + 2)), AR q4, AR r0]) rfl ?_
        refine g_iald rfl (by rw [← e28]; exact sh7) (by decide) (b30 c2 c3 c25 τ27 e28).1 (b30 c2 c3 c25 τ27 e28).2 ?_
        refine g_putI (x := (tI (uI τ27 r0 5 (tI τ27 q4 (wr ((wr ((tI (uI (uI τ r0 3 (wr ((tI τ r0 3) - 1))) r0 2 (wr ((tI (uI τ r0 3 (wr ((tI τ r0 3) - 1))) r0 2) - 1))) r0 2) * 5)) + 1)).toNat)) q4 (wr ((wr ((tI (uI (uI τ r0 3 (wr ((tI τ r0 3) - 1))) r0 2 (wr ((tI (uI τ r0 3 (wr ((tI τ r0 3) - 1))) r0 2) - 1))) r0 2) * 5)) + 2)).toNat)) rfl (ci := 5) (k := 6) (kd := 0) rfl (by decide) rfl rfl (by rw [← e28]; exact sh1) ?_
        generalize e32 : (uI (uI τ27 r0 5 (tI τ27 q4 (wr ((wr ((tI (uI (uI τ r0 3 (wr ((tI τ r0 3) - 1))) r0 2 (wr ((tI (uI τ r0 3 (wr ((tI τ r0 3) - 1))) r0 2) - 1))) r0 2) * 5)) + 1)).toNat)) r0 6 (tI (uI τ27 r0 5 (tI τ27 q4 (wr ((wr ((tI (uI (uI τ r0 3 (wr ((tI τ r0 3) - 1))) r0 2 (wr ((tI (uI τ r0 3 (wr ((tI τ r0 3) - 1))) r0 2) - 1))) r0 2) * 5)) + 1)).toNat)) q4 (wr ((wr ((tI (uI (uI τ r0 3 (wr ((tI τ r0 3) - 1))) r0 2 (wr ((tI (uI τ r0 3 (wr ((tI τ r0 3) - 1))) r0 2) - 1))) r0 2) * 5)) + 2)).toNat)) = τ31
        refine g_sk 2 (pc1 := 97) (st1 := [AR r0, AR r0]) rfl ?_
        refine g_gQ rfl (ci := 5) (k := 0) rfl (by rw [← e32, ← e28]; exact sh1) (by rw [← e32, ← e28]; exact p5) ?_
        refine g_sk 3 (pc1 := 103) (st1 := [AI (wr ((wr ((tI (uI (uI τ r0 3 (wr ((tI τ r0 3) - 1))) r0 2 (wr ((tI (uI τ r0 3 (wr ((tI τ r0 3) - 1))) r0 2) - 1))) r0 2) * 5)) + 3)), AR q4, AR r0]) rfl ?_
        refine g_iald rfl (by rw [← e32, ← e28]; exact sh7) (by decide) (b33 c2 c3 c25 τ27 e28 τ31 e32).1 (b33 c2 c3 c25 τ27 e28 τ31 e32).2 ?_
        refine g_putI (x := (tI τ31 q4 (wr ((wr ((tI (uI (uI τ r0 3 (wr ((tI τ r0 3) - 1))) r0 2 (wr ((tI (uI τ r0 3 (wr ((tI τ r0 3) - 1))) r0 2) - 1))) r0 2) * 5)) + 3)).toNat)) rfl (ci := 5) (k := 7) (kd := 0) rfl (by decide) rfl rfl (by rw [← e32, ← e28]; exact sh1) ?_
        refine g_sk 2 (pc1 := 109) (st1 := [AR r0, AR r0]) rfl ?_
        refine g_gQ rfl (ci := 5) (k := 0) rfl (by rw [← e32, ← e28]; exact sh1) (by rw [← e32, ← e28]; exact p5) ?_
        refine g_sk 3 (pc1 := 115) (st1 := [AI (wr ((wr ((tI (uI (uI τ r0 3 (wr ((tI τ r0 3) - 1))) r0 2 (wr ((tI (uI τ r0 3 (wr ((tI τ r0 3) - 1))) r0 2) - 1))) r0 2) * 5)) + 4)), AR q4, AR r0]) rfl ?_
        refine g_iald rfl (by rw [← e32, ← e28]; exact sh7) (by decide) (b34 c2 c3 c25 τ27 e28 τ31 e32).1 (b34 c2 c3 c25 τ27 e28 τ31 e32).2 ?_
        refine g_putI (x := (tI (uI τ31 r0 7 (tI τ31 q4 (wr ((wr ((tI (uI (uI τ r0 3 (wr ((tI τ r0 3) - 1))) r0 2 (wr ((tI (uI τ r0 3 (wr ((tI τ r0 3) - 1))) r0 2) - 1))) r0 2) * 5)) + 3)).toNat)) q4 (wr ((wr ((tI (uI (uI τ r0 3 (wr ((tI τ r0 3) - 1))) r0 2 (wr ((tI (uI τ r0 3 (wr ((tI τ r0 3) - 1))) r0 2) - 1))) r0 2) * 5)) + 4)).toNat)) rfl (ci := 5) (k := 8) (kd := 0) rfl (by decide) rfl rfl (by rw [← e32, ← e28]; exact sh1) ?_
        generalize e36 : (uI (uI τ31 r0 7 (tI τ31 q4 (wr ((wr ((tI (uI (uI τ r0 3 (wr ((tI τ r0 3) - 1))) r0 2 (wr ((tI (uI τ r0 3 (wr ((tI τ r0 3) - 1))) r0 2) - 1))) r0 2) * 5)) + 3)).toNat)) r0 8 (tI (uI τ31 r0 7 (tI τ31 q4 (wr ((wr ((tI (uI (uI τ r0 3 (wr ((tI τ r0 3) - 1))) r0 2 (wr ((tI (uI τ r0 3 (wr ((tI τ r0 3) - 1))) r0 2) - 1))) r0 2) * 5)) + 3)).toNat)) q4 (wr ((wr ((tI (uI (uI τ r0 3 (wr ((tI τ r0 3) - 1))) r0 2 (wr ((tI (uI τ r0 3 (wr ((tI τ r0 3) - 1))) r0 2) - 1))) r0 2) * 5)) + 4)).toNat)) = τ35
        refine g_sk 2 (pc1 := 121) (st1 := [AR r0, AR r0]) rfl ?_
        refine g_gQ rfl (ci := 5) (k := 1) rfl (by rw [← e36, ← e32, ← e28]; exact sh1) (by rw [← e36, ← e32, ← e28]; exact p19) ?_
        refine g_sk 1 (pc1 := 125) (st1 := [AR r0, AR q18, AR r0]) rfl ?_
        refine g_gI rfl (ci := 5) (k := 2) rfl (by rw [← e36, ← e32, ← e28]; exact sh1) ?_
        refine g_aald rfl (by rw [← e36, ← e32, ← e28]; exact sh21) (by decide) (b37 c2 c3 c25 τ27 e28 τ31 e32 τ35 e36).1 (b37 c2 c3 c25 τ27 e28 τ31 e32 τ35 e36).2 ?_
        refine g_putP rfl (ci := 5) (k := 9) rfl (by rw [← e36, ← e32, ← e28]; exact sh1) ?_
        refine g_sk 1 (pc1 := 133) (st1 := [AI 1]) rfl ?_
        refine g_zret rfl rfl (by decide) ?_
        exact (k3 c2 c3 c25 τ27 e28 τ31 e32 τ35 e36)
      · have c25 : (n6 : Int) < (wr ((wr ((tI (uI (uI τ r0 3 (wr ((tI τ r0 3) - 1))) r0 2 (wr ((tI (uI τ r0 3 (wr ((tI τ r0 3) - 1))) r0 2) - 1))) r0 2) * 5)) + 5)) := Int.not_le.mp (of_decide_eq_false c25)
        refine g_sk 1 (pc1 := 60) (st1 := [AI 0]) rfl ?_
        refine g_zret rfl rfl (by decide) ?_
        exact (k4 c2 c3 c25)
  · have c2 : (tI τ r0 3) ≤ 0 := Int.not_lt.mp (of_decide_eq_false c2)
    refine g_sk 1 (pc1 := 8) (st1 := [AI 0]) rfl ?_
    refine g_zret rfl rfl (by decide) ?_
    exact (k5 c2)

set_option maxRecDepth 8192 in
theorem t31_0 {d : Nat} {τ : T2} {Q : RS → T2 → Prop} {r0 : Nat} (hd : 17 ≤ d) (sh1 : tS τ r0 = (1, 6, 0)) (k1 : G d 31 19 [vR r0] [AR (tN (uI (uI τ r0 0 0) r0 1 0)), AR r0] (nC (uI (uI τ r0 0 0) r0 1 0) (2, 1, 12) 12) Q) : G d 31 0 [vR r0] [] τ Q := by
  refine g_sk 1 (pc1 := 1) (st1 := [AR r0]) rfl ?_
  refine g_oin (na := 1) rfl rfl rfl hd ?_
  refine g_sk 2 (pc1 := 6) (st1 := [AI 0, AR r0]) rfl ?_
  refine g_putI (x := 0) rfl (ci := 6) (k := 0) (kd := 0) rfl (by decide) rfl rfl sh1 ?_
  refine g_sk 2 (pc1 := 11) (st1 := [AI 0, AR r0]) rfl ?_
  refine g_putI (x := 0) rfl (ci := 6) (k := 1) (kd := 0) rfl (by decide) rfl rfl sh1 ?_
  refine g_sk 2 (pc1 := 17) (st1 := [AI 12, AR r0]) rfl ?_
  refine g_newa rfl rfl (by decide) (by decide) ?_
  exact k1

set_option maxRecDepth 8192 in
theorem t31_19 {d : Nat} {τ : T2} {Q : RS → T2 → Prop} {r0 s1 : Nat} {s0 : Option Nat} (sh1 : tS τ s1 = (1, 6, 0)) (sh2 : tS τ r0 = (1, 6, 0)) (k1 : G d 31 46 [vR r0] [AR (tN (uI (uI (uI (uI (uP τ s1 2 s0) r0 3 0) r0 4 0) r0 5 0) r0 6 0)), AR r0] (nC (uI (uI (uI (uI (uP τ s1 2 s0) r0 3 0) r0 4 0) r0 5 0) r0 6 0) (2, 0, 3) 3) Q) : G d 31 19 [vR r0] [AP s0, AR s1] τ Q := by
  refine g_putP rfl (ci := 6) (k := 2) rfl sh1 ?_
  refine g_sk 2 (pc1 := 24) (st1 := [AI 0, AR r0]) rfl ?_
  refine g_putI (x := 0) rfl (ci := 6) (k := 3) (kd := 0) rfl (by decide) rfl rfl sh2 ?_
  refine g_sk 2 (pc1 := 29) (st1 := [AI 0, AR r0]) rfl ?_
  refine g_putI (x := 0) rfl (ci := 6) (k := 4) (kd := 0) rfl (by decide) rfl rfl sh2 ?_
  refine g_sk 2 (pc1 := 34) (st1 := [AI 0, AR r0]) rfl ?_
  refine g_putI (x := 0) rfl (ci := 6) (k := 5) (kd := 0) rfl (by decide) rfl rfl sh2 ?_
  refine g_sk 2 (pc1 := 39) (st1 := [AI 0, AR r0]) rfl ?_
  refine g_putI (x := 0) rfl (ci := 6) (k := 6) (kd := 0) rfl (by decide) rfl rfl sh2 ?_
  refine g_sk 2 (pc1 := 44) (st1 := [AI 3, AR r0]) rfl ?_
  refine g_newa rfl rfl (by decide) (by decide) ?_
  exact k1

set_option maxRecDepth 8192 in
theorem t31_46 {d : Nat} {τ : T2} {Q : RS → T2 → Prop} {r0 s1 : Nat} {s0 : Option Nat} (sh1 : tS τ s1 = (1, 6, 0)) (k1 : G d 31 53 [vR r0] [AR (tN (uP τ s1 7 s0)), AR r0] (nC (uP τ s1 7 s0) (2, 0, 3) 3) Q) : G d 31 46 [vR r0] [AP s0, AR s1] τ Q := by
  refine g_putP rfl (ci := 6) (k := 7) rfl sh1 ?_
  refine g_sk 2 (pc1 := 51) (st1 := [AI 3, AR r0]) rfl ?_
  refine g_newa rfl rfl (by decide) (by decide) ?_
  exact k1

set_option maxRecDepth 8192 in
theorem t31_53 {d : Nat} {τ : T2} {Q : RS → T2 → Prop} {r0 s1 : Nat} {s0 : Option Nat} (sh1 : tS τ s1 = (1, 6, 0)) (sh2 : tS τ r0 = (1, 6, 0)) (k1 : Q (.inl none) (uP (uP (uP (uP τ s1 8 s0) r0 9 none) r0 10 none) r0 11 none)) : G d 31 53 [vR r0] [AP s0, AR s1] τ Q := by
  refine g_putP rfl (ci := 6) (k := 8) rfl sh1 ?_
  refine g_sk 2 (pc1 := 58) (st1 := [AN, AR r0]) rfl ?_
  refine g_putP rfl (ci := 6) (k := 9) rfl sh2 ?_
  refine g_sk 2 (pc1 := 63) (st1 := [AN, AR r0]) rfl ?_
  refine g_putP rfl (ci := 6) (k := 10) rfl sh2 ?_
  refine g_sk 2 (pc1 := 68) (st1 := [AN, AR r0]) rfl ?_
  refine g_putP rfl (ci := 6) (k := 11) rfl sh2 ?_
  refine g_vret rfl rfl ?_
  exact k1

set_option maxRecDepth 8192 in
theorem t32_0 {d : Nat} {τ : T2} {Q : RS → T2 → Prop} {x1 x2 x4 x5 : Int} {r0 : Nat} {r3 : Option Nat} (sh1 : tS τ r0 = (1, 6, 0)) (k1 : G d 32 19 [vR r0, none, none, vQ r3, none, vI x5, vI x4] [] (uI (uI (uI τ r0 0 x1) r0 1 x2) r0 3 0) Q) : G d 32 0 [vR r0, vI x1, vI x2, vQ r3, vI x4, vI x5, none] [] τ Q := by
  refine g_sk 2 (pc1 := 2) (st1 := [AI x1, AR r0]) rfl ?_
  refine g_putI (x := x1) rfl (ci := 6) (k := 0) (kd := 0) rfl (by decide) rfl rfl sh1 ?_
  refine g_sk 2 (pc1 := 7) (st1 := [AI x2, AR r0]) rfl ?_
  refine g_putI (x := x2) rfl (ci := 6) (k := 1) (kd := 0) rfl (by decide) rfl rfl sh1 ?_
  refine g_sk 2 (pc1 := 12) (st1 := [AI 0, AR r0]) rfl ?_
  refine g_putI (x := 0) rfl (ci := 6) (k := 3) (kd := 0) rfl (by decide) rfl rfl sh1 ?_
  refine g_sx 2 (pc1 := 19) (L1 := [vR r0, vI x1, vI x2, vQ r3, vI x4, vI x5, vI x4]) (st1 := []) rfl ?_
  exact G_fg (lw2_k _ (lw2_f _ (lw2_f _ (lw2_k _ (lw2_f _ (lw2_k _ (lw2_k _ lw2_nil))))))) k1

set_option maxRecDepth 8192 in
theorem t32_19 {d : Nat} {τ : T2} {Q : RS → T2 → Prop} {x5 x6 : Int} {r0 r3 n4 q8 n11 : Nat} (sh2 : tS τ r0 = (1, 6, 0)) (sh5 : tS τ r3 = (2, 1, n4)) (p9 : tP τ r0 2 = some q8) (b10 : 0 ≤ x6 → x6 < x5 → x6 < (n4 : Int) → (tI τ r0 3) < 12 → (0 : Int) ≤ x6 ∧ x6 < (n4 : Int)) (sh12 : tS τ q8 = (2, 1, n11)) (b13 : 0 ≤ x6 → x6 < x5 → x6 < (n4 : Int) → (tI τ r0 3) < 12 → (0 : Int) ≤ (tI τ r0 3) ∧ (tI τ r0 3) < (n11 : Int)) (k1 : x6 < 0 → Q (.inl none) (uP (uP (uP (uI (uI (uI τ r0 4 0) r0 5 0) r0 6 0) r0 9 none) r0 10 none) r0 11 none)) (k2 : 0 ≤ x6 → x5 ≤ x6 → Q (.inl none) (uP (uP (uP (uI (uI (uI τ r0 4 0) r0 5 0) r0 6 0) r0 9 none) r0 10 none) r0 11 none)) (k3 : 0 ≤ x6 → x6 < x5 → (n4 : Int) ≤ x6 → Q (.inl none) (uP (uP (uP (uI (uI (uI τ r0 4 0) r0 5 0) r0 6 0) r0 9 none) r0 10 none) r0 11 none)) (k4 : 0 ≤ x6 → x6 < x5 → x6 < (n4 : Int) → 12 ≤ (tI τ r0 3) → Q (.inl none) (uP (uP (uP (uI (uI (uI τ r0 4 0) r0 5 0) r0 6 0) r0 9 none) r0 10 none) r0 11 none)) (k5 : 0 ≤ x6 → x6 < x5 → x6 < (n4 : Int) → (tI τ r0 3) < 12 → G d 32 19 [vR r0, none, none, vR r3, none, vI x5, vI (wr (x6 + 1))] [] (uI (uI τ q8 (tI τ r0 3).toNat (zbyt (tI τ r3 x6.toNat))) r0 3 (wr ((tI (uI τ q8 (tI τ r0 3).toNat (zbyt (tI τ r3 x6.toNat))) r0 3) + 1))) Q) : G d 32 19 [vR r0, none, none, vR r3, none, vI x5, vI x6] [] τ Q := by
  refine g_sk 1 (pc1 := 21) (st1 := [AI x6]) rfl ?_
  refine g_br1 rfl (t := 76) rfl (fun c1 => ?_) (fun c1 => ?_)
  · have c1 : x6 < 0 := of_decide_eq_true c1
    refine g_sk 2 (pc1 := 78) (st1 := [AI 0, AR r0]) rfl ?_
    refine g_putI (x := 0) rfl (ci := 6) (k := 4) (kd := 0) rfl (by decide) rfl rfl sh2 ?_
    refine g_sk 2 (pc1 := 83) (st1 := [AI 0, AR r0]) rfl ?_
    refine g_putI (x := 0) rfl (ci := 6) (k := 5) (kd := 0) rfl (by decide) rfl rfl sh2 ?_
    refine g_sk 2 (pc1 := 88) (st1 := [AI 0, AR r0]) rfl ?_
    refine g_putI (x := 0) rfl (ci := 6) (k := 6) (kd := 0) rfl (by decide) rfl rfl sh2 ?_
    refine g_sk 2 (pc1 := 93) (st1 := [AN, AR r0]) rfl ?_
    refine g_putP rfl (ci := 6) (k := 9) rfl sh2 ?_
    refine g_sk 2 (pc1 := 98) (st1 := [AN, AR r0]) rfl ?_
    refine g_putP rfl (ci := 6) (k := 10) rfl sh2 ?_
    refine g_sk 2 (pc1 := 103) (st1 := [AN, AR r0]) rfl ?_
    refine g_putP rfl (ci := 6) (k := 11) rfl sh2 ?_
    refine g_vret rfl rfl ?_
    exact (k1 c1)
  · have c1 : 0 ≤ x6 := Int.not_lt.mp (of_decide_eq_false c1)
    refine g_sk 2 (pc1 := 28) (st1 := [AI x5, AI x6]) rfl ?_
    refine g_br2 rfl (t := 76) rfl (fun c3 => ?_) (fun c3 => ?_)
    · have c3 : x5 ≤ x6 := of_decide_eq_true c3
      refine g_sk 2 (pc1 := 78) (st1 := [AI 0, AR r0]) rfl ?_
      refine g_putI (x := 0) rfl (ci := 6) (k := 4) (kd := 0) rfl (by decide) rfl rfl sh2 ?_
      refine g_sk 2 (pc1 := 83) (st1 := [AI 0, AR r0]) rfl ?_
      refine g_putI (x := 0) rfl (ci := 6) (k := 5) (kd := 0) rfl (by decide) rfl rfl sh2 ?_
      refine g_sk 2 (pc1 := 88) (st1 := [AI 0, AR r0]) rfl ?_
      refine g_putI (x := 0) rfl (ci := 6) (k := 6) (kd := 0) rfl (by decide) rfl rfl sh2 ?_
      refine g_sk 2 (pc1 := 93) (st1 := [AN, AR r0]) rfl ?_
      refine g_putP rfl (ci := 6) (k := 9) rfl sh2 ?_
      refine g_sk 2 (pc1 := 98) (st1 := [AN, AR r0]) rfl ?_
      refine g_putP rfl (ci := 6) (k := 10) rfl sh2 ?_
      refine g_sk 2 (pc1 := 103) (st1 := [AN, AR r0]) rfl ?_
      refine g_putP rfl (ci := 6) (k := 11) rfl sh2 ?_
      refine g_vret rfl rfl ?_
      exact (k2 c1 c3)
    · have c3 : x6 < x5 := Int.not_le.mp (of_decide_eq_false c3)
      refine g_sk 2 (pc1 := 34) (st1 := [AR r3, AI x6]) rfl ?_
      refine g_al2 rfl sh5 ?_
      refine g_br2 rfl (t := 76) rfl (fun c6 => ?_) (fun c6 => ?_)
      · have c6 : (n4 : Int) ≤ x6 := of_decide_eq_true c6
        refine g_sk 2 (pc1 := 78) (st1 := [AI 0, AR r0]) rfl ?_
        refine g_putI (x := 0) rfl (ci := 6) (k := 4) (kd := 0) rfl (by decide) rfl rfl sh2 ?_
        refine g_sk 2 (pc1 := 83) (st1 := [AI 0, AR r0]) rfl ?_
        refine g_putI (x := 0) rfl (ci := 6) (k := 5) (kd := 0) rfl (by decide) rfl rfl sh2 ?_
        refine g_sk 2 (pc1 := 88) (st1 := [AI 0, AR r0]) rfl ?_
        refine g_putI (x := 0) rfl (ci := 6) (k := 6) (kd := 0) rfl (by decide) rfl rfl sh2 ?_
        refine g_sk 2 (pc1 := 93) (st1 := [AN, AR r0]) rfl ?_
        refine g_putP rfl (ci := 6) (k := 9) rfl sh2 ?_
        refine g_sk 2 (pc1 := 98) (st1 := [AN, AR r0]) rfl ?_
        refine g_putP rfl (ci := 6) (k := 10) rfl sh2 ?_
        refine g_sk 2 (pc1 := 103) (st1 := [AN, AR r0]) rfl ?_
        refine g_putP rfl (ci := 6) (k := 11) rfl sh2 ?_
        refine g_vret rfl rfl ?_
        exact (k3 c1 c3 c6)
      · have c6 : x6 < (n4 : Int) := Int.not_le.mp (of_decide_eq_false c6)
        refine g_sk 1 (pc1 := 39) (st1 := [AR r0]) rfl ?_
        refine g_gI rfl (ci := 6) (k := 3) rfl sh2 ?_
        refine g_sk 1 (pc1 := 44) (st1 := [AI 12, AI (tI τ r0 3)]) rfl ?_
        refine g_br2 rfl (t := 76) rfl (fun c7 => ?_) (fun c7 => ?_)
        · have c7 : 12 ≤ (tI τ r0 3) := of_decide_eq_true c7
          refine g_sk 2 (pc1 := 78) (st1 := [AI 0, AR r0]) rfl ?_
          refine g_putI (x := 0) rfl (ci := 6) (k := 4) (kd := 0) rfl (by decide) rfl rfl sh2 ?_
          refine g_sk 2 (pc1 := 83) (st1 := [AI 0, AR r0]) rfl ?_
          refine g_putI (x := 0) rfl (ci := 6) (k := 5) (kd := 0) rfl (by decide) rfl rfl sh2 ?_
          refine g_sk 2 (pc1 := 88) (st1 := [AI 0, AR r0]) rfl ?_
          refine g_putI (x := 0) rfl (ci := 6) (k := 6) (kd := 0) rfl (by decide) rfl rfl sh2 ?_
          refine g_sk 2 (pc1 := 93) (st1 := [AN, AR r0]) rfl ?_
          refine g_putP rfl (ci := 6) (k := 9) rfl sh2 ?_
          refine g_sk 2 (pc1 := 98) (st1 := [AN, AR r0]) rfl ?_
          refine g_putP rfl (ci := 6) (k := 10) rfl sh2 ?_
          refine g_sk 2 (pc1 := 103) (st1 := [AN, AR r0]) rfl ?_
          refine g_putP rfl (ci := 6) (k := 11) rfl sh2 ?_
          refine g_vret rfl rfl ?_
          exact (k4 c1 c3 c6 c7)
        · have c7 : (tI τ r0 3) < 12 := Int.not_le.mp (of_decide_eq_false c7)
          refine g_sk 1 (pc1 := 48) (st1 := [AR r0]) rfl ?_
          refine g_gQ rfl (ci := 6) (k := 2) rfl sh2 p9 ?_
          refine g_sk 1 (pc1 := 52) (st1 := [AR r0, AR q8]) rfl ?_
          refine g_gI rfl (ci := 6) (k := 3) rfl sh2 ?_
          refine g_sk 2 (pc1 := 58) (st1 := [AI x6, AR r3, AI (tI τ r0 3), AR q8]) rfl ?_
          refine g_bald rfl sh5 (by decide) (b10 c1 c3 c6 c7).1 (b10 c1 c3 c6 c7).2 ?_
          refine g_bast rfl sh12 (b13 c1 c3 c6 c7).1 (b13 c1 c3 c6 c7).2 ?_
          refine g_sk 2 (pc1 := 62) (st1 := [AR r0, AR r0]) rfl ?_
          refine g_gI rfl (ci := 6) (k := 3) rfl sh2 ?_
          refine g_sk 2 (pc1 := 67) (st1 := [AI (wr ((tI (uI τ q8 (tI τ r0 3).toNat (zbyt (tI τ r3 x6.toNat))) r0 3) + 1)), AR r0]) rfl ?_
          refine g_putI (x := (wr ((tI (uI τ q8 (tI τ r0 3).toNat (zbyt (tI τ r3 x6.toNat))) r0 3) + 1))) rfl (ci := 6) (k := 3) (kd := 0) rfl (by decide) rfl rfl sh2 ?_
          refine g_sx 2 (pc1 := 19) (L1 := [vR r0, none, none, vR r3, none, vI x5, vI (wr (x6 + 1))]) (st1 := []) rfl ?_
          exact (k5 c1 c3 c6 c7)

set_option maxRecDepth 8192 in
theorem t33_0 {d : Nat} {τ : T2} {Q : RS → T2 → Prop} {x1 x2 : Int} {r0 : Nat} {r3 : Option Nat} (sh1 : tS τ r0 = (1, 6, 0)) (k1 : (tP τ r0 9) = none → Q (.inl (some (AI 1))) τ) (k2 : ∀ q3, (tP τ r0 9) = some q3 → G d 33 7 [vR r0, vI x1, vI x2, vQ r3] [] τ Q) : G d 33 0 [vR r0, vI x1, vI x2, vQ r3] [] τ Q := by
  refine g_sk 1 (pc1 := 1) (st1 := [AR r0]) rfl ?_
  refine g_gP rfl (ci := 6) (k := 9) rfl sh1 ?_
  refine g_nul rfl (t := 20) rfl (fun c2 => ?_) (fun q3 c2 => ?_)
  · skip
    refine g_sk 2 (pc1 := 25) (st1 := [AI 1]) rfl ?_
    refine g_zret rfl rfl (by decide) ?_
    exact (k1 c2)
  · skip
    exact (k2 q3 c2)

set_option maxRecDepth 8192 in
theorem t33_7 {d : Nat} {τ : T2} {Q : RS → T2 → Prop} {x1 x2 : Int} {r0 : Nat} {r3 : Option Nat} (hd : 1 ≤ d) (sh1 : tS τ r0 = (1, 6, 0)) (k1 : G (d - 1) 57 0 [vQ (tP τ r0 9), vI x1, vI x2, vQ r3, none, none, none, none, none, none, none, none] [] τ (KC d 33 14 17 [none, none, none, none] [] Q)) : G d 33 7 [vR r0, vI x1, vI x2, vQ r3] [] τ Q := by
  refine g_sk 1 (pc1 := 8) (st1 := [AR r0]) rfl ?_
  refine g_gP rfl (ci := 6) (k := 9) rfl sh1 ?_
  refine g_sk 3 (pc1 := 14) (st1 := [AP r3, AI x2, AI x1, AP (tP τ r0 9)]) rfl ?_
  refine G_fg (lw2_f _ (lw2_f _ (lw2_f _ (lw2_f _ lw2_nil)))) ?_
  refine g_cs rfl rfl (by decide) rfl rfl (Nat.le_of_ble_eq_true rfl) rfl (by omega) (L0 := [vQ (tP τ r0 9), vI x1, vI x2, vQ r3, none, none, none, none, none, none, none, none]) rfl ?_
  exact k1

set_option maxRecDepth 8192 in
theorem t33_17 {d : Nat} {τ : T2} {Q : RS → T2 → Prop} {y0 : Int} (k1 : y0 = 0 → Q (.inl (some (AI 0))) τ) (k2 : ¬ y0 = 0 → Q (.inl (some (AI 1))) τ) : G d 33 17 [none, none, none, none] [AI y0] τ Q := by
  refine g_br1 rfl (t := 24) rfl (fun c1 => ?_) (fun c1 => ?_)
  · have c1 : y0 = 0 := of_decide_eq_true c1
    refine g_sk 1 (pc1 := 25) (st1 := [AI 0]) rfl ?_
    refine g_zret rfl rfl (by decide) ?_
    exact (k1 c1)
  · have c1 : ¬ y0 = 0 := of_decide_eq_false c1
    refine g_sk 2 (pc1 := 25) (st1 := [AI 1]) rfl ?_
    refine g_zret rfl rfl (by decide) ?_
    exact (k2 c1)

set_option maxRecDepth 8192 in
theorem t33_20 {d : Nat} {τ : T2} {Q : RS → T2 → Prop}  (k1 : Q (.inl (some (AI 1))) τ) : G d 33 20 [none, none, none, none] [] τ Q := by
  refine g_sk 2 (pc1 := 25) (st1 := [AI 1]) rfl ?_
  refine g_zret rfl rfl (by decide) ?_
  exact k1

set_option maxRecDepth 8192 in
theorem t34_0 {d : Nat} {τ : T2} {Q : RS → T2 → Prop} {r0 : Nat} (hd : 17 ≤ d) (k1 : G d 34 9 [vR r0] [AR (tN τ), AR r0] (nC τ (2, 1, 24) 24) Q) : G d 34 0 [vR r0] [] τ Q := by
  refine g_sk 1 (pc1 := 1) (st1 := [AR r0]) rfl ?_
  refine g_oin (na := 1) rfl rfl rfl hd ?_
  refine g_sk 2 (pc1 := 7) (st1 := [AI 24, AR r0]) rfl ?_
  refine g_newa rfl rfl (by decide) (by decide) ?_
  exact k1

set_option maxRecDepth 8192 in
theorem t34_9 {d : Nat} {τ : T2} {Q : RS → T2 → Prop} {r0 s1 : Nat} {s0 : Option Nat} (sh1 : tS τ s1 = (1, 7, 0)) (sh2 : tS τ r0 = (1, 7, 0)) (k1 : Q (.inl none) (uI (uP τ s1 0 s0) r0 1 0)) : G d 34 9 [vR r0] [AP s0, AR s1] τ Q := by
  refine g_putP rfl (ci := 7) (k := 0) rfl sh1 ?_
  refine g_sk 2 (pc1 := 14) (st1 := [AI 0, AR r0]) rfl ?_
  refine g_putI (x := 0) rfl (ci := 7) (k := 1) (kd := 0) rfl (by decide) rfl rfl sh2 ?_
  refine g_vret rfl rfl ?_
  exact k1

set_option maxRecDepth 8192 in
theorem t35_0 {d : Nat} {τ : T2} {Q : RS → T2 → Prop} {x1 : Int} {r0 : Option Nat} (hd : 1 ≤ d) (k1 : G (d - 1) 36 0 [vQ r0, vI x1, none] [] τ (KC d 35 2 5 [vQ r0, vI x1, none] [] Q)) : G d 35 0 [vQ r0, vI x1, none] [] τ Q := by
  refine g_sk 2 (pc1 := 2) (st1 := [AI x1, AP r0]) rfl ?_
  refine g_cs rfl rfl (by decide) rfl rfl (Nat.le_of_ble_eq_true rfl) rfl (by omega) (L0 := [vQ r0, vI x1, none]) rfl ?_
  exact k1

set_option maxRecDepth 8192 in
theorem t35_5 {d : Nat} {τ : T2} {Q : RS → T2 → Prop} {x1 y0 : Int} {r0 : Option Nat} (k1 : ¬ y0 = 0 → G d 35 12 [vQ r0, vI x1, vI 0] [] τ Q) (k2 : y0 = 0 → Q (.inl (some (AI 0))) τ) : G d 35 5 [vQ r0, vI x1, none] [AI y0] τ Q := by
  refine g_br1 rfl (t := 10) rfl (fun c1 => ?_) (fun c1 => ?_)
  · have c1 : ¬ y0 = 0 := of_decide_eq_true c1
    refine g_sx 2 (pc1 := 12) (L1 := [vQ r0, vI x1, vI 0]) (st1 := []) rfl ?_
    exact (k1 c1)
  · have c1 : y0 = 0 := Decidable.of_not_not (of_decide_eq_false c1)
    refine g_sk 1 (pc1 := 9) (st1 := [AI 0]) rfl ?_
    refine g_zret rfl rfl (by decide) ?_
    exact (k2 c1)

set_option maxRecDepth 8192 in
theorem t35_12 {d : Nat} {τ : T2} {Q : RS → T2 → Prop} {x1 x2 : Int} {r0 : Nat} (hd : 1 ≤ d) (sh2 : tS τ r0 = (1, 9, 0)) (k1 : 300 ≤ x2 → G (d - 1) 75 0 [vR r0] [] τ (KC d 35 49 52 [none, none, none] [] Q)) (k2 : x2 < 300 → G (d - 1) 73 0 [vR r0, vI 59] [] τ (KC d 35 22 25 [vR r0, vI x1, vI x2] [] Q)) : G d 35 12 [vR r0, vI x1, vI x2] [] τ Q := by
  refine g_sk 2 (pc1 := 16) (st1 := [AI 300, AI x2]) rfl ?_
  refine g_br2 rfl (t := 48) rfl (fun c1 => ?_) (fun c1 => ?_)
  · have c1 : 300 ≤ x2 := of_decide_eq_true c1
    refine g_sk 1 (pc1 := 49) (st1 := [AR r0]) rfl ?_
    refine G_fg (lw2_f _ (lw2_f _ (lw2_f _ lw2_nil))) ?_
    refine g_cv rfl rfl (by decide) rfl rfl (Nat.le_of_ble_eq_true rfl) (as2 := []) rfl sh2 rfl (by omega) (L0 := [vR r0]) rfl ?_
    exact (k1 c1)
  · have c1 : x2 < 300 := Int.not_le.mp (of_decide_eq_false c1)
    refine g_sk 2 (pc1 := 22) (st1 := [AI 59, AR r0]) rfl ?_
    refine g_cv rfl rfl (by decide) rfl rfl (Nat.le_of_ble_eq_true rfl) (as2 := [AI 59]) rfl sh2 rfl (by omega) (L0 := [vR r0, vI 59]) rfl ?_
    exact (k2 c1)

set_option maxRecDepth 8192 in
theorem t35_25 {d : Nat} {τ : T2} {Q : RS → T2 → Prop} {x1 x2 y0 : Int} {r0 : Nat} (hd : 1 ≤ d) (sh2 : tS τ r0 = (1, 9, 0)) (k1 : y0 = 0 → G (d - 1) 75 0 [vR r0] [] τ (KC d 35 49 52 [none, none, none] [] Q)) (k2 : ¬ y0 = 0 → G (d - 1) 68 0 [vR r0, none, none, none] [] τ (KC d 35 29 32 [vR r0, vI x1, vI x2] [] Q)) : G d 35 25 [vR r0, vI x1, vI x2] [AI y0] τ Q := by
  refine g_br1 rfl (t := 48) rfl (fun c1 => ?_) (fun c1 => ?_)
  · have c1 : y0 = 0 := of_decide_eq_true c1
    refine g_sk 1 (pc1 := 49) (st1 := [AR r0]) rfl ?_
    refine G_fg (lw2_f _ (lw2_f _ (lw2_f _ lw2_nil))) ?_
    refine g_cv rfl rfl (by decide) rfl rfl (Nat.le_of_ble_eq_true rfl) (as2 := []) rfl sh2 rfl (by omega) (L0 := [vR r0]) rfl ?_
    exact (k1 c1)
  · have c1 : ¬ y0 = 0 := of_decide_eq_false c1
    refine g_sk 1 (pc1 := 29) (st1 := [AR r0]) rfl ?_
    refine g_cv rfl rfl (by decide) rfl rfl (Nat.le_of_ble_eq_true rfl) (as2 := []) rfl sh2 rfl (by omega) (L0 := [vR r0, none, none, none]) rfl ?_
    exact (k2 c1)

set_option maxRecDepth 8192 in
theorem t35_32 {d : Nat} {τ : T2} {Q : RS → T2 → Prop} {x1 x2 : Int} {r0 : Option Nat} (hd : 1 ≤ d) (k1 : G (d - 1) 36 0 [vQ r0, vI x1, none] [] τ (KC d 35 34 37 [vQ r0, vI x1, vI x2] [] Q)) : G d 35 32 [vQ r0, vI x1, vI x2] [] τ Q := by
  refine g_sk 2 (pc1 := 34) (st1 := [AI x1, AP r0]) rfl ?_
  refine g_cs rfl rfl (by decide) rfl rfl (Nat.le_of_ble_eq_true rfl) rfl (by omega) (L0 := [vQ r0, vI x1, none]) rfl ?_
  exact k1

set_option maxRecDepth 8192 in
theorem t35_37 {d : Nat} {τ : T2} {Q : RS → T2 → Prop} {x1 x2 y0 : Int} {r0 : Option Nat} (k1 : ¬ y0 = 0 → G d 35 12 [vQ r0, vI x1, vI (wr (x2 + 1))] [] τ Q) (k2 : y0 = 0 → Q (.inl (some (AI 0))) τ) : G d 35 37 [vQ r0, vI x1, vI x2] [AI y0] τ Q := by
  refine g_br1 rfl (t := 42) rfl (fun c1 => ?_) (fun c1 => ?_)
  · have c1 : ¬ y0 = 0 := of_decide_eq_true c1
    refine g_sx 2 (pc1 := 12) (L1 := [vQ r0, vI x1, vI (wr (x2 + 1))]) (st1 := []) rfl ?_
    exact (k1 c1)
  · have c1 : y0 = 0 := Decidable.of_not_not (of_decide_eq_false c1)
    refine g_sk 1 (pc1 := 41) (st1 := [AI 0]) rfl ?_
    refine g_zret rfl rfl (by decide) ?_
    exact (k2 c1)

set_option maxRecDepth 8192 in
theorem t35_52 {d : Nat} {τ : T2} {Q : RS → T2 → Prop} {y0 : Int} (p1 : y0 = 0 ∨ y0 = 1) (k1 : Q (.inl (some (AI y0))) τ) : G d 35 52 [none, none, none] [AI y0] τ Q := by
  refine g_zret rfl rfl p1 ?_
  exact k1

set_option maxRecDepth 8192 in
theorem t36_0 {d : Nat} {τ : T2} {Q : RS → T2 → Prop} {x1 : Int} {r0 : Option Nat} (hd : 1 ≤ d) (k1 : G (d - 1) 37 0 [vQ r0] [] τ (KC d 36 1 4 [vQ r0, vI x1, none] [] Q)) : G d 36 0 [vQ r0, vI x1, none] [] τ Q := by
  refine g_sk 1 (pc1 := 1) (st1 := [AP r0]) rfl ?_
  refine g_cs rfl rfl (by decide) rfl rfl (Nat.le_of_ble_eq_true rfl) rfl (by omega) (L0 := [vQ r0]) rfl ?_
  exact k1

set_option maxRecDepth 8192 in
theorem t36_4 {d : Nat} {τ : T2} {Q : RS → T2 → Prop} {x1 y0 : Int} {r0 : Nat} (hd : 1 ≤ d) (sh2 : tS τ r0 = (1, 9, 0)) (k1 : ¬ y0 = (-1) → G (d - 1) 77 0 [vR r0, vI 12] [] τ (KC d 36 19 22 [vR r0, vI x1, vI y0] [] Q)) (k2 : y0 = (-1) → G (d - 1) 76 0 [vR r0, vI 1] [] τ (KC d 36 12 15 [none, none, none] [] Q)) : G d 36 4 [vR r0, vI x1, none] [AI y0] τ Q := by
  refine g_sx 3 (pc1 := 7) (L1 := [vR r0, vI x1, vI y0]) (st1 := [AI (-1), AI y0]) rfl ?_
  refine g_br2 rfl (t := 16) rfl (fun c1 => ?_) (fun c1 => ?_)
  · have c1 : ¬ y0 = (-1) := of_decide_eq_true c1
    refine g_sk 2 (pc1 := 19) (st1 := [AI 12, AR r0]) rfl ?_
    refine g_cv rfl rfl (by decide) rfl rfl (Nat.le_of_ble_eq_true rfl) (as2 := [AI 12]) rfl sh2 rfl (by omega) (L0 := [vR r0, vI 12]) rfl ?_
    exact (k1 c1)
  · have c1 : y0 = (-1) := Decidable.of_not_not (of_decide_eq_false c1)
    refine g_sk 2 (pc1 := 12) (st1 := [AI 1, AR r0]) rfl ?_
    refine G_fg (lw2_f _ (lw2_f _ (lw2_f _ lw2_nil))) ?_
    refine g_cv rfl rfl (by decide) rfl rfl (Nat.le_of_ble_eq_true rfl) (as2 := [AI 1]) rfl sh2 rfl (by omega) (L0 := [vR r0, vI 1]) rfl ?_
    exact (k2 c1)

set_option maxRecDepth 8192 in
theorem t36_15 {d : Nat} {τ : T2} {Q : RS → T2 → Prop} {y0 : Int} (p1 : y0 = 0 ∨ y0 = 1) (k1 : Q (.inl (some (AI y0))) τ) : G d 36 15 [none, none, none] [AI y0] τ Q := by
  refine g_zret rfl rfl p1 ?_
  exact k1

set_option maxRecDepth 8192 in
theorem t36_22 {d : Nat} {τ : T2} {Q : RS → T2 → Prop} {x1 x2 y0 : Int} {r0 : Nat} (hd : 1 ≤ d) (sh2 : tS τ r0 = (1, 9, 0)) (k1 : ¬ y0 = 0 → G (d - 1) 68 0 [vR r0, none, none, none] [] τ (KC d 36 28 31 [vR r0, vI x1, vI x2] [] Q)) (k2 : y0 = 0 → Q (.inl (some (AI 0))) τ) : G d 36 22 [vR r0, vI x1, vI x2] [AI y0] τ Q := by
  refine g_br1 rfl (t := 27) rfl (fun c1 => ?_) (fun c1 => ?_)
  · have c1 : ¬ y0 = 0 := of_decide_eq_true c1
    refine g_sk 1 (pc1 := 28) (st1 := [AR r0]) rfl ?_
    refine g_cv rfl rfl (by decide) rfl rfl (Nat.le_of_ble_eq_true rfl) (as2 := []) rfl sh2 rfl (by omega) (L0 := [vR r0, none, none, none]) rfl ?_
    exact (k1 c1)
  · have c1 : y0 = 0 := Decidable.of_not_not (of_decide_eq_false c1)
    refine g_sk 1 (pc1 := 26) (st1 := [AI 0]) rfl ?_
    refine g_zret rfl rfl (by decide) ?_
    exact (k2 c1)

set_option maxRecDepth 8192 in
theorem t36_31 {d : Nat} {τ : T2} {Q : RS → T2 → Prop} {x1 x2 : Int} {r0 : Nat} (hd : 1 ≤ d) (sh3 : tS τ r0 = (1, 9, 0)) (k1 : ¬ x2 = 1 → x2 = 4 → G (d - 1) 78 0 [vR r0, vI x2, vI 0, vI 0, none] [] τ (KC d 36 56 59 [none, none, none] [] Q)) (k2 : ¬ x2 = 1 → ¬ x2 = 4 → ¬ x2 = 5 → G (d - 1) 38 0 [vR r0, vI x2, vI x1] [] τ (KC d 36 65 68 [vR r0, none, vI x2] [] Q)) (k3 : ¬ x2 = 1 → ¬ x2 = 4 → x2 = 5 → G (d - 1) 78 0 [vR r0, vI x2, vI 0, vI 0, none] [] τ (KC d 36 56 59 [none, none, none] [] Q)) (k4 : x2 = 1 → G (d - 1) 39 0 [vR r0, vI x1, none, none, none] [] τ (KC d 36 38 41 [none, none, none] [] Q)) : G d 36 31 [vR r0, vI x1, vI x2] [] τ Q := by
  refine g_sk 2 (pc1 := 33) (st1 := [AI 1, AI x2]) rfl ?_
  refine g_br2 rfl (t := 42) rfl (fun c1 => ?_) (fun c1 => ?_)
  · have c1 : ¬ x2 = 1 := of_decide_eq_true c1
    refine g_sk 2 (pc1 := 44) (st1 := [AI 4, AI x2]) rfl ?_
    refine g_br2 rfl (t := 52) rfl (fun c2 => ?_) (fun c2 => ?_)
    · have c2 : x2 = 4 := of_decide_eq_true c2
      refine g_sk 4 (pc1 := 56) (st1 := [AI 0, AI 0, AI x2, AR r0]) rfl ?_
      refine G_fg (lw2_f _ (lw2_f _ (lw2_f _ lw2_nil))) ?_
      refine g_cv rfl rfl (by decide) rfl rfl (Nat.le_of_ble_eq_true rfl) (as2 := [AI x2, AI 0, AI 0]) rfl sh3 rfl (by omega) (L0 := [vR r0, vI x2, vI 0, vI 0, none]) rfl ?_
      exact (k1 c1 c2)
    · have c2 : ¬ x2 = 4 := of_decide_eq_false c2
      refine g_sk 2 (pc1 := 49) (st1 := [AI 5, AI x2]) rfl ?_
      refine g_br2 rfl (t := 62) rfl (fun c4 => ?_) (fun c4 => ?_)
      · have c4 : ¬ x2 = 5 := of_decide_eq_true c4
        refine g_sk 3 (pc1 := 65) (st1 := [AI x1, AI x2, AR r0]) rfl ?_
        refine G_fg (lw2_k _ (lw2_f _ (lw2_k _ lw2_nil))) ?_
        refine g_cs rfl rfl (by decide) rfl rfl (Nat.le_of_ble_eq_true rfl) rfl (by omega) (L0 := [vR r0, vI x2, vI x1]) rfl ?_
        exact (k2 c1 c2 c4)
      · have c4 : x2 = 5 := Decidable.of_not_not (of_decide_eq_false c4)
        refine g_sk 4 (pc1 := 56) (st1 := [AI 0, AI 0, AI x2, AR r0]) rfl ?_
        refine G_fg (lw2_f _ (lw2_f _ (lw2_f _ lw2_nil))) ?_
        refine g_cv rfl rfl (by decide) rfl rfl (Nat.le_of_ble_eq_true rfl) (as2 := [AI x2, AI 0, AI 0]) rfl sh3 rfl (by omega) (L0 := [vR r0, vI x2, vI 0, vI 0, none]) rfl ?_
        exact (k3 c1 c2 c4)
  · have c1 : x2 = 1 := Decidable.of_not_not (of_decide_eq_false c1)
    refine g_sk 2 (pc1 := 38) (st1 := [AI x1, AR r0]) rfl ?_
    refine G_fg (lw2_f _ (lw2_f _ (lw2_f _ lw2_nil))) ?_
    refine g_cs rfl rfl (by decide) rfl rfl (Nat.le_of_ble_eq_true rfl) rfl (by omega) (L0 := [vR r0, vI x1, none, none, none]) rfl ?_
    exact (k4 c1)

set_option maxRecDepth 8192 in
theorem t36_41 {d : Nat} {τ : T2} {Q : RS → T2 → Prop} {y0 : Int} (p1 : y0 = 0 ∨ y0 = 1) (k1 : Q (.inl (some (AI y0))) τ) : G d 36 41 [none, none, none] [AI y0] τ Q := by
  refine g_zret rfl rfl p1 ?_
  exact k1

set_option maxRecDepth 8192 in
theorem t36_59 {d : Nat} {τ : T2} {Q : RS → T2 → Prop} {y0 : Int} (k1 : Q (.inl (some (AI 1))) τ) : G d 36 59 [none, none, none] [AI y0] τ Q := by
  refine g_sk 2 (pc1 := 61) (st1 := [AI 1]) rfl ?_
  refine g_zret rfl rfl (by decide) ?_
  exact k1

set_option maxRecDepth 8192 in
theorem t36_68 {d : Nat} {τ : T2} {Q : RS → T2 → Prop} {x2 y0 : Int} {r0 : Nat} (hd : 1 ≤ d) (sh2 : tS τ r0 = (1, 9, 0)) (k1 : ¬ y0 = 0 → G (d - 1) 78 0 [vR r0, vI x2, vI (tI τ r0 3), vI 0, none] [] τ (KC d 36 80 83 [vR r0, none, none] [] Q)) (k2 : y0 = 0 → Q (.inl (some (AI 0))) τ) : G d 36 68 [vR r0, none, vI x2] [AI y0] τ Q := by
  refine g_br1 rfl (t := 73) rfl (fun c1 => ?_) (fun c1 => ?_)
  · have c1 : ¬ y0 = 0 := of_decide_eq_true c1
    refine g_sk 3 (pc1 := 76) (st1 := [AR r0, AI x2, AR r0]) rfl ?_
    refine g_gI rfl (ci := 9) (k := 3) rfl sh2 ?_
    refine g_sk 1 (pc1 := 80) (st1 := [AI 0, AI (tI τ r0 3), AI x2, AR r0]) rfl ?_
    refine G_fg (lw2_k _ (lw2_k _ (lw2_f _ lw2_nil))) ?_
    refine g_cv rfl rfl (by decide) rfl rfl (Nat.le_of_ble_eq_true rfl) (as2 := [AI x2, AI (tI τ r0 3), AI 0]) rfl sh2 rfl (by omega) (L0 := [vR r0, vI x2, vI (tI τ r0 3), vI 0, none]) rfl ?_
    exact (k1 c1)
  · have c1 : y0 = 0 := Decidable.of_not_not (of_decide_eq_false c1)
    refine g_sk 1 (pc1 := 72) (st1 := [AI 0]) rfl ?_
    refine g_zret rfl rfl (by decide) ?_
    exact (k2 c1)

set_option maxRecDepth 8192 in
theorem t36_83 {d : Nat} {τ : T2} {Q : RS → T2 → Prop} {y0 : Int} {r0 : Nat} (hd : 1 ≤ d) (sh1 : tS τ r0 = (1, 9, 0)) (k1 : G (d - 1) 68 0 [vR r0, none, none, none] [] τ (KC d 36 85 88 [none, none, none] [] Q)) : G d 36 83 [vR r0, none, none] [AI y0] τ Q := by
  refine g_sk 2 (pc1 := 85) (st1 := [AR r0]) rfl ?_
  refine G_fg (lw2_f _ (lw2_k _ (lw2_k _ lw2_nil))) ?_
  refine g_cv rfl rfl (by decide) rfl rfl (Nat.le_of_ble_eq_true rfl) (as2 := []) rfl sh1 rfl (by omega) (L0 := [vR r0, none, none, none]) rfl ?_
  exact k1

set_option maxRecDepth 8192 in
theorem t36_88 {d : Nat} {τ : T2} {Q : RS → T2 → Prop}  (k1 : Q (.inl (some (AI 1))) τ) : G d 36 88 [none, none, none] [] τ Q := by
  refine g_sk 1 (pc1 := 89) (st1 := [AI 1]) rfl ?_
  refine g_zret rfl rfl (by decide) ?_
  exact k1

set_option maxRecDepth 8192 in
theorem t37_0 {d : Nat} {τ : T2} {Q : RS → T2 → Prop} {r0 : Nat} (hd : 1 ≤ d) (sh1 : tS τ r0 = (1, 9, 0)) (k1 : G (d - 1) 72 0 [vR r0, vR 10, none] [] τ (KC d 37 3 6 [vR r0] [] Q)) : G d 37 0 [vR r0] [] τ Q := by
  refine g_sk 2 (pc1 := 3) (st1 := [AR 10, AR r0]) rfl ?_
  refine g_cv rfl rfl (by decide) rfl rfl (Nat.le_of_ble_eq_true rfl) (as2 := [AR 10]) rfl sh1 rfl (by omega) (L0 := [vR r0, vR 10, none]) rfl ?_
  exact k1

set_option maxRecDepth 8192 in
theorem t37_6 {d : Nat} {τ : T2} {Q : RS → T2 → Prop} {y0 : Int} {r0 : Nat} (hd : 1 ≤ d) (sh2 : tS τ r0 = (1, 9, 0)) (k1 : y0 = 0 → G (d - 1) 72 0 [vR r0, vR 11, none] [] τ (KC d 37 14 17 [vR r0] [] Q)) (k2 : ¬ y0 = 0 → Q (.inl (some (AI 1))) τ) : G d 37 6 [vR r0] [AI y0] τ Q := by
  refine g_br1 rfl (t := 11) rfl (fun c1 => ?_) (fun c1 => ?_)
  · have c1 : y0 = 0 := of_decide_eq_true c1
    refine g_sk 2 (pc1 := 14) (st1 := [AR 11, AR r0]) rfl ?_
    refine g_cv rfl rfl (by decide) rfl rfl (Nat.le_of_ble_eq_true rfl) (as2 := [AR 11]) rfl sh2 rfl (by omega) (L0 := [vR r0, vR 11, none]) rfl ?_
    exact (k1 c1)
  · have c1 : ¬ y0 = 0 := of_decide_eq_false c1
    refine g_sk 1 (pc1 := 10) (st1 := [AI 1]) rfl ?_
    refine g_iret rfl rfl ?_
    exact (k2 c1)

set_option maxRecDepth 8192 in
theorem t37_17 {d : Nat} {τ : T2} {Q : RS → T2 → Prop} {y0 : Int} {r0 : Nat} (hd : 1 ≤ d) (sh2 : tS τ r0 = (1, 9, 0)) (k1 : y0 = 0 → G (d - 1) 72 0 [vR r0, vR 12, none] [] τ (KC d 37 25 28 [vR r0] [] Q)) (k2 : ¬ y0 = 0 → Q (.inl (some (AI 2))) τ) : G d 37 17 [vR r0] [AI y0] τ Q := by
  refine g_br1 rfl (t := 22) rfl (fun c1 => ?_) (fun c1 => ?_)
  · have c1 : y0 = 0 := of_decide_eq_true c1
    refine g_sk 2 (pc1 := 25) (st1 := [AR 12, AR r0]) rfl ?_
    refine g_cv rfl rfl (by decide) rfl rfl (Nat.le_of_ble_eq_true rfl) (as2 := [AR 12]) rfl sh2 rfl (by omega) (L0 := [vR r0, vR 12, none]) rfl ?_
    exact (k1 c1)
  · have c1 : ¬ y0 = 0 := of_decide_eq_false c1
    refine g_sk 1 (pc1 := 21) (st1 := [AI 2]) rfl ?_
    refine g_iret rfl rfl ?_
    exact (k2 c1)

set_option maxRecDepth 8192 in
theorem t37_28 {d : Nat} {τ : T2} {Q : RS → T2 → Prop} {y0 : Int} {r0 : Nat} (hd : 1 ≤ d) (sh2 : tS τ r0 = (1, 9, 0)) (k1 : y0 = 0 → G (d - 1) 72 0 [vR r0, vR 13, none] [] τ (KC d 37 36 39 [vR r0] [] Q)) (k2 : ¬ y0 = 0 → Q (.inl (some (AI 3))) τ) : G d 37 28 [vR r0] [AI y0] τ Q := by
  refine g_br1 rfl (t := 33) rfl (fun c1 => ?_) (fun c1 => ?_)
  · have c1 : y0 = 0 := of_decide_eq_true c1
    refine g_sk 2 (pc1 := 36) (st1 := [AR 13, AR r0]) rfl ?_
    refine g_cv rfl rfl (by decide) rfl rfl (Nat.le_of_ble_eq_true rfl) (as2 := [AR 13]) rfl sh2 rfl (by omega) (L0 := [vR r0, vR 13, none]) rfl ?_
    exact (k1 c1)
  · have c1 : ¬ y0 = 0 := of_decide_eq_false c1
    refine g_sk 1 (pc1 := 32) (st1 := [AI 3]) rfl ?_
    refine g_iret rfl rfl ?_
    exact (k2 c1)

set_option maxRecDepth 8192 in
theorem t37_39 {d : Nat} {τ : T2} {Q : RS → T2 → Prop} {y0 : Int} {r0 : Nat} (hd : 1 ≤ d) (sh2 : tS τ r0 = (1, 9, 0)) (k1 : y0 = 0 → G (d - 1) 72 0 [vR r0, vR 14, none] [] τ (KC d 37 47 50 [vR r0] [] Q)) (k2 : ¬ y0 = 0 → Q (.inl (some (AI 4))) τ) : G d 37 39 [vR r0] [AI y0] τ Q := by
  refine g_br1 rfl (t := 44) rfl (fun c1 => ?_) (fun c1 => ?_)
  · have c1 : y0 = 0 := of_decide_eq_true c1
    refine g_sk 2 (pc1 := 47) (st1 := [AR 14, AR r0]) rfl ?_
    refine g_cv rfl rfl (by decide) rfl rfl (Nat.le_of_ble_eq_true rfl) (as2 := [AR 14]) rfl sh2 rfl (by omega) (L0 := [vR r0, vR 14, none]) rfl ?_
    exact (k1 c1)
  · have c1 : ¬ y0 = 0 := of_decide_eq_false c1
    refine g_sk 1 (pc1 := 43) (st1 := [AI 4]) rfl ?_
    refine g_iret rfl rfl ?_
    exact (k2 c1)

set_option maxRecDepth 8192 in
theorem t37_50 {d : Nat} {τ : T2} {Q : RS → T2 → Prop} {y0 : Int} {r0 : Nat} (hd : 1 ≤ d) (sh2 : tS τ r0 = (1, 9, 0)) (k1 : y0 = 0 → G (d - 1) 72 0 [vR r0, vR 15, none] [] τ (KC d 37 58 61 [vR r0] [] Q)) (k2 : ¬ y0 = 0 → Q (.inl (some (AI 5))) τ) : G d 37 50 [vR r0] [AI y0] τ Q := by
  refine g_br1 rfl (t := 55) rfl (fun c1 => ?_) (fun c1 => ?_)
  · have c1 : y0 = 0 := of_decide_eq_true c1
    refine g_sk 2 (pc1 := 58) (st1 := [AR 15, AR r0]) rfl ?_
    refine g_cv rfl rfl (by decide) rfl rfl (Nat.le_of_ble_eq_true rfl) (as2 := [AR 15]) rfl sh2 rfl (by omega) (L0 := [vR r0, vR 15, none]) rfl ?_
    exact (k1 c1)
  · have c1 : ¬ y0 = 0 := of_decide_eq_false c1
    refine g_sk 1 (pc1 := 54) (st1 := [AI 5]) rfl ?_
    refine g_iret rfl rfl ?_
    exact (k2 c1)

set_option maxRecDepth 8192 in
theorem t37_61 {d : Nat} {τ : T2} {Q : RS → T2 → Prop} {y0 : Int} {r0 : Nat} (hd : 1 ≤ d) (sh2 : tS τ r0 = (1, 9, 0)) (k1 : y0 = 0 → G (d - 1) 72 0 [vR r0, vR 16, none] [] τ (KC d 37 70 73 [none] [] Q)) (k2 : ¬ y0 = 0 → Q (.inl (some (AI 6))) τ) : G d 37 61 [vR r0] [AI y0] τ Q := by
  refine g_br1 rfl (t := 67) rfl (fun c1 => ?_) (fun c1 => ?_)
  · have c1 : y0 = 0 := of_decide_eq_true c1
    refine g_sk 2 (pc1 := 70) (st1 := [AR 16, AR r0]) rfl ?_
    refine G_fg (lw2_f _ lw2_nil) ?_
    refine g_cv rfl rfl (by decide) rfl rfl (Nat.le_of_ble_eq_true rfl) (as2 := [AR 16]) rfl sh2 rfl (by omega) (L0 := [vR r0, vR 16, none]) rfl ?_
    exact (k1 c1)
  · have c1 : ¬ y0 = 0 := of_decide_eq_false c1
    refine g_sk 1 (pc1 := 66) (st1 := [AI 6]) rfl ?_
    refine g_iret rfl rfl ?_
    exact (k2 c1)

set_option maxRecDepth 8192 in
theorem t37_73 {d : Nat} {τ : T2} {Q : RS → T2 → Prop} {y0 : Int} (k1 : y0 = 0 → Q (.inl (some (AI (-1)))) τ) (k2 : ¬ y0 = 0 → Q (.inl (some (AI 7))) τ) : G d 37 73 [none] [AI y0] τ Q := by
  refine g_br1 rfl (t := 81) rfl (fun c1 => ?_) (fun c1 => ?_)
  · have c1 : y0 = 0 := of_decide_eq_true c1
    refine g_sk 1 (pc1 := 82) (st1 := [AI (-1)]) rfl ?_
    refine g_iret rfl rfl ?_
    exact (k1 c1)
  · have c1 : ¬ y0 = 0 := of_decide_eq_false c1
    refine g_sk 2 (pc1 := 82) (st1 := [AI 7]) rfl ?_
    refine g_iret rfl rfl ?_
    exact (k2 c1)

set_option maxRecDepth 8192 in
theorem t38_0 {d : Nat} {τ : T2} {Q : RS → T2 → Prop} {x1 x2 : Int} {r0 : Nat} (hd : 1 ≤ d) (sh3 : tS τ r0 = (1, 9, 0)) (k1 : ¬ x1 = 2 → ¬ x1 = 3 → G (d - 1) 74 0 [vR r0, vI 1, vI 24, vI 3] [] τ (KC d 38 34 37 [none, none, none] [] Q)) (k2 : ¬ x1 = 2 → x1 = 3 → G (d - 1) 74 0 [vR r0, vI 0, vI 25, vI 3] [] τ (KC d 38 25 28 [none, none, none] [] Q)) (k3 : x1 = 2 → G (d - 1) 74 0 [vR r0, vI 0, vI (wr (x2 - 1)), vI 2] [] τ (KC d 38 11 14 [none, none, none] [] Q)) : G d 38 0 [vR r0, vI x1, vI x2] [] τ Q := by
  refine g_sk 2 (pc1 := 2) (st1 := [AI 2, AI x1]) rfl ?_
  refine g_br2 rfl (t := 15) rfl (fun c1 => ?_) (fun c1 => ?_)
  · have c1 : ¬ x1 = 2 := of_decide_eq_true c1
    refine g_sk 2 (pc1 := 17) (st1 := [AI 3, AI x1]) rfl ?_
    refine g_br2 rfl (t := 29) rfl (fun c2 => ?_) (fun c2 => ?_)
    · have c2 : ¬ x1 = 3 := of_decide_eq_true c2
      refine g_sk 4 (pc1 := 34) (st1 := [AI 3, AI 24, AI 1, AR r0]) rfl ?_
      refine G_fg (lw2_f _ (lw2_f _ (lw2_f _ lw2_nil))) ?_
      refine g_cv rfl rfl (by decide) rfl rfl (Nat.le_of_ble_eq_true rfl) (as2 := [AI 1, AI 24, AI 3]) rfl sh3 rfl (by omega) (L0 := [vR r0, vI 1, vI 24, vI 3]) rfl ?_
      exact (k1 c1 c2)
    · have c2 : x1 = 3 := Decidable.of_not_not (of_decide_eq_false c2)
      refine g_sk 4 (pc1 := 25) (st1 := [AI 3, AI 25, AI 0, AR r0]) rfl ?_
      refine G_fg (lw2_f _ (lw2_f _ (lw2_f _ lw2_nil))) ?_
      refine g_cv rfl rfl (by decide) rfl rfl (Nat.le_of_ble_eq_true rfl) (as2 := [AI 0, AI 25, AI 3]) rfl sh3 rfl (by omega) (L0 := [vR r0, vI 0, vI 25, vI 3]) rfl ?_
      exact (k2 c1 c2)
  · have c1 : x1 = 2 := Decidable.of_not_not (of_decide_eq_false c1)
    refine g_sk 6 (pc1 := 11) (st1 := [AI 2, AI (wr (x2 - 1)), AI 0, AR r0]) rfl ?_
    refine G_fg (lw2_f _ (lw2_f _ (lw2_f _ lw2_nil))) ?_
    refine g_cv rfl rfl (by decide) rfl rfl (Nat.le_of_ble_eq_true rfl) (as2 := [AI 0, AI (wr (x2 - 1)), AI 2]) rfl sh3 rfl (by omega) (L0 := [vR r0, vI 0, vI (wr (x2 - 1)), vI 2]) rfl ?_
    exact (k3 c1)

set_option maxRecDepth 8192 in
theorem t38_14 {d : Nat} {τ : T2} {Q : RS → T2 → Prop} {y0 : Int} (p1 : y0 = 0 ∨ y0 = 1) (k1 : Q (.inl (some (AI y0))) τ) : G d 38 14 [none, none, none] [AI y0] τ Q := by
  refine g_zret rfl rfl p1 ?_
  exact k1

set_option maxRecDepth 8192 in
theorem t38_28 {d : Nat} {τ : T2} {Q : RS → T2 → Prop} {y0 : Int} (p1 : y0 = 0 ∨ y0 = 1) (k1 : Q (.inl (some (AI y0))) τ) : G d 38 28 [none, none, none] [AI y0] τ Q := by
  refine g_zret rfl rfl p1 ?_
  exact k1

set_option maxRecDepth 8192 in
theorem t38_37 {d : Nat} {τ : T2} {Q : RS → T2 → Prop} {y0 : Int} (p1 : y0 = 0 ∨ y0 = 1) (k1 : Q (.inl (some (AI y0))) τ) : G d 38 37 [none, none, none] [AI y0] τ Q := by
  refine g_zret rfl rfl p1 ?_
  exact k1

set_option maxRecDepth 8192 in
theorem t39_0 {d : Nat} {τ : T2} {Q : RS → T2 → Prop} {x1 : Int} {r0 : Option Nat} (k1 : G d 39 4 [vQ r0, vI x1, vI 1, vI 0, none] [] τ Q) : G d 39 0 [vQ r0, vI x1, none, none, none] [] τ Q := by
  refine g_sx 4 (pc1 := 4) (L1 := [vQ r0, vI x1, vI 1, vI 0, none]) (st1 := []) rfl ?_
  exact k1

set_option maxRecDepth 8192 in
theorem t39_4 {d : Nat} {τ : T2} {Q : RS → T2 → Prop} {x1 x2 x3 : Int} {r0 : Nat} (hd : 1 ≤ d) (sh3 : tS τ r0 = (1, 9, 0)) (k1 : 12 < x3 → Q (.inl (some (AI 1))) τ) (k2 : x3 ≤ 12 → x2 = 0 → Q (.inl (some (AI 1))) τ) (k3 : x3 ≤ 12 → ¬ x2 = 0 → G (d - 1) 74 0 [vR r0, vI 1, vI 12, vI 3] [] τ (KC d 39 19 22 [vR r0, vI x1, none, vI x3, none] [] Q)) : G d 39 4 [vR r0, vI x1, vI x2, vI x3, none] [] τ Q := by
  refine g_sk 2 (pc1 := 7) (st1 := [AI 12, AI x3]) rfl ?_
  refine g_br2 rfl (t := 119) rfl (fun c1 => ?_) (fun c1 => ?_)
  · have c1 : 12 < x3 := of_decide_eq_true c1
    refine g_sk 1 (pc1 := 120) (st1 := [AI 1]) rfl ?_
    refine g_zret rfl rfl (by decide) ?_
    exact (k1 c1)
  · have c1 : x3 ≤ 12 := Int.not_lt.mp (of_decide_eq_false c1)
    refine g_sk 1 (pc1 := 11) (st1 := [AI x2]) rfl ?_
    refine g_br1 rfl (t := 119) rfl (fun c2 => ?_) (fun c2 => ?_)
    · have c2 : x2 = 0 := of_decide_eq_true c2
      refine g_sk 1 (pc1 := 120) (st1 := [AI 1]) rfl ?_
      refine g_zret rfl rfl (by decide) ?_
      exact (k2 c1 c2)
    · have c2 : ¬ x2 = 0 := of_decide_eq_false c2
      refine g_sk 4 (pc1 := 19) (st1 := [AI 3, AI 12, AI 1, AR r0]) rfl ?_
      refine G_fg (lw2_k _ (lw2_k _ (lw2_f _ (lw2_k _ (lw2_k _ lw2_nil))))) ?_
      refine g_cv rfl rfl (by decide) rfl rfl (Nat.le_of_ble_eq_true rfl) (as2 := [AI 1, AI 12, AI 3]) rfl sh3 rfl (by omega) (L0 := [vR r0, vI 1, vI 12, vI 3]) rfl ?_
      exact (k3 c1 c2)

set_option maxRecDepth 8192 in
theorem t39_22 {d : Nat} {τ : T2} {Q : RS → T2 → Prop} {x1 x3 y0 : Int} {r0 : Nat} (hd : 1 ≤ d) (sh3 : tS τ r0 = (1, 9, 0)) (k1 : ¬ y0 = 0 → ¬ x3 = 12 → G (d - 1) 68 0 [vR r0, none, none, none] [] τ (KC d 39 46 49 [vR r0, vI x1, none, vI x3, vI (tI τ r0 3)] [] Q)) (k2 : ¬ y0 = 0 → x3 = 12 → G (d - 1) 76 0 [vR r0, vI 4] [] τ (KC d 39 35 38 [none, none, none, none, none] [] Q)) (k3 : y0 = 0 → Q (.inl (some (AI 0))) τ) : G d 39 22 [vR r0, vI x1, none, vI x3, none] [AI y0] τ Q := by
  refine g_br1 rfl (t := 27) rfl (fun c1 => ?_) (fun c1 => ?_)
  · have c1 : ¬ y0 = 0 := of_decide_eq_true c1
    refine g_sk 2 (pc1 := 30) (st1 := [AI 12, AI x3]) rfl ?_
    refine g_br2 rfl (t := 39) rfl (fun c2 => ?_) (fun c2 => ?_)
    · have c2 : ¬ x3 = 12 := of_decide_eq_true c2
      refine g_sk 1 (pc1 := 40) (st1 := [AR r0]) rfl ?_
      refine g_gI rfl (ci := 9) (k := 3) rfl sh3 ?_
      refine g_sx 2 (pc1 := 46) (L1 := [vR r0, vI x1, none, vI x3, vI (tI τ r0 3)]) (st1 := [AR r0]) rfl ?_
      refine g_cv rfl rfl (by decide) rfl rfl (Nat.le_of_ble_eq_true rfl) (as2 := []) rfl sh3 rfl (by omega) (L0 := [vR r0, none, none, none]) rfl ?_
      exact (k1 c1 c2)
    · have c2 : x3 = 12 := Decidable.of_not_not (of_decide_eq_false c2)
      refine g_sk 2 (pc1 := 35) (st1 := [AI 4, AR r0]) rfl ?_
      refine G_fg (lw2_f _ (lw2_f _ (lw2_k _ (lw2_f _ (lw2_k _ lw2_nil))))) ?_
      refine g_cv rfl rfl (by decide) rfl rfl (Nat.le_of_ble_eq_true rfl) (as2 := [AI 4]) rfl sh3 rfl (by omega) (L0 := [vR r0, vI 4]) rfl ?_
      exact (k2 c1 c2)
  · have c1 : y0 = 0 := Decidable.of_not_not (of_decide_eq_false c1)
    refine g_sk 1 (pc1 := 26) (st1 := [AI 0]) rfl ?_
    refine g_zret rfl rfl (by decide) ?_
    exact (k3 c1)

set_option maxRecDepth 8192 in
theorem t39_38 {d : Nat} {τ : T2} {Q : RS → T2 → Prop} {y0 : Int} (p1 : y0 = 0 ∨ y0 = 1) (k1 : Q (.inl (some (AI y0))) τ) : G d 39 38 [none, none, none, none, none] [AI y0] τ Q := by
  refine g_zret rfl rfl p1 ?_
  exact k1

set_option maxRecDepth 8192 in
theorem t39_49 {d : Nat} {τ : T2} {Q : RS → T2 → Prop} {x1 x3 x4 : Int} {r0 : Nat} (hd : 1 ≤ d) (sh1 : tS τ r0 = (1, 9, 0)) (k1 : G (d - 1) 72 0 [vR r0, vR 17, none] [] τ (KC d 39 52 55 [vR r0, vI x1, none, vI x3, vI x4] [] Q)) : G d 39 49 [vR r0, vI x1, none, vI x3, vI x4] [] τ Q := by
  refine g_sk 2 (pc1 := 52) (st1 := [AR 17, AR r0]) rfl ?_
  refine g_cv rfl rfl (by decide) rfl rfl (Nat.le_of_ble_eq_true rfl) (as2 := [AR 17]) rfl sh1 rfl (by omega) (L0 := [vR r0, vR 17, none]) rfl ?_
  exact k1

set_option maxRecDepth 8192 in
theorem t39_55 {d : Nat} {τ : T2} {Q : RS → T2 → Prop} {x1 x3 x4 y0 : Int} {r0 : Nat} (hd : 1 ≤ d) (sh2 : tS τ r0 = (1, 9, 0)) (k1 : ¬ y0 = 0 → G (d - 1) 68 0 [vR r0, none, none, none] [] τ (KC d 39 65 68 [vR r0, vI x1, none, vI x3, vI x4] [] Q)) (k2 : y0 = 0 → G (d - 1) 76 0 [vR r0, vI 1] [] τ (KC d 39 60 63 [none, none, none, none, none] [] Q)) : G d 39 55 [vR r0, vI x1, none, vI x3, vI x4] [AI y0] τ Q := by
  refine g_br1 rfl (t := 64) rfl (fun c1 => ?_) (fun c1 => ?_)
  · have c1 : ¬ y0 = 0 := of_decide_eq_true c1
    refine g_sk 1 (pc1 := 65) (st1 := [AR r0]) rfl ?_
    refine g_cv rfl rfl (by decide) rfl rfl (Nat.le_of_ble_eq_true rfl) (as2 := []) rfl sh2 rfl (by omega) (L0 := [vR r0, none, none, none]) rfl ?_
    exact (k1 c1)
  · have c1 : y0 = 0 := Decidable.of_not_not (of_decide_eq_false c1)
    refine g_sk 2 (pc1 := 60) (st1 := [AI 1, AR r0]) rfl ?_
    refine G_fg (lw2_f _ (lw2_f _ (lw2_k _ (lw2_f _ (lw2_f _ lw2_nil))))) ?_
    refine g_cv rfl rfl (by decide) rfl rfl (Nat.le_of_ble_eq_true rfl) (as2 := [AI 1]) rfl sh2 rfl (by omega) (L0 := [vR r0, vI 1]) rfl ?_
    exact (k2 c1)

set_option maxRecDepth 8192 in
theorem t39_63 {d : Nat} {τ : T2} {Q : RS → T2 → Prop} {y0 : Int} (p1 : y0 = 0 ∨ y0 = 1) (k1 : Q (.inl (some (AI y0))) τ) : G d 39 63 [none, none, none, none, none] [AI y0] τ Q := by
  refine g_zret rfl rfl p1 ?_
  exact k1

set_option maxRecDepth 8192 in
theorem t39_68 {d : Nat} {τ : T2} {Q : RS → T2 → Prop} {x1 x3 x4 : Int} {r0 : Nat} (hd : 1 ≤ d) (sh1 : tS τ r0 = (1, 9, 0)) (k1 : G (d - 1) 74 0 [vR r0, vI 0, vI (wr (x1 - 1)), vI 2] [] τ (KC d 39 74 77 [vR r0, vI x1, none, vI x3, vI x4] [] Q)) : G d 39 68 [vR r0, vI x1, none, vI x3, vI x4] [] τ Q := by
  refine g_sk 6 (pc1 := 74) (st1 := [AI 2, AI (wr (x1 - 1)), AI 0, AR r0]) rfl ?_
  refine g_cv rfl rfl (by decide) rfl rfl (Nat.le_of_ble_eq_true rfl) (as2 := [AI 0, AI (wr (x1 - 1)), AI 2]) rfl sh1 rfl (by omega) (L0 := [vR r0, vI 0, vI (wr (x1 - 1)), vI 2]) rfl ?_
  exact k1

set_option maxRecDepth 8192 in
theorem t39_77 {d : Nat} {τ : T2} {Q : RS → T2 → Prop} {x1 x3 x4 y0 : Int} {r0 : Nat} (hd : 1 ≤ d) (sh2 : tS τ r0 = (1, 9, 0)) (k1 : ¬ y0 = 0 → G (d - 1) 78 0 [vR r0, vI 1, vI (tI τ r0 3), vI x4, none] [] τ (KC d 39 90 93 [vR r0, vI x1, none, vI x3, none] [] Q)) (k2 : y0 = 0 → Q (.inl (some (AI 0))) τ) : G d 39 77 [vR r0, vI x1, none, vI x3, vI x4] [AI y0] τ Q := by
  refine g_br1 rfl (t := 82) rfl (fun c1 => ?_) (fun c1 => ?_)
  · have c1 : ¬ y0 = 0 := of_decide_eq_true c1
    refine g_sk 3 (pc1 := 85) (st1 := [AR r0, AI 1, AR r0]) rfl ?_
    refine g_gI rfl (ci := 9) (k := 3) rfl sh2 ?_
    refine g_sk 1 (pc1 := 90) (st1 := [AI x4, AI (tI τ r0 3), AI 1, AR r0]) rfl ?_
    refine G_fg (lw2_k _ (lw2_k _ (lw2_k _ (lw2_k _ (lw2_f _ lw2_nil))))) ?_
    refine g_cv rfl rfl (by decide) rfl rfl (Nat.le_of_ble_eq_true rfl) (as2 := [AI 1, AI (tI τ r0 3), AI x4]) rfl sh2 rfl (by omega) (L0 := [vR r0, vI 1, vI (tI τ r0 3), vI x4, none]) rfl ?_
    exact (k1 c1)
  · have c1 : y0 = 0 := Decidable.of_not_not (of_decide_eq_false c1)
    refine g_sk 1 (pc1 := 81) (st1 := [AI 0]) rfl ?_
    refine g_zret rfl rfl (by decide) ?_
    exact (k2 c1)

set_option maxRecDepth 8192 in
theorem t39_93 {d : Nat} {τ : T2} {Q : RS → T2 → Prop} {x1 x3 y0 : Int} {r0 : Nat} (hd : 1 ≤ d) (sh1 : tS τ r0 = (1, 9, 0)) (k1 : G (d - 1) 68 0 [vR r0, none, none, none] [] τ (KC d 39 95 98 [vR r0, vI x1, none, vI x3, none] [] Q)) : G d 39 93 [vR r0, vI x1, none, vI x3, none] [AI y0] τ Q := by
  refine g_sk 2 (pc1 := 95) (st1 := [AR r0]) rfl ?_
  refine g_cv rfl rfl (by decide) rfl rfl (Nat.le_of_ble_eq_true rfl) (as2 := []) rfl sh1 rfl (by omega) (L0 := [vR r0, none, none, none]) rfl ?_
  exact k1

set_option maxRecDepth 8192 in
theorem t39_98 {d : Nat} {τ : T2} {Q : RS → T2 → Prop} {x1 x3 : Int} {r0 : Nat} (hd : 1 ≤ d) (sh1 : tS τ r0 = (1, 9, 0)) (k1 : G (d - 1) 73 0 [vR r0, vI 44] [] τ (KC d 39 101 104 [vR r0, vI x1, none, vI x3, none] [] Q)) : G d 39 98 [vR r0, vI x1, none, vI x3, none] [] τ Q := by
  refine g_sk 2 (pc1 := 101) (st1 := [AI 44, AR r0]) rfl ?_
  refine g_cv rfl rfl (by decide) rfl rfl (Nat.le_of_ble_eq_true rfl) (as2 := [AI 44]) rfl sh1 rfl (by omega) (L0 := [vR r0, vI 44]) rfl ?_
  exact k1

set_option maxRecDepth 8192 in
theorem t39_104 {d : Nat} {τ : T2} {Q : RS → T2 → Prop} {x1 x3 y0 : Int} {r0 : Nat} (hd : 1 ≤ d) (sh2 : tS τ r0 = (1, 9, 0)) (k1 : y0 = 0 → G d 39 4 [vR r0, vI x1, vI y0, vI (wr (x3 + 1)), none] [] τ Q) (k2 : ¬ y0 = 0 → G (d - 1) 68 0 [vR r0, none, none, none] [] τ (KC d 39 110 113 [vR r0, vI x1, vI y0, vI x3, none] [] Q)) : G d 39 104 [vR r0, vI x1, none, vI x3, none] [AI y0] τ Q := by
  refine g_sx 2 (pc1 := 106) (L1 := [vR r0, vI x1, vI y0, vI x3, none]) (st1 := [AI y0]) rfl ?_
  refine g_br1 rfl (t := 113) rfl (fun c1 => ?_) (fun c1 => ?_)
  · have c1 : y0 = 0 := of_decide_eq_true c1
    refine g_sx 2 (pc1 := 4) (L1 := [vR r0, vI x1, vI y0, vI (wr (x3 + 1)), none]) (st1 := []) rfl ?_
    exact (k1 c1)
  · have c1 : ¬ y0 = 0 := of_decide_eq_false c1
    refine g_sk 1 (pc1 := 110) (st1 := [AR r0]) rfl ?_
    refine g_cv rfl rfl (by decide) rfl rfl (Nat.le_of_ble_eq_true rfl) (as2 := []) rfl sh2 rfl (by omega) (L0 := [vR r0, none, none, none]) rfl ?_
    exact (k2 c1)

set_option maxRecDepth 8192 in
theorem t39_113 {d : Nat} {τ : T2} {Q : RS → T2 → Prop} {x1 x2 x3 : Int} {r0 : Option Nat} (k1 : G d 39 4 [vQ r0, vI x1, vI x2, vI (wr (x3 + 1)), none] [] τ Q) : G d 39 113 [vQ r0, vI x1, vI x2, vI x3, none] [] τ Q := by
  refine g_sx 2 (pc1 := 4) (L1 := [vQ r0, vI x1, vI x2, vI (wr (x3 + 1)), none]) (st1 := []) rfl ?_
  exact k1

set_option maxRecDepth 8192 in
theorem t40_0 {d : Nat} {τ : T2} {Q : RS → T2 → Prop} {x3 : Int} {r0 r1 : Nat} {r2 : Option Nat} (sh1 : tS τ r0 = (1, 7, 0)) (sh2 : tS τ r1 = (1, 3, 0)) (k1 : G d 40 14 [vR r0, none, vQ r2, vI x3, vQ (tP (uI τ r0 1 0) r1 0), vI 0] [] (uI τ r0 1 0) Q) : G d 40 0 [vR r0, vR r1, vQ r2, vI x3, none, none] [] τ Q := by
  refine g_sk 2 (pc1 := 2) (st1 := [AI 0, AR r0]) rfl ?_
  refine g_putI (x := 0) rfl (ci := 7) (k := 1) (kd := 0) rfl (by decide) rfl rfl sh1 ?_
  refine g_sk 1 (pc1 := 6) (st1 := [AR r1]) rfl ?_
  refine g_gP rfl (ci := 3) (k := 0) rfl sh2 ?_
  refine g_sx 3 (pc1 := 14) (L1 := [vR r0, vR r1, vQ r2, vI x3, vQ (tP (uI τ r0 1 0) r1 0), vI 0]) (st1 := []) rfl ?_
  exact G_fg (lw2_k _ (lw2_f _ (lw2_k _ (lw2_k _ (lw2_k _ (lw2_k _ lw2_nil)))))) k1

set_option maxRecDepth 8192 in
theorem t40_14 {d : Nat} {τ : T2} {Q : RS → T2 → Prop} {x3 x5 : Int} {r0 r4 n1 : Nat} {r2 : Option Nat} (hd : 1 ≤ d) (sh2 : tS τ r4 = (2, 0, n1)) (b4 : (wr (x5 + 3)) ≤ (n1 : Int) → (0 : Int) ≤ x5 ∧ x5 < (n1 : Int)) (b5 : (wr (x5 + 3)) ≤ (n1 : Int) → (0 : Int) ≤ (wr (x5 + 1)) ∧ (wr (x5 + 1)) < (n1 : Int)) (b6 : (wr (x5 + 3)) ≤ (n1 : Int) → (0 : Int) ≤ (wr (x5 + 2)) ∧ (wr (x5 + 2)) < (n1 : Int)) (sh7 : tS τ r0 = (1, 7, 0)) (k1 : (n1 : Int) < (wr (x5 + 3)) → Q (.inl (some (AI 1))) τ) (k2 : (wr (x5 + 3)) ≤ (n1 : Int) → G (d - 1) 41 0 [vR r0, vI (tI τ r4 x5.toNat), vI (tI τ r4 (wr (x5 + 1)).toNat), vI (tI τ r4 (wr (x5 + 2)).toNat), vQ r2, vI x3] [] τ (KC d 40 46 49 [vR r0, none, vQ r2, vI x3, vR r4, vI x5] [] Q)) : G d 40 14 [vR r0, none, vQ r2, vI x3, vR r4, vI x5] [] τ Q := by
  refine g_sk 4 (pc1 := 20) (st1 := [AR r4, AI (wr (x5 + 3))]) rfl ?_
  refine g_al2 rfl sh2 ?_
  refine g_br2 rfl (t := 60) rfl (fun c3 => ?_) (fun c3 => ?_)
  · have c3 : (n1 : Int) < (wr (x5 + 3)) := of_decide_eq_true c3
    refine g_sk 1 (pc1 := 61) (st1 := [AI 1]) rfl ?_
    refine g_zret rfl rfl (by decide) ?_
    exact (k1 c3)
  · have c3 : (wr (x5 + 3)) ≤ (n1 : Int) := Int.not_lt.mp (of_decide_eq_false c3)
    refine g_sk 3 (pc1 := 29) (st1 := [AI x5, AR r4, AR r0]) rfl ?_
    refine g_iald rfl sh2 (by decide) (b4 c3).1 (b4 c3).2 ?_
    refine g_sk 4 (pc1 := 36) (st1 := [AI (wr (x5 + 1)), AR r4, AI (tI τ r4 x5.toNat), AR r0]) rfl ?_
    refine g_iald rfl sh2 (by decide) (b5 c3).1 (b5 c3).2 ?_
    refine g_sk 4 (pc1 := 43) (st1 := [AI (wr (x5 + 2)), AR r4, AI (tI τ r4 (wr (x5 + 1)).toNat), AI (tI τ r4 x5.toNat), AR r0]) rfl ?_
    refine g_iald rfl sh2 (by decide) (b6 c3).1 (b6 c3).2 ?_
    refine g_sk 2 (pc1 := 46) (st1 := [AI x3, AP r2, AI (tI τ r4 (wr (x5 + 2)).toNat), AI (tI τ r4 (wr (x5 + 1)).toNat), AI (tI τ r4 x5.toNat), AR r0]) rfl ?_
    refine g_cv rfl rfl (by decide) rfl rfl (Nat.le_of_ble_eq_true rfl) (as2 := [AI (tI τ r4 x5.toNat), AI (tI τ r4 (wr (x5 + 1)).toNat), AI (tI τ r4 (wr (x5 + 2)).toNat), AP r2, AI x3]) rfl sh7 rfl (by omega) (L0 := [vR r0, vI (tI τ r4 x5.toNat), vI (tI τ r4 (wr (x5 + 1)).toNat), vI (tI τ r4 (wr (x5 + 2)).toNat), vQ r2, vI x3]) rfl ?_
    exact (k2 c3)

set_option maxRecDepth 8192 in
theorem t40_49 {d : Nat} {τ : T2} {Q : RS → T2 → Prop} {x3 x5 y0 : Int} {r0 : Nat} {r2 r4 : Option Nat} (k1 : ¬ y0 = 0 → G d 40 14 [vR r0, none, vQ r2, vI x3, vQ r4, vI (wr (x5 + 3))] [] τ Q) (k2 : y0 = 0 → Q (.inl (some (AI 0))) τ) : G d 40 49 [vR r0, none, vQ r2, vI x3, vQ r4, vI x5] [AI y0] τ Q := by
  refine g_br1 rfl (t := 54) rfl (fun c1 => ?_) (fun c1 => ?_)
  · have c1 : ¬ y0 = 0 := of_decide_eq_true c1
    refine g_sx 2 (pc1 := 14) (L1 := [vR r0, none, vQ r2, vI x3, vQ r4, vI (wr (x5 + 3))]) (st1 := []) rfl ?_
    exact (k1 c1)
  · have c1 : y0 = 0 := Decidable.of_not_not (of_decide_eq_false c1)
    refine g_sk 1 (pc1 := 53) (st1 := [AI 0]) rfl ?_
    refine g_zret rfl rfl (by decide) ?_
    exact (k2 c1)

set_option maxRecDepth 8192 in
theorem t41_0 {d : Nat} {τ : T2} {Q : RS → T2 → Prop} {x1 x2 x3 x5 : Int} {r0 : Nat} {r4 : Option Nat} (k1 : G d 41 1 [vR r0, none, vI x2, vI x3, vQ r4, vI x5] [AI x1] τ Q) : G d 41 0 [vR r0, vI x1, vI x2, vI x3, vQ r4, vI x5] [] τ Q := by
  refine g_sk 1 (pc1 := 1) (st1 := [AI x1]) rfl ?_
  exact G_fg (lw2_k _ (lw2_f _ (lw2_k _ (lw2_k _ (lw2_k _ (lw2_k _ lw2_nil)))))) k1

set_option maxRecDepth 8192 in
theorem t41_53 {d : Nat} {τ : T2} {Q : RS → T2 → Prop} {y0 : Int} (p1 : y0 = 0 ∨ y0 = 1) (k1 : Q (.inl (some (AI y0))) τ) : G d 41 53 [none, none, none, none, none, none] [AI y0] τ Q := by
  refine g_zret rfl rfl p1 ?_
  exact k1

set_option maxRecDepth 8192 in
theorem t41_65 {d : Nat} {τ : T2} {Q : RS → T2 → Prop} {x5 y0 y1 y2 : Int} {s4 : Nat} {s3 : Option Nat} (hd : 1 ≤ d) (sh1 : tS τ s4 = (1, 7, 0)) (k1 : G (d - 1) 43 0 [vR s4, vQ s3, vI y2, vI y1, vI y0, vI x5, none, none] [] τ (KC d 41 67 70 [none, none, none, none, none, none] [] Q)) : G d 41 65 [none, none, none, none, none, vI x5] [AI y0, AI y1, AI y2, AP s3, AR s4] τ Q := by
  refine g_sk 1 (pc1 := 67) (st1 := [AI x5, AI y0, AI y1, AI y2, AP s3, AR s4]) rfl ?_
  refine G_fg (lw2_k _ (lw2_k _ (lw2_k _ (lw2_k _ (lw2_k _ (lw2_f _ lw2_nil)))))) ?_
  refine g_cv rfl rfl (by decide) rfl rfl (Nat.le_of_ble_eq_true rfl) (as2 := [AP s3, AI y2, AI y1, AI y0, AI x5]) rfl sh1 rfl (by omega) (L0 := [vR s4, vQ s3, vI y2, vI y1, vI y0, vI x5, none, none]) rfl ?_
  exact k1

set_option maxRecDepth 8192 in
theorem t41_70 {d : Nat} {τ : T2} {Q : RS → T2 → Prop} {y0 : Int} (p1 : y0 = 0 ∨ y0 = 1) (k1 : Q (.inl (some (AI y0))) τ) : G d 41 70 [none, none, none, none, none, none] [AI y0] τ Q := by
  refine g_zret rfl rfl p1 ?_
  exact k1

set_option maxRecDepth 8192 in
theorem t41_76 {d : Nat} {τ : T2} {Q : RS → T2 → Prop}  (k1 : Q (.inl (some (AI 1))) τ) : G d 41 76 [none, none, none, none, none, none] [] τ Q := by
  refine g_sk 1 (pc1 := 77) (st1 := [AI 1]) rfl ?_
  refine g_zret rfl rfl (by decide) ?_
  exact k1

set_option maxRecDepth 8192 in
theorem t41_82 {d : Nat} {τ : T2} {Q : RS → T2 → Prop}  (k1 : Q (.inl (some (AI 1))) τ) : G d 41 82 [none, none, none, none, none, none] [] τ Q := by
  refine g_sk 1 (pc1 := 83) (st1 := [AI 1]) rfl ?_
  refine g_zret rfl rfl (by decide) ?_
  exact k1

set_option maxRecDepth 8192 in
theorem t41_88 {d : Nat} {τ : T2} {Q : RS → T2 → Prop}  (k1 : Q (.inl (some (AI 1))) τ) : G d 41 88 [none, none, none, none, none, none] [] τ Q := by
  refine g_sk 1 (pc1 := 89) (st1 := [AI 1]) rfl ?_
  refine g_zret rfl rfl (by decide) ?_
  exact k1

set_option maxRecDepth 8192 in
theorem t41_109 {d : Nat} {τ : T2} {Q : RS → T2 → Prop}  (k1 : Q (.inl (some (AI 1))) τ) : G d 41 109 [none, none, none, none, none, none] [] τ Q := by
  refine g_sk 1 (pc1 := 110) (st1 := [AI 1]) rfl ?_
  refine g_zret rfl rfl (by decide) ?_
  exact k1

set_option maxRecDepth 8192 in
theorem t42_0 {d : Nat} {τ : T2} {Q : RS → T2 → Prop} {x1 : Int} {r0 n2 q6 : Nat} (sh3 : tS τ r0 = (3, 4, n2)) (b5 : 0 ≤ x1 → x1 < (n2 : Int) → (0 : Int) ≤ x1 ∧ x1 < (n2 : Int)) (p7 : 0 ≤ x1 → x1 < (n2 : Int) → tP τ r0 x1.toNat = some q6) (sh8 : tS τ q6 = (1, 6, 0)) (k1 : x1 < 0 → Q (.inl (some (AI 0))) τ) (k2 : 0 ≤ x1 → (n2 : Int) ≤ x1 → Q (.inl (some (AI 0))) τ) (k3 : 0 ≤ x1 → x1 < (n2 : Int) → Q (.inl (some (AI (tI τ q6 3)))) τ) : G d 42 0 [vR r0, vI x1] [] τ Q := by
  refine g_sk 1 (pc1 := 1) (st1 := [AI x1]) rfl ?_
  refine g_br1 rfl (t := 19) rfl (fun c1 => ?_) (fun c1 => ?_)
  · have c1 : x1 < 0 := of_decide_eq_true c1
    refine g_sk 1 (pc1 := 20) (st1 := [AI 0]) rfl ?_
    refine g_iret rfl rfl ?_
    exact (k1 c1)
  · have c1 : 0 ≤ x1 := Int.not_lt.mp (of_decide_eq_false c1)
    refine g_sk 2 (pc1 := 6) (st1 := [AR r0, AI x1]) rfl ?_
    refine g_al3 rfl sh3 ?_
    refine g_br2 rfl (t := 19) rfl (fun c4 => ?_) (fun c4 => ?_)
    · have c4 : (n2 : Int) ≤ x1 := of_decide_eq_true c4
      refine g_sk 1 (pc1 := 20) (st1 := [AI 0]) rfl ?_
      refine g_iret rfl rfl ?_
      exact (k2 c1 c4)
    · have c4 : x1 < (n2 : Int) := Int.not_le.mp (of_decide_eq_false c4)
      refine g_sk 2 (pc1 := 12) (st1 := [AI x1, AR r0]) rfl ?_
      refine g_aalQ rfl sh3 (by decide) (b5 c1 c4).1 (b5 c1 c4).2 (p7 c1 c4) ?_
      refine g_gI rfl (ci := 6) (k := 3) rfl sh8 ?_
      refine g_sk 1 (pc1 := 20) (st1 := [AI (tI τ q6 3)]) rfl ?_
      refine g_iret rfl rfl ?_
      exact (k3 c1 c4)

set_option maxRecDepth 8192 in
theorem t43_0 {d : Nat} {τ : T2} {Q : RS → T2 → Prop} {x2 x3 x4 x5 : Int} {r0 : Nat} {r1 : Option Nat} (hd : 1 ≤ d) (k1 : x3 < 0 → Q (.inl (some (AI 0))) τ) (k2 : 0 ≤ x3 → 12 < x4 → Q (.inl (some (AI 0))) τ) (k3 : 0 ≤ x3 → x4 ≤ 12 → G (d - 1) 42 0 [vQ r1, vI x2] [] τ (KC d 43 15 18 [vR r0, vQ r1, vI x2, vI x3, vI x4, vI x5, none, none] [AI x4] Q)) : G d 43 0 [vR r0, vQ r1, vI x2, vI x3, vI x4, vI x5, none, none] [] τ Q := by
  refine g_sk 1 (pc1 := 1) (st1 := [AI x3]) rfl ?_
  refine g_br1 rfl (t := 21) rfl (fun c1 => ?_) (fun c1 => ?_)
  · have c1 : x3 < 0 := of_decide_eq_true c1
    refine g_sk 1 (pc1 := 22) (st1 := [AI 0]) rfl ?_
    refine g_zret rfl rfl (by decide) ?_
    exact (k1 c1)
  · have c1 : 0 ≤ x3 := Int.not_lt.mp (of_decide_eq_false c1)
    refine g_sk 2 (pc1 := 8) (st1 := [AI 12, AI x4]) rfl ?_
    refine g_br2 rfl (t := 21) rfl (fun c2 => ?_) (fun c2 => ?_)
    · have c2 : 12 < x4 := of_decide_eq_true c2
      refine g_sk 1 (pc1 := 22) (st1 := [AI 0]) rfl ?_
      refine g_zret rfl rfl (by decide) ?_
      exact (k2 c1 c2)
    · have c2 : x4 ≤ 12 := Int.not_lt.mp (of_decide_eq_false c2)
      refine g_sk 3 (pc1 := 15) (st1 := [AI x2, AP r1, AI x4]) rfl ?_
      refine g_cs rfl rfl (by decide) rfl rfl (Nat.le_of_ble_eq_true rfl) rfl (by omega) (L0 := [vQ r1, vI x2]) rfl ?_
      exact (k3 c1 c2)

set_option maxRecDepth 8192 in
theorem t43_18 {d : Nat} {τ : T2} {Q : RS → T2 → Prop} {x2 x3 x4 x5 y0 y1 : Int} {r0 : Nat} {r1 : Option Nat} (sh2 : tS τ r0 = (1, 7, 0)) (k1 : y1 ≤ y0 → (wr ((wr ((tI τ r0 1) + x4)) - x3)) ≤ 24 → ¬ (zand (zshr x5 x2) 1) = 0 → G d 43 58 [vR r0, vQ r1, vI x2, none, vI x4, none, vI 0, vI x3] [] τ Q) (k2 : y1 ≤ y0 → (wr ((wr ((tI τ r0 1) + x4)) - x3)) ≤ 24 → (zand (zshr x5 x2) 1) = 0 → G d 43 58 [vR r0, vQ r1, vI x2, none, vI x4, none, vI 1, vI x3] [] τ Q) (k3 : y1 ≤ y0 → 24 < (wr ((wr ((tI τ r0 1) + x4)) - x3)) → Q (.inl (some (AI 0))) τ) (k4 : y0 < y1 → Q (.inl (some (AI 0))) τ) : G d 43 18 [vR r0, vQ r1, vI x2, vI x3, vI x4, vI x5, none, none] [AI y0, AI y1] τ Q := by
  refine g_br2 rfl (t := 23) rfl (fun c1 => ?_) (fun c1 => ?_)
  · have c1 : y1 ≤ y0 := of_decide_eq_true c1
    refine g_sk 1 (pc1 := 24) (st1 := [AR r0]) rfl ?_
    refine g_gI rfl (ci := 7) (k := 1) rfl sh2 ?_
    refine g_sk 5 (pc1 := 34) (st1 := [AI 24, AI (wr ((wr ((tI τ r0 1) + x4)) - x3))]) rfl ?_
    refine g_br2 rfl (t := 39) rfl (fun c3 => ?_) (fun c3 => ?_)
    · have c3 : (wr ((wr ((tI τ r0 1) + x4)) - x3)) ≤ 24 := of_decide_eq_true c3
      refine g_sk 5 (pc1 := 45) (st1 := [AI (zand (zshr x5 x2) 1)]) rfl ?_
      refine g_br1 rfl (t := 52) rfl (fun c4 => ?_) (fun c4 => ?_)
      · have c4 : ¬ (zand (zshr x5 x2) 1) = 0 := of_decide_eq_true c4
        refine g_sx 4 (pc1 := 58) (L1 := [vR r0, vQ r1, vI x2, vI x3, vI x4, vI x5, vI 0, vI x3]) (st1 := []) rfl ?_
        exact G_fg (lw2_k _ (lw2_k _ (lw2_k _ (lw2_f _ (lw2_k _ (lw2_f _ (lw2_k _ (lw2_k _ lw2_nil)))))))) (k1 c1 c3 c4)
      · have c4 : (zand (zshr x5 x2) 1) = 0 := Decidable.of_not_not (of_decide_eq_false c4)
        refine g_sx 5 (pc1 := 58) (L1 := [vR r0, vQ r1, vI x2, vI x3, vI x4, vI x5, vI 1, vI x3]) (st1 := []) rfl ?_
        exact G_fg (lw2_k _ (lw2_k _ (lw2_k _ (lw2_f _ (lw2_k _ (lw2_f _ (lw2_k _ (lw2_k _ lw2_nil)))))))) (k2 c1 c3 c4)
    · have c3 : 24 < (wr ((wr ((tI τ r0 1) + x4)) - x3)) := Int.not_le.mp (of_decide_eq_false c3)
      refine g_sk 1 (pc1 := 38) (st1 := [AI 0]) rfl ?_
      refine g_zret rfl rfl (by decide) ?_
      exact (k3 c1 c3)
  · have c1 : y0 < y1 := Int.not_le.mp (of_decide_eq_false c1)
    refine g_sk 1 (pc1 := 22) (st1 := [AI 0]) rfl ?_
    refine g_zret rfl rfl (by decide) ?_
    exact (k4 c1)

set_option maxRecDepth 8192 in
theorem t43_58 {d : Nat} {τ : T2} {Q : RS → T2 → Prop} {x2 x4 x6 x7 : Int} {r0 r1 q3 n6 n9 q12 q15 n17 : Nat} (sh2 : tS τ r0 = (1, 7, 0)) (p4 : tP τ r0 0 = some q3) (sh7 : tS τ q3 = (2, 1, n6)) (b8 : x7 < x4 → x6 = 0 → (0 : Int) ≤ (tI τ r0 1) ∧ (tI τ r0 1) < (n6 : Int)) (sh10 : tS τ r1 = (3, 4, n9)) (b11 : x7 < x4 → ¬ x6 = 0 → (0 : Int) ≤ x2 ∧ x2 < (n9 : Int)) (p13 : x7 < x4 → ¬ x6 = 0 → tP τ r1 x2.toNat = some q12) (sh14 : tS τ q12 = (1, 6, 0)) (p16 : tP τ q12 2 = some q15) (sh18 : tS τ q15 = (2, 1, n17)) (b19 : x7 < x4 → ¬ x6 = 0 → (0 : Int) ≤ x7 ∧ x7 < (n17 : Int)) (b20 : x7 < x4 → ¬ x6 = 0 → (0 : Int) ≤ (tI τ r0 1) ∧ (tI τ r0 1) < (n6 : Int)) (k1 : x4 ≤ x7 → Q (.inl (some (AI 1))) τ) (k2 : x7 < x4 → x6 = 0 → G d 43 58 [vR r0, vR r1, vI x2, none, vI x4, none, vI x6, vI (wr (x7 + 1))] [] (uI (uI τ q3 (tI τ r0 1).toNat (zbyt 63)) r0 1 (wr ((tI (uI τ q3 (tI τ r0 1).toNat (zbyt 63)) r0 1) + 1))) Q) (k3 : x7 < x4 → ¬ x6 = 0 → G d 43 58 [vR r0, vR r1, vI x2, none, vI x4, none, vI x6, vI (wr (x7 + 1))] [] (uI (uI τ q3 (tI τ r0 1).toNat (zbyt (tI τ q15 x7.toNat))) r0 1 (wr ((tI (uI τ q3 (tI τ r0 1).toNat (zbyt (tI τ q15 x7.toNat))) r0 1) + 1))) Q) : G d 43 58 [vR r0, vR r1, vI x2, none, vI x4, none, vI x6, vI x7] [] τ Q := by
  refine g_sk 2 (pc1 := 62) (st1 := [AI x4, AI x7]) rfl ?_
  refine g_br2 rfl (t := 109) rfl (fun c1 => ?_) (fun c1 => ?_)
  · have c1 : x4 ≤ x7 := of_decide_eq_true c1
    refine g_sk 1 (pc1 := 110) (st1 := [AI 1]) rfl ?_
    refine g_zret rfl rfl (by decide) ?_
    exact (k1 c1)
  · have c1 : x7 < x4 := Int.not_le.mp (of_decide_eq_false c1)
    refine g_sk 1 (pc1 := 66) (st1 := [AR r0]) rfl ?_
    refine g_gQ rfl (ci := 7) (k := 0) rfl sh2 p4 ?_
    refine g_sk 1 (pc1 := 70) (st1 := [AR r0, AR q3]) rfl ?_
    refine g_gI rfl (ci := 7) (k := 1) rfl sh2 ?_
    refine g_sk 1 (pc1 := 75) (st1 := [AI x6, AI (tI τ r0 1), AR q3]) rfl ?_
    refine g_br1 rfl (t := 90) rfl (fun c5 => ?_) (fun c5 => ?_)
    · have c5 : x6 = 0 := of_decide_eq_true c5
      refine g_sk 1 (pc1 := 92) (st1 := [AI 63, AI (tI τ r0 1), AR q3]) rfl ?_
      refine g_bast rfl sh7 (b8 c1 c5).1 (b8 c1 c5).2 ?_
      refine g_sk 2 (pc1 := 95) (st1 := [AR r0, AR r0]) rfl ?_
      refine g_gI rfl (ci := 7) (k := 1) rfl sh2 ?_
      refine g_sk 2 (pc1 := 100) (st1 := [AI (wr ((tI (uI τ q3 (tI τ r0 1).toNat (zbyt 63)) r0 1) + 1)), AR r0]) rfl ?_
      refine g_putI (x := (wr ((tI (uI τ q3 (tI τ r0 1).toNat (zbyt 63)) r0 1) + 1))) rfl (ci := 7) (k := 1) (kd := 0) rfl (by decide) rfl rfl sh2 ?_
      refine g_sx 2 (pc1 := 58) (L1 := [vR r0, vR r1, vI x2, none, vI x4, none, vI x6, vI (wr (x7 + 1))]) (st1 := []) rfl ?_
      exact (k2 c1 c5)
    · have c5 : ¬ x6 = 0 := of_decide_eq_false c5
      refine g_sk 2 (pc1 := 80) (st1 := [AI x2, AR r1, AI (tI τ r0 1), AR q3]) rfl ?_
      refine g_aalQ rfl sh10 (by decide) (b11 c1 c5).1 (b11 c1 c5).2 (p13 c1 c5) ?_
      refine g_gQ rfl (ci := 6) (k := 2) rfl sh14 p16 ?_
      refine g_sk 1 (pc1 := 86) (st1 := [AI x7, AR q15, AI (tI τ r0 1), AR q3]) rfl ?_
      refine g_bald rfl sh18 (by decide) (b19 c1 c5).1 (b19 c1 c5).2 ?_
      refine g_sk 1 (pc1 := 92) (st1 := [AI (tI τ q15 x7.toNat), AI (tI τ r0 1), AR q3]) rfl ?_
      refine g_bast rfl sh7 (b20 c1 c5).1 (b20 c1 c5).2 ?_
      refine g_sk 2 (pc1 := 95) (st1 := [AR r0, AR r0]) rfl ?_
      refine g_gI rfl (ci := 7) (k := 1) rfl sh2 ?_
      refine g_sk 2 (pc1 := 100) (st1 := [AI (wr ((tI (uI τ q3 (tI τ r0 1).toNat (zbyt (tI τ q15 x7.toNat))) r0 1) + 1)), AR r0]) rfl ?_
      refine g_putI (x := (wr ((tI (uI τ q3 (tI τ r0 1).toNat (zbyt (tI τ q15 x7.toNat))) r0 1) + 1))) rfl (ci := 7) (k := 1) (kd := 0) rfl (by decide) rfl rfl sh2 ?_
      refine g_sx 2 (pc1 := 58) (L1 := [vR r0, vR r1, vI x2, none, vI x4, none, vI x6, vI (wr (x7 + 1))]) (st1 := []) rfl ?_
      exact (k3 c1 c5)

set_option maxRecDepth 8192 in
theorem t44_0 {d : Nat} {τ : T2} {Q : RS → T2 → Prop} {x1 : Int} {r0 : Nat} (k1 : G d 44 2 [vR r0, vI x1, vI 0] [] τ Q) : G d 44 0 [vR r0, vI x1, none] [] τ Q := by
  refine g_sx 2 (pc1 := 2) (L1 := [vR r0, vI x1, vI 0]) (st1 := []) rfl ?_
  exact k1

set_option maxRecDepth 8192 in
theorem t44_2 {d : Nat} {τ : T2} {Q : RS → T2 → Prop} {x1 x2 : Int} {r0 q3 n5 : Nat} (sh1 : tS τ r0 = (1, 7, 0)) (p4 : tP τ r0 0 = some q3) (sh6 : tS τ q3 = (2, 1, n5)) (b7 : x2 < (tI τ r0 1) → (0 : Int) ≤ x2 ∧ x2 < (n5 : Int)) (k1 : (tI τ r0 1) ≤ x2 → Q (.inl none) τ) (k2 : x2 < (tI τ r0 1) → (tI τ q3 x2.toNat) = 63 → G d 44 2 [vR r0, vI x1, vI (wr (x2 + 1))] [] τ Q) (k3 : x2 < (tI τ r0 1) → ¬ (tI τ q3 x2.toNat) = 63 → G d 44 2 [vR r0, vI x1, vI (wr (x2 + 1))] [] (uI τ q3 x2.toNat (zbyt (zbyt (wr (97 + (zrem (wr ((wr ((tI τ q3 x2.toNat) - 97)) + x1)) 26)))))) Q) : G d 44 2 [vR r0, vI x1, vI x2] [] τ Q := by
  refine g_sk 2 (pc1 := 4) (st1 := [AR r0, AI x2]) rfl ?_
  refine g_gI rfl (ci := 7) (k := 1) rfl sh1 ?_
  refine g_br2 rfl (t := 51) rfl (fun c2 => ?_) (fun c2 => ?_)
  · have c2 : (tI τ r0 1) ≤ x2 := of_decide_eq_true c2
    refine g_vret rfl rfl ?_
    exact (k1 c2)
  · have c2 : x2 < (tI τ r0 1) := Int.not_le.mp (of_decide_eq_false c2)
    refine g_sk 1 (pc1 := 11) (st1 := [AR r0]) rfl ?_
    refine g_gQ rfl (ci := 7) (k := 0) rfl sh1 p4 ?_
    refine g_sk 1 (pc1 := 15) (st1 := [AI x2, AR q3]) rfl ?_
    refine g_bald rfl sh6 (by decide) (b7 c2).1 (b7 c2).2 ?_
    refine g_sk 1 (pc1 := 18) (st1 := [AI 63, AI (tI τ q3 x2.toNat)]) rfl ?_
    refine g_br2 rfl (t := 45) rfl (fun c8 => ?_) (fun c8 => ?_)
    · have c8 : (tI τ q3 x2.toNat) = 63 := of_decide_eq_true c8
      refine g_sx 2 (pc1 := 2) (L1 := [vR r0, vI x1, vI (wr (x2 + 1))]) (st1 := []) rfl ?_
      exact (k2 c2 c8)
    · have c8 : ¬ (tI τ q3 x2.toNat) = 63 := of_decide_eq_false c8
      refine g_sk 1 (pc1 := 22) (st1 := [AR r0]) rfl ?_
      refine g_gQ rfl (ci := 7) (k := 0) rfl sh1 p4 ?_
      refine g_sk 3 (pc1 := 29) (st1 := [AR r0, AI 97, AI x2, AR q3]) rfl ?_
      refine g_gQ rfl (ci := 7) (k := 0) rfl sh1 p4 ?_
      refine g_sk 1 (pc1 := 33) (st1 := [AI x2, AR q3, AI 97, AI x2, AR q3]) rfl ?_
      refine g_bald rfl sh6 (by decide) (b7 c2).1 (b7 c2).2 ?_
      refine g_sk 5 (pc1 := 41) (st1 := [AI 26, AI (wr ((wr ((tI τ q3 x2.toNat) - 97)) + x1)), AI 97, AI x2, AR q3]) rfl ?_
      refine g_rem rfl (by decide) ?_
      refine g_sk 2 (pc1 := 44) (st1 := [AI (zbyt (wr (97 + (zrem (wr ((wr ((tI τ q3 x2.toNat) - 97)) + x1)) 26)))), AI x2, AR q3]) rfl ?_
      refine g_bast rfl sh6 (b7 c2).1 (b7 c2).2 ?_
      refine g_sx 2 (pc1 := 2) (L1 := [vR r0, vI x1, vI (wr (x2 + 1))]) (st1 := []) rfl ?_
      exact (k3 c2 c8)

set_option maxRecDepth 8192 in
theorem t45_0 {d : Nat} {τ : T2} {Q : RS → T2 → Prop} {r0 : Nat} (sh1 : tS τ r0 = (1, 7, 0)) (k1 : G d 45 9 [vR r0, vI 0, vI (wr ((tI τ r0 1) - 1)), none] [] τ Q) : G d 45 0 [vR r0, none, none, none] [] τ Q := by
  refine g_sx 3 (pc1 := 3) (L1 := [vR r0, vI 0, none, none]) (st1 := [AR r0]) rfl ?_
  refine g_gI rfl (ci := 7) (k := 1) rfl sh1 ?_
  refine g_sx 3 (pc1 := 9) (L1 := [vR r0, vI 0, vI (wr ((tI τ r0 1) - 1)), none]) (st1 := []) rfl ?_
  exact k1

set_option maxRecDepth 8192 in
theorem t45_9 {d : Nat} {τ : T2} {Q : RS → T2 → Prop} {x1 x2 : Int} {r0 q3 n5 : Nat} (sh2 : tS τ r0 = (1, 7, 0)) (p4 : tP τ r0 0 = some q3) (sh6 : tS τ q3 = (2, 1, n5)) (b7 : x1 < x2 → (0 : Int) ≤ x1 ∧ x1 < (n5 : Int)) (b8 : x1 < x2 → (0 : Int) ≤ x2 ∧ x2 < (n5 : Int)) (k1 : x2 ≤ x1 → Q (.inl none) τ) (k2 : x1 < x2 → G d 45 9 [vR r0, vI (wr (x1 + 1)), vI (wr (x2 + (-1))), none] [] (uI (uI τ q3 x1.toNat (zbyt (tI τ q3 x2.toNat))) q3 x2.toNat (zbyt (tI τ q3 x1.toNat))) Q) : G d 45 9 [vR r0, vI x1, vI x2, none] [] τ Q := by
  refine g_sk 2 (pc1 := 11) (st1 := [AI x2, AI x1]) rfl ?_
  refine g_br2 rfl (t := 49) rfl (fun c1 => ?_) (fun c1 => ?_)
  · have c1 : x2 ≤ x1 := of_decide_eq_true c1
    refine g_vret rfl rfl ?_
    exact (k1 c1)
  · have c1 : x1 < x2 := Int.not_le.mp (of_decide_eq_false c1)
    refine g_sk 1 (pc1 := 15) (st1 := [AR r0]) rfl ?_
    refine g_gQ rfl (ci := 7) (k := 0) rfl sh2 p4 ?_
    refine g_sk 1 (pc1 := 19) (st1 := [AI x1, AR q3]) rfl ?_
    refine g_bald rfl sh6 (by decide) (b7 c1).1 (b7 c1).2 ?_
    refine g_sx 2 (pc1 := 22) (L1 := [vR r0, vI x1, vI x2, vI (tI τ q3 x1.toNat)]) (st1 := [AR r0]) rfl ?_
    refine g_gQ rfl (ci := 7) (k := 0) rfl sh2 p4 ?_
    refine g_sk 2 (pc1 := 27) (st1 := [AR r0, AI x1, AR q3]) rfl ?_
    refine g_gQ rfl (ci := 7) (k := 0) rfl sh2 p4 ?_
    refine g_sk 1 (pc1 := 31) (st1 := [AI x2, AR q3, AI x1, AR q3]) rfl ?_
    refine g_bald rfl sh6 (by decide) (b8 c1).1 (b8 c1).2 ?_
    refine g_bast rfl sh6 (b7 c1).1 (b7 c1).2 ?_
    refine g_sk 1 (pc1 := 34) (st1 := [AR r0]) rfl ?_
    refine g_gQ rfl (ci := 7) (k := 0) rfl sh2 p4 ?_
    refine g_sk 2 (pc1 := 39) (st1 := [AI (tI τ q3 x1.toNat), AI x2, AR q3]) rfl ?_
    refine g_bast rfl sh6 (b8 c1).1 (b8 c1).2 ?_
    refine g_sx 3 (pc1 := 9) (L1 := [vR r0, vI (wr (x1 + 1)), vI (wr (x2 + (-1))), vI (tI τ q3 x1.toNat)]) (st1 := []) rfl ?_
    exact G_fg (lw2_k _ (lw2_k _ (lw2_k _ (lw2_f _ lw2_nil)))) (k2 c1)

set_option maxRecDepth 8192 in
theorem t46_0 {d : Nat} {τ : T2} {Q : RS → T2 → Prop} {r0 : Nat} (hd : 1 ≤ d) (sh1 : tS τ r0 = (1, 7, 0)) (k1 : G (d - 1) 47 0 [vR r0, none] [] τ (KC d 46 1 4 [vR r0, none, none, none] [] Q)) : G d 46 0 [vR r0, none, none, none] [] τ Q := by
  refine g_sk 1 (pc1 := 1) (st1 := [AR r0]) rfl ?_
  refine g_cv rfl rfl (by decide) rfl rfl (Nat.le_of_ble_eq_true rfl) (as2 := []) rfl sh1 rfl (by omega) (L0 := [vR r0, none]) rfl ?_
  exact k1

set_option maxRecDepth 8192 in
theorem t46_4 {d : Nat} {τ : T2} {Q : RS → T2 → Prop} {y0 : Int} {r0 : Nat} (hd : 1 ≤ d) (sh2 : tS τ r0 = (1, 7, 0)) (k1 : y0 = 0 → G d 46 19 [vR r0, vI 1, none, none] [] τ Q) (k2 : ¬ y0 = 0 → G (d - 1) 262 0 [vQ (tP τ r0 0), vI 63, none, none] [] τ (KC d 46 13 16 [none, none, none, none] [] Q)) : G d 46 4 [vR r0, none, none, none] [AI y0] τ Q := by
  refine g_br1 rfl (t := 17) rfl (fun c1 => ?_) (fun c1 => ?_)
  · have c1 : y0 = 0 := of_decide_eq_true c1
    refine g_sx 2 (pc1 := 19) (L1 := [vR r0, vI 1, none, none]) (st1 := []) rfl ?_
    exact (k1 c1)
  · have c1 : ¬ y0 = 0 := of_decide_eq_false c1
    refine g_sk 1 (pc1 := 8) (st1 := [AR r0]) rfl ?_
    refine g_gP rfl (ci := 7) (k := 0) rfl sh2 ?_
    refine g_sk 1 (pc1 := 13) (st1 := [AI 63, AP (tP τ r0 0)]) rfl ?_
    refine G_fg (lw2_f _ (lw2_k _ (lw2_k _ (lw2_k _ lw2_nil)))) ?_
    refine g_cs rfl rfl (by decide) rfl rfl (Nat.le_of_ble_eq_true rfl) rfl (by omega) (L0 := [vQ (tP τ r0 0), vI 63, none, none]) rfl ?_
    exact (k2 c1)

set_option maxRecDepth 8192 in
theorem t46_16 {d : Nat} {τ : T2} {Q : RS → T2 → Prop}  (k1 : Q (.inl none) τ) : G d 46 16 [none, none, none, none] [] τ Q := by
  refine g_vret rfl rfl ?_
  exact k1

set_option maxRecDepth 8192 in
theorem t46_19 {d : Nat} {τ : T2} {Q : RS → T2 → Prop} {x1 : Int} {r0 q3 n5 : Nat} (sh1 : tS τ r0 = (1, 7, 0)) (p4 : tP τ r0 0 = some q3) (sh6 : tS τ q3 = (2, 1, n5)) (b7 : x1 < (tI τ r0 1) → (0 : Int) ≤ x1 ∧ x1 < (n5 : Int)) (k1 : (tI τ r0 1) ≤ x1 → Q (.inl none) τ) (k2 : x1 < (tI τ r0 1) → G d 46 36 [vR r0, vI x1, vI (tI τ q3 x1.toNat), vI x1] [] τ Q) : G d 46 19 [vR r0, vI x1, none, none] [] τ Q := by
  refine g_sk 2 (pc1 := 21) (st1 := [AR r0, AI x1]) rfl ?_
  refine g_gI rfl (ci := 7) (k := 1) rfl sh1 ?_
  refine g_br2 rfl (t := 85) rfl (fun c2 => ?_) (fun c2 => ?_)
  · have c2 : (tI τ r0 1) ≤ x1 := of_decide_eq_true c2
    refine g_vret rfl rfl ?_
    exact (k1 c2)
  · have c2 : x1 < (tI τ r0 1) := Int.not_le.mp (of_decide_eq_false c2)
    refine g_sk 1 (pc1 := 28) (st1 := [AR r0]) rfl ?_
    refine g_gQ rfl (ci := 7) (k := 0) rfl sh1 p4 ?_
    refine g_sk 1 (pc1 := 32) (st1 := [AI x1, AR q3]) rfl ?_
    refine g_bald rfl sh6 (by decide) (b7 c2).1 (b7 c2).2 ?_
    refine g_sx 3 (pc1 := 36) (L1 := [vR r0, vI x1, vI (tI τ q3 x1.toNat), vI x1]) (st1 := []) rfl ?_
    exact (k2 c2)

set_option maxRecDepth 8192 in
theorem t46_36 {d : Nat} {τ : T2} {Q : RS → T2 → Prop} {x1 x2 x3 : Int} {r0 q3 n5 : Nat} (sh2 : tS τ r0 = (1, 7, 0)) (p4 : tP τ r0 0 = some q3) (sh6 : tS τ q3 = (2, 1, n5)) (b7 : x3 ≤ 0 → (0 : Int) ≤ x3 ∧ x3 < (n5 : Int)) (b8 : 0 < x3 → (0 : Int) ≤ (wr (x3 - 1)) ∧ (wr (x3 - 1)) < (n5 : Int)) (b10 : 0 < x3 → (tI τ q3 (wr (x3 - 1)).toNat) ≤ x2 → (0 : Int) ≤ x3 ∧ x3 < (n5 : Int)) (b11 : 0 < x3 → x2 < (tI τ q3 (wr (x3 - 1)).toNat) → (0 : Int) ≤ x3 ∧ x3 < (n5 : Int)) (k1 : x3 ≤ 0 → G d 46 19 [vR r0, vI (wr (x1 + 1)), none, none] [] (uI τ q3 x3.toNat (zbyt x2)) Q) (k2 : 0 < x3 → (tI τ q3 (wr (x3 - 1)).toNat) ≤ x2 → G d 46 19 [vR r0, vI (wr (x1 + 1)), none, none] [] (uI τ q3 x3.toNat (zbyt x2)) Q) (k3 : 0 < x3 → x2 < (tI τ q3 (wr (x3 - 1)).toNat) → G d 46 36 [vR r0, vI x1, vI x2, vI (wr (x3 + (-1)))] [] (uI τ q3 x3.toNat (zbyt (tI τ q3 (wr (x3 - 1)).toNat))) Q) : G d 46 36 [vR r0, vI x1, vI x2, vI x3] [] τ Q := by
  refine g_sk 1 (pc1 := 37) (st1 := [AI x3]) rfl ?_
  refine g_br1 rfl (t := 72) rfl (fun c1 => ?_) (fun c1 => ?_)
  · have c1 : x3 ≤ 0 := of_decide_eq_true c1
    refine g_sk 1 (pc1 := 73) (st1 := [AR r0]) rfl ?_
    refine g_gQ rfl (ci := 7) (k := 0) rfl sh2 p4 ?_
    refine g_sk 2 (pc1 := 78) (st1 := [AI x2, AI x3, AR q3]) rfl ?_
    refine g_bast rfl sh6 (b7 c1).1 (b7 c1).2 ?_
    refine g_sx 2 (pc1 := 19) (L1 := [vR r0, vI (wr (x1 + 1)), vI x2, vI x3]) (st1 := []) rfl ?_
    exact G_fg (lw2_k _ (lw2_k _ (lw2_f _ (lw2_f _ lw2_nil)))) (k1 c1)
  · have c1 : 0 < x3 := Int.not_le.mp (of_decide_eq_false c1)
    refine g_sk 1 (pc1 := 41) (st1 := [AR r0]) rfl ?_
    refine g_gQ rfl (ci := 7) (k := 0) rfl sh2 p4 ?_
    refine g_sk 3 (pc1 := 47) (st1 := [AI (wr (x3 - 1)), AR q3]) rfl ?_
    refine g_bald rfl sh6 (by decide) (b8 c1).1 (b8 c1).2 ?_
    refine g_sk 1 (pc1 := 49) (st1 := [AI x2, AI (tI τ q3 (wr (x3 - 1)).toNat)]) rfl ?_
    refine g_br2 rfl (t := 72) rfl (fun c9 => ?_) (fun c9 => ?_)
    · have c9 : (tI τ q3 (wr (x3 - 1)).toNat) ≤ x2 := of_decide_eq_true c9
      refine g_sk 1 (pc1 := 73) (st1 := [AR r0]) rfl ?_
      refine g_gQ rfl (ci := 7) (k := 0) rfl sh2 p4 ?_
      refine g_sk 2 (pc1 := 78) (st1 := [AI x2, AI x3, AR q3]) rfl ?_
      refine g_bast rfl sh6 (b10 c1 c9).1 (b10 c1 c9).2 ?_
      refine g_sx 2 (pc1 := 19) (L1 := [vR r0, vI (wr (x1 + 1)), vI x2, vI x3]) (st1 := []) rfl ?_
      exact G_fg (lw2_k _ (lw2_k _ (lw2_f _ (lw2_f _ lw2_nil)))) (k2 c1 c9)
    · have c9 : x2 < (tI τ q3 (wr (x3 - 1)).toNat) := Int.not_le.mp (of_decide_eq_false c9)
      refine g_sk 1 (pc1 := 53) (st1 := [AR r0]) rfl ?_
      refine g_gQ rfl (ci := 7) (k := 0) rfl sh2 p4 ?_
      refine g_sk 2 (pc1 := 58) (st1 := [AR r0, AI x3, AR q3]) rfl ?_
      refine g_gQ rfl (ci := 7) (k := 0) rfl sh2 p4 ?_
      refine g_sk 3 (pc1 := 64) (st1 := [AI (wr (x3 - 1)), AR q3, AI x3, AR q3]) rfl ?_
      refine g_bald rfl sh6 (by decide) (b8 c1).1 (b8 c1).2 ?_
      refine g_bast rfl sh6 (b11 c1 c9).1 (b11 c1 c9).2 ?_
      refine g_sx 2 (pc1 := 36) (L1 := [vR r0, vI x1, vI x2, vI (wr (x3 + (-1)))]) (st1 := []) rfl ?_
      exact (k3 c1 c9)

set_option maxRecDepth 8192 in
theorem t47_0 {d : Nat} {τ : T2} {Q : RS → T2 → Prop} {r0 : Nat} (k1 : G d 47 2 [vR r0, vI 0] [] τ Q) : G d 47 0 [vR r0, none] [] τ Q := by
  refine g_sx 2 (pc1 := 2) (L1 := [vR r0, vI 0]) (st1 := []) rfl ?_
  exact k1

set_option maxRecDepth 8192 in
theorem t47_2 {d : Nat} {τ : T2} {Q : RS → T2 → Prop} {x1 : Int} {r0 q3 n5 : Nat} (sh1 : tS τ r0 = (1, 7, 0)) (p4 : tP τ r0 0 = some q3) (sh6 : tS τ q3 = (2, 1, n5)) (b7 : x1 < (tI τ r0 1) → (0 : Int) ≤ x1 ∧ x1 < (n5 : Int)) (k1 : (tI τ r0 1) ≤ x1 → Q (.inl (some (AI 0))) τ) (k2 : x1 < (tI τ r0 1) → ¬ (tI τ q3 x1.toNat) = 63 → G d 47 2 [vR r0, vI (wr (x1 + 1))] [] τ Q) (k3 : x1 < (tI τ r0 1) → (tI τ q3 x1.toNat) = 63 → Q (.inl (some (AI 1))) τ) : G d 47 2 [vR r0, vI x1] [] τ Q := by
  refine g_sk 2 (pc1 := 4) (st1 := [AR r0, AI x1]) rfl ?_
  refine g_gI rfl (ci := 7) (k := 1) rfl sh1 ?_
  refine g_br2 rfl (t := 29) rfl (fun c2 => ?_) (fun c2 => ?_)
  · have c2 : (tI τ r0 1) ≤ x1 := of_decide_eq_true c2
    refine g_sk 1 (pc1 := 30) (st1 := [AI 0]) rfl ?_
    refine g_zret rfl rfl (by decide) ?_
    exact (k1 c2)
  · have c2 : x1 < (tI τ r0 1) := Int.not_le.mp (of_decide_eq_false c2)
    refine g_sk 1 (pc1 := 11) (st1 := [AR r0]) rfl ?_
    refine g_gQ rfl (ci := 7) (k := 0) rfl sh1 p4 ?_
    refine g_sk 1 (pc1 := 15) (st1 := [AI x1, AR q3]) rfl ?_
    refine g_bald rfl sh6 (by decide) (b7 c2).1 (b7 c2).2 ?_
    refine g_sk 1 (pc1 := 18) (st1 := [AI 63, AI (tI τ q3 x1.toNat)]) rfl ?_
    refine g_br2 rfl (t := 23) rfl (fun c8 => ?_) (fun c8 => ?_)
    · have c8 : ¬ (tI τ q3 x1.toNat) = 63 := of_decide_eq_true c8
      refine g_sx 2 (pc1 := 2) (L1 := [vR r0, vI (wr (x1 + 1))]) (st1 := []) rfl ?_
      exact (k2 c2 c8)
    · have c8 : (tI τ q3 x1.toNat) = 63 := Decidable.of_not_not (of_decide_eq_false c8)
      refine g_sk 1 (pc1 := 22) (st1 := [AI 1]) rfl ?_
      refine g_zret rfl rfl (by decide) ?_
      exact (k3 c2 c8)

set_option maxRecDepth 8192 in
theorem t48_0 {d : Nat} {τ : T2} {Q : RS → T2 → Prop} {x1 : Int} {r0 : Nat} (k1 : G d 48 6 [vR r0, vI x1, vI 0, vI (wr (x1 - 1))] [] τ Q) : G d 48 0 [vR r0, vI x1, none, none] [] τ Q := by
  refine g_sx 6 (pc1 := 6) (L1 := [vR r0, vI x1, vI 0, vI (wr (x1 - 1))]) (st1 := []) rfl ?_
  exact k1

set_option maxRecDepth 8192 in
theorem t48_6 {d : Nat} {τ : T2} {Q : RS → T2 → Prop} {x1 x2 x3 : Int} {r0 q4 n6 : Nat} (sh2 : tS τ r0 = (1, 7, 0)) (p5 : tP τ r0 0 = some q4) (sh7 : tS τ q4 = (2, 1, n6)) (b8 : 0 < x1 → x3 < (tI τ r0 1) → (0 : Int) ≤ x3 ∧ x3 < (n6 : Int)) (b9 : 0 < x1 → x3 < (tI τ r0 1) → (0 : Int) ≤ x2 ∧ x2 < (n6 : Int)) (k1 : x1 ≤ 0 → Q (.inl none) (uI τ r0 1 x2)) (k2 : 0 < x1 → (tI τ r0 1) ≤ x3 → Q (.inl none) (uI τ r0 1 x2)) (k3 : 0 < x1 → x3 < (tI τ r0 1) → G d 48 6 [vR r0, vI x1, vI (wr (x2 + 1)), vI (wr (x3 + x1))] [] (uI τ q4 x2.toNat (zbyt (tI τ q4 x3.toNat))) Q) : G d 48 6 [vR r0, vI x1, vI x2, vI x3] [] τ Q := by
  refine g_sk 1 (pc1 := 7) (st1 := [AI x1]) rfl ?_
  refine g_br1 rfl (t := 40) rfl (fun c1 => ?_) (fun c1 => ?_)
  · have c1 : x1 ≤ 0 := of_decide_eq_true c1
    refine g_sk 2 (pc1 := 42) (st1 := [AI x2, AR r0]) rfl ?_
    refine g_putI (x := x2) rfl (ci := 7) (k := 1) (kd := 0) rfl (by decide) rfl rfl sh2 ?_
    refine g_vret rfl rfl ?_
    exact (k1 c1)
  · have c1 : 0 < x1 := Int.not_le.mp (of_decide_eq_false c1)
    refine g_sk 2 (pc1 := 12) (st1 := [AR r0, AI x3]) rfl ?_
    refine g_gI rfl (ci := 7) (k := 1) rfl sh2 ?_
    refine g_br2 rfl (t := 40) rfl (fun c3 => ?_) (fun c3 => ?_)
    · have c3 : (tI τ r0 1) ≤ x3 := of_decide_eq_true c3
      refine g_sk 2 (pc1 := 42) (st1 := [AI x2, AR r0]) rfl ?_
      refine g_putI (x := x2) rfl (ci := 7) (k := 1) (kd := 0) rfl (by decide) rfl rfl sh2 ?_
      refine g_vret rfl rfl ?_
      exact (k2 c1 c3)
    · have c3 : x3 < (tI τ r0 1) := Int.not_le.mp (of_decide_eq_false c3)
      refine g_sk 1 (pc1 := 19) (st1 := [AR r0]) rfl ?_
      refine g_gQ rfl (ci := 7) (k := 0) rfl sh2 p5 ?_
      refine g_sk 2 (pc1 := 24) (st1 := [AR r0, AI x2, AR q4]) rfl ?_
      refine g_gQ rfl (ci := 7) (k := 0) rfl sh2 p5 ?_
      refine g_sk 1 (pc1 := 28) (st1 := [AI x3, AR q4, AI x2, AR q4]) rfl ?_
      refine g_bald rfl sh7 (by decide) (b8 c1 c3).1 (b8 c1 c3).2 ?_
      refine g_bast rfl sh7 (b9 c1 c3).1 (b9 c1 c3).2 ?_
      refine g_sx 6 (pc1 := 6) (L1 := [vR r0, vI x1, vI (wr (x2 + 1)), vI (wr (x3 + x1))]) (st1 := []) rfl ?_
      exact (k3 c1 c3)

set_option maxRecDepth 8192 in
theorem t49_0 {d : Nat} {τ : T2} {Q : RS → T2 → Prop} {r0 r1 : Nat} (sh1 : tS τ r0 = (1, 7, 0)) (sh2 : tS τ r1 = (1, 6, 0)) (k1 : (tI τ r0 1) = (tI τ r1 3) → G d 49 15 [vR r0, vR r1, vI 0] [] τ Q) (k2 : ¬ (tI τ r0 1) = (tI τ r1 3) → Q (.inl (some (AI 0))) τ) : G d 49 0 [vR r0, vR r1, none] [] τ Q := by
  refine g_sk 1 (pc1 := 1) (st1 := [AR r0]) rfl ?_
  refine g_gI rfl (ci := 7) (k := 1) rfl sh1 ?_
  refine g_sk 1 (pc1 := 5) (st1 := [AR r1, AI (tI τ r0 1)]) rfl ?_
  refine g_gI rfl (ci := 6) (k := 3) rfl sh2 ?_
  refine g_br2 rfl (t := 13) rfl (fun c3 => ?_) (fun c3 => ?_)
  · have c3 : (tI τ r0 1) = (tI τ r1 3) := of_decide_eq_true c3
    refine g_sx 2 (pc1 := 15) (L1 := [vR r0, vR r1, vI 0]) (st1 := []) rfl ?_
    exact (k1 c3)
  · have c3 : ¬ (tI τ r0 1) = (tI τ r1 3) := of_decide_eq_false c3
    refine g_sk 1 (pc1 := 12) (st1 := [AI 0]) rfl ?_
    refine g_zret rfl rfl (by decide) ?_
    exact (k2 c3)

set_option maxRecDepth 8192 in
theorem t49_15 {d : Nat} {τ : T2} {Q : RS → T2 → Prop} {x2 : Int} {r0 r1 q4 n6 q10 n12 : Nat} (sh1 : tS τ r0 = (1, 7, 0)) (p5 : tP τ r0 0 = some q4) (sh7 : tS τ q4 = (2, 1, n6)) (b8 : x2 < (tI τ r0 1) → x2 < 12 → (0 : Int) ≤ x2 ∧ x2 < (n6 : Int)) (sh9 : tS τ r1 = (1, 6, 0)) (p11 : tP τ r1 2 = some q10) (sh13 : tS τ q10 = (2, 1, n12)) (b14 : x2 < (tI τ r0 1) → x2 < 12 → (0 : Int) ≤ x2 ∧ x2 < (n12 : Int)) (k1 : (tI τ r0 1) ≤ x2 → Q (.inl (some (AI 1))) τ) (k2 : x2 < (tI τ r0 1) → 12 ≤ x2 → Q (.inl (some (AI 1))) τ) (k3 : x2 < (tI τ r0 1) → x2 < 12 → (tI τ q4 x2.toNat) = (tI τ q10 x2.toNat) → G d 49 15 [vR r0, vR r1, vI (wr (x2 + 1))] [] τ Q) (k4 : x2 < (tI τ r0 1) → x2 < 12 → ¬ (tI τ q4 x2.toNat) = (tI τ q10 x2.toNat) → Q (.inl (some (AI 0))) τ) : G d 49 15 [vR r0, vR r1, vI x2] [] τ Q := by
  refine g_sk 2 (pc1 := 17) (st1 := [AR r0, AI x2]) rfl ?_
  refine g_gI rfl (ci := 7) (k := 1) rfl sh1 ?_
  refine g_br2 rfl (t := 52) rfl (fun c2 => ?_) (fun c2 => ?_)
  · have c2 : (tI τ r0 1) ≤ x2 := of_decide_eq_true c2
    refine g_sk 1 (pc1 := 53) (st1 := [AI 1]) rfl ?_
    refine g_zret rfl rfl (by decide) ?_
    exact (k1 c2)
  · have c2 : x2 < (tI τ r0 1) := Int.not_le.mp (of_decide_eq_false c2)
    refine g_sk 2 (pc1 := 26) (st1 := [AI 12, AI x2]) rfl ?_
    refine g_br2 rfl (t := 52) rfl (fun c3 => ?_) (fun c3 => ?_)
    · have c3 : 12 ≤ x2 := of_decide_eq_true c3
      refine g_sk 1 (pc1 := 53) (st1 := [AI 1]) rfl ?_
      refine g_zret rfl rfl (by decide) ?_
      exact (k2 c2 c3)
    · have c3 : x2 < 12 := Int.not_le.mp (of_decide_eq_false c3)
      refine g_sk 1 (pc1 := 30) (st1 := [AR r0]) rfl ?_
      refine g_gQ rfl (ci := 7) (k := 0) rfl sh1 p5 ?_
      refine g_sk 1 (pc1 := 34) (st1 := [AI x2, AR q4]) rfl ?_
      refine g_bald rfl sh7 (by decide) (b8 c2 c3).1 (b8 c2 c3).2 ?_
      refine g_sk 1 (pc1 := 36) (st1 := [AR r1, AI (tI τ q4 x2.toNat)]) rfl ?_
      refine g_gQ rfl (ci := 6) (k := 2) rfl sh9 p11 ?_
      refine g_sk 1 (pc1 := 40) (st1 := [AI x2, AR q10, AI (tI τ q4 x2.toNat)]) rfl ?_
      refine g_bald rfl sh13 (by decide) (b14 c2 c3).1 (b14 c2 c3).2 ?_
      refine g_br2 rfl (t := 46) rfl (fun c15 => ?_) (fun c15 => ?_)
      · have c15 : (tI τ q4 x2.toNat) = (tI τ q10 x2.toNat) := of_decide_eq_true c15
        refine g_sx 2 (pc1 := 15) (L1 := [vR r0, vR r1, vI (wr (x2 + 1))]) (st1 := []) rfl ?_
        exact (k3 c2 c3 c15)
      · have c15 : ¬ (tI τ q4 x2.toNat) = (tI τ q10 x2.toNat) := of_decide_eq_false c15
        refine g_sk 1 (pc1 := 45) (st1 := [AI 0]) rfl ?_
        refine g_zret rfl rfl (by decide) ?_
        exact (k4 c2 c3 c15)
