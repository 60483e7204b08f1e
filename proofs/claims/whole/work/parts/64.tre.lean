/-! TREES of methods 205 to 245, written by program (wip/whole/tree.py) -/
set_option maxRecDepth 8192 in
theorem t205_0 {d : Nat} {τ : T2} {Q : RS → T2 → Prop} {x1 x2 x3 x4 x5 : Int} {r0 : Nat} (sh1 : tS τ r0 = (1, 21, 0)) (k1 : (wr ((tI (uI τ r0 0 0) r0 15) + 20)) ≤ 300 → G d 205 23 [vR r0, vI x1, vI x2, vI x3, vI x4, vI x5, vI 0, none] [] (uI τ r0 0 0) Q) (k2 : 300 < (wr ((tI (uI τ r0 0 0) r0 15) + 20)) → Q (.inl (some (AI (-1)))) (uI τ r0 0 0)) : G d 205 0 [vR r0, vI x1, vI x2, vI x3, vI x4, vI x5, none, none] [] τ Q := by
  refine g_sk 2 (pc1 := 2) (st1 := [AI 0, AR r0]) rfl ?_
  refine g_putI (x := 0) rfl (ci := 21) (k := 0) (kd := 0) rfl (by decide) rfl rfl sh1 ?_
  refine g_sk 1 (pc1 := 6) (st1 := [AR r0]) rfl ?_
  refine g_gI rfl (ci := 21) (k := 15) rfl sh1 ?_
  refine g_sk 3 (pc1 := 15) (st1 := [AI 300, AI (wr ((tI (uI τ r0 0 0) r0 15) + 20))]) rfl ?_
  refine g_br2 rfl (t := 20) rfl (fun c2 => ?_) (fun c2 => ?_)
  · have c2 : (wr ((tI (uI τ r0 0 0) r0 15) + 20)) ≤ 300 := of_decide_eq_true c2
    refine g_sx 2 (pc1 := 23) (L1 := [vR r0, vI x1, vI x2, vI x3, vI x4, vI x5, vI 0, none]) (st1 := []) rfl ?_
    exact (k1 c2)
  · have c2 : 300 < (wr ((tI (uI τ r0 0 0) r0 15) + 20)) := Int.not_le.mp (of_decide_eq_false c2)
    refine g_sk 1 (pc1 := 19) (st1 := [AI (-1)]) rfl ?_
    refine g_iret rfl rfl ?_
    exact (k2 c2)

set_option maxRecDepth 8192 in
theorem t205_23 {d : Nat} {τ : T2} {Q : RS → T2 → Prop} {x1 x2 x3 x4 x5 x6 : Int} {r0 q7 n9 : Nat} (sh2 : tS τ r0 = (1, 21, 0)) (p8 : tP τ r0 14 = some q7) (sh10 : tS τ q7 = (2, 1, n9)) (b11 : x6 < 20 → 4 ≤ x6 → 8 ≤ x6 → 12 ≤ x6 → 16 ≤ x6 → (0 : Int) ≤ (tI τ r0 15) ∧ (tI τ r0 15) < (n9 : Int)) (b12 : x6 < 20 → 4 ≤ x6 → 8 ≤ x6 → 12 ≤ x6 → x6 < 16 → (0 : Int) ≤ (tI τ r0 15) ∧ (tI τ r0 15) < (n9 : Int)) (b13 : x6 < 20 → 4 ≤ x6 → 8 ≤ x6 → x6 < 12 → (0 : Int) ≤ (tI τ r0 15) ∧ (tI τ r0 15) < (n9 : Int)) (b14 : x6 < 20 → 4 ≤ x6 → x6 < 8 → (0 : Int) ≤ (tI τ r0 15) ∧ (tI τ r0 15) < (n9 : Int)) (b15 : x6 < 20 → x6 < 4 → (0 : Int) ≤ (tI τ r0 15) ∧ (tI τ r0 15) < (n9 : Int)) (k1 : 20 ≤ x6 → Q (.inl (some (AI (tI τ r0 15)))) τ) (k2 : x6 < 20 → 4 ≤ x6 → 8 ≤ x6 → 12 ≤ x6 → 16 ≤ x6 → G d 205 23 [vR r0, vI x1, vI x2, vI x3, vI x4, vI x5, vI (wr (x6 + 1)), none] [] (uI (uI τ q7 (tI τ r0 15).toNat (zbyt (zbyt (zshr x5 (wr (24 - (wr (8 * (zrem x6 4))))))))) r0 15 (wr ((tI (uI τ q7 (tI τ r0 15).toNat (zbyt (zbyt (zshr x5 (wr (24 - (wr (8 * (zrem x6 4))))))))) r0 15) + 1))) Q) (k3 : x6 < 20 → 4 ≤ x6 → 8 ≤ x6 → 12 ≤ x6 → x6 < 16 → G d 205 23 [vR r0, vI x1, vI x2, vI x3, vI x4, vI x5, vI (wr (x6 + 1)), none] [] (uI (uI τ q7 (tI τ r0 15).toNat (zbyt (zbyt (zshr x4 (wr (24 - (wr (8 * (zrem x6 4))))))))) r0 15 (wr ((tI (uI τ q7 (tI τ r0 15).toNat (zbyt (zbyt (zshr x4 (wr (24 - (wr (8 * (zrem x6 4))))))))) r0 15) + 1))) Q) (k4 : x6 < 20 → 4 ≤ x6 → 8 ≤ x6 → x6 < 12 → G d 205 23 [vR r0, vI x1, vI x2, vI x3, vI x4, vI x5, vI (wr (x6 + 1)), none] [] (uI (uI τ q7 (tI τ r0 15).toNat (zbyt (zbyt (zshr x3 (wr (24 - (wr (8 * (zrem x6 4))))))))) r0 15 (wr ((tI (uI τ q7 (tI τ r0 15).toNat (zbyt (zbyt (zshr x3 (wr (24 - (wr (8 * (zrem x6 4))))))))) r0 15) + 1))) Q) (k5 : x6 < 20 → 4 ≤ x6 → x6 < 8 → G d 205 23 [vR r0, vI x1, vI x2, vI x3, vI x4, vI x5, vI (wr (x6 + 1)), none] [] (uI (uI τ q7 (tI τ r0 15).toNat (zbyt (zbyt (zshr x2 (wr (24 - (wr (8 * (zrem x6 4))))))))) r0 15 (wr ((tI (uI τ q7 (tI τ r0 15).toNat (zbyt (zbyt (zshr x2 (wr (24 - (wr (8 * (zrem x6 4))))))))) r0 15) + 1))) Q) (k6 : x6 < 20 → x6 < 4 → G d 205 23 [vR r0, vI x1, vI x2, vI x3, vI x4, vI x5, vI (wr (x6 + 1)), none] [] (uI (uI τ q7 (tI τ r0 15).toNat (zbyt (zbyt (zshr x1 (wr (24 - (wr (8 * (zrem x6 4))))))))) r0 15 (wr ((tI (uI τ q7 (tI τ r0 15).toNat (zbyt (zbyt (zshr x1 (wr (24 - (wr (8 * (zrem x6 4))))))))) r0 15) + 1))) Q) : G d 205 23 [vR r0, vI x1, vI x2, vI x3, vI x4, vI x5, vI x6, none] [] τ Q := by
  refine g_sk 2 (pc1 := 27) (st1 := [AI 20, AI x6]) rfl ?_
  refine g_br2 rfl (t := 117) rfl (fun c1 => ?_) (fun c1 => ?_)
  · have c1 : 20 ≤ x6 := of_decide_eq_true c1
    refine g_sk 1 (pc1 := 118) (st1 := [AR r0]) rfl ?_
    refine g_gI rfl (ci := 21) (k := 15) rfl sh2 ?_
    refine g_iret rfl rfl ?_
    exact (k1 c1)
  · have c1 : x6 < 20 := Int.not_le.mp (of_decide_eq_false c1)
    refine g_sk 2 (pc1 := 33) (st1 := [AI 4, AI x6]) rfl ?_
    refine g_br2 rfl (t := 40) rfl (fun c3 => ?_) (fun c3 => ?_)
    · have c3 : 4 ≤ x6 := of_decide_eq_true c3
      refine g_sk 2 (pc1 := 44) (st1 := [AI 8, AI x6]) rfl ?_
      refine g_br2 rfl (t := 51) rfl (fun c4 => ?_) (fun c4 => ?_)
      · have c4 : 8 ≤ x6 := of_decide_eq_true c4
        refine g_sk 2 (pc1 := 55) (st1 := [AI 12, AI x6]) rfl ?_
        refine g_br2 rfl (t := 62) rfl (fun c5 => ?_) (fun c5 => ?_)
        · have c5 : 12 ≤ x6 := of_decide_eq_true c5
          refine g_sk 2 (pc1 := 66) (st1 := [AI 16, AI x6]) rfl ?_
          refine g_br2 rfl (t := 74) rfl (fun c6 => ?_) (fun c6 => ?_)
          · have c6 : 16 ≤ x6 := of_decide_eq_true c6
            refine g_sx 3 (pc1 := 79) (L1 := [vR r0, vI x1, vI x2, vI x3, vI x4, vI x5, vI x6, vI x5]) (st1 := [AR r0]) rfl ?_
            refine g_gQ rfl (ci := 21) (k := 14) rfl sh2 p8 ?_
            refine g_sk 1 (pc1 := 83) (st1 := [AR r0, AR q7]) rfl ?_
            refine g_gI rfl (ci := 21) (k := 15) rfl sh2 ?_
            refine g_sk 5 (pc1 := 95) (st1 := [AI 4, AI x6, AI 8, AI 24, AI x5, AI (tI τ r0 15), AR q7]) rfl ?_
            refine g_rem rfl (by decide) ?_
            refine g_sk 4 (pc1 := 100) (st1 := [AI (zbyt (zshr x5 (wr (24 - (wr (8 * (zrem x6 4))))))), AI (tI τ r0 15), AR q7]) rfl ?_
            refine g_bast rfl sh10 (b11 c1 c3 c4 c5 c6).1 (b11 c1 c3 c4 c5 c6).2 ?_
            refine g_sk 2 (pc1 := 103) (st1 := [AR r0, AR r0]) rfl ?_
            refine g_gI rfl (ci := 21) (k := 15) rfl sh2 ?_
            refine g_sk 2 (pc1 := 108) (st1 := [AI (wr ((tI (uI τ q7 (tI τ r0 15).toNat (zbyt (zbyt (zshr x5 (wr (24 - (wr (8 * (zrem x6 4))))))))) r0 15) + 1)), AR r0]) rfl ?_
            refine g_putI (x := (wr ((tI (uI τ q7 (tI τ r0 15).toNat (zbyt (zbyt (zshr x5 (wr (24 - (wr (8 * (zrem x6 4))))))))) r0 15) + 1))) rfl (ci := 21) (k := 15) (kd := 0) rfl (by decide) rfl rfl sh2 ?_
            refine g_sx 2 (pc1 := 23) (L1 := [vR r0, vI x1, vI x2, vI x3, vI x4, vI x5, vI (wr (x6 + 1)), vI x5]) (st1 := []) rfl ?_
            exact G_fg (lw2_k _ (lw2_k _ (lw2_k _ (lw2_k _ (lw2_k _ (lw2_k _ (lw2_k _ (lw2_f _ lw2_nil)))))))) (k2 c1 c3 c4 c5 c6)
          · have c6 : x6 < 16 := Int.not_le.mp (of_decide_eq_false c6)
            refine g_sx 4 (pc1 := 79) (L1 := [vR r0, vI x1, vI x2, vI x3, vI x4, vI x5, vI x6, vI x4]) (st1 := [AR r0]) rfl ?_
            refine g_gQ rfl (ci := 21) (k := 14) rfl sh2 p8 ?_
            refine g_sk 1 (pc1 := 83) (st1 := [AR r0, AR q7]) rfl ?_
            refine g_gI rfl (ci := 21) (k := 15) rfl sh2 ?_
            refine g_sk 5 (pc1 := 95) (st1 := [AI 4, AI x6, AI 8, AI 24, AI x4, AI (tI τ r0 15), AR q7]) rfl ?_
            refine g_rem rfl (by decide) ?_
            refine g_sk 4 (pc1 := 100) (st1 := [AI (zbyt (zshr x4 (wr (24 - (wr (8 * (zrem x6 4))))))), AI (tI τ r0 15), AR q7]) rfl ?_
            refine g_bast rfl sh10 (b12 c1 c3 c4 c5 c6).1 (b12 c1 c3 c4 c5 c6).2 ?_
            refine g_sk 2 (pc1 := 103) (st1 := [AR r0, AR r0]) rfl ?_
            refine g_gI rfl (ci := 21) (k := 15) rfl sh2 ?_
            refine g_sk 2 (pc1 := 108) (st1 := [AI (wr ((tI (uI τ q7 (tI τ r0 15).toNat (zbyt (zbyt (zshr x4 (wr (24 - (wr (8 * (zrem x6 4))))))))) r0 15) + 1)), AR r0]) rfl ?_
            refine g_putI (x := (wr ((tI (uI τ q7 (tI τ r0 15).toNat (zbyt (zbyt (zshr x4 (wr (24 - (wr (8 * (zrem x6 4))))))))) r0 15) + 1))) rfl (ci := 21) (k := 15) (kd := 0) rfl (by decide) rfl rfl sh2 ?_
            refine g_sx 2 (pc1 := 23) (L1 := [vR r0, vI x1, vI x2, vI x3, vI x4, vI x5, vI (wr (x6 + 1)), vI x4]) (st1 := []) rfl ?_
            exact G_fg (lw2_k _ (lw2_k _ (lw2_k _ (lw2_k _ (lw2_k _ (lw2_k _ (lw2_k _ (lw2_f _ lw2_nil)))))))) (k3 c1 c3 c4 c5 c6)
        · have c5 : x6 < 12 := Int.not_le.mp (of_decide_eq_false c5)
          refine g_sx 4 (pc1 := 79) (L1 := [vR r0, vI x1, vI x2, vI x3, vI x4, vI x5, vI x6, vI x3]) (st1 := [AR r0]) rfl ?_
          refine g_gQ rfl (ci := 21) (k := 14) rfl sh2 p8 ?_
          refine g_sk 1 (pc1 := 83) (st1 := [AR r0, AR q7]) rfl ?_
          refine g_gI rfl (ci := 21) (k := 15) rfl sh2 ?_
          refine g_sk 5 (pc1 := 95) (st1 := [AI 4, AI x6, AI 8, AI 24, AI x3, AI (tI τ r0 15), AR q7]) rfl ?_
          refine g_rem rfl (by decide) ?_
          refine g_sk 4 (pc1 := 100) (st1 := [AI (zbyt (zshr x3 (wr (24 - (wr (8 * (zrem x6 4))))))), AI (tI τ r0 15), AR q7]) rfl ?_
          refine g_bast rfl sh10 (b13 c1 c3 c4 c5).1 (b13 c1 c3 c4 c5).2 ?_
          refine g_sk 2 (pc1 := 103) (st1 := [AR r0, AR r0]) rfl ?_
          refine g_gI rfl (ci := 21) (k := 15) rfl sh2 ?_
          refine g_sk 2 (pc1 := 108) (st1 := [AI (wr ((tI (uI τ q7 (tI τ r0 15).toNat (zbyt (zbyt (zshr x3 (wr (24 - (wr (8 * (zrem x6 4))))))))) r0 15) + 1)), AR r0]) rfl ?_
          refine g_putI (x := (wr ((tI (uI τ q7 (tI τ r0 15).toNat (zbyt (zbyt (zshr x3 (wr (24 - (wr (8 * (zrem x6 4))))))))) r0 15) + 1))) rfl (ci := 21) (k := 15) (kd := 0) rfl (by decide) rfl rfl sh2 ?_
          refine g_sx 2 (pc1 := 23) (L1 := [vR r0, vI x1, vI x2, vI x3, vI x4, vI x5, vI (wr (x6 + 1)), vI x3]) (st1 := []) rfl ?_
          exact G_fg (lw2_k _ (lw2_k _ (lw2_k _ (lw2_k _ (lw2_k _ (lw2_k _ (lw2_k _ (lw2_f _ lw2_nil)))))))) (k4 c1 c3 c4 c5)
      · have c4 : x6 < 8 := Int.not_le.mp (of_decide_eq_false c4)
        refine g_sx 4 (pc1 := 79) (L1 := [vR r0, vI x1, vI x2, vI x3, vI x4, vI x5, vI x6, vI x2]) (st1 := [AR r0]) rfl ?_
        refine g_gQ rfl (ci := 21) (k := 14) rfl sh2 p8 ?_
        refine g_sk 1 (pc1 := 83) (st1 := [AR r0, AR q7]) rfl ?_
        refine g_gI rfl (ci := 21) (k := 15) rfl sh2 ?_
        refine g_sk 5 (pc1 := 95) (st1 := [AI 4, AI x6, AI 8, AI 24, AI x2, AI (tI τ r0 15), AR q7]) rfl ?_
        refine g_rem rfl (by decide) ?_
        refine g_sk 4 (pc1 := 100) (st1 := [AI (zbyt (zshr x2 (wr (24 - (wr (8 * (zrem x6 4))))))), AI (tI τ r0 15), AR q7]) rfl ?_
        refine g_bast rfl sh10 (b14 c1 c3 c4).1 (b14 c1 c3 c4).2 ?_
        refine g_sk 2 (pc1 := 103) (st1 := [AR r0, AR r0]) rfl ?_
        refine g_gI rfl (ci := 21) (k := 15) rfl sh2 ?_
        refine g_sk 2 (pc1 := 108) (st1 := [AI (wr ((tI (uI τ q7 (tI τ r0 15).toNat (zbyt (zbyt (zshr x2 (wr (24 - (wr (8 * (zrem x6 4))))))))) r0 15) + 1)), AR r0]) rfl ?_
        refine g_putI (x := (wr ((tI (uI τ q7 (tI τ r0 15).toNat (zbyt (zbyt (zshr x2 (wr (24 - (wr (8 * (zrem x6 4))))))))) r0 15) + 1))) rfl (ci := 21) (k := 15) (kd := 0) rfl (by decide) rfl rfl sh2 ?_
        refine g_sx 2 (pc1 := 23) (L1 := [vR r0, vI x1, vI x2, vI x3, vI x4, vI x5, vI (wr (x6 + 1)), vI x2]) (st1 := []) rfl ?_
        exact G_fg (lw2_k _ (lw2_k _ (lw2_k _ (lw2_k _ (lw2_k _ (lw2_k _ (lw2_k _ (lw2_f _ lw2_nil)))))))) (k5 c1 c3 c4)
    · have c3 : x6 < 4 := Int.not_le.mp (of_decide_eq_false c3)
      refine g_sx 4 (pc1 := 79) (L1 := [vR r0, vI x1, vI x2, vI x3, vI x4, vI x5, vI x6, vI x1]) (st1 := [AR r0]) rfl ?_
      refine g_gQ rfl (ci := 21) (k := 14) rfl sh2 p8 ?_
      refine g_sk 1 (pc1 := 83) (st1 := [AR r0, AR q7]) rfl ?_
      refine g_gI rfl (ci := 21) (k := 15) rfl sh2 ?_
      refine g_sk 5 (pc1 := 95) (st1 := [AI 4, AI x6, AI 8, AI 24, AI x1, AI (tI τ r0 15), AR q7]) rfl ?_
      refine g_rem rfl (by decide) ?_
      refine g_sk 4 (pc1 := 100) (st1 := [AI (zbyt (zshr x1 (wr (24 - (wr (8 * (zrem x6 4))))))), AI (tI τ r0 15), AR q7]) rfl ?_
      refine g_bast rfl sh10 (b15 c1 c3).1 (b15 c1 c3).2 ?_
      refine g_sk 2 (pc1 := 103) (st1 := [AR r0, AR r0]) rfl ?_
      refine g_gI rfl (ci := 21) (k := 15) rfl sh2 ?_
      refine g_sk 2 (pc1 := 108) (st1 := [AI (wr ((tI (uI τ q7 (tI τ r0 15).toNat (zbyt (zbyt (zshr x1 (wr (24 - (wr (8 * (zrem x6 4))))))))) r0 15) + 1)), AR r0]) rfl ?_
      refine g_putI (x := (wr ((tI (uI τ q7 (tI τ r0 15).toNat (zbyt (zbyt (zshr x1 (wr (24 - (wr (8 * (zrem x6 4))))))))) r0 15) + 1))) rfl (ci := 21) (k := 15) (kd := 0) rfl (by decide) rfl rfl sh2 ?_
      refine g_sx 2 (pc1 := 23) (L1 := [vR r0, vI x1, vI x2, vI x3, vI x4, vI x5, vI (wr (x6 + 1)), vI x1]) (st1 := []) rfl ?_
      exact G_fg (lw2_k _ (lw2_k _ (lw2_k _ (lw2_k _ (lw2_k _ (lw2_k _ (lw2_k _ (lw2_f _ lw2_nil)))))))) (k6 c1 c3)

set_option maxRecDepth 8192 in
theorem t206_0 {d : Nat} {τ : T2} {Q : RS → T2 → Prop} {x1 : Int} {r0 : Nat} (sh2 : tS τ r0 = (1, 21, 0)) (k1 : x1 < 0 → Q (.inl (some (AI 0))) τ) (k2 : 0 ≤ x1 → (tI τ r0 15) < x1 → Q (.inl (some (AI 0))) τ) (k3 : 0 ≤ x1 → x1 ≤ (tI τ r0 15) → Q (.inl (some (AI 1))) τ) : G d 206 0 [vR r0, vI x1] [] τ Q := by
  refine g_sk 1 (pc1 := 1) (st1 := [AI x1]) rfl ?_
  refine g_br1 rfl (t := 16) rfl (fun c1 => ?_) (fun c1 => ?_)
  · have c1 : x1 < 0 := of_decide_eq_true c1
    refine g_sk 1 (pc1 := 17) (st1 := [AI 0]) rfl ?_
    refine g_zret rfl rfl (by decide) ?_
    exact (k1 c1)
  · have c1 : 0 ≤ x1 := Int.not_lt.mp (of_decide_eq_false c1)
    refine g_sk 2 (pc1 := 6) (st1 := [AR r0, AI x1]) rfl ?_
    refine g_gI rfl (ci := 21) (k := 15) rfl sh2 ?_
    refine g_br2 rfl (t := 16) rfl (fun c3 => ?_) (fun c3 => ?_)
    · have c3 : (tI τ r0 15) < x1 := of_decide_eq_true c3
      refine g_sk 1 (pc1 := 17) (st1 := [AI 0]) rfl ?_
      refine g_zret rfl rfl (by decide) ?_
      exact (k2 c1 c3)
    · have c3 : x1 ≤ (tI τ r0 15) := Int.not_lt.mp (of_decide_eq_false c3)
      refine g_sk 2 (pc1 := 17) (st1 := [AI 1]) rfl ?_
      refine g_zret rfl rfl (by decide) ?_
      exact (k3 c1 c3)

set_option maxRecDepth 8192 in
theorem t207_0 {d : Nat} {τ : T2} {Q : RS → T2 → Prop} {x1 : Int} {r0 : Nat} (sh2 : tS τ r0 = (1, 21, 0)) (k1 : x1 < 0 → Q (.inl (some (AI 0))) τ) (k2 : 0 ≤ x1 → (tI τ r0 4) ≤ x1 → Q (.inl (some (AI 0))) τ) (k3 : 0 ≤ x1 → x1 < (tI τ r0 4) → Q (.inl (some (AI 1))) τ) : G d 207 0 [vR r0, vI x1] [] τ Q := by
  refine g_sk 1 (pc1 := 1) (st1 := [AI x1]) rfl ?_
  refine g_br1 rfl (t := 16) rfl (fun c1 => ?_) (fun c1 => ?_)
  · have c1 : x1 < 0 := of_decide_eq_true c1
    refine g_sk 1 (pc1 := 17) (st1 := [AI 0]) rfl ?_
    refine g_zret rfl rfl (by decide) ?_
    exact (k1 c1)
  · have c1 : 0 ≤ x1 := Int.not_lt.mp (of_decide_eq_false c1)
    refine g_sk 2 (pc1 := 6) (st1 := [AR r0, AI x1]) rfl ?_
    refine g_gI rfl (ci := 21) (k := 4) rfl sh2 ?_
    refine g_br2 rfl (t := 16) rfl (fun c3 => ?_) (fun c3 => ?_)
    · have c3 : (tI τ r0 4) ≤ x1 := of_decide_eq_true c3
      refine g_sk 1 (pc1 := 17) (st1 := [AI 0]) rfl ?_
      refine g_zret rfl rfl (by decide) ?_
      exact (k2 c1 c3)
    · have c3 : x1 < (tI τ r0 4) := Int.not_le.mp (of_decide_eq_false c3)
      refine g_sk 2 (pc1 := 17) (st1 := [AI 1]) rfl ?_
      refine g_zret rfl rfl (by decide) ?_
      exact (k3 c1 c3)

set_option maxRecDepth 8192 in
theorem t208_0 {d : Nat} {τ : T2} {Q : RS → T2 → Prop} {x1 : Int} {r0 : Nat} (hd : 1 ≤ d) (sh1 : tS τ r0 = (1, 21, 0)) (k1 : G (d - 1) 178 0 [vR r0, vI x1] [] τ (KC d 208 2 5 [vR r0, none, none, none, none] [] Q)) : G d 208 0 [vR r0, vI x1, none, none, none] [] τ Q := by
  refine g_sk 2 (pc1 := 2) (st1 := [AI x1, AR r0]) rfl ?_
  refine G_fg (lw2_k _ (lw2_f _ (lw2_k _ (lw2_k _ (lw2_k _ lw2_nil))))) ?_
  refine g_cv rfl rfl (by decide) rfl rfl (Nat.le_of_ble_eq_true rfl) (as2 := [AI x1]) rfl sh1 rfl (by omega) (L0 := [vR r0, vI x1]) rfl ?_
  exact k1

set_option maxRecDepth 8192 in
theorem t208_5 {d : Nat} {τ : T2} {Q : RS → T2 → Prop} {r0 : Nat} (hd : 1 ≤ d) (sh1 : tS τ r0 = (1, 21, 0)) (k1 : (tI τ r0 18) = 2 → G (d - 1) 177 0 [vR r0, none, none] [] τ (KC d 208 21 24 [vR r0, none, vJ (tI τ r0 22), none, none] [] Q)) (k2 : ¬ (tI τ r0 18) = 2 → Q (.inl (some (AI 0))) τ) : G d 208 5 [vR r0, none, none, none, none] [] τ Q := by
  refine g_sk 1 (pc1 := 6) (st1 := [AR r0]) rfl ?_
  refine g_gI rfl (ci := 21) (k := 18) rfl sh1 ?_
  refine g_sk 1 (pc1 := 10) (st1 := [AI 2, AI (tI τ r0 18)]) rfl ?_
  refine g_br2 rfl (t := 15) rfl (fun c2 => ?_) (fun c2 => ?_)
  · have c2 : (tI τ r0 18) = 2 := of_decide_eq_true c2
    refine g_sk 1 (pc1 := 16) (st1 := [AR r0]) rfl ?_
    refine g_gL rfl (ci := 21) (k := 22) rfl sh1 ?_
    refine g_sx 2 (pc1 := 21) (L1 := [vR r0, none, vJ (tI τ r0 22), none, none]) (st1 := [AR r0]) rfl ?_
    refine g_cv rfl rfl (by decide) rfl rfl (Nat.le_of_ble_eq_true rfl) (as2 := []) rfl sh1 rfl (by omega) (L0 := [vR r0, none, none]) rfl ?_
    exact (k1 c2)
  · have c2 : ¬ (tI τ r0 18) = 2 := of_decide_eq_false c2
    refine g_sk 1 (pc1 := 14) (st1 := [AI 0]) rfl ?_
    refine g_zret rfl rfl (by decide) ?_
    exact (k2 c2)

set_option maxRecDepth 8192 in
theorem t208_24 {d : Nat} {τ : T2} {Q : RS → T2 → Prop} {x2 : Int} {r0 : Nat} (sh1 : tS τ r0 = (1, 21, 0)) (k1 : ¬ (tI τ r0 18) = 1 → Q (.inl (some (AI 0))) (uI τ r0 22 x2)) (k2 : (tI τ r0 18) = 1 → Q (.inl (some (AI 1))) (uI τ r0 22 x2)) : G d 208 24 [vR r0, none, vJ x2, none, none] [] τ Q := by
  refine g_sk 1 (pc1 := 25) (st1 := [AR r0]) rfl ?_
  refine g_gI rfl (ci := 21) (k := 18) rfl sh1 ?_
  refine g_sk 1 (pc1 := 29) (st1 := [AI 1, AI (tI τ r0 18)]) rfl ?_
  refine g_br2 rfl (t := 36) rfl (fun c2 => ?_) (fun c2 => ?_)
  · have c2 : ¬ (tI τ r0 18) = 1 := of_decide_eq_true c2
    refine g_sx 4 (pc1 := 41) (L1 := [vR r0, none, vJ x2, none, vI 0]) (st1 := [AL x2, AR r0]) rfl ?_
    refine g_putI (x := x2) rfl (ci := 21) (k := 22) (kd := 3) rfl (by decide) rfl rfl sh1 ?_
    refine g_sk 1 (pc1 := 46) (st1 := [AI 0]) rfl ?_
    refine g_zret rfl rfl (by decide) ?_
    exact (k1 c2)
  · have c2 : (tI τ r0 18) = 1 := Decidable.of_not_not (of_decide_eq_false c2)
    refine g_sx 5 (pc1 := 41) (L1 := [vR r0, none, vJ x2, none, vI 1]) (st1 := [AL x2, AR r0]) rfl ?_
    refine g_putI (x := x2) rfl (ci := 21) (k := 22) (kd := 3) rfl (by decide) rfl rfl sh1 ?_
    refine g_sk 1 (pc1 := 46) (st1 := [AI 1]) rfl ?_
    refine g_zret rfl rfl (by decide) ?_
    exact (k2 c2)

set_option maxRecDepth 8192 in
theorem t209_0 {d : Nat} {τ : T2} {Q : RS → T2 → Prop} {r0 : Nat} (k1 : G d 209 2 [vR r0, vI 0] [] τ Q) : G d 209 0 [vR r0, none] [] τ Q := by
  refine g_sx 2 (pc1 := 2) (L1 := [vR r0, vI 0]) (st1 := []) rfl ?_
  exact k1

set_option maxRecDepth 8192 in
theorem t209_2 {d : Nat} {τ : T2} {Q : RS → T2 → Prop} {x1 : Int} {r0 q4 n6 q9 : Nat} (sh1 : tS τ r0 = (1, 21, 0)) (p5 : tP τ r0 8 = some q4) (sh7 : tS τ q4 = (3, 7, n6)) (b8 : x1 < (tI τ r0 4) → (0 : Int) ≤ x1 ∧ x1 < (n6 : Int)) (p10 : x1 < (tI τ r0 4) → tP τ q4 x1.toNat = some q9) (sh11 : tS τ q9 = (1, 15, 0)) (k1 : (tI τ r0 4) ≤ x1 → (tI τ r0 4) ≤ x1 → Q (.inl (some (AI (-1)))) τ) (k2 : (tI τ r0 4) ≤ x1 → x1 < (tI τ r0 4) → Q (.inl (some (AI x1))) τ) (k3 : x1 < (tI τ r0 4) → (tI τ q9 0) = 2 → (tI τ r0 4) ≤ x1 → Q (.inl (some (AI (-1)))) τ) (k4 : x1 < (tI τ r0 4) → (tI τ q9 0) = 2 → x1 < (tI τ r0 4) → Q (.inl (some (AI x1))) τ) (k5 : x1 < (tI τ r0 4) → ¬ (tI τ q9 0) = 2 → G d 209 2 [vR r0, vI (wr (x1 + 1))] [] τ Q) : G d 209 2 [vR r0, vI x1] [] τ Q := by
  refine g_sk 2 (pc1 := 4) (st1 := [AR r0, AI x1]) rfl ?_
  refine g_gI rfl (ci := 21) (k := 4) rfl sh1 ?_
  refine g_br2 rfl (t := 29) rfl (fun c2 => ?_) (fun c2 => ?_)
  · have c2 : (tI τ r0 4) ≤ x1 := of_decide_eq_true c2
    refine g_sk 2 (pc1 := 31) (st1 := [AR r0, AI x1]) rfl ?_
    refine g_gI rfl (ci := 21) (k := 4) rfl sh1 ?_
    refine g_br2 rfl (t := 41) rfl (fun c3 => ?_) (fun c3 => ?_)
    · have c3 : (tI τ r0 4) ≤ x1 := of_decide_eq_true c3
      refine g_sk 1 (pc1 := 42) (st1 := [AI (-1)]) rfl ?_
      refine g_iret rfl rfl ?_
      exact (k1 c2 c3)
    · have c3 : x1 < (tI τ r0 4) := Int.not_le.mp (of_decide_eq_false c3)
      refine g_sk 2 (pc1 := 42) (st1 := [AI x1]) rfl ?_
      refine g_iret rfl rfl ?_
      exact (k2 c2 c3)
  · have c2 : x1 < (tI τ r0 4) := Int.not_le.mp (of_decide_eq_false c2)
    refine g_sk 1 (pc1 := 11) (st1 := [AR r0]) rfl ?_
    refine g_gQ rfl (ci := 21) (k := 8) rfl sh1 p5 ?_
    refine g_sk 1 (pc1 := 15) (st1 := [AI x1, AR q4]) rfl ?_
    refine g_aalQ rfl sh7 (by decide) (b8 c2).1 (b8 c2).2 (p10 c2) ?_
    refine g_gI rfl (ci := 15) (k := 0) rfl sh11 ?_
    refine g_sk 1 (pc1 := 20) (st1 := [AI 2, AI (tI τ q9 0)]) rfl ?_
    refine g_br2 rfl (t := 29) rfl (fun c12 => ?_) (fun c12 => ?_)
    · have c12 : (tI τ q9 0) = 2 := of_decide_eq_true c12
      refine g_sk 2 (pc1 := 31) (st1 := [AR r0, AI x1]) rfl ?_
      refine g_gI rfl (ci := 21) (k := 4) rfl sh1 ?_
      refine g_br2 rfl (t := 41) rfl (fun c13 => ?_) (fun c13 => ?_)
      · have c13 : (tI τ r0 4) ≤ x1 := of_decide_eq_true c13
        refine g_sk 1 (pc1 := 42) (st1 := [AI (-1)]) rfl ?_
        refine g_iret rfl rfl ?_
        exact (k3 c2 c12 c13)
      · have c13 : x1 < (tI τ r0 4) := Int.not_le.mp (of_decide_eq_false c13)
        refine g_sk 2 (pc1 := 42) (st1 := [AI x1]) rfl ?_
        refine g_iret rfl rfl ?_
        exact (k4 c2 c12 c13)
    · have c12 : ¬ (tI τ q9 0) = 2 := of_decide_eq_false c12
      refine g_sx 2 (pc1 := 2) (L1 := [vR r0, vI (wr (x1 + 1))]) (st1 := []) rfl ?_
      exact (k5 c2 c12)

set_option maxRecDepth 8192 in
theorem t210_0 {d : Nat} {τ : T2} {Q : RS → T2 → Prop} {x1 x2 x3 : Int} {r0 : Nat} (hd : 1 ≤ d) (sh1 : tS τ r0 = (1, 21, 0)) (k1 : G (d - 1) 206 0 [vR r0, vI x3] [] (uI τ r0 0 0) (KC d 210 7 10 [vR r0, vI x1, vI x2, vI x3, none, none, none] [] Q)) : G d 210 0 [vR r0, vI x1, vI x2, vI x3, none, none, none] [] τ Q := by
  refine g_sk 2 (pc1 := 2) (st1 := [AI 0, AR r0]) rfl ?_
  refine g_putI (x := 0) rfl (ci := 21) (k := 0) (kd := 0) rfl (by decide) rfl rfl sh1 ?_
  refine g_sk 2 (pc1 := 7) (st1 := [AI x3, AR r0]) rfl ?_
  refine g_cv rfl rfl (by decide) rfl rfl (Nat.le_of_ble_eq_true rfl) (as2 := [AI x3]) rfl sh1 rfl (by omega) (L0 := [vR r0, vI x3]) rfl ?_
  exact k1

set_option maxRecDepth 8192 in
theorem t210_10 {d : Nat} {τ : T2} {Q : RS → T2 → Prop} {x1 x2 x3 y0 : Int} {r0 : Nat} (hd : 1 ≤ d) (sh2 : tS τ r0 = (1, 21, 0)) (k1 : y0 = 0 → G (d - 1) 163 0 [vR r0, vI 2] [] τ (KC d 210 33 36 [none, none, none, none, none, none, none] [] Q)) (k2 : ¬ y0 = 0 → G (d - 1) 167 0 [vI x1, vI 0, vI 2] [] τ (KC d 210 16 19 [vR r0, vI x1, vI x2, vI x3, none, none, none] [] Q)) : G d 210 10 [vR r0, vI x1, vI x2, vI x3, none, none, none] [AI y0] τ Q := by
  refine g_br1 rfl (t := 31) rfl (fun c1 => ?_) (fun c1 => ?_)
  · have c1 : y0 = 0 := of_decide_eq_true c1
    refine g_sk 2 (pc1 := 33) (st1 := [AI 2, AR r0]) rfl ?_
    refine G_fg (lw2_f _ (lw2_f _ (lw2_f _ (lw2_f _ (lw2_k _ (lw2_k _ (lw2_k _ lw2_nil))))))) ?_
    refine g_cv rfl rfl (by decide) rfl rfl (Nat.le_of_ble_eq_true rfl) (as2 := [AI 2]) rfl sh2 rfl (by omega) (L0 := [vR r0, vI 2]) rfl ?_
    exact (k1 c1)
  · have c1 : ¬ y0 = 0 := of_decide_eq_false c1
    refine g_sk 3 (pc1 := 16) (st1 := [AI 2, AI 0, AI x1]) rfl ?_
    refine g_cs rfl rfl (by decide) rfl rfl (Nat.le_of_ble_eq_true rfl) rfl (by omega) (L0 := [vI x1, vI 0, vI 2]) rfl ?_
    exact (k2 c1)

set_option maxRecDepth 8192 in
theorem t210_19 {d : Nat} {τ : T2} {Q : RS → T2 → Prop} {x1 x2 x3 y0 : Int} {r0 : Nat} (hd : 1 ≤ d) (sh2 : tS τ r0 = (1, 21, 0)) (k1 : y0 = 0 → G (d - 1) 163 0 [vR r0, vI 2] [] τ (KC d 210 33 36 [none, none, none, none, none, none, none] [] Q)) (k2 : ¬ y0 = 0 → G (d - 1) 167 0 [vI x2, vI 0, vI 5] [] τ (KC d 210 25 28 [vR r0, vI x1, vI x2, vI x3, none, none, none] [] Q)) : G d 210 19 [vR r0, vI x1, vI x2, vI x3, none, none, none] [AI y0] τ Q := by
  refine g_br1 rfl (t := 31) rfl (fun c1 => ?_) (fun c1 => ?_)
  · have c1 : y0 = 0 := of_decide_eq_true c1
    refine g_sk 2 (pc1 := 33) (st1 := [AI 2, AR r0]) rfl ?_
    refine G_fg (lw2_f _ (lw2_f _ (lw2_f _ (lw2_f _ (lw2_k _ (lw2_k _ (lw2_k _ lw2_nil))))))) ?_
    refine g_cv rfl rfl (by decide) rfl rfl (Nat.le_of_ble_eq_true rfl) (as2 := [AI 2]) rfl sh2 rfl (by omega) (L0 := [vR r0, vI 2]) rfl ?_
    exact (k1 c1)
  · have c1 : ¬ y0 = 0 := of_decide_eq_false c1
    refine g_sk 3 (pc1 := 25) (st1 := [AI 5, AI 0, AI x2]) rfl ?_
    refine g_cs rfl rfl (by decide) rfl rfl (Nat.le_of_ble_eq_true rfl) rfl (by omega) (L0 := [vI x2, vI 0, vI 5]) rfl ?_
    exact (k2 c1)

set_option maxRecDepth 8192 in
theorem t210_28 {d : Nat} {τ : T2} {Q : RS → T2 → Prop} {x1 x2 x3 y0 : Int} {r0 : Nat} (hd : 1 ≤ d) (sh2 : tS τ r0 = (1, 21, 0)) (k1 : ¬ y0 = 0 → G (d - 1) 208 0 [vR r0, vI x3, none, none, none] [] τ (KC d 210 39 42 [vR r0, vI x1, vI x2, none, none, none, none] [] Q)) (k2 : y0 = 0 → G (d - 1) 163 0 [vR r0, vI 2] [] τ (KC d 210 33 36 [none, none, none, none, none, none, none] [] Q)) : G d 210 28 [vR r0, vI x1, vI x2, vI x3, none, none, none] [AI y0] τ Q := by
  refine g_br1 rfl (t := 37) rfl (fun c1 => ?_) (fun c1 => ?_)
  · have c1 : ¬ y0 = 0 := of_decide_eq_true c1
    refine g_sk 2 (pc1 := 39) (st1 := [AI x3, AR r0]) rfl ?_
    refine G_fg (lw2_k _ (lw2_k _ (lw2_k _ (lw2_f _ (lw2_k _ (lw2_k _ (lw2_k _ lw2_nil))))))) ?_
    refine g_cv rfl rfl (by decide) rfl rfl (Nat.le_of_ble_eq_true rfl) (as2 := [AI x3]) rfl sh2 rfl (by omega) (L0 := [vR r0, vI x3, none, none, none]) rfl ?_
    exact (k1 c1)
  · have c1 : y0 = 0 := Decidable.of_not_not (of_decide_eq_false c1)
    refine g_sk 2 (pc1 := 33) (st1 := [AI 2, AR r0]) rfl ?_
    refine G_fg (lw2_f _ (lw2_f _ (lw2_f _ (lw2_f _ (lw2_k _ (lw2_k _ (lw2_k _ lw2_nil))))))) ?_
    refine g_cv rfl rfl (by decide) rfl rfl (Nat.le_of_ble_eq_true rfl) (as2 := [AI 2]) rfl sh2 rfl (by omega) (L0 := [vR r0, vI 2]) rfl ?_
    exact (k2 c1)

set_option maxRecDepth 8192 in
theorem t210_36 {d : Nat} {τ : T2} {Q : RS → T2 → Prop} {y0 : Int} (k1 : Q (.inl (some (AI y0))) τ) : G d 210 36 [none, none, none, none, none, none, none] [AI y0] τ Q := by
  refine g_iret rfl rfl ?_
  exact k1

set_option maxRecDepth 8192 in
theorem t210_42 {d : Nat} {τ : T2} {Q : RS → T2 → Prop} {x1 x2 y0 : Int} {r0 q5 n7 q10 : Nat} (hd : 1 ≤ d) (sh3 : tS τ r0 = (1, 21, 0)) (p6 : tP τ r0 8 = some q5) (sh8 : tS τ q5 = (3, 7, n7)) (b9 : ¬ y0 = 0 → ¬ x1 = 2 → ¬ (tI τ r0 4) = 20 → (0 : Int) ≤ (tI τ r0 4) ∧ (tI τ r0 4) < (n7 : Int)) (p11 : ¬ y0 = 0 → ¬ x1 = 2 → ¬ (tI τ r0 4) = 20 → tP τ q5 (tI τ r0 4).toNat = some q10) (sh12 : tS τ q10 = (1, 15, 0)) (k1 : ¬ y0 = 0 → ¬ x1 = 2 → ¬ (tI τ r0 4) = 20 → G d 210 121 [vR r0, none, none, none, vR q10, vJ (tI (uI (uI (uI τ q10 0 x1) q10 1 x2) q10 2 0) r0 22), none] [] (uI (uI (uI τ q10 0 x1) q10 1 x2) q10 2 0) Q) (k2 : ¬ y0 = 0 → ¬ x1 = 2 → (tI τ r0 4) = 20 → G (d - 1) 163 0 [vR r0, vI 3] [] τ (KC d 210 82 85 [none, none, none, none, none, none, none] [] Q)) (k3 : ¬ y0 = 0 → x1 = 2 → G (d - 1) 209 0 [vR r0, none] [] τ (KC d 210 57 60 [vR r0, vI x1, vI x2, none, none, none, none] [] Q)) (k4 : y0 = 0 → G (d - 1) 163 0 [vR r0, vI 2] [] τ (KC d 210 47 50 [none, none, none, none, none, none, none] [] Q)) : G d 210 42 [vR r0, vI x1, vI x2, none, none, none, none] [AI y0] τ Q := by
  refine g_br1 rfl (t := 51) rfl (fun c1 => ?_) (fun c1 => ?_)
  · have c1 : ¬ y0 = 0 := of_decide_eq_true c1
    refine g_sk 2 (pc1 := 53) (st1 := [AI 2, AI x1]) rfl ?_
    refine g_br2 rfl (t := 71) rfl (fun c2 => ?_) (fun c2 => ?_)
    · have c2 : ¬ x1 = 2 := of_decide_eq_true c2
      refine g_sk 1 (pc1 := 72) (st1 := [AR r0]) rfl ?_
      refine g_gI rfl (ci := 21) (k := 4) rfl sh3 ?_
      refine g_sk 1 (pc1 := 77) (st1 := [AI 20, AI (tI τ r0 4)]) rfl ?_
      refine g_br2 rfl (t := 86) rfl (fun c4 => ?_) (fun c4 => ?_)
      · have c4 : ¬ (tI τ r0 4) = 20 := of_decide_eq_true c4
        refine g_sk 1 (pc1 := 87) (st1 := [AR r0]) rfl ?_
        refine g_gQ rfl (ci := 21) (k := 8) rfl sh3 p6 ?_
        refine g_sk 1 (pc1 := 91) (st1 := [AR r0, AR q5]) rfl ?_
        refine g_gI rfl (ci := 21) (k := 4) rfl sh3 ?_
        refine g_aalQ rfl sh8 (by decide) (b9 c1 c2 c4).1 (b9 c1 c2 c4).2 (p11 c1 c2 c4) ?_
        refine g_sx 3 (pc1 := 100) (L1 := [vR r0, vI x1, vI x2, none, vR q10, none, none]) (st1 := [AI x1, AR q10]) rfl ?_
        refine g_putI (x := x1) rfl (ci := 15) (k := 0) (kd := 0) rfl (by decide) rfl rfl sh12 ?_
        refine g_sk 2 (pc1 := 106) (st1 := [AI x2, AR q10]) rfl ?_
        refine g_putI (x := x2) rfl (ci := 15) (k := 1) (kd := 0) rfl (by decide) rfl rfl sh12 ?_
        refine g_sk 2 (pc1 := 112) (st1 := [AI 0, AR q10]) rfl ?_
        refine g_putI (x := 0) rfl (ci := 15) (k := 2) (kd := 0) rfl (by decide) rfl rfl sh12 ?_
        refine g_sk 1 (pc1 := 116) (st1 := [AR r0]) rfl ?_
        refine g_gL rfl (ci := 21) (k := 22) rfl sh3 ?_
        refine g_sx 1 (pc1 := 121) (L1 := [vR r0, vI x1, vI x2, none, vR q10, vJ (tI (uI (uI (uI τ q10 0 x1) q10 1 x2) q10 2 0) r0 22), none]) (st1 := []) rfl ?_
        exact G_fg (lw2_k _ (lw2_f _ (lw2_f _ (lw2_k _ (lw2_k _ (lw2_k _ (lw2_k _ lw2_nil))))))) (k1 c1 c2 c4)
      · have c4 : (tI τ r0 4) = 20 := Decidable.of_not_not (of_decide_eq_false c4)
        refine g_sk 2 (pc1 := 82) (st1 := [AI 3, AR r0]) rfl ?_
        refine G_fg (lw2_f _ (lw2_f _ (lw2_f _ (lw2_k _ (lw2_k _ (lw2_k _ (lw2_k _ lw2_nil))))))) ?_
        refine g_cv rfl rfl (by decide) rfl rfl (Nat.le_of_ble_eq_true rfl) (as2 := [AI 3]) rfl sh3 rfl (by omega) (L0 := [vR r0, vI 3]) rfl ?_
        exact (k2 c1 c2 c4)
    · have c2 : x1 = 2 := Decidable.of_not_not (of_decide_eq_false c2)
      refine g_sk 1 (pc1 := 57) (st1 := [AR r0]) rfl ?_
      refine g_cv rfl rfl (by decide) rfl rfl (Nat.le_of_ble_eq_true rfl) (as2 := []) rfl sh3 rfl (by omega) (L0 := [vR r0, none]) rfl ?_
      exact (k3 c1 c2)
  · have c1 : y0 = 0 := Decidable.of_not_not (of_decide_eq_false c1)
    refine g_sk 2 (pc1 := 47) (st1 := [AI 2, AR r0]) rfl ?_
    refine G_fg (lw2_f _ (lw2_f _ (lw2_f _ (lw2_k _ (lw2_k _ (lw2_k _ (lw2_k _ lw2_nil))))))) ?_
    refine g_cv rfl rfl (by decide) rfl rfl (Nat.le_of_ble_eq_true rfl) (as2 := [AI 2]) rfl sh3 rfl (by omega) (L0 := [vR r0, vI 2]) rfl ?_
    exact (k4 c1)

set_option maxRecDepth 8192 in
theorem t210_50 {d : Nat} {τ : T2} {Q : RS → T2 → Prop} {y0 : Int} (k1 : Q (.inl (some (AI y0))) τ) : G d 210 50 [none, none, none, none, none, none, none] [AI y0] τ Q := by
  refine g_iret rfl rfl ?_
  exact k1

set_option maxRecDepth 8192 in
theorem t210_60 {d : Nat} {τ : T2} {Q : RS → T2 → Prop} {x1 x2 y0 : Int} {r0 q4 n6 q9 : Nat} (hd : 1 ≤ d) (sh2 : tS τ r0 = (1, 21, 0)) (p5 : tP τ r0 8 = some q4) (sh7 : tS τ q4 = (3, 7, n6)) (b8 : y0 = (-1) → ¬ (tI τ r0 4) = 20 → (0 : Int) ≤ (tI τ r0 4) ∧ (tI τ r0 4) < (n6 : Int)) (p10 : y0 = (-1) → ¬ (tI τ r0 4) = 20 → tP τ q4 (tI τ r0 4).toNat = some q9) (sh11 : tS τ q9 = (1, 15, 0)) (k1 : y0 = (-1) → ¬ (tI τ r0 4) = 20 → G d 210 121 [vR r0, none, none, none, vR q9, vJ (tI (uI (uI (uI τ q9 0 x1) q9 1 x2) q9 2 0) r0 22), none] [] (uI (uI (uI τ q9 0 x1) q9 1 x2) q9 2 0) Q) (k2 : y0 = (-1) → (tI τ r0 4) = 20 → G (d - 1) 163 0 [vR r0, vI 3] [] τ (KC d 210 82 85 [none, none, none, none, none, none, none] [] Q)) (k3 : ¬ y0 = (-1) → G (d - 1) 163 0 [vR r0, vI 9] [] τ (KC d 210 67 70 [none, none, none, none, none, none, none] [] Q)) : G d 210 60 [vR r0, vI x1, vI x2, none, none, none, none] [AI y0] τ Q := by
  refine g_sk 1 (pc1 := 61) (st1 := [AI (-1), AI y0]) rfl ?_
  refine g_br2 rfl (t := 71) rfl (fun c1 => ?_) (fun c1 => ?_)
  · have c1 : y0 = (-1) := of_decide_eq_true c1
    refine g_sk 1 (pc1 := 72) (st1 := [AR r0]) rfl ?_
    refine g_gI rfl (ci := 21) (k := 4) rfl sh2 ?_
    refine g_sk 1 (pc1 := 77) (st1 := [AI 20, AI (tI τ r0 4)]) rfl ?_
    refine g_br2 rfl (t := 86) rfl (fun c3 => ?_) (fun c3 => ?_)
    · have c3 : ¬ (tI τ r0 4) = 20 := of_decide_eq_true c3
      refine g_sk 1 (pc1 := 87) (st1 := [AR r0]) rfl ?_
      refine g_gQ rfl (ci := 21) (k := 8) rfl sh2 p5 ?_
      refine g_sk 1 (pc1 := 91) (st1 := [AR r0, AR q4]) rfl ?_
      refine g_gI rfl (ci := 21) (k := 4) rfl sh2 ?_
      refine g_aalQ rfl sh7 (by decide) (b8 c1 c3).1 (b8 c1 c3).2 (p10 c1 c3) ?_
      refine g_sx 3 (pc1 := 100) (L1 := [vR r0, vI x1, vI x2, none, vR q9, none, none]) (st1 := [AI x1, AR q9]) rfl ?_
      refine g_putI (x := x1) rfl (ci := 15) (k := 0) (kd := 0) rfl (by decide) rfl rfl sh11 ?_
      refine g_sk 2 (pc1 := 106) (st1 := [AI x2, AR q9]) rfl ?_
      refine g_putI (x := x2) rfl (ci := 15) (k := 1) (kd := 0) rfl (by decide) rfl rfl sh11 ?_
      refine g_sk 2 (pc1 := 112) (st1 := [AI 0, AR q9]) rfl ?_
      refine g_putI (x := 0) rfl (ci := 15) (k := 2) (kd := 0) rfl (by decide) rfl rfl sh11 ?_
      refine g_sk 1 (pc1 := 116) (st1 := [AR r0]) rfl ?_
      refine g_gL rfl (ci := 21) (k := 22) rfl sh2 ?_
      refine g_sx 1 (pc1 := 121) (L1 := [vR r0, vI x1, vI x2, none, vR q9, vJ (tI (uI (uI (uI τ q9 0 x1) q9 1 x2) q9 2 0) r0 22), none]) (st1 := []) rfl ?_
      exact G_fg (lw2_k _ (lw2_f _ (lw2_f _ (lw2_k _ (lw2_k _ (lw2_k _ (lw2_k _ lw2_nil))))))) (k1 c1 c3)
    · have c3 : (tI τ r0 4) = 20 := Decidable.of_not_not (of_decide_eq_false c3)
      refine g_sk 2 (pc1 := 82) (st1 := [AI 3, AR r0]) rfl ?_
      refine G_fg (lw2_f _ (lw2_f _ (lw2_f _ (lw2_k _ (lw2_k _ (lw2_k _ (lw2_k _ lw2_nil))))))) ?_
      refine g_cv rfl rfl (by decide) rfl rfl (Nat.le_of_ble_eq_true rfl) (as2 := [AI 3]) rfl sh2 rfl (by omega) (L0 := [vR r0, vI 3]) rfl ?_
      exact (k2 c1 c3)
  · have c1 : ¬ y0 = (-1) := of_decide_eq_false c1
    refine g_sk 2 (pc1 := 67) (st1 := [AI 9, AR r0]) rfl ?_
    refine G_fg (lw2_f _ (lw2_f _ (lw2_f _ (lw2_k _ (lw2_k _ (lw2_k _ (lw2_k _ lw2_nil))))))) ?_
    refine g_cv rfl rfl (by decide) rfl rfl (Nat.le_of_ble_eq_true rfl) (as2 := [AI 9]) rfl sh2 rfl (by omega) (L0 := [vR r0, vI 9]) rfl ?_
    exact (k3 c1)

set_option maxRecDepth 8192 in
theorem t210_70 {d : Nat} {τ : T2} {Q : RS → T2 → Prop} {y0 : Int} (k1 : Q (.inl (some (AI y0))) τ) : G d 210 70 [none, none, none, none, none, none, none] [AI y0] τ Q := by
  refine g_iret rfl rfl ?_
  exact k1

set_option maxRecDepth 8192 in
theorem t210_85 {d : Nat} {τ : T2} {Q : RS → T2 → Prop} {y0 : Int} (k1 : Q (.inl (some (AI y0))) τ) : G d 210 85 [none, none, none, none, none, none, none] [AI y0] τ Q := by
  refine g_iret rfl rfl ?_
  exact k1

set_option maxRecDepth 8192 in
theorem t210_121 {d : Nat} {τ : T2} {Q : RS → T2 → Prop} {x5 : Int} {r0 r4 : Nat} (sh2 : tS τ r4 = (1, 15, 0)) (k1 : (lcm x5 0) ≤ 0 → G d 210 151 [vR r0, none, none, none, vR r4, vI 0, none] [] τ Q) (k2 : 0 < (lcm x5 0) → G d 210 121 [vR r0, none, none, none, vR r4, vJ (lshr x5 5), none] [] (uI τ r4 2 (wr ((tI τ r4 2) + 1))) Q) : G d 210 121 [vR r0, none, none, none, vR r4, vJ x5, none] [] τ Q := by
  refine g_sk 3 (pc1 := 125) (st1 := [AI (lcm x5 0)]) rfl ?_
  refine g_br1 rfl (t := 148) rfl (fun c1 => ?_) (fun c1 => ?_)
  · have c1 : (lcm x5 0) ≤ 0 := of_decide_eq_true c1
    refine g_sx 2 (pc1 := 151) (L1 := [vR r0, none, none, none, vR r4, vI 0, none]) (st1 := []) rfl ?_
    exact (k1 c1)
  · have c1 : 0 < (lcm x5 0) := Int.not_le.mp (of_decide_eq_false c1)
    refine g_sk 2 (pc1 := 131) (st1 := [AR r4, AR r4]) rfl ?_
    refine g_gI rfl (ci := 15) (k := 2) rfl sh2 ?_
    refine g_sk 2 (pc1 := 136) (st1 := [AI (wr ((tI τ r4 2) + 1)), AR r4]) rfl ?_
    refine g_putI (x := (wr ((tI τ r4 2) + 1))) rfl (ci := 15) (k := 2) (kd := 0) rfl (by decide) rfl rfl sh2 ?_
    refine g_sx 5 (pc1 := 121) (L1 := [vR r0, none, none, none, vR r4, vJ (lshr x5 5), none]) (st1 := []) rfl ?_
    exact (k2 c1)

set_option maxRecDepth 8192 in
theorem t210_151 {d : Nat} {τ : T2} {Q : RS → T2 → Prop} {x5 : Int} {r0 r4 q4 n6 : Nat} (hd : 1 ≤ d) (sh1 : tS τ r4 = (1, 15, 0)) (sh3 : tS τ r0 = (1, 21, 0)) (p5 : tP τ r4 6 = some q4) (sh7 : tS τ q4 = (2, 1, n6)) (b8 : x5 < (tI τ r4 2) → (0 : Int) ≤ x5 ∧ x5 < (n6 : Int)) (k1 : (tI τ r4 2) ≤ x5 → G (d - 1) 170 0 [vR r0, vI 0, vI 0, vI 0, vI 0, vI 0, none, none] [] (uP (uP (uP (uI (uI (uI τ r4 3 0) r4 4 0) r4 5 0) r4 9 none) r4 10 none) r4 11 none) (KC d 210 246 249 [vR r0, none, none, none, none, none, none] [] Q)) (k2 : x5 < (tI τ r4 2) → G d 210 151 [vR r0, none, none, none, vR r4, vI (wr (x5 + 1)), none] [] (uI τ q4 x5.toNat (zbyt (zbyt (wr (wl ((wl ((land (lshr (tI τ r0 22) (wr (5 * (wr ((wr ((tI τ r4 2) - 1)) - x5))))) 31) + 97)) - 1)))))) Q) : G d 210 151 [vR r0, none, none, none, vR r4, vI x5, none] [] τ Q := by
  refine g_sk 2 (pc1 := 155) (st1 := [AR r4, AI x5]) rfl ?_
  refine g_gI rfl (ci := 15) (k := 2) rfl sh1 ?_
  refine g_br2 rfl (t := 204) rfl (fun c2 => ?_) (fun c2 => ?_)
  · have c2 : (tI τ r4 2) ≤ x5 := of_decide_eq_true c2
    refine g_sk 2 (pc1 := 207) (st1 := [AI 0, AR r4]) rfl ?_
    refine g_putI (x := 0) rfl (ci := 15) (k := 3) (kd := 0) rfl (by decide) rfl rfl sh1 ?_
    refine g_sk 2 (pc1 := 213) (st1 := [AI 0, AR r4]) rfl ?_
    refine g_putI (x := 0) rfl (ci := 15) (k := 4) (kd := 0) rfl (by decide) rfl rfl sh1 ?_
    refine g_sk 2 (pc1 := 219) (st1 := [AI 0, AR r4]) rfl ?_
    refine g_putI (x := 0) rfl (ci := 15) (k := 5) (kd := 0) rfl (by decide) rfl rfl sh1 ?_
    refine g_sk 2 (pc1 := 225) (st1 := [AN, AR r4]) rfl ?_
    refine g_putP rfl (ci := 15) (k := 9) rfl sh1 ?_
    refine g_sk 2 (pc1 := 231) (st1 := [AN, AR r4]) rfl ?_
    refine g_putP rfl (ci := 15) (k := 10) rfl sh1 ?_
    refine g_sk 2 (pc1 := 237) (st1 := [AN, AR r4]) rfl ?_
    refine g_putP rfl (ci := 15) (k := 11) rfl sh1 ?_
    refine g_sk 6 (pc1 := 246) (st1 := [AI 0, AI 0, AI 0, AI 0, AI 0, AR r0]) rfl ?_
    refine G_fg (lw2_k _ (lw2_k _ (lw2_k _ (lw2_k _ (lw2_f _ (lw2_f _ (lw2_k _ lw2_nil))))))) ?_
    refine g_cv rfl rfl (by decide) rfl rfl (Nat.le_of_ble_eq_true rfl) (as2 := [AI 0, AI 0, AI 0, AI 0, AI 0]) rfl sh3 rfl (by omega) (L0 := [vR r0, vI 0, vI 0, vI 0, vI 0, vI 0, none, none]) rfl ?_
    exact (k1 c2)
  · have c2 : x5 < (tI τ r4 2) := Int.not_le.mp (of_decide_eq_false c2)
    refine g_sk 1 (pc1 := 163) (st1 := [AR r4]) rfl ?_
    refine g_gQ rfl (ci := 15) (k := 6) rfl sh1 p5 ?_
    refine g_sk 2 (pc1 := 169) (st1 := [AR r0, AI x5, AR q4]) rfl ?_
    refine g_gL rfl (ci := 21) (k := 22) rfl sh3 ?_
    refine g_sk 2 (pc1 := 175) (st1 := [AR r4, AI 5, AL (tI τ r0 22), AI x5, AR q4]) rfl ?_
    refine g_gI rfl (ci := 15) (k := 2) rfl sh1 ?_
    refine g_sk 14 (pc1 := 197) (st1 := [AI (zbyt (wr (wl ((wl ((land (lshr (tI τ r0 22) (wr (5 * (wr ((wr ((tI τ r4 2) - 1)) - x5))))) 31) + 97)) - 1)))), AI x5, AR q4]) rfl ?_
    refine g_bast rfl sh7 (b8 c2).1 (b8 c2).2 ?_
    refine g_sx 2 (pc1 := 151) (L1 := [vR r0, none, none, none, vR r4, vI (wr (x5 + 1)), none]) (st1 := []) rfl ?_
    exact (k2 c2)

set_option maxRecDepth 8192 in
theorem t210_249 {d : Nat} {τ : T2} {Q : RS → T2 → Prop} {r0 : Nat} {s0 : Option Nat} (hd : 1 ≤ d) (sh1 : tS τ r0 = (1, 21, 0)) (k1 : G (d - 1) 165 0 [vR r0, vI (wr ((tI (uI τ r0 4 (wr ((tI τ r0 4) + 1))) r0 4) - 1))] [] (uI τ r0 4 (wr ((tI τ r0 4) + 1))) (KC d 210 267 270 [none, none, none, none, none, none, none] [] Q)) : G d 210 249 [vR r0, none, none, none, none, none, none] [AP s0] τ Q := by
  refine g_sk 3 (pc1 := 252) (st1 := [AR r0, AR r0]) rfl ?_
  refine g_gI rfl (ci := 21) (k := 4) rfl sh1 ?_
  refine g_sk 2 (pc1 := 257) (st1 := [AI (wr ((tI τ r0 4) + 1)), AR r0]) rfl ?_
  refine g_putI (x := (wr ((tI τ r0 4) + 1))) rfl (ci := 21) (k := 4) (kd := 0) rfl (by decide) rfl rfl sh1 ?_
  refine g_sk 2 (pc1 := 262) (st1 := [AR r0, AR r0]) rfl ?_
  refine g_gI rfl (ci := 21) (k := 4) rfl sh1 ?_
  refine g_sk 2 (pc1 := 267) (st1 := [AI (wr ((tI (uI τ r0 4 (wr ((tI τ r0 4) + 1))) r0 4) - 1)), AR r0]) rfl ?_
  refine G_fg (lw2_f _ (lw2_k _ (lw2_k _ (lw2_k _ (lw2_k _ (lw2_k _ (lw2_k _ lw2_nil))))))) ?_
  refine g_cv rfl rfl (by decide) rfl rfl (Nat.le_of_ble_eq_true rfl) (as2 := [AI (wr ((tI (uI τ r0 4 (wr ((tI τ r0 4) + 1))) r0 4) - 1))]) rfl sh1 rfl (by omega) (L0 := [vR r0, vI (wr ((tI (uI τ r0 4 (wr ((tI τ r0 4) + 1))) r0 4) - 1))]) rfl ?_
  exact k1

set_option maxRecDepth 8192 in
theorem t210_270 {d : Nat} {τ : T2} {Q : RS → T2 → Prop} {y0 : Int} (k1 : Q (.inl (some (AI y0))) τ) : G d 210 270 [none, none, none, none, none, none, none] [AI y0] τ Q := by
  refine g_iret rfl rfl ?_
  exact k1

set_option maxRecDepth 8192 in
theorem t211_0 {d : Nat} {τ : T2} {Q : RS → T2 → Prop} {r0 r1 : Nat} (sh1 : tS τ r1 = (1, 18, 0)) (sh2 : tS τ r0 = (1, 21, 0)) (k1 : Q (.inl (some (AI 0))) (uI (uI (uI τ r0 3 (tI τ r1 6)) r0 1 4) r0 2 (tI (uI (uI τ r0 3 (tI τ r1 6)) r0 1 4) r1 7))) : G d 211 0 [vR r0, vR r1] [] τ Q := by
  refine g_sk 2 (pc1 := 2) (st1 := [AR r1, AR r0]) rfl ?_
  refine g_gI rfl (ci := 18) (k := 6) rfl sh1 ?_
  refine g_putI (x := (tI τ r1 6)) rfl (ci := 21) (k := 3) (kd := 0) rfl (by decide) rfl rfl sh2 ?_
  refine g_sk 2 (pc1 := 10) (st1 := [AI 4, AR r0]) rfl ?_
  refine g_putI (x := 4) rfl (ci := 21) (k := 1) (kd := 0) rfl (by decide) rfl rfl sh2 ?_
  refine g_sk 2 (pc1 := 15) (st1 := [AR r1, AR r0]) rfl ?_
  refine g_gI rfl (ci := 18) (k := 7) rfl sh1 ?_
  refine g_putI (x := (tI (uI (uI τ r0 3 (tI τ r1 6)) r0 1 4) r1 7)) rfl (ci := 21) (k := 2) (kd := 0) rfl (by decide) rfl rfl sh2 ?_
  refine g_sk 1 (pc1 := 22) (st1 := [AI 0]) rfl ?_
  refine g_zret rfl rfl (by decide) ?_
  exact k1

set_option maxRecDepth 8192 in
theorem t212_0 {d : Nat} {τ : T2} {Q : RS → T2 → Prop} {x1 x2 : Int} {r0 : Nat} (hd : 1 ≤ d) (sh1 : tS τ r0 = (1, 21, 0)) (k1 : G (d - 1) 207 0 [vR r0, vI x1] [] (uI τ r0 0 0) (KC d 212 7 10 [vR r0, vI x1, vI x2, none, none] [] Q)) : G d 212 0 [vR r0, vI x1, vI x2, none, none] [] τ Q := by
  refine g_sk 2 (pc1 := 2) (st1 := [AI 0, AR r0]) rfl ?_
  refine g_putI (x := 0) rfl (ci := 21) (k := 0) (kd := 0) rfl (by decide) rfl rfl sh1 ?_
  refine g_sk 2 (pc1 := 7) (st1 := [AI x1, AR r0]) rfl ?_
  refine g_cv rfl rfl (by decide) rfl rfl (Nat.le_of_ble_eq_true rfl) (as2 := [AI x1]) rfl sh1 rfl (by omega) (L0 := [vR r0, vI x1]) rfl ?_
  exact k1

set_option maxRecDepth 8192 in
theorem t212_10 {d : Nat} {τ : T2} {Q : RS → T2 → Prop} {x1 x2 y0 : Int} {r0 : Nat} (hd : 1 ≤ d) (sh2 : tS τ r0 = (1, 21, 0)) (k1 : ¬ y0 = 0 → G (d - 1) 206 0 [vR r0, vI x2] [] τ (KC d 212 21 24 [vR r0, vI x1, vI x2, none, none] [] Q)) (k2 : y0 = 0 → G (d - 1) 164 0 [vR r0, vI 1] [] τ (KC d 212 15 18 [none, none, none, none, none] [] Q)) : G d 212 10 [vR r0, vI x1, vI x2, none, none] [AI y0] τ Q := by
  refine g_br1 rfl (t := 19) rfl (fun c1 => ?_) (fun c1 => ?_)
  · have c1 : ¬ y0 = 0 := of_decide_eq_true c1
    refine g_sk 2 (pc1 := 21) (st1 := [AI x2, AR r0]) rfl ?_
    refine g_cv rfl rfl (by decide) rfl rfl (Nat.le_of_ble_eq_true rfl) (as2 := [AI x2]) rfl sh2 rfl (by omega) (L0 := [vR r0, vI x2]) rfl ?_
    exact (k1 c1)
  · have c1 : y0 = 0 := Decidable.of_not_not (of_decide_eq_false c1)
    refine g_sk 2 (pc1 := 15) (st1 := [AI 1, AR r0]) rfl ?_
    refine G_fg (lw2_f _ (lw2_f _ (lw2_f _ (lw2_k _ (lw2_k _ lw2_nil))))) ?_
    refine g_cv rfl rfl (by decide) rfl rfl (Nat.le_of_ble_eq_true rfl) (as2 := [AI 1]) rfl sh2 rfl (by omega) (L0 := [vR r0, vI 1]) rfl ?_
    exact (k2 c1)

set_option maxRecDepth 8192 in
theorem t212_18 {d : Nat} {τ : T2} {Q : RS → T2 → Prop} {y0 : Int} (p1 : y0 = 0 ∨ y0 = 1) (k1 : Q (.inl (some (AI y0))) τ) : G d 212 18 [none, none, none, none, none] [AI y0] τ Q := by
  refine g_zret rfl rfl p1 ?_
  exact k1

set_option maxRecDepth 8192 in
theorem t212_24 {d : Nat} {τ : T2} {Q : RS → T2 → Prop} {x1 x2 y0 : Int} {r0 : Nat} (hd : 1 ≤ d) (sh2 : tS τ r0 = (1, 21, 0)) (k1 : ¬ y0 = 0 → G d 212 41 [vR r0, vI x1, vI x2, none, none] [AR (tN (uI τ r0 3 0))] (nC (uI τ r0 3 0) (1, 17, 0) 4) Q) (k2 : y0 = 0 → G (d - 1) 164 0 [vR r0, vI 2] [] τ (KC d 212 29 32 [none, none, none, none, none] [] Q)) : G d 212 24 [vR r0, vI x1, vI x2, none, none] [AI y0] τ Q := by
  refine g_br1 rfl (t := 33) rfl (fun c1 => ?_) (fun c1 => ?_)
  · have c1 : ¬ y0 = 0 := of_decide_eq_true c1
    refine g_sk 2 (pc1 := 35) (st1 := [AI 0, AR r0]) rfl ?_
    refine g_putI (x := 0) rfl (ci := 21) (k := 3) (kd := 0) rfl (by decide) rfl rfl sh2 ?_
    refine g_new rfl (ci := 17) rfl (by decide) (by decide) ?_
    exact (k1 c1)
  · have c1 : y0 = 0 := Decidable.of_not_not (of_decide_eq_false c1)
    refine g_sk 2 (pc1 := 29) (st1 := [AI 2, AR r0]) rfl ?_
    refine G_fg (lw2_f _ (lw2_f _ (lw2_f _ (lw2_k _ (lw2_k _ lw2_nil))))) ?_
    refine g_cv rfl rfl (by decide) rfl rfl (Nat.le_of_ble_eq_true rfl) (as2 := [AI 2]) rfl sh2 rfl (by omega) (L0 := [vR r0, vI 2]) rfl ?_
    exact (k2 c1)

set_option maxRecDepth 8192 in
theorem t212_32 {d : Nat} {τ : T2} {Q : RS → T2 → Prop} {y0 : Int} (p1 : y0 = 0 ∨ y0 = 1) (k1 : Q (.inl (some (AI y0))) τ) : G d 212 32 [none, none, none, none, none] [AI y0] τ Q := by
  refine g_zret rfl rfl p1 ?_
  exact k1

set_option maxRecDepth 8192 in
theorem t212_41 {d : Nat} {τ : T2} {Q : RS → T2 → Prop} {x1 x2 : Int} {r0 s0 : Nat} (hd : 1 ≤ d) (k1 : G (d - 1) 152 0 [vR s0] [] τ (KC d 212 42 45 [vR r0, vI x1, vI x2, none, none] [AR s0] Q)) : G d 212 41 [vR r0, vI x1, vI x2, none, none] [AR s0] τ Q := by
  refine g_sk 1 (pc1 := 42) (st1 := [AR s0, AR s0]) rfl ?_
  refine g_ci rfl rfl (by decide) rfl rfl (Nat.le_of_ble_eq_true rfl) (as2 := []) rfl rfl (by omega) (L0 := [vR s0]) rfl ?_
  exact k1

set_option maxRecDepth 8192 in
theorem t212_45 {d : Nat} {τ : T2} {Q : RS → T2 → Prop} {x1 x2 : Int} {r0 : Nat} {s0 : Option Nat} (hd : 1 ≤ d) (sh1 : tS τ r0 = (1, 21, 0)) (k1 : G (d - 1) 178 0 [vR r0, vI x2] [] τ (KC d 212 48 51 [vR r0, vI x1, none, vQ s0, none] [] Q)) : G d 212 45 [vR r0, vI x1, vI x2, none, none] [AP s0] τ Q := by
  refine g_sx 3 (pc1 := 48) (L1 := [vR r0, vI x1, vI x2, vQ s0, none]) (st1 := [AI x2, AR r0]) rfl ?_
  refine G_fg (lw2_k _ (lw2_k _ (lw2_f _ (lw2_k _ (lw2_k _ lw2_nil))))) ?_
  refine g_cv rfl rfl (by decide) rfl rfl (Nat.le_of_ble_eq_true rfl) (as2 := [AI x2]) rfl sh1 rfl (by omega) (L0 := [vR r0, vI x2]) rfl ?_
  exact k1

set_option maxRecDepth 8192 in
theorem t212_51 {d : Nat} {τ : T2} {Q : RS → T2 → Prop} {x1 : Int} {r0 : Nat} {r3 : Option Nat} (hd : 1 ≤ d) (sh1 : tS τ r0 = (1, 21, 0)) (k1 : G (d - 1) 184 0 [vR r0, vQ r3] [] (uI (uI τ r0 23 0) r0 24 0) (KC d 212 63 66 [vR r0, vI x1, none, vQ r3, none] [] Q)) : G d 212 51 [vR r0, vI x1, none, vQ r3, none] [] τ Q := by
  refine g_sk 2 (pc1 := 53) (st1 := [AI 0, AR r0]) rfl ?_
  refine g_putI (x := 0) rfl (ci := 21) (k := 23) (kd := 0) rfl (by decide) rfl rfl sh1 ?_
  refine g_sk 2 (pc1 := 58) (st1 := [AI 0, AR r0]) rfl ?_
  refine g_putI (x := 0) rfl (ci := 21) (k := 24) (kd := 0) rfl (by decide) rfl rfl sh1 ?_
  refine g_sk 2 (pc1 := 63) (st1 := [AP r3, AR r0]) rfl ?_
  refine g_cv rfl rfl (by decide) rfl rfl (Nat.le_of_ble_eq_true rfl) (as2 := [AP r3]) rfl sh1 rfl (by omega) (L0 := [vR r0, vQ r3]) rfl ?_
  exact k1

set_option maxRecDepth 8192 in
theorem t212_66 {d : Nat} {τ : T2} {Q : RS → T2 → Prop} {x1 : Int} {r0 : Nat} {r3 : Option Nat} (hd : 1 ≤ d) (sh1 : tS τ r0 = (1, 21, 0)) (k1 : (tI τ r0 18) = 1 → G (d - 1) 170 0 [vR r0, vI 1, vI x1, vI 0, vI 0, vI 0, none, none] [] τ (KC d 212 98 101 [vR r0, vI x1, none, vQ r3, none] [] Q)) (k2 : ¬ (tI τ r0 18) = 1 → G (d - 1) 172 0 [vR r0, vI 1] [] τ (KC d 212 76 79 [vR r0, none, none, none, none] [] Q)) : G d 212 66 [vR r0, vI x1, none, vQ r3, none] [] τ Q := by
  refine g_sk 1 (pc1 := 67) (st1 := [AR r0]) rfl ?_
  refine g_gI rfl (ci := 21) (k := 18) rfl sh1 ?_
  refine g_sk 1 (pc1 := 71) (st1 := [AI 1, AI (tI τ r0 18)]) rfl ?_
  refine g_br2 rfl (t := 80) rfl (fun c2 => ?_) (fun c2 => ?_)
  · have c2 : (tI τ r0 18) = 1 := of_decide_eq_true c2
    refine g_sk 7 (pc1 := 98) (st1 := [AI 0, AI 0, AI 0, AI x1, AI 1, AR r0]) rfl ?_
    refine g_cv rfl rfl (by decide) rfl rfl (Nat.le_of_ble_eq_true rfl) (as2 := [AI 1, AI x1, AI 0, AI 0, AI 0]) rfl sh1 rfl (by omega) (L0 := [vR r0, vI 1, vI x1, vI 0, vI 0, vI 0, none, none]) rfl ?_
    exact (k1 c2)
  · have c2 : ¬ (tI τ r0 18) = 1 := of_decide_eq_false c2
    refine g_sk 2 (pc1 := 76) (st1 := [AI 1, AR r0]) rfl ?_
    refine G_fg (lw2_k _ (lw2_f _ (lw2_k _ (lw2_f _ (lw2_k _ lw2_nil))))) ?_
    refine g_cv rfl rfl (by decide) rfl rfl (Nat.le_of_ble_eq_true rfl) (as2 := [AI 1]) rfl sh1 rfl (by omega) (L0 := [vR r0, vI 1]) rfl ?_
    exact (k2 c2)

set_option maxRecDepth 8192 in
theorem t212_79 {d : Nat} {τ : T2} {Q : RS → T2 → Prop} {r0 s0 : Nat} (hd : 16 ≤ d) (sh1 : tS τ s0 = (1, 18, 0)) (k1 : G d 212 83 [vR r0, none, none, none, none] [AR s0] τ Q) : G d 212 79 [vR r0, none, none, none, none] [AR s0] τ Q := by
  refine g_thi (ci := 18) rfl sh1 rfl (by omega) rfl ?_
  exact k1

set_option maxRecDepth 8192 in
theorem t212_83 {d : Nat} {τ : T2} {Q : RS → T2 → Prop} {r0 : Nat} {s0 : Option Nat} (hd : 1 ≤ d) (sh1 : tS τ r0 = (1, 21, 0)) (k1 : G (d - 1) 211 0 [vR r0, vQ s0] [] τ (KC d 212 88 91 [none, none, none, none, none] [] Q)) : G d 212 83 [vR r0, none, none, none, none] [AP s0] τ Q := by
  refine g_sx 3 (pc1 := 88) (L1 := [vR r0, none, none, none, vQ s0]) (st1 := [AP s0, AR r0]) rfl ?_
  refine G_fg (lw2_f _ (lw2_k _ (lw2_k _ (lw2_k _ (lw2_f _ lw2_nil))))) ?_
  refine g_cv rfl rfl (by decide) rfl rfl (Nat.le_of_ble_eq_true rfl) (as2 := [AP s0]) rfl sh1 rfl (by omega) (L0 := [vR r0, vQ s0]) rfl ?_
  exact k1

set_option maxRecDepth 8192 in
theorem t212_91 {d : Nat} {τ : T2} {Q : RS → T2 → Prop} {y0 : Int} (p1 : y0 = 0 ∨ y0 = 1) (k1 : Q (.inl (some (AI y0))) τ) : G d 212 91 [none, none, none, none, none] [AI y0] τ Q := by
  refine g_zret rfl rfl p1 ?_
  exact k1

set_option maxRecDepth 8192 in
theorem t212_101 {d : Nat} {τ : T2} {Q : RS → T2 → Prop} {x1 : Int} {r0 s0 q2 n4 q7 q11 n13 q16 : Nat} {r3 : Option Nat} (hd : 1 ≤ d) (sh1 : tS τ r0 = (1, 21, 0)) (p3 : tP τ r0 8 = some q2) (sh5 : tS τ q2 = (3, 7, n4)) (b6 : (0 : Int) ≤ x1 ∧ x1 < (n4 : Int)) (p8 : tP τ q2 x1.toNat = some q7) (sh9 : tS τ q7 = (1, 15, 0)) (sh10 : tS τ s0 = (1, 12, 0)) (p12 : tP (uP τ s0 5 (tP τ q7 9)) r0 8 = some q11) (sh14 : tS τ q11 = (3, 7, n13)) (b15 : (0 : Int) ≤ x1 ∧ x1 < (n13 : Int)) (p17 : tP (uP τ s0 5 (tP τ q7 9)) q11 x1.toNat = some q16) (sh18 : tS τ q16 = (1, 15, 0)) (k1 : G (d - 1) 166 0 [vR r0] [] (uP (uP τ s0 5 (tP τ q7 9)) q16 9 r3) (KC d 212 124 127 [none, none, none, none, none] [] Q)) : G d 212 101 [vR r0, vI x1, none, vQ r3, none] [AR s0] τ Q := by
  refine g_sk 1 (pc1 := 102) (st1 := [AR r0, AR s0]) rfl ?_
  refine g_gQ rfl (ci := 21) (k := 8) rfl sh1 p3 ?_
  refine g_sk 1 (pc1 := 106) (st1 := [AI x1, AR q2, AR s0]) rfl ?_
  refine g_aalQ rfl sh5 (by decide) b6.1 b6.2 p8 ?_
  refine g_gP rfl (ci := 15) (k := 9) rfl sh9 ?_
  refine g_putP rfl (ci := 12) (k := 5) rfl sh10 ?_
  refine g_sk 1 (pc1 := 114) (st1 := [AR r0]) rfl ?_
  refine g_gQ rfl (ci := 21) (k := 8) rfl sh1 p12 ?_
  refine g_sk 1 (pc1 := 118) (st1 := [AI x1, AR q11]) rfl ?_
  refine g_aalQ rfl sh14 (by decide) b15.1 b15.2 p17 ?_
  refine g_sk 1 (pc1 := 120) (st1 := [AP r3, AR q16]) rfl ?_
  refine g_putP rfl (ci := 15) (k := 9) rfl sh18 ?_
  refine g_sk 1 (pc1 := 124) (st1 := [AR r0]) rfl ?_
  refine G_fg (lw2_f _ (lw2_f _ (lw2_k _ (lw2_f _ (lw2_k _ lw2_nil))))) ?_
  refine g_cv rfl rfl (by decide) rfl rfl (Nat.le_of_ble_eq_true rfl) (as2 := []) rfl sh1 rfl (by omega) (L0 := [vR r0]) rfl ?_
  exact k1

set_option maxRecDepth 8192 in
theorem t212_127 {d : Nat} {τ : T2} {Q : RS → T2 → Prop} {y0 : Int} (p1 : y0 = 0 ∨ y0 = 1) (k1 : Q (.inl (some (AI y0))) τ) : G d 212 127 [none, none, none, none, none] [AI y0] τ Q := by
  refine g_zret rfl rfl p1 ?_
  exact k1

set_option maxRecDepth 8192 in
theorem t213_0 {d : Nat} {τ : T2} {Q : RS → T2 → Prop} {x1 x2 : Int} {r0 : Nat} (hd : 1 ≤ d) (sh1 : tS τ r0 = (1, 21, 0)) (k1 : G (d - 1) 207 0 [vR r0, vI x1] [] (uI τ r0 0 0) (KC d 213 7 10 [vR r0, vI x1, vI x2, none, none] [] Q)) : G d 213 0 [vR r0, vI x1, vI x2, none, none] [] τ Q := by
  refine g_sk 2 (pc1 := 2) (st1 := [AI 0, AR r0]) rfl ?_
  refine g_putI (x := 0) rfl (ci := 21) (k := 0) (kd := 0) rfl (by decide) rfl rfl sh1 ?_
  refine g_sk 2 (pc1 := 7) (st1 := [AI x1, AR r0]) rfl ?_
  refine g_cv rfl rfl (by decide) rfl rfl (Nat.le_of_ble_eq_true rfl) (as2 := [AI x1]) rfl sh1 rfl (by omega) (L0 := [vR r0, vI x1]) rfl ?_
  exact k1

set_option maxRecDepth 8192 in
theorem t213_10 {d : Nat} {τ : T2} {Q : RS → T2 → Prop} {x1 x2 y0 : Int} {r0 : Nat} (hd : 1 ≤ d) (sh2 : tS τ r0 = (1, 21, 0)) (k1 : ¬ y0 = 0 → G (d - 1) 206 0 [vR r0, vI x2] [] τ (KC d 213 21 24 [vR r0, vI x1, vI x2, none, none] [] Q)) (k2 : y0 = 0 → G (d - 1) 164 0 [vR r0, vI 1] [] τ (KC d 213 15 18 [none, none, none, none, none] [] Q)) : G d 213 10 [vR r0, vI x1, vI x2, none, none] [AI y0] τ Q := by
  refine g_br1 rfl (t := 19) rfl (fun c1 => ?_) (fun c1 => ?_)
  · have c1 : ¬ y0 = 0 := of_decide_eq_true c1
    refine g_sk 2 (pc1 := 21) (st1 := [AI x2, AR r0]) rfl ?_
    refine g_cv rfl rfl (by decide) rfl rfl (Nat.le_of_ble_eq_true rfl) (as2 := [AI x2]) rfl sh2 rfl (by omega) (L0 := [vR r0, vI x2]) rfl ?_
    exact (k1 c1)
  · have c1 : y0 = 0 := Decidable.of_not_not (of_decide_eq_false c1)
    refine g_sk 2 (pc1 := 15) (st1 := [AI 1, AR r0]) rfl ?_
    refine G_fg (lw2_f _ (lw2_f _ (lw2_f _ (lw2_k _ (lw2_k _ lw2_nil))))) ?_
    refine g_cv rfl rfl (by decide) rfl rfl (Nat.le_of_ble_eq_true rfl) (as2 := [AI 1]) rfl sh2 rfl (by omega) (L0 := [vR r0, vI 1]) rfl ?_
    exact (k2 c1)

set_option maxRecDepth 8192 in
theorem t213_18 {d : Nat} {τ : T2} {Q : RS → T2 → Prop} {y0 : Int} (p1 : y0 = 0 ∨ y0 = 1) (k1 : Q (.inl (some (AI y0))) τ) : G d 213 18 [none, none, none, none, none] [AI y0] τ Q := by
  refine g_zret rfl rfl p1 ?_
  exact k1

set_option maxRecDepth 8192 in
theorem t213_24 {d : Nat} {τ : T2} {Q : RS → T2 → Prop} {x1 x2 y0 : Int} {r0 : Nat} (hd : 1 ≤ d) (sh2 : tS τ r0 = (1, 21, 0)) (k1 : ¬ y0 = 0 → G d 213 41 [vR r0, vI x1, vI x2, none, none] [AR (tN (uI τ r0 3 0))] (nC (uI τ r0 3 0) (1, 13, 0) 1) Q) (k2 : y0 = 0 → G (d - 1) 164 0 [vR r0, vI 2] [] τ (KC d 213 29 32 [none, none, none, none, none] [] Q)) : G d 213 24 [vR r0, vI x1, vI x2, none, none] [AI y0] τ Q := by
  refine g_br1 rfl (t := 33) rfl (fun c1 => ?_) (fun c1 => ?_)
  · have c1 : ¬ y0 = 0 := of_decide_eq_true c1
    refine g_sk 2 (pc1 := 35) (st1 := [AI 0, AR r0]) rfl ?_
    refine g_putI (x := 0) rfl (ci := 21) (k := 3) (kd := 0) rfl (by decide) rfl rfl sh2 ?_
    refine g_new rfl (ci := 13) rfl (by decide) (by decide) ?_
    exact (k1 c1)
  · have c1 : y0 = 0 := Decidable.of_not_not (of_decide_eq_false c1)
    refine g_sk 2 (pc1 := 29) (st1 := [AI 2, AR r0]) rfl ?_
    refine G_fg (lw2_f _ (lw2_f _ (lw2_f _ (lw2_k _ (lw2_k _ lw2_nil))))) ?_
    refine g_cv rfl rfl (by decide) rfl rfl (Nat.le_of_ble_eq_true rfl) (as2 := [AI 2]) rfl sh2 rfl (by omega) (L0 := [vR r0, vI 2]) rfl ?_
    exact (k2 c1)

set_option maxRecDepth 8192 in
theorem t213_32 {d : Nat} {τ : T2} {Q : RS → T2 → Prop} {y0 : Int} (p1 : y0 = 0 ∨ y0 = 1) (k1 : Q (.inl (some (AI y0))) τ) : G d 213 32 [none, none, none, none, none] [AI y0] τ Q := by
  refine g_zret rfl rfl p1 ?_
  exact k1

set_option maxRecDepth 8192 in
theorem t213_41 {d : Nat} {τ : T2} {Q : RS → T2 → Prop} {x1 x2 : Int} {r0 s0 : Nat} (hd : 1 ≤ d) (k1 : G (d - 1) 148 0 [vR s0] [] τ (KC d 213 42 45 [vR r0, vI x1, vI x2, none, none] [AR s0] Q)) : G d 213 41 [vR r0, vI x1, vI x2, none, none] [AR s0] τ Q := by
  refine g_sk 1 (pc1 := 42) (st1 := [AR s0, AR s0]) rfl ?_
  refine g_ci rfl rfl (by decide) rfl rfl (Nat.le_of_ble_eq_true rfl) (as2 := []) rfl rfl (by omega) (L0 := [vR s0]) rfl ?_
  exact k1

set_option maxRecDepth 8192 in
theorem t213_45 {d : Nat} {τ : T2} {Q : RS → T2 → Prop} {x1 x2 : Int} {r0 : Nat} {s0 : Option Nat} (hd : 1 ≤ d) (sh1 : tS τ r0 = (1, 21, 0)) (k1 : G (d - 1) 178 0 [vR r0, vI x2] [] τ (KC d 213 48 51 [vR r0, vI x1, none, vQ s0, none] [] Q)) : G d 213 45 [vR r0, vI x1, vI x2, none, none] [AP s0] τ Q := by
  refine g_sx 3 (pc1 := 48) (L1 := [vR r0, vI x1, vI x2, vQ s0, none]) (st1 := [AI x2, AR r0]) rfl ?_
  refine G_fg (lw2_k _ (lw2_k _ (lw2_f _ (lw2_k _ (lw2_k _ lw2_nil))))) ?_
  refine g_cv rfl rfl (by decide) rfl rfl (Nat.le_of_ble_eq_true rfl) (as2 := [AI x2]) rfl sh1 rfl (by omega) (L0 := [vR r0, vI x2]) rfl ?_
  exact k1

set_option maxRecDepth 8192 in
theorem t213_51 {d : Nat} {τ : T2} {Q : RS → T2 → Prop} {x1 : Int} {r0 : Nat} {r3 : Option Nat} (hd : 1 ≤ d) (sh1 : tS τ r0 = (1, 21, 0)) (k1 : G (d - 1) 189 0 [vR r0, none, none, none, none] [] (uI (uI τ r0 23 0) r0 26 0) (KC d 213 63 66 [vR r0, vI x1, none, vQ r3, none] [AP r3] Q)) : G d 213 51 [vR r0, vI x1, none, vQ r3, none] [] τ Q := by
  refine g_sk 2 (pc1 := 53) (st1 := [AI 0, AR r0]) rfl ?_
  refine g_putI (x := 0) rfl (ci := 21) (k := 23) (kd := 0) rfl (by decide) rfl rfl sh1 ?_
  refine g_sk 2 (pc1 := 58) (st1 := [AI 0, AR r0]) rfl ?_
  refine g_putI (x := 0) rfl (ci := 21) (k := 26) (kd := 0) rfl (by decide) rfl rfl sh1 ?_
  refine g_sk 2 (pc1 := 63) (st1 := [AR r0, AP r3]) rfl ?_
  refine g_cv rfl rfl (by decide) rfl rfl (Nat.le_of_ble_eq_true rfl) (as2 := []) rfl sh1 rfl (by omega) (L0 := [vR r0, none, none, none, none]) rfl ?_
  exact k1

set_option maxRecDepth 8192 in
theorem t213_66 {d : Nat} {τ : T2} {Q : RS → T2 → Prop} {x1 : Int} {r0 s1 : Nat} {r3 s0 : Option Nat} (hd : 1 ≤ d) (sh1 : tS τ s1 = (1, 13, 0)) (sh2 : tS τ r0 = (1, 21, 0)) (k1 : (tI (uP τ s1 0 s0) r0 18) = 1 → G (d - 1) 170 0 [vR r0, vI 2, vI x1, vI 0, vI 0, vI 0, none, none] [] (uP τ s1 0 s0) (KC d 213 101 104 [vR r0, vI x1, none, vQ r3, none] [] Q)) (k2 : ¬ (tI (uP τ s1 0 s0) r0 18) = 1 → G (d - 1) 172 0 [vR r0, vI 1] [] (uP τ s1 0 s0) (KC d 213 79 82 [vR r0, none, none, none, none] [] Q)) : G d 213 66 [vR r0, vI x1, none, vQ r3, none] [AP s0, AR s1] τ Q := by
  refine g_putP rfl (ci := 13) (k := 0) rfl sh1 ?_
  refine g_sk 1 (pc1 := 70) (st1 := [AR r0]) rfl ?_
  refine g_gI rfl (ci := 21) (k := 18) rfl sh2 ?_
  refine g_sk 1 (pc1 := 74) (st1 := [AI 1, AI (tI (uP τ s1 0 s0) r0 18)]) rfl ?_
  refine g_br2 rfl (t := 83) rfl (fun c3 => ?_) (fun c3 => ?_)
  · have c3 : (tI (uP τ s1 0 s0) r0 18) = 1 := of_decide_eq_true c3
    refine g_sk 7 (pc1 := 101) (st1 := [AI 0, AI 0, AI 0, AI x1, AI 2, AR r0]) rfl ?_
    refine g_cv rfl rfl (by decide) rfl rfl (Nat.le_of_ble_eq_true rfl) (as2 := [AI 2, AI x1, AI 0, AI 0, AI 0]) rfl sh2 rfl (by omega) (L0 := [vR r0, vI 2, vI x1, vI 0, vI 0, vI 0, none, none]) rfl ?_
    exact (k1 c3)
  · have c3 : ¬ (tI (uP τ s1 0 s0) r0 18) = 1 := of_decide_eq_false c3
    refine g_sk 2 (pc1 := 79) (st1 := [AI 1, AR r0]) rfl ?_
    refine G_fg (lw2_k _ (lw2_f _ (lw2_k _ (lw2_f _ (lw2_k _ lw2_nil))))) ?_
    refine g_cv rfl rfl (by decide) rfl rfl (Nat.le_of_ble_eq_true rfl) (as2 := [AI 1]) rfl sh2 rfl (by omega) (L0 := [vR r0, vI 1]) rfl ?_
    exact (k2 c3)

set_option maxRecDepth 8192 in
theorem t213_82 {d : Nat} {τ : T2} {Q : RS → T2 → Prop} {r0 s0 : Nat} (hd : 16 ≤ d) (sh1 : tS τ s0 = (1, 18, 0)) (k1 : G d 213 86 [vR r0, none, none, none, none] [AR s0] τ Q) : G d 213 82 [vR r0, none, none, none, none] [AR s0] τ Q := by
  refine g_thi (ci := 18) rfl sh1 rfl (by omega) rfl ?_
  exact k1

set_option maxRecDepth 8192 in
theorem t213_86 {d : Nat} {τ : T2} {Q : RS → T2 → Prop} {r0 : Nat} {s0 : Option Nat} (hd : 1 ≤ d) (sh1 : tS τ r0 = (1, 21, 0)) (k1 : G (d - 1) 211 0 [vR r0, vQ s0] [] τ (KC d 213 91 94 [none, none, none, none, none] [] Q)) : G d 213 86 [vR r0, none, none, none, none] [AP s0] τ Q := by
  refine g_sx 3 (pc1 := 91) (L1 := [vR r0, none, none, none, vQ s0]) (st1 := [AP s0, AR r0]) rfl ?_
  refine G_fg (lw2_f _ (lw2_k _ (lw2_k _ (lw2_k _ (lw2_f _ lw2_nil))))) ?_
  refine g_cv rfl rfl (by decide) rfl rfl (Nat.le_of_ble_eq_true rfl) (as2 := [AP s0]) rfl sh1 rfl (by omega) (L0 := [vR r0, vQ s0]) rfl ?_
  exact k1

set_option maxRecDepth 8192 in
theorem t213_94 {d : Nat} {τ : T2} {Q : RS → T2 → Prop} {y0 : Int} (p1 : y0 = 0 ∨ y0 = 1) (k1 : Q (.inl (some (AI y0))) τ) : G d 213 94 [none, none, none, none, none] [AI y0] τ Q := by
  refine g_zret rfl rfl p1 ?_
  exact k1

set_option maxRecDepth 8192 in
theorem t213_104 {d : Nat} {τ : T2} {Q : RS → T2 → Prop} {x1 : Int} {r0 s0 q2 n4 q7 q11 n13 q16 : Nat} {r3 : Option Nat} (hd : 1 ≤ d) (sh1 : tS τ r0 = (1, 21, 0)) (p3 : tP τ r0 8 = some q2) (sh5 : tS τ q2 = (3, 7, n4)) (b6 : (0 : Int) ≤ x1 ∧ x1 < (n4 : Int)) (p8 : tP τ q2 x1.toNat = some q7) (sh9 : tS τ q7 = (1, 15, 0)) (sh10 : tS τ s0 = (1, 12, 0)) (p12 : tP (uP τ s0 6 (tP τ q7 10)) r0 8 = some q11) (sh14 : tS τ q11 = (3, 7, n13)) (b15 : (0 : Int) ≤ x1 ∧ x1 < (n13 : Int)) (p17 : tP (uP τ s0 6 (tP τ q7 10)) q11 x1.toNat = some q16) (sh18 : tS τ q16 = (1, 15, 0)) (k1 : G (d - 1) 166 0 [vR r0] [] (uP (uP τ s0 6 (tP τ q7 10)) q16 10 r3) (KC d 213 127 130 [none, none, none, none, none] [] Q)) : G d 213 104 [vR r0, vI x1, none, vQ r3, none] [AR s0] τ Q := by
  refine g_sk 1 (pc1 := 105) (st1 := [AR r0, AR s0]) rfl ?_
  refine g_gQ rfl (ci := 21) (k := 8) rfl sh1 p3 ?_
  refine g_sk 1 (pc1 := 109) (st1 := [AI x1, AR q2, AR s0]) rfl ?_
  refine g_aalQ rfl sh5 (by decide) b6.1 b6.2 p8 ?_
  refine g_gP rfl (ci := 15) (k := 10) rfl sh9 ?_
  refine g_putP rfl (ci := 12) (k := 6) rfl sh10 ?_
  refine g_sk 1 (pc1 := 117) (st1 := [AR r0]) rfl ?_
  refine g_gQ rfl (ci := 21) (k := 8) rfl sh1 p12 ?_
  refine g_sk 1 (pc1 := 121) (st1 := [AI x1, AR q11]) rfl ?_
  refine g_aalQ rfl sh14 (by decide) b15.1 b15.2 p17 ?_
  refine g_sk 1 (pc1 := 123) (st1 := [AP r3, AR q16]) rfl ?_
  refine g_putP rfl (ci := 15) (k := 10) rfl sh18 ?_
  refine g_sk 1 (pc1 := 127) (st1 := [AR r0]) rfl ?_
  refine G_fg (lw2_f _ (lw2_f _ (lw2_k _ (lw2_f _ (lw2_k _ lw2_nil))))) ?_
  refine g_cv rfl rfl (by decide) rfl rfl (Nat.le_of_ble_eq_true rfl) (as2 := []) rfl sh1 rfl (by omega) (L0 := [vR r0]) rfl ?_
  exact k1

set_option maxRecDepth 8192 in
theorem t213_130 {d : Nat} {τ : T2} {Q : RS → T2 → Prop} {y0 : Int} (p1 : y0 = 0 ∨ y0 = 1) (k1 : Q (.inl (some (AI y0))) τ) : G d 213 130 [none, none, none, none, none] [AI y0] τ Q := by
  refine g_zret rfl rfl p1 ?_
  exact k1

set_option maxRecDepth 8192 in
theorem t214_0 {d : Nat} {τ : T2} {Q : RS → T2 → Prop} {x1 x2 : Int} {r0 : Nat} (hd : 1 ≤ d) (sh1 : tS τ r0 = (1, 21, 0)) (k1 : G (d - 1) 207 0 [vR r0, vI x1] [] (uI τ r0 0 0) (KC d 214 7 10 [vR r0, vI x1, vI x2, none, none] [] Q)) : G d 214 0 [vR r0, vI x1, vI x2, none, none] [] τ Q := by
  refine g_sk 2 (pc1 := 2) (st1 := [AI 0, AR r0]) rfl ?_
  refine g_putI (x := 0) rfl (ci := 21) (k := 0) (kd := 0) rfl (by decide) rfl rfl sh1 ?_
  refine g_sk 2 (pc1 := 7) (st1 := [AI x1, AR r0]) rfl ?_
  refine g_cv rfl rfl (by decide) rfl rfl (Nat.le_of_ble_eq_true rfl) (as2 := [AI x1]) rfl sh1 rfl (by omega) (L0 := [vR r0, vI x1]) rfl ?_
  exact k1

set_option maxRecDepth 8192 in
theorem t214_10 {d : Nat} {τ : T2} {Q : RS → T2 → Prop} {x1 x2 y0 : Int} {r0 q3 n5 q8 : Nat} (hd : 1 ≤ d) (sh2 : tS τ r0 = (1, 21, 0)) (p4 : tP τ r0 8 = some q3) (sh6 : tS τ q3 = (3, 7, n5)) (b7 : ¬ y0 = 0 → (0 : Int) ≤ x1 ∧ x1 < (n5 : Int)) (p9 : ¬ y0 = 0 → tP τ q3 x1.toNat = some q8) (sh10 : tS τ q8 = (1, 15, 0)) (k1 : ¬ y0 = 0 → ¬ (tI τ q8 0) = 0 → G (d - 1) 206 0 [vR r0, vI x2] [] τ (KC d 214 40 43 [vR r0, vI x1, vI x2, none, none] [] Q)) (k2 : ¬ y0 = 0 → (tI τ q8 0) = 0 → G (d - 1) 164 0 [vR r0, vI 9] [] τ (KC d 214 34 37 [none, none, none, none, none] [] Q)) (k3 : y0 = 0 → G (d - 1) 164 0 [vR r0, vI 1] [] τ (KC d 214 15 18 [none, none, none, none, none] [] Q)) : G d 214 10 [vR r0, vI x1, vI x2, none, none] [AI y0] τ Q := by
  refine g_br1 rfl (t := 19) rfl (fun c1 => ?_) (fun c1 => ?_)
  · have c1 : ¬ y0 = 0 := of_decide_eq_true c1
    refine g_sk 1 (pc1 := 20) (st1 := [AR r0]) rfl ?_
    refine g_gQ rfl (ci := 21) (k := 8) rfl sh2 p4 ?_
    refine g_sk 1 (pc1 := 24) (st1 := [AI x1, AR q3]) rfl ?_
    refine g_aalQ rfl sh6 (by decide) (b7 c1).1 (b7 c1).2 (p9 c1) ?_
    refine g_gI rfl (ci := 15) (k := 0) rfl sh10 ?_
    refine g_br1 rfl (t := 38) rfl (fun c11 => ?_) (fun c11 => ?_)
    · have c11 : ¬ (tI τ q8 0) = 0 := of_decide_eq_true c11
      refine g_sk 2 (pc1 := 40) (st1 := [AI x2, AR r0]) rfl ?_
      refine g_cv rfl rfl (by decide) rfl rfl (Nat.le_of_ble_eq_true rfl) (as2 := [AI x2]) rfl sh2 rfl (by omega) (L0 := [vR r0, vI x2]) rfl ?_
      exact (k1 c1 c11)
    · have c11 : (tI τ q8 0) = 0 := Decidable.of_not_not (of_decide_eq_false c11)
      refine g_sk 2 (pc1 := 34) (st1 := [AI 9, AR r0]) rfl ?_
      refine G_fg (lw2_f _ (lw2_f _ (lw2_f _ (lw2_k _ (lw2_k _ lw2_nil))))) ?_
      refine g_cv rfl rfl (by decide) rfl rfl (Nat.le_of_ble_eq_true rfl) (as2 := [AI 9]) rfl sh2 rfl (by omega) (L0 := [vR r0, vI 9]) rfl ?_
      exact (k2 c1 c11)
  · have c1 : y0 = 0 := Decidable.of_not_not (of_decide_eq_false c1)
    refine g_sk 2 (pc1 := 15) (st1 := [AI 1, AR r0]) rfl ?_
    refine G_fg (lw2_f _ (lw2_f _ (lw2_f _ (lw2_k _ (lw2_k _ lw2_nil))))) ?_
    refine g_cv rfl rfl (by decide) rfl rfl (Nat.le_of_ble_eq_true rfl) (as2 := [AI 1]) rfl sh2 rfl (by omega) (L0 := [vR r0, vI 1]) rfl ?_
    exact (k3 c1)

set_option maxRecDepth 8192 in
theorem t214_18 {d : Nat} {τ : T2} {Q : RS → T2 → Prop} {y0 : Int} (p1 : y0 = 0 ∨ y0 = 1) (k1 : Q (.inl (some (AI y0))) τ) : G d 214 18 [none, none, none, none, none] [AI y0] τ Q := by
  refine g_zret rfl rfl p1 ?_
  exact k1

set_option maxRecDepth 8192 in
theorem t214_37 {d : Nat} {τ : T2} {Q : RS → T2 → Prop} {y0 : Int} (p1 : y0 = 0 ∨ y0 = 1) (k1 : Q (.inl (some (AI y0))) τ) : G d 214 37 [none, none, none, none, none] [AI y0] τ Q := by
  refine g_zret rfl rfl p1 ?_
  exact k1

set_option maxRecDepth 8192 in
theorem t214_43 {d : Nat} {τ : T2} {Q : RS → T2 → Prop} {x1 x2 y0 : Int} {r0 : Nat} (hd : 1 ≤ d) (sh2 : tS τ r0 = (1, 21, 0)) (k1 : ¬ y0 = 0 → G d 214 60 [vR r0, vI x1, vI x2, none, none] [AR (tN (uI τ r0 3 0))] (nC (uI τ r0 3 0) (1, 20, 0) 6) Q) (k2 : y0 = 0 → G (d - 1) 164 0 [vR r0, vI 2] [] τ (KC d 214 48 51 [none, none, none, none, none] [] Q)) : G d 214 43 [vR r0, vI x1, vI x2, none, none] [AI y0] τ Q := by
  refine g_br1 rfl (t := 52) rfl (fun c1 => ?_) (fun c1 => ?_)
  · have c1 : ¬ y0 = 0 := of_decide_eq_true c1
    refine g_sk 2 (pc1 := 54) (st1 := [AI 0, AR r0]) rfl ?_
    refine g_putI (x := 0) rfl (ci := 21) (k := 3) (kd := 0) rfl (by decide) rfl rfl sh2 ?_
    refine g_new rfl (ci := 20) rfl (by decide) (by decide) ?_
    exact (k1 c1)
  · have c1 : y0 = 0 := Decidable.of_not_not (of_decide_eq_false c1)
    refine g_sk 2 (pc1 := 48) (st1 := [AI 2, AR r0]) rfl ?_
    refine G_fg (lw2_f _ (lw2_f _ (lw2_f _ (lw2_k _ (lw2_k _ lw2_nil))))) ?_
    refine g_cv rfl rfl (by decide) rfl rfl (Nat.le_of_ble_eq_true rfl) (as2 := [AI 2]) rfl sh2 rfl (by omega) (L0 := [vR r0, vI 2]) rfl ?_
    exact (k2 c1)

set_option maxRecDepth 8192 in
theorem t214_51 {d : Nat} {τ : T2} {Q : RS → T2 → Prop} {y0 : Int} (p1 : y0 = 0 ∨ y0 = 1) (k1 : Q (.inl (some (AI y0))) τ) : G d 214 51 [none, none, none, none, none] [AI y0] τ Q := by
  refine g_zret rfl rfl p1 ?_
  exact k1

set_option maxRecDepth 8192 in
theorem t214_60 {d : Nat} {τ : T2} {Q : RS → T2 → Prop} {x1 x2 : Int} {r0 s0 : Nat} (hd : 1 ≤ d) (k1 : G (d - 1) 161 0 [vR s0] [] τ (KC d 214 61 64 [vR r0, vI x1, vI x2, none, none] [AR s0] Q)) : G d 214 60 [vR r0, vI x1, vI x2, none, none] [AR s0] τ Q := by
  refine g_sk 1 (pc1 := 61) (st1 := [AR s0, AR s0]) rfl ?_
  refine g_ci rfl rfl (by decide) rfl rfl (Nat.le_of_ble_eq_true rfl) (as2 := []) rfl rfl (by omega) (L0 := [vR s0]) rfl ?_
  exact k1

set_option maxRecDepth 8192 in
theorem t214_64 {d : Nat} {τ : T2} {Q : RS → T2 → Prop} {x1 x2 : Int} {r0 : Nat} {s0 : Option Nat} (hd : 1 ≤ d) (sh1 : tS τ r0 = (1, 21, 0)) (k1 : G (d - 1) 178 0 [vR r0, vI x2] [] τ (KC d 214 67 70 [vR r0, vI x1, none, vQ s0, none] [] Q)) : G d 214 64 [vR r0, vI x1, vI x2, none, none] [AP s0] τ Q := by
  refine g_sx 3 (pc1 := 67) (L1 := [vR r0, vI x1, vI x2, vQ s0, none]) (st1 := [AI x2, AR r0]) rfl ?_
  refine G_fg (lw2_k _ (lw2_k _ (lw2_f _ (lw2_k _ (lw2_k _ lw2_nil))))) ?_
  refine g_cv rfl rfl (by decide) rfl rfl (Nat.le_of_ble_eq_true rfl) (as2 := [AI x2]) rfl sh1 rfl (by omega) (L0 := [vR r0, vI x2]) rfl ?_
  exact k1

set_option maxRecDepth 8192 in
theorem t214_70 {d : Nat} {τ : T2} {Q : RS → T2 → Prop} {x1 : Int} {r0 : Nat} {r3 : Option Nat} (hd : 1 ≤ d) (sh1 : tS τ r0 = (1, 21, 0)) (k1 : G (d - 1) 201 0 [vR r0, vI x1, vQ r3, none, none, none] [] τ (KC d 214 73 76 [vR r0, vI x1, none, vQ r3, none] [] Q)) : G d 214 70 [vR r0, vI x1, none, vQ r3, none] [] τ Q := by
  refine g_sk 3 (pc1 := 73) (st1 := [AP r3, AI x1, AR r0]) rfl ?_
  refine g_cv rfl rfl (by decide) rfl rfl (Nat.le_of_ble_eq_true rfl) (as2 := [AI x1, AP r3]) rfl sh1 rfl (by omega) (L0 := [vR r0, vI x1, vQ r3, none, none, none]) rfl ?_
  exact k1

set_option maxRecDepth 8192 in
theorem t214_76 {d : Nat} {τ : T2} {Q : RS → T2 → Prop} {x1 : Int} {r0 : Nat} {r3 : Option Nat} (hd : 1 ≤ d) (sh1 : tS τ r0 = (1, 21, 0)) (k1 : (tI τ r0 18) = 1 → G (d - 1) 170 0 [vR r0, vI 3, vI x1, vI 0, vI 0, vI 0, none, none] [] τ (KC d 214 108 111 [vR r0, vI x1, none, vQ r3, none] [] Q)) (k2 : ¬ (tI τ r0 18) = 1 → G (d - 1) 172 0 [vR r0, vI 1] [] τ (KC d 214 86 89 [vR r0, none, none, none, none] [] Q)) : G d 214 76 [vR r0, vI x1, none, vQ r3, none] [] τ Q := by
  refine g_sk 1 (pc1 := 77) (st1 := [AR r0]) rfl ?_
  refine g_gI rfl (ci := 21) (k := 18) rfl sh1 ?_
  refine g_sk 1 (pc1 := 81) (st1 := [AI 1, AI (tI τ r0 18)]) rfl ?_
  refine g_br2 rfl (t := 90) rfl (fun c2 => ?_) (fun c2 => ?_)
  · have c2 : (tI τ r0 18) = 1 := of_decide_eq_true c2
    refine g_sk 7 (pc1 := 108) (st1 := [AI 0, AI 0, AI 0, AI x1, AI 3, AR r0]) rfl ?_
    refine g_cv rfl rfl (by decide) rfl rfl (Nat.le_of_ble_eq_true rfl) (as2 := [AI 3, AI x1, AI 0, AI 0, AI 0]) rfl sh1 rfl (by omega) (L0 := [vR r0, vI 3, vI x1, vI 0, vI 0, vI 0, none, none]) rfl ?_
    exact (k1 c2)
  · have c2 : ¬ (tI τ r0 18) = 1 := of_decide_eq_false c2
    refine g_sk 2 (pc1 := 86) (st1 := [AI 1, AR r0]) rfl ?_
    refine G_fg (lw2_k _ (lw2_f _ (lw2_k _ (lw2_f _ (lw2_k _ lw2_nil))))) ?_
    refine g_cv rfl rfl (by decide) rfl rfl (Nat.le_of_ble_eq_true rfl) (as2 := [AI 1]) rfl sh1 rfl (by omega) (L0 := [vR r0, vI 1]) rfl ?_
    exact (k2 c2)

set_option maxRecDepth 8192 in
theorem t214_89 {d : Nat} {τ : T2} {Q : RS → T2 → Prop} {r0 s0 : Nat} (hd : 16 ≤ d) (sh1 : tS τ s0 = (1, 18, 0)) (k1 : G d 214 93 [vR r0, none, none, none, none] [AR s0] τ Q) : G d 214 89 [vR r0, none, none, none, none] [AR s0] τ Q := by
  refine g_thi (ci := 18) rfl sh1 rfl (by omega) rfl ?_
  exact k1

set_option maxRecDepth 8192 in
theorem t214_93 {d : Nat} {τ : T2} {Q : RS → T2 → Prop} {r0 : Nat} {s0 : Option Nat} (hd : 1 ≤ d) (sh1 : tS τ r0 = (1, 21, 0)) (k1 : G (d - 1) 211 0 [vR r0, vQ s0] [] τ (KC d 214 98 101 [none, none, none, none, none] [] Q)) : G d 214 93 [vR r0, none, none, none, none] [AP s0] τ Q := by
  refine g_sx 3 (pc1 := 98) (L1 := [vR r0, none, none, none, vQ s0]) (st1 := [AP s0, AR r0]) rfl ?_
  refine G_fg (lw2_f _ (lw2_k _ (lw2_k _ (lw2_k _ (lw2_f _ lw2_nil))))) ?_
  refine g_cv rfl rfl (by decide) rfl rfl (Nat.le_of_ble_eq_true rfl) (as2 := [AP s0]) rfl sh1 rfl (by omega) (L0 := [vR r0, vQ s0]) rfl ?_
  exact k1

set_option maxRecDepth 8192 in
theorem t214_101 {d : Nat} {τ : T2} {Q : RS → T2 → Prop} {y0 : Int} (p1 : y0 = 0 ∨ y0 = 1) (k1 : Q (.inl (some (AI y0))) τ) : G d 214 101 [none, none, none, none, none] [AI y0] τ Q := by
  refine g_zret rfl rfl p1 ?_
  exact k1

set_option maxRecDepth 8192 in
theorem t214_111 {d : Nat} {τ : T2} {Q : RS → T2 → Prop} {x1 : Int} {r0 s0 q2 n4 q7 q11 n13 q16 : Nat} {r3 : Option Nat} (hd : 1 ≤ d) (sh1 : tS τ r0 = (1, 21, 0)) (p3 : tP τ r0 8 = some q2) (sh5 : tS τ q2 = (3, 7, n4)) (b6 : (0 : Int) ≤ x1 ∧ x1 < (n4 : Int)) (p8 : tP τ q2 x1.toNat = some q7) (sh9 : tS τ q7 = (1, 15, 0)) (sh10 : tS τ s0 = (1, 12, 0)) (p12 : tP (uP τ s0 7 (tP τ q7 11)) r0 8 = some q11) (sh14 : tS τ q11 = (3, 7, n13)) (b15 : (0 : Int) ≤ x1 ∧ x1 < (n13 : Int)) (p17 : tP (uP τ s0 7 (tP τ q7 11)) q11 x1.toNat = some q16) (sh18 : tS τ q16 = (1, 15, 0)) (k1 : G (d - 1) 166 0 [vR r0] [] (uP (uP τ s0 7 (tP τ q7 11)) q16 11 r3) (KC d 214 134 137 [none, none, none, none, none] [] Q)) : G d 214 111 [vR r0, vI x1, none, vQ r3, none] [AR s0] τ Q := by
  refine g_sk 1 (pc1 := 112) (st1 := [AR r0, AR s0]) rfl ?_
  refine g_gQ rfl (ci := 21) (k := 8) rfl sh1 p3 ?_
  refine g_sk 1 (pc1 := 116) (st1 := [AI x1, AR q2, AR s0]) rfl ?_
  refine g_aalQ rfl sh5 (by decide) b6.1 b6.2 p8 ?_
  refine g_gP rfl (ci := 15) (k := 11) rfl sh9 ?_
  refine g_putP rfl (ci := 12) (k := 7) rfl sh10 ?_
  refine g_sk 1 (pc1 := 124) (st1 := [AR r0]) rfl ?_
  refine g_gQ rfl (ci := 21) (k := 8) rfl sh1 p12 ?_
  refine g_sk 1 (pc1 := 128) (st1 := [AI x1, AR q11]) rfl ?_
  refine g_aalQ rfl sh14 (by decide) b15.1 b15.2 p17 ?_
  refine g_sk 1 (pc1 := 130) (st1 := [AP r3, AR q16]) rfl ?_
  refine g_putP rfl (ci := 15) (k := 11) rfl sh18 ?_
  refine g_sk 1 (pc1 := 134) (st1 := [AR r0]) rfl ?_
  refine G_fg (lw2_f _ (lw2_f _ (lw2_k _ (lw2_f _ (lw2_k _ lw2_nil))))) ?_
  refine g_cv rfl rfl (by decide) rfl rfl (Nat.le_of_ble_eq_true rfl) (as2 := []) rfl sh1 rfl (by omega) (L0 := [vR r0]) rfl ?_
  exact k1

set_option maxRecDepth 8192 in
theorem t214_137 {d : Nat} {τ : T2} {Q : RS → T2 → Prop} {y0 : Int} (p1 : y0 = 0 ∨ y0 = 1) (k1 : Q (.inl (some (AI y0))) τ) : G d 214 137 [none, none, none, none, none] [AI y0] τ Q := by
  refine g_zret rfl rfl p1 ?_
  exact k1

set_option maxRecDepth 8192 in
theorem t215_0 {d : Nat} {τ : T2} {Q : RS → T2 → Prop} {x1 x2 x3 : Int} {r0 : Nat} (hd : 1 ≤ d) (sh1 : tS τ r0 = (1, 21, 0)) (k1 : G (d - 1) 207 0 [vR r0, vI x1] [] (uI τ r0 0 0) (KC d 215 7 10 [vR r0, vI x1, vI x2, vI x3, none] [] Q)) : G d 215 0 [vR r0, vI x1, vI x2, vI x3, none] [] τ Q := by
  refine g_sk 2 (pc1 := 2) (st1 := [AI 0, AR r0]) rfl ?_
  refine g_putI (x := 0) rfl (ci := 21) (k := 0) (kd := 0) rfl (by decide) rfl rfl sh1 ?_
  refine g_sk 2 (pc1 := 7) (st1 := [AI x1, AR r0]) rfl ?_
  refine g_cv rfl rfl (by decide) rfl rfl (Nat.le_of_ble_eq_true rfl) (as2 := [AI x1]) rfl sh1 rfl (by omega) (L0 := [vR r0, vI x1]) rfl ?_
  exact k1

set_option maxRecDepth 8192 in
theorem t215_10 {d : Nat} {τ : T2} {Q : RS → T2 → Prop} {x1 x2 x3 y0 : Int} {r0 : Nat} (hd : 1 ≤ d) (sh2 : tS τ r0 = (1, 21, 0)) (k1 : ¬ y0 = 0 → G (d - 1) 167 0 [vI x2, vI 0, vI 3] [] τ (KC d 215 22 25 [vR r0, vI x1, vI x2, vI x3, none] [] Q)) (k2 : y0 = 0 → G (d - 1) 164 0 [vR r0, vI 1] [] τ (KC d 215 15 18 [none, none, none, none, none] [] Q)) : G d 215 10 [vR r0, vI x1, vI x2, vI x3, none] [AI y0] τ Q := by
  refine g_br1 rfl (t := 19) rfl (fun c1 => ?_) (fun c1 => ?_)
  · have c1 : ¬ y0 = 0 := of_decide_eq_true c1
    refine g_sk 3 (pc1 := 22) (st1 := [AI 3, AI 0, AI x2]) rfl ?_
    refine g_cs rfl rfl (by decide) rfl rfl (Nat.le_of_ble_eq_true rfl) rfl (by omega) (L0 := [vI x2, vI 0, vI 3]) rfl ?_
    exact (k1 c1)
  · have c1 : y0 = 0 := Decidable.of_not_not (of_decide_eq_false c1)
    refine g_sk 2 (pc1 := 15) (st1 := [AI 1, AR r0]) rfl ?_
    refine G_fg (lw2_f _ (lw2_f _ (lw2_f _ (lw2_f _ (lw2_k _ lw2_nil))))) ?_
    refine g_cv rfl rfl (by decide) rfl rfl (Nat.le_of_ble_eq_true rfl) (as2 := [AI 1]) rfl sh2 rfl (by omega) (L0 := [vR r0, vI 1]) rfl ?_
    exact (k2 c1)

set_option maxRecDepth 8192 in
theorem t215_18 {d : Nat} {τ : T2} {Q : RS → T2 → Prop} {y0 : Int} (p1 : y0 = 0 ∨ y0 = 1) (k1 : Q (.inl (some (AI y0))) τ) : G d 215 18 [none, none, none, none, none] [AI y0] τ Q := by
  refine g_zret rfl rfl p1 ?_
  exact k1

set_option maxRecDepth 8192 in
theorem t215_25 {d : Nat} {τ : T2} {Q : RS → T2 → Prop} {x1 x2 x3 y0 : Int} {r0 : Nat} (hd : 1 ≤ d) (sh2 : tS τ r0 = (1, 21, 0)) (k1 : y0 = 0 → G (d - 1) 164 0 [vR r0, vI 2] [] τ (KC d 215 40 43 [none, none, none, none, none] [] Q)) (k2 : ¬ y0 = 0 → G (d - 1) 167 0 [vI x3, vI 0, vI 60] [] τ (KC d 215 32 35 [vR r0, vI x1, vI x2, vI x3, none] [] Q)) : G d 215 25 [vR r0, vI x1, vI x2, vI x3, none] [AI y0] τ Q := by
  refine g_br1 rfl (t := 38) rfl (fun c1 => ?_) (fun c1 => ?_)
  · have c1 : y0 = 0 := of_decide_eq_true c1
    refine g_sk 2 (pc1 := 40) (st1 := [AI 2, AR r0]) rfl ?_
    refine G_fg (lw2_f _ (lw2_f _ (lw2_f _ (lw2_f _ (lw2_k _ lw2_nil))))) ?_
    refine g_cv rfl rfl (by decide) rfl rfl (Nat.le_of_ble_eq_true rfl) (as2 := [AI 2]) rfl sh2 rfl (by omega) (L0 := [vR r0, vI 2]) rfl ?_
    exact (k1 c1)
  · have c1 : ¬ y0 = 0 := of_decide_eq_false c1
    refine g_sk 3 (pc1 := 32) (st1 := [AI 60, AI 0, AI x3]) rfl ?_
    refine g_cs rfl rfl (by decide) rfl rfl (Nat.le_of_ble_eq_true rfl) rfl (by omega) (L0 := [vI x3, vI 0, vI 60]) rfl ?_
    exact (k2 c1)

set_option maxRecDepth 8192 in
theorem t215_35 {d : Nat} {τ : T2} {Q : RS → T2 → Prop} {x1 x2 x3 y0 : Int} {r0 q3 n5 q8 : Nat} (hd : 1 ≤ d) (sh2 : tS τ r0 = (1, 21, 0)) (p4 : tP τ r0 8 = some q3) (sh6 : tS τ q3 = (3, 7, n5)) (b7 : ¬ y0 = 0 → (0 : Int) ≤ x1 ∧ x1 < (n5 : Int)) (p9 : ¬ y0 = 0 → tP τ q3 x1.toNat = some q8) (sh10 : tS τ q8 = (1, 15, 0)) (k1 : ¬ y0 = 0 → G (d - 1) 170 0 [vR r0, vI 4, vI x1, vI (tI τ q8 3), vI (tI τ q8 4), vI 0, none, none] [] τ (KC d 215 66 69 [vR r0, none, vI x2, vI x3, vR q8] [] Q)) (k2 : y0 = 0 → G (d - 1) 164 0 [vR r0, vI 2] [] τ (KC d 215 40 43 [none, none, none, none, none] [] Q)) : G d 215 35 [vR r0, vI x1, vI x2, vI x3, none] [AI y0] τ Q := by
  refine g_br1 rfl (t := 44) rfl (fun c1 => ?_) (fun c1 => ?_)
  · have c1 : ¬ y0 = 0 := of_decide_eq_true c1
    refine g_sk 1 (pc1 := 45) (st1 := [AR r0]) rfl ?_
    refine g_gQ rfl (ci := 21) (k := 8) rfl sh2 p4 ?_
    refine g_sk 1 (pc1 := 49) (st1 := [AI x1, AR q3]) rfl ?_
    refine g_aalQ rfl sh6 (by decide) (b7 c1).1 (b7 c1).2 (p9 c1) ?_
    refine g_sx 5 (pc1 := 57) (L1 := [vR r0, vI x1, vI x2, vI x3, vR q8]) (st1 := [AR q8, AI x1, AI 4, AR r0]) rfl ?_
    refine g_gI rfl (ci := 15) (k := 3) rfl sh10 ?_
    refine g_sk 1 (pc1 := 62) (st1 := [AR q8, AI (tI τ q8 3), AI x1, AI 4, AR r0]) rfl ?_
    refine g_gI rfl (ci := 15) (k := 4) rfl sh10 ?_
    refine g_sk 1 (pc1 := 66) (st1 := [AI 0, AI (tI τ q8 4), AI (tI τ q8 3), AI x1, AI 4, AR r0]) rfl ?_
    refine G_fg (lw2_k _ (lw2_f _ (lw2_k _ (lw2_k _ (lw2_k _ lw2_nil))))) ?_
    refine g_cv rfl rfl (by decide) rfl rfl (Nat.le_of_ble_eq_true rfl) (as2 := [AI 4, AI x1, AI (tI τ q8 3), AI (tI τ q8 4), AI 0]) rfl sh2 rfl (by omega) (L0 := [vR r0, vI 4, vI x1, vI (tI τ q8 3), vI (tI τ q8 4), vI 0, none, none]) rfl ?_
    exact (k1 c1)
  · have c1 : y0 = 0 := Decidable.of_not_not (of_decide_eq_false c1)
    refine g_sk 2 (pc1 := 40) (st1 := [AI 2, AR r0]) rfl ?_
    refine G_fg (lw2_f _ (lw2_f _ (lw2_f _ (lw2_f _ (lw2_k _ lw2_nil))))) ?_
    refine g_cv rfl rfl (by decide) rfl rfl (Nat.le_of_ble_eq_true rfl) (as2 := [AI 2]) rfl sh2 rfl (by omega) (L0 := [vR r0, vI 2]) rfl ?_
    exact (k2 c1)

set_option maxRecDepth 8192 in
theorem t215_43 {d : Nat} {τ : T2} {Q : RS → T2 → Prop} {y0 : Int} (p1 : y0 = 0 ∨ y0 = 1) (k1 : Q (.inl (some (AI y0))) τ) : G d 215 43 [none, none, none, none, none] [AI y0] τ Q := by
  refine g_zret rfl rfl p1 ?_
  exact k1

set_option maxRecDepth 8192 in
theorem t215_69 {d : Nat} {τ : T2} {Q : RS → T2 → Prop} {x2 x3 : Int} {r0 r4 : Nat} {s0 : Option Nat} (hd : 1 ≤ d) (sh1 : tS τ r4 = (1, 15, 0)) (sh2 : tS τ r0 = (1, 21, 0)) (k1 : G (d - 1) 166 0 [vR r0] [] (uI (uI τ r4 3 x2) r4 4 x3) (KC d 215 83 86 [none, none, none, none, none] [] Q)) : G d 215 69 [vR r0, none, vI x2, vI x3, vR r4] [AP s0] τ Q := by
  refine g_sk 3 (pc1 := 73) (st1 := [AI x2, AR r4]) rfl ?_
  refine g_putI (x := x2) rfl (ci := 15) (k := 3) (kd := 0) rfl (by decide) rfl rfl sh1 ?_
  refine g_sk 2 (pc1 := 79) (st1 := [AI x3, AR r4]) rfl ?_
  refine g_putI (x := x3) rfl (ci := 15) (k := 4) (kd := 0) rfl (by decide) rfl rfl sh1 ?_
  refine g_sk 1 (pc1 := 83) (st1 := [AR r0]) rfl ?_
  refine G_fg (lw2_f _ (lw2_k _ (lw2_f _ (lw2_f _ (lw2_f _ lw2_nil))))) ?_
  refine g_cv rfl rfl (by decide) rfl rfl (Nat.le_of_ble_eq_true rfl) (as2 := []) rfl sh2 rfl (by omega) (L0 := [vR r0]) rfl ?_
  exact k1

set_option maxRecDepth 8192 in
theorem t215_86 {d : Nat} {τ : T2} {Q : RS → T2 → Prop} {y0 : Int} (p1 : y0 = 0 ∨ y0 = 1) (k1 : Q (.inl (some (AI y0))) τ) : G d 215 86 [none, none, none, none, none] [AI y0] τ Q := by
  refine g_zret rfl rfl p1 ?_
  exact k1

set_option maxRecDepth 8192 in
theorem t216_0 {d : Nat} {τ : T2} {Q : RS → T2 → Prop} {x1 x2 x3 : Int} {r0 : Nat} (hd : 1 ≤ d) (sh1 : tS τ r0 = (1, 21, 0)) (k1 : G (d - 1) 207 0 [vR r0, vI x1] [] (uI τ r0 0 0) (KC d 216 7 10 [vR r0, vI x1, vI x2, vI x3, none] [] Q)) : G d 216 0 [vR r0, vI x1, vI x2, vI x3, none] [] τ Q := by
  refine g_sk 2 (pc1 := 2) (st1 := [AI 0, AR r0]) rfl ?_
  refine g_putI (x := 0) rfl (ci := 21) (k := 0) (kd := 0) rfl (by decide) rfl rfl sh1 ?_
  refine g_sk 2 (pc1 := 7) (st1 := [AI x1, AR r0]) rfl ?_
  refine g_cv rfl rfl (by decide) rfl rfl (Nat.le_of_ble_eq_true rfl) (as2 := [AI x1]) rfl sh1 rfl (by omega) (L0 := [vR r0, vI x1]) rfl ?_
  exact k1

set_option maxRecDepth 8192 in
theorem t216_10 {d : Nat} {τ : T2} {Q : RS → T2 → Prop} {x1 x2 x3 y0 : Int} {r0 : Nat} (hd : 1 ≤ d) (sh2 : tS τ r0 = (1, 21, 0)) (k1 : ¬ y0 = 0 → G (d - 1) 167 0 [vI x2, vI 0, vI 999] [] τ (KC d 216 24 27 [vR r0, vI x1, vI x2, vI x3, none] [] Q)) (k2 : y0 = 0 → G (d - 1) 163 0 [vR r0, vI 1] [] τ (KC d 216 15 18 [none, none, none, none, none] [] Q)) : G d 216 10 [vR r0, vI x1, vI x2, vI x3, none] [AI y0] τ Q := by
  refine g_br1 rfl (t := 19) rfl (fun c1 => ?_) (fun c1 => ?_)
  · have c1 : ¬ y0 = 0 := of_decide_eq_true c1
    refine g_sk 3 (pc1 := 24) (st1 := [AI 999, AI 0, AI x2]) rfl ?_
    refine g_cs rfl rfl (by decide) rfl rfl (Nat.le_of_ble_eq_true rfl) rfl (by omega) (L0 := [vI x2, vI 0, vI 999]) rfl ?_
    exact (k1 c1)
  · have c1 : y0 = 0 := Decidable.of_not_not (of_decide_eq_false c1)
    refine g_sk 2 (pc1 := 15) (st1 := [AI 1, AR r0]) rfl ?_
    refine G_fg (lw2_f _ (lw2_f _ (lw2_f _ (lw2_f _ (lw2_k _ lw2_nil))))) ?_
    refine g_cv rfl rfl (by decide) rfl rfl (Nat.le_of_ble_eq_true rfl) (as2 := [AI 1]) rfl sh2 rfl (by omega) (L0 := [vR r0, vI 1]) rfl ?_
    exact (k2 c1)

set_option maxRecDepth 8192 in
theorem t216_18 {d : Nat} {τ : T2} {Q : RS → T2 → Prop} {y0 : Int} (k1 : Q (.inl (some (AI y0))) τ) : G d 216 18 [none, none, none, none, none] [AI y0] τ Q := by
  refine g_iret rfl rfl ?_
  exact k1

set_option maxRecDepth 8192 in
theorem t216_27 {d : Nat} {τ : T2} {Q : RS → T2 → Prop} {x1 x2 x3 y0 : Int} {r0 : Nat} (hd : 1 ≤ d) (sh2 : tS τ r0 = (1, 21, 0)) (k1 : y0 = 0 → G (d - 1) 163 0 [vR r0, vI 2] [] τ (KC d 216 43 46 [none, none, none, none, none] [] Q)) (k2 : ¬ y0 = 0 → G (d - 1) 167 0 [vI x3, vI 0, vI 999] [] τ (KC d 216 35 38 [vR r0, vI x1, vI x2, vI x3, none] [] Q)) : G d 216 27 [vR r0, vI x1, vI x2, vI x3, none] [AI y0] τ Q := by
  refine g_br1 rfl (t := 41) rfl (fun c1 => ?_) (fun c1 => ?_)
  · have c1 : y0 = 0 := of_decide_eq_true c1
    refine g_sk 2 (pc1 := 43) (st1 := [AI 2, AR r0]) rfl ?_
    refine G_fg (lw2_f _ (lw2_f _ (lw2_f _ (lw2_f _ (lw2_k _ lw2_nil))))) ?_
    refine g_cv rfl rfl (by decide) rfl rfl (Nat.le_of_ble_eq_true rfl) (as2 := [AI 2]) rfl sh2 rfl (by omega) (L0 := [vR r0, vI 2]) rfl ?_
    exact (k1 c1)
  · have c1 : ¬ y0 = 0 := of_decide_eq_false c1
    refine g_sk 3 (pc1 := 35) (st1 := [AI 999, AI 0, AI x3]) rfl ?_
    refine g_cs rfl rfl (by decide) rfl rfl (Nat.le_of_ble_eq_true rfl) rfl (by omega) (L0 := [vI x3, vI 0, vI 999]) rfl ?_
    exact (k2 c1)

set_option maxRecDepth 8192 in
theorem t216_38 {d : Nat} {τ : T2} {Q : RS → T2 → Prop} {x1 x2 x3 y0 : Int} {r0 q3 n5 q8 q12 n14 q17 n19 : Nat} (hd : 1 ≤ d) (sh2 : tS τ r0 = (1, 21, 0)) (p4 : tP τ r0 8 = some q3) (sh6 : tS τ q3 = (3, 7, n5)) (b7 : ¬ y0 = 0 → (0 : Int) ≤ x1 ∧ x1 < (n5 : Int)) (p9 : ¬ y0 = 0 → tP τ q3 x1.toNat = some q8) (sh10 : tS τ q8 = (1, 15, 0)) (p13 : tP τ q8 7 = some q12) (sh15 : tS τ q12 = (2, 0, n14)) (b16 : ¬ y0 = 0 → ¬ (tI τ q8 5) = 3 → (0 : Int) ≤ (tI τ q8 5) ∧ (tI τ q8 5) < (n14 : Int)) (p18 : tP τ q8 8 = some q17) (sh20 : tS τ q17 = (2, 0, n19)) (b21 : ¬ y0 = 0 → ¬ (tI τ q8 5) = 3 → (0 : Int) ≤ (tI (uI τ q12 (tI τ q8 5).toNat x2) q8 5) ∧ (tI (uI τ q12 (tI τ q8 5).toNat x2) q8 5) < (n19 : Int)) (k1 : ¬ y0 = 0 → ¬ (tI τ q8 5) = 3 → G (d - 1) 170 0 [vR r0, vI 5, vI x1, vI 0, vI 0, vI 0, none, none] [] (uI (uI τ q12 (tI τ q8 5).toNat x2) q17 (tI (uI τ q12 (tI τ q8 5).toNat x2) q8 5).toNat x3) (KC d 216 100 103 [vR r0, none, none, none, vR q8] [] Q)) (k2 : ¬ y0 = 0 → (tI τ q8 5) = 3 → G (d - 1) 163 0 [vR r0, vI 3] [] τ (KC d 216 66 69 [none, none, none, none, none] [] Q)) (k3 : y0 = 0 → G (d - 1) 163 0 [vR r0, vI 2] [] τ (KC d 216 43 46 [none, none, none, none, none] [] Q)) : G d 216 38 [vR r0, vI x1, vI x2, vI x3, none] [AI y0] τ Q := by
  refine g_br1 rfl (t := 47) rfl (fun c1 => ?_) (fun c1 => ?_)
  · have c1 : ¬ y0 = 0 := of_decide_eq_true c1
    refine g_sk 1 (pc1 := 48) (st1 := [AR r0]) rfl ?_
    refine g_gQ rfl (ci := 21) (k := 8) rfl sh2 p4 ?_
    refine g_sk 1 (pc1 := 52) (st1 := [AI x1, AR q3]) rfl ?_
    refine g_aalQ rfl sh6 (by decide) (b7 c1).1 (b7 c1).2 (p9 c1) ?_
    refine g_sx 2 (pc1 := 57) (L1 := [vR r0, vI x1, vI x2, vI x3, vR q8]) (st1 := [AR q8]) rfl ?_
    refine g_gI rfl (ci := 15) (k := 5) rfl sh10 ?_
    refine g_sk 1 (pc1 := 61) (st1 := [AI 3, AI (tI τ q8 5)]) rfl ?_
    refine g_br2 rfl (t := 70) rfl (fun c11 => ?_) (fun c11 => ?_)
    · have c11 : ¬ (tI τ q8 5) = 3 := of_decide_eq_true c11
      refine g_sk 1 (pc1 := 72) (st1 := [AR q8]) rfl ?_
      refine g_gQ rfl (ci := 15) (k := 7) rfl sh10 p13 ?_
      refine g_sk 1 (pc1 := 77) (st1 := [AR q8, AR q12]) rfl ?_
      refine g_gI rfl (ci := 15) (k := 5) rfl sh10 ?_
      refine g_sk 1 (pc1 := 81) (st1 := [AI x2, AI (tI τ q8 5), AR q12]) rfl ?_
      refine g_iast rfl sh15 (b16 c1 c11).1 (b16 c1 c11).2 ?_
      refine g_sk 1 (pc1 := 84) (st1 := [AR q8]) rfl ?_
      refine g_gQ rfl (ci := 15) (k := 8) rfl sh10 p18 ?_
      refine g_sk 1 (pc1 := 89) (st1 := [AR q8, AR q17]) rfl ?_
      refine g_gI rfl (ci := 15) (k := 5) rfl sh10 ?_
      refine g_sk 1 (pc1 := 93) (st1 := [AI x3, AI (tI (uI τ q12 (tI τ q8 5).toNat x2) q8 5), AR q17]) rfl ?_
      refine g_iast rfl sh20 (b21 c1 c11).1 (b21 c1 c11).2 ?_
      refine g_sk 6 (pc1 := 100) (st1 := [AI 0, AI 0, AI 0, AI x1, AI 5, AR r0]) rfl ?_
      refine G_fg (lw2_k _ (lw2_f _ (lw2_f _ (lw2_f _ (lw2_k _ lw2_nil))))) ?_
      refine g_cv rfl rfl (by decide) rfl rfl (Nat.le_of_ble_eq_true rfl) (as2 := [AI 5, AI x1, AI 0, AI 0, AI 0]) rfl sh2 rfl (by omega) (L0 := [vR r0, vI 5, vI x1, vI 0, vI 0, vI 0, none, none]) rfl ?_
      exact (k1 c1 c11)
    · have c11 : (tI τ q8 5) = 3 := Decidable.of_not_not (of_decide_eq_false c11)
      refine g_sk 2 (pc1 := 66) (st1 := [AI 3, AR r0]) rfl ?_
      refine G_fg (lw2_f _ (lw2_f _ (lw2_f _ (lw2_f _ (lw2_f _ lw2_nil))))) ?_
      refine g_cv rfl rfl (by decide) rfl rfl (Nat.le_of_ble_eq_true rfl) (as2 := [AI 3]) rfl sh2 rfl (by omega) (L0 := [vR r0, vI 3]) rfl ?_
      exact (k2 c1 c11)
  · have c1 : y0 = 0 := Decidable.of_not_not (of_decide_eq_false c1)
    refine g_sk 2 (pc1 := 43) (st1 := [AI 2, AR r0]) rfl ?_
    refine G_fg (lw2_f _ (lw2_f _ (lw2_f _ (lw2_f _ (lw2_k _ lw2_nil))))) ?_
    refine g_cv rfl rfl (by decide) rfl rfl (Nat.le_of_ble_eq_true rfl) (as2 := [AI 2]) rfl sh2 rfl (by omega) (L0 := [vR r0, vI 2]) rfl ?_
    exact (k3 c1)

set_option maxRecDepth 8192 in
theorem t216_46 {d : Nat} {τ : T2} {Q : RS → T2 → Prop} {y0 : Int} (k1 : Q (.inl (some (AI y0))) τ) : G d 216 46 [none, none, none, none, none] [AI y0] τ Q := by
  refine g_iret rfl rfl ?_
  exact k1

set_option maxRecDepth 8192 in
theorem t216_69 {d : Nat} {τ : T2} {Q : RS → T2 → Prop} {y0 : Int} (k1 : Q (.inl (some (AI y0))) τ) : G d 216 69 [none, none, none, none, none] [AI y0] τ Q := by
  refine g_iret rfl rfl ?_
  exact k1

set_option maxRecDepth 8192 in
theorem t216_103 {d : Nat} {τ : T2} {Q : RS → T2 → Prop} {r0 r4 : Nat} {s0 : Option Nat} (hd : 1 ≤ d) (sh1 : tS τ r4 = (1, 15, 0)) (sh2 : tS τ r0 = (1, 21, 0)) (k1 : G (d - 1) 165 0 [vR r0, vI (tI (uI τ r4 5 (wr ((tI τ r4 5) + 1))) r4 5)] [] (uI τ r4 5 (wr ((tI τ r4 5) + 1))) (KC d 216 121 124 [none, none, none, none, none] [] Q)) : G d 216 103 [vR r0, none, none, none, vR r4] [AP s0] τ Q := by
  refine g_sk 3 (pc1 := 107) (st1 := [AR r4, AR r4]) rfl ?_
  refine g_gI rfl (ci := 15) (k := 5) rfl sh1 ?_
  refine g_sk 2 (pc1 := 112) (st1 := [AI (wr ((tI τ r4 5) + 1)), AR r4]) rfl ?_
  refine g_putI (x := (wr ((tI τ r4 5) + 1))) rfl (ci := 15) (k := 5) (kd := 0) rfl (by decide) rfl rfl sh1 ?_
  refine g_sk 2 (pc1 := 118) (st1 := [AR r4, AR r0]) rfl ?_
  refine g_gI rfl (ci := 15) (k := 5) rfl sh1 ?_
  refine G_fg (lw2_f _ (lw2_k _ (lw2_k _ (lw2_k _ (lw2_f _ lw2_nil))))) ?_
  refine g_cv rfl rfl (by decide) rfl rfl (Nat.le_of_ble_eq_true rfl) (as2 := [AI (tI (uI τ r4 5 (wr ((tI τ r4 5) + 1))) r4 5)]) rfl sh2 rfl (by omega) (L0 := [vR r0, vI (tI (uI τ r4 5 (wr ((tI τ r4 5) + 1))) r4 5)]) rfl ?_
  exact k1

set_option maxRecDepth 8192 in
theorem t216_124 {d : Nat} {τ : T2} {Q : RS → T2 → Prop} {y0 : Int} (k1 : Q (.inl (some (AI y0))) τ) : G d 216 124 [none, none, none, none, none] [AI y0] τ Q := by
  refine g_iret rfl rfl ?_
  exact k1

set_option maxRecDepth 8192 in
theorem t217_0 {d : Nat} {τ : T2} {Q : RS → T2 → Prop} {r0 : Nat} (sh1 : tS τ r0 = (1, 21, 0)) (k1 : Q (.inl (some (AI (tI (uI τ r0 0 0) r0 3)))) (uI τ r0 0 0)) : G d 217 0 [vR r0] [] τ Q := by
  refine g_sk 2 (pc1 := 2) (st1 := [AI 0, AR r0]) rfl ?_
  refine g_putI (x := 0) rfl (ci := 21) (k := 0) (kd := 0) rfl (by decide) rfl rfl sh1 ?_
  refine g_sk 1 (pc1 := 6) (st1 := [AR r0]) rfl ?_
  refine g_gI rfl (ci := 21) (k := 3) rfl sh1 ?_
  refine g_iret rfl rfl ?_
  exact k1

set_option maxRecDepth 8192 in
theorem t218_0 {d : Nat} {τ : T2} {Q : RS → T2 → Prop} {r0 : Nat} (sh1 : tS τ r0 = (1, 21, 0)) (k1 : Q (.inl (some (AI (tI (uI τ r0 0 0) r0 2)))) (uI τ r0 0 0)) : G d 218 0 [vR r0] [] τ Q := by
  refine g_sk 2 (pc1 := 2) (st1 := [AI 0, AR r0]) rfl ?_
  refine g_putI (x := 0) rfl (ci := 21) (k := 0) (kd := 0) rfl (by decide) rfl rfl sh1 ?_
  refine g_sk 1 (pc1 := 6) (st1 := [AR r0]) rfl ?_
  refine g_gI rfl (ci := 21) (k := 2) rfl sh1 ?_
  refine g_iret rfl rfl ?_
  exact k1

set_option maxRecDepth 8192 in
theorem t219_0 {d : Nat} {τ : T2} {Q : RS → T2 → Prop} {x1 x2 : Int} {r0 : Nat} (hd : 1 ≤ d) (sh1 : tS τ r0 = (1, 21, 0)) (k1 : G (d - 1) 207 0 [vR r0, vI x1] [] (uI τ r0 0 0) (KC d 219 7 10 [vR r0, vI x1, vI x2, none] [] Q)) : G d 219 0 [vR r0, vI x1, vI x2, none] [] τ Q := by
  refine g_sk 2 (pc1 := 2) (st1 := [AI 0, AR r0]) rfl ?_
  refine g_putI (x := 0) rfl (ci := 21) (k := 0) (kd := 0) rfl (by decide) rfl rfl sh1 ?_
  refine g_sk 2 (pc1 := 7) (st1 := [AI x1, AR r0]) rfl ?_
  refine g_cv rfl rfl (by decide) rfl rfl (Nat.le_of_ble_eq_true rfl) (as2 := [AI x1]) rfl sh1 rfl (by omega) (L0 := [vR r0, vI x1]) rfl ?_
  exact k1

set_option maxRecDepth 8192 in
theorem t219_10 {d : Nat} {τ : T2} {Q : RS → T2 → Prop} {x1 x2 y0 : Int} {r0 q3 n5 : Nat} (sh2 : tS τ r0 = (1, 21, 0)) (p4 : tP τ r0 8 = some q3) (sh6 : tS τ q3 = (3, 7, n5)) (b7 : ¬ y0 = 0 → (0 : Int) ≤ x1 ∧ x1 < (n5 : Int)) (k1 : ¬ y0 = 0 → G d 219 23 [none, none, none, vQ (tP τ q3 x1.toNat)] [AI x2] τ Q) (k2 : y0 = 0 → Q (.inl (some (AI (-1)))) τ) : G d 219 10 [vR r0, vI x1, vI x2, none] [AI y0] τ Q := by
  refine g_br1 rfl (t := 15) rfl (fun c1 => ?_) (fun c1 => ?_)
  · have c1 : ¬ y0 = 0 := of_decide_eq_true c1
    refine g_sk 1 (pc1 := 16) (st1 := [AR r0]) rfl ?_
    refine g_gQ rfl (ci := 21) (k := 8) rfl sh2 p4 ?_
    refine g_sk 1 (pc1 := 20) (st1 := [AI x1, AR q3]) rfl ?_
    refine g_aald rfl sh6 (by decide) (b7 c1).1 (b7 c1).2 ?_
    refine g_sx 2 (pc1 := 23) (L1 := [vR r0, vI x1, vI x2, vQ (tP τ q3 x1.toNat)]) (st1 := [AI x2]) rfl ?_
    exact G_fg (lw2_f _ (lw2_f _ (lw2_f _ (lw2_k _ lw2_nil)))) (k1 c1)
  · have c1 : y0 = 0 := Decidable.of_not_not (of_decide_eq_false c1)
    refine g_sk 1 (pc1 := 14) (st1 := [AI (-1)]) rfl ?_
    refine g_iret rfl rfl ?_
    exact (k2 c1)

set_option maxRecDepth 8192 in
theorem t219_109 {d : Nat} {τ : T2} {Q : RS → T2 → Prop}  (k1 : Q (.inl (some (AI 0))) τ) : G d 219 109 [none, none, none, none] [] τ Q := by
  refine g_sk 2 (pc1 := 114) (st1 := [AI 0]) rfl ?_
  refine g_iret rfl rfl ?_
  exact k1

set_option maxRecDepth 8192 in
theorem t219_113 {d : Nat} {τ : T2} {Q : RS → T2 → Prop}  (k1 : Q (.inl (some (AI 1))) τ) : G d 219 113 [none, none, none, none] [] τ Q := by
  refine g_sk 1 (pc1 := 114) (st1 := [AI 1]) rfl ?_
  refine g_iret rfl rfl ?_
  exact k1

set_option maxRecDepth 8192 in
theorem t219_122 {d : Nat} {τ : T2} {Q : RS → T2 → Prop}  (k1 : Q (.inl (some (AI 0))) τ) : G d 219 122 [none, none, none, none] [] τ Q := by
  refine g_sk 2 (pc1 := 127) (st1 := [AI 0]) rfl ?_
  refine g_iret rfl rfl ?_
  exact k1

set_option maxRecDepth 8192 in
theorem t219_126 {d : Nat} {τ : T2} {Q : RS → T2 → Prop}  (k1 : Q (.inl (some (AI 1))) τ) : G d 219 126 [none, none, none, none] [] τ Q := by
  refine g_sk 1 (pc1 := 127) (st1 := [AI 1]) rfl ?_
  refine g_iret rfl rfl ?_
  exact k1

set_option maxRecDepth 8192 in
theorem t219_135 {d : Nat} {τ : T2} {Q : RS → T2 → Prop}  (k1 : Q (.inl (some (AI 0))) τ) : G d 219 135 [none, none, none, none] [] τ Q := by
  refine g_sk 2 (pc1 := 140) (st1 := [AI 0]) rfl ?_
  refine g_iret rfl rfl ?_
  exact k1

set_option maxRecDepth 8192 in
theorem t219_139 {d : Nat} {τ : T2} {Q : RS → T2 → Prop}  (k1 : Q (.inl (some (AI 1))) τ) : G d 219 139 [none, none, none, none] [] τ Q := by
  refine g_sk 1 (pc1 := 140) (st1 := [AI 1]) rfl ?_
  refine g_iret rfl rfl ?_
  exact k1

set_option maxRecDepth 8192 in
theorem t220_0 {d : Nat} {τ : T2} {Q : RS → T2 → Prop} {x1 x2 : Int} {r0 : Nat} (hd : 1 ≤ d) (sh1 : tS τ r0 = (1, 21, 0)) (k1 : G (d - 1) 207 0 [vR r0, vI x1] [] (uI τ r0 0 0) (KC d 220 7 10 [vR r0, vI x1, vI x2] [] Q)) : G d 220 0 [vR r0, vI x1, vI x2] [] τ Q := by
  refine g_sk 2 (pc1 := 2) (st1 := [AI 0, AR r0]) rfl ?_
  refine g_putI (x := 0) rfl (ci := 21) (k := 0) (kd := 0) rfl (by decide) rfl rfl sh1 ?_
  refine g_sk 2 (pc1 := 7) (st1 := [AI x1, AR r0]) rfl ?_
  refine g_cv rfl rfl (by decide) rfl rfl (Nat.le_of_ble_eq_true rfl) (as2 := [AI x1]) rfl sh1 rfl (by omega) (L0 := [vR r0, vI x1]) rfl ?_
  exact k1

set_option maxRecDepth 8192 in
theorem t220_10 {d : Nat} {τ : T2} {Q : RS → T2 → Prop} {x1 x2 y0 : Int} {r0 : Nat} (hd : 1 ≤ d) (sh2 : tS τ r0 = (1, 21, 0)) (k1 : ¬ y0 = 0 → G (d - 1) 206 0 [vR r0, vI x2] [] τ (KC d 220 21 24 [vR r0, vI x1, vI x2] [] Q)) (k2 : y0 = 0 → G (d - 1) 163 0 [vR r0, vI 1] [] τ (KC d 220 15 18 [none, none, none] [] Q)) : G d 220 10 [vR r0, vI x1, vI x2] [AI y0] τ Q := by
  refine g_br1 rfl (t := 19) rfl (fun c1 => ?_) (fun c1 => ?_)
  · have c1 : ¬ y0 = 0 := of_decide_eq_true c1
    refine g_sk 2 (pc1 := 21) (st1 := [AI x2, AR r0]) rfl ?_
    refine g_cv rfl rfl (by decide) rfl rfl (Nat.le_of_ble_eq_true rfl) (as2 := [AI x2]) rfl sh2 rfl (by omega) (L0 := [vR r0, vI x2]) rfl ?_
    exact (k1 c1)
  · have c1 : y0 = 0 := Decidable.of_not_not (of_decide_eq_false c1)
    refine g_sk 2 (pc1 := 15) (st1 := [AI 1, AR r0]) rfl ?_
    refine G_fg (lw2_f _ (lw2_f _ (lw2_f _ lw2_nil))) ?_
    refine g_cv rfl rfl (by decide) rfl rfl (Nat.le_of_ble_eq_true rfl) (as2 := [AI 1]) rfl sh2 rfl (by omega) (L0 := [vR r0, vI 1]) rfl ?_
    exact (k2 c1)

set_option maxRecDepth 8192 in
theorem t220_18 {d : Nat} {τ : T2} {Q : RS → T2 → Prop} {y0 : Int} (k1 : Q (.inl (some (AI y0))) τ) : G d 220 18 [none, none, none] [AI y0] τ Q := by
  refine g_iret rfl rfl ?_
  exact k1

set_option maxRecDepth 8192 in
theorem t220_24 {d : Nat} {τ : T2} {Q : RS → T2 → Prop} {x1 x2 y0 : Int} {r0 : Nat} (hd : 1 ≤ d) (sh2 : tS τ r0 = (1, 21, 0)) (k1 : ¬ y0 = 0 → G (d - 1) 198 0 [vR r0, vI x2, none, none] [] τ (KC d 220 35 38 [vR r0, vI x1, none] [] Q)) (k2 : y0 = 0 → G (d - 1) 163 0 [vR r0, vI 2] [] τ (KC d 220 29 32 [none, none, none] [] Q)) : G d 220 24 [vR r0, vI x1, vI x2] [AI y0] τ Q := by
  refine g_br1 rfl (t := 33) rfl (fun c1 => ?_) (fun c1 => ?_)
  · have c1 : ¬ y0 = 0 := of_decide_eq_true c1
    refine g_sk 2 (pc1 := 35) (st1 := [AI x2, AR r0]) rfl ?_
    refine G_fg (lw2_k _ (lw2_k _ (lw2_f _ lw2_nil))) ?_
    refine g_cv rfl rfl (by decide) rfl rfl (Nat.le_of_ble_eq_true rfl) (as2 := [AI x2]) rfl sh2 rfl (by omega) (L0 := [vR r0, vI x2, none, none]) rfl ?_
    exact (k1 c1)
  · have c1 : y0 = 0 := Decidable.of_not_not (of_decide_eq_false c1)
    refine g_sk 2 (pc1 := 29) (st1 := [AI 2, AR r0]) rfl ?_
    refine G_fg (lw2_f _ (lw2_f _ (lw2_f _ lw2_nil))) ?_
    refine g_cv rfl rfl (by decide) rfl rfl (Nat.le_of_ble_eq_true rfl) (as2 := [AI 2]) rfl sh2 rfl (by omega) (L0 := [vR r0, vI 2]) rfl ?_
    exact (k2 c1)

set_option maxRecDepth 8192 in
theorem t220_32 {d : Nat} {τ : T2} {Q : RS → T2 → Prop} {y0 : Int} (k1 : Q (.inl (some (AI y0))) τ) : G d 220 32 [none, none, none] [AI y0] τ Q := by
  refine g_iret rfl rfl ?_
  exact k1

set_option maxRecDepth 8192 in
theorem t220_38 {d : Nat} {τ : T2} {Q : RS → T2 → Prop} {x1 : Int} {r0 q2 n4 : Nat} (hd : 1 ≤ d) (sh1 : tS τ r0 = (1, 21, 0)) (p3 : tP τ r0 8 = some q2) (sh5 : tS τ q2 = (3, 7, n4)) (b6 : (0 : Int) ≤ x1 ∧ x1 < (n4 : Int)) (k1 : G (d - 1) 200 0 [vR r0, vQ (tP τ q2 x1.toNat)] [] τ (KC d 220 46 49 [none, none, none] [AR r0] Q)) : G d 220 38 [vR r0, vI x1, none] [] τ Q := by
  refine g_sk 3 (pc1 := 41) (st1 := [AR r0, AR r0, AR r0]) rfl ?_
  refine g_gQ rfl (ci := 21) (k := 8) rfl sh1 p3 ?_
  refine g_sk 1 (pc1 := 45) (st1 := [AI x1, AR q2, AR r0, AR r0]) rfl ?_
  refine g_aald rfl sh5 (by decide) b6.1 b6.2 ?_
  refine G_fg (lw2_f _ (lw2_f _ (lw2_k _ lw2_nil))) ?_
  refine g_cv rfl rfl (by decide) rfl rfl (Nat.le_of_ble_eq_true rfl) (as2 := [AP (tP τ q2 x1.toNat)]) rfl sh1 rfl (by omega) (L0 := [vR r0, vQ (tP τ q2 x1.toNat)]) rfl ?_
  exact k1

set_option maxRecDepth 8192 in
theorem t220_49 {d : Nat} {τ : T2} {Q : RS → T2 → Prop} {y0 : Int} {s1 : Nat} (hd : 1 ≤ d) (sh1 : tS τ s1 = (1, 21, 0)) (k1 : G (d - 1) 165 0 [vR s1, vI y0] [] τ (KC d 220 49 52 [none, none, none] [] Q)) : G d 220 49 [none, none, none] [AI y0, AR s1] τ Q := by
  refine g_cv rfl rfl (by decide) rfl rfl (Nat.le_of_ble_eq_true rfl) (as2 := [AI y0]) rfl sh1 rfl (by omega) (L0 := [vR s1, vI y0]) rfl ?_
  exact k1

set_option maxRecDepth 8192 in
theorem t220_52 {d : Nat} {τ : T2} {Q : RS → T2 → Prop} {y0 : Int} (k1 : Q (.inl (some (AI y0))) τ) : G d 220 52 [none, none, none] [AI y0] τ Q := by
  refine g_iret rfl rfl ?_
  exact k1

set_option maxRecDepth 8192 in
theorem t221_0 {d : Nat} {τ : T2} {Q : RS → T2 → Prop} {x1 x2 : Int} {r0 : Nat} (hd : 1 ≤ d) (sh1 : tS τ r0 = (1, 21, 0)) (k1 : G (d - 1) 207 0 [vR r0, vI x1] [] (uI τ r0 0 0) (KC d 221 7 10 [vR r0, vI x1, vI x2] [] Q)) : G d 221 0 [vR r0, vI x1, vI x2] [] τ Q := by
  refine g_sk 2 (pc1 := 2) (st1 := [AI 0, AR r0]) rfl ?_
  refine g_putI (x := 0) rfl (ci := 21) (k := 0) (kd := 0) rfl (by decide) rfl rfl sh1 ?_
  refine g_sk 2 (pc1 := 7) (st1 := [AI x1, AR r0]) rfl ?_
  refine g_cv rfl rfl (by decide) rfl rfl (Nat.le_of_ble_eq_true rfl) (as2 := [AI x1]) rfl sh1 rfl (by omega) (L0 := [vR r0, vI x1]) rfl ?_
  exact k1

set_option maxRecDepth 8192 in
theorem t221_10 {d : Nat} {τ : T2} {Q : RS → T2 → Prop} {x1 x2 y0 : Int} {r0 : Nat} (hd : 1 ≤ d) (sh2 : tS τ r0 = (1, 21, 0)) (k1 : ¬ y0 = 0 → G (d - 1) 206 0 [vR r0, vI x2] [] τ (KC d 221 21 24 [vR r0, vI x1, vI x2] [] Q)) (k2 : y0 = 0 → G (d - 1) 163 0 [vR r0, vI 1] [] τ (KC d 221 15 18 [none, none, none] [] Q)) : G d 221 10 [vR r0, vI x1, vI x2] [AI y0] τ Q := by
  refine g_br1 rfl (t := 19) rfl (fun c1 => ?_) (fun c1 => ?_)
  · have c1 : ¬ y0 = 0 := of_decide_eq_true c1
    refine g_sk 2 (pc1 := 21) (st1 := [AI x2, AR r0]) rfl ?_
    refine g_cv rfl rfl (by decide) rfl rfl (Nat.le_of_ble_eq_true rfl) (as2 := [AI x2]) rfl sh2 rfl (by omega) (L0 := [vR r0, vI x2]) rfl ?_
    exact (k1 c1)
  · have c1 : y0 = 0 := Decidable.of_not_not (of_decide_eq_false c1)
    refine g_sk 2 (pc1 := 15) (st1 := [AI 1, AR r0]) rfl ?_
    refine G_fg (lw2_f _ (lw2_f _ (lw2_f _ lw2_nil))) ?_
    refine g_cv rfl rfl (by decide) rfl rfl (Nat.le_of_ble_eq_true rfl) (as2 := [AI 1]) rfl sh2 rfl (by omega) (L0 := [vR r0, vI 1]) rfl ?_
    exact (k2 c1)

set_option maxRecDepth 8192 in
theorem t221_18 {d : Nat} {τ : T2} {Q : RS → T2 → Prop} {y0 : Int} (k1 : Q (.inl (some (AI y0))) τ) : G d 221 18 [none, none, none] [AI y0] τ Q := by
  refine g_iret rfl rfl ?_
  exact k1

set_option maxRecDepth 8192 in
theorem t221_24 {d : Nat} {τ : T2} {Q : RS → T2 → Prop} {x1 x2 y0 : Int} {r0 : Nat} (hd : 1 ≤ d) (sh2 : tS τ r0 = (1, 21, 0)) (k1 : ¬ y0 = 0 → G (d - 1) 198 0 [vR r0, vI x2, none, none] [] τ (KC d 221 35 38 [vR r0, vI x1, none] [] Q)) (k2 : y0 = 0 → G (d - 1) 163 0 [vR r0, vI 2] [] τ (KC d 221 29 32 [none, none, none] [] Q)) : G d 221 24 [vR r0, vI x1, vI x2] [AI y0] τ Q := by
  refine g_br1 rfl (t := 33) rfl (fun c1 => ?_) (fun c1 => ?_)
  · have c1 : ¬ y0 = 0 := of_decide_eq_true c1
    refine g_sk 2 (pc1 := 35) (st1 := [AI x2, AR r0]) rfl ?_
    refine G_fg (lw2_k _ (lw2_k _ (lw2_f _ lw2_nil))) ?_
    refine g_cv rfl rfl (by decide) rfl rfl (Nat.le_of_ble_eq_true rfl) (as2 := [AI x2]) rfl sh2 rfl (by omega) (L0 := [vR r0, vI x2, none, none]) rfl ?_
    exact (k1 c1)
  · have c1 : y0 = 0 := Decidable.of_not_not (of_decide_eq_false c1)
    refine g_sk 2 (pc1 := 29) (st1 := [AI 2, AR r0]) rfl ?_
    refine G_fg (lw2_f _ (lw2_f _ (lw2_f _ lw2_nil))) ?_
    refine g_cv rfl rfl (by decide) rfl rfl (Nat.le_of_ble_eq_true rfl) (as2 := [AI 2]) rfl sh2 rfl (by omega) (L0 := [vR r0, vI 2]) rfl ?_
    exact (k2 c1)

set_option maxRecDepth 8192 in
theorem t221_32 {d : Nat} {τ : T2} {Q : RS → T2 → Prop} {y0 : Int} (k1 : Q (.inl (some (AI y0))) τ) : G d 221 32 [none, none, none] [AI y0] τ Q := by
  refine g_iret rfl rfl ?_
  exact k1

set_option maxRecDepth 8192 in
theorem t221_38 {d : Nat} {τ : T2} {Q : RS → T2 → Prop} {x1 : Int} {r0 q2 n4 : Nat} (hd : 1 ≤ d) (sh1 : tS τ r0 = (1, 21, 0)) (p3 : tP τ r0 8 = some q2) (sh5 : tS τ q2 = (3, 7, n4)) (b6 : (0 : Int) ≤ x1 ∧ x1 < (n4 : Int)) (k1 : G (d - 1) 199 0 [vR r0, vQ (tP τ q2 x1.toNat), none, none, none] [] τ (KC d 221 46 49 [none, none, none] [AR r0] Q)) : G d 221 38 [vR r0, vI x1, none] [] τ Q := by
  refine g_sk 3 (pc1 := 41) (st1 := [AR r0, AR r0, AR r0]) rfl ?_
  refine g_gQ rfl (ci := 21) (k := 8) rfl sh1 p3 ?_
  refine g_sk 1 (pc1 := 45) (st1 := [AI x1, AR q2, AR r0, AR r0]) rfl ?_
  refine g_aald rfl sh5 (by decide) b6.1 b6.2 ?_
  refine G_fg (lw2_f _ (lw2_f _ (lw2_k _ lw2_nil))) ?_
  refine g_cv rfl rfl (by decide) rfl rfl (Nat.le_of_ble_eq_true rfl) (as2 := [AP (tP τ q2 x1.toNat)]) rfl sh1 rfl (by omega) (L0 := [vR r0, vQ (tP τ q2 x1.toNat), none, none, none]) rfl ?_
  exact k1

set_option maxRecDepth 8192 in
theorem t221_49 {d : Nat} {τ : T2} {Q : RS → T2 → Prop} {y0 : Int} {s1 : Nat} (hd : 1 ≤ d) (sh1 : tS τ s1 = (1, 21, 0)) (k1 : G (d - 1) 165 0 [vR s1, vI y0] [] τ (KC d 221 49 52 [none, none, none] [] Q)) : G d 221 49 [none, none, none] [AI y0, AR s1] τ Q := by
  refine g_cv rfl rfl (by decide) rfl rfl (Nat.le_of_ble_eq_true rfl) (as2 := [AI y0]) rfl sh1 rfl (by omega) (L0 := [vR s1, vI y0]) rfl ?_
  exact k1

set_option maxRecDepth 8192 in
theorem t221_52 {d : Nat} {τ : T2} {Q : RS → T2 → Prop} {y0 : Int} (k1 : Q (.inl (some (AI y0))) τ) : G d 221 52 [none, none, none] [AI y0] τ Q := by
  refine g_iret rfl rfl ?_
  exact k1

set_option maxRecDepth 8192 in
theorem t222_0 {d : Nat} {τ : T2} {Q : RS → T2 → Prop} {x1 x2 : Int} {r0 : Nat} (hd : 1 ≤ d) (sh1 : tS τ r0 = (1, 21, 0)) (k1 : G (d - 1) 207 0 [vR r0, vI x1] [] (uI τ r0 0 0) (KC d 222 7 10 [vR r0, vI x1, vI x2, none, none] [] Q)) : G d 222 0 [vR r0, vI x1, vI x2, none, none] [] τ Q := by
  refine g_sk 2 (pc1 := 2) (st1 := [AI 0, AR r0]) rfl ?_
  refine g_putI (x := 0) rfl (ci := 21) (k := 0) (kd := 0) rfl (by decide) rfl rfl sh1 ?_
  refine g_sk 2 (pc1 := 7) (st1 := [AI x1, AR r0]) rfl ?_
  refine g_cv rfl rfl (by decide) rfl rfl (Nat.le_of_ble_eq_true rfl) (as2 := [AI x1]) rfl sh1 rfl (by omega) (L0 := [vR r0, vI x1]) rfl ?_
  exact k1

set_option maxRecDepth 8192 in
theorem t222_10 {d : Nat} {τ : T2} {Q : RS → T2 → Prop} {x1 x2 y0 : Int} {r0 q3 n5 q8 : Nat} (hd : 1 ≤ d) (sh2 : tS τ r0 = (1, 21, 0)) (p4 : tP τ r0 8 = some q3) (sh6 : tS τ q3 = (3, 7, n5)) (b7 : ¬ y0 = 0 → (0 : Int) ≤ x1 ∧ x1 < (n5 : Int)) (p9 : ¬ y0 = 0 → tP τ q3 x1.toNat = some q8) (sh10 : tS τ q8 = (1, 15, 0)) (k1 : ¬ y0 = 0 → (tP τ q8 11) = none → G (d - 1) 163 0 [vR r0, vI 9] [] τ (KC d 222 45 48 [none, none, none, none, none] [] Q)) (k2 : ¬ y0 = 0 → ∀ q12, (tP τ q8 11) = some q12 → G d 222 33 [vR r0, none, vI x2, vR q12, none] [] τ Q) (k3 : y0 = 0 → G (d - 1) 163 0 [vR r0, vI 1] [] τ (KC d 222 15 18 [none, none, none, none, none] [] Q)) : G d 222 10 [vR r0, vI x1, vI x2, none, none] [AI y0] τ Q := by
  refine g_br1 rfl (t := 19) rfl (fun c1 => ?_) (fun c1 => ?_)
  · have c1 : ¬ y0 = 0 := of_decide_eq_true c1
    refine g_sk 1 (pc1 := 20) (st1 := [AR r0]) rfl ?_
    refine g_gQ rfl (ci := 21) (k := 8) rfl sh2 p4 ?_
    refine g_sk 1 (pc1 := 24) (st1 := [AI x1, AR q3]) rfl ?_
    refine g_aalQ rfl sh6 (by decide) (b7 c1).1 (b7 c1).2 (p9 c1) ?_
    refine g_gP rfl (ci := 15) (k := 11) rfl sh10 ?_
    refine g_sx 2 (pc1 := 30) (L1 := [vR r0, vI x1, vI x2, vQ (tP τ q8 11), none]) (st1 := [AP (tP τ q8 11)]) rfl ?_
    refine g_nul rfl (t := 42) rfl (fun c11 => ?_) (fun q12 c11 => ?_)
    · skip
      refine g_sk 2 (pc1 := 45) (st1 := [AI 9, AR r0]) rfl ?_
      refine G_fg (lw2_f _ (lw2_f _ (lw2_f _ (lw2_f _ (lw2_k _ lw2_nil))))) ?_
      refine g_cv rfl rfl (by decide) rfl rfl (Nat.le_of_ble_eq_true rfl) (as2 := [AI 9]) rfl sh2 rfl (by omega) (L0 := [vR r0, vI 9]) rfl ?_
      exact (k1 c1 c11)
    · skip
      rw [c11]
      exact G_fg (lw2_k _ (lw2_f _ (lw2_k _ (lw2_k _ (lw2_k _ lw2_nil))))) (k2 c1 q12 c11)
  · have c1 : y0 = 0 := Decidable.of_not_not (of_decide_eq_false c1)
    refine g_sk 2 (pc1 := 15) (st1 := [AI 1, AR r0]) rfl ?_
    refine G_fg (lw2_f _ (lw2_f _ (lw2_f _ (lw2_k _ (lw2_k _ lw2_nil))))) ?_
    refine g_cv rfl rfl (by decide) rfl rfl (Nat.le_of_ble_eq_true rfl) (as2 := [AI 1]) rfl sh2 rfl (by omega) (L0 := [vR r0, vI 1]) rfl ?_
    exact (k3 c1)

set_option maxRecDepth 8192 in
theorem t222_18 {d : Nat} {τ : T2} {Q : RS → T2 → Prop} {y0 : Int} (k1 : Q (.inl (some (AI y0))) τ) : G d 222 18 [none, none, none, none, none] [AI y0] τ Q := by
  refine g_iret rfl rfl ?_
  exact k1

set_option maxRecDepth 8192 in
theorem t222_33 {d : Nat} {τ : T2} {Q : RS → T2 → Prop} {x2 : Int} {r0 : Nat} {r3 : Option Nat} (hd : 1 ≤ d) (sh1 : tS τ r0 = (1, 21, 0)) (k1 : G (d - 1) 203 0 [vR r0, vQ r3, vI x2, none, none, none, none] [] τ (KC d 222 36 39 [vR r0, none, none, none, none] [] Q)) : G d 222 33 [vR r0, none, vI x2, vQ r3, none] [] τ Q := by
  refine g_sk 3 (pc1 := 36) (st1 := [AI x2, AP r3, AR r0]) rfl ?_
  refine G_fg (lw2_k _ (lw2_k _ (lw2_f _ (lw2_f _ (lw2_k _ lw2_nil))))) ?_
  refine g_cv rfl rfl (by decide) rfl rfl (Nat.le_of_ble_eq_true rfl) (as2 := [AP r3, AI x2]) rfl sh1 rfl (by omega) (L0 := [vR r0, vQ r3, vI x2, none, none, none, none]) rfl ?_
  exact k1

set_option maxRecDepth 8192 in
theorem t222_39 {d : Nat} {τ : T2} {Q : RS → T2 → Prop} {y0 : Int} {r0 : Nat} (hd : 1 ≤ d) (sh2 : tS τ r0 = (1, 21, 0)) (k1 : ¬ y0 = 0 → G d 222 52 [vR r0, none, none, none, vI 0] [] τ Q) (k2 : y0 = 0 → G (d - 1) 163 0 [vR r0, vI 9] [] τ (KC d 222 45 48 [none, none, none, none, none] [] Q)) : G d 222 39 [vR r0, none, none, none, none] [AI y0] τ Q := by
  refine g_br1 rfl (t := 49) rfl (fun c1 => ?_) (fun c1 => ?_)
  · have c1 : ¬ y0 = 0 := of_decide_eq_true c1
    refine g_sx 2 (pc1 := 52) (L1 := [vR r0, none, none, none, vI 0]) (st1 := []) rfl ?_
    exact (k1 c1)
  · have c1 : y0 = 0 := Decidable.of_not_not (of_decide_eq_false c1)
    refine g_sk 2 (pc1 := 45) (st1 := [AI 9, AR r0]) rfl ?_
    refine G_fg (lw2_f _ (lw2_k _ (lw2_k _ (lw2_k _ (lw2_k _ lw2_nil))))) ?_
    refine g_cv rfl rfl (by decide) rfl rfl (Nat.le_of_ble_eq_true rfl) (as2 := [AI 9]) rfl sh2 rfl (by omega) (L0 := [vR r0, vI 9]) rfl ?_
    exact (k2 c1)

set_option maxRecDepth 8192 in
theorem t222_42 {d : Nat} {τ : T2} {Q : RS → T2 → Prop} {r0 : Nat} (hd : 1 ≤ d) (sh1 : tS τ r0 = (1, 21, 0)) (k1 : G (d - 1) 163 0 [vR r0, vI 9] [] τ (KC d 222 45 48 [none, none, none, none, none] [] Q)) : G d 222 42 [vR r0, none, none, none, none] [] τ Q := by
  refine g_sk 2 (pc1 := 45) (st1 := [AI 9, AR r0]) rfl ?_
  refine G_fg (lw2_f _ (lw2_k _ (lw2_k _ (lw2_k _ (lw2_k _ lw2_nil))))) ?_
  refine g_cv rfl rfl (by decide) rfl rfl (Nat.le_of_ble_eq_true rfl) (as2 := [AI 9]) rfl sh1 rfl (by omega) (L0 := [vR r0, vI 9]) rfl ?_
  exact k1

set_option maxRecDepth 8192 in
theorem t222_48 {d : Nat} {τ : T2} {Q : RS → T2 → Prop} {y0 : Int} (k1 : Q (.inl (some (AI y0))) τ) : G d 222 48 [none, none, none, none, none] [AI y0] τ Q := by
  refine g_iret rfl rfl ?_
  exact k1

set_option maxRecDepth 8192 in
theorem t222_52 {d : Nat} {τ : T2} {Q : RS → T2 → Prop} {x4 : Int} {r0 q3 q5 n7 n10 : Nat} (hd : 1 ≤ d) (sh1 : tS τ r0 = (1, 21, 0)) (p4 : tP τ r0 33 = some q3) (p6 : tP τ r0 31 = some q5) (sh8 : tS τ q5 = (2, 1, n7)) (b9 : x4 < (tI τ r0 32) → (0 : Int) ≤ x4 ∧ x4 < (n7 : Int)) (sh11 : tS τ q3 = (2, 1, n10)) (b12 : x4 < (tI τ r0 32) → (0 : Int) ≤ x4 ∧ x4 < (n10 : Int)) (k1 : (tI τ r0 32) ≤ x4 → G (d - 1) 165 0 [vR r0, vI (tI (uI τ r0 34 (tI τ r0 32)) r0 34)] [] (uI τ r0 34 (tI τ r0 32)) (KC d 222 94 97 [none, none, none, none, none] [] Q)) (k2 : x4 < (tI τ r0 32) → G d 222 52 [vR r0, none, none, none, vI (wr (x4 + 1))] [] (uI τ q3 x4.toNat (zbyt (tI τ q5 x4.toNat))) Q) : G d 222 52 [vR r0, none, none, none, vI x4] [] τ Q := by
  refine g_sk 2 (pc1 := 55) (st1 := [AR r0, AI x4]) rfl ?_
  refine g_gI rfl (ci := 21) (k := 32) rfl sh1 ?_
  refine g_br2 rfl (t := 81) rfl (fun c2 => ?_) (fun c2 => ?_)
  · have c2 : (tI τ r0 32) ≤ x4 := of_decide_eq_true c2
    refine g_sk 2 (pc1 := 83) (st1 := [AR r0, AR r0]) rfl ?_
    refine g_gI rfl (ci := 21) (k := 32) rfl sh1 ?_
    refine g_putI (x := (tI τ r0 32)) rfl (ci := 21) (k := 34) (kd := 0) rfl (by decide) rfl rfl sh1 ?_
    refine g_sk 2 (pc1 := 91) (st1 := [AR r0, AR r0]) rfl ?_
    refine g_gI rfl (ci := 21) (k := 34) rfl sh1 ?_
    refine G_fg (lw2_f _ (lw2_k _ (lw2_k _ (lw2_k _ (lw2_f _ lw2_nil))))) ?_
    refine g_cv rfl rfl (by decide) rfl rfl (Nat.le_of_ble_eq_true rfl) (as2 := [AI (tI (uI τ r0 34 (tI τ r0 32)) r0 34)]) rfl sh1 rfl (by omega) (L0 := [vR r0, vI (tI (uI τ r0 34 (tI τ r0 32)) r0 34)]) rfl ?_
    exact (k1 c2)
  · have c2 : x4 < (tI τ r0 32) := Int.not_le.mp (of_decide_eq_false c2)
    refine g_sk 1 (pc1 := 62) (st1 := [AR r0]) rfl ?_
    refine g_gQ rfl (ci := 21) (k := 33) rfl sh1 p4 ?_
    refine g_sk 2 (pc1 := 68) (st1 := [AR r0, AI x4, AR q3]) rfl ?_
    refine g_gQ rfl (ci := 21) (k := 31) rfl sh1 p6 ?_
    refine g_sk 1 (pc1 := 73) (st1 := [AI x4, AR q5, AI x4, AR q3]) rfl ?_
    refine g_bald rfl sh8 (by decide) (b9 c2).1 (b9 c2).2 ?_
    refine g_bast rfl sh11 (b12 c2).1 (b12 c2).2 ?_
    refine g_sx 2 (pc1 := 52) (L1 := [vR r0, none, none, none, vI (wr (x4 + 1))]) (st1 := []) rfl ?_
    exact (k2 c2)

set_option maxRecDepth 8192 in
theorem t222_97 {d : Nat} {τ : T2} {Q : RS → T2 → Prop} {y0 : Int} (k1 : Q (.inl (some (AI y0))) τ) : G d 222 97 [none, none, none, none, none] [AI y0] τ Q := by
  refine g_iret rfl rfl ?_
  exact k1

set_option maxRecDepth 8192 in
theorem t223_0 {d : Nat} {τ : T2} {Q : RS → T2 → Prop} {x1 : Int} {r0 : Nat} (hd : 1 ≤ d) (sh1 : tS τ r0 = (1, 21, 0)) (k1 : G (d - 1) 222 0 [vR r0, vI x1, vI 0, none, none] [] (uI τ r0 0 0) (KC d 223 8 11 [none, none] [] Q)) : G d 223 0 [vR r0, vI x1] [] τ Q := by
  refine g_sk 2 (pc1 := 2) (st1 := [AI 0, AR r0]) rfl ?_
  refine g_putI (x := 0) rfl (ci := 21) (k := 0) (kd := 0) rfl (by decide) rfl rfl sh1 ?_
  refine g_sk 3 (pc1 := 8) (st1 := [AI 0, AI x1, AR r0]) rfl ?_
  refine G_fg (lw2_f _ (lw2_f _ lw2_nil)) ?_
  refine g_cv rfl rfl (by decide) rfl rfl (Nat.le_of_ble_eq_true rfl) (as2 := [AI x1, AI 0]) rfl sh1 rfl (by omega) (L0 := [vR r0, vI x1, vI 0, none, none]) rfl ?_
  exact k1

set_option maxRecDepth 8192 in
theorem t223_11 {d : Nat} {τ : T2} {Q : RS → T2 → Prop} {y0 : Int} (k1 : Q (.inl (some (AI y0))) τ) : G d 223 11 [none, none] [AI y0] τ Q := by
  refine g_iret rfl rfl ?_
  exact k1

set_option maxRecDepth 8192 in
theorem t224_0 {d : Nat} {τ : T2} {Q : RS → T2 → Prop} {x1 : Int} {r0 : Nat} (hd : 1 ≤ d) (sh1 : tS τ r0 = (1, 21, 0)) (k1 : G (d - 1) 207 0 [vR r0, vI x1] [] (uI τ r0 0 0) (KC d 224 7 10 [vR r0, vI x1, none, none, none] [] Q)) : G d 224 0 [vR r0, vI x1, none, none, none] [] τ Q := by
  refine g_sk 2 (pc1 := 2) (st1 := [AI 0, AR r0]) rfl ?_
  refine g_putI (x := 0) rfl (ci := 21) (k := 0) (kd := 0) rfl (by decide) rfl rfl sh1 ?_
  refine g_sk 2 (pc1 := 7) (st1 := [AI x1, AR r0]) rfl ?_
  refine g_cv rfl rfl (by decide) rfl rfl (Nat.le_of_ble_eq_true rfl) (as2 := [AI x1]) rfl sh1 rfl (by omega) (L0 := [vR r0, vI x1]) rfl ?_
  exact k1

set_option maxRecDepth 8192 in
theorem t224_10 {d : Nat} {τ : T2} {Q : RS → T2 → Prop} {x1 y0 : Int} {r0 q3 n5 q8 : Nat} (hd : 1 ≤ d) (sh2 : tS τ r0 = (1, 21, 0)) (p4 : tP τ r0 8 = some q3) (sh6 : tS τ q3 = (3, 7, n5)) (b7 : ¬ y0 = 0 → (0 : Int) ≤ x1 ∧ x1 < (n5 : Int)) (p9 : ¬ y0 = 0 → tP τ q3 x1.toNat = some q8) (sh10 : tS τ q8 = (1, 15, 0)) (k1 : ¬ y0 = 0 → ∀ q12, (tP τ q8 11) = some q12 → G d 224 40 [vR r0, none, vR q8, none, none] [] τ Q) (k2 : ¬ y0 = 0 → (tP τ q8 11) = none → G (d - 1) 163 0 [vR r0, vI 9] [] τ (KC d 224 36 39 [none, none, none, none, none] [] Q)) (k3 : y0 = 0 → G (d - 1) 163 0 [vR r0, vI 1] [] τ (KC d 224 15 18 [none, none, none, none, none] [] Q)) : G d 224 10 [vR r0, vI x1, none, none, none] [AI y0] τ Q := by
  refine g_br1 rfl (t := 19) rfl (fun c1 => ?_) (fun c1 => ?_)
  · have c1 : ¬ y0 = 0 := of_decide_eq_true c1
    refine g_sk 1 (pc1 := 20) (st1 := [AR r0]) rfl ?_
    refine g_gQ rfl (ci := 21) (k := 8) rfl sh2 p4 ?_
    refine g_sk 1 (pc1 := 24) (st1 := [AI x1, AR q3]) rfl ?_
    refine g_aalQ rfl sh6 (by decide) (b7 c1).1 (b7 c1).2 (p9 c1) ?_
    refine g_sx 2 (pc1 := 27) (L1 := [vR r0, vI x1, vR q8, none, none]) (st1 := [AR q8]) rfl ?_
    refine g_gP rfl (ci := 15) (k := 11) rfl sh10 ?_
    refine g_nnl rfl (t := 40) rfl (fun q12 c11 => ?_) (fun c11 => ?_)
    · skip
      exact G_fg (lw2_k _ (lw2_f _ (lw2_k _ (lw2_k _ (lw2_k _ lw2_nil))))) (k1 c1 q12 c11)
    · skip
      refine g_sk 2 (pc1 := 36) (st1 := [AI 9, AR r0]) rfl ?_
      refine G_fg (lw2_f _ (lw2_f _ (lw2_f _ (lw2_k _ (lw2_k _ lw2_nil))))) ?_
      refine g_cv rfl rfl (by decide) rfl rfl (Nat.le_of_ble_eq_true rfl) (as2 := [AI 9]) rfl sh2 rfl (by omega) (L0 := [vR r0, vI 9]) rfl ?_
      exact (k2 c1 c11)
  · have c1 : y0 = 0 := Decidable.of_not_not (of_decide_eq_false c1)
    refine g_sk 2 (pc1 := 15) (st1 := [AI 1, AR r0]) rfl ?_
    refine G_fg (lw2_f _ (lw2_f _ (lw2_k _ (lw2_k _ (lw2_k _ lw2_nil))))) ?_
    refine g_cv rfl rfl (by decide) rfl rfl (Nat.le_of_ble_eq_true rfl) (as2 := [AI 1]) rfl sh2 rfl (by omega) (L0 := [vR r0, vI 1]) rfl ?_
    exact (k3 c1)

set_option maxRecDepth 8192 in
theorem t224_18 {d : Nat} {τ : T2} {Q : RS → T2 → Prop} {y0 : Int} (k1 : Q (.inl (some (AI y0))) τ) : G d 224 18 [none, none, none, none, none] [AI y0] τ Q := by
  refine g_iret rfl rfl ?_
  exact k1

set_option maxRecDepth 8192 in
theorem t224_33 {d : Nat} {τ : T2} {Q : RS → T2 → Prop} {r0 : Nat} (hd : 1 ≤ d) (sh1 : tS τ r0 = (1, 21, 0)) (k1 : G (d - 1) 163 0 [vR r0, vI 9] [] τ (KC d 224 36 39 [none, none, none, none, none] [] Q)) : G d 224 33 [vR r0, none, none, none, none] [] τ Q := by
  refine g_sk 2 (pc1 := 36) (st1 := [AI 9, AR r0]) rfl ?_
  refine G_fg (lw2_f _ (lw2_k _ (lw2_k _ (lw2_k _ (lw2_k _ lw2_nil))))) ?_
  refine g_cv rfl rfl (by decide) rfl rfl (Nat.le_of_ble_eq_true rfl) (as2 := [AI 9]) rfl sh1 rfl (by omega) (L0 := [vR r0, vI 9]) rfl ?_
  exact k1

set_option maxRecDepth 8192 in
theorem t224_39 {d : Nat} {τ : T2} {Q : RS → T2 → Prop} {y0 : Int} (k1 : Q (.inl (some (AI y0))) τ) : G d 224 39 [none, none, none, none, none] [AI y0] τ Q := by
  refine g_iret rfl rfl ?_
  exact k1

set_option maxRecDepth 8192 in
theorem t224_40 {d : Nat} {τ : T2} {Q : RS → T2 → Prop} {r0 r2 : Nat} (hd : 1 ≤ d) (sh1 : tS τ r2 = (1, 15, 0)) (sh2 : tS τ r0 = (1, 21, 0)) (k1 : G (d - 1) 203 0 [vR r0, vQ (tP τ r2 11), vI 0, none, none, none, none] [] τ (KC d 224 46 49 [vR r0, none, vR r2, none, none] [] Q)) : G d 224 40 [vR r0, none, vR r2, none, none] [] τ Q := by
  refine g_sk 2 (pc1 := 42) (st1 := [AR r2, AR r0]) rfl ?_
  refine g_gP rfl (ci := 15) (k := 11) rfl sh1 ?_
  refine g_sk 1 (pc1 := 46) (st1 := [AI 0, AP (tP τ r2 11), AR r0]) rfl ?_
  refine g_cv rfl rfl (by decide) rfl rfl (Nat.le_of_ble_eq_true rfl) (as2 := [AP (tP τ r2 11), AI 0]) rfl sh2 rfl (by omega) (L0 := [vR r0, vQ (tP τ r2 11), vI 0, none, none, none, none]) rfl ?_
  exact k1

set_option maxRecDepth 8192 in
theorem t224_49 {d : Nat} {τ : T2} {Q : RS → T2 → Prop} {y0 : Int} {r0 r2 : Nat} (sh2 : tS τ r0 = (1, 21, 0)) (sh3 : tS τ r2 = (1, 15, 0)) (k1 : y0 = 0 → G d 224 72 [vR r0, none, vR r2, vI 0, vI 0] [] τ Q) (k2 : ¬ y0 = 0 → ¬ (tI τ r0 32) = (tI τ r2 2) → G d 224 72 [vR r0, none, vR r2, vI 0, vI 0] [] τ Q) (k3 : ¬ y0 = 0 → (tI τ r0 32) = (tI τ r2 2) → G d 224 72 [vR r0, none, vR r2, vI 1, vI 0] [] τ Q) : G d 224 49 [vR r0, none, vR r2, none, none] [AI y0] τ Q := by
  refine g_br1 rfl (t := 67) rfl (fun c1 => ?_) (fun c1 => ?_)
  · have c1 : y0 = 0 := of_decide_eq_true c1
    refine g_sx 4 (pc1 := 72) (L1 := [vR r0, none, vR r2, vI 0, vI 0]) (st1 := []) rfl ?_
    exact (k1 c1)
  · have c1 : ¬ y0 = 0 := of_decide_eq_false c1
    refine g_sk 1 (pc1 := 53) (st1 := [AR r0]) rfl ?_
    refine g_gI rfl (ci := 21) (k := 32) rfl sh2 ?_
    refine g_sk 1 (pc1 := 57) (st1 := [AR r2, AI (tI τ r0 32)]) rfl ?_
    refine g_gI rfl (ci := 15) (k := 2) rfl sh3 ?_
    refine g_br2 rfl (t := 67) rfl (fun c4 => ?_) (fun c4 => ?_)
    · have c4 : ¬ (tI τ r0 32) = (tI τ r2 2) := of_decide_eq_true c4
      refine g_sx 4 (pc1 := 72) (L1 := [vR r0, none, vR r2, vI 0, vI 0]) (st1 := []) rfl ?_
      exact (k2 c1 c4)
    · have c4 : (tI τ r0 32) = (tI τ r2 2) := Decidable.of_not_not (of_decide_eq_false c4)
      refine g_sx 5 (pc1 := 72) (L1 := [vR r0, none, vR r2, vI 1, vI 0]) (st1 := []) rfl ?_
      exact (k3 c1 c4)

set_option maxRecDepth 8192 in
theorem t224_72 {d : Nat} {τ : T2} {Q : RS → T2 → Prop} {x3 x4 : Int} {r0 r2 q7 n9 q12 n14 : Nat} (hd : 1 ≤ d) (sh1 : tS τ r2 = (1, 15, 0)) (sh4 : tS τ r0 = (1, 21, 0)) (p8 : tP τ r0 31 = some q7) (sh10 : tS τ q7 = (2, 1, n9)) (b11 : x4 < (tI τ r2 2) → ¬ x3 = 0 → (0 : Int) ≤ x4 ∧ x4 < (n9 : Int)) (p13 : tP τ r2 6 = some q12) (sh15 : tS τ q12 = (2, 1, n14)) (b16 : x4 < (tI τ r2 2) → ¬ x3 = 0 → (0 : Int) ≤ x4 ∧ x4 < (n14 : Int)) (k1 : (tI τ r2 2) ≤ x4 → x3 = 0 → G (d - 1) 165 0 [vR r0, vI 0] [] τ (KC d 224 124 127 [none, none, none, none, none] [] Q)) (k2 : (tI τ r2 2) ≤ x4 → ¬ x3 = 0 → G (d - 1) 165 0 [vR r0, vI 1] [] τ (KC d 224 124 127 [none, none, none, none, none] [] Q)) (k3 : x4 < (tI τ r2 2) → x3 = 0 → x3 = 0 → G (d - 1) 165 0 [vR r0, vI 0] [] τ (KC d 224 124 127 [none, none, none, none, none] [] Q)) (k4 : x4 < (tI τ r2 2) → x3 = 0 → ¬ x3 = 0 → G (d - 1) 165 0 [vR r0, vI 1] [] τ (KC d 224 124 127 [none, none, none, none, none] [] Q)) (k5 : x4 < (tI τ r2 2) → ¬ x3 = 0 → ¬ (tI τ q7 x4.toNat) = (tI τ q12 x4.toNat) → G d 224 72 [vR r0, none, vR r2, vI 0, vI (wr (x4 + 1))] [] τ Q) (k6 : x4 < (tI τ r2 2) → ¬ x3 = 0 → (tI τ q7 x4.toNat) = (tI τ q12 x4.toNat) → G d 224 72 [vR r0, none, vR r2, vI 1, vI (wr (x4 + 1))] [] τ Q) : G d 224 72 [vR r0, none, vR r2, vI x3, vI x4] [] τ Q := by
  refine g_sk 2 (pc1 := 75) (st1 := [AR r2, AI x4]) rfl ?_
  refine g_gI rfl (ci := 15) (k := 2) rfl sh1 ?_
  refine g_br2 rfl (t := 114) rfl (fun c2 => ?_) (fun c2 => ?_)
  · have c2 : (tI τ r2 2) ≤ x4 := of_decide_eq_true c2
    refine g_sk 2 (pc1 := 116) (st1 := [AI x3, AR r0]) rfl ?_
    refine g_br1 rfl (t := 123) rfl (fun c3 => ?_) (fun c3 => ?_)
    · have c3 : x3 = 0 := of_decide_eq_true c3
      refine g_sk 1 (pc1 := 124) (st1 := [AI 0, AR r0]) rfl ?_
      refine G_fg (lw2_f _ (lw2_k _ (lw2_f _ (lw2_f _ (lw2_f _ lw2_nil))))) ?_
      refine g_cv rfl rfl (by decide) rfl rfl (Nat.le_of_ble_eq_true rfl) (as2 := [AI 0]) rfl sh4 rfl (by omega) (L0 := [vR r0, vI 0]) rfl ?_
      exact (k1 c2 c3)
    · have c3 : ¬ x3 = 0 := of_decide_eq_false c3
      refine g_sk 2 (pc1 := 124) (st1 := [AI 1, AR r0]) rfl ?_
      refine G_fg (lw2_f _ (lw2_k _ (lw2_f _ (lw2_f _ (lw2_f _ lw2_nil))))) ?_
      refine g_cv rfl rfl (by decide) rfl rfl (Nat.le_of_ble_eq_true rfl) (as2 := [AI 1]) rfl sh4 rfl (by omega) (L0 := [vR r0, vI 1]) rfl ?_
      exact (k2 c2 c3)
  · have c2 : x4 < (tI τ r2 2) := Int.not_le.mp (of_decide_eq_false c2)
    refine g_sk 1 (pc1 := 82) (st1 := [AI x3]) rfl ?_
    refine g_br1 rfl (t := 114) rfl (fun c5 => ?_) (fun c5 => ?_)
    · have c5 : x3 = 0 := of_decide_eq_true c5
      refine g_sk 2 (pc1 := 116) (st1 := [AI x3, AR r0]) rfl ?_
      refine g_br1 rfl (t := 123) rfl (fun c6 => ?_) (fun c6 => ?_)
      · have c6 : x3 = 0 := of_decide_eq_true c6
        refine g_sk 1 (pc1 := 124) (st1 := [AI 0, AR r0]) rfl ?_
        refine G_fg (lw2_f _ (lw2_k _ (lw2_f _ (lw2_f _ (lw2_f _ lw2_nil))))) ?_
        refine g_cv rfl rfl (by decide) rfl rfl (Nat.le_of_ble_eq_true rfl) (as2 := [AI 0]) rfl sh4 rfl (by omega) (L0 := [vR r0, vI 0]) rfl ?_
        exact (k3 c2 c5 c6)
      · have c6 : ¬ x3 = 0 := of_decide_eq_false c6
        refine g_sk 2 (pc1 := 124) (st1 := [AI 1, AR r0]) rfl ?_
        refine G_fg (lw2_f _ (lw2_k _ (lw2_f _ (lw2_f _ (lw2_f _ lw2_nil))))) ?_
        refine g_cv rfl rfl (by decide) rfl rfl (Nat.le_of_ble_eq_true rfl) (as2 := [AI 1]) rfl sh4 rfl (by omega) (L0 := [vR r0, vI 1]) rfl ?_
        exact (k4 c2 c5 c6)
    · have c5 : ¬ x3 = 0 := of_decide_eq_false c5
      refine g_sk 1 (pc1 := 86) (st1 := [AR r0]) rfl ?_
      refine g_gQ rfl (ci := 21) (k := 31) rfl sh4 p8 ?_
      refine g_sk 1 (pc1 := 91) (st1 := [AI x4, AR q7]) rfl ?_
      refine g_bald rfl sh10 (by decide) (b11 c2 c5).1 (b11 c2 c5).2 ?_
      refine g_sk 1 (pc1 := 93) (st1 := [AR r2, AI (tI τ q7 x4.toNat)]) rfl ?_
      refine g_gQ rfl (ci := 15) (k := 6) rfl sh1 p13 ?_
      refine g_sk 1 (pc1 := 98) (st1 := [AI x4, AR q12, AI (tI τ q7 x4.toNat)]) rfl ?_
      refine g_bald rfl sh15 (by decide) (b16 c2 c5).1 (b16 c2 c5).2 ?_
      refine g_br2 rfl (t := 106) rfl (fun c17 => ?_) (fun c17 => ?_)
      · have c17 : ¬ (tI τ q7 x4.toNat) = (tI τ q12 x4.toNat) := of_decide_eq_true c17
        refine g_sx 4 (pc1 := 72) (L1 := [vR r0, none, vR r2, vI 0, vI (wr (x4 + 1))]) (st1 := []) rfl ?_
        exact (k5 c2 c5 c17)
      · have c17 : (tI τ q7 x4.toNat) = (tI τ q12 x4.toNat) := Decidable.of_not_not (of_decide_eq_false c17)
        refine g_sx 5 (pc1 := 72) (L1 := [vR r0, none, vR r2, vI 1, vI (wr (x4 + 1))]) (st1 := []) rfl ?_
        exact (k6 c2 c5 c17)

set_option maxRecDepth 8192 in
theorem t224_127 {d : Nat} {τ : T2} {Q : RS → T2 → Prop} {y0 : Int} (k1 : Q (.inl (some (AI y0))) τ) : G d 224 127 [none, none, none, none, none] [AI y0] τ Q := by
  refine g_iret rfl rfl ?_
  exact k1

set_option maxRecDepth 8192 in
theorem t225_0 {d : Nat} {τ : T2} {Q : RS → T2 → Prop} {x1 x2 : Int} {r0 : Nat} (hd : 1 ≤ d) (sh1 : tS τ r0 = (1, 21, 0)) (k1 : G (d - 1) 207 0 [vR r0, vI x1] [] (uI τ r0 0 0) (KC d 225 7 10 [vR r0, vI x1, vI x2, none, none, none, none, none, none] [] Q)) : G d 225 0 [vR r0, vI x1, vI x2, none, none, none, none, none, none] [] τ Q := by
  refine g_sk 2 (pc1 := 2) (st1 := [AI 0, AR r0]) rfl ?_
  refine g_putI (x := 0) rfl (ci := 21) (k := 0) (kd := 0) rfl (by decide) rfl rfl sh1 ?_
  refine g_sk 2 (pc1 := 7) (st1 := [AI x1, AR r0]) rfl ?_
  refine g_cv rfl rfl (by decide) rfl rfl (Nat.le_of_ble_eq_true rfl) (as2 := [AI x1]) rfl sh1 rfl (by omega) (L0 := [vR r0, vI x1]) rfl ?_
  exact k1

set_option maxRecDepth 8192 in
theorem t225_10 {d : Nat} {τ : T2} {Q : RS → T2 → Prop} {x1 x2 y0 : Int} {r0 q3 n5 q8 : Nat} (hd : 1 ≤ d) (sh2 : tS τ r0 = (1, 21, 0)) (p4 : tP τ r0 8 = some q3) (sh6 : tS τ q3 = (3, 7, n5)) (b7 : ¬ y0 = 0 → (0 : Int) ≤ x1 ∧ x1 < (n5 : Int)) (p9 : ¬ y0 = 0 → tP τ q3 x1.toNat = some q8) (sh10 : tS τ q8 = (1, 15, 0)) (k1 : ¬ y0 = 0 → (tP τ q8 11) = none → G (d - 1) 163 0 [vR r0, vI 9] [] τ (KC d 225 45 48 [none, none, none, none, none, none, none, none, none] [] Q)) (k2 : ¬ y0 = 0 → ∀ q12, (tP τ q8 11) = some q12 → G d 225 33 [vR r0, none, vI x2, vR q12, none, none, none, none, none] [] τ Q) (k3 : y0 = 0 → G (d - 1) 163 0 [vR r0, vI 1] [] τ (KC d 225 15 18 [none, none, none, none, none, none, none, none, none] [] Q)) : G d 225 10 [vR r0, vI x1, vI x2, none, none, none, none, none, none] [AI y0] τ Q := by
  refine g_br1 rfl (t := 19) rfl (fun c1 => ?_) (fun c1 => ?_)
  · have c1 : ¬ y0 = 0 := of_decide_eq_true c1
    refine g_sk 1 (pc1 := 20) (st1 := [AR r0]) rfl ?_
    refine g_gQ rfl (ci := 21) (k := 8) rfl sh2 p4 ?_
    refine g_sk 1 (pc1 := 24) (st1 := [AI x1, AR q3]) rfl ?_
    refine g_aalQ rfl sh6 (by decide) (b7 c1).1 (b7 c1).2 (p9 c1) ?_
    refine g_gP rfl (ci := 15) (k := 11) rfl sh10 ?_
    refine g_sx 2 (pc1 := 30) (L1 := [vR r0, vI x1, vI x2, vQ (tP τ q8 11), none, none, none, none, none]) (st1 := [AP (tP τ q8 11)]) rfl ?_
    refine g_nul rfl (t := 42) rfl (fun c11 => ?_) (fun q12 c11 => ?_)
    · skip
      refine g_sk 2 (pc1 := 45) (st1 := [AI 9, AR r0]) rfl ?_
      refine G_fg (lw2_f _ (lw2_f _ (lw2_f _ (lw2_f _ (lw2_k _ (lw2_k _ (lw2_k _ (lw2_k _ (lw2_k _ lw2_nil))))))))) ?_
      refine g_cv rfl rfl (by decide) rfl rfl (Nat.le_of_ble_eq_true rfl) (as2 := [AI 9]) rfl sh2 rfl (by omega) (L0 := [vR r0, vI 9]) rfl ?_
      exact (k1 c1 c11)
    · skip
      rw [c11]
      exact G_fg (lw2_k _ (lw2_f _ (lw2_k _ (lw2_k _ (lw2_k _ (lw2_k _ (lw2_k _ (lw2_k _ (lw2_k _ lw2_nil))))))))) (k2 c1 q12 c11)
  · have c1 : y0 = 0 := Decidable.of_not_not (of_decide_eq_false c1)
    refine g_sk 2 (pc1 := 15) (st1 := [AI 1, AR r0]) rfl ?_
    refine G_fg (lw2_f _ (lw2_f _ (lw2_f _ (lw2_k _ (lw2_k _ (lw2_k _ (lw2_k _ (lw2_k _ (lw2_k _ lw2_nil))))))))) ?_
    refine g_cv rfl rfl (by decide) rfl rfl (Nat.le_of_ble_eq_true rfl) (as2 := [AI 1]) rfl sh2 rfl (by omega) (L0 := [vR r0, vI 1]) rfl ?_
    exact (k3 c1)

set_option maxRecDepth 8192 in
theorem t225_18 {d : Nat} {τ : T2} {Q : RS → T2 → Prop} {y0 : Int} (k1 : Q (.inl (some (AI y0))) τ) : G d 225 18 [none, none, none, none, none, none, none, none, none] [AI y0] τ Q := by
  refine g_iret rfl rfl ?_
  exact k1

set_option maxRecDepth 8192 in
theorem t225_33 {d : Nat} {τ : T2} {Q : RS → T2 → Prop} {x2 : Int} {r0 : Nat} {r3 : Option Nat} (hd : 1 ≤ d) (sh1 : tS τ r0 = (1, 21, 0)) (k1 : G (d - 1) 203 0 [vR r0, vQ r3, vI x2, none, none, none, none] [] τ (KC d 225 36 39 [vR r0, none, none, none, none, none, none, none, none] [] Q)) : G d 225 33 [vR r0, none, vI x2, vQ r3, none, none, none, none, none] [] τ Q := by
  refine g_sk 3 (pc1 := 36) (st1 := [AI x2, AP r3, AR r0]) rfl ?_
  refine G_fg (lw2_k _ (lw2_k _ (lw2_f _ (lw2_f _ (lw2_k _ (lw2_k _ (lw2_k _ (lw2_k _ (lw2_k _ lw2_nil))))))))) ?_
  refine g_cv rfl rfl (by decide) rfl rfl (Nat.le_of_ble_eq_true rfl) (as2 := [AP r3, AI x2]) rfl sh1 rfl (by omega) (L0 := [vR r0, vQ r3, vI x2, none, none, none, none]) rfl ?_
  exact k1

set_option maxRecDepth 8192 in
theorem t225_39 {d : Nat} {τ : T2} {Q : RS → T2 → Prop} {y0 : Int} {r0 : Nat} (hd : 1 ≤ d) (sh2 : tS τ r0 = (1, 21, 0)) (k1 : ¬ y0 = 0 → G d 225 55 [vR r0, none, none, none, vI 0, vI 0, none, none, none] [] τ Q) (k2 : y0 = 0 → G (d - 1) 163 0 [vR r0, vI 9] [] τ (KC d 225 45 48 [none, none, none, none, none, none, none, none, none] [] Q)) : G d 225 39 [vR r0, none, none, none, none, none, none, none, none] [AI y0] τ Q := by
  refine g_br1 rfl (t := 49) rfl (fun c1 => ?_) (fun c1 => ?_)
  · have c1 : ¬ y0 = 0 := of_decide_eq_true c1
    refine g_sx 4 (pc1 := 55) (L1 := [vR r0, none, none, none, vI 0, vI 0, none, none, none]) (st1 := []) rfl ?_
    exact (k1 c1)
  · have c1 : y0 = 0 := Decidable.of_not_not (of_decide_eq_false c1)
    refine g_sk 2 (pc1 := 45) (st1 := [AI 9, AR r0]) rfl ?_
    refine G_fg (lw2_f _ (lw2_k _ (lw2_k _ (lw2_k _ (lw2_k _ (lw2_k _ (lw2_k _ (lw2_k _ (lw2_k _ lw2_nil))))))))) ?_
    refine g_cv rfl rfl (by decide) rfl rfl (Nat.le_of_ble_eq_true rfl) (as2 := [AI 9]) rfl sh2 rfl (by omega) (L0 := [vR r0, vI 9]) rfl ?_
    exact (k2 c1)

set_option maxRecDepth 8192 in
theorem t225_42 {d : Nat} {τ : T2} {Q : RS → T2 → Prop} {r0 : Nat} (hd : 1 ≤ d) (sh1 : tS τ r0 = (1, 21, 0)) (k1 : G (d - 1) 163 0 [vR r0, vI 9] [] τ (KC d 225 45 48 [none, none, none, none, none, none, none, none, none] [] Q)) : G d 225 42 [vR r0, none, none, none, none, none, none, none, none] [] τ Q := by
  refine g_sk 2 (pc1 := 45) (st1 := [AI 9, AR r0]) rfl ?_
  refine G_fg (lw2_f _ (lw2_k _ (lw2_k _ (lw2_k _ (lw2_k _ (lw2_k _ (lw2_k _ (lw2_k _ (lw2_k _ lw2_nil))))))))) ?_
  refine g_cv rfl rfl (by decide) rfl rfl (Nat.le_of_ble_eq_true rfl) (as2 := [AI 9]) rfl sh1 rfl (by omega) (L0 := [vR r0, vI 9]) rfl ?_
  exact k1

set_option maxRecDepth 8192 in
theorem t225_48 {d : Nat} {τ : T2} {Q : RS → T2 → Prop} {y0 : Int} (k1 : Q (.inl (some (AI y0))) τ) : G d 225 48 [none, none, none, none, none, none, none, none, none] [AI y0] τ Q := by
  refine g_iret rfl rfl ?_
  exact k1

set_option maxRecDepth 8192 in
theorem t225_55 {d : Nat} {τ : T2} {Q : RS → T2 → Prop} {x4 x5 : Int} {r0 q3 n5 : Nat} (hd : 1 ≤ d) (sh1 : tS τ r0 = (1, 21, 0)) (p4 : tP τ r0 10 = some q3) (sh6 : tS τ q3 = (2, 3, n5)) (b7 : x5 < (tI τ r0 6) → (0 : Int) ≤ x5 ∧ x5 < (n5 : Int)) (k1 : (tI τ r0 6) ≤ x5 → G (d - 1) 165 0 [vR r0, vI x4] [] τ (KC d 225 214 217 [none, none, none, none, none, none, none, none, none] [] Q)) (k2 : x5 < (tI τ r0 6) → G d 225 76 [vR r0, none, none, none, vI x4, vI x5, vI 0, vJ (tI τ q3 x5.toNat), none] [] τ Q) : G d 225 55 [vR r0, none, none, none, vI x4, vI x5, none, none, none] [] τ Q := by
  refine g_sk 2 (pc1 := 58) (st1 := [AR r0, AI x5]) rfl ?_
  refine g_gI rfl (ci := 21) (k := 6) rfl sh1 ?_
  refine g_br2 rfl (t := 211) rfl (fun c2 => ?_) (fun c2 => ?_)
  · have c2 : (tI τ r0 6) ≤ x5 := of_decide_eq_true c2
    refine g_sk 2 (pc1 := 214) (st1 := [AI x4, AR r0]) rfl ?_
    refine G_fg (lw2_f _ (lw2_k _ (lw2_k _ (lw2_k _ (lw2_f _ (lw2_f _ (lw2_k _ (lw2_k _ (lw2_k _ lw2_nil))))))))) ?_
    refine g_cv rfl rfl (by decide) rfl rfl (Nat.le_of_ble_eq_true rfl) (as2 := [AI x4]) rfl sh1 rfl (by omega) (L0 := [vR r0, vI x4]) rfl ?_
    exact (k1 c2)
  · have c2 : x5 < (tI τ r0 6) := Int.not_le.mp (of_decide_eq_false c2)
    refine g_sx 3 (pc1 := 68) (L1 := [vR r0, none, none, none, vI x4, vI x5, vI 0, none, none]) (st1 := [AR r0]) rfl ?_
    refine g_gQ rfl (ci := 21) (k := 10) rfl sh1 p4 ?_
    refine g_sk 1 (pc1 := 73) (st1 := [AI x5, AR q3]) rfl ?_
    refine g_lald rfl sh6 (b7 c2).1 (b7 c2).2 ?_
    refine g_sx 1 (pc1 := 76) (L1 := [vR r0, none, none, none, vI x4, vI x5, vI 0, vJ (tI τ q3 x5.toNat), none]) (st1 := []) rfl ?_
    exact (k2 c2)

set_option maxRecDepth 8192 in
theorem t225_76 {d : Nat} {τ : T2} {Q : RS → T2 → Prop} {x4 x5 x6 x7 : Int} {r0 : Nat} (sh2 : tS τ r0 = (1, 21, 0)) (k1 : (lcm x7 0) ≤ 0 → ¬ x6 = (tI τ r0 32) → G d 225 114 [vR r0, none, none, none, vI x4, vI x5, vI x6, vI 0, vI 0] [] τ Q) (k2 : (lcm x7 0) ≤ 0 → x6 = (tI τ r0 32) → G d 225 114 [vR r0, none, none, none, vI x4, vI x5, vI x6, vI 1, vI 0] [] τ Q) (k3 : 0 < (lcm x7 0) → G d 225 76 [vR r0, none, none, none, vI x4, vI x5, vI (wr (x6 + 1)), vJ (lshr x7 5), none] [] τ Q) : G d 225 76 [vR r0, none, none, none, vI x4, vI x5, vI x6, vJ x7, none] [] τ Q := by
  refine g_sk 3 (pc1 := 80) (st1 := [AI (lcm x7 0)]) rfl ?_
  refine g_br1 rfl (t := 95) rfl (fun c1 => ?_) (fun c1 => ?_)
  · have c1 : (lcm x7 0) ≤ 0 := of_decide_eq_true c1
    refine g_sk 2 (pc1 := 98) (st1 := [AR r0, AI x6]) rfl ?_
    refine g_gI rfl (ci := 21) (k := 32) rfl sh2 ?_
    refine g_br2 rfl (t := 108) rfl (fun c3 => ?_) (fun c3 => ?_)
    · have c3 : ¬ x6 = (tI τ r0 32) := of_decide_eq_true c3
      refine g_sx 4 (pc1 := 114) (L1 := [vR r0, none, none, none, vI x4, vI x5, vI x6, vI 0, vI 0]) (st1 := []) rfl ?_
      exact (k1 c1 c3)
    · have c3 : x6 = (tI τ r0 32) := Decidable.of_not_not (of_decide_eq_false c3)
      refine g_sx 5 (pc1 := 114) (L1 := [vR r0, none, none, none, vI x4, vI x5, vI x6, vI 1, vI 0]) (st1 := []) rfl ?_
      exact (k2 c1 c3)
  · have c1 : 0 < (lcm x7 0) := Int.not_le.mp (of_decide_eq_false c1)
    refine g_sx 6 (pc1 := 76) (L1 := [vR r0, none, none, none, vI x4, vI x5, vI (wr (x6 + 1)), vJ (lshr x7 5), none]) (st1 := []) rfl ?_
    exact (k3 c1)

set_option maxRecDepth 8192 in
theorem t225_114 {d : Nat} {τ : T2} {Q : RS → T2 → Prop} {x4 x5 x6 x7 x8 : Int} {r0 q6 n8 q12 n14 : Nat} (sh1 : tS τ r0 = (1, 21, 0)) (p7 : tP τ r0 31 = some q6) (sh9 : tS τ q6 = (2, 1, n8)) (b10 : x8 < (tI τ r0 32) → ¬ x7 = 0 → (0 : Int) ≤ x8 ∧ x8 < (n8 : Int)) (p13 : tP τ r0 10 = some q12) (sh15 : tS τ q12 = (2, 3, n14)) (b16 : x8 < (tI τ r0 32) → ¬ x7 = 0 → ¬ (tI τ q6 x8.toNat) = 63 → (0 : Int) ≤ x5 ∧ x5 < (n14 : Int)) (k1 : (tI τ r0 32) ≤ x8 → x7 = 0 → G d 225 55 [vR r0, none, none, none, vI (wr (x4 + 0)), vI (wr (x5 + 1)), none, none, none] [] τ Q) (k2 : (tI τ r0 32) ≤ x8 → ¬ x7 = 0 → G d 225 55 [vR r0, none, none, none, vI (wr (x4 + 1)), vI (wr (x5 + 1)), none, none, none] [] τ Q) (k3 : x8 < (tI τ r0 32) → x7 = 0 → x7 = 0 → G d 225 55 [vR r0, none, none, none, vI (wr (x4 + 0)), vI (wr (x5 + 1)), none, none, none] [] τ Q) (k4 : x8 < (tI τ r0 32) → x7 = 0 → ¬ x7 = 0 → G d 225 55 [vR r0, none, none, none, vI (wr (x4 + 1)), vI (wr (x5 + 1)), none, none, none] [] τ Q) (k5 : x8 < (tI τ r0 32) → ¬ x7 = 0 → (tI τ q6 x8.toNat) = 63 → G d 225 114 [vR r0, none, none, none, vI x4, vI x5, vI x6, vI 1, vI (wr (x8 + 1))] [] τ Q) (k6 : x8 < (tI τ r0 32) → ¬ x7 = 0 → ¬ (tI τ q6 x8.toNat) = 63 → ¬ (wr ((wr ((tI τ q6 x8.toNat) - 97)) + 1)) = (wr (land (lshr (tI τ q12 x5.toNat) (wr (5 * (wr ((wr (x6 - 1)) - x8))))) 31)) → G d 225 114 [vR r0, none, none, none, vI x4, vI x5, vI x6, vI 0, vI (wr (x8 + 1))] [] τ Q) (k7 : x8 < (tI τ r0 32) → ¬ x7 = 0 → ¬ (tI τ q6 x8.toNat) = 63 → (wr ((wr ((tI τ q6 x8.toNat) - 97)) + 1)) = (wr (land (lshr (tI τ q12 x5.toNat) (wr (5 * (wr ((wr (x6 - 1)) - x8))))) 31)) → G d 225 114 [vR r0, none, none, none, vI x4, vI x5, vI x6, vI 1, vI (wr (x8 + 1))] [] τ Q) : G d 225 114 [vR r0, none, none, none, vI x4, vI x5, vI x6, vI x7, vI x8] [] τ Q := by
  refine g_sk 2 (pc1 := 117) (st1 := [AR r0, AI x8]) rfl ?_
  refine g_gI rfl (ci := 21) (k := 32) rfl sh1 ?_
  refine g_br2 rfl (t := 190) rfl (fun c2 => ?_) (fun c2 => ?_)
  · have c2 : (tI τ r0 32) ≤ x8 := of_decide_eq_true c2
    refine g_sk 2 (pc1 := 194) (st1 := [AI x7, AI x4]) rfl ?_
    refine g_br1 rfl (t := 201) rfl (fun c3 => ?_) (fun c3 => ?_)
    · have c3 : x7 = 0 := of_decide_eq_true c3
      refine g_sx 5 (pc1 := 55) (L1 := [vR r0, none, none, none, vI (wr (x4 + 0)), vI (wr (x5 + 1)), vI x6, vI x7, vI x8]) (st1 := []) rfl ?_
      exact G_fg (lw2_k _ (lw2_k _ (lw2_k _ (lw2_k _ (lw2_k _ (lw2_k _ (lw2_f _ (lw2_f _ (lw2_f _ lw2_nil))))))))) (k1 c2 c3)
    · have c3 : ¬ x7 = 0 := of_decide_eq_false c3
      refine g_sx 6 (pc1 := 55) (L1 := [vR r0, none, none, none, vI (wr (x4 + 1)), vI (wr (x5 + 1)), vI x6, vI x7, vI x8]) (st1 := []) rfl ?_
      exact G_fg (lw2_k _ (lw2_k _ (lw2_k _ (lw2_k _ (lw2_k _ (lw2_k _ (lw2_f _ (lw2_f _ (lw2_f _ lw2_nil))))))))) (k2 c2 c3)
  · have c2 : x8 < (tI τ r0 32) := Int.not_le.mp (of_decide_eq_false c2)
    refine g_sk 1 (pc1 := 125) (st1 := [AI x7]) rfl ?_
    refine g_br1 rfl (t := 190) rfl (fun c4 => ?_) (fun c4 => ?_)
    · have c4 : x7 = 0 := of_decide_eq_true c4
      refine g_sk 2 (pc1 := 194) (st1 := [AI x7, AI x4]) rfl ?_
      refine g_br1 rfl (t := 201) rfl (fun c5 => ?_) (fun c5 => ?_)
      · have c5 : x7 = 0 := of_decide_eq_true c5
        refine g_sx 5 (pc1 := 55) (L1 := [vR r0, none, none, none, vI (wr (x4 + 0)), vI (wr (x5 + 1)), vI x6, vI x7, vI x8]) (st1 := []) rfl ?_
        exact G_fg (lw2_k _ (lw2_k _ (lw2_k _ (lw2_k _ (lw2_k _ (lw2_k _ (lw2_f _ (lw2_f _ (lw2_f _ lw2_nil))))))))) (k3 c2 c4 c5)
      · have c5 : ¬ x7 = 0 := of_decide_eq_false c5
        refine g_sx 6 (pc1 := 55) (L1 := [vR r0, none, none, none, vI (wr (x4 + 1)), vI (wr (x5 + 1)), vI x6, vI x7, vI x8]) (st1 := []) rfl ?_
        exact G_fg (lw2_k _ (lw2_k _ (lw2_k _ (lw2_k _ (lw2_k _ (lw2_k _ (lw2_f _ (lw2_f _ (lw2_f _ lw2_nil))))))))) (k4 c2 c4 c5)
    · have c4 : ¬ x7 = 0 := of_decide_eq_false c4
      refine g_sk 1 (pc1 := 129) (st1 := [AR r0]) rfl ?_
      refine g_gQ rfl (ci := 21) (k := 31) rfl sh1 p7 ?_
      refine g_sk 1 (pc1 := 134) (st1 := [AI x8, AR q6]) rfl ?_
      refine g_bald rfl sh9 (by decide) (b10 c2 c4).1 (b10 c2 c4).2 ?_
      refine g_sk 1 (pc1 := 137) (st1 := [AI 63, AI (tI τ q6 x8.toNat)]) rfl ?_
      refine g_br2 rfl (t := 177) rfl (fun c11 => ?_) (fun c11 => ?_)
      · have c11 : (tI τ q6 x8.toNat) = 63 := of_decide_eq_true c11
        refine g_sx 5 (pc1 := 114) (L1 := [vR r0, none, none, none, vI x4, vI x5, vI x6, vI 1, vI (wr (x8 + 1))]) (st1 := []) rfl ?_
        exact (k5 c2 c4 c11)
      · have c11 : ¬ (tI τ q6 x8.toNat) = 63 := of_decide_eq_false c11
        refine g_sk 1 (pc1 := 141) (st1 := [AR r0]) rfl ?_
        refine g_gQ rfl (ci := 21) (k := 31) rfl sh1 p7 ?_
        refine g_sk 1 (pc1 := 146) (st1 := [AI x8, AR q6]) rfl ?_
        refine g_bald rfl sh9 (by decide) (b10 c2 c4).1 (b10 c2 c4).2 ?_
        refine g_sk 5 (pc1 := 153) (st1 := [AR r0, AI (wr ((wr ((tI τ q6 x8.toNat) - 97)) + 1))]) rfl ?_
        refine g_gQ rfl (ci := 21) (k := 10) rfl sh1 p13 ?_
        refine g_sk 1 (pc1 := 158) (st1 := [AI x5, AR q12, AI (wr ((wr ((tI τ q6 x8.toNat) - 97)) + 1))]) rfl ?_
        refine g_lald rfl sh15 (b16 c2 c4 c11).1 (b16 c2 c4 c11).2 ?_
        refine g_sk 11 (pc1 := 174) (st1 := [AI (wr (land (lshr (tI τ q12 x5.toNat) (wr (5 * (wr ((wr (x6 - 1)) - x8))))) 31)), AI (wr ((wr ((tI τ q6 x8.toNat) - 97)) + 1))]) rfl ?_
        refine g_br2 rfl (t := 181) rfl (fun c17 => ?_) (fun c17 => ?_)
        · have c17 : ¬ (wr ((wr ((tI τ q6 x8.toNat) - 97)) + 1)) = (wr (land (lshr (tI τ q12 x5.toNat) (wr (5 * (wr ((wr (x6 - 1)) - x8))))) 31)) := of_decide_eq_true c17
          refine g_sx 4 (pc1 := 114) (L1 := [vR r0, none, none, none, vI x4, vI x5, vI x6, vI 0, vI (wr (x8 + 1))]) (st1 := []) rfl ?_
          exact (k6 c2 c4 c11 c17)
        · have c17 : (wr ((wr ((tI τ q6 x8.toNat) - 97)) + 1)) = (wr (land (lshr (tI τ q12 x5.toNat) (wr (5 * (wr ((wr (x6 - 1)) - x8))))) 31)) := Decidable.of_not_not (of_decide_eq_false c17)
          refine g_sx 5 (pc1 := 114) (L1 := [vR r0, none, none, none, vI x4, vI x5, vI x6, vI 1, vI (wr (x8 + 1))]) (st1 := []) rfl ?_
          exact (k7 c2 c4 c11 c17)

set_option maxRecDepth 8192 in
theorem t225_217 {d : Nat} {τ : T2} {Q : RS → T2 → Prop} {y0 : Int} (k1 : Q (.inl (some (AI y0))) τ) : G d 225 217 [none, none, none, none, none, none, none, none, none] [AI y0] τ Q := by
  refine g_iret rfl rfl ?_
  exact k1

set_option maxRecDepth 8192 in
theorem t226_0 {d : Nat} {τ : T2} {Q : RS → T2 → Prop} {x1 : Int} {r0 q4 n6 : Nat} (sh2 : tS τ r0 = (1, 21, 0)) (p5 : tP τ r0 33 = some q4) (sh7 : tS τ q4 = (2, 1, n6)) (b8 : x1 < 0 → (tI (uI τ r0 0 1) r0 0) ≤ 0 → (0 : Int) ≤ x1 ∧ x1 < (n6 : Int)) (b11 : 0 ≤ x1 → x1 < (tI τ r0 34) → (tI (uI τ r0 0 0) r0 0) ≤ 0 → (0 : Int) ≤ x1 ∧ x1 < (n6 : Int)) (b13 : 0 ≤ x1 → (tI τ r0 34) ≤ x1 → (tI (uI τ r0 0 1) r0 0) ≤ 0 → (0 : Int) ≤ x1 ∧ x1 < (n6 : Int)) (k1 : x1 < 0 → (tI (uI τ r0 0 1) r0 0) ≤ 0 → Q (.inl (some (AI (tI (uI τ r0 0 1) q4 x1.toNat)))) (uI τ r0 0 1)) (k2 : x1 < 0 → 0 < (tI (uI τ r0 0 1) r0 0) → Q (.inl (some (AI 0))) (uI τ r0 0 1)) (k3 : 0 ≤ x1 → x1 < (tI τ r0 34) → (tI (uI τ r0 0 0) r0 0) ≤ 0 → Q (.inl (some (AI (tI (uI τ r0 0 0) q4 x1.toNat)))) (uI τ r0 0 0)) (k4 : 0 ≤ x1 → x1 < (tI τ r0 34) → 0 < (tI (uI τ r0 0 0) r0 0) → Q (.inl (some (AI 0))) (uI τ r0 0 0)) (k5 : 0 ≤ x1 → (tI τ r0 34) ≤ x1 → (tI (uI τ r0 0 1) r0 0) ≤ 0 → Q (.inl (some (AI (tI (uI τ r0 0 1) q4 x1.toNat)))) (uI τ r0 0 1)) (k6 : 0 ≤ x1 → (tI τ r0 34) ≤ x1 → 0 < (tI (uI τ r0 0 1) r0 0) → Q (.inl (some (AI 0))) (uI τ r0 0 1)) : G d 226 0 [vR r0, vI x1] [] τ Q := by
  refine g_sk 2 (pc1 := 2) (st1 := [AI x1, AR r0]) rfl ?_
  refine g_br1 rfl (t := 13) rfl (fun c1 => ?_) (fun c1 => ?_)
  · have c1 : x1 < 0 := of_decide_eq_true c1
    refine g_sk 2 (pc1 := 18) (st1 := [AI 1, AR r0]) rfl ?_
    refine g_putI (x := 1) rfl (ci := 21) (k := 0) (kd := 0) rfl (by decide) rfl rfl sh2 ?_
    refine g_sk 1 (pc1 := 22) (st1 := [AR r0]) rfl ?_
    refine g_gI rfl (ci := 21) (k := 0) rfl sh2 ?_
    refine g_br1 rfl (t := 32) rfl (fun c3 => ?_) (fun c3 => ?_)
    · have c3 : (tI (uI τ r0 0 1) r0 0) ≤ 0 := of_decide_eq_true c3
      refine g_sk 1 (pc1 := 33) (st1 := [AR r0]) rfl ?_
      refine g_gQ rfl (ci := 21) (k := 33) rfl sh2 p5 ?_
      refine g_sk 1 (pc1 := 37) (st1 := [AI x1, AR q4]) rfl ?_
      refine g_bald rfl sh7 (by decide) (b8 c1 c3).1 (b8 c1 c3).2 ?_
      refine g_iret rfl rfl ?_
      exact (k1 c1 c3)
    · have c3 : 0 < (tI (uI τ r0 0 1) r0 0) := Int.not_le.mp (of_decide_eq_false c3)
      refine g_sk 2 (pc1 := 38) (st1 := [AI 0]) rfl ?_
      refine g_iret rfl rfl ?_
      exact (k2 c1 c3)
  · have c1 : 0 ≤ x1 := Int.not_lt.mp (of_decide_eq_false c1)
    refine g_sk 2 (pc1 := 7) (st1 := [AR r0, AI x1, AR r0]) rfl ?_
    refine g_gI rfl (ci := 21) (k := 34) rfl sh2 ?_
    refine g_br2 rfl (t := 17) rfl (fun c9 => ?_) (fun c9 => ?_)
    · have c9 : x1 < (tI τ r0 34) := of_decide_eq_true c9
      refine g_sk 1 (pc1 := 18) (st1 := [AI 0, AR r0]) rfl ?_
      refine g_putI (x := 0) rfl (ci := 21) (k := 0) (kd := 0) rfl (by decide) rfl rfl sh2 ?_
      refine g_sk 1 (pc1 := 22) (st1 := [AR r0]) rfl ?_
      refine g_gI rfl (ci := 21) (k := 0) rfl sh2 ?_
      refine g_br1 rfl (t := 32) rfl (fun c10 => ?_) (fun c10 => ?_)
      · have c10 : (tI (uI τ r0 0 0) r0 0) ≤ 0 := of_decide_eq_true c10
        refine g_sk 1 (pc1 := 33) (st1 := [AR r0]) rfl ?_
        refine g_gQ rfl (ci := 21) (k := 33) rfl sh2 p5 ?_
        refine g_sk 1 (pc1 := 37) (st1 := [AI x1, AR q4]) rfl ?_
        refine g_bald rfl sh7 (by decide) (b11 c1 c9 c10).1 (b11 c1 c9 c10).2 ?_
        refine g_iret rfl rfl ?_
        exact (k3 c1 c9 c10)
      · have c10 : 0 < (tI (uI τ r0 0 0) r0 0) := Int.not_le.mp (of_decide_eq_false c10)
        refine g_sk 2 (pc1 := 38) (st1 := [AI 0]) rfl ?_
        refine g_iret rfl rfl ?_
        exact (k4 c1 c9 c10)
    · have c9 : (tI τ r0 34) ≤ x1 := Int.not_lt.mp (of_decide_eq_false c9)
      refine g_sk 2 (pc1 := 18) (st1 := [AI 1, AR r0]) rfl ?_
      refine g_putI (x := 1) rfl (ci := 21) (k := 0) (kd := 0) rfl (by decide) rfl rfl sh2 ?_
      refine g_sk 1 (pc1 := 22) (st1 := [AR r0]) rfl ?_
      refine g_gI rfl (ci := 21) (k := 0) rfl sh2 ?_
      refine g_br1 rfl (t := 32) rfl (fun c12 => ?_) (fun c12 => ?_)
      · have c12 : (tI (uI τ r0 0 1) r0 0) ≤ 0 := of_decide_eq_true c12
        refine g_sk 1 (pc1 := 33) (st1 := [AR r0]) rfl ?_
        refine g_gQ rfl (ci := 21) (k := 33) rfl sh2 p5 ?_
        refine g_sk 1 (pc1 := 37) (st1 := [AI x1, AR q4]) rfl ?_
        refine g_bald rfl sh7 (by decide) (b13 c1 c9 c12).1 (b13 c1 c9 c12).2 ?_
        refine g_iret rfl rfl ?_
        exact (k5 c1 c9 c12)
      · have c12 : 0 < (tI (uI τ r0 0 1) r0 0) := Int.not_le.mp (of_decide_eq_false c12)
        refine g_sk 2 (pc1 := 38) (st1 := [AI 0]) rfl ?_
        refine g_iret rfl rfl ?_
        exact (k6 c1 c9 c12)

set_option maxRecDepth 8192 in
theorem t227_0 {d : Nat} {τ : T2} {Q : RS → T2 → Prop} {x1 : Int} {r0 : Nat} (hd : 1 ≤ d) (sh1 : tS τ r0 = (1, 21, 0)) (k1 : G (d - 1) 206 0 [vR r0, vI x1] [] (uI τ r0 0 0) (KC d 227 7 10 [vR r0, vI x1] [] Q)) : G d 227 0 [vR r0, vI x1] [] τ Q := by
  refine g_sk 2 (pc1 := 2) (st1 := [AI 0, AR r0]) rfl ?_
  refine g_putI (x := 0) rfl (ci := 21) (k := 0) (kd := 0) rfl (by decide) rfl rfl sh1 ?_
  refine g_sk 2 (pc1 := 7) (st1 := [AI x1, AR r0]) rfl ?_
  refine g_cv rfl rfl (by decide) rfl rfl (Nat.le_of_ble_eq_true rfl) (as2 := [AI x1]) rfl sh1 rfl (by omega) (L0 := [vR r0, vI x1]) rfl ?_
  exact k1

set_option maxRecDepth 8192 in
theorem t227_10 {d : Nat} {τ : T2} {Q : RS → T2 → Prop} {x1 y0 : Int} {r0 : Nat} (hd : 1 ≤ d) (sh2 : tS τ r0 = (1, 21, 0)) (k1 : ¬ y0 = 0 → G (d - 1) 208 0 [vR r0, vI x1, none, none, none] [] τ (KC d 227 21 24 [vR r0, none] [] Q)) (k2 : y0 = 0 → G (d - 1) 163 0 [vR r0, vI 2] [] τ (KC d 227 15 18 [none, none] [] Q)) : G d 227 10 [vR r0, vI x1] [AI y0] τ Q := by
  refine g_br1 rfl (t := 19) rfl (fun c1 => ?_) (fun c1 => ?_)
  · have c1 : ¬ y0 = 0 := of_decide_eq_true c1
    refine g_sk 2 (pc1 := 21) (st1 := [AI x1, AR r0]) rfl ?_
    refine G_fg (lw2_k _ (lw2_f _ lw2_nil)) ?_
    refine g_cv rfl rfl (by decide) rfl rfl (Nat.le_of_ble_eq_true rfl) (as2 := [AI x1]) rfl sh2 rfl (by omega) (L0 := [vR r0, vI x1, none, none, none]) rfl ?_
    exact (k1 c1)
  · have c1 : y0 = 0 := Decidable.of_not_not (of_decide_eq_false c1)
    refine g_sk 2 (pc1 := 15) (st1 := [AI 2, AR r0]) rfl ?_
    refine G_fg (lw2_f _ (lw2_f _ lw2_nil)) ?_
    refine g_cv rfl rfl (by decide) rfl rfl (Nat.le_of_ble_eq_true rfl) (as2 := [AI 2]) rfl sh2 rfl (by omega) (L0 := [vR r0, vI 2]) rfl ?_
    exact (k2 c1)

set_option maxRecDepth 8192 in
theorem t227_18 {d : Nat} {τ : T2} {Q : RS → T2 → Prop} {y0 : Int} (k1 : Q (.inl (some (AI y0))) τ) : G d 227 18 [none, none] [AI y0] τ Q := by
  refine g_iret rfl rfl ?_
  exact k1

set_option maxRecDepth 8192 in
theorem t227_24 {d : Nat} {τ : T2} {Q : RS → T2 → Prop} {y0 : Int} {r0 q4 n6 : Nat} (hd : 1 ≤ d) (sh2 : tS τ r0 = (1, 21, 0)) (p5 : tP τ r0 10 = some q4) (sh7 : tS τ q4 = (2, 3, n6)) (b8 : ¬ y0 = 0 → ¬ (tI τ r0 6) = 40 → (0 : Int) ≤ (tI τ r0 6) ∧ (tI τ r0 6) < (n6 : Int)) (k1 : ¬ y0 = 0 → ¬ (tI τ r0 6) = 40 → G (d - 1) 170 0 [vR r0, vI 6, vI 0, vI 0, vI 0, vI 0, none, none] [] (uI τ q4 (tI τ r0 6).toNat (tI τ r0 22)) (KC d 227 68 71 [vR r0, none] [] Q)) (k2 : ¬ y0 = 0 → (tI τ r0 6) = 40 → G (d - 1) 163 0 [vR r0, vI 3] [] τ (KC d 227 44 47 [none, none] [] Q)) (k3 : y0 = 0 → G (d - 1) 163 0 [vR r0, vI 2] [] τ (KC d 227 29 32 [none, none] [] Q)) : G d 227 24 [vR r0, none] [AI y0] τ Q := by
  refine g_br1 rfl (t := 33) rfl (fun c1 => ?_) (fun c1 => ?_)
  · have c1 : ¬ y0 = 0 := of_decide_eq_true c1
    refine g_sk 1 (pc1 := 34) (st1 := [AR r0]) rfl ?_
    refine g_gI rfl (ci := 21) (k := 6) rfl sh2 ?_
    refine g_sk 1 (pc1 := 39) (st1 := [AI 40, AI (tI τ r0 6)]) rfl ?_
    refine g_br2 rfl (t := 48) rfl (fun c3 => ?_) (fun c3 => ?_)
    · have c3 : ¬ (tI τ r0 6) = 40 := of_decide_eq_true c3
      refine g_sk 1 (pc1 := 49) (st1 := [AR r0]) rfl ?_
      refine g_gQ rfl (ci := 21) (k := 10) rfl sh2 p5 ?_
      refine g_sk 1 (pc1 := 53) (st1 := [AR r0, AR q4]) rfl ?_
      refine g_gI rfl (ci := 21) (k := 6) rfl sh2 ?_
      refine g_sk 1 (pc1 := 57) (st1 := [AR r0, AI (tI τ r0 6), AR q4]) rfl ?_
      refine g_gL rfl (ci := 21) (k := 22) rfl sh2 ?_
      refine g_last rfl sh7 (b8 c1 c3).1 (b8 c1 c3).2 ?_
      refine g_sk 6 (pc1 := 68) (st1 := [AI 0, AI 0, AI 0, AI 0, AI 6, AR r0]) rfl ?_
      refine g_cv rfl rfl (by decide) rfl rfl (Nat.le_of_ble_eq_true rfl) (as2 := [AI 6, AI 0, AI 0, AI 0, AI 0]) rfl sh2 rfl (by omega) (L0 := [vR r0, vI 6, vI 0, vI 0, vI 0, vI 0, none, none]) rfl ?_
      exact (k1 c1 c3)
    · have c3 : (tI τ r0 6) = 40 := Decidable.of_not_not (of_decide_eq_false c3)
      refine g_sk 2 (pc1 := 44) (st1 := [AI 3, AR r0]) rfl ?_
      refine G_fg (lw2_f _ (lw2_k _ lw2_nil)) ?_
      refine g_cv rfl rfl (by decide) rfl rfl (Nat.le_of_ble_eq_true rfl) (as2 := [AI 3]) rfl sh2 rfl (by omega) (L0 := [vR r0, vI 3]) rfl ?_
      exact (k2 c1 c3)
  · have c1 : y0 = 0 := Decidable.of_not_not (of_decide_eq_false c1)
    refine g_sk 2 (pc1 := 29) (st1 := [AI 2, AR r0]) rfl ?_
    refine G_fg (lw2_f _ (lw2_k _ lw2_nil)) ?_
    refine g_cv rfl rfl (by decide) rfl rfl (Nat.le_of_ble_eq_true rfl) (as2 := [AI 2]) rfl sh2 rfl (by omega) (L0 := [vR r0, vI 2]) rfl ?_
    exact (k3 c1)

set_option maxRecDepth 8192 in
theorem t227_32 {d : Nat} {τ : T2} {Q : RS → T2 → Prop} {y0 : Int} (k1 : Q (.inl (some (AI y0))) τ) : G d 227 32 [none, none] [AI y0] τ Q := by
  refine g_iret rfl rfl ?_
  exact k1

set_option maxRecDepth 8192 in
theorem t227_47 {d : Nat} {τ : T2} {Q : RS → T2 → Prop} {y0 : Int} (k1 : Q (.inl (some (AI y0))) τ) : G d 227 47 [none, none] [AI y0] τ Q := by
  refine g_iret rfl rfl ?_
  exact k1

set_option maxRecDepth 8192 in
theorem t227_71 {d : Nat} {τ : T2} {Q : RS → T2 → Prop} {r0 : Nat} {s0 : Option Nat} (hd : 1 ≤ d) (sh1 : tS τ r0 = (1, 21, 0)) (k1 : G (d - 1) 165 0 [vR r0, vI (tI (uI τ r0 6 (wr ((tI τ r0 6) + 1))) r0 6)] [] (uI τ r0 6 (wr ((tI τ r0 6) + 1))) (KC d 227 87 90 [none, none] [] Q)) : G d 227 71 [vR r0, none] [AP s0] τ Q := by
  refine g_sk 3 (pc1 := 74) (st1 := [AR r0, AR r0]) rfl ?_
  refine g_gI rfl (ci := 21) (k := 6) rfl sh1 ?_
  refine g_sk 2 (pc1 := 79) (st1 := [AI (wr ((tI τ r0 6) + 1)), AR r0]) rfl ?_
  refine g_putI (x := (wr ((tI τ r0 6) + 1))) rfl (ci := 21) (k := 6) (kd := 0) rfl (by decide) rfl rfl sh1 ?_
  refine g_sk 2 (pc1 := 84) (st1 := [AR r0, AR r0]) rfl ?_
  refine g_gI rfl (ci := 21) (k := 6) rfl sh1 ?_
  refine G_fg (lw2_f _ (lw2_k _ lw2_nil)) ?_
  refine g_cv rfl rfl (by decide) rfl rfl (Nat.le_of_ble_eq_true rfl) (as2 := [AI (tI (uI τ r0 6 (wr ((tI τ r0 6) + 1))) r0 6)]) rfl sh1 rfl (by omega) (L0 := [vR r0, vI (tI (uI τ r0 6 (wr ((tI τ r0 6) + 1))) r0 6)]) rfl ?_
  exact k1

set_option maxRecDepth 8192 in
theorem t227_90 {d : Nat} {τ : T2} {Q : RS → T2 → Prop} {y0 : Int} (k1 : Q (.inl (some (AI y0))) τ) : G d 227 90 [none, none] [AI y0] τ Q := by
  refine g_iret rfl rfl ?_
  exact k1

set_option maxRecDepth 8192 in
theorem t228_0 {d : Nat} {τ : T2} {Q : RS → T2 → Prop} {r0 q3 n5 q8 : Nat} (hd : 1 ≤ d) (sh1 : tS τ r0 = (1, 21, 0)) (p4 : tP τ r0 9 = some q3) (sh6 : tS τ q3 = (3, 8, n5)) (b7 : ¬ (tI (uI τ r0 0 0) r0 5) = 8 → (0 : Int) ≤ (tI (uI τ r0 0 0) r0 5) ∧ (tI (uI τ r0 0 0) r0 5) < (n5 : Int)) (p9 : ¬ (tI (uI τ r0 0 0) r0 5) = 8 → tP τ q3 (tI (uI τ r0 0 0) r0 5).toNat = some q8) (sh10 : tS τ q8 = (1, 19, 0)) (k1 : ¬ (tI (uI τ r0 0 0) r0 5) = 8 → G (d - 1) 156 0 [vR q8, vI (tI (uI τ r0 0 0) r0 7), none] [] (uI τ r0 0 0) (KC d 228 33 36 [vR r0] [] Q)) (k2 : (tI (uI τ r0 0 0) r0 5) = 8 → G (d - 1) 163 0 [vR r0, vI 3] [] (uI τ r0 0 0) (KC d 228 16 19 [none] [] Q)) : G d 228 0 [vR r0] [] τ Q := by
  refine g_sk 2 (pc1 := 2) (st1 := [AI 0, AR r0]) rfl ?_
  refine g_putI (x := 0) rfl (ci := 21) (k := 0) (kd := 0) rfl (by decide) rfl rfl sh1 ?_
  refine g_sk 1 (pc1 := 6) (st1 := [AR r0]) rfl ?_
  refine g_gI rfl (ci := 21) (k := 5) rfl sh1 ?_
  refine g_sk 1 (pc1 := 11) (st1 := [AI 8, AI (tI (uI τ r0 0 0) r0 5)]) rfl ?_
  refine g_br2 rfl (t := 20) rfl (fun c2 => ?_) (fun c2 => ?_)
  · have c2 : ¬ (tI (uI τ r0 0 0) r0 5) = 8 := of_decide_eq_true c2
    refine g_sk 1 (pc1 := 21) (st1 := [AR r0]) rfl ?_
    refine g_gQ rfl (ci := 21) (k := 9) rfl sh1 p4 ?_
    refine g_sk 1 (pc1 := 25) (st1 := [AR r0, AR q3]) rfl ?_
    refine g_gI rfl (ci := 21) (k := 5) rfl sh1 ?_
    refine g_aalQ rfl sh6 (by decide) (b7 c2).1 (b7 c2).2 (p9 c2) ?_
    refine g_sk 1 (pc1 := 30) (st1 := [AR r0, AR q8]) rfl ?_
    refine g_gI rfl (ci := 21) (k := 7) rfl sh1 ?_
    refine g_cv rfl rfl (by decide) rfl rfl (Nat.le_of_ble_eq_true rfl) (as2 := [AI (tI (uI τ r0 0 0) r0 7)]) rfl sh10 rfl (by omega) (L0 := [vR q8, vI (tI (uI τ r0 0 0) r0 7), none]) rfl ?_
    exact (k1 c2)
  · have c2 : (tI (uI τ r0 0 0) r0 5) = 8 := Decidable.of_not_not (of_decide_eq_false c2)
    refine g_sk 2 (pc1 := 16) (st1 := [AI 3, AR r0]) rfl ?_
    refine G_fg (lw2_f _ lw2_nil) ?_
    refine g_cv rfl rfl (by decide) rfl rfl (Nat.le_of_ble_eq_true rfl) (as2 := [AI 3]) rfl sh1 rfl (by omega) (L0 := [vR r0, vI 3]) rfl ?_
    exact (k2 c2)

set_option maxRecDepth 8192 in
theorem t228_19 {d : Nat} {τ : T2} {Q : RS → T2 → Prop} {y0 : Int} (k1 : Q (.inl (some (AI y0))) τ) : G d 228 19 [none] [AI y0] τ Q := by
  refine g_iret rfl rfl ?_
  exact k1

set_option maxRecDepth 8192 in
theorem t228_36 {d : Nat} {τ : T2} {Q : RS → T2 → Prop} {r0 : Nat} (hd : 1 ≤ d) (sh1 : tS τ r0 = (1, 21, 0)) (k1 : G (d - 1) 170 0 [vR r0, vI 7, vI 0, vI 0, vI 0, vI 0, none, none] [] τ (KC d 228 43 46 [vR r0] [] Q)) : G d 228 36 [vR r0] [] τ Q := by
  refine g_sk 6 (pc1 := 43) (st1 := [AI 0, AI 0, AI 0, AI 0, AI 7, AR r0]) rfl ?_
  refine g_cv rfl rfl (by decide) rfl rfl (Nat.le_of_ble_eq_true rfl) (as2 := [AI 7, AI 0, AI 0, AI 0, AI 0]) rfl sh1 rfl (by omega) (L0 := [vR r0, vI 7, vI 0, vI 0, vI 0, vI 0, none, none]) rfl ?_
  exact k1

set_option maxRecDepth 8192 in
theorem t228_46 {d : Nat} {τ : T2} {Q : RS → T2 → Prop} {r0 : Nat} {s0 : Option Nat} (hd : 1 ≤ d) (sh1 : tS τ r0 = (1, 21, 0)) (k1 : G (d - 1) 165 0 [vR r0, vI (wr ((tI (uI τ r0 5 (wr ((tI τ r0 5) + 1))) r0 5) - 1))] [] (uI τ r0 5 (wr ((tI τ r0 5) + 1))) (KC d 228 64 67 [none] [] Q)) : G d 228 46 [vR r0] [AP s0] τ Q := by
  refine g_sk 3 (pc1 := 49) (st1 := [AR r0, AR r0]) rfl ?_
  refine g_gI rfl (ci := 21) (k := 5) rfl sh1 ?_
  refine g_sk 2 (pc1 := 54) (st1 := [AI (wr ((tI τ r0 5) + 1)), AR r0]) rfl ?_
  refine g_putI (x := (wr ((tI τ r0 5) + 1))) rfl (ci := 21) (k := 5) (kd := 0) rfl (by decide) rfl rfl sh1 ?_
  refine g_sk 2 (pc1 := 59) (st1 := [AR r0, AR r0]) rfl ?_
  refine g_gI rfl (ci := 21) (k := 5) rfl sh1 ?_
  refine g_sk 2 (pc1 := 64) (st1 := [AI (wr ((tI (uI τ r0 5 (wr ((tI τ r0 5) + 1))) r0 5) - 1)), AR r0]) rfl ?_
  refine G_fg (lw2_f _ lw2_nil) ?_
  refine g_cv rfl rfl (by decide) rfl rfl (Nat.le_of_ble_eq_true rfl) (as2 := [AI (wr ((tI (uI τ r0 5 (wr ((tI τ r0 5) + 1))) r0 5) - 1))]) rfl sh1 rfl (by omega) (L0 := [vR r0, vI (wr ((tI (uI τ r0 5 (wr ((tI τ r0 5) + 1))) r0 5) - 1))]) rfl ?_
  exact k1

set_option maxRecDepth 8192 in
theorem t228_67 {d : Nat} {τ : T2} {Q : RS → T2 → Prop} {y0 : Int} (k1 : Q (.inl (some (AI y0))) τ) : G d 228 67 [none] [AI y0] τ Q := by
  refine g_iret rfl rfl ?_
  exact k1

set_option maxRecDepth 8192 in
theorem t229_0 {d : Nat} {τ : T2} {Q : RS → T2 → Prop} {x1 : Int} {r0 : Nat} (hd : 1 ≤ d) (sh1 : tS τ r0 = (1, 21, 0)) (k1 : G (d - 1) 167 0 [vI x1, vI 1, vI 1000] [] (uI τ r0 0 0) (KC d 229 10 13 [vR r0, vI x1] [] Q)) : G d 229 0 [vR r0, vI x1] [] τ Q := by
  refine g_sk 2 (pc1 := 2) (st1 := [AI 0, AR r0]) rfl ?_
  refine g_putI (x := 0) rfl (ci := 21) (k := 0) (kd := 0) rfl (by decide) rfl rfl sh1 ?_
  refine g_sk 3 (pc1 := 10) (st1 := [AI 1000, AI 1, AI x1]) rfl ?_
  refine g_cs rfl rfl (by decide) rfl rfl (Nat.le_of_ble_eq_true rfl) rfl (by omega) (L0 := [vI x1, vI 1, vI 1000]) rfl ?_
  exact k1

set_option maxRecDepth 8192 in
theorem t229_13 {d : Nat} {τ : T2} {Q : RS → T2 → Prop} {x1 y0 : Int} {r0 : Nat} (hd : 1 ≤ d) (sh2 : tS τ r0 = (1, 21, 0)) (k1 : y0 = 0 → G (d - 1) 163 0 [vR r0, vI 2] [] τ (KC d 229 30 33 [none, none] [] Q)) (k2 : ¬ y0 = 0 → (wr ((tI τ r0 7) + x1)) ≤ 9999 → G (d - 1) 170 0 [vR r0, vI 8, vI (tI τ r0 7), vI 0, vI 0, vI 0, none, none] [] τ (KC d 229 44 47 [vR r0, vI x1] [] Q)) (k3 : ¬ y0 = 0 → 9999 < (wr ((tI τ r0 7) + x1)) → G (d - 1) 163 0 [vR r0, vI 2] [] τ (KC d 229 30 33 [none, none] [] Q)) : G d 229 13 [vR r0, vI x1] [AI y0] τ Q := by
  refine g_br1 rfl (t := 28) rfl (fun c1 => ?_) (fun c1 => ?_)
  · have c1 : y0 = 0 := of_decide_eq_true c1
    refine g_sk 2 (pc1 := 30) (st1 := [AI 2, AR r0]) rfl ?_
    refine G_fg (lw2_f _ (lw2_f _ lw2_nil)) ?_
    refine g_cv rfl rfl (by decide) rfl rfl (Nat.le_of_ble_eq_true rfl) (as2 := [AI 2]) rfl sh2 rfl (by omega) (L0 := [vR r0, vI 2]) rfl ?_
    exact (k1 c1)
  · have c1 : ¬ y0 = 0 := of_decide_eq_false c1
    refine g_sk 1 (pc1 := 17) (st1 := [AR r0]) rfl ?_
    refine g_gI rfl (ci := 21) (k := 7) rfl sh2 ?_
    refine g_sk 3 (pc1 := 25) (st1 := [AI 9999, AI (wr ((tI τ r0 7) + x1))]) rfl ?_
    refine g_br2 rfl (t := 34) rfl (fun c3 => ?_) (fun c3 => ?_)
    · have c3 : (wr ((tI τ r0 7) + x1)) ≤ 9999 := of_decide_eq_true c3
      refine g_sk 3 (pc1 := 38) (st1 := [AR r0, AI 8, AR r0]) rfl ?_
      refine g_gI rfl (ci := 21) (k := 7) rfl sh2 ?_
      refine g_sk 3 (pc1 := 44) (st1 := [AI 0, AI 0, AI 0, AI (tI τ r0 7), AI 8, AR r0]) rfl ?_
      refine g_cv rfl rfl (by decide) rfl rfl (Nat.le_of_ble_eq_true rfl) (as2 := [AI 8, AI (tI τ r0 7), AI 0, AI 0, AI 0]) rfl sh2 rfl (by omega) (L0 := [vR r0, vI 8, vI (tI τ r0 7), vI 0, vI 0, vI 0, none, none]) rfl ?_
      exact (k2 c1 c3)
    · have c3 : 9999 < (wr ((tI τ r0 7) + x1)) := Int.not_le.mp (of_decide_eq_false c3)
      refine g_sk 2 (pc1 := 30) (st1 := [AI 2, AR r0]) rfl ?_
      refine G_fg (lw2_f _ (lw2_f _ lw2_nil)) ?_
      refine g_cv rfl rfl (by decide) rfl rfl (Nat.le_of_ble_eq_true rfl) (as2 := [AI 2]) rfl sh2 rfl (by omega) (L0 := [vR r0, vI 2]) rfl ?_
      exact (k3 c1 c3)

set_option maxRecDepth 8192 in
theorem t229_33 {d : Nat} {τ : T2} {Q : RS → T2 → Prop} {y0 : Int} (k1 : Q (.inl (some (AI y0))) τ) : G d 229 33 [none, none] [AI y0] τ Q := by
  refine g_iret rfl rfl ?_
  exact k1

set_option maxRecDepth 8192 in
theorem t229_47 {d : Nat} {τ : T2} {Q : RS → T2 → Prop} {x1 : Int} {r0 : Nat} {s0 : Option Nat} (hd : 1 ≤ d) (sh1 : tS τ r0 = (1, 21, 0)) (k1 : G (d - 1) 165 0 [vR r0, vI (tI (uI τ r0 7 (wr ((tI τ r0 7) + x1))) r0 7)] [] (uI τ r0 7 (wr ((tI τ r0 7) + x1))) (KC d 229 63 66 [none, none] [] Q)) : G d 229 47 [vR r0, vI x1] [AP s0] τ Q := by
  refine g_sk 3 (pc1 := 50) (st1 := [AR r0, AR r0]) rfl ?_
  refine g_gI rfl (ci := 21) (k := 7) rfl sh1 ?_
  refine g_sk 2 (pc1 := 55) (st1 := [AI (wr ((tI τ r0 7) + x1)), AR r0]) rfl ?_
  refine g_putI (x := (wr ((tI τ r0 7) + x1))) rfl (ci := 21) (k := 7) (kd := 0) rfl (by decide) rfl rfl sh1 ?_
  refine g_sk 2 (pc1 := 60) (st1 := [AR r0, AR r0]) rfl ?_
  refine g_gI rfl (ci := 21) (k := 7) rfl sh1 ?_
  refine G_fg (lw2_f _ (lw2_f _ lw2_nil)) ?_
  refine g_cv rfl rfl (by decide) rfl rfl (Nat.le_of_ble_eq_true rfl) (as2 := [AI (tI (uI τ r0 7 (wr ((tI τ r0 7) + x1))) r0 7)]) rfl sh1 rfl (by omega) (L0 := [vR r0, vI (tI (uI τ r0 7 (wr ((tI τ r0 7) + x1))) r0 7)]) rfl ?_
  exact k1

set_option maxRecDepth 8192 in
theorem t229_66 {d : Nat} {τ : T2} {Q : RS → T2 → Prop} {y0 : Int} (k1 : Q (.inl (some (AI y0))) τ) : G d 229 66 [none, none] [AI y0] τ Q := by
  refine g_iret rfl rfl ?_
  exact k1

set_option maxRecDepth 8192 in
theorem t230_0 {d : Nat} {τ : T2} {Q : RS → T2 → Prop} {x1 : Int} {r0 : Nat} (sh2 : tS τ r0 = (1, 21, 0)) (k1 : x1 < 0 → Q (.inl (some (AI 0))) τ) (k2 : 0 ≤ x1 → (tI τ r0 5) ≤ x1 → Q (.inl (some (AI 0))) τ) (k3 : 0 ≤ x1 → x1 < (tI τ r0 5) → Q (.inl (some (AI 1))) τ) : G d 230 0 [vR r0, vI x1] [] τ Q := by
  refine g_sk 1 (pc1 := 1) (st1 := [AI x1]) rfl ?_
  refine g_br1 rfl (t := 16) rfl (fun c1 => ?_) (fun c1 => ?_)
  · have c1 : x1 < 0 := of_decide_eq_true c1
    refine g_sk 1 (pc1 := 17) (st1 := [AI 0]) rfl ?_
    refine g_zret rfl rfl (by decide) ?_
    exact (k1 c1)
  · have c1 : 0 ≤ x1 := Int.not_lt.mp (of_decide_eq_false c1)
    refine g_sk 2 (pc1 := 6) (st1 := [AR r0, AI x1]) rfl ?_
    refine g_gI rfl (ci := 21) (k := 5) rfl sh2 ?_
    refine g_br2 rfl (t := 16) rfl (fun c3 => ?_) (fun c3 => ?_)
    · have c3 : (tI τ r0 5) ≤ x1 := of_decide_eq_true c3
      refine g_sk 1 (pc1 := 17) (st1 := [AI 0]) rfl ?_
      refine g_zret rfl rfl (by decide) ?_
      exact (k2 c1 c3)
    · have c3 : x1 < (tI τ r0 5) := Int.not_le.mp (of_decide_eq_false c3)
      refine g_sk 2 (pc1 := 17) (st1 := [AI 1]) rfl ?_
      refine g_zret rfl rfl (by decide) ?_
      exact (k3 c1 c3)

set_option maxRecDepth 8192 in
theorem t231_0 {d : Nat} {τ : T2} {Q : RS → T2 → Prop} {x1 x2 : Int} {r0 : Nat} (hd : 1 ≤ d) (sh1 : tS τ r0 = (1, 21, 0)) (k1 : G (d - 1) 230 0 [vR r0, vI x1] [] (uI τ r0 0 0) (KC d 231 7 10 [vR r0, vI x1, vI x2] [] Q)) : G d 231 0 [vR r0, vI x1, vI x2] [] τ Q := by
  refine g_sk 2 (pc1 := 2) (st1 := [AI 0, AR r0]) rfl ?_
  refine g_putI (x := 0) rfl (ci := 21) (k := 0) (kd := 0) rfl (by decide) rfl rfl sh1 ?_
  refine g_sk 2 (pc1 := 7) (st1 := [AI x1, AR r0]) rfl ?_
  refine g_cv rfl rfl (by decide) rfl rfl (Nat.le_of_ble_eq_true rfl) (as2 := [AI x1]) rfl sh1 rfl (by omega) (L0 := [vR r0, vI x1]) rfl ?_
  exact k1

set_option maxRecDepth 8192 in
theorem t231_10 {d : Nat} {τ : T2} {Q : RS → T2 → Prop} {x1 x2 y0 : Int} {r0 : Nat} (hd : 1 ≤ d) (sh2 : tS τ r0 = (1, 21, 0)) (k1 : y0 = 0 → G (d - 1) 163 0 [vR r0, vI 1] [] τ (KC d 231 23 26 [none, none, none] [] Q)) (k2 : ¬ y0 = 0 → G (d - 1) 207 0 [vR r0, vI x2] [] τ (KC d 231 15 18 [vR r0, vI x1, vI x2] [] Q)) : G d 231 10 [vR r0, vI x1, vI x2] [AI y0] τ Q := by
  refine g_br1 rfl (t := 21) rfl (fun c1 => ?_) (fun c1 => ?_)
  · have c1 : y0 = 0 := of_decide_eq_true c1
    refine g_sk 2 (pc1 := 23) (st1 := [AI 1, AR r0]) rfl ?_
    refine G_fg (lw2_f _ (lw2_f _ (lw2_f _ lw2_nil))) ?_
    refine g_cv rfl rfl (by decide) rfl rfl (Nat.le_of_ble_eq_true rfl) (as2 := [AI 1]) rfl sh2 rfl (by omega) (L0 := [vR r0, vI 1]) rfl ?_
    exact (k1 c1)
  · have c1 : ¬ y0 = 0 := of_decide_eq_false c1
    refine g_sk 2 (pc1 := 15) (st1 := [AI x2, AR r0]) rfl ?_
    refine g_cv rfl rfl (by decide) rfl rfl (Nat.le_of_ble_eq_true rfl) (as2 := [AI x2]) rfl sh2 rfl (by omega) (L0 := [vR r0, vI x2]) rfl ?_
    exact (k2 c1)

set_option maxRecDepth 8192 in
theorem t231_18 {d : Nat} {τ : T2} {Q : RS → T2 → Prop} {x1 x2 y0 : Int} {r0 q3 n5 q8 : Nat} (hd : 1 ≤ d) (sh2 : tS τ r0 = (1, 21, 0)) (p4 : tP τ r0 9 = some q3) (sh6 : tS τ q3 = (3, 8, n5)) (b7 : ¬ y0 = 0 → (0 : Int) ≤ x1 ∧ x1 < (n5 : Int)) (p9 : ¬ y0 = 0 → tP τ q3 x1.toNat = some q8) (sh10 : tS τ q8 = (1, 19, 0)) (k1 : ¬ y0 = 0 → G (d - 1) 157 0 [vR q8, vI (tI τ r0 7), none, none] [] τ (KC d 231 40 43 [vR r0, none, none] [AI x2, AR r0, AR r0] Q)) (k2 : y0 = 0 → G (d - 1) 163 0 [vR r0, vI 1] [] τ (KC d 231 23 26 [none, none, none] [] Q)) : G d 231 18 [vR r0, vI x1, vI x2] [AI y0] τ Q := by
  refine g_br1 rfl (t := 27) rfl (fun c1 => ?_) (fun c1 => ?_)
  · have c1 : ¬ y0 = 0 := of_decide_eq_true c1
    refine g_sk 4 (pc1 := 31) (st1 := [AR r0, AI x2, AR r0, AR r0]) rfl ?_
    refine g_gQ rfl (ci := 21) (k := 9) rfl sh2 p4 ?_
    refine g_sk 1 (pc1 := 35) (st1 := [AI x1, AR q3, AI x2, AR r0, AR r0]) rfl ?_
    refine g_aalQ rfl sh6 (by decide) (b7 c1).1 (b7 c1).2 (p9 c1) ?_
    refine g_sk 1 (pc1 := 37) (st1 := [AR r0, AR q8, AI x2, AR r0, AR r0]) rfl ?_
    refine g_gI rfl (ci := 21) (k := 7) rfl sh2 ?_
    refine G_fg (lw2_k _ (lw2_f _ (lw2_f _ lw2_nil))) ?_
    refine g_cv rfl rfl (by decide) rfl rfl (Nat.le_of_ble_eq_true rfl) (as2 := [AI (tI τ r0 7)]) rfl sh10 rfl (by omega) (L0 := [vR q8, vI (tI τ r0 7), none, none]) rfl ?_
    exact (k1 c1)
  · have c1 : y0 = 0 := Decidable.of_not_not (of_decide_eq_false c1)
    refine g_sk 2 (pc1 := 23) (st1 := [AI 1, AR r0]) rfl ?_
    refine G_fg (lw2_f _ (lw2_f _ (lw2_f _ lw2_nil))) ?_
    refine g_cv rfl rfl (by decide) rfl rfl (Nat.le_of_ble_eq_true rfl) (as2 := [AI 1]) rfl sh2 rfl (by omega) (L0 := [vR r0, vI 1]) rfl ?_
    exact (k2 c1)

set_option maxRecDepth 8192 in
theorem t231_26 {d : Nat} {τ : T2} {Q : RS → T2 → Prop} {y0 : Int} (k1 : Q (.inl (some (AI y0))) τ) : G d 231 26 [none, none, none] [AI y0] τ Q := by
  refine g_iret rfl rfl ?_
  exact k1

set_option maxRecDepth 8192 in
theorem t231_43 {d : Nat} {τ : T2} {Q : RS → T2 → Prop} {y0 y1 : Int} {r0 s2 : Nat} {s3 : Option Nat} (hd : 1 ≤ d) (sh1 : tS τ r0 = (1, 21, 0)) (sh2 : tS τ s2 = (1, 21, 0)) (k1 : G (d - 1) 187 0 [vR s2, vI y1, vI y0, vI (tI τ r0 7), none, none, none] [] τ (KC d 231 47 50 [none, none, none] [AP s3] Q)) : G d 231 43 [vR r0, none, none] [AI y0, AI y1, AR s2, AP s3] τ Q := by
  refine g_sk 1 (pc1 := 44) (st1 := [AR r0, AI y0, AI y1, AR s2, AP s3]) rfl ?_
  refine g_gI rfl (ci := 21) (k := 7) rfl sh1 ?_
  refine G_fg (lw2_f _ (lw2_k _ (lw2_k _ lw2_nil))) ?_
  refine g_cv rfl rfl (by decide) rfl rfl (Nat.le_of_ble_eq_true rfl) (as2 := [AI y1, AI y0, AI (tI τ r0 7)]) rfl sh2 rfl (by omega) (L0 := [vR s2, vI y1, vI y0, vI (tI τ r0 7), none, none, none]) rfl ?_
  exact k1

set_option maxRecDepth 8192 in
theorem t231_50 {d : Nat} {τ : T2} {Q : RS → T2 → Prop} {y0 : Int} {s1 : Nat} (hd : 1 ≤ d) (sh2 : tS τ s1 = (1, 21, 0)) (k1 : y0 = 0 → G (d - 1) 165 0 [vR s1, vI 0] [] τ (KC d 231 58 61 [none, none, none] [] Q)) (k2 : ¬ y0 = 0 → G (d - 1) 165 0 [vR s1, vI 1] [] τ (KC d 231 58 61 [none, none, none] [] Q)) : G d 231 50 [none, none, none] [AI y0, AR s1] τ Q := by
  refine g_br1 rfl (t := 57) rfl (fun c1 => ?_) (fun c1 => ?_)
  · have c1 : y0 = 0 := of_decide_eq_true c1
    refine g_sk 1 (pc1 := 58) (st1 := [AI 0, AR s1]) rfl ?_
    refine g_cv rfl rfl (by decide) rfl rfl (Nat.le_of_ble_eq_true rfl) (as2 := [AI 0]) rfl sh2 rfl (by omega) (L0 := [vR s1, vI 0]) rfl ?_
    exact (k1 c1)
  · have c1 : ¬ y0 = 0 := of_decide_eq_false c1
    refine g_sk 2 (pc1 := 58) (st1 := [AI 1, AR s1]) rfl ?_
    refine g_cv rfl rfl (by decide) rfl rfl (Nat.le_of_ble_eq_true rfl) (as2 := [AI 1]) rfl sh2 rfl (by omega) (L0 := [vR s1, vI 1]) rfl ?_
    exact (k2 c1)

set_option maxRecDepth 8192 in
theorem t231_61 {d : Nat} {τ : T2} {Q : RS → T2 → Prop} {y0 : Int} (k1 : Q (.inl (some (AI y0))) τ) : G d 231 61 [none, none, none] [AI y0] τ Q := by
  refine g_iret rfl rfl ?_
  exact k1

set_option maxRecDepth 8192 in
theorem t232_0 {d : Nat} {τ : T2} {Q : RS → T2 → Prop} {x1 x2 x3 : Int} {r0 : Nat} (hd : 1 ≤ d) (sh1 : tS τ r0 = (1, 21, 0)) (k1 : G (d - 1) 230 0 [vR r0, vI x1] [] (uI τ r0 0 0) (KC d 232 7 10 [vR r0, vI x1, vI x2, vI x3, none, none] [] Q)) : G d 232 0 [vR r0, vI x1, vI x2, vI x3, none, none] [] τ Q := by
  refine g_sk 2 (pc1 := 2) (st1 := [AI 0, AR r0]) rfl ?_
  refine g_putI (x := 0) rfl (ci := 21) (k := 0) (kd := 0) rfl (by decide) rfl rfl sh1 ?_
  refine g_sk 2 (pc1 := 7) (st1 := [AI x1, AR r0]) rfl ?_
  refine g_cv rfl rfl (by decide) rfl rfl (Nat.le_of_ble_eq_true rfl) (as2 := [AI x1]) rfl sh1 rfl (by omega) (L0 := [vR r0, vI x1]) rfl ?_
  exact k1

set_option maxRecDepth 8192 in
theorem t232_10 {d : Nat} {τ : T2} {Q : RS → T2 → Prop} {x1 x2 x3 y0 : Int} {r0 : Nat} (hd : 1 ≤ d) (sh2 : tS τ r0 = (1, 21, 0)) (k1 : y0 = 0 → G (d - 1) 163 0 [vR r0, vI 1] [] τ (KC d 232 23 26 [none, none, none, none, none, none] [] Q)) (k2 : ¬ y0 = 0 → G (d - 1) 207 0 [vR r0, vI x2] [] τ (KC d 232 15 18 [vR r0, vI x1, vI x2, vI x3, none, none] [] Q)) : G d 232 10 [vR r0, vI x1, vI x2, vI x3, none, none] [AI y0] τ Q := by
  refine g_br1 rfl (t := 21) rfl (fun c1 => ?_) (fun c1 => ?_)
  · have c1 : y0 = 0 := of_decide_eq_true c1
    refine g_sk 2 (pc1 := 23) (st1 := [AI 1, AR r0]) rfl ?_
    refine G_fg (lw2_f _ (lw2_f _ (lw2_f _ (lw2_f _ (lw2_k _ (lw2_k _ lw2_nil)))))) ?_
    refine g_cv rfl rfl (by decide) rfl rfl (Nat.le_of_ble_eq_true rfl) (as2 := [AI 1]) rfl sh2 rfl (by omega) (L0 := [vR r0, vI 1]) rfl ?_
    exact (k1 c1)
  · have c1 : ¬ y0 = 0 := of_decide_eq_false c1
    refine g_sk 2 (pc1 := 15) (st1 := [AI x2, AR r0]) rfl ?_
    refine g_cv rfl rfl (by decide) rfl rfl (Nat.le_of_ble_eq_true rfl) (as2 := [AI x2]) rfl sh2 rfl (by omega) (L0 := [vR r0, vI x2]) rfl ?_
    exact (k2 c1)

set_option maxRecDepth 8192 in
theorem t232_18 {d : Nat} {τ : T2} {Q : RS → T2 → Prop} {x1 x2 x3 y0 : Int} {r0 : Nat} (hd : 1 ≤ d) (sh2 : tS τ r0 = (1, 21, 0)) (k1 : ¬ y0 = 0 → G (d - 1) 206 0 [vR r0, vI x3] [] τ (KC d 232 29 32 [vR r0, vI x1, vI x2, vI x3, none, none] [] Q)) (k2 : y0 = 0 → G (d - 1) 163 0 [vR r0, vI 1] [] τ (KC d 232 23 26 [none, none, none, none, none, none] [] Q)) : G d 232 18 [vR r0, vI x1, vI x2, vI x3, none, none] [AI y0] τ Q := by
  refine g_br1 rfl (t := 27) rfl (fun c1 => ?_) (fun c1 => ?_)
  · have c1 : ¬ y0 = 0 := of_decide_eq_true c1
    refine g_sk 2 (pc1 := 29) (st1 := [AI x3, AR r0]) rfl ?_
    refine g_cv rfl rfl (by decide) rfl rfl (Nat.le_of_ble_eq_true rfl) (as2 := [AI x3]) rfl sh2 rfl (by omega) (L0 := [vR r0, vI x3]) rfl ?_
    exact (k1 c1)
  · have c1 : y0 = 0 := Decidable.of_not_not (of_decide_eq_false c1)
    refine g_sk 2 (pc1 := 23) (st1 := [AI 1, AR r0]) rfl ?_
    refine G_fg (lw2_f _ (lw2_f _ (lw2_f _ (lw2_f _ (lw2_k _ (lw2_k _ lw2_nil)))))) ?_
    refine g_cv rfl rfl (by decide) rfl rfl (Nat.le_of_ble_eq_true rfl) (as2 := [AI 1]) rfl sh2 rfl (by omega) (L0 := [vR r0, vI 1]) rfl ?_
    exact (k2 c1)

set_option maxRecDepth 8192 in
theorem t232_26 {d : Nat} {τ : T2} {Q : RS → T2 → Prop} {y0 : Int} (k1 : Q (.inl (some (AI y0))) τ) : G d 232 26 [none, none, none, none, none, none] [AI y0] τ Q := by
  refine g_iret rfl rfl ?_
  exact k1

set_option maxRecDepth 8192 in
theorem t232_32 {d : Nat} {τ : T2} {Q : RS → T2 → Prop} {x1 x2 x3 y0 : Int} {r0 : Nat} (hd : 1 ≤ d) (sh2 : tS τ r0 = (1, 21, 0)) (k1 : ¬ y0 = 0 → G (d - 1) 198 0 [vR r0, vI x3, none, none] [] τ (KC d 232 43 46 [vR r0, vI x1, vI x2, none, none, none] [] Q)) (k2 : y0 = 0 → G (d - 1) 163 0 [vR r0, vI 2] [] τ (KC d 232 37 40 [none, none, none, none, none, none] [] Q)) : G d 232 32 [vR r0, vI x1, vI x2, vI x3, none, none] [AI y0] τ Q := by
  refine g_br1 rfl (t := 41) rfl (fun c1 => ?_) (fun c1 => ?_)
  · have c1 : ¬ y0 = 0 := of_decide_eq_true c1
    refine g_sk 2 (pc1 := 43) (st1 := [AI x3, AR r0]) rfl ?_
    refine G_fg (lw2_k _ (lw2_k _ (lw2_k _ (lw2_f _ (lw2_k _ (lw2_k _ lw2_nil)))))) ?_
    refine g_cv rfl rfl (by decide) rfl rfl (Nat.le_of_ble_eq_true rfl) (as2 := [AI x3]) rfl sh2 rfl (by omega) (L0 := [vR r0, vI x3, none, none]) rfl ?_
    exact (k1 c1)
  · have c1 : y0 = 0 := Decidable.of_not_not (of_decide_eq_false c1)
    refine g_sk 2 (pc1 := 37) (st1 := [AI 2, AR r0]) rfl ?_
    refine G_fg (lw2_f _ (lw2_f _ (lw2_f _ (lw2_f _ (lw2_k _ (lw2_k _ lw2_nil)))))) ?_
    refine g_cv rfl rfl (by decide) rfl rfl (Nat.le_of_ble_eq_true rfl) (as2 := [AI 2]) rfl sh2 rfl (by omega) (L0 := [vR r0, vI 2]) rfl ?_
    exact (k2 c1)

set_option maxRecDepth 8192 in
theorem t232_40 {d : Nat} {τ : T2} {Q : RS → T2 → Prop} {y0 : Int} (k1 : Q (.inl (some (AI y0))) τ) : G d 232 40 [none, none, none, none, none, none] [AI y0] τ Q := by
  refine g_iret rfl rfl ?_
  exact k1

set_option maxRecDepth 8192 in
theorem t232_46 {d : Nat} {τ : T2} {Q : RS → T2 → Prop} {x1 x2 : Int} {r0 q2 n4 q7 : Nat} (hd : 1 ≤ d) (sh1 : tS τ r0 = (1, 21, 0)) (p3 : tP τ r0 9 = some q2) (sh5 : tS τ q2 = (3, 8, n4)) (b6 : (0 : Int) ≤ x1 ∧ x1 < (n4 : Int)) (p8 : tP τ q2 x1.toNat = some q7) (sh9 : tS τ q7 = (1, 19, 0)) (k1 : G (d - 1) 157 0 [vR q7, vI (tI τ r0 7), none, none] [] τ (KC d 232 62 65 [vR r0, vI x1, vI x2, none, vR q7, none] [AI x2, AR r0] Q)) : G d 232 46 [vR r0, vI x1, vI x2, none, none, none] [] τ Q := by
  refine g_sk 1 (pc1 := 47) (st1 := [AR r0]) rfl ?_
  refine g_gQ rfl (ci := 21) (k := 9) rfl sh1 p3 ?_
  refine g_sk 1 (pc1 := 51) (st1 := [AI x1, AR q2]) rfl ?_
  refine g_aalQ rfl sh5 (by decide) b6.1 b6.2 p8 ?_
  refine g_sx 5 (pc1 := 59) (L1 := [vR r0, vI x1, vI x2, none, vR q7, none]) (st1 := [AR r0, AR q7, AI x2, AR r0]) rfl ?_
  refine g_gI rfl (ci := 21) (k := 7) rfl sh1 ?_
  refine g_cv rfl rfl (by decide) rfl rfl (Nat.le_of_ble_eq_true rfl) (as2 := [AI (tI τ r0 7)]) rfl sh9 rfl (by omega) (L0 := [vR q7, vI (tI τ r0 7), none, none]) rfl ?_
  exact k1

set_option maxRecDepth 8192 in
theorem t232_65 {d : Nat} {τ : T2} {Q : RS → T2 → Prop} {x1 x2 y0 y1 : Int} {r0 s2 : Nat} {r4 : Option Nat} (hd : 1 ≤ d) (sh1 : tS τ r0 = (1, 21, 0)) (sh2 : tS τ s2 = (1, 21, 0)) (k1 : G (d - 1) 187 0 [vR s2, vI y1, vI y0, vI (tI τ r0 7), none, none, none] [] τ (KC d 232 69 72 [vR r0, vI x1, vI x2, none, vQ r4, none] [] Q)) : G d 232 65 [vR r0, vI x1, vI x2, none, vQ r4, none] [AI y0, AI y1, AR s2] τ Q := by
  refine g_sk 1 (pc1 := 66) (st1 := [AR r0, AI y0, AI y1, AR s2]) rfl ?_
  refine g_gI rfl (ci := 21) (k := 7) rfl sh1 ?_
  refine g_cv rfl rfl (by decide) rfl rfl (Nat.le_of_ble_eq_true rfl) (as2 := [AI y1, AI y0, AI (tI τ r0 7)]) rfl sh2 rfl (by omega) (L0 := [vR s2, vI y1, vI y0, vI (tI τ r0 7), none, none, none]) rfl ?_
  exact k1

set_option maxRecDepth 8192 in
theorem t232_72 {d : Nat} {τ : T2} {Q : RS → T2 → Prop} {x1 x2 y0 : Int} {r0 r4 q3 n5 q10 n12 q16 n18 : Nat} (hd : 1 ≤ d) (sh2 : tS τ r4 = (1, 19, 0)) (p4 : tP τ r4 3 = some q3) (sh6 : tS τ q3 = (2, 0, n5)) (b7 : ¬ y0 = 0 → (0 : Int) ≤ x2 ∧ x2 < (n5 : Int)) (sh9 : tS τ r0 = (1, 21, 0)) (p11 : tP τ r4 6 = some q10) (sh13 : tS τ q10 = (2, 0, n12)) (b14 : ¬ y0 = 0 → (tI τ q3 x2.toNat) = (-1) → (0 : Int) ≤ x2 ∧ x2 < (n12 : Int)) (p17 : tP τ r0 8 = some q16) (sh19 : tS τ q16 = (3, 7, n18)) (b20 : ¬ y0 = 0 → (tI τ q3 x2.toNat) = (-1) → (tI τ q10 x2.toNat) ≤ (tI τ r0 7) → (0 : Int) ≤ x2 ∧ x2 < (n18 : Int)) (k1 : ¬ y0 = 0 → (tI τ q3 x2.toNat) = (-1) → (tI τ q10 x2.toNat) ≤ (tI τ r0 7) → G (d - 1) 200 0 [vR r0, vQ (tP τ q16 x2.toNat)] [] τ (KC d 232 127 130 [vR r0, vI x1, vI x2, none, vR r4, none] [] Q)) (k2 : ¬ y0 = 0 → (tI τ q3 x2.toNat) = (-1) → (tI τ r0 7) < (tI τ q10 x2.toNat) → G (d - 1) 163 0 [vR r0, vI 7] [] τ (KC d 232 116 119 [none, none, none, none, none, none] [] Q)) (k3 : ¬ y0 = 0 → ¬ (tI τ q3 x2.toNat) = (-1) → G (d - 1) 163 0 [vR r0, vI 6] [] τ (KC d 232 95 98 [none, none, none, none, none, none] [] Q)) (k4 : y0 = 0 → G (d - 1) 163 0 [vR r0, vI 5] [] τ (KC d 232 77 80 [none, none, none, none, none, none] [] Q)) : G d 232 72 [vR r0, vI x1, vI x2, none, vR r4, none] [AI y0] τ Q := by
  refine g_br1 rfl (t := 81) rfl (fun c1 => ?_) (fun c1 => ?_)
  · have c1 : ¬ y0 = 0 := of_decide_eq_true c1
    refine g_sk 1 (pc1 := 83) (st1 := [AR r4]) rfl ?_
    refine g_gQ rfl (ci := 19) (k := 3) rfl sh2 p4 ?_
    refine g_sk 1 (pc1 := 87) (st1 := [AI x2, AR q3]) rfl ?_
    refine g_iald rfl sh6 (by decide) (b7 c1).1 (b7 c1).2 ?_
    refine g_sk 1 (pc1 := 89) (st1 := [AI (-1), AI (tI τ q3 x2.toNat)]) rfl ?_
    refine g_br2 rfl (t := 99) rfl (fun c8 => ?_) (fun c8 => ?_)
    · have c8 : (tI τ q3 x2.toNat) = (-1) := of_decide_eq_true c8
      refine g_sk 1 (pc1 := 100) (st1 := [AR r0]) rfl ?_
      refine g_gI rfl (ci := 21) (k := 7) rfl sh9 ?_
      refine g_sk 1 (pc1 := 105) (st1 := [AR r4, AI (tI τ r0 7)]) rfl ?_
      refine g_gQ rfl (ci := 19) (k := 6) rfl sh2 p11 ?_
      refine g_sk 1 (pc1 := 109) (st1 := [AI x2, AR q10, AI (tI τ r0 7)]) rfl ?_
      refine g_iald rfl sh13 (by decide) (b14 c1 c8).1 (b14 c1 c8).2 ?_
      refine g_br2 rfl (t := 120) rfl (fun c15 => ?_) (fun c15 => ?_)
      · have c15 : (tI τ q10 x2.toNat) ≤ (tI τ r0 7) := of_decide_eq_true c15
        refine g_sk 2 (pc1 := 122) (st1 := [AR r0, AR r0]) rfl ?_
        refine g_gQ rfl (ci := 21) (k := 8) rfl sh9 p17 ?_
        refine g_sk 1 (pc1 := 126) (st1 := [AI x2, AR q16, AR r0]) rfl ?_
        refine g_aald rfl sh19 (by decide) (b20 c1 c8 c15).1 (b20 c1 c8 c15).2 ?_
        refine g_cv rfl rfl (by decide) rfl rfl (Nat.le_of_ble_eq_true rfl) (as2 := [AP (tP τ q16 x2.toNat)]) rfl sh9 rfl (by omega) (L0 := [vR r0, vQ (tP τ q16 x2.toNat)]) rfl ?_
        exact (k1 c1 c8 c15)
      · have c15 : (tI τ r0 7) < (tI τ q10 x2.toNat) := Int.not_le.mp (of_decide_eq_false c15)
        refine g_sk 2 (pc1 := 116) (st1 := [AI 7, AR r0]) rfl ?_
        refine G_fg (lw2_f _ (lw2_f _ (lw2_f _ (lw2_k _ (lw2_f _ (lw2_k _ lw2_nil)))))) ?_
        refine g_cv rfl rfl (by decide) rfl rfl (Nat.le_of_ble_eq_true rfl) (as2 := [AI 7]) rfl sh9 rfl (by omega) (L0 := [vR r0, vI 7]) rfl ?_
        exact (k2 c1 c8 c15)
    · have c8 : ¬ (tI τ q3 x2.toNat) = (-1) := of_decide_eq_false c8
      refine g_sk 2 (pc1 := 95) (st1 := [AI 6, AR r0]) rfl ?_
      refine G_fg (lw2_f _ (lw2_f _ (lw2_f _ (lw2_k _ (lw2_f _ (lw2_k _ lw2_nil)))))) ?_
      refine g_cv rfl rfl (by decide) rfl rfl (Nat.le_of_ble_eq_true rfl) (as2 := [AI 6]) rfl sh9 rfl (by omega) (L0 := [vR r0, vI 6]) rfl ?_
      exact (k3 c1 c8)
  · have c1 : y0 = 0 := Decidable.of_not_not (of_decide_eq_false c1)
    refine g_sk 2 (pc1 := 77) (st1 := [AI 5, AR r0]) rfl ?_
    refine G_fg (lw2_f _ (lw2_f _ (lw2_f _ (lw2_k _ (lw2_f _ (lw2_k _ lw2_nil)))))) ?_
    refine g_cv rfl rfl (by decide) rfl rfl (Nat.le_of_ble_eq_true rfl) (as2 := [AI 5]) rfl sh9 rfl (by omega) (L0 := [vR r0, vI 5]) rfl ?_
    exact (k4 c1)

set_option maxRecDepth 8192 in
theorem t232_80 {d : Nat} {τ : T2} {Q : RS → T2 → Prop} {y0 : Int} (k1 : Q (.inl (some (AI y0))) τ) : G d 232 80 [none, none, none, none, none, none] [AI y0] τ Q := by
  refine g_iret rfl rfl ?_
  exact k1

set_option maxRecDepth 8192 in
theorem t232_98 {d : Nat} {τ : T2} {Q : RS → T2 → Prop} {y0 : Int} (k1 : Q (.inl (some (AI y0))) τ) : G d 232 98 [none, none, none, none, none, none] [AI y0] τ Q := by
  refine g_iret rfl rfl ?_
  exact k1

set_option maxRecDepth 8192 in
theorem t232_119 {d : Nat} {τ : T2} {Q : RS → T2 → Prop} {y0 : Int} (k1 : Q (.inl (some (AI y0))) τ) : G d 232 119 [none, none, none, none, none, none] [AI y0] τ Q := by
  refine g_iret rfl rfl ?_
  exact k1

set_option maxRecDepth 8192 in
theorem t232_130 {d : Nat} {τ : T2} {Q : RS → T2 → Prop} {x1 x2 y0 : Int} {r0 r4 q2 n4 : Nat} (hd : 1 ≤ d) (sh1 : tS τ r4 = (1, 19, 0)) (p3 : tP τ r4 6 = some q2) (sh5 : tS τ q2 = (2, 0, n4)) (b6 : (0 : Int) ≤ x2 ∧ x2 < (n4 : Int)) (sh7 : tS τ r0 = (1, 21, 0)) (k1 : G (d - 1) 170 0 [vR r0, vI 9, vI x1, vI x2, vI y0, vI (tI τ q2 x2.toNat), none, none] [] τ (KC d 232 146 149 [vR r0, none, vI x2, none, vR r4, vI y0] [] Q)) : G d 232 130 [vR r0, vI x1, vI x2, none, vR r4, none] [AI y0] τ Q := by
  refine g_sx 7 (pc1 := 141) (L1 := [vR r0, vI x1, vI x2, none, vR r4, vI y0]) (st1 := [AR r4, AI y0, AI x2, AI x1, AI 9, AR r0]) rfl ?_
  refine g_gQ rfl (ci := 19) (k := 6) rfl sh1 p3 ?_
  refine g_sk 1 (pc1 := 145) (st1 := [AI x2, AR q2, AI y0, AI x2, AI x1, AI 9, AR r0]) rfl ?_
  refine g_iald rfl sh5 (by decide) b6.1 b6.2 ?_
  refine G_fg (lw2_k _ (lw2_f _ (lw2_k _ (lw2_k _ (lw2_k _ (lw2_k _ lw2_nil)))))) ?_
  refine g_cv rfl rfl (by decide) rfl rfl (Nat.le_of_ble_eq_true rfl) (as2 := [AI 9, AI x1, AI x2, AI y0, AI (tI τ q2 x2.toNat)]) rfl sh7 rfl (by omega) (L0 := [vR r0, vI 9, vI x1, vI x2, vI y0, vI (tI τ q2 x2.toNat), none, none]) rfl ?_
  exact k1

set_option maxRecDepth 8192 in
theorem t232_149 {d : Nat} {τ : T2} {Q : RS → T2 → Prop} {x2 x5 : Int} {r0 r4 q2 n4 q8 q11 n13 q16 n19 q24 n26 : Nat} {s0 : Option Nat} (hd : 1 ≤ d) (sh1 : tS τ r4 = (1, 19, 0)) (p3 : tP τ r4 4 = some q2) (sh5 : tS τ q2 = (2, 0, n4)) (b6 : (0 : Int) ≤ x2 ∧ x2 < (n4 : Int)) (p9 : tP τ r4 6 = some q8) (sh10 : tS τ r0 = (1, 21, 0)) (p12 : tP τ r0 8 = some q11) (sh14 : tS τ q11 = (3, 7, n13)) (b15 : ¬ x5 = 1 → (0 : Int) ≤ x2 ∧ x2 < (n13 : Int)) (p17 : ¬ x5 = 1 → tP τ q11 x2.toNat = some q16) (sh18 : tS τ q16 = (1, 15, 0)) (sh20 : tS τ q8 = (2, 0, n19)) (b21 : ¬ x5 = 1 → (0 : Int) ≤ x2 ∧ x2 < (n19 : Int)) (p25 : tP τ r4 3 = some q24) (sh27 : tS τ q24 = (2, 0, n26)) (b28 : x5 = 1 → (0 : Int) ≤ x2 ∧ x2 < (n26 : Int)) (k1 : ¬ x5 = 1 → ∀ τ22, (uI (uI (uI τ q2 x2.toNat (wr ((tI τ q2 x2.toNat) + 1))) r4 1 (wr ((tI (uI τ q2 x2.toNat (wr ((tI τ q2 x2.toNat) + 1))) r4 1) + 1))) q8 x2.toNat (wr ((tI (uI (uI τ q2 x2.toNat (wr ((tI τ q2 x2.toNat) + 1))) r4 1 (wr ((tI (uI τ q2 x2.toNat (wr ((tI τ q2 x2.toNat) + 1))) r4 1) + 1))) r0 7) + (tI (uI (uI τ q2 x2.toNat (wr ((tI τ q2 x2.toNat) + 1))) r4 1 (wr ((tI (uI τ q2 x2.toNat (wr ((tI τ q2 x2.toNat) + 1))) r4 1) + 1))) q16 4)))) = τ22 → G (d - 1) 165 0 [vR r0, vI x5] [] τ22 (KC d 232 216 219 [none, none, none, none, none, none] [] Q)) (k2 : x5 = 1 → G (d - 1) 165 0 [vR r0, vI x5] [] (uI (uI τ q2 x2.toNat (wr ((tI τ q2 x2.toNat) + 1))) q24 x2.toNat (tI (uI τ q2 x2.toNat (wr ((tI τ q2 x2.toNat) + 1))) r0 7)) (KC d 232 216 219 [none, none, none, none, none, none] [] Q)) : G d 232 149 [vR r0, none, vI x2, none, vR r4, vI x5] [AP s0] τ Q := by
  refine g_sk 2 (pc1 := 152) (st1 := [AR r4]) rfl ?_
  refine g_gQ rfl (ci := 19) (k := 4) rfl sh1 p3 ?_
  refine g_sk 2 (pc1 := 157) (st1 := [AI x2, AR q2, AI x2, AR q2]) rfl ?_
  refine g_iald rfl sh5 (by decide) b6.1 b6.2 ?_
  refine g_sk 2 (pc1 := 160) (st1 := [AI (wr ((tI τ q2 x2.toNat) + 1)), AI x2, AR q2]) rfl ?_
  refine g_iast rfl sh5 b6.1 b6.2 ?_
  refine g_sk 2 (pc1 := 164) (st1 := [AI 1, AI x5]) rfl ?_
  refine g_br2 rfl (t := 181) rfl (fun c7 => ?_) (fun c7 => ?_)
  · have c7 : ¬ x5 = 1 := of_decide_eq_true c7
    refine g_sk 2 (pc1 := 184) (st1 := [AR r4, AR r4]) rfl ?_
    refine g_gI rfl (ci := 19) (k := 1) rfl sh1 ?_
    refine g_sk 2 (pc1 := 189) (st1 := [AI (wr ((tI (uI τ q2 x2.toNat (wr ((tI τ q2 x2.toNat) + 1))) r4 1) + 1)), AR r4]) rfl ?_
    refine g_putI (x := (wr ((tI (uI τ q2 x2.toNat (wr ((tI τ q2 x2.toNat) + 1))) r4 1) + 1))) rfl (ci := 19) (k := 1) (kd := 0) rfl (by decide) rfl rfl sh1 ?_
    refine g_sk 1 (pc1 := 194) (st1 := [AR r4]) rfl ?_
    refine g_gQ rfl (ci := 19) (k := 6) rfl sh1 p9 ?_
    refine g_sk 2 (pc1 := 199) (st1 := [AR r0, AI x2, AR q8]) rfl ?_
    refine g_gI rfl (ci := 21) (k := 7) rfl sh10 ?_
    refine g_sk 1 (pc1 := 203) (st1 := [AR r0, AI (tI (uI (uI τ q2 x2.toNat (wr ((tI τ q2 x2.toNat) + 1))) r4 1 (wr ((tI (uI τ q2 x2.toNat (wr ((tI τ q2 x2.toNat) + 1))) r4 1) + 1))) r0 7), AI x2, AR q8]) rfl ?_
    refine g_gQ rfl (ci := 21) (k := 8) rfl sh10 p12 ?_
    refine g_sk 1 (pc1 := 207) (st1 := [AI x2, AR q11, AI (tI (uI (uI τ q2 x2.toNat (wr ((tI τ q2 x2.toNat) + 1))) r4 1 (wr ((tI (uI τ q2 x2.toNat (wr ((tI τ q2 x2.toNat) + 1))) r4 1) + 1))) r0 7), AI x2, AR q8]) rfl ?_
    refine g_aalQ rfl sh14 (by decide) (b15 c7).1 (b15 c7).2 (p17 c7) ?_
    refine g_gI rfl (ci := 15) (k := 4) rfl sh18 ?_
    refine g_sk 1 (pc1 := 212) (st1 := [AI (wr ((tI (uI (uI τ q2 x2.toNat (wr ((tI τ q2 x2.toNat) + 1))) r4 1 (wr ((tI (uI τ q2 x2.toNat (wr ((tI τ q2 x2.toNat) + 1))) r4 1) + 1))) r0 7) + (tI (uI (uI τ q2 x2.toNat (wr ((tI τ q2 x2.toNat) + 1))) r4 1 (wr ((tI (uI τ q2 x2.toNat (wr ((tI τ q2 x2.toNat) + 1))) r4 1) + 1))) q16 4))), AI x2, AR q8]) rfl ?_
    refine g_iast rfl sh20 (b21 c7).1 (b21 c7).2 ?_
    show G d 232 213 [vR r0, none, vI x2, none, vR r4, vI x5] [] (uI (uI (uI τ q2 x2.toNat (wr ((tI τ q2 x2.toNat) + 1))) r4 1 (wr ((tI (uI τ q2 x2.toNat (wr ((tI τ q2 x2.toNat) + 1))) r4 1) + 1))) q8 x2.toNat (wr ((tI (uI (uI τ q2 x2.toNat (wr ((tI τ q2 x2.toNat) + 1))) r4 1 (wr ((tI (uI τ q2 x2.toNat (wr ((tI τ q2 x2.toNat) + 1))) r4 1) + 1))) r0 7) + (tI (uI (uI τ q2 x2.toNat (wr ((tI τ q2 x2.toNat) + 1))) r4 1 (wr ((tI (uI τ q2 x2.toNat (wr ((tI τ q2 x2.toNat) + 1))) r4 1) + 1))) q16 4)))) Q
    generalize e23 : (uI (uI (uI τ q2 x2.toNat (wr ((tI τ q2 x2.toNat) + 1))) r4 1 (wr ((tI (uI τ q2 x2.toNat (wr ((tI τ q2 x2.toNat) + 1))) r4 1) + 1))) q8 x2.toNat (wr ((tI (uI (uI τ q2 x2.toNat (wr ((tI τ q2 x2.toNat) + 1))) r4 1 (wr ((tI (uI τ q2 x2.toNat (wr ((tI τ q2 x2.toNat) + 1))) r4 1) + 1))) r0 7) + (tI (uI (uI τ q2 x2.toNat (wr ((tI τ q2 x2.toNat) + 1))) r4 1 (wr ((tI (uI τ q2 x2.toNat (wr ((tI τ q2 x2.toNat) + 1))) r4 1) + 1))) q16 4)))) = τ22
    refine g_sk 2 (pc1 := 216) (st1 := [AI x5, AR r0]) rfl ?_
    refine G_fg (lw2_f _ (lw2_k _ (lw2_f _ (lw2_k _ (lw2_f _ (lw2_f _ lw2_nil)))))) ?_
    refine g_cv rfl rfl (by decide) rfl rfl (Nat.le_of_ble_eq_true rfl) (as2 := [AI x5]) rfl (by rw [← e23]; exact sh10) rfl (by omega) (L0 := [vR r0, vI x5]) rfl ?_
    exact (k1 c7 τ22 e23)
  · have c7 : x5 = 1 := Decidable.of_not_not (of_decide_eq_false c7)
    refine g_sk 1 (pc1 := 169) (st1 := [AR r4]) rfl ?_
    refine g_gQ rfl (ci := 19) (k := 3) rfl sh1 p25 ?_
    refine g_sk 2 (pc1 := 174) (st1 := [AR r0, AI x2, AR q24]) rfl ?_
    refine g_gI rfl (ci := 21) (k := 7) rfl sh10 ?_
    refine g_iast rfl sh27 (b28 c7).1 (b28 c7).2 ?_
    refine g_sk 3 (pc1 := 216) (st1 := [AI x5, AR r0]) rfl ?_
    refine G_fg (lw2_f _ (lw2_k _ (lw2_f _ (lw2_k _ (lw2_f _ (lw2_f _ lw2_nil)))))) ?_
    refine g_cv rfl rfl (by decide) rfl rfl (Nat.le_of_ble_eq_true rfl) (as2 := [AI x5]) rfl sh10 rfl (by omega) (L0 := [vR r0, vI x5]) rfl ?_
    exact (k2 c7)

set_option maxRecDepth 8192 in
theorem t232_219 {d : Nat} {τ : T2} {Q : RS → T2 → Prop} {y0 : Int} (k1 : Q (.inl (some (AI y0))) τ) : G d 232 219 [none, none, none, none, none, none] [AI y0] τ Q := by
  refine g_iret rfl rfl ?_
  exact k1

set_option maxRecDepth 8192 in
theorem t233_0 {d : Nat} {τ : T2} {Q : RS → T2 → Prop} {x1 x2 : Int} {r0 : Nat} (hd : 1 ≤ d) (sh1 : tS τ r0 = (1, 21, 0)) (k1 : G (d - 1) 230 0 [vR r0, vI x1] [] (uI τ r0 0 0) (KC d 233 7 10 [vR r0, vI x1, vI x2, none, none, none] [] Q)) : G d 233 0 [vR r0, vI x1, vI x2, none, none, none] [] τ Q := by
  refine g_sk 2 (pc1 := 2) (st1 := [AI 0, AR r0]) rfl ?_
  refine g_putI (x := 0) rfl (ci := 21) (k := 0) (kd := 0) rfl (by decide) rfl rfl sh1 ?_
  refine g_sk 2 (pc1 := 7) (st1 := [AI x1, AR r0]) rfl ?_
  refine g_cv rfl rfl (by decide) rfl rfl (Nat.le_of_ble_eq_true rfl) (as2 := [AI x1]) rfl sh1 rfl (by omega) (L0 := [vR r0, vI x1]) rfl ?_
  exact k1

set_option maxRecDepth 8192 in
theorem t233_10 {d : Nat} {τ : T2} {Q : RS → T2 → Prop} {x1 x2 y0 : Int} {r0 : Nat} (hd : 1 ≤ d) (sh2 : tS τ r0 = (1, 21, 0)) (k1 : y0 = 0 → G (d - 1) 163 0 [vR r0, vI 1] [] τ (KC d 233 23 26 [none, none, none, none, none, none] [] Q)) (k2 : ¬ y0 = 0 → G (d - 1) 207 0 [vR r0, vI x2] [] τ (KC d 233 15 18 [vR r0, vI x1, vI x2, none, none, none] [] Q)) : G d 233 10 [vR r0, vI x1, vI x2, none, none, none] [AI y0] τ Q := by
  refine g_br1 rfl (t := 21) rfl (fun c1 => ?_) (fun c1 => ?_)
  · have c1 : y0 = 0 := of_decide_eq_true c1
    refine g_sk 2 (pc1 := 23) (st1 := [AI 1, AR r0]) rfl ?_
    refine G_fg (lw2_f _ (lw2_f _ (lw2_f _ (lw2_k _ (lw2_k _ (lw2_k _ lw2_nil)))))) ?_
    refine g_cv rfl rfl (by decide) rfl rfl (Nat.le_of_ble_eq_true rfl) (as2 := [AI 1]) rfl sh2 rfl (by omega) (L0 := [vR r0, vI 1]) rfl ?_
    exact (k1 c1)
  · have c1 : ¬ y0 = 0 := of_decide_eq_false c1
    refine g_sk 2 (pc1 := 15) (st1 := [AI x2, AR r0]) rfl ?_
    refine g_cv rfl rfl (by decide) rfl rfl (Nat.le_of_ble_eq_true rfl) (as2 := [AI x2]) rfl sh2 rfl (by omega) (L0 := [vR r0, vI x2]) rfl ?_
    exact (k2 c1)

set_option maxRecDepth 8192 in
theorem t233_18 {d : Nat} {τ : T2} {Q : RS → T2 → Prop} {x1 x2 y0 : Int} {r0 q3 n5 q8 : Nat} (hd : 1 ≤ d) (sh2 : tS τ r0 = (1, 21, 0)) (p4 : tP τ r0 9 = some q3) (sh6 : tS τ q3 = (3, 8, n5)) (b7 : ¬ y0 = 0 → (0 : Int) ≤ x1 ∧ x1 < (n5 : Int)) (p9 : ¬ y0 = 0 → tP τ q3 x1.toNat = some q8) (sh10 : tS τ q8 = (1, 19, 0)) (k1 : ¬ y0 = 0 → G (d - 1) 157 0 [vR q8, vI (tI τ r0 7), none, none] [] τ (KC d 233 41 44 [vR r0, vI x1, vI x2, vR q8, none, none] [AI x2, AR r0] Q)) (k2 : y0 = 0 → G (d - 1) 163 0 [vR r0, vI 1] [] τ (KC d 233 23 26 [none, none, none, none, none, none] [] Q)) : G d 233 18 [vR r0, vI x1, vI x2, none, none, none] [AI y0] τ Q := by
  refine g_br1 rfl (t := 27) rfl (fun c1 => ?_) (fun c1 => ?_)
  · have c1 : ¬ y0 = 0 := of_decide_eq_true c1
    refine g_sk 1 (pc1 := 28) (st1 := [AR r0]) rfl ?_
    refine g_gQ rfl (ci := 21) (k := 9) rfl sh2 p4 ?_
    refine g_sk 1 (pc1 := 32) (st1 := [AI x1, AR q3]) rfl ?_
    refine g_aalQ rfl sh6 (by decide) (b7 c1).1 (b7 c1).2 (p9 c1) ?_
    refine g_sx 5 (pc1 := 38) (L1 := [vR r0, vI x1, vI x2, vR q8, none, none]) (st1 := [AR r0, AR q8, AI x2, AR r0]) rfl ?_
    refine g_gI rfl (ci := 21) (k := 7) rfl sh2 ?_
    refine g_cv rfl rfl (by decide) rfl rfl (Nat.le_of_ble_eq_true rfl) (as2 := [AI (tI τ r0 7)]) rfl sh10 rfl (by omega) (L0 := [vR q8, vI (tI τ r0 7), none, none]) rfl ?_
    exact (k1 c1)
  · have c1 : y0 = 0 := Decidable.of_not_not (of_decide_eq_false c1)
    refine g_sk 2 (pc1 := 23) (st1 := [AI 1, AR r0]) rfl ?_
    refine G_fg (lw2_f _ (lw2_f _ (lw2_f _ (lw2_k _ (lw2_k _ (lw2_k _ lw2_nil)))))) ?_
    refine g_cv rfl rfl (by decide) rfl rfl (Nat.le_of_ble_eq_true rfl) (as2 := [AI 1]) rfl sh2 rfl (by omega) (L0 := [vR r0, vI 1]) rfl ?_
    exact (k2 c1)

set_option maxRecDepth 8192 in
theorem t233_26 {d : Nat} {τ : T2} {Q : RS → T2 → Prop} {y0 : Int} (k1 : Q (.inl (some (AI y0))) τ) : G d 233 26 [none, none, none, none, none, none] [AI y0] τ Q := by
  refine g_iret rfl rfl ?_
  exact k1

set_option maxRecDepth 8192 in
theorem t233_44 {d : Nat} {τ : T2} {Q : RS → T2 → Prop} {x1 x2 y0 y1 : Int} {r0 s2 : Nat} {r3 : Option Nat} (hd : 1 ≤ d) (sh1 : tS τ r0 = (1, 21, 0)) (sh2 : tS τ s2 = (1, 21, 0)) (k1 : G (d - 1) 187 0 [vR s2, vI y1, vI y0, vI (tI τ r0 7), none, none, none] [] τ (KC d 233 48 51 [vR r0, vI x1, vI x2, vQ r3, none, none] [] Q)) : G d 233 44 [vR r0, vI x1, vI x2, vQ r3, none, none] [AI y0, AI y1, AR s2] τ Q := by
  refine g_sk 1 (pc1 := 45) (st1 := [AR r0, AI y0, AI y1, AR s2]) rfl ?_
  refine g_gI rfl (ci := 21) (k := 7) rfl sh1 ?_
  refine g_cv rfl rfl (by decide) rfl rfl (Nat.le_of_ble_eq_true rfl) (as2 := [AI y1, AI y0, AI (tI τ r0 7)]) rfl sh2 rfl (by omega) (L0 := [vR s2, vI y1, vI y0, vI (tI τ r0 7), none, none, none]) rfl ?_
  exact k1

set_option maxRecDepth 8192 in
theorem t233_51 {d : Nat} {τ : T2} {Q : RS → T2 → Prop} {x1 x2 y0 : Int} {r0 r3 q3 n5 q10 n12 q15 q17 n19 : Nat} (hd : 1 ≤ d) (sh2 : tS τ r3 = (1, 19, 0)) (p4 : tP τ r3 3 = some q3) (sh6 : tS τ q3 = (2, 0, n5)) (b7 : ¬ y0 = 0 → (0 : Int) ≤ x2 ∧ x2 < (n5 : Int)) (sh9 : tS τ r0 = (1, 21, 0)) (p11 : tP τ r0 8 = some q10) (sh13 : tS τ q10 = (3, 7, n12)) (b14 : ¬ y0 = 0 → (tI τ q3 x2.toNat) = (-1) → (0 : Int) ≤ x2 ∧ x2 < (n12 : Int)) (p16 : ¬ y0 = 0 → (tI τ q3 x2.toNat) = (-1) → tP τ q10 x2.toNat = some q15) (p18 : tP τ r3 5 = some q17) (sh20 : tS τ q17 = (2, 0, n19)) (b21 : ¬ y0 = 0 → (tI τ q3 x2.toNat) = (-1) → (0 : Int) ≤ x2 ∧ x2 < (n19 : Int)) (sh22 : tS τ q15 = (1, 15, 0)) (k1 : ¬ y0 = 0 → (tI τ q3 x2.toNat) = (-1) → (tI τ q15 5) ≤ (tI τ q17 x2.toNat) → G (d - 1) 163 0 [vR r0, vI 8] [] τ (KC d 233 130 133 [none, none, none, none, none, none] [] Q)) (k2 : ¬ y0 = 0 → (tI τ q3 x2.toNat) = (-1) → (tI τ q17 x2.toNat) < (tI τ q15 5) → G (d - 1) 158 0 [vR r3, vI (tI τ r0 7), none, none] [] τ (KC d 233 112 115 [vR r0, vI x1, vI x2, vR r3, vR q15, vI (tI τ q17 x2.toNat)] [AI (tI τ r0 7)] Q)) (k3 : ¬ y0 = 0 → ¬ (tI τ q3 x2.toNat) = (-1) → G (d - 1) 163 0 [vR r0, vI 6] [] τ (KC d 233 73 76 [none, none, none, none, none, none] [] Q)) (k4 : y0 = 0 → G (d - 1) 163 0 [vR r0, vI 5] [] τ (KC d 233 56 59 [none, none, none, none, none, none] [] Q)) : G d 233 51 [vR r0, vI x1, vI x2, vR r3, none, none] [AI y0] τ Q := by
  refine g_br1 rfl (t := 60) rfl (fun c1 => ?_) (fun c1 => ?_)
  · have c1 : ¬ y0 = 0 := of_decide_eq_true c1
    refine g_sk 1 (pc1 := 61) (st1 := [AR r3]) rfl ?_
    refine g_gQ rfl (ci := 19) (k := 3) rfl sh2 p4 ?_
    refine g_sk 1 (pc1 := 65) (st1 := [AI x2, AR q3]) rfl ?_
    refine g_iald rfl sh6 (by decide) (b7 c1).1 (b7 c1).2 ?_
    refine g_sk 1 (pc1 := 67) (st1 := [AI (-1), AI (tI τ q3 x2.toNat)]) rfl ?_
    refine g_br2 rfl (t := 77) rfl (fun c8 => ?_) (fun c8 => ?_)
    · have c8 : (tI τ q3 x2.toNat) = (-1) := of_decide_eq_true c8
      refine g_sk 1 (pc1 := 78) (st1 := [AR r0]) rfl ?_
      refine g_gQ rfl (ci := 21) (k := 8) rfl sh9 p11 ?_
      refine g_sk 1 (pc1 := 82) (st1 := [AI x2, AR q10]) rfl ?_
      refine g_aalQ rfl sh13 (by decide) (b14 c1 c8).1 (b14 c1 c8).2 (p16 c1 c8) ?_
      refine g_sx 2 (pc1 := 86) (L1 := [vR r0, vI x1, vI x2, vR r3, vR q15, none]) (st1 := [AR r3]) rfl ?_
      refine g_gQ rfl (ci := 19) (k := 5) rfl sh2 p18 ?_
      refine g_sk 1 (pc1 := 90) (st1 := [AI x2, AR q17]) rfl ?_
      refine g_iald rfl sh20 (by decide) (b21 c1 c8).1 (b21 c1 c8).2 ?_
      refine g_sx 3 (pc1 := 97) (L1 := [vR r0, vI x1, vI x2, vR r3, vR q15, vI (tI τ q17 x2.toNat)]) (st1 := [AR q15, AI (tI τ q17 x2.toNat)]) rfl ?_
      refine g_gI rfl (ci := 15) (k := 5) rfl sh22 ?_
      refine g_br2 rfl (t := 127) rfl (fun c23 => ?_) (fun c23 => ?_)
      · have c23 : (tI τ q15 5) ≤ (tI τ q17 x2.toNat) := of_decide_eq_true c23
        refine g_sk 2 (pc1 := 130) (st1 := [AI 8, AR r0]) rfl ?_
        refine G_fg (lw2_f _ (lw2_f _ (lw2_f _ (lw2_f _ (lw2_f _ (lw2_f _ lw2_nil)))))) ?_
        refine g_cv rfl rfl (by decide) rfl rfl (Nat.le_of_ble_eq_true rfl) (as2 := [AI 8]) rfl sh9 rfl (by omega) (L0 := [vR r0, vI 8]) rfl ?_
        exact (k1 c1 c8 c23)
      · have c23 : (tI τ q17 x2.toNat) < (tI τ q15 5) := Int.not_le.mp (of_decide_eq_false c23)
        refine g_sk 1 (pc1 := 104) (st1 := [AR r0]) rfl ?_
        refine g_gI rfl (ci := 21) (k := 7) rfl sh9 ?_
        refine g_sk 2 (pc1 := 109) (st1 := [AR r0, AR r3, AI (tI τ r0 7)]) rfl ?_
        refine g_gI rfl (ci := 21) (k := 7) rfl sh9 ?_
        refine g_cv rfl rfl (by decide) rfl rfl (Nat.le_of_ble_eq_true rfl) (as2 := [AI (tI τ r0 7)]) rfl sh2 rfl (by omega) (L0 := [vR r3, vI (tI τ r0 7), none, none]) rfl ?_
        exact (k2 c1 c8 c23)
    · have c8 : ¬ (tI τ q3 x2.toNat) = (-1) := of_decide_eq_false c8
      refine g_sk 2 (pc1 := 73) (st1 := [AI 6, AR r0]) rfl ?_
      refine G_fg (lw2_f _ (lw2_f _ (lw2_f _ (lw2_f _ (lw2_k _ (lw2_k _ lw2_nil)))))) ?_
      refine g_cv rfl rfl (by decide) rfl rfl (Nat.le_of_ble_eq_true rfl) (as2 := [AI 6]) rfl sh9 rfl (by omega) (L0 := [vR r0, vI 6]) rfl ?_
      exact (k3 c1 c8)
  · have c1 : y0 = 0 := Decidable.of_not_not (of_decide_eq_false c1)
    refine g_sk 2 (pc1 := 56) (st1 := [AI 5, AR r0]) rfl ?_
    refine G_fg (lw2_f _ (lw2_f _ (lw2_f _ (lw2_f _ (lw2_k _ (lw2_k _ lw2_nil)))))) ?_
    refine g_cv rfl rfl (by decide) rfl rfl (Nat.le_of_ble_eq_true rfl) (as2 := [AI 5]) rfl sh9 rfl (by omega) (L0 := [vR r0, vI 5]) rfl ?_
    exact (k4 c1)

set_option maxRecDepth 8192 in
theorem t233_59 {d : Nat} {τ : T2} {Q : RS → T2 → Prop} {y0 : Int} (k1 : Q (.inl (some (AI y0))) τ) : G d 233 59 [none, none, none, none, none, none] [AI y0] τ Q := by
  refine g_iret rfl rfl ?_
  exact k1

set_option maxRecDepth 8192 in
theorem t233_76 {d : Nat} {τ : T2} {Q : RS → T2 → Prop} {y0 : Int} (k1 : Q (.inl (some (AI y0))) τ) : G d 233 76 [none, none, none, none, none, none] [AI y0] τ Q := by
  refine g_iret rfl rfl ?_
  exact k1

set_option maxRecDepth 8192 in
theorem t233_115 {d : Nat} {τ : T2} {Q : RS → T2 → Prop} {x1 x2 x5 y0 y1 : Int} {r0 r3 r4 q2 n4 q9 n12 q15 q17 n19 n22 q27 n29 : Nat} (hd : 1 ≤ d) (sh1 : tS τ r4 = (1, 15, 0)) (p3 : tP τ r4 7 = some q2) (sh5 : tS τ q2 = (2, 0, n4)) (b6 : (0 : Int) ≤ x5 ∧ x5 < (n4 : Int)) (sh8 : tS τ r3 = (1, 19, 0)) (p10 : tP τ r3 7 = some q9) (sh11 : tS τ r0 = (1, 21, 0)) (sh13 : tS τ q9 = (2, 0, n12)) (b14 : (tI τ q2 x5.toNat) ≤ (wr (y1 - y0)) → (0 : Int) ≤ (tI τ r3 2) ∧ (tI τ r3 2) < (n12 : Int)) (p16 : tP τ r3 8 = some q15) (p18 : tP τ r4 8 = some q17) (sh20 : tS τ q17 = (2, 0, n19)) (b21 : (tI τ q2 x5.toNat) ≤ (wr (y1 - y0)) → (0 : Int) ≤ x5 ∧ x5 < (n19 : Int)) (sh23 : tS τ q15 = (2, 0, n22)) (b24 : (tI τ q2 x5.toNat) ≤ (wr (y1 - y0)) → (0 : Int) ≤ (tI (uI τ q9 (tI τ r3 2).toNat (tI τ r0 7)) r3 2) ∧ (tI (uI τ q9 (tI τ r3 2).toNat (tI τ r0 7)) r3 2) < (n22 : Int)) (p28 : tP τ r3 5 = some q27) (sh30 : tS τ q27 = (2, 0, n29)) (b31 : (tI τ q2 x5.toNat) ≤ (wr (y1 - y0)) → ∀ τ25, (uI (uI (uI τ q9 (tI τ r3 2).toNat (tI τ r0 7)) q15 (tI (uI τ q9 (tI τ r3 2).toNat (tI τ r0 7)) r3 2).toNat (tI (uI τ q9 (tI τ r3 2).toNat (tI τ r0 7)) q17 x5.toNat)) r3 2 (wr ((tI (uI (uI τ q9 (tI τ r3 2).toNat (tI τ r0 7)) q15 (tI (uI τ q9 (tI τ r3 2).toNat (tI τ r0 7)) r3 2).toNat (tI (uI τ q9 (tI τ r3 2).toNat (tI τ r0 7)) q17 x5.toNat)) r3 2) + 1))) = τ25 → (0 : Int) ≤ x2 ∧ x2 < (n29 : Int)) (k1 : (tI τ q2 x5.toNat) ≤ (wr (y1 - y0)) → ∀ τ25, (uI (uI (uI τ q9 (tI τ r3 2).toNat (tI τ r0 7)) q15 (tI (uI τ q9 (tI τ r3 2).toNat (tI τ r0 7)) r3 2).toNat (tI (uI τ q9 (tI τ r3 2).toNat (tI τ r0 7)) q17 x5.toNat)) r3 2 (wr ((tI (uI (uI τ q9 (tI τ r3 2).toNat (tI τ r0 7)) q15 (tI (uI τ q9 (tI τ r3 2).toNat (tI τ r0 7)) r3 2).toNat (tI (uI τ q9 (tI τ r3 2).toNat (tI τ r0 7)) q17 x5.toNat)) r3 2) + 1))) = τ25 → G (d - 1) 170 0 [vR r0, vI 10, vI x1, vI x2, vI 0, vI 0, none, none] [] (uI τ25 q27 x2.toNat (wr ((tI τ25 q27 x2.toNat) + 1))) (KC d 233 191 194 [vR r0, none, none, none, none, vI x5] [] Q)) (k2 : (wr (y1 - y0)) < (tI τ q2 x5.toNat) → G (d - 1) 163 0 [vR r0, vI 8] [] τ (KC d 233 130 133 [none, none, none, none, none, none] [] Q)) : G d 233 115 [vR r0, vI x1, vI x2, vR r3, vR r4, vI x5] [AI y0, AI y1] τ Q := by
  refine g_sk 2 (pc1 := 118) (st1 := [AR r4, AI (wr (y1 - y0))]) rfl ?_
  refine g_gQ rfl (ci := 15) (k := 7) rfl sh1 p3 ?_
  refine g_sk 1 (pc1 := 123) (st1 := [AI x5, AR q2, AI (wr (y1 - y0))]) rfl ?_
  refine g_iald rfl sh5 (by decide) b6.1 b6.2 ?_
  refine g_br2 rfl (t := 134) rfl (fun c7 => ?_) (fun c7 => ?_)
  · have c7 : (tI τ q2 x5.toNat) ≤ (wr (y1 - y0)) := of_decide_eq_true c7
    refine g_sk 1 (pc1 := 135) (st1 := [AR r3]) rfl ?_
    refine g_gQ rfl (ci := 19) (k := 7) rfl sh8 p10 ?_
    refine g_sk 1 (pc1 := 139) (st1 := [AR r3, AR q9]) rfl ?_
    refine g_gI rfl (ci := 19) (k := 2) rfl sh8 ?_
    refine g_sk 1 (pc1 := 143) (st1 := [AR r0, AI (tI τ r3 2), AR q9]) rfl ?_
    refine g_gI rfl (ci := 21) (k := 7) rfl sh11 ?_
    refine g_iast rfl sh13 (b14 c7).1 (b14 c7).2 ?_
    refine g_sk 1 (pc1 := 148) (st1 := [AR r3]) rfl ?_
    refine g_gQ rfl (ci := 19) (k := 8) rfl sh8 p16 ?_
    refine g_sk 1 (pc1 := 152) (st1 := [AR r3, AR q15]) rfl ?_
    refine g_gI rfl (ci := 19) (k := 2) rfl sh8 ?_
    refine g_sk 1 (pc1 := 157) (st1 := [AR r4, AI (tI (uI τ q9 (tI τ r3 2).toNat (tI τ r0 7)) r3 2), AR q15]) rfl ?_
    refine g_gQ rfl (ci := 15) (k := 8) rfl sh1 p18 ?_
    refine g_sk 1 (pc1 := 162) (st1 := [AI x5, AR q17, AI (tI (uI τ q9 (tI τ r3 2).toNat (tI τ r0 7)) r3 2), AR q15]) rfl ?_
    refine g_iald rfl sh20 (by decide) (b21 c7).1 (b21 c7).2 ?_
    refine g_iast rfl sh23 (b24 c7).1 (b24 c7).2 ?_
    refine g_sk 2 (pc1 := 166) (st1 := [AR r3, AR r3]) rfl ?_
    refine g_gI rfl (ci := 19) (k := 2) rfl sh8 ?_
    refine g_sk 2 (pc1 := 171) (st1 := [AI (wr ((tI (uI (uI τ q9 (tI τ r3 2).toNat (tI τ r0 7)) q15 (tI (uI τ q9 (tI τ r3 2).toNat (tI τ r0 7)) r3 2).toNat (tI (uI τ q9 (tI τ r3 2).toNat (tI τ r0 7)) q17 x5.toNat)) r3 2) + 1)), AR r3]) rfl ?_
    refine g_putI (x := (wr ((tI (uI (uI τ q9 (tI τ r3 2).toNat (tI τ r0 7)) q15 (tI (uI τ q9 (tI τ r3 2).toNat (tI τ r0 7)) r3 2).toNat (tI (uI τ q9 (tI τ r3 2).toNat (tI τ r0 7)) q17 x5.toNat)) r3 2) + 1))) rfl (ci := 19) (k := 2) (kd := 0) rfl (by decide) rfl rfl sh8 ?_
    show G d 233 174 [vR r0, vI x1, vI x2, vR r3, vR r4, vI x5] [] (uI (uI (uI τ q9 (tI τ r3 2).toNat (tI τ r0 7)) q15 (tI (uI τ q9 (tI τ r3 2).toNat (tI τ r0 7)) r3 2).toNat (tI (uI τ q9 (tI τ r3 2).toNat (tI τ r0 7)) q17 x5.toNat)) r3 2 (wr ((tI (uI (uI τ q9 (tI τ r3 2).toNat (tI τ r0 7)) q15 (tI (uI τ q9 (tI τ r3 2).toNat (tI τ r0 7)) r3 2).toNat (tI (uI τ q9 (tI τ r3 2).toNat (tI τ r0 7)) q17 x5.toNat)) r3 2) + 1))) Q
    generalize e26 : (uI (uI (uI τ q9 (tI τ r3 2).toNat (tI τ r0 7)) q15 (tI (uI τ q9 (tI τ r3 2).toNat (tI τ r0 7)) r3 2).toNat (tI (uI τ q9 (tI τ r3 2).toNat (tI τ r0 7)) q17 x5.toNat)) r3 2 (wr ((tI (uI (uI τ q9 (tI τ r3 2).toNat (tI τ r0 7)) q15 (tI (uI τ q9 (tI τ r3 2).toNat (tI τ r0 7)) r3 2).toNat (tI (uI τ q9 (tI τ r3 2).toNat (tI τ r0 7)) q17 x5.toNat)) r3 2) + 1))) = τ25
    refine g_sk 1 (pc1 := 175) (st1 := [AR r3]) rfl ?_
    refine g_gQ rfl (ci := 19) (k := 5) rfl (by rw [← e26]; exact sh8) (by rw [← e26]; exact p28) ?_
    refine g_sk 2 (pc1 := 180) (st1 := [AI x2, AR q27, AI x2, AR q27]) rfl ?_
    refine g_iald rfl (by rw [← e26]; exact sh30) (by decide) (b31 c7 τ25 e26).1 (b31 c7 τ25 e26).2 ?_
    refine g_sk 2 (pc1 := 183) (st1 := [AI (wr ((tI τ25 q27 x2.toNat) + 1)), AI x2, AR q27]) rfl ?_
    refine g_iast rfl (by rw [← e26]; exact sh30) (b31 c7 τ25 e26).1 (b31 c7 τ25 e26).2 ?_
    refine g_sk 6 (pc1 := 191) (st1 := [AI 0, AI 0, AI x2, AI x1, AI 10, AR r0]) rfl ?_
    refine G_fg (lw2_k _ (lw2_f _ (lw2_f _ (lw2_f _ (lw2_f _ (lw2_k _ lw2_nil)))))) ?_
    refine g_cv rfl rfl (by decide) rfl rfl (Nat.le_of_ble_eq_true rfl) (as2 := [AI 10, AI x1, AI x2, AI 0, AI 0]) rfl (by rw [← e26]; exact sh11) rfl (by omega) (L0 := [vR r0, vI 10, vI x1, vI x2, vI 0, vI 0, none, none]) rfl ?_
    exact (k1 c7 τ25 e26)
  · have c7 : (wr (y1 - y0)) < (tI τ q2 x5.toNat) := Int.not_le.mp (of_decide_eq_false c7)
    refine g_sk 2 (pc1 := 130) (st1 := [AI 8, AR r0]) rfl ?_
    refine G_fg (lw2_f _ (lw2_f _ (lw2_f _ (lw2_f _ (lw2_f _ (lw2_f _ lw2_nil)))))) ?_
    refine g_cv rfl rfl (by decide) rfl rfl (Nat.le_of_ble_eq_true rfl) (as2 := [AI 8]) rfl sh11 rfl (by omega) (L0 := [vR r0, vI 8]) rfl ?_
    exact (k2 c7)

set_option maxRecDepth 8192 in
theorem t233_133 {d : Nat} {τ : T2} {Q : RS → T2 → Prop} {y0 : Int} (k1 : Q (.inl (some (AI y0))) τ) : G d 233 133 [none, none, none, none, none, none] [AI y0] τ Q := by
  refine g_iret rfl rfl ?_
  exact k1

set_option maxRecDepth 8192 in
theorem t233_194 {d : Nat} {τ : T2} {Q : RS → T2 → Prop} {x5 : Int} {r0 : Nat} {s0 : Option Nat} (hd : 1 ≤ d) (sh1 : tS τ r0 = (1, 21, 0)) (k1 : G (d - 1) 165 0 [vR r0, vI x5] [] τ (KC d 233 198 201 [none, none, none, none, none, none] [] Q)) : G d 233 194 [vR r0, none, none, none, none, vI x5] [AP s0] τ Q := by
  refine g_sk 3 (pc1 := 198) (st1 := [AI x5, AR r0]) rfl ?_
  refine G_fg (lw2_f _ (lw2_k _ (lw2_k _ (lw2_k _ (lw2_k _ (lw2_f _ lw2_nil)))))) ?_
  refine g_cv rfl rfl (by decide) rfl rfl (Nat.le_of_ble_eq_true rfl) (as2 := [AI x5]) rfl sh1 rfl (by omega) (L0 := [vR r0, vI x5]) rfl ?_
  exact k1

set_option maxRecDepth 8192 in
theorem t233_201 {d : Nat} {τ : T2} {Q : RS → T2 → Prop} {y0 : Int} (k1 : Q (.inl (some (AI y0))) τ) : G d 233 201 [none, none, none, none, none, none] [AI y0] τ Q := by
  refine g_iret rfl rfl ?_
  exact k1

set_option maxRecDepth 8192 in
theorem t234_0 {d : Nat} {τ : T2} {Q : RS → T2 → Prop} {x1 x2 : Int} {r0 : Nat} (hd : 1 ≤ d) (sh1 : tS τ r0 = (1, 21, 0)) (k1 : G (d - 1) 230 0 [vR r0, vI x1] [] (uI τ r0 0 0) (KC d 234 7 10 [vR r0, vI x1, vI x2, none] [] Q)) : G d 234 0 [vR r0, vI x1, vI x2, none] [] τ Q := by
  refine g_sk 2 (pc1 := 2) (st1 := [AI 0, AR r0]) rfl ?_
  refine g_putI (x := 0) rfl (ci := 21) (k := 0) (kd := 0) rfl (by decide) rfl rfl sh1 ?_
  refine g_sk 2 (pc1 := 7) (st1 := [AI x1, AR r0]) rfl ?_
  refine g_cv rfl rfl (by decide) rfl rfl (Nat.le_of_ble_eq_true rfl) (as2 := [AI x1]) rfl sh1 rfl (by omega) (L0 := [vR r0, vI x1]) rfl ?_
  exact k1

set_option maxRecDepth 8192 in
theorem t234_10 {d : Nat} {τ : T2} {Q : RS → T2 → Prop} {x1 x2 y0 : Int} {r0 q3 n5 : Nat} (sh2 : tS τ r0 = (1, 21, 0)) (p4 : tP τ r0 9 = some q3) (sh6 : tS τ q3 = (3, 8, n5)) (b7 : ¬ y0 = 0 → (0 : Int) ≤ x1 ∧ x1 < (n5 : Int)) (k1 : ¬ y0 = 0 → G d 234 23 [vR r0, none, none, vQ (tP τ q3 x1.toNat)] [AI x2] τ Q) (k2 : y0 = 0 → Q (.inl (some (AI (-1)))) τ) : G d 234 10 [vR r0, vI x1, vI x2, none] [AI y0] τ Q := by
  refine g_br1 rfl (t := 15) rfl (fun c1 => ?_) (fun c1 => ?_)
  · have c1 : ¬ y0 = 0 := of_decide_eq_true c1
    refine g_sk 1 (pc1 := 16) (st1 := [AR r0]) rfl ?_
    refine g_gQ rfl (ci := 21) (k := 9) rfl sh2 p4 ?_
    refine g_sk 1 (pc1 := 20) (st1 := [AI x1, AR q3]) rfl ?_
    refine g_aald rfl sh6 (by decide) (b7 c1).1 (b7 c1).2 ?_
    refine g_sx 2 (pc1 := 23) (L1 := [vR r0, vI x1, vI x2, vQ (tP τ q3 x1.toNat)]) (st1 := [AI x2]) rfl ?_
    exact G_fg (lw2_k _ (lw2_f _ (lw2_f _ (lw2_k _ lw2_nil)))) (k1 c1)
  · have c1 : y0 = 0 := Decidable.of_not_not (of_decide_eq_false c1)
    refine g_sk 1 (pc1 := 14) (st1 := [AI (-1)]) rfl ?_
    refine g_iret rfl rfl ?_
    exact (k2 c1)

set_option maxRecDepth 8192 in
theorem t234_77 {d : Nat} {τ : T2} {Q : RS → T2 → Prop} {y0 : Int} (hd : 1 ≤ d) (k1 : G (d - 1) 168 0 [vI y0, none, none] [] τ (KC d 234 77 80 [none, none, none, none] [] Q)) : G d 234 77 [none, none, none, none] [AI y0] τ Q := by
  refine g_cs rfl rfl (by decide) rfl rfl (Nat.le_of_ble_eq_true rfl) rfl (by omega) (L0 := [vI y0, none, none]) rfl ?_
  exact k1

set_option maxRecDepth 8192 in
theorem t234_80 {d : Nat} {τ : T2} {Q : RS → T2 → Prop} {y0 : Int} (k1 : Q (.inl (some (AI y0))) τ) : G d 234 80 [none, none, none, none] [AI y0] τ Q := by
  refine g_iret rfl rfl ?_
  exact k1

set_option maxRecDepth 8192 in
theorem t234_89 {d : Nat} {τ : T2} {Q : RS → T2 → Prop} {y0 : Int} (k1 : Q (.inl (some (AI y0))) τ) : G d 234 89 [none, none, none, none] [AI y0] τ Q := by
  refine g_iret rfl rfl ?_
  exact k1

set_option maxRecDepth 8192 in
theorem t234_102 {d : Nat} {τ : T2} {Q : RS → T2 → Prop} {y0 y1 : Int} (k1 : Q (.inl (some (AI (wr (y1 - y0))))) τ) : G d 234 102 [none, none, none, none] [AI y0, AI y1] τ Q := by
  refine g_sk 1 (pc1 := 103) (st1 := [AI (wr (y1 - y0))]) rfl ?_
  refine g_iret rfl rfl ?_
  exact k1

set_option maxRecDepth 8192 in
theorem t234_112 {d : Nat} {τ : T2} {Q : RS → T2 → Prop} {y0 : Int} (k1 : Q (.inl (some (AI y0))) τ) : G d 234 112 [none, none, none, none] [AI y0] τ Q := by
  refine g_iret rfl rfl ?_
  exact k1

set_option maxRecDepth 8192 in
theorem t234_126 {d : Nat} {τ : T2} {Q : RS → T2 → Prop} {y0 : Int} (k1 : Q (.inl (some (AI y0))) τ) : G d 234 126 [none, none, none, none] [AI y0] τ Q := by
  refine g_iret rfl rfl ?_
  exact k1

set_option maxRecDepth 8192 in
theorem t235_0 {d : Nat} {τ : T2} {Q : RS → T2 → Prop} {x1 x2 x3 : Int} {r0 : Nat} (hd : 1 ≤ d) (sh1 : tS τ r0 = (1, 21, 0)) (k1 : G (d - 1) 230 0 [vR r0, vI x1] [] (uI τ r0 0 0) (KC d 235 7 10 [vR r0, vI x1, vI x2, vI x3, none] [] Q)) : G d 235 0 [vR r0, vI x1, vI x2, vI x3, none] [] τ Q := by
  refine g_sk 2 (pc1 := 2) (st1 := [AI 0, AR r0]) rfl ?_
  refine g_putI (x := 0) rfl (ci := 21) (k := 0) (kd := 0) rfl (by decide) rfl rfl sh1 ?_
  refine g_sk 2 (pc1 := 7) (st1 := [AI x1, AR r0]) rfl ?_
  refine g_cv rfl rfl (by decide) rfl rfl (Nat.le_of_ble_eq_true rfl) (as2 := [AI x1]) rfl sh1 rfl (by omega) (L0 := [vR r0, vI x1]) rfl ?_
  exact k1

set_option maxRecDepth 8192 in
theorem t235_10 {d : Nat} {τ : T2} {Q : RS → T2 → Prop} {x1 x2 x3 y0 : Int} {r0 : Nat} (hd : 1 ≤ d) (sh2 : tS τ r0 = (1, 21, 0)) (k1 : y0 = 0 → Q (.inl (some (AI (-1)))) τ) (k2 : ¬ y0 = 0 → G (d - 1) 207 0 [vR r0, vI x2] [] τ (KC d 235 15 18 [vR r0, vI x1, vI x2, vI x3, none] [] Q)) : G d 235 10 [vR r0, vI x1, vI x2, vI x3, none] [AI y0] τ Q := by
  refine g_br1 rfl (t := 21) rfl (fun c1 => ?_) (fun c1 => ?_)
  · have c1 : y0 = 0 := of_decide_eq_true c1
    refine g_sk 1 (pc1 := 22) (st1 := [AI (-1)]) rfl ?_
    refine g_iret rfl rfl ?_
    exact (k1 c1)
  · have c1 : ¬ y0 = 0 := of_decide_eq_false c1
    refine g_sk 2 (pc1 := 15) (st1 := [AI x2, AR r0]) rfl ?_
    refine g_cv rfl rfl (by decide) rfl rfl (Nat.le_of_ble_eq_true rfl) (as2 := [AI x2]) rfl sh2 rfl (by omega) (L0 := [vR r0, vI x2]) rfl ?_
    exact (k2 c1)

set_option maxRecDepth 8192 in
theorem t235_18 {d : Nat} {τ : T2} {Q : RS → T2 → Prop} {x1 x2 x3 y0 : Int} {r0 q3 n5 q8 q15 n17 q20 n22 q25 n27 q30 n32 : Nat} (sh2 : tS τ r0 = (1, 21, 0)) (p4 : tP τ r0 9 = some q3) (sh6 : tS τ q3 = (3, 8, n5)) (b7 : ¬ y0 = 0 → (0 : Int) ≤ x1 ∧ x1 < (n5 : Int)) (p9 : ¬ y0 = 0 → tP τ q3 x1.toNat = some q8) (sh14 : tS τ q8 = (1, 19, 0)) (p16 : tP τ q8 6 = some q15) (sh18 : tS τ q15 = (2, 0, n17)) (b19 : ¬ y0 = 0 → ¬ x3 = 0 → ¬ x3 = 1 → ¬ x3 = 2 → x3 = 3 → (0 : Int) ≤ x2 ∧ x2 < (n17 : Int)) (p21 : tP τ q8 5 = some q20) (sh23 : tS τ q20 = (2, 0, n22)) (b24 : ¬ y0 = 0 → ¬ x3 = 0 → ¬ x3 = 1 → x3 = 2 → (0 : Int) ≤ x2 ∧ x2 < (n22 : Int)) (p26 : tP τ q8 4 = some q25) (sh28 : tS τ q25 = (2, 0, n27)) (b29 : ¬ y0 = 0 → ¬ x3 = 0 → x3 = 1 → (0 : Int) ≤ x2 ∧ x2 < (n27 : Int)) (p31 : tP τ q8 3 = some q30) (sh33 : tS τ q30 = (2, 0, n32)) (b34 : ¬ y0 = 0 → x3 = 0 → (0 : Int) ≤ x2 ∧ x2 < (n32 : Int)) (k1 : ¬ y0 = 0 → ¬ x3 = 0 → ¬ x3 = 1 → ¬ x3 = 2 → ¬ x3 = 3 → Q (.inl (some (AI (-1)))) τ) (k2 : ¬ y0 = 0 → ¬ x3 = 0 → ¬ x3 = 1 → ¬ x3 = 2 → x3 = 3 → Q (.inl (some (AI (tI τ q15 x2.toNat)))) τ) (k3 : ¬ y0 = 0 → ¬ x3 = 0 → ¬ x3 = 1 → x3 = 2 → Q (.inl (some (AI (tI τ q20 x2.toNat)))) τ) (k4 : ¬ y0 = 0 → ¬ x3 = 0 → x3 = 1 → Q (.inl (some (AI (tI τ q25 x2.toNat)))) τ) (k5 : ¬ y0 = 0 → x3 = 0 → Q (.inl (some (AI (tI τ q30 x2.toNat)))) τ) (k6 : y0 = 0 → Q (.inl (some (AI (-1)))) τ) : G d 235 18 [vR r0, vI x1, vI x2, vI x3, none] [AI y0] τ Q := by
  refine g_br1 rfl (t := 23) rfl (fun c1 => ?_) (fun c1 => ?_)
  · have c1 : ¬ y0 = 0 := of_decide_eq_true c1
    refine g_sk 1 (pc1 := 24) (st1 := [AR r0]) rfl ?_
    refine g_gQ rfl (ci := 21) (k := 9) rfl sh2 p4 ?_
    refine g_sk 1 (pc1 := 28) (st1 := [AI x1, AR q3]) rfl ?_
    refine g_aalQ rfl sh6 (by decide) (b7 c1).1 (b7 c1).2 (p9 c1) ?_
    refine g_sx 2 (pc1 := 32) (L1 := [vR r0, vI x1, vI x2, vI x3, vR q8]) (st1 := [AI x3]) rfl ?_
    refine g_br1 rfl (t := 45) rfl (fun c10 => ?_) (fun c10 => ?_)
    · have c10 : ¬ x3 = 0 := of_decide_eq_true c10
      refine g_sk 2 (pc1 := 47) (st1 := [AI 1, AI x3]) rfl ?_
      refine g_br2 rfl (t := 60) rfl (fun c11 => ?_) (fun c11 => ?_)
      · have c11 : ¬ x3 = 1 := of_decide_eq_true c11
        refine g_sk 2 (pc1 := 62) (st1 := [AI 2, AI x3]) rfl ?_
        refine g_br2 rfl (t := 75) rfl (fun c12 => ?_) (fun c12 => ?_)
        · have c12 : ¬ x3 = 2 := of_decide_eq_true c12
          refine g_sk 2 (pc1 := 77) (st1 := [AI 3, AI x3]) rfl ?_
          refine g_br2 rfl (t := 90) rfl (fun c13 => ?_) (fun c13 => ?_)
          · have c13 : ¬ x3 = 3 := of_decide_eq_true c13
            refine g_sk 1 (pc1 := 91) (st1 := [AI (-1)]) rfl ?_
            refine g_iret rfl rfl ?_
            exact (k1 c1 c10 c11 c12 c13)
          · have c13 : x3 = 3 := Decidable.of_not_not (of_decide_eq_false c13)
            refine g_sk 1 (pc1 := 82) (st1 := [AR q8]) rfl ?_
            refine g_gQ rfl (ci := 19) (k := 6) rfl sh14 p16 ?_
            refine g_sk 1 (pc1 := 86) (st1 := [AI x2, AR q15]) rfl ?_
            refine g_iald rfl sh18 (by decide) (b19 c1 c10 c11 c12 c13).1 (b19 c1 c10 c11 c12 c13).2 ?_
            refine g_sk 1 (pc1 := 91) (st1 := [AI (tI τ q15 x2.toNat)]) rfl ?_
            refine g_iret rfl rfl ?_
            exact (k2 c1 c10 c11 c12 c13)
        · have c12 : x3 = 2 := Decidable.of_not_not (of_decide_eq_false c12)
          refine g_sk 1 (pc1 := 67) (st1 := [AR q8]) rfl ?_
          refine g_gQ rfl (ci := 19) (k := 5) rfl sh14 p21 ?_
          refine g_sk 1 (pc1 := 71) (st1 := [AI x2, AR q20]) rfl ?_
          refine g_iald rfl sh23 (by decide) (b24 c1 c10 c11 c12).1 (b24 c1 c10 c11 c12).2 ?_
          refine g_sk 1 (pc1 := 91) (st1 := [AI (tI τ q20 x2.toNat)]) rfl ?_
          refine g_iret rfl rfl ?_
          exact (k3 c1 c10 c11 c12)
      · have c11 : x3 = 1 := Decidable.of_not_not (of_decide_eq_false c11)
        refine g_sk 1 (pc1 := 52) (st1 := [AR q8]) rfl ?_
        refine g_gQ rfl (ci := 19) (k := 4) rfl sh14 p26 ?_
        refine g_sk 1 (pc1 := 56) (st1 := [AI x2, AR q25]) rfl ?_
        refine g_iald rfl sh28 (by decide) (b29 c1 c10 c11).1 (b29 c1 c10 c11).2 ?_
        refine g_sk 1 (pc1 := 91) (st1 := [AI (tI τ q25 x2.toNat)]) rfl ?_
        refine g_iret rfl rfl ?_
        exact (k4 c1 c10 c11)
    · have c10 : x3 = 0 := Decidable.of_not_not (of_decide_eq_false c10)
      refine g_sk 1 (pc1 := 37) (st1 := [AR q8]) rfl ?_
      refine g_gQ rfl (ci := 19) (k := 3) rfl sh14 p31 ?_
      refine g_sk 1 (pc1 := 41) (st1 := [AI x2, AR q30]) rfl ?_
      refine g_iald rfl sh33 (by decide) (b34 c1 c10).1 (b34 c1 c10).2 ?_
      refine g_sk 1 (pc1 := 91) (st1 := [AI (tI τ q30 x2.toNat)]) rfl ?_
      refine g_iret rfl rfl ?_
      exact (k5 c1 c10)
  · have c1 : y0 = 0 := Decidable.of_not_not (of_decide_eq_false c1)
    refine g_sk 1 (pc1 := 22) (st1 := [AI (-1)]) rfl ?_
    refine g_iret rfl rfl ?_
    exact (k6 c1)

set_option maxRecDepth 8192 in
theorem t236_0 {d : Nat} {τ : T2} {Q : RS → T2 → Prop} {x1 x2 x3 x4 : Int} {r0 q2 n4 q7 : Nat} (hd : 1 ≤ d) (sh1 : tS τ r0 = (1, 21, 0)) (p3 : tP τ r0 9 = some q2) (sh5 : tS τ q2 = (3, 8, n4)) (b6 : (0 : Int) ≤ x1 ∧ x1 < (n4 : Int)) (p8 : tP τ q2 x1.toNat = some q7) (sh9 : tS τ q7 = (1, 19, 0)) (k1 : G (d - 1) 157 0 [vR q7, vI x3, none, none] [] τ (KC d 236 7 10 [vR r0, vI x1, vI x2, vI x3, vI x4, none, none, none, none, none, none] [] Q)) : G d 236 0 [vR r0, vI x1, vI x2, vI x3, vI x4, none, none, none, none, none, none] [] τ Q := by
  refine g_sk 1 (pc1 := 1) (st1 := [AR r0]) rfl ?_
  refine g_gQ rfl (ci := 21) (k := 9) rfl sh1 p3 ?_
  refine g_sk 1 (pc1 := 5) (st1 := [AI x1, AR q2]) rfl ?_
  refine g_aalQ rfl sh5 (by decide) b6.1 b6.2 p8 ?_
  refine g_sk 1 (pc1 := 7) (st1 := [AI x3, AR q7]) rfl ?_
  refine g_cv rfl rfl (by decide) rfl rfl (Nat.le_of_ble_eq_true rfl) (as2 := [AI x3]) rfl sh9 rfl (by omega) (L0 := [vR q7, vI x3, none, none]) rfl ?_
  exact k1

set_option maxRecDepth 8192 in
theorem t236_10 {d : Nat} {τ : T2} {Q : RS → T2 → Prop} {x1 x2 x3 x4 y0 : Int} {r0 q2 n4 q7 : Nat} (hd : 1 ≤ d) (sh1 : tS τ r0 = (1, 21, 0)) (p3 : tP τ r0 9 = some q2) (sh5 : tS τ q2 = (3, 8, n4)) (b6 : (0 : Int) ≤ x2 ∧ x2 < (n4 : Int)) (p8 : tP τ q2 x2.toNat = some q7) (sh9 : tS τ q7 = (1, 19, 0)) (k1 : G (d - 1) 157 0 [vR q7, vI x3, none, none] [] τ (KC d 236 19 22 [vR r0, vI x1, vI x2, vI x3, vI x4, vI y0, none, none, none, none, none] [] Q)) : G d 236 10 [vR r0, vI x1, vI x2, vI x3, vI x4, none, none, none, none, none, none] [AI y0] τ Q := by
  refine g_sx 2 (pc1 := 13) (L1 := [vR r0, vI x1, vI x2, vI x3, vI x4, vI y0, none, none, none, none, none]) (st1 := [AR r0]) rfl ?_
  refine g_gQ rfl (ci := 21) (k := 9) rfl sh1 p3 ?_
  refine g_sk 1 (pc1 := 17) (st1 := [AI x2, AR q2]) rfl ?_
  refine g_aalQ rfl sh5 (by decide) b6.1 b6.2 p8 ?_
  refine g_sk 1 (pc1 := 19) (st1 := [AI x3, AR q7]) rfl ?_
  refine g_cv rfl rfl (by decide) rfl rfl (Nat.le_of_ble_eq_true rfl) (as2 := [AI x3]) rfl sh9 rfl (by omega) (L0 := [vR q7, vI x3, none, none]) rfl ?_
  exact k1

set_option maxRecDepth 8192 in
theorem t236_22 {d : Nat} {τ : T2} {Q : RS → T2 → Prop} {x1 x2 x3 x4 x5 y0 : Int} {r0 : Nat} (hd : 1 ≤ d) (k1 : x4 = (-1) → x4 = (-1) → (0 : Int) = (0 : Int) → G (d - 1) 168 0 [vI x5, none, none] [] τ (KC d 236 94 97 [vR r0, vI x1, vI x2, vI x3, none, vI x5, vI y0, none, none, none, none] [] Q)) (k2 : x4 = (-1) → x4 = (-1) → ¬ (0 : Int) = (0 : Int) → (0 : Int) ≤ (0 : Int) → Q (.inl (some (AI 0))) τ) (k3 : x4 = (-1) → x4 = (-1) → ¬ (0 : Int) = (0 : Int) → (0 : Int) < (0 : Int) → Q (.inl (some (AI 1))) τ) (k4 : x4 = (-1) → ¬ x4 = (-1) → ¬ (zand (zshr y0 x4) 1) = 1 → (0 : Int) = (0 : Int) → G (d - 1) 168 0 [vI x5, none, none] [] τ (KC d 236 94 97 [vR r0, vI x1, vI x2, vI x3, none, vI x5, vI y0, none, none, none, none] [] Q)) (k5 : x4 = (-1) → ¬ x4 = (-1) → ¬ (zand (zshr y0 x4) 1) = 1 → ¬ (0 : Int) = (0 : Int) → (0 : Int) ≤ (0 : Int) → Q (.inl (some (AI 0))) τ) (k6 : x4 = (-1) → ¬ x4 = (-1) → ¬ (zand (zshr y0 x4) 1) = 1 → ¬ (0 : Int) = (0 : Int) → (0 : Int) < (0 : Int) → Q (.inl (some (AI 1))) τ) (k7 : x4 = (-1) → ¬ x4 = (-1) → (zand (zshr y0 x4) 1) = 1 → (0 : Int) = (1 : Int) → G (d - 1) 168 0 [vI x5, none, none] [] τ (KC d 236 94 97 [vR r0, vI x1, vI x2, vI x3, none, vI x5, vI y0, none, none, none, none] [] Q)) (k8 : x4 = (-1) → ¬ x4 = (-1) → (zand (zshr y0 x4) 1) = 1 → ¬ (0 : Int) = (1 : Int) → (0 : Int) ≤ (1 : Int) → Q (.inl (some (AI 0))) τ) (k9 : x4 = (-1) → ¬ x4 = (-1) → (zand (zshr y0 x4) 1) = 1 → ¬ (0 : Int) = (1 : Int) → (1 : Int) < (0 : Int) → Q (.inl (some (AI 1))) τ) (k10 : ¬ x4 = (-1) → ¬ (zand (zshr x5 x4) 1) = 1 → x4 = (-1) → (0 : Int) = (0 : Int) → G (d - 1) 168 0 [vI x5, none, none] [] τ (KC d 236 94 97 [vR r0, vI x1, vI x2, vI x3, none, vI x5, vI y0, none, none, none, none] [] Q)) (k11 : ¬ x4 = (-1) → ¬ (zand (zshr x5 x4) 1) = 1 → x4 = (-1) → ¬ (0 : Int) = (0 : Int) → (0 : Int) ≤ (0 : Int) → Q (.inl (some (AI 0))) τ) (k12 : ¬ x4 = (-1) → ¬ (zand (zshr x5 x4) 1) = 1 → x4 = (-1) → ¬ (0 : Int) = (0 : Int) → (0 : Int) < (0 : Int) → Q (.inl (some (AI 1))) τ) (k13 : ¬ x4 = (-1) → ¬ (zand (zshr x5 x4) 1) = 1 → ¬ x4 = (-1) → ¬ (zand (zshr y0 x4) 1) = 1 → (0 : Int) = (0 : Int) → G (d - 1) 168 0 [vI x5, none, none] [] τ (KC d 236 94 97 [vR r0, vI x1, vI x2, vI x3, none, vI x5, vI y0, none, none, none, none] [] Q)) (k14 : ¬ x4 = (-1) → ¬ (zand (zshr x5 x4) 1) = 1 → ¬ x4 = (-1) → ¬ (zand (zshr y0 x4) 1) = 1 → ¬ (0 : Int) = (0 : Int) → (0 : Int) ≤ (0 : Int) → Q (.inl (some (AI 0))) τ) (k15 : ¬ x4 = (-1) → ¬ (zand (zshr x5 x4) 1) = 1 → ¬ x4 = (-1) → ¬ (zand (zshr y0 x4) 1) = 1 → ¬ (0 : Int) = (0 : Int) → (0 : Int) < (0 : Int) → Q (.inl (some (AI 1))) τ) (k16 : ¬ x4 = (-1) → ¬ (zand (zshr x5 x4) 1) = 1 → ¬ x4 = (-1) → (zand (zshr y0 x4) 1) = 1 → (0 : Int) = (1 : Int) → G (d - 1) 168 0 [vI x5, none, none] [] τ (KC d 236 94 97 [vR r0, vI x1, vI x2, vI x3, none, vI x5, vI y0, none, none, none, none] [] Q)) (k17 : ¬ x4 = (-1) → ¬ (zand (zshr x5 x4) 1) = 1 → ¬ x4 = (-1) → (zand (zshr y0 x4) 1) = 1 → ¬ (0 : Int) = (1 : Int) → (0 : Int) ≤ (1 : Int) → Q (.inl (some (AI 0))) τ) (k18 : ¬ x4 = (-1) → ¬ (zand (zshr x5 x4) 1) = 1 → ¬ x4 = (-1) → (zand (zshr y0 x4) 1) = 1 → ¬ (0 : Int) = (1 : Int) → (1 : Int) < (0 : Int) → Q (.inl (some (AI 1))) τ) (k19 : ¬ x4 = (-1) → (zand (zshr x5 x4) 1) = 1 → x4 = (-1) → (1 : Int) = (0 : Int) → G (d - 1) 168 0 [vI x5, none, none] [] τ (KC d 236 94 97 [vR r0, vI x1, vI x2, vI x3, none, vI x5, vI y0, none, none, none, none] [] Q)) (k20 : ¬ x4 = (-1) → (zand (zshr x5 x4) 1) = 1 → x4 = (-1) → ¬ (1 : Int) = (0 : Int) → (1 : Int) ≤ (0 : Int) → Q (.inl (some (AI 0))) τ) (k21 : ¬ x4 = (-1) → (zand (zshr x5 x4) 1) = 1 → x4 = (-1) → ¬ (1 : Int) = (0 : Int) → (0 : Int) < (1 : Int) → Q (.inl (some (AI 1))) τ) (k22 : ¬ x4 = (-1) → (zand (zshr x5 x4) 1) = 1 → ¬ x4 = (-1) → ¬ (zand (zshr y0 x4) 1) = 1 → (1 : Int) = (0 : Int) → G (d - 1) 168 0 [vI x5, none, none] [] τ (KC d 236 94 97 [vR r0, vI x1, vI x2, vI x3, none, vI x5, vI y0, none, none, none, none] [] Q)) (k23 : ¬ x4 = (-1) → (zand (zshr x5 x4) 1) = 1 → ¬ x4 = (-1) → ¬ (zand (zshr y0 x4) 1) = 1 → ¬ (1 : Int) = (0 : Int) → (1 : Int) ≤ (0 : Int) → Q (.inl (some (AI 0))) τ) (k24 : ¬ x4 = (-1) → (zand (zshr x5 x4) 1) = 1 → ¬ x4 = (-1) → ¬ (zand (zshr y0 x4) 1) = 1 → ¬ (1 : Int) = (0 : Int) → (0 : Int) < (1 : Int) → Q (.inl (some (AI 1))) τ) (k25 : ¬ x4 = (-1) → (zand (zshr x5 x4) 1) = 1 → ¬ x4 = (-1) → (zand (zshr y0 x4) 1) = 1 → (1 : Int) = (1 : Int) → G (d - 1) 168 0 [vI x5, none, none] [] τ (KC d 236 94 97 [vR r0, vI x1, vI x2, vI x3, none, vI x5, vI y0, none, none, none, none] [] Q)) (k26 : ¬ x4 = (-1) → (zand (zshr x5 x4) 1) = 1 → ¬ x4 = (-1) → (zand (zshr y0 x4) 1) = 1 → ¬ (1 : Int) = (1 : Int) → (1 : Int) ≤ (1 : Int) → Q (.inl (some (AI 0))) τ) (k27 : ¬ x4 = (-1) → (zand (zshr x5 x4) 1) = 1 → ¬ x4 = (-1) → (zand (zshr y0 x4) 1) = 1 → ¬ (1 : Int) = (1 : Int) → (1 : Int) < (1 : Int) → Q (.inl (some (AI 1))) τ) : G d 236 22 [vR r0, vI x1, vI x2, vI x3, vI x4, vI x5, none, none, none, none, none] [AI y0] τ Q := by
  refine g_sx 3 (pc1 := 27) (L1 := [vR r0, vI x1, vI x2, vI x3, vI x4, vI x5, vI y0, none, none, none, none]) (st1 := [AI (-1), AI x4]) rfl ?_
  refine g_br2 rfl (t := 45) rfl (fun c1 => ?_) (fun c1 => ?_)
  · have c1 : x4 = (-1) := of_decide_eq_true c1
    refine g_sx 4 (pc1 := 51) (L1 := [vR r0, vI x1, vI x2, vI x3, vI x4, vI x5, vI y0, vI 0, none, none, none]) (st1 := [AI (-1), AI x4]) rfl ?_
    refine g_br2 rfl (t := 69) rfl (fun c2 => ?_) (fun c2 => ?_)
    · have c2 : x4 = (-1) := of_decide_eq_true c2
      refine g_sx 4 (pc1 := 76) (L1 := [vR r0, vI x1, vI x2, vI x3, vI x4, vI x5, vI y0, vI 0, vI 0, none, none]) (st1 := [AI 0, AI 0]) rfl ?_
      refine g_br2 rfl (t := 92) rfl (fun c3 => ?_) (fun c3 => ?_)
      · have c3 : (0 : Int) = (0 : Int) := of_decide_eq_true c3
        refine g_sk 1 (pc1 := 94) (st1 := [AI x5]) rfl ?_
        refine G_fg (lw2_k _ (lw2_k _ (lw2_k _ (lw2_k _ (lw2_f _ (lw2_k _ (lw2_k _ (lw2_f _ (lw2_f _ (lw2_k _ (lw2_k _ lw2_nil))))))))))) ?_
        refine g_cs rfl rfl (by decide) rfl rfl (Nat.le_of_ble_eq_true rfl) rfl (by omega) (L0 := [vI x5, none, none]) rfl ?_
        exact (k1 c1 c2 c3)
      · have c3 : ¬ (0 : Int) = (0 : Int) := of_decide_eq_false c3
        refine g_sk 2 (pc1 := 83) (st1 := [AI 0, AI 0]) rfl ?_
        refine g_br2 rfl (t := 90) rfl (fun c4 => ?_) (fun c4 => ?_)
        · have c4 : (0 : Int) ≤ (0 : Int) := of_decide_eq_true c4
          refine g_sk 1 (pc1 := 91) (st1 := [AI 0]) rfl ?_
          refine g_zret rfl rfl (by decide) ?_
          exact (k2 c1 c2 c3 c4)
        · have c4 : (0 : Int) < (0 : Int) := Int.not_le.mp (of_decide_eq_false c4)
          refine g_sk 2 (pc1 := 91) (st1 := [AI 1]) rfl ?_
          refine g_zret rfl rfl (by decide) ?_
          exact (k3 c1 c2 c3 c4)
    · have c2 : ¬ x4 = (-1) := of_decide_eq_false c2
      refine g_sk 6 (pc1 := 62) (st1 := [AI 1, AI (zand (zshr y0 x4) 1)]) rfl ?_
      refine g_br2 rfl (t := 69) rfl (fun c5 => ?_) (fun c5 => ?_)
      · have c5 : ¬ (zand (zshr y0 x4) 1) = 1 := of_decide_eq_true c5
        refine g_sx 4 (pc1 := 76) (L1 := [vR r0, vI x1, vI x2, vI x3, vI x4, vI x5, vI y0, vI 0, vI 0, none, none]) (st1 := [AI 0, AI 0]) rfl ?_
        refine g_br2 rfl (t := 92) rfl (fun c6 => ?_) (fun c6 => ?_)
        · have c6 : (0 : Int) = (0 : Int) := of_decide_eq_true c6
          refine g_sk 1 (pc1 := 94) (st1 := [AI x5]) rfl ?_
          refine G_fg (lw2_k _ (lw2_k _ (lw2_k _ (lw2_k _ (lw2_f _ (lw2_k _ (lw2_k _ (lw2_f _ (lw2_f _ (lw2_k _ (lw2_k _ lw2_nil))))))))))) ?_
          refine g_cs rfl rfl (by decide) rfl rfl (Nat.le_of_ble_eq_true rfl) rfl (by omega) (L0 := [vI x5, none, none]) rfl ?_
          exact (k4 c1 c2 c5 c6)
        · have c6 : ¬ (0 : Int) = (0 : Int) := of_decide_eq_false c6
          refine g_sk 2 (pc1 := 83) (st1 := [AI 0, AI 0]) rfl ?_
          refine g_br2 rfl (t := 90) rfl (fun c7 => ?_) (fun c7 => ?_)
          · have c7 : (0 : Int) ≤ (0 : Int) := of_decide_eq_true c7
            refine g_sk 1 (pc1 := 91) (st1 := [AI 0]) rfl ?_
            refine g_zret rfl rfl (by decide) ?_
            exact (k5 c1 c2 c5 c6 c7)
          · have c7 : (0 : Int) < (0 : Int) := Int.not_le.mp (of_decide_eq_false c7)
            refine g_sk 2 (pc1 := 91) (st1 := [AI 1]) rfl ?_
            refine g_zret rfl rfl (by decide) ?_
            exact (k6 c1 c2 c5 c6 c7)
      · have c5 : (zand (zshr y0 x4) 1) = 1 := Decidable.of_not_not (of_decide_eq_false c5)
        refine g_sx 5 (pc1 := 76) (L1 := [vR r0, vI x1, vI x2, vI x3, vI x4, vI x5, vI y0, vI 0, vI 1, none, none]) (st1 := [AI 1, AI 0]) rfl ?_
        refine g_br2 rfl (t := 92) rfl (fun c8 => ?_) (fun c8 => ?_)
        · have c8 : (0 : Int) = (1 : Int) := of_decide_eq_true c8
          refine g_sk 1 (pc1 := 94) (st1 := [AI x5]) rfl ?_
          refine G_fg (lw2_k _ (lw2_k _ (lw2_k _ (lw2_k _ (lw2_f _ (lw2_k _ (lw2_k _ (lw2_f _ (lw2_f _ (lw2_k _ (lw2_k _ lw2_nil))))))))))) ?_
          refine g_cs rfl rfl (by decide) rfl rfl (Nat.le_of_ble_eq_true rfl) rfl (by omega) (L0 := [vI x5, none, none]) rfl ?_
          exact (k7 c1 c2 c5 c8)
        · have c8 : ¬ (0 : Int) = (1 : Int) := of_decide_eq_false c8
          refine g_sk 2 (pc1 := 83) (st1 := [AI 1, AI 0]) rfl ?_
          refine g_br2 rfl (t := 90) rfl (fun c9 => ?_) (fun c9 => ?_)
          · have c9 : (0 : Int) ≤ (1 : Int) := of_decide_eq_true c9
            refine g_sk 1 (pc1 := 91) (st1 := [AI 0]) rfl ?_
            refine g_zret rfl rfl (by decide) ?_
            exact (k8 c1 c2 c5 c8 c9)
          · have c9 : (1 : Int) < (0 : Int) := Int.not_le.mp (of_decide_eq_false c9)
            refine g_sk 2 (pc1 := 91) (st1 := [AI 1]) rfl ?_
            refine g_zret rfl rfl (by decide) ?_
            exact (k9 c1 c2 c5 c8 c9)
  · have c1 : ¬ x4 = (-1) := of_decide_eq_false c1
    refine g_sk 6 (pc1 := 38) (st1 := [AI 1, AI (zand (zshr x5 x4) 1)]) rfl ?_
    refine g_br2 rfl (t := 45) rfl (fun c10 => ?_) (fun c10 => ?_)
    · have c10 : ¬ (zand (zshr x5 x4) 1) = 1 := of_decide_eq_true c10
      refine g_sx 4 (pc1 := 51) (L1 := [vR r0, vI x1, vI x2, vI x3, vI x4, vI x5, vI y0, vI 0, none, none, none]) (st1 := [AI (-1), AI x4]) rfl ?_
      refine g_br2 rfl (t := 69) rfl (fun c11 => ?_) (fun c11 => ?_)
      · have c11 : x4 = (-1) := of_decide_eq_true c11
        refine g_sx 4 (pc1 := 76) (L1 := [vR r0, vI x1, vI x2, vI x3, vI x4, vI x5, vI y0, vI 0, vI 0, none, none]) (st1 := [AI 0, AI 0]) rfl ?_
        refine g_br2 rfl (t := 92) rfl (fun c12 => ?_) (fun c12 => ?_)
        · have c12 : (0 : Int) = (0 : Int) := of_decide_eq_true c12
          refine g_sk 1 (pc1 := 94) (st1 := [AI x5]) rfl ?_
          refine G_fg (lw2_k _ (lw2_k _ (lw2_k _ (lw2_k _ (lw2_f _ (lw2_k _ (lw2_k _ (lw2_f _ (lw2_f _ (lw2_k _ (lw2_k _ lw2_nil))))))))))) ?_
          refine g_cs rfl rfl (by decide) rfl rfl (Nat.le_of_ble_eq_true rfl) rfl (by omega) (L0 := [vI x5, none, none]) rfl ?_
          exact (k10 c1 c10 c11 c12)
        · have c12 : ¬ (0 : Int) = (0 : Int) := of_decide_eq_false c12
          refine g_sk 2 (pc1 := 83) (st1 := [AI 0, AI 0]) rfl ?_
          refine g_br2 rfl (t := 90) rfl (fun c13 => ?_) (fun c13 => ?_)
          · have c13 : (0 : Int) ≤ (0 : Int) := of_decide_eq_true c13
            refine g_sk 1 (pc1 := 91) (st1 := [AI 0]) rfl ?_
            refine g_zret rfl rfl (by decide) ?_
            exact (k11 c1 c10 c11 c12 c13)
          · have c13 : (0 : Int) < (0 : Int) := Int.not_le.mp (of_decide_eq_false c13)
            refine g_sk 2 (pc1 := 91) (st1 := [AI 1]) rfl ?_
            refine g_zret rfl rfl (by decide) ?_
            exact (k12 c1 c10 c11 c12 c13)
      · have c11 : ¬ x4 = (-1) := of_decide_eq_false c11
        refine g_sk 6 (pc1 := 62) (st1 := [AI 1, AI (zand (zshr y0 x4) 1)]) rfl ?_
        refine g_br2 rfl (t := 69) rfl (fun c14 => ?_) (fun c14 => ?_)
        · have c14 : ¬ (zand (zshr y0 x4) 1) = 1 := of_decide_eq_true c14
          refine g_sx 4 (pc1 := 76) (L1 := [vR r0, vI x1, vI x2, vI x3, vI x4, vI x5, vI y0, vI 0, vI 0, none, none]) (st1 := [AI 0, AI 0]) rfl ?_
          refine g_br2 rfl (t := 92) rfl (fun c15 => ?_) (fun c15 => ?_)
          · have c15 : (0 : Int) = (0 : Int) := of_decide_eq_true c15
            refine g_sk 1 (pc1 := 94) (st1 := [AI x5]) rfl ?_
            refine G_fg (lw2_k _ (lw2_k _ (lw2_k _ (lw2_k _ (lw2_f _ (lw2_k _ (lw2_k _ (lw2_f _ (lw2_f _ (lw2_k _ (lw2_k _ lw2_nil))))))))))) ?_
            refine g_cs rfl rfl (by decide) rfl rfl (Nat.le_of_ble_eq_true rfl) rfl (by omega) (L0 := [vI x5, none, none]) rfl ?_
            exact (k13 c1 c10 c11 c14 c15)
          · have c15 : ¬ (0 : Int) = (0 : Int) := of_decide_eq_false c15
            refine g_sk 2 (pc1 := 83) (st1 := [AI 0, AI 0]) rfl ?_
            refine g_br2 rfl (t := 90) rfl (fun c16 => ?_) (fun c16 => ?_)
            · have c16 : (0 : Int) ≤ (0 : Int) := of_decide_eq_true c16
              refine g_sk 1 (pc1 := 91) (st1 := [AI 0]) rfl ?_
              refine g_zret rfl rfl (by decide) ?_
              exact (k14 c1 c10 c11 c14 c15 c16)
            · have c16 : (0 : Int) < (0 : Int) := Int.not_le.mp (of_decide_eq_false c16)
              refine g_sk 2 (pc1 := 91) (st1 := [AI 1]) rfl ?_
              refine g_zret rfl rfl (by decide) ?_
              exact (k15 c1 c10 c11 c14 c15 c16)
        · have c14 : (zand (zshr y0 x4) 1) = 1 := Decidable.of_not_not (of_decide_eq_false c14)
          refine g_sx 5 (pc1 := 76) (L1 := [vR r0, vI x1, vI x2, vI x3, vI x4, vI x5, vI y0, vI 0, vI 1, none, none]) (st1 := [AI 1, AI 0]) rfl ?_
          refine g_br2 rfl (t := 92) rfl (fun c17 => ?_) (fun c17 => ?_)
          · have c17 : (0 : Int) = (1 : Int) := of_decide_eq_true c17
            refine g_sk 1 (pc1 := 94) (st1 := [AI x5]) rfl ?_
            refine G_fg (lw2_k _ (lw2_k _ (lw2_k _ (lw2_k _ (lw2_f _ (lw2_k _ (lw2_k _ (lw2_f _ (lw2_f _ (lw2_k _ (lw2_k _ lw2_nil))))))))))) ?_
            refine g_cs rfl rfl (by decide) rfl rfl (Nat.le_of_ble_eq_true rfl) rfl (by omega) (L0 := [vI x5, none, none]) rfl ?_
            exact (k16 c1 c10 c11 c14 c17)
          · have c17 : ¬ (0 : Int) = (1 : Int) := of_decide_eq_false c17
            refine g_sk 2 (pc1 := 83) (st1 := [AI 1, AI 0]) rfl ?_
            refine g_br2 rfl (t := 90) rfl (fun c18 => ?_) (fun c18 => ?_)
            · have c18 : (0 : Int) ≤ (1 : Int) := of_decide_eq_true c18
              refine g_sk 1 (pc1 := 91) (st1 := [AI 0]) rfl ?_
              refine g_zret rfl rfl (by decide) ?_
              exact (k17 c1 c10 c11 c14 c17 c18)
            · have c18 : (1 : Int) < (0 : Int) := Int.not_le.mp (of_decide_eq_false c18)
              refine g_sk 2 (pc1 := 91) (st1 := [AI 1]) rfl ?_
              refine g_zret rfl rfl (by decide) ?_
              exact (k18 c1 c10 c11 c14 c17 c18)
    · have c10 : (zand (zshr x5 x4) 1) = 1 := Decidable.of_not_not (of_decide_eq_false c10)
      refine g_sx 5 (pc1 := 51) (L1 := [vR r0, vI x1, vI x2, vI x3, vI x4, vI x5, vI y0, vI 1, none, none, none]) (st1 := [AI (-1), AI x4]) rfl ?_
      refine g_br2 rfl (t := 69) rfl (fun c19 => ?_) (fun c19 => ?_)
      · have c19 : x4 = (-1) := of_decide_eq_true c19
        refine g_sx 4 (pc1 := 76) (L1 := [vR r0, vI x1, vI x2, vI x3, vI x4, vI x5, vI y0, vI 1, vI 0, none, none]) (st1 := [AI 0, AI 1]) rfl ?_
        refine g_br2 rfl (t := 92) rfl (fun c20 => ?_) (fun c20 => ?_)
        · have c20 : (1 : Int) = (0 : Int) := of_decide_eq_true c20
          refine g_sk 1 (pc1 := 94) (st1 := [AI x5]) rfl ?_
          refine G_fg (lw2_k _ (lw2_k _ (lw2_k _ (lw2_k _ (lw2_f _ (lw2_k _ (lw2_k _ (lw2_f _ (lw2_f _ (lw2_k _ (lw2_k _ lw2_nil))))))))))) ?_
          refine g_cs rfl rfl (by decide) rfl rfl (Nat.le_of_ble_eq_true rfl) rfl (by omega) (L0 := [vI x5, none, none]) rfl ?_
          exact (k19 c1 c10 c19 c20)
        · have c20 : ¬ (1 : Int) = (0 : Int) := of_decide_eq_false c20
          refine g_sk 2 (pc1 := 83) (st1 := [AI 0, AI 1]) rfl ?_
          refine g_br2 rfl (t := 90) rfl (fun c21 => ?_) (fun c21 => ?_)
          · have c21 : (1 : Int) ≤ (0 : Int) := of_decide_eq_true c21
            refine g_sk 1 (pc1 := 91) (st1 := [AI 0]) rfl ?_
            refine g_zret rfl rfl (by decide) ?_
            exact (k20 c1 c10 c19 c20 c21)
          · have c21 : (0 : Int) < (1 : Int) := Int.not_le.mp (of_decide_eq_false c21)
            refine g_sk 2 (pc1 := 91) (st1 := [AI 1]) rfl ?_
            refine g_zret rfl rfl (by decide) ?_
            exact (k21 c1 c10 c19 c20 c21)
      · have c19 : ¬ x4 = (-1) := of_decide_eq_false c19
        refine g_sk 6 (pc1 := 62) (st1 := [AI 1, AI (zand (zshr y0 x4) 1)]) rfl ?_
        refine g_br2 rfl (t := 69) rfl (fun c22 => ?_) (fun c22 => ?_)
        · have c22 : ¬ (zand (zshr y0 x4) 1) = 1 := of_decide_eq_true c22
          refine g_sx 4 (pc1 := 76) (L1 := [vR r0, vI x1, vI x2, vI x3, vI x4, vI x5, vI y0, vI 1, vI 0, none, none]) (st1 := [AI 0, AI 1]) rfl ?_
          refine g_br2 rfl (t := 92) rfl (fun c23 => ?_) (fun c23 => ?_)
          · have c23 : (1 : Int) = (0 : Int) := of_decide_eq_true c23
            refine g_sk 1 (pc1 := 94) (st1 := [AI x5]) rfl ?_
            refine G_fg (lw2_k _ (lw2_k _ (lw2_k _ (lw2_k _ (lw2_f _ (lw2_k _ (lw2_k _ (lw2_f _ (lw2_f _ (lw2_k _ (lw2_k _ lw2_nil))))))))))) ?_
            refine g_cs rfl rfl (by decide) rfl rfl (Nat.le_of_ble_eq_true rfl) rfl (by omega) (L0 := [vI x5, none, none]) rfl ?_
            exact (k22 c1 c10 c19 c22 c23)
          · have c23 : ¬ (1 : Int) = (0 : Int) := of_decide_eq_false c23
            refine g_sk 2 (pc1 := 83) (st1 := [AI 0, AI 1]) rfl ?_
            refine g_br2 rfl (t := 90) rfl (fun c24 => ?_) (fun c24 => ?_)
            · have c24 : (1 : Int) ≤ (0 : Int) := of_decide_eq_true c24
              refine g_sk 1 (pc1 := 91) (st1 := [AI 0]) rfl ?_
              refine g_zret rfl rfl (by decide) ?_
              exact (k23 c1 c10 c19 c22 c23 c24)
            · have c24 : (0 : Int) < (1 : Int) := Int.not_le.mp (of_decide_eq_false c24)
              refine g_sk 2 (pc1 := 91) (st1 := [AI 1]) rfl ?_
              refine g_zret rfl rfl (by decide) ?_
              exact (k24 c1 c10 c19 c22 c23 c24)
        · have c22 : (zand (zshr y0 x4) 1) = 1 := Decidable.of_not_not (of_decide_eq_false c22)
          refine g_sx 5 (pc1 := 76) (L1 := [vR r0, vI x1, vI x2, vI x3, vI x4, vI x5, vI y0, vI 1, vI 1, none, none]) (st1 := [AI 1, AI 1]) rfl ?_
          refine g_br2 rfl (t := 92) rfl (fun c25 => ?_) (fun c25 => ?_)
          · have c25 : (1 : Int) = (1 : Int) := of_decide_eq_true c25
            refine g_sk 1 (pc1 := 94) (st1 := [AI x5]) rfl ?_
            refine G_fg (lw2_k _ (lw2_k _ (lw2_k _ (lw2_k _ (lw2_f _ (lw2_k _ (lw2_k _ (lw2_f _ (lw2_f _ (lw2_k _ (lw2_k _ lw2_nil))))))))))) ?_
            refine g_cs rfl rfl (by decide) rfl rfl (Nat.le_of_ble_eq_true rfl) rfl (by omega) (L0 := [vI x5, none, none]) rfl ?_
            exact (k25 c1 c10 c19 c22 c25)
          · have c25 : ¬ (1 : Int) = (1 : Int) := of_decide_eq_false c25
            refine g_sk 2 (pc1 := 83) (st1 := [AI 1, AI 1]) rfl ?_
            refine g_br2 rfl (t := 90) rfl (fun c26 => ?_) (fun c26 => ?_)
            · have c26 : (1 : Int) ≤ (1 : Int) := of_decide_eq_true c26
              refine g_sk 1 (pc1 := 91) (st1 := [AI 0]) rfl ?_
              refine g_zret rfl rfl (by decide) ?_
              exact (k26 c1 c10 c19 c22 c25 c26)
            · have c26 : (1 : Int) < (1 : Int) := Int.not_le.mp (of_decide_eq_false c26)
              refine g_sk 2 (pc1 := 91) (st1 := [AI 1]) rfl ?_
              refine g_zret rfl rfl (by decide) ?_
              exact (k27 c1 c10 c19 c22 c25 c26)

set_option maxRecDepth 8192 in
theorem t236_97 {d : Nat} {τ : T2} {Q : RS → T2 → Prop} {x1 x2 x3 x5 x6 y0 : Int} {r0 : Nat} (hd : 1 ≤ d) (k1 : G (d - 1) 168 0 [vI x6, none, none] [] τ (KC d 236 99 102 [vR r0, vI x1, vI x2, vI x3, none, vI x5, vI x6, none, none, none, none] [AI y0] Q)) : G d 236 97 [vR r0, vI x1, vI x2, vI x3, none, vI x5, vI x6, none, none, none, none] [AI y0] τ Q := by
  refine g_sk 1 (pc1 := 99) (st1 := [AI x6, AI y0]) rfl ?_
  refine g_cs rfl rfl (by decide) rfl rfl (Nat.le_of_ble_eq_true rfl) rfl (by omega) (L0 := [vI x6, none, none]) rfl ?_
  exact k1

set_option maxRecDepth 8192 in
theorem t236_102 {d : Nat} {τ : T2} {Q : RS → T2 → Prop} {x1 x2 x3 x5 x6 y0 y1 : Int} {r0 q3 n5 q8 : Nat} (hd : 1 ≤ d) (sh2 : tS τ r0 = (1, 21, 0)) (p4 : tP τ r0 9 = some q3) (sh6 : tS τ q3 = (3, 8, n5)) (b7 : y1 = y0 → (0 : Int) ≤ x1 ∧ x1 < (n5 : Int)) (p9 : y1 = y0 → tP τ q3 x1.toNat = some q8) (sh10 : tS τ q8 = (1, 19, 0)) (k1 : y1 = y0 → G (d - 1) 160 0 [vR q8, vI x3] [] τ (KC d 236 131 134 [vR r0, vI x1, vI x2, vI x3, none, none, none, none, none, none, none] [] Q)) (k2 : ¬ y1 = y0 → G (d - 1) 168 0 [vI x5, none, none] [] τ (KC d 236 107 110 [none, none, none, none, none, none, vI x6, none, none, none, none] [] Q)) : G d 236 102 [vR r0, vI x1, vI x2, vI x3, none, vI x5, vI x6, none, none, none, none] [AI y0, AI y1] τ Q := by
  refine g_br2 rfl (t := 124) rfl (fun c1 => ?_) (fun c1 => ?_)
  · have c1 : y1 = y0 := of_decide_eq_true c1
    refine g_sk 1 (pc1 := 125) (st1 := [AR r0]) rfl ?_
    refine g_gQ rfl (ci := 21) (k := 9) rfl sh2 p4 ?_
    refine g_sk 1 (pc1 := 129) (st1 := [AI x1, AR q3]) rfl ?_
    refine g_aalQ rfl sh6 (by decide) (b7 c1).1 (b7 c1).2 (p9 c1) ?_
    refine g_sk 1 (pc1 := 131) (st1 := [AI x3, AR q8]) rfl ?_
    refine G_fg (lw2_k _ (lw2_k _ (lw2_k _ (lw2_k _ (lw2_k _ (lw2_f _ (lw2_f _ (lw2_k _ (lw2_k _ (lw2_k _ (lw2_k _ lw2_nil))))))))))) ?_
    refine g_cv rfl rfl (by decide) rfl rfl (Nat.le_of_ble_eq_true rfl) (as2 := [AI x3]) rfl sh10 rfl (by omega) (L0 := [vR q8, vI x3]) rfl ?_
    exact (k1 c1)
  · have c1 : ¬ y1 = y0 := of_decide_eq_false c1
    refine g_sk 1 (pc1 := 107) (st1 := [AI x5]) rfl ?_
    refine G_fg (lw2_f _ (lw2_f _ (lw2_f _ (lw2_f _ (lw2_k _ (lw2_f _ (lw2_k _ (lw2_k _ (lw2_k _ (lw2_k _ (lw2_k _ lw2_nil))))))))))) ?_
    refine g_cs rfl rfl (by decide) rfl rfl (Nat.le_of_ble_eq_true rfl) rfl (by omega) (L0 := [vI x5, none, none]) rfl ?_
    exact (k2 c1)

set_option maxRecDepth 8192 in
theorem t236_110 {d : Nat} {τ : T2} {Q : RS → T2 → Prop} {x6 y0 : Int} (hd : 1 ≤ d) (k1 : G (d - 1) 168 0 [vI x6, none, none] [] τ (KC d 236 112 115 [none, none, none, none, none, none, none, none, none, none, none] [AI y0] Q)) : G d 236 110 [none, none, none, none, none, none, vI x6, none, none, none, none] [AI y0] τ Q := by
  refine g_sk 1 (pc1 := 112) (st1 := [AI x6, AI y0]) rfl ?_
  refine G_fg (lw2_k _ (lw2_k _ (lw2_k _ (lw2_k _ (lw2_k _ (lw2_k _ (lw2_f _ (lw2_k _ (lw2_k _ (lw2_k _ (lw2_k _ lw2_nil))))))))))) ?_
  refine g_cs rfl rfl (by decide) rfl rfl (Nat.le_of_ble_eq_true rfl) rfl (by omega) (L0 := [vI x6, none, none]) rfl ?_
  exact k1

set_option maxRecDepth 8192 in
theorem t236_115 {d : Nat} {τ : T2} {Q : RS → T2 → Prop} {y0 y1 : Int} (k1 : y1 ≤ y0 → Q (.inl (some (AI 0))) τ) (k2 : y0 < y1 → Q (.inl (some (AI 1))) τ) : G d 236 115 [none, none, none, none, none, none, none, none, none, none, none] [AI y0, AI y1] τ Q := by
  refine g_br2 rfl (t := 122) rfl (fun c1 => ?_) (fun c1 => ?_)
  · have c1 : y1 ≤ y0 := of_decide_eq_true c1
    refine g_sk 1 (pc1 := 123) (st1 := [AI 0]) rfl ?_
    refine g_zret rfl rfl (by decide) ?_
    exact (k1 c1)
  · have c1 : y0 < y1 := Int.not_le.mp (of_decide_eq_false c1)
    refine g_sk 2 (pc1 := 123) (st1 := [AI 1]) rfl ?_
    refine g_zret rfl rfl (by decide) ?_
    exact (k2 c1)

set_option maxRecDepth 8192 in
theorem t236_134 {d : Nat} {τ : T2} {Q : RS → T2 → Prop} {x1 x2 x3 y0 : Int} {r0 q2 n4 q7 : Nat} (hd : 1 ≤ d) (sh1 : tS τ r0 = (1, 21, 0)) (p3 : tP τ r0 9 = some q2) (sh5 : tS τ q2 = (3, 8, n4)) (b6 : (0 : Int) ≤ x2 ∧ x2 < (n4 : Int)) (p8 : tP τ q2 x2.toNat = some q7) (sh9 : tS τ q7 = (1, 19, 0)) (k1 : G (d - 1) 160 0 [vR q7, vI x3] [] τ (KC d 236 143 146 [none, vI x1, vI x2, none, none, none, none, none, none, vI y0, none] [] Q)) : G d 236 134 [vR r0, vI x1, vI x2, vI x3, none, none, none, none, none, none, none] [AI y0] τ Q := by
  refine g_sx 2 (pc1 := 137) (L1 := [vR r0, vI x1, vI x2, vI x3, none, none, none, none, none, vI y0, none]) (st1 := [AR r0]) rfl ?_
  refine g_gQ rfl (ci := 21) (k := 9) rfl sh1 p3 ?_
  refine g_sk 1 (pc1 := 141) (st1 := [AI x2, AR q2]) rfl ?_
  refine g_aalQ rfl sh5 (by decide) b6.1 b6.2 p8 ?_
  refine g_sk 1 (pc1 := 143) (st1 := [AI x3, AR q7]) rfl ?_
  refine G_fg (lw2_f _ (lw2_k _ (lw2_k _ (lw2_f _ (lw2_k _ (lw2_k _ (lw2_k _ (lw2_k _ (lw2_k _ (lw2_k _ (lw2_k _ lw2_nil))))))))))) ?_
  refine g_cv rfl rfl (by decide) rfl rfl (Nat.le_of_ble_eq_true rfl) (as2 := [AI x3]) rfl sh9 rfl (by omega) (L0 := [vR q7, vI x3]) rfl ?_
  exact k1

set_option maxRecDepth 8192 in
theorem t236_146 {d : Nat} {τ : T2} {Q : RS → T2 → Prop} {x1 x2 x9 y0 : Int} (k1 : x9 = y0 → x2 ≤ x1 → Q (.inl (some (AI 0))) τ) (k2 : x9 = y0 → x1 < x2 → Q (.inl (some (AI 1))) τ) (k3 : ¬ x9 = y0 → y0 ≤ x9 → Q (.inl (some (AI 0))) τ) (k4 : ¬ x9 = y0 → x9 < y0 → Q (.inl (some (AI 1))) τ) : G d 236 146 [none, vI x1, vI x2, none, none, none, none, none, none, vI x9, none] [AI y0] τ Q := by
  refine g_sx 3 (pc1 := 152) (L1 := [none, vI x1, vI x2, none, none, none, none, none, none, vI x9, vI y0]) (st1 := [AI y0, AI x9]) rfl ?_
  refine g_br2 rfl (t := 170) rfl (fun c1 => ?_) (fun c1 => ?_)
  · have c1 : x9 = y0 := of_decide_eq_true c1
    refine g_sk 2 (pc1 := 172) (st1 := [AI x2, AI x1]) rfl ?_
    refine g_br2 rfl (t := 179) rfl (fun c2 => ?_) (fun c2 => ?_)
    · have c2 : x2 ≤ x1 := of_decide_eq_true c2
      refine g_sk 1 (pc1 := 180) (st1 := [AI 0]) rfl ?_
      refine g_zret rfl rfl (by decide) ?_
      exact (k1 c1 c2)
    · have c2 : x1 < x2 := Int.not_le.mp (of_decide_eq_false c2)
      refine g_sk 2 (pc1 := 180) (st1 := [AI 1]) rfl ?_
      refine g_zret rfl rfl (by decide) ?_
      exact (k2 c1 c2)
  · have c1 : ¬ x9 = y0 := of_decide_eq_false c1
    refine g_sk 2 (pc1 := 159) (st1 := [AI y0, AI x9]) rfl ?_
    refine g_br2 rfl (t := 166) rfl (fun c3 => ?_) (fun c3 => ?_)
    · have c3 : y0 ≤ x9 := of_decide_eq_true c3
      refine g_sk 2 (pc1 := 180) (st1 := [AI 0]) rfl ?_
      refine g_zret rfl rfl (by decide) ?_
      exact (k3 c1 c3)
    · have c3 : x9 < y0 := Int.not_le.mp (of_decide_eq_false c3)
      refine g_sk 2 (pc1 := 180) (st1 := [AI 1]) rfl ?_
      refine g_zret rfl rfl (by decide) ?_
      exact (k4 c1 c3)

set_option maxRecDepth 8192 in
theorem t237_0 {d : Nat} {τ : T2} {Q : RS → T2 → Prop} {x1 x2 : Int} {r0 : Nat} (hd : 1 ≤ d) (sh1 : tS τ r0 = (1, 21, 0)) (k1 : x2 < 0 → Q (.inl (some (AI (-1)))) (uI τ r0 0 0)) (k2 : 0 ≤ x2 → x2 ≤ (tI (uI τ r0 0 0) r0 7) → G (d - 1) 209 0 [vR r0, none] [] (uI τ r0 0 0) (KC d 237 20 23 [vR r0, vI x1, vI x2, none, none, none, none] [] Q)) (k3 : 0 ≤ x2 → (tI (uI τ r0 0 0) r0 7) < x2 → Q (.inl (some (AI (-1)))) (uI τ r0 0 0)) : G d 237 0 [vR r0, vI x1, vI x2, none, none, none, none] [] τ Q := by
  refine g_sk 2 (pc1 := 2) (st1 := [AI 0, AR r0]) rfl ?_
  refine g_putI (x := 0) rfl (ci := 21) (k := 0) (kd := 0) rfl (by decide) rfl rfl sh1 ?_
  refine g_sk 1 (pc1 := 6) (st1 := [AI x2]) rfl ?_
  refine g_br1 rfl (t := 17) rfl (fun c2 => ?_) (fun c2 => ?_)
  · have c2 : x2 < 0 := of_decide_eq_true c2
    refine g_sk 1 (pc1 := 18) (st1 := [AI (-1)]) rfl ?_
    refine g_iret rfl rfl ?_
    exact (k1 c2)
  · have c2 : 0 ≤ x2 := Int.not_lt.mp (of_decide_eq_false c2)
    refine g_sk 2 (pc1 := 11) (st1 := [AR r0, AI x2]) rfl ?_
    refine g_gI rfl (ci := 21) (k := 7) rfl sh1 ?_
    refine g_br2 rfl (t := 19) rfl (fun c3 => ?_) (fun c3 => ?_)
    · have c3 : x2 ≤ (tI (uI τ r0 0 0) r0 7) := of_decide_eq_true c3
      refine g_sk 1 (pc1 := 20) (st1 := [AR r0]) rfl ?_
      refine g_cv rfl rfl (by decide) rfl rfl (Nat.le_of_ble_eq_true rfl) (as2 := []) rfl sh1 rfl (by omega) (L0 := [vR r0, none]) rfl ?_
      exact (k2 c2 c3)
    · have c3 : (tI (uI τ r0 0 0) r0 7) < x2 := Int.not_le.mp (of_decide_eq_false c3)
      refine g_sk 1 (pc1 := 18) (st1 := [AI (-1)]) rfl ?_
      refine g_iret rfl rfl ?_
      exact (k3 c2 c3)

set_option maxRecDepth 8192 in
theorem t237_23 {d : Nat} {τ : T2} {Q : RS → T2 → Prop} {x1 x2 y0 : Int} {r0 : Nat} (k1 : G d 237 27 [vR r0, vI x1, vI x2, vI y0, vI 0, none, none] [] τ Q) : G d 237 23 [vR r0, vI x1, vI x2, none, none, none, none] [AI y0] τ Q := by
  refine g_sx 3 (pc1 := 27) (L1 := [vR r0, vI x1, vI x2, vI y0, vI 0, none, none]) (st1 := []) rfl ?_
  exact k1

set_option maxRecDepth 8192 in
theorem t237_27 {d : Nat} {τ : T2} {Q : RS → T2 → Prop} {x1 x2 x3 x4 : Int} {r0 q3 n5 q8 : Nat} (sh1 : tS τ r0 = (1, 21, 0)) (p4 : tP τ r0 9 = some q3) (sh6 : tS τ q3 = (3, 8, n5)) (b7 : x4 < (tI τ r0 5) → (0 : Int) ≤ x4 ∧ x4 < (n5 : Int)) (p9 : x4 < (tI τ r0 5) → tP τ q3 x4.toNat = some q8) (sh10 : tS τ q8 = (1, 19, 0)) (k1 : (tI τ r0 5) ≤ x4 → Q (.inl (some (AI (-1)))) τ) (k2 : x4 < (tI τ r0 5) → (tI τ q8 0) ≤ x2 → G d 237 59 [vR r0, vI x1, vI x2, vI x3, vI x4, vI 0, vI 0] [] τ Q) (k3 : x4 < (tI τ r0 5) → x2 < (tI τ q8 0) → G d 237 27 [vR r0, vI x1, vI x2, vI x3, vI (wr (x4 + 1)), none, none] [] τ Q) : G d 237 27 [vR r0, vI x1, vI x2, vI x3, vI x4, none, none] [] τ Q := by
  refine g_sk 2 (pc1 := 30) (st1 := [AR r0, AI x4]) rfl ?_
  refine g_gI rfl (ci := 21) (k := 5) rfl sh1 ?_
  refine g_br2 rfl (t := 133) rfl (fun c2 => ?_) (fun c2 => ?_)
  · have c2 : (tI τ r0 5) ≤ x4 := of_decide_eq_true c2
    refine g_sk 1 (pc1 := 134) (st1 := [AI (-1)]) rfl ?_
    refine g_iret rfl rfl ?_
    exact (k1 c2)
  · have c2 : x4 < (tI τ r0 5) := Int.not_le.mp (of_decide_eq_false c2)
    refine g_sk 1 (pc1 := 37) (st1 := [AR r0]) rfl ?_
    refine g_gQ rfl (ci := 21) (k := 9) rfl sh1 p4 ?_
    refine g_sk 1 (pc1 := 42) (st1 := [AI x4, AR q3]) rfl ?_
    refine g_aalQ rfl sh6 (by decide) (b7 c2).1 (b7 c2).2 (p9 c2) ?_
    refine g_gI rfl (ci := 19) (k := 0) rfl sh10 ?_
    refine g_sk 1 (pc1 := 47) (st1 := [AI x2, AI (tI τ q8 0)]) rfl ?_
    refine g_br2 rfl (t := 53) rfl (fun c11 => ?_) (fun c11 => ?_)
    · have c11 : (tI τ q8 0) ≤ x2 := of_decide_eq_true c11
      refine g_sx 4 (pc1 := 59) (L1 := [vR r0, vI x1, vI x2, vI x3, vI x4, vI 0, vI 0]) (st1 := []) rfl ?_
      exact (k2 c2 c11)
    · have c11 : x2 < (tI τ q8 0) := Int.not_le.mp (of_decide_eq_false c11)
      refine g_sx 3 (pc1 := 27) (L1 := [vR r0, vI x1, vI x2, vI x3, vI (wr (x4 + 1)), none, none]) (st1 := []) rfl ?_
      exact (k3 c2 c11)

set_option maxRecDepth 8192 in
theorem t237_59 {d : Nat} {τ : T2} {Q : RS → T2 → Prop} {x1 x2 x3 x4 x5 x6 : Int} {r0 q5 n7 q10 : Nat} (hd : 1 ≤ d) (sh1 : tS τ r0 = (1, 21, 0)) (p6 : tP τ r0 9 = some q5) (sh8 : tS τ q5 = (3, 8, n7)) (b9 : x6 < (tI τ r0 5) → ¬ x6 = x4 → (0 : Int) ≤ x6 ∧ x6 < (n7 : Int)) (p11 : x6 < (tI τ r0 5) → ¬ x6 = x4 → tP τ q5 x6.toNat = some q10) (sh12 : tS τ q10 = (1, 19, 0)) (k1 : (tI τ r0 5) ≤ x6 → ¬ x5 = x1 → G d 237 27 [vR r0, vI x1, vI x2, vI x3, vI (wr (x4 + 1)), none, none] [] τ Q) (k2 : (tI τ r0 5) ≤ x6 → x5 = x1 → Q (.inl (some (AI x4))) τ) (k3 : x6 < (tI τ r0 5) → x6 = x4 → G d 237 59 [vR r0, vI x1, vI x2, vI x3, vI x4, vI (wr (x5 + 0)), vI (wr (x6 + 1))] [] τ Q) (k4 : x6 < (tI τ r0 5) → ¬ x6 = x4 → x2 < (tI τ q10 0) → G d 237 59 [vR r0, vI x1, vI x2, vI x3, vI x4, vI (wr (x5 + 0)), vI (wr (x6 + 1))] [] τ Q) (k5 : x6 < (tI τ r0 5) → ¬ x6 = x4 → (tI τ q10 0) ≤ x2 → G (d - 1) 236 0 [vR r0, vI x6, vI x4, vI x2, vI x3, none, none, none, none, none, none] [] τ (KC d 237 98 101 [vR r0, vI x1, vI x2, vI x3, vI x4, none, vI x6] [AI x5] Q)) : G d 237 59 [vR r0, vI x1, vI x2, vI x3, vI x4, vI x5, vI x6] [] τ Q := by
  refine g_sk 2 (pc1 := 62) (st1 := [AR r0, AI x6]) rfl ?_
  refine g_gI rfl (ci := 21) (k := 5) rfl sh1 ?_
  refine g_br2 rfl (t := 118) rfl (fun c2 => ?_) (fun c2 => ?_)
  · have c2 : (tI τ r0 5) ≤ x6 := of_decide_eq_true c2
    refine g_sk 2 (pc1 := 121) (st1 := [AI x1, AI x5]) rfl ?_
    refine g_br2 rfl (t := 127) rfl (fun c3 => ?_) (fun c3 => ?_)
    · have c3 : ¬ x5 = x1 := of_decide_eq_true c3
      refine g_sx 2 (pc1 := 27) (L1 := [vR r0, vI x1, vI x2, vI x3, vI (wr (x4 + 1)), vI x5, vI x6]) (st1 := []) rfl ?_
      exact G_fg (lw2_k _ (lw2_k _ (lw2_k _ (lw2_k _ (lw2_k _ (lw2_f _ (lw2_f _ lw2_nil))))))) (k1 c2 c3)
    · have c3 : x5 = x1 := Decidable.of_not_not (of_decide_eq_false c3)
      refine g_sk 1 (pc1 := 126) (st1 := [AI x4]) rfl ?_
      refine g_iret rfl rfl ?_
      exact (k2 c2 c3)
  · have c2 : x6 < (tI τ r0 5) := Int.not_le.mp (of_decide_eq_false c2)
    refine g_sk 3 (pc1 := 74) (st1 := [AI x4, AI x6, AI x5]) rfl ?_
    refine g_br2 rfl (t := 108) rfl (fun c4 => ?_) (fun c4 => ?_)
    · have c4 : x6 = x4 := of_decide_eq_true c4
      refine g_sx 5 (pc1 := 59) (L1 := [vR r0, vI x1, vI x2, vI x3, vI x4, vI (wr (x5 + 0)), vI (wr (x6 + 1))]) (st1 := []) rfl ?_
      exact (k3 c2 c4)
    · have c4 : ¬ x6 = x4 := of_decide_eq_false c4
      refine g_sk 1 (pc1 := 78) (st1 := [AR r0, AI x5]) rfl ?_
      refine g_gQ rfl (ci := 21) (k := 9) rfl sh1 p6 ?_
      refine g_sk 1 (pc1 := 83) (st1 := [AI x6, AR q5, AI x5]) rfl ?_
      refine g_aalQ rfl sh8 (by decide) (b9 c2 c4).1 (b9 c2 c4).2 (p11 c2 c4) ?_
      refine g_gI rfl (ci := 19) (k := 0) rfl sh12 ?_
      refine g_sk 1 (pc1 := 88) (st1 := [AI x2, AI (tI τ q10 0), AI x5]) rfl ?_
      refine g_br2 rfl (t := 108) rfl (fun c13 => ?_) (fun c13 => ?_)
      · have c13 : x2 < (tI τ q10 0) := of_decide_eq_true c13
        refine g_sx 5 (pc1 := 59) (L1 := [vR r0, vI x1, vI x2, vI x3, vI x4, vI (wr (x5 + 0)), vI (wr (x6 + 1))]) (st1 := []) rfl ?_
        exact (k4 c2 c4 c13)
      · have c13 : (tI τ q10 0) ≤ x2 := Int.not_lt.mp (of_decide_eq_false c13)
        refine g_sk 5 (pc1 := 98) (st1 := [AI x3, AI x2, AI x4, AI x6, AR r0, AI x5]) rfl ?_
        refine G_fg (lw2_k _ (lw2_k _ (lw2_k _ (lw2_k _ (lw2_k _ (lw2_f _ (lw2_k _ lw2_nil))))))) ?_
        refine g_cv rfl rfl (by decide) rfl rfl (Nat.le_of_ble_eq_true rfl) (as2 := [AI x6, AI x4, AI x2, AI x3]) rfl sh1 rfl (by omega) (L0 := [vR r0, vI x6, vI x4, vI x2, vI x3, none, none, none, none, none, none]) rfl ?_
        exact (k5 c2 c4 c13)

set_option maxRecDepth 8192 in
theorem t237_101 {d : Nat} {τ : T2} {Q : RS → T2 → Prop} {x1 x2 x3 x4 x6 y0 y1 : Int} {r0 : Nat} (k1 : y0 = 0 → G d 237 59 [vR r0, vI x1, vI x2, vI x3, vI x4, vI (wr (y1 + 0)), vI (wr (x6 + 1))] [] τ Q) (k2 : ¬ y0 = 0 → G d 237 59 [vR r0, vI x1, vI x2, vI x3, vI x4, vI (wr (y1 + 1)), vI (wr (x6 + 1))] [] τ Q) : G d 237 101 [vR r0, vI x1, vI x2, vI x3, vI x4, none, vI x6] [AI y0, AI y1] τ Q := by
  refine g_br1 rfl (t := 108) rfl (fun c1 => ?_) (fun c1 => ?_)
  · have c1 : y0 = 0 := of_decide_eq_true c1
    refine g_sx 5 (pc1 := 59) (L1 := [vR r0, vI x1, vI x2, vI x3, vI x4, vI (wr (y1 + 0)), vI (wr (x6 + 1))]) (st1 := []) rfl ?_
    exact (k1 c1)
  · have c1 : ¬ y0 = 0 := of_decide_eq_false c1
    refine g_sx 6 (pc1 := 59) (L1 := [vR r0, vI x1, vI x2, vI x3, vI x4, vI (wr (y1 + 1)), vI (wr (x6 + 1))]) (st1 := []) rfl ?_
    exact (k2 c1)

set_option maxRecDepth 8192 in
theorem t238_0 {d : Nat} {τ : T2} {Q : RS → T2 → Prop} {x1 : Int} {r0 q2 n4 : Nat} (sh1 : tS τ r0 = (1, 21, 0)) (p3 : tP τ r0 35 = some q2) (sh5 : tS τ q2 = (2, 0, n4)) (b6 : (0 : Int) ≤ 0 ∧ 0 < (n4 : Int)) (k1 : G d 238 14 [vR r0, vI x1, vI 0, none, none] [] (uI (uI τ q2 0 0) r0 37 1) Q) : G d 238 0 [vR r0, vI x1, none, none, none] [] τ Q := by
  refine g_sk 1 (pc1 := 1) (st1 := [AR r0]) rfl ?_
  refine g_gQ rfl (ci := 21) (k := 35) rfl sh1 p3 ?_
  refine g_sk 2 (pc1 := 6) (st1 := [AI 0, AI 0, AR q2]) rfl ?_
  refine g_iast rfl sh5 b6.1 b6.2 ?_
  refine g_sk 2 (pc1 := 9) (st1 := [AI 1, AR r0]) rfl ?_
  refine g_putI (x := 1) rfl (ci := 21) (k := 37) (kd := 0) rfl (by decide) rfl rfl sh1 ?_
  refine g_sx 2 (pc1 := 14) (L1 := [vR r0, vI x1, vI 0, none, none]) (st1 := []) rfl ?_
  exact k1

set_option maxRecDepth 8192 in
theorem t238_14 {d : Nat} {τ : T2} {Q : RS → T2 → Prop} {x1 x2 : Int} {r0 q3 n5 : Nat} (sh1 : tS τ r0 = (1, 21, 0)) (p4 : tP τ r0 36 = some q3) (sh6 : tS τ q3 = (2, 0, n5)) (b7 : x2 < (tI τ r0 37) → (0 : Int) ≤ x2 ∧ x2 < (n5 : Int)) (k1 : (tI τ r0 37) ≤ x2 → Q (.inl (some (AI 1))) τ) (k2 : x2 < (tI τ r0 37) → G d 238 31 [vR r0, vI x1, vI x2, vI 0, none] [] (uI τ q3 x2.toNat 0) Q) : G d 238 14 [vR r0, vI x1, vI x2, none, none] [] τ Q := by
  refine g_sk 2 (pc1 := 16) (st1 := [AR r0, AI x2]) rfl ?_
  refine g_gI rfl (ci := 21) (k := 37) rfl sh1 ?_
  refine g_br2 rfl (t := 139) rfl (fun c2 => ?_) (fun c2 => ?_)
  · have c2 : (tI τ r0 37) ≤ x2 := of_decide_eq_true c2
    refine g_sk 1 (pc1 := 140) (st1 := [AI 1]) rfl ?_
    refine g_zret rfl rfl (by decide) ?_
    exact (k1 c2)
  · have c2 : x2 < (tI τ r0 37) := Int.not_le.mp (of_decide_eq_false c2)
    refine g_sk 1 (pc1 := 23) (st1 := [AR r0]) rfl ?_
    refine g_gQ rfl (ci := 21) (k := 36) rfl sh1 p4 ?_
    refine g_sk 2 (pc1 := 28) (st1 := [AI 0, AI x2, AR q3]) rfl ?_
    refine g_iast rfl sh6 (b7 c2).1 (b7 c2).2 ?_
    refine g_sx 2 (pc1 := 31) (L1 := [vR r0, vI x1, vI x2, vI 0, none]) (st1 := []) rfl ?_
    exact (k2 c2)

set_option maxRecDepth 8192 in
theorem t238_31 {d : Nat} {τ : T2} {Q : RS → T2 → Prop} {x1 x2 x3 : Int} {r0 q3 n5 : Nat} (hd : 1 ≤ d) (sh1 : tS τ r0 = (1, 21, 0)) (p4 : tP τ r0 35 = some q3) (sh6 : tS τ q3 = (2, 0, n5)) (b7 : x3 < (tI τ r0 4) → (0 : Int) ≤ x2 ∧ x2 < (n5 : Int)) (k1 : (tI τ r0 4) ≤ x3 → G d 238 14 [vR r0, vI x1, vI (wr (x2 + 1)), none, none] [] τ Q) (k2 : x3 < (tI τ r0 4) → G (d - 1) 187 0 [vR r0, vI x3, vI (tI τ q3 x2.toNat), vI x1, none, none, none] [] τ (KC d 238 48 51 [vR r0, vI x1, vI x2, vI x3, none] [] Q)) : G d 238 31 [vR r0, vI x1, vI x2, vI x3, none] [] τ Q := by
  refine g_sk 2 (pc1 := 33) (st1 := [AR r0, AI x3]) rfl ?_
  refine g_gI rfl (ci := 21) (k := 4) rfl sh1 ?_
  refine g_br2 rfl (t := 133) rfl (fun c2 => ?_) (fun c2 => ?_)
  · have c2 : (tI τ r0 4) ≤ x3 := of_decide_eq_true c2
    refine g_sx 2 (pc1 := 14) (L1 := [vR r0, vI x1, vI (wr (x2 + 1)), vI x3, none]) (st1 := []) rfl ?_
    exact G_fg (lw2_k _ (lw2_k _ (lw2_k _ (lw2_f _ (lw2_k _ lw2_nil))))) (k1 c2)
  · have c2 : x3 < (tI τ r0 4) := Int.not_le.mp (of_decide_eq_false c2)
    refine g_sk 3 (pc1 := 42) (st1 := [AR r0, AI x3, AR r0]) rfl ?_
    refine g_gQ rfl (ci := 21) (k := 35) rfl sh1 p4 ?_
    refine g_sk 1 (pc1 := 46) (st1 := [AI x2, AR q3, AI x3, AR r0]) rfl ?_
    refine g_iald rfl sh6 (by decide) (b7 c2).1 (b7 c2).2 ?_
    refine g_sk 1 (pc1 := 48) (st1 := [AI x1, AI (tI τ q3 x2.toNat), AI x3, AR r0]) rfl ?_
    refine g_cv rfl rfl (by decide) rfl rfl (Nat.le_of_ble_eq_true rfl) (as2 := [AI x3, AI (tI τ q3 x2.toNat), AI x1]) rfl sh1 rfl (by omega) (L0 := [vR r0, vI x3, vI (tI τ q3 x2.toNat), vI x1, none, none, none]) rfl ?_
    exact (k2 c2)

set_option maxRecDepth 8192 in
theorem t238_51 {d : Nat} {τ : T2} {Q : RS → T2 → Prop} {x1 x2 x3 y0 : Int} {r0 q3 n5 q8 n10 : Nat} (hd : 1 ≤ d) (sh2 : tS τ r0 = (1, 21, 0)) (p4 : tP τ r0 36 = some q3) (sh6 : tS τ q3 = (2, 0, n5)) (b7 : ¬ y0 = 0 → (0 : Int) ≤ x2 ∧ x2 < (n5 : Int)) (p9 : tP τ r0 35 = some q8) (sh11 : tS τ q8 = (2, 0, n10)) (b12 : ¬ y0 = 0 → (0 : Int) ≤ x2 ∧ x2 < (n10 : Int)) (k1 : ¬ y0 = 0 → G (d - 1) 239 0 [vR r0, vI (zor (tI (uI τ q3 x2.toNat (zor (tI τ q3 x2.toNat) (zshl 1 x3))) q8 x2.toNat) (zshl 1 x3)), none] [] (uI τ q3 x2.toNat (zor (tI τ q3 x2.toNat) (zshl 1 x3))) (KC d 238 84 87 [vR r0, vI x1, vI x2, vI x3, vI (zor (tI (uI τ q3 x2.toNat (zor (tI τ q3 x2.toNat) (zshl 1 x3))) q8 x2.toNat) (zshl 1 x3))] [] Q)) (k2 : y0 = 0 → G d 238 31 [vR r0, vI x1, vI x2, vI (wr (x3 + 1)), none] [] τ Q) : G d 238 51 [vR r0, vI x1, vI x2, vI x3, none] [AI y0] τ Q := by
  refine g_br1 rfl (t := 57) rfl (fun c1 => ?_) (fun c1 => ?_)
  · have c1 : ¬ y0 = 0 := of_decide_eq_true c1
    refine g_sk 1 (pc1 := 58) (st1 := [AR r0]) rfl ?_
    refine g_gQ rfl (ci := 21) (k := 36) rfl sh2 p4 ?_
    refine g_sk 2 (pc1 := 63) (st1 := [AI x2, AR q3, AI x2, AR q3]) rfl ?_
    refine g_iald rfl sh6 (by decide) (b7 c1).1 (b7 c1).2 ?_
    refine g_sk 4 (pc1 := 68) (st1 := [AI (zor (tI τ q3 x2.toNat) (zshl 1 x3)), AI x2, AR q3]) rfl ?_
    refine g_iast rfl sh6 (b7 c1).1 (b7 c1).2 ?_
    refine g_sk 1 (pc1 := 70) (st1 := [AR r0]) rfl ?_
    refine g_gQ rfl (ci := 21) (k := 35) rfl sh2 p9 ?_
    refine g_sk 1 (pc1 := 74) (st1 := [AI x2, AR q8]) rfl ?_
    refine g_iald rfl sh11 (by decide) (b12 c1).1 (b12 c1).2 ?_
    refine g_sx 7 (pc1 := 84) (L1 := [vR r0, vI x1, vI x2, vI x3, vI (zor (tI (uI τ q3 x2.toNat (zor (tI τ q3 x2.toNat) (zshl 1 x3))) q8 x2.toNat) (zshl 1 x3))]) (st1 := [AI (zor (tI (uI τ q3 x2.toNat (zor (tI τ q3 x2.toNat) (zshl 1 x3))) q8 x2.toNat) (zshl 1 x3)), AR r0]) rfl ?_
    refine g_cv rfl rfl (by decide) rfl rfl (Nat.le_of_ble_eq_true rfl) (as2 := [AI (zor (tI (uI τ q3 x2.toNat (zor (tI τ q3 x2.toNat) (zshl 1 x3))) q8 x2.toNat) (zshl 1 x3))]) rfl sh2 rfl (by omega) (L0 := [vR r0, vI (zor (tI (uI τ q3 x2.toNat (zor (tI τ q3 x2.toNat) (zshl 1 x3))) q8 x2.toNat) (zshl 1 x3)), none]) rfl ?_
    exact (k1 c1)
  · have c1 : y0 = 0 := Decidable.of_not_not (of_decide_eq_false c1)
    refine g_sx 3 (pc1 := 31) (L1 := [vR r0, vI x1, vI x2, vI (wr (x3 + 1)), none]) (st1 := []) rfl ?_
    exact (k2 c1)

set_option maxRecDepth 8192 in
theorem t238_87 {d : Nat} {τ : T2} {Q : RS → T2 → Prop} {x1 x2 x3 x4 y0 : Int} {r0 q4 n6 : Nat} (sh2 : tS τ r0 = (1, 21, 0)) (p5 : tP τ r0 35 = some q4) (sh7 : tS τ q4 = (2, 0, n6)) (b8 : y0 = (-1) → ¬ (tI τ r0 37) = 1000 → (0 : Int) ≤ (tI τ r0 37) ∧ (tI τ r0 37) < (n6 : Int)) (k1 : y0 = (-1) → ¬ (tI τ r0 37) = 1000 → G d 238 31 [vR r0, vI x1, vI x2, vI (wr (x3 + 1)), none] [] (uI (uI τ q4 (tI τ r0 37).toNat x4) r0 37 (wr ((tI (uI τ q4 (tI τ r0 37).toNat x4) r0 37) + 1))) Q) (k2 : y0 = (-1) → (tI τ r0 37) = 1000 → Q (.inl (some (AI 0))) τ) (k3 : ¬ y0 = (-1) → G d 238 31 [vR r0, vI x1, vI x2, vI (wr (x3 + 1)), none] [] τ Q) : G d 238 87 [vR r0, vI x1, vI x2, vI x3, vI x4] [AI y0] τ Q := by
  refine g_sk 1 (pc1 := 88) (st1 := [AI (-1), AI y0]) rfl ?_
  refine g_br2 rfl (t := 94) rfl (fun c1 => ?_) (fun c1 => ?_)
  · have c1 : y0 = (-1) := of_decide_eq_true c1
    refine g_sk 1 (pc1 := 95) (st1 := [AR r0]) rfl ?_
    refine g_gI rfl (ci := 21) (k := 37) rfl sh2 ?_
    refine g_sk 1 (pc1 := 101) (st1 := [AI 1000, AI (tI τ r0 37)]) rfl ?_
    refine g_br2 rfl (t := 106) rfl (fun c3 => ?_) (fun c3 => ?_)
    · have c3 : ¬ (tI τ r0 37) = 1000 := of_decide_eq_true c3
      refine g_sk 1 (pc1 := 107) (st1 := [AR r0]) rfl ?_
      refine g_gQ rfl (ci := 21) (k := 35) rfl sh2 p5 ?_
      refine g_sk 1 (pc1 := 111) (st1 := [AR r0, AR q4]) rfl ?_
      refine g_gI rfl (ci := 21) (k := 37) rfl sh2 ?_
      refine g_sk 1 (pc1 := 116) (st1 := [AI x4, AI (tI τ r0 37), AR q4]) rfl ?_
      refine g_iast rfl sh7 (b8 c1 c3).1 (b8 c1 c3).2 ?_
      refine g_sk 2 (pc1 := 119) (st1 := [AR r0, AR r0]) rfl ?_
      refine g_gI rfl (ci := 21) (k := 37) rfl sh2 ?_
      refine g_sk 2 (pc1 := 124) (st1 := [AI (wr ((tI (uI τ q4 (tI τ r0 37).toNat x4) r0 37) + 1)), AR r0]) rfl ?_
      refine g_putI (x := (wr ((tI (uI τ q4 (tI τ r0 37).toNat x4) r0 37) + 1))) rfl (ci := 21) (k := 37) (kd := 0) rfl (by decide) rfl rfl sh2 ?_
      refine g_sx 2 (pc1 := 31) (L1 := [vR r0, vI x1, vI x2, vI (wr (x3 + 1)), vI x4]) (st1 := []) rfl ?_
      exact G_fg (lw2_k _ (lw2_k _ (lw2_k _ (lw2_k _ (lw2_f _ lw2_nil))))) (k1 c1 c3)
    · have c3 : (tI τ r0 37) = 1000 := Decidable.of_not_not (of_decide_eq_false c3)
      refine g_sk 1 (pc1 := 105) (st1 := [AI 0]) rfl ?_
      refine g_zret rfl rfl (by decide) ?_
      exact (k2 c1 c3)
  · have c1 : ¬ y0 = (-1) := of_decide_eq_false c1
    refine g_sx 3 (pc1 := 31) (L1 := [vR r0, vI x1, vI x2, vI (wr (x3 + 1)), vI x4]) (st1 := []) rfl ?_
    exact G_fg (lw2_k _ (lw2_k _ (lw2_k _ (lw2_k _ (lw2_f _ lw2_nil))))) (k3 c1)

set_option maxRecDepth 8192 in
theorem t239_0 {d : Nat} {τ : T2} {Q : RS → T2 → Prop} {x1 : Int} {r0 : Nat} (k1 : G d 239 2 [vR r0, vI x1, vI 0] [] τ Q) : G d 239 0 [vR r0, vI x1, none] [] τ Q := by
  refine g_sx 2 (pc1 := 2) (L1 := [vR r0, vI x1, vI 0]) (st1 := []) rfl ?_
  exact k1

set_option maxRecDepth 8192 in
theorem t239_2 {d : Nat} {τ : T2} {Q : RS → T2 → Prop} {x1 x2 : Int} {r0 q4 n6 : Nat} (sh1 : tS τ r0 = (1, 21, 0)) (p5 : tP τ r0 35 = some q4) (sh7 : tS τ q4 = (2, 0, n6)) (b8 : x2 < (tI τ r0 37) → (0 : Int) ≤ x2 ∧ x2 < (n6 : Int)) (k1 : (tI τ r0 37) ≤ x2 → (tI τ r0 37) ≤ x2 → Q (.inl (some (AI (-1)))) τ) (k2 : (tI τ r0 37) ≤ x2 → x2 < (tI τ r0 37) → Q (.inl (some (AI x2))) τ) (k3 : x2 < (tI τ r0 37) → (tI τ q4 x2.toNat) = x1 → (tI τ r0 37) ≤ x2 → Q (.inl (some (AI (-1)))) τ) (k4 : x2 < (tI τ r0 37) → (tI τ q4 x2.toNat) = x1 → x2 < (tI τ r0 37) → Q (.inl (some (AI x2))) τ) (k5 : x2 < (tI τ r0 37) → ¬ (tI τ q4 x2.toNat) = x1 → G d 239 2 [vR r0, vI x1, vI (wr (x2 + 1))] [] τ Q) : G d 239 2 [vR r0, vI x1, vI x2] [] τ Q := by
  refine g_sk 2 (pc1 := 4) (st1 := [AR r0, AI x2]) rfl ?_
  refine g_gI rfl (ci := 21) (k := 37) rfl sh1 ?_
  refine g_br2 rfl (t := 26) rfl (fun c2 => ?_) (fun c2 => ?_)
  · have c2 : (tI τ r0 37) ≤ x2 := of_decide_eq_true c2
    refine g_sk 2 (pc1 := 28) (st1 := [AR r0, AI x2]) rfl ?_
    refine g_gI rfl (ci := 21) (k := 37) rfl sh1 ?_
    refine g_br2 rfl (t := 38) rfl (fun c3 => ?_) (fun c3 => ?_)
    · have c3 : (tI τ r0 37) ≤ x2 := of_decide_eq_true c3
      refine g_sk 1 (pc1 := 39) (st1 := [AI (-1)]) rfl ?_
      refine g_iret rfl rfl ?_
      exact (k1 c2 c3)
    · have c3 : x2 < (tI τ r0 37) := Int.not_le.mp (of_decide_eq_false c3)
      refine g_sk 2 (pc1 := 39) (st1 := [AI x2]) rfl ?_
      refine g_iret rfl rfl ?_
      exact (k2 c2 c3)
  · have c2 : x2 < (tI τ r0 37) := Int.not_le.mp (of_decide_eq_false c2)
    refine g_sk 1 (pc1 := 11) (st1 := [AR r0]) rfl ?_
    refine g_gQ rfl (ci := 21) (k := 35) rfl sh1 p5 ?_
    refine g_sk 1 (pc1 := 15) (st1 := [AI x2, AR q4]) rfl ?_
    refine g_iald rfl sh7 (by decide) (b8 c2).1 (b8 c2).2 ?_
    refine g_sk 1 (pc1 := 17) (st1 := [AI x1, AI (tI τ q4 x2.toNat)]) rfl ?_
    refine g_br2 rfl (t := 26) rfl (fun c9 => ?_) (fun c9 => ?_)
    · have c9 : (tI τ q4 x2.toNat) = x1 := of_decide_eq_true c9
      refine g_sk 2 (pc1 := 28) (st1 := [AR r0, AI x2]) rfl ?_
      refine g_gI rfl (ci := 21) (k := 37) rfl sh1 ?_
      refine g_br2 rfl (t := 38) rfl (fun c10 => ?_) (fun c10 => ?_)
      · have c10 : (tI τ r0 37) ≤ x2 := of_decide_eq_true c10
        refine g_sk 1 (pc1 := 39) (st1 := [AI (-1)]) rfl ?_
        refine g_iret rfl rfl ?_
        exact (k3 c2 c9 c10)
      · have c10 : x2 < (tI τ r0 37) := Int.not_le.mp (of_decide_eq_false c10)
        refine g_sk 2 (pc1 := 39) (st1 := [AI x2]) rfl ?_
        refine g_iret rfl rfl ?_
        exact (k4 c2 c9 c10)
    · have c9 : ¬ (tI τ q4 x2.toNat) = x1 := of_decide_eq_false c9
      refine g_sx 2 (pc1 := 2) (L1 := [vR r0, vI x1, vI (wr (x2 + 1))]) (st1 := []) rfl ?_
      exact (k5 c2 c9)

set_option maxRecDepth 8192 in
theorem t240_0 {d : Nat} {τ : T2} {Q : RS → T2 → Prop} {x1 : Int} {r0 : Nat} (hd : 1 ≤ d) (sh1 : tS τ r0 = (1, 21, 0)) (k1 : G (d - 1) 167 0 [vI x1, vI 0, vI 9999] [] (uI τ r0 0 0) (KC d 240 10 13 [vR r0, vI x1] [] Q)) : G d 240 0 [vR r0, vI x1] [] τ Q := by
  refine g_sk 2 (pc1 := 2) (st1 := [AI 0, AR r0]) rfl ?_
  refine g_putI (x := 0) rfl (ci := 21) (k := 0) (kd := 0) rfl (by decide) rfl rfl sh1 ?_
  refine g_sk 3 (pc1 := 10) (st1 := [AI 9999, AI 0, AI x1]) rfl ?_
  refine g_cs rfl rfl (by decide) rfl rfl (Nat.le_of_ble_eq_true rfl) rfl (by omega) (L0 := [vI x1, vI 0, vI 9999]) rfl ?_
  exact k1

set_option maxRecDepth 8192 in
theorem t240_13 {d : Nat} {τ : T2} {Q : RS → T2 → Prop} {x1 y0 : Int} {r0 : Nat} (hd : 1 ≤ d) (sh2 : tS τ r0 = (1, 21, 0)) (k1 : ¬ y0 = 0 → G (d - 1) 238 0 [vR r0, vI x1, none, none, none] [] τ (KC d 240 24 27 [vR r0, none] [] Q)) (k2 : y0 = 0 → G (d - 1) 163 0 [vR r0, vI 2] [] τ (KC d 240 18 21 [none, none] [] Q)) : G d 240 13 [vR r0, vI x1] [AI y0] τ Q := by
  refine g_br1 rfl (t := 22) rfl (fun c1 => ?_) (fun c1 => ?_)
  · have c1 : ¬ y0 = 0 := of_decide_eq_true c1
    refine g_sk 2 (pc1 := 24) (st1 := [AI x1, AR r0]) rfl ?_
    refine G_fg (lw2_k _ (lw2_f _ lw2_nil)) ?_
    refine g_cv rfl rfl (by decide) rfl rfl (Nat.le_of_ble_eq_true rfl) (as2 := [AI x1]) rfl sh2 rfl (by omega) (L0 := [vR r0, vI x1, none, none, none]) rfl ?_
    exact (k1 c1)
  · have c1 : y0 = 0 := Decidable.of_not_not (of_decide_eq_false c1)
    refine g_sk 2 (pc1 := 18) (st1 := [AI 2, AR r0]) rfl ?_
    refine G_fg (lw2_f _ (lw2_f _ lw2_nil)) ?_
    refine g_cv rfl rfl (by decide) rfl rfl (Nat.le_of_ble_eq_true rfl) (as2 := [AI 2]) rfl sh2 rfl (by omega) (L0 := [vR r0, vI 2]) rfl ?_
    exact (k2 c1)

set_option maxRecDepth 8192 in
theorem t240_21 {d : Nat} {τ : T2} {Q : RS → T2 → Prop} {y0 : Int} (k1 : Q (.inl (some (AI y0))) τ) : G d 240 21 [none, none] [AI y0] τ Q := by
  refine g_iret rfl rfl ?_
  exact k1

set_option maxRecDepth 8192 in
theorem t240_27 {d : Nat} {τ : T2} {Q : RS → T2 → Prop} {y0 : Int} {r0 : Nat} (hd : 1 ≤ d) (sh2 : tS τ r0 = (1, 21, 0)) (k1 : y0 = 0 → G (d - 1) 163 0 [vR r0, vI 10] [] τ (KC d 240 44 47 [none, none] [] Q)) (k2 : ¬ y0 = 0 → G (d - 1) 165 0 [vR r0, vI (tI τ r0 37)] [] τ (KC d 240 35 38 [none, none] [] Q)) : G d 240 27 [vR r0, none] [AI y0] τ Q := by
  refine g_br1 rfl (t := 41) rfl (fun c1 => ?_) (fun c1 => ?_)
  · have c1 : y0 = 0 := of_decide_eq_true c1
    refine g_sk 2 (pc1 := 44) (st1 := [AI 10, AR r0]) rfl ?_
    refine G_fg (lw2_f _ (lw2_k _ lw2_nil)) ?_
    refine g_cv rfl rfl (by decide) rfl rfl (Nat.le_of_ble_eq_true rfl) (as2 := [AI 10]) rfl sh2 rfl (by omega) (L0 := [vR r0, vI 10]) rfl ?_
    exact (k1 c1)
  · have c1 : ¬ y0 = 0 := of_decide_eq_false c1
    refine g_sk 2 (pc1 := 32) (st1 := [AR r0, AR r0]) rfl ?_
    refine g_gI rfl (ci := 21) (k := 37) rfl sh2 ?_
    refine G_fg (lw2_f _ (lw2_k _ lw2_nil)) ?_
    refine g_cv rfl rfl (by decide) rfl rfl (Nat.le_of_ble_eq_true rfl) (as2 := [AI (tI τ r0 37)]) rfl sh2 rfl (by omega) (L0 := [vR r0, vI (tI τ r0 37)]) rfl ?_
    exact (k2 c1)

set_option maxRecDepth 8192 in
theorem t240_38 {d : Nat} {τ : T2} {Q : RS → T2 → Prop} {y0 : Int} (k1 : Q (.inl (some (AI y0))) τ) : G d 240 38 [none, none] [AI y0] τ Q := by
  refine g_sk 1 (pc1 := 47) (st1 := [AI y0]) rfl ?_
  refine g_iret rfl rfl ?_
  exact k1

set_option maxRecDepth 8192 in
theorem t240_47 {d : Nat} {τ : T2} {Q : RS → T2 → Prop} {y0 : Int} (k1 : Q (.inl (some (AI y0))) τ) : G d 240 47 [none, none] [AI y0] τ Q := by
  refine g_iret rfl rfl ?_
  exact k1

set_option maxRecDepth 8192 in
theorem t241_0 {d : Nat} {τ : T2} {Q : RS → T2 → Prop} {x1 : Int} {r0 : Nat} (hd : 1 ≤ d) (sh1 : tS τ r0 = (1, 21, 0)) (k1 : G (d - 1) 167 0 [vI x1, vI 0, vI 9999] [] (uI τ r0 0 0) (KC d 241 10 13 [vR r0, vI x1, none, none, none, none] [] Q)) : G d 241 0 [vR r0, vI x1, none, none, none, none] [] τ Q := by
  refine g_sk 2 (pc1 := 2) (st1 := [AI 0, AR r0]) rfl ?_
  refine g_putI (x := 0) rfl (ci := 21) (k := 0) (kd := 0) rfl (by decide) rfl rfl sh1 ?_
  refine g_sk 3 (pc1 := 10) (st1 := [AI 9999, AI 0, AI x1]) rfl ?_
  refine g_cs rfl rfl (by decide) rfl rfl (Nat.le_of_ble_eq_true rfl) rfl (by omega) (L0 := [vI x1, vI 0, vI 9999]) rfl ?_
  exact k1

set_option maxRecDepth 8192 in
theorem t241_13 {d : Nat} {τ : T2} {Q : RS → T2 → Prop} {x1 y0 : Int} {r0 : Nat} (hd : 1 ≤ d) (sh2 : tS τ r0 = (1, 21, 0)) (k1 : ¬ y0 = 0 → G (d - 1) 209 0 [vR r0, none] [] τ (KC d 241 23 26 [vR r0, vI x1, none, none, none, none] [] Q)) (k2 : y0 = 0 → G (d - 1) 163 0 [vR r0, vI 2] [] τ (KC d 241 18 21 [none, none, none, none, none, none] [] Q)) : G d 241 13 [vR r0, vI x1, none, none, none, none] [AI y0] τ Q := by
  refine g_br1 rfl (t := 22) rfl (fun c1 => ?_) (fun c1 => ?_)
  · have c1 : ¬ y0 = 0 := of_decide_eq_true c1
    refine g_sk 1 (pc1 := 23) (st1 := [AR r0]) rfl ?_
    refine g_cv rfl rfl (by decide) rfl rfl (Nat.le_of_ble_eq_true rfl) (as2 := []) rfl sh2 rfl (by omega) (L0 := [vR r0, none]) rfl ?_
    exact (k1 c1)
  · have c1 : y0 = 0 := Decidable.of_not_not (of_decide_eq_false c1)
    refine g_sk 2 (pc1 := 18) (st1 := [AI 2, AR r0]) rfl ?_
    refine G_fg (lw2_f _ (lw2_f _ (lw2_k _ (lw2_k _ (lw2_k _ (lw2_k _ lw2_nil)))))) ?_
    refine g_cv rfl rfl (by decide) rfl rfl (Nat.le_of_ble_eq_true rfl) (as2 := [AI 2]) rfl sh2 rfl (by omega) (L0 := [vR r0, vI 2]) rfl ?_
    exact (k2 c1)

set_option maxRecDepth 8192 in
theorem t241_21 {d : Nat} {τ : T2} {Q : RS → T2 → Prop} {y0 : Int} (k1 : Q (.inl (some (AI y0))) τ) : G d 241 21 [none, none, none, none, none, none] [AI y0] τ Q := by
  refine g_iret rfl rfl ?_
  exact k1

set_option maxRecDepth 8192 in
theorem t241_26 {d : Nat} {τ : T2} {Q : RS → T2 → Prop} {x1 y0 : Int} {r0 : Nat} (hd : 1 ≤ d) (sh2 : tS τ r0 = (1, 21, 0)) (k1 : ¬ y0 = (-1) → G (d - 1) 238 0 [vR r0, vI x1, none, none, none] [] τ (KC d 241 41 44 [vR r0, none, vI y0, none, none, none] [] Q)) (k2 : y0 = (-1) → G (d - 1) 163 0 [vR r0, vI 9] [] τ (KC d 241 35 38 [none, none, none, none, none, none] [] Q)) : G d 241 26 [vR r0, vI x1, none, none, none, none] [AI y0] τ Q := by
  refine g_sx 3 (pc1 := 29) (L1 := [vR r0, vI x1, vI y0, none, none, none]) (st1 := [AI (-1), AI y0]) rfl ?_
  refine g_br2 rfl (t := 39) rfl (fun c1 => ?_) (fun c1 => ?_)
  · have c1 : ¬ y0 = (-1) := of_decide_eq_true c1
    refine g_sk 2 (pc1 := 41) (st1 := [AI x1, AR r0]) rfl ?_
    refine G_fg (lw2_k _ (lw2_f _ (lw2_k _ (lw2_k _ (lw2_k _ (lw2_k _ lw2_nil)))))) ?_
    refine g_cv rfl rfl (by decide) rfl rfl (Nat.le_of_ble_eq_true rfl) (as2 := [AI x1]) rfl sh2 rfl (by omega) (L0 := [vR r0, vI x1, none, none, none]) rfl ?_
    exact (k1 c1)
  · have c1 : y0 = (-1) := Decidable.of_not_not (of_decide_eq_false c1)
    refine g_sk 2 (pc1 := 35) (st1 := [AI 9, AR r0]) rfl ?_
    refine G_fg (lw2_f _ (lw2_f _ (lw2_f _ (lw2_k _ (lw2_k _ (lw2_k _ lw2_nil)))))) ?_
    refine g_cv rfl rfl (by decide) rfl rfl (Nat.le_of_ble_eq_true rfl) (as2 := [AI 9]) rfl sh2 rfl (by omega) (L0 := [vR r0, vI 9]) rfl ?_
    exact (k2 c1)

set_option maxRecDepth 8192 in
theorem t241_38 {d : Nat} {τ : T2} {Q : RS → T2 → Prop} {y0 : Int} (k1 : Q (.inl (some (AI y0))) τ) : G d 241 38 [none, none, none, none, none, none] [AI y0] τ Q := by
  refine g_iret rfl rfl ?_
  exact k1

set_option maxRecDepth 8192 in
theorem t241_44 {d : Nat} {τ : T2} {Q : RS → T2 → Prop} {x2 y0 : Int} {r0 : Nat} (hd : 1 ≤ d) (sh2 : tS τ r0 = (1, 21, 0)) (k1 : ¬ y0 = 0 → G d 241 56 [vR r0, none, vI x2, vI 0, none, none] [] τ Q) (k2 : y0 = 0 → G (d - 1) 163 0 [vR r0, vI 10] [] τ (KC d 241 50 53 [none, none, none, none, none, none] [] Q)) : G d 241 44 [vR r0, none, vI x2, none, none, none] [AI y0] τ Q := by
  refine g_br1 rfl (t := 54) rfl (fun c1 => ?_) (fun c1 => ?_)
  · have c1 : ¬ y0 = 0 := of_decide_eq_true c1
    refine g_sx 2 (pc1 := 56) (L1 := [vR r0, none, vI x2, vI 0, none, none]) (st1 := []) rfl ?_
    exact (k1 c1)
  · have c1 : y0 = 0 := Decidable.of_not_not (of_decide_eq_false c1)
    refine g_sk 2 (pc1 := 50) (st1 := [AI 10, AR r0]) rfl ?_
    refine G_fg (lw2_f _ (lw2_k _ (lw2_f _ (lw2_k _ (lw2_k _ (lw2_k _ lw2_nil)))))) ?_
    refine g_cv rfl rfl (by decide) rfl rfl (Nat.le_of_ble_eq_true rfl) (as2 := [AI 10]) rfl sh2 rfl (by omega) (L0 := [vR r0, vI 10]) rfl ?_
    exact (k2 c1)

set_option maxRecDepth 8192 in
theorem t241_53 {d : Nat} {τ : T2} {Q : RS → T2 → Prop} {y0 : Int} (k1 : Q (.inl (some (AI y0))) τ) : G d 241 53 [none, none, none, none, none, none] [AI y0] τ Q := by
  refine g_iret rfl rfl ?_
  exact k1

set_option maxRecDepth 8192 in
theorem t241_56 {d : Nat} {τ : T2} {Q : RS → T2 → Prop} {x2 x3 : Int} {r0 q3 q5 n7 q10 n12 n16 : Nat} (sh1 : tS τ r0 = (1, 21, 0)) (p4 : tP τ r0 38 = some q3) (p6 : tP τ r0 35 = some q5) (sh8 : tS τ q5 = (2, 0, n7)) (b9 : x3 < (tI τ r0 37) → (0 : Int) ≤ x3 ∧ x3 < (n7 : Int)) (p11 : tP τ r0 36 = some q10) (sh13 : tS τ q10 = (2, 0, n12)) (b14 : x3 < (tI τ r0 37) → (0 : Int) ≤ x3 ∧ x3 < (n12 : Int)) (sh17 : tS τ q3 = (2, 2, n16)) (b18 : x3 < (tI τ r0 37) → ¬ (zand (zshr (zor (tI τ q5 x3.toNat) (tI τ q10 x3.toNat)) x2) 1) = 1 → (0 : Int) ≤ x3 ∧ x3 < (n16 : Int)) (b19 : x3 < (tI τ r0 37) → (zand (zshr (zor (tI τ q5 x3.toNat) (tI τ q10 x3.toNat)) x2) 1) = 1 → (0 : Int) ≤ x3 ∧ x3 < (n16 : Int)) (k1 : (tI τ r0 37) ≤ x3 → G d 241 109 [vR r0, none, none, vI (wr ((tI τ r0 37) - 1)), none, none] [] τ Q) (k2 : x3 < (tI τ r0 37) → ¬ (zand (zshr (zor (tI τ q5 x3.toNat) (tI τ q10 x3.toNat)) x2) 1) = 1 → G d 241 56 [vR r0, none, vI x2, vI (wr (x3 + 1)), none, none] [] (uI τ q3 x3.toNat 0) Q) (k3 : x3 < (tI τ r0 37) → (zand (zshr (zor (tI τ q5 x3.toNat) (tI τ q10 x3.toNat)) x2) 1) = 1 → G d 241 56 [vR r0, none, vI x2, vI (wr (x3 + 1)), none, none] [] (uI τ q3 x3.toNat 1) Q) : G d 241 56 [vR r0, none, vI x2, vI x3, none, none] [] τ Q := by
  refine g_sk 2 (pc1 := 58) (st1 := [AR r0, AI x3]) rfl ?_
  refine g_gI rfl (ci := 21) (k := 37) rfl sh1 ?_
  refine g_br2 rfl (t := 102) rfl (fun c2 => ?_) (fun c2 => ?_)
  · have c2 : (tI τ r0 37) ≤ x3 := of_decide_eq_true c2
    refine g_sk 1 (pc1 := 103) (st1 := [AR r0]) rfl ?_
    refine g_gI rfl (ci := 21) (k := 37) rfl sh1 ?_
    refine g_sx 3 (pc1 := 109) (L1 := [vR r0, none, vI x2, vI (wr ((tI τ r0 37) - 1)), none, none]) (st1 := []) rfl ?_
    exact G_fg (lw2_k _ (lw2_k _ (lw2_f _ (lw2_k _ (lw2_k _ (lw2_k _ lw2_nil)))))) (k1 c2)
  · have c2 : x3 < (tI τ r0 37) := Int.not_le.mp (of_decide_eq_false c2)
    refine g_sk 1 (pc1 := 65) (st1 := [AR r0]) rfl ?_
    refine g_gQ rfl (ci := 21) (k := 38) rfl sh1 p4 ?_
    refine g_sk 2 (pc1 := 70) (st1 := [AR r0, AI x3, AR q3]) rfl ?_
    refine g_gQ rfl (ci := 21) (k := 35) rfl sh1 p6 ?_
    refine g_sk 1 (pc1 := 74) (st1 := [AI x3, AR q5, AI x3, AR q3]) rfl ?_
    refine g_iald rfl sh8 (by decide) (b9 c2).1 (b9 c2).2 ?_
    refine g_sk 1 (pc1 := 76) (st1 := [AR r0, AI (tI τ q5 x3.toNat), AI x3, AR q3]) rfl ?_
    refine g_gQ rfl (ci := 21) (k := 36) rfl sh1 p11 ?_
    refine g_sk 1 (pc1 := 80) (st1 := [AI x3, AR q10, AI (tI τ q5 x3.toNat), AI x3, AR q3]) rfl ?_
    refine g_iald rfl sh13 (by decide) (b14 c2).1 (b14 c2).2 ?_
    refine g_sk 6 (pc1 := 87) (st1 := [AI 1, AI (zand (zshr (zor (tI τ q5 x3.toNat) (tI τ q10 x3.toNat)) x2) 1), AI x3, AR q3]) rfl ?_
    refine g_br2 rfl (t := 94) rfl (fun c15 => ?_) (fun c15 => ?_)
    · have c15 : ¬ (zand (zshr (zor (tI τ q5 x3.toNat) (tI τ q10 x3.toNat)) x2) 1) = 1 := of_decide_eq_true c15
      refine g_sk 1 (pc1 := 95) (st1 := [AI 0, AI x3, AR q3]) rfl ?_
      refine g_zast rfl sh17 (by decide) (b18 c2 c15).1 (b18 c2 c15).2 ?_
      refine g_sx 2 (pc1 := 56) (L1 := [vR r0, none, vI x2, vI (wr (x3 + 1)), none, none]) (st1 := []) rfl ?_
      exact (k2 c2 c15)
    · have c15 : (zand (zshr (zor (tI τ q5 x3.toNat) (tI τ q10 x3.toNat)) x2) 1) = 1 := Decidable.of_not_not (of_decide_eq_false c15)
      refine g_sk 2 (pc1 := 95) (st1 := [AI 1, AI x3, AR q3]) rfl ?_
      refine g_zast rfl sh17 (by decide) (b19 c2 c15).1 (b19 c2 c15).2 ?_
      refine g_sx 2 (pc1 := 56) (L1 := [vR r0, none, vI x2, vI (wr (x3 + 1)), none, none]) (st1 := []) rfl ?_
      exact (k3 c2 c15)

set_option maxRecDepth 8192 in
theorem t241_109 {d : Nat} {τ : T2} {Q : RS → T2 → Prop} {x3 : Int} {r0 : Nat} (k1 : x3 < 0 → G d 241 204 [vR r0, none, none, vI 0, none, none] [] τ Q) (k2 : 0 ≤ x3 → G d 241 116 [vR r0, none, none, vI x3, vI 0, none] [] τ Q) : G d 241 109 [vR r0, none, none, vI x3, none, none] [] τ Q := by
  refine g_sk 1 (pc1 := 110) (st1 := [AI x3]) rfl ?_
  refine g_br1 rfl (t := 202) rfl (fun c1 => ?_) (fun c1 => ?_)
  · have c1 : x3 < 0 := of_decide_eq_true c1
    refine g_sx 2 (pc1 := 204) (L1 := [vR r0, none, none, vI 0, none, none]) (st1 := []) rfl ?_
    exact (k1 c1)
  · have c1 : 0 ≤ x3 := Int.not_lt.mp (of_decide_eq_false c1)
    refine g_sx 2 (pc1 := 116) (L1 := [vR r0, none, none, vI x3, vI 0, none]) (st1 := []) rfl ?_
    exact (k2 c1)

set_option maxRecDepth 8192 in
theorem t241_116 {d : Nat} {τ : T2} {Q : RS → T2 → Prop} {x3 x4 : Int} {r0 q3 n5 q9 n11 q14 n16 : Nat} (hd : 1 ≤ d) (sh1 : tS τ r0 = (1, 21, 0)) (p4 : tP τ r0 38 = some q3) (sh6 : tS τ q3 = (2, 2, n5)) (b7 : x4 < (tI τ r0 4) → (0 : Int) ≤ x3 ∧ x3 < (n5 : Int)) (p10 : tP τ r0 35 = some q9) (sh12 : tS τ q9 = (2, 0, n11)) (b13 : x4 < (tI τ r0 4) → (tI τ q3 x3.toNat) = 0 → (0 : Int) ≤ x3 ∧ x3 < (n11 : Int)) (p15 : tP τ r0 36 = some q14) (sh17 : tS τ q14 = (2, 0, n16)) (b18 : x4 < (tI τ r0 4) → (tI τ q3 x3.toNat) = 0 → (0 : Int) ≤ x3 ∧ x3 < (n16 : Int)) (k1 : (tI τ r0 4) ≤ x4 → G d 241 109 [vR r0, none, none, vI (wr (x3 + (-1))), none, none] [] τ Q) (k2 : x4 < (tI τ r0 4) → ¬ (tI τ q3 x3.toNat) = 0 → G d 241 109 [vR r0, none, none, vI (wr (x3 + (-1))), none, none] [] τ Q) (k3 : x4 < (tI τ r0 4) → (tI τ q3 x3.toNat) = 0 → ¬ (zand (zshr (tI τ q14 x3.toNat) x4) 1) = 1 → G d 241 116 [vR r0, none, none, vI x3, vI (wr (x4 + 1)), none] [] τ Q) (k4 : x4 < (tI τ r0 4) → (tI τ q3 x3.toNat) = 0 → (zand (zshr (tI τ q14 x3.toNat) x4) 1) = 1 → (zor (tI τ q9 x3.toNat) (zshl 1 x4)) = (tI τ q9 x3.toNat) → G d 241 116 [vR r0, none, none, vI x3, vI (wr (x4 + 1)), none] [] τ Q) (k5 : x4 < (tI τ r0 4) → (tI τ q3 x3.toNat) = 0 → (zand (zshr (tI τ q14 x3.toNat) x4) 1) = 1 → ¬ (zor (tI τ q9 x3.toNat) (zshl 1 x4)) = (tI τ q9 x3.toNat) → G (d - 1) 239 0 [vR r0, vI (zor (tI τ q9 x3.toNat) (zshl 1 x4)), none] [] τ (KC d 241 185 188 [vR r0, none, none, vI x3, vI x4, none] [AR q3, AI x3, AR q3] Q)) : G d 241 116 [vR r0, none, none, vI x3, vI x4, none] [] τ Q := by
  refine g_sk 2 (pc1 := 119) (st1 := [AR r0, AI x4]) rfl ?_
  refine g_gI rfl (ci := 21) (k := 4) rfl sh1 ?_
  refine g_br2 rfl (t := 196) rfl (fun c2 => ?_) (fun c2 => ?_)
  · have c2 : (tI τ r0 4) ≤ x4 := of_decide_eq_true c2
    refine g_sx 2 (pc1 := 109) (L1 := [vR r0, none, none, vI (wr (x3 + (-1))), vI x4, none]) (st1 := []) rfl ?_
    exact G_fg (lw2_k _ (lw2_k _ (lw2_k _ (lw2_k _ (lw2_f _ (lw2_k _ lw2_nil)))))) (k1 c2)
  · have c2 : x4 < (tI τ r0 4) := Int.not_le.mp (of_decide_eq_false c2)
    refine g_sk 1 (pc1 := 126) (st1 := [AR r0]) rfl ?_
    refine g_gQ rfl (ci := 21) (k := 38) rfl sh1 p4 ?_
    refine g_sk 1 (pc1 := 130) (st1 := [AI x3, AR q3]) rfl ?_
    refine g_bald rfl sh6 (by decide) (b7 c2).1 (b7 c2).2 ?_
    refine g_br1 rfl (t := 196) rfl (fun c8 => ?_) (fun c8 => ?_)
    · have c8 : ¬ (tI τ q3 x3.toNat) = 0 := of_decide_eq_true c8
      refine g_sx 2 (pc1 := 109) (L1 := [vR r0, none, none, vI (wr (x3 + (-1))), vI x4, none]) (st1 := []) rfl ?_
      exact G_fg (lw2_k _ (lw2_k _ (lw2_k _ (lw2_k _ (lw2_f _ (lw2_k _ lw2_nil)))))) (k2 c2 c8)
    · have c8 : (tI τ q3 x3.toNat) = 0 := Decidable.of_not_not (of_decide_eq_false c8)
      refine g_sk 1 (pc1 := 135) (st1 := [AR r0]) rfl ?_
      refine g_gQ rfl (ci := 21) (k := 35) rfl sh1 p10 ?_
      refine g_sk 1 (pc1 := 139) (st1 := [AI x3, AR q9]) rfl ?_
      refine g_iald rfl sh12 (by decide) (b13 c2 c8).1 (b13 c2 c8).2 ?_
      refine g_sx 6 (pc1 := 148) (L1 := [vR r0, none, none, vI x3, vI x4, vI (zor (tI τ q9 x3.toNat) (zshl 1 x4))]) (st1 := [AR r0]) rfl ?_
      refine g_gQ rfl (ci := 21) (k := 36) rfl sh1 p15 ?_
      refine g_sk 1 (pc1 := 152) (st1 := [AI x3, AR q14]) rfl ?_
      refine g_iald rfl sh17 (by decide) (b18 c2 c8).1 (b18 c2 c8).2 ?_
      refine g_sk 5 (pc1 := 159) (st1 := [AI 1, AI (zand (zshr (tI τ q14 x3.toNat) x4) 1)]) rfl ?_
      refine g_br2 rfl (t := 190) rfl (fun c19 => ?_) (fun c19 => ?_)
      · have c19 : ¬ (zand (zshr (tI τ q14 x3.toNat) x4) 1) = 1 := of_decide_eq_true c19
        refine g_sx 2 (pc1 := 116) (L1 := [vR r0, none, none, vI x3, vI (wr (x4 + 1)), vI (zor (tI τ q9 x3.toNat) (zshl 1 x4))]) (st1 := []) rfl ?_
        exact G_fg (lw2_k _ (lw2_k _ (lw2_k _ (lw2_k _ (lw2_k _ (lw2_f _ lw2_nil)))))) (k3 c2 c8 c19)
      · have c19 : (zand (zshr (tI τ q14 x3.toNat) x4) 1) = 1 := Decidable.of_not_not (of_decide_eq_false c19)
        refine g_sk 2 (pc1 := 165) (st1 := [AR r0, AI (zor (tI τ q9 x3.toNat) (zshl 1 x4))]) rfl ?_
        refine g_gQ rfl (ci := 21) (k := 35) rfl sh1 p10 ?_
        refine g_sk 1 (pc1 := 169) (st1 := [AI x3, AR q9, AI (zor (tI τ q9 x3.toNat) (zshl 1 x4))]) rfl ?_
        refine g_iald rfl sh12 (by decide) (b13 c2 c8).1 (b13 c2 c8).2 ?_
        refine g_br2 rfl (t := 190) rfl (fun c20 => ?_) (fun c20 => ?_)
        · have c20 : (zor (tI τ q9 x3.toNat) (zshl 1 x4)) = (tI τ q9 x3.toNat) := of_decide_eq_true c20
          refine g_sx 2 (pc1 := 116) (L1 := [vR r0, none, none, vI x3, vI (wr (x4 + 1)), vI (zor (tI τ q9 x3.toNat) (zshl 1 x4))]) (st1 := []) rfl ?_
          exact G_fg (lw2_k _ (lw2_k _ (lw2_k _ (lw2_k _ (lw2_k _ (lw2_f _ lw2_nil)))))) (k4 c2 c8 c19 c20)
        · have c20 : ¬ (zor (tI τ q9 x3.toNat) (zshl 1 x4)) = (tI τ q9 x3.toNat) := of_decide_eq_false c20
          refine g_sk 1 (pc1 := 174) (st1 := [AR r0]) rfl ?_
          refine g_gQ rfl (ci := 21) (k := 38) rfl sh1 p4 ?_
          refine g_sk 2 (pc1 := 179) (st1 := [AR r0, AI x3, AR q3]) rfl ?_
          refine g_gQ rfl (ci := 21) (k := 38) rfl sh1 p4 ?_
          refine g_sk 2 (pc1 := 185) (st1 := [AI (zor (tI τ q9 x3.toNat) (zshl 1 x4)), AR r0, AR q3, AI x3, AR q3]) rfl ?_
          refine G_fg (lw2_k _ (lw2_k _ (lw2_k _ (lw2_k _ (lw2_k _ (lw2_f _ lw2_nil)))))) ?_
          refine g_cv rfl rfl (by decide) rfl rfl (Nat.le_of_ble_eq_true rfl) (as2 := [AI (zor (tI τ q9 x3.toNat) (zshl 1 x4))]) rfl sh1 rfl (by omega) (L0 := [vR r0, vI (zor (tI τ q9 x3.toNat) (zshl 1 x4)), none]) rfl ?_
          exact (k5 c2 c8 c19 c20)

set_option maxRecDepth 8192 in
theorem t241_188 {d : Nat} {τ : T2} {Q : RS → T2 → Prop} {x3 x4 y0 y2 : Int} {r0 s1 s3 n1 n4 : Nat} (sh2 : tS τ s1 = (2, 2, n1)) (b3 : (0 : Int) ≤ y0 ∧ y0 < (n1 : Int)) (sh5 : tS τ s3 = (2, 2, n4)) (b6 : (0 : Int) ≤ y2 ∧ y2 < (n4 : Int)) (p7 : (tI τ s1 y0.toNat) = 0 ∨ (tI τ s1 y0.toNat) = 1) (k1 : G d 241 116 [vR r0, none, none, vI x3, vI (wr (x4 + 1)), none] [] (uI τ s3 y2.toNat (tI τ s1 y0.toNat)) Q) : G d 241 188 [vR r0, none, none, vI x3, vI x4, none] [AI y0, AR s1, AI y2, AR s3] τ Q := by
  refine g_bald rfl sh2 (by decide) b3.1 b3.2 ?_
  refine g_zast rfl sh5 p7 b6.1 b6.2 ?_
  refine g_sx 2 (pc1 := 116) (L1 := [vR r0, none, none, vI x3, vI (wr (x4 + 1)), none]) (st1 := []) rfl ?_
  exact k1

set_option maxRecDepth 8192 in
theorem t241_204 {d : Nat} {τ : T2} {Q : RS → T2 → Prop} {x3 : Int} {r0 q4 n6 q9 n11 : Nat} (hd : 1 ≤ d) (sh1 : tS τ r0 = (1, 21, 0)) (p5 : tP τ r0 35 = some q4) (sh7 : tS τ q4 = (2, 0, n6)) (b8 : (tI τ r0 37) ≤ x3 → x3 < (tI τ r0 37) → (0 : Int) ≤ x3 ∧ x3 < (n6 : Int)) (p10 : tP τ r0 38 = some q9) (sh12 : tS τ q9 = (2, 2, n11)) (b13 : x3 < (tI τ r0 37) → (0 : Int) ≤ x3 ∧ x3 < (n11 : Int)) (b16 : x3 < (tI τ r0 37) → (tI τ q9 x3.toNat) = 0 → x3 < (tI τ r0 37) → (0 : Int) ≤ x3 ∧ x3 < (n6 : Int)) (k1 : (tI τ r0 37) ≤ x3 → (tI τ r0 37) ≤ x3 → G (d - 1) 165 0 [vR r0, vI (-2)] [] τ (KC d 241 247 250 [none, none, none, none, none, none] [] Q)) (k2 : (tI τ r0 37) ≤ x3 → x3 < (tI τ r0 37) → G (d - 1) 165 0 [vR r0, vI (tI τ q4 x3.toNat)] [] τ (KC d 241 247 250 [none, none, none, none, none, none] [] Q)) (k3 : x3 < (tI τ r0 37) → (tI τ q9 x3.toNat) = 0 → (tI τ r0 37) ≤ x3 → G (d - 1) 165 0 [vR r0, vI (-2)] [] τ (KC d 241 247 250 [none, none, none, none, none, none] [] Q)) (k4 : x3 < (tI τ r0 37) → (tI τ q9 x3.toNat) = 0 → x3 < (tI τ r0 37) → G (d - 1) 165 0 [vR r0, vI (tI τ q4 x3.toNat)] [] τ (KC d 241 247 250 [none, none, none, none, none, none] [] Q)) (k5 : x3 < (tI τ r0 37) → ¬ (tI τ q9 x3.toNat) = 0 → G d 241 204 [vR r0, none, none, vI (wr (x3 + 1)), none, none] [] τ Q) : G d 241 204 [vR r0, none, none, vI x3, none, none] [] τ Q := by
  refine g_sk 2 (pc1 := 206) (st1 := [AR r0, AI x3]) rfl ?_
  refine g_gI rfl (ci := 21) (k := 37) rfl sh1 ?_
  refine g_br2 rfl (t := 227) rfl (fun c2 => ?_) (fun c2 => ?_)
  · have c2 : (tI τ r0 37) ≤ x3 := of_decide_eq_true c2
    refine g_sk 3 (pc1 := 230) (st1 := [AR r0, AI x3, AR r0]) rfl ?_
    refine g_gI rfl (ci := 21) (k := 37) rfl sh1 ?_
    refine g_br2 rfl (t := 245) rfl (fun c3 => ?_) (fun c3 => ?_)
    · have c3 : (tI τ r0 37) ≤ x3 := of_decide_eq_true c3
      refine g_sk 1 (pc1 := 247) (st1 := [AI (-2), AR r0]) rfl ?_
      refine G_fg (lw2_f _ (lw2_k _ (lw2_k _ (lw2_f _ (lw2_k _ (lw2_k _ lw2_nil)))))) ?_
      refine g_cv rfl rfl (by decide) rfl rfl (Nat.le_of_ble_eq_true rfl) (as2 := [AI (-2)]) rfl sh1 rfl (by omega) (L0 := [vR r0, vI (-2)]) rfl ?_
      exact (k1 c2 c3)
    · have c3 : x3 < (tI τ r0 37) := Int.not_le.mp (of_decide_eq_false c3)
      refine g_sk 1 (pc1 := 237) (st1 := [AR r0, AR r0]) rfl ?_
      refine g_gQ rfl (ci := 21) (k := 35) rfl sh1 p5 ?_
      refine g_sk 1 (pc1 := 241) (st1 := [AI x3, AR q4, AR r0]) rfl ?_
      refine g_iald rfl sh7 (by decide) (b8 c2 c3).1 (b8 c2 c3).2 ?_
      refine g_sk 1 (pc1 := 247) (st1 := [AI (tI τ q4 x3.toNat), AR r0]) rfl ?_
      refine G_fg (lw2_f _ (lw2_k _ (lw2_k _ (lw2_f _ (lw2_k _ (lw2_k _ lw2_nil)))))) ?_
      refine g_cv rfl rfl (by decide) rfl rfl (Nat.le_of_ble_eq_true rfl) (as2 := [AI (tI τ q4 x3.toNat)]) rfl sh1 rfl (by omega) (L0 := [vR r0, vI (tI τ q4 x3.toNat)]) rfl ?_
      exact (k2 c2 c3)
  · have c2 : x3 < (tI τ r0 37) := Int.not_le.mp (of_decide_eq_false c2)
    refine g_sk 1 (pc1 := 213) (st1 := [AR r0]) rfl ?_
    refine g_gQ rfl (ci := 21) (k := 38) rfl sh1 p10 ?_
    refine g_sk 1 (pc1 := 217) (st1 := [AI x3, AR q9]) rfl ?_
    refine g_bald rfl sh12 (by decide) (b13 c2).1 (b13 c2).2 ?_
    refine g_br1 rfl (t := 227) rfl (fun c14 => ?_) (fun c14 => ?_)
    · have c14 : (tI τ q9 x3.toNat) = 0 := of_decide_eq_true c14
      refine g_sk 3 (pc1 := 230) (st1 := [AR r0, AI x3, AR r0]) rfl ?_
      refine g_gI rfl (ci := 21) (k := 37) rfl sh1 ?_
      refine g_br2 rfl (t := 245) rfl (fun c15 => ?_) (fun c15 => ?_)
      · have c15 : (tI τ r0 37) ≤ x3 := of_decide_eq_true c15
        refine g_sk 1 (pc1 := 247) (st1 := [AI (-2), AR r0]) rfl ?_
        refine G_fg (lw2_f _ (lw2_k _ (lw2_k _ (lw2_f _ (lw2_k _ (lw2_k _ lw2_nil)))))) ?_
        refine g_cv rfl rfl (by decide) rfl rfl (Nat.le_of_ble_eq_true rfl) (as2 := [AI (-2)]) rfl sh1 rfl (by omega) (L0 := [vR r0, vI (-2)]) rfl ?_
        exact (k3 c2 c14 c15)
      · have c15 : x3 < (tI τ r0 37) := Int.not_le.mp (of_decide_eq_false c15)
        refine g_sk 1 (pc1 := 237) (st1 := [AR r0, AR r0]) rfl ?_
        refine g_gQ rfl (ci := 21) (k := 35) rfl sh1 p5 ?_
        refine g_sk 1 (pc1 := 241) (st1 := [AI x3, AR q4, AR r0]) rfl ?_
        refine g_iald rfl sh7 (by decide) (b16 c2 c14 c15).1 (b16 c2 c14 c15).2 ?_
        refine g_sk 1 (pc1 := 247) (st1 := [AI (tI τ q4 x3.toNat), AR r0]) rfl ?_
        refine G_fg (lw2_f _ (lw2_k _ (lw2_k _ (lw2_f _ (lw2_k _ (lw2_k _ lw2_nil)))))) ?_
        refine g_cv rfl rfl (by decide) rfl rfl (Nat.le_of_ble_eq_true rfl) (as2 := [AI (tI τ q4 x3.toNat)]) rfl sh1 rfl (by omega) (L0 := [vR r0, vI (tI τ q4 x3.toNat)]) rfl ?_
        exact (k4 c2 c14 c15)
    · have c14 : ¬ (tI τ q9 x3.toNat) = 0 := of_decide_eq_false c14
      refine g_sx 2 (pc1 := 204) (L1 := [vR r0, none, none, vI (wr (x3 + 1)), none, none]) (st1 := []) rfl ?_
      exact (k5 c2 c14)

set_option maxRecDepth 8192 in
theorem t241_250 {d : Nat} {τ : T2} {Q : RS → T2 → Prop} {y0 : Int} (k1 : Q (.inl (some (AI y0))) τ) : G d 241 250 [none, none, none, none, none, none] [AI y0] τ Q := by
  refine g_iret rfl rfl ?_
  exact k1

set_option maxRecDepth 8192 in
theorem t242_0 {d : Nat} {τ : T2} {Q : RS → T2 → Prop} {x1 : Int} {r0 : Nat} (hd : 1 ≤ d) (sh1 : tS τ r0 = (1, 21, 0)) (k1 : G (d - 1) 167 0 [vI x1, vI 0, vI 9999] [] (uI τ r0 0 0) (KC d 242 10 13 [vR r0, vI x1, none, none, none] [] Q)) : G d 242 0 [vR r0, vI x1, none, none, none] [] τ Q := by
  refine g_sk 2 (pc1 := 2) (st1 := [AI 0, AR r0]) rfl ?_
  refine g_putI (x := 0) rfl (ci := 21) (k := 0) (kd := 0) rfl (by decide) rfl rfl sh1 ?_
  refine g_sk 3 (pc1 := 10) (st1 := [AI 9999, AI 0, AI x1]) rfl ?_
  refine g_cs rfl rfl (by decide) rfl rfl (Nat.le_of_ble_eq_true rfl) rfl (by omega) (L0 := [vI x1, vI 0, vI 9999]) rfl ?_
  exact k1

set_option maxRecDepth 8192 in
theorem t242_13 {d : Nat} {τ : T2} {Q : RS → T2 → Prop} {x1 y0 : Int} {r0 : Nat} (hd : 1 ≤ d) (sh2 : tS τ r0 = (1, 21, 0)) (k1 : ¬ y0 = 0 → G (d - 1) 209 0 [vR r0, none] [] τ (KC d 242 23 26 [vR r0, vI x1, none, none, none] [] Q)) (k2 : y0 = 0 → G (d - 1) 163 0 [vR r0, vI 2] [] τ (KC d 242 18 21 [none, none, none, none, none] [] Q)) : G d 242 13 [vR r0, vI x1, none, none, none] [AI y0] τ Q := by
  refine g_br1 rfl (t := 22) rfl (fun c1 => ?_) (fun c1 => ?_)
  · have c1 : ¬ y0 = 0 := of_decide_eq_true c1
    refine g_sk 1 (pc1 := 23) (st1 := [AR r0]) rfl ?_
    refine g_cv rfl rfl (by decide) rfl rfl (Nat.le_of_ble_eq_true rfl) (as2 := []) rfl sh2 rfl (by omega) (L0 := [vR r0, none]) rfl ?_
    exact (k1 c1)
  · have c1 : y0 = 0 := Decidable.of_not_not (of_decide_eq_false c1)
    refine g_sk 2 (pc1 := 18) (st1 := [AI 2, AR r0]) rfl ?_
    refine G_fg (lw2_f _ (lw2_f _ (lw2_k _ (lw2_k _ (lw2_k _ lw2_nil))))) ?_
    refine g_cv rfl rfl (by decide) rfl rfl (Nat.le_of_ble_eq_true rfl) (as2 := [AI 2]) rfl sh2 rfl (by omega) (L0 := [vR r0, vI 2]) rfl ?_
    exact (k2 c1)

set_option maxRecDepth 8192 in
theorem t242_21 {d : Nat} {τ : T2} {Q : RS → T2 → Prop} {y0 : Int} (k1 : Q (.inl (some (AI y0))) τ) : G d 242 21 [none, none, none, none, none] [AI y0] τ Q := by
  refine g_iret rfl rfl ?_
  exact k1

set_option maxRecDepth 8192 in
theorem t242_26 {d : Nat} {τ : T2} {Q : RS → T2 → Prop} {x1 y0 : Int} {r0 : Nat} (hd : 1 ≤ d) (sh2 : tS τ r0 = (1, 21, 0)) (k1 : ¬ y0 = (-1) → G (d - 1) 238 0 [vR r0, vI x1, none, none, none] [] τ (KC d 242 41 44 [vR r0, none, vI y0, none, none] [] Q)) (k2 : y0 = (-1) → G (d - 1) 163 0 [vR r0, vI 9] [] τ (KC d 242 35 38 [none, none, none, none, none] [] Q)) : G d 242 26 [vR r0, vI x1, none, none, none] [AI y0] τ Q := by
  refine g_sx 3 (pc1 := 29) (L1 := [vR r0, vI x1, vI y0, none, none]) (st1 := [AI (-1), AI y0]) rfl ?_
  refine g_br2 rfl (t := 39) rfl (fun c1 => ?_) (fun c1 => ?_)
  · have c1 : ¬ y0 = (-1) := of_decide_eq_true c1
    refine g_sk 2 (pc1 := 41) (st1 := [AI x1, AR r0]) rfl ?_
    refine G_fg (lw2_k _ (lw2_f _ (lw2_k _ (lw2_k _ (lw2_k _ lw2_nil))))) ?_
    refine g_cv rfl rfl (by decide) rfl rfl (Nat.le_of_ble_eq_true rfl) (as2 := [AI x1]) rfl sh2 rfl (by omega) (L0 := [vR r0, vI x1, none, none, none]) rfl ?_
    exact (k1 c1)
  · have c1 : y0 = (-1) := Decidable.of_not_not (of_decide_eq_false c1)
    refine g_sk 2 (pc1 := 35) (st1 := [AI 9, AR r0]) rfl ?_
    refine G_fg (lw2_f _ (lw2_f _ (lw2_f _ (lw2_k _ (lw2_k _ lw2_nil))))) ?_
    refine g_cv rfl rfl (by decide) rfl rfl (Nat.le_of_ble_eq_true rfl) (as2 := [AI 9]) rfl sh2 rfl (by omega) (L0 := [vR r0, vI 9]) rfl ?_
    exact (k2 c1)

set_option maxRecDepth 8192 in
theorem t242_38 {d : Nat} {τ : T2} {Q : RS → T2 → Prop} {y0 : Int} (k1 : Q (.inl (some (AI y0))) τ) : G d 242 38 [none, none, none, none, none] [AI y0] τ Q := by
  refine g_iret rfl rfl ?_
  exact k1

set_option maxRecDepth 8192 in
theorem t242_44 {d : Nat} {τ : T2} {Q : RS → T2 → Prop} {x2 y0 : Int} {r0 : Nat} (hd : 1 ≤ d) (sh2 : tS τ r0 = (1, 21, 0)) (k1 : ¬ y0 = 0 → G d 242 65 [vR r0, none, vI x2, vI (-2), vI (wr ((tI τ r0 37) - 1))] [] τ Q) (k2 : y0 = 0 → G (d - 1) 163 0 [vR r0, vI 10] [] τ (KC d 242 50 53 [none, none, none, none, none] [] Q)) : G d 242 44 [vR r0, none, vI x2, none, none] [AI y0] τ Q := by
  refine g_br1 rfl (t := 54) rfl (fun c1 => ?_) (fun c1 => ?_)
  · have c1 : ¬ y0 = 0 := of_decide_eq_true c1
    refine g_sx 3 (pc1 := 58) (L1 := [vR r0, none, vI x2, vI (-2), none]) (st1 := [AR r0]) rfl ?_
    refine g_gI rfl (ci := 21) (k := 37) rfl sh2 ?_
    refine g_sx 3 (pc1 := 65) (L1 := [vR r0, none, vI x2, vI (-2), vI (wr ((tI τ r0 37) - 1))]) (st1 := []) rfl ?_
    exact (k1 c1)
  · have c1 : y0 = 0 := Decidable.of_not_not (of_decide_eq_false c1)
    refine g_sk 2 (pc1 := 50) (st1 := [AI 10, AR r0]) rfl ?_
    refine G_fg (lw2_f _ (lw2_k _ (lw2_f _ (lw2_k _ (lw2_k _ lw2_nil))))) ?_
    refine g_cv rfl rfl (by decide) rfl rfl (Nat.le_of_ble_eq_true rfl) (as2 := [AI 10]) rfl sh2 rfl (by omega) (L0 := [vR r0, vI 10]) rfl ?_
    exact (k2 c1)

set_option maxRecDepth 8192 in
theorem t242_53 {d : Nat} {τ : T2} {Q : RS → T2 → Prop} {y0 : Int} (k1 : Q (.inl (some (AI y0))) τ) : G d 242 53 [none, none, none, none, none] [AI y0] τ Q := by
  refine g_iret rfl rfl ?_
  exact k1

set_option maxRecDepth 8192 in
theorem t242_65 {d : Nat} {τ : T2} {Q : RS → T2 → Prop} {x2 x3 x4 : Int} {r0 q3 n5 q9 n11 : Nat} (hd : 1 ≤ d) (sh2 : tS τ r0 = (1, 21, 0)) (p4 : tP τ r0 35 = some q3) (sh6 : tS τ q3 = (2, 0, n5)) (b7 : 0 ≤ x4 → (0 : Int) ≤ x4 ∧ x4 < (n5 : Int)) (p10 : tP τ r0 36 = some q9) (sh12 : tS τ q9 = (2, 0, n11)) (b13 : 0 ≤ x4 → (zand (zshr (tI τ q3 x4.toNat) x2) 1) = 0 → (0 : Int) ≤ x4 ∧ x4 < (n11 : Int)) (k1 : x4 < 0 → G (d - 1) 165 0 [vR r0, vI x3] [] τ (KC d 242 118 121 [none, none, none, none, none] [] Q)) (k2 : 0 ≤ x4 → ¬ (zand (zshr (tI τ q3 x4.toNat) x2) 1) = 0 → G d 242 65 [vR r0, none, vI x2, vI x3, vI (wr (x4 + (-1)))] [] τ Q) (k3 : 0 ≤ x4 → (zand (zshr (tI τ q3 x4.toNat) x2) 1) = 0 → ¬ (zand (zshr (tI τ q9 x4.toNat) x2) 1) = 1 → G d 242 65 [vR r0, none, vI x2, vI x3, vI (wr (x4 + (-1)))] [] τ Q) (k4 : 0 ≤ x4 → (zand (zshr (tI τ q3 x4.toNat) x2) 1) = 0 → (zand (zshr (tI τ q9 x4.toNat) x2) 1) = 1 → G (d - 1) 168 0 [vI (tI τ q3 x4.toNat), none, none] [] τ (KC d 242 106 109 [vR r0, none, vI x2, none, vI x4] [] Q)) : G d 242 65 [vR r0, none, vI x2, vI x3, vI x4] [] τ Q := by
  refine g_sk 1 (pc1 := 67) (st1 := [AI x4]) rfl ?_
  refine g_br1 rfl (t := 116) rfl (fun c1 => ?_) (fun c1 => ?_)
  · have c1 : x4 < 0 := of_decide_eq_true c1
    refine g_sk 2 (pc1 := 118) (st1 := [AI x3, AR r0]) rfl ?_
    refine G_fg (lw2_f _ (lw2_k _ (lw2_f _ (lw2_f _ (lw2_f _ lw2_nil))))) ?_
    refine g_cv rfl rfl (by decide) rfl rfl (Nat.le_of_ble_eq_true rfl) (as2 := [AI x3]) rfl sh2 rfl (by omega) (L0 := [vR r0, vI x3]) rfl ?_
    exact (k1 c1)
  · have c1 : 0 ≤ x4 := Int.not_lt.mp (of_decide_eq_false c1)
    refine g_sk 1 (pc1 := 71) (st1 := [AR r0]) rfl ?_
    refine g_gQ rfl (ci := 21) (k := 35) rfl sh2 p4 ?_
    refine g_sk 1 (pc1 := 76) (st1 := [AI x4, AR q3]) rfl ?_
    refine g_iald rfl sh6 (by decide) (b7 c1).1 (b7 c1).2 ?_
    refine g_sk 4 (pc1 := 81) (st1 := [AI (zand (zshr (tI τ q3 x4.toNat) x2) 1)]) rfl ?_
    refine g_br1 rfl (t := 110) rfl (fun c8 => ?_) (fun c8 => ?_)
    · have c8 : ¬ (zand (zshr (tI τ q3 x4.toNat) x2) 1) = 0 := of_decide_eq_true c8
      refine g_sx 2 (pc1 := 65) (L1 := [vR r0, none, vI x2, vI x3, vI (wr (x4 + (-1)))]) (st1 := []) rfl ?_
      exact (k2 c1 c8)
    · have c8 : (zand (zshr (tI τ q3 x4.toNat) x2) 1) = 0 := Decidable.of_not_not (of_decide_eq_false c8)
      refine g_sk 1 (pc1 := 85) (st1 := [AR r0]) rfl ?_
      refine g_gQ rfl (ci := 21) (k := 36) rfl sh2 p10 ?_
      refine g_sk 1 (pc1 := 90) (st1 := [AI x4, AR q9]) rfl ?_
      refine g_iald rfl sh12 (by decide) (b13 c1 c8).1 (b13 c1 c8).2 ?_
      refine g_sk 5 (pc1 := 96) (st1 := [AI 1, AI (zand (zshr (tI τ q9 x4.toNat) x2) 1)]) rfl ?_
      refine g_br2 rfl (t := 110) rfl (fun c14 => ?_) (fun c14 => ?_)
      · have c14 : ¬ (zand (zshr (tI τ q9 x4.toNat) x2) 1) = 1 := of_decide_eq_true c14
        refine g_sx 2 (pc1 := 65) (L1 := [vR r0, none, vI x2, vI x3, vI (wr (x4 + (-1)))]) (st1 := []) rfl ?_
        exact (k3 c1 c8 c14)
      · have c14 : (zand (zshr (tI τ q9 x4.toNat) x2) 1) = 1 := Decidable.of_not_not (of_decide_eq_false c14)
        refine g_sk 1 (pc1 := 100) (st1 := [AR r0]) rfl ?_
        refine g_gQ rfl (ci := 21) (k := 35) rfl sh2 p4 ?_
        refine g_sk 1 (pc1 := 105) (st1 := [AI x4, AR q3]) rfl ?_
        refine g_iald rfl sh6 (by decide) (b7 c1).1 (b7 c1).2 ?_
        refine G_fg (lw2_k _ (lw2_k _ (lw2_k _ (lw2_f _ (lw2_k _ lw2_nil))))) ?_
        refine g_cs rfl rfl (by decide) rfl rfl (Nat.le_of_ble_eq_true rfl) rfl (by omega) (L0 := [vI (tI τ q3 x4.toNat), none, none]) rfl ?_
        exact (k4 c1 c8 c14)

set_option maxRecDepth 8192 in
theorem t242_109 {d : Nat} {τ : T2} {Q : RS → T2 → Prop} {x2 x4 y0 : Int} {r0 : Nat} (k1 : G d 242 65 [vR r0, none, vI x2, vI y0, vI (wr (x4 + (-1)))] [] τ Q) : G d 242 109 [vR r0, none, vI x2, none, vI x4] [AI y0] τ Q := by
  refine g_sx 3 (pc1 := 65) (L1 := [vR r0, none, vI x2, vI y0, vI (wr (x4 + (-1)))]) (st1 := []) rfl ?_
  exact k1

set_option maxRecDepth 8192 in
theorem t242_121 {d : Nat} {τ : T2} {Q : RS → T2 → Prop} {y0 : Int} (k1 : Q (.inl (some (AI y0))) τ) : G d 242 121 [none, none, none, none, none] [AI y0] τ Q := by
  refine g_iret rfl rfl ?_
  exact k1

set_option maxRecDepth 8192 in
theorem t243_0 {d : Nat} {τ : T2} {Q : RS → T2 → Prop} {x1 : Int} {r0 : Nat} (hd : 1 ≤ d) (sh1 : tS τ r0 = (1, 21, 0)) (k1 : G (d - 1) 167 0 [vI x1, vI 0, vI 9999] [] (uI τ r0 0 0) (KC d 243 10 13 [vR r0, vI x1, none, none] [] Q)) : G d 243 0 [vR r0, vI x1, none, none] [] τ Q := by
  refine g_sk 2 (pc1 := 2) (st1 := [AI 0, AR r0]) rfl ?_
  refine g_putI (x := 0) rfl (ci := 21) (k := 0) (kd := 0) rfl (by decide) rfl rfl sh1 ?_
  refine g_sk 3 (pc1 := 10) (st1 := [AI 9999, AI 0, AI x1]) rfl ?_
  refine g_cs rfl rfl (by decide) rfl rfl (Nat.le_of_ble_eq_true rfl) rfl (by omega) (L0 := [vI x1, vI 0, vI 9999]) rfl ?_
  exact k1

set_option maxRecDepth 8192 in
theorem t243_13 {d : Nat} {τ : T2} {Q : RS → T2 → Prop} {x1 y0 : Int} {r0 : Nat} (hd : 1 ≤ d) (sh2 : tS τ r0 = (1, 21, 0)) (k1 : ¬ y0 = 0 → G (d - 1) 238 0 [vR r0, vI x1, none, none, none] [] τ (KC d 243 24 27 [vR r0, none, none, none] [] Q)) (k2 : y0 = 0 → G (d - 1) 163 0 [vR r0, vI 2] [] τ (KC d 243 18 21 [none, none, none, none] [] Q)) : G d 243 13 [vR r0, vI x1, none, none] [AI y0] τ Q := by
  refine g_br1 rfl (t := 22) rfl (fun c1 => ?_) (fun c1 => ?_)
  · have c1 : ¬ y0 = 0 := of_decide_eq_true c1
    refine g_sk 2 (pc1 := 24) (st1 := [AI x1, AR r0]) rfl ?_
    refine G_fg (lw2_k _ (lw2_f _ (lw2_k _ (lw2_k _ lw2_nil)))) ?_
    refine g_cv rfl rfl (by decide) rfl rfl (Nat.le_of_ble_eq_true rfl) (as2 := [AI x1]) rfl sh2 rfl (by omega) (L0 := [vR r0, vI x1, none, none, none]) rfl ?_
    exact (k1 c1)
  · have c1 : y0 = 0 := Decidable.of_not_not (of_decide_eq_false c1)
    refine g_sk 2 (pc1 := 18) (st1 := [AI 2, AR r0]) rfl ?_
    refine G_fg (lw2_f _ (lw2_f _ (lw2_k _ (lw2_k _ lw2_nil)))) ?_
    refine g_cv rfl rfl (by decide) rfl rfl (Nat.le_of_ble_eq_true rfl) (as2 := [AI 2]) rfl sh2 rfl (by omega) (L0 := [vR r0, vI 2]) rfl ?_
    exact (k2 c1)

set_option maxRecDepth 8192 in
theorem t243_21 {d : Nat} {τ : T2} {Q : RS → T2 → Prop} {y0 : Int} (k1 : Q (.inl (some (AI y0))) τ) : G d 243 21 [none, none, none, none] [AI y0] τ Q := by
  refine g_iret rfl rfl ?_
  exact k1

set_option maxRecDepth 8192 in
theorem t243_27 {d : Nat} {τ : T2} {Q : RS → T2 → Prop} {y0 : Int} {r0 : Nat} (hd : 1 ≤ d) (sh2 : tS τ r0 = (1, 21, 0)) (k1 : ¬ y0 = 0 → G d 243 41 [vR r0, none, vI 0, vI 0] [] τ Q) (k2 : y0 = 0 → G (d - 1) 163 0 [vR r0, vI 10] [] τ (KC d 243 33 36 [none, none, none, none] [] Q)) : G d 243 27 [vR r0, none, none, none] [AI y0] τ Q := by
  refine g_br1 rfl (t := 37) rfl (fun c1 => ?_) (fun c1 => ?_)
  · have c1 : ¬ y0 = 0 := of_decide_eq_true c1
    refine g_sx 4 (pc1 := 41) (L1 := [vR r0, none, vI 0, vI 0]) (st1 := []) rfl ?_
    exact (k1 c1)
  · have c1 : y0 = 0 := Decidable.of_not_not (of_decide_eq_false c1)
    refine g_sk 2 (pc1 := 33) (st1 := [AI 10, AR r0]) rfl ?_
    refine G_fg (lw2_f _ (lw2_k _ (lw2_k _ (lw2_k _ lw2_nil)))) ?_
    refine g_cv rfl rfl (by decide) rfl rfl (Nat.le_of_ble_eq_true rfl) (as2 := [AI 10]) rfl sh2 rfl (by omega) (L0 := [vR r0, vI 10]) rfl ?_
    exact (k2 c1)

set_option maxRecDepth 8192 in
theorem t243_36 {d : Nat} {τ : T2} {Q : RS → T2 → Prop} {y0 : Int} (k1 : Q (.inl (some (AI y0))) τ) : G d 243 36 [none, none, none, none] [AI y0] τ Q := by
  refine g_iret rfl rfl ?_
  exact k1

set_option maxRecDepth 8192 in
theorem t243_41 {d : Nat} {τ : T2} {Q : RS → T2 → Prop} {x2 x3 : Int} {r0 q3 n5 : Nat} (hd : 1 ≤ d) (sh1 : tS τ r0 = (1, 21, 0)) (p4 : tP τ r0 36 = some q3) (sh6 : tS τ q3 = (2, 0, n5)) (b7 : x3 < (tI τ r0 37) → (0 : Int) ≤ x3 ∧ x3 < (n5 : Int)) (k1 : (tI τ r0 37) ≤ x3 → G (d - 1) 165 0 [vR r0, vI (zand (wr ((zshl 1 (tI τ r0 4)) - 1)) (zxor x2 (-1)))] [] τ (KC d 243 77 80 [none, none, none, none] [] Q)) (k2 : x3 < (tI τ r0 37) → G d 243 41 [vR r0, none, vI (zor x2 (tI τ q3 x3.toNat)), vI (wr (x3 + 1))] [] τ Q) : G d 243 41 [vR r0, none, vI x2, vI x3] [] τ Q := by
  refine g_sk 2 (pc1 := 43) (st1 := [AR r0, AI x3]) rfl ?_
  refine g_gI rfl (ci := 21) (k := 37) rfl sh1 ?_
  refine g_br2 rfl (t := 64) rfl (fun c2 => ?_) (fun c2 => ?_)
  · have c2 : (tI τ r0 37) ≤ x3 := of_decide_eq_true c2
    refine g_sk 3 (pc1 := 67) (st1 := [AR r0, AI 1, AR r0]) rfl ?_
    refine g_gI rfl (ci := 21) (k := 4) rfl sh1 ?_
    refine g_sk 7 (pc1 := 77) (st1 := [AI (zand (wr ((zshl 1 (tI τ r0 4)) - 1)) (zxor x2 (-1))), AR r0]) rfl ?_
    refine G_fg (lw2_f _ (lw2_k _ (lw2_f _ (lw2_f _ lw2_nil)))) ?_
    refine g_cv rfl rfl (by decide) rfl rfl (Nat.le_of_ble_eq_true rfl) (as2 := [AI (zand (wr ((zshl 1 (tI τ r0 4)) - 1)) (zxor x2 (-1)))]) rfl sh1 rfl (by omega) (L0 := [vR r0, vI (zand (wr ((zshl 1 (tI τ r0 4)) - 1)) (zxor x2 (-1)))]) rfl ?_
    exact (k1 c2)
  · have c2 : x3 < (tI τ r0 37) := Int.not_le.mp (of_decide_eq_false c2)
    refine g_sk 2 (pc1 := 51) (st1 := [AR r0, AI x2]) rfl ?_
    refine g_gQ rfl (ci := 21) (k := 36) rfl sh1 p4 ?_
    refine g_sk 1 (pc1 := 55) (st1 := [AI x3, AR q3, AI x2]) rfl ?_
    refine g_iald rfl sh6 (by decide) (b7 c2).1 (b7 c2).2 ?_
    refine g_sx 4 (pc1 := 41) (L1 := [vR r0, none, vI (zor x2 (tI τ q3 x3.toNat)), vI (wr (x3 + 1))]) (st1 := []) rfl ?_
    exact (k2 c2)

set_option maxRecDepth 8192 in
theorem t243_80 {d : Nat} {τ : T2} {Q : RS → T2 → Prop} {y0 : Int} (k1 : Q (.inl (some (AI y0))) τ) : G d 243 80 [none, none, none, none] [AI y0] τ Q := by
  refine g_iret rfl rfl ?_
  exact k1

set_option maxRecDepth 8192 in
theorem t244_0 {d : Nat} {τ : T2} {Q : RS → T2 → Prop} {x1 : Int} {r0 : Nat} (sh1 : tS τ r0 = (1, 21, 0)) (k1 : G d 244 6 [vR r0, none] [AI x1] (uI τ r0 0 0) Q) : G d 244 0 [vR r0, vI x1] [] τ Q := by
  refine g_sk 2 (pc1 := 2) (st1 := [AI 0, AR r0]) rfl ?_
  refine g_putI (x := 0) rfl (ci := 21) (k := 0) (kd := 0) rfl (by decide) rfl rfl sh1 ?_
  refine g_sk 1 (pc1 := 6) (st1 := [AI x1]) rfl ?_
  exact G_fg (lw2_k _ (lw2_f _ lw2_nil)) k1

set_option maxRecDepth 8192 in
theorem t245_0 {d : Nat} {τ : T2} {Q : RS → T2 → Prop} {r0 : Nat} (sh1 : tS τ r0 = (1, 21, 0)) (k1 : Q (.inl (some (AI (tI (uI τ r0 0 0) r0 1)))) (uI τ r0 0 0)) : G d 245 0 [vR r0] [] τ Q := by
  refine g_sk 2 (pc1 := 2) (st1 := [AI 0, AR r0]) rfl ?_
  refine g_putI (x := 0) rfl (ci := 21) (k := 0) (kd := 0) rfl (by decide) rfl rfl sh1 ?_
  refine g_sk 1 (pc1 := 6) (st1 := [AR r0]) rfl ?_
  refine g_gI rfl (ci := 21) (k := 1) rfl sh1 ?_
  refine g_iret rfl rfl ?_
  exact k1
