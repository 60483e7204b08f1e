/-! TREES of methods 246 to 268, written by program (wip/whole/tree.py) -/
set_option maxRecDepth 8192 in
theorem t246_0 {d : Nat} {τ : T2} {Q : RS → T2 → Prop} {x0 : Int} (k1 : Q (.inl (some (AI (zand (wr ((wr ((zand (wr ((wr ((zand (wr (x0 - (zand (zush x0 1) 1431655765))) 858993459) + (zand (zush (wr (x0 - (zand (zush x0 1) 1431655765))) 2) 858993459))) + (zush (wr ((zand (wr (x0 - (zand (zush x0 1) 1431655765))) 858993459) + (zand (zush (wr (x0 - (zand (zush x0 1) 1431655765))) 2) 858993459))) 4))) 252645135) + (zush (zand (wr ((wr ((zand (wr (x0 - (zand (zush x0 1) 1431655765))) 858993459) + (zand (zush (wr (x0 - (zand (zush x0 1) 1431655765))) 2) 858993459))) + (zush (wr ((zand (wr (x0 - (zand (zush x0 1) 1431655765))) 858993459) + (zand (zush (wr (x0 - (zand (zush x0 1) 1431655765))) 2) 858993459))) 4))) 252645135) 8))) + (zush (wr ((zand (wr ((wr ((zand (wr (x0 - (zand (zush x0 1) 1431655765))) 858993459) + (zand (zush (wr (x0 - (zand (zush x0 1) 1431655765))) 2) 858993459))) + (zush (wr ((zand (wr (x0 - (zand (zush x0 1) 1431655765))) 858993459) + (zand (zush (wr (x0 - (zand (zush x0 1) 1431655765))) 2) 858993459))) 4))) 252645135) + (zush (zand (wr ((wr ((zand (wr (x0 - (zand (zush x0 1) 1431655765))) 858993459) + (zand (zush (wr (x0 - (zand (zush x0 1) 1431655765))) 2) 858993459))) + (zush (wr ((zand (wr (x0 - (zand (zush x0 1) 1431655765))) 858993459) + (zand (zush (wr (x0 - (zand (zush x0 1) 1431655765))) 2) 858993459))) 4))) 252645135) 8))) 16))) 63)))) τ) : G d 246 0 [vI x0] [] τ Q := by
  refine g_sx 41 (pc1 := 52) (L1 := [vI (wr ((wr ((zand (wr ((wr ((zand (wr (x0 - (zand (zush x0 1) 1431655765))) 858993459) + (zand (zush (wr (x0 - (zand (zush x0 1) 1431655765))) 2) 858993459))) + (zush (wr ((zand (wr (x0 - (zand (zush x0 1) 1431655765))) 858993459) + (zand (zush (wr (x0 - (zand (zush x0 1) 1431655765))) 2) 858993459))) 4))) 252645135) + (zush (zand (wr ((wr ((zand (wr (x0 - (zand (zush x0 1) 1431655765))) 858993459) + (zand (zush (wr (x0 - (zand (zush x0 1) 1431655765))) 2) 858993459))) + (zush (wr ((zand (wr (x0 - (zand (zush x0 1) 1431655765))) 858993459) + (zand (zush (wr (x0 - (zand (zush x0 1) 1431655765))) 2) 858993459))) 4))) 252645135) 8))) + (zush (wr ((zand (wr ((wr ((zand (wr (x0 - (zand (zush x0 1) 1431655765))) 858993459) + (zand (zush (wr (x0 - (zand (zush x0 1) 1431655765))) 2) 858993459))) + (zush (wr ((zand (wr (x0 - (zand (zush x0 1) 1431655765))) 858993459) + (zand (zush (wr (x0 - (zand (zush x0 1) 1431655765))) 2) 858993459))) 4))) 252645135) + (zush (zand (wr ((wr ((zand (wr (x0 - (zand (zush x0 1) 1431655765))) 858993459) + (zand (zush (wr (x0 - (zand (zush x0 1) 1431655765))) 2) 858993459))) + (zush (wr ((zand (wr (x0 - (zand (zush x0 1) 1431655765))) 858993459) + (zand (zush (wr (x0 - (zand (zush x0 1) 1431655765))) 2) 858993459))) 4))) 252645135) 8))) 16)))]) (st1 := [AI (zand (wr ((wr ((zand (wr ((wr ((zand (wr (x0 - (zand (zush x0 1) 1431655765))) 858993459) + (zand (zush (wr (x0 - (zand (zush x0 1) 1431655765))) 2) 858993459))) + (zush (wr ((zand (wr (x0 - (zand (zush x0 1) 1431655765))) 858993459) + (zand (zush (wr (x0 - (zand (zush x0 1) 1431655765))) 2) 858993459))) 4))) 252645135) + (zush (zand (wr ((wr ((zand (wr (x0 - (zand (zush x0 1) 1431655765))) 858993459) + (zand (zush (wr (x0 - (zand (zush x0 1) 1431655765))) 2) 858993459))) + (zush (wr ((zand (wr (x0 - (zand (zush x0 1) 1431655765))) 858993459) + (zand (zush (wr (x0 - (zand (zush x0 1) 1431655765))) 2) 858993459))) 4))) 252645135) 8))) + (zush (wr ((zand (wr ((wr ((zand (wr (x0 - (zand (zush x0 1) 1431655765))) 858993459) + (zand (zush (wr (x0 - (zand (zush x0 1) 1431655765))) 2) 858993459))) + (zush (wr ((zand (wr (x0 - (zand (zush x0 1) 1431655765))) 858993459) + (zand (zush (wr (x0 - (zand (zush x0 1) 1431655765))) 2) 858993459))) 4))) 252645135) + (zush (zand (wr ((wr ((zand (wr (x0 - (zand (zush x0 1) 1431655765))) 858993459) + (zand (zush (wr (x0 - (zand (zush x0 1) 1431655765))) 2) 858993459))) + (zush (wr ((zand (wr (x0 - (zand (zush x0 1) 1431655765))) 858993459) + (zand (zush (wr (x0 - (zand (zush x0 1) 1431655765))) 2) 858993459))) 4))) 252645135) 8))) 16))) 63)]) rfl ?_
  refine g_iret rfl rfl ?_
  exact k1

set_option maxRecDepth 8192 in
theorem t247_0 {d : Nat} {τ : T2} {Q : RS → T2 → Prop} {r0 : Nat} (hd : 17 ≤ d) (k1 : Q (.inl none) τ) : G d 247 0 [vR r0] [] τ Q := by
  refine g_sk 1 (pc1 := 1) (st1 := [AR r0]) rfl ?_
  refine g_oin (na := 1) rfl rfl rfl hd ?_
  refine g_vret rfl rfl ?_
  exact k1

set_option maxRecDepth 8192 in
theorem t248_0 {d : Nat} {τ : T2} {Q : RS → T2 → Prop} {r0 : Nat} (hd : 1 ≤ d) (k1 : G (d - 1) 247 0 [vR r0] [] τ (KC d 248 1 4 [vR r0] [] Q)) : G d 248 0 [vR r0] [] τ Q := by
  refine g_sk 1 (pc1 := 1) (st1 := [AR r0]) rfl ?_
  refine g_ci rfl rfl (by decide) rfl rfl (Nat.le_of_ble_eq_true rfl) (as2 := []) rfl rfl (by omega) (L0 := [vR r0]) rfl ?_
  exact k1

set_option maxRecDepth 8192 in
theorem t248_4 {d : Nat} {τ : T2} {Q : RS → T2 → Prop} {r0 : Nat} (sh1 : tS τ r0 = (1, 1, 0)) (k1 : Q (.inl none) (uI τ r0 0 0)) : G d 248 4 [vR r0] [] τ Q := by
  refine g_sk 2 (pc1 := 6) (st1 := [AI 0, AR r0]) rfl ?_
  refine g_putI (x := 0) rfl (ci := 1) (k := 0) (kd := 0) rfl (by decide) rfl rfl sh1 ?_
  refine g_vret rfl rfl ?_
  exact k1

set_option maxRecDepth 8192 in
theorem t249_0 {d : Nat} {τ : T2} {Q : RS → T2 → Prop} {r0 q2 : Nat} {r1 : Option Nat} (hd : 17 ≤ d) (sh1 : tS τ r0 = (1, 0, 0)) (p3 : tP (uP τ r0 3 r1) r0 3 = some q2) (sh4 : tS τ q2 = (1, 1, 0)) (k1 : Q (.inl none) (uI (uI (uP τ r0 3 r1) r0 1 (-1)) r0 2 (tI (uI (uP τ r0 3 r1) r0 1 (-1)) q2 0))) : G d 249 0 [vR r0, vQ r1] [] τ Q := by
  refine g_sk 2 (pc1 := 2) (st1 := [AP r1, AR r0]) rfl ?_
  refine g_putP rfl (ci := 0) (k := 3) rfl sh1 ?_
  refine g_sk 1 (pc1 := 6) (st1 := [AR r0]) rfl ?_
  refine g_oin (na := 1) rfl rfl rfl hd ?_
  refine g_sk 2 (pc1 := 11) (st1 := [AI (-1), AR r0]) rfl ?_
  refine g_putI (x := (-1)) rfl (ci := 0) (k := 1) (kd := 0) rfl (by decide) rfl rfl sh1 ?_
  refine g_sk 2 (pc1 := 16) (st1 := [AR r0, AR r0]) rfl ?_
  refine g_gQ rfl (ci := 0) (k := 3) rfl sh1 p3 ?_
  refine g_gI rfl (ci := 1) (k := 0) rfl sh4 ?_
  refine g_putI (x := (tI (uI (uP τ r0 3 r1) r0 1 (-1)) q2 0)) rfl (ci := 0) (k := 2) (kd := 0) rfl (by decide) rfl rfl sh1 ?_
  refine g_vret rfl rfl ?_
  exact k1

set_option maxRecDepth 8192 in
theorem t250_0 {d : Nat} {τ : T2} {Q : RS → T2 → Prop} {r0 q2 : Nat} (sh1 : tS τ r0 = (1, 0, 0)) (p3 : tP τ r0 3 = some q2) (sh4 : tS τ q2 = (1, 1, 0)) (k1 : (tI τ r0 0) = (tI τ q2 2) → Q (.inl (some (AI 0))) τ) (k2 : ¬ (tI τ r0 0) = (tI τ q2 2) → Q (.inl (some (AI 1))) τ) : G d 250 0 [vR r0] [] τ Q := by
  refine g_sk 1 (pc1 := 1) (st1 := [AR r0]) rfl ?_
  refine g_gI rfl (ci := 0) (k := 0) rfl sh1 ?_
  refine g_sk 1 (pc1 := 5) (st1 := [AR r0, AI (tI τ r0 0)]) rfl ?_
  refine g_gQ rfl (ci := 0) (k := 3) rfl sh1 p3 ?_
  refine g_gI rfl (ci := 1) (k := 2) rfl sh4 ?_
  refine g_br2 rfl (t := 18) rfl (fun c5 => ?_) (fun c5 => ?_)
  · have c5 : (tI τ r0 0) = (tI τ q2 2) := of_decide_eq_true c5
    refine g_sk 1 (pc1 := 19) (st1 := [AI 0]) rfl ?_
    refine g_zret rfl rfl (by decide) ?_
    exact (k1 c5)
  · have c5 : ¬ (tI τ r0 0) = (tI τ q2 2) := of_decide_eq_false c5
    refine g_sk 2 (pc1 := 19) (st1 := [AI 1]) rfl ?_
    refine g_zret rfl rfl (by decide) ?_
    exact (k2 c5)

set_option maxRecDepth 8192 in
theorem t251_0 {d : Nat} {τ : T2} {Q : RS → T2 → Prop} {r0 : Nat} (hd : 1 ≤ d) (sh1 : tS τ r0 = (1, 0, 0)) (k1 : G (d - 1) 252 0 [vR r0] [] τ (KC d 251 1 4 [vR r0, none, none] [] Q)) : G d 251 0 [vR r0, none, none] [] τ Q := by
  refine g_sk 1 (pc1 := 1) (st1 := [AR r0]) rfl ?_
  refine g_cv rfl rfl (by decide) rfl rfl (Nat.le_of_ble_eq_true rfl) (as2 := []) rfl sh1 rfl (by omega) (L0 := [vR r0]) rfl ?_
  exact k1

set_option maxRecDepth 8192 in
theorem t251_4 {d : Nat} {τ : T2} {Q : RS → T2 → Prop} {r0 q2 q6 n8 : Nat} (sh1 : tS τ r0 = (1, 0, 0)) (p3 : tP τ r0 3 = some q2) (sh4 : tS τ q2 = (1, 1, 0)) (p7 : tP τ q2 1 = some q6) (sh9 : tS τ q6 = (3, 10, n8)) (b11 : (tI τ r0 0) < (tI τ q2 2) → (tI τ r0 0) < (n8 : Int) → (0 : Int) ≤ (tI τ r0 0) ∧ (tI τ r0 0) < (n8 : Int)) (k1 : (tI τ r0 0) < (tI τ q2 2) → (tI τ r0 0) < (n8 : Int) → Q (.inl (some (AP (tP (uI (uI τ r0 0 (wr ((tI τ r0 0) + 1))) r0 1 (tI τ r0 0)) q6 (tI τ r0 0).toNat)))) (uI (uI τ r0 0 (wr ((tI τ r0 0) + 1))) r0 1 (tI τ r0 0))) (k2 : (tI τ r0 0) < (tI τ q2 2) → (n8 : Int) ≤ (tI τ r0 0) → False) (k3 : (tI τ q2 2) ≤ (tI τ r0 0) → False) : G d 251 4 [vR r0, none, none] [] τ Q := by
  refine g_sk 1 (pc1 := 5) (st1 := [AR r0]) rfl ?_
  refine g_gI rfl (ci := 0) (k := 0) rfl sh1 ?_
  refine g_sx 3 (pc1 := 11) (L1 := [vR r0, vI (tI τ r0 0), none]) (st1 := [AR r0, AI (tI τ r0 0)]) rfl ?_
  refine g_gQ rfl (ci := 0) (k := 3) rfl sh1 p3 ?_
  refine g_gI rfl (ci := 1) (k := 2) rfl sh4 ?_
  refine g_br2 rfl (t := 28) rfl (fun c5 => ?_) (fun c5 => ?_)
  · have c5 : (tI τ r0 0) < (tI τ q2 2) := of_decide_eq_true c5
    refine g_sk 1 (pc1 := 29) (st1 := [AR r0]) rfl ?_
    refine g_gQ rfl (ci := 0) (k := 3) rfl sh1 p3 ?_
    refine g_gQ rfl (ci := 1) (k := 1) rfl sh4 p7 ?_
    refine g_sx 3 (pc1 := 38) (L1 := [vR r0, vI (tI τ r0 0), vR q6]) (st1 := [AR q6, AI (tI τ r0 0)]) rfl ?_
    refine g_al3 rfl sh9 ?_
    refine g_br2 rfl (t := 50) rfl (fun c10 => ?_) (fun c10 => ?_)
    · have c10 : (tI τ r0 0) < (n8 : Int) := of_decide_eq_true c10
      refine g_sk 4 (pc1 := 54) (st1 := [AI (wr ((tI τ r0 0) + 1)), AR r0]) rfl ?_
      refine g_putI (x := (wr ((tI τ r0 0) + 1))) rfl (ci := 0) (k := 0) (kd := 0) rfl (by decide) rfl rfl sh1 ?_
      refine g_sk 4 (pc1 := 61) (st1 := [AI (tI τ r0 0), AR r0, AI (tI τ r0 0), AR q6]) rfl ?_
      refine g_putI (x := (tI τ r0 0)) rfl (ci := 0) (k := 1) (kd := 0) rfl (by decide) rfl rfl sh1 ?_
      refine g_aald rfl sh9 (by decide) (b11 c5 c10).1 (b11 c5 c10).2 ?_
      refine g_aret rfl rfl ?_
      exact (k1 c5 c10)
    · have c10 : (n8 : Int) ≤ (tI τ r0 0) := Int.not_lt.mp (of_decide_eq_false c10)
      exact ((k2 c5 c10)).elim
  · have c5 : (tI τ q2 2) ≤ (tI τ r0 0) := Int.not_lt.mp (of_decide_eq_false c5)
    exact ((k3 c5)).elim

set_option maxRecDepth 8192 in
theorem t252_0 {d : Nat} {τ : T2} {Q : RS → T2 → Prop} {r0 q2 : Nat} (sh1 : tS τ r0 = (1, 0, 0)) (p3 : tP τ r0 3 = some q2) (sh4 : tS τ q2 = (1, 1, 0)) (k1 : (tI τ q2 0) = (tI τ r0 2) → Q (.inl none) τ) (k2 : ¬ (tI τ q2 0) = (tI τ r0 2) → False) : G d 252 0 [vR r0] [] τ Q := by
  refine g_sk 1 (pc1 := 1) (st1 := [AR r0]) rfl ?_
  refine g_gQ rfl (ci := 0) (k := 3) rfl sh1 p3 ?_
  refine g_gI rfl (ci := 1) (k := 0) rfl sh4 ?_
  refine g_sk 1 (pc1 := 8) (st1 := [AR r0, AI (tI τ q2 0)]) rfl ?_
  refine g_gI rfl (ci := 0) (k := 2) rfl sh1 ?_
  refine g_br2 rfl (t := 22) rfl (fun c5 => ?_) (fun c5 => ?_)
  · have c5 : (tI τ q2 0) = (tI τ r0 2) := of_decide_eq_true c5
    refine g_vret rfl rfl ?_
    exact (k1 c5)
  · have c5 : ¬ (tI τ q2 0) = (tI τ r0 2) := of_decide_eq_false c5
    exact ((k2 c5)).elim

set_option maxRecDepth 8192 in
theorem t253_0 {d : Nat} {τ : T2} {Q : RS → T2 → Prop} {r0 : Nat} (hd : 1 ≤ d) (k1 : G (d - 1) 248 0 [vR r0] [] τ (KC d 253 1 4 [vR r0] [] Q)) : G d 253 0 [vR r0] [] τ Q := by
  refine g_sk 1 (pc1 := 1) (st1 := [AR r0]) rfl ?_
  refine g_ci rfl rfl (by decide) rfl rfl (Nat.le_of_ble_eq_true rfl) (as2 := []) rfl rfl (by omega) (L0 := [vR r0]) rfl ?_
  exact k1

set_option maxRecDepth 8192 in
theorem t253_4 {d : Nat} {τ : T2} {Q : RS → T2 → Prop} {r0 : Nat} (sh1 : tS τ r0 = (1, 1, 0)) (k1 : Q (.inl none) (uP τ r0 1 (some 1))) : G d 253 4 [vR r0] [] τ Q := by
  refine g_sk 1 (pc1 := 5) (st1 := [AR r0]) rfl ?_
  refine g_gst (v := .inr (.inr (some 1))) rfl rfl ?_
  refine g_putP rfl (ci := 1) (k := 1) rfl sh1 ?_
  refine g_vret rfl rfl ?_
  exact k1

set_option maxRecDepth 8192 in
theorem t254_0 {d : Nat} {τ : T2} {Q : RS → T2 → Prop} {x1 : Int} {r0 q2 n4 : Nat} (hd : 1 ≤ d) (sh1 : tS τ r0 = (1, 1, 0)) (p3 : tP τ r0 1 = some q2) (sh5 : tS τ q2 = (3, 10, n4)) (k1 : (0 : Int) < (n4 : Int) → G (d - 1) 265 0 [vI (n4 : Int), vI (wr (x1 - (n4 : Int))), vI (zshr (n4 : Int) 1), none] [] τ (KC d 254 27 30 [vR r0, none, none, none] [] Q)) (k2 : (n4 : Int) ≤ (0 : Int) → G d 254 17 [vR r0, vI x1, vI (n4 : Int), none] [AR 1, AR q2] τ Q) : G d 254 0 [vR r0, vI x1, none, none] [] τ Q := by
  refine g_sk 1 (pc1 := 1) (st1 := [AR r0]) rfl ?_
  refine g_gQ rfl (ci := 1) (k := 1) rfl sh1 p3 ?_
  refine g_al3 rfl sh5 ?_
  refine g_sx 2 (pc1 := 7) (L1 := [vR r0, vI x1, vI (n4 : Int), none]) (st1 := [AI (n4 : Int)]) rfl ?_
  refine g_br1 rfl (t := 20) rfl (fun c6 => ?_) (fun c6 => ?_)
  · have c6 : (0 : Int) < (n4 : Int) := of_decide_eq_true c6
    refine g_sk 7 (pc1 := 27) (st1 := [AI (zshr (n4 : Int) 1), AI (wr (x1 - (n4 : Int))), AI (n4 : Int)]) rfl ?_
    refine G_fg (lw2_k _ (lw2_f _ (lw2_f _ (lw2_k _ lw2_nil)))) ?_
    refine g_cs rfl rfl (by decide) rfl rfl (Nat.le_of_ble_eq_true rfl) rfl (by omega) (L0 := [vI (n4 : Int), vI (wr (x1 - (n4 : Int))), vI (zshr (n4 : Int) 1), none]) rfl ?_
    exact (k1 c6)
  · have c6 : (n4 : Int) ≤ (0 : Int) := Int.not_lt.mp (of_decide_eq_false c6)
    refine g_sk 1 (pc1 := 11) (st1 := [AR r0]) rfl ?_
    refine g_gQ rfl (ci := 1) (k := 1) rfl sh1 p3 ?_
    refine g_gst (v := .inr (.inr (some 1))) rfl rfl ?_
    exact (k2 c6)

set_option maxRecDepth 8192 in
theorem t254_30 {d : Nat} {τ : T2} {Q : RS → T2 → Prop} {y0 : Int} {r0 : Nat} (hd : 17 ≤ d) (sh1 : tS τ r0 = (1, 1, 0)) (k1 : G d 254 37 [none, none, none, none] [AI y0, AP (tP τ r0 1), AR r0] τ Q) : G d 254 30 [vR r0, none, none, none] [AI y0] τ Q := by
  refine g_sx 3 (pc1 := 33) (L1 := [vR r0, none, none, vI y0]) (st1 := [AR r0, AR r0]) rfl ?_
  refine g_gP rfl (ci := 1) (k := 1) rfl sh1 ?_
  refine g_sk 1 (pc1 := 37) (st1 := [AI y0, AP (tP τ r0 1), AR r0]) rfl ?_
  exact G_fg (lw2_f _ (lw2_k _ (lw2_k _ (lw2_f _ lw2_nil)))) k1

set_option maxRecDepth 8192 in
theorem t254_55 {d : Nat} {τ : T2} {Q : RS → T2 → Prop} {s1 : Nat} {s0 : Option Nat} (sh1 : tS τ s1 = (1, 1, 0)) (k1 : Q (.inl (some (AP s0))) (uP τ s1 1 s0)) : G d 254 55 [none, none, none, none] [AP s0, AR s1] τ Q := by
  refine g_sk 1 (pc1 := 56) (st1 := [AP s0, AR s1, AP s0]) rfl ?_
  refine g_putP rfl (ci := 1) (k := 1) rfl sh1 ?_
  refine g_aret rfl rfl ?_
  exact k1

set_option maxRecDepth 8192 in
theorem t255_0 {d : Nat} {τ : T2} {Q : RS → T2 → Prop} {r0 : Nat} (hd : 1 ≤ d) (sh1 : tS τ r0 = (1, 1, 0)) (k1 : G (d - 1) 254 0 [vR r0, vI (wr ((tI τ r0 2) + 1)), none, none] [] τ (KC d 255 7 10 [none] [] Q)) : G d 255 0 [vR r0] [] τ Q := by
  refine g_sk 2 (pc1 := 2) (st1 := [AR r0, AR r0]) rfl ?_
  refine g_gI rfl (ci := 1) (k := 2) rfl sh1 ?_
  refine g_sk 2 (pc1 := 7) (st1 := [AI (wr ((tI τ r0 2) + 1)), AR r0]) rfl ?_
  refine G_fg (lw2_f _ lw2_nil) ?_
  refine g_cv rfl rfl (by decide) rfl rfl (Nat.le_of_ble_eq_true rfl) (as2 := [AI (wr ((tI τ r0 2) + 1))]) rfl sh1 rfl (by omega) (L0 := [vR r0, vI (wr ((tI τ r0 2) + 1)), none, none]) rfl ?_
  exact k1

set_option maxRecDepth 8192 in
theorem t255_10 {d : Nat} {τ : T2} {Q : RS → T2 → Prop} {s0 : Option Nat} (k1 : Q (.inl (some (AP s0))) τ) : G d 255 10 [none] [AP s0] τ Q := by
  refine g_aret rfl rfl ?_
  exact k1

set_option maxRecDepth 8192 in
theorem t256_0 {d : Nat} {τ : T2} {Q : RS → T2 → Prop} {x3 : Int} {r0 r1 r2 n1 : Nat} (hd : 1 ≤ d) (sh2 : tS τ r2 = (3, 10, n1)) (b4 : ¬ x3 = (n1 : Int) → (0 : Int) ≤ x3 ∧ x3 < (n1 : Int)) (p5 : ¬ x3 = (n1 : Int) → okEs 10 (tS τ r1) = true) (sh6 : tS τ r0 = (1, 1, 0)) (k1 : ¬ x3 = (n1 : Int) → Q (.inl none) (uI (uP τ r2 x3.toNat (some r1)) r0 2 (wr (x3 + 1)))) (k2 : x3 = (n1 : Int) → G (d - 1) 255 0 [vR r0] [] τ (KC d 256 7 10 [vR r0, vR r1, none, vI x3] [] Q)) : G d 256 0 [vR r0, vR r1, vR r2, vI x3] [] τ Q := by
  refine g_sk 2 (pc1 := 2) (st1 := [AR r2, AI x3]) rfl ?_
  refine g_al3 rfl sh2 ?_
  refine g_br2 rfl (t := 11) rfl (fun c3 => ?_) (fun c3 => ?_)
  · have c3 : ¬ x3 = (n1 : Int) := of_decide_eq_true c3
    refine g_sk 3 (pc1 := 14) (st1 := [AR r1, AI x3, AR r2]) rfl ?_
    refine g_aast rfl sh2 (by decide) (b4 c3).1 (b4 c3).2 (p5 c3) ?_
    refine g_sk 4 (pc1 := 19) (st1 := [AI (wr (x3 + 1)), AR r0]) rfl ?_
    refine g_putI (x := (wr (x3 + 1))) rfl (ci := 1) (k := 2) (kd := 0) rfl (by decide) rfl rfl sh6 ?_
    refine g_vret rfl rfl ?_
    exact (k1 c3)
  · have c3 : x3 = (n1 : Int) := Decidable.of_not_not (of_decide_eq_false c3)
    refine g_sk 1 (pc1 := 7) (st1 := [AR r0]) rfl ?_
    refine G_fg (lw2_k _ (lw2_k _ (lw2_f _ (lw2_k _ lw2_nil)))) ?_
    refine g_cv rfl rfl (by decide) rfl rfl (Nat.le_of_ble_eq_true rfl) (as2 := []) rfl sh6 rfl (by omega) (L0 := [vR r0]) rfl ?_
    exact (k2 c3)

set_option maxRecDepth 8192 in
theorem t256_10 {d : Nat} {τ : T2} {Q : RS → T2 → Prop} {x3 : Int} {r0 r1 s0 n1 : Nat} (sh2 : tS τ s0 = (3, 10, n1)) (b3 : (0 : Int) ≤ x3 ∧ x3 < (n1 : Int)) (p4 : okEs 10 (tS τ r1) = true) (sh5 : tS τ r0 = (1, 1, 0)) (k1 : Q (.inl none) (uI (uP τ s0 x3.toNat (some r1)) r0 2 (wr (x3 + 1)))) : G d 256 10 [vR r0, vR r1, none, vI x3] [AR s0] τ Q := by
  refine g_sx 4 (pc1 := 14) (L1 := [vR r0, vR r1, vR s0, vI x3]) (st1 := [AR r1, AI x3, AR s0]) rfl ?_
  refine g_aast rfl sh2 (by decide) b3.1 b3.2 p4 ?_
  refine g_sk 4 (pc1 := 19) (st1 := [AI (wr (x3 + 1)), AR r0]) rfl ?_
  refine g_putI (x := (wr (x3 + 1))) rfl (ci := 1) (k := 2) (kd := 0) rfl (by decide) rfl rfl sh5 ?_
  refine g_vret rfl rfl ?_
  exact k1

set_option maxRecDepth 8192 in
theorem t257_0 {d : Nat} {τ : T2} {Q : RS → T2 → Prop} {r0 : Nat} {r1 : Option Nat} (hd : 1 ≤ d) (sh1 : tS τ r0 = (1, 1, 0)) (k1 : G (d - 1) 256 0 [vR r0, vQ r1, vQ (tP (uI τ r0 0 (wr ((tI τ r0 0) + 1))) r0 1), vI (tI (uI τ r0 0 (wr ((tI τ r0 0) + 1))) r0 2)] [] (uI τ r0 0 (wr ((tI τ r0 0) + 1))) (KC d 257 20 23 [none, none] [] Q)) : G d 257 0 [vR r0, vQ r1] [] τ Q := by
  refine g_sk 2 (pc1 := 2) (st1 := [AR r0, AR r0]) rfl ?_
  refine g_gI rfl (ci := 1) (k := 0) rfl sh1 ?_
  refine g_sk 2 (pc1 := 7) (st1 := [AI (wr ((tI τ r0 0) + 1)), AR r0]) rfl ?_
  refine g_putI (x := (wr ((tI τ r0 0) + 1))) rfl (ci := 1) (k := 0) (kd := 0) rfl (by decide) rfl rfl sh1 ?_
  refine g_sk 3 (pc1 := 13) (st1 := [AR r0, AP r1, AR r0]) rfl ?_
  refine g_gP rfl (ci := 1) (k := 1) rfl sh1 ?_
  refine g_sk 1 (pc1 := 17) (st1 := [AR r0, AP (tP (uI τ r0 0 (wr ((tI τ r0 0) + 1))) r0 1), AP r1, AR r0]) rfl ?_
  refine g_gI rfl (ci := 1) (k := 2) rfl sh1 ?_
  refine G_fg (lw2_f _ (lw2_f _ lw2_nil)) ?_
  refine g_cv rfl rfl (by decide) rfl rfl (Nat.le_of_ble_eq_true rfl) (as2 := [AP r1, AP (tP (uI τ r0 0 (wr ((tI τ r0 0) + 1))) r0 1), AI (tI (uI τ r0 0 (wr ((tI τ r0 0) + 1))) r0 2)]) rfl sh1 rfl (by omega) (L0 := [vR r0, vQ r1, vQ (tP (uI τ r0 0 (wr ((tI τ r0 0) + 1))) r0 1), vI (tI (uI τ r0 0 (wr ((tI τ r0 0) + 1))) r0 2)]) rfl ?_
  exact k1

set_option maxRecDepth 8192 in
theorem t257_23 {d : Nat} {τ : T2} {Q : RS → T2 → Prop}  (k1 : Q (.inl (some (AI 1))) τ) : G d 257 23 [none, none] [] τ Q := by
  refine g_sk 1 (pc1 := 24) (st1 := [AI 1]) rfl ?_
  refine g_zret rfl rfl (by decide) ?_
  exact k1

set_option maxRecDepth 8192 in
theorem t258_0 {d : Nat} {τ : T2} {Q : RS → T2 → Prop} {r0 : Nat} (k1 : G d 258 3 [vR r0] [AR (tN τ)] (nC τ (1, 0, 0) 4) Q) : G d 258 0 [vR r0] [] τ Q := by
  refine g_new rfl (ci := 0) rfl (by decide) (by decide) ?_
  exact k1

set_option maxRecDepth 8192 in
theorem t258_3 {d : Nat} {τ : T2} {Q : RS → T2 → Prop} {r0 s0 : Nat} (hd : 1 ≤ d) (k1 : G (d - 1) 249 0 [vR s0, vR r0] [] τ (KC d 258 5 8 [none] [AR s0] Q)) : G d 258 3 [vR r0] [AR s0] τ Q := by
  refine g_sk 2 (pc1 := 5) (st1 := [AR r0, AR s0, AR s0]) rfl ?_
  refine G_fg (lw2_f _ lw2_nil) ?_
  refine g_ci rfl rfl (by decide) rfl rfl (Nat.le_of_ble_eq_true rfl) (as2 := [AR r0]) rfl rfl (by omega) (L0 := [vR s0, vR r0]) rfl ?_
  exact k1

set_option maxRecDepth 8192 in
theorem t258_8 {d : Nat} {τ : T2} {Q : RS → T2 → Prop} {s0 : Option Nat} (k1 : Q (.inl (some (AP s0))) τ) : G d 258 8 [none] [AP s0] τ Q := by
  refine g_aret rfl rfl ?_
  exact k1

set_option maxRecDepth 8192 in
theorem t259_0 {d : Nat} {τ : T2} {Q : RS → T2 → Prop} {x0 x1 x2 : Int} (k1 : x1 ≤ x2 → 0 ≤ x1 → x2 ≤ x0 → Q (.inl none) τ) (k2 : x1 ≤ x2 → 0 ≤ x1 → x0 < x2 → False) (k3 : x1 ≤ x2 → x1 < 0 → False) (k4 : x2 < x1 → False) : G d 259 0 [vI x0, vI x1, vI x2] [] τ Q := by
  refine g_sk 2 (pc1 := 2) (st1 := [AI x2, AI x1]) rfl ?_
  refine g_br2 rfl (t := 46) rfl (fun c1 => ?_) (fun c1 => ?_)
  · have c1 : x1 ≤ x2 := of_decide_eq_true c1
    refine g_sk 1 (pc1 := 47) (st1 := [AI x1]) rfl ?_
    refine g_br1 rfl (t := 59) rfl (fun c2 => ?_) (fun c2 => ?_)
    · have c2 : 0 ≤ x1 := of_decide_eq_true c2
      refine g_sk 2 (pc1 := 61) (st1 := [AI x0, AI x2]) rfl ?_
      refine g_br2 rfl (t := 73) rfl (fun c3 => ?_) (fun c3 => ?_)
      · have c3 : x2 ≤ x0 := of_decide_eq_true c3
        refine g_vret rfl rfl ?_
        exact (k1 c1 c2 c3)
      · have c3 : x0 < x2 := Int.not_le.mp (of_decide_eq_false c3)
        exact ((k2 c1 c2 c3)).elim
    · have c2 : x1 < 0 := Int.not_le.mp (of_decide_eq_false c2)
      exact ((k3 c1 c2)).elim
  · have c1 : x2 < x1 := Int.not_le.mp (of_decide_eq_false c1)
    exact ((k4 c1)).elim

set_option maxRecDepth 8192 in
theorem t260_0 {d : Nat} {τ : T2} {Q : RS → T2 → Prop} {x1 x2 x3 : Int} {r0 n1 : Nat} (hd : 1 ≤ d) (sh2 : tS τ r0 = (2, 3, n1)) (k1 : G (d - 1) 259 0 [vI (n1 : Int), vI x1, vI x2] [] τ (KC d 260 4 7 [vR r0, vI x1, vI x2, vJ x3, none, none] [] Q)) : G d 260 0 [vR r0, vI x1, vI x2, vJ x3, none, none] [] τ Q := by
  refine g_sk 1 (pc1 := 1) (st1 := [AR r0]) rfl ?_
  refine g_al2 rfl sh2 ?_
  refine g_sk 2 (pc1 := 4) (st1 := [AI x2, AI x1, AI (n1 : Int)]) rfl ?_
  refine g_cs rfl rfl (by decide) rfl rfl (Nat.le_of_ble_eq_true rfl) rfl (by omega) (L0 := [vI (n1 : Int), vI x1, vI x2]) rfl ?_
  exact k1

set_option maxRecDepth 8192 in
theorem t260_7 {d : Nat} {τ : T2} {Q : RS → T2 → Prop} {x1 x2 x3 : Int} {r0 : Option Nat} (k1 : G d 260 10 [vQ r0, none, vI x2, vJ x3, none, vI x1] [] τ Q) : G d 260 7 [vQ r0, vI x1, vI x2, vJ x3, none, none] [] τ Q := by
  refine g_sx 2 (pc1 := 10) (L1 := [vQ r0, vI x1, vI x2, vJ x3, none, vI x1]) (st1 := []) rfl ?_
  exact G_fg (lw2_k _ (lw2_f _ (lw2_k _ (lw2_k _ (lw2_k _ (lw2_k _ lw2_nil)))))) k1

set_option maxRecDepth 8192 in
theorem t260_10 {d : Nat} {τ : T2} {Q : RS → T2 → Prop} {x2 x3 x5 : Int} {r0 n2 : Nat} (sh3 : tS τ r0 = (2, 3, n2)) (b4 : x5 < x2 → (0 : Int) ≤ x5 ∧ x5 < (n2 : Int)) (k1 : x2 ≤ x5 → Q (.inl none) τ) (k2 : x5 < x2 → G d 260 10 [vR r0, none, vI x2, vJ x3, none, vI (wr (x5 + 1))] [] (uI τ r0 x5.toNat x3) Q) : G d 260 10 [vR r0, none, vI x2, vJ x3, none, vI x5] [] τ Q := by
  refine g_sk 2 (pc1 := 13) (st1 := [AI x2, AI x5]) rfl ?_
  refine g_br2 rfl (t := 27) rfl (fun c1 => ?_) (fun c1 => ?_)
  · have c1 : x2 ≤ x5 := of_decide_eq_true c1
    refine g_vret rfl rfl ?_
    exact (k1 c1)
  · have c1 : x5 < x2 := Int.not_le.mp (of_decide_eq_false c1)
    refine g_sk 3 (pc1 := 20) (st1 := [AL x3, AI x5, AR r0]) rfl ?_
    refine g_last rfl sh3 (b4 c1).1 (b4 c1).2 ?_
    refine g_sx 2 (pc1 := 10) (L1 := [vR r0, none, vI x2, vJ x3, none, vI (wr (x5 + 1))]) (st1 := []) rfl ?_
    exact (k2 c1)

set_option maxRecDepth 8192 in
theorem t261_0 {d : Nat} {τ : T2} {Q : RS → T2 → Prop} {x1 : Int} {r0 n1 : Nat} (sh2 : tS τ r0 = (2, 0, n1)) (k1 : G d 261 5 [vR r0, vI x1, vI 0, vI (n1 : Int)] [] τ Q) : G d 261 0 [vR r0, vI x1, none, none] [] τ Q := by
  refine g_sx 3 (pc1 := 3) (L1 := [vR r0, vI x1, vI 0, none]) (st1 := [AR r0]) rfl ?_
  refine g_al2 rfl sh2 ?_
  refine g_sx 1 (pc1 := 5) (L1 := [vR r0, vI x1, vI 0, vI (n1 : Int)]) (st1 := []) rfl ?_
  exact k1

set_option maxRecDepth 8192 in
theorem t261_5 {d : Nat} {τ : T2} {Q : RS → T2 → Prop} {x1 x2 x3 : Int} {r0 n2 : Nat} (sh3 : tS τ r0 = (2, 0, n2)) (b4 : x2 < x3 → (0 : Int) ≤ x2 ∧ x2 < (n2 : Int)) (k1 : x3 ≤ x2 → Q (.inl none) τ) (k2 : x2 < x3 → G d 261 5 [vR r0, vI x1, vI (wr (x2 + 1)), vI x3] [] (uI τ r0 x2.toNat x1) Q) : G d 261 5 [vR r0, vI x1, vI x2, vI x3] [] τ Q := by
  refine g_sk 2 (pc1 := 7) (st1 := [AI x3, AI x2]) rfl ?_
  refine g_br2 rfl (t := 20) rfl (fun c1 => ?_) (fun c1 => ?_)
  · have c1 : x3 ≤ x2 := of_decide_eq_true c1
    refine g_vret rfl rfl ?_
    exact (k1 c1)
  · have c1 : x2 < x3 := Int.not_le.mp (of_decide_eq_false c1)
    refine g_sk 3 (pc1 := 13) (st1 := [AI x1, AI x2, AR r0]) rfl ?_
    refine g_iast rfl sh3 (b4 c1).1 (b4 c1).2 ?_
    refine g_sx 2 (pc1 := 5) (L1 := [vR r0, vI x1, vI (wr (x2 + 1)), vI x3]) (st1 := []) rfl ?_
    exact (k2 c1)

set_option maxRecDepth 8192 in
theorem t262_0 {d : Nat} {τ : T2} {Q : RS → T2 → Prop} {x1 : Int} {r0 n1 : Nat} (sh2 : tS τ r0 = (2, 1, n1)) (k1 : G d 262 5 [vR r0, vI x1, vI 0, vI (n1 : Int)] [] τ Q) : G d 262 0 [vR r0, vI x1, none, none] [] τ Q := by
  refine g_sx 3 (pc1 := 3) (L1 := [vR r0, vI x1, vI 0, none]) (st1 := [AR r0]) rfl ?_
  refine g_al2 rfl sh2 ?_
  refine g_sx 1 (pc1 := 5) (L1 := [vR r0, vI x1, vI 0, vI (n1 : Int)]) (st1 := []) rfl ?_
  exact k1

set_option maxRecDepth 8192 in
theorem t262_5 {d : Nat} {τ : T2} {Q : RS → T2 → Prop} {x1 x2 x3 : Int} {r0 n2 : Nat} (sh3 : tS τ r0 = (2, 1, n2)) (b4 : x2 < x3 → (0 : Int) ≤ x2 ∧ x2 < (n2 : Int)) (k1 : x3 ≤ x2 → Q (.inl none) τ) (k2 : x2 < x3 → G d 262 5 [vR r0, vI x1, vI (wr (x2 + 1)), vI x3] [] (uI τ r0 x2.toNat (zbyt x1)) Q) : G d 262 5 [vR r0, vI x1, vI x2, vI x3] [] τ Q := by
  refine g_sk 2 (pc1 := 7) (st1 := [AI x3, AI x2]) rfl ?_
  refine g_br2 rfl (t := 20) rfl (fun c1 => ?_) (fun c1 => ?_)
  · have c1 : x3 ≤ x2 := of_decide_eq_true c1
    refine g_vret rfl rfl ?_
    exact (k1 c1)
  · have c1 : x2 < x3 := Int.not_le.mp (of_decide_eq_false c1)
    refine g_sk 3 (pc1 := 13) (st1 := [AI x1, AI x2, AR r0]) rfl ?_
    refine g_bast rfl sh3 (b4 c1).1 (b4 c1).2 ?_
    refine g_sx 2 (pc1 := 5) (L1 := [vR r0, vI x1, vI (wr (x2 + 1)), vI x3]) (st1 := []) rfl ?_
    exact (k2 c1)

set_option maxRecDepth 8192 in
theorem t263_0 {d : Nat} {τ : T2} {Q : RS → T2 → Prop} {x1 : Int} {r0 n1 : Nat} (hd : 17 ≤ d) (sh2 : tS τ r0 = (2, 1, n1)) (b4 : ¬ x1 = (n1 : Int) → 0 ≤ x1 ∧ x1 ≤ 1000000) (k1 : ¬ x1 = (n1 : Int) → G d 263 17 [vR r0, vI x1, none] [AR (tN τ)] (nC τ (2, 1, x1.toNat) x1.toNat) Q) (k2 : x1 = (n1 : Int) → G d 263 7 [none, none, none] [AR r0] τ Q) : G d 263 0 [vR r0, vI x1, none] [] τ Q := by
  refine g_sk 2 (pc1 := 2) (st1 := [AR r0, AI x1]) rfl ?_
  refine g_al2 rfl sh2 ?_
  refine g_br2 rfl (t := 14) rfl (fun c3 => ?_) (fun c3 => ?_)
  · have c3 : ¬ x1 = (n1 : Int) := of_decide_eq_true c3
    refine g_sk 1 (pc1 := 15) (st1 := [AI x1]) rfl ?_
    refine g_newa rfl rfl (b4 c3).1 (b4 c3).2 ?_
    exact (k1 c3)
  · have c3 : x1 = (n1 : Int) := Decidable.of_not_not (of_decide_eq_false c3)
    refine g_sk 1 (pc1 := 7) (st1 := [AR r0]) rfl ?_
    exact G_fg (lw2_f _ (lw2_f _ (lw2_k _ lw2_nil))) (k2 c3)

set_option maxRecDepth 8192 in
theorem t263_17 {d : Nat} {τ : T2} {Q : RS → T2 → Prop} {x1 : Int} {r0 n1 : Nat} {s0 : Option Nat} (hd : 17 ≤ d) (sh2 : tS τ r0 = (2, 1, n1)) (k1 : G d 263 28 [none, none, vQ s0] [AI (if x1 < (n1 : Int) then x1 else (n1 : Int)), AI 0, AP s0, AI 0, AR r0] τ Q) : G d 263 17 [vR r0, vI x1, none] [AP s0] τ Q := by
  refine g_sx 6 (pc1 := 23) (L1 := [vR r0, vI x1, vQ s0]) (st1 := [AR r0, AI 0, AP s0, AI 0, AR r0]) rfl ?_
  refine g_al2 rfl sh2 ?_
  refine g_sk 1 (pc1 := 25) (st1 := [AI x1, AI (n1 : Int), AI 0, AP s0, AI 0, AR r0]) rfl ?_
  refine g_min rfl rfl rfl hd ?_
  exact G_fg (lw2_f _ (lw2_f _ (lw2_k _ lw2_nil))) k1

set_option maxRecDepth 8192 in
theorem t264_0 {d : Nat} {τ : T2} {Q : RS → T2 → Prop} {x1 : Int} {r0 n1 : Nat} (hd : 17 ≤ d) (sh2 : tS τ r0 = (2, 0, n1)) (b4 : ¬ x1 = (n1 : Int) → 0 ≤ x1 ∧ x1 ≤ 1000000) (k1 : ¬ x1 = (n1 : Int) → G d 264 17 [vR r0, vI x1, none] [AR (tN τ)] (nC τ (2, 0, x1.toNat) x1.toNat) Q) (k2 : x1 = (n1 : Int) → G d 264 7 [none, none, none] [AR r0] τ Q) : G d 264 0 [vR r0, vI x1, none] [] τ Q := by
  refine g_sk 2 (pc1 := 2) (st1 := [AR r0, AI x1]) rfl ?_
  refine g_al2 rfl sh2 ?_
  refine g_br2 rfl (t := 14) rfl (fun c3 => ?_) (fun c3 => ?_)
  · have c3 : ¬ x1 = (n1 : Int) := of_decide_eq_true c3
    refine g_sk 1 (pc1 := 15) (st1 := [AI x1]) rfl ?_
    refine g_newa rfl rfl (b4 c3).1 (b4 c3).2 ?_
    exact (k1 c3)
  · have c3 : x1 = (n1 : Int) := Decidable.of_not_not (of_decide_eq_false c3)
    refine g_sk 1 (pc1 := 7) (st1 := [AR r0]) rfl ?_
    exact G_fg (lw2_f _ (lw2_f _ (lw2_k _ lw2_nil))) (k2 c3)

set_option maxRecDepth 8192 in
theorem t264_17 {d : Nat} {τ : T2} {Q : RS → T2 → Prop} {x1 : Int} {r0 n1 : Nat} {s0 : Option Nat} (hd : 17 ≤ d) (sh2 : tS τ r0 = (2, 0, n1)) (k1 : G d 264 28 [none, none, vQ s0] [AI (if x1 < (n1 : Int) then x1 else (n1 : Int)), AI 0, AP s0, AI 0, AR r0] τ Q) : G d 264 17 [vR r0, vI x1, none] [AP s0] τ Q := by
  refine g_sx 6 (pc1 := 23) (L1 := [vR r0, vI x1, vQ s0]) (st1 := [AR r0, AI 0, AP s0, AI 0, AR r0]) rfl ?_
  refine g_al2 rfl sh2 ?_
  refine g_sk 1 (pc1 := 25) (st1 := [AI x1, AI (n1 : Int), AI 0, AP s0, AI 0, AR r0]) rfl ?_
  refine g_min rfl rfl rfl hd ?_
  exact G_fg (lw2_f _ (lw2_f _ (lw2_k _ lw2_nil))) k1

set_option maxRecDepth 8192 in
theorem t265_0 {d : Nat} {τ : T2} {Q : RS → T2 → Prop} {x0 x1 x2 : Int} (hd : 17 ≤ d) (k1 : (wr (x0 + (if x1 < x2 then x2 else x1))) ≤ (0 : Int) → G (d - 1) 266 0 [vI x0, vI x1, none] [] τ (KC d 265 23 26 [none, none, none, none] [] Q)) (k2 : (0 : Int) < (wr (x0 + (if x1 < x2 then x2 else x1))) → 2147483639 < (wr (x0 + (if x1 < x2 then x2 else x1))) → G (d - 1) 266 0 [vI x0, vI x1, none] [] τ (KC d 265 23 26 [none, none, none, none] [] Q)) (k3 : (0 : Int) < (wr (x0 + (if x1 < x2 then x2 else x1))) → (wr (x0 + (if x1 < x2 then x2 else x1))) ≤ 2147483639 → Q (.inl (some (AI (wr (x0 + (if x1 < x2 then x2 else x1)))))) τ) : G d 265 0 [vI x0, vI x1, vI x2, none] [] τ Q := by
  refine g_sk 3 (pc1 := 3) (st1 := [AI x2, AI x1, AI x0]) rfl ?_
  refine g_max rfl rfl rfl hd ?_
  refine g_sx 4 (pc1 := 10) (L1 := [vI x0, vI x1, vI x2, vI (wr (x0 + (if x1 < x2 then x2 else x1)))]) (st1 := [AI (wr (x0 + (if x1 < x2 then x2 else x1))), AI 0]) rfl ?_
  refine g_br2 rfl (t := 21) rfl (fun c1 => ?_) (fun c1 => ?_)
  · have c1 : (wr (x0 + (if x1 < x2 then x2 else x1))) ≤ (0 : Int) := of_decide_eq_true c1
    refine g_sk 2 (pc1 := 23) (st1 := [AI x1, AI x0]) rfl ?_
    refine G_fg (lw2_f _ (lw2_f _ (lw2_f _ (lw2_f _ lw2_nil)))) ?_
    refine g_cs rfl rfl (by decide) rfl rfl (Nat.le_of_ble_eq_true rfl) rfl (by omega) (L0 := [vI x0, vI x1, none]) rfl ?_
    exact (k1 c1)
  · have c1 : (0 : Int) < (wr (x0 + (if x1 < x2 then x2 else x1))) := Int.not_le.mp (of_decide_eq_false c1)
    refine g_sk 2 (pc1 := 16) (st1 := [AI 2147483639, AI (wr (x0 + (if x1 < x2 then x2 else x1)))]) rfl ?_
    refine g_br2 rfl (t := 21) rfl (fun c2 => ?_) (fun c2 => ?_)
    · have c2 : 2147483639 < (wr (x0 + (if x1 < x2 then x2 else x1))) := of_decide_eq_true c2
      refine g_sk 2 (pc1 := 23) (st1 := [AI x1, AI x0]) rfl ?_
      refine G_fg (lw2_f _ (lw2_f _ (lw2_f _ (lw2_f _ lw2_nil)))) ?_
      refine g_cs rfl rfl (by decide) rfl rfl (Nat.le_of_ble_eq_true rfl) rfl (by omega) (L0 := [vI x0, vI x1, none]) rfl ?_
      exact (k2 c1 c2)
    · have c2 : (wr (x0 + (if x1 < x2 then x2 else x1))) ≤ 2147483639 := Int.not_lt.mp (of_decide_eq_false c2)
      refine g_sk 1 (pc1 := 20) (st1 := [AI (wr (x0 + (if x1 < x2 then x2 else x1)))]) rfl ?_
      refine g_iret rfl rfl ?_
      exact (k3 c1 c2)

set_option maxRecDepth 8192 in
theorem t265_26 {d : Nat} {τ : T2} {Q : RS → T2 → Prop} {y0 : Int} (k1 : Q (.inl (some (AI y0))) τ) : G d 265 26 [none, none, none, none] [AI y0] τ Q := by
  refine g_iret rfl rfl ?_
  exact k1

set_option maxRecDepth 8192 in
theorem t266_0 {d : Nat} {τ : T2} {Q : RS → T2 → Prop} {x0 x1 : Int} (k1 : 0 ≤ (wr (x0 + x1)) → 2147483639 < (wr (x0 + x1)) → Q (.inl (some (AI (wr (x0 + x1))))) τ) (k2 : 0 ≤ (wr (x0 + x1)) → (wr (x0 + x1)) ≤ 2147483639 → Q (.inl (some (AI 2147483639))) τ) (k3 : (wr (x0 + x1)) < 0 → False) : G d 266 0 [vI x0, vI x1, none] [] τ Q := by
  refine g_sx 5 (pc1 := 5) (L1 := [vI x0, vI x1, vI (wr (x0 + x1))]) (st1 := [AI (wr (x0 + x1))]) rfl ?_
  refine g_br1 rfl (t := 49) rfl (fun c1 => ?_) (fun c1 => ?_)
  · have c1 : 0 ≤ (wr (x0 + x1)) := of_decide_eq_true c1
    refine g_sk 2 (pc1 := 52) (st1 := [AI 2147483639, AI (wr (x0 + x1))]) rfl ?_
    refine g_br2 rfl (t := 58) rfl (fun c2 => ?_) (fun c2 => ?_)
    · have c2 : 2147483639 < (wr (x0 + x1)) := of_decide_eq_true c2
      refine g_sk 1 (pc1 := 59) (st1 := [AI (wr (x0 + x1))]) rfl ?_
      refine g_iret rfl rfl ?_
      exact (k1 c1 c2)
    · have c2 : (wr (x0 + x1)) ≤ 2147483639 := Int.not_lt.mp (of_decide_eq_false c2)
      refine g_sk 1 (pc1 := 57) (st1 := [AI 2147483639]) rfl ?_
      refine g_iret rfl rfl ?_
      exact (k2 c1 c2)
  · have c1 : (wr (x0 + x1)) < 0 := Int.not_le.mp (of_decide_eq_false c1)
    exact ((k3 c1)).elim

set_option maxRecDepth 8192 in
theorem t267_0 {d : Nat} {τ : T2} {Q : RS → T2 → Prop} {x1 : Int} {r0 : Nat} {r2 : Option Nat} (hd : 1 ≤ d) (sh1 : tS τ r0 = (1, 11, 0)) (k1 : G (d - 1) 108 0 [vR r0, vI x1] [] τ (KC d 267 4 7 [none, none, none, none] [AI 0, AP r2] Q)) : G d 267 0 [vR r0, vI x1, vQ r2, none] [] τ Q := by
  refine g_sk 4 (pc1 := 4) (st1 := [AI x1, AR r0, AI 0, AP r2]) rfl ?_
  refine G_fg (lw2_f _ (lw2_f _ (lw2_f _ (lw2_k _ lw2_nil)))) ?_
  refine g_cv rfl rfl (by decide) rfl rfl (Nat.le_of_ble_eq_true rfl) (as2 := [AI x1]) rfl sh1 rfl (by omega) (L0 := [vR r0, vI x1]) rfl ?_
  exact k1

set_option maxRecDepth 8192 in
theorem t267_7 {d : Nat} {τ : T2} {Q : RS → T2 → Prop} {y0 y1 : Int} {s2 n1 : Nat} (sh2 : tS τ s2 = (2, 3, n1)) (b3 : (0 : Int) ≤ y1 ∧ y1 < (n1 : Int)) (k1 : Q (.inl (some (AI 0))) (uI τ s2 y1.toNat y0)) : G d 267 7 [none, none, none, none] [AI y0, AI y1, AR s2] τ Q := by
  refine g_sk 1 (pc1 := 8) (st1 := [AL y0, AI y1, AR s2]) rfl ?_
  refine g_last rfl sh2 b3.1 b3.2 ?_
  refine g_sk 2 (pc1 := 16) (st1 := [AI 0]) rfl ?_
  refine g_iret rfl rfl ?_
  exact k1

set_option maxRecDepth 8192 in
theorem t267_12 {d : Nat} {τ : T2} {Q : RS → T2 → Prop} {s0 : Option Nat} (k1 : Q (.inl (some (AI 1))) τ) : G d 267 12 [none, none, none, none] [AP s0] τ Q := by
  refine g_sx 2 (pc1 := 14) (L1 := [none, none, none, vQ s0]) (st1 := [AI 1]) rfl ?_
  refine g_iret rfl rfl ?_
  exact k1

set_option maxRecDepth 8192 in
theorem t268_0 {d : Nat} {τ : T2} {Q : RS → T2 → Prop} {r0 : Option Nat} (k1 : G d 268 3 [vQ r0, none, none, none, none, none, none] [AR (tN τ)] (nC τ (1, 11, 0) 18) Q) : G d 268 0 [vQ r0, none, none, none, none, none, none] [] τ Q := by
  refine g_new rfl (ci := 11) rfl (by decide) (by decide) ?_
  exact k1

set_option maxRecDepth 8192 in
theorem t268_3 {d : Nat} {τ : T2} {Q : RS → T2 → Prop} {s0 : Nat} {r0 : Option Nat} (hd : 1 ≤ d) (k1 : G (d - 1) 91 0 [vR s0, none] [] τ (KC d 268 4 7 [vQ r0, none, none, none, none, none, none] [AR s0] Q)) : G d 268 3 [vQ r0, none, none, none, none, none, none] [AR s0] τ Q := by
  refine g_sk 1 (pc1 := 4) (st1 := [AR s0, AR s0]) rfl ?_
  refine g_ci rfl rfl (by decide) rfl rfl (Nat.le_of_ble_eq_true rfl) (as2 := []) rfl rfl (by omega) (L0 := [vR s0, none]) rfl ?_
  exact k1

set_option maxRecDepth 8192 in
theorem t268_7 {d : Nat} {τ : T2} {Q : RS → T2 → Prop} {r0 s0 : Option Nat} (k1 : G d 268 11 [vQ r0, vQ s0, none, none, none, none, none] [AR (tN τ)] (nC τ (1, 21, 0) 39) Q) : G d 268 7 [vQ r0, none, none, none, none, none, none] [AP s0] τ Q := by
  refine g_sx 1 (pc1 := 8) (L1 := [vQ r0, vQ s0, none, none, none, none, none]) (st1 := []) rfl ?_
  refine g_new rfl (ci := 21) rfl (by decide) (by decide) ?_
  exact k1

set_option maxRecDepth 8192 in
theorem t268_11 {d : Nat} {τ : T2} {Q : RS → T2 → Prop} {s0 : Nat} {r0 r1 : Option Nat} (hd : 1 ≤ d) (k1 : G (d - 1) 169 0 [vR s0, none] [] τ (KC d 268 12 15 [vQ r0, vQ r1, none, none, none, none, none] [AR s0] Q)) : G d 268 11 [vQ r0, vQ r1, none, none, none, none, none] [AR s0] τ Q := by
  refine g_sk 1 (pc1 := 12) (st1 := [AR s0, AR s0]) rfl ?_
  refine g_ci rfl rfl (by decide) rfl rfl (Nat.le_of_ble_eq_true rfl) (as2 := []) rfl rfl (by omega) (L0 := [vR s0, none]) rfl ?_
  exact k1

set_option maxRecDepth 8192 in
theorem t268_15 {d : Nat} {τ : T2} {Q : RS → T2 → Prop} {r0 r1 s0 : Option Nat} (k1 : G d 268 19 [vQ r0, vQ r1, vQ s0, none, none, none, none] [AR (tN τ)] (nC τ (2, 3, 1) 1) Q) : G d 268 15 [vQ r0, vQ r1, none, none, none, none, none] [AP s0] τ Q := by
  refine g_sx 2 (pc1 := 17) (L1 := [vQ r0, vQ r1, vQ s0, none, none, none, none]) (st1 := [AI 1]) rfl ?_
  refine g_newa rfl rfl (by decide) (by decide) ?_
  exact k1

set_option maxRecDepth 8192 in
theorem t268_19 {d : Nat} {τ : T2} {Q : RS → T2 → Prop} {r0 r1 r2 s0 : Option Nat} (k1 : G d 268 23 [vQ r0, vQ r1, vQ r2, vQ s0, vI 0, none, none] [] τ Q) : G d 268 19 [vQ r0, vQ r1, vQ r2, none, none, none, none] [AP s0] τ Q := by
  refine g_sx 3 (pc1 := 23) (L1 := [vQ r0, vQ r1, vQ r2, vQ s0, vI 0, none, none]) (st1 := []) rfl ?_
  exact k1

set_option maxRecDepth 8192 in
theorem t268_23 {d : Nat} {τ : T2} {Q : RS → T2 → Prop} {x4 : Int} {r0 n1 : Nat} {r1 r2 r3 : Option Nat} (sh2 : tS τ r0 = (2, 100, n1)) (b4 : x4 ≤ (wr ((n1 : Int) - 6)) → (0 : Int) ≤ x4 ∧ x4 < (n1 : Int)) (k1 : (wr ((n1 : Int) - 6)) < x4 → Q (.inl (some (AI 1))) τ) (k2 : x4 ≤ (wr ((n1 : Int) - 6)) → G d 268 40 [vR r0, vQ r1, vQ r2, vQ r3, vI x4, none, none] [AI (zand (tI τ r0 x4.toNat) 63)] τ Q) : G d 268 23 [vR r0, vQ r1, vQ r2, vQ r3, vI x4, none, none] [] τ Q := by
  refine g_sk 2 (pc1 := 26) (st1 := [AR r0, AI x4]) rfl ?_
  refine g_al2 rfl sh2 ?_
  refine g_sk 2 (pc1 := 30) (st1 := [AI (wr ((n1 : Int) - 6)), AI x4]) rfl ?_
  refine g_br2 rfl (t := 1302) rfl (fun c3 => ?_) (fun c3 => ?_)
  · have c3 : (wr ((n1 : Int) - 6)) < x4 := of_decide_eq_true c3
    refine g_sk 1 (pc1 := 1303) (st1 := [AI 1]) rfl ?_
    refine g_zret rfl rfl (by decide) ?_
    exact (k1 c3)
  · have c3 : x4 ≤ (wr ((n1 : Int) - 6)) := Int.not_lt.mp (of_decide_eq_false c3)
    refine g_sk 2 (pc1 := 36) (st1 := [AI x4, AR r0]) rfl ?_
    refine g_iald rfl sh2 (by decide) (b4 c3).1 (b4 c3).2 ?_
    refine g_sk 2 (pc1 := 40) (st1 := [AI (zand (tI τ r0 x4.toNat) 63)]) rfl ?_
    exact (k2 c3)

set_option maxRecDepth 8192 in
theorem t268_222 {d : Nat} {τ : T2} {Q : RS → T2 → Prop} {x4 y0 : Int} {r0 r2 n1 : Nat} {r1 r3 : Option Nat} (hd : 1 ≤ d) (sh2 : tS τ r0 = (2, 100, n1)) (b3 : (0 : Int) ≤ (wr (x4 + 1)) ∧ (wr (x4 + 1)) < (n1 : Int)) (b4 : (0 : Int) ≤ (wr (x4 + 2)) ∧ (wr (x4 + 2)) < (n1 : Int)) (b5 : (0 : Int) ≤ (wr (x4 + 3)) ∧ (wr (x4 + 3)) < (n1 : Int)) (b6 : (0 : Int) ≤ (wr (x4 + 4)) ∧ (wr (x4 + 4)) < (n1 : Int)) (b7 : (0 : Int) ≤ (wr (x4 + 5)) ∧ (wr (x4 + 5)) < (n1 : Int)) (sh8 : tS τ r2 = (1, 21, 0)) (k1 : G (d - 1) 205 0 [vR r2, vI (tI τ r0 (wr (x4 + 1)).toNat), vI (tI τ r0 (wr (x4 + 2)).toNat), vI (tI τ r0 (wr (x4 + 3)).toNat), vI (tI τ r0 (wr (x4 + 4)).toNat), vI (tI τ r0 (wr (x4 + 5)).toNat), none, none] [] τ (KC d 268 253 256 [vR r0, vQ r1, vR r2, vQ r3, vI x4, none, none] [AI y0] Q)) : G d 268 222 [vR r0, vQ r1, vR r2, vQ r3, vI x4, none, none] [AI y0] τ Q := by
  refine g_sk 5 (pc1 := 228) (st1 := [AI (wr (x4 + 1)), AR r0, AR r2, AI y0]) rfl ?_
  refine g_iald rfl sh2 (by decide) b3.1 b3.2 ?_
  refine g_sk 4 (pc1 := 234) (st1 := [AI (wr (x4 + 2)), AR r0, AI (tI τ r0 (wr (x4 + 1)).toNat), AR r2, AI y0]) rfl ?_
  refine g_iald rfl sh2 (by decide) b4.1 b4.2 ?_
  refine g_sk 4 (pc1 := 240) (st1 := [AI (wr (x4 + 3)), AR r0, AI (tI τ r0 (wr (x4 + 2)).toNat), AI (tI τ r0 (wr (x4 + 1)).toNat), AR r2, AI y0]) rfl ?_
  refine g_iald rfl sh2 (by decide) b5.1 b5.2 ?_
  refine g_sk 4 (pc1 := 246) (st1 := [AI (wr (x4 + 4)), AR r0, AI (tI τ r0 (wr (x4 + 3)).toNat), AI (tI τ r0 (wr (x4 + 2)).toNat), AI (tI τ r0 (wr (x4 + 1)).toNat), AR r2, AI y0]) rfl ?_
  refine g_iald rfl sh2 (by decide) b6.1 b6.2 ?_
  refine g_sk 4 (pc1 := 252) (st1 := [AI (wr (x4 + 5)), AR r0, AI (tI τ r0 (wr (x4 + 4)).toNat), AI (tI τ r0 (wr (x4 + 3)).toNat), AI (tI τ r0 (wr (x4 + 2)).toNat), AI (tI τ r0 (wr (x4 + 1)).toNat), AR r2, AI y0]) rfl ?_
  refine g_iald rfl sh2 (by decide) b7.1 b7.2 ?_
  refine g_cv rfl rfl (by decide) rfl rfl (Nat.le_of_ble_eq_true rfl) (as2 := [AI (tI τ r0 (wr (x4 + 1)).toNat), AI (tI τ r0 (wr (x4 + 2)).toNat), AI (tI τ r0 (wr (x4 + 3)).toNat), AI (tI τ r0 (wr (x4 + 4)).toNat), AI (tI τ r0 (wr (x4 + 5)).toNat)]) rfl sh8 rfl (by omega) (L0 := [vR r2, vI (tI τ r0 (wr (x4 + 1)).toNat), vI (tI τ r0 (wr (x4 + 2)).toNat), vI (tI τ r0 (wr (x4 + 3)).toNat), vI (tI τ r0 (wr (x4 + 4)).toNat), vI (tI τ r0 (wr (x4 + 5)).toNat), none, none]) rfl ?_
  exact k1

set_option maxRecDepth 8192 in
theorem t268_256 {d : Nat} {τ : T2} {Q : RS → T2 → Prop} {x4 y0 y1 : Int} {r0 r1 r2 r3 : Option Nat} (k1 : y1 = y0 → G d 268 23 [vQ r0, vQ r1, vQ r2, vQ r3, vI (wr (x4 + 6)), none, none] [] τ Q) (k2 : ¬ y1 = y0 → Q (.inl (some (AI 0))) τ) : G d 268 256 [vQ r0, vQ r1, vQ r2, vQ r3, vI x4, none, none] [AI y0, AI y1] τ Q := by
  refine g_br2 rfl (t := 1296) rfl (fun c1 => ?_) (fun c1 => ?_)
  · have c1 : y1 = y0 := of_decide_eq_true c1
    refine g_sx 2 (pc1 := 23) (L1 := [vQ r0, vQ r1, vQ r2, vQ r3, vI (wr (x4 + 6)), none, none]) (st1 := []) rfl ?_
    exact (k1 c1)
  · have c1 : ¬ y1 = y0 := of_decide_eq_false c1
    refine g_sk 1 (pc1 := 260) (st1 := [AI 0]) rfl ?_
    refine g_zret rfl rfl (by decide) ?_
    exact (k2 c1)

set_option maxRecDepth 8192 in
theorem t268_283 {d : Nat} {τ : T2} {Q : RS → T2 → Prop} {x4 y0 : Int} {r0 r2 n1 : Nat} {r1 r3 : Option Nat} (hd : 1 ≤ d) (sh2 : tS τ r0 = (2, 100, n1)) (b3 : (0 : Int) ≤ (wr (x4 + 1)) ∧ (wr (x4 + 1)) < (n1 : Int)) (b4 : (0 : Int) ≤ (wr (x4 + 2)) ∧ (wr (x4 + 2)) < (n1 : Int)) (b5 : (0 : Int) ≤ (wr (x4 + 3)) ∧ (wr (x4 + 3)) < (n1 : Int)) (sh6 : tS τ r2 = (1, 21, 0)) (k1 : G (d - 1) 210 0 [vR r2, vI (tI τ r0 (wr (x4 + 1)).toNat), vI (tI τ r0 (wr (x4 + 2)).toNat), vI (tI τ r0 (wr (x4 + 3)).toNat), none, none, none] [] τ (KC d 268 302 305 [vR r0, vQ r1, vR r2, vQ r3, vI x4, none, none] [AI y0] Q)) : G d 268 283 [vR r0, vQ r1, vR r2, vQ r3, vI x4, none, none] [AI y0] τ Q := by
  refine g_sk 5 (pc1 := 289) (st1 := [AI (wr (x4 + 1)), AR r0, AR r2, AI y0]) rfl ?_
  refine g_iald rfl sh2 (by decide) b3.1 b3.2 ?_
  refine g_sk 4 (pc1 := 295) (st1 := [AI (wr (x4 + 2)), AR r0, AI (tI τ r0 (wr (x4 + 1)).toNat), AR r2, AI y0]) rfl ?_
  refine g_iald rfl sh2 (by decide) b4.1 b4.2 ?_
  refine g_sk 4 (pc1 := 301) (st1 := [AI (wr (x4 + 3)), AR r0, AI (tI τ r0 (wr (x4 + 2)).toNat), AI (tI τ r0 (wr (x4 + 1)).toNat), AR r2, AI y0]) rfl ?_
  refine g_iald rfl sh2 (by decide) b5.1 b5.2 ?_
  refine g_cv rfl rfl (by decide) rfl rfl (Nat.le_of_ble_eq_true rfl) (as2 := [AI (tI τ r0 (wr (x4 + 1)).toNat), AI (tI τ r0 (wr (x4 + 2)).toNat), AI (tI τ r0 (wr (x4 + 3)).toNat)]) rfl sh6 rfl (by omega) (L0 := [vR r2, vI (tI τ r0 (wr (x4 + 1)).toNat), vI (tI τ r0 (wr (x4 + 2)).toNat), vI (tI τ r0 (wr (x4 + 3)).toNat), none, none, none]) rfl ?_
  exact k1

set_option maxRecDepth 8192 in
theorem t268_305 {d : Nat} {τ : T2} {Q : RS → T2 → Prop} {x4 y0 y1 : Int} {r0 r1 r2 r3 : Option Nat} (k1 : y1 = y0 → G d 268 23 [vQ r0, vQ r1, vQ r2, vQ r3, vI (wr (x4 + 6)), none, none] [] τ Q) (k2 : ¬ y1 = y0 → Q (.inl (some (AI 0))) τ) : G d 268 305 [vQ r0, vQ r1, vQ r2, vQ r3, vI x4, none, none] [AI y0, AI y1] τ Q := by
  refine g_br2 rfl (t := 1296) rfl (fun c1 => ?_) (fun c1 => ?_)
  · have c1 : y1 = y0 := of_decide_eq_true c1
    refine g_sx 2 (pc1 := 23) (L1 := [vQ r0, vQ r1, vQ r2, vQ r3, vI (wr (x4 + 6)), none, none]) (st1 := []) rfl ?_
    exact (k1 c1)
  · have c1 : ¬ y1 = y0 := of_decide_eq_false c1
    refine g_sk 1 (pc1 := 309) (st1 := [AI 0]) rfl ?_
    refine g_zret rfl rfl (by decide) ?_
    exact (k2 c1)

set_option maxRecDepth 8192 in
theorem t268_326 {d : Nat} {τ : T2} {Q : RS → T2 → Prop} {x4 y0 : Int} {r0 r2 n1 : Nat} {r1 r3 : Option Nat} (hd : 1 ≤ d) (sh2 : tS τ r0 = (2, 100, n1)) (b3 : (0 : Int) ≤ (wr (x4 + 1)) ∧ (wr (x4 + 1)) < (n1 : Int)) (b4 : (0 : Int) ≤ (wr (x4 + 2)) ∧ (wr (x4 + 2)) < (n1 : Int)) (sh5 : tS τ r2 = (1, 21, 0)) (k1 : G (d - 1) 212 0 [vR r2, vI (tI τ r0 (wr (x4 + 1)).toNat), vI (tI τ r0 (wr (x4 + 2)).toNat), none, none] [] τ (KC d 268 339 342 [vR r0, vQ r1, vR r2, vQ r3, vI x4, none, none] [AI y0] Q)) : G d 268 326 [vR r0, vQ r1, vR r2, vQ r3, vI x4, none, none] [AI y0] τ Q := by
  refine g_sk 5 (pc1 := 332) (st1 := [AI (wr (x4 + 1)), AR r0, AR r2, AI y0]) rfl ?_
  refine g_iald rfl sh2 (by decide) b3.1 b3.2 ?_
  refine g_sk 4 (pc1 := 338) (st1 := [AI (wr (x4 + 2)), AR r0, AI (tI τ r0 (wr (x4 + 1)).toNat), AR r2, AI y0]) rfl ?_
  refine g_iald rfl sh2 (by decide) b4.1 b4.2 ?_
  refine g_cv rfl rfl (by decide) rfl rfl (Nat.le_of_ble_eq_true rfl) (as2 := [AI (tI τ r0 (wr (x4 + 1)).toNat), AI (tI τ r0 (wr (x4 + 2)).toNat)]) rfl sh5 rfl (by omega) (L0 := [vR r2, vI (tI τ r0 (wr (x4 + 1)).toNat), vI (tI τ r0 (wr (x4 + 2)).toNat), none, none]) rfl ?_
  exact k1

set_option maxRecDepth 8192 in
theorem t268_342 {d : Nat} {τ : T2} {Q : RS → T2 → Prop} {x4 y0 y1 : Int} {r0 r1 r2 r3 : Option Nat} (k1 : y1 = y0 → G d 268 23 [vQ r0, vQ r1, vQ r2, vQ r3, vI (wr (x4 + 6)), none, none] [] τ Q) (k2 : ¬ y1 = y0 → Q (.inl (some (AI 0))) τ) : G d 268 342 [vQ r0, vQ r1, vQ r2, vQ r3, vI x4, none, none] [AI y0, AI y1] τ Q := by
  refine g_br2 rfl (t := 1296) rfl (fun c1 => ?_) (fun c1 => ?_)
  · have c1 : y1 = y0 := of_decide_eq_true c1
    refine g_sx 2 (pc1 := 23) (L1 := [vQ r0, vQ r1, vQ r2, vQ r3, vI (wr (x4 + 6)), none, none]) (st1 := []) rfl ?_
    exact (k1 c1)
  · have c1 : ¬ y1 = y0 := of_decide_eq_false c1
    refine g_sk 1 (pc1 := 346) (st1 := [AI 0]) rfl ?_
    refine g_zret rfl rfl (by decide) ?_
    exact (k2 c1)

set_option maxRecDepth 8192 in
theorem t268_363 {d : Nat} {τ : T2} {Q : RS → T2 → Prop} {x4 y0 : Int} {r0 r2 n1 : Nat} {r1 r3 : Option Nat} (hd : 1 ≤ d) (sh2 : tS τ r0 = (2, 100, n1)) (b3 : (0 : Int) ≤ (wr (x4 + 1)) ∧ (wr (x4 + 1)) < (n1 : Int)) (b4 : (0 : Int) ≤ (wr (x4 + 2)) ∧ (wr (x4 + 2)) < (n1 : Int)) (sh5 : tS τ r2 = (1, 21, 0)) (k1 : G (d - 1) 213 0 [vR r2, vI (tI τ r0 (wr (x4 + 1)).toNat), vI (tI τ r0 (wr (x4 + 2)).toNat), none, none] [] τ (KC d 268 376 379 [vR r0, vQ r1, vR r2, vQ r3, vI x4, none, none] [AI y0] Q)) : G d 268 363 [vR r0, vQ r1, vR r2, vQ r3, vI x4, none, none] [AI y0] τ Q := by
  refine g_sk 5 (pc1 := 369) (st1 := [AI (wr (x4 + 1)), AR r0, AR r2, AI y0]) rfl ?_
  refine g_iald rfl sh2 (by decide) b3.1 b3.2 ?_
  refine g_sk 4 (pc1 := 375) (st1 := [AI (wr (x4 + 2)), AR r0, AI (tI τ r0 (wr (x4 + 1)).toNat), AR r2, AI y0]) rfl ?_
  refine g_iald rfl sh2 (by decide) b4.1 b4.2 ?_
  refine g_cv rfl rfl (by decide) rfl rfl (Nat.le_of_ble_eq_true rfl) (as2 := [AI (tI τ r0 (wr (x4 + 1)).toNat), AI (tI τ r0 (wr (x4 + 2)).toNat)]) rfl sh5 rfl (by omega) (L0 := [vR r2, vI (tI τ r0 (wr (x4 + 1)).toNat), vI (tI τ r0 (wr (x4 + 2)).toNat), none, none]) rfl ?_
  exact k1

set_option maxRecDepth 8192 in
theorem t268_379 {d : Nat} {τ : T2} {Q : RS → T2 → Prop} {x4 y0 y1 : Int} {r0 r1 r2 r3 : Option Nat} (k1 : y1 = y0 → G d 268 23 [vQ r0, vQ r1, vQ r2, vQ r3, vI (wr (x4 + 6)), none, none] [] τ Q) (k2 : ¬ y1 = y0 → Q (.inl (some (AI 0))) τ) : G d 268 379 [vQ r0, vQ r1, vQ r2, vQ r3, vI x4, none, none] [AI y0, AI y1] τ Q := by
  refine g_br2 rfl (t := 1296) rfl (fun c1 => ?_) (fun c1 => ?_)
  · have c1 : y1 = y0 := of_decide_eq_true c1
    refine g_sx 2 (pc1 := 23) (L1 := [vQ r0, vQ r1, vQ r2, vQ r3, vI (wr (x4 + 6)), none, none]) (st1 := []) rfl ?_
    exact (k1 c1)
  · have c1 : ¬ y1 = y0 := of_decide_eq_false c1
    refine g_sk 1 (pc1 := 383) (st1 := [AI 0]) rfl ?_
    refine g_zret rfl rfl (by decide) ?_
    exact (k2 c1)

set_option maxRecDepth 8192 in
theorem t268_400 {d : Nat} {τ : T2} {Q : RS → T2 → Prop} {x4 y0 : Int} {r0 r2 n1 : Nat} {r1 r3 : Option Nat} (hd : 1 ≤ d) (sh2 : tS τ r0 = (2, 100, n1)) (b3 : (0 : Int) ≤ (wr (x4 + 1)) ∧ (wr (x4 + 1)) < (n1 : Int)) (b4 : (0 : Int) ≤ (wr (x4 + 2)) ∧ (wr (x4 + 2)) < (n1 : Int)) (sh5 : tS τ r2 = (1, 21, 0)) (k1 : G (d - 1) 214 0 [vR r2, vI (tI τ r0 (wr (x4 + 1)).toNat), vI (tI τ r0 (wr (x4 + 2)).toNat), none, none] [] τ (KC d 268 413 416 [vR r0, vQ r1, vR r2, vQ r3, vI x4, none, none] [AI y0] Q)) : G d 268 400 [vR r0, vQ r1, vR r2, vQ r3, vI x4, none, none] [AI y0] τ Q := by
  refine g_sk 5 (pc1 := 406) (st1 := [AI (wr (x4 + 1)), AR r0, AR r2, AI y0]) rfl ?_
  refine g_iald rfl sh2 (by decide) b3.1 b3.2 ?_
  refine g_sk 4 (pc1 := 412) (st1 := [AI (wr (x4 + 2)), AR r0, AI (tI τ r0 (wr (x4 + 1)).toNat), AR r2, AI y0]) rfl ?_
  refine g_iald rfl sh2 (by decide) b4.1 b4.2 ?_
  refine g_cv rfl rfl (by decide) rfl rfl (Nat.le_of_ble_eq_true rfl) (as2 := [AI (tI τ r0 (wr (x4 + 1)).toNat), AI (tI τ r0 (wr (x4 + 2)).toNat)]) rfl sh5 rfl (by omega) (L0 := [vR r2, vI (tI τ r0 (wr (x4 + 1)).toNat), vI (tI τ r0 (wr (x4 + 2)).toNat), none, none]) rfl ?_
  exact k1

set_option maxRecDepth 8192 in
theorem t268_416 {d : Nat} {τ : T2} {Q : RS → T2 → Prop} {x4 y0 y1 : Int} {r0 r1 r2 r3 : Option Nat} (k1 : y1 = y0 → G d 268 23 [vQ r0, vQ r1, vQ r2, vQ r3, vI (wr (x4 + 6)), none, none] [] τ Q) (k2 : ¬ y1 = y0 → Q (.inl (some (AI 0))) τ) : G d 268 416 [vQ r0, vQ r1, vQ r2, vQ r3, vI x4, none, none] [AI y0, AI y1] τ Q := by
  refine g_br2 rfl (t := 1296) rfl (fun c1 => ?_) (fun c1 => ?_)
  · have c1 : y1 = y0 := of_decide_eq_true c1
    refine g_sx 2 (pc1 := 23) (L1 := [vQ r0, vQ r1, vQ r2, vQ r3, vI (wr (x4 + 6)), none, none]) (st1 := []) rfl ?_
    exact (k1 c1)
  · have c1 : ¬ y1 = y0 := of_decide_eq_false c1
    refine g_sk 1 (pc1 := 420) (st1 := [AI 0]) rfl ?_
    refine g_zret rfl rfl (by decide) ?_
    exact (k2 c1)

set_option maxRecDepth 8192 in
theorem t268_443 {d : Nat} {τ : T2} {Q : RS → T2 → Prop} {x4 y0 : Int} {r0 r2 n1 : Nat} {r1 r3 : Option Nat} (hd : 1 ≤ d) (sh2 : tS τ r0 = (2, 100, n1)) (b3 : (0 : Int) ≤ (wr (x4 + 1)) ∧ (wr (x4 + 1)) < (n1 : Int)) (b4 : (0 : Int) ≤ (wr (x4 + 2)) ∧ (wr (x4 + 2)) < (n1 : Int)) (b5 : (0 : Int) ≤ (wr (x4 + 3)) ∧ (wr (x4 + 3)) < (n1 : Int)) (sh6 : tS τ r2 = (1, 21, 0)) (k1 : G (d - 1) 215 0 [vR r2, vI (tI τ r0 (wr (x4 + 1)).toNat), vI (tI τ r0 (wr (x4 + 2)).toNat), vI (tI τ r0 (wr (x4 + 3)).toNat), none] [] τ (KC d 268 462 465 [vR r0, vQ r1, vR r2, vQ r3, vI x4, none, none] [AI y0] Q)) : G d 268 443 [vR r0, vQ r1, vR r2, vQ r3, vI x4, none, none] [AI y0] τ Q := by
  refine g_sk 5 (pc1 := 449) (st1 := [AI (wr (x4 + 1)), AR r0, AR r2, AI y0]) rfl ?_
  refine g_iald rfl sh2 (by decide) b3.1 b3.2 ?_
  refine g_sk 4 (pc1 := 455) (st1 := [AI (wr (x4 + 2)), AR r0, AI (tI τ r0 (wr (x4 + 1)).toNat), AR r2, AI y0]) rfl ?_
  refine g_iald rfl sh2 (by decide) b4.1 b4.2 ?_
  refine g_sk 4 (pc1 := 461) (st1 := [AI (wr (x4 + 3)), AR r0, AI (tI τ r0 (wr (x4 + 2)).toNat), AI (tI τ r0 (wr (x4 + 1)).toNat), AR r2, AI y0]) rfl ?_
  refine g_iald rfl sh2 (by decide) b5.1 b5.2 ?_
  refine g_cv rfl rfl (by decide) rfl rfl (Nat.le_of_ble_eq_true rfl) (as2 := [AI (tI τ r0 (wr (x4 + 1)).toNat), AI (tI τ r0 (wr (x4 + 2)).toNat), AI (tI τ r0 (wr (x4 + 3)).toNat)]) rfl sh6 rfl (by omega) (L0 := [vR r2, vI (tI τ r0 (wr (x4 + 1)).toNat), vI (tI τ r0 (wr (x4 + 2)).toNat), vI (tI τ r0 (wr (x4 + 3)).toNat), none]) rfl ?_
  exact k1

set_option maxRecDepth 8192 in
theorem t268_465 {d : Nat} {τ : T2} {Q : RS → T2 → Prop} {x4 y0 y1 : Int} {r0 r1 r2 r3 : Option Nat} (k1 : y1 = y0 → G d 268 23 [vQ r0, vQ r1, vQ r2, vQ r3, vI (wr (x4 + 6)), none, none] [] τ Q) (k2 : ¬ y1 = y0 → Q (.inl (some (AI 0))) τ) : G d 268 465 [vQ r0, vQ r1, vQ r2, vQ r3, vI x4, none, none] [AI y0, AI y1] τ Q := by
  refine g_br2 rfl (t := 1296) rfl (fun c1 => ?_) (fun c1 => ?_)
  · have c1 : y1 = y0 := of_decide_eq_true c1
    refine g_sx 2 (pc1 := 23) (L1 := [vQ r0, vQ r1, vQ r2, vQ r3, vI (wr (x4 + 6)), none, none]) (st1 := []) rfl ?_
    exact (k1 c1)
  · have c1 : ¬ y1 = y0 := of_decide_eq_false c1
    refine g_sk 1 (pc1 := 469) (st1 := [AI 0]) rfl ?_
    refine g_zret rfl rfl (by decide) ?_
    exact (k2 c1)

set_option maxRecDepth 8192 in
theorem t268_492 {d : Nat} {τ : T2} {Q : RS → T2 → Prop} {x4 y0 : Int} {r0 r2 n1 : Nat} {r1 r3 : Option Nat} (hd : 1 ≤ d) (sh2 : tS τ r0 = (2, 100, n1)) (b3 : (0 : Int) ≤ (wr (x4 + 1)) ∧ (wr (x4 + 1)) < (n1 : Int)) (b4 : (0 : Int) ≤ (wr (x4 + 2)) ∧ (wr (x4 + 2)) < (n1 : Int)) (b5 : (0 : Int) ≤ (wr (x4 + 3)) ∧ (wr (x4 + 3)) < (n1 : Int)) (sh6 : tS τ r2 = (1, 21, 0)) (k1 : G (d - 1) 216 0 [vR r2, vI (tI τ r0 (wr (x4 + 1)).toNat), vI (tI τ r0 (wr (x4 + 2)).toNat), vI (tI τ r0 (wr (x4 + 3)).toNat), none] [] τ (KC d 268 511 514 [vR r0, vQ r1, vR r2, vQ r3, vI x4, none, none] [AI y0] Q)) : G d 268 492 [vR r0, vQ r1, vR r2, vQ r3, vI x4, none, none] [AI y0] τ Q := by
  refine g_sk 5 (pc1 := 498) (st1 := [AI (wr (x4 + 1)), AR r0, AR r2, AI y0]) rfl ?_
  refine g_iald rfl sh2 (by decide) b3.1 b3.2 ?_
  refine g_sk 4 (pc1 := 504) (st1 := [AI (wr (x4 + 2)), AR r0, AI (tI τ r0 (wr (x4 + 1)).toNat), AR r2, AI y0]) rfl ?_
  refine g_iald rfl sh2 (by decide) b4.1 b4.2 ?_
  refine g_sk 4 (pc1 := 510) (st1 := [AI (wr (x4 + 3)), AR r0, AI (tI τ r0 (wr (x4 + 2)).toNat), AI (tI τ r0 (wr (x4 + 1)).toNat), AR r2, AI y0]) rfl ?_
  refine g_iald rfl sh2 (by decide) b5.1 b5.2 ?_
  refine g_cv rfl rfl (by decide) rfl rfl (Nat.le_of_ble_eq_true rfl) (as2 := [AI (tI τ r0 (wr (x4 + 1)).toNat), AI (tI τ r0 (wr (x4 + 2)).toNat), AI (tI τ r0 (wr (x4 + 3)).toNat)]) rfl sh6 rfl (by omega) (L0 := [vR r2, vI (tI τ r0 (wr (x4 + 1)).toNat), vI (tI τ r0 (wr (x4 + 2)).toNat), vI (tI τ r0 (wr (x4 + 3)).toNat), none]) rfl ?_
  exact k1

set_option maxRecDepth 8192 in
theorem t268_514 {d : Nat} {τ : T2} {Q : RS → T2 → Prop} {x4 y0 y1 : Int} {r0 r1 r2 r3 : Option Nat} (k1 : y1 = y0 → G d 268 23 [vQ r0, vQ r1, vQ r2, vQ r3, vI (wr (x4 + 6)), none, none] [] τ Q) (k2 : ¬ y1 = y0 → Q (.inl (some (AI 0))) τ) : G d 268 514 [vQ r0, vQ r1, vQ r2, vQ r3, vI x4, none, none] [AI y0, AI y1] τ Q := by
  refine g_br2 rfl (t := 1296) rfl (fun c1 => ?_) (fun c1 => ?_)
  · have c1 : y1 = y0 := of_decide_eq_true c1
    refine g_sx 2 (pc1 := 23) (L1 := [vQ r0, vQ r1, vQ r2, vQ r3, vI (wr (x4 + 6)), none, none]) (st1 := []) rfl ?_
    exact (k1 c1)
  · have c1 : ¬ y1 = y0 := of_decide_eq_false c1
    refine g_sk 1 (pc1 := 518) (st1 := [AI 0]) rfl ?_
    refine g_zret rfl rfl (by decide) ?_
    exact (k2 c1)

set_option maxRecDepth 8192 in
theorem t268_523 {d : Nat} {τ : T2} {Q : RS → T2 → Prop} {x4 y0 : Int} {r2 : Nat} {r0 r1 r3 : Option Nat} (hd : 1 ≤ d) (sh1 : tS τ r2 = (1, 21, 0)) (k1 : G (d - 1) 217 0 [vR r2] [] τ (KC d 268 524 527 [vQ r0, vQ r1, vR r2, vQ r3, vI x4, none, none] [AI y0] Q)) : G d 268 523 [vQ r0, vQ r1, vR r2, vQ r3, vI x4, none, none] [AI y0] τ Q := by
  refine g_sk 1 (pc1 := 524) (st1 := [AR r2, AI y0]) rfl ?_
  refine g_cv rfl rfl (by decide) rfl rfl (Nat.le_of_ble_eq_true rfl) (as2 := []) rfl sh1 rfl (by omega) (L0 := [vR r2]) rfl ?_
  exact k1

set_option maxRecDepth 8192 in
theorem t268_527 {d : Nat} {τ : T2} {Q : RS → T2 → Prop} {x4 y0 y1 : Int} {r0 r1 r2 r3 : Option Nat} (k1 : y1 = y0 → G d 268 23 [vQ r0, vQ r1, vQ r2, vQ r3, vI (wr (x4 + 6)), none, none] [] τ Q) (k2 : ¬ y1 = y0 → Q (.inl (some (AI 0))) τ) : G d 268 527 [vQ r0, vQ r1, vQ r2, vQ r3, vI x4, none, none] [AI y0, AI y1] τ Q := by
  refine g_br2 rfl (t := 1296) rfl (fun c1 => ?_) (fun c1 => ?_)
  · have c1 : y1 = y0 := of_decide_eq_true c1
    refine g_sx 2 (pc1 := 23) (L1 := [vQ r0, vQ r1, vQ r2, vQ r3, vI (wr (x4 + 6)), none, none]) (st1 := []) rfl ?_
    exact (k1 c1)
  · have c1 : ¬ y1 = y0 := of_decide_eq_false c1
    refine g_sk 1 (pc1 := 531) (st1 := [AI 0]) rfl ?_
    refine g_zret rfl rfl (by decide) ?_
    exact (k2 c1)

set_option maxRecDepth 8192 in
theorem t268_536 {d : Nat} {τ : T2} {Q : RS → T2 → Prop} {x4 y0 : Int} {r2 : Nat} {r0 r1 r3 : Option Nat} (hd : 1 ≤ d) (sh1 : tS τ r2 = (1, 21, 0)) (k1 : G (d - 1) 218 0 [vR r2] [] τ (KC d 268 537 540 [vQ r0, vQ r1, vR r2, vQ r3, vI x4, none, none] [AI y0] Q)) : G d 268 536 [vQ r0, vQ r1, vR r2, vQ r3, vI x4, none, none] [AI y0] τ Q := by
  refine g_sk 1 (pc1 := 537) (st1 := [AR r2, AI y0]) rfl ?_
  refine g_cv rfl rfl (by decide) rfl rfl (Nat.le_of_ble_eq_true rfl) (as2 := []) rfl sh1 rfl (by omega) (L0 := [vR r2]) rfl ?_
  exact k1

set_option maxRecDepth 8192 in
theorem t268_540 {d : Nat} {τ : T2} {Q : RS → T2 → Prop} {x4 y0 y1 : Int} {r0 r1 r2 r3 : Option Nat} (k1 : y1 = y0 → G d 268 23 [vQ r0, vQ r1, vQ r2, vQ r3, vI (wr (x4 + 6)), none, none] [] τ Q) (k2 : ¬ y1 = y0 → Q (.inl (some (AI 0))) τ) : G d 268 540 [vQ r0, vQ r1, vQ r2, vQ r3, vI x4, none, none] [AI y0, AI y1] τ Q := by
  refine g_br2 rfl (t := 1296) rfl (fun c1 => ?_) (fun c1 => ?_)
  · have c1 : y1 = y0 := of_decide_eq_true c1
    refine g_sx 2 (pc1 := 23) (L1 := [vQ r0, vQ r1, vQ r2, vQ r3, vI (wr (x4 + 6)), none, none]) (st1 := []) rfl ?_
    exact (k1 c1)
  · have c1 : ¬ y1 = y0 := of_decide_eq_false c1
    refine g_sk 1 (pc1 := 544) (st1 := [AI 0]) rfl ?_
    refine g_zret rfl rfl (by decide) ?_
    exact (k2 c1)

set_option maxRecDepth 8192 in
theorem t268_561 {d : Nat} {τ : T2} {Q : RS → T2 → Prop} {x4 y0 : Int} {r0 r2 n1 : Nat} {r1 r3 : Option Nat} (hd : 1 ≤ d) (sh2 : tS τ r0 = (2, 100, n1)) (b3 : (0 : Int) ≤ (wr (x4 + 1)) ∧ (wr (x4 + 1)) < (n1 : Int)) (b4 : (0 : Int) ≤ (wr (x4 + 2)) ∧ (wr (x4 + 2)) < (n1 : Int)) (sh5 : tS τ r2 = (1, 21, 0)) (k1 : G (d - 1) 219 0 [vR r2, vI (tI τ r0 (wr (x4 + 1)).toNat), vI (tI τ r0 (wr (x4 + 2)).toNat), none] [] τ (KC d 268 574 577 [vR r0, vQ r1, vR r2, vQ r3, vI x4, none, none] [AI y0] Q)) : G d 268 561 [vR r0, vQ r1, vR r2, vQ r3, vI x4, none, none] [AI y0] τ Q := by
  refine g_sk 5 (pc1 := 567) (st1 := [AI (wr (x4 + 1)), AR r0, AR r2, AI y0]) rfl ?_
  refine g_iald rfl sh2 (by decide) b3.1 b3.2 ?_
  refine g_sk 4 (pc1 := 573) (st1 := [AI (wr (x4 + 2)), AR r0, AI (tI τ r0 (wr (x4 + 1)).toNat), AR r2, AI y0]) rfl ?_
  refine g_iald rfl sh2 (by decide) b4.1 b4.2 ?_
  refine g_cv rfl rfl (by decide) rfl rfl (Nat.le_of_ble_eq_true rfl) (as2 := [AI (tI τ r0 (wr (x4 + 1)).toNat), AI (tI τ r0 (wr (x4 + 2)).toNat)]) rfl sh5 rfl (by omega) (L0 := [vR r2, vI (tI τ r0 (wr (x4 + 1)).toNat), vI (tI τ r0 (wr (x4 + 2)).toNat), none]) rfl ?_
  exact k1

set_option maxRecDepth 8192 in
theorem t268_577 {d : Nat} {τ : T2} {Q : RS → T2 → Prop} {x4 y0 y1 : Int} {r0 r1 r2 r3 : Option Nat} (k1 : y1 = y0 → G d 268 23 [vQ r0, vQ r1, vQ r2, vQ r3, vI (wr (x4 + 6)), none, none] [] τ Q) (k2 : ¬ y1 = y0 → Q (.inl (some (AI 0))) τ) : G d 268 577 [vQ r0, vQ r1, vQ r2, vQ r3, vI x4, none, none] [AI y0, AI y1] τ Q := by
  refine g_br2 rfl (t := 1296) rfl (fun c1 => ?_) (fun c1 => ?_)
  · have c1 : y1 = y0 := of_decide_eq_true c1
    refine g_sx 2 (pc1 := 23) (L1 := [vQ r0, vQ r1, vQ r2, vQ r3, vI (wr (x4 + 6)), none, none]) (st1 := []) rfl ?_
    exact (k1 c1)
  · have c1 : ¬ y1 = y0 := of_decide_eq_false c1
    refine g_sk 1 (pc1 := 581) (st1 := [AI 0]) rfl ?_
    refine g_zret rfl rfl (by decide) ?_
    exact (k2 c1)

set_option maxRecDepth 8192 in
theorem t268_598 {d : Nat} {τ : T2} {Q : RS → T2 → Prop} {x4 y0 : Int} {r0 r2 n1 : Nat} {r1 r3 : Option Nat} (hd : 1 ≤ d) (sh2 : tS τ r0 = (2, 100, n1)) (b3 : (0 : Int) ≤ (wr (x4 + 1)) ∧ (wr (x4 + 1)) < (n1 : Int)) (b4 : (0 : Int) ≤ (wr (x4 + 2)) ∧ (wr (x4 + 2)) < (n1 : Int)) (sh5 : tS τ r2 = (1, 21, 0)) (k1 : G (d - 1) 220 0 [vR r2, vI (tI τ r0 (wr (x4 + 1)).toNat), vI (tI τ r0 (wr (x4 + 2)).toNat)] [] τ (KC d 268 611 614 [vR r0, vQ r1, vR r2, vQ r3, vI x4, none, none] [AI y0] Q)) : G d 268 598 [vR r0, vQ r1, vR r2, vQ r3, vI x4, none, none] [AI y0] τ Q := by
  refine g_sk 5 (pc1 := 604) (st1 := [AI (wr (x4 + 1)), AR r0, AR r2, AI y0]) rfl ?_
  refine g_iald rfl sh2 (by decide) b3.1 b3.2 ?_
  refine g_sk 4 (pc1 := 610) (st1 := [AI (wr (x4 + 2)), AR r0, AI (tI τ r0 (wr (x4 + 1)).toNat), AR r2, AI y0]) rfl ?_
  refine g_iald rfl sh2 (by decide) b4.1 b4.2 ?_
  refine g_cv rfl rfl (by decide) rfl rfl (Nat.le_of_ble_eq_true rfl) (as2 := [AI (tI τ r0 (wr (x4 + 1)).toNat), AI (tI τ r0 (wr (x4 + 2)).toNat)]) rfl sh5 rfl (by omega) (L0 := [vR r2, vI (tI τ r0 (wr (x4 + 1)).toNat), vI (tI τ r0 (wr (x4 + 2)).toNat)]) rfl ?_
  exact k1

set_option maxRecDepth 8192 in
theorem t268_614 {d : Nat} {τ : T2} {Q : RS → T2 → Prop} {x4 y0 y1 : Int} {r0 r1 r2 r3 : Option Nat} (k1 : y1 = y0 → G d 268 23 [vQ r0, vQ r1, vQ r2, vQ r3, vI (wr (x4 + 6)), none, none] [] τ Q) (k2 : ¬ y1 = y0 → Q (.inl (some (AI 0))) τ) : G d 268 614 [vQ r0, vQ r1, vQ r2, vQ r3, vI x4, none, none] [AI y0, AI y1] τ Q := by
  refine g_br2 rfl (t := 1296) rfl (fun c1 => ?_) (fun c1 => ?_)
  · have c1 : y1 = y0 := of_decide_eq_true c1
    refine g_sx 2 (pc1 := 23) (L1 := [vQ r0, vQ r1, vQ r2, vQ r3, vI (wr (x4 + 6)), none, none]) (st1 := []) rfl ?_
    exact (k1 c1)
  · have c1 : ¬ y1 = y0 := of_decide_eq_false c1
    refine g_sk 1 (pc1 := 618) (st1 := [AI 0]) rfl ?_
    refine g_zret rfl rfl (by decide) ?_
    exact (k2 c1)

set_option maxRecDepth 8192 in
theorem t268_635 {d : Nat} {τ : T2} {Q : RS → T2 → Prop} {x4 y0 : Int} {r0 r2 n1 : Nat} {r1 r3 : Option Nat} (hd : 1 ≤ d) (sh2 : tS τ r0 = (2, 100, n1)) (b3 : (0 : Int) ≤ (wr (x4 + 1)) ∧ (wr (x4 + 1)) < (n1 : Int)) (b4 : (0 : Int) ≤ (wr (x4 + 2)) ∧ (wr (x4 + 2)) < (n1 : Int)) (sh5 : tS τ r2 = (1, 21, 0)) (k1 : G (d - 1) 221 0 [vR r2, vI (tI τ r0 (wr (x4 + 1)).toNat), vI (tI τ r0 (wr (x4 + 2)).toNat)] [] τ (KC d 268 648 651 [vR r0, vQ r1, vR r2, vQ r3, vI x4, none, none] [AI y0] Q)) : G d 268 635 [vR r0, vQ r1, vR r2, vQ r3, vI x4, none, none] [AI y0] τ Q := by
  refine g_sk 5 (pc1 := 641) (st1 := [AI (wr (x4 + 1)), AR r0, AR r2, AI y0]) rfl ?_
  refine g_iald rfl sh2 (by decide) b3.1 b3.2 ?_
  refine g_sk 4 (pc1 := 647) (st1 := [AI (wr (x4 + 2)), AR r0, AI (tI τ r0 (wr (x4 + 1)).toNat), AR r2, AI y0]) rfl ?_
  refine g_iald rfl sh2 (by decide) b4.1 b4.2 ?_
  refine g_cv rfl rfl (by decide) rfl rfl (Nat.le_of_ble_eq_true rfl) (as2 := [AI (tI τ r0 (wr (x4 + 1)).toNat), AI (tI τ r0 (wr (x4 + 2)).toNat)]) rfl sh5 rfl (by omega) (L0 := [vR r2, vI (tI τ r0 (wr (x4 + 1)).toNat), vI (tI τ r0 (wr (x4 + 2)).toNat)]) rfl ?_
  exact k1

set_option maxRecDepth 8192 in
theorem t268_651 {d : Nat} {τ : T2} {Q : RS → T2 → Prop} {x4 y0 y1 : Int} {r0 r1 r2 r3 : Option Nat} (k1 : y1 = y0 → G d 268 23 [vQ r0, vQ r1, vQ r2, vQ r3, vI (wr (x4 + 6)), none, none] [] τ Q) (k2 : ¬ y1 = y0 → Q (.inl (some (AI 0))) τ) : G d 268 651 [vQ r0, vQ r1, vQ r2, vQ r3, vI x4, none, none] [AI y0, AI y1] τ Q := by
  refine g_br2 rfl (t := 1296) rfl (fun c1 => ?_) (fun c1 => ?_)
  · have c1 : y1 = y0 := of_decide_eq_true c1
    refine g_sx 2 (pc1 := 23) (L1 := [vQ r0, vQ r1, vQ r2, vQ r3, vI (wr (x4 + 6)), none, none]) (st1 := []) rfl ?_
    exact (k1 c1)
  · have c1 : ¬ y1 = y0 := of_decide_eq_false c1
    refine g_sk 1 (pc1 := 655) (st1 := [AI 0]) rfl ?_
    refine g_zret rfl rfl (by decide) ?_
    exact (k2 c1)

set_option maxRecDepth 8192 in
theorem t268_666 {d : Nat} {τ : T2} {Q : RS → T2 → Prop} {x4 y0 : Int} {r0 r2 n1 : Nat} {r1 r3 : Option Nat} (hd : 1 ≤ d) (sh2 : tS τ r0 = (2, 100, n1)) (b3 : (0 : Int) ≤ (wr (x4 + 1)) ∧ (wr (x4 + 1)) < (n1 : Int)) (sh4 : tS τ r2 = (1, 21, 0)) (k1 : G (d - 1) 223 0 [vR r2, vI (tI τ r0 (wr (x4 + 1)).toNat)] [] τ (KC d 268 673 676 [vR r0, vQ r1, vR r2, vQ r3, vI x4, none, none] [AI y0] Q)) : G d 268 666 [vR r0, vQ r1, vR r2, vQ r3, vI x4, none, none] [AI y0] τ Q := by
  refine g_sk 5 (pc1 := 672) (st1 := [AI (wr (x4 + 1)), AR r0, AR r2, AI y0]) rfl ?_
  refine g_iald rfl sh2 (by decide) b3.1 b3.2 ?_
  refine g_cv rfl rfl (by decide) rfl rfl (Nat.le_of_ble_eq_true rfl) (as2 := [AI (tI τ r0 (wr (x4 + 1)).toNat)]) rfl sh4 rfl (by omega) (L0 := [vR r2, vI (tI τ r0 (wr (x4 + 1)).toNat)]) rfl ?_
  exact k1

set_option maxRecDepth 8192 in
theorem t268_676 {d : Nat} {τ : T2} {Q : RS → T2 → Prop} {x4 y0 y1 : Int} {r0 r1 r2 r3 : Option Nat} (k1 : y1 = y0 → G d 268 23 [vQ r0, vQ r1, vQ r2, vQ r3, vI (wr (x4 + 6)), none, none] [] τ Q) (k2 : ¬ y1 = y0 → Q (.inl (some (AI 0))) τ) : G d 268 676 [vQ r0, vQ r1, vQ r2, vQ r3, vI x4, none, none] [AI y0, AI y1] τ Q := by
  refine g_br2 rfl (t := 1296) rfl (fun c1 => ?_) (fun c1 => ?_)
  · have c1 : y1 = y0 := of_decide_eq_true c1
    refine g_sx 2 (pc1 := 23) (L1 := [vQ r0, vQ r1, vQ r2, vQ r3, vI (wr (x4 + 6)), none, none]) (st1 := []) rfl ?_
    exact (k1 c1)
  · have c1 : ¬ y1 = y0 := of_decide_eq_false c1
    refine g_sk 1 (pc1 := 680) (st1 := [AI 0]) rfl ?_
    refine g_zret rfl rfl (by decide) ?_
    exact (k2 c1)

set_option maxRecDepth 8192 in
theorem t268_691 {d : Nat} {τ : T2} {Q : RS → T2 → Prop} {x4 y0 : Int} {r0 r2 n1 : Nat} {r1 r3 : Option Nat} (hd : 1 ≤ d) (sh2 : tS τ r0 = (2, 100, n1)) (b3 : (0 : Int) ≤ (wr (x4 + 1)) ∧ (wr (x4 + 1)) < (n1 : Int)) (sh4 : tS τ r2 = (1, 21, 0)) (k1 : G (d - 1) 224 0 [vR r2, vI (tI τ r0 (wr (x4 + 1)).toNat), none, none, none] [] τ (KC d 268 698 701 [vR r0, vQ r1, vR r2, vQ r3, vI x4, none, none] [AI y0] Q)) : G d 268 691 [vR r0, vQ r1, vR r2, vQ r3, vI x4, none, none] [AI y0] τ Q := by
  refine g_sk 5 (pc1 := 697) (st1 := [AI (wr (x4 + 1)), AR r0, AR r2, AI y0]) rfl ?_
  refine g_iald rfl sh2 (by decide) b3.1 b3.2 ?_
  refine g_cv rfl rfl (by decide) rfl rfl (Nat.le_of_ble_eq_true rfl) (as2 := [AI (tI τ r0 (wr (x4 + 1)).toNat)]) rfl sh4 rfl (by omega) (L0 := [vR r2, vI (tI τ r0 (wr (x4 + 1)).toNat), none, none, none]) rfl ?_
  exact k1

set_option maxRecDepth 8192 in
theorem t268_701 {d : Nat} {τ : T2} {Q : RS → T2 → Prop} {x4 y0 y1 : Int} {r0 r1 r2 r3 : Option Nat} (k1 : y1 = y0 → G d 268 23 [vQ r0, vQ r1, vQ r2, vQ r3, vI (wr (x4 + 6)), none, none] [] τ Q) (k2 : ¬ y1 = y0 → Q (.inl (some (AI 0))) τ) : G d 268 701 [vQ r0, vQ r1, vQ r2, vQ r3, vI x4, none, none] [AI y0, AI y1] τ Q := by
  refine g_br2 rfl (t := 1296) rfl (fun c1 => ?_) (fun c1 => ?_)
  · have c1 : y1 = y0 := of_decide_eq_true c1
    refine g_sx 2 (pc1 := 23) (L1 := [vQ r0, vQ r1, vQ r2, vQ r3, vI (wr (x4 + 6)), none, none]) (st1 := []) rfl ?_
    exact (k1 c1)
  · have c1 : ¬ y1 = y0 := of_decide_eq_false c1
    refine g_sk 1 (pc1 := 705) (st1 := [AI 0]) rfl ?_
    refine g_zret rfl rfl (by decide) ?_
    exact (k2 c1)

set_option maxRecDepth 8192 in
theorem t268_722 {d : Nat} {τ : T2} {Q : RS → T2 → Prop} {x4 y0 : Int} {r0 r2 n1 : Nat} {r1 r3 : Option Nat} (hd : 1 ≤ d) (sh2 : tS τ r0 = (2, 100, n1)) (b3 : (0 : Int) ≤ (wr (x4 + 1)) ∧ (wr (x4 + 1)) < (n1 : Int)) (b4 : (0 : Int) ≤ (wr (x4 + 2)) ∧ (wr (x4 + 2)) < (n1 : Int)) (sh5 : tS τ r2 = (1, 21, 0)) (k1 : G (d - 1) 222 0 [vR r2, vI (tI τ r0 (wr (x4 + 1)).toNat), vI (tI τ r0 (wr (x4 + 2)).toNat), none, none] [] τ (KC d 268 735 738 [vR r0, vQ r1, vR r2, vQ r3, vI x4, none, none] [AI y0] Q)) : G d 268 722 [vR r0, vQ r1, vR r2, vQ r3, vI x4, none, none] [AI y0] τ Q := by
  refine g_sk 5 (pc1 := 728) (st1 := [AI (wr (x4 + 1)), AR r0, AR r2, AI y0]) rfl ?_
  refine g_iald rfl sh2 (by decide) b3.1 b3.2 ?_
  refine g_sk 4 (pc1 := 734) (st1 := [AI (wr (x4 + 2)), AR r0, AI (tI τ r0 (wr (x4 + 1)).toNat), AR r2, AI y0]) rfl ?_
  refine g_iald rfl sh2 (by decide) b4.1 b4.2 ?_
  refine g_cv rfl rfl (by decide) rfl rfl (Nat.le_of_ble_eq_true rfl) (as2 := [AI (tI τ r0 (wr (x4 + 1)).toNat), AI (tI τ r0 (wr (x4 + 2)).toNat)]) rfl sh5 rfl (by omega) (L0 := [vR r2, vI (tI τ r0 (wr (x4 + 1)).toNat), vI (tI τ r0 (wr (x4 + 2)).toNat), none, none]) rfl ?_
  exact k1

set_option maxRecDepth 8192 in
theorem t268_738 {d : Nat} {τ : T2} {Q : RS → T2 → Prop} {x4 y0 y1 : Int} {r0 r1 r2 r3 : Option Nat} (k1 : y1 = y0 → G d 268 23 [vQ r0, vQ r1, vQ r2, vQ r3, vI (wr (x4 + 6)), none, none] [] τ Q) (k2 : ¬ y1 = y0 → Q (.inl (some (AI 0))) τ) : G d 268 738 [vQ r0, vQ r1, vQ r2, vQ r3, vI x4, none, none] [AI y0, AI y1] τ Q := by
  refine g_br2 rfl (t := 1296) rfl (fun c1 => ?_) (fun c1 => ?_)
  · have c1 : y1 = y0 := of_decide_eq_true c1
    refine g_sx 2 (pc1 := 23) (L1 := [vQ r0, vQ r1, vQ r2, vQ r3, vI (wr (x4 + 6)), none, none]) (st1 := []) rfl ?_
    exact (k1 c1)
  · have c1 : ¬ y1 = y0 := of_decide_eq_false c1
    refine g_sk 1 (pc1 := 742) (st1 := [AI 0]) rfl ?_
    refine g_zret rfl rfl (by decide) ?_
    exact (k2 c1)

set_option maxRecDepth 8192 in
theorem t268_759 {d : Nat} {τ : T2} {Q : RS → T2 → Prop} {x4 y0 : Int} {r0 r2 n1 : Nat} {r1 r3 : Option Nat} (hd : 1 ≤ d) (sh2 : tS τ r0 = (2, 100, n1)) (b3 : (0 : Int) ≤ (wr (x4 + 1)) ∧ (wr (x4 + 1)) < (n1 : Int)) (b4 : (0 : Int) ≤ (wr (x4 + 2)) ∧ (wr (x4 + 2)) < (n1 : Int)) (sh5 : tS τ r2 = (1, 21, 0)) (k1 : G (d - 1) 225 0 [vR r2, vI (tI τ r0 (wr (x4 + 1)).toNat), vI (tI τ r0 (wr (x4 + 2)).toNat), none, none, none, none, none, none] [] τ (KC d 268 772 775 [vR r0, vQ r1, vR r2, vQ r3, vI x4, none, none] [AI y0] Q)) : G d 268 759 [vR r0, vQ r1, vR r2, vQ r3, vI x4, none, none] [AI y0] τ Q := by
  refine g_sk 5 (pc1 := 765) (st1 := [AI (wr (x4 + 1)), AR r0, AR r2, AI y0]) rfl ?_
  refine g_iald rfl sh2 (by decide) b3.1 b3.2 ?_
  refine g_sk 4 (pc1 := 771) (st1 := [AI (wr (x4 + 2)), AR r0, AI (tI τ r0 (wr (x4 + 1)).toNat), AR r2, AI y0]) rfl ?_
  refine g_iald rfl sh2 (by decide) b4.1 b4.2 ?_
  refine g_cv rfl rfl (by decide) rfl rfl (Nat.le_of_ble_eq_true rfl) (as2 := [AI (tI τ r0 (wr (x4 + 1)).toNat), AI (tI τ r0 (wr (x4 + 2)).toNat)]) rfl sh5 rfl (by omega) (L0 := [vR r2, vI (tI τ r0 (wr (x4 + 1)).toNat), vI (tI τ r0 (wr (x4 + 2)).toNat), none, none, none, none, none, none]) rfl ?_
  exact k1

set_option maxRecDepth 8192 in
theorem t268_775 {d : Nat} {τ : T2} {Q : RS → T2 → Prop} {x4 y0 y1 : Int} {r0 r1 r2 r3 : Option Nat} (k1 : y1 = y0 → G d 268 23 [vQ r0, vQ r1, vQ r2, vQ r3, vI (wr (x4 + 6)), none, none] [] τ Q) (k2 : ¬ y1 = y0 → Q (.inl (some (AI 0))) τ) : G d 268 775 [vQ r0, vQ r1, vQ r2, vQ r3, vI x4, none, none] [AI y0, AI y1] τ Q := by
  refine g_br2 rfl (t := 1296) rfl (fun c1 => ?_) (fun c1 => ?_)
  · have c1 : y1 = y0 := of_decide_eq_true c1
    refine g_sx 2 (pc1 := 23) (L1 := [vQ r0, vQ r1, vQ r2, vQ r3, vI (wr (x4 + 6)), none, none]) (st1 := []) rfl ?_
    exact (k1 c1)
  · have c1 : ¬ y1 = y0 := of_decide_eq_false c1
    refine g_sk 1 (pc1 := 779) (st1 := [AI 0]) rfl ?_
    refine g_zret rfl rfl (by decide) ?_
    exact (k2 c1)

set_option maxRecDepth 8192 in
theorem t268_791 {d : Nat} {τ : T2} {Q : RS → T2 → Prop} {x4 y0 : Int} {r0 r2 n1 : Nat} {r1 r3 : Option Nat} (hd : 1 ≤ d) (sh2 : tS τ r0 = (2, 100, n1)) (b3 : (0 : Int) ≤ (wr (x4 + 1)) ∧ (wr (x4 + 1)) < (n1 : Int)) (sh4 : tS τ r2 = (1, 21, 0)) (k1 : G (d - 1) 226 0 [vR r2, vI (tI τ r0 (wr (x4 + 1)).toNat)] [] τ (KC d 268 800 803 [vR r0, vQ r1, vR r2, vQ r3, vI x4, vI y0, none] [] Q)) : G d 268 791 [vR r0, vQ r1, vR r2, vQ r3, vI x4, none, none] [AI y0] τ Q := by
  refine g_sx 6 (pc1 := 799) (L1 := [vR r0, vQ r1, vR r2, vQ r3, vI x4, vI y0, none]) (st1 := [AI (wr (x4 + 1)), AR r0, AR r2]) rfl ?_
  refine g_iald rfl sh2 (by decide) b3.1 b3.2 ?_
  refine g_cv rfl rfl (by decide) rfl rfl (Nat.le_of_ble_eq_true rfl) (as2 := [AI (tI τ r0 (wr (x4 + 1)).toNat)]) rfl sh4 rfl (by omega) (L0 := [vR r2, vI (tI τ r0 (wr (x4 + 1)).toNat)]) rfl ?_
  exact k1

set_option maxRecDepth 8192 in
theorem t268_803 {d : Nat} {τ : T2} {Q : RS → T2 → Prop} {x4 x5 y0 : Int} {r2 : Nat} {r0 r1 r3 : Option Nat} (hd : 1 ≤ d) (sh1 : tS τ r2 = (1, 21, 0)) (k1 : G (d - 1) 162 0 [vR r2] [] τ (KC d 268 806 809 [vQ r0, vQ r1, vR r2, vQ r3, vI x4, vI x5, vI y0] [] Q)) : G d 268 803 [vQ r0, vQ r1, vR r2, vQ r3, vI x4, vI x5, none] [AI y0] τ Q := by
  refine g_sx 2 (pc1 := 806) (L1 := [vQ r0, vQ r1, vR r2, vQ r3, vI x4, vI x5, vI y0]) (st1 := [AR r2]) rfl ?_
  refine g_cv rfl rfl (by decide) rfl rfl (Nat.le_of_ble_eq_true rfl) (as2 := []) rfl sh1 rfl (by omega) (L0 := [vR r2]) rfl ?_
  exact k1

set_option maxRecDepth 8192 in
theorem t268_809 {d : Nat} {τ : T2} {Q : RS → T2 → Prop} {x4 x5 x6 y0 : Int} {r3 n3 : Nat} {r0 r1 r2 : Option Nat} (sh4 : tS τ r3 = (2, 3, n3)) (b5 : (0 : Int) ≤ 0 ∧ 0 < (n3 : Int)) (k1 : y0 = x5 → ¬ x5 = 0 → G d 268 23 [vQ r0, vQ r1, vQ r2, vR r3, vI (wr (x4 + 6)), none, none] [] τ Q) (k2 : y0 = x5 → x5 = 0 → (lcm (tI τ r3 0) x6) = 0 → G d 268 23 [vQ r0, vQ r1, vQ r2, vR r3, vI (wr (x4 + 6)), none, none] [] τ Q) (k3 : y0 = x5 → x5 = 0 → ¬ (lcm (tI τ r3 0) x6) = 0 → Q (.inl (some (AI 0))) τ) (k4 : ¬ y0 = x5 → Q (.inl (some (AI 0))) τ) : G d 268 809 [vQ r0, vQ r1, vQ r2, vR r3, vI x4, vI x5, vI x6] [AI y0] τ Q := by
  refine g_sk 1 (pc1 := 811) (st1 := [AI x5, AI y0]) rfl ?_
  refine g_br2 rfl (t := 816) rfl (fun c1 => ?_) (fun c1 => ?_)
  · have c1 : y0 = x5 := of_decide_eq_true c1
    refine g_sk 1 (pc1 := 818) (st1 := [AI x5]) rfl ?_
    refine g_br1 rfl (t := 833) rfl (fun c2 => ?_) (fun c2 => ?_)
    · have c2 : ¬ x5 = 0 := of_decide_eq_true c2
      refine g_sx 3 (pc1 := 23) (L1 := [vQ r0, vQ r1, vQ r2, vR r3, vI (wr (x4 + 6)), vI x5, vI x6]) (st1 := []) rfl ?_
      exact G_fg (lw2_k _ (lw2_k _ (lw2_k _ (lw2_k _ (lw2_k _ (lw2_f _ (lw2_f _ lw2_nil))))))) (k1 c1 c2)
    · have c2 : x5 = 0 := Decidable.of_not_not (of_decide_eq_false c2)
      refine g_sk 2 (pc1 := 823) (st1 := [AI 0, AR r3]) rfl ?_
      refine g_lald rfl sh4 b5.1 b5.2 ?_
      refine g_sk 3 (pc1 := 828) (st1 := [AI (lcm (tI τ r3 0) x6)]) rfl ?_
      refine g_br1 rfl (t := 833) rfl (fun c6 => ?_) (fun c6 => ?_)
      · have c6 : (lcm (tI τ r3 0) x6) = 0 := of_decide_eq_true c6
        refine g_sx 3 (pc1 := 23) (L1 := [vQ r0, vQ r1, vQ r2, vR r3, vI (wr (x4 + 6)), vI x5, vI x6]) (st1 := []) rfl ?_
        exact G_fg (lw2_k _ (lw2_k _ (lw2_k _ (lw2_k _ (lw2_k _ (lw2_f _ (lw2_f _ lw2_nil))))))) (k2 c1 c2 c6)
      · have c6 : ¬ (lcm (tI τ r3 0) x6) = 0 := of_decide_eq_false c6
        refine g_sk 1 (pc1 := 832) (st1 := [AI 0]) rfl ?_
        refine g_zret rfl rfl (by decide) ?_
        exact (k3 c1 c2 c6)
  · have c1 : ¬ y0 = x5 := of_decide_eq_false c1
    refine g_sk 1 (pc1 := 815) (st1 := [AI 0]) rfl ?_
    refine g_zret rfl rfl (by decide) ?_
    exact (k4 c1)

set_option maxRecDepth 8192 in
theorem t268_846 {d : Nat} {τ : T2} {Q : RS → T2 → Prop} {x4 y0 : Int} {r0 r2 n1 : Nat} {r1 r3 : Option Nat} (hd : 1 ≤ d) (sh2 : tS τ r0 = (2, 100, n1)) (b3 : (0 : Int) ≤ (wr (x4 + 1)) ∧ (wr (x4 + 1)) < (n1 : Int)) (sh4 : tS τ r2 = (1, 21, 0)) (k1 : G (d - 1) 227 0 [vR r2, vI (tI τ r0 (wr (x4 + 1)).toNat)] [] τ (KC d 268 853 856 [vR r0, vQ r1, vR r2, vQ r3, vI x4, none, none] [AI y0] Q)) : G d 268 846 [vR r0, vQ r1, vR r2, vQ r3, vI x4, none, none] [AI y0] τ Q := by
  refine g_sk 5 (pc1 := 852) (st1 := [AI (wr (x4 + 1)), AR r0, AR r2, AI y0]) rfl ?_
  refine g_iald rfl sh2 (by decide) b3.1 b3.2 ?_
  refine g_cv rfl rfl (by decide) rfl rfl (Nat.le_of_ble_eq_true rfl) (as2 := [AI (tI τ r0 (wr (x4 + 1)).toNat)]) rfl sh4 rfl (by omega) (L0 := [vR r2, vI (tI τ r0 (wr (x4 + 1)).toNat)]) rfl ?_
  exact k1

set_option maxRecDepth 8192 in
theorem t268_856 {d : Nat} {τ : T2} {Q : RS → T2 → Prop} {x4 y0 y1 : Int} {r0 r1 r2 r3 : Option Nat} (k1 : y1 = y0 → G d 268 23 [vQ r0, vQ r1, vQ r2, vQ r3, vI (wr (x4 + 6)), none, none] [] τ Q) (k2 : ¬ y1 = y0 → Q (.inl (some (AI 0))) τ) : G d 268 856 [vQ r0, vQ r1, vQ r2, vQ r3, vI x4, none, none] [AI y0, AI y1] τ Q := by
  refine g_br2 rfl (t := 1296) rfl (fun c1 => ?_) (fun c1 => ?_)
  · have c1 : y1 = y0 := of_decide_eq_true c1
    refine g_sx 2 (pc1 := 23) (L1 := [vQ r0, vQ r1, vQ r2, vQ r3, vI (wr (x4 + 6)), none, none]) (st1 := []) rfl ?_
    exact (k1 c1)
  · have c1 : ¬ y1 = y0 := of_decide_eq_false c1
    refine g_sk 1 (pc1 := 860) (st1 := [AI 0]) rfl ?_
    refine g_zret rfl rfl (by decide) ?_
    exact (k2 c1)

set_option maxRecDepth 8192 in
theorem t268_865 {d : Nat} {τ : T2} {Q : RS → T2 → Prop} {x4 y0 : Int} {r2 : Nat} {r0 r1 r3 : Option Nat} (hd : 1 ≤ d) (sh1 : tS τ r2 = (1, 21, 0)) (k1 : G (d - 1) 228 0 [vR r2] [] τ (KC d 268 866 869 [vQ r0, vQ r1, vR r2, vQ r3, vI x4, none, none] [AI y0] Q)) : G d 268 865 [vQ r0, vQ r1, vR r2, vQ r3, vI x4, none, none] [AI y0] τ Q := by
  refine g_sk 1 (pc1 := 866) (st1 := [AR r2, AI y0]) rfl ?_
  refine g_cv rfl rfl (by decide) rfl rfl (Nat.le_of_ble_eq_true rfl) (as2 := []) rfl sh1 rfl (by omega) (L0 := [vR r2]) rfl ?_
  exact k1

set_option maxRecDepth 8192 in
theorem t268_869 {d : Nat} {τ : T2} {Q : RS → T2 → Prop} {x4 y0 y1 : Int} {r0 r1 r2 r3 : Option Nat} (k1 : y1 = y0 → G d 268 23 [vQ r0, vQ r1, vQ r2, vQ r3, vI (wr (x4 + 6)), none, none] [] τ Q) (k2 : ¬ y1 = y0 → Q (.inl (some (AI 0))) τ) : G d 268 869 [vQ r0, vQ r1, vQ r2, vQ r3, vI x4, none, none] [AI y0, AI y1] τ Q := by
  refine g_br2 rfl (t := 1296) rfl (fun c1 => ?_) (fun c1 => ?_)
  · have c1 : y1 = y0 := of_decide_eq_true c1
    refine g_sx 2 (pc1 := 23) (L1 := [vQ r0, vQ r1, vQ r2, vQ r3, vI (wr (x4 + 6)), none, none]) (st1 := []) rfl ?_
    exact (k1 c1)
  · have c1 : ¬ y1 = y0 := of_decide_eq_false c1
    refine g_sk 1 (pc1 := 873) (st1 := [AI 0]) rfl ?_
    refine g_zret rfl rfl (by decide) ?_
    exact (k2 c1)

set_option maxRecDepth 8192 in
theorem t268_884 {d : Nat} {τ : T2} {Q : RS → T2 → Prop} {x4 y0 : Int} {r0 r2 n1 : Nat} {r1 r3 : Option Nat} (hd : 1 ≤ d) (sh2 : tS τ r0 = (2, 100, n1)) (b3 : (0 : Int) ≤ (wr (x4 + 1)) ∧ (wr (x4 + 1)) < (n1 : Int)) (sh4 : tS τ r2 = (1, 21, 0)) (k1 : G (d - 1) 229 0 [vR r2, vI (tI τ r0 (wr (x4 + 1)).toNat)] [] τ (KC d 268 891 894 [vR r0, vQ r1, vR r2, vQ r3, vI x4, none, none] [AI y0] Q)) : G d 268 884 [vR r0, vQ r1, vR r2, vQ r3, vI x4, none, none] [AI y0] τ Q := by
  refine g_sk 5 (pc1 := 890) (st1 := [AI (wr (x4 + 1)), AR r0, AR r2, AI y0]) rfl ?_
  refine g_iald rfl sh2 (by decide) b3.1 b3.2 ?_
  refine g_cv rfl rfl (by decide) rfl rfl (Nat.le_of_ble_eq_true rfl) (as2 := [AI (tI τ r0 (wr (x4 + 1)).toNat)]) rfl sh4 rfl (by omega) (L0 := [vR r2, vI (tI τ r0 (wr (x4 + 1)).toNat)]) rfl ?_
  exact k1

set_option maxRecDepth 8192 in
theorem t268_894 {d : Nat} {τ : T2} {Q : RS → T2 → Prop} {x4 y0 y1 : Int} {r0 r1 r2 r3 : Option Nat} (k1 : y1 = y0 → G d 268 23 [vQ r0, vQ r1, vQ r2, vQ r3, vI (wr (x4 + 6)), none, none] [] τ Q) (k2 : ¬ y1 = y0 → Q (.inl (some (AI 0))) τ) : G d 268 894 [vQ r0, vQ r1, vQ r2, vQ r3, vI x4, none, none] [AI y0, AI y1] τ Q := by
  refine g_br2 rfl (t := 1296) rfl (fun c1 => ?_) (fun c1 => ?_)
  · have c1 : y1 = y0 := of_decide_eq_true c1
    refine g_sx 2 (pc1 := 23) (L1 := [vQ r0, vQ r1, vQ r2, vQ r3, vI (wr (x4 + 6)), none, none]) (st1 := []) rfl ?_
    exact (k1 c1)
  · have c1 : ¬ y1 = y0 := of_decide_eq_false c1
    refine g_sk 1 (pc1 := 898) (st1 := [AI 0]) rfl ?_
    refine g_zret rfl rfl (by decide) ?_
    exact (k2 c1)

set_option maxRecDepth 8192 in
theorem t268_915 {d : Nat} {τ : T2} {Q : RS → T2 → Prop} {x4 y0 : Int} {r0 r2 n1 : Nat} {r1 r3 : Option Nat} (hd : 1 ≤ d) (sh2 : tS τ r0 = (2, 100, n1)) (b3 : (0 : Int) ≤ (wr (x4 + 1)) ∧ (wr (x4 + 1)) < (n1 : Int)) (b4 : (0 : Int) ≤ (wr (x4 + 2)) ∧ (wr (x4 + 2)) < (n1 : Int)) (sh5 : tS τ r2 = (1, 21, 0)) (k1 : G (d - 1) 231 0 [vR r2, vI (tI τ r0 (wr (x4 + 1)).toNat), vI (tI τ r0 (wr (x4 + 2)).toNat)] [] τ (KC d 268 928 931 [vR r0, vQ r1, vR r2, vQ r3, vI x4, none, none] [AI y0] Q)) : G d 268 915 [vR r0, vQ r1, vR r2, vQ r3, vI x4, none, none] [AI y0] τ Q := by
  refine g_sk 5 (pc1 := 921) (st1 := [AI (wr (x4 + 1)), AR r0, AR r2, AI y0]) rfl ?_
  refine g_iald rfl sh2 (by decide) b3.1 b3.2 ?_
  refine g_sk 4 (pc1 := 927) (st1 := [AI (wr (x4 + 2)), AR r0, AI (tI τ r0 (wr (x4 + 1)).toNat), AR r2, AI y0]) rfl ?_
  refine g_iald rfl sh2 (by decide) b4.1 b4.2 ?_
  refine g_cv rfl rfl (by decide) rfl rfl (Nat.le_of_ble_eq_true rfl) (as2 := [AI (tI τ r0 (wr (x4 + 1)).toNat), AI (tI τ r0 (wr (x4 + 2)).toNat)]) rfl sh5 rfl (by omega) (L0 := [vR r2, vI (tI τ r0 (wr (x4 + 1)).toNat), vI (tI τ r0 (wr (x4 + 2)).toNat)]) rfl ?_
  exact k1

set_option maxRecDepth 8192 in
theorem t268_931 {d : Nat} {τ : T2} {Q : RS → T2 → Prop} {x4 y0 y1 : Int} {r0 r1 r2 r3 : Option Nat} (k1 : y1 = y0 → G d 268 23 [vQ r0, vQ r1, vQ r2, vQ r3, vI (wr (x4 + 6)), none, none] [] τ Q) (k2 : ¬ y1 = y0 → Q (.inl (some (AI 0))) τ) : G d 268 931 [vQ r0, vQ r1, vQ r2, vQ r3, vI x4, none, none] [AI y0, AI y1] τ Q := by
  refine g_br2 rfl (t := 1296) rfl (fun c1 => ?_) (fun c1 => ?_)
  · have c1 : y1 = y0 := of_decide_eq_true c1
    refine g_sx 2 (pc1 := 23) (L1 := [vQ r0, vQ r1, vQ r2, vQ r3, vI (wr (x4 + 6)), none, none]) (st1 := []) rfl ?_
    exact (k1 c1)
  · have c1 : ¬ y1 = y0 := of_decide_eq_false c1
    refine g_sk 1 (pc1 := 935) (st1 := [AI 0]) rfl ?_
    refine g_zret rfl rfl (by decide) ?_
    exact (k2 c1)

set_option maxRecDepth 8192 in
theorem t268_958 {d : Nat} {τ : T2} {Q : RS → T2 → Prop} {x4 y0 : Int} {r0 r2 n1 : Nat} {r1 r3 : Option Nat} (hd : 1 ≤ d) (sh2 : tS τ r0 = (2, 100, n1)) (b3 : (0 : Int) ≤ (wr (x4 + 1)) ∧ (wr (x4 + 1)) < (n1 : Int)) (b4 : (0 : Int) ≤ (wr (x4 + 2)) ∧ (wr (x4 + 2)) < (n1 : Int)) (b5 : (0 : Int) ≤ (wr (x4 + 3)) ∧ (wr (x4 + 3)) < (n1 : Int)) (sh6 : tS τ r2 = (1, 21, 0)) (k1 : G (d - 1) 232 0 [vR r2, vI (tI τ r0 (wr (x4 + 1)).toNat), vI (tI τ r0 (wr (x4 + 2)).toNat), vI (tI τ r0 (wr (x4 + 3)).toNat), none, none] [] τ (KC d 268 977 980 [vR r0, vQ r1, vR r2, vQ r3, vI x4, none, none] [AI y0] Q)) : G d 268 958 [vR r0, vQ r1, vR r2, vQ r3, vI x4, none, none] [AI y0] τ Q := by
  refine g_sk 5 (pc1 := 964) (st1 := [AI (wr (x4 + 1)), AR r0, AR r2, AI y0]) rfl ?_
  refine g_iald rfl sh2 (by decide) b3.1 b3.2 ?_
  refine g_sk 4 (pc1 := 970) (st1 := [AI (wr (x4 + 2)), AR r0, AI (tI τ r0 (wr (x4 + 1)).toNat), AR r2, AI y0]) rfl ?_
  refine g_iald rfl sh2 (by decide) b4.1 b4.2 ?_
  refine g_sk 4 (pc1 := 976) (st1 := [AI (wr (x4 + 3)), AR r0, AI (tI τ r0 (wr (x4 + 2)).toNat), AI (tI τ r0 (wr (x4 + 1)).toNat), AR r2, AI y0]) rfl ?_
  refine g_iald rfl sh2 (by decide) b5.1 b5.2 ?_
  refine g_cv rfl rfl (by decide) rfl rfl (Nat.le_of_ble_eq_true rfl) (as2 := [AI (tI τ r0 (wr (x4 + 1)).toNat), AI (tI τ r0 (wr (x4 + 2)).toNat), AI (tI τ r0 (wr (x4 + 3)).toNat)]) rfl sh6 rfl (by omega) (L0 := [vR r2, vI (tI τ r0 (wr (x4 + 1)).toNat), vI (tI τ r0 (wr (x4 + 2)).toNat), vI (tI τ r0 (wr (x4 + 3)).toNat), none, none]) rfl ?_
  exact k1

set_option maxRecDepth 8192 in
theorem t268_980 {d : Nat} {τ : T2} {Q : RS → T2 → Prop} {x4 y0 y1 : Int} {r0 r1 r2 r3 : Option Nat} (k1 : y1 = y0 → G d 268 23 [vQ r0, vQ r1, vQ r2, vQ r3, vI (wr (x4 + 6)), none, none] [] τ Q) (k2 : ¬ y1 = y0 → Q (.inl (some (AI 0))) τ) : G d 268 980 [vQ r0, vQ r1, vQ r2, vQ r3, vI x4, none, none] [AI y0, AI y1] τ Q := by
  refine g_br2 rfl (t := 1296) rfl (fun c1 => ?_) (fun c1 => ?_)
  · have c1 : y1 = y0 := of_decide_eq_true c1
    refine g_sx 2 (pc1 := 23) (L1 := [vQ r0, vQ r1, vQ r2, vQ r3, vI (wr (x4 + 6)), none, none]) (st1 := []) rfl ?_
    exact (k1 c1)
  · have c1 : ¬ y1 = y0 := of_decide_eq_false c1
    refine g_sk 1 (pc1 := 984) (st1 := [AI 0]) rfl ?_
    refine g_zret rfl rfl (by decide) ?_
    exact (k2 c1)

set_option maxRecDepth 8192 in
theorem t268_1001 {d : Nat} {τ : T2} {Q : RS → T2 → Prop} {x4 y0 : Int} {r0 r2 n1 : Nat} {r1 r3 : Option Nat} (hd : 1 ≤ d) (sh2 : tS τ r0 = (2, 100, n1)) (b3 : (0 : Int) ≤ (wr (x4 + 1)) ∧ (wr (x4 + 1)) < (n1 : Int)) (b4 : (0 : Int) ≤ (wr (x4 + 2)) ∧ (wr (x4 + 2)) < (n1 : Int)) (sh5 : tS τ r2 = (1, 21, 0)) (k1 : G (d - 1) 233 0 [vR r2, vI (tI τ r0 (wr (x4 + 1)).toNat), vI (tI τ r0 (wr (x4 + 2)).toNat), none, none, none] [] τ (KC d 268 1014 1017 [vR r0, vQ r1, vR r2, vQ r3, vI x4, none, none] [AI y0] Q)) : G d 268 1001 [vR r0, vQ r1, vR r2, vQ r3, vI x4, none, none] [AI y0] τ Q := by
  refine g_sk 5 (pc1 := 1007) (st1 := [AI (wr (x4 + 1)), AR r0, AR r2, AI y0]) rfl ?_
  refine g_iald rfl sh2 (by decide) b3.1 b3.2 ?_
  refine g_sk 4 (pc1 := 1013) (st1 := [AI (wr (x4 + 2)), AR r0, AI (tI τ r0 (wr (x4 + 1)).toNat), AR r2, AI y0]) rfl ?_
  refine g_iald rfl sh2 (by decide) b4.1 b4.2 ?_
  refine g_cv rfl rfl (by decide) rfl rfl (Nat.le_of_ble_eq_true rfl) (as2 := [AI (tI τ r0 (wr (x4 + 1)).toNat), AI (tI τ r0 (wr (x4 + 2)).toNat)]) rfl sh5 rfl (by omega) (L0 := [vR r2, vI (tI τ r0 (wr (x4 + 1)).toNat), vI (tI τ r0 (wr (x4 + 2)).toNat), none, none, none]) rfl ?_
  exact k1

set_option maxRecDepth 8192 in
theorem t268_1017 {d : Nat} {τ : T2} {Q : RS → T2 → Prop} {x4 y0 y1 : Int} {r0 r1 r2 r3 : Option Nat} (k1 : y1 = y0 → G d 268 23 [vQ r0, vQ r1, vQ r2, vQ r3, vI (wr (x4 + 6)), none, none] [] τ Q) (k2 : ¬ y1 = y0 → Q (.inl (some (AI 0))) τ) : G d 268 1017 [vQ r0, vQ r1, vQ r2, vQ r3, vI x4, none, none] [AI y0, AI y1] τ Q := by
  refine g_br2 rfl (t := 1296) rfl (fun c1 => ?_) (fun c1 => ?_)
  · have c1 : y1 = y0 := of_decide_eq_true c1
    refine g_sx 2 (pc1 := 23) (L1 := [vQ r0, vQ r1, vQ r2, vQ r3, vI (wr (x4 + 6)), none, none]) (st1 := []) rfl ?_
    exact (k1 c1)
  · have c1 : ¬ y1 = y0 := of_decide_eq_false c1
    refine g_sk 1 (pc1 := 1021) (st1 := [AI 0]) rfl ?_
    refine g_zret rfl rfl (by decide) ?_
    exact (k2 c1)

set_option maxRecDepth 8192 in
theorem t268_1038 {d : Nat} {τ : T2} {Q : RS → T2 → Prop} {x4 y0 : Int} {r0 r2 n1 : Nat} {r1 r3 : Option Nat} (hd : 1 ≤ d) (sh2 : tS τ r0 = (2, 100, n1)) (b3 : (0 : Int) ≤ (wr (x4 + 1)) ∧ (wr (x4 + 1)) < (n1 : Int)) (b4 : (0 : Int) ≤ (wr (x4 + 2)) ∧ (wr (x4 + 2)) < (n1 : Int)) (sh5 : tS τ r2 = (1, 21, 0)) (k1 : G (d - 1) 234 0 [vR r2, vI (tI τ r0 (wr (x4 + 1)).toNat), vI (tI τ r0 (wr (x4 + 2)).toNat), none] [] τ (KC d 268 1051 1054 [vR r0, vQ r1, vR r2, vQ r3, vI x4, none, none] [AI y0] Q)) : G d 268 1038 [vR r0, vQ r1, vR r2, vQ r3, vI x4, none, none] [AI y0] τ Q := by
  refine g_sk 5 (pc1 := 1044) (st1 := [AI (wr (x4 + 1)), AR r0, AR r2, AI y0]) rfl ?_
  refine g_iald rfl sh2 (by decide) b3.1 b3.2 ?_
  refine g_sk 4 (pc1 := 1050) (st1 := [AI (wr (x4 + 2)), AR r0, AI (tI τ r0 (wr (x4 + 1)).toNat), AR r2, AI y0]) rfl ?_
  refine g_iald rfl sh2 (by decide) b4.1 b4.2 ?_
  refine g_cv rfl rfl (by decide) rfl rfl (Nat.le_of_ble_eq_true rfl) (as2 := [AI (tI τ r0 (wr (x4 + 1)).toNat), AI (tI τ r0 (wr (x4 + 2)).toNat)]) rfl sh5 rfl (by omega) (L0 := [vR r2, vI (tI τ r0 (wr (x4 + 1)).toNat), vI (tI τ r0 (wr (x4 + 2)).toNat), none]) rfl ?_
  exact k1

set_option maxRecDepth 8192 in
theorem t268_1054 {d : Nat} {τ : T2} {Q : RS → T2 → Prop} {x4 y0 y1 : Int} {r0 r1 r2 r3 : Option Nat} (k1 : y1 = y0 → G d 268 23 [vQ r0, vQ r1, vQ r2, vQ r3, vI (wr (x4 + 6)), none, none] [] τ Q) (k2 : ¬ y1 = y0 → Q (.inl (some (AI 0))) τ) : G d 268 1054 [vQ r0, vQ r1, vQ r2, vQ r3, vI x4, none, none] [AI y0, AI y1] τ Q := by
  refine g_br2 rfl (t := 1296) rfl (fun c1 => ?_) (fun c1 => ?_)
  · have c1 : y1 = y0 := of_decide_eq_true c1
    refine g_sx 2 (pc1 := 23) (L1 := [vQ r0, vQ r1, vQ r2, vQ r3, vI (wr (x4 + 6)), none, none]) (st1 := []) rfl ?_
    exact (k1 c1)
  · have c1 : ¬ y1 = y0 := of_decide_eq_false c1
    refine g_sk 1 (pc1 := 1058) (st1 := [AI 0]) rfl ?_
    refine g_zret rfl rfl (by decide) ?_
    exact (k2 c1)

set_option maxRecDepth 8192 in
theorem t268_1081 {d : Nat} {τ : T2} {Q : RS → T2 → Prop} {x4 y0 : Int} {r0 r2 n1 : Nat} {r1 r3 : Option Nat} (hd : 1 ≤ d) (sh2 : tS τ r0 = (2, 100, n1)) (b3 : (0 : Int) ≤ (wr (x4 + 1)) ∧ (wr (x4 + 1)) < (n1 : Int)) (b4 : (0 : Int) ≤ (wr (x4 + 2)) ∧ (wr (x4 + 2)) < (n1 : Int)) (b5 : (0 : Int) ≤ (wr (x4 + 3)) ∧ (wr (x4 + 3)) < (n1 : Int)) (sh6 : tS τ r2 = (1, 21, 0)) (k1 : G (d - 1) 235 0 [vR r2, vI (tI τ r0 (wr (x4 + 1)).toNat), vI (tI τ r0 (wr (x4 + 2)).toNat), vI (tI τ r0 (wr (x4 + 3)).toNat), none] [] τ (KC d 268 1100 1103 [vR r0, vQ r1, vR r2, vQ r3, vI x4, none, none] [AI y0] Q)) : G d 268 1081 [vR r0, vQ r1, vR r2, vQ r3, vI x4, none, none] [AI y0] τ Q := by
  refine g_sk 5 (pc1 := 1087) (st1 := [AI (wr (x4 + 1)), AR r0, AR r2, AI y0]) rfl ?_
  refine g_iald rfl sh2 (by decide) b3.1 b3.2 ?_
  refine g_sk 4 (pc1 := 1093) (st1 := [AI (wr (x4 + 2)), AR r0, AI (tI τ r0 (wr (x4 + 1)).toNat), AR r2, AI y0]) rfl ?_
  refine g_iald rfl sh2 (by decide) b4.1 b4.2 ?_
  refine g_sk 4 (pc1 := 1099) (st1 := [AI (wr (x4 + 3)), AR r0, AI (tI τ r0 (wr (x4 + 2)).toNat), AI (tI τ r0 (wr (x4 + 1)).toNat), AR r2, AI y0]) rfl ?_
  refine g_iald rfl sh2 (by decide) b5.1 b5.2 ?_
  refine g_cv rfl rfl (by decide) rfl rfl (Nat.le_of_ble_eq_true rfl) (as2 := [AI (tI τ r0 (wr (x4 + 1)).toNat), AI (tI τ r0 (wr (x4 + 2)).toNat), AI (tI τ r0 (wr (x4 + 3)).toNat)]) rfl sh6 rfl (by omega) (L0 := [vR r2, vI (tI τ r0 (wr (x4 + 1)).toNat), vI (tI τ r0 (wr (x4 + 2)).toNat), vI (tI τ r0 (wr (x4 + 3)).toNat), none]) rfl ?_
  exact k1

set_option maxRecDepth 8192 in
theorem t268_1103 {d : Nat} {τ : T2} {Q : RS → T2 → Prop} {x4 y0 y1 : Int} {r0 r1 r2 r3 : Option Nat} (k1 : y1 = y0 → G d 268 23 [vQ r0, vQ r1, vQ r2, vQ r3, vI (wr (x4 + 6)), none, none] [] τ Q) (k2 : ¬ y1 = y0 → Q (.inl (some (AI 0))) τ) : G d 268 1103 [vQ r0, vQ r1, vQ r2, vQ r3, vI x4, none, none] [AI y0, AI y1] τ Q := by
  refine g_br2 rfl (t := 1296) rfl (fun c1 => ?_) (fun c1 => ?_)
  · have c1 : y1 = y0 := of_decide_eq_true c1
    refine g_sx 2 (pc1 := 23) (L1 := [vQ r0, vQ r1, vQ r2, vQ r3, vI (wr (x4 + 6)), none, none]) (st1 := []) rfl ?_
    exact (k1 c1)
  · have c1 : ¬ y1 = y0 := of_decide_eq_false c1
    refine g_sk 1 (pc1 := 1107) (st1 := [AI 0]) rfl ?_
    refine g_zret rfl rfl (by decide) ?_
    exact (k2 c1)

set_option maxRecDepth 8192 in
theorem t268_1124 {d : Nat} {τ : T2} {Q : RS → T2 → Prop} {x4 y0 : Int} {r0 r2 n1 : Nat} {r1 r3 : Option Nat} (hd : 1 ≤ d) (sh2 : tS τ r0 = (2, 100, n1)) (b3 : (0 : Int) ≤ (wr (x4 + 1)) ∧ (wr (x4 + 1)) < (n1 : Int)) (b4 : (0 : Int) ≤ (wr (x4 + 2)) ∧ (wr (x4 + 2)) < (n1 : Int)) (sh5 : tS τ r2 = (1, 21, 0)) (k1 : G (d - 1) 237 0 [vR r2, vI (tI τ r0 (wr (x4 + 1)).toNat), vI (tI τ r0 (wr (x4 + 2)).toNat), none, none, none, none] [] τ (KC d 268 1137 1140 [vR r0, vQ r1, vR r2, vQ r3, vI x4, none, none] [AI y0] Q)) : G d 268 1124 [vR r0, vQ r1, vR r2, vQ r3, vI x4, none, none] [AI y0] τ Q := by
  refine g_sk 5 (pc1 := 1130) (st1 := [AI (wr (x4 + 1)), AR r0, AR r2, AI y0]) rfl ?_
  refine g_iald rfl sh2 (by decide) b3.1 b3.2 ?_
  refine g_sk 4 (pc1 := 1136) (st1 := [AI (wr (x4 + 2)), AR r0, AI (tI τ r0 (wr (x4 + 1)).toNat), AR r2, AI y0]) rfl ?_
  refine g_iald rfl sh2 (by decide) b4.1 b4.2 ?_
  refine g_cv rfl rfl (by decide) rfl rfl (Nat.le_of_ble_eq_true rfl) (as2 := [AI (tI τ r0 (wr (x4 + 1)).toNat), AI (tI τ r0 (wr (x4 + 2)).toNat)]) rfl sh5 rfl (by omega) (L0 := [vR r2, vI (tI τ r0 (wr (x4 + 1)).toNat), vI (tI τ r0 (wr (x4 + 2)).toNat), none, none, none, none]) rfl ?_
  exact k1

set_option maxRecDepth 8192 in
theorem t268_1140 {d : Nat} {τ : T2} {Q : RS → T2 → Prop} {x4 y0 y1 : Int} {r0 r1 r2 r3 : Option Nat} (k1 : y1 = y0 → G d 268 23 [vQ r0, vQ r1, vQ r2, vQ r3, vI (wr (x4 + 6)), none, none] [] τ Q) (k2 : ¬ y1 = y0 → Q (.inl (some (AI 0))) τ) : G d 268 1140 [vQ r0, vQ r1, vQ r2, vQ r3, vI x4, none, none] [AI y0, AI y1] τ Q := by
  refine g_br2 rfl (t := 1296) rfl (fun c1 => ?_) (fun c1 => ?_)
  · have c1 : y1 = y0 := of_decide_eq_true c1
    refine g_sx 2 (pc1 := 23) (L1 := [vQ r0, vQ r1, vQ r2, vQ r3, vI (wr (x4 + 6)), none, none]) (st1 := []) rfl ?_
    exact (k1 c1)
  · have c1 : ¬ y1 = y0 := of_decide_eq_false c1
    refine g_sk 1 (pc1 := 1144) (st1 := [AI 0]) rfl ?_
    refine g_zret rfl rfl (by decide) ?_
    exact (k2 c1)

set_option maxRecDepth 8192 in
theorem t268_1155 {d : Nat} {τ : T2} {Q : RS → T2 → Prop} {x4 y0 : Int} {r0 r2 n1 : Nat} {r1 r3 : Option Nat} (hd : 1 ≤ d) (sh2 : tS τ r0 = (2, 100, n1)) (b3 : (0 : Int) ≤ (wr (x4 + 1)) ∧ (wr (x4 + 1)) < (n1 : Int)) (sh4 : tS τ r2 = (1, 21, 0)) (k1 : G (d - 1) 240 0 [vR r2, vI (tI τ r0 (wr (x4 + 1)).toNat)] [] τ (KC d 268 1162 1165 [vR r0, vQ r1, vR r2, vQ r3, vI x4, none, none] [AI y0] Q)) : G d 268 1155 [vR r0, vQ r1, vR r2, vQ r3, vI x4, none, none] [AI y0] τ Q := by
  refine g_sk 5 (pc1 := 1161) (st1 := [AI (wr (x4 + 1)), AR r0, AR r2, AI y0]) rfl ?_
  refine g_iald rfl sh2 (by decide) b3.1 b3.2 ?_
  refine g_cv rfl rfl (by decide) rfl rfl (Nat.le_of_ble_eq_true rfl) (as2 := [AI (tI τ r0 (wr (x4 + 1)).toNat)]) rfl sh4 rfl (by omega) (L0 := [vR r2, vI (tI τ r0 (wr (x4 + 1)).toNat)]) rfl ?_
  exact k1

set_option maxRecDepth 8192 in
theorem t268_1165 {d : Nat} {τ : T2} {Q : RS → T2 → Prop} {x4 y0 y1 : Int} {r0 r1 r2 r3 : Option Nat} (k1 : y1 = y0 → G d 268 23 [vQ r0, vQ r1, vQ r2, vQ r3, vI (wr (x4 + 6)), none, none] [] τ Q) (k2 : ¬ y1 = y0 → Q (.inl (some (AI 0))) τ) : G d 268 1165 [vQ r0, vQ r1, vQ r2, vQ r3, vI x4, none, none] [AI y0, AI y1] τ Q := by
  refine g_br2 rfl (t := 1296) rfl (fun c1 => ?_) (fun c1 => ?_)
  · have c1 : y1 = y0 := of_decide_eq_true c1
    refine g_sx 2 (pc1 := 23) (L1 := [vQ r0, vQ r1, vQ r2, vQ r3, vI (wr (x4 + 6)), none, none]) (st1 := []) rfl ?_
    exact (k1 c1)
  · have c1 : ¬ y1 = y0 := of_decide_eq_false c1
    refine g_sk 1 (pc1 := 1169) (st1 := [AI 0]) rfl ?_
    refine g_zret rfl rfl (by decide) ?_
    exact (k2 c1)

set_option maxRecDepth 8192 in
theorem t268_1180 {d : Nat} {τ : T2} {Q : RS → T2 → Prop} {x4 y0 : Int} {r0 r2 n1 : Nat} {r1 r3 : Option Nat} (hd : 1 ≤ d) (sh2 : tS τ r0 = (2, 100, n1)) (b3 : (0 : Int) ≤ (wr (x4 + 1)) ∧ (wr (x4 + 1)) < (n1 : Int)) (sh4 : tS τ r2 = (1, 21, 0)) (k1 : G (d - 1) 241 0 [vR r2, vI (tI τ r0 (wr (x4 + 1)).toNat), none, none, none, none] [] τ (KC d 268 1187 1190 [vR r0, vQ r1, vR r2, vQ r3, vI x4, none, none] [AI y0] Q)) : G d 268 1180 [vR r0, vQ r1, vR r2, vQ r3, vI x4, none, none] [AI y0] τ Q := by
  refine g_sk 5 (pc1 := 1186) (st1 := [AI (wr (x4 + 1)), AR r0, AR r2, AI y0]) rfl ?_
  refine g_iald rfl sh2 (by decide) b3.1 b3.2 ?_
  refine g_cv rfl rfl (by decide) rfl rfl (Nat.le_of_ble_eq_true rfl) (as2 := [AI (tI τ r0 (wr (x4 + 1)).toNat)]) rfl sh4 rfl (by omega) (L0 := [vR r2, vI (tI τ r0 (wr (x4 + 1)).toNat), none, none, none, none]) rfl ?_
  exact k1

set_option maxRecDepth 8192 in
theorem t268_1190 {d : Nat} {τ : T2} {Q : RS → T2 → Prop} {x4 y0 y1 : Int} {r0 r1 r2 r3 : Option Nat} (k1 : y1 = y0 → G d 268 23 [vQ r0, vQ r1, vQ r2, vQ r3, vI (wr (x4 + 6)), none, none] [] τ Q) (k2 : ¬ y1 = y0 → Q (.inl (some (AI 0))) τ) : G d 268 1190 [vQ r0, vQ r1, vQ r2, vQ r3, vI x4, none, none] [AI y0, AI y1] τ Q := by
  refine g_br2 rfl (t := 1296) rfl (fun c1 => ?_) (fun c1 => ?_)
  · have c1 : y1 = y0 := of_decide_eq_true c1
    refine g_sx 2 (pc1 := 23) (L1 := [vQ r0, vQ r1, vQ r2, vQ r3, vI (wr (x4 + 6)), none, none]) (st1 := []) rfl ?_
    exact (k1 c1)
  · have c1 : ¬ y1 = y0 := of_decide_eq_false c1
    refine g_sk 1 (pc1 := 1194) (st1 := [AI 0]) rfl ?_
    refine g_zret rfl rfl (by decide) ?_
    exact (k2 c1)

set_option maxRecDepth 8192 in
theorem t268_1205 {d : Nat} {τ : T2} {Q : RS → T2 → Prop} {x4 y0 : Int} {r0 r2 n1 : Nat} {r1 r3 : Option Nat} (hd : 1 ≤ d) (sh2 : tS τ r0 = (2, 100, n1)) (b3 : (0 : Int) ≤ (wr (x4 + 1)) ∧ (wr (x4 + 1)) < (n1 : Int)) (sh4 : tS τ r2 = (1, 21, 0)) (k1 : G (d - 1) 242 0 [vR r2, vI (tI τ r0 (wr (x4 + 1)).toNat), none, none, none] [] τ (KC d 268 1212 1215 [vR r0, vQ r1, vR r2, vQ r3, vI x4, none, none] [AI y0] Q)) : G d 268 1205 [vR r0, vQ r1, vR r2, vQ r3, vI x4, none, none] [AI y0] τ Q := by
  refine g_sk 5 (pc1 := 1211) (st1 := [AI (wr (x4 + 1)), AR r0, AR r2, AI y0]) rfl ?_
  refine g_iald rfl sh2 (by decide) b3.1 b3.2 ?_
  refine g_cv rfl rfl (by decide) rfl rfl (Nat.le_of_ble_eq_true rfl) (as2 := [AI (tI τ r0 (wr (x4 + 1)).toNat)]) rfl sh4 rfl (by omega) (L0 := [vR r2, vI (tI τ r0 (wr (x4 + 1)).toNat), none, none, none]) rfl ?_
  exact k1

set_option maxRecDepth 8192 in
theorem t268_1215 {d : Nat} {τ : T2} {Q : RS → T2 → Prop} {x4 y0 y1 : Int} {r0 r1 r2 r3 : Option Nat} (k1 : y1 = y0 → G d 268 23 [vQ r0, vQ r1, vQ r2, vQ r3, vI (wr (x4 + 6)), none, none] [] τ Q) (k2 : ¬ y1 = y0 → Q (.inl (some (AI 0))) τ) : G d 268 1215 [vQ r0, vQ r1, vQ r2, vQ r3, vI x4, none, none] [AI y0, AI y1] τ Q := by
  refine g_br2 rfl (t := 1296) rfl (fun c1 => ?_) (fun c1 => ?_)
  · have c1 : y1 = y0 := of_decide_eq_true c1
    refine g_sx 2 (pc1 := 23) (L1 := [vQ r0, vQ r1, vQ r2, vQ r3, vI (wr (x4 + 6)), none, none]) (st1 := []) rfl ?_
    exact (k1 c1)
  · have c1 : ¬ y1 = y0 := of_decide_eq_false c1
    refine g_sk 1 (pc1 := 1219) (st1 := [AI 0]) rfl ?_
    refine g_zret rfl rfl (by decide) ?_
    exact (k2 c1)

set_option maxRecDepth 8192 in
theorem t268_1230 {d : Nat} {τ : T2} {Q : RS → T2 → Prop} {x4 y0 : Int} {r0 r2 n1 : Nat} {r1 r3 : Option Nat} (hd : 1 ≤ d) (sh2 : tS τ r0 = (2, 100, n1)) (b3 : (0 : Int) ≤ (wr (x4 + 1)) ∧ (wr (x4 + 1)) < (n1 : Int)) (sh4 : tS τ r2 = (1, 21, 0)) (k1 : G (d - 1) 243 0 [vR r2, vI (tI τ r0 (wr (x4 + 1)).toNat), none, none] [] τ (KC d 268 1237 1240 [vR r0, vQ r1, vR r2, vQ r3, vI x4, none, none] [AI y0] Q)) : G d 268 1230 [vR r0, vQ r1, vR r2, vQ r3, vI x4, none, none] [AI y0] τ Q := by
  refine g_sk 5 (pc1 := 1236) (st1 := [AI (wr (x4 + 1)), AR r0, AR r2, AI y0]) rfl ?_
  refine g_iald rfl sh2 (by decide) b3.1 b3.2 ?_
  refine g_cv rfl rfl (by decide) rfl rfl (Nat.le_of_ble_eq_true rfl) (as2 := [AI (tI τ r0 (wr (x4 + 1)).toNat)]) rfl sh4 rfl (by omega) (L0 := [vR r2, vI (tI τ r0 (wr (x4 + 1)).toNat), none, none]) rfl ?_
  exact k1

set_option maxRecDepth 8192 in
theorem t268_1240 {d : Nat} {τ : T2} {Q : RS → T2 → Prop} {x4 y0 y1 : Int} {r0 r1 r2 r3 : Option Nat} (k1 : y1 = y0 → G d 268 23 [vQ r0, vQ r1, vQ r2, vQ r3, vI (wr (x4 + 6)), none, none] [] τ Q) (k2 : ¬ y1 = y0 → Q (.inl (some (AI 0))) τ) : G d 268 1240 [vQ r0, vQ r1, vQ r2, vQ r3, vI x4, none, none] [AI y0, AI y1] τ Q := by
  refine g_br2 rfl (t := 1296) rfl (fun c1 => ?_) (fun c1 => ?_)
  · have c1 : y1 = y0 := of_decide_eq_true c1
    refine g_sx 2 (pc1 := 23) (L1 := [vQ r0, vQ r1, vQ r2, vQ r3, vI (wr (x4 + 6)), none, none]) (st1 := []) rfl ?_
    exact (k1 c1)
  · have c1 : ¬ y1 = y0 := of_decide_eq_false c1
    refine g_sk 1 (pc1 := 1244) (st1 := [AI 0]) rfl ?_
    refine g_zret rfl rfl (by decide) ?_
    exact (k2 c1)

set_option maxRecDepth 8192 in
theorem t268_1249 {d : Nat} {τ : T2} {Q : RS → T2 → Prop} {x4 y0 : Int} {r2 : Nat} {r0 r1 r3 : Option Nat} (hd : 1 ≤ d) (sh1 : tS τ r2 = (1, 21, 0)) (k1 : G (d - 1) 171 0 [vR r2, none, none] [] τ (KC d 268 1250 1253 [vQ r0, vQ r1, vR r2, vQ r3, vI x4, none, none] [AI y0] Q)) : G d 268 1249 [vQ r0, vQ r1, vR r2, vQ r3, vI x4, none, none] [AI y0] τ Q := by
  refine g_sk 1 (pc1 := 1250) (st1 := [AR r2, AI y0]) rfl ?_
  refine g_cv rfl rfl (by decide) rfl rfl (Nat.le_of_ble_eq_true rfl) (as2 := []) rfl sh1 rfl (by omega) (L0 := [vR r2, none, none]) rfl ?_
  exact k1

set_option maxRecDepth 8192 in
theorem t268_1253 {d : Nat} {τ : T2} {Q : RS → T2 → Prop} {x4 y0 y1 : Int} {r0 r1 r2 r3 : Option Nat} (k1 : y1 = y0 → G d 268 23 [vQ r0, vQ r1, vQ r2, vQ r3, vI (wr (x4 + 6)), none, none] [] τ Q) (k2 : ¬ y1 = y0 → Q (.inl (some (AI 0))) τ) : G d 268 1253 [vQ r0, vQ r1, vQ r2, vQ r3, vI x4, none, none] [AI y0, AI y1] τ Q := by
  refine g_br2 rfl (t := 1296) rfl (fun c1 => ?_) (fun c1 => ?_)
  · have c1 : y1 = y0 := of_decide_eq_true c1
    refine g_sx 2 (pc1 := 23) (L1 := [vQ r0, vQ r1, vQ r2, vQ r3, vI (wr (x4 + 6)), none, none]) (st1 := []) rfl ?_
    exact (k1 c1)
  · have c1 : ¬ y1 = y0 := of_decide_eq_false c1
    refine g_sk 1 (pc1 := 1257) (st1 := [AI 0]) rfl ?_
    refine g_zret rfl rfl (by decide) ?_
    exact (k2 c1)

set_option maxRecDepth 8192 in
theorem t268_1268 {d : Nat} {τ : T2} {Q : RS → T2 → Prop} {x4 y0 : Int} {r0 r2 n1 : Nat} {r1 r3 : Option Nat} (hd : 1 ≤ d) (sh2 : tS τ r0 = (2, 100, n1)) (b3 : (0 : Int) ≤ (wr (x4 + 1)) ∧ (wr (x4 + 1)) < (n1 : Int)) (sh4 : tS τ r2 = (1, 21, 0)) (k1 : G (d - 1) 244 0 [vR r2, vI (tI τ r0 (wr (x4 + 1)).toNat)] [] τ (KC d 268 1275 1278 [vR r0, vQ r1, vR r2, vQ r3, vI x4, none, none] [AI y0] Q)) : G d 268 1268 [vR r0, vQ r1, vR r2, vQ r3, vI x4, none, none] [AI y0] τ Q := by
  refine g_sk 5 (pc1 := 1274) (st1 := [AI (wr (x4 + 1)), AR r0, AR r2, AI y0]) rfl ?_
  refine g_iald rfl sh2 (by decide) b3.1 b3.2 ?_
  refine g_cv rfl rfl (by decide) rfl rfl (Nat.le_of_ble_eq_true rfl) (as2 := [AI (tI τ r0 (wr (x4 + 1)).toNat)]) rfl sh4 rfl (by omega) (L0 := [vR r2, vI (tI τ r0 (wr (x4 + 1)).toNat)]) rfl ?_
  exact k1

set_option maxRecDepth 8192 in
theorem t268_1278 {d : Nat} {τ : T2} {Q : RS → T2 → Prop} {x4 y0 y1 : Int} {r0 r1 r2 r3 : Option Nat} (k1 : y1 = y0 → G d 268 23 [vQ r0, vQ r1, vQ r2, vQ r3, vI (wr (x4 + 6)), none, none] [] τ Q) (k2 : ¬ y1 = y0 → Q (.inl (some (AI 0))) τ) : G d 268 1278 [vQ r0, vQ r1, vQ r2, vQ r3, vI x4, none, none] [AI y0, AI y1] τ Q := by
  refine g_br2 rfl (t := 1296) rfl (fun c1 => ?_) (fun c1 => ?_)
  · have c1 : y1 = y0 := of_decide_eq_true c1
    refine g_sx 2 (pc1 := 23) (L1 := [vQ r0, vQ r1, vQ r2, vQ r3, vI (wr (x4 + 6)), none, none]) (st1 := []) rfl ?_
    exact (k1 c1)
  · have c1 : ¬ y1 = y0 := of_decide_eq_false c1
    refine g_sk 1 (pc1 := 1282) (st1 := [AI 0]) rfl ?_
    refine g_zret rfl rfl (by decide) ?_
    exact (k2 c1)

set_option maxRecDepth 8192 in
theorem t268_1287 {d : Nat} {τ : T2} {Q : RS → T2 → Prop} {x4 y0 : Int} {r2 : Nat} {r0 r1 r3 : Option Nat} (hd : 1 ≤ d) (sh1 : tS τ r2 = (1, 21, 0)) (k1 : G (d - 1) 245 0 [vR r2] [] τ (KC d 268 1288 1291 [vQ r0, vQ r1, vR r2, vQ r3, vI x4, none, none] [AI y0] Q)) : G d 268 1287 [vQ r0, vQ r1, vR r2, vQ r3, vI x4, none, none] [AI y0] τ Q := by
  refine g_sk 1 (pc1 := 1288) (st1 := [AR r2, AI y0]) rfl ?_
  refine g_cv rfl rfl (by decide) rfl rfl (Nat.le_of_ble_eq_true rfl) (as2 := []) rfl sh1 rfl (by omega) (L0 := [vR r2]) rfl ?_
  exact k1

set_option maxRecDepth 8192 in
theorem t268_1291 {d : Nat} {τ : T2} {Q : RS → T2 → Prop} {x4 y0 y1 : Int} {r0 r1 r2 r3 : Option Nat} (k1 : y1 = y0 → G d 268 23 [vQ r0, vQ r1, vQ r2, vQ r3, vI (wr (x4 + 6)), none, none] [] τ Q) (k2 : ¬ y1 = y0 → Q (.inl (some (AI 0))) τ) : G d 268 1291 [vQ r0, vQ r1, vQ r2, vQ r3, vI x4, none, none] [AI y0, AI y1] τ Q := by
  refine g_br2 rfl (t := 1296) rfl (fun c1 => ?_) (fun c1 => ?_)
  · have c1 : y1 = y0 := of_decide_eq_true c1
    refine g_sx 2 (pc1 := 23) (L1 := [vQ r0, vQ r1, vQ r2, vQ r3, vI (wr (x4 + 6)), none, none]) (st1 := []) rfl ?_
    exact (k1 c1)
  · have c1 : ¬ y1 = y0 := of_decide_eq_false c1
    refine g_sk 1 (pc1 := 1295) (st1 := [AI 0]) rfl ?_
    refine g_zret rfl rfl (by decide) ?_
    exact (k2 c1)
