/-! TREES of methods 50 to 90, written by program (wip/whole/tree.py) -/
set_option maxRecDepth 8192 in
theorem t50_0 {d : Nat} {τ : T2} {Q : RS → T2 → Prop} {x1 : Int} {r0 : Option Nat} (hd : 1 ≤ d) (k1 : G (d - 1) 51 0 [vQ r0, vI x1, vI 0, none, none] [] τ (KC d 50 3 6 [vQ r0, none] [] Q)) : G d 50 0 [vQ r0, vI x1] [] τ Q := by
  refine g_sk 3 (pc1 := 3) (st1 := [AI 0, AI x1, AP r0]) rfl ?_
  refine G_fg (lw2_k _ (lw2_f _ lw2_nil)) ?_
  refine g_cs rfl rfl (by decide) rfl rfl (Nat.le_of_ble_eq_true rfl) rfl (by omega) (L0 := [vQ r0, vI x1, vI 0, none, none]) rfl ?_
  exact k1

set_option maxRecDepth 8192 in
theorem t50_6 {d : Nat} {τ : T2} {Q : RS → T2 → Prop} {y0 : Int} {r0 : Nat} (hd : 1 ≤ d) (sh2 : tS τ r0 = (1, 9, 0)) (k1 : y0 = 0 → Q (.inl (some (AI 0))) τ) (k2 : ¬ y0 = 0 → G (d - 1) 75 0 [vR r0] [] τ (KC d 50 10 13 [none, none] [] Q)) : G d 50 6 [vR r0, none] [AI y0] τ Q := by
  refine g_br1 rfl (t := 20) rfl (fun c1 => ?_) (fun c1 => ?_)
  · have c1 : y0 = 0 := of_decide_eq_true c1
    refine g_sk 1 (pc1 := 21) (st1 := [AI 0]) rfl ?_
    refine g_zret rfl rfl (by decide) ?_
    exact (k1 c1)
  · have c1 : ¬ y0 = 0 := of_decide_eq_false c1
    refine g_sk 1 (pc1 := 10) (st1 := [AR r0]) rfl ?_
    refine G_fg (lw2_f _ (lw2_k _ lw2_nil)) ?_
    refine g_cv rfl rfl (by decide) rfl rfl (Nat.le_of_ble_eq_true rfl) (as2 := []) rfl sh2 rfl (by omega) (L0 := [vR r0]) rfl ?_
    exact (k2 c1)

set_option maxRecDepth 8192 in
theorem t50_13 {d : Nat} {τ : T2} {Q : RS → T2 → Prop} {y0 : Int} (k1 : y0 = 0 → Q (.inl (some (AI 0))) τ) (k2 : ¬ y0 = 0 → Q (.inl (some (AI 1))) τ) : G d 50 13 [none, none] [AI y0] τ Q := by
  refine g_br1 rfl (t := 20) rfl (fun c1 => ?_) (fun c1 => ?_)
  · have c1 : y0 = 0 := of_decide_eq_true c1
    refine g_sk 1 (pc1 := 21) (st1 := [AI 0]) rfl ?_
    refine g_zret rfl rfl (by decide) ?_
    exact (k1 c1)
  · have c1 : ¬ y0 = 0 := of_decide_eq_false c1
    refine g_sk 2 (pc1 := 21) (st1 := [AI 1]) rfl ?_
    refine g_zret rfl rfl (by decide) ?_
    exact (k2 c1)

set_option maxRecDepth 8192 in
theorem t51_0 {d : Nat} {τ : T2} {Q : RS → T2 → Prop} {x1 x2 : Int} {r0 : Option Nat} (hd : 1 ≤ d) (k1 : G (d - 1) 52 0 [vQ r0, vI x1, vI x2, none, none] [] τ (KC d 51 3 6 [vQ r0, vI x1, vI x2, none, none] [] Q)) : G d 51 0 [vQ r0, vI x1, vI x2, none, none] [] τ Q := by
  refine g_sk 3 (pc1 := 3) (st1 := [AI x2, AI x1, AP r0]) rfl ?_
  refine g_cs rfl rfl (by decide) rfl rfl (Nat.le_of_ble_eq_true rfl) rfl (by omega) (L0 := [vQ r0, vI x1, vI x2, none, none]) rfl ?_
  exact k1

set_option maxRecDepth 8192 in
theorem t51_6 {d : Nat} {τ : T2} {Q : RS → T2 → Prop} {x1 x2 y0 : Int} {r0 : Option Nat} (k1 : ¬ y0 = 0 → G d 51 16 [vQ r0, vI x1, vI x2, vI (-1), vI 0] [] τ Q) (k2 : y0 = 0 → Q (.inl (some (AI 0))) τ) : G d 51 6 [vQ r0, vI x1, vI x2, none, none] [AI y0] τ Q := by
  refine g_br1 rfl (t := 11) rfl (fun c1 => ?_) (fun c1 => ?_)
  · have c1 : ¬ y0 = 0 := of_decide_eq_true c1
    refine g_sx 4 (pc1 := 16) (L1 := [vQ r0, vI x1, vI x2, vI (-1), vI 0]) (st1 := []) rfl ?_
    exact (k1 c1)
  · have c1 : y0 = 0 := Decidable.of_not_not (of_decide_eq_false c1)
    refine g_sk 1 (pc1 := 10) (st1 := [AI 0]) rfl ?_
    refine g_zret rfl rfl (by decide) ?_
    exact (k2 c1)

set_option maxRecDepth 8192 in
theorem t51_16 {d : Nat} {τ : T2} {Q : RS → T2 → Prop} {x1 x2 x3 x4 : Int} {r0 : Nat} (hd : 1 ≤ d) (sh2 : tS τ r0 = (1, 9, 0)) (k1 : 300 ≤ x4 → G (d - 1) 80 0 [vR r0, vI x3, none, none, none] [] τ (KC d 51 65 68 [none, none, none, none, none] [] Q)) (k2 : x4 < 300 → G (d - 1) 72 0 [vR r0, vR 18, none] [] τ (KC d 51 27 30 [vR r0, vI x1, vI x2, vI x3, vI x4] [] Q)) : G d 51 16 [vR r0, vI x1, vI x2, vI x3, vI x4] [] τ Q := by
  refine g_sk 2 (pc1 := 21) (st1 := [AI 300, AI x4]) rfl ?_
  refine g_br2 rfl (t := 63) rfl (fun c1 => ?_) (fun c1 => ?_)
  · have c1 : 300 ≤ x4 := of_decide_eq_true c1
    refine g_sk 2 (pc1 := 65) (st1 := [AI x3, AR r0]) rfl ?_
    refine G_fg (lw2_f _ (lw2_f _ (lw2_f _ (lw2_f _ (lw2_f _ lw2_nil))))) ?_
    refine g_cv rfl rfl (by decide) rfl rfl (Nat.le_of_ble_eq_true rfl) (as2 := [AI x3]) rfl sh2 rfl (by omega) (L0 := [vR r0, vI x3, none, none, none]) rfl ?_
    exact (k1 c1)
  · have c1 : x4 < 300 := Int.not_le.mp (of_decide_eq_false c1)
    refine g_sk 2 (pc1 := 27) (st1 := [AR 18, AR r0]) rfl ?_
    refine g_cv rfl rfl (by decide) rfl rfl (Nat.le_of_ble_eq_true rfl) (as2 := [AR 18]) rfl sh2 rfl (by omega) (L0 := [vR r0, vR 18, none]) rfl ?_
    exact (k2 c1)

set_option maxRecDepth 8192 in
theorem t51_30 {d : Nat} {τ : T2} {Q : RS → T2 → Prop} {x1 x2 x3 x4 y0 : Int} {r0 : Nat} (hd : 1 ≤ d) (sh2 : tS τ r0 = (1, 9, 0)) (k1 : y0 = 0 → G (d - 1) 80 0 [vR r0, vI x3, none, none, none] [] τ (KC d 51 65 68 [none, none, none, none, none] [] Q)) (k2 : ¬ y0 = 0 → G (d - 1) 78 0 [vR r0, vI 6, vI x3, vI 0, none] [] τ (KC d 51 38 41 [vR r0, vI x1, vI x2, none, vI x4] [] Q)) : G d 51 30 [vR r0, vI x1, vI x2, vI x3, vI x4] [AI y0] τ Q := by
  refine g_br1 rfl (t := 63) rfl (fun c1 => ?_) (fun c1 => ?_)
  · have c1 : y0 = 0 := of_decide_eq_true c1
    refine g_sk 2 (pc1 := 65) (st1 := [AI x3, AR r0]) rfl ?_
    refine G_fg (lw2_f _ (lw2_f _ (lw2_f _ (lw2_f _ (lw2_f _ lw2_nil))))) ?_
    refine g_cv rfl rfl (by decide) rfl rfl (Nat.le_of_ble_eq_true rfl) (as2 := [AI x3]) rfl sh2 rfl (by omega) (L0 := [vR r0, vI x3, none, none, none]) rfl ?_
    exact (k1 c1)
  · have c1 : ¬ y0 = 0 := of_decide_eq_false c1
    refine g_sk 4 (pc1 := 38) (st1 := [AI 0, AI x3, AI 6, AR r0]) rfl ?_
    refine G_fg (lw2_k _ (lw2_k _ (lw2_k _ (lw2_f _ (lw2_k _ lw2_nil))))) ?_
    refine g_cv rfl rfl (by decide) rfl rfl (Nat.le_of_ble_eq_true rfl) (as2 := [AI 6, AI x3, AI 0]) rfl sh2 rfl (by omega) (L0 := [vR r0, vI 6, vI x3, vI 0, none]) rfl ?_
    exact (k2 c1)

set_option maxRecDepth 8192 in
theorem t51_41 {d : Nat} {τ : T2} {Q : RS → T2 → Prop} {x1 x2 x4 y0 : Int} {r0 : Nat} (hd : 1 ≤ d) (sh1 : tS τ r0 = (1, 9, 0)) (k1 : G (d - 1) 68 0 [vR r0, none, none, none] [] τ (KC d 51 43 46 [vR r0, vI x1, vI x2, vI y0, vI x4] [] Q)) : G d 51 41 [vR r0, vI x1, vI x2, none, vI x4] [AI y0] τ Q := by
  refine g_sx 2 (pc1 := 43) (L1 := [vR r0, vI x1, vI x2, vI y0, vI x4]) (st1 := [AR r0]) rfl ?_
  refine g_cv rfl rfl (by decide) rfl rfl (Nat.le_of_ble_eq_true rfl) (as2 := []) rfl sh1 rfl (by omega) (L0 := [vR r0, none, none, none]) rfl ?_
  exact k1

set_option maxRecDepth 8192 in
theorem t51_46 {d : Nat} {τ : T2} {Q : RS → T2 → Prop} {x1 x2 x3 x4 : Int} {r0 : Option Nat} (hd : 1 ≤ d) (k1 : G (d - 1) 52 0 [vQ r0, vI x1, vI x2, none, none] [] τ (KC d 51 49 52 [vQ r0, vI x1, vI x2, vI x3, vI x4] [] Q)) : G d 51 46 [vQ r0, vI x1, vI x2, vI x3, vI x4] [] τ Q := by
  refine g_sk 3 (pc1 := 49) (st1 := [AI x2, AI x1, AP r0]) rfl ?_
  refine g_cs rfl rfl (by decide) rfl rfl (Nat.le_of_ble_eq_true rfl) rfl (by omega) (L0 := [vQ r0, vI x1, vI x2, none, none]) rfl ?_
  exact k1

set_option maxRecDepth 8192 in
theorem t51_52 {d : Nat} {τ : T2} {Q : RS → T2 → Prop} {x1 x2 x3 x4 y0 : Int} {r0 : Option Nat} (k1 : ¬ y0 = 0 → G d 51 16 [vQ r0, vI x1, vI x2, vI x3, vI (wr (x4 + 1))] [] τ Q) (k2 : y0 = 0 → Q (.inl (some (AI 0))) τ) : G d 51 52 [vQ r0, vI x1, vI x2, vI x3, vI x4] [AI y0] τ Q := by
  refine g_br1 rfl (t := 57) rfl (fun c1 => ?_) (fun c1 => ?_)
  · have c1 : ¬ y0 = 0 := of_decide_eq_true c1
    refine g_sx 2 (pc1 := 16) (L1 := [vQ r0, vI x1, vI x2, vI x3, vI (wr (x4 + 1))]) (st1 := []) rfl ?_
    exact (k1 c1)
  · have c1 : y0 = 0 := Decidable.of_not_not (of_decide_eq_false c1)
    refine g_sk 1 (pc1 := 56) (st1 := [AI 0]) rfl ?_
    refine g_zret rfl rfl (by decide) ?_
    exact (k2 c1)

set_option maxRecDepth 8192 in
theorem t51_68 {d : Nat} {τ : T2} {Q : RS → T2 → Prop}  (k1 : Q (.inl (some (AI 1))) τ) : G d 51 68 [none, none, none, none, none] [] τ Q := by
  refine g_sk 1 (pc1 := 69) (st1 := [AI 1]) rfl ?_
  refine g_zret rfl rfl (by decide) ?_
  exact k1

set_option maxRecDepth 8192 in
theorem t52_0 {d : Nat} {τ : T2} {Q : RS → T2 → Prop} {x1 x2 : Int} {r0 : Option Nat} (hd : 1 ≤ d) (k1 : G (d - 1) 53 0 [vQ r0, vI x1, vI x2, none, none] [] τ (KC d 52 3 6 [vQ r0, vI x1, vI x2, none, none] [] Q)) : G d 52 0 [vQ r0, vI x1, vI x2, none, none] [] τ Q := by
  refine g_sk 3 (pc1 := 3) (st1 := [AI x2, AI x1, AP r0]) rfl ?_
  refine g_cs rfl rfl (by decide) rfl rfl (Nat.le_of_ble_eq_true rfl) rfl (by omega) (L0 := [vQ r0, vI x1, vI x2, none, none]) rfl ?_
  exact k1

set_option maxRecDepth 8192 in
theorem t52_6 {d : Nat} {τ : T2} {Q : RS → T2 → Prop} {x1 x2 y0 : Int} {r0 : Option Nat} (k1 : ¬ y0 = 0 → G d 52 16 [vQ r0, vI x1, vI x2, vI (-1), vI 0] [] τ Q) (k2 : y0 = 0 → Q (.inl (some (AI 0))) τ) : G d 52 6 [vQ r0, vI x1, vI x2, none, none] [AI y0] τ Q := by
  refine g_br1 rfl (t := 11) rfl (fun c1 => ?_) (fun c1 => ?_)
  · have c1 : ¬ y0 = 0 := of_decide_eq_true c1
    refine g_sx 4 (pc1 := 16) (L1 := [vQ r0, vI x1, vI x2, vI (-1), vI 0]) (st1 := []) rfl ?_
    exact (k1 c1)
  · have c1 : y0 = 0 := Decidable.of_not_not (of_decide_eq_false c1)
    refine g_sk 1 (pc1 := 10) (st1 := [AI 0]) rfl ?_
    refine g_zret rfl rfl (by decide) ?_
    exact (k2 c1)

set_option maxRecDepth 8192 in
theorem t52_16 {d : Nat} {τ : T2} {Q : RS → T2 → Prop} {x1 x2 x3 x4 : Int} {r0 : Nat} (hd : 1 ≤ d) (sh2 : tS τ r0 = (1, 9, 0)) (k1 : 300 ≤ x4 → G (d - 1) 80 0 [vR r0, vI x3, none, none, none] [] τ (KC d 52 65 68 [none, none, none, none, none] [] Q)) (k2 : x4 < 300 → G (d - 1) 72 0 [vR r0, vR 19, none] [] τ (KC d 52 27 30 [vR r0, vI x1, vI x2, vI x3, vI x4] [] Q)) : G d 52 16 [vR r0, vI x1, vI x2, vI x3, vI x4] [] τ Q := by
  refine g_sk 2 (pc1 := 21) (st1 := [AI 300, AI x4]) rfl ?_
  refine g_br2 rfl (t := 63) rfl (fun c1 => ?_) (fun c1 => ?_)
  · have c1 : 300 ≤ x4 := of_decide_eq_true c1
    refine g_sk 2 (pc1 := 65) (st1 := [AI x3, AR r0]) rfl ?_
    refine G_fg (lw2_f _ (lw2_f _ (lw2_f _ (lw2_f _ (lw2_f _ lw2_nil))))) ?_
    refine g_cv rfl rfl (by decide) rfl rfl (Nat.le_of_ble_eq_true rfl) (as2 := [AI x3]) rfl sh2 rfl (by omega) (L0 := [vR r0, vI x3, none, none, none]) rfl ?_
    exact (k1 c1)
  · have c1 : x4 < 300 := Int.not_le.mp (of_decide_eq_false c1)
    refine g_sk 2 (pc1 := 27) (st1 := [AR 19, AR r0]) rfl ?_
    refine g_cv rfl rfl (by decide) rfl rfl (Nat.le_of_ble_eq_true rfl) (as2 := [AR 19]) rfl sh2 rfl (by omega) (L0 := [vR r0, vR 19, none]) rfl ?_
    exact (k2 c1)

set_option maxRecDepth 8192 in
theorem t52_30 {d : Nat} {τ : T2} {Q : RS → T2 → Prop} {x1 x2 x3 x4 y0 : Int} {r0 : Nat} (hd : 1 ≤ d) (sh2 : tS τ r0 = (1, 9, 0)) (k1 : y0 = 0 → G (d - 1) 80 0 [vR r0, vI x3, none, none, none] [] τ (KC d 52 65 68 [none, none, none, none, none] [] Q)) (k2 : ¬ y0 = 0 → G (d - 1) 78 0 [vR r0, vI 7, vI x3, vI 0, none] [] τ (KC d 52 38 41 [vR r0, vI x1, vI x2, none, vI x4] [] Q)) : G d 52 30 [vR r0, vI x1, vI x2, vI x3, vI x4] [AI y0] τ Q := by
  refine g_br1 rfl (t := 63) rfl (fun c1 => ?_) (fun c1 => ?_)
  · have c1 : y0 = 0 := of_decide_eq_true c1
    refine g_sk 2 (pc1 := 65) (st1 := [AI x3, AR r0]) rfl ?_
    refine G_fg (lw2_f _ (lw2_f _ (lw2_f _ (lw2_f _ (lw2_f _ lw2_nil))))) ?_
    refine g_cv rfl rfl (by decide) rfl rfl (Nat.le_of_ble_eq_true rfl) (as2 := [AI x3]) rfl sh2 rfl (by omega) (L0 := [vR r0, vI x3, none, none, none]) rfl ?_
    exact (k1 c1)
  · have c1 : ¬ y0 = 0 := of_decide_eq_false c1
    refine g_sk 4 (pc1 := 38) (st1 := [AI 0, AI x3, AI 7, AR r0]) rfl ?_
    refine G_fg (lw2_k _ (lw2_k _ (lw2_k _ (lw2_f _ (lw2_k _ lw2_nil))))) ?_
    refine g_cv rfl rfl (by decide) rfl rfl (Nat.le_of_ble_eq_true rfl) (as2 := [AI 7, AI x3, AI 0]) rfl sh2 rfl (by omega) (L0 := [vR r0, vI 7, vI x3, vI 0, none]) rfl ?_
    exact (k2 c1)

set_option maxRecDepth 8192 in
theorem t52_41 {d : Nat} {τ : T2} {Q : RS → T2 → Prop} {x1 x2 x4 y0 : Int} {r0 : Nat} (hd : 1 ≤ d) (sh1 : tS τ r0 = (1, 9, 0)) (k1 : G (d - 1) 68 0 [vR r0, none, none, none] [] τ (KC d 52 43 46 [vR r0, vI x1, vI x2, vI y0, vI x4] [] Q)) : G d 52 41 [vR r0, vI x1, vI x2, none, vI x4] [AI y0] τ Q := by
  refine g_sx 2 (pc1 := 43) (L1 := [vR r0, vI x1, vI x2, vI y0, vI x4]) (st1 := [AR r0]) rfl ?_
  refine g_cv rfl rfl (by decide) rfl rfl (Nat.le_of_ble_eq_true rfl) (as2 := []) rfl sh1 rfl (by omega) (L0 := [vR r0, none, none, none]) rfl ?_
  exact k1

set_option maxRecDepth 8192 in
theorem t52_46 {d : Nat} {τ : T2} {Q : RS → T2 → Prop} {x1 x2 x3 x4 : Int} {r0 : Option Nat} (hd : 1 ≤ d) (k1 : G (d - 1) 53 0 [vQ r0, vI x1, vI x2, none, none] [] τ (KC d 52 49 52 [vQ r0, vI x1, vI x2, vI x3, vI x4] [] Q)) : G d 52 46 [vQ r0, vI x1, vI x2, vI x3, vI x4] [] τ Q := by
  refine g_sk 3 (pc1 := 49) (st1 := [AI x2, AI x1, AP r0]) rfl ?_
  refine g_cs rfl rfl (by decide) rfl rfl (Nat.le_of_ble_eq_true rfl) rfl (by omega) (L0 := [vQ r0, vI x1, vI x2, none, none]) rfl ?_
  exact k1

set_option maxRecDepth 8192 in
theorem t52_52 {d : Nat} {τ : T2} {Q : RS → T2 → Prop} {x1 x2 x3 x4 y0 : Int} {r0 : Option Nat} (k1 : ¬ y0 = 0 → G d 52 16 [vQ r0, vI x1, vI x2, vI x3, vI (wr (x4 + 1))] [] τ Q) (k2 : y0 = 0 → Q (.inl (some (AI 0))) τ) : G d 52 52 [vQ r0, vI x1, vI x2, vI x3, vI x4] [AI y0] τ Q := by
  refine g_br1 rfl (t := 57) rfl (fun c1 => ?_) (fun c1 => ?_)
  · have c1 : ¬ y0 = 0 := of_decide_eq_true c1
    refine g_sx 2 (pc1 := 16) (L1 := [vQ r0, vI x1, vI x2, vI x3, vI (wr (x4 + 1))]) (st1 := []) rfl ?_
    exact (k1 c1)
  · have c1 : y0 = 0 := Decidable.of_not_not (of_decide_eq_false c1)
    refine g_sk 1 (pc1 := 56) (st1 := [AI 0]) rfl ?_
    refine g_zret rfl rfl (by decide) ?_
    exact (k2 c1)

set_option maxRecDepth 8192 in
theorem t52_68 {d : Nat} {τ : T2} {Q : RS → T2 → Prop}  (k1 : Q (.inl (some (AI 1))) τ) : G d 52 68 [none, none, none, none, none] [] τ Q := by
  refine g_sk 1 (pc1 := 69) (st1 := [AI 1]) rfl ?_
  refine g_zret rfl rfl (by decide) ?_
  exact k1

set_option maxRecDepth 8192 in
theorem t53_0 {d : Nat} {τ : T2} {Q : RS → T2 → Prop} {x1 x2 : Int} {r0 : Option Nat} (k1 : G d 53 2 [vQ r0, vI x1, vI x2, vI 0, none] [] τ Q) : G d 53 0 [vQ r0, vI x1, vI x2, none, none] [] τ Q := by
  refine g_sx 2 (pc1 := 2) (L1 := [vQ r0, vI x1, vI x2, vI 0, none]) (st1 := []) rfl ?_
  exact k1

set_option maxRecDepth 8192 in
theorem t53_2 {d : Nat} {τ : T2} {Q : RS → T2 → Prop} {x1 x2 x3 : Int} {r0 : Nat} (hd : 1 ≤ d) (sh2 : tS τ r0 = (1, 9, 0)) (k1 : 8 < x3 → G (d - 1) 73 0 [vR r0, vI 40] [] τ (KC d 53 42 45 [vR r0, vI x1, vI x2, vI x3, none] [] Q)) (k2 : x3 ≤ 8 → G (d - 1) 72 0 [vR r0, vR 20, none] [] τ (KC d 53 11 14 [vR r0, vI x1, vI x2, vI x3, none] [] Q)) : G d 53 2 [vR r0, vI x1, vI x2, vI x3, none] [] τ Q := by
  refine g_sk 2 (pc1 := 5) (st1 := [AI 8, AI x3]) rfl ?_
  refine g_br2 rfl (t := 39) rfl (fun c1 => ?_) (fun c1 => ?_)
  · have c1 : 8 < x3 := of_decide_eq_true c1
    refine g_sk 2 (pc1 := 42) (st1 := [AI 40, AR r0]) rfl ?_
    refine g_cv rfl rfl (by decide) rfl rfl (Nat.le_of_ble_eq_true rfl) (as2 := [AI 40]) rfl sh2 rfl (by omega) (L0 := [vR r0, vI 40]) rfl ?_
    exact (k1 c1)
  · have c1 : x3 ≤ 8 := Int.not_lt.mp (of_decide_eq_false c1)
    refine g_sk 2 (pc1 := 11) (st1 := [AR 20, AR r0]) rfl ?_
    refine g_cv rfl rfl (by decide) rfl rfl (Nat.le_of_ble_eq_true rfl) (as2 := [AR 20]) rfl sh2 rfl (by omega) (L0 := [vR r0, vR 20, none]) rfl ?_
    exact (k2 c1)

set_option maxRecDepth 8192 in
theorem t53_14 {d : Nat} {τ : T2} {Q : RS → T2 → Prop} {x1 x2 x3 y0 : Int} {r0 : Nat} (hd : 1 ≤ d) (sh2 : tS τ r0 = (1, 9, 0)) (k1 : y0 = 0 → G (d - 1) 73 0 [vR r0, vI 40] [] τ (KC d 53 42 45 [vR r0, vI x1, vI x2, vI x3, none] [] Q)) (k2 : ¬ y0 = 0 → ¬ x3 = 8 → G (d - 1) 68 0 [vR r0, none, none, none] [] τ (KC d 53 30 33 [vR r0, vI x1, vI x2, vI x3, none] [] Q)) (k3 : ¬ y0 = 0 → x3 = 8 → G (d - 1) 76 0 [vR r0, vI 4] [] τ (KC d 53 25 28 [none, none, none, none, none] [] Q)) : G d 53 14 [vR r0, vI x1, vI x2, vI x3, none] [AI y0] τ Q := by
  refine g_br1 rfl (t := 39) rfl (fun c1 => ?_) (fun c1 => ?_)
  · have c1 : y0 = 0 := of_decide_eq_true c1
    refine g_sk 2 (pc1 := 42) (st1 := [AI 40, AR r0]) rfl ?_
    refine g_cv rfl rfl (by decide) rfl rfl (Nat.le_of_ble_eq_true rfl) (as2 := [AI 40]) rfl sh2 rfl (by omega) (L0 := [vR r0, vI 40]) rfl ?_
    exact (k1 c1)
  · have c1 : ¬ y0 = 0 := of_decide_eq_false c1
    refine g_sk 2 (pc1 := 20) (st1 := [AI 8, AI x3]) rfl ?_
    refine g_br2 rfl (t := 29) rfl (fun c3 => ?_) (fun c3 => ?_)
    · have c3 : ¬ x3 = 8 := of_decide_eq_true c3
      refine g_sk 1 (pc1 := 30) (st1 := [AR r0]) rfl ?_
      refine g_cv rfl rfl (by decide) rfl rfl (Nat.le_of_ble_eq_true rfl) (as2 := []) rfl sh2 rfl (by omega) (L0 := [vR r0, none, none, none]) rfl ?_
      exact (k2 c1 c3)
    · have c3 : x3 = 8 := Decidable.of_not_not (of_decide_eq_false c3)
      refine g_sk 2 (pc1 := 25) (st1 := [AI 4, AR r0]) rfl ?_
      refine G_fg (lw2_f _ (lw2_f _ (lw2_f _ (lw2_f _ (lw2_k _ lw2_nil))))) ?_
      refine g_cv rfl rfl (by decide) rfl rfl (Nat.le_of_ble_eq_true rfl) (as2 := [AI 4]) rfl sh2 rfl (by omega) (L0 := [vR r0, vI 4]) rfl ?_
      exact (k3 c1 c3)

set_option maxRecDepth 8192 in
theorem t53_28 {d : Nat} {τ : T2} {Q : RS → T2 → Prop} {y0 : Int} (p1 : y0 = 0 ∨ y0 = 1) (k1 : Q (.inl (some (AI y0))) τ) : G d 53 28 [none, none, none, none, none] [AI y0] τ Q := by
  refine g_zret rfl rfl p1 ?_
  exact k1

set_option maxRecDepth 8192 in
theorem t53_33 {d : Nat} {τ : T2} {Q : RS → T2 → Prop} {x1 x2 x3 : Int} {r0 : Option Nat} (k1 : G d 53 2 [vQ r0, vI x1, vI x2, vI (wr (x3 + 1)), none] [] τ Q) : G d 53 33 [vQ r0, vI x1, vI x2, vI x3, none] [] τ Q := by
  refine g_sx 2 (pc1 := 2) (L1 := [vQ r0, vI x1, vI x2, vI (wr (x3 + 1)), none]) (st1 := []) rfl ?_
  exact k1

set_option maxRecDepth 8192 in
theorem t53_45 {d : Nat} {τ : T2} {Q : RS → T2 → Prop} {x1 x2 x3 y0 : Int} {r0 : Option Nat} (hd : 1 ≤ d) (k1 : y0 = 0 → G (d - 1) 55 0 [vQ r0, vI x1, none, none, none] [] τ (KC d 53 59 62 [vQ r0, none, none, vI x3, none] [] Q)) (k2 : ¬ y0 = 0 → G (d - 1) 54 0 [vQ r0, vI x1, vI x2] [] τ (KC d 53 51 54 [vQ r0, none, none, vI x3, none] [] Q)) : G d 53 45 [vQ r0, vI x1, vI x2, vI x3, none] [AI y0] τ Q := by
  refine g_br1 rfl (t := 57) rfl (fun c1 => ?_) (fun c1 => ?_)
  · have c1 : y0 = 0 := of_decide_eq_true c1
    refine g_sk 2 (pc1 := 59) (st1 := [AI x1, AP r0]) rfl ?_
    refine G_fg (lw2_k _ (lw2_f _ (lw2_f _ (lw2_k _ (lw2_k _ lw2_nil))))) ?_
    refine g_cs rfl rfl (by decide) rfl rfl (Nat.le_of_ble_eq_true rfl) rfl (by omega) (L0 := [vQ r0, vI x1, none, none, none]) rfl ?_
    exact (k1 c1)
  · have c1 : ¬ y0 = 0 := of_decide_eq_false c1
    refine g_sk 3 (pc1 := 51) (st1 := [AI x2, AI x1, AP r0]) rfl ?_
    refine G_fg (lw2_k _ (lw2_f _ (lw2_f _ (lw2_k _ (lw2_k _ lw2_nil))))) ?_
    refine g_cs rfl rfl (by decide) rfl rfl (Nat.le_of_ble_eq_true rfl) rfl (by omega) (L0 := [vQ r0, vI x1, vI x2]) rfl ?_
    exact (k2 c1)

set_option maxRecDepth 8192 in
theorem t53_54 {d : Nat} {τ : T2} {Q : RS → T2 → Prop} {x3 y0 : Int} {r0 : Nat} (hd : 1 ≤ d) (p2 : y0 = 0 → y0 = 0 ∨ y0 = 1) (p4 : ¬ y0 = 0 → ¬ (zand x3 1) = 1 → y0 = 0 ∨ y0 = 1) (sh5 : tS τ r0 = (1, 9, 0)) (k1 : y0 = 0 → Q (.inl (some (AI y0))) τ) (k2 : ¬ y0 = 0 → ¬ (zand x3 1) = 1 → Q (.inl (some (AI y0))) τ) (k3 : ¬ y0 = 0 → (zand x3 1) = 1 → G (d - 1) 78 0 [vR r0, vI 5, vI 0, vI 0, none] [] τ (KC d 53 80 83 [none, none, none, none, vI y0] [] Q)) : G d 53 54 [vR r0, none, none, vI x3, none] [AI y0] τ Q := by
  refine g_sx 3 (pc1 := 66) (L1 := [vR r0, none, none, vI x3, vI y0]) (st1 := [AI y0]) rfl ?_
  refine g_br1 rfl (t := 84) rfl (fun c1 => ?_) (fun c1 => ?_)
  · have c1 : y0 = 0 := of_decide_eq_true c1
    refine g_sk 1 (pc1 := 86) (st1 := [AI y0]) rfl ?_
    refine g_zret rfl rfl (p2 c1) ?_
    exact (k1 c1)
  · have c1 : ¬ y0 = 0 := of_decide_eq_false c1
    refine g_sk 4 (pc1 := 73) (st1 := [AI 1, AI (zand x3 1)]) rfl ?_
    refine g_br2 rfl (t := 84) rfl (fun c3 => ?_) (fun c3 => ?_)
    · have c3 : ¬ (zand x3 1) = 1 := of_decide_eq_true c3
      refine g_sk 1 (pc1 := 86) (st1 := [AI y0]) rfl ?_
      refine g_zret rfl rfl (p4 c1 c3) ?_
      exact (k2 c1 c3)
    · have c3 : (zand x3 1) = 1 := Decidable.of_not_not (of_decide_eq_false c3)
      refine g_sk 4 (pc1 := 80) (st1 := [AI 0, AI 0, AI 5, AR r0]) rfl ?_
      refine G_fg (lw2_f _ (lw2_k _ (lw2_k _ (lw2_f _ (lw2_k _ lw2_nil))))) ?_
      refine g_cv rfl rfl (by decide) rfl rfl (Nat.le_of_ble_eq_true rfl) (as2 := [AI 5, AI 0, AI 0]) rfl sh5 rfl (by omega) (L0 := [vR r0, vI 5, vI 0, vI 0, none]) rfl ?_
      exact (k3 c1 c3)

set_option maxRecDepth 8192 in
theorem t53_62 {d : Nat} {τ : T2} {Q : RS → T2 → Prop} {x3 y0 : Int} {r0 : Nat} (hd : 1 ≤ d) (p2 : y0 = 0 → y0 = 0 ∨ y0 = 1) (p4 : ¬ y0 = 0 → ¬ (zand x3 1) = 1 → y0 = 0 ∨ y0 = 1) (sh5 : tS τ r0 = (1, 9, 0)) (k1 : y0 = 0 → Q (.inl (some (AI y0))) τ) (k2 : ¬ y0 = 0 → ¬ (zand x3 1) = 1 → Q (.inl (some (AI y0))) τ) (k3 : ¬ y0 = 0 → (zand x3 1) = 1 → G (d - 1) 78 0 [vR r0, vI 5, vI 0, vI 0, none] [] τ (KC d 53 80 83 [none, none, none, none, vI y0] [] Q)) : G d 53 62 [vR r0, none, none, vI x3, none] [AI y0] τ Q := by
  refine g_sx 2 (pc1 := 66) (L1 := [vR r0, none, none, vI x3, vI y0]) (st1 := [AI y0]) rfl ?_
  refine g_br1 rfl (t := 84) rfl (fun c1 => ?_) (fun c1 => ?_)
  · have c1 : y0 = 0 := of_decide_eq_true c1
    refine g_sk 1 (pc1 := 86) (st1 := [AI y0]) rfl ?_
    refine g_zret rfl rfl (p2 c1) ?_
    exact (k1 c1)
  · have c1 : ¬ y0 = 0 := of_decide_eq_false c1
    refine g_sk 4 (pc1 := 73) (st1 := [AI 1, AI (zand x3 1)]) rfl ?_
    refine g_br2 rfl (t := 84) rfl (fun c3 => ?_) (fun c3 => ?_)
    · have c3 : ¬ (zand x3 1) = 1 := of_decide_eq_true c3
      refine g_sk 1 (pc1 := 86) (st1 := [AI y0]) rfl ?_
      refine g_zret rfl rfl (p4 c1 c3) ?_
      exact (k2 c1 c3)
    · have c3 : (zand x3 1) = 1 := Decidable.of_not_not (of_decide_eq_false c3)
      refine g_sk 4 (pc1 := 80) (st1 := [AI 0, AI 0, AI 5, AR r0]) rfl ?_
      refine G_fg (lw2_f _ (lw2_k _ (lw2_k _ (lw2_f _ (lw2_k _ lw2_nil))))) ?_
      refine g_cv rfl rfl (by decide) rfl rfl (Nat.le_of_ble_eq_true rfl) (as2 := [AI 5, AI 0, AI 0]) rfl sh5 rfl (by omega) (L0 := [vR r0, vI 5, vI 0, vI 0, none]) rfl ?_
      exact (k3 c1 c3)

set_option maxRecDepth 8192 in
theorem t53_83 {d : Nat} {τ : T2} {Q : RS → T2 → Prop} {x4 y0 : Int} (p1 : x4 = 0 ∨ x4 = 1) (k1 : Q (.inl (some (AI x4))) τ) : G d 53 83 [none, none, none, none, vI x4] [AI y0] τ Q := by
  refine g_sk 2 (pc1 := 86) (st1 := [AI x4]) rfl ?_
  refine g_zret rfl rfl p1 ?_
  exact k1

set_option maxRecDepth 8192 in
theorem t54_0 {d : Nat} {τ : T2} {Q : RS → T2 → Prop} {x1 x2 : Int} {r0 : Nat} (hd : 1 ≤ d) (sh2 : tS τ r0 = (1, 9, 0)) (k1 : x2 < 8 → G (d - 1) 68 0 [vR r0, none, none, none] [] τ (KC d 54 13 16 [vR r0, vI x1, vI x2] [] Q)) (k2 : 8 ≤ x2 → G (d - 1) 76 0 [vR r0, vI 4] [] τ (KC d 54 8 11 [none, none, none] [] Q)) : G d 54 0 [vR r0, vI x1, vI x2] [] τ Q := by
  refine g_sk 2 (pc1 := 3) (st1 := [AI 8, AI x2]) rfl ?_
  refine g_br2 rfl (t := 12) rfl (fun c1 => ?_) (fun c1 => ?_)
  · have c1 : x2 < 8 := of_decide_eq_true c1
    refine g_sk 1 (pc1 := 13) (st1 := [AR r0]) rfl ?_
    refine g_cv rfl rfl (by decide) rfl rfl (Nat.le_of_ble_eq_true rfl) (as2 := []) rfl sh2 rfl (by omega) (L0 := [vR r0, none, none, none]) rfl ?_
    exact (k1 c1)
  · have c1 : 8 ≤ x2 := Int.not_lt.mp (of_decide_eq_false c1)
    refine g_sk 2 (pc1 := 8) (st1 := [AI 4, AR r0]) rfl ?_
    refine G_fg (lw2_f _ (lw2_f _ (lw2_f _ lw2_nil))) ?_
    refine g_cv rfl rfl (by decide) rfl rfl (Nat.le_of_ble_eq_true rfl) (as2 := [AI 4]) rfl sh2 rfl (by omega) (L0 := [vR r0, vI 4]) rfl ?_
    exact (k2 c1)

set_option maxRecDepth 8192 in
theorem t54_11 {d : Nat} {τ : T2} {Q : RS → T2 → Prop} {y0 : Int} (p1 : y0 = 0 ∨ y0 = 1) (k1 : Q (.inl (some (AI y0))) τ) : G d 54 11 [none, none, none] [AI y0] τ Q := by
  refine g_zret rfl rfl p1 ?_
  exact k1

set_option maxRecDepth 8192 in
theorem t54_16 {d : Nat} {τ : T2} {Q : RS → T2 → Prop} {x1 x2 : Int} {r0 : Option Nat} (hd : 1 ≤ d) (k1 : G (d - 1) 51 0 [vQ r0, vI x1, vI (wr (x2 + 1)), none, none] [] τ (KC d 54 21 24 [vQ r0, none, none] [] Q)) : G d 54 16 [vQ r0, vI x1, vI x2] [] τ Q := by
  refine g_sk 5 (pc1 := 21) (st1 := [AI (wr (x2 + 1)), AI x1, AP r0]) rfl ?_
  refine G_fg (lw2_k _ (lw2_f _ (lw2_f _ lw2_nil))) ?_
  refine g_cs rfl rfl (by decide) rfl rfl (Nat.le_of_ble_eq_true rfl) rfl (by omega) (L0 := [vQ r0, vI x1, vI (wr (x2 + 1)), none, none]) rfl ?_
  exact k1

set_option maxRecDepth 8192 in
theorem t54_24 {d : Nat} {τ : T2} {Q : RS → T2 → Prop} {y0 : Int} {r0 : Nat} (hd : 1 ≤ d) (sh2 : tS τ r0 = (1, 9, 0)) (k1 : ¬ y0 = 0 → G (d - 1) 73 0 [vR r0, vI 41] [] τ (KC d 54 32 35 [vR r0, none, none] [] Q)) (k2 : y0 = 0 → Q (.inl (some (AI 0))) τ) : G d 54 24 [vR r0, none, none] [AI y0] τ Q := by
  refine g_br1 rfl (t := 29) rfl (fun c1 => ?_) (fun c1 => ?_)
  · have c1 : ¬ y0 = 0 := of_decide_eq_true c1
    refine g_sk 2 (pc1 := 32) (st1 := [AI 41, AR r0]) rfl ?_
    refine g_cv rfl rfl (by decide) rfl rfl (Nat.le_of_ble_eq_true rfl) (as2 := [AI 41]) rfl sh2 rfl (by omega) (L0 := [vR r0, vI 41]) rfl ?_
    exact (k1 c1)
  · have c1 : y0 = 0 := Decidable.of_not_not (of_decide_eq_false c1)
    refine g_sk 1 (pc1 := 28) (st1 := [AI 0]) rfl ?_
    refine g_zret rfl rfl (by decide) ?_
    exact (k2 c1)

set_option maxRecDepth 8192 in
theorem t54_35 {d : Nat} {τ : T2} {Q : RS → T2 → Prop} {y0 : Int} {r0 : Nat} (hd : 1 ≤ d) (sh2 : tS τ r0 = (1, 9, 0)) (k1 : ¬ y0 = 0 → G (d - 1) 68 0 [vR r0, none, none, none] [] τ (KC d 54 45 48 [none, none, none] [] Q)) (k2 : y0 = 0 → G (d - 1) 76 0 [vR r0, vI 1] [] τ (KC d 54 40 43 [none, none, none] [] Q)) : G d 54 35 [vR r0, none, none] [AI y0] τ Q := by
  refine g_br1 rfl (t := 44) rfl (fun c1 => ?_) (fun c1 => ?_)
  · have c1 : ¬ y0 = 0 := of_decide_eq_true c1
    refine g_sk 1 (pc1 := 45) (st1 := [AR r0]) rfl ?_
    refine G_fg (lw2_f _ (lw2_k _ (lw2_k _ lw2_nil))) ?_
    refine g_cv rfl rfl (by decide) rfl rfl (Nat.le_of_ble_eq_true rfl) (as2 := []) rfl sh2 rfl (by omega) (L0 := [vR r0, none, none, none]) rfl ?_
    exact (k1 c1)
  · have c1 : y0 = 0 := Decidable.of_not_not (of_decide_eq_false c1)
    refine g_sk 2 (pc1 := 40) (st1 := [AI 1, AR r0]) rfl ?_
    refine G_fg (lw2_f _ (lw2_k _ (lw2_k _ lw2_nil))) ?_
    refine g_cv rfl rfl (by decide) rfl rfl (Nat.le_of_ble_eq_true rfl) (as2 := [AI 1]) rfl sh2 rfl (by omega) (L0 := [vR r0, vI 1]) rfl ?_
    exact (k2 c1)

set_option maxRecDepth 8192 in
theorem t54_43 {d : Nat} {τ : T2} {Q : RS → T2 → Prop} {y0 : Int} (p1 : y0 = 0 ∨ y0 = 1) (k1 : Q (.inl (some (AI y0))) τ) : G d 54 43 [none, none, none] [AI y0] τ Q := by
  refine g_zret rfl rfl p1 ?_
  exact k1

set_option maxRecDepth 8192 in
theorem t54_48 {d : Nat} {τ : T2} {Q : RS → T2 → Prop}  (k1 : Q (.inl (some (AI 1))) τ) : G d 54 48 [none, none, none] [] τ Q := by
  refine g_sk 1 (pc1 := 49) (st1 := [AI 1]) rfl ?_
  refine g_zret rfl rfl (by decide) ?_
  exact k1

set_option maxRecDepth 8192 in
theorem t55_0 {d : Nat} {τ : T2} {Q : RS → T2 → Prop} {x1 : Int} {r0 : Option Nat} (hd : 1 ≤ d) (k1 : G (d - 1) 56 0 [vQ r0] [] τ (KC d 55 1 4 [vQ r0, vI x1, none, none, none] [] Q)) : G d 55 0 [vQ r0, vI x1, none, none, none] [] τ Q := by
  refine g_sk 1 (pc1 := 1) (st1 := [AP r0]) rfl ?_
  refine g_cs rfl rfl (by decide) rfl rfl (Nat.le_of_ble_eq_true rfl) rfl (by omega) (L0 := [vQ r0]) rfl ?_
  exact k1

set_option maxRecDepth 8192 in
theorem t55_4 {d : Nat} {τ : T2} {Q : RS → T2 → Prop} {x1 y0 : Int} {r0 : Nat} (hd : 1 ≤ d) (sh2 : tS τ r0 = (1, 9, 0)) (k1 : ¬ y0 = (-1) → G (d - 1) 77 0 [vR r0, vI 30] [] τ (KC d 55 19 22 [vR r0, vI x1, vI y0, none, none] [] Q)) (k2 : y0 = (-1) → G (d - 1) 76 0 [vR r0, vI 1] [] τ (KC d 55 12 15 [none, none, none, none, none] [] Q)) : G d 55 4 [vR r0, vI x1, none, none, none] [AI y0] τ Q := by
  refine g_sx 3 (pc1 := 7) (L1 := [vR r0, vI x1, vI y0, none, none]) (st1 := [AI (-1), AI y0]) rfl ?_
  refine g_br2 rfl (t := 16) rfl (fun c1 => ?_) (fun c1 => ?_)
  · have c1 : ¬ y0 = (-1) := of_decide_eq_true c1
    refine g_sk 2 (pc1 := 19) (st1 := [AI 30, AR r0]) rfl ?_
    refine g_cv rfl rfl (by decide) rfl rfl (Nat.le_of_ble_eq_true rfl) (as2 := [AI 30]) rfl sh2 rfl (by omega) (L0 := [vR r0, vI 30]) rfl ?_
    exact (k1 c1)
  · have c1 : y0 = (-1) := Decidable.of_not_not (of_decide_eq_false c1)
    refine g_sk 2 (pc1 := 12) (st1 := [AI 1, AR r0]) rfl ?_
    refine G_fg (lw2_f _ (lw2_f _ (lw2_f _ (lw2_k _ (lw2_k _ lw2_nil))))) ?_
    refine g_cv rfl rfl (by decide) rfl rfl (Nat.le_of_ble_eq_true rfl) (as2 := [AI 1]) rfl sh2 rfl (by omega) (L0 := [vR r0, vI 1]) rfl ?_
    exact (k2 c1)

set_option maxRecDepth 8192 in
theorem t55_15 {d : Nat} {τ : T2} {Q : RS → T2 → Prop} {y0 : Int} (p1 : y0 = 0 ∨ y0 = 1) (k1 : Q (.inl (some (AI y0))) τ) : G d 55 15 [none, none, none, none, none] [AI y0] τ Q := by
  refine g_zret rfl rfl p1 ?_
  exact k1

set_option maxRecDepth 8192 in
theorem t55_22 {d : Nat} {τ : T2} {Q : RS → T2 → Prop} {x1 x2 y0 : Int} {r0 : Nat} (hd : 1 ≤ d) (sh2 : tS τ r0 = (1, 9, 0)) (k1 : ¬ y0 = 0 → G (d - 1) 68 0 [vR r0, none, none, none] [] τ (KC d 55 28 31 [vR r0, vI x1, vI x2, none, none] [] Q)) (k2 : y0 = 0 → Q (.inl (some (AI 0))) τ) : G d 55 22 [vR r0, vI x1, vI x2, none, none] [AI y0] τ Q := by
  refine g_br1 rfl (t := 27) rfl (fun c1 => ?_) (fun c1 => ?_)
  · have c1 : ¬ y0 = 0 := of_decide_eq_true c1
    refine g_sk 1 (pc1 := 28) (st1 := [AR r0]) rfl ?_
    refine g_cv rfl rfl (by decide) rfl rfl (Nat.le_of_ble_eq_true rfl) (as2 := []) rfl sh2 rfl (by omega) (L0 := [vR r0, none, none, none]) rfl ?_
    exact (k1 c1)
  · have c1 : y0 = 0 := Decidable.of_not_not (of_decide_eq_false c1)
    refine g_sk 1 (pc1 := 26) (st1 := [AI 0]) rfl ?_
    refine g_zret rfl rfl (by decide) ?_
    exact (k2 c1)

set_option maxRecDepth 8192 in
theorem t55_31 {d : Nat} {τ : T2} {Q : RS → T2 → Prop} {x1 x2 : Int} {r0 : Nat} (hd : 1 ≤ d) (sh5 : tS τ r0 = (1, 9, 0)) (k1 : ¬ x2 = 3 → ¬ x2 = 2 → ¬ x2 = 4 → ¬ x2 = 2 → G (d - 1) 74 0 [vR r0, vI 0, vI 20, vI 3] [] τ (KC d 55 99 102 [vR r0, none, vI x2, vI 0, none] [] Q)) (k2 : ¬ x2 = 3 → ¬ x2 = 2 → ¬ x2 = 4 → x2 = 2 → G (d - 1) 74 0 [vR r0, vI 0, vI 20, vI 2] [] τ (KC d 55 99 102 [vR r0, none, vI x2, vI 0, none] [] Q)) (k3 : ¬ x2 = 3 → ¬ x2 = 2 → x2 = 4 → ¬ x2 = 2 → G (d - 1) 74 0 [vR r0, vI 0, vI 9999, vI 3] [] τ (KC d 55 99 102 [vR r0, none, vI x2, vI 0, none] [] Q)) (k4 : ¬ x2 = 3 → ¬ x2 = 2 → x2 = 4 → x2 = 2 → G (d - 1) 74 0 [vR r0, vI 0, vI 9999, vI 2] [] τ (KC d 55 99 102 [vR r0, none, vI x2, vI 0, none] [] Q)) (k5 : ¬ x2 = 3 → x2 = 2 → ¬ x2 = 2 → G (d - 1) 74 0 [vR r0, vI 0, vI (wr (x1 - 1)), vI 3] [] τ (KC d 55 99 102 [vR r0, none, vI x2, vI 0, none] [] Q)) (k6 : ¬ x2 = 3 → x2 = 2 → x2 = 2 → G (d - 1) 74 0 [vR r0, vI 0, vI (wr (x1 - 1)), vI 2] [] τ (KC d 55 99 102 [vR r0, none, vI x2, vI 0, none] [] Q)) (k7 : x2 = 3 → G (d - 1) 74 0 [vR r0, vI 0, vI 5, vI 3] [] τ (KC d 55 42 45 [vR r0, vI x1, vI x2, none, none] [] Q)) : G d 55 31 [vR r0, vI x1, vI x2, none, none] [] τ Q := by
  refine g_sx 4 (pc1 := 35) (L1 := [vR r0, vI x1, vI x2, vI 0, none]) (st1 := [AI 3, AI x2]) rfl ?_
  refine g_br2 rfl (t := 59) rfl (fun c1 => ?_) (fun c1 => ?_)
  · have c1 : ¬ x2 = 3 := of_decide_eq_true c1
    refine g_sk 2 (pc1 := 61) (st1 := [AI 2, AI x2]) rfl ?_
    refine g_br2 rfl (t := 70) rfl (fun c2 => ?_) (fun c2 => ?_)
    · have c2 : ¬ x2 = 2 := of_decide_eq_true c2
      refine g_sk 2 (pc1 := 72) (st1 := [AI 4, AI x2]) rfl ?_
      refine g_br2 rfl (t := 81) rfl (fun c3 => ?_) (fun c3 => ?_)
      · have c3 : ¬ x2 = 4 := of_decide_eq_true c3
        refine g_sx 7 (pc1 := 91) (L1 := [vR r0, vI x1, vI x2, vI 0, vI 20]) (st1 := [AI 2, AI x2, AI 20, AI 0, AR r0]) rfl ?_
        refine g_br2 rfl (t := 98) rfl (fun c4 => ?_) (fun c4 => ?_)
        · have c4 : ¬ x2 = 2 := of_decide_eq_true c4
          refine g_sk 1 (pc1 := 99) (st1 := [AI 3, AI 20, AI 0, AR r0]) rfl ?_
          refine G_fg (lw2_k _ (lw2_f _ (lw2_k _ (lw2_k _ (lw2_f _ lw2_nil))))) ?_
          refine g_cv rfl rfl (by decide) rfl rfl (Nat.le_of_ble_eq_true rfl) (as2 := [AI 0, AI 20, AI 3]) rfl sh5 rfl (by omega) (L0 := [vR r0, vI 0, vI 20, vI 3]) rfl ?_
          exact (k1 c1 c2 c3 c4)
        · have c4 : x2 = 2 := Decidable.of_not_not (of_decide_eq_false c4)
          refine g_sk 2 (pc1 := 99) (st1 := [AI 2, AI 20, AI 0, AR r0]) rfl ?_
          refine G_fg (lw2_k _ (lw2_f _ (lw2_k _ (lw2_k _ (lw2_f _ lw2_nil))))) ?_
          refine g_cv rfl rfl (by decide) rfl rfl (Nat.le_of_ble_eq_true rfl) (as2 := [AI 0, AI 20, AI 2]) rfl sh5 rfl (by omega) (L0 := [vR r0, vI 0, vI 20, vI 2]) rfl ?_
          exact (k2 c1 c2 c3 c4)
      · have c3 : x2 = 4 := Decidable.of_not_not (of_decide_eq_false c3)
        refine g_sx 8 (pc1 := 91) (L1 := [vR r0, vI x1, vI x2, vI 0, vI 9999]) (st1 := [AI 2, AI x2, AI 9999, AI 0, AR r0]) rfl ?_
        refine g_br2 rfl (t := 98) rfl (fun c6 => ?_) (fun c6 => ?_)
        · have c6 : ¬ x2 = 2 := of_decide_eq_true c6
          refine g_sk 1 (pc1 := 99) (st1 := [AI 3, AI 9999, AI 0, AR r0]) rfl ?_
          refine G_fg (lw2_k _ (lw2_f _ (lw2_k _ (lw2_k _ (lw2_f _ lw2_nil))))) ?_
          refine g_cv rfl rfl (by decide) rfl rfl (Nat.le_of_ble_eq_true rfl) (as2 := [AI 0, AI 9999, AI 3]) rfl sh5 rfl (by omega) (L0 := [vR r0, vI 0, vI 9999, vI 3]) rfl ?_
          exact (k3 c1 c2 c3 c6)
        · have c6 : x2 = 2 := Decidable.of_not_not (of_decide_eq_false c6)
          refine g_sk 2 (pc1 := 99) (st1 := [AI 2, AI 9999, AI 0, AR r0]) rfl ?_
          refine G_fg (lw2_k _ (lw2_f _ (lw2_k _ (lw2_k _ (lw2_f _ lw2_nil))))) ?_
          refine g_cv rfl rfl (by decide) rfl rfl (Nat.le_of_ble_eq_true rfl) (as2 := [AI 0, AI 9999, AI 2]) rfl sh5 rfl (by omega) (L0 := [vR r0, vI 0, vI 9999, vI 2]) rfl ?_
          exact (k4 c1 c2 c3 c6)
    · have c2 : x2 = 2 := Decidable.of_not_not (of_decide_eq_false c2)
      refine g_sx 10 (pc1 := 91) (L1 := [vR r0, vI x1, vI x2, vI 0, vI (wr (x1 - 1))]) (st1 := [AI 2, AI x2, AI (wr (x1 - 1)), AI 0, AR r0]) rfl ?_
      refine g_br2 rfl (t := 98) rfl (fun c7 => ?_) (fun c7 => ?_)
      · have c7 : ¬ x2 = 2 := of_decide_eq_true c7
        refine g_sk 1 (pc1 := 99) (st1 := [AI 3, AI (wr (x1 - 1)), AI 0, AR r0]) rfl ?_
        refine G_fg (lw2_k _ (lw2_f _ (lw2_k _ (lw2_k _ (lw2_f _ lw2_nil))))) ?_
        refine g_cv rfl rfl (by decide) rfl rfl (Nat.le_of_ble_eq_true rfl) (as2 := [AI 0, AI (wr (x1 - 1)), AI 3]) rfl sh5 rfl (by omega) (L0 := [vR r0, vI 0, vI (wr (x1 - 1)), vI 3]) rfl ?_
        exact (k5 c1 c2 c7)
      · have c7 : x2 = 2 := Decidable.of_not_not (of_decide_eq_false c7)
        refine g_sk 2 (pc1 := 99) (st1 := [AI 2, AI (wr (x1 - 1)), AI 0, AR r0]) rfl ?_
        refine G_fg (lw2_k _ (lw2_f _ (lw2_k _ (lw2_k _ (lw2_f _ lw2_nil))))) ?_
        refine g_cv rfl rfl (by decide) rfl rfl (Nat.le_of_ble_eq_true rfl) (as2 := [AI 0, AI (wr (x1 - 1)), AI 2]) rfl sh5 rfl (by omega) (L0 := [vR r0, vI 0, vI (wr (x1 - 1)), vI 2]) rfl ?_
        exact (k6 c1 c2 c7)
  · have c1 : x2 = 3 := Decidable.of_not_not (of_decide_eq_false c1)
    refine g_sk 4 (pc1 := 42) (st1 := [AI 3, AI 5, AI 0, AR r0]) rfl ?_
    refine G_fg (lw2_k _ (lw2_k _ (lw2_k _ (lw2_f _ (lw2_k _ lw2_nil))))) ?_
    refine g_cv rfl rfl (by decide) rfl rfl (Nat.le_of_ble_eq_true rfl) (as2 := [AI 0, AI 5, AI 3]) rfl sh5 rfl (by omega) (L0 := [vR r0, vI 0, vI 5, vI 3]) rfl ?_
    exact (k7 c1)

set_option maxRecDepth 8192 in
theorem t55_45 {d : Nat} {τ : T2} {Q : RS → T2 → Prop} {x1 x2 y0 : Int} {r0 : Nat} (hd : 1 ≤ d) (sh2 : tS τ r0 = (1, 9, 0)) (k1 : ¬ y0 = 0 → G (d - 1) 68 0 [vR r0, none, none, none] [] τ (KC d 55 56 59 [vR r0, vI x1, vI x2, vI (tI τ r0 3), none] [] Q)) (k2 : y0 = 0 → Q (.inl (some (AI 0))) τ) : G d 55 45 [vR r0, vI x1, vI x2, none, none] [AI y0] τ Q := by
  refine g_br1 rfl (t := 50) rfl (fun c1 => ?_) (fun c1 => ?_)
  · have c1 : ¬ y0 = 0 := of_decide_eq_true c1
    refine g_sk 1 (pc1 := 51) (st1 := [AR r0]) rfl ?_
    refine g_gI rfl (ci := 9) (k := 3) rfl sh2 ?_
    refine g_sx 2 (pc1 := 56) (L1 := [vR r0, vI x1, vI x2, vI (tI τ r0 3), none]) (st1 := [AR r0]) rfl ?_
    refine g_cv rfl rfl (by decide) rfl rfl (Nat.le_of_ble_eq_true rfl) (as2 := []) rfl sh2 rfl (by omega) (L0 := [vR r0, none, none, none]) rfl ?_
    exact (k1 c1)
  · have c1 : y0 = 0 := Decidable.of_not_not (of_decide_eq_false c1)
    refine g_sk 1 (pc1 := 49) (st1 := [AI 0]) rfl ?_
    refine g_zret rfl rfl (by decide) ?_
    exact (k2 c1)

set_option maxRecDepth 8192 in
theorem t55_59 {d : Nat} {τ : T2} {Q : RS → T2 → Prop} {x1 x2 x3 : Int} {r0 : Nat} (hd : 1 ≤ d) (sh4 : tS τ r0 = (1, 9, 0)) (k1 : ¬ x2 = 2 → ¬ x2 = 4 → ¬ x2 = 2 → G (d - 1) 74 0 [vR r0, vI 0, vI 20, vI 3] [] τ (KC d 55 99 102 [vR r0, none, vI x2, vI x3, none] [] Q)) (k2 : ¬ x2 = 2 → ¬ x2 = 4 → x2 = 2 → G (d - 1) 74 0 [vR r0, vI 0, vI 20, vI 2] [] τ (KC d 55 99 102 [vR r0, none, vI x2, vI x3, none] [] Q)) (k3 : ¬ x2 = 2 → x2 = 4 → ¬ x2 = 2 → G (d - 1) 74 0 [vR r0, vI 0, vI 9999, vI 3] [] τ (KC d 55 99 102 [vR r0, none, vI x2, vI x3, none] [] Q)) (k4 : ¬ x2 = 2 → x2 = 4 → x2 = 2 → G (d - 1) 74 0 [vR r0, vI 0, vI 9999, vI 2] [] τ (KC d 55 99 102 [vR r0, none, vI x2, vI x3, none] [] Q)) (k5 : x2 = 2 → ¬ x2 = 2 → G (d - 1) 74 0 [vR r0, vI 0, vI (wr (x1 - 1)), vI 3] [] τ (KC d 55 99 102 [vR r0, none, vI x2, vI x3, none] [] Q)) (k6 : x2 = 2 → x2 = 2 → G (d - 1) 74 0 [vR r0, vI 0, vI (wr (x1 - 1)), vI 2] [] τ (KC d 55 99 102 [vR r0, none, vI x2, vI x3, none] [] Q)) : G d 55 59 [vR r0, vI x1, vI x2, vI x3, none] [] τ Q := by
  refine g_sk 2 (pc1 := 61) (st1 := [AI 2, AI x2]) rfl ?_
  refine g_br2 rfl (t := 70) rfl (fun c1 => ?_) (fun c1 => ?_)
  · have c1 : ¬ x2 = 2 := of_decide_eq_true c1
    refine g_sk 2 (pc1 := 72) (st1 := [AI 4, AI x2]) rfl ?_
    refine g_br2 rfl (t := 81) rfl (fun c2 => ?_) (fun c2 => ?_)
    · have c2 : ¬ x2 = 4 := of_decide_eq_true c2
      refine g_sx 7 (pc1 := 91) (L1 := [vR r0, vI x1, vI x2, vI x3, vI 20]) (st1 := [AI 2, AI x2, AI 20, AI 0, AR r0]) rfl ?_
      refine g_br2 rfl (t := 98) rfl (fun c3 => ?_) (fun c3 => ?_)
      · have c3 : ¬ x2 = 2 := of_decide_eq_true c3
        refine g_sk 1 (pc1 := 99) (st1 := [AI 3, AI 20, AI 0, AR r0]) rfl ?_
        refine G_fg (lw2_k _ (lw2_f _ (lw2_k _ (lw2_k _ (lw2_f _ lw2_nil))))) ?_
        refine g_cv rfl rfl (by decide) rfl rfl (Nat.le_of_ble_eq_true rfl) (as2 := [AI 0, AI 20, AI 3]) rfl sh4 rfl (by omega) (L0 := [vR r0, vI 0, vI 20, vI 3]) rfl ?_
        exact (k1 c1 c2 c3)
      · have c3 : x2 = 2 := Decidable.of_not_not (of_decide_eq_false c3)
        refine g_sk 2 (pc1 := 99) (st1 := [AI 2, AI 20, AI 0, AR r0]) rfl ?_
        refine G_fg (lw2_k _ (lw2_f _ (lw2_k _ (lw2_k _ (lw2_f _ lw2_nil))))) ?_
        refine g_cv rfl rfl (by decide) rfl rfl (Nat.le_of_ble_eq_true rfl) (as2 := [AI 0, AI 20, AI 2]) rfl sh4 rfl (by omega) (L0 := [vR r0, vI 0, vI 20, vI 2]) rfl ?_
        exact (k2 c1 c2 c3)
    · have c2 : x2 = 4 := Decidable.of_not_not (of_decide_eq_false c2)
      refine g_sx 8 (pc1 := 91) (L1 := [vR r0, vI x1, vI x2, vI x3, vI 9999]) (st1 := [AI 2, AI x2, AI 9999, AI 0, AR r0]) rfl ?_
      refine g_br2 rfl (t := 98) rfl (fun c5 => ?_) (fun c5 => ?_)
      · have c5 : ¬ x2 = 2 := of_decide_eq_true c5
        refine g_sk 1 (pc1 := 99) (st1 := [AI 3, AI 9999, AI 0, AR r0]) rfl ?_
        refine G_fg (lw2_k _ (lw2_f _ (lw2_k _ (lw2_k _ (lw2_f _ lw2_nil))))) ?_
        refine g_cv rfl rfl (by decide) rfl rfl (Nat.le_of_ble_eq_true rfl) (as2 := [AI 0, AI 9999, AI 3]) rfl sh4 rfl (by omega) (L0 := [vR r0, vI 0, vI 9999, vI 3]) rfl ?_
        exact (k3 c1 c2 c5)
      · have c5 : x2 = 2 := Decidable.of_not_not (of_decide_eq_false c5)
        refine g_sk 2 (pc1 := 99) (st1 := [AI 2, AI 9999, AI 0, AR r0]) rfl ?_
        refine G_fg (lw2_k _ (lw2_f _ (lw2_k _ (lw2_k _ (lw2_f _ lw2_nil))))) ?_
        refine g_cv rfl rfl (by decide) rfl rfl (Nat.le_of_ble_eq_true rfl) (as2 := [AI 0, AI 9999, AI 2]) rfl sh4 rfl (by omega) (L0 := [vR r0, vI 0, vI 9999, vI 2]) rfl ?_
        exact (k4 c1 c2 c5)
  · have c1 : x2 = 2 := Decidable.of_not_not (of_decide_eq_false c1)
    refine g_sx 10 (pc1 := 91) (L1 := [vR r0, vI x1, vI x2, vI x3, vI (wr (x1 - 1))]) (st1 := [AI 2, AI x2, AI (wr (x1 - 1)), AI 0, AR r0]) rfl ?_
    refine g_br2 rfl (t := 98) rfl (fun c6 => ?_) (fun c6 => ?_)
    · have c6 : ¬ x2 = 2 := of_decide_eq_true c6
      refine g_sk 1 (pc1 := 99) (st1 := [AI 3, AI (wr (x1 - 1)), AI 0, AR r0]) rfl ?_
      refine G_fg (lw2_k _ (lw2_f _ (lw2_k _ (lw2_k _ (lw2_f _ lw2_nil))))) ?_
      refine g_cv rfl rfl (by decide) rfl rfl (Nat.le_of_ble_eq_true rfl) (as2 := [AI 0, AI (wr (x1 - 1)), AI 3]) rfl sh4 rfl (by omega) (L0 := [vR r0, vI 0, vI (wr (x1 - 1)), vI 3]) rfl ?_
      exact (k5 c1 c6)
    · have c6 : x2 = 2 := Decidable.of_not_not (of_decide_eq_false c6)
      refine g_sk 2 (pc1 := 99) (st1 := [AI 2, AI (wr (x1 - 1)), AI 0, AR r0]) rfl ?_
      refine G_fg (lw2_k _ (lw2_f _ (lw2_k _ (lw2_k _ (lw2_f _ lw2_nil))))) ?_
      refine g_cv rfl rfl (by decide) rfl rfl (Nat.le_of_ble_eq_true rfl) (as2 := [AI 0, AI (wr (x1 - 1)), AI 2]) rfl sh4 rfl (by omega) (L0 := [vR r0, vI 0, vI (wr (x1 - 1)), vI 2]) rfl ?_
      exact (k6 c1 c6)

set_option maxRecDepth 8192 in
theorem t55_102 {d : Nat} {τ : T2} {Q : RS → T2 → Prop} {x2 x3 y0 : Int} {r0 : Nat} (hd : 1 ≤ d) (sh2 : tS τ r0 = (1, 9, 0)) (k1 : ¬ y0 = 0 → G (d - 1) 78 0 [vR r0, vI x2, vI (tI τ r0 3), vI x3, none] [] τ (KC d 55 114 117 [vR r0, none, none, none, none] [] Q)) (k2 : y0 = 0 → Q (.inl (some (AI 0))) τ) : G d 55 102 [vR r0, none, vI x2, vI x3, none] [AI y0] τ Q := by
  refine g_br1 rfl (t := 107) rfl (fun c1 => ?_) (fun c1 => ?_)
  · have c1 : ¬ y0 = 0 := of_decide_eq_true c1
    refine g_sk 3 (pc1 := 110) (st1 := [AR r0, AI x2, AR r0]) rfl ?_
    refine g_gI rfl (ci := 9) (k := 3) rfl sh2 ?_
    refine g_sk 1 (pc1 := 114) (st1 := [AI x3, AI (tI τ r0 3), AI x2, AR r0]) rfl ?_
    refine G_fg (lw2_k _ (lw2_k _ (lw2_f _ (lw2_f _ (lw2_k _ lw2_nil))))) ?_
    refine g_cv rfl rfl (by decide) rfl rfl (Nat.le_of_ble_eq_true rfl) (as2 := [AI x2, AI (tI τ r0 3), AI x3]) rfl sh2 rfl (by omega) (L0 := [vR r0, vI x2, vI (tI τ r0 3), vI x3, none]) rfl ?_
    exact (k1 c1)
  · have c1 : y0 = 0 := Decidable.of_not_not (of_decide_eq_false c1)
    refine g_sk 1 (pc1 := 106) (st1 := [AI 0]) rfl ?_
    refine g_zret rfl rfl (by decide) ?_
    exact (k2 c1)

set_option maxRecDepth 8192 in
theorem t55_117 {d : Nat} {τ : T2} {Q : RS → T2 → Prop} {y0 : Int} {r0 : Nat} (hd : 1 ≤ d) (sh1 : tS τ r0 = (1, 9, 0)) (k1 : G (d - 1) 68 0 [vR r0, none, none, none] [] τ (KC d 55 119 122 [none, none, none, none, none] [] Q)) : G d 55 117 [vR r0, none, none, none, none] [AI y0] τ Q := by
  refine g_sk 2 (pc1 := 119) (st1 := [AR r0]) rfl ?_
  refine G_fg (lw2_f _ (lw2_k _ (lw2_k _ (lw2_k _ (lw2_k _ lw2_nil))))) ?_
  refine g_cv rfl rfl (by decide) rfl rfl (Nat.le_of_ble_eq_true rfl) (as2 := []) rfl sh1 rfl (by omega) (L0 := [vR r0, none, none, none]) rfl ?_
  exact k1

set_option maxRecDepth 8192 in
theorem t55_122 {d : Nat} {τ : T2} {Q : RS → T2 → Prop}  (k1 : Q (.inl (some (AI 1))) τ) : G d 55 122 [none, none, none, none, none] [] τ Q := by
  refine g_sk 1 (pc1 := 123) (st1 := [AI 1]) rfl ?_
  refine g_zret rfl rfl (by decide) ?_
  exact k1

set_option maxRecDepth 8192 in
theorem t56_0 {d : Nat} {τ : T2} {Q : RS → T2 → Prop} {r0 : Nat} (hd : 1 ≤ d) (sh1 : tS τ r0 = (1, 9, 0)) (k1 : G (d - 1) 72 0 [vR r0, vR 21, none] [] τ (KC d 56 3 6 [vR r0] [] Q)) : G d 56 0 [vR r0] [] τ Q := by
  refine g_sk 2 (pc1 := 3) (st1 := [AR 21, AR r0]) rfl ?_
  refine g_cv rfl rfl (by decide) rfl rfl (Nat.le_of_ble_eq_true rfl) (as2 := [AR 21]) rfl sh1 rfl (by omega) (L0 := [vR r0, vR 21, none]) rfl ?_
  exact k1

set_option maxRecDepth 8192 in
theorem t56_6 {d : Nat} {τ : T2} {Q : RS → T2 → Prop} {y0 : Int} {r0 : Nat} (hd : 1 ≤ d) (sh2 : tS τ r0 = (1, 9, 0)) (k1 : y0 = 0 → G (d - 1) 72 0 [vR r0, vR 22, none] [] τ (KC d 56 14 17 [vR r0] [] Q)) (k2 : ¬ y0 = 0 → Q (.inl (some (AI 1))) τ) : G d 56 6 [vR r0] [AI y0] τ Q := by
  refine g_br1 rfl (t := 11) rfl (fun c1 => ?_) (fun c1 => ?_)
  · have c1 : y0 = 0 := of_decide_eq_true c1
    refine g_sk 2 (pc1 := 14) (st1 := [AR 22, AR r0]) rfl ?_
    refine g_cv rfl rfl (by decide) rfl rfl (Nat.le_of_ble_eq_true rfl) (as2 := [AR 22]) rfl sh2 rfl (by omega) (L0 := [vR r0, vR 22, none]) rfl ?_
    exact (k1 c1)
  · have c1 : ¬ y0 = 0 := of_decide_eq_false c1
    refine g_sk 1 (pc1 := 10) (st1 := [AI 1]) rfl ?_
    refine g_iret rfl rfl ?_
    exact (k2 c1)

set_option maxRecDepth 8192 in
theorem t56_17 {d : Nat} {τ : T2} {Q : RS → T2 → Prop} {y0 : Int} {r0 : Nat} (hd : 1 ≤ d) (sh2 : tS τ r0 = (1, 9, 0)) (k1 : y0 = 0 → G (d - 1) 72 0 [vR r0, vR 23, none] [] τ (KC d 56 25 28 [vR r0] [] Q)) (k2 : ¬ y0 = 0 → Q (.inl (some (AI 2))) τ) : G d 56 17 [vR r0] [AI y0] τ Q := by
  refine g_br1 rfl (t := 22) rfl (fun c1 => ?_) (fun c1 => ?_)
  · have c1 : y0 = 0 := of_decide_eq_true c1
    refine g_sk 2 (pc1 := 25) (st1 := [AR 23, AR r0]) rfl ?_
    refine g_cv rfl rfl (by decide) rfl rfl (Nat.le_of_ble_eq_true rfl) (as2 := [AR 23]) rfl sh2 rfl (by omega) (L0 := [vR r0, vR 23, none]) rfl ?_
    exact (k1 c1)
  · have c1 : ¬ y0 = 0 := of_decide_eq_false c1
    refine g_sk 1 (pc1 := 21) (st1 := [AI 2]) rfl ?_
    refine g_iret rfl rfl ?_
    exact (k2 c1)

set_option maxRecDepth 8192 in
theorem t56_28 {d : Nat} {τ : T2} {Q : RS → T2 → Prop} {y0 : Int} {r0 : Nat} (hd : 1 ≤ d) (sh2 : tS τ r0 = (1, 9, 0)) (k1 : y0 = 0 → G (d - 1) 72 0 [vR r0, vR 24, none] [] τ (KC d 56 36 39 [none] [] Q)) (k2 : ¬ y0 = 0 → Q (.inl (some (AI 3))) τ) : G d 56 28 [vR r0] [AI y0] τ Q := by
  refine g_br1 rfl (t := 33) rfl (fun c1 => ?_) (fun c1 => ?_)
  · have c1 : y0 = 0 := of_decide_eq_true c1
    refine g_sk 2 (pc1 := 36) (st1 := [AR 24, AR r0]) rfl ?_
    refine G_fg (lw2_f _ lw2_nil) ?_
    refine g_cv rfl rfl (by decide) rfl rfl (Nat.le_of_ble_eq_true rfl) (as2 := [AR 24]) rfl sh2 rfl (by omega) (L0 := [vR r0, vR 24, none]) rfl ?_
    exact (k1 c1)
  · have c1 : ¬ y0 = 0 := of_decide_eq_false c1
    refine g_sk 1 (pc1 := 32) (st1 := [AI 3]) rfl ?_
    refine g_iret rfl rfl ?_
    exact (k2 c1)

set_option maxRecDepth 8192 in
theorem t56_39 {d : Nat} {τ : T2} {Q : RS → T2 → Prop} {y0 : Int} (k1 : y0 = 0 → Q (.inl (some (AI (-1)))) τ) (k2 : ¬ y0 = 0 → Q (.inl (some (AI 4))) τ) : G d 56 39 [none] [AI y0] τ Q := by
  refine g_br1 rfl (t := 46) rfl (fun c1 => ?_) (fun c1 => ?_)
  · have c1 : y0 = 0 := of_decide_eq_true c1
    refine g_sk 1 (pc1 := 47) (st1 := [AI (-1)]) rfl ?_
    refine g_iret rfl rfl ?_
    exact (k1 c1)
  · have c1 : ¬ y0 = 0 := of_decide_eq_false c1
    refine g_sk 2 (pc1 := 47) (st1 := [AI 4]) rfl ?_
    refine g_iret rfl rfl ?_
    exact (k2 c1)

set_option maxRecDepth 8192 in
theorem t57_0 {d : Nat} {τ : T2} {Q : RS → T2 → Prop} {x1 x2 : Int} {r0 : Nat} {r3 : Option Nat} (sh1 : tS τ r0 = (1, 3, 0)) (k1 : G d 57 17 [none, vI x1, vI x2, vQ r3, vQ (tP τ r0 0), vI 0, vI 0, vI 400, none, none, none, none] [] τ Q) : G d 57 0 [vR r0, vI x1, vI x2, vQ r3, none, none, none, none, none, none, none, none] [] τ Q := by
  refine g_sk 1 (pc1 := 1) (st1 := [AR r0]) rfl ?_
  refine g_gP rfl (ci := 3) (k := 0) rfl sh1 ?_
  refine g_sx 7 (pc1 := 17) (L1 := [vR r0, vI x1, vI x2, vQ r3, vQ (tP τ r0 0), vI 0, vI 0, vI 400, none, none, none, none]) (st1 := []) rfl ?_
  exact G_fg (lw2_f _ (lw2_k _ (lw2_k _ (lw2_k _ (lw2_k _ (lw2_k _ (lw2_k _ (lw2_k _ (lw2_k _ (lw2_k _ (lw2_k _ (lw2_k _ lw2_nil)))))))))))) k1

set_option maxRecDepth 8192 in
theorem t57_17 {d : Nat} {τ : T2} {Q : RS → T2 → Prop} {x1 x2 x5 x6 x7 : Int} {r4 n5 : Nat} {r3 : Option Nat} (hd : 1 ≤ d) (p2 : x7 ≤ 0 → x5 = 0 ∨ x5 = 1) (p4 : 0 < x7 → x6 < 0 → x5 = 0 ∨ x5 = 1) (sh6 : tS τ r4 = (2, 0, n5)) (p8 : 0 < x7 → 0 ≤ x6 → (n5 : Int) < (wr (x6 + 3)) → x5 = 0 ∨ x5 = 1) (b9 : 0 < x7 → 0 ≤ x6 → (wr (x6 + 3)) ≤ (n5 : Int) → (0 : Int) ≤ x6 ∧ x6 < (n5 : Int)) (b10 : 0 < x7 → 0 ≤ x6 → (wr (x6 + 3)) ≤ (n5 : Int) → (0 : Int) ≤ (wr (x6 + 1)) ∧ (wr (x6 + 1)) < (n5 : Int)) (b17 : 0 < x7 → 0 ≤ x6 → (wr (x6 + 3)) ≤ (n5 : Int) → ¬ (tI τ r4 x6.toNat) = 5 → ¬ (tI τ r4 x6.toNat) = 6 → ¬ (tI τ r4 x6.toNat) = 7 → ¬ (tI τ r4 x6.toNat) = 4 → ¬ (tI τ r4 x6.toNat) = 2 → (tI τ r4 x6.toNat) = 3 → (0 : Int) ≤ (wr (x6 + 2)) ∧ (wr (x6 + 2)) < (n5 : Int)) (k1 : x7 ≤ 0 → Q (.inl (some (AI x5))) τ) (k2 : 0 < x7 → x6 < 0 → Q (.inl (some (AI x5))) τ) (k3 : 0 < x7 → 0 ≤ x6 → (n5 : Int) < (wr (x6 + 3)) → Q (.inl (some (AI x5))) τ) (k4 : 0 < x7 → 0 ≤ x6 → (wr (x6 + 3)) ≤ (n5 : Int) → ¬ (tI τ r4 x6.toNat) = 5 → ¬ (tI τ r4 x6.toNat) = 6 → ¬ (tI τ r4 x6.toNat) = 7 → ¬ (tI τ r4 x6.toNat) = 4 → ¬ (tI τ r4 x6.toNat) = 2 → ¬ (tI τ r4 x6.toNat) = 3 → G (d - 1) 246 0 [vI x1] [] τ (KC d 57 203 206 [none, vI x1, vI x2, vQ r3, vR r4, none, none, vI x7, none, vI (tI τ r4 (wr (x6 + 1)).toNat), vI (wr (x6 + 3)), none] [] Q)) (k5 : 0 < x7 → 0 ≤ x6 → (wr (x6 + 3)) ≤ (n5 : Int) → ¬ (tI τ r4 x6.toNat) = 5 → ¬ (tI τ r4 x6.toNat) = 6 → ¬ (tI τ r4 x6.toNat) = 7 → ¬ (tI τ r4 x6.toNat) = 4 → ¬ (tI τ r4 x6.toNat) = 2 → (tI τ r4 x6.toNat) = 3 → G (d - 1) 58 0 [vQ r3, vI (tI τ r4 (wr (x6 + 2)).toNat)] [] τ (KC d 57 191 194 [none, vI x1, vI x2, vQ r3, vR r4, none, none, vI x7, none, vI (tI τ r4 (wr (x6 + 1)).toNat), vI (wr (x6 + 3)), none] [AI x1] Q)) (k6 : 0 < x7 → 0 ≤ x6 → (wr (x6 + 3)) ≤ (n5 : Int) → ¬ (tI τ r4 x6.toNat) = 5 → ¬ (tI τ r4 x6.toNat) = 6 → ¬ (tI τ r4 x6.toNat) = 7 → ¬ (tI τ r4 x6.toNat) = 4 → (tI τ r4 x6.toNat) = 2 → ¬ (zand (zshr x1 (tI τ r4 (wr (x6 + 1)).toNat)) 1) = 1 → G d 57 17 [none, vI x1, vI x2, vQ r3, vR r4, vI 0, vI (wr (x6 + 3)), vI (wr (x7 + (-1))), none, none, none, none] [] τ Q) (k7 : 0 < x7 → 0 ≤ x6 → (wr (x6 + 3)) ≤ (n5 : Int) → ¬ (tI τ r4 x6.toNat) = 5 → ¬ (tI τ r4 x6.toNat) = 6 → ¬ (tI τ r4 x6.toNat) = 7 → ¬ (tI τ r4 x6.toNat) = 4 → (tI τ r4 x6.toNat) = 2 → (zand (zshr x1 (tI τ r4 (wr (x6 + 1)).toNat)) 1) = 1 → G d 57 17 [none, vI x1, vI x2, vQ r3, vR r4, vI 1, vI (wr (x6 + 3)), vI (wr (x7 + (-1))), none, none, none, none] [] τ Q) (k8 : 0 < x7 → 0 ≤ x6 → (wr (x6 + 3)) ≤ (n5 : Int) → ¬ (tI τ r4 x6.toNat) = 5 → ¬ (tI τ r4 x6.toNat) = 6 → ¬ (tI τ r4 x6.toNat) = 7 → (tI τ r4 x6.toNat) = 4 → x2 < (tI τ r4 (wr (x6 + 1)).toNat) → G d 57 17 [none, vI x1, vI x2, vQ r3, vR r4, vI 0, vI (wr (x6 + 3)), vI (wr (x7 + (-1))), none, none, none, none] [] τ Q) (k9 : 0 < x7 → 0 ≤ x6 → (wr (x6 + 3)) ≤ (n5 : Int) → ¬ (tI τ r4 x6.toNat) = 5 → ¬ (tI τ r4 x6.toNat) = 6 → ¬ (tI τ r4 x6.toNat) = 7 → (tI τ r4 x6.toNat) = 4 → (tI τ r4 (wr (x6 + 1)).toNat) ≤ x2 → G d 57 17 [none, vI x1, vI x2, vQ r3, vR r4, vI 1, vI (wr (x6 + 3)), vI (wr (x7 + (-1))), none, none, none, none] [] τ Q) (k10 : 0 < x7 → 0 ≤ x6 → (wr (x6 + 3)) ≤ (n5 : Int) → ¬ (tI τ r4 x6.toNat) = 5 → ¬ (tI τ r4 x6.toNat) = 6 → (tI τ r4 x6.toNat) = 7 → x5 = 0 → G d 57 17 [none, vI x1, vI x2, vQ r3, vR r4, vI x5, vI (tI τ r4 (wr (x6 + 1)).toNat), vI (wr (x7 + (-1))), none, none, none, none] [] τ Q) (k11 : 0 < x7 → 0 ≤ x6 → (wr (x6 + 3)) ≤ (n5 : Int) → ¬ (tI τ r4 x6.toNat) = 5 → ¬ (tI τ r4 x6.toNat) = 6 → (tI τ r4 x6.toNat) = 7 → ¬ x5 = 0 → G d 57 17 [none, vI x1, vI x2, vQ r3, vR r4, vI x5, vI (wr (x6 + 3)), vI (wr (x7 + (-1))), none, none, none, none] [] τ Q) (k12 : 0 < x7 → 0 ≤ x6 → (wr (x6 + 3)) ≤ (n5 : Int) → ¬ (tI τ r4 x6.toNat) = 5 → (tI τ r4 x6.toNat) = 6 → x5 = 0 → G d 57 17 [none, vI x1, vI x2, vQ r3, vR r4, vI x5, vI (wr (x6 + 3)), vI (wr (x7 + (-1))), none, none, none, none] [] τ Q) (k13 : 0 < x7 → 0 ≤ x6 → (wr (x6 + 3)) ≤ (n5 : Int) → ¬ (tI τ r4 x6.toNat) = 5 → (tI τ r4 x6.toNat) = 6 → ¬ x5 = 0 → G d 57 17 [none, vI x1, vI x2, vQ r3, vR r4, vI x5, vI (tI τ r4 (wr (x6 + 1)).toNat), vI (wr (x7 + (-1))), none, none, none, none] [] τ Q) (k14 : 0 < x7 → 0 ≤ x6 → (wr (x6 + 3)) ≤ (n5 : Int) → (tI τ r4 x6.toNat) = 5 → ¬ x5 = 0 → G d 57 17 [none, vI x1, vI x2, vQ r3, vR r4, vI 0, vI (wr (x6 + 3)), vI (wr (x7 + (-1))), none, none, none, none] [] τ Q) (k15 : 0 < x7 → 0 ≤ x6 → (wr (x6 + 3)) ≤ (n5 : Int) → (tI τ r4 x6.toNat) = 5 → x5 = 0 → G d 57 17 [none, vI x1, vI x2, vQ r3, vR r4, vI 1, vI (wr (x6 + 3)), vI (wr (x7 + (-1))), none, none, none, none] [] τ Q) : G d 57 17 [none, vI x1, vI x2, vQ r3, vR r4, vI x5, vI x6, vI x7, none, none, none, none] [] τ Q := by
  refine g_sk 1 (pc1 := 19) (st1 := [AI x7]) rfl ?_
  refine g_br1 rfl (t := 228) rfl (fun c1 => ?_) (fun c1 => ?_)
  · have c1 : x7 ≤ 0 := of_decide_eq_true c1
    refine g_sk 1 (pc1 := 230) (st1 := [AI x5]) rfl ?_
    refine g_zret rfl rfl (p2 c1) ?_
    exact (k1 c1)
  · have c1 : 0 < x7 := Int.not_le.mp (of_decide_eq_false c1)
    refine g_sk 1 (pc1 := 24) (st1 := [AI x6]) rfl ?_
    refine g_br1 rfl (t := 228) rfl (fun c3 => ?_) (fun c3 => ?_)
    · have c3 : x6 < 0 := of_decide_eq_true c3
      refine g_sk 1 (pc1 := 230) (st1 := [AI x5]) rfl ?_
      refine g_zret rfl rfl (p4 c1 c3) ?_
      exact (k2 c1 c3)
    · have c3 : 0 ≤ x6 := Int.not_lt.mp (of_decide_eq_false c3)
      refine g_sk 4 (pc1 := 33) (st1 := [AR r4, AI (wr (x6 + 3))]) rfl ?_
      refine g_al2 rfl sh6 ?_
      refine g_br2 rfl (t := 228) rfl (fun c7 => ?_) (fun c7 => ?_)
      · have c7 : (n5 : Int) < (wr (x6 + 3)) := of_decide_eq_true c7
        refine g_sk 1 (pc1 := 230) (st1 := [AI x5]) rfl ?_
        refine g_zret rfl rfl (p8 c1 c3 c7) ?_
        exact (k3 c1 c3 c7)
      · have c7 : (wr (x6 + 3)) ≤ (n5 : Int) := Int.not_lt.mp (of_decide_eq_false c7)
        refine g_sk 2 (pc1 := 41) (st1 := [AI x6, AR r4]) rfl ?_
        refine g_iald rfl sh6 (by decide) (b9 c1 c3 c7).1 (b9 c1 c3 c7).2 ?_
        refine g_sx 5 (pc1 := 50) (L1 := [none, vI x1, vI x2, vQ r3, vR r4, vI x5, vI x6, vI x7, vI (tI τ r4 x6.toNat), none, none, none]) (st1 := [AI (wr (x6 + 1)), AR r4]) rfl ?_
        refine g_iald rfl sh6 (by decide) (b10 c1 c3 c7).1 (b10 c1 c3 c7).2 ?_
        refine g_sx 7 (pc1 := 62) (L1 := [none, vI x1, vI x2, vQ r3, vR r4, vI x5, vI x6, vI x7, vI (tI τ r4 x6.toNat), vI (tI τ r4 (wr (x6 + 1)).toNat), vI (wr (x6 + 3)), none]) (st1 := [AI 5, AI (tI τ r4 x6.toNat)]) rfl ?_
        refine g_br2 rfl (t := 80) rfl (fun c11 => ?_) (fun c11 => ?_)
        · have c11 : ¬ (tI τ r4 x6.toNat) = 5 := of_decide_eq_true c11
          refine g_sk 2 (pc1 := 84) (st1 := [AI 6, AI (tI τ r4 x6.toNat)]) rfl ?_
          refine g_br2 rfl (t := 104) rfl (fun c12 => ?_) (fun c12 => ?_)
          · have c12 : ¬ (tI τ r4 x6.toNat) = 6 := of_decide_eq_true c12
            refine g_sk 2 (pc1 := 108) (st1 := [AI 7, AI (tI τ r4 x6.toNat)]) rfl ?_
            refine g_br2 rfl (t := 128) rfl (fun c13 => ?_) (fun c13 => ?_)
            · have c13 : ¬ (tI τ r4 x6.toNat) = 7 := of_decide_eq_true c13
              refine g_sk 2 (pc1 := 131) (st1 := [AI 4, AI (tI τ r4 x6.toNat)]) rfl ?_
              refine g_br2 rfl (t := 150) rfl (fun c14 => ?_) (fun c14 => ?_)
              · have c14 : ¬ (tI τ r4 x6.toNat) = 4 := of_decide_eq_true c14
                refine g_sk 2 (pc1 := 153) (st1 := [AI 2, AI (tI τ r4 x6.toNat)]) rfl ?_
                refine g_br2 rfl (t := 176) rfl (fun c15 => ?_) (fun c15 => ?_)
                · have c15 : ¬ (tI τ r4 x6.toNat) = 2 := of_decide_eq_true c15
                  refine g_sk 2 (pc1 := 179) (st1 := [AI 3, AI (tI τ r4 x6.toNat)]) rfl ?_
                  refine g_br2 rfl (t := 198) rfl (fun c16 => ?_) (fun c16 => ?_)
                  · have c16 : ¬ (tI τ r4 x6.toNat) = 3 := of_decide_eq_true c16
                    refine g_sx 3 (pc1 := 203) (L1 := [none, vI x1, vI x2, vQ r3, vR r4, vI x5, vI x6, vI x7, vI (tI τ r4 x6.toNat), vI (tI τ r4 (wr (x6 + 1)).toNat), vI (wr (x6 + 3)), vI x1]) (st1 := [AI x1]) rfl ?_
                    refine G_fg (lw2_k _ (lw2_k _ (lw2_k _ (lw2_k _ (lw2_k _ (lw2_f _ (lw2_f _ (lw2_k _ (lw2_f _ (lw2_k _ (lw2_k _ (lw2_f _ lw2_nil)))))))))))) ?_
                    refine g_cs rfl rfl (by decide) rfl rfl (Nat.le_of_ble_eq_true rfl) rfl (by omega) (L0 := [vI x1]) rfl ?_
                    exact (k4 c1 c3 c7 c11 c12 c13 c14 c15 c16)
                  · have c16 : (tI τ r4 x6.toNat) = 3 := Decidable.of_not_not (of_decide_eq_false c16)
                    refine g_sk 6 (pc1 := 190) (st1 := [AI (wr (x6 + 2)), AR r4, AP r3, AI x1]) rfl ?_
                    refine g_iald rfl sh6 (by decide) (b17 c1 c3 c7 c11 c12 c13 c14 c15 c16).1 (b17 c1 c3 c7 c11 c12 c13 c14 c15 c16).2 ?_
                    refine G_fg (lw2_k _ (lw2_k _ (lw2_k _ (lw2_k _ (lw2_k _ (lw2_f _ (lw2_f _ (lw2_k _ (lw2_f _ (lw2_k _ (lw2_k _ (lw2_k _ lw2_nil)))))))))))) ?_
                    refine g_cs rfl rfl (by decide) rfl rfl (Nat.le_of_ble_eq_true rfl) rfl (by omega) (L0 := [vQ r3, vI (tI τ r4 (wr (x6 + 2)).toNat)]) rfl ?_
                    exact (k5 c1 c3 c7 c11 c12 c13 c14 c15 c16)
                · have c15 : (tI τ r4 x6.toNat) = 2 := Decidable.of_not_not (of_decide_eq_false c15)
                  refine g_sk 6 (pc1 := 163) (st1 := [AI 1, AI (zand (zshr x1 (tI τ r4 (wr (x6 + 1)).toNat)) 1)]) rfl ?_
                  refine g_br2 rfl (t := 170) rfl (fun c18 => ?_) (fun c18 => ?_)
                  · have c18 : ¬ (zand (zshr x1 (tI τ r4 (wr (x6 + 1)).toNat)) 1) = 1 := of_decide_eq_true c18
                    refine g_sx 7 (pc1 := 17) (L1 := [none, vI x1, vI x2, vQ r3, vR r4, vI 0, vI (wr (x6 + 3)), vI (wr (x7 + (-1))), vI (tI τ r4 x6.toNat), vI (tI τ r4 (wr (x6 + 1)).toNat), vI (wr (x6 + 3)), none]) (st1 := []) rfl ?_
                    exact G_fg (lw2_k _ (lw2_k _ (lw2_k _ (lw2_k _ (lw2_k _ (lw2_k _ (lw2_k _ (lw2_k _ (lw2_f _ (lw2_f _ (lw2_f _ (lw2_k _ lw2_nil)))))))))))) (k6 c1 c3 c7 c11 c12 c13 c14 c15 c18)
                  · have c18 : (zand (zshr x1 (tI τ r4 (wr (x6 + 1)).toNat)) 1) = 1 := Decidable.of_not_not (of_decide_eq_false c18)
                    refine g_sx 8 (pc1 := 17) (L1 := [none, vI x1, vI x2, vQ r3, vR r4, vI 1, vI (wr (x6 + 3)), vI (wr (x7 + (-1))), vI (tI τ r4 x6.toNat), vI (tI τ r4 (wr (x6 + 1)).toNat), vI (wr (x6 + 3)), none]) (st1 := []) rfl ?_
                    exact G_fg (lw2_k _ (lw2_k _ (lw2_k _ (lw2_k _ (lw2_k _ (lw2_k _ (lw2_k _ (lw2_k _ (lw2_f _ (lw2_f _ (lw2_f _ (lw2_k _ lw2_nil)))))))))))) (k7 c1 c3 c7 c11 c12 c13 c14 c15 c18)
              · have c14 : (tI τ r4 x6.toNat) = 4 := Decidable.of_not_not (of_decide_eq_false c14)
                refine g_sk 2 (pc1 := 137) (st1 := [AI (tI τ r4 (wr (x6 + 1)).toNat), AI x2]) rfl ?_
                refine g_br2 rfl (t := 144) rfl (fun c19 => ?_) (fun c19 => ?_)
                · have c19 : x2 < (tI τ r4 (wr (x6 + 1)).toNat) := of_decide_eq_true c19
                  refine g_sx 7 (pc1 := 17) (L1 := [none, vI x1, vI x2, vQ r3, vR r4, vI 0, vI (wr (x6 + 3)), vI (wr (x7 + (-1))), vI (tI τ r4 x6.toNat), vI (tI τ r4 (wr (x6 + 1)).toNat), vI (wr (x6 + 3)), none]) (st1 := []) rfl ?_
                  exact G_fg (lw2_k _ (lw2_k _ (lw2_k _ (lw2_k _ (lw2_k _ (lw2_k _ (lw2_k _ (lw2_k _ (lw2_f _ (lw2_f _ (lw2_f _ (lw2_k _ lw2_nil)))))))))))) (k8 c1 c3 c7 c11 c12 c13 c14 c19)
                · have c19 : (tI τ r4 (wr (x6 + 1)).toNat) ≤ x2 := Int.not_lt.mp (of_decide_eq_false c19)
                  refine g_sx 8 (pc1 := 17) (L1 := [none, vI x1, vI x2, vQ r3, vR r4, vI 1, vI (wr (x6 + 3)), vI (wr (x7 + (-1))), vI (tI τ r4 x6.toNat), vI (tI τ r4 (wr (x6 + 1)).toNat), vI (wr (x6 + 3)), none]) (st1 := []) rfl ?_
                  exact G_fg (lw2_k _ (lw2_k _ (lw2_k _ (lw2_k _ (lw2_k _ (lw2_k _ (lw2_k _ (lw2_k _ (lw2_f _ (lw2_f _ (lw2_f _ (lw2_k _ lw2_nil)))))))))))) (k9 c1 c3 c7 c11 c12 c13 c14 c19)
            · have c13 : (tI τ r4 x6.toNat) = 7 := Decidable.of_not_not (of_decide_eq_false c13)
              refine g_sk 1 (pc1 := 113) (st1 := [AI x5]) rfl ?_
              refine g_br1 rfl (t := 121) rfl (fun c20 => ?_) (fun c20 => ?_)
              · have c20 : x5 = 0 := of_decide_eq_true c20
                refine g_sx 7 (pc1 := 17) (L1 := [none, vI x1, vI x2, vQ r3, vR r4, vI x5, vI (tI τ r4 (wr (x6 + 1)).toNat), vI (wr (x7 + (-1))), vI (tI τ r4 x6.toNat), vI (tI τ r4 (wr (x6 + 1)).toNat), vI (tI τ r4 (wr (x6 + 1)).toNat), none]) (st1 := []) rfl ?_
                exact G_fg (lw2_k _ (lw2_k _ (lw2_k _ (lw2_k _ (lw2_k _ (lw2_k _ (lw2_k _ (lw2_k _ (lw2_f _ (lw2_f _ (lw2_f _ (lw2_k _ lw2_nil)))))))))))) (k10 c1 c3 c7 c11 c12 c13 c20)
              · have c20 : ¬ x5 = 0 := of_decide_eq_false c20
                refine g_sx 8 (pc1 := 17) (L1 := [none, vI x1, vI x2, vQ r3, vR r4, vI x5, vI (wr (x6 + 3)), vI (wr (x7 + (-1))), vI (tI τ r4 x6.toNat), vI (tI τ r4 (wr (x6 + 1)).toNat), vI (wr (x6 + 3)), none]) (st1 := []) rfl ?_
                exact G_fg (lw2_k _ (lw2_k _ (lw2_k _ (lw2_k _ (lw2_k _ (lw2_k _ (lw2_k _ (lw2_k _ (lw2_f _ (lw2_f _ (lw2_f _ (lw2_k _ lw2_nil)))))))))))) (k11 c1 c3 c7 c11 c12 c13 c20)
          · have c12 : (tI τ r4 x6.toNat) = 6 := Decidable.of_not_not (of_decide_eq_false c12)
            refine g_sk 1 (pc1 := 89) (st1 := [AI x5]) rfl ?_
            refine g_br1 rfl (t := 97) rfl (fun c21 => ?_) (fun c21 => ?_)
            · have c21 : x5 = 0 := of_decide_eq_true c21
              refine g_sx 7 (pc1 := 17) (L1 := [none, vI x1, vI x2, vQ r3, vR r4, vI x5, vI (wr (x6 + 3)), vI (wr (x7 + (-1))), vI (tI τ r4 x6.toNat), vI (tI τ r4 (wr (x6 + 1)).toNat), vI (wr (x6 + 3)), none]) (st1 := []) rfl ?_
              exact G_fg (lw2_k _ (lw2_k _ (lw2_k _ (lw2_k _ (lw2_k _ (lw2_k _ (lw2_k _ (lw2_k _ (lw2_f _ (lw2_f _ (lw2_f _ (lw2_k _ lw2_nil)))))))))))) (k12 c1 c3 c7 c11 c12 c21)
            · have c21 : ¬ x5 = 0 := of_decide_eq_false c21
              refine g_sx 8 (pc1 := 17) (L1 := [none, vI x1, vI x2, vQ r3, vR r4, vI x5, vI (tI τ r4 (wr (x6 + 1)).toNat), vI (wr (x7 + (-1))), vI (tI τ r4 x6.toNat), vI (tI τ r4 (wr (x6 + 1)).toNat), vI (tI τ r4 (wr (x6 + 1)).toNat), none]) (st1 := []) rfl ?_
              exact G_fg (lw2_k _ (lw2_k _ (lw2_k _ (lw2_k _ (lw2_k _ (lw2_k _ (lw2_k _ (lw2_k _ (lw2_f _ (lw2_f _ (lw2_f _ (lw2_k _ lw2_nil)))))))))))) (k13 c1 c3 c7 c11 c12 c21)
        · have c11 : (tI τ r4 x6.toNat) = 5 := Decidable.of_not_not (of_decide_eq_false c11)
          refine g_sk 1 (pc1 := 67) (st1 := [AI x5]) rfl ?_
          refine g_br1 rfl (t := 74) rfl (fun c22 => ?_) (fun c22 => ?_)
          · have c22 : ¬ x5 = 0 := of_decide_eq_true c22
            refine g_sx 7 (pc1 := 17) (L1 := [none, vI x1, vI x2, vQ r3, vR r4, vI 0, vI (wr (x6 + 3)), vI (wr (x7 + (-1))), vI (tI τ r4 x6.toNat), vI (tI τ r4 (wr (x6 + 1)).toNat), vI (wr (x6 + 3)), none]) (st1 := []) rfl ?_
            exact G_fg (lw2_k _ (lw2_k _ (lw2_k _ (lw2_k _ (lw2_k _ (lw2_k _ (lw2_k _ (lw2_k _ (lw2_f _ (lw2_f _ (lw2_f _ (lw2_k _ lw2_nil)))))))))))) (k14 c1 c3 c7 c11 c22)
          · have c22 : x5 = 0 := Decidable.of_not_not (of_decide_eq_false c22)
            refine g_sx 8 (pc1 := 17) (L1 := [none, vI x1, vI x2, vQ r3, vR r4, vI 1, vI (wr (x6 + 3)), vI (wr (x7 + (-1))), vI (tI τ r4 x6.toNat), vI (tI τ r4 (wr (x6 + 1)).toNat), vI (wr (x6 + 3)), none]) (st1 := []) rfl ?_
            exact G_fg (lw2_k _ (lw2_k _ (lw2_k _ (lw2_k _ (lw2_k _ (lw2_k _ (lw2_k _ (lw2_k _ (lw2_f _ (lw2_f _ (lw2_f _ (lw2_k _ lw2_nil)))))))))))) (k15 c1 c3 c7 c11 c22)

set_option maxRecDepth 8192 in
theorem t57_194 {d : Nat} {τ : T2} {Q : RS → T2 → Prop} {x1 x2 x7 x9 x10 y0 y1 : Int} {r3 r4 : Option Nat} (hd : 1 ≤ d) (k1 : G (d - 1) 246 0 [vI (zand y1 y0)] [] τ (KC d 57 203 206 [none, vI x1, vI x2, vQ r3, vQ r4, none, none, vI x7, none, vI x9, vI x10, none] [] Q)) : G d 57 194 [none, vI x1, vI x2, vQ r3, vQ r4, none, none, vI x7, none, vI x9, vI x10, none] [AI y0, AI y1] τ Q := by
  refine g_sx 4 (pc1 := 203) (L1 := [none, vI x1, vI x2, vQ r3, vQ r4, none, none, vI x7, none, vI x9, vI x10, vI (zand y1 y0)]) (st1 := [AI (zand y1 y0)]) rfl ?_
  refine G_fg (lw2_k _ (lw2_k _ (lw2_k _ (lw2_k _ (lw2_k _ (lw2_k _ (lw2_k _ (lw2_k _ (lw2_k _ (lw2_k _ (lw2_k _ (lw2_f _ lw2_nil)))))))))))) ?_
  refine g_cs rfl rfl (by decide) rfl rfl (Nat.le_of_ble_eq_true rfl) rfl (by omega) (L0 := [vI (zand y1 y0)]) rfl ?_
  exact k1

set_option maxRecDepth 8192 in
theorem t57_206 {d : Nat} {τ : T2} {Q : RS → T2 → Prop} {x1 x2 x7 x9 x10 y0 : Int} {r3 r4 : Option Nat} (k1 : y0 < x9 → G d 57 17 [none, vI x1, vI x2, vQ r3, vQ r4, vI 0, vI x10, vI (wr (x7 + (-1))), none, none, none, none] [] τ Q) (k2 : x9 ≤ y0 → G d 57 17 [none, vI x1, vI x2, vQ r3, vQ r4, vI 1, vI x10, vI (wr (x7 + (-1))), none, none, none, none] [] τ Q) : G d 57 206 [none, vI x1, vI x2, vQ r3, vQ r4, none, none, vI x7, none, vI x9, vI x10, none] [AI y0] τ Q := by
  refine g_sk 1 (pc1 := 208) (st1 := [AI x9, AI y0]) rfl ?_
  refine g_br2 rfl (t := 215) rfl (fun c1 => ?_) (fun c1 => ?_)
  · have c1 : y0 < x9 := of_decide_eq_true c1
    refine g_sx 6 (pc1 := 17) (L1 := [none, vI x1, vI x2, vQ r3, vQ r4, vI 0, vI x10, vI (wr (x7 + (-1))), none, vI x9, vI x10, none]) (st1 := []) rfl ?_
    exact G_fg (lw2_k _ (lw2_k _ (lw2_k _ (lw2_k _ (lw2_k _ (lw2_k _ (lw2_k _ (lw2_k _ (lw2_k _ (lw2_f _ (lw2_f _ (lw2_k _ lw2_nil)))))))))))) (k1 c1)
  · have c1 : x9 ≤ y0 := Int.not_lt.mp (of_decide_eq_false c1)
    refine g_sx 7 (pc1 := 17) (L1 := [none, vI x1, vI x2, vQ r3, vQ r4, vI 1, vI x10, vI (wr (x7 + (-1))), none, vI x9, vI x10, none]) (st1 := []) rfl ?_
    exact G_fg (lw2_k _ (lw2_k _ (lw2_k _ (lw2_k _ (lw2_k _ (lw2_k _ (lw2_k _ (lw2_k _ (lw2_k _ (lw2_f _ (lw2_f _ (lw2_k _ lw2_nil)))))))))))) (k2 c1)

set_option maxRecDepth 8192 in
theorem t58_0 {d : Nat} {τ : T2} {Q : RS → T2 → Prop} {x1 : Int} {r0 n2 : Nat} (sh3 : tS τ r0 = (2, 0, n2)) (b5 : 0 ≤ x1 → x1 < (n2 : Int) → (0 : Int) ≤ x1 ∧ x1 < (n2 : Int)) (k1 : x1 < 0 → Q (.inl (some (AI 0))) τ) (k2 : 0 ≤ x1 → (n2 : Int) ≤ x1 → Q (.inl (some (AI 0))) τ) (k3 : 0 ≤ x1 → x1 < (n2 : Int) → Q (.inl (some (AI (tI τ r0 x1.toNat)))) τ) : G d 58 0 [vR r0, vI x1] [] τ Q := by
  refine g_sk 1 (pc1 := 1) (st1 := [AI x1]) rfl ?_
  refine g_br1 rfl (t := 16) rfl (fun c1 => ?_) (fun c1 => ?_)
  · have c1 : x1 < 0 := of_decide_eq_true c1
    refine g_sk 1 (pc1 := 17) (st1 := [AI 0]) rfl ?_
    refine g_iret rfl rfl ?_
    exact (k1 c1)
  · have c1 : 0 ≤ x1 := Int.not_lt.mp (of_decide_eq_false c1)
    refine g_sk 2 (pc1 := 6) (st1 := [AR r0, AI x1]) rfl ?_
    refine g_al2 rfl sh3 ?_
    refine g_br2 rfl (t := 16) rfl (fun c4 => ?_) (fun c4 => ?_)
    · have c4 : (n2 : Int) ≤ x1 := of_decide_eq_true c4
      refine g_sk 1 (pc1 := 17) (st1 := [AI 0]) rfl ?_
      refine g_iret rfl rfl ?_
      exact (k2 c1 c4)
    · have c4 : x1 < (n2 : Int) := Int.not_le.mp (of_decide_eq_false c4)
      refine g_sk 2 (pc1 := 12) (st1 := [AI x1, AR r0]) rfl ?_
      refine g_iald rfl sh3 (by decide) (b5 c1 c4).1 (b5 c1 c4).2 ?_
      refine g_sk 1 (pc1 := 17) (st1 := [AI (tI τ r0 x1.toNat)]) rfl ?_
      refine g_iret rfl rfl ?_
      exact (k3 c1 c4)

set_option maxRecDepth 8192 in
theorem t59_0 {d : Nat} {τ : T2} {Q : RS → T2 → Prop} {r0 : Nat} (hd : 17 ≤ d) (sh1 : tS τ r0 = (1, 8, 0)) (k1 : G d 59 19 [vR r0] [AR (tN (uI (uI τ r0 0 0) r0 1 0)), AR r0] (nC (uI (uI τ r0 0 0) r0 1 0) (2, 0, 20) 20) Q) : G d 59 0 [vR r0] [] τ Q := by
  refine g_sk 1 (pc1 := 1) (st1 := [AR r0]) rfl ?_
  refine g_oin (na := 1) rfl rfl rfl hd ?_
  refine g_sk 2 (pc1 := 6) (st1 := [AI 0, AR r0]) rfl ?_
  refine g_putI (x := 0) rfl (ci := 8) (k := 0) (kd := 0) rfl (by decide) rfl rfl sh1 ?_
  refine g_sk 2 (pc1 := 11) (st1 := [AI 0, AR r0]) rfl ?_
  refine g_putI (x := 0) rfl (ci := 8) (k := 1) (kd := 0) rfl (by decide) rfl rfl sh1 ?_
  refine g_sk 2 (pc1 := 17) (st1 := [AI 20, AR r0]) rfl ?_
  refine g_newa rfl rfl (by decide) (by decide) ?_
  exact k1

set_option maxRecDepth 8192 in
theorem t59_19 {d : Nat} {τ : T2} {Q : RS → T2 → Prop} {r0 s1 : Nat} {s0 : Option Nat} (sh1 : tS τ s1 = (1, 8, 0)) (k1 : G d 59 27 [vR r0] [AR (tN (uP τ s1 2 s0)), AR r0] (nC (uP τ s1 2 s0) (2, 0, 20) 20) Q) : G d 59 19 [vR r0] [AP s0, AR s1] τ Q := by
  refine g_putP rfl (ci := 8) (k := 2) rfl sh1 ?_
  refine g_sk 2 (pc1 := 25) (st1 := [AI 20, AR r0]) rfl ?_
  refine g_newa rfl rfl (by decide) (by decide) ?_
  exact k1

set_option maxRecDepth 8192 in
theorem t59_27 {d : Nat} {τ : T2} {Q : RS → T2 → Prop} {r0 s1 : Nat} {s0 : Option Nat} (sh1 : tS τ s1 = (1, 8, 0)) (k1 : G d 59 35 [vR r0] [AR (tN (uP τ s1 3 s0)), AR r0] (nC (uP τ s1 3 s0) (2, 0, 20) 20) Q) : G d 59 27 [vR r0] [AP s0, AR s1] τ Q := by
  refine g_putP rfl (ci := 8) (k := 3) rfl sh1 ?_
  refine g_sk 2 (pc1 := 33) (st1 := [AI 20, AR r0]) rfl ?_
  refine g_newa rfl rfl (by decide) (by decide) ?_
  exact k1

set_option maxRecDepth 8192 in
theorem t59_35 {d : Nat} {τ : T2} {Q : RS → T2 → Prop} {r0 s1 : Nat} {s0 : Option Nat} (sh1 : tS τ s1 = (1, 8, 0)) (k1 : G d 59 43 [vR r0] [AR (tN (uP τ s1 4 s0)), AR r0] (nC (uP τ s1 4 s0) (2, 0, 20) 20) Q) : G d 59 35 [vR r0] [AP s0, AR s1] τ Q := by
  refine g_putP rfl (ci := 8) (k := 4) rfl sh1 ?_
  refine g_sk 2 (pc1 := 41) (st1 := [AI 20, AR r0]) rfl ?_
  refine g_newa rfl rfl (by decide) (by decide) ?_
  exact k1

set_option maxRecDepth 8192 in
theorem t59_43 {d : Nat} {τ : T2} {Q : RS → T2 → Prop} {r0 s1 : Nat} {s0 : Option Nat} (sh1 : tS τ s1 = (1, 8, 0)) (k1 : G d 59 51 [none] [AR (tN (uP τ s1 5 s0)), AR r0] (nC (uP τ s1 5 s0) (2, 0, 60) 60) Q) : G d 59 43 [vR r0] [AP s0, AR s1] τ Q := by
  refine g_putP rfl (ci := 8) (k := 5) rfl sh1 ?_
  refine g_sk 2 (pc1 := 49) (st1 := [AI 60, AR r0]) rfl ?_
  refine g_newa rfl rfl (by decide) (by decide) ?_
  exact G_fg (lw2_f _ lw2_nil) k1

set_option maxRecDepth 8192 in
theorem t59_51 {d : Nat} {τ : T2} {Q : RS → T2 → Prop} {s1 : Nat} {s0 : Option Nat} (sh1 : tS τ s1 = (1, 8, 0)) (k1 : Q (.inl none) (uP τ s1 6 s0)) : G d 59 51 [none] [AP s0, AR s1] τ Q := by
  refine g_putP rfl (ci := 8) (k := 6) rfl sh1 ?_
  refine g_vret rfl rfl ?_
  exact k1

set_option maxRecDepth 8192 in
theorem t60_0 {d : Nat} {τ : T2} {Q : RS → T2 → Prop} {x1 : Int} {r0 : Nat} (hd : 1 ≤ d) (sh1 : tS τ r0 = (1, 8, 0)) (k1 : G (d - 1) 261 0 [vQ (tP (uI (uI τ r0 0 x1) r0 1 0) r0 2), vI (-1), none, none] [] (uI (uI τ r0 0 x1) r0 1 0) (KC d 60 15 18 [vR r0, none] [] Q)) : G d 60 0 [vR r0, vI x1] [] τ Q := by
  refine g_sk 2 (pc1 := 2) (st1 := [AI x1, AR r0]) rfl ?_
  refine g_putI (x := x1) rfl (ci := 8) (k := 0) (kd := 0) rfl (by decide) rfl rfl sh1 ?_
  refine g_sk 2 (pc1 := 7) (st1 := [AI 0, AR r0]) rfl ?_
  refine g_putI (x := 0) rfl (ci := 8) (k := 1) (kd := 0) rfl (by decide) rfl rfl sh1 ?_
  refine g_sk 1 (pc1 := 11) (st1 := [AR r0]) rfl ?_
  refine g_gP rfl (ci := 8) (k := 2) rfl sh1 ?_
  refine g_sk 1 (pc1 := 15) (st1 := [AI (-1), AP (tP (uI (uI τ r0 0 x1) r0 1 0) r0 2)]) rfl ?_
  refine G_fg (lw2_k _ (lw2_f _ lw2_nil)) ?_
  refine g_cs rfl rfl (by decide) rfl rfl (Nat.le_of_ble_eq_true rfl) rfl (by omega) (L0 := [vQ (tP (uI (uI τ r0 0 x1) r0 1 0) r0 2), vI (-1), none, none]) rfl ?_
  exact k1

set_option maxRecDepth 8192 in
theorem t60_18 {d : Nat} {τ : T2} {Q : RS → T2 → Prop} {r0 : Nat} (hd : 1 ≤ d) (sh1 : tS τ r0 = (1, 8, 0)) (k1 : G (d - 1) 261 0 [vQ (tP τ r0 3), vI 0, none, none] [] τ (KC d 60 23 26 [vR r0, none] [] Q)) : G d 60 18 [vR r0, none] [] τ Q := by
  refine g_sk 1 (pc1 := 19) (st1 := [AR r0]) rfl ?_
  refine g_gP rfl (ci := 8) (k := 3) rfl sh1 ?_
  refine g_sk 1 (pc1 := 23) (st1 := [AI 0, AP (tP τ r0 3)]) rfl ?_
  refine g_cs rfl rfl (by decide) rfl rfl (Nat.le_of_ble_eq_true rfl) rfl (by omega) (L0 := [vQ (tP τ r0 3), vI 0, none, none]) rfl ?_
  exact k1

set_option maxRecDepth 8192 in
theorem t60_26 {d : Nat} {τ : T2} {Q : RS → T2 → Prop} {r0 : Nat} (hd : 1 ≤ d) (sh1 : tS τ r0 = (1, 8, 0)) (k1 : G (d - 1) 261 0 [vQ (tP τ r0 4), vI 0, none, none] [] τ (KC d 60 31 34 [vR r0, none] [] Q)) : G d 60 26 [vR r0, none] [] τ Q := by
  refine g_sk 1 (pc1 := 27) (st1 := [AR r0]) rfl ?_
  refine g_gP rfl (ci := 8) (k := 4) rfl sh1 ?_
  refine g_sk 1 (pc1 := 31) (st1 := [AI 0, AP (tP τ r0 4)]) rfl ?_
  refine g_cs rfl rfl (by decide) rfl rfl (Nat.le_of_ble_eq_true rfl) rfl (by omega) (L0 := [vQ (tP τ r0 4), vI 0, none, none]) rfl ?_
  exact k1

set_option maxRecDepth 8192 in
theorem t60_34 {d : Nat} {τ : T2} {Q : RS → T2 → Prop} {r0 : Nat} (hd : 1 ≤ d) (sh1 : tS τ r0 = (1, 8, 0)) (k1 : G (d - 1) 261 0 [vQ (tP τ r0 5), vI 0, none, none] [] τ (KC d 60 39 42 [none, none] [] Q)) : G d 60 34 [vR r0, none] [] τ Q := by
  refine g_sk 1 (pc1 := 35) (st1 := [AR r0]) rfl ?_
  refine g_gP rfl (ci := 8) (k := 5) rfl sh1 ?_
  refine g_sk 1 (pc1 := 39) (st1 := [AI 0, AP (tP τ r0 5)]) rfl ?_
  refine G_fg (lw2_f _ (lw2_k _ lw2_nil)) ?_
  refine g_cs rfl rfl (by decide) rfl rfl (Nat.le_of_ble_eq_true rfl) rfl (by omega) (L0 := [vQ (tP τ r0 5), vI 0, none, none]) rfl ?_
  exact k1

set_option maxRecDepth 8192 in
theorem t60_42 {d : Nat} {τ : T2} {Q : RS → T2 → Prop}  (k1 : Q (.inl none) τ) : G d 60 42 [none, none] [] τ Q := by
  refine g_vret rfl rfl ?_
  exact k1

set_option maxRecDepth 8192 in
theorem t61_0 {d : Nat} {τ : T2} {Q : RS → T2 → Prop} {x1 : Int} {r0 : Nat} (k1 : G d 61 4 [vR r0, vI x1, vI 0, vI 0] [] τ Q) : G d 61 0 [vR r0, vI x1, none, none] [] τ Q := by
  refine g_sx 4 (pc1 := 4) (L1 := [vR r0, vI x1, vI 0, vI 0]) (st1 := []) rfl ?_
  exact k1

set_option maxRecDepth 8192 in
theorem t61_4 {d : Nat} {τ : T2} {Q : RS → T2 → Prop} {x1 x2 x3 : Int} {r0 q3 n5 : Nat} (sh2 : tS τ r0 = (1, 8, 0)) (p4 : tP τ r0 2 = some q3) (sh6 : tS τ q3 = (2, 0, n5)) (b7 : x3 < 20 → (0 : Int) ≤ x3 ∧ x3 < (n5 : Int)) (k1 : 20 ≤ x3 → Q (.inl (some (AI x2))) τ) (k2 : x3 < 20 → (tI τ q3 x3.toNat) = (-1) → G d 61 4 [vR r0, vI x1, vI x2, vI (wr (x3 + 1))] [] τ Q) (k3 : x3 < 20 → ¬ (tI τ q3 x3.toNat) = (-1) → x1 < (tI τ q3 x3.toNat) → G d 61 4 [vR r0, vI x1, vI x2, vI (wr (x3 + 1))] [] τ Q) (k4 : x3 < 20 → ¬ (tI τ q3 x3.toNat) = (-1) → (tI τ q3 x3.toNat) ≤ x1 → G d 61 4 [vR r0, vI x1, vI (zor x2 (zshl 1 x3)), vI (wr (x3 + 1))] [] τ Q) : G d 61 4 [vR r0, vI x1, vI x2, vI x3] [] τ Q := by
  refine g_sk 2 (pc1 := 7) (st1 := [AI 20, AI x3]) rfl ?_
  refine g_br2 rfl (t := 42) rfl (fun c1 => ?_) (fun c1 => ?_)
  · have c1 : 20 ≤ x3 := of_decide_eq_true c1
    refine g_sk 1 (pc1 := 43) (st1 := [AI x2]) rfl ?_
    refine g_iret rfl rfl ?_
    exact (k1 c1)
  · have c1 : x3 < 20 := Int.not_le.mp (of_decide_eq_false c1)
    refine g_sk 1 (pc1 := 11) (st1 := [AR r0]) rfl ?_
    refine g_gQ rfl (ci := 8) (k := 2) rfl sh2 p4 ?_
    refine g_sk 1 (pc1 := 15) (st1 := [AI x3, AR q3]) rfl ?_
    refine g_iald rfl sh6 (by decide) (b7 c1).1 (b7 c1).2 ?_
    refine g_sk 1 (pc1 := 17) (st1 := [AI (-1), AI (tI τ q3 x3.toNat)]) rfl ?_
    refine g_br2 rfl (t := 36) rfl (fun c8 => ?_) (fun c8 => ?_)
    · have c8 : (tI τ q3 x3.toNat) = (-1) := of_decide_eq_true c8
      refine g_sx 2 (pc1 := 4) (L1 := [vR r0, vI x1, vI x2, vI (wr (x3 + 1))]) (st1 := []) rfl ?_
      exact (k2 c1 c8)
    · have c8 : ¬ (tI τ q3 x3.toNat) = (-1) := of_decide_eq_false c8
      refine g_sk 1 (pc1 := 21) (st1 := [AR r0]) rfl ?_
      refine g_gQ rfl (ci := 8) (k := 2) rfl sh2 p4 ?_
      refine g_sk 1 (pc1 := 25) (st1 := [AI x3, AR q3]) rfl ?_
      refine g_iald rfl sh6 (by decide) (b7 c1).1 (b7 c1).2 ?_
      refine g_sk 1 (pc1 := 27) (st1 := [AI x1, AI (tI τ q3 x3.toNat)]) rfl ?_
      refine g_br2 rfl (t := 36) rfl (fun c9 => ?_) (fun c9 => ?_)
      · have c9 : x1 < (tI τ q3 x3.toNat) := of_decide_eq_true c9
        refine g_sx 2 (pc1 := 4) (L1 := [vR r0, vI x1, vI x2, vI (wr (x3 + 1))]) (st1 := []) rfl ?_
        exact (k3 c1 c8 c9)
      · have c9 : (tI τ q3 x3.toNat) ≤ x1 := Int.not_lt.mp (of_decide_eq_false c9)
        refine g_sx 8 (pc1 := 4) (L1 := [vR r0, vI x1, vI (zor x2 (zshl 1 x3)), vI (wr (x3 + 1))]) (st1 := []) rfl ?_
        exact (k4 c1 c8 c9)

set_option maxRecDepth 8192 in
theorem t62_0 {d : Nat} {τ : T2} {Q : RS → T2 → Prop} {x1 : Int} {r0 : Nat} (sh1 : tS τ r0 = (1, 8, 0)) (k1 : G d 62 7 [vR r0, vI x1, vI (tI τ r0 0), vI 0] [] τ Q) : G d 62 0 [vR r0, vI x1, none, none] [] τ Q := by
  refine g_sk 1 (pc1 := 1) (st1 := [AR r0]) rfl ?_
  refine g_gI rfl (ci := 8) (k := 0) rfl sh1 ?_
  refine g_sx 3 (pc1 := 7) (L1 := [vR r0, vI x1, vI (tI τ r0 0), vI 0]) (st1 := []) rfl ?_
  exact k1

set_option maxRecDepth 8192 in
theorem t62_7 {d : Nat} {τ : T2} {Q : RS → T2 → Prop} {x1 x2 x3 : Int} {r0 q3 n5 : Nat} (sh2 : tS τ r0 = (1, 8, 0)) (p4 : tP τ r0 2 = some q3) (sh6 : tS τ q3 = (2, 0, n5)) (b7 : x3 < 20 → (0 : Int) ≤ x3 ∧ x3 < (n5 : Int)) (k1 : 20 ≤ x3 → Q (.inl (some (AI x2))) τ) (k2 : x3 < 20 → x1 < (tI τ q3 x3.toNat) → G d 62 7 [vR r0, vI x1, vI x2, vI (wr (x3 + 1))] [] τ Q) (k3 : x3 < 20 → (tI τ q3 x3.toNat) ≤ x1 → (tI τ q3 x3.toNat) ≤ x2 → G d 62 7 [vR r0, vI x1, vI x2, vI (wr (x3 + 1))] [] τ Q) (k4 : x3 < 20 → (tI τ q3 x3.toNat) ≤ x1 → x2 < (tI τ q3 x3.toNat) → G d 62 7 [vR r0, vI x1, vI (tI τ q3 x3.toNat), vI (wr (x3 + 1))] [] τ Q) : G d 62 7 [vR r0, vI x1, vI x2, vI x3] [] τ Q := by
  refine g_sk 2 (pc1 := 10) (st1 := [AI 20, AI x3]) rfl ?_
  refine g_br2 rfl (t := 46) rfl (fun c1 => ?_) (fun c1 => ?_)
  · have c1 : 20 ≤ x3 := of_decide_eq_true c1
    refine g_sk 1 (pc1 := 47) (st1 := [AI x2]) rfl ?_
    refine g_iret rfl rfl ?_
    exact (k1 c1)
  · have c1 : x3 < 20 := Int.not_le.mp (of_decide_eq_false c1)
    refine g_sk 1 (pc1 := 14) (st1 := [AR r0]) rfl ?_
    refine g_gQ rfl (ci := 8) (k := 2) rfl sh2 p4 ?_
    refine g_sk 1 (pc1 := 18) (st1 := [AI x3, AR q3]) rfl ?_
    refine g_iald rfl sh6 (by decide) (b7 c1).1 (b7 c1).2 ?_
    refine g_sk 1 (pc1 := 20) (st1 := [AI x1, AI (tI τ q3 x3.toNat)]) rfl ?_
    refine g_br2 rfl (t := 40) rfl (fun c8 => ?_) (fun c8 => ?_)
    · have c8 : x1 < (tI τ q3 x3.toNat) := of_decide_eq_true c8
      refine g_sx 2 (pc1 := 7) (L1 := [vR r0, vI x1, vI x2, vI (wr (x3 + 1))]) (st1 := []) rfl ?_
      exact (k2 c1 c8)
    · have c8 : (tI τ q3 x3.toNat) ≤ x1 := Int.not_lt.mp (of_decide_eq_false c8)
      refine g_sk 1 (pc1 := 24) (st1 := [AR r0]) rfl ?_
      refine g_gQ rfl (ci := 8) (k := 2) rfl sh2 p4 ?_
      refine g_sk 1 (pc1 := 28) (st1 := [AI x3, AR q3]) rfl ?_
      refine g_iald rfl sh6 (by decide) (b7 c1).1 (b7 c1).2 ?_
      refine g_sk 1 (pc1 := 30) (st1 := [AI x2, AI (tI τ q3 x3.toNat)]) rfl ?_
      refine g_br2 rfl (t := 40) rfl (fun c9 => ?_) (fun c9 => ?_)
      · have c9 : (tI τ q3 x3.toNat) ≤ x2 := of_decide_eq_true c9
        refine g_sx 2 (pc1 := 7) (L1 := [vR r0, vI x1, vI x2, vI (wr (x3 + 1))]) (st1 := []) rfl ?_
        exact (k3 c1 c8 c9)
      · have c9 : x2 < (tI τ q3 x3.toNat) := Int.not_le.mp (of_decide_eq_false c9)
        refine g_sk 1 (pc1 := 34) (st1 := [AR r0]) rfl ?_
        refine g_gQ rfl (ci := 8) (k := 2) rfl sh2 p4 ?_
        refine g_sk 1 (pc1 := 38) (st1 := [AI x3, AR q3]) rfl ?_
        refine g_iald rfl sh6 (by decide) (b7 c1).1 (b7 c1).2 ?_
        refine g_sx 3 (pc1 := 7) (L1 := [vR r0, vI x1, vI (tI τ q3 x3.toNat), vI (wr (x3 + 1))]) (st1 := []) rfl ?_
        exact (k4 c1 c8 c9)

set_option maxRecDepth 8192 in
theorem t63_0 {d : Nat} {τ : T2} {Q : RS → T2 → Prop} {x1 : Int} {r0 : Nat} {r2 : Option Nat} (k1 : G d 63 5 [vR r0, vI x1, vQ r2, vI 0, vI 0, none] [] τ Q) : G d 63 0 [vR r0, vI x1, vQ r2, none, none, none] [] τ Q := by
  refine g_sx 4 (pc1 := 5) (L1 := [vR r0, vI x1, vQ r2, vI 0, vI 0, none]) (st1 := []) rfl ?_
  exact k1

set_option maxRecDepth 8192 in
theorem t63_5 {d : Nat} {τ : T2} {Q : RS → T2 → Prop} {x1 x3 x4 : Int} {r0 r2 n2 : Nat} (sh3 : tS τ r2 = (3, 4, n2)) (k1 : 20 ≤ x4 → Q (.inl (some (AI x3))) τ) (k2 : x4 < 20 → (n2 : Int) ≤ x4 → Q (.inl (some (AI x3))) τ) (k3 : x4 < 20 → x4 < (n2 : Int) → G d 63 22 [vR r0, vI x1, vR r2, vI x3, vI x4, vI 0] [] τ Q) : G d 63 5 [vR r0, vI x1, vR r2, vI x3, vI x4, none] [] τ Q := by
  refine g_sk 2 (pc1 := 9) (st1 := [AI 20, AI x4]) rfl ?_
  refine g_br2 rfl (t := 81) rfl (fun c1 => ?_) (fun c1 => ?_)
  · have c1 : 20 ≤ x4 := of_decide_eq_true c1
    refine g_sk 1 (pc1 := 82) (st1 := [AI x3]) rfl ?_
    refine g_iret rfl rfl ?_
    exact (k1 c1)
  · have c1 : x4 < 20 := Int.not_le.mp (of_decide_eq_false c1)
    refine g_sk 2 (pc1 := 15) (st1 := [AR r2, AI x4]) rfl ?_
    refine g_al3 rfl sh3 ?_
    refine g_br2 rfl (t := 81) rfl (fun c4 => ?_) (fun c4 => ?_)
    · have c4 : (n2 : Int) ≤ x4 := of_decide_eq_true c4
      refine g_sk 1 (pc1 := 82) (st1 := [AI x3]) rfl ?_
      refine g_iret rfl rfl ?_
      exact (k2 c1 c4)
    · have c4 : x4 < (n2 : Int) := Int.not_le.mp (of_decide_eq_false c4)
      refine g_sx 2 (pc1 := 22) (L1 := [vR r0, vI x1, vR r2, vI x3, vI x4, vI 0]) (st1 := []) rfl ?_
      exact (k3 c1 c4)

set_option maxRecDepth 8192 in
theorem t63_22 {d : Nat} {τ : T2} {Q : RS → T2 → Prop} {x1 x3 x4 x5 : Int} {r0 r2 q2 n4 q9 n11 n15 q18 q21 n23 : Nat} (sh1 : tS τ r0 = (1, 8, 0)) (p3 : tP τ r0 4 = some q2) (sh5 : tS τ q2 = (2, 0, n4)) (b6 : (0 : Int) ≤ x4 ∧ x4 < (n4 : Int)) (p10 : tP τ r0 6 = some q9) (sh12 : tS τ q9 = (2, 0, n11)) (b13 : x5 < (tI τ q2 x4.toNat) → x5 < 3 → (0 : Int) ≤ (wr ((wr (x4 * 3)) + x5)) ∧ (wr ((wr (x4 * 3)) + x5)) < (n11 : Int)) (sh16 : tS τ r2 = (3, 4, n15)) (b17 : x5 < (tI τ q2 x4.toNat) → x5 < 3 → (tI τ q9 (wr ((wr (x4 * 3)) + x5)).toNat) ≤ x1 → (0 : Int) ≤ x4 ∧ x4 < (n15 : Int)) (p19 : x5 < (tI τ q2 x4.toNat) → x5 < 3 → (tI τ q9 (wr ((wr (x4 * 3)) + x5)).toNat) ≤ x1 → tP τ r2 x4.toNat = some q18) (sh20 : tS τ q18 = (1, 6, 0)) (p22 : tP τ q18 8 = some q21) (sh24 : tS τ q21 = (2, 0, n23)) (b25 : x5 < (tI τ q2 x4.toNat) → x5 < 3 → (tI τ q9 (wr ((wr (x4 * 3)) + x5)).toNat) ≤ x1 → (0 : Int) ≤ x5 ∧ x5 < (n23 : Int)) (k1 : (tI τ q2 x4.toNat) ≤ x5 → G d 63 5 [vR r0, vI x1, vR r2, vI x3, vI (wr (x4 + 1)), none] [] τ Q) (k2 : x5 < (tI τ q2 x4.toNat) → 3 ≤ x5 → G d 63 5 [vR r0, vI x1, vR r2, vI x3, vI (wr (x4 + 1)), none] [] τ Q) (k3 : x5 < (tI τ q2 x4.toNat) → x5 < 3 → x1 < (tI τ q9 (wr ((wr (x4 * 3)) + x5)).toNat) → G d 63 22 [vR r0, vI x1, vR r2, vI x3, vI x4, vI (wr (x5 + 1))] [] τ Q) (k4 : x5 < (tI τ q2 x4.toNat) → x5 < 3 → (tI τ q9 (wr ((wr (x4 * 3)) + x5)).toNat) ≤ x1 → G d 63 22 [vR r0, vI x1, vR r2, vI (wr (x3 + (tI τ q21 x5.toNat))), vI x4, vI (wr (x5 + 1))] [] τ Q) : G d 63 22 [vR r0, vI x1, vR r2, vI x3, vI x4, vI x5] [] τ Q := by
  refine g_sk 2 (pc1 := 25) (st1 := [AR r0, AI x5]) rfl ?_
  refine g_gQ rfl (ci := 8) (k := 4) rfl sh1 p3 ?_
  refine g_sk 1 (pc1 := 30) (st1 := [AI x4, AR q2, AI x5]) rfl ?_
  refine g_iald rfl sh5 (by decide) b6.1 b6.2 ?_
  refine g_br2 rfl (t := 75) rfl (fun c7 => ?_) (fun c7 => ?_)
  · have c7 : (tI τ q2 x4.toNat) ≤ x5 := of_decide_eq_true c7
    refine g_sx 2 (pc1 := 5) (L1 := [vR r0, vI x1, vR r2, vI x3, vI (wr (x4 + 1)), vI x5]) (st1 := []) rfl ?_
    exact G_fg (lw2_k _ (lw2_k _ (lw2_k _ (lw2_k _ (lw2_k _ (lw2_f _ lw2_nil)))))) (k1 c7)
  · have c7 : x5 < (tI τ q2 x4.toNat) := Int.not_le.mp (of_decide_eq_false c7)
    refine g_sk 2 (pc1 := 37) (st1 := [AI 3, AI x5]) rfl ?_
    refine g_br2 rfl (t := 75) rfl (fun c8 => ?_) (fun c8 => ?_)
    · have c8 : 3 ≤ x5 := of_decide_eq_true c8
      refine g_sx 2 (pc1 := 5) (L1 := [vR r0, vI x1, vR r2, vI x3, vI (wr (x4 + 1)), vI x5]) (st1 := []) rfl ?_
      exact G_fg (lw2_k _ (lw2_k _ (lw2_k _ (lw2_k _ (lw2_k _ (lw2_f _ lw2_nil)))))) (k2 c7 c8)
    · have c8 : x5 < 3 := Int.not_le.mp (of_decide_eq_false c8)
      refine g_sk 1 (pc1 := 41) (st1 := [AR r0]) rfl ?_
      refine g_gQ rfl (ci := 8) (k := 6) rfl sh1 p10 ?_
      refine g_sk 5 (pc1 := 51) (st1 := [AI (wr ((wr (x4 * 3)) + x5)), AR q9]) rfl ?_
      refine g_iald rfl sh12 (by decide) (b13 c7 c8).1 (b13 c7 c8).2 ?_
      refine g_sk 1 (pc1 := 53) (st1 := [AI x1, AI (tI τ q9 (wr ((wr (x4 * 3)) + x5)).toNat)]) rfl ?_
      refine g_br2 rfl (t := 69) rfl (fun c14 => ?_) (fun c14 => ?_)
      · have c14 : x1 < (tI τ q9 (wr ((wr (x4 * 3)) + x5)).toNat) := of_decide_eq_true c14
        refine g_sx 2 (pc1 := 22) (L1 := [vR r0, vI x1, vR r2, vI x3, vI x4, vI (wr (x5 + 1))]) (st1 := []) rfl ?_
        exact (k3 c7 c8 c14)
      · have c14 : (tI τ q9 (wr ((wr (x4 * 3)) + x5)).toNat) ≤ x1 := Int.not_lt.mp (of_decide_eq_false c14)
        refine g_sk 3 (pc1 := 60) (st1 := [AI x4, AR r2, AI x3]) rfl ?_
        refine g_aalQ rfl sh16 (by decide) (b17 c7 c8 c14).1 (b17 c7 c8 c14).2 (p19 c7 c8 c14) ?_
        refine g_gQ rfl (ci := 6) (k := 8) rfl sh20 p22 ?_
        refine g_sk 1 (pc1 := 66) (st1 := [AI x5, AR q21, AI x3]) rfl ?_
        refine g_iald rfl sh24 (by decide) (b25 c7 c8 c14).1 (b25 c7 c8 c14).2 ?_
        refine g_sx 4 (pc1 := 22) (L1 := [vR r0, vI x1, vR r2, vI (wr (x3 + (tI τ q21 x5.toNat))), vI x4, vI (wr (x5 + 1))]) (st1 := []) rfl ?_
        exact (k4 c7 c8 c14)

set_option maxRecDepth 8192 in
theorem t64_0 {d : Nat} {τ : T2} {Q : RS → T2 → Prop} {x1 : Int} {r0 : Nat} {r2 : Option Nat} (hd : 1 ≤ d) (sh1 : tS τ r0 = (1, 8, 0)) (k1 : G (d - 1) 62 0 [vR r0, vI x1, none, none] [] τ (KC d 64 2 5 [vR r0, vI x1, vQ r2] [] Q)) : G d 64 0 [vR r0, vI x1, vQ r2] [] τ Q := by
  refine g_sk 2 (pc1 := 2) (st1 := [AI x1, AR r0]) rfl ?_
  refine g_cv rfl rfl (by decide) rfl rfl (Nat.le_of_ble_eq_true rfl) (as2 := [AI x1]) rfl sh1 rfl (by omega) (L0 := [vR r0, vI x1, none, none]) rfl ?_
  exact k1

set_option maxRecDepth 8192 in
theorem t64_5 {d : Nat} {τ : T2} {Q : RS → T2 → Prop} {x1 y0 : Int} {r0 : Nat} {r2 : Option Nat} (hd : 1 ≤ d) (sh1 : tS τ r0 = (1, 8, 0)) (k1 : G (d - 1) 63 0 [vR r0, vI x1, vQ r2, none, none, none] [] τ (KC d 64 8 11 [none, none, none] [AI y0] Q)) : G d 64 5 [vR r0, vI x1, vQ r2] [AI y0] τ Q := by
  refine g_sk 3 (pc1 := 8) (st1 := [AP r2, AI x1, AR r0, AI y0]) rfl ?_
  refine G_fg (lw2_f _ (lw2_f _ (lw2_f _ lw2_nil))) ?_
  refine g_cv rfl rfl (by decide) rfl rfl (Nat.le_of_ble_eq_true rfl) (as2 := [AI x1, AP r2]) rfl sh1 rfl (by omega) (L0 := [vR r0, vI x1, vQ r2, none, none, none]) rfl ?_
  exact k1

set_option maxRecDepth 8192 in
theorem t64_11 {d : Nat} {τ : T2} {Q : RS → T2 → Prop} {y0 y1 : Int} (k1 : Q (.inl (some (AI (wr (y1 + y0))))) τ) : G d 64 11 [none, none, none] [AI y0, AI y1] τ Q := by
  refine g_sk 1 (pc1 := 12) (st1 := [AI (wr (y1 + y0))]) rfl ?_
  refine g_iret rfl rfl ?_
  exact k1

set_option maxRecDepth 8192 in
theorem t65_0 {d : Nat} {τ : T2} {Q : RS → T2 → Prop} {x1 x2 x3 : Int} {r0 q4 n6 q10 n12 q15 n17 : Nat} (sh3 : tS τ r0 = (1, 8, 0)) (p5 : tP τ r0 3 = some q4) (sh7 : tS τ q4 = (2, 0, n6)) (b8 : 0 ≤ x1 → x1 < 20 → (0 : Int) ≤ x1 ∧ x1 < (n6 : Int)) (p11 : tP τ r0 5 = some q10) (sh13 : tS τ q10 = (2, 0, n12)) (b14 : 0 ≤ x1 → x1 < 20 → x2 = 0 → (0 : Int) ≤ x1 ∧ x1 < (n12 : Int)) (p16 : tP τ r0 2 = some q15) (sh18 : tS τ q15 = (2, 0, n17)) (b19 : 0 ≤ x1 → x1 < 20 → ¬ x2 = 0 → (0 : Int) ≤ x1 ∧ x1 < (n17 : Int)) (k1 : x1 < 0 → Q (.inl none) τ) (k2 : 0 ≤ x1 → x1 < 20 → x2 = 0 → Q (.inl none) (uI (uI (uI τ q4 x1.toNat (wr ((tI τ q4 x1.toNat) - 1))) r0 1 (wr ((tI (uI τ q4 x1.toNat (wr ((tI τ q4 x1.toNat) - 1))) r0 1) - 1))) q10 x1.toNat x3)) (k3 : 0 ≤ x1 → x1 < 20 → ¬ x2 = 0 → Q (.inl none) (uI (uI τ q4 x1.toNat (wr ((tI τ q4 x1.toNat) - 1))) q15 x1.toNat (-1))) (k4 : 0 ≤ x1 → 20 ≤ x1 → Q (.inl none) τ) : G d 65 0 [vR r0, vI x1, vI x2, vI x3] [] τ Q := by
  refine g_sk 1 (pc1 := 1) (st1 := [AI x1]) rfl ?_
  refine g_br1 rfl (t := 10) rfl (fun c1 => ?_) (fun c1 => ?_)
  · have c1 : x1 < 0 := of_decide_eq_true c1
    refine g_vret rfl rfl ?_
    exact (k1 c1)
  · have c1 : 0 ≤ x1 := Int.not_lt.mp (of_decide_eq_false c1)
    refine g_sk 2 (pc1 := 7) (st1 := [AI 20, AI x1]) rfl ?_
    refine g_br2 rfl (t := 11) rfl (fun c2 => ?_) (fun c2 => ?_)
    · have c2 : x1 < 20 := of_decide_eq_true c2
      refine g_sk 1 (pc1 := 12) (st1 := [AR r0]) rfl ?_
      refine g_gQ rfl (ci := 8) (k := 3) rfl sh3 p5 ?_
      refine g_sk 2 (pc1 := 17) (st1 := [AI x1, AR q4, AI x1, AR q4]) rfl ?_
      refine g_iald rfl sh7 (by decide) (b8 c1 c2).1 (b8 c1 c2).2 ?_
      refine g_sk 2 (pc1 := 20) (st1 := [AI (wr ((tI τ q4 x1.toNat) - 1)), AI x1, AR q4]) rfl ?_
      refine g_iast rfl sh7 (b8 c1 c2).1 (b8 c1 c2).2 ?_
      refine g_sk 1 (pc1 := 22) (st1 := [AI x2]) rfl ?_
      refine g_br1 rfl (t := 35) rfl (fun c9 => ?_) (fun c9 => ?_)
      · have c9 : x2 = 0 := of_decide_eq_true c9
        refine g_sk 2 (pc1 := 37) (st1 := [AR r0, AR r0]) rfl ?_
        refine g_gI rfl (ci := 8) (k := 1) rfl sh3 ?_
        refine g_sk 2 (pc1 := 42) (st1 := [AI (wr ((tI (uI τ q4 x1.toNat (wr ((tI τ q4 x1.toNat) - 1))) r0 1) - 1)), AR r0]) rfl ?_
        refine g_putI (x := (wr ((tI (uI τ q4 x1.toNat (wr ((tI τ q4 x1.toNat) - 1))) r0 1) - 1))) rfl (ci := 8) (k := 1) (kd := 0) rfl (by decide) rfl rfl sh3 ?_
        refine g_sk 1 (pc1 := 46) (st1 := [AR r0]) rfl ?_
        refine g_gQ rfl (ci := 8) (k := 5) rfl sh3 p11 ?_
        refine g_sk 2 (pc1 := 51) (st1 := [AI x3, AI x1, AR q10]) rfl ?_
        refine g_iast rfl sh13 (b14 c1 c2 c9).1 (b14 c1 c2 c9).2 ?_
        refine g_vret rfl rfl ?_
        exact (k2 c1 c2 c9)
      · have c9 : ¬ x2 = 0 := of_decide_eq_false c9
        refine g_sk 1 (pc1 := 26) (st1 := [AR r0]) rfl ?_
        refine g_gQ rfl (ci := 8) (k := 2) rfl sh3 p16 ?_
        refine g_sk 2 (pc1 := 31) (st1 := [AI (-1), AI x1, AR q15]) rfl ?_
        refine g_iast rfl sh18 (b19 c1 c2 c9).1 (b19 c1 c2 c9).2 ?_
        refine g_sk 1 (pc1 := 52) (st1 := []) rfl ?_
        refine g_vret rfl rfl ?_
        exact (k3 c1 c2 c9)
    · have c2 : 20 ≤ x1 := Int.not_lt.mp (of_decide_eq_false c2)
      refine g_vret rfl rfl ?_
      exact (k4 c1 c2)

set_option maxRecDepth 8192 in
theorem t66_0 {d : Nat} {τ : T2} {Q : RS → T2 → Prop} {r0 : Nat} (hd : 17 ≤ d) (k1 : G d 66 8 [vR r0] [AR (tN τ), AR r0] (nC τ (2, 1, 0) 0) Q) : G d 66 0 [vR r0] [] τ Q := by
  refine g_sk 1 (pc1 := 1) (st1 := [AR r0]) rfl ?_
  refine g_oin (na := 1) rfl rfl rfl hd ?_
  refine g_sk 2 (pc1 := 6) (st1 := [AI 0, AR r0]) rfl ?_
  refine g_newa rfl rfl (by decide) (by decide) ?_
  exact k1

set_option maxRecDepth 8192 in
theorem t66_8 {d : Nat} {τ : T2} {Q : RS → T2 → Prop} {r0 s1 : Nat} {s0 : Option Nat} (sh1 : tS τ s1 = (1, 9, 0)) (sh2 : tS τ r0 = (1, 9, 0)) (k1 : G d 66 57 [vR r0] [AR (tN (uI (uI (uI (uI (uI (uI (uI (uI (uP τ s1 0 s0) r0 1 0) r0 2 0) r0 3 0) r0 4 0) r0 5 0) r0 6 0) r0 7 0) r0 8 0)), AR r0] (nC (uI (uI (uI (uI (uI (uI (uI (uI (uP τ s1 0 s0) r0 1 0) r0 2 0) r0 3 0) r0 4 0) r0 5 0) r0 6 0) r0 7 0) r0 8 0) (2, 0, 1200) 1200) Q) : G d 66 8 [vR r0] [AP s0, AR s1] τ Q := by
  refine g_putP rfl (ci := 9) (k := 0) rfl sh1 ?_
  refine g_sk 2 (pc1 := 13) (st1 := [AI 0, AR r0]) rfl ?_
  refine g_putI (x := 0) rfl (ci := 9) (k := 1) (kd := 0) rfl (by decide) rfl rfl sh2 ?_
  refine g_sk 2 (pc1 := 18) (st1 := [AI 0, AR r0]) rfl ?_
  refine g_putI (x := 0) rfl (ci := 9) (k := 2) (kd := 0) rfl (by decide) rfl rfl sh2 ?_
  refine g_sk 2 (pc1 := 23) (st1 := [AI 0, AR r0]) rfl ?_
  refine g_putI (x := 0) rfl (ci := 9) (k := 3) (kd := 0) rfl (by decide) rfl rfl sh2 ?_
  refine g_sk 2 (pc1 := 28) (st1 := [AI 0, AR r0]) rfl ?_
  refine g_putI (x := 0) rfl (ci := 9) (k := 4) (kd := 0) rfl (by decide) rfl rfl sh2 ?_
  refine g_sk 2 (pc1 := 33) (st1 := [AI 0, AR r0]) rfl ?_
  refine g_putI (x := 0) rfl (ci := 9) (k := 5) (kd := 0) rfl (by decide) rfl rfl sh2 ?_
  refine g_sk 2 (pc1 := 38) (st1 := [AI 0, AR r0]) rfl ?_
  refine g_putI (x := 0) rfl (ci := 9) (k := 6) (kd := 0) rfl (by decide) rfl rfl sh2 ?_
  refine g_sk 2 (pc1 := 43) (st1 := [AI 0, AR r0]) rfl ?_
  refine g_putI (x := 0) rfl (ci := 9) (k := 7) (kd := 0) rfl (by decide) rfl rfl sh2 ?_
  refine g_sk 2 (pc1 := 48) (st1 := [AI 0, AR r0]) rfl ?_
  refine g_putI (x := 0) rfl (ci := 9) (k := 8) (kd := 0) rfl (by decide) rfl rfl sh2 ?_
  refine g_sk 2 (pc1 := 55) (st1 := [AI 1200, AR r0]) rfl ?_
  refine g_newa rfl rfl (by decide) (by decide) ?_
  exact k1

set_option maxRecDepth 8192 in
theorem t66_57 {d : Nat} {τ : T2} {Q : RS → T2 → Prop} {r0 s1 : Nat} {s0 : Option Nat} (sh1 : tS τ s1 = (1, 9, 0)) (sh2 : tS τ r0 = (1, 9, 0)) (k1 : Q (.inl none) (uI (uP τ s1 9 s0) r0 10 0)) : G d 66 57 [vR r0] [AP s0, AR s1] τ Q := by
  refine g_putP rfl (ci := 9) (k := 9) rfl sh1 ?_
  refine g_sk 2 (pc1 := 62) (st1 := [AI 0, AR r0]) rfl ?_
  refine g_putI (x := 0) rfl (ci := 9) (k := 10) (kd := 0) rfl (by decide) rfl rfl sh2 ?_
  refine g_vret rfl rfl ?_
  exact k1

set_option maxRecDepth 8192 in
theorem t67_0 {d : Nat} {τ : T2} {Q : RS → T2 → Prop} {x2 : Int} {r0 r1 n3 : Nat} (hd : 17 ≤ d) (sh1 : tS τ r0 = (1, 9, 0)) (sh4 : tS τ r1 = (2, 1, n3)) (k1 : 0 ≤ x2 → G (d - 1) 68 0 [vR r0, none, none, none] [] (uI (uI (uI (uI (uI (uI (uP τ r0 0 (some r1)) r0 1 (if (n3 : Int) < x2 then (n3 : Int) else x2)) r0 5 0) r0 6 0) r0 7 0) r0 8 0) r0 10 0) (KC d 67 49 52 [none, none, none] [] Q)) (k2 : x2 < 0 → G (d - 1) 68 0 [vR r0, none, none, none] [] (uI (uI (uI (uI (uI (uI (uP τ r0 0 (some r1)) r0 1 0) r0 5 0) r0 6 0) r0 7 0) r0 8 0) r0 10 0) (KC d 67 49 52 [none, none, none] [] Q)) : G d 67 0 [vR r0, vR r1, vI x2] [] τ Q := by
  refine g_sk 2 (pc1 := 2) (st1 := [AR r1, AR r0]) rfl ?_
  refine g_putP rfl (ci := 9) (k := 0) rfl sh1 ?_
  refine g_sk 2 (pc1 := 7) (st1 := [AI x2, AR r0]) rfl ?_
  refine g_br1 rfl (t := 14) rfl (fun c2 => ?_) (fun c2 => ?_)
  · have c2 : 0 ≤ x2 := of_decide_eq_true c2
    refine g_sk 2 (pc1 := 16) (st1 := [AR r1, AI x2, AR r0]) rfl ?_
    refine g_al2 rfl sh4 ?_
    refine g_min rfl rfl rfl hd ?_
    refine g_putI (x := (if (n3 : Int) < x2 then (n3 : Int) else x2)) rfl (ci := 9) (k := 1) (kd := 0) rfl (by decide) rfl rfl sh1 ?_
    refine g_sk 2 (pc1 := 25) (st1 := [AI 0, AR r0]) rfl ?_
    refine g_putI (x := 0) rfl (ci := 9) (k := 5) (kd := 0) rfl (by decide) rfl rfl sh1 ?_
    refine g_sk 2 (pc1 := 30) (st1 := [AI 0, AR r0]) rfl ?_
    refine g_putI (x := 0) rfl (ci := 9) (k := 6) (kd := 0) rfl (by decide) rfl rfl sh1 ?_
    refine g_sk 2 (pc1 := 35) (st1 := [AI 0, AR r0]) rfl ?_
    refine g_putI (x := 0) rfl (ci := 9) (k := 7) (kd := 0) rfl (by decide) rfl rfl sh1 ?_
    refine g_sk 2 (pc1 := 40) (st1 := [AI 0, AR r0]) rfl ?_
    refine g_putI (x := 0) rfl (ci := 9) (k := 8) (kd := 0) rfl (by decide) rfl rfl sh1 ?_
    refine g_sk 2 (pc1 := 45) (st1 := [AI 0, AR r0]) rfl ?_
    refine g_putI (x := 0) rfl (ci := 9) (k := 10) (kd := 0) rfl (by decide) rfl rfl sh1 ?_
    refine g_sk 1 (pc1 := 49) (st1 := [AR r0]) rfl ?_
    refine G_fg (lw2_f _ (lw2_f _ (lw2_f _ lw2_nil))) ?_
    refine g_cv rfl rfl (by decide) rfl rfl (Nat.le_of_ble_eq_true rfl) (as2 := []) rfl sh1 rfl (by omega) (L0 := [vR r0, none, none, none]) rfl ?_
    exact (k1 c2)
  · have c2 : x2 < 0 := Int.not_le.mp (of_decide_eq_false c2)
    refine g_sk 2 (pc1 := 20) (st1 := [AI 0, AR r0]) rfl ?_
    refine g_putI (x := 0) rfl (ci := 9) (k := 1) (kd := 0) rfl (by decide) rfl rfl sh1 ?_
    refine g_sk 2 (pc1 := 25) (st1 := [AI 0, AR r0]) rfl ?_
    refine g_putI (x := 0) rfl (ci := 9) (k := 5) (kd := 0) rfl (by decide) rfl rfl sh1 ?_
    refine g_sk 2 (pc1 := 30) (st1 := [AI 0, AR r0]) rfl ?_
    refine g_putI (x := 0) rfl (ci := 9) (k := 6) (kd := 0) rfl (by decide) rfl rfl sh1 ?_
    refine g_sk 2 (pc1 := 35) (st1 := [AI 0, AR r0]) rfl ?_
    refine g_putI (x := 0) rfl (ci := 9) (k := 7) (kd := 0) rfl (by decide) rfl rfl sh1 ?_
    refine g_sk 2 (pc1 := 40) (st1 := [AI 0, AR r0]) rfl ?_
    refine g_putI (x := 0) rfl (ci := 9) (k := 8) (kd := 0) rfl (by decide) rfl rfl sh1 ?_
    refine g_sk 2 (pc1 := 45) (st1 := [AI 0, AR r0]) rfl ?_
    refine g_putI (x := 0) rfl (ci := 9) (k := 10) (kd := 0) rfl (by decide) rfl rfl sh1 ?_
    refine g_sk 1 (pc1 := 49) (st1 := [AR r0]) rfl ?_
    refine G_fg (lw2_f _ (lw2_f _ (lw2_f _ lw2_nil))) ?_
    refine g_cv rfl rfl (by decide) rfl rfl (Nat.le_of_ble_eq_true rfl) (as2 := []) rfl sh1 rfl (by omega) (L0 := [vR r0, none, none, none]) rfl ?_
    exact (k2 c2)

set_option maxRecDepth 8192 in
theorem t67_52 {d : Nat} {τ : T2} {Q : RS → T2 → Prop}  (k1 : Q (.inl none) τ) : G d 67 52 [none, none, none] [] τ Q := by
  refine g_vret rfl rfl ?_
  exact k1

set_option maxRecDepth 8192 in
theorem t68_0 {d : Nat} {τ : T2} {Q : RS → T2 → Prop} {r0 : Nat} (sh1 : tS τ r0 = (1, 9, 0)) (k1 : G d 68 5 [vR r0, vI (tI τ r0 5), none, none] [] τ Q) : G d 68 0 [vR r0, none, none, none] [] τ Q := by
  refine g_sk 1 (pc1 := 1) (st1 := [AR r0]) rfl ?_
  refine g_gI rfl (ci := 9) (k := 5) rfl sh1 ?_
  refine g_sx 1 (pc1 := 5) (L1 := [vR r0, vI (tI τ r0 5), none, none]) (st1 := []) rfl ?_
  exact k1

set_option maxRecDepth 8192 in
theorem t68_5 {d : Nat} {τ : T2} {Q : RS → T2 → Prop} {x1 : Int} {r0 q4 n6 : Nat} (hd : 1 ≤ d) (sh1 : tS τ r0 = (1, 9, 0)) (p5 : tP τ r0 0 = some q4) (sh7 : tS τ q4 = (2, 1, n6)) (b8 : (tI τ r0 1) ≤ x1 → x1 < (tI (uI τ r0 4 x1) r0 1) → (0 : Int) ≤ x1 ∧ x1 < (n6 : Int)) (b9 : x1 < (tI τ r0 1) → (0 : Int) ≤ x1 ∧ x1 < (n6 : Int)) (k1 : (tI τ r0 1) ≤ x1 → x1 < (tI (uI τ r0 4 x1) r0 1) → G (d - 1) 69 0 [vI (tI (uI τ r0 4 x1) q4 x1.toNat)] [] (uI τ r0 4 x1) (KC d 68 60 63 [vR r0, vI x1, none, none] [] Q)) (k2 : (tI τ r0 1) ≤ x1 → (tI (uI τ r0 4 x1) r0 1) ≤ x1 → Q (.inl none) (uI (uI (uI τ r0 4 x1) r0 5 x1) r0 2 0)) (k3 : x1 < (tI τ r0 1) → ¬ (tI τ q4 x1.toNat) = 32 → x1 < (tI (uI τ r0 4 x1) r0 1) → G (d - 1) 69 0 [vI (tI (uI τ r0 4 x1) q4 x1.toNat)] [] (uI τ r0 4 x1) (KC d 68 60 63 [vR r0, vI x1, none, none] [] Q)) (k4 : x1 < (tI τ r0 1) → ¬ (tI τ q4 x1.toNat) = 32 → (tI (uI τ r0 4 x1) r0 1) ≤ x1 → Q (.inl none) (uI (uI (uI τ r0 4 x1) r0 5 x1) r0 2 0)) (k5 : x1 < (tI τ r0 1) → (tI τ q4 x1.toNat) = 32 → G d 68 5 [vR r0, vI (wr (x1 + 1)), none, none] [] τ Q) : G d 68 5 [vR r0, vI x1, none, none] [] τ Q := by
  refine g_sk 2 (pc1 := 7) (st1 := [AR r0, AI x1]) rfl ?_
  refine g_gI rfl (ci := 9) (k := 1) rfl sh1 ?_
  refine g_br2 rfl (t := 30) rfl (fun c2 => ?_) (fun c2 => ?_)
  · have c2 : (tI τ r0 1) ≤ x1 := of_decide_eq_true c2
    refine g_sk 2 (pc1 := 32) (st1 := [AI x1, AR r0]) rfl ?_
    refine g_putI (x := x1) rfl (ci := 9) (k := 4) (kd := 0) rfl (by decide) rfl rfl sh1 ?_
    refine g_sk 2 (pc1 := 37) (st1 := [AR r0, AI x1]) rfl ?_
    refine g_gI rfl (ci := 9) (k := 1) rfl sh1 ?_
    refine g_br2 rfl (t := 54) rfl (fun c3 => ?_) (fun c3 => ?_)
    · have c3 : x1 < (tI (uI τ r0 4 x1) r0 1) := of_decide_eq_true c3
      refine g_sk 1 (pc1 := 55) (st1 := [AR r0]) rfl ?_
      refine g_gQ rfl (ci := 9) (k := 0) rfl sh1 p5 ?_
      refine g_sk 1 (pc1 := 59) (st1 := [AI x1, AR q4]) rfl ?_
      refine g_bald rfl sh7 (by decide) (b8 c2 c3).1 (b8 c2 c3).2 ?_
      refine g_cs rfl rfl (by decide) rfl rfl (Nat.le_of_ble_eq_true rfl) rfl (by omega) (L0 := [vI (tI (uI τ r0 4 x1) q4 x1.toNat)]) rfl ?_
      exact (k1 c2 c3)
    · have c3 : (tI (uI τ r0 4 x1) r0 1) ≤ x1 := Int.not_lt.mp (of_decide_eq_false c3)
      refine g_sk 2 (pc1 := 45) (st1 := [AI x1, AR r0]) rfl ?_
      refine g_putI (x := x1) rfl (ci := 9) (k := 5) (kd := 0) rfl (by decide) rfl rfl sh1 ?_
      refine g_sk 2 (pc1 := 50) (st1 := [AI 0, AR r0]) rfl ?_
      refine g_putI (x := 0) rfl (ci := 9) (k := 2) (kd := 0) rfl (by decide) rfl rfl sh1 ?_
      refine g_vret rfl rfl ?_
      exact (k2 c2 c3)
  · have c2 : x1 < (tI τ r0 1) := Int.not_le.mp (of_decide_eq_false c2)
    refine g_sk 1 (pc1 := 14) (st1 := [AR r0]) rfl ?_
    refine g_gQ rfl (ci := 9) (k := 0) rfl sh1 p5 ?_
    refine g_sk 1 (pc1 := 18) (st1 := [AI x1, AR q4]) rfl ?_
    refine g_bald rfl sh7 (by decide) (b9 c2).1 (b9 c2).2 ?_
    refine g_sk 1 (pc1 := 21) (st1 := [AI 32, AI (tI τ q4 x1.toNat)]) rfl ?_
    refine g_br2 rfl (t := 30) rfl (fun c10 => ?_) (fun c10 => ?_)
    · have c10 : ¬ (tI τ q4 x1.toNat) = 32 := of_decide_eq_true c10
      refine g_sk 2 (pc1 := 32) (st1 := [AI x1, AR r0]) rfl ?_
      refine g_putI (x := x1) rfl (ci := 9) (k := 4) (kd := 0) rfl (by decide) rfl rfl sh1 ?_
      refine g_sk 2 (pc1 := 37) (st1 := [AR r0, AI x1]) rfl ?_
      refine g_gI rfl (ci := 9) (k := 1) rfl sh1 ?_
      refine g_br2 rfl (t := 54) rfl (fun c11 => ?_) (fun c11 => ?_)
      · have c11 : x1 < (tI (uI τ r0 4 x1) r0 1) := of_decide_eq_true c11
        refine g_sk 1 (pc1 := 55) (st1 := [AR r0]) rfl ?_
        refine g_gQ rfl (ci := 9) (k := 0) rfl sh1 p5 ?_
        refine g_sk 1 (pc1 := 59) (st1 := [AI x1, AR q4]) rfl ?_
        refine g_bald rfl sh7 (by decide) (b9 c2).1 (b9 c2).2 ?_
        refine g_cs rfl rfl (by decide) rfl rfl (Nat.le_of_ble_eq_true rfl) rfl (by omega) (L0 := [vI (tI (uI τ r0 4 x1) q4 x1.toNat)]) rfl ?_
        exact (k3 c2 c10 c11)
      · have c11 : (tI (uI τ r0 4 x1) r0 1) ≤ x1 := Int.not_lt.mp (of_decide_eq_false c11)
        refine g_sk 2 (pc1 := 45) (st1 := [AI x1, AR r0]) rfl ?_
        refine g_putI (x := x1) rfl (ci := 9) (k := 5) (kd := 0) rfl (by decide) rfl rfl sh1 ?_
        refine g_sk 2 (pc1 := 50) (st1 := [AI 0, AR r0]) rfl ?_
        refine g_putI (x := 0) rfl (ci := 9) (k := 2) (kd := 0) rfl (by decide) rfl rfl sh1 ?_
        refine g_vret rfl rfl ?_
        exact (k4 c2 c10 c11)
    · have c10 : (tI τ q4 x1.toNat) = 32 := Decidable.of_not_not (of_decide_eq_false c10)
      refine g_sx 2 (pc1 := 5) (L1 := [vR r0, vI (wr (x1 + 1)), none, none]) (st1 := []) rfl ?_
      exact (k5 c2 c10)

set_option maxRecDepth 8192 in
theorem t68_63 {d : Nat} {τ : T2} {Q : RS → T2 → Prop} {x1 y0 : Int} {r0 q3 n5 : Nat} (sh2 : tS τ r0 = (1, 9, 0)) (p4 : tP τ r0 0 = some q3) (sh6 : tS τ q3 = (2, 1, n5)) (b7 : y0 = 4 → (0 : Int) ≤ x1 ∧ x1 < (n5 : Int)) (k1 : ¬ y0 = 4 → G d 68 97 [vR r0, vI x1, vI y0, none] [] (uI τ r0 3 0) Q) (k2 : y0 = 4 → Q (.inl none) (uI (uI (uI τ r0 3 (tI τ q3 x1.toNat)) r0 5 (wr (x1 + 1))) r0 2 4)) : G d 68 63 [vR r0, vI x1, none, none] [AI y0] τ Q := by
  refine g_sx 3 (pc1 := 66) (L1 := [vR r0, vI x1, vI y0, none]) (st1 := [AI 4, AI y0]) rfl ?_
  refine g_br2 rfl (t := 92) rfl (fun c1 => ?_) (fun c1 => ?_)
  · have c1 : ¬ y0 = 4 := of_decide_eq_true c1
    refine g_sk 2 (pc1 := 94) (st1 := [AI 0, AR r0]) rfl ?_
    refine g_putI (x := 0) rfl (ci := 9) (k := 3) (kd := 0) rfl (by decide) rfl rfl sh2 ?_
    exact (k1 c1)
  · have c1 : y0 = 4 := Decidable.of_not_not (of_decide_eq_false c1)
    refine g_sk 2 (pc1 := 71) (st1 := [AR r0, AR r0]) rfl ?_
    refine g_gQ rfl (ci := 9) (k := 0) rfl sh2 p4 ?_
    refine g_sk 1 (pc1 := 75) (st1 := [AI x1, AR q3, AR r0]) rfl ?_
    refine g_bald rfl sh6 (by decide) (b7 c1).1 (b7 c1).2 ?_
    refine g_putI (x := (tI τ q3 x1.toNat)) rfl (ci := 9) (k := 3) (kd := 0) rfl (by decide) rfl rfl sh2 ?_
    refine g_sk 4 (pc1 := 83) (st1 := [AI (wr (x1 + 1)), AR r0]) rfl ?_
    refine g_putI (x := (wr (x1 + 1))) rfl (ci := 9) (k := 5) (kd := 0) rfl (by decide) rfl rfl sh2 ?_
    refine g_sk 2 (pc1 := 88) (st1 := [AI 4, AR r0]) rfl ?_
    refine g_putI (x := 4) rfl (ci := 9) (k := 2) (kd := 0) rfl (by decide) rfl rfl sh2 ?_
    refine g_vret rfl rfl ?_
    exact (k2 c1)

set_option maxRecDepth 8192 in
theorem t68_97 {d : Nat} {τ : T2} {Q : RS → T2 → Prop} {x1 x2 : Int} {r0 q6 n8 : Nat} (hd : 1 ≤ d) (sh1 : tS τ r0 = (1, 9, 0)) (p7 : tP τ r0 0 = some q6) (sh9 : tS τ q6 = (2, 1, n8)) (b10 : x1 < (tI τ r0 1) → (0 : Int) ≤ x1 ∧ x1 < (n8 : Int)) (k1 : (tI τ r0 1) ≤ x1 → ¬ x2 = 2 → 3 < (wr ((tI (uI τ r0 5 x1) r0 5) - (tI (uI τ r0 5 x1) r0 4))) → Q (.inl none) (uI (uI τ r0 5 x1) r0 2 1)) (k2 : (tI τ r0 1) ≤ x1 → ¬ x2 = 2 → (wr ((tI (uI τ r0 5 x1) r0 5) - (tI (uI τ r0 5 x1) r0 4))) ≤ 3 → Q (.inl none) (uI (uI τ r0 5 x1) r0 2 x2)) (k3 : (tI τ r0 1) ≤ x1 → x2 = 2 → 12 < (wr ((tI (uI τ r0 5 x1) r0 5) - (tI (uI τ r0 5 x1) r0 4))) → Q (.inl none) (uI (uI τ r0 5 x1) r0 2 1)) (k4 : (tI τ r0 1) ≤ x1 → x2 = 2 → (wr ((tI (uI τ r0 5 x1) r0 5) - (tI (uI τ r0 5 x1) r0 4))) ≤ 12 → Q (.inl none) (uI (uI τ r0 5 x1) r0 2 x2)) (k5 : x1 < (tI τ r0 1) → G (d - 1) 69 0 [vI (tI τ q6 x1.toNat)] [] τ (KC d 68 111 114 [vR r0, vI x1, vI x2, none] [] Q)) : G d 68 97 [vR r0, vI x1, vI x2, none] [] τ Q := by
  refine g_sk 2 (pc1 := 99) (st1 := [AR r0, AI x1]) rfl ?_
  refine g_gI rfl (ci := 9) (k := 1) rfl sh1 ?_
  refine g_br2 rfl (t := 145) rfl (fun c2 => ?_) (fun c2 => ?_)
  · have c2 : (tI τ r0 1) ≤ x1 := of_decide_eq_true c2
    refine g_sk 2 (pc1 := 147) (st1 := [AI x1, AR r0]) rfl ?_
    refine g_putI (x := x1) rfl (ci := 9) (k := 5) (kd := 0) rfl (by decide) rfl rfl sh1 ?_
    refine g_sk 2 (pc1 := 152) (st1 := [AI 2, AI x2]) rfl ?_
    refine g_br2 rfl (t := 160) rfl (fun c3 => ?_) (fun c3 => ?_)
    · have c3 : ¬ x2 = 2 := of_decide_eq_true c3
      refine g_sx 4 (pc1 := 164) (L1 := [vR r0, vI x1, vI x2, vI 3]) (st1 := [AR r0, AR r0]) rfl ?_
      refine g_gI rfl (ci := 9) (k := 5) rfl sh1 ?_
      refine g_sk 1 (pc1 := 168) (st1 := [AR r0, AI (tI (uI τ r0 5 x1) r0 5), AR r0]) rfl ?_
      refine g_gI rfl (ci := 9) (k := 4) rfl sh1 ?_
      refine g_sk 2 (pc1 := 173) (st1 := [AI 3, AI (wr ((tI (uI τ r0 5 x1) r0 5) - (tI (uI τ r0 5 x1) r0 4))), AR r0]) rfl ?_
      refine g_br2 rfl (t := 180) rfl (fun c4 => ?_) (fun c4 => ?_)
      · have c4 : 3 < (wr ((tI (uI τ r0 5 x1) r0 5) - (tI (uI τ r0 5 x1) r0 4))) := of_decide_eq_true c4
        refine g_sk 1 (pc1 := 181) (st1 := [AI 1, AR r0]) rfl ?_
        refine g_putI (x := 1) rfl (ci := 9) (k := 2) (kd := 0) rfl (by decide) rfl rfl sh1 ?_
        refine g_vret rfl rfl ?_
        exact (k1 c2 c3 c4)
      · have c4 : (wr ((tI (uI τ r0 5 x1) r0 5) - (tI (uI τ r0 5 x1) r0 4))) ≤ 3 := Int.not_lt.mp (of_decide_eq_false c4)
        refine g_sk 2 (pc1 := 181) (st1 := [AI x2, AR r0]) rfl ?_
        refine g_putI (x := x2) rfl (ci := 9) (k := 2) (kd := 0) rfl (by decide) rfl rfl sh1 ?_
        refine g_vret rfl rfl ?_
        exact (k2 c2 c3 c4)
    · have c3 : x2 = 2 := Decidable.of_not_not (of_decide_eq_false c3)
      refine g_sx 5 (pc1 := 164) (L1 := [vR r0, vI x1, vI x2, vI 12]) (st1 := [AR r0, AR r0]) rfl ?_
      refine g_gI rfl (ci := 9) (k := 5) rfl sh1 ?_
      refine g_sk 1 (pc1 := 168) (st1 := [AR r0, AI (tI (uI τ r0 5 x1) r0 5), AR r0]) rfl ?_
      refine g_gI rfl (ci := 9) (k := 4) rfl sh1 ?_
      refine g_sk 2 (pc1 := 173) (st1 := [AI 12, AI (wr ((tI (uI τ r0 5 x1) r0 5) - (tI (uI τ r0 5 x1) r0 4))), AR r0]) rfl ?_
      refine g_br2 rfl (t := 180) rfl (fun c5 => ?_) (fun c5 => ?_)
      · have c5 : 12 < (wr ((tI (uI τ r0 5 x1) r0 5) - (tI (uI τ r0 5 x1) r0 4))) := of_decide_eq_true c5
        refine g_sk 1 (pc1 := 181) (st1 := [AI 1, AR r0]) rfl ?_
        refine g_putI (x := 1) rfl (ci := 9) (k := 2) (kd := 0) rfl (by decide) rfl rfl sh1 ?_
        refine g_vret rfl rfl ?_
        exact (k3 c2 c3 c5)
      · have c5 : (wr ((tI (uI τ r0 5 x1) r0 5) - (tI (uI τ r0 5 x1) r0 4))) ≤ 12 := Int.not_lt.mp (of_decide_eq_false c5)
        refine g_sk 2 (pc1 := 181) (st1 := [AI x2, AR r0]) rfl ?_
        refine g_putI (x := x2) rfl (ci := 9) (k := 2) (kd := 0) rfl (by decide) rfl rfl sh1 ?_
        refine g_vret rfl rfl ?_
        exact (k4 c2 c3 c5)
  · have c2 : x1 < (tI τ r0 1) := Int.not_le.mp (of_decide_eq_false c2)
    refine g_sk 1 (pc1 := 106) (st1 := [AR r0]) rfl ?_
    refine g_gQ rfl (ci := 9) (k := 0) rfl sh1 p7 ?_
    refine g_sk 1 (pc1 := 110) (st1 := [AI x1, AR q6]) rfl ?_
    refine g_bald rfl sh9 (by decide) (b10 c2).1 (b10 c2).2 ?_
    refine g_cs rfl rfl (by decide) rfl rfl (Nat.le_of_ble_eq_true rfl) rfl (by omega) (L0 := [vI (tI τ q6 x1.toNat)]) rfl ?_
    exact (k5 c2)

set_option maxRecDepth 8192 in
theorem t68_114 {d : Nat} {τ : T2} {Q : RS → T2 → Prop} {x1 x2 y0 : Int} {r0 q6 n8 : Nat} (sh2 : tS τ r0 = (1, 9, 0)) (p7 : tP τ r0 0 = some q6) (sh9 : tS τ q6 = (2, 1, n8)) (b10 : y0 = x2 → (0 : Int) ≤ x1 ∧ x1 < (n8 : Int)) (k1 : ¬ y0 = x2 → ¬ x2 = 2 → 3 < (wr ((tI (uI τ r0 5 x1) r0 5) - (tI (uI τ r0 5 x1) r0 4))) → Q (.inl none) (uI (uI τ r0 5 x1) r0 2 1)) (k2 : ¬ y0 = x2 → ¬ x2 = 2 → (wr ((tI (uI τ r0 5 x1) r0 5) - (tI (uI τ r0 5 x1) r0 4))) ≤ 3 → Q (.inl none) (uI (uI τ r0 5 x1) r0 2 x2)) (k3 : ¬ y0 = x2 → x2 = 2 → 12 < (wr ((tI (uI τ r0 5 x1) r0 5) - (tI (uI τ r0 5 x1) r0 4))) → Q (.inl none) (uI (uI τ r0 5 x1) r0 2 1)) (k4 : ¬ y0 = x2 → x2 = 2 → (wr ((tI (uI τ r0 5 x1) r0 5) - (tI (uI τ r0 5 x1) r0 4))) ≤ 12 → Q (.inl none) (uI (uI τ r0 5 x1) r0 2 x2)) (k5 : y0 = x2 → G d 68 97 [vR r0, vI (wr (x1 + 1)), vI x2, none] [] (uI τ r0 3 (wr ((wr ((wr ((tI τ r0 3) * 10)) + (tI τ q6 x1.toNat))) - 48))) Q) : G d 68 114 [vR r0, vI x1, vI x2, none] [AI y0] τ Q := by
  refine g_sk 1 (pc1 := 115) (st1 := [AI x2, AI y0]) rfl ?_
  refine g_br2 rfl (t := 145) rfl (fun c1 => ?_) (fun c1 => ?_)
  · have c1 : ¬ y0 = x2 := of_decide_eq_true c1
    refine g_sk 2 (pc1 := 147) (st1 := [AI x1, AR r0]) rfl ?_
    refine g_putI (x := x1) rfl (ci := 9) (k := 5) (kd := 0) rfl (by decide) rfl rfl sh2 ?_
    refine g_sk 2 (pc1 := 152) (st1 := [AI 2, AI x2]) rfl ?_
    refine g_br2 rfl (t := 160) rfl (fun c3 => ?_) (fun c3 => ?_)
    · have c3 : ¬ x2 = 2 := of_decide_eq_true c3
      refine g_sx 4 (pc1 := 164) (L1 := [vR r0, vI x1, vI x2, vI 3]) (st1 := [AR r0, AR r0]) rfl ?_
      refine g_gI rfl (ci := 9) (k := 5) rfl sh2 ?_
      refine g_sk 1 (pc1 := 168) (st1 := [AR r0, AI (tI (uI τ r0 5 x1) r0 5), AR r0]) rfl ?_
      refine g_gI rfl (ci := 9) (k := 4) rfl sh2 ?_
      refine g_sk 2 (pc1 := 173) (st1 := [AI 3, AI (wr ((tI (uI τ r0 5 x1) r0 5) - (tI (uI τ r0 5 x1) r0 4))), AR r0]) rfl ?_
      refine g_br2 rfl (t := 180) rfl (fun c4 => ?_) (fun c4 => ?_)
      · have c4 : 3 < (wr ((tI (uI τ r0 5 x1) r0 5) - (tI (uI τ r0 5 x1) r0 4))) := of_decide_eq_true c4
        refine g_sk 1 (pc1 := 181) (st1 := [AI 1, AR r0]) rfl ?_
        refine g_putI (x := 1) rfl (ci := 9) (k := 2) (kd := 0) rfl (by decide) rfl rfl sh2 ?_
        refine g_vret rfl rfl ?_
        exact (k1 c1 c3 c4)
      · have c4 : (wr ((tI (uI τ r0 5 x1) r0 5) - (tI (uI τ r0 5 x1) r0 4))) ≤ 3 := Int.not_lt.mp (of_decide_eq_false c4)
        refine g_sk 2 (pc1 := 181) (st1 := [AI x2, AR r0]) rfl ?_
        refine g_putI (x := x2) rfl (ci := 9) (k := 2) (kd := 0) rfl (by decide) rfl rfl sh2 ?_
        refine g_vret rfl rfl ?_
        exact (k2 c1 c3 c4)
    · have c3 : x2 = 2 := Decidable.of_not_not (of_decide_eq_false c3)
      refine g_sx 5 (pc1 := 164) (L1 := [vR r0, vI x1, vI x2, vI 12]) (st1 := [AR r0, AR r0]) rfl ?_
      refine g_gI rfl (ci := 9) (k := 5) rfl sh2 ?_
      refine g_sk 1 (pc1 := 168) (st1 := [AR r0, AI (tI (uI τ r0 5 x1) r0 5), AR r0]) rfl ?_
      refine g_gI rfl (ci := 9) (k := 4) rfl sh2 ?_
      refine g_sk 2 (pc1 := 173) (st1 := [AI 12, AI (wr ((tI (uI τ r0 5 x1) r0 5) - (tI (uI τ r0 5 x1) r0 4))), AR r0]) rfl ?_
      refine g_br2 rfl (t := 180) rfl (fun c5 => ?_) (fun c5 => ?_)
      · have c5 : 12 < (wr ((tI (uI τ r0 5 x1) r0 5) - (tI (uI τ r0 5 x1) r0 4))) := of_decide_eq_true c5
        refine g_sk 1 (pc1 := 181) (st1 := [AI 1, AR r0]) rfl ?_
        refine g_putI (x := 1) rfl (ci := 9) (k := 2) (kd := 0) rfl (by decide) rfl rfl sh2 ?_
        refine g_vret rfl rfl ?_
        exact (k3 c1 c3 c5)
      · have c5 : (wr ((tI (uI τ r0 5 x1) r0 5) - (tI (uI τ r0 5 x1) r0 4))) ≤ 12 := Int.not_lt.mp (of_decide_eq_false c5)
        refine g_sk 2 (pc1 := 181) (st1 := [AI x2, AR r0]) rfl ?_
        refine g_putI (x := x2) rfl (ci := 9) (k := 2) (kd := 0) rfl (by decide) rfl rfl sh2 ?_
        refine g_vret rfl rfl ?_
        exact (k4 c1 c3 c5)
  · have c1 : y0 = x2 := Decidable.of_not_not (of_decide_eq_false c1)
    refine g_sk 2 (pc1 := 120) (st1 := [AR r0, AR r0]) rfl ?_
    refine g_gI rfl (ci := 9) (k := 3) rfl sh2 ?_
    refine g_sk 3 (pc1 := 127) (st1 := [AR r0, AI (wr ((tI τ r0 3) * 10)), AR r0]) rfl ?_
    refine g_gQ rfl (ci := 9) (k := 0) rfl sh2 p7 ?_
    refine g_sk 1 (pc1 := 131) (st1 := [AI x1, AR q6, AI (wr ((tI τ r0 3) * 10)), AR r0]) rfl ?_
    refine g_bald rfl sh9 (by decide) (b10 c1).1 (b10 c1).2 ?_
    refine g_sk 3 (pc1 := 136) (st1 := [AI (wr ((wr ((wr ((tI τ r0 3) * 10)) + (tI τ q6 x1.toNat))) - 48)), AR r0]) rfl ?_
    refine g_putI (x := (wr ((wr ((wr ((tI τ r0 3) * 10)) + (tI τ q6 x1.toNat))) - 48))) rfl (ci := 9) (k := 3) (kd := 0) rfl (by decide) rfl rfl sh2 ?_
    refine g_sx 2 (pc1 := 97) (L1 := [vR r0, vI (wr (x1 + 1)), vI x2, none]) (st1 := []) rfl ?_
    exact (k5 c1)

set_option maxRecDepth 8192 in
theorem t69_0 {d : Nat} {τ : T2} {Q : RS → T2 → Prop} {x0 : Int} (k1 : x0 < 97 → x0 < 48 → Q (.inl (some (AI 4))) τ) (k2 : x0 < 97 → 48 ≤ x0 → 57 < x0 → Q (.inl (some (AI 4))) τ) (k3 : x0 < 97 → 48 ≤ x0 → x0 ≤ 57 → Q (.inl (some (AI 3))) τ) (k4 : 97 ≤ x0 → 122 < x0 → x0 < 48 → Q (.inl (some (AI 4))) τ) (k5 : 97 ≤ x0 → 122 < x0 → 48 ≤ x0 → 57 < x0 → Q (.inl (some (AI 4))) τ) (k6 : 97 ≤ x0 → 122 < x0 → 48 ≤ x0 → x0 ≤ 57 → Q (.inl (some (AI 3))) τ) (k7 : 97 ≤ x0 → x0 ≤ 122 → Q (.inl (some (AI 2))) τ) : G d 69 0 [vI x0] [] τ Q := by
  refine g_sk 2 (pc1 := 3) (st1 := [AI 97, AI x0]) rfl ?_
  refine g_br2 rfl (t := 14) rfl (fun c1 => ?_) (fun c1 => ?_)
  · have c1 : x0 < 97 := of_decide_eq_true c1
    refine g_sk 2 (pc1 := 17) (st1 := [AI 48, AI x0]) rfl ?_
    refine g_br2 rfl (t := 30) rfl (fun c2 => ?_) (fun c2 => ?_)
    · have c2 : x0 < 48 := of_decide_eq_true c2
      refine g_sk 1 (pc1 := 31) (st1 := [AI 4]) rfl ?_
      refine g_iret rfl rfl ?_
      exact (k1 c1 c2)
    · have c2 : 48 ≤ x0 := Int.not_lt.mp (of_decide_eq_false c2)
      refine g_sk 2 (pc1 := 23) (st1 := [AI 57, AI x0]) rfl ?_
      refine g_br2 rfl (t := 30) rfl (fun c3 => ?_) (fun c3 => ?_)
      · have c3 : 57 < x0 := of_decide_eq_true c3
        refine g_sk 1 (pc1 := 31) (st1 := [AI 4]) rfl ?_
        refine g_iret rfl rfl ?_
        exact (k2 c1 c2 c3)
      · have c3 : x0 ≤ 57 := Int.not_lt.mp (of_decide_eq_false c3)
        refine g_sk 2 (pc1 := 31) (st1 := [AI 3]) rfl ?_
        refine g_iret rfl rfl ?_
        exact (k3 c1 c2 c3)
  · have c1 : 97 ≤ x0 := Int.not_lt.mp (of_decide_eq_false c1)
    refine g_sk 2 (pc1 := 9) (st1 := [AI 122, AI x0]) rfl ?_
    refine g_br2 rfl (t := 14) rfl (fun c4 => ?_) (fun c4 => ?_)
    · have c4 : 122 < x0 := of_decide_eq_true c4
      refine g_sk 2 (pc1 := 17) (st1 := [AI 48, AI x0]) rfl ?_
      refine g_br2 rfl (t := 30) rfl (fun c5 => ?_) (fun c5 => ?_)
      · have c5 : x0 < 48 := of_decide_eq_true c5
        refine g_sk 1 (pc1 := 31) (st1 := [AI 4]) rfl ?_
        refine g_iret rfl rfl ?_
        exact (k4 c1 c4 c5)
      · have c5 : 48 ≤ x0 := Int.not_lt.mp (of_decide_eq_false c5)
        refine g_sk 2 (pc1 := 23) (st1 := [AI 57, AI x0]) rfl ?_
        refine g_br2 rfl (t := 30) rfl (fun c6 => ?_) (fun c6 => ?_)
        · have c6 : 57 < x0 := of_decide_eq_true c6
          refine g_sk 1 (pc1 := 31) (st1 := [AI 4]) rfl ?_
          refine g_iret rfl rfl ?_
          exact (k5 c1 c4 c5 c6)
        · have c6 : x0 ≤ 57 := Int.not_lt.mp (of_decide_eq_false c6)
          refine g_sk 2 (pc1 := 31) (st1 := [AI 3]) rfl ?_
          refine g_iret rfl rfl ?_
          exact (k6 c1 c4 c5 c6)
    · have c4 : x0 ≤ 122 := Int.not_lt.mp (of_decide_eq_false c4)
      refine g_sk 1 (pc1 := 13) (st1 := [AI 2]) rfl ?_
      refine g_iret rfl rfl ?_
      exact (k7 c1 c4)

set_option maxRecDepth 8192 in
theorem t70_0 {d : Nat} {τ : T2} {Q : RS → T2 → Prop} {r0 : Nat} (sh1 : tS τ r0 = (1, 9, 0)) (k1 : ¬ (tI τ r0 2) = 2 → Q (.inl (some (AI 0))) τ) (k2 : (tI τ r0 2) = 2 → Q (.inl (some (AI 1))) τ) : G d 70 0 [vR r0] [] τ Q := by
  refine g_sk 1 (pc1 := 1) (st1 := [AR r0]) rfl ?_
  refine g_gI rfl (ci := 9) (k := 2) rfl sh1 ?_
  refine g_sk 1 (pc1 := 5) (st1 := [AI 2, AI (tI τ r0 2)]) rfl ?_
  refine g_br2 rfl (t := 12) rfl (fun c2 => ?_) (fun c2 => ?_)
  · have c2 : ¬ (tI τ r0 2) = 2 := of_decide_eq_true c2
    refine g_sk 1 (pc1 := 13) (st1 := [AI 0]) rfl ?_
    refine g_zret rfl rfl (by decide) ?_
    exact (k1 c2)
  · have c2 : (tI τ r0 2) = 2 := Decidable.of_not_not (of_decide_eq_false c2)
    refine g_sk 2 (pc1 := 13) (st1 := [AI 1]) rfl ?_
    refine g_zret rfl rfl (by decide) ?_
    exact (k2 c2)

set_option maxRecDepth 8192 in
theorem t71_0 {d : Nat} {τ : T2} {Q : RS → T2 → Prop} {r0 : Nat} (sh1 : tS τ r0 = (1, 9, 0)) (k1 : G d 71 5 [vR r0, vI (tI τ r0 5)] [] τ Q) : G d 71 0 [vR r0, none] [] τ Q := by
  refine g_sk 1 (pc1 := 1) (st1 := [AR r0]) rfl ?_
  refine g_gI rfl (ci := 9) (k := 5) rfl sh1 ?_
  refine g_sx 1 (pc1 := 5) (L1 := [vR r0, vI (tI τ r0 5)]) (st1 := []) rfl ?_
  exact k1

set_option maxRecDepth 8192 in
theorem t71_5 {d : Nat} {τ : T2} {Q : RS → T2 → Prop} {x1 : Int} {r0 q4 n6 : Nat} (sh1 : tS τ r0 = (1, 9, 0)) (p5 : tP τ r0 0 = some q4) (sh7 : tS τ q4 = (2, 1, n6)) (b8 : x1 < (tI τ r0 1) → (0 : Int) ≤ x1 ∧ x1 < (n6 : Int)) (k1 : (tI τ r0 1) ≤ x1 → ¬ (tI τ r0 2) = 2 → Q (.inl (some (AI 0))) τ) (k2 : (tI τ r0 1) ≤ x1 → (tI τ r0 2) = 2 → Q (.inl (some (AI 1))) τ) (k3 : x1 < (tI τ r0 1) → (tI τ q4 x1.toNat) = 32 → G d 71 5 [vR r0, vI (wr (x1 + 1))] [] τ Q) (k4 : x1 < (tI τ r0 1) → ¬ (tI τ q4 x1.toNat) = 32 → Q (.inl (some (AI 0))) τ) : G d 71 5 [vR r0, vI x1] [] τ Q := by
  refine g_sk 2 (pc1 := 7) (st1 := [AR r0, AI x1]) rfl ?_
  refine g_gI rfl (ci := 9) (k := 1) rfl sh1 ?_
  refine g_br2 rfl (t := 32) rfl (fun c2 => ?_) (fun c2 => ?_)
  · have c2 : (tI τ r0 1) ≤ x1 := of_decide_eq_true c2
    refine g_sk 1 (pc1 := 33) (st1 := [AR r0]) rfl ?_
    refine g_gI rfl (ci := 9) (k := 2) rfl sh1 ?_
    refine g_sk 1 (pc1 := 37) (st1 := [AI 2, AI (tI τ r0 2)]) rfl ?_
    refine g_br2 rfl (t := 44) rfl (fun c3 => ?_) (fun c3 => ?_)
    · have c3 : ¬ (tI τ r0 2) = 2 := of_decide_eq_true c3
      refine g_sk 1 (pc1 := 45) (st1 := [AI 0]) rfl ?_
      refine g_zret rfl rfl (by decide) ?_
      exact (k1 c2 c3)
    · have c3 : (tI τ r0 2) = 2 := Decidable.of_not_not (of_decide_eq_false c3)
      refine g_sk 2 (pc1 := 45) (st1 := [AI 1]) rfl ?_
      refine g_zret rfl rfl (by decide) ?_
      exact (k2 c2 c3)
  · have c2 : x1 < (tI τ r0 1) := Int.not_le.mp (of_decide_eq_false c2)
    refine g_sk 1 (pc1 := 14) (st1 := [AR r0]) rfl ?_
    refine g_gQ rfl (ci := 9) (k := 0) rfl sh1 p5 ?_
    refine g_sk 1 (pc1 := 18) (st1 := [AI x1, AR q4]) rfl ?_
    refine g_bald rfl sh7 (by decide) (b8 c2).1 (b8 c2).2 ?_
    refine g_sk 1 (pc1 := 21) (st1 := [AI 32, AI (tI τ q4 x1.toNat)]) rfl ?_
    refine g_br2 rfl (t := 26) rfl (fun c9 => ?_) (fun c9 => ?_)
    · have c9 : (tI τ q4 x1.toNat) = 32 := of_decide_eq_true c9
      refine g_sx 2 (pc1 := 5) (L1 := [vR r0, vI (wr (x1 + 1))]) (st1 := []) rfl ?_
      exact (k3 c2 c9)
    · have c9 : ¬ (tI τ q4 x1.toNat) = 32 := of_decide_eq_false c9
      refine g_sk 1 (pc1 := 25) (st1 := [AI 0]) rfl ?_
      refine g_zret rfl rfl (by decide) ?_
      exact (k4 c2 c9)

set_option maxRecDepth 8192 in
theorem t72_0 {d : Nat} {τ : T2} {Q : RS → T2 → Prop} {r0 : Nat} {r1 : Option Nat} (hd : 17 ≤ d) (sh1 : tS τ r0 = (1, 9, 0)) (k1 : ¬ (tI τ r0 2) = 2 → Q (.inl (some (AI 0))) τ) (k2 : (tI τ r0 2) = 2 → G d 72 9 [vR r0, vQ r1, none] [AP r1] τ Q) : G d 72 0 [vR r0, vQ r1, none] [] τ Q := by
  refine g_sk 1 (pc1 := 1) (st1 := [AR r0]) rfl ?_
  refine g_gI rfl (ci := 9) (k := 2) rfl sh1 ?_
  refine g_sk 1 (pc1 := 5) (st1 := [AI 2, AI (tI τ r0 2)]) rfl ?_
  refine g_br2 rfl (t := 24) rfl (fun c2 => ?_) (fun c2 => ?_)
  · have c2 : ¬ (tI τ r0 2) = 2 := of_decide_eq_true c2
    refine g_sk 1 (pc1 := 25) (st1 := [AI 0]) rfl ?_
    refine g_zret rfl rfl (by decide) ?_
    exact (k1 c2)
  · have c2 : (tI τ r0 2) = 2 := Decidable.of_not_not (of_decide_eq_false c2)
    refine g_sk 1 (pc1 := 9) (st1 := [AP r1]) rfl ?_
    exact (k2 c2)

set_option maxRecDepth 8192 in
theorem t72_28 {d : Nat} {τ : T2} {Q : RS → T2 → Prop} {x2 : Int} {r0 : Nat} {r1 : Option Nat} (hd : 17 ≤ d) (k1 : G d 72 30 [vR r0, vQ r1, vI x2] [AP r1, AI x2] τ Q) : G d 72 28 [vR r0, vQ r1, vI x2] [] τ Q := by
  refine g_sk 2 (pc1 := 30) (st1 := [AP r1, AI x2]) rfl ?_
  exact k1

set_option maxRecDepth 8192 in
theorem t73_0 {d : Nat} {τ : T2} {Q : RS → T2 → Prop} {x1 : Int} {r0 : Nat} (sh1 : tS τ r0 = (1, 9, 0)) (k1 : ¬ (tI τ r0 2) = 4 → Q (.inl (some (AI 0))) τ) (k2 : (tI τ r0 2) = 4 → ¬ (tI τ r0 3) = x1 → Q (.inl (some (AI 0))) τ) (k3 : (tI τ r0 2) = 4 → (tI τ r0 3) = x1 → Q (.inl (some (AI 1))) τ) : G d 73 0 [vR r0, vI x1] [] τ Q := by
  refine g_sk 1 (pc1 := 1) (st1 := [AR r0]) rfl ?_
  refine g_gI rfl (ci := 9) (k := 2) rfl sh1 ?_
  refine g_sk 1 (pc1 := 5) (st1 := [AI 4, AI (tI τ r0 2)]) rfl ?_
  refine g_br2 rfl (t := 20) rfl (fun c2 => ?_) (fun c2 => ?_)
  · have c2 : ¬ (tI τ r0 2) = 4 := of_decide_eq_true c2
    refine g_sk 1 (pc1 := 21) (st1 := [AI 0]) rfl ?_
    refine g_zret rfl rfl (by decide) ?_
    exact (k1 c2)
  · have c2 : (tI τ r0 2) = 4 := Decidable.of_not_not (of_decide_eq_false c2)
    refine g_sk 1 (pc1 := 9) (st1 := [AR r0]) rfl ?_
    refine g_gI rfl (ci := 9) (k := 3) rfl sh1 ?_
    refine g_sk 1 (pc1 := 13) (st1 := [AI x1, AI (tI τ r0 3)]) rfl ?_
    refine g_br2 rfl (t := 20) rfl (fun c3 => ?_) (fun c3 => ?_)
    · have c3 : ¬ (tI τ r0 3) = x1 := of_decide_eq_true c3
      refine g_sk 1 (pc1 := 21) (st1 := [AI 0]) rfl ?_
      refine g_zret rfl rfl (by decide) ?_
      exact (k2 c2 c3)
    · have c3 : (tI τ r0 3) = x1 := Decidable.of_not_not (of_decide_eq_false c3)
      refine g_sk 2 (pc1 := 21) (st1 := [AI 1]) rfl ?_
      refine g_zret rfl rfl (by decide) ?_
      exact (k3 c2 c3)

set_option maxRecDepth 8192 in
theorem t74_0 {d : Nat} {τ : T2} {Q : RS → T2 → Prop} {x1 x2 x3 : Int} {r0 : Nat} (hd : 1 ≤ d) (sh1 : tS τ r0 = (1, 9, 0)) (k1 : (tI τ r0 2) = 3 → (tI τ r0 3) < x1 → G (d - 1) 76 0 [vR r0, vI x3] [] τ (KC d 74 32 35 [none, none, none, none] [] Q)) (k2 : (tI τ r0 2) = 3 → x1 ≤ (tI τ r0 3) → (tI τ r0 3) ≤ x2 → Q (.inl (some (AI 1))) τ) (k3 : (tI τ r0 2) = 3 → x1 ≤ (tI τ r0 3) → x2 < (tI τ r0 3) → G (d - 1) 76 0 [vR r0, vI x3] [] τ (KC d 74 32 35 [none, none, none, none] [] Q)) (k4 : ¬ (tI τ r0 2) = 3 → G (d - 1) 76 0 [vR r0, vI 1] [] τ (KC d 74 10 13 [none, none, none, none] [] Q)) : G d 74 0 [vR r0, vI x1, vI x2, vI x3] [] τ Q := by
  refine g_sk 1 (pc1 := 1) (st1 := [AR r0]) rfl ?_
  refine g_gI rfl (ci := 9) (k := 2) rfl sh1 ?_
  refine g_sk 1 (pc1 := 5) (st1 := [AI 3, AI (tI τ r0 2)]) rfl ?_
  refine g_br2 rfl (t := 14) rfl (fun c2 => ?_) (fun c2 => ?_)
  · have c2 : (tI τ r0 2) = 3 := of_decide_eq_true c2
    refine g_sk 1 (pc1 := 15) (st1 := [AR r0]) rfl ?_
    refine g_gI rfl (ci := 9) (k := 3) rfl sh1 ?_
    refine g_sk 1 (pc1 := 19) (st1 := [AI x1, AI (tI τ r0 3)]) rfl ?_
    refine g_br2 rfl (t := 30) rfl (fun c3 => ?_) (fun c3 => ?_)
    · have c3 : (tI τ r0 3) < x1 := of_decide_eq_true c3
      refine g_sk 2 (pc1 := 32) (st1 := [AI x3, AR r0]) rfl ?_
      refine G_fg (lw2_f _ (lw2_f _ (lw2_f _ (lw2_f _ lw2_nil)))) ?_
      refine g_cv rfl rfl (by decide) rfl rfl (Nat.le_of_ble_eq_true rfl) (as2 := [AI x3]) rfl sh1 rfl (by omega) (L0 := [vR r0, vI x3]) rfl ?_
      exact (k1 c2 c3)
    · have c3 : x1 ≤ (tI τ r0 3) := Int.not_lt.mp (of_decide_eq_false c3)
      refine g_sk 1 (pc1 := 23) (st1 := [AR r0]) rfl ?_
      refine g_gI rfl (ci := 9) (k := 3) rfl sh1 ?_
      refine g_sk 1 (pc1 := 27) (st1 := [AI x2, AI (tI τ r0 3)]) rfl ?_
      refine g_br2 rfl (t := 38) rfl (fun c4 => ?_) (fun c4 => ?_)
      · have c4 : (tI τ r0 3) ≤ x2 := of_decide_eq_true c4
        refine g_sk 2 (pc1 := 43) (st1 := [AI 1]) rfl ?_
        refine g_zret rfl rfl (by decide) ?_
        exact (k2 c2 c3 c4)
      · have c4 : x2 < (tI τ r0 3) := Int.not_le.mp (of_decide_eq_false c4)
        refine g_sk 2 (pc1 := 32) (st1 := [AI x3, AR r0]) rfl ?_
        refine G_fg (lw2_f _ (lw2_f _ (lw2_f _ (lw2_f _ lw2_nil)))) ?_
        refine g_cv rfl rfl (by decide) rfl rfl (Nat.le_of_ble_eq_true rfl) (as2 := [AI x3]) rfl sh1 rfl (by omega) (L0 := [vR r0, vI x3]) rfl ?_
        exact (k3 c2 c3 c4)
  · have c2 : ¬ (tI τ r0 2) = 3 := of_decide_eq_false c2
    refine g_sk 2 (pc1 := 10) (st1 := [AI 1, AR r0]) rfl ?_
    refine G_fg (lw2_f _ (lw2_f _ (lw2_f _ (lw2_f _ lw2_nil)))) ?_
    refine g_cv rfl rfl (by decide) rfl rfl (Nat.le_of_ble_eq_true rfl) (as2 := [AI 1]) rfl sh1 rfl (by omega) (L0 := [vR r0, vI 1]) rfl ?_
    exact (k4 c2)

set_option maxRecDepth 8192 in
theorem t74_13 {d : Nat} {τ : T2} {Q : RS → T2 → Prop} {y0 : Int} (p1 : y0 = 0 ∨ y0 = 1) (k1 : Q (.inl (some (AI y0))) τ) : G d 74 13 [none, none, none, none] [AI y0] τ Q := by
  refine g_zret rfl rfl p1 ?_
  exact k1

set_option maxRecDepth 8192 in
theorem t74_35 {d : Nat} {τ : T2} {Q : RS → T2 → Prop} {y0 : Int} (k1 : y0 = 0 → Q (.inl (some (AI 0))) τ) (k2 : ¬ y0 = 0 → Q (.inl (some (AI 1))) τ) : G d 74 35 [none, none, none, none] [AI y0] τ Q := by
  refine g_br1 rfl (t := 42) rfl (fun c1 => ?_) (fun c1 => ?_)
  · have c1 : y0 = 0 := of_decide_eq_true c1
    refine g_sk 1 (pc1 := 43) (st1 := [AI 0]) rfl ?_
    refine g_zret rfl rfl (by decide) ?_
    exact (k1 c1)
  · have c1 : ¬ y0 = 0 := of_decide_eq_false c1
    refine g_sk 2 (pc1 := 43) (st1 := [AI 1]) rfl ?_
    refine g_zret rfl rfl (by decide) ?_
    exact (k2 c1)

set_option maxRecDepth 8192 in
theorem t75_0 {d : Nat} {τ : T2} {Q : RS → T2 → Prop} {r0 : Nat} (hd : 1 ≤ d) (sh1 : tS τ r0 = (1, 9, 0)) (k1 : (tI τ r0 2) = 0 → Q (.inl (some (AI 1))) τ) (k2 : ¬ (tI τ r0 2) = 0 → G (d - 1) 76 0 [vR r0, vI 1] [] τ (KC d 75 9 12 [none] [] Q)) : G d 75 0 [vR r0] [] τ Q := by
  refine g_sk 1 (pc1 := 1) (st1 := [AR r0]) rfl ?_
  refine g_gI rfl (ci := 9) (k := 2) rfl sh1 ?_
  refine g_br1 rfl (t := 15) rfl (fun c2 => ?_) (fun c2 => ?_)
  · have c2 : (tI τ r0 2) = 0 := of_decide_eq_true c2
    refine g_sk 2 (pc1 := 20) (st1 := [AI 1]) rfl ?_
    refine g_zret rfl rfl (by decide) ?_
    exact (k1 c2)
  · have c2 : ¬ (tI τ r0 2) = 0 := of_decide_eq_false c2
    refine g_sk 2 (pc1 := 9) (st1 := [AI 1, AR r0]) rfl ?_
    refine G_fg (lw2_f _ lw2_nil) ?_
    refine g_cv rfl rfl (by decide) rfl rfl (Nat.le_of_ble_eq_true rfl) (as2 := [AI 1]) rfl sh1 rfl (by omega) (L0 := [vR r0, vI 1]) rfl ?_
    exact (k2 c2)

set_option maxRecDepth 8192 in
theorem t75_12 {d : Nat} {τ : T2} {Q : RS → T2 → Prop} {y0 : Int} (k1 : y0 = 0 → Q (.inl (some (AI 0))) τ) (k2 : ¬ y0 = 0 → Q (.inl (some (AI 1))) τ) : G d 75 12 [none] [AI y0] τ Q := by
  refine g_br1 rfl (t := 19) rfl (fun c1 => ?_) (fun c1 => ?_)
  · have c1 : y0 = 0 := of_decide_eq_true c1
    refine g_sk 1 (pc1 := 20) (st1 := [AI 0]) rfl ?_
    refine g_zret rfl rfl (by decide) ?_
    exact (k1 c1)
  · have c1 : ¬ y0 = 0 := of_decide_eq_false c1
    refine g_sk 2 (pc1 := 20) (st1 := [AI 1]) rfl ?_
    refine g_zret rfl rfl (by decide) ?_
    exact (k2 c1)

set_option maxRecDepth 8192 in
theorem t76_0 {d : Nat} {τ : T2} {Q : RS → T2 → Prop} {x1 : Int} {r0 : Nat} (sh1 : tS τ r0 = (1, 9, 0)) (k1 : Q (.inl (some (AI 0))) (uI (uI τ r0 6 x1) r0 7 (tI (uI τ r0 6 x1) r0 4))) : G d 76 0 [vR r0, vI x1] [] τ Q := by
  refine g_sk 2 (pc1 := 2) (st1 := [AI x1, AR r0]) rfl ?_
  refine g_putI (x := x1) rfl (ci := 9) (k := 6) (kd := 0) rfl (by decide) rfl rfl sh1 ?_
  refine g_sk 2 (pc1 := 7) (st1 := [AR r0, AR r0]) rfl ?_
  refine g_gI rfl (ci := 9) (k := 4) rfl sh1 ?_
  refine g_putI (x := (tI (uI τ r0 6 x1) r0 4)) rfl (ci := 9) (k := 7) (kd := 0) rfl (by decide) rfl rfl sh1 ?_
  refine g_sk 1 (pc1 := 14) (st1 := [AI 0]) rfl ?_
  refine g_zret rfl rfl (by decide) ?_
  exact k1

set_option maxRecDepth 8192 in
theorem t77_0 {d : Nat} {τ : T2} {Q : RS → T2 → Prop} {x1 : Int} {r0 : Nat} (hd : 1 ≤ d) (sh1 : tS τ r0 = (1, 9, 0)) (k1 : (tI τ r0 8) < x1 → Q (.inl (some (AI 1))) (uI τ r0 8 (wr ((tI τ r0 8) + 1)))) (k2 : x1 ≤ (tI τ r0 8) → G (d - 1) 76 0 [vR r0, vI 4] [] τ (KC d 77 10 13 [none, none] [] Q)) : G d 77 0 [vR r0, vI x1] [] τ Q := by
  refine g_sk 1 (pc1 := 1) (st1 := [AR r0]) rfl ?_
  refine g_gI rfl (ci := 9) (k := 8) rfl sh1 ?_
  refine g_sk 1 (pc1 := 5) (st1 := [AI x1, AI (tI τ r0 8)]) rfl ?_
  refine g_br2 rfl (t := 14) rfl (fun c2 => ?_) (fun c2 => ?_)
  · have c2 : (tI τ r0 8) < x1 := of_decide_eq_true c2
    refine g_sk 2 (pc1 := 16) (st1 := [AR r0, AR r0]) rfl ?_
    refine g_gI rfl (ci := 9) (k := 8) rfl sh1 ?_
    refine g_sk 2 (pc1 := 21) (st1 := [AI (wr ((tI τ r0 8) + 1)), AR r0]) rfl ?_
    refine g_putI (x := (wr ((tI τ r0 8) + 1))) rfl (ci := 9) (k := 8) (kd := 0) rfl (by decide) rfl rfl sh1 ?_
    refine g_sk 1 (pc1 := 25) (st1 := [AI 1]) rfl ?_
    refine g_zret rfl rfl (by decide) ?_
    exact (k1 c2)
  · have c2 : x1 ≤ (tI τ r0 8) := Int.not_lt.mp (of_decide_eq_false c2)
    refine g_sk 2 (pc1 := 10) (st1 := [AI 4, AR r0]) rfl ?_
    refine G_fg (lw2_f _ (lw2_f _ lw2_nil)) ?_
    refine g_cv rfl rfl (by decide) rfl rfl (Nat.le_of_ble_eq_true rfl) (as2 := [AI 4]) rfl sh1 rfl (by omega) (L0 := [vR r0, vI 4]) rfl ?_
    exact (k2 c2)

set_option maxRecDepth 8192 in
theorem t77_13 {d : Nat} {τ : T2} {Q : RS → T2 → Prop} {y0 : Int} (p1 : y0 = 0 ∨ y0 = 1) (k1 : Q (.inl (some (AI y0))) τ) : G d 77 13 [none, none] [AI y0] τ Q := by
  refine g_zret rfl rfl p1 ?_
  exact k1

set_option maxRecDepth 8192 in
theorem t78_0 {d : Nat} {τ : T2} {Q : RS → T2 → Prop} {x1 x2 x3 : Int} {r0 q2 n4 : Nat} (sh1 : tS τ r0 = (1, 9, 0)) (p3 : tP τ r0 9 = some q2) (sh5 : tS τ q2 = (2, 0, n4)) (b7 : (wr ((tI τ r0 10) + 3)) ≤ (n4 : Int) → (0 : Int) ≤ (tI τ r0 10) ∧ (tI τ r0 10) < (n4 : Int)) (b8 : (wr ((tI τ r0 10) + 3)) ≤ (n4 : Int) → (0 : Int) ≤ (wr ((tI τ r0 10) + 1)) ∧ (wr ((tI τ r0 10) + 1)) < (n4 : Int)) (b9 : (wr ((tI τ r0 10) + 3)) ≤ (n4 : Int) → (0 : Int) ≤ (wr ((tI τ r0 10) + 2)) ∧ (wr ((tI τ r0 10) + 2)) < (n4 : Int)) (k1 : (wr ((tI τ r0 10) + 3)) ≤ (n4 : Int) → ∀ τ10, (uI (uI (uI (uI τ q2 (tI τ r0 10).toNat x1) q2 (wr ((tI τ r0 10) + 1)).toNat x2) q2 (wr ((tI τ r0 10) + 2)).toNat x3) r0 10 (wr ((tI (uI (uI (uI τ q2 (tI τ r0 10).toNat x1) q2 (wr ((tI τ r0 10) + 1)).toNat x2) q2 (wr ((tI τ r0 10) + 2)).toNat x3) r0 10) + 3))) = τ10 → Q (.inl (some (AI (tI τ r0 10)))) τ10) (k2 : (n4 : Int) < (wr ((tI τ r0 10) + 3)) → Q (.inl (some (AI (-1)))) τ) : G d 78 0 [vR r0, vI x1, vI x2, vI x3, none] [] τ Q := by
  refine g_sk 1 (pc1 := 1) (st1 := [AR r0]) rfl ?_
  refine g_gI rfl (ci := 9) (k := 10) rfl sh1 ?_
  refine g_sk 3 (pc1 := 7) (st1 := [AR r0, AI (wr ((tI τ r0 10) + 3))]) rfl ?_
  refine g_gQ rfl (ci := 9) (k := 9) rfl sh1 p3 ?_
  refine g_al2 rfl sh5 ?_
  refine g_br2 rfl (t := 16) rfl (fun c6 => ?_) (fun c6 => ?_)
  · have c6 : (wr ((tI τ r0 10) + 3)) ≤ (n4 : Int) := of_decide_eq_true c6
    refine g_sk 1 (pc1 := 17) (st1 := [AR r0]) rfl ?_
    refine g_gI rfl (ci := 9) (k := 10) rfl sh1 ?_
    refine g_sx 2 (pc1 := 23) (L1 := [vR r0, vI x1, vI x2, vI x3, vI (tI τ r0 10)]) (st1 := [AR r0]) rfl ?_
    refine g_gQ rfl (ci := 9) (k := 9) rfl sh1 p3 ?_
    refine g_sk 2 (pc1 := 29) (st1 := [AI x1, AI (tI τ r0 10), AR q2]) rfl ?_
    refine g_iast rfl sh5 (b7 c6).1 (b7 c6).2 ?_
    refine g_sk 1 (pc1 := 31) (st1 := [AR r0]) rfl ?_
    refine g_gQ rfl (ci := 9) (k := 9) rfl sh1 p3 ?_
    refine g_sk 4 (pc1 := 39) (st1 := [AI x2, AI (wr ((tI τ r0 10) + 1)), AR q2]) rfl ?_
    refine g_iast rfl sh5 (b8 c6).1 (b8 c6).2 ?_
    refine g_sk 1 (pc1 := 41) (st1 := [AR r0]) rfl ?_
    refine g_gQ rfl (ci := 9) (k := 9) rfl sh1 p3 ?_
    refine g_sk 4 (pc1 := 49) (st1 := [AI x3, AI (wr ((tI τ r0 10) + 2)), AR q2]) rfl ?_
    refine g_iast rfl sh5 (b9 c6).1 (b9 c6).2 ?_
    refine g_sk 2 (pc1 := 52) (st1 := [AR r0, AR r0]) rfl ?_
    refine g_gI rfl (ci := 9) (k := 10) rfl sh1 ?_
    refine g_sk 2 (pc1 := 57) (st1 := [AI (wr ((tI (uI (uI (uI τ q2 (tI τ r0 10).toNat x1) q2 (wr ((tI τ r0 10) + 1)).toNat x2) q2 (wr ((tI τ r0 10) + 2)).toNat x3) r0 10) + 3)), AR r0]) rfl ?_
    refine g_putI (x := (wr ((tI (uI (uI (uI τ q2 (tI τ r0 10).toNat x1) q2 (wr ((tI τ r0 10) + 1)).toNat x2) q2 (wr ((tI τ r0 10) + 2)).toNat x3) r0 10) + 3))) rfl (ci := 9) (k := 10) (kd := 0) rfl (by decide) rfl rfl sh1 ?_
    generalize e11 : (uI (uI (uI (uI τ q2 (tI τ r0 10).toNat x1) q2 (wr ((tI τ r0 10) + 1)).toNat x2) q2 (wr ((tI τ r0 10) + 2)).toNat x3) r0 10 (wr ((tI (uI (uI (uI τ q2 (tI τ r0 10).toNat x1) q2 (wr ((tI τ r0 10) + 1)).toNat x2) q2 (wr ((tI τ r0 10) + 2)).toNat x3) r0 10) + 3))) = τ10
    refine g_sk 1 (pc1 := 62) (st1 := [AI (tI τ r0 10)]) rfl ?_
    refine g_iret rfl rfl ?_
    exact (k1 c6 τ10 e11)
  · have c6 : (n4 : Int) < (wr ((tI τ r0 10) + 3)) := Int.not_le.mp (of_decide_eq_false c6)
    refine g_sk 1 (pc1 := 15) (st1 := [AI (-1)]) rfl ?_
    refine g_iret rfl rfl ?_
    exact (k2 c6)

set_option maxRecDepth 8192 in
theorem t79_0 {d : Nat} {τ : T2} {Q : RS → T2 → Prop} {x1 x2 : Int} {r0 q4 n6 : Nat} (sh2 : tS τ r0 = (1, 9, 0)) (p5 : tP τ r0 9 = some q4) (sh7 : tS τ q4 = (2, 0, n6)) (b8 : 0 ≤ x1 → (wr (x1 + 1)) < (tI τ r0 10) → (0 : Int) ≤ (wr (x1 + 1)) ∧ (wr (x1 + 1)) < (n6 : Int)) (k1 : x1 < 0 → Q (.inl none) τ) (k2 : 0 ≤ x1 → (tI τ r0 10) ≤ (wr (x1 + 1)) → Q (.inl none) τ) (k3 : 0 ≤ x1 → (wr (x1 + 1)) < (tI τ r0 10) → Q (.inl none) (uI τ q4 (wr (x1 + 1)).toNat x2)) : G d 79 0 [vR r0, vI x1, vI x2] [] τ Q := by
  refine g_sk 1 (pc1 := 1) (st1 := [AI x1]) rfl ?_
  refine g_br1 rfl (t := 23) rfl (fun c1 => ?_) (fun c1 => ?_)
  · have c1 : x1 < 0 := of_decide_eq_true c1
    refine g_vret rfl rfl ?_
    exact (k1 c1)
  · have c1 : 0 ≤ x1 := Int.not_lt.mp (of_decide_eq_false c1)
    refine g_sk 4 (pc1 := 8) (st1 := [AR r0, AI (wr (x1 + 1))]) rfl ?_
    refine g_gI rfl (ci := 9) (k := 10) rfl sh2 ?_
    refine g_br2 rfl (t := 23) rfl (fun c3 => ?_) (fun c3 => ?_)
    · have c3 : (tI τ r0 10) ≤ (wr (x1 + 1)) := of_decide_eq_true c3
      refine g_vret rfl rfl ?_
      exact (k2 c1 c3)
    · have c3 : (wr (x1 + 1)) < (tI τ r0 10) := Int.not_le.mp (of_decide_eq_false c3)
      refine g_sk 1 (pc1 := 15) (st1 := [AR r0]) rfl ?_
      refine g_gQ rfl (ci := 9) (k := 9) rfl sh2 p5 ?_
      refine g_sk 4 (pc1 := 22) (st1 := [AI x2, AI (wr (x1 + 1)), AR q4]) rfl ?_
      refine g_iast rfl sh7 (b8 c1 c3).1 (b8 c1 c3).2 ?_
      refine g_vret rfl rfl ?_
      exact (k3 c1 c3)

set_option maxRecDepth 8192 in
theorem t80_0 {d : Nat} {τ : T2} {Q : RS → T2 → Prop} {x1 : Int} {r0 : Nat} (k1 : G d 80 6 [vR r0, none, vI x1, vI 400, none] [] τ Q) : G d 80 0 [vR r0, vI x1, none, none, none] [] τ Q := by
  refine g_sx 4 (pc1 := 6) (L1 := [vR r0, vI x1, vI x1, vI 400, none]) (st1 := []) rfl ?_
  exact G_fg (lw2_k _ (lw2_f _ (lw2_k _ (lw2_k _ (lw2_k _ lw2_nil))))) k1

set_option maxRecDepth 8192 in
theorem t80_6 {d : Nat} {τ : T2} {Q : RS → T2 → Prop} {x2 x3 : Int} {r0 q5 n7 : Nat} (sh3 : tS τ r0 = (1, 9, 0)) (p6 : tP τ r0 9 = some q5) (sh8 : tS τ q5 = (2, 0, n7)) (b9 : 0 < x3 → 0 ≤ x2 → (wr (x2 + 1)) < (tI τ r0 10) → (0 : Int) ≤ (wr (x2 + 1)) ∧ (wr (x2 + 1)) < (n7 : Int)) (k1 : x3 ≤ 0 → Q (.inl none) τ) (k2 : 0 < x3 → x2 < 0 → Q (.inl none) τ) (k3 : 0 < x3 → 0 ≤ x2 → (tI τ r0 10) ≤ (wr (x2 + 1)) → Q (.inl none) τ) (k4 : 0 < x3 → 0 ≤ x2 → (wr (x2 + 1)) < (tI τ r0 10) → G d 80 6 [vR r0, none, vI (tI τ q5 (wr (x2 + 1)).toNat), vI (wr (x3 + (-1))), none] [] (uI τ q5 (wr (x2 + 1)).toNat (tI τ r0 10)) Q) : G d 80 6 [vR r0, none, vI x2, vI x3, none] [] τ Q := by
  refine g_sk 1 (pc1 := 7) (st1 := [AI x3]) rfl ?_
  refine g_br1 rfl (t := 55) rfl (fun c1 => ?_) (fun c1 => ?_)
  · have c1 : x3 ≤ 0 := of_decide_eq_true c1
    refine g_vret rfl rfl ?_
    exact (k1 c1)
  · have c1 : 0 < x3 := Int.not_le.mp (of_decide_eq_false c1)
    refine g_sk 1 (pc1 := 11) (st1 := [AI x2]) rfl ?_
    refine g_br1 rfl (t := 55) rfl (fun c2 => ?_) (fun c2 => ?_)
    · have c2 : x2 < 0 := of_decide_eq_true c2
      refine g_vret rfl rfl ?_
      exact (k2 c1 c2)
    · have c2 : 0 ≤ x2 := Int.not_lt.mp (of_decide_eq_false c2)
      refine g_sk 4 (pc1 := 18) (st1 := [AR r0, AI (wr (x2 + 1))]) rfl ?_
      refine g_gI rfl (ci := 9) (k := 10) rfl sh3 ?_
      refine g_br2 rfl (t := 55) rfl (fun c4 => ?_) (fun c4 => ?_)
      · have c4 : (tI τ r0 10) ≤ (wr (x2 + 1)) := of_decide_eq_true c4
        refine g_vret rfl rfl ?_
        exact (k3 c1 c2 c4)
      · have c4 : (wr (x2 + 1)) < (tI τ r0 10) := Int.not_le.mp (of_decide_eq_false c4)
        refine g_sk 1 (pc1 := 25) (st1 := [AR r0]) rfl ?_
        refine g_gQ rfl (ci := 9) (k := 9) rfl sh3 p6 ?_
        refine g_sk 3 (pc1 := 31) (st1 := [AI (wr (x2 + 1)), AR q5]) rfl ?_
        refine g_iald rfl sh8 (by decide) (b9 c1 c2 c4).1 (b9 c1 c2 c4).2 ?_
        refine g_sx 2 (pc1 := 35) (L1 := [vR r0, none, vI x2, vI x3, vI (tI τ q5 (wr (x2 + 1)).toNat)]) (st1 := [AR r0]) rfl ?_
        refine g_gQ rfl (ci := 9) (k := 9) rfl sh3 p6 ?_
        refine g_sk 4 (pc1 := 42) (st1 := [AR r0, AI (wr (x2 + 1)), AR q5]) rfl ?_
        refine g_gI rfl (ci := 9) (k := 10) rfl sh3 ?_
        refine g_iast rfl sh8 (b9 c1 c2 c4).1 (b9 c1 c2 c4).2 ?_
        refine g_sx 4 (pc1 := 6) (L1 := [vR r0, none, vI (tI τ q5 (wr (x2 + 1)).toNat), vI (wr (x3 + (-1))), vI (tI τ q5 (wr (x2 + 1)).toNat)]) (st1 := []) rfl ?_
        exact G_fg (lw2_k _ (lw2_k _ (lw2_k _ (lw2_k _ (lw2_f _ lw2_nil))))) (k4 c1 c2 c4)

set_option maxRecDepth 8192 in
theorem t81_0 {d : Nat} {τ : T2} {Q : RS → T2 → Prop} {r0 : Nat} (k1 : G d 81 3 [vR r0] [AR (tN τ)] (nC τ (1, 3, 0) 2) Q) : G d 81 0 [vR r0] [] τ Q := by
  refine g_new rfl (ci := 3) rfl (by decide) (by decide) ?_
  exact k1

set_option maxRecDepth 8192 in
theorem t81_3 {d : Nat} {τ : T2} {Q : RS → T2 → Prop} {r0 : Nat} {s0 : Option Nat} (hd : 1 ≤ d) (sh1 : tS τ r0 = (1, 9, 0)) (k1 : G (d - 1) 264 0 [vQ (tP τ r0 9), vI (tI τ r0 10), none] [] τ (KC d 81 12 15 [vR r0] [AP s0, AP s0] Q)) : G d 81 3 [vR r0] [AP s0] τ Q := by
  refine g_sk 2 (pc1 := 5) (st1 := [AR r0, AP s0, AP s0]) rfl ?_
  refine g_gP rfl (ci := 9) (k := 9) rfl sh1 ?_
  refine g_sk 1 (pc1 := 9) (st1 := [AR r0, AP (tP τ r0 9), AP s0, AP s0]) rfl ?_
  refine g_gI rfl (ci := 9) (k := 10) rfl sh1 ?_
  refine g_cs rfl rfl (by decide) rfl rfl (Nat.le_of_ble_eq_true rfl) rfl (by omega) (L0 := [vQ (tP τ r0 9), vI (tI τ r0 10), none]) rfl ?_
  exact k1

set_option maxRecDepth 8192 in
theorem t81_15 {d : Nat} {τ : T2} {Q : RS → T2 → Prop} {r0 : Nat} {s0 s1 s2 : Option Nat} (hd : 1 ≤ d) (sh1 : tS τ r0 = (1, 9, 0)) (k1 : G (d - 1) 263 0 [vQ (tP τ r0 0), vI (tI τ r0 1), none] [] τ (KC d 81 23 26 [none] [AP s0, AP s1, AP s2] Q)) : G d 81 15 [vR r0] [AP s0, AP s1, AP s2] τ Q := by
  refine g_sk 1 (pc1 := 16) (st1 := [AR r0, AP s0, AP s1, AP s2]) rfl ?_
  refine g_gP rfl (ci := 9) (k := 0) rfl sh1 ?_
  refine g_sk 1 (pc1 := 20) (st1 := [AR r0, AP (tP τ r0 0), AP s0, AP s1, AP s2]) rfl ?_
  refine g_gI rfl (ci := 9) (k := 1) rfl sh1 ?_
  refine G_fg (lw2_f _ lw2_nil) ?_
  refine g_cs rfl rfl (by decide) rfl rfl (Nat.le_of_ble_eq_true rfl) rfl (by omega) (L0 := [vQ (tP τ r0 0), vI (tI τ r0 1), none]) rfl ?_
  exact k1

set_option maxRecDepth 8192 in
theorem t81_26 {d : Nat} {τ : T2} {Q : RS → T2 → Prop} {s2 : Nat} {s0 s1 s3 : Option Nat} (hd : 1 ≤ d) (k1 : G (d - 1) 4 0 [vR s2, vQ s1, vQ s0] [] τ (KC d 81 26 29 [none] [AP s3] Q)) : G d 81 26 [none] [AP s0, AP s1, AR s2, AP s3] τ Q := by
  refine g_ci rfl rfl (by decide) rfl rfl (Nat.le_of_ble_eq_true rfl) (as2 := [AP s1, AP s0]) rfl rfl (by omega) (L0 := [vR s2, vQ s1, vQ s0]) rfl ?_
  exact k1

set_option maxRecDepth 8192 in
theorem t81_29 {d : Nat} {τ : T2} {Q : RS → T2 → Prop} {s0 : Option Nat} (k1 : Q (.inl (some (AP s0))) τ) : G d 81 29 [none] [AP s0] τ Q := by
  refine g_aret rfl rfl ?_
  exact k1

set_option maxRecDepth 8192 in
theorem t82_0 {d : Nat} {τ : T2} {Q : RS → T2 → Prop} {r0 : Nat} (hd : 17 ≤ d) (k1 : G d 82 10 [vR r0] [AR (tN τ), AR r0] (nC τ (2, 0, 1000) 1000) Q) : G d 82 0 [vR r0] [] τ Q := by
  refine g_sk 1 (pc1 := 1) (st1 := [AR r0]) rfl ?_
  refine g_oin (na := 1) rfl rfl rfl hd ?_
  refine g_sk 2 (pc1 := 8) (st1 := [AI 1000, AR r0]) rfl ?_
  refine g_newa rfl rfl (by decide) (by decide) ?_
  exact k1

set_option maxRecDepth 8192 in
theorem t82_10 {d : Nat} {τ : T2} {Q : RS → T2 → Prop} {r0 s1 : Nat} {s0 : Option Nat} (sh1 : tS τ s1 = (1, 10, 0)) (k1 : G d 82 19 [vR r0] [AR (tN (uP τ s1 0 s0)), AR r0] (nC (uP τ s1 0 s0) (2, 0, 1000) 1000) Q) : G d 82 10 [vR r0] [AP s0, AR s1] τ Q := by
  refine g_putP rfl (ci := 10) (k := 0) rfl sh1 ?_
  refine g_sk 2 (pc1 := 17) (st1 := [AI 1000, AR r0]) rfl ?_
  refine g_newa rfl rfl (by decide) (by decide) ?_
  exact k1

set_option maxRecDepth 8192 in
theorem t82_19 {d : Nat} {τ : T2} {Q : RS → T2 → Prop} {r0 s1 : Nat} {s0 : Option Nat} (sh1 : tS τ s1 = (1, 10, 0)) (k1 : G d 82 28 [vR r0] [AR (tN (uP τ s1 1 s0)), AR r0] (nC (uP τ s1 1 s0) (2, 2, 1000) 1000) Q) : G d 82 19 [vR r0] [AP s0, AR s1] τ Q := by
  refine g_putP rfl (ci := 10) (k := 1) rfl sh1 ?_
  refine g_sk 2 (pc1 := 26) (st1 := [AI 1000, AR r0]) rfl ?_
  refine g_newa rfl rfl (by decide) (by decide) ?_
  exact k1

set_option maxRecDepth 8192 in
theorem t82_28 {d : Nat} {τ : T2} {Q : RS → T2 → Prop} {r0 s1 : Nat} {s0 : Option Nat} (sh1 : tS τ s1 = (1, 10, 0)) (k1 : G d 82 37 [vR r0] [AR (tN (uP τ s1 2 s0)), AR r0] (nC (uP τ s1 2 s0) (2, 0, 2048) 2048) Q) : G d 82 28 [vR r0] [AP s0, AR s1] τ Q := by
  refine g_putP rfl (ci := 10) (k := 2) rfl sh1 ?_
  refine g_sk 2 (pc1 := 35) (st1 := [AI 2048, AR r0]) rfl ?_
  refine g_newa rfl rfl (by decide) (by decide) ?_
  exact k1

set_option maxRecDepth 8192 in
theorem t82_37 {d : Nat} {τ : T2} {Q : RS → T2 → Prop} {r0 s1 : Nat} {s0 : Option Nat} (sh1 : tS τ s1 = (1, 10, 0)) (sh2 : tS τ r0 = (1, 10, 0)) (k1 : Q (.inl none) (uI (uP τ s1 3 s0) r0 4 0)) : G d 82 37 [vR r0] [AP s0, AR s1] τ Q := by
  refine g_putP rfl (ci := 10) (k := 3) rfl sh1 ?_
  refine g_sk 2 (pc1 := 42) (st1 := [AI 0, AR r0]) rfl ?_
  refine g_putI (x := 0) rfl (ci := 10) (k := 4) (kd := 0) rfl (by decide) rfl rfl sh2 ?_
  refine g_vret rfl rfl ?_
  exact k1

set_option maxRecDepth 8192 in
theorem t83_0 {d : Nat} {τ : T2} {Q : RS → T2 → Prop} {x2 x4 : Int} {r0 : Nat} {r1 r3 : Option Nat} (hd : 1 ≤ d) (sh1 : tS τ r0 = (1, 10, 0)) (k1 : G (d - 1) 261 0 [vQ (tP τ r0 3), vI 0, none, none] [] τ (KC d 83 5 8 [vR r0, vQ r1, vI x2, vQ r3, vI x4, none, none] [] Q)) : G d 83 0 [vR r0, vQ r1, vI x2, vQ r3, vI x4, none, none] [] τ Q := by
  refine g_sk 1 (pc1 := 1) (st1 := [AR r0]) rfl ?_
  refine g_gP rfl (ci := 10) (k := 3) rfl sh1 ?_
  refine g_sk 1 (pc1 := 5) (st1 := [AI 0, AP (tP τ r0 3)]) rfl ?_
  refine g_cs rfl rfl (by decide) rfl rfl (Nat.le_of_ble_eq_true rfl) rfl (by omega) (L0 := [vQ (tP τ r0 3), vI 0, none, none]) rfl ?_
  exact k1

set_option maxRecDepth 8192 in
theorem t83_8 {d : Nat} {τ : T2} {Q : RS → T2 → Prop} {x2 x4 : Int} {r0 : Nat} {r1 r3 : Option Nat} (hd : 1 ≤ d) (sh1 : tS τ r0 = (1, 10, 0)) (k1 : G (d - 1) 84 0 [vR r0, vI 0, none] [] (uI τ r0 4 0) (KC d 83 15 18 [vR r0, vQ r1, vI x2, vQ r3, vI x4, none, none] [] Q)) : G d 83 8 [vR r0, vQ r1, vI x2, vQ r3, vI x4, none, none] [] τ Q := by
  refine g_sk 2 (pc1 := 10) (st1 := [AI 0, AR r0]) rfl ?_
  refine g_putI (x := 0) rfl (ci := 10) (k := 4) (kd := 0) rfl (by decide) rfl rfl sh1 ?_
  refine g_sk 2 (pc1 := 15) (st1 := [AI 0, AR r0]) rfl ?_
  refine g_cv rfl rfl (by decide) rfl rfl (Nat.le_of_ble_eq_true rfl) (as2 := [AI 0]) rfl sh1 rfl (by omega) (L0 := [vR r0, vI 0, none]) rfl ?_
  exact k1

set_option maxRecDepth 8192 in
theorem t83_18 {d : Nat} {τ : T2} {Q : RS → T2 → Prop} {x2 x4 y0 : Int} {r0 : Nat} {r1 r3 : Option Nat} (k1 : G d 83 22 [vR r0, vQ r1, vI x2, vQ r3, vI x4, vI 0, none] [] τ Q) : G d 83 18 [vR r0, vQ r1, vI x2, vQ r3, vI x4, none, none] [AI y0] τ Q := by
  refine g_sx 3 (pc1 := 22) (L1 := [vR r0, vQ r1, vI x2, vQ r3, vI x4, vI 0, none]) (st1 := []) rfl ?_
  exact k1

set_option maxRecDepth 8192 in
theorem t83_22 {d : Nat} {τ : T2} {Q : RS → T2 → Prop} {x2 x4 x5 : Int} {r0 q4 n6 : Nat} {r1 r3 : Option Nat} (sh1 : tS τ r0 = (1, 10, 0)) (p5 : tP τ r0 1 = some q4) (sh7 : tS τ q4 = (2, 0, n6)) (b8 : x5 < (tI τ r0 4) → x5 < 1000 → (0 : Int) ≤ x5 ∧ x5 < (n6 : Int)) (k1 : (tI τ r0 4) ≤ x5 → Q (.inl (some (AI 1))) τ) (k2 : x5 < (tI τ r0 4) → 1000 ≤ x5 → Q (.inl (some (AI 1))) τ) (k3 : x5 < (tI τ r0 4) → x5 < 1000 → G d 83 50 [vR r0, vQ r1, vI x2, vQ r3, vI x4, vI x5, vI 0] [] (uI τ q4 x5.toNat 0) Q) : G d 83 22 [vR r0, vQ r1, vI x2, vQ r3, vI x4, vI x5, none] [] τ Q := by
  refine g_sk 2 (pc1 := 25) (st1 := [AR r0, AI x5]) rfl ?_
  refine g_gI rfl (ci := 10) (k := 4) rfl sh1 ?_
  refine g_br2 rfl (t := 130) rfl (fun c2 => ?_) (fun c2 => ?_)
  · have c2 : (tI τ r0 4) ≤ x5 := of_decide_eq_true c2
    refine g_sk 1 (pc1 := 131) (st1 := [AI 1]) rfl ?_
    refine g_zret rfl rfl (by decide) ?_
    exact (k1 c2)
  · have c2 : x5 < (tI τ r0 4) := Int.not_le.mp (of_decide_eq_false c2)
    refine g_sk 2 (pc1 := 36) (st1 := [AI 1000, AI x5]) rfl ?_
    refine g_br2 rfl (t := 130) rfl (fun c3 => ?_) (fun c3 => ?_)
    · have c3 : 1000 ≤ x5 := of_decide_eq_true c3
      refine g_sk 1 (pc1 := 131) (st1 := [AI 1]) rfl ?_
      refine g_zret rfl rfl (by decide) ?_
      exact (k2 c2 c3)
    · have c3 : x5 < 1000 := Int.not_le.mp (of_decide_eq_false c3)
      refine g_sk 1 (pc1 := 40) (st1 := [AR r0]) rfl ?_
      refine g_gQ rfl (ci := 10) (k := 1) rfl sh1 p5 ?_
      refine g_sk 2 (pc1 := 46) (st1 := [AI 0, AI x5, AR q4]) rfl ?_
      refine g_iast rfl sh7 (b8 c2 c3).1 (b8 c2 c3).2 ?_
      refine g_sx 2 (pc1 := 50) (L1 := [vR r0, vQ r1, vI x2, vQ r3, vI x4, vI x5, vI 0]) (st1 := []) rfl ?_
      exact (k3 c2 c3)

set_option maxRecDepth 8192 in
theorem t83_50 {d : Nat} {τ : T2} {Q : RS → T2 → Prop} {x2 x4 x5 x6 : Int} {r0 r1 n2 q6 q9 n11 : Nat} {r3 : Option Nat} (hd : 1 ≤ d) (sh3 : tS τ r1 = (3, 4, n2)) (b5 : x6 < x2 → x6 < (n2 : Int) → (0 : Int) ≤ x6 ∧ x6 < (n2 : Int)) (p7 : x6 < x2 → x6 < (n2 : Int) → tP τ r1 x6.toNat = some q6) (sh8 : tS τ r0 = (1, 10, 0)) (p10 : tP τ r0 0 = some q9) (sh12 : tS τ q9 = (2, 0, n11)) (b13 : x6 < x2 → x6 < (n2 : Int) → (0 : Int) ≤ x5 ∧ x5 < (n11 : Int)) (sh14 : tS τ q6 = (1, 6, 0)) (k1 : x2 ≤ x6 → G d 83 22 [vR r0, vR r1, vI x2, vQ r3, vI x4, vI (wr (x5 + 1)), none] [] τ Q) (k2 : x6 < x2 → (n2 : Int) ≤ x6 → G d 83 22 [vR r0, vR r1, vI x2, vQ r3, vI x4, vI (wr (x5 + 1)), none] [] τ Q) (k3 : x6 < x2 → x6 < (n2 : Int) → G (d - 1) 33 0 [vR q6, vI (tI τ q9 x5.toNat), vI x4, vQ r3] [] τ (KC d 83 77 80 [vR r0, vR r1, vI x2, vQ r3, vI x4, vI x5, vI x6] [] Q)) : G d 83 50 [vR r0, vR r1, vI x2, vQ r3, vI x4, vI x5, vI x6] [] τ Q := by
  refine g_sk 2 (pc1 := 53) (st1 := [AI x2, AI x6]) rfl ?_
  refine g_br2 rfl (t := 124) rfl (fun c1 => ?_) (fun c1 => ?_)
  · have c1 : x2 ≤ x6 := of_decide_eq_true c1
    refine g_sx 2 (pc1 := 22) (L1 := [vR r0, vR r1, vI x2, vQ r3, vI x4, vI (wr (x5 + 1)), vI x6]) (st1 := []) rfl ?_
    exact G_fg (lw2_k _ (lw2_k _ (lw2_k _ (lw2_k _ (lw2_k _ (lw2_k _ (lw2_f _ lw2_nil))))))) (k1 c1)
  · have c1 : x6 < x2 := Int.not_le.mp (of_decide_eq_false c1)
    refine g_sk 2 (pc1 := 59) (st1 := [AR r1, AI x6]) rfl ?_
    refine g_al3 rfl sh3 ?_
    refine g_br2 rfl (t := 124) rfl (fun c4 => ?_) (fun c4 => ?_)
    · have c4 : (n2 : Int) ≤ x6 := of_decide_eq_true c4
      refine g_sx 2 (pc1 := 22) (L1 := [vR r0, vR r1, vI x2, vQ r3, vI x4, vI (wr (x5 + 1)), vI x6]) (st1 := []) rfl ?_
      exact G_fg (lw2_k _ (lw2_k _ (lw2_k _ (lw2_k _ (lw2_k _ (lw2_k _ (lw2_f _ lw2_nil))))))) (k2 c1 c4)
    · have c4 : x6 < (n2 : Int) := Int.not_le.mp (of_decide_eq_false c4)
      refine g_sk 2 (pc1 := 66) (st1 := [AI x6, AR r1]) rfl ?_
      refine g_aalQ rfl sh3 (by decide) (b5 c1 c4).1 (b5 c1 c4).2 (p7 c1 c4) ?_
      refine g_sk 1 (pc1 := 68) (st1 := [AR r0, AR q6]) rfl ?_
      refine g_gQ rfl (ci := 10) (k := 0) rfl sh8 p10 ?_
      refine g_sk 1 (pc1 := 73) (st1 := [AI x5, AR q9, AR q6]) rfl ?_
      refine g_iald rfl sh12 (by decide) (b13 c1 c4).1 (b13 c1 c4).2 ?_
      refine g_sk 2 (pc1 := 77) (st1 := [AP r3, AI x4, AI (tI τ q9 x5.toNat), AR q6]) rfl ?_
      refine g_cv rfl rfl (by decide) rfl rfl (Nat.le_of_ble_eq_true rfl) (as2 := [AI (tI τ q9 x5.toNat), AI x4, AP r3]) rfl sh14 rfl (by omega) (L0 := [vR q6, vI (tI τ q9 x5.toNat), vI x4, vQ r3]) rfl ?_
      exact (k3 c1 c4)

set_option maxRecDepth 8192 in
theorem t83_80 {d : Nat} {τ : T2} {Q : RS → T2 → Prop} {x2 x4 x5 x6 y0 : Int} {r0 q3 n5 q8 n10 : Nat} {r1 r3 : Option Nat} (hd : 1 ≤ d) (sh2 : tS τ r0 = (1, 10, 0)) (p4 : tP τ r0 1 = some q3) (sh6 : tS τ q3 = (2, 0, n5)) (b7 : ¬ y0 = 0 → (0 : Int) ≤ x5 ∧ x5 < (n5 : Int)) (p9 : tP τ r0 0 = some q8) (sh11 : tS τ q8 = (2, 0, n10)) (b12 : ¬ y0 = 0 → (0 : Int) ≤ x5 ∧ x5 < (n10 : Int)) (k1 : y0 = 0 → G d 83 50 [vR r0, vQ r1, vI x2, vQ r3, vI x4, vI x5, vI (wr (x6 + 1))] [] τ Q) (k2 : ¬ y0 = 0 → G (d - 1) 84 0 [vR r0, vI (zor (tI (uI τ q3 x5.toNat (zor (tI τ q3 x5.toNat) (zshl 1 x6))) q8 x5.toNat) (zshl 1 x6)), none] [] (uI τ q3 x5.toNat (zor (tI τ q3 x5.toNat) (zshl 1 x6))) (KC d 83 110 113 [vR r0, vQ r1, vI x2, vQ r3, vI x4, vI x5, vI x6] [] Q)) : G d 83 80 [vR r0, vQ r1, vI x2, vQ r3, vI x4, vI x5, vI x6] [AI y0] τ Q := by
  refine g_br1 rfl (t := 118) rfl (fun c1 => ?_) (fun c1 => ?_)
  · have c1 : y0 = 0 := of_decide_eq_true c1
    refine g_sx 2 (pc1 := 50) (L1 := [vR r0, vQ r1, vI x2, vQ r3, vI x4, vI x5, vI (wr (x6 + 1))]) (st1 := []) rfl ?_
    exact (k1 c1)
  · have c1 : ¬ y0 = 0 := of_decide_eq_false c1
    refine g_sk 1 (pc1 := 84) (st1 := [AR r0]) rfl ?_
    refine g_gQ rfl (ci := 10) (k := 1) rfl sh2 p4 ?_
    refine g_sk 2 (pc1 := 90) (st1 := [AI x5, AR q3, AI x5, AR q3]) rfl ?_
    refine g_iald rfl sh6 (by decide) (b7 c1).1 (b7 c1).2 ?_
    refine g_sk 4 (pc1 := 96) (st1 := [AI (zor (tI τ q3 x5.toNat) (zshl 1 x6)), AI x5, AR q3]) rfl ?_
    refine g_iast rfl sh6 (b7 c1).1 (b7 c1).2 ?_
    refine g_sk 2 (pc1 := 99) (st1 := [AR r0, AR r0]) rfl ?_
    refine g_gQ rfl (ci := 10) (k := 0) rfl sh2 p9 ?_
    refine g_sk 1 (pc1 := 104) (st1 := [AI x5, AR q8, AR r0]) rfl ?_
    refine g_iald rfl sh11 (by decide) (b12 c1).1 (b12 c1).2 ?_
    refine g_sk 4 (pc1 := 110) (st1 := [AI (zor (tI (uI τ q3 x5.toNat (zor (tI τ q3 x5.toNat) (zshl 1 x6))) q8 x5.toNat) (zshl 1 x6)), AR r0]) rfl ?_
    refine g_cv rfl rfl (by decide) rfl rfl (Nat.le_of_ble_eq_true rfl) (as2 := [AI (zor (tI (uI τ q3 x5.toNat (zor (tI τ q3 x5.toNat) (zshl 1 x6))) q8 x5.toNat) (zshl 1 x6))]) rfl sh2 rfl (by omega) (L0 := [vR r0, vI (zor (tI (uI τ q3 x5.toNat (zor (tI τ q3 x5.toNat) (zshl 1 x6))) q8 x5.toNat) (zshl 1 x6)), none]) rfl ?_
    exact (k2 c1)

set_option maxRecDepth 8192 in
theorem t83_113 {d : Nat} {τ : T2} {Q : RS → T2 → Prop} {x2 x4 x5 x6 y0 : Int} {r0 : Nat} {r1 r3 : Option Nat} (k1 : ¬ y0 = 0 → G d 83 50 [vR r0, vQ r1, vI x2, vQ r3, vI x4, vI x5, vI (wr (x6 + 1))] [] τ Q) (k2 : y0 = 0 → Q (.inl (some (AI 0))) τ) : G d 83 113 [vR r0, vQ r1, vI x2, vQ r3, vI x4, vI x5, vI x6] [AI y0] τ Q := by
  refine g_br1 rfl (t := 118) rfl (fun c1 => ?_) (fun c1 => ?_)
  · have c1 : ¬ y0 = 0 := of_decide_eq_true c1
    refine g_sx 2 (pc1 := 50) (L1 := [vR r0, vQ r1, vI x2, vQ r3, vI x4, vI x5, vI (wr (x6 + 1))]) (st1 := []) rfl ?_
    exact (k1 c1)
  · have c1 : y0 = 0 := Decidable.of_not_not (of_decide_eq_false c1)
    refine g_sk 1 (pc1 := 117) (st1 := [AI 0]) rfl ?_
    refine g_zret rfl rfl (by decide) ?_
    exact (k2 c1)

set_option maxRecDepth 8192 in
theorem t84_0 {d : Nat} {τ : T2} {Q : RS → T2 → Prop} {x1 : Int} {r0 : Nat} (hd : 1 ≤ d) (sh1 : tS τ r0 = (1, 10, 0)) (k1 : G (d - 1) 85 0 [vR r0, vI x1, none, none] [] τ (KC d 84 2 5 [vR r0, vI x1, none] [] Q)) : G d 84 0 [vR r0, vI x1, none] [] τ Q := by
  refine g_sk 2 (pc1 := 2) (st1 := [AI x1, AR r0]) rfl ?_
  refine g_cv rfl rfl (by decide) rfl rfl (Nat.le_of_ble_eq_true rfl) (as2 := [AI x1]) rfl sh1 rfl (by omega) (L0 := [vR r0, vI x1, none, none]) rfl ?_
  exact k1

set_option maxRecDepth 8192 in
theorem t84_5 {d : Nat} {τ : T2} {Q : RS → T2 → Prop} {x1 y0 : Int} {r0 q2 n4 q9 n11 : Nat} (sh1 : tS τ r0 = (1, 10, 0)) (p3 : tP τ r0 3 = some q2) (sh5 : tS τ q2 = (2, 0, n4)) (b6 : (0 : Int) ≤ y0 ∧ y0 < (n4 : Int)) (p10 : tP τ r0 0 = some q9) (sh12 : tS τ q9 = (2, 0, n11)) (b13 : (tI τ q2 y0.toNat) = 0 → (tI τ r0 4) < 1000 → (0 : Int) ≤ (tI τ r0 4) ∧ (tI τ r0 4) < (n11 : Int)) (k1 : (tI τ q2 y0.toNat) = 0 → (tI τ r0 4) < 1000 → Q (.inl (some (AI 1))) (uI (uI (uI τ q9 (tI τ r0 4).toNat x1) r0 4 (wr ((tI (uI τ q9 (tI τ r0 4).toNat x1) r0 4) + 1))) q2 y0.toNat (tI (uI (uI τ q9 (tI τ r0 4).toNat x1) r0 4 (wr ((tI (uI τ q9 (tI τ r0 4).toNat x1) r0 4) + 1))) r0 4))) (k2 : (tI τ q2 y0.toNat) = 0 → 1000 ≤ (tI τ r0 4) → Q (.inl (some (AI 0))) τ) (k3 : ¬ (tI τ q2 y0.toNat) = 0 → Q (.inl (some (AI 1))) τ) : G d 84 5 [vR r0, vI x1, none] [AI y0] τ Q := by
  refine g_sx 2 (pc1 := 7) (L1 := [vR r0, vI x1, vI y0]) (st1 := [AR r0]) rfl ?_
  refine g_gQ rfl (ci := 10) (k := 3) rfl sh1 p3 ?_
  refine g_sk 1 (pc1 := 11) (st1 := [AI y0, AR q2]) rfl ?_
  refine g_iald rfl sh5 (by decide) b6.1 b6.2 ?_
  refine g_br1 rfl (t := 17) rfl (fun c7 => ?_) (fun c7 => ?_)
  · have c7 : (tI τ q2 y0.toNat) = 0 := of_decide_eq_true c7
    refine g_sk 1 (pc1 := 18) (st1 := [AR r0]) rfl ?_
    refine g_gI rfl (ci := 10) (k := 4) rfl sh1 ?_
    refine g_sk 1 (pc1 := 24) (st1 := [AI 1000, AI (tI τ r0 4)]) rfl ?_
    refine g_br2 rfl (t := 29) rfl (fun c8 => ?_) (fun c8 => ?_)
    · have c8 : (tI τ r0 4) < 1000 := of_decide_eq_true c8
      refine g_sk 1 (pc1 := 30) (st1 := [AR r0]) rfl ?_
      refine g_gQ rfl (ci := 10) (k := 0) rfl sh1 p10 ?_
      refine g_sk 1 (pc1 := 34) (st1 := [AR r0, AR q9]) rfl ?_
      refine g_gI rfl (ci := 10) (k := 4) rfl sh1 ?_
      refine g_sk 1 (pc1 := 38) (st1 := [AI x1, AI (tI τ r0 4), AR q9]) rfl ?_
      refine g_iast rfl sh12 (b13 c7 c8).1 (b13 c7 c8).2 ?_
      refine g_sk 2 (pc1 := 41) (st1 := [AR r0, AR r0]) rfl ?_
      refine g_gI rfl (ci := 10) (k := 4) rfl sh1 ?_
      refine g_sk 2 (pc1 := 46) (st1 := [AI (wr ((tI (uI τ q9 (tI τ r0 4).toNat x1) r0 4) + 1)), AR r0]) rfl ?_
      refine g_putI (x := (wr ((tI (uI τ q9 (tI τ r0 4).toNat x1) r0 4) + 1))) rfl (ci := 10) (k := 4) (kd := 0) rfl (by decide) rfl rfl sh1 ?_
      refine g_sk 1 (pc1 := 50) (st1 := [AR r0]) rfl ?_
      refine g_gQ rfl (ci := 10) (k := 3) rfl sh1 p3 ?_
      refine g_sk 2 (pc1 := 55) (st1 := [AR r0, AI y0, AR q2]) rfl ?_
      refine g_gI rfl (ci := 10) (k := 4) rfl sh1 ?_
      refine g_iast rfl sh5 b6.1 b6.2 ?_
      refine g_sk 1 (pc1 := 60) (st1 := [AI 1]) rfl ?_
      refine g_zret rfl rfl (by decide) ?_
      exact (k1 c7 c8)
    · have c8 : 1000 ≤ (tI τ r0 4) := Int.not_lt.mp (of_decide_eq_false c8)
      refine g_sk 1 (pc1 := 28) (st1 := [AI 0]) rfl ?_
      refine g_zret rfl rfl (by decide) ?_
      exact (k2 c7 c8)
  · have c7 : ¬ (tI τ q2 y0.toNat) = 0 := of_decide_eq_false c7
    refine g_sk 1 (pc1 := 16) (st1 := [AI 1]) rfl ?_
    refine g_zret rfl rfl (by decide) ?_
    exact (k3 c7)

set_option maxRecDepth 8192 in
theorem t85_0 {d : Nat} {τ : T2} {Q : RS → T2 → Prop} {x1 : Int} {r0 : Nat} (k1 : G d 85 12 [vR r0, vI x1, vI (zush (wr (x1 * (-1640531535))) 21), vI 2048] [] τ Q) : G d 85 0 [vR r0, vI x1, none, none] [] τ Q := by
  refine g_sx 8 (pc1 := 12) (L1 := [vR r0, vI x1, vI (zush (wr (x1 * (-1640531535))) 21), vI 2048]) (st1 := []) rfl ?_
  exact k1

set_option maxRecDepth 8192 in
theorem t85_12 {d : Nat} {τ : T2} {Q : RS → T2 → Prop} {x1 x2 x3 : Int} {r0 : Nat} (hd : 1 ≤ d) (sh2 : tS τ r0 = (1, 10, 0)) (k1 : x3 ≤ 0 → Q (.inl (some (AI x2))) τ) (k2 : 0 < x3 → G (d - 1) 86 0 [vR r0, vI x2, vI x1, none] [] τ (KC d 85 19 22 [vR r0, vI x1, vI x2, vI x3] [] Q)) : G d 85 12 [vR r0, vI x1, vI x2, vI x3] [] τ Q := by
  refine g_sk 1 (pc1 := 13) (st1 := [AI x3]) rfl ?_
  refine g_br1 rfl (t := 39) rfl (fun c1 => ?_) (fun c1 => ?_)
  · have c1 : x3 ≤ 0 := of_decide_eq_true c1
    refine g_sk 1 (pc1 := 40) (st1 := [AI x2]) rfl ?_
    refine g_iret rfl rfl ?_
    exact (k1 c1)
  · have c1 : 0 < x3 := Int.not_le.mp (of_decide_eq_false c1)
    refine g_sk 3 (pc1 := 19) (st1 := [AI x1, AI x2, AR r0]) rfl ?_
    refine g_cv rfl rfl (by decide) rfl rfl (Nat.le_of_ble_eq_true rfl) (as2 := [AI x2, AI x1]) rfl sh2 rfl (by omega) (L0 := [vR r0, vI x2, vI x1, none]) rfl ?_
    exact (k2 c1)

set_option maxRecDepth 8192 in
theorem t85_22 {d : Nat} {τ : T2} {Q : RS → T2 → Prop} {x1 x2 x3 y0 : Int} {r0 : Nat} (k1 : y0 = 0 → Q (.inl (some (AI x2))) τ) (k2 : ¬ y0 = 0 → G d 85 12 [vR r0, vI x1, vI (zand (wr (x2 + 1)) 2047), vI (wr (x3 + (-1)))] [] τ Q) : G d 85 22 [vR r0, vI x1, vI x2, vI x3] [AI y0] τ Q := by
  refine g_br1 rfl (t := 39) rfl (fun c1 => ?_) (fun c1 => ?_)
  · have c1 : y0 = 0 := of_decide_eq_true c1
    refine g_sk 1 (pc1 := 40) (st1 := [AI x2]) rfl ?_
    refine g_iret rfl rfl ?_
    exact (k1 c1)
  · have c1 : ¬ y0 = 0 := of_decide_eq_false c1
    refine g_sx 8 (pc1 := 12) (L1 := [vR r0, vI x1, vI (zand (wr (x2 + 1)) 2047), vI (wr (x3 + (-1)))]) (st1 := []) rfl ?_
    exact (k2 c1)

set_option maxRecDepth 8192 in
theorem t86_0 {d : Nat} {τ : T2} {Q : RS → T2 → Prop} {x1 x2 : Int} {r0 q2 n4 q9 n11 : Nat} (sh1 : tS τ r0 = (1, 10, 0)) (p3 : tP τ r0 3 = some q2) (sh5 : tS τ q2 = (2, 0, n4)) (b6 : (0 : Int) ≤ x1 ∧ x1 < (n4 : Int)) (p10 : tP τ r0 0 = some q9) (sh12 : tS τ q9 = (2, 0, n11)) (b13 : 0 ≤ (wr ((tI τ q2 x1.toNat) - 1)) → (wr ((tI τ q2 x1.toNat) - 1)) < 1000 → (0 : Int) ≤ (wr ((tI τ q2 x1.toNat) - 1)) ∧ (wr ((tI τ q2 x1.toNat) - 1)) < (n11 : Int)) (k1 : (wr ((tI τ q2 x1.toNat) - 1)) < 0 → Q (.inl (some (AI 0))) τ) (k2 : 0 ≤ (wr ((tI τ q2 x1.toNat) - 1)) → 1000 ≤ (wr ((tI τ q2 x1.toNat) - 1)) → Q (.inl (some (AI 0))) τ) (k3 : 0 ≤ (wr ((tI τ q2 x1.toNat) - 1)) → (wr ((tI τ q2 x1.toNat) - 1)) < 1000 → (tI τ q9 (wr ((tI τ q2 x1.toNat) - 1)).toNat) = x2 → Q (.inl (some (AI 0))) τ) (k4 : 0 ≤ (wr ((tI τ q2 x1.toNat) - 1)) → (wr ((tI τ q2 x1.toNat) - 1)) < 1000 → ¬ (tI τ q9 (wr ((tI τ q2 x1.toNat) - 1)).toNat) = x2 → Q (.inl (some (AI 1))) τ) : G d 86 0 [vR r0, vI x1, vI x2, none] [] τ Q := by
  refine g_sk 1 (pc1 := 1) (st1 := [AR r0]) rfl ?_
  refine g_gQ rfl (ci := 10) (k := 3) rfl sh1 p3 ?_
  refine g_sk 1 (pc1 := 5) (st1 := [AI x1, AR q2]) rfl ?_
  refine g_iald rfl sh5 (by decide) b6.1 b6.2 ?_
  refine g_sx 4 (pc1 := 10) (L1 := [vR r0, vI x1, vI x2, vI (wr ((tI τ q2 x1.toNat) - 1))]) (st1 := [AI (wr ((tI τ q2 x1.toNat) - 1))]) rfl ?_
  refine g_br1 rfl (t := 34) rfl (fun c7 => ?_) (fun c7 => ?_)
  · have c7 : (wr ((tI τ q2 x1.toNat) - 1)) < 0 := of_decide_eq_true c7
    refine g_sk 1 (pc1 := 35) (st1 := [AI 0]) rfl ?_
    refine g_zret rfl rfl (by decide) ?_
    exact (k1 c7)
  · have c7 : 0 ≤ (wr ((tI τ q2 x1.toNat) - 1)) := Int.not_lt.mp (of_decide_eq_false c7)
    refine g_sk 2 (pc1 := 17) (st1 := [AI 1000, AI (wr ((tI τ q2 x1.toNat) - 1))]) rfl ?_
    refine g_br2 rfl (t := 34) rfl (fun c8 => ?_) (fun c8 => ?_)
    · have c8 : 1000 ≤ (wr ((tI τ q2 x1.toNat) - 1)) := of_decide_eq_true c8
      refine g_sk 1 (pc1 := 35) (st1 := [AI 0]) rfl ?_
      refine g_zret rfl rfl (by decide) ?_
      exact (k2 c7 c8)
    · have c8 : (wr ((tI τ q2 x1.toNat) - 1)) < 1000 := Int.not_le.mp (of_decide_eq_false c8)
      refine g_sk 1 (pc1 := 21) (st1 := [AR r0]) rfl ?_
      refine g_gQ rfl (ci := 10) (k := 0) rfl sh1 p10 ?_
      refine g_sk 1 (pc1 := 25) (st1 := [AI (wr ((tI τ q2 x1.toNat) - 1)), AR q9]) rfl ?_
      refine g_iald rfl sh12 (by decide) (b13 c7 c8).1 (b13 c7 c8).2 ?_
      refine g_sk 1 (pc1 := 27) (st1 := [AI x2, AI (tI τ q9 (wr ((tI τ q2 x1.toNat) - 1)).toNat)]) rfl ?_
      refine g_br2 rfl (t := 34) rfl (fun c14 => ?_) (fun c14 => ?_)
      · have c14 : (tI τ q9 (wr ((tI τ q2 x1.toNat) - 1)).toNat) = x2 := of_decide_eq_true c14
        refine g_sk 1 (pc1 := 35) (st1 := [AI 0]) rfl ?_
        refine g_zret rfl rfl (by decide) ?_
        exact (k3 c7 c8 c14)
      · have c14 : ¬ (tI τ q9 (wr ((tI τ q2 x1.toNat) - 1)).toNat) = x2 := of_decide_eq_false c14
        refine g_sk 2 (pc1 := 35) (st1 := [AI 1]) rfl ?_
        refine g_zret rfl rfl (by decide) ?_
        exact (k4 c7 c8 c14)

set_option maxRecDepth 8192 in
theorem t87_0 {d : Nat} {τ : T2} {Q : RS → T2 → Prop} {x1 : Int} {r0 : Nat} (hd : 17 ≤ d) (sh1 : tS τ r0 = (1, 10, 0)) (k1 : G d 87 16 [vR r0, vI x1, vI (-2), vI (wr ((if 1000 < (tI τ r0 4) then 1000 else (tI τ r0 4)) - 1)), none] [] τ Q) : G d 87 0 [vR r0, vI x1, none, none, none] [] τ Q := by
  refine g_sx 3 (pc1 := 4) (L1 := [vR r0, vI x1, vI (-2), none, none]) (st1 := [AR r0]) rfl ?_
  refine g_gI rfl (ci := 10) (k := 4) rfl sh1 ?_
  refine g_sk 1 (pc1 := 10) (st1 := [AI 1000, AI (tI τ r0 4)]) rfl ?_
  refine g_min rfl rfl rfl hd ?_
  refine g_sx 3 (pc1 := 16) (L1 := [vR r0, vI x1, vI (-2), vI (wr ((if 1000 < (tI τ r0 4) then 1000 else (tI τ r0 4)) - 1)), none]) (st1 := []) rfl ?_
  exact k1

set_option maxRecDepth 8192 in
theorem t87_16 {d : Nat} {τ : T2} {Q : RS → T2 → Prop} {x1 x2 x3 : Int} {r0 q3 n5 q8 n10 q14 n17 : Nat} (hd : 1 ≤ d) (sh2 : tS τ r0 = (1, 10, 0)) (p4 : tP τ r0 1 = some q3) (sh6 : tS τ q3 = (2, 0, n5)) (b7 : 0 ≤ x3 → (0 : Int) ≤ x3 ∧ x3 < (n5 : Int)) (p9 : tP τ r0 0 = some q8) (sh11 : tS τ q8 = (2, 0, n10)) (b12 : 0 ≤ x3 → (0 : Int) ≤ x3 ∧ x3 < (n10 : Int)) (p15 : tP τ r0 2 = some q14) (sh18 : tS τ q14 = (2, 2, n17)) (b19 : 0 ≤ x3 → ¬ (zand (zshr (zor (tI τ q3 x3.toNat) (tI τ q8 x3.toNat)) x1) 1) = 1 → ¬ (0 : Int) = (0 : Int) → (0 : Int) ≤ x3 ∧ x3 < (n17 : Int)) (b22 : 0 ≤ x3 → (zand (zshr (zor (tI τ q3 x3.toNat) (tI τ q8 x3.toNat)) x1) 1) = 1 → ¬ (1 : Int) = (0 : Int) → (0 : Int) ≤ x3 ∧ x3 < (n17 : Int)) (k1 : x3 < 0 → Q (.inl (some (AI x2))) τ) (k2 : 0 ≤ x3 → ¬ (zand (zshr (zor (tI τ q3 x3.toNat) (tI τ q8 x3.toNat)) x1) 1) = 1 → ¬ (0 : Int) = (0 : Int) → ¬ (tI (uI τ q14 x3.toNat 1) q14 x3.toNat) = 0 → G d 87 16 [vR r0, vI x1, vI x2, vI (wr (x3 + (-1))), none] [] (uI τ q14 x3.toNat 1) Q) (k3 : 0 ≤ x3 → ¬ (zand (zshr (zor (tI τ q3 x3.toNat) (tI τ q8 x3.toNat)) x1) 1) = 1 → ¬ (0 : Int) = (0 : Int) → (tI (uI τ q14 x3.toNat 1) q14 x3.toNat) = 0 → G d 87 16 [vR r0, vI x1, vI (tI (uI τ q14 x3.toNat 1) q8 x3.toNat), vI (wr (x3 + (-1))), none] [] (uI τ q14 x3.toNat 1) Q) (k4 : 0 ≤ x3 → ¬ (zand (zshr (zor (tI τ q3 x3.toNat) (tI τ q8 x3.toNat)) x1) 1) = 1 → (0 : Int) = (0 : Int) → G (d - 1) 88 0 [vR r0, vI x3, none, none, none] [] τ (KC d 87 60 63 [vR r0, vI x1, vI x2, vI x3, none] [AI x3, AR q14] Q)) (k5 : 0 ≤ x3 → (zand (zshr (zor (tI τ q3 x3.toNat) (tI τ q8 x3.toNat)) x1) 1) = 1 → ¬ (1 : Int) = (0 : Int) → ¬ (tI (uI τ q14 x3.toNat 1) q14 x3.toNat) = 0 → G d 87 16 [vR r0, vI x1, vI x2, vI (wr (x3 + (-1))), none] [] (uI τ q14 x3.toNat 1) Q) (k6 : 0 ≤ x3 → (zand (zshr (zor (tI τ q3 x3.toNat) (tI τ q8 x3.toNat)) x1) 1) = 1 → ¬ (1 : Int) = (0 : Int) → (tI (uI τ q14 x3.toNat 1) q14 x3.toNat) = 0 → G d 87 16 [vR r0, vI x1, vI (tI (uI τ q14 x3.toNat 1) q8 x3.toNat), vI (wr (x3 + (-1))), none] [] (uI τ q14 x3.toNat 1) Q) (k7 : 0 ≤ x3 → (zand (zshr (zor (tI τ q3 x3.toNat) (tI τ q8 x3.toNat)) x1) 1) = 1 → (1 : Int) = (0 : Int) → G (d - 1) 88 0 [vR r0, vI x3, none, none, none] [] τ (KC d 87 60 63 [vR r0, vI x1, vI x2, vI x3, none] [AI x3, AR q14] Q)) : G d 87 16 [vR r0, vI x1, vI x2, vI x3, none] [] τ Q := by
  refine g_sk 1 (pc1 := 17) (st1 := [AI x3]) rfl ?_
  refine g_br1 rfl (t := 94) rfl (fun c1 => ?_) (fun c1 => ?_)
  · have c1 : x3 < 0 := of_decide_eq_true c1
    refine g_sk 1 (pc1 := 95) (st1 := [AI x2]) rfl ?_
    refine g_iret rfl rfl ?_
    exact (k1 c1)
  · have c1 : 0 ≤ x3 := Int.not_lt.mp (of_decide_eq_false c1)
    refine g_sk 1 (pc1 := 21) (st1 := [AR r0]) rfl ?_
    refine g_gQ rfl (ci := 10) (k := 1) rfl sh2 p4 ?_
    refine g_sk 1 (pc1 := 25) (st1 := [AI x3, AR q3]) rfl ?_
    refine g_iald rfl sh6 (by decide) (b7 c1).1 (b7 c1).2 ?_
    refine g_sk 1 (pc1 := 27) (st1 := [AR r0, AI (tI τ q3 x3.toNat)]) rfl ?_
    refine g_gQ rfl (ci := 10) (k := 0) rfl sh2 p9 ?_
    refine g_sk 1 (pc1 := 31) (st1 := [AI x3, AR q8, AI (tI τ q3 x3.toNat)]) rfl ?_
    refine g_iald rfl sh11 (by decide) (b12 c1).1 (b12 c1).2 ?_
    refine g_sk 6 (pc1 := 38) (st1 := [AI 1, AI (zand (zshr (zor (tI τ q3 x3.toNat) (tI τ q8 x3.toNat)) x1) 1)]) rfl ?_
    refine g_br2 rfl (t := 45) rfl (fun c13 => ?_) (fun c13 => ?_)
    · have c13 : ¬ (zand (zshr (zor (tI τ q3 x3.toNat) (tI τ q8 x3.toNat)) x1) 1) = 1 := of_decide_eq_true c13
      refine g_sx 3 (pc1 := 49) (L1 := [vR r0, vI x1, vI x2, vI x3, vI 0]) (st1 := [AR r0]) rfl ?_
      refine g_gQ rfl (ci := 10) (k := 2) rfl sh2 p15 ?_
      refine g_sk 2 (pc1 := 55) (st1 := [AI 0, AI x3, AR q14]) rfl ?_
      refine g_br1 rfl (t := 66) rfl (fun c16 => ?_) (fun c16 => ?_)
      · have c16 : ¬ (0 : Int) = (0 : Int) := of_decide_eq_true c16
        refine g_sk 2 (pc1 := 71) (st1 := [AI 1, AI x3, AR q14]) rfl ?_
        refine g_zast rfl sh18 (by decide) (b19 c1 c13 c16).1 (b19 c1 c13 c16).2 ?_
        refine g_sk 1 (pc1 := 73) (st1 := [AR r0]) rfl ?_
        refine g_gQ rfl (ci := 10) (k := 2) rfl sh2 p15 ?_
        refine g_sk 1 (pc1 := 77) (st1 := [AI x3, AR q14]) rfl ?_
        refine g_bald rfl sh18 (by decide) (b19 c1 c13 c16).1 (b19 c1 c13 c16).2 ?_
        refine g_br1 rfl (t := 88) rfl (fun c20 => ?_) (fun c20 => ?_)
        · have c20 : ¬ (tI (uI τ q14 x3.toNat 1) q14 x3.toNat) = 0 := of_decide_eq_true c20
          refine g_sx 2 (pc1 := 16) (L1 := [vR r0, vI x1, vI x2, vI (wr (x3 + (-1))), vI 0]) (st1 := []) rfl ?_
          exact G_fg (lw2_k _ (lw2_k _ (lw2_k _ (lw2_k _ (lw2_f _ lw2_nil))))) (k2 c1 c13 c16 c20)
        · have c20 : (tI (uI τ q14 x3.toNat 1) q14 x3.toNat) = 0 := Decidable.of_not_not (of_decide_eq_false c20)
          refine g_sk 1 (pc1 := 82) (st1 := [AR r0]) rfl ?_
          refine g_gQ rfl (ci := 10) (k := 0) rfl sh2 p9 ?_
          refine g_sk 1 (pc1 := 86) (st1 := [AI x3, AR q8]) rfl ?_
          refine g_iald rfl sh11 (by decide) (b12 c1).1 (b12 c1).2 ?_
          refine g_sx 3 (pc1 := 16) (L1 := [vR r0, vI x1, vI (tI (uI τ q14 x3.toNat 1) q8 x3.toNat), vI (wr (x3 + (-1))), vI 0]) (st1 := []) rfl ?_
          exact G_fg (lw2_k _ (lw2_k _ (lw2_k _ (lw2_k _ (lw2_f _ lw2_nil))))) (k3 c1 c13 c16 c20)
      · have c16 : (0 : Int) = (0 : Int) := Decidable.of_not_not (of_decide_eq_false c16)
        refine g_sk 2 (pc1 := 60) (st1 := [AI x3, AR r0, AI x3, AR q14]) rfl ?_
        refine G_fg (lw2_k _ (lw2_k _ (lw2_k _ (lw2_k _ (lw2_f _ lw2_nil))))) ?_
        refine g_cv rfl rfl (by decide) rfl rfl (Nat.le_of_ble_eq_true rfl) (as2 := [AI x3]) rfl sh2 rfl (by omega) (L0 := [vR r0, vI x3, none, none, none]) rfl ?_
        exact (k4 c1 c13 c16)
    · have c13 : (zand (zshr (zor (tI τ q3 x3.toNat) (tI τ q8 x3.toNat)) x1) 1) = 1 := Decidable.of_not_not (of_decide_eq_false c13)
      refine g_sx 4 (pc1 := 49) (L1 := [vR r0, vI x1, vI x2, vI x3, vI 1]) (st1 := [AR r0]) rfl ?_
      refine g_gQ rfl (ci := 10) (k := 2) rfl sh2 p15 ?_
      refine g_sk 2 (pc1 := 55) (st1 := [AI 1, AI x3, AR q14]) rfl ?_
      refine g_br1 rfl (t := 66) rfl (fun c21 => ?_) (fun c21 => ?_)
      · have c21 : ¬ (1 : Int) = (0 : Int) := of_decide_eq_true c21
        refine g_sk 2 (pc1 := 71) (st1 := [AI 1, AI x3, AR q14]) rfl ?_
        refine g_zast rfl sh18 (by decide) (b22 c1 c13 c21).1 (b22 c1 c13 c21).2 ?_
        refine g_sk 1 (pc1 := 73) (st1 := [AR r0]) rfl ?_
        refine g_gQ rfl (ci := 10) (k := 2) rfl sh2 p15 ?_
        refine g_sk 1 (pc1 := 77) (st1 := [AI x3, AR q14]) rfl ?_
        refine g_bald rfl sh18 (by decide) (b22 c1 c13 c21).1 (b22 c1 c13 c21).2 ?_
        refine g_br1 rfl (t := 88) rfl (fun c23 => ?_) (fun c23 => ?_)
        · have c23 : ¬ (tI (uI τ q14 x3.toNat 1) q14 x3.toNat) = 0 := of_decide_eq_true c23
          refine g_sx 2 (pc1 := 16) (L1 := [vR r0, vI x1, vI x2, vI (wr (x3 + (-1))), vI 1]) (st1 := []) rfl ?_
          exact G_fg (lw2_k _ (lw2_k _ (lw2_k _ (lw2_k _ (lw2_f _ lw2_nil))))) (k5 c1 c13 c21 c23)
        · have c23 : (tI (uI τ q14 x3.toNat 1) q14 x3.toNat) = 0 := Decidable.of_not_not (of_decide_eq_false c23)
          refine g_sk 1 (pc1 := 82) (st1 := [AR r0]) rfl ?_
          refine g_gQ rfl (ci := 10) (k := 0) rfl sh2 p9 ?_
          refine g_sk 1 (pc1 := 86) (st1 := [AI x3, AR q8]) rfl ?_
          refine g_iald rfl sh11 (by decide) (b12 c1).1 (b12 c1).2 ?_
          refine g_sx 3 (pc1 := 16) (L1 := [vR r0, vI x1, vI (tI (uI τ q14 x3.toNat 1) q8 x3.toNat), vI (wr (x3 + (-1))), vI 1]) (st1 := []) rfl ?_
          exact G_fg (lw2_k _ (lw2_k _ (lw2_k _ (lw2_k _ (lw2_f _ lw2_nil))))) (k6 c1 c13 c21 c23)
      · have c21 : (1 : Int) = (0 : Int) := Decidable.of_not_not (of_decide_eq_false c21)
        refine g_sk 2 (pc1 := 60) (st1 := [AI x3, AR r0, AI x3, AR q14]) rfl ?_
        refine G_fg (lw2_k _ (lw2_k _ (lw2_k _ (lw2_k _ (lw2_f _ lw2_nil))))) ?_
        refine g_cv rfl rfl (by decide) rfl rfl (Nat.le_of_ble_eq_true rfl) (as2 := [AI x3]) rfl sh2 rfl (by omega) (L0 := [vR r0, vI x3, none, none, none]) rfl ?_
        exact (k7 c1 c13 c21)

set_option maxRecDepth 8192 in
theorem t87_63 {d : Nat} {τ : T2} {Q : RS → T2 → Prop} {x1 x2 x3 y0 y1 : Int} {r0 s2 n2 q6 n8 q12 n14 : Nat} (sh3 : tS τ s2 = (2, 2, n2)) (b4 : y0 = 0 → (0 : Int) ≤ y1 ∧ y1 < (n2 : Int)) (sh5 : tS τ r0 = (1, 10, 0)) (p7 : tP τ r0 2 = some q6) (sh9 : tS τ q6 = (2, 2, n8)) (b10 : y0 = 0 → (0 : Int) ≤ x3 ∧ x3 < (n8 : Int)) (p13 : tP τ r0 0 = some q12) (sh15 : tS τ q12 = (2, 0, n14)) (b16 : y0 = 0 → (tI (uI τ s2 y1.toNat 0) q6 x3.toNat) = 0 → (0 : Int) ≤ x3 ∧ x3 < (n14 : Int)) (b17 : ¬ y0 = 0 → (0 : Int) ≤ y1 ∧ y1 < (n2 : Int)) (b18 : ¬ y0 = 0 → (0 : Int) ≤ x3 ∧ x3 < (n8 : Int)) (b20 : ¬ y0 = 0 → (tI (uI τ s2 y1.toNat 1) q6 x3.toNat) = 0 → (0 : Int) ≤ x3 ∧ x3 < (n14 : Int)) (k1 : y0 = 0 → ¬ (tI (uI τ s2 y1.toNat 0) q6 x3.toNat) = 0 → G d 87 16 [vR r0, vI x1, vI x2, vI (wr (x3 + (-1))), none] [] (uI τ s2 y1.toNat 0) Q) (k2 : y0 = 0 → (tI (uI τ s2 y1.toNat 0) q6 x3.toNat) = 0 → G d 87 16 [vR r0, vI x1, vI (tI (uI τ s2 y1.toNat 0) q12 x3.toNat), vI (wr (x3 + (-1))), none] [] (uI τ s2 y1.toNat 0) Q) (k3 : ¬ y0 = 0 → ¬ (tI (uI τ s2 y1.toNat 1) q6 x3.toNat) = 0 → G d 87 16 [vR r0, vI x1, vI x2, vI (wr (x3 + (-1))), none] [] (uI τ s2 y1.toNat 1) Q) (k4 : ¬ y0 = 0 → (tI (uI τ s2 y1.toNat 1) q6 x3.toNat) = 0 → G d 87 16 [vR r0, vI x1, vI (tI (uI τ s2 y1.toNat 1) q12 x3.toNat), vI (wr (x3 + (-1))), none] [] (uI τ s2 y1.toNat 1) Q) : G d 87 63 [vR r0, vI x1, vI x2, vI x3, none] [AI y0, AI y1, AR s2] τ Q := by
  refine g_br1 rfl (t := 70) rfl (fun c1 => ?_) (fun c1 => ?_)
  · have c1 : y0 = 0 := of_decide_eq_true c1
    refine g_sk 1 (pc1 := 71) (st1 := [AI 0, AI y1, AR s2]) rfl ?_
    refine g_zast rfl sh3 (by decide) (b4 c1).1 (b4 c1).2 ?_
    refine g_sk 1 (pc1 := 73) (st1 := [AR r0]) rfl ?_
    refine g_gQ rfl (ci := 10) (k := 2) rfl sh5 p7 ?_
    refine g_sk 1 (pc1 := 77) (st1 := [AI x3, AR q6]) rfl ?_
    refine g_bald rfl sh9 (by decide) (b10 c1).1 (b10 c1).2 ?_
    refine g_br1 rfl (t := 88) rfl (fun c11 => ?_) (fun c11 => ?_)
    · have c11 : ¬ (tI (uI τ s2 y1.toNat 0) q6 x3.toNat) = 0 := of_decide_eq_true c11
      refine g_sx 2 (pc1 := 16) (L1 := [vR r0, vI x1, vI x2, vI (wr (x3 + (-1))), none]) (st1 := []) rfl ?_
      exact (k1 c1 c11)
    · have c11 : (tI (uI τ s2 y1.toNat 0) q6 x3.toNat) = 0 := Decidable.of_not_not (of_decide_eq_false c11)
      refine g_sk 1 (pc1 := 82) (st1 := [AR r0]) rfl ?_
      refine g_gQ rfl (ci := 10) (k := 0) rfl sh5 p13 ?_
      refine g_sk 1 (pc1 := 86) (st1 := [AI x3, AR q12]) rfl ?_
      refine g_iald rfl sh15 (by decide) (b16 c1 c11).1 (b16 c1 c11).2 ?_
      refine g_sx 3 (pc1 := 16) (L1 := [vR r0, vI x1, vI (tI (uI τ s2 y1.toNat 0) q12 x3.toNat), vI (wr (x3 + (-1))), none]) (st1 := []) rfl ?_
      exact (k2 c1 c11)
  · have c1 : ¬ y0 = 0 := of_decide_eq_false c1
    refine g_sk 2 (pc1 := 71) (st1 := [AI 1, AI y1, AR s2]) rfl ?_
    refine g_zast rfl sh3 (by decide) (b17 c1).1 (b17 c1).2 ?_
    refine g_sk 1 (pc1 := 73) (st1 := [AR r0]) rfl ?_
    refine g_gQ rfl (ci := 10) (k := 2) rfl sh5 p7 ?_
    refine g_sk 1 (pc1 := 77) (st1 := [AI x3, AR q6]) rfl ?_
    refine g_bald rfl sh9 (by decide) (b18 c1).1 (b18 c1).2 ?_
    refine g_br1 rfl (t := 88) rfl (fun c19 => ?_) (fun c19 => ?_)
    · have c19 : ¬ (tI (uI τ s2 y1.toNat 1) q6 x3.toNat) = 0 := of_decide_eq_true c19
      refine g_sx 2 (pc1 := 16) (L1 := [vR r0, vI x1, vI x2, vI (wr (x3 + (-1))), none]) (st1 := []) rfl ?_
      exact (k3 c1 c19)
    · have c19 : (tI (uI τ s2 y1.toNat 1) q6 x3.toNat) = 0 := Decidable.of_not_not (of_decide_eq_false c19)
      refine g_sk 1 (pc1 := 82) (st1 := [AR r0]) rfl ?_
      refine g_gQ rfl (ci := 10) (k := 0) rfl sh5 p13 ?_
      refine g_sk 1 (pc1 := 86) (st1 := [AI x3, AR q12]) rfl ?_
      refine g_iald rfl sh15 (by decide) (b20 c1 c19).1 (b20 c1 c19).2 ?_
      refine g_sx 3 (pc1 := 16) (L1 := [vR r0, vI x1, vI (tI (uI τ s2 y1.toNat 1) q12 x3.toNat), vI (wr (x3 + (-1))), none]) (st1 := []) rfl ?_
      exact (k4 c1 c19)

set_option maxRecDepth 8192 in
theorem t88_0 {d : Nat} {τ : T2} {Q : RS → T2 → Prop} {x1 : Int} {r0 q2 n4 q7 n9 : Nat} (sh1 : tS τ r0 = (1, 10, 0)) (p3 : tP τ r0 1 = some q2) (sh5 : tS τ q2 = (2, 0, n4)) (b6 : (0 : Int) ≤ x1 ∧ x1 < (n4 : Int)) (p8 : tP τ r0 0 = some q7) (sh10 : tS τ q7 = (2, 0, n9)) (b11 : (0 : Int) ≤ x1 ∧ x1 < (n9 : Int)) (k1 : G d 88 18 [vR r0, vI x1, vI (zand (tI τ q2 x1.toNat) (zxor (tI τ q7 x1.toNat) (-1))), vI 0, none] [] τ Q) : G d 88 0 [vR r0, vI x1, none, none, none] [] τ Q := by
  refine g_sk 1 (pc1 := 1) (st1 := [AR r0]) rfl ?_
  refine g_gQ rfl (ci := 10) (k := 1) rfl sh1 p3 ?_
  refine g_sk 1 (pc1 := 5) (st1 := [AI x1, AR q2]) rfl ?_
  refine g_iald rfl sh5 (by decide) b6.1 b6.2 ?_
  refine g_sk 1 (pc1 := 7) (st1 := [AR r0, AI (tI τ q2 x1.toNat)]) rfl ?_
  refine g_gQ rfl (ci := 10) (k := 0) rfl sh1 p8 ?_
  refine g_sk 1 (pc1 := 11) (st1 := [AI x1, AR q7, AI (tI τ q2 x1.toNat)]) rfl ?_
  refine g_iald rfl sh10 (by decide) b11.1 b11.2 ?_
  refine g_sx 6 (pc1 := 18) (L1 := [vR r0, vI x1, vI (zand (tI τ q2 x1.toNat) (zxor (tI τ q7 x1.toNat) (-1))), vI 0, none]) (st1 := []) rfl ?_
  exact k1

set_option maxRecDepth 8192 in
theorem t88_18 {d : Nat} {τ : T2} {Q : RS → T2 → Prop} {x1 x2 x3 : Int} {r0 q4 n6 : Nat} (hd : 1 ≤ d) (sh3 : tS τ r0 = (1, 10, 0)) (p5 : tP τ r0 0 = some q4) (sh7 : tS τ q4 = (2, 0, n6)) (b8 : x3 < 20 → (zand (zshr x2 x3) 1) = 1 → (0 : Int) ≤ x1 ∧ x1 < (n6 : Int)) (k1 : 20 ≤ x3 → Q (.inl (some (AI 0))) τ) (k2 : x3 < 20 → ¬ (zand (zshr x2 x3) 1) = 1 → G d 88 18 [vR r0, vI x1, vI x2, vI (wr (x3 + 1)), none] [] τ Q) (k3 : x3 < 20 → (zand (zshr x2 x3) 1) = 1 → G (d - 1) 85 0 [vR r0, vI (zor (tI τ q4 x1.toNat) (zshl 1 x3)), none, none] [] τ (KC d 88 48 51 [vR r0, vI x1, vI x2, vI x3, none] [AP (tP τ r0 3)] Q)) : G d 88 18 [vR r0, vI x1, vI x2, vI x3, none] [] τ Q := by
  refine g_sk 2 (pc1 := 21) (st1 := [AI 20, AI x3]) rfl ?_
  refine g_br2 rfl (t := 87) rfl (fun c1 => ?_) (fun c1 => ?_)
  · have c1 : 20 ≤ x3 := of_decide_eq_true c1
    refine g_sk 1 (pc1 := 88) (st1 := [AI 0]) rfl ?_
    refine g_zret rfl rfl (by decide) ?_
    exact (k1 c1)
  · have c1 : x3 < 20 := Int.not_le.mp (of_decide_eq_false c1)
    refine g_sk 6 (pc1 := 30) (st1 := [AI 1, AI (zand (zshr x2 x3) 1)]) rfl ?_
    refine g_br2 rfl (t := 81) rfl (fun c2 => ?_) (fun c2 => ?_)
    · have c2 : ¬ (zand (zshr x2 x3) 1) = 1 := of_decide_eq_true c2
      refine g_sx 2 (pc1 := 18) (L1 := [vR r0, vI x1, vI x2, vI (wr (x3 + 1)), none]) (st1 := []) rfl ?_
      exact (k2 c1 c2)
    · have c2 : (zand (zshr x2 x3) 1) = 1 := Decidable.of_not_not (of_decide_eq_false c2)
      refine g_sk 1 (pc1 := 34) (st1 := [AR r0]) rfl ?_
      refine g_gP rfl (ci := 10) (k := 3) rfl sh3 ?_
      refine g_sk 2 (pc1 := 39) (st1 := [AR r0, AR r0, AP (tP τ r0 3)]) rfl ?_
      refine g_gQ rfl (ci := 10) (k := 0) rfl sh3 p5 ?_
      refine g_sk 1 (pc1 := 43) (st1 := [AI x1, AR q4, AR r0, AP (tP τ r0 3)]) rfl ?_
      refine g_iald rfl sh7 (by decide) (b8 c1 c2).1 (b8 c1 c2).2 ?_
      refine g_sk 4 (pc1 := 48) (st1 := [AI (zor (tI τ q4 x1.toNat) (zshl 1 x3)), AR r0, AP (tP τ r0 3)]) rfl ?_
      refine g_cv rfl rfl (by decide) rfl rfl (Nat.le_of_ble_eq_true rfl) (as2 := [AI (zor (tI τ q4 x1.toNat) (zshl 1 x3))]) rfl sh3 rfl (by omega) (L0 := [vR r0, vI (zor (tI τ q4 x1.toNat) (zshl 1 x3)), none, none]) rfl ?_
      exact (k3 c1 c2)

set_option maxRecDepth 8192 in
theorem t88_51 {d : Nat} {τ : T2} {Q : RS → T2 → Prop} {x1 x2 x3 y0 : Int} {r0 s1 n1 q7 n9 : Nat} (sh2 : tS τ s1 = (2, 0, n1)) (b3 : (0 : Int) ≤ y0 ∧ y0 < (n1 : Int)) (sh6 : tS τ r0 = (1, 10, 0)) (p8 : tP τ r0 2 = some q7) (sh10 : tS τ q7 = (2, 2, n9)) (b11 : 0 ≤ (wr ((tI τ s1 y0.toNat) - 1)) → (wr ((tI τ s1 y0.toNat) - 1)) < 1000 → (0 : Int) ≤ (wr ((tI τ s1 y0.toNat) - 1)) ∧ (wr ((tI τ s1 y0.toNat) - 1)) < (n9 : Int)) (k1 : (wr ((tI τ s1 y0.toNat) - 1)) < 0 → G d 88 18 [vR r0, vI x1, vI x2, vI (wr (x3 + 1)), none] [] τ Q) (k2 : 0 ≤ (wr ((tI τ s1 y0.toNat) - 1)) → 1000 ≤ (wr ((tI τ s1 y0.toNat) - 1)) → G d 88 18 [vR r0, vI x1, vI x2, vI (wr (x3 + 1)), none] [] τ Q) (k3 : 0 ≤ (wr ((tI τ s1 y0.toNat) - 1)) → (wr ((tI τ s1 y0.toNat) - 1)) < 1000 → (tI τ q7 (wr ((tI τ s1 y0.toNat) - 1)).toNat) = 0 → G d 88 18 [vR r0, vI x1, vI x2, vI (wr (x3 + 1)), none] [] τ Q) (k4 : 0 ≤ (wr ((tI τ s1 y0.toNat) - 1)) → (wr ((tI τ s1 y0.toNat) - 1)) < 1000 → ¬ (tI τ q7 (wr ((tI τ s1 y0.toNat) - 1)).toNat) = 0 → Q (.inl (some (AI 1))) τ) : G d 88 51 [vR r0, vI x1, vI x2, vI x3, none] [AI y0, AR s1] τ Q := by
  refine g_iald rfl sh2 (by decide) b3.1 b3.2 ?_
  refine g_sx 4 (pc1 := 58) (L1 := [vR r0, vI x1, vI x2, vI x3, vI (wr ((tI τ s1 y0.toNat) - 1))]) (st1 := [AI (wr ((tI τ s1 y0.toNat) - 1))]) rfl ?_
  refine g_br1 rfl (t := 81) rfl (fun c4 => ?_) (fun c4 => ?_)
  · have c4 : (wr ((tI τ s1 y0.toNat) - 1)) < 0 := of_decide_eq_true c4
    refine g_sx 2 (pc1 := 18) (L1 := [vR r0, vI x1, vI x2, vI (wr (x3 + 1)), vI (wr ((tI τ s1 y0.toNat) - 1))]) (st1 := []) rfl ?_
    exact G_fg (lw2_k _ (lw2_k _ (lw2_k _ (lw2_k _ (lw2_f _ lw2_nil))))) (k1 c4)
  · have c4 : 0 ≤ (wr ((tI τ s1 y0.toNat) - 1)) := Int.not_lt.mp (of_decide_eq_false c4)
    refine g_sk 2 (pc1 := 66) (st1 := [AI 1000, AI (wr ((tI τ s1 y0.toNat) - 1))]) rfl ?_
    refine g_br2 rfl (t := 81) rfl (fun c5 => ?_) (fun c5 => ?_)
    · have c5 : 1000 ≤ (wr ((tI τ s1 y0.toNat) - 1)) := of_decide_eq_true c5
      refine g_sx 2 (pc1 := 18) (L1 := [vR r0, vI x1, vI x2, vI (wr (x3 + 1)), vI (wr ((tI τ s1 y0.toNat) - 1))]) (st1 := []) rfl ?_
      exact G_fg (lw2_k _ (lw2_k _ (lw2_k _ (lw2_k _ (lw2_f _ lw2_nil))))) (k2 c4 c5)
    · have c5 : (wr ((tI τ s1 y0.toNat) - 1)) < 1000 := Int.not_le.mp (of_decide_eq_false c5)
      refine g_sk 1 (pc1 := 70) (st1 := [AR r0]) rfl ?_
      refine g_gQ rfl (ci := 10) (k := 2) rfl sh6 p8 ?_
      refine g_sk 1 (pc1 := 75) (st1 := [AI (wr ((tI τ s1 y0.toNat) - 1)), AR q7]) rfl ?_
      refine g_bald rfl sh10 (by decide) (b11 c4 c5).1 (b11 c4 c5).2 ?_
      refine g_br1 rfl (t := 81) rfl (fun c12 => ?_) (fun c12 => ?_)
      · have c12 : (tI τ q7 (wr ((tI τ s1 y0.toNat) - 1)).toNat) = 0 := of_decide_eq_true c12
        refine g_sx 2 (pc1 := 18) (L1 := [vR r0, vI x1, vI x2, vI (wr (x3 + 1)), vI (wr ((tI τ s1 y0.toNat) - 1))]) (st1 := []) rfl ?_
        exact G_fg (lw2_k _ (lw2_k _ (lw2_k _ (lw2_k _ (lw2_f _ lw2_nil))))) (k3 c4 c5 c12)
      · have c12 : ¬ (tI τ q7 (wr ((tI τ s1 y0.toNat) - 1)).toNat) = 0 := of_decide_eq_false c12
        refine g_sk 1 (pc1 := 80) (st1 := [AI 1]) rfl ?_
        refine g_zret rfl rfl (by decide) ?_
        exact (k4 c4 c5 c12)

set_option maxRecDepth 8192 in
theorem t89_0 {d : Nat} {τ : T2} {Q : RS → T2 → Prop} {x1 : Int} {r0 : Nat} (k1 : G d 89 2 [vR r0, vI x1, vI 0] [] τ Q) : G d 89 0 [vR r0, vI x1, none] [] τ Q := by
  refine g_sx 2 (pc1 := 2) (L1 := [vR r0, vI x1, vI 0]) (st1 := []) rfl ?_
  exact k1

set_option maxRecDepth 8192 in
theorem t89_2 {d : Nat} {τ : T2} {Q : RS → T2 → Prop} {x1 x2 : Int} {r0 q4 n6 q10 n12 : Nat} (hd : 1 ≤ d) (sh1 : tS τ r0 = (1, 10, 0)) (p5 : tP τ r0 1 = some q4) (sh7 : tS τ q4 = (2, 0, n6)) (b8 : x2 < (tI τ r0 4) → x2 < 1000 → (0 : Int) ≤ x2 ∧ x2 < (n6 : Int)) (p11 : tP τ r0 0 = some q10) (sh13 : tS τ q10 = (2, 0, n12)) (b14 : x2 < (tI τ r0 4) → x2 < 1000 → (zand (zshr (tI τ q4 x2.toNat) x1) 1) = 1 → (0 : Int) ≤ x2 ∧ x2 < (n12 : Int)) (k1 : (tI τ r0 4) ≤ x2 → Q (.inl (some (AI (-2)))) τ) (k2 : x2 < (tI τ r0 4) → 1000 ≤ x2 → Q (.inl (some (AI (-2)))) τ) (k3 : x2 < (tI τ r0 4) → x2 < 1000 → ¬ (zand (zshr (tI τ q4 x2.toNat) x1) 1) = 1 → G d 89 2 [vR r0, vI x1, vI (wr (x2 + 1))] [] τ Q) (k4 : x2 < (tI τ r0 4) → x2 < 1000 → (zand (zshr (tI τ q4 x2.toNat) x1) 1) = 1 → G (d - 1) 246 0 [vI (tI τ q10 x2.toNat)] [] τ (KC d 89 37 40 [none, none, none] [] Q)) : G d 89 2 [vR r0, vI x1, vI x2] [] τ Q := by
  refine g_sk 2 (pc1 := 4) (st1 := [AR r0, AI x2]) rfl ?_
  refine g_gI rfl (ci := 10) (k := 4) rfl sh1 ?_
  refine g_br2 rfl (t := 47) rfl (fun c2 => ?_) (fun c2 => ?_)
  · have c2 : (tI τ r0 4) ≤ x2 := of_decide_eq_true c2
    refine g_sk 1 (pc1 := 49) (st1 := [AI (-2)]) rfl ?_
    refine g_iret rfl rfl ?_
    exact (k1 c2)
  · have c2 : x2 < (tI τ r0 4) := Int.not_le.mp (of_decide_eq_false c2)
    refine g_sk 2 (pc1 := 14) (st1 := [AI 1000, AI x2]) rfl ?_
    refine g_br2 rfl (t := 47) rfl (fun c3 => ?_) (fun c3 => ?_)
    · have c3 : 1000 ≤ x2 := of_decide_eq_true c3
      refine g_sk 1 (pc1 := 49) (st1 := [AI (-2)]) rfl ?_
      refine g_iret rfl rfl ?_
      exact (k2 c2 c3)
    · have c3 : x2 < 1000 := Int.not_le.mp (of_decide_eq_false c3)
      refine g_sk 1 (pc1 := 18) (st1 := [AR r0]) rfl ?_
      refine g_gQ rfl (ci := 10) (k := 1) rfl sh1 p5 ?_
      refine g_sk 1 (pc1 := 22) (st1 := [AI x2, AR q4]) rfl ?_
      refine g_iald rfl sh7 (by decide) (b8 c2 c3).1 (b8 c2 c3).2 ?_
      refine g_sk 5 (pc1 := 28) (st1 := [AI 1, AI (zand (zshr (tI τ q4 x2.toNat) x1) 1)]) rfl ?_
      refine g_br2 rfl (t := 41) rfl (fun c9 => ?_) (fun c9 => ?_)
      · have c9 : ¬ (zand (zshr (tI τ q4 x2.toNat) x1) 1) = 1 := of_decide_eq_true c9
        refine g_sx 2 (pc1 := 2) (L1 := [vR r0, vI x1, vI (wr (x2 + 1))]) (st1 := []) rfl ?_
        exact (k3 c2 c3 c9)
      · have c9 : (zand (zshr (tI τ q4 x2.toNat) x1) 1) = 1 := Decidable.of_not_not (of_decide_eq_false c9)
        refine g_sk 1 (pc1 := 32) (st1 := [AR r0]) rfl ?_
        refine g_gQ rfl (ci := 10) (k := 0) rfl sh1 p11 ?_
        refine g_sk 1 (pc1 := 36) (st1 := [AI x2, AR q10]) rfl ?_
        refine g_iald rfl sh13 (by decide) (b14 c2 c3 c9).1 (b14 c2 c3 c9).2 ?_
        refine G_fg (lw2_f _ (lw2_f _ (lw2_f _ lw2_nil))) ?_
        refine g_cs rfl rfl (by decide) rfl rfl (Nat.le_of_ble_eq_true rfl) rfl (by omega) (L0 := [vI (tI τ q10 x2.toNat)]) rfl ?_
        exact (k4 c2 c3 c9)

set_option maxRecDepth 8192 in
theorem t89_40 {d : Nat} {τ : T2} {Q : RS → T2 → Prop} {y0 : Int} (k1 : Q (.inl (some (AI y0))) τ) : G d 89 40 [none, none, none] [AI y0] τ Q := by
  refine g_iret rfl rfl ?_
  exact k1

set_option maxRecDepth 8192 in
theorem t90_0 {d : Nat} {τ : T2} {Q : RS → T2 → Prop} {r0 : Nat} (k1 : G d 90 4 [vR r0, vI 0, vI 0] [] τ Q) : G d 90 0 [vR r0, none, none] [] τ Q := by
  refine g_sx 4 (pc1 := 4) (L1 := [vR r0, vI 0, vI 0]) (st1 := []) rfl ?_
  exact k1

set_option maxRecDepth 8192 in
theorem t90_4 {d : Nat} {τ : T2} {Q : RS → T2 → Prop} {x1 x2 : Int} {r0 q4 n6 : Nat} (sh1 : tS τ r0 = (1, 10, 0)) (p5 : tP τ r0 1 = some q4) (sh7 : tS τ q4 = (2, 0, n6)) (b8 : x2 < (tI τ r0 4) → x2 < 1000 → (0 : Int) ≤ x2 ∧ x2 < (n6 : Int)) (k1 : (tI τ r0 4) ≤ x2 → Q (.inl (some (AI x1))) τ) (k2 : x2 < (tI τ r0 4) → 1000 ≤ x2 → Q (.inl (some (AI x1))) τ) (k3 : x2 < (tI τ r0 4) → x2 < 1000 → G d 90 4 [vR r0, vI (zor x1 (tI τ q4 x2.toNat)), vI (wr (x2 + 1))] [] τ Q) : G d 90 4 [vR r0, vI x1, vI x2] [] τ Q := by
  refine g_sk 2 (pc1 := 6) (st1 := [AR r0, AI x2]) rfl ?_
  refine g_gI rfl (ci := 10) (k := 4) rfl sh1 ?_
  refine g_br2 rfl (t := 34) rfl (fun c2 => ?_) (fun c2 => ?_)
  · have c2 : (tI τ r0 4) ≤ x2 := of_decide_eq_true c2
    refine g_sk 1 (pc1 := 35) (st1 := [AI x1]) rfl ?_
    refine g_iret rfl rfl ?_
    exact (k1 c2)
  · have c2 : x2 < (tI τ r0 4) := Int.not_le.mp (of_decide_eq_false c2)
    refine g_sk 2 (pc1 := 16) (st1 := [AI 1000, AI x2]) rfl ?_
    refine g_br2 rfl (t := 34) rfl (fun c3 => ?_) (fun c3 => ?_)
    · have c3 : 1000 ≤ x2 := of_decide_eq_true c3
      refine g_sk 1 (pc1 := 35) (st1 := [AI x1]) rfl ?_
      refine g_iret rfl rfl ?_
      exact (k2 c2 c3)
    · have c3 : x2 < 1000 := Int.not_le.mp (of_decide_eq_false c3)
      refine g_sk 2 (pc1 := 21) (st1 := [AR r0, AI x1]) rfl ?_
      refine g_gQ rfl (ci := 10) (k := 1) rfl sh1 p5 ?_
      refine g_sk 1 (pc1 := 25) (st1 := [AI x2, AR q4, AI x1]) rfl ?_
      refine g_iald rfl sh7 (by decide) (b8 c2 c3).1 (b8 c2 c3).2 ?_
      refine g_sx 4 (pc1 := 4) (L1 := [vR r0, vI (zor x1 (tI τ q4 x2.toNat)), vI (wr (x2 + 1))]) (st1 := []) rfl ?_
      exact (k3 c2 c3)
