/-! SWITCHES, and texts that are null: written by program (wip/whole/tree.py swi, nul) -/
section
variable {d mi pc len : Nat} {L : LO} {st : List AV} {τ : T2} {Q : RS → T2 → Prop}
theorem g_tsd {dflt lo hi : Int} {offs : Array Int} {x : Int} {t0 : Nat} (hc : CD mi pc = some (.tableswitch dflt lo hi offs, len)) (h0 : tgt pc dflt = some t0) (h : x < lo ∨ hi < x) (k : G d mi t0 L st τ Q) : G d mi pc L (.inl x :: st) τ Q := by
  refine g_st hc ?_ k
  show (if x < lo ∨ hi < x then br 0 (tgt pc dflt) L st (toST τ) true else _) = _
  rw [if_pos h, h0]
  rfl
end
set_option maxRecDepth 8192 in
theorem t20_31 {d : Nat} {τ : T2} {Q : RS → T2 → Prop} {x1 x3 x4 y0 : Int} {r0 : Nat} {r2 : Option Nat} (k1 : y0 = 1 → G d 20 64 [vR r0, vI x1, vQ r2, vI x3, vI x4] [] τ Q) (k2 : y0 = 2 → G d 20 83 [vR r0, vI x1, vQ r2, vI x3, vI x4] [] τ Q) (k3 : y0 = 3 → G d 20 142 [vR r0, vI x1, vQ r2, vI x3, none] [] τ Q) (k4 : y0 = 4 → G d 20 110 [vR r0, vI x1, none, vI x3, none] [] τ Q) (k5 : y0 = 5 → G d 20 130 [vR r0, vI x1, none, vI x3, none] [] τ Q) (k6 : y0 < 1 ∨ 5 < y0 → G d 20 142 [vR r0, vI x1, vQ r2, vI x3, none] [] τ Q) : G d 20 31 [vR r0, vI x1, vQ r2, vI x3, vI x4] [AI y0] τ Q := by
  by_cases c0 : y0 = 1
  · rw [c0]
    refine g_st (τ1 := τ) rfl (pc1 := 64) (L1 := [vR r0, vI x1, vQ r2, vI x3, vI x4]) (st1 := []) rfl ?_
    exact (k1 c0)
  by_cases c1 : y0 = 2
  · rw [c1]
    refine g_st (τ1 := τ) rfl (pc1 := 83) (L1 := [vR r0, vI x1, vQ r2, vI x3, vI x4]) (st1 := []) rfl ?_
    exact (k2 c1)
  by_cases c2 : y0 = 3
  · rw [c2]
    refine g_st (τ1 := τ) rfl (pc1 := 142) (L1 := [vR r0, vI x1, vQ r2, vI x3, vI x4]) (st1 := []) rfl ?_
    exact G_fg (lw2_k _ (lw2_k _ (lw2_k _ (lw2_k _ (lw2_f _ lw2_nil))))) (k3 c2)
  by_cases c3 : y0 = 4
  · rw [c3]
    refine g_st (τ1 := τ) rfl (pc1 := 110) (L1 := [vR r0, vI x1, vQ r2, vI x3, vI x4]) (st1 := []) rfl ?_
    exact G_fg (lw2_k _ (lw2_k _ (lw2_f _ (lw2_k _ (lw2_f _ lw2_nil))))) (k4 c3)
  by_cases c4 : y0 = 5
  · rw [c4]
    refine g_st (τ1 := τ) rfl (pc1 := 130) (L1 := [vR r0, vI x1, vQ r2, vI x3, vI x4]) (st1 := []) rfl ?_
    exact G_fg (lw2_k _ (lw2_k _ (lw2_f _ (lw2_k _ (lw2_f _ lw2_nil))))) (k5 c4)
  have cd : y0 < 1 ∨ 5 < y0 := by omega
  refine g_tsd rfl (t0 := 142) rfl cd ?_
  exact G_fg (lw2_k _ (lw2_k _ (lw2_k _ (lw2_k _ (lw2_f _ lw2_nil))))) (k6 cd)

set_option maxRecDepth 8192 in
theorem t20_64 {d : Nat} {τ : T2} {Q : RS → T2 → Prop} {x1 x3 x4 : Int} {r0 r2 : Nat} (hd : 1 ≤ d) (sh1 : tS τ r2 = (1, 3, 0)) (sh2 : tS τ r0 = (1, 4, 0)) (k1 : G (d - 1) 22 0 [vR r0, vI x1, vI (wr (x1 + 1)), vQ (tP τ r2 1), vI x3, vI x4, none] [] τ (KC d 20 76 79 [none, vI x1, none, none, none] [] Q)) : G d 20 64 [vR r0, vI x1, vR r2, vI x3, vI x4] [] τ Q := by
  refine g_sk 6 (pc1 := 70) (st1 := [AR r2, AI (wr (x1 + 1)), AI x1, AR r0]) rfl ?_
  refine g_gP rfl (ci := 3) (k := 1) rfl sh1 ?_
  refine g_sk 2 (pc1 := 76) (st1 := [AI x4, AI x3, AP (tP τ r2 1), AI (wr (x1 + 1)), AI x1, AR r0]) rfl ?_
  refine G_fg (lw2_f _ (lw2_k _ (lw2_f _ (lw2_f _ (lw2_f _ lw2_nil))))) ?_
  refine g_cv rfl rfl (by decide) rfl rfl (Nat.le_of_ble_eq_true rfl) (as2 := [AI x1, AI (wr (x1 + 1)), AP (tP τ r2 1), AI x3, AI x4]) rfl sh2 rfl (by omega) (L0 := [vR r0, vI x1, vI (wr (x1 + 1)), vQ (tP τ r2 1), vI x3, vI x4, none]) rfl ?_
  exact k1

set_option maxRecDepth 8192 in
theorem t20_83 {d : Nat} {τ : T2} {Q : RS → T2 → Prop} {x1 x3 x4 : Int} {r0 r2 : Nat} (hd : 1 ≤ d) (sh1 : tS τ r2 = (1, 3, 0)) (sh2 : tS τ r0 = (1, 4, 0)) (k1 : G (d - 1) 22 0 [vR r0, vI x1, vI (wr (x1 + 1)), vQ (tP τ r2 1), vI x3, vI x4, none] [] τ (KC d 20 95 98 [vR r0, vI x1, none, none, none] [] Q)) : G d 20 83 [vR r0, vI x1, vR r2, vI x3, vI x4] [] τ Q := by
  refine g_sk 6 (pc1 := 89) (st1 := [AR r2, AI (wr (x1 + 1)), AI x1, AR r0]) rfl ?_
  refine g_gP rfl (ci := 3) (k := 1) rfl sh1 ?_
  refine g_sk 2 (pc1 := 95) (st1 := [AI x4, AI x3, AP (tP τ r2 1), AI (wr (x1 + 1)), AI x1, AR r0]) rfl ?_
  refine G_fg (lw2_k _ (lw2_k _ (lw2_f _ (lw2_f _ (lw2_f _ lw2_nil))))) ?_
  refine g_cv rfl rfl (by decide) rfl rfl (Nat.le_of_ble_eq_true rfl) (as2 := [AI x1, AI (wr (x1 + 1)), AP (tP τ r2 1), AI x3, AI x4]) rfl sh2 rfl (by omega) (L0 := [vR r0, vI x1, vI (wr (x1 + 1)), vQ (tP τ r2 1), vI x3, vI x4, none]) rfl ?_
  exact k1

set_option maxRecDepth 8192 in
theorem t20_110 {d : Nat} {τ : T2} {Q : RS → T2 → Prop} {x1 x3 : Int} {r0 : Nat} (hd : 1 ≤ d) (sh1 : tS τ r0 = (1, 4, 0)) (k1 : G (d - 1) 26 0 [vR r0, vI x1, vI (wr (x1 + 1)), none] [] τ (KC d 20 115 118 [vR r0, vI x1, none, vI x3, none] [] Q)) : G d 20 110 [vR r0, vI x1, none, vI x3, none] [] τ Q := by
  refine g_sk 5 (pc1 := 115) (st1 := [AI (wr (x1 + 1)), AI x1, AR r0]) rfl ?_
  refine g_cv rfl rfl (by decide) rfl rfl (Nat.le_of_ble_eq_true rfl) (as2 := [AI x1, AI (wr (x1 + 1))]) rfl sh1 rfl (by omega) (L0 := [vR r0, vI x1, vI (wr (x1 + 1)), none]) rfl ?_
  exact k1

set_option maxRecDepth 8192 in
theorem t20_130 {d : Nat} {τ : T2} {Q : RS → T2 → Prop} {x1 x3 : Int} {r0 : Nat} (hd : 1 ≤ d) (sh1 : tS τ r0 = (1, 4, 0)) (k1 : G (d - 1) 26 0 [vR r0, vI x1, vI (zdiv x3 3), none] [] τ (KC d 20 135 138 [none, vI x1, none, none, none] [] Q)) : G d 20 130 [vR r0, vI x1, none, vI x3, none] [] τ Q := by
  refine g_sk 4 (pc1 := 134) (st1 := [AI 3, AI x3, AI x1, AR r0]) rfl ?_
  refine g_div rfl (by decide) ?_
  refine G_fg (lw2_f _ (lw2_k _ (lw2_k _ (lw2_f _ (lw2_k _ lw2_nil))))) ?_
  refine g_cv rfl rfl (by decide) rfl rfl (Nat.le_of_ble_eq_true rfl) (as2 := [AI x1, AI (zdiv x3 3)]) rfl sh1 rfl (by omega) (L0 := [vR r0, vI x1, vI (zdiv x3 3), none]) rfl ?_
  exact k1

set_option maxRecDepth 8192 in
theorem t20_142 {d : Nat} {τ : T2} {Q : RS → T2 → Prop} {x1 x3 : Int} {r0 : Nat} {r2 : Option Nat} (hd : 1 ≤ d) (sh1 : tS τ r0 = (1, 4, 0)) (k1 : G (d - 1) 21 0 [vR r0, vI x1, vI x3, vQ r2, none, none, none, none, none] [] τ (KC d 20 146 149 [none, vI x1, none, vI x3, none] [] Q)) : G d 20 142 [vR r0, vI x1, vQ r2, vI x3, none] [] τ Q := by
  refine g_sk 4 (pc1 := 146) (st1 := [AP r2, AI x3, AI x1, AR r0]) rfl ?_
  refine G_fg (lw2_f _ (lw2_k _ (lw2_f _ (lw2_k _ (lw2_k _ lw2_nil))))) ?_
  refine g_cv rfl rfl (by decide) rfl rfl (Nat.le_of_ble_eq_true rfl) (as2 := [AI x1, AI x3, AP r2]) rfl sh1 rfl (by omega) (L0 := [vR r0, vI x1, vI x3, vQ r2, none, none, none, none, none]) rfl ?_
  exact k1

set_option maxRecDepth 8192 in
theorem t41_1 {d : Nat} {τ : T2} {Q : RS → T2 → Prop} {x2 x3 x5 y0 : Int} {r0 : Nat} {r4 : Option Nat} (k1 : y0 = 1 → G d 41 40 [vR r0, none, vI x2, vI x3, vQ r4, vI x5] [] τ Q) (k2 : y0 = 2 → G d 41 54 [vR r0, none, vI x2, none, vQ r4, vI x5] [] τ Q) (k3 : y0 = 3 → G d 41 71 [vR r0, none, vI x2, none, none, none] [] τ Q) (k4 : y0 = 4 → G d 41 78 [vR r0, none, none, none, none, none] [] τ Q) (k5 : y0 = 5 → G d 41 84 [vR r0, none, none, none, none, none] [] τ Q) (k6 : y0 = 6 → G d 41 90 [vR r0, none, vI x2, none, none, none] [] τ Q) (k7 : y0 < 1 ∨ 6 < y0 → G d 41 104 [vR r0, none, vI x2, none, none, none] [] τ Q) : G d 41 1 [vR r0, none, vI x2, vI x3, vQ r4, vI x5] [AI y0] τ Q := by
  by_cases c0 : y0 = 1
  · rw [c0]
    refine g_st (τ1 := τ) rfl (pc1 := 40) (L1 := [vR r0, none, vI x2, vI x3, vQ r4, vI x5]) (st1 := []) rfl ?_
    exact (k1 c0)
  by_cases c1 : y0 = 2
  · rw [c1]
    refine g_st (τ1 := τ) rfl (pc1 := 54) (L1 := [vR r0, none, vI x2, vI x3, vQ r4, vI x5]) (st1 := []) rfl ?_
    exact G_fg (lw2_k _ (lw2_k _ (lw2_k _ (lw2_f _ (lw2_k _ (lw2_k _ lw2_nil)))))) (k2 c1)
  by_cases c2 : y0 = 3
  · rw [c2]
    refine g_st (τ1 := τ) rfl (pc1 := 71) (L1 := [vR r0, none, vI x2, vI x3, vQ r4, vI x5]) (st1 := []) rfl ?_
    exact G_fg (lw2_k _ (lw2_k _ (lw2_k _ (lw2_f _ (lw2_f _ (lw2_f _ lw2_nil)))))) (k3 c2)
  by_cases c3 : y0 = 4
  · rw [c3]
    refine g_st (τ1 := τ) rfl (pc1 := 78) (L1 := [vR r0, none, vI x2, vI x3, vQ r4, vI x5]) (st1 := []) rfl ?_
    exact G_fg (lw2_k _ (lw2_k _ (lw2_f _ (lw2_f _ (lw2_f _ (lw2_f _ lw2_nil)))))) (k4 c3)
  by_cases c4 : y0 = 5
  · rw [c4]
    refine g_st (τ1 := τ) rfl (pc1 := 84) (L1 := [vR r0, none, vI x2, vI x3, vQ r4, vI x5]) (st1 := []) rfl ?_
    exact G_fg (lw2_k _ (lw2_k _ (lw2_f _ (lw2_f _ (lw2_f _ (lw2_f _ lw2_nil)))))) (k5 c4)
  by_cases c5 : y0 = 6
  · rw [c5]
    refine g_st (τ1 := τ) rfl (pc1 := 90) (L1 := [vR r0, none, vI x2, vI x3, vQ r4, vI x5]) (st1 := []) rfl ?_
    exact G_fg (lw2_k _ (lw2_k _ (lw2_k _ (lw2_f _ (lw2_f _ (lw2_f _ lw2_nil)))))) (k6 c5)
  have cd : y0 < 1 ∨ 6 < y0 := by omega
  refine g_tsd rfl (t0 := 104) rfl cd ?_
  exact G_fg (lw2_k _ (lw2_k _ (lw2_k _ (lw2_f _ (lw2_f _ (lw2_f _ lw2_nil)))))) (k7 cd)

set_option maxRecDepth 8192 in
theorem t41_40 {d : Nat} {τ : T2} {Q : RS → T2 → Prop} {x2 x3 x5 : Int} {r0 : Nat} {r4 : Option Nat} (hd : 1 ≤ d) (sh1 : tS τ r0 = (1, 7, 0)) (k1 : G (d - 1) 43 0 [vR r0, vQ r4, vI x2, vI (wr (x3 - 1)), vI x3, vI x5, none, none] [] τ (KC d 41 50 53 [none, none, none, none, none, none] [] Q)) : G d 41 40 [vR r0, none, vI x2, vI x3, vQ r4, vI x5] [] τ Q := by
  refine g_sk 8 (pc1 := 50) (st1 := [AI x5, AI x3, AI (wr (x3 - 1)), AI x2, AP r4, AR r0]) rfl ?_
  refine G_fg (lw2_f _ (lw2_k _ (lw2_f _ (lw2_f _ (lw2_f _ (lw2_f _ lw2_nil)))))) ?_
  refine g_cv rfl rfl (by decide) rfl rfl (Nat.le_of_ble_eq_true rfl) (as2 := [AP r4, AI x2, AI (wr (x3 - 1)), AI x3, AI x5]) rfl sh1 rfl (by omega) (L0 := [vR r0, vQ r4, vI x2, vI (wr (x3 - 1)), vI x3, vI x5, none, none]) rfl ?_
  exact k1

set_option maxRecDepth 8192 in
theorem t41_54 {d : Nat} {τ : T2} {Q : RS → T2 → Prop} {x2 x5 : Int} {r0 : Nat} {r4 : Option Nat} (hd : 1 ≤ d) (k1 : G (d - 1) 42 0 [vQ r4, vI x2] [] τ (KC d 41 62 65 [none, none, none, none, none, vI x5] [AI 0, AI x2, AP r4, AR r0] Q)) : G d 41 54 [vR r0, none, vI x2, none, vQ r4, vI x5] [] τ Q := by
  refine g_sk 6 (pc1 := 62) (st1 := [AI x2, AP r4, AI 0, AI x2, AP r4, AR r0]) rfl ?_
  refine G_fg (lw2_f _ (lw2_k _ (lw2_f _ (lw2_k _ (lw2_f _ (lw2_k _ lw2_nil)))))) ?_
  refine g_cs rfl rfl (by decide) rfl rfl (Nat.le_of_ble_eq_true rfl) rfl (by omega) (L0 := [vQ r4, vI x2]) rfl ?_
  exact k1

set_option maxRecDepth 8192 in
theorem t41_71 {d : Nat} {τ : T2} {Q : RS → T2 → Prop} {x2 : Int} {r0 : Nat} (hd : 1 ≤ d) (sh1 : tS τ r0 = (1, 7, 0)) (k1 : G (d - 1) 44 0 [vR r0, vI x2, none] [] τ (KC d 41 73 76 [none, none, none, none, none, none] [] Q)) : G d 41 71 [vR r0, none, vI x2, none, none, none] [] τ Q := by
  refine g_sk 2 (pc1 := 73) (st1 := [AI x2, AR r0]) rfl ?_
  refine G_fg (lw2_f _ (lw2_k _ (lw2_f _ (lw2_k _ (lw2_k _ (lw2_k _ lw2_nil)))))) ?_
  refine g_cv rfl rfl (by decide) rfl rfl (Nat.le_of_ble_eq_true rfl) (as2 := [AI x2]) rfl sh1 rfl (by omega) (L0 := [vR r0, vI x2, none]) rfl ?_
  exact k1

set_option maxRecDepth 8192 in
theorem t41_78 {d : Nat} {τ : T2} {Q : RS → T2 → Prop} {r0 : Nat} (hd : 1 ≤ d) (sh1 : tS τ r0 = (1, 7, 0)) (k1 : G (d - 1) 45 0 [vR r0, none, none, none] [] τ (KC d 41 79 82 [none, none, none, none, none, none] [] Q)) : G d 41 78 [vR r0, none, none, none, none, none] [] τ Q := by
  refine g_sk 1 (pc1 := 79) (st1 := [AR r0]) rfl ?_
  refine G_fg (lw2_f _ (lw2_k _ (lw2_k _ (lw2_k _ (lw2_k _ (lw2_k _ lw2_nil)))))) ?_
  refine g_cv rfl rfl (by decide) rfl rfl (Nat.le_of_ble_eq_true rfl) (as2 := []) rfl sh1 rfl (by omega) (L0 := [vR r0, none, none, none]) rfl ?_
  exact k1

set_option maxRecDepth 8192 in
theorem t41_84 {d : Nat} {τ : T2} {Q : RS → T2 → Prop} {r0 : Nat} (hd : 1 ≤ d) (sh1 : tS τ r0 = (1, 7, 0)) (k1 : G (d - 1) 46 0 [vR r0, none, none, none] [] τ (KC d 41 85 88 [none, none, none, none, none, none] [] Q)) : G d 41 84 [vR r0, none, none, none, none, none] [] τ Q := by
  refine g_sk 1 (pc1 := 85) (st1 := [AR r0]) rfl ?_
  refine G_fg (lw2_f _ (lw2_k _ (lw2_k _ (lw2_k _ (lw2_k _ (lw2_k _ lw2_nil)))))) ?_
  refine g_cv rfl rfl (by decide) rfl rfl (Nat.le_of_ble_eq_true rfl) (as2 := []) rfl sh1 rfl (by omega) (L0 := [vR r0, none, none, none]) rfl ?_
  exact k1

set_option maxRecDepth 8192 in
theorem t41_90 {d : Nat} {τ : T2} {Q : RS → T2 → Prop} {x2 : Int} {r0 : Nat} (hd : 17 ≤ d) (sh1 : tS τ r0 = (1, 7, 0)) (k1 : Q (.inl (some (AI 1))) (uI τ r0 1 (if x2 < (tI τ r0 1) then x2 else (tI τ r0 1)))) : G d 41 90 [vR r0, none, vI x2, none, none, none] [] τ Q := by
  refine g_sk 2 (pc1 := 92) (st1 := [AR r0, AR r0]) rfl ?_
  refine g_gI rfl (ci := 7) (k := 1) rfl sh1 ?_
  refine g_sk 1 (pc1 := 96) (st1 := [AI x2, AI (tI τ r0 1), AR r0]) rfl ?_
  refine g_min rfl rfl rfl hd ?_
  refine g_putI (x := (if x2 < (tI τ r0 1) then x2 else (tI τ r0 1))) rfl (ci := 7) (k := 1) (kd := 0) rfl (by decide) rfl rfl sh1 ?_
  refine g_sk 1 (pc1 := 103) (st1 := [AI 1]) rfl ?_
  refine g_zret rfl rfl (by decide) ?_
  exact k1

set_option maxRecDepth 8192 in
theorem t41_104 {d : Nat} {τ : T2} {Q : RS → T2 → Prop} {x2 : Int} {r0 : Nat} (hd : 1 ≤ d) (sh1 : tS τ r0 = (1, 7, 0)) (k1 : G (d - 1) 48 0 [vR r0, vI x2, none, none] [] τ (KC d 41 106 109 [none, none, none, none, none, none] [] Q)) : G d 41 104 [vR r0, none, vI x2, none, none, none] [] τ Q := by
  refine g_sk 2 (pc1 := 106) (st1 := [AI x2, AR r0]) rfl ?_
  refine G_fg (lw2_f _ (lw2_k _ (lw2_f _ (lw2_k _ (lw2_k _ (lw2_k _ lw2_nil)))))) ?_
  refine g_cv rfl rfl (by decide) rfl rfl (Nat.le_of_ble_eq_true rfl) (as2 := [AI x2]) rfl sh1 rfl (by omega) (L0 := [vR r0, vI x2, none, none]) rfl ?_
  exact k1

set_option maxRecDepth 8192 in
theorem t101_18 {d : Nat} {τ : T2} {Q : RS → T2 → Prop} {y0 : Int} {r3 : Option Nat} (k1 : y0 = 0 → G d 101 68 [none, none, none, vQ r3] [] τ Q) (k2 : y0 = 1 → G d 101 73 [none, none, none, vQ r3] [] τ Q) (k3 : y0 = 2 → G d 101 78 [none, none, none, vQ r3] [] τ Q) (k4 : y0 = 3 → G d 101 83 [none, none, none, vQ r3] [] τ Q) (k5 : y0 = 4 → G d 101 88 [none, none, none, vQ r3] [] τ Q) (k6 : y0 = 5 → G d 101 93 [none, none, none, vQ r3] [] τ Q) (k7 : y0 = 6 → G d 101 98 [none, none, none, vQ r3] [] τ Q) (k8 : y0 = 7 → G d 101 111 [none, none, none, vQ r3] [] τ Q) (k9 : y0 = 8 → G d 101 124 [none, none, none, vQ r3] [] τ Q) (k10 : y0 < 0 ∨ 8 < y0 → G d 101 137 [none, none, none, none] [] τ Q) : G d 101 18 [none, none, none, vQ r3] [AI y0] τ Q := by
  by_cases c0 : y0 = 0
  · rw [c0]
    refine g_st (τ1 := τ) rfl (pc1 := 68) (L1 := [none, none, none, vQ r3]) (st1 := []) rfl ?_
    exact (k1 c0)
  by_cases c1 : y0 = 1
  · rw [c1]
    refine g_st (τ1 := τ) rfl (pc1 := 73) (L1 := [none, none, none, vQ r3]) (st1 := []) rfl ?_
    exact (k2 c1)
  by_cases c2 : y0 = 2
  · rw [c2]
    refine g_st (τ1 := τ) rfl (pc1 := 78) (L1 := [none, none, none, vQ r3]) (st1 := []) rfl ?_
    exact (k3 c2)
  by_cases c3 : y0 = 3
  · rw [c3]
    refine g_st (τ1 := τ) rfl (pc1 := 83) (L1 := [none, none, none, vQ r3]) (st1 := []) rfl ?_
    exact (k4 c3)
  by_cases c4 : y0 = 4
  · rw [c4]
    refine g_st (τ1 := τ) rfl (pc1 := 88) (L1 := [none, none, none, vQ r3]) (st1 := []) rfl ?_
    exact (k5 c4)
  by_cases c5 : y0 = 5
  · rw [c5]
    refine g_st (τ1 := τ) rfl (pc1 := 93) (L1 := [none, none, none, vQ r3]) (st1 := []) rfl ?_
    exact (k6 c5)
  by_cases c6 : y0 = 6
  · rw [c6]
    refine g_st (τ1 := τ) rfl (pc1 := 98) (L1 := [none, none, none, vQ r3]) (st1 := []) rfl ?_
    exact (k7 c6)
  by_cases c7 : y0 = 7
  · rw [c7]
    refine g_st (τ1 := τ) rfl (pc1 := 111) (L1 := [none, none, none, vQ r3]) (st1 := []) rfl ?_
    exact (k8 c7)
  by_cases c8 : y0 = 8
  · rw [c8]
    refine g_st (τ1 := τ) rfl (pc1 := 124) (L1 := [none, none, none, vQ r3]) (st1 := []) rfl ?_
    exact (k9 c8)
  have cd : y0 < 0 ∨ 8 < y0 := by omega
  refine g_tsd rfl (t0 := 137) rfl cd ?_
  exact G_fg (lw2_k _ (lw2_k _ (lw2_k _ (lw2_f _ lw2_nil)))) (k10 cd)

set_option maxRecDepth 8192 in
theorem t101_68 {d : Nat} {τ : T2} {Q : RS → T2 → Prop} {r3 : Nat} (sh1 : tS τ r3 = (1, 6, 0)) (k1 : Q (.inl (some (AI (tI τ r3 0)))) τ) : G d 101 68 [none, none, none, vR r3] [] τ Q := by
  refine g_sk 1 (pc1 := 69) (st1 := [AR r3]) rfl ?_
  refine g_gI rfl (ci := 6) (k := 0) rfl sh1 ?_
  refine g_iret rfl rfl ?_
  exact k1

set_option maxRecDepth 8192 in
theorem t101_73 {d : Nat} {τ : T2} {Q : RS → T2 → Prop} {r3 : Nat} (sh1 : tS τ r3 = (1, 6, 0)) (k1 : Q (.inl (some (AI (tI τ r3 1)))) τ) : G d 101 73 [none, none, none, vR r3] [] τ Q := by
  refine g_sk 1 (pc1 := 74) (st1 := [AR r3]) rfl ?_
  refine g_gI rfl (ci := 6) (k := 1) rfl sh1 ?_
  refine g_iret rfl rfl ?_
  exact k1

set_option maxRecDepth 8192 in
theorem t101_78 {d : Nat} {τ : T2} {Q : RS → T2 → Prop} {r3 : Nat} (sh1 : tS τ r3 = (1, 6, 0)) (k1 : Q (.inl (some (AI (tI τ r3 3)))) τ) : G d 101 78 [none, none, none, vR r3] [] τ Q := by
  refine g_sk 1 (pc1 := 79) (st1 := [AR r3]) rfl ?_
  refine g_gI rfl (ci := 6) (k := 3) rfl sh1 ?_
  refine g_iret rfl rfl ?_
  exact k1

set_option maxRecDepth 8192 in
theorem t101_83 {d : Nat} {τ : T2} {Q : RS → T2 → Prop} {r3 : Nat} (sh1 : tS τ r3 = (1, 6, 0)) (k1 : Q (.inl (some (AI (tI τ r3 4)))) τ) : G d 101 83 [none, none, none, vR r3] [] τ Q := by
  refine g_sk 1 (pc1 := 84) (st1 := [AR r3]) rfl ?_
  refine g_gI rfl (ci := 6) (k := 4) rfl sh1 ?_
  refine g_iret rfl rfl ?_
  exact k1

set_option maxRecDepth 8192 in
theorem t101_88 {d : Nat} {τ : T2} {Q : RS → T2 → Prop} {r3 : Nat} (sh1 : tS τ r3 = (1, 6, 0)) (k1 : Q (.inl (some (AI (tI τ r3 5)))) τ) : G d 101 88 [none, none, none, vR r3] [] τ Q := by
  refine g_sk 1 (pc1 := 89) (st1 := [AR r3]) rfl ?_
  refine g_gI rfl (ci := 6) (k := 5) rfl sh1 ?_
  refine g_iret rfl rfl ?_
  exact k1

set_option maxRecDepth 8192 in
theorem t101_93 {d : Nat} {τ : T2} {Q : RS → T2 → Prop} {r3 : Nat} (sh1 : tS τ r3 = (1, 6, 0)) (k1 : Q (.inl (some (AI (tI τ r3 6)))) τ) : G d 101 93 [none, none, none, vR r3] [] τ Q := by
  refine g_sk 1 (pc1 := 94) (st1 := [AR r3]) rfl ?_
  refine g_gI rfl (ci := 6) (k := 6) rfl sh1 ?_
  refine g_iret rfl rfl ?_
  exact k1

set_option maxRecDepth 8192 in
theorem t101_98 {d : Nat} {τ : T2} {Q : RS → T2 → Prop} {r3 : Nat} (sh1 : tS τ r3 = (1, 6, 0)) (k1 : (tP τ r3 9) = none → Q (.inl (some (AI 0))) τ) (k2 : ∀ q3, (tP τ r3 9) = some q3 → G d 101 105 [none, none, none, none] [] τ Q) : G d 101 98 [none, none, none, vR r3] [] τ Q := by
  refine g_sk 1 (pc1 := 99) (st1 := [AR r3]) rfl ?_
  refine g_gP rfl (ci := 6) (k := 9) rfl sh1 ?_
  refine g_nul rfl (t := 109) rfl (fun c2 => ?_) (fun q3 c2 => ?_)
  · skip
    refine g_sk 1 (pc1 := 110) (st1 := [AI 0]) rfl ?_
    refine g_iret rfl rfl ?_
    exact (k1 c2)
  · skip
    exact G_fg (lw2_k _ (lw2_k _ (lw2_k _ (lw2_f _ lw2_nil)))) (k2 q3 c2)

set_option maxRecDepth 8192 in
theorem t101_111 {d : Nat} {τ : T2} {Q : RS → T2 → Prop} {r3 : Nat} (sh1 : tS τ r3 = (1, 6, 0)) (k1 : (tP τ r3 10) = none → Q (.inl (some (AI 0))) τ) (k2 : ∀ q3, (tP τ r3 10) = some q3 → G d 101 118 [none, none, none, none] [] τ Q) : G d 101 111 [none, none, none, vR r3] [] τ Q := by
  refine g_sk 1 (pc1 := 112) (st1 := [AR r3]) rfl ?_
  refine g_gP rfl (ci := 6) (k := 10) rfl sh1 ?_
  refine g_nul rfl (t := 122) rfl (fun c2 => ?_) (fun q3 c2 => ?_)
  · skip
    refine g_sk 1 (pc1 := 123) (st1 := [AI 0]) rfl ?_
    refine g_iret rfl rfl ?_
    exact (k1 c2)
  · skip
    exact G_fg (lw2_k _ (lw2_k _ (lw2_k _ (lw2_f _ lw2_nil)))) (k2 q3 c2)

set_option maxRecDepth 8192 in
theorem t101_124 {d : Nat} {τ : T2} {Q : RS → T2 → Prop} {r3 : Nat} (sh1 : tS τ r3 = (1, 6, 0)) (k1 : (tP τ r3 11) = none → Q (.inl (some (AI 0))) τ) (k2 : ∀ q3, (tP τ r3 11) = some q3 → G d 101 131 [none, none, none, none] [] τ Q) : G d 101 124 [none, none, none, vR r3] [] τ Q := by
  refine g_sk 1 (pc1 := 125) (st1 := [AR r3]) rfl ?_
  refine g_gP rfl (ci := 6) (k := 11) rfl sh1 ?_
  refine g_nul rfl (t := 135) rfl (fun c2 => ?_) (fun q3 c2 => ?_)
  · skip
    refine g_sk 1 (pc1 := 136) (st1 := [AI 0]) rfl ?_
    refine g_iret rfl rfl ?_
    exact (k1 c2)
  · skip
    exact G_fg (lw2_k _ (lw2_k _ (lw2_k _ (lw2_f _ lw2_nil)))) (k2 q3 c2)

set_option maxRecDepth 8192 in
theorem t101_137 {d : Nat} {τ : T2} {Q : RS → T2 → Prop}  (k1 : Q (.inl (some (AI (-1)))) τ) : G d 101 137 [none, none, none, none] [] τ Q := by
  refine g_sk 1 (pc1 := 138) (st1 := [AI (-1)]) rfl ?_
  refine g_iret rfl rfl ?_
  exact k1

set_option maxRecDepth 8192 in
theorem t115_18 {d : Nat} {τ : T2} {Q : RS → T2 → Prop} {y0 : Int} {r0 : Nat} {r3 : Option Nat} (k1 : y0 = 0 → G d 115 60 [none, none, none, vQ r3] [] τ Q) (k2 : y0 = 1 → G d 115 65 [vR r0, none, none, vQ r3] [] τ Q) (k3 : y0 = 2 → G d 115 77 [vR r0, none, none, vQ r3] [] τ Q) (k4 : y0 = 3 → G d 115 90 [vR r0, none, none, vQ r3] [] τ Q) (k5 : y0 = 4 → G d 115 104 [vR r0, none, none, vQ r3] [] τ Q) (k6 : y0 = 5 → G d 115 117 [none, none, none, vQ r3] [] τ Q) (k7 : y0 = 6 → G d 115 122 [vR r0, none, none, vQ r3] [] τ Q) (k8 : y0 < 0 ∨ 6 < y0 → G d 115 131 [none, none, none, none] [] τ Q) : G d 115 18 [vR r0, none, none, vQ r3] [AI y0] τ Q := by
  by_cases c0 : y0 = 0
  · rw [c0]
    refine g_st (τ1 := τ) rfl (pc1 := 60) (L1 := [vR r0, none, none, vQ r3]) (st1 := []) rfl ?_
    exact G_fg (lw2_f _ (lw2_k _ (lw2_k _ (lw2_k _ lw2_nil)))) (k1 c0)
  by_cases c1 : y0 = 1
  · rw [c1]
    refine g_st (τ1 := τ) rfl (pc1 := 65) (L1 := [vR r0, none, none, vQ r3]) (st1 := []) rfl ?_
    exact (k2 c1)
  by_cases c2 : y0 = 2
  · rw [c2]
    refine g_st (τ1 := τ) rfl (pc1 := 77) (L1 := [vR r0, none, none, vQ r3]) (st1 := []) rfl ?_
    exact (k3 c2)
  by_cases c3 : y0 = 3
  · rw [c3]
    refine g_st (τ1 := τ) rfl (pc1 := 90) (L1 := [vR r0, none, none, vQ r3]) (st1 := []) rfl ?_
    exact (k4 c3)
  by_cases c4 : y0 = 4
  · rw [c4]
    refine g_st (τ1 := τ) rfl (pc1 := 104) (L1 := [vR r0, none, none, vQ r3]) (st1 := []) rfl ?_
    exact (k5 c4)
  by_cases c5 : y0 = 5
  · rw [c5]
    refine g_st (τ1 := τ) rfl (pc1 := 117) (L1 := [vR r0, none, none, vQ r3]) (st1 := []) rfl ?_
    exact G_fg (lw2_f _ (lw2_k _ (lw2_k _ (lw2_k _ lw2_nil)))) (k6 c5)
  by_cases c6 : y0 = 6
  · rw [c6]
    refine g_st (τ1 := τ) rfl (pc1 := 122) (L1 := [vR r0, none, none, vQ r3]) (st1 := []) rfl ?_
    exact (k7 c6)
  have cd : y0 < 0 ∨ 6 < y0 := by omega
  refine g_tsd rfl (t0 := 131) rfl cd ?_
  exact G_fg (lw2_f _ (lw2_k _ (lw2_k _ (lw2_f _ lw2_nil)))) (k8 cd)

set_option maxRecDepth 8192 in
theorem t115_60 {d : Nat} {τ : T2} {Q : RS → T2 → Prop} {r3 : Nat} (sh1 : tS τ r3 = (1, 8, 0)) (k1 : Q (.inl (some (AI (tI τ r3 0)))) τ) : G d 115 60 [none, none, none, vR r3] [] τ Q := by
  refine g_sk 1 (pc1 := 61) (st1 := [AR r3]) rfl ?_
  refine g_gI rfl (ci := 8) (k := 0) rfl sh1 ?_
  refine g_iret rfl rfl ?_
  exact k1

set_option maxRecDepth 8192 in
theorem t115_65 {d : Nat} {τ : T2} {Q : RS → T2 → Prop} {r0 r3 : Nat} (hd : 1 ≤ d) (sh1 : tS τ r0 = (1, 11, 0)) (sh2 : tS τ r3 = (1, 8, 0)) (k1 : G (d - 1) 61 0 [vR r3, vI (tI τ r0 9), none, none] [] τ (KC d 115 70 73 [none, none, none, none] [] Q)) : G d 115 65 [vR r0, none, none, vR r3] [] τ Q := by
  refine g_sk 2 (pc1 := 67) (st1 := [AR r0, AR r3]) rfl ?_
  refine g_gI rfl (ci := 11) (k := 9) rfl sh1 ?_
  refine G_fg (lw2_f _ (lw2_k _ (lw2_k _ (lw2_f _ lw2_nil)))) ?_
  refine g_cv rfl rfl (by decide) rfl rfl (Nat.le_of_ble_eq_true rfl) (as2 := [AI (tI τ r0 9)]) rfl sh2 rfl (by omega) (L0 := [vR r3, vI (tI τ r0 9), none, none]) rfl ?_
  exact k1

set_option maxRecDepth 8192 in
theorem t115_77 {d : Nat} {τ : T2} {Q : RS → T2 → Prop} {r0 r3 : Nat} (hd : 1 ≤ d) (sh1 : tS τ r0 = (1, 11, 0)) (sh2 : tS τ r3 = (1, 8, 0)) (k1 : G (d - 1) 64 0 [vR r3, vI (tI τ r0 9), vQ (tP τ r0 2)] [] τ (KC d 115 86 89 [none, none, none, none] [] Q)) : G d 115 77 [vR r0, none, none, vR r3] [] τ Q := by
  refine g_sk 2 (pc1 := 79) (st1 := [AR r0, AR r3]) rfl ?_
  refine g_gI rfl (ci := 11) (k := 9) rfl sh1 ?_
  refine g_sk 1 (pc1 := 83) (st1 := [AR r0, AI (tI τ r0 9), AR r3]) rfl ?_
  refine g_gP rfl (ci := 11) (k := 2) rfl sh1 ?_
  refine G_fg (lw2_f _ (lw2_k _ (lw2_k _ (lw2_f _ lw2_nil)))) ?_
  refine g_cv rfl rfl (by decide) rfl rfl (Nat.le_of_ble_eq_true rfl) (as2 := [AI (tI τ r0 9), AP (tP τ r0 2)]) rfl sh2 rfl (by omega) (L0 := [vR r3, vI (tI τ r0 9), vQ (tP τ r0 2)]) rfl ?_
  exact k1

set_option maxRecDepth 8192 in
theorem t115_90 {d : Nat} {τ : T2} {Q : RS → T2 → Prop} {r0 r3 : Nat} (hd : 1 ≤ d) (sh1 : tS τ r0 = (1, 11, 0)) (sh2 : tS τ r3 = (1, 8, 0)) (k1 : G (d - 1) 62 0 [vR r3, vI (tI τ r0 9), none, none] [] τ (KC d 115 99 102 [none, none, none, none] [AI (tI τ r0 9)] Q)) : G d 115 90 [vR r0, none, none, vR r3] [] τ Q := by
  refine g_sk 1 (pc1 := 91) (st1 := [AR r0]) rfl ?_
  refine g_gI rfl (ci := 11) (k := 9) rfl sh1 ?_
  refine g_sk 2 (pc1 := 96) (st1 := [AR r0, AR r3, AI (tI τ r0 9)]) rfl ?_
  refine g_gI rfl (ci := 11) (k := 9) rfl sh1 ?_
  refine G_fg (lw2_f _ (lw2_k _ (lw2_k _ (lw2_f _ lw2_nil)))) ?_
  refine g_cv rfl rfl (by decide) rfl rfl (Nat.le_of_ble_eq_true rfl) (as2 := [AI (tI τ r0 9)]) rfl sh2 rfl (by omega) (L0 := [vR r3, vI (tI τ r0 9), none, none]) rfl ?_
  exact k1

set_option maxRecDepth 8192 in
theorem t115_104 {d : Nat} {τ : T2} {Q : RS → T2 → Prop} {r0 r3 : Nat} (hd : 1 ≤ d) (sh1 : tS τ r0 = (1, 11, 0)) (sh2 : tS τ r3 = (1, 8, 0)) (k1 : G (d - 1) 63 0 [vR r3, vI (tI τ r0 9), vQ (tP τ r0 2), none, none, none] [] τ (KC d 115 113 116 [none, none, none, none] [] Q)) : G d 115 104 [vR r0, none, none, vR r3] [] τ Q := by
  refine g_sk 2 (pc1 := 106) (st1 := [AR r0, AR r3]) rfl ?_
  refine g_gI rfl (ci := 11) (k := 9) rfl sh1 ?_
  refine g_sk 1 (pc1 := 110) (st1 := [AR r0, AI (tI τ r0 9), AR r3]) rfl ?_
  refine g_gP rfl (ci := 11) (k := 2) rfl sh1 ?_
  refine G_fg (lw2_f _ (lw2_k _ (lw2_k _ (lw2_f _ lw2_nil)))) ?_
  refine g_cv rfl rfl (by decide) rfl rfl (Nat.le_of_ble_eq_true rfl) (as2 := [AI (tI τ r0 9), AP (tP τ r0 2)]) rfl sh2 rfl (by omega) (L0 := [vR r3, vI (tI τ r0 9), vQ (tP τ r0 2), none, none, none]) rfl ?_
  exact k1

set_option maxRecDepth 8192 in
theorem t115_117 {d : Nat} {τ : T2} {Q : RS → T2 → Prop} {r3 : Nat} (sh1 : tS τ r3 = (1, 8, 0)) (k1 : Q (.inl (some (AI (tI τ r3 1)))) τ) : G d 115 117 [none, none, none, vR r3] [] τ Q := by
  refine g_sk 1 (pc1 := 118) (st1 := [AR r3]) rfl ?_
  refine g_gI rfl (ci := 8) (k := 1) rfl sh1 ?_
  refine g_iret rfl rfl ?_
  exact k1

set_option maxRecDepth 8192 in
theorem t115_122 {d : Nat} {τ : T2} {Q : RS → T2 → Prop} {r0 r3 : Nat} (hd : 1 ≤ d) (sh1 : tS τ r0 = (1, 11, 0)) (sh2 : tS τ r3 = (1, 8, 0)) (k1 : G (d - 1) 61 0 [vR r3, vI (tI τ r0 9), none, none] [] τ (KC d 115 127 130 [none, none, none, none] [] Q)) : G d 115 122 [vR r0, none, none, vR r3] [] τ Q := by
  refine g_sk 2 (pc1 := 124) (st1 := [AR r0, AR r3]) rfl ?_
  refine g_gI rfl (ci := 11) (k := 9) rfl sh1 ?_
  refine G_fg (lw2_f _ (lw2_k _ (lw2_k _ (lw2_f _ lw2_nil)))) ?_
  refine g_cv rfl rfl (by decide) rfl rfl (Nat.le_of_ble_eq_true rfl) (as2 := [AI (tI τ r0 9)]) rfl sh2 rfl (by omega) (L0 := [vR r3, vI (tI τ r0 9), none, none]) rfl ?_
  exact k1

set_option maxRecDepth 8192 in
theorem t115_131 {d : Nat} {τ : T2} {Q : RS → T2 → Prop}  (k1 : Q (.inl (some (AI (-1)))) τ) : G d 115 131 [none, none, none, none] [] τ Q := by
  refine g_sk 1 (pc1 := 132) (st1 := [AI (-1)]) rfl ?_
  refine g_iret rfl rfl ?_
  exact k1

set_option maxRecDepth 8192 in
theorem t116_27 {d : Nat} {τ : T2} {Q : RS → T2 → Prop} {x2 y0 : Int} {r4 : Option Nat} (k1 : y0 = 0 → G d 116 56 [none, none, vI x2, none, vQ r4] [] τ Q) (k2 : y0 = 1 → G d 116 64 [none, none, vI x2, none, vQ r4] [] τ Q) (k3 : y0 = 2 → G d 116 72 [none, none, vI x2, none, vQ r4] [] τ Q) (k4 : y0 = 3 → G d 116 80 [none, none, vI x2, none, vQ r4] [] τ Q) (k5 : y0 < 0 ∨ 3 < y0 → G d 116 88 [none, none, none, none, none] [] τ Q) : G d 116 27 [none, none, vI x2, none, vQ r4] [AI y0] τ Q := by
  by_cases c0 : y0 = 0
  · rw [c0]
    refine g_st (τ1 := τ) rfl (pc1 := 56) (L1 := [none, none, vI x2, none, vQ r4]) (st1 := []) rfl ?_
    exact (k1 c0)
  by_cases c1 : y0 = 1
  · rw [c1]
    refine g_st (τ1 := τ) rfl (pc1 := 64) (L1 := [none, none, vI x2, none, vQ r4]) (st1 := []) rfl ?_
    exact (k2 c1)
  by_cases c2 : y0 = 2
  · rw [c2]
    refine g_st (τ1 := τ) rfl (pc1 := 72) (L1 := [none, none, vI x2, none, vQ r4]) (st1 := []) rfl ?_
    exact (k3 c2)
  by_cases c3 : y0 = 3
  · rw [c3]
    refine g_st (τ1 := τ) rfl (pc1 := 80) (L1 := [none, none, vI x2, none, vQ r4]) (st1 := []) rfl ?_
    exact (k4 c3)
  have cd : y0 < 0 ∨ 3 < y0 := by omega
  refine g_tsd rfl (t0 := 88) rfl cd ?_
  exact G_fg (lw2_k _ (lw2_k _ (lw2_f _ (lw2_k _ (lw2_f _ lw2_nil))))) (k5 cd)

set_option maxRecDepth 8192 in
theorem t116_56 {d : Nat} {τ : T2} {Q : RS → T2 → Prop} {x2 : Int} {r4 q2 n4 : Nat} (sh1 : tS τ r4 = (1, 8, 0)) (p3 : tP τ r4 2 = some q2) (sh5 : tS τ q2 = (2, 0, n4)) (b6 : (0 : Int) ≤ x2 ∧ x2 < (n4 : Int)) (k1 : Q (.inl (some (AI (tI τ q2 x2.toNat)))) τ) : G d 116 56 [none, none, vI x2, none, vR r4] [] τ Q := by
  refine g_sk 1 (pc1 := 58) (st1 := [AR r4]) rfl ?_
  refine g_gQ rfl (ci := 8) (k := 2) rfl sh1 p3 ?_
  refine g_sk 1 (pc1 := 62) (st1 := [AI x2, AR q2]) rfl ?_
  refine g_iald rfl sh5 (by decide) b6.1 b6.2 ?_
  refine g_iret rfl rfl ?_
  exact k1

set_option maxRecDepth 8192 in
theorem t116_64 {d : Nat} {τ : T2} {Q : RS → T2 → Prop} {x2 : Int} {r4 q2 n4 : Nat} (sh1 : tS τ r4 = (1, 8, 0)) (p3 : tP τ r4 3 = some q2) (sh5 : tS τ q2 = (2, 0, n4)) (b6 : (0 : Int) ≤ x2 ∧ x2 < (n4 : Int)) (k1 : Q (.inl (some (AI (tI τ q2 x2.toNat)))) τ) : G d 116 64 [none, none, vI x2, none, vR r4] [] τ Q := by
  refine g_sk 1 (pc1 := 66) (st1 := [AR r4]) rfl ?_
  refine g_gQ rfl (ci := 8) (k := 3) rfl sh1 p3 ?_
  refine g_sk 1 (pc1 := 70) (st1 := [AI x2, AR q2]) rfl ?_
  refine g_iald rfl sh5 (by decide) b6.1 b6.2 ?_
  refine g_iret rfl rfl ?_
  exact k1

set_option maxRecDepth 8192 in
theorem t116_72 {d : Nat} {τ : T2} {Q : RS → T2 → Prop} {x2 : Int} {r4 q2 n4 : Nat} (sh1 : tS τ r4 = (1, 8, 0)) (p3 : tP τ r4 4 = some q2) (sh5 : tS τ q2 = (2, 0, n4)) (b6 : (0 : Int) ≤ x2 ∧ x2 < (n4 : Int)) (k1 : Q (.inl (some (AI (tI τ q2 x2.toNat)))) τ) : G d 116 72 [none, none, vI x2, none, vR r4] [] τ Q := by
  refine g_sk 1 (pc1 := 74) (st1 := [AR r4]) rfl ?_
  refine g_gQ rfl (ci := 8) (k := 4) rfl sh1 p3 ?_
  refine g_sk 1 (pc1 := 78) (st1 := [AI x2, AR q2]) rfl ?_
  refine g_iald rfl sh5 (by decide) b6.1 b6.2 ?_
  refine g_iret rfl rfl ?_
  exact k1

set_option maxRecDepth 8192 in
theorem t116_80 {d : Nat} {τ : T2} {Q : RS → T2 → Prop} {x2 : Int} {r4 q2 n4 : Nat} (sh1 : tS τ r4 = (1, 8, 0)) (p3 : tP τ r4 5 = some q2) (sh5 : tS τ q2 = (2, 0, n4)) (b6 : (0 : Int) ≤ x2 ∧ x2 < (n4 : Int)) (k1 : Q (.inl (some (AI (tI τ q2 x2.toNat)))) τ) : G d 116 80 [none, none, vI x2, none, vR r4] [] τ Q := by
  refine g_sk 1 (pc1 := 82) (st1 := [AR r4]) rfl ?_
  refine g_gQ rfl (ci := 8) (k := 5) rfl sh1 p3 ?_
  refine g_sk 1 (pc1 := 86) (st1 := [AI x2, AR q2]) rfl ?_
  refine g_iald rfl sh5 (by decide) b6.1 b6.2 ?_
  refine g_iret rfl rfl ?_
  exact k1

set_option maxRecDepth 8192 in
theorem t116_88 {d : Nat} {τ : T2} {Q : RS → T2 → Prop}  (k1 : Q (.inl (some (AI (-1)))) τ) : G d 116 88 [none, none, none, none, none] [] τ Q := by
  refine g_sk 1 (pc1 := 89) (st1 := [AI (-1)]) rfl ?_
  refine g_iret rfl rfl ?_
  exact k1

set_option maxRecDepth 8192 in
theorem t123_1 {d : Nat} {τ : T2} {Q : RS → T2 → Prop} {y0 : Int} {r0 : Nat} (k1 : y0 = 0 → G d 123 44 [vR r0, none] [] τ Q) (k2 : y0 = 1 → G d 123 49 [vR r0, none] [] τ Q) (k3 : y0 = 2 → G d 123 54 [vR r0, none] [] τ Q) (k4 : y0 = 3 → G d 123 62 [vR r0, none] [] τ Q) (k5 : y0 = 4 → G d 123 67 [vR r0, none] [] τ Q) (k6 : y0 = 5 → G d 123 75 [vR r0, none] [] τ Q) (k7 : y0 = 6 → G d 123 80 [vR r0, none] [] τ Q) (k8 : y0 < 0 ∨ 6 < y0 → G d 123 88 [none, none] [] τ Q) : G d 123 1 [vR r0, none] [AI y0] τ Q := by
  by_cases c0 : y0 = 0
  · rw [c0]
    refine g_st (τ1 := τ) rfl (pc1 := 44) (L1 := [vR r0, none]) (st1 := []) rfl ?_
    exact (k1 c0)
  by_cases c1 : y0 = 1
  · rw [c1]
    refine g_st (τ1 := τ) rfl (pc1 := 49) (L1 := [vR r0, none]) (st1 := []) rfl ?_
    exact (k2 c1)
  by_cases c2 : y0 = 2
  · rw [c2]
    refine g_st (τ1 := τ) rfl (pc1 := 54) (L1 := [vR r0, none]) (st1 := []) rfl ?_
    exact (k3 c2)
  by_cases c3 : y0 = 3
  · rw [c3]
    refine g_st (τ1 := τ) rfl (pc1 := 62) (L1 := [vR r0, none]) (st1 := []) rfl ?_
    exact (k4 c3)
  by_cases c4 : y0 = 4
  · rw [c4]
    refine g_st (τ1 := τ) rfl (pc1 := 67) (L1 := [vR r0, none]) (st1 := []) rfl ?_
    exact (k5 c4)
  by_cases c5 : y0 = 5
  · rw [c5]
    refine g_st (τ1 := τ) rfl (pc1 := 75) (L1 := [vR r0, none]) (st1 := []) rfl ?_
    exact (k6 c5)
  by_cases c6 : y0 = 6
  · rw [c6]
    refine g_st (τ1 := τ) rfl (pc1 := 80) (L1 := [vR r0, none]) (st1 := []) rfl ?_
    exact (k7 c6)
  have cd : y0 < 0 ∨ 6 < y0 := by omega
  refine g_tsd rfl (t0 := 88) rfl cd ?_
  exact G_fg (lw2_f _ (lw2_k _ lw2_nil)) (k8 cd)

set_option maxRecDepth 8192 in
theorem t123_44 {d : Nat} {τ : T2} {Q : RS → T2 → Prop} {r0 : Nat} (sh1 : tS τ r0 = (1, 11, 0)) (k1 : Q (.inl (some (AI (tI τ r0 3)))) τ) : G d 123 44 [vR r0, none] [] τ Q := by
  refine g_sk 1 (pc1 := 45) (st1 := [AR r0]) rfl ?_
  refine g_gI rfl (ci := 11) (k := 3) rfl sh1 ?_
  refine g_iret rfl rfl ?_
  exact k1

set_option maxRecDepth 8192 in
theorem t123_49 {d : Nat} {τ : T2} {Q : RS → T2 → Prop} {r0 : Nat} (sh1 : tS τ r0 = (1, 11, 0)) (k1 : Q (.inl (some (AI (tI τ r0 6)))) τ) : G d 123 49 [vR r0, none] [] τ Q := by
  refine g_sk 1 (pc1 := 50) (st1 := [AR r0]) rfl ?_
  refine g_gI rfl (ci := 11) (k := 6) rfl sh1 ?_
  refine g_iret rfl rfl ?_
  exact k1

set_option maxRecDepth 8192 in
theorem t123_54 {d : Nat} {τ : T2} {Q : RS → T2 → Prop} {r0 q2 : Nat} (sh1 : tS τ r0 = (1, 11, 0)) (p3 : tP τ r0 8 = some q2) (sh4 : tS τ q2 = (1, 2, 0)) (k1 : Q (.inl (some (AI (tI τ q2 2)))) τ) : G d 123 54 [vR r0, none] [] τ Q := by
  refine g_sk 1 (pc1 := 55) (st1 := [AR r0]) rfl ?_
  refine g_gQ rfl (ci := 11) (k := 8) rfl sh1 p3 ?_
  refine g_gI rfl (ci := 2) (k := 2) rfl sh4 ?_
  refine g_iret rfl rfl ?_
  exact k1

set_option maxRecDepth 8192 in
theorem t123_62 {d : Nat} {τ : T2} {Q : RS → T2 → Prop} {r0 : Nat} (sh1 : tS τ r0 = (1, 11, 0)) (k1 : Q (.inl (some (AI (tI τ r0 9)))) τ) : G d 123 62 [vR r0, none] [] τ Q := by
  refine g_sk 1 (pc1 := 63) (st1 := [AR r0]) rfl ?_
  refine g_gI rfl (ci := 11) (k := 9) rfl sh1 ?_
  refine g_iret rfl rfl ?_
  exact k1

set_option maxRecDepth 8192 in
theorem t123_67 {d : Nat} {τ : T2} {Q : RS → T2 → Prop} {r0 q2 : Nat} (sh1 : tS τ r0 = (1, 11, 0)) (p3 : tP τ r0 15 = some q2) (sh4 : tS τ q2 = (1, 5, 0)) (k1 : Q (.inl (some (AI (tI τ q2 3)))) τ) : G d 123 67 [vR r0, none] [] τ Q := by
  refine g_sk 1 (pc1 := 68) (st1 := [AR r0]) rfl ?_
  refine g_gQ rfl (ci := 11) (k := 15) rfl sh1 p3 ?_
  refine g_gI rfl (ci := 5) (k := 3) rfl sh4 ?_
  refine g_iret rfl rfl ?_
  exact k1

set_option maxRecDepth 8192 in
theorem t123_75 {d : Nat} {τ : T2} {Q : RS → T2 → Prop} {r0 : Nat} (sh1 : tS τ r0 = (1, 11, 0)) (k1 : Q (.inl (some (AI (tI τ r0 1)))) τ) : G d 123 75 [vR r0, none] [] τ Q := by
  refine g_sk 1 (pc1 := 76) (st1 := [AR r0]) rfl ?_
  refine g_gI rfl (ci := 11) (k := 1) rfl sh1 ?_
  refine g_iret rfl rfl ?_
  exact k1

set_option maxRecDepth 8192 in
theorem t123_80 {d : Nat} {τ : T2} {Q : RS → T2 → Prop} {r0 q2 : Nat} (sh1 : tS τ r0 = (1, 11, 0)) (p3 : tP τ r0 12 = some q2) (sh4 : tS τ q2 = (1, 7, 0)) (k1 : Q (.inl (some (AI (tI τ q2 1)))) τ) : G d 123 80 [vR r0, none] [] τ Q := by
  refine g_sk 1 (pc1 := 81) (st1 := [AR r0]) rfl ?_
  refine g_gQ rfl (ci := 11) (k := 12) rfl sh1 p3 ?_
  refine g_gI rfl (ci := 7) (k := 1) rfl sh4 ?_
  refine g_iret rfl rfl ?_
  exact k1

set_option maxRecDepth 8192 in
theorem t123_88 {d : Nat} {τ : T2} {Q : RS → T2 → Prop}  (k1 : Q (.inl (some (AI (-1)))) τ) : G d 123 88 [none, none] [] τ Q := by
  refine g_sk 1 (pc1 := 89) (st1 := [AI (-1)]) rfl ?_
  refine g_iret rfl rfl ?_
  exact k1

set_option maxRecDepth 8192 in
theorem t145_57 {d : Nat} {τ : T2} {Q : RS → T2 → Prop} {x1 y0 : Int} {r0 : Nat} {r2 : Option Nat} (k1 : y0 = 1 → G d 145 92 [vR r0, vI x1, vQ r2] [] τ Q) (k2 : y0 = 2 → G d 145 122 [vR r0, none, vQ r2] [] τ Q) (k3 : y0 = 3 → G d 145 136 [vR r0, none, vQ r2] [] τ Q) (k4 : y0 = 4 → G d 145 150 [vR r0, none, vQ r2] [] τ Q) (k5 : y0 = 5 → G d 145 164 [vR r0, none, vQ r2] [] τ Q) (k6 : y0 < 1 ∨ 5 < y0 → G d 145 189 [none, none, vQ r2] [] τ Q) : G d 145 57 [vR r0, vI x1, vQ r2] [AI y0] τ Q := by
  by_cases c0 : y0 = 1
  · rw [c0]
    refine g_st (τ1 := τ) rfl (pc1 := 92) (L1 := [vR r0, vI x1, vQ r2]) (st1 := []) rfl ?_
    exact (k1 c0)
  by_cases c1 : y0 = 2
  · rw [c1]
    refine g_st (τ1 := τ) rfl (pc1 := 122) (L1 := [vR r0, vI x1, vQ r2]) (st1 := []) rfl ?_
    exact G_fg (lw2_k _ (lw2_f _ (lw2_k _ lw2_nil))) (k2 c1)
  by_cases c2 : y0 = 3
  · rw [c2]
    refine g_st (τ1 := τ) rfl (pc1 := 136) (L1 := [vR r0, vI x1, vQ r2]) (st1 := []) rfl ?_
    exact G_fg (lw2_k _ (lw2_f _ (lw2_k _ lw2_nil))) (k3 c2)
  by_cases c3 : y0 = 4
  · rw [c3]
    refine g_st (τ1 := τ) rfl (pc1 := 150) (L1 := [vR r0, vI x1, vQ r2]) (st1 := []) rfl ?_
    exact G_fg (lw2_k _ (lw2_f _ (lw2_k _ lw2_nil))) (k4 c3)
  by_cases c4 : y0 = 5
  · rw [c4]
    refine g_st (τ1 := τ) rfl (pc1 := 164) (L1 := [vR r0, vI x1, vQ r2]) (st1 := []) rfl ?_
    exact G_fg (lw2_k _ (lw2_f _ (lw2_k _ lw2_nil))) (k5 c4)
  have cd : y0 < 1 ∨ 5 < y0 := by omega
  refine g_tsd rfl (t0 := 189) rfl cd ?_
  exact G_fg (lw2_f _ (lw2_f _ (lw2_k _ lw2_nil))) (k6 cd)

set_option maxRecDepth 8192 in
theorem t145_92 {d : Nat} {τ : T2} {Q : RS → T2 → Prop} {x1 : Int} {r0 r2 q2 n5 : Nat} (sh1 : tS τ r0 = (1, 11, 0)) (p3 : tP τ r0 4 = some q2) (sh4 : tS τ r2 = (1, 6, 0)) (sh6 : tS τ q2 = (2, 0, n5)) (b7 : (0 : Int) ≤ (tI (uI τ r0 3 (wr ((tI τ r0 3) - 1))) r2 1) ∧ (tI (uI τ r0 3 (wr ((tI τ r0 3) - 1))) r2 1) < (n5 : Int)) (k1 : Q (.inl none) (uI (uI τ r0 3 (wr ((tI τ r0 3) - 1))) q2 (tI (uI τ r0 3 (wr ((tI τ r0 3) - 1))) r2 1).toNat (zand (tI (uI τ r0 3 (wr ((tI τ r0 3) - 1))) q2 (tI (uI τ r0 3 (wr ((tI τ r0 3) - 1))) r2 1).toNat) (zxor (zshl 1 x1) (-1))))) : G d 145 92 [vR r0, vI x1, vR r2] [] τ Q := by
  refine g_sk 2 (pc1 := 94) (st1 := [AR r0, AR r0]) rfl ?_
  refine g_gI rfl (ci := 11) (k := 3) rfl sh1 ?_
  refine g_sk 2 (pc1 := 99) (st1 := [AI (wr ((tI τ r0 3) - 1)), AR r0]) rfl ?_
  refine g_putI (x := (wr ((tI τ r0 3) - 1))) rfl (ci := 11) (k := 3) (kd := 0) rfl (by decide) rfl rfl sh1 ?_
  refine g_sk 1 (pc1 := 103) (st1 := [AR r0]) rfl ?_
  refine g_gQ rfl (ci := 11) (k := 4) rfl sh1 p3 ?_
  refine g_sk 1 (pc1 := 107) (st1 := [AR r2, AR q2]) rfl ?_
  refine g_gI rfl (ci := 6) (k := 1) rfl sh4 ?_
  refine g_sk 1 (pc1 := 111) (st1 := [AI (tI (uI τ r0 3 (wr ((tI τ r0 3) - 1))) r2 1), AR q2, AI (tI (uI τ r0 3 (wr ((tI τ r0 3) - 1))) r2 1), AR q2]) rfl ?_
  refine g_iald rfl sh6 (by decide) b7.1 b7.2 ?_
  refine g_sk 6 (pc1 := 118) (st1 := [AI (zand (tI (uI τ r0 3 (wr ((tI τ r0 3) - 1))) q2 (tI (uI τ r0 3 (wr ((tI τ r0 3) - 1))) r2 1).toNat) (zxor (zshl 1 x1) (-1))), AI (tI (uI τ r0 3 (wr ((tI τ r0 3) - 1))) r2 1), AR q2]) rfl ?_
  refine g_iast rfl sh6 b7.1 b7.2 ?_
  refine g_sk 1 (pc1 := 199) (st1 := []) rfl ?_
  refine g_vret rfl rfl ?_
  exact k1

set_option maxRecDepth 8192 in
theorem t145_122 {d : Nat} {τ : T2} {Q : RS → T2 → Prop} {r0 r2 q2 : Nat} (sh1 : tS τ r0 = (1, 11, 0)) (p3 : tP τ r0 15 = some q2) (sh4 : tS τ q2 = (1, 5, 0)) (sh5 : tS τ r2 = (1, 6, 0)) (k1 : Q (.inl none) (uP τ r2 9 (tP τ q2 9))) : G d 145 122 [vR r0, none, vR r2] [] τ Q := by
  refine g_sk 2 (pc1 := 124) (st1 := [AR r0, AR r2]) rfl ?_
  refine g_gQ rfl (ci := 11) (k := 15) rfl sh1 p3 ?_
  refine g_gP rfl (ci := 5) (k := 9) rfl sh4 ?_
  refine g_putP rfl (ci := 6) (k := 9) rfl sh5 ?_
  refine g_sk 1 (pc1 := 199) (st1 := []) rfl ?_
  refine g_vret rfl rfl ?_
  exact k1

set_option maxRecDepth 8192 in
theorem t145_136 {d : Nat} {τ : T2} {Q : RS → T2 → Prop} {r0 r2 q2 : Nat} (sh1 : tS τ r0 = (1, 11, 0)) (p3 : tP τ r0 15 = some q2) (sh4 : tS τ q2 = (1, 5, 0)) (sh5 : tS τ r2 = (1, 6, 0)) (k1 : Q (.inl none) (uP τ r2 10 (tP τ q2 9))) : G d 145 136 [vR r0, none, vR r2] [] τ Q := by
  refine g_sk 2 (pc1 := 138) (st1 := [AR r0, AR r2]) rfl ?_
  refine g_gQ rfl (ci := 11) (k := 15) rfl sh1 p3 ?_
  refine g_gP rfl (ci := 5) (k := 9) rfl sh4 ?_
  refine g_putP rfl (ci := 6) (k := 10) rfl sh5 ?_
  refine g_sk 1 (pc1 := 199) (st1 := []) rfl ?_
  refine g_vret rfl rfl ?_
  exact k1

set_option maxRecDepth 8192 in
theorem t145_150 {d : Nat} {τ : T2} {Q : RS → T2 → Prop} {r0 r2 q2 : Nat} (sh1 : tS τ r0 = (1, 11, 0)) (p3 : tP τ r0 15 = some q2) (sh4 : tS τ q2 = (1, 5, 0)) (sh5 : tS τ r2 = (1, 6, 0)) (k1 : Q (.inl none) (uP τ r2 11 (tP τ q2 9))) : G d 145 150 [vR r0, none, vR r2] [] τ Q := by
  refine g_sk 2 (pc1 := 152) (st1 := [AR r0, AR r2]) rfl ?_
  refine g_gQ rfl (ci := 11) (k := 15) rfl sh1 p3 ?_
  refine g_gP rfl (ci := 5) (k := 9) rfl sh4 ?_
  refine g_putP rfl (ci := 6) (k := 11) rfl sh5 ?_
  refine g_sk 1 (pc1 := 199) (st1 := []) rfl ?_
  refine g_vret rfl rfl ?_
  exact k1

set_option maxRecDepth 8192 in
theorem t145_164 {d : Nat} {τ : T2} {Q : RS → T2 → Prop} {r0 r2 q2 : Nat} (sh1 : tS τ r0 = (1, 11, 0)) (p3 : tP τ r0 15 = some q2) (sh4 : tS τ q2 = (1, 5, 0)) (sh5 : tS τ r2 = (1, 6, 0)) (k1 : Q (.inl none) (uI (uI τ r2 4 (tI τ q2 6)) r2 5 (tI (uI τ r2 4 (tI τ q2 6)) q2 7))) : G d 145 164 [vR r0, none, vR r2] [] τ Q := by
  refine g_sk 2 (pc1 := 166) (st1 := [AR r0, AR r2]) rfl ?_
  refine g_gQ rfl (ci := 11) (k := 15) rfl sh1 p3 ?_
  refine g_gI rfl (ci := 5) (k := 6) rfl sh4 ?_
  refine g_putI (x := (tI τ q2 6)) rfl (ci := 6) (k := 4) (kd := 0) rfl (by decide) rfl rfl sh5 ?_
  refine g_sk 2 (pc1 := 177) (st1 := [AR r0, AR r2]) rfl ?_
  refine g_gQ rfl (ci := 11) (k := 15) rfl sh1 p3 ?_
  refine g_gI rfl (ci := 5) (k := 7) rfl sh4 ?_
  refine g_putI (x := (tI (uI τ r2 4 (tI τ q2 6)) q2 7)) rfl (ci := 6) (k := 5) (kd := 0) rfl (by decide) rfl rfl sh5 ?_
  refine g_sk 1 (pc1 := 199) (st1 := []) rfl ?_
  refine g_vret rfl rfl ?_
  exact k1

set_option maxRecDepth 8192 in
theorem t145_189 {d : Nat} {τ : T2} {Q : RS → T2 → Prop} {r2 : Nat} (sh1 : tS τ r2 = (1, 6, 0)) (k1 : Q (.inl none) (uI τ r2 6 (wr ((tI τ r2 6) - 1)))) : G d 145 189 [none, none, vR r2] [] τ Q := by
  refine g_sk 2 (pc1 := 191) (st1 := [AR r2, AR r2]) rfl ?_
  refine g_gI rfl (ci := 6) (k := 6) rfl sh1 ?_
  refine g_sk 2 (pc1 := 196) (st1 := [AI (wr ((tI τ r2 6) - 1)), AR r2]) rfl ?_
  refine g_putI (x := (wr ((tI τ r2 6) - 1))) rfl (ci := 6) (k := 6) (kd := 0) rfl (by decide) rfl rfl sh1 ?_
  refine g_vret rfl rfl ?_
  exact k1

set_option maxRecDepth 8192 in
theorem t171_38 {d : Nat} {τ : T2} {Q : RS → T2 → Prop} {y0 : Int} {r0 : Nat} {r1 : Option Nat} (k1 : y0 = 0 → G d 171 92 [vR r0, none, none] [] τ Q) (k2 : y0 = 1 → G d 171 105 [vR r0, vQ r1, none] [] τ Q) (k3 : y0 = 2 → G d 171 124 [vR r0, vQ r1, none] [] τ Q) (k4 : y0 = 3 → G d 171 143 [vR r0, vQ r1, none] [] τ Q) (k5 : y0 = 4 → G d 171 162 [vR r0, vQ r1, none] [] τ Q) (k6 : y0 = 5 → G d 171 197 [vR r0, vQ r1, none] [] τ Q) (k7 : y0 = 6 → G d 171 218 [vR r0, none, none] [] τ Q) (k8 : y0 = 7 → G d 171 231 [vR r0, none, none] [] τ Q) (k9 : y0 = 8 → G d 171 244 [vR r0, vQ r1, none] [] τ Q) (k10 : y0 = 9 → G d 171 255 [vR r0, vQ r1, none] [] τ Q) (k11 : y0 < 0 ∨ 9 < y0 → G d 171 325 [vR r0, vQ r1, none] [] τ Q) : G d 171 38 [vR r0, vQ r1, none] [AI y0] τ Q := by
  by_cases c0 : y0 = 0
  · rw [c0]
    refine g_st (τ1 := τ) rfl (pc1 := 92) (L1 := [vR r0, vQ r1, none]) (st1 := []) rfl ?_
    exact G_fg (lw2_k _ (lw2_f _ (lw2_k _ lw2_nil))) (k1 c0)
  by_cases c1 : y0 = 1
  · rw [c1]
    refine g_st (τ1 := τ) rfl (pc1 := 105) (L1 := [vR r0, vQ r1, none]) (st1 := []) rfl ?_
    exact (k2 c1)
  by_cases c2 : y0 = 2
  · rw [c2]
    refine g_st (τ1 := τ) rfl (pc1 := 124) (L1 := [vR r0, vQ r1, none]) (st1 := []) rfl ?_
    exact (k3 c2)
  by_cases c3 : y0 = 3
  · rw [c3]
    refine g_st (τ1 := τ) rfl (pc1 := 143) (L1 := [vR r0, vQ r1, none]) (st1 := []) rfl ?_
    exact (k4 c3)
  by_cases c4 : y0 = 4
  · rw [c4]
    refine g_st (τ1 := τ) rfl (pc1 := 162) (L1 := [vR r0, vQ r1, none]) (st1 := []) rfl ?_
    exact (k5 c4)
  by_cases c5 : y0 = 5
  · rw [c5]
    refine g_st (τ1 := τ) rfl (pc1 := 197) (L1 := [vR r0, vQ r1, none]) (st1 := []) rfl ?_
    exact (k6 c5)
  by_cases c6 : y0 = 6
  · rw [c6]
    refine g_st (τ1 := τ) rfl (pc1 := 218) (L1 := [vR r0, vQ r1, none]) (st1 := []) rfl ?_
    exact G_fg (lw2_k _ (lw2_f _ (lw2_k _ lw2_nil))) (k7 c6)
  by_cases c7 : y0 = 7
  · rw [c7]
    refine g_st (τ1 := τ) rfl (pc1 := 231) (L1 := [vR r0, vQ r1, none]) (st1 := []) rfl ?_
    exact G_fg (lw2_k _ (lw2_f _ (lw2_k _ lw2_nil))) (k8 c7)
  by_cases c8 : y0 = 8
  · rw [c8]
    refine g_st (τ1 := τ) rfl (pc1 := 244) (L1 := [vR r0, vQ r1, none]) (st1 := []) rfl ?_
    exact (k9 c8)
  by_cases c9 : y0 = 9
  · rw [c9]
    refine g_st (τ1 := τ) rfl (pc1 := 255) (L1 := [vR r0, vQ r1, none]) (st1 := []) rfl ?_
    exact (k10 c9)
  have cd : y0 < 0 ∨ 9 < y0 := by omega
  refine g_tsd rfl (t0 := 325) rfl cd ?_
  exact (k11 cd)

set_option maxRecDepth 8192 in
theorem t171_92 {d : Nat} {τ : T2} {Q : RS → T2 → Prop} {r0 : Nat} (sh1 : tS τ r0 = (1, 21, 0)) (k1 : Q (.inl (some (AI 1))) (uI τ r0 4 (wr ((tI τ r0 4) - 1)))) : G d 171 92 [vR r0, none, none] [] τ Q := by
  refine g_sk 2 (pc1 := 94) (st1 := [AR r0, AR r0]) rfl ?_
  refine g_gI rfl (ci := 21) (k := 4) rfl sh1 ?_
  refine g_sk 2 (pc1 := 99) (st1 := [AI (wr ((tI τ r0 4) - 1)), AR r0]) rfl ?_
  refine g_putI (x := (wr ((tI τ r0 4) - 1))) rfl (ci := 21) (k := 4) (kd := 0) rfl (by decide) rfl rfl sh1 ?_
  refine g_sk 2 (pc1 := 365) (st1 := [AI 1]) rfl ?_
  refine g_iret rfl rfl ?_
  exact k1

set_option maxRecDepth 8192 in
theorem t171_105 {d : Nat} {τ : T2} {Q : RS → T2 → Prop} {r0 r1 q2 n5 q8 : Nat} (sh1 : tS τ r0 = (1, 21, 0)) (p3 : tP τ r0 8 = some q2) (sh4 : tS τ r1 = (1, 12, 0)) (sh6 : tS τ q2 = (3, 7, n5)) (b7 : (0 : Int) ≤ (tI τ r1 1) ∧ (tI τ r1 1) < (n5 : Int)) (p9 : tP τ q2 (tI τ r1 1).toNat = some q8) (sh10 : tS τ q8 = (1, 15, 0)) (k1 : Q (.inl (some (AI 1))) (uP τ q8 9 (tP τ r1 5))) : G d 171 105 [vR r0, vR r1, none] [] τ Q := by
  refine g_sk 1 (pc1 := 106) (st1 := [AR r0]) rfl ?_
  refine g_gQ rfl (ci := 21) (k := 8) rfl sh1 p3 ?_
  refine g_sk 1 (pc1 := 110) (st1 := [AR r1, AR q2]) rfl ?_
  refine g_gI rfl (ci := 12) (k := 1) rfl sh4 ?_
  refine g_aalQ rfl sh6 (by decide) b7.1 b7.2 p9 ?_
  refine g_sk 1 (pc1 := 115) (st1 := [AR r1, AR q8]) rfl ?_
  refine g_gP rfl (ci := 12) (k := 5) rfl sh4 ?_
  refine g_putP rfl (ci := 15) (k := 9) rfl sh10 ?_
  refine g_sk 2 (pc1 := 365) (st1 := [AI 1]) rfl ?_
  refine g_iret rfl rfl ?_
  exact k1

set_option maxRecDepth 8192 in
theorem t171_124 {d : Nat} {τ : T2} {Q : RS → T2 → Prop} {r0 r1 q2 n5 q8 : Nat} (sh1 : tS τ r0 = (1, 21, 0)) (p3 : tP τ r0 8 = some q2) (sh4 : tS τ r1 = (1, 12, 0)) (sh6 : tS τ q2 = (3, 7, n5)) (b7 : (0 : Int) ≤ (tI τ r1 1) ∧ (tI τ r1 1) < (n5 : Int)) (p9 : tP τ q2 (tI τ r1 1).toNat = some q8) (sh10 : tS τ q8 = (1, 15, 0)) (k1 : Q (.inl (some (AI 1))) (uP τ q8 10 (tP τ r1 6))) : G d 171 124 [vR r0, vR r1, none] [] τ Q := by
  refine g_sk 1 (pc1 := 125) (st1 := [AR r0]) rfl ?_
  refine g_gQ rfl (ci := 21) (k := 8) rfl sh1 p3 ?_
  refine g_sk 1 (pc1 := 129) (st1 := [AR r1, AR q2]) rfl ?_
  refine g_gI rfl (ci := 12) (k := 1) rfl sh4 ?_
  refine g_aalQ rfl sh6 (by decide) b7.1 b7.2 p9 ?_
  refine g_sk 1 (pc1 := 134) (st1 := [AR r1, AR q8]) rfl ?_
  refine g_gP rfl (ci := 12) (k := 6) rfl sh4 ?_
  refine g_putP rfl (ci := 15) (k := 10) rfl sh10 ?_
  refine g_sk 2 (pc1 := 365) (st1 := [AI 1]) rfl ?_
  refine g_iret rfl rfl ?_
  exact k1

set_option maxRecDepth 8192 in
theorem t171_143 {d : Nat} {τ : T2} {Q : RS → T2 → Prop} {r0 r1 q2 n5 q8 : Nat} (sh1 : tS τ r0 = (1, 21, 0)) (p3 : tP τ r0 8 = some q2) (sh4 : tS τ r1 = (1, 12, 0)) (sh6 : tS τ q2 = (3, 7, n5)) (b7 : (0 : Int) ≤ (tI τ r1 1) ∧ (tI τ r1 1) < (n5 : Int)) (p9 : tP τ q2 (tI τ r1 1).toNat = some q8) (sh10 : tS τ q8 = (1, 15, 0)) (k1 : Q (.inl (some (AI 1))) (uP τ q8 11 (tP τ r1 7))) : G d 171 143 [vR r0, vR r1, none] [] τ Q := by
  refine g_sk 1 (pc1 := 144) (st1 := [AR r0]) rfl ?_
  refine g_gQ rfl (ci := 21) (k := 8) rfl sh1 p3 ?_
  refine g_sk 1 (pc1 := 148) (st1 := [AR r1, AR q2]) rfl ?_
  refine g_gI rfl (ci := 12) (k := 1) rfl sh4 ?_
  refine g_aalQ rfl sh6 (by decide) b7.1 b7.2 p9 ?_
  refine g_sk 1 (pc1 := 153) (st1 := [AR r1, AR q8]) rfl ?_
  refine g_gP rfl (ci := 12) (k := 7) rfl sh4 ?_
  refine g_putP rfl (ci := 15) (k := 11) rfl sh10 ?_
  refine g_sk 2 (pc1 := 365) (st1 := [AI 1]) rfl ?_
  refine g_iret rfl rfl ?_
  exact k1

set_option maxRecDepth 8192 in
theorem t171_162 {d : Nat} {τ : T2} {Q : RS → T2 → Prop} {r0 r1 q2 n5 q8 q12 : Nat} (sh1 : tS τ r0 = (1, 21, 0)) (p3 : tP τ r0 8 = some q2) (sh4 : tS τ r1 = (1, 12, 0)) (sh6 : tS τ q2 = (3, 7, n5)) (b7 : (0 : Int) ≤ (tI τ r1 1) ∧ (tI τ r1 1) < (n5 : Int)) (p9 : tP τ q2 (tI τ r1 1).toNat = some q8) (sh10 : tS τ q8 = (1, 15, 0)) (b11 : (0 : Int) ≤ (tI (uI τ q8 3 (tI τ r1 2)) r1 1) ∧ (tI (uI τ q8 3 (tI τ r1 2)) r1 1) < (n5 : Int)) (p13 : tP τ q2 (tI (uI τ q8 3 (tI τ r1 2)) r1 1).toNat = some q12) (sh14 : tS τ q12 = (1, 15, 0)) (k1 : Q (.inl (some (AI 1))) (uI (uI τ q8 3 (tI τ r1 2)) q12 4 (tI (uI τ q8 3 (tI τ r1 2)) r1 3))) : G d 171 162 [vR r0, vR r1, none] [] τ Q := by
  refine g_sk 1 (pc1 := 163) (st1 := [AR r0]) rfl ?_
  refine g_gQ rfl (ci := 21) (k := 8) rfl sh1 p3 ?_
  refine g_sk 1 (pc1 := 167) (st1 := [AR r1, AR q2]) rfl ?_
  refine g_gI rfl (ci := 12) (k := 1) rfl sh4 ?_
  refine g_aalQ rfl sh6 (by decide) b7.1 b7.2 p9 ?_
  refine g_sk 1 (pc1 := 172) (st1 := [AR r1, AR q8]) rfl ?_
  refine g_gI rfl (ci := 12) (k := 2) rfl sh4 ?_
  refine g_putI (x := (tI τ r1 2)) rfl (ci := 15) (k := 3) (kd := 0) rfl (by decide) rfl rfl sh10 ?_
  refine g_sk 1 (pc1 := 179) (st1 := [AR r0]) rfl ?_
  refine g_gQ rfl (ci := 21) (k := 8) rfl sh1 p3 ?_
  refine g_sk 1 (pc1 := 183) (st1 := [AR r1, AR q2]) rfl ?_
  refine g_gI rfl (ci := 12) (k := 1) rfl sh4 ?_
  refine g_aalQ rfl sh6 (by decide) b11.1 b11.2 p13 ?_
  refine g_sk 1 (pc1 := 188) (st1 := [AR r1, AR q12]) rfl ?_
  refine g_gI rfl (ci := 12) (k := 3) rfl sh4 ?_
  refine g_putI (x := (tI (uI τ q8 3 (tI τ r1 2)) r1 3)) rfl (ci := 15) (k := 4) (kd := 0) rfl (by decide) rfl rfl sh14 ?_
  refine g_sk 2 (pc1 := 365) (st1 := [AI 1]) rfl ?_
  refine g_iret rfl rfl ?_
  exact k1

set_option maxRecDepth 8192 in
theorem t171_197 {d : Nat} {τ : T2} {Q : RS → T2 → Prop} {r0 r1 q2 n5 q8 : Nat} (sh1 : tS τ r0 = (1, 21, 0)) (p3 : tP τ r0 8 = some q2) (sh4 : tS τ r1 = (1, 12, 0)) (sh6 : tS τ q2 = (3, 7, n5)) (b7 : (0 : Int) ≤ (tI τ r1 1) ∧ (tI τ r1 1) < (n5 : Int)) (p9 : tP τ q2 (tI τ r1 1).toNat = some q8) (sh10 : tS τ q8 = (1, 15, 0)) (k1 : Q (.inl (some (AI 1))) (uI τ q8 5 (wr ((tI τ q8 5) - 1)))) : G d 171 197 [vR r0, vR r1, none] [] τ Q := by
  refine g_sk 1 (pc1 := 198) (st1 := [AR r0]) rfl ?_
  refine g_gQ rfl (ci := 21) (k := 8) rfl sh1 p3 ?_
  refine g_sk 1 (pc1 := 202) (st1 := [AR r1, AR q2]) rfl ?_
  refine g_gI rfl (ci := 12) (k := 1) rfl sh4 ?_
  refine g_aalQ rfl sh6 (by decide) b7.1 b7.2 p9 ?_
  refine g_sk 1 (pc1 := 207) (st1 := [AR q8, AR q8]) rfl ?_
  refine g_gI rfl (ci := 15) (k := 5) rfl sh10 ?_
  refine g_sk 2 (pc1 := 212) (st1 := [AI (wr ((tI τ q8 5) - 1)), AR q8]) rfl ?_
  refine g_putI (x := (wr ((tI τ q8 5) - 1))) rfl (ci := 15) (k := 5) (kd := 0) rfl (by decide) rfl rfl sh10 ?_
  refine g_sk 2 (pc1 := 365) (st1 := [AI 1]) rfl ?_
  refine g_iret rfl rfl ?_
  exact k1

set_option maxRecDepth 8192 in
theorem t171_218 {d : Nat} {τ : T2} {Q : RS → T2 → Prop} {r0 : Nat} (sh1 : tS τ r0 = (1, 21, 0)) (k1 : Q (.inl (some (AI 1))) (uI τ r0 6 (wr ((tI τ r0 6) - 1)))) : G d 171 218 [vR r0, none, none] [] τ Q := by
  refine g_sk 2 (pc1 := 220) (st1 := [AR r0, AR r0]) rfl ?_
  refine g_gI rfl (ci := 21) (k := 6) rfl sh1 ?_
  refine g_sk 2 (pc1 := 225) (st1 := [AI (wr ((tI τ r0 6) - 1)), AR r0]) rfl ?_
  refine g_putI (x := (wr ((tI τ r0 6) - 1))) rfl (ci := 21) (k := 6) (kd := 0) rfl (by decide) rfl rfl sh1 ?_
  refine g_sk 2 (pc1 := 365) (st1 := [AI 1]) rfl ?_
  refine g_iret rfl rfl ?_
  exact k1

set_option maxRecDepth 8192 in
theorem t171_231 {d : Nat} {τ : T2} {Q : RS → T2 → Prop} {r0 : Nat} (sh1 : tS τ r0 = (1, 21, 0)) (k1 : Q (.inl (some (AI 1))) (uI τ r0 5 (wr ((tI τ r0 5) - 1)))) : G d 171 231 [vR r0, none, none] [] τ Q := by
  refine g_sk 2 (pc1 := 233) (st1 := [AR r0, AR r0]) rfl ?_
  refine g_gI rfl (ci := 21) (k := 5) rfl sh1 ?_
  refine g_sk 2 (pc1 := 238) (st1 := [AI (wr ((tI τ r0 5) - 1)), AR r0]) rfl ?_
  refine g_putI (x := (wr ((tI τ r0 5) - 1))) rfl (ci := 21) (k := 5) (kd := 0) rfl (by decide) rfl rfl sh1 ?_
  refine g_sk 2 (pc1 := 365) (st1 := [AI 1]) rfl ?_
  refine g_iret rfl rfl ?_
  exact k1

set_option maxRecDepth 8192 in
theorem t171_244 {d : Nat} {τ : T2} {Q : RS → T2 → Prop} {r0 r1 : Nat} (sh1 : tS τ r1 = (1, 12, 0)) (sh2 : tS τ r0 = (1, 21, 0)) (k1 : Q (.inl (some (AI 1))) (uI τ r0 7 (tI τ r1 1))) : G d 171 244 [vR r0, vR r1, none] [] τ Q := by
  refine g_sk 2 (pc1 := 246) (st1 := [AR r1, AR r0]) rfl ?_
  refine g_gI rfl (ci := 12) (k := 1) rfl sh1 ?_
  refine g_putI (x := (tI τ r1 1)) rfl (ci := 21) (k := 7) (kd := 0) rfl (by decide) rfl rfl sh2 ?_
  refine g_sk 2 (pc1 := 365) (st1 := [AI 1]) rfl ?_
  refine g_iret rfl rfl ?_
  exact k1

set_option maxRecDepth 8192 in
theorem t171_255 {d : Nat} {τ : T2} {Q : RS → T2 → Prop} {r0 r1 q2 n5 q8 q11 n13 q16 n18 q24 n26 : Nat} (sh1 : tS τ r0 = (1, 21, 0)) (p3 : tP τ r0 9 = some q2) (sh4 : tS τ r1 = (1, 12, 0)) (sh6 : tS τ q2 = (3, 8, n5)) (b7 : (0 : Int) ≤ (tI τ r1 1) ∧ (tI τ r1 1) < (n5 : Int)) (p9 : tP τ q2 (tI τ r1 1).toNat = some q8) (sh10 : tS τ q8 = (1, 19, 0)) (p12 : tP τ q8 4 = some q11) (sh14 : tS τ q11 = (2, 0, n13)) (b15 : (0 : Int) ≤ (tI τ r1 2) ∧ (tI τ r1 2) < (n13 : Int)) (p17 : tP τ q8 6 = some q16) (sh19 : tS τ q16 = (2, 0, n18)) (b20 : (0 : Int) ≤ (tI (uI τ q11 (tI τ r1 2).toNat (wr ((tI τ q11 (tI τ r1 2).toNat) - 1))) r1 2) ∧ (tI (uI τ q11 (tI τ r1 2).toNat (wr ((tI τ q11 (tI τ r1 2).toNat) - 1))) r1 2) < (n18 : Int)) (p25 : tP τ q8 3 = some q24) (sh27 : tS τ q24 = (2, 0, n26)) (b28 : (tI (uI (uI τ q11 (tI τ r1 2).toNat (wr ((tI τ q11 (tI τ r1 2).toNat) - 1))) q16 (tI (uI τ q11 (tI τ r1 2).toNat (wr ((tI τ q11 (tI τ r1 2).toNat) - 1))) r1 2).toNat (tI (uI τ q11 (tI τ r1 2).toNat (wr ((tI τ q11 (tI τ r1 2).toNat) - 1))) r1 4)) r1 3) = 1 → (0 : Int) ≤ (tI (uI (uI τ q11 (tI τ r1 2).toNat (wr ((tI τ q11 (tI τ r1 2).toNat) - 1))) q16 (tI (uI τ q11 (tI τ r1 2).toNat (wr ((tI τ q11 (tI τ r1 2).toNat) - 1))) r1 2).toNat (tI (uI τ q11 (tI τ r1 2).toNat (wr ((tI τ q11 (tI τ r1 2).toNat) - 1))) r1 4)) r1 2) ∧ (tI (uI (uI τ q11 (tI τ r1 2).toNat (wr ((tI τ q11 (tI τ r1 2).toNat) - 1))) q16 (tI (uI τ q11 (tI τ r1 2).toNat (wr ((tI τ q11 (tI τ r1 2).toNat) - 1))) r1 2).toNat (tI (uI τ q11 (tI τ r1 2).toNat (wr ((tI τ q11 (tI τ r1 2).toNat) - 1))) r1 4)) r1 2) < (n26 : Int)) (k1 : ¬ (tI (uI (uI τ q11 (tI τ r1 2).toNat (wr ((tI τ q11 (tI τ r1 2).toNat) - 1))) q16 (tI (uI τ q11 (tI τ r1 2).toNat (wr ((tI τ q11 (tI τ r1 2).toNat) - 1))) r1 2).toNat (tI (uI τ q11 (tI τ r1 2).toNat (wr ((tI τ q11 (tI τ r1 2).toNat) - 1))) r1 4)) r1 3) = 1 → ∀ τ22, (uI (uI (uI τ q11 (tI τ r1 2).toNat (wr ((tI τ q11 (tI τ r1 2).toNat) - 1))) q16 (tI (uI τ q11 (tI τ r1 2).toNat (wr ((tI τ q11 (tI τ r1 2).toNat) - 1))) r1 2).toNat (tI (uI τ q11 (tI τ r1 2).toNat (wr ((tI τ q11 (tI τ r1 2).toNat) - 1))) r1 4)) q8 1 (wr ((tI (uI (uI τ q11 (tI τ r1 2).toNat (wr ((tI τ q11 (tI τ r1 2).toNat) - 1))) q16 (tI (uI τ q11 (tI τ r1 2).toNat (wr ((tI τ q11 (tI τ r1 2).toNat) - 1))) r1 2).toNat (tI (uI τ q11 (tI τ r1 2).toNat (wr ((tI τ q11 (tI τ r1 2).toNat) - 1))) r1 4)) q8 1) - 1))) = τ22 → Q (.inl (some (AI 1))) τ22) (k2 : (tI (uI (uI τ q11 (tI τ r1 2).toNat (wr ((tI τ q11 (tI τ r1 2).toNat) - 1))) q16 (tI (uI τ q11 (tI τ r1 2).toNat (wr ((tI τ q11 (tI τ r1 2).toNat) - 1))) r1 2).toNat (tI (uI τ q11 (tI τ r1 2).toNat (wr ((tI τ q11 (tI τ r1 2).toNat) - 1))) r1 4)) r1 3) = 1 → ∀ τ29, (uI (uI (uI τ q11 (tI τ r1 2).toNat (wr ((tI τ q11 (tI τ r1 2).toNat) - 1))) q16 (tI (uI τ q11 (tI τ r1 2).toNat (wr ((tI τ q11 (tI τ r1 2).toNat) - 1))) r1 2).toNat (tI (uI τ q11 (tI τ r1 2).toNat (wr ((tI τ q11 (tI τ r1 2).toNat) - 1))) r1 4)) q24 (tI (uI (uI τ q11 (tI τ r1 2).toNat (wr ((tI τ q11 (tI τ r1 2).toNat) - 1))) q16 (tI (uI τ q11 (tI τ r1 2).toNat (wr ((tI τ q11 (tI τ r1 2).toNat) - 1))) r1 2).toNat (tI (uI τ q11 (tI τ r1 2).toNat (wr ((tI τ q11 (tI τ r1 2).toNat) - 1))) r1 4)) r1 2).toNat (-1)) = τ29 → Q (.inl (some (AI 1))) τ29) : G d 171 255 [vR r0, vR r1, none] [] τ Q := by
  refine g_sk 1 (pc1 := 256) (st1 := [AR r0]) rfl ?_
  refine g_gQ rfl (ci := 21) (k := 9) rfl sh1 p3 ?_
  refine g_sk 1 (pc1 := 260) (st1 := [AR r1, AR q2]) rfl ?_
  refine g_gI rfl (ci := 12) (k := 1) rfl sh4 ?_
  refine g_aalQ rfl sh6 (by decide) b7.1 b7.2 p9 ?_
  refine g_sx 2 (pc1 := 266) (L1 := [vR r0, vR r1, vR q8]) (st1 := [AR q8]) rfl ?_
  refine g_gQ rfl (ci := 19) (k := 4) rfl sh10 p12 ?_
  refine g_sk 1 (pc1 := 270) (st1 := [AR r1, AR q11]) rfl ?_
  refine g_gI rfl (ci := 12) (k := 2) rfl sh4 ?_
  refine g_sk 1 (pc1 := 274) (st1 := [AI (tI τ r1 2), AR q11, AI (tI τ r1 2), AR q11]) rfl ?_
  refine g_iald rfl sh14 (by decide) b15.1 b15.2 ?_
  refine g_sk 2 (pc1 := 277) (st1 := [AI (wr ((tI τ q11 (tI τ r1 2).toNat) - 1)), AI (tI τ r1 2), AR q11]) rfl ?_
  refine g_iast rfl sh14 b15.1 b15.2 ?_
  refine g_sk 1 (pc1 := 279) (st1 := [AR q8]) rfl ?_
  refine g_gQ rfl (ci := 19) (k := 6) rfl sh10 p17 ?_
  refine g_sk 1 (pc1 := 283) (st1 := [AR r1, AR q16]) rfl ?_
  refine g_gI rfl (ci := 12) (k := 2) rfl sh4 ?_
  refine g_sk 1 (pc1 := 287) (st1 := [AR r1, AI (tI (uI τ q11 (tI τ r1 2).toNat (wr ((tI τ q11 (tI τ r1 2).toNat) - 1))) r1 2), AR q16]) rfl ?_
  refine g_gI rfl (ci := 12) (k := 4) rfl sh4 ?_
  refine g_iast rfl sh19 b20.1 b20.2 ?_
  refine g_sk 1 (pc1 := 292) (st1 := [AR r1]) rfl ?_
  refine g_gI rfl (ci := 12) (k := 3) rfl sh4 ?_
  refine g_sk 1 (pc1 := 296) (st1 := [AI 1, AI (tI (uI (uI τ q11 (tI τ r1 2).toNat (wr ((tI τ q11 (tI τ r1 2).toNat) - 1))) q16 (tI (uI τ q11 (tI τ r1 2).toNat (wr ((tI τ q11 (tI τ r1 2).toNat) - 1))) r1 2).toNat (tI (uI τ q11 (tI τ r1 2).toNat (wr ((tI τ q11 (tI τ r1 2).toNat) - 1))) r1 4)) r1 3)]) rfl ?_
  refine g_br2 rfl (t := 312) rfl (fun c21 => ?_) (fun c21 => ?_)
  · have c21 : ¬ (tI (uI (uI τ q11 (tI τ r1 2).toNat (wr ((tI τ q11 (tI τ r1 2).toNat) - 1))) q16 (tI (uI τ q11 (tI τ r1 2).toNat (wr ((tI τ q11 (tI τ r1 2).toNat) - 1))) r1 2).toNat (tI (uI τ q11 (tI τ r1 2).toNat (wr ((tI τ q11 (tI τ r1 2).toNat) - 1))) r1 4)) r1 3) = 1 := of_decide_eq_true c21
    refine g_sk 2 (pc1 := 314) (st1 := [AR q8, AR q8]) rfl ?_
    refine g_gI rfl (ci := 19) (k := 1) rfl sh10 ?_
    refine g_sk 2 (pc1 := 319) (st1 := [AI (wr ((tI (uI (uI τ q11 (tI τ r1 2).toNat (wr ((tI τ q11 (tI τ r1 2).toNat) - 1))) q16 (tI (uI τ q11 (tI τ r1 2).toNat (wr ((tI τ q11 (tI τ r1 2).toNat) - 1))) r1 2).toNat (tI (uI τ q11 (tI τ r1 2).toNat (wr ((tI τ q11 (tI τ r1 2).toNat) - 1))) r1 4)) q8 1) - 1)), AR q8]) rfl ?_
    refine g_putI (x := (wr ((tI (uI (uI τ q11 (tI τ r1 2).toNat (wr ((tI τ q11 (tI τ r1 2).toNat) - 1))) q16 (tI (uI τ q11 (tI τ r1 2).toNat (wr ((tI τ q11 (tI τ r1 2).toNat) - 1))) r1 2).toNat (tI (uI τ q11 (tI τ r1 2).toNat (wr ((tI τ q11 (tI τ r1 2).toNat) - 1))) r1 4)) q8 1) - 1))) rfl (ci := 19) (k := 1) (kd := 0) rfl (by decide) rfl rfl sh10 ?_
    show G d 171 322 [vR r0, vR r1, vR q8] [] (uI (uI (uI τ q11 (tI τ r1 2).toNat (wr ((tI τ q11 (tI τ r1 2).toNat) - 1))) q16 (tI (uI τ q11 (tI τ r1 2).toNat (wr ((tI τ q11 (tI τ r1 2).toNat) - 1))) r1 2).toNat (tI (uI τ q11 (tI τ r1 2).toNat (wr ((tI τ q11 (tI τ r1 2).toNat) - 1))) r1 4)) q8 1 (wr ((tI (uI (uI τ q11 (tI τ r1 2).toNat (wr ((tI τ q11 (tI τ r1 2).toNat) - 1))) q16 (tI (uI τ q11 (tI τ r1 2).toNat (wr ((tI τ q11 (tI τ r1 2).toNat) - 1))) r1 2).toNat (tI (uI τ q11 (tI τ r1 2).toNat (wr ((tI τ q11 (tI τ r1 2).toNat) - 1))) r1 4)) q8 1) - 1))) Q
    generalize e23 : (uI (uI (uI τ q11 (tI τ r1 2).toNat (wr ((tI τ q11 (tI τ r1 2).toNat) - 1))) q16 (tI (uI τ q11 (tI τ r1 2).toNat (wr ((tI τ q11 (tI τ r1 2).toNat) - 1))) r1 2).toNat (tI (uI τ q11 (tI τ r1 2).toNat (wr ((tI τ q11 (tI τ r1 2).toNat) - 1))) r1 4)) q8 1 (wr ((tI (uI (uI τ q11 (tI τ r1 2).toNat (wr ((tI τ q11 (tI τ r1 2).toNat) - 1))) q16 (tI (uI τ q11 (tI τ r1 2).toNat (wr ((tI τ q11 (tI τ r1 2).toNat) - 1))) r1 2).toNat (tI (uI τ q11 (tI τ r1 2).toNat (wr ((tI τ q11 (tI τ r1 2).toNat) - 1))) r1 4)) q8 1) - 1))) = τ22
    refine g_sk 2 (pc1 := 365) (st1 := [AI 1]) rfl ?_
    refine g_iret rfl rfl ?_
    exact (k1 c21 τ22 e23)
  · have c21 : (tI (uI (uI τ q11 (tI τ r1 2).toNat (wr ((tI τ q11 (tI τ r1 2).toNat) - 1))) q16 (tI (uI τ q11 (tI τ r1 2).toNat (wr ((tI τ q11 (tI τ r1 2).toNat) - 1))) r1 2).toNat (tI (uI τ q11 (tI τ r1 2).toNat (wr ((tI τ q11 (tI τ r1 2).toNat) - 1))) r1 4)) r1 3) = 1 := Decidable.of_not_not (of_decide_eq_false c21)
    refine g_sk 1 (pc1 := 300) (st1 := [AR q8]) rfl ?_
    refine g_gQ rfl (ci := 19) (k := 3) rfl sh10 p25 ?_
    refine g_sk 1 (pc1 := 304) (st1 := [AR r1, AR q24]) rfl ?_
    refine g_gI rfl (ci := 12) (k := 2) rfl sh4 ?_
    refine g_sk 1 (pc1 := 308) (st1 := [AI (-1), AI (tI (uI (uI τ q11 (tI τ r1 2).toNat (wr ((tI τ q11 (tI τ r1 2).toNat) - 1))) q16 (tI (uI τ q11 (tI τ r1 2).toNat (wr ((tI τ q11 (tI τ r1 2).toNat) - 1))) r1 2).toNat (tI (uI τ q11 (tI τ r1 2).toNat (wr ((tI τ q11 (tI τ r1 2).toNat) - 1))) r1 4)) r1 2), AR q24]) rfl ?_
    refine g_iast rfl sh27 (b28 c21).1 (b28 c21).2 ?_
    show G d 171 309 [vR r0, vR r1, vR q8] [] (uI (uI (uI τ q11 (tI τ r1 2).toNat (wr ((tI τ q11 (tI τ r1 2).toNat) - 1))) q16 (tI (uI τ q11 (tI τ r1 2).toNat (wr ((tI τ q11 (tI τ r1 2).toNat) - 1))) r1 2).toNat (tI (uI τ q11 (tI τ r1 2).toNat (wr ((tI τ q11 (tI τ r1 2).toNat) - 1))) r1 4)) q24 (tI (uI (uI τ q11 (tI τ r1 2).toNat (wr ((tI τ q11 (tI τ r1 2).toNat) - 1))) q16 (tI (uI τ q11 (tI τ r1 2).toNat (wr ((tI τ q11 (tI τ r1 2).toNat) - 1))) r1 2).toNat (tI (uI τ q11 (tI τ r1 2).toNat (wr ((tI τ q11 (tI τ r1 2).toNat) - 1))) r1 4)) r1 2).toNat (-1)) Q
    generalize e30 : (uI (uI (uI τ q11 (tI τ r1 2).toNat (wr ((tI τ q11 (tI τ r1 2).toNat) - 1))) q16 (tI (uI τ q11 (tI τ r1 2).toNat (wr ((tI τ q11 (tI τ r1 2).toNat) - 1))) r1 2).toNat (tI (uI τ q11 (tI τ r1 2).toNat (wr ((tI τ q11 (tI τ r1 2).toNat) - 1))) r1 4)) q24 (tI (uI (uI τ q11 (tI τ r1 2).toNat (wr ((tI τ q11 (tI τ r1 2).toNat) - 1))) q16 (tI (uI τ q11 (tI τ r1 2).toNat (wr ((tI τ q11 (tI τ r1 2).toNat) - 1))) r1 2).toNat (tI (uI τ q11 (tI τ r1 2).toNat (wr ((tI τ q11 (tI τ r1 2).toNat) - 1))) r1 4)) r1 2).toNat (-1)) = τ29
    refine g_sk 2 (pc1 := 365) (st1 := [AI 1]) rfl ?_
    refine g_iret rfl rfl ?_
    exact (k2 c21 τ29 e30)

set_option maxRecDepth 8192 in
theorem t171_325 {d : Nat} {τ : T2} {Q : RS → T2 → Prop} {r0 r1 q2 n5 q8 q11 n13 q17 : Nat} (sh1 : tS τ r0 = (1, 21, 0)) (p3 : tP τ r0 9 = some q2) (sh4 : tS τ r1 = (1, 12, 0)) (sh6 : tS τ q2 = (3, 8, n5)) (b7 : (0 : Int) ≤ (tI τ r1 1) ∧ (tI τ r1 1) < (n5 : Int)) (p9 : tP τ q2 (tI τ r1 1).toNat = some q8) (sh10 : tS τ q8 = (1, 19, 0)) (p12 : tP τ q8 5 = some q11) (sh14 : tS τ q11 = (2, 0, n13)) (b15 : (0 : Int) ≤ (tI τ r1 2) ∧ (tI τ r1 2) < (n13 : Int)) (b16 : (0 : Int) ≤ (tI (uI τ q11 (tI τ r1 2).toNat (wr ((tI τ q11 (tI τ r1 2).toNat) - 1))) r1 1) ∧ (tI (uI τ q11 (tI τ r1 2).toNat (wr ((tI τ q11 (tI τ r1 2).toNat) - 1))) r1 1) < (n5 : Int)) (p18 : tP τ q2 (tI (uI τ q11 (tI τ r1 2).toNat (wr ((tI τ q11 (tI τ r1 2).toNat) - 1))) r1 1).toNat = some q17) (sh19 : tS τ q17 = (1, 19, 0)) (k1 : Q (.inl (some (AI 1))) (uI (uI τ q11 (tI τ r1 2).toNat (wr ((tI τ q11 (tI τ r1 2).toNat) - 1))) q17 2 (wr ((tI (uI τ q11 (tI τ r1 2).toNat (wr ((tI τ q11 (tI τ r1 2).toNat) - 1))) q17 2) - 1)))) : G d 171 325 [vR r0, vR r1, none] [] τ Q := by
  refine g_sk 1 (pc1 := 326) (st1 := [AR r0]) rfl ?_
  refine g_gQ rfl (ci := 21) (k := 9) rfl sh1 p3 ?_
  refine g_sk 1 (pc1 := 330) (st1 := [AR r1, AR q2]) rfl ?_
  refine g_gI rfl (ci := 12) (k := 1) rfl sh4 ?_
  refine g_aalQ rfl sh6 (by decide) b7.1 b7.2 p9 ?_
  refine g_gQ rfl (ci := 19) (k := 5) rfl sh10 p12 ?_
  refine g_sk 1 (pc1 := 338) (st1 := [AR r1, AR q11]) rfl ?_
  refine g_gI rfl (ci := 12) (k := 2) rfl sh4 ?_
  refine g_sk 1 (pc1 := 342) (st1 := [AI (tI τ r1 2), AR q11, AI (tI τ r1 2), AR q11]) rfl ?_
  refine g_iald rfl sh14 (by decide) b15.1 b15.2 ?_
  refine g_sk 2 (pc1 := 345) (st1 := [AI (wr ((tI τ q11 (tI τ r1 2).toNat) - 1)), AI (tI τ r1 2), AR q11]) rfl ?_
  refine g_iast rfl sh14 b15.1 b15.2 ?_
  refine g_sk 1 (pc1 := 347) (st1 := [AR r0]) rfl ?_
  refine g_gQ rfl (ci := 21) (k := 9) rfl sh1 p3 ?_
  refine g_sk 1 (pc1 := 351) (st1 := [AR r1, AR q2]) rfl ?_
  refine g_gI rfl (ci := 12) (k := 1) rfl sh4 ?_
  refine g_aalQ rfl sh6 (by decide) b16.1 b16.2 p18 ?_
  refine g_sk 1 (pc1 := 356) (st1 := [AR q17, AR q17]) rfl ?_
  refine g_gI rfl (ci := 19) (k := 2) rfl sh19 ?_
  refine g_sk 2 (pc1 := 361) (st1 := [AI (wr ((tI (uI τ q11 (tI τ r1 2).toNat (wr ((tI τ q11 (tI τ r1 2).toNat) - 1))) q17 2) - 1)), AR q17]) rfl ?_
  refine g_putI (x := (wr ((tI (uI τ q11 (tI τ r1 2).toNat (wr ((tI τ q11 (tI τ r1 2).toNat) - 1))) q17 2) - 1))) rfl (ci := 19) (k := 2) (kd := 0) rfl (by decide) rfl rfl sh19 ?_
  refine g_sk 1 (pc1 := 365) (st1 := [AI 1]) rfl ?_
  refine g_iret rfl rfl ?_
  exact k1

set_option maxRecDepth 8192 in
theorem t187_42 {d : Nat} {τ : T2} {Q : RS → T2 → Prop} {x2 x3 x5 x6 y0 : Int} {r0 : Nat} {r4 : Option Nat} (k1 : y0 = 4 → G d 187 68 [vR r0, none, vI x2, vI x3, vQ r4, vI x5, vI x6] [] τ Q) (k2 : y0 = 5 → G d 187 97 [vR r0, none, vI x2, vI x3, vQ r4, vI x5, vI x6] [] τ Q) (k3 : y0 = 6 → G d 187 139 [vR r0, none, vI x2, vI x3, vQ r4, vI x5, vI x6] [] τ Q) (k4 : y0 < 4 ∨ 6 < y0 → G d 187 181 [vR r0, none, vI x2, vI x3, vQ r4, vI x5, vI x6] [] τ Q) : G d 187 42 [vR r0, none, vI x2, vI x3, vQ r4, vI x5, vI x6] [AI y0] τ Q := by
  by_cases c0 : y0 = 4
  · rw [c0]
    refine g_st (τ1 := τ) rfl (pc1 := 68) (L1 := [vR r0, none, vI x2, vI x3, vQ r4, vI x5, vI x6]) (st1 := []) rfl ?_
    exact (k1 c0)
  by_cases c1 : y0 = 5
  · rw [c1]
    refine g_st (τ1 := τ) rfl (pc1 := 97) (L1 := [vR r0, none, vI x2, vI x3, vQ r4, vI x5, vI x6]) (st1 := []) rfl ?_
    exact (k2 c1)
  by_cases c2 : y0 = 6
  · rw [c2]
    refine g_st (τ1 := τ) rfl (pc1 := 139) (L1 := [vR r0, none, vI x2, vI x3, vQ r4, vI x5, vI x6]) (st1 := []) rfl ?_
    exact (k3 c2)
  have cd : y0 < 4 ∨ 6 < y0 := by omega
  refine g_tsd rfl (t0 := 181) rfl cd ?_
  exact (k4 cd)

set_option maxRecDepth 8192 in
theorem t187_68 {d : Nat} {τ : T2} {Q : RS → T2 → Prop} {x2 x3 x5 x6 : Int} {r0 q2 n4 : Nat} {r4 : Option Nat} (sh1 : tS τ r0 = (1, 21, 0)) (p3 : tP τ r0 25 = some q2) (sh5 : tS τ q2 = (2, 2, n4)) (b6 : (0 : Int) ≤ (wr (x5 - 1)) ∧ (wr (x5 - 1)) < (n4 : Int)) (k1 : ¬ (tI τ q2 (wr (x5 - 1)).toNat) = 0 → G d 187 24 [vR r0, none, vI x2, vI x3, vQ r4, vI x5, vI (wr (x6 + 1))] [] (uI τ q2 (wr (x5 - 1)).toNat 0) Q) (k2 : (tI τ q2 (wr (x5 - 1)).toNat) = 0 → G d 187 24 [vR r0, none, vI x2, vI x3, vQ r4, vI x5, vI (wr (x6 + 1))] [] (uI τ q2 (wr (x5 - 1)).toNat 1) Q) : G d 187 68 [vR r0, none, vI x2, vI x3, vQ r4, vI x5, vI x6] [] τ Q := by
  refine g_sk 1 (pc1 := 69) (st1 := [AR r0]) rfl ?_
  refine g_gQ rfl (ci := 21) (k := 25) rfl sh1 p3 ?_
  refine g_sk 4 (pc1 := 77) (st1 := [AR r0, AI (wr (x5 - 1)), AR q2]) rfl ?_
  refine g_gQ rfl (ci := 21) (k := 25) rfl sh1 p3 ?_
  refine g_sk 3 (pc1 := 84) (st1 := [AI (wr (x5 - 1)), AR q2, AI (wr (x5 - 1)), AR q2]) rfl ?_
  refine g_bald rfl sh5 (by decide) b6.1 b6.2 ?_
  refine g_br1 rfl (t := 92) rfl (fun c7 => ?_) (fun c7 => ?_)
  · have c7 : ¬ (tI τ q2 (wr (x5 - 1)).toNat) = 0 := of_decide_eq_true c7
    refine g_sk 1 (pc1 := 93) (st1 := [AI 0, AI (wr (x5 - 1)), AR q2]) rfl ?_
    refine g_zast rfl sh5 (by decide) b6.1 b6.2 ?_
    refine g_sx 3 (pc1 := 24) (L1 := [vR r0, none, vI x2, vI x3, vQ r4, vI x5, vI (wr (x6 + 1))]) (st1 := []) rfl ?_
    exact (k1 c7)
  · have c7 : (tI τ q2 (wr (x5 - 1)).toNat) = 0 := Decidable.of_not_not (of_decide_eq_false c7)
    refine g_sk 2 (pc1 := 93) (st1 := [AI 1, AI (wr (x5 - 1)), AR q2]) rfl ?_
    refine g_zast rfl sh5 (by decide) b6.1 b6.2 ?_
    refine g_sx 3 (pc1 := 24) (L1 := [vR r0, none, vI x2, vI x3, vQ r4, vI x5, vI (wr (x6 + 1))]) (st1 := []) rfl ?_
    exact (k2 c7)

set_option maxRecDepth 8192 in
theorem t187_97 {d : Nat} {τ : T2} {Q : RS → T2 → Prop} {x2 x3 x5 x6 : Int} {r0 q2 n4 : Nat} {r4 : Option Nat} (sh1 : tS τ r0 = (1, 21, 0)) (p3 : tP τ r0 25 = some q2) (sh5 : tS τ q2 = (2, 2, n4)) (b6 : (0 : Int) ≤ (wr ((wr (x5 + (-1))) - 1)) ∧ (wr ((wr (x5 + (-1))) - 1)) < (n4 : Int)) (b8 : ¬ (tI τ q2 (wr ((wr (x5 + (-1))) - 1)).toNat) = 0 → (0 : Int) ≤ (wr (x5 + (-1))) ∧ (wr (x5 + (-1))) < (n4 : Int)) (k1 : (tI τ q2 (wr ((wr (x5 + (-1))) - 1)).toNat) = 0 → G d 187 24 [vR r0, none, vI x2, vI x3, vQ r4, vI (wr (x5 + (-1))), vI (wr (x6 + 1))] [] (uI τ q2 (wr ((wr (x5 + (-1))) - 1)).toNat 0) Q) (k2 : ¬ (tI τ q2 (wr ((wr (x5 + (-1))) - 1)).toNat) = 0 → (tI τ q2 (wr (x5 + (-1))).toNat) = 0 → G d 187 24 [vR r0, none, vI x2, vI x3, vQ r4, vI (wr (x5 + (-1))), vI (wr (x6 + 1))] [] (uI τ q2 (wr ((wr (x5 + (-1))) - 1)).toNat 0) Q) (k3 : ¬ (tI τ q2 (wr ((wr (x5 + (-1))) - 1)).toNat) = 0 → ¬ (tI τ q2 (wr (x5 + (-1))).toNat) = 0 → G d 187 24 [vR r0, none, vI x2, vI x3, vQ r4, vI (wr (x5 + (-1))), vI (wr (x6 + 1))] [] (uI τ q2 (wr ((wr (x5 + (-1))) - 1)).toNat 1) Q) : G d 187 97 [vR r0, none, vI x2, vI x3, vQ r4, vI x5, vI x6] [] τ Q := by
  refine g_sx 2 (pc1 := 101) (L1 := [vR r0, none, vI x2, vI x3, vQ r4, vI (wr (x5 + (-1))), vI x6]) (st1 := [AR r0]) rfl ?_
  refine g_gQ rfl (ci := 21) (k := 25) rfl sh1 p3 ?_
  refine g_sk 4 (pc1 := 109) (st1 := [AR r0, AI (wr ((wr (x5 + (-1))) - 1)), AR q2]) rfl ?_
  refine g_gQ rfl (ci := 21) (k := 25) rfl sh1 p3 ?_
  refine g_sk 3 (pc1 := 116) (st1 := [AI (wr ((wr (x5 + (-1))) - 1)), AR q2, AI (wr ((wr (x5 + (-1))) - 1)), AR q2]) rfl ?_
  refine g_bald rfl sh5 (by decide) b6.1 b6.2 ?_
  refine g_br1 rfl (t := 134) rfl (fun c7 => ?_) (fun c7 => ?_)
  · have c7 : (tI τ q2 (wr ((wr (x5 + (-1))) - 1)).toNat) = 0 := of_decide_eq_true c7
    refine g_sk 1 (pc1 := 135) (st1 := [AI 0, AI (wr ((wr (x5 + (-1))) - 1)), AR q2]) rfl ?_
    refine g_zast rfl sh5 (by decide) b6.1 b6.2 ?_
    refine g_sx 3 (pc1 := 24) (L1 := [vR r0, none, vI x2, vI x3, vQ r4, vI (wr (x5 + (-1))), vI (wr (x6 + 1))]) (st1 := []) rfl ?_
    exact (k1 c7)
  · have c7 : ¬ (tI τ q2 (wr ((wr (x5 + (-1))) - 1)).toNat) = 0 := of_decide_eq_false c7
    refine g_sk 1 (pc1 := 121) (st1 := [AR r0, AI (wr ((wr (x5 + (-1))) - 1)), AR q2]) rfl ?_
    refine g_gQ rfl (ci := 21) (k := 25) rfl sh1 p3 ?_
    refine g_sk 1 (pc1 := 126) (st1 := [AI (wr (x5 + (-1))), AR q2, AI (wr ((wr (x5 + (-1))) - 1)), AR q2]) rfl ?_
    refine g_bald rfl sh5 (by decide) (b8 c7).1 (b8 c7).2 ?_
    refine g_br1 rfl (t := 134) rfl (fun c9 => ?_) (fun c9 => ?_)
    · have c9 : (tI τ q2 (wr (x5 + (-1))).toNat) = 0 := of_decide_eq_true c9
      refine g_sk 1 (pc1 := 135) (st1 := [AI 0, AI (wr ((wr (x5 + (-1))) - 1)), AR q2]) rfl ?_
      refine g_zast rfl sh5 (by decide) b6.1 b6.2 ?_
      refine g_sx 3 (pc1 := 24) (L1 := [vR r0, none, vI x2, vI x3, vQ r4, vI (wr (x5 + (-1))), vI (wr (x6 + 1))]) (st1 := []) rfl ?_
      exact (k2 c7 c9)
    · have c9 : ¬ (tI τ q2 (wr (x5 + (-1))).toNat) = 0 := of_decide_eq_false c9
      refine g_sk 2 (pc1 := 135) (st1 := [AI 1, AI (wr ((wr (x5 + (-1))) - 1)), AR q2]) rfl ?_
      refine g_zast rfl sh5 (by decide) b6.1 b6.2 ?_
      refine g_sx 3 (pc1 := 24) (L1 := [vR r0, none, vI x2, vI x3, vQ r4, vI (wr (x5 + (-1))), vI (wr (x6 + 1))]) (st1 := []) rfl ?_
      exact (k3 c7 c9)

set_option maxRecDepth 8192 in
theorem t187_139 {d : Nat} {τ : T2} {Q : RS → T2 → Prop} {x2 x3 x5 x6 : Int} {r0 q2 n4 : Nat} {r4 : Option Nat} (sh1 : tS τ r0 = (1, 21, 0)) (p3 : tP τ r0 25 = some q2) (sh5 : tS τ q2 = (2, 2, n4)) (b6 : (0 : Int) ≤ (wr ((wr (x5 + (-1))) - 1)) ∧ (wr ((wr (x5 + (-1))) - 1)) < (n4 : Int)) (b8 : (tI τ q2 (wr ((wr (x5 + (-1))) - 1)).toNat) = 0 → (0 : Int) ≤ (wr (x5 + (-1))) ∧ (wr (x5 + (-1))) < (n4 : Int)) (k1 : ¬ (tI τ q2 (wr ((wr (x5 + (-1))) - 1)).toNat) = 0 → G d 187 24 [vR r0, none, vI x2, vI x3, vQ r4, vI (wr (x5 + (-1))), vI (wr (x6 + 1))] [] (uI τ q2 (wr ((wr (x5 + (-1))) - 1)).toNat 1) Q) (k2 : (tI τ q2 (wr ((wr (x5 + (-1))) - 1)).toNat) = 0 → (tI τ q2 (wr (x5 + (-1))).toNat) = 0 → G d 187 24 [vR r0, none, vI x2, vI x3, vQ r4, vI (wr (x5 + (-1))), vI (wr (x6 + 1))] [] (uI τ q2 (wr ((wr (x5 + (-1))) - 1)).toNat 0) Q) (k3 : (tI τ q2 (wr ((wr (x5 + (-1))) - 1)).toNat) = 0 → ¬ (tI τ q2 (wr (x5 + (-1))).toNat) = 0 → G d 187 24 [vR r0, none, vI x2, vI x3, vQ r4, vI (wr (x5 + (-1))), vI (wr (x6 + 1))] [] (uI τ q2 (wr ((wr (x5 + (-1))) - 1)).toNat 1) Q) : G d 187 139 [vR r0, none, vI x2, vI x3, vQ r4, vI x5, vI x6] [] τ Q := by
  refine g_sx 2 (pc1 := 143) (L1 := [vR r0, none, vI x2, vI x3, vQ r4, vI (wr (x5 + (-1))), vI x6]) (st1 := [AR r0]) rfl ?_
  refine g_gQ rfl (ci := 21) (k := 25) rfl sh1 p3 ?_
  refine g_sk 4 (pc1 := 151) (st1 := [AR r0, AI (wr ((wr (x5 + (-1))) - 1)), AR q2]) rfl ?_
  refine g_gQ rfl (ci := 21) (k := 25) rfl sh1 p3 ?_
  refine g_sk 3 (pc1 := 158) (st1 := [AI (wr ((wr (x5 + (-1))) - 1)), AR q2, AI (wr ((wr (x5 + (-1))) - 1)), AR q2]) rfl ?_
  refine g_bald rfl sh5 (by decide) b6.1 b6.2 ?_
  refine g_br1 rfl (t := 172) rfl (fun c7 => ?_) (fun c7 => ?_)
  · have c7 : ¬ (tI τ q2 (wr ((wr (x5 + (-1))) - 1)).toNat) = 0 := of_decide_eq_true c7
    refine g_sk 2 (pc1 := 177) (st1 := [AI 1, AI (wr ((wr (x5 + (-1))) - 1)), AR q2]) rfl ?_
    refine g_zast rfl sh5 (by decide) b6.1 b6.2 ?_
    refine g_sx 3 (pc1 := 24) (L1 := [vR r0, none, vI x2, vI x3, vQ r4, vI (wr (x5 + (-1))), vI (wr (x6 + 1))]) (st1 := []) rfl ?_
    exact (k1 c7)
  · have c7 : (tI τ q2 (wr ((wr (x5 + (-1))) - 1)).toNat) = 0 := Decidable.of_not_not (of_decide_eq_false c7)
    refine g_sk 1 (pc1 := 163) (st1 := [AR r0, AI (wr ((wr (x5 + (-1))) - 1)), AR q2]) rfl ?_
    refine g_gQ rfl (ci := 21) (k := 25) rfl sh1 p3 ?_
    refine g_sk 1 (pc1 := 168) (st1 := [AI (wr (x5 + (-1))), AR q2, AI (wr ((wr (x5 + (-1))) - 1)), AR q2]) rfl ?_
    refine g_bald rfl sh5 (by decide) (b8 c7).1 (b8 c7).2 ?_
    refine g_br1 rfl (t := 176) rfl (fun c9 => ?_) (fun c9 => ?_)
    · have c9 : (tI τ q2 (wr (x5 + (-1))).toNat) = 0 := of_decide_eq_true c9
      refine g_sk 1 (pc1 := 177) (st1 := [AI 0, AI (wr ((wr (x5 + (-1))) - 1)), AR q2]) rfl ?_
      refine g_zast rfl sh5 (by decide) b6.1 b6.2 ?_
      refine g_sx 3 (pc1 := 24) (L1 := [vR r0, none, vI x2, vI x3, vQ r4, vI (wr (x5 + (-1))), vI (wr (x6 + 1))]) (st1 := []) rfl ?_
      exact (k2 c7 c9)
    · have c9 : ¬ (tI τ q2 (wr (x5 + (-1))).toNat) = 0 := of_decide_eq_false c9
      refine g_sk 2 (pc1 := 177) (st1 := [AI 1, AI (wr ((wr (x5 + (-1))) - 1)), AR q2]) rfl ?_
      refine g_zast rfl sh5 (by decide) b6.1 b6.2 ?_
      refine g_sx 3 (pc1 := 24) (L1 := [vR r0, none, vI x2, vI x3, vQ r4, vI (wr (x5 + (-1))), vI (wr (x6 + 1))]) (st1 := []) rfl ?_
      exact (k3 c7 c9)

set_option maxRecDepth 8192 in
theorem t187_181 {d : Nat} {τ : T2} {Q : RS → T2 → Prop} {x2 x3 x5 x6 : Int} {r0 r4 q3 n5 q8 n10 q13 n15 : Nat} (hd : 1 ≤ d) (sh1 : tS τ r0 = (1, 21, 0)) (sh2 : tS τ r4 = (1, 17, 0)) (p4 : tP τ r4 0 = some q3) (sh6 : tS τ q3 = (2, 0, n5)) (b7 : (0 : Int) ≤ x6 ∧ x6 < (n5 : Int)) (p9 : tP τ r4 1 = some q8) (sh11 : tS τ q8 = (2, 0, n10)) (b12 : (0 : Int) ≤ x6 ∧ x6 < (n10 : Int)) (p14 : tP τ r4 2 = some q13) (sh16 : tS τ q13 = (2, 0, n15)) (b17 : (0 : Int) ≤ x6 ∧ x6 < (n15 : Int)) (k1 : G (d - 1) 188 0 [vR r0, vI (tI τ q3 x6.toNat), vI (tI τ q8 x6.toNat), vI (tI τ q13 x6.toNat), vI x2, vI x3, none, none] [] τ (KC d 187 214 217 [vR r0, none, vI x2, vI x3, vR r4, vI x5, vI x6] [AI x5, AP (tP τ r0 25)] Q)) : G d 187 181 [vR r0, none, vI x2, vI x3, vR r4, vI x5, vI x6] [] τ Q := by
  refine g_sk 1 (pc1 := 182) (st1 := [AR r0]) rfl ?_
  refine g_gP rfl (ci := 21) (k := 25) rfl sh1 ?_
  refine g_sk 3 (pc1 := 190) (st1 := [AR r4, AR r0, AI x5, AP (tP τ r0 25)]) rfl ?_
  refine g_gQ rfl (ci := 17) (k := 0) rfl sh2 p4 ?_
  refine g_sk 1 (pc1 := 195) (st1 := [AI x6, AR q3, AR r0, AI x5, AP (tP τ r0 25)]) rfl ?_
  refine g_iald rfl sh6 (by decide) b7.1 b7.2 ?_
  refine g_sk 1 (pc1 := 198) (st1 := [AR r4, AI (tI τ q3 x6.toNat), AR r0, AI x5, AP (tP τ r0 25)]) rfl ?_
  refine g_gQ rfl (ci := 17) (k := 1) rfl sh2 p9 ?_
  refine g_sk 1 (pc1 := 203) (st1 := [AI x6, AR q8, AI (tI τ q3 x6.toNat), AR r0, AI x5, AP (tP τ r0 25)]) rfl ?_
  refine g_iald rfl sh11 (by decide) b12.1 b12.2 ?_
  refine g_sk 1 (pc1 := 206) (st1 := [AR r4, AI (tI τ q8 x6.toNat), AI (tI τ q3 x6.toNat), AR r0, AI x5, AP (tP τ r0 25)]) rfl ?_
  refine g_gQ rfl (ci := 17) (k := 2) rfl sh2 p14 ?_
  refine g_sk 1 (pc1 := 211) (st1 := [AI x6, AR q13, AI (tI τ q8 x6.toNat), AI (tI τ q3 x6.toNat), AR r0, AI x5, AP (tP τ r0 25)]) rfl ?_
  refine g_iald rfl sh16 (by decide) b17.1 b17.2 ?_
  refine g_sk 2 (pc1 := 214) (st1 := [AI x3, AI x2, AI (tI τ q13 x6.toNat), AI (tI τ q8 x6.toNat), AI (tI τ q3 x6.toNat), AR r0, AI x5, AP (tP τ r0 25)]) rfl ?_
  refine g_cv rfl rfl (by decide) rfl rfl (Nat.le_of_ble_eq_true rfl) (as2 := [AI (tI τ q3 x6.toNat), AI (tI τ q8 x6.toNat), AI (tI τ q13 x6.toNat), AI x2, AI x3]) rfl sh1 rfl (by omega) (L0 := [vR r0, vI (tI τ q3 x6.toNat), vI (tI τ q8 x6.toNat), vI (tI τ q13 x6.toNat), vI x2, vI x3, none, none]) rfl ?_
  exact k1

set_option maxRecDepth 8192 in
theorem t203_29 {d : Nat} {τ : T2} {Q : RS → T2 → Prop} {x2 x3 x4 y0 : Int} {r0 : Nat} {r1 : Option Nat} (k1 : y0 = 0 → G d 203 68 [vR r0, vQ r1, vI x2, vI x3, none, none, none] [] τ Q) (k2 : y0 = 1 → G d 203 193 [vR r0, vQ r1, vI x2, vI x3, vI x4, none, none] [] τ Q) (k3 : y0 = 2 → G d 203 283 [vR r0, vQ r1, vI x2, vI x3, vI x4, none, none] [] τ Q) (k4 : y0 = 3 → G d 203 343 [vR r0, vQ r1, vI x2, vI x3, none, none, none] [] τ Q) (k5 : y0 = 4 → G d 203 412 [vR r0, vQ r1, vI x2, vI x3, none, none, none] [] τ Q) (k6 : y0 = 5 → G d 203 419 [vR r0, vQ r1, vI x2, vI x3, vI x4, none, none] [] τ Q) (k7 : y0 < 0 ∨ 5 < y0 → G d 203 435 [vR r0, vQ r1, vI x2, vI x3, vI x4, none, none] [] τ Q) : G d 203 29 [vR r0, vQ r1, vI x2, vI x3, vI x4, none, none] [AI y0] τ Q := by
  by_cases c0 : y0 = 0
  · rw [c0]
    refine g_st (τ1 := τ) rfl (pc1 := 68) (L1 := [vR r0, vQ r1, vI x2, vI x3, vI x4, none, none]) (st1 := []) rfl ?_
    exact G_fg (lw2_k _ (lw2_k _ (lw2_k _ (lw2_k _ (lw2_f _ (lw2_k _ (lw2_k _ lw2_nil))))))) (k1 c0)
  by_cases c1 : y0 = 1
  · rw [c1]
    refine g_st (τ1 := τ) rfl (pc1 := 193) (L1 := [vR r0, vQ r1, vI x2, vI x3, vI x4, none, none]) (st1 := []) rfl ?_
    exact (k2 c1)
  by_cases c2 : y0 = 2
  · rw [c2]
    refine g_st (τ1 := τ) rfl (pc1 := 283) (L1 := [vR r0, vQ r1, vI x2, vI x3, vI x4, none, none]) (st1 := []) rfl ?_
    exact (k3 c2)
  by_cases c3 : y0 = 3
  · rw [c3]
    refine g_st (τ1 := τ) rfl (pc1 := 343) (L1 := [vR r0, vQ r1, vI x2, vI x3, vI x4, none, none]) (st1 := []) rfl ?_
    exact G_fg (lw2_k _ (lw2_k _ (lw2_k _ (lw2_k _ (lw2_f _ (lw2_k _ (lw2_k _ lw2_nil))))))) (k4 c3)
  by_cases c4 : y0 = 4
  · rw [c4]
    refine g_st (τ1 := τ) rfl (pc1 := 412) (L1 := [vR r0, vQ r1, vI x2, vI x3, vI x4, none, none]) (st1 := []) rfl ?_
    exact G_fg (lw2_k _ (lw2_k _ (lw2_k _ (lw2_k _ (lw2_f _ (lw2_k _ (lw2_k _ lw2_nil))))))) (k5 c4)
  by_cases c5 : y0 = 5
  · rw [c5]
    refine g_st (τ1 := τ) rfl (pc1 := 419) (L1 := [vR r0, vQ r1, vI x2, vI x3, vI x4, none, none]) (st1 := []) rfl ?_
    exact (k6 c5)
  have cd : y0 < 0 ∨ 5 < y0 := by omega
  refine g_tsd rfl (t0 := 435) rfl cd ?_
  exact (k7 cd)

set_option maxRecDepth 8192 in
theorem t203_68 {d : Nat} {τ : T2} {Q : RS → T2 → Prop} {x2 x3 : Int} {r0 : Nat} {r1 : Option Nat} (k1 : G d 203 74 [vR r0, vQ r1, vI x2, vI x3, none, vI (wr (12 * x3)), none] [] τ Q) : G d 203 68 [vR r0, vQ r1, vI x2, vI x3, none, none, none] [] τ Q := by
  refine g_sx 4 (pc1 := 74) (L1 := [vR r0, vQ r1, vI x2, vI x3, none, vI (wr (12 * x3)), none]) (st1 := []) rfl ?_
  exact k1

set_option maxRecDepth 8192 in
theorem t203_193 {d : Nat} {τ : T2} {Q : RS → T2 → Prop} {x2 x3 x4 : Int} {r0 q2 n4 q7 : Nat} {r1 : Option Nat} (sh1 : tS τ r0 = (1, 21, 0)) (p3 : tP τ r0 8 = some q2) (sh5 : tS τ q2 = (3, 7, n4)) (b6 : (0 : Int) ≤ x4 ∧ x4 < (n4 : Int)) (p8 : tP τ q2 x4.toNat = some q7) (sh9 : tS τ q7 = (1, 15, 0)) (k1 : (wr ((tI τ r0 32) + (tI τ q7 2))) ≤ 24 → G d 203 222 [vR r0, vQ r1, vI x2, vI x3, vI x4, vR q7, vI 0] [] τ Q) (k2 : 24 < (wr ((tI τ r0 32) + (tI τ q7 2))) → Q (.inl (some (AI 0))) τ) : G d 203 193 [vR r0, vQ r1, vI x2, vI x3, vI x4, none, none] [] τ Q := by
  refine g_sk 1 (pc1 := 194) (st1 := [AR r0]) rfl ?_
  refine g_gQ rfl (ci := 21) (k := 8) rfl sh1 p3 ?_
  refine g_sk 1 (pc1 := 199) (st1 := [AI x4, AR q2]) rfl ?_
  refine g_aalQ rfl sh5 (by decide) b6.1 b6.2 p8 ?_
  refine g_sx 2 (pc1 := 203) (L1 := [vR r0, vQ r1, vI x2, vI x3, vI x4, vR q7, none]) (st1 := [AR r0]) rfl ?_
  refine g_gI rfl (ci := 21) (k := 32) rfl sh1 ?_
  refine g_sk 1 (pc1 := 208) (st1 := [AR q7, AI (tI τ r0 32)]) rfl ?_
  refine g_gI rfl (ci := 15) (k := 2) rfl sh9 ?_
  refine g_sk 2 (pc1 := 214) (st1 := [AI 24, AI (wr ((tI τ r0 32) + (tI τ q7 2)))]) rfl ?_
  refine g_br2 rfl (t := 219) rfl (fun c10 => ?_) (fun c10 => ?_)
  · have c10 : (wr ((tI τ r0 32) + (tI τ q7 2))) ≤ 24 := of_decide_eq_true c10
    refine g_sx 2 (pc1 := 222) (L1 := [vR r0, vQ r1, vI x2, vI x3, vI x4, vR q7, vI 0]) (st1 := []) rfl ?_
    exact (k1 c10)
  · have c10 : 24 < (wr ((tI τ r0 32) + (tI τ q7 2))) := Int.not_le.mp (of_decide_eq_false c10)
    refine g_sk 1 (pc1 := 218) (st1 := [AI 0]) rfl ?_
    refine g_zret rfl rfl (by decide) ?_
    exact (k2 c10)

set_option maxRecDepth 8192 in
theorem t203_283 {d : Nat} {τ : T2} {Q : RS → T2 → Prop} {x2 x3 x4 : Int} {r0 : Nat} {r1 : Option Nat} (k1 : G d 203 286 [vR r0, vQ r1, vI x2, vI x3, vI x4, vI 0, none] [] τ Q) : G d 203 283 [vR r0, vQ r1, vI x2, vI x3, vI x4, none, none] [] τ Q := by
  refine g_sx 2 (pc1 := 286) (L1 := [vR r0, vQ r1, vI x2, vI x3, vI x4, vI 0, none]) (st1 := []) rfl ?_
  exact k1

set_option maxRecDepth 8192 in
theorem t203_343 {d : Nat} {τ : T2} {Q : RS → T2 → Prop} {x2 x3 : Int} {r0 : Nat} {r1 : Option Nat} (k1 : G d 203 346 [vR r0, vQ r1, vI x2, vI x3, none, vI 0, none] [] τ Q) : G d 203 343 [vR r0, vQ r1, vI x2, vI x3, none, none, none] [] τ Q := by
  refine g_sx 2 (pc1 := 346) (L1 := [vR r0, vQ r1, vI x2, vI x3, none, vI 0, none]) (st1 := []) rfl ?_
  exact k1

set_option maxRecDepth 8192 in
theorem t203_412 {d : Nat} {τ : T2} {Q : RS → T2 → Prop} {x2 x3 : Int} {r0 : Nat} {r1 : Option Nat} (hd : 1 ≤ d) (sh1 : tS τ r0 = (1, 21, 0)) (k1 : G (d - 1) 204 0 [vR r0, none, none, none, none] [] τ (KC d 203 413 416 [vR r0, vQ r1, vI x2, vI x3, none, none, none] [] Q)) : G d 203 412 [vR r0, vQ r1, vI x2, vI x3, none, none, none] [] τ Q := by
  refine g_sk 1 (pc1 := 413) (st1 := [AR r0]) rfl ?_
  refine g_cv rfl rfl (by decide) rfl rfl (Nat.le_of_ble_eq_true rfl) (as2 := []) rfl sh1 rfl (by omega) (L0 := [vR r0, none, none, none, none]) rfl ?_
  exact k1

set_option maxRecDepth 8192 in
theorem t203_419 {d : Nat} {τ : T2} {Q : RS → T2 → Prop} {x2 x3 x4 : Int} {r0 : Nat} {r1 : Option Nat} (hd : 17 ≤ d) (sh1 : tS τ r0 = (1, 21, 0)) (k1 : G d 203 7 [vR r0, vQ r1, vI x2, vI (wr (x3 + 1)), none, none, none] [] (uI τ r0 32 (if x4 < (tI τ r0 32) then x4 else (tI τ r0 32))) Q) : G d 203 419 [vR r0, vQ r1, vI x2, vI x3, vI x4, none, none] [] τ Q := by
  refine g_sk 2 (pc1 := 421) (st1 := [AR r0, AR r0]) rfl ?_
  refine g_gI rfl (ci := 21) (k := 32) rfl sh1 ?_
  refine g_sk 1 (pc1 := 426) (st1 := [AI x4, AI (tI τ r0 32), AR r0]) rfl ?_
  refine g_min rfl rfl rfl hd ?_
  refine g_putI (x := (if x4 < (tI τ r0 32) then x4 else (tI τ r0 32))) rfl (ci := 21) (k := 32) (kd := 0) rfl (by decide) rfl rfl sh1 ?_
  refine g_sx 3 (pc1 := 7) (L1 := [vR r0, vQ r1, vI x2, vI (wr (x3 + 1)), vI x4, none, none]) (st1 := []) rfl ?_
  exact G_fg (lw2_k _ (lw2_k _ (lw2_k _ (lw2_k _ (lw2_f _ (lw2_k _ (lw2_k _ lw2_nil))))))) k1

set_option maxRecDepth 8192 in
theorem t203_435 {d : Nat} {τ : T2} {Q : RS → T2 → Prop} {x2 x3 x4 : Int} {r0 : Nat} {r1 : Option Nat} (k1 : G d 203 444 [vR r0, vQ r1, vI x2, vI x3, vI x4, vI 0, vI (wr (x4 - 1))] [] τ Q) : G d 203 435 [vR r0, vQ r1, vI x2, vI x3, vI x4, none, none] [] τ Q := by
  refine g_sx 6 (pc1 := 444) (L1 := [vR r0, vQ r1, vI x2, vI x3, vI x4, vI 0, vI (wr (x4 - 1))]) (st1 := []) rfl ?_
  exact k1

set_option maxRecDepth 8192 in
theorem t219_23 {d : Nat} {τ : T2} {Q : RS → T2 → Prop} {y0 : Int} {r3 : Option Nat} (k1 : y0 = 0 → G d 219 72 [none, none, none, vQ r3] [] τ Q) (k2 : y0 = 1 → G d 219 77 [none, none, none, vQ r3] [] τ Q) (k3 : y0 = 2 → G d 219 82 [none, none, none, vQ r3] [] τ Q) (k4 : y0 = 3 → G d 219 87 [none, none, none, vQ r3] [] τ Q) (k5 : y0 = 4 → G d 219 92 [none, none, none, vQ r3] [] τ Q) (k6 : y0 = 5 → G d 219 97 [none, none, none, vQ r3] [] τ Q) (k7 : y0 = 6 → G d 219 102 [none, none, none, vQ r3] [] τ Q) (k8 : y0 = 7 → G d 219 115 [none, none, none, vQ r3] [] τ Q) (k9 : y0 = 8 → G d 219 128 [none, none, none, vQ r3] [] τ Q) (k10 : y0 < 0 ∨ 8 < y0 → G d 219 141 [none, none, none, none] [] τ Q) : G d 219 23 [none, none, none, vQ r3] [AI y0] τ Q := by
  by_cases c0 : y0 = 0
  · rw [c0]
    refine g_st (τ1 := τ) rfl (pc1 := 72) (L1 := [none, none, none, vQ r3]) (st1 := []) rfl ?_
    exact (k1 c0)
  by_cases c1 : y0 = 1
  · rw [c1]
    refine g_st (τ1 := τ) rfl (pc1 := 77) (L1 := [none, none, none, vQ r3]) (st1 := []) rfl ?_
    exact (k2 c1)
  by_cases c2 : y0 = 2
  · rw [c2]
    refine g_st (τ1 := τ) rfl (pc1 := 82) (L1 := [none, none, none, vQ r3]) (st1 := []) rfl ?_
    exact (k3 c2)
  by_cases c3 : y0 = 3
  · rw [c3]
    refine g_st (τ1 := τ) rfl (pc1 := 87) (L1 := [none, none, none, vQ r3]) (st1 := []) rfl ?_
    exact (k4 c3)
  by_cases c4 : y0 = 4
  · rw [c4]
    refine g_st (τ1 := τ) rfl (pc1 := 92) (L1 := [none, none, none, vQ r3]) (st1 := []) rfl ?_
    exact (k5 c4)
  by_cases c5 : y0 = 5
  · rw [c5]
    refine g_st (τ1 := τ) rfl (pc1 := 97) (L1 := [none, none, none, vQ r3]) (st1 := []) rfl ?_
    exact (k6 c5)
  by_cases c6 : y0 = 6
  · rw [c6]
    refine g_st (τ1 := τ) rfl (pc1 := 102) (L1 := [none, none, none, vQ r3]) (st1 := []) rfl ?_
    exact (k7 c6)
  by_cases c7 : y0 = 7
  · rw [c7]
    refine g_st (τ1 := τ) rfl (pc1 := 115) (L1 := [none, none, none, vQ r3]) (st1 := []) rfl ?_
    exact (k8 c7)
  by_cases c8 : y0 = 8
  · rw [c8]
    refine g_st (τ1 := τ) rfl (pc1 := 128) (L1 := [none, none, none, vQ r3]) (st1 := []) rfl ?_
    exact (k9 c8)
  have cd : y0 < 0 ∨ 8 < y0 := by omega
  refine g_tsd rfl (t0 := 141) rfl cd ?_
  exact G_fg (lw2_k _ (lw2_k _ (lw2_k _ (lw2_f _ lw2_nil)))) (k10 cd)

set_option maxRecDepth 8192 in
theorem t219_72 {d : Nat} {τ : T2} {Q : RS → T2 → Prop} {r3 : Nat} (sh1 : tS τ r3 = (1, 15, 0)) (k1 : Q (.inl (some (AI (tI τ r3 0)))) τ) : G d 219 72 [none, none, none, vR r3] [] τ Q := by
  refine g_sk 1 (pc1 := 73) (st1 := [AR r3]) rfl ?_
  refine g_gI rfl (ci := 15) (k := 0) rfl sh1 ?_
  refine g_iret rfl rfl ?_
  exact k1

set_option maxRecDepth 8192 in
theorem t219_77 {d : Nat} {τ : T2} {Q : RS → T2 → Prop} {r3 : Nat} (sh1 : tS τ r3 = (1, 15, 0)) (k1 : Q (.inl (some (AI (tI τ r3 1)))) τ) : G d 219 77 [none, none, none, vR r3] [] τ Q := by
  refine g_sk 1 (pc1 := 78) (st1 := [AR r3]) rfl ?_
  refine g_gI rfl (ci := 15) (k := 1) rfl sh1 ?_
  refine g_iret rfl rfl ?_
  exact k1

set_option maxRecDepth 8192 in
theorem t219_82 {d : Nat} {τ : T2} {Q : RS → T2 → Prop} {r3 : Nat} (sh1 : tS τ r3 = (1, 15, 0)) (k1 : Q (.inl (some (AI (tI τ r3 2)))) τ) : G d 219 82 [none, none, none, vR r3] [] τ Q := by
  refine g_sk 1 (pc1 := 83) (st1 := [AR r3]) rfl ?_
  refine g_gI rfl (ci := 15) (k := 2) rfl sh1 ?_
  refine g_iret rfl rfl ?_
  exact k1

set_option maxRecDepth 8192 in
theorem t219_87 {d : Nat} {τ : T2} {Q : RS → T2 → Prop} {r3 : Nat} (sh1 : tS τ r3 = (1, 15, 0)) (k1 : Q (.inl (some (AI (tI τ r3 3)))) τ) : G d 219 87 [none, none, none, vR r3] [] τ Q := by
  refine g_sk 1 (pc1 := 88) (st1 := [AR r3]) rfl ?_
  refine g_gI rfl (ci := 15) (k := 3) rfl sh1 ?_
  refine g_iret rfl rfl ?_
  exact k1

set_option maxRecDepth 8192 in
theorem t219_92 {d : Nat} {τ : T2} {Q : RS → T2 → Prop} {r3 : Nat} (sh1 : tS τ r3 = (1, 15, 0)) (k1 : Q (.inl (some (AI (tI τ r3 4)))) τ) : G d 219 92 [none, none, none, vR r3] [] τ Q := by
  refine g_sk 1 (pc1 := 93) (st1 := [AR r3]) rfl ?_
  refine g_gI rfl (ci := 15) (k := 4) rfl sh1 ?_
  refine g_iret rfl rfl ?_
  exact k1

set_option maxRecDepth 8192 in
theorem t219_97 {d : Nat} {τ : T2} {Q : RS → T2 → Prop} {r3 : Nat} (sh1 : tS τ r3 = (1, 15, 0)) (k1 : Q (.inl (some (AI (tI τ r3 5)))) τ) : G d 219 97 [none, none, none, vR r3] [] τ Q := by
  refine g_sk 1 (pc1 := 98) (st1 := [AR r3]) rfl ?_
  refine g_gI rfl (ci := 15) (k := 5) rfl sh1 ?_
  refine g_iret rfl rfl ?_
  exact k1

set_option maxRecDepth 8192 in
theorem t219_102 {d : Nat} {τ : T2} {Q : RS → T2 → Prop} {r3 : Nat} (sh1 : tS τ r3 = (1, 15, 0)) (k1 : ∀ q3, (tP τ r3 9) = some q3 → G d 219 113 [none, none, none, none] [] τ Q) (k2 : (tP τ r3 9) = none → Q (.inl (some (AI 0))) τ) : G d 219 102 [none, none, none, vR r3] [] τ Q := by
  refine g_sk 1 (pc1 := 103) (st1 := [AR r3]) rfl ?_
  refine g_gP rfl (ci := 15) (k := 9) rfl sh1 ?_
  refine g_nnl rfl (t := 113) rfl (fun q3 c2 => ?_) (fun c2 => ?_)
  · skip
    exact G_fg (lw2_k _ (lw2_k _ (lw2_k _ (lw2_f _ lw2_nil)))) (k1 q3 c2)
  · skip
    refine g_sk 2 (pc1 := 114) (st1 := [AI 0]) rfl ?_
    refine g_iret rfl rfl ?_
    exact (k2 c2)

set_option maxRecDepth 8192 in
theorem t219_115 {d : Nat} {τ : T2} {Q : RS → T2 → Prop} {r3 : Nat} (sh1 : tS τ r3 = (1, 15, 0)) (k1 : ∀ q3, (tP τ r3 10) = some q3 → G d 219 126 [none, none, none, none] [] τ Q) (k2 : (tP τ r3 10) = none → Q (.inl (some (AI 0))) τ) : G d 219 115 [none, none, none, vR r3] [] τ Q := by
  refine g_sk 1 (pc1 := 116) (st1 := [AR r3]) rfl ?_
  refine g_gP rfl (ci := 15) (k := 10) rfl sh1 ?_
  refine g_nnl rfl (t := 126) rfl (fun q3 c2 => ?_) (fun c2 => ?_)
  · skip
    exact G_fg (lw2_k _ (lw2_k _ (lw2_k _ (lw2_f _ lw2_nil)))) (k1 q3 c2)
  · skip
    refine g_sk 2 (pc1 := 127) (st1 := [AI 0]) rfl ?_
    refine g_iret rfl rfl ?_
    exact (k2 c2)

set_option maxRecDepth 8192 in
theorem t219_128 {d : Nat} {τ : T2} {Q : RS → T2 → Prop} {r3 : Nat} (sh1 : tS τ r3 = (1, 15, 0)) (k1 : ∀ q3, (tP τ r3 11) = some q3 → G d 219 139 [none, none, none, none] [] τ Q) (k2 : (tP τ r3 11) = none → Q (.inl (some (AI 0))) τ) : G d 219 128 [none, none, none, vR r3] [] τ Q := by
  refine g_sk 1 (pc1 := 129) (st1 := [AR r3]) rfl ?_
  refine g_gP rfl (ci := 15) (k := 11) rfl sh1 ?_
  refine g_nnl rfl (t := 139) rfl (fun q3 c2 => ?_) (fun c2 => ?_)
  · skip
    exact G_fg (lw2_k _ (lw2_k _ (lw2_k _ (lw2_f _ lw2_nil)))) (k1 q3 c2)
  · skip
    refine g_sk 2 (pc1 := 140) (st1 := [AI 0]) rfl ?_
    refine g_iret rfl rfl ?_
    exact (k2 c2)

set_option maxRecDepth 8192 in
theorem t219_141 {d : Nat} {τ : T2} {Q : RS → T2 → Prop}  (k1 : Q (.inl (some (AI (-1)))) τ) : G d 219 141 [none, none, none, none] [] τ Q := by
  refine g_sk 1 (pc1 := 142) (st1 := [AI (-1)]) rfl ?_
  refine g_iret rfl rfl ?_
  exact k1

set_option maxRecDepth 8192 in
theorem t234_23 {d : Nat} {τ : T2} {Q : RS → T2 → Prop} {y0 : Int} {r0 : Nat} {r3 : Option Nat} (k1 : y0 = 0 → G d 234 64 [none, none, none, vQ r3] [] τ Q) (k2 : y0 = 1 → G d 234 69 [vR r0, none, none, vQ r3] [] τ Q) (k3 : y0 = 2 → G d 234 81 [vR r0, none, none, vQ r3] [] τ Q) (k4 : y0 = 3 → G d 234 90 [vR r0, none, none, vQ r3] [] τ Q) (k5 : y0 = 4 → G d 234 104 [vR r0, none, none, vQ r3] [] τ Q) (k6 : y0 = 5 → G d 234 113 [none, none, none, vQ r3] [] τ Q) (k7 : y0 = 6 → G d 234 118 [vR r0, none, none, vQ r3] [] τ Q) (k8 : y0 < 0 ∨ 6 < y0 → G d 234 127 [none, none, none, none] [] τ Q) : G d 234 23 [vR r0, none, none, vQ r3] [AI y0] τ Q := by
  by_cases c0 : y0 = 0
  · rw [c0]
    refine g_st (τ1 := τ) rfl (pc1 := 64) (L1 := [vR r0, none, none, vQ r3]) (st1 := []) rfl ?_
    exact G_fg (lw2_f _ (lw2_k _ (lw2_k _ (lw2_k _ lw2_nil)))) (k1 c0)
  by_cases c1 : y0 = 1
  · rw [c1]
    refine g_st (τ1 := τ) rfl (pc1 := 69) (L1 := [vR r0, none, none, vQ r3]) (st1 := []) rfl ?_
    exact (k2 c1)
  by_cases c2 : y0 = 2
  · rw [c2]
    refine g_st (τ1 := τ) rfl (pc1 := 81) (L1 := [vR r0, none, none, vQ r3]) (st1 := []) rfl ?_
    exact (k3 c2)
  by_cases c3 : y0 = 3
  · rw [c3]
    refine g_st (τ1 := τ) rfl (pc1 := 90) (L1 := [vR r0, none, none, vQ r3]) (st1 := []) rfl ?_
    exact (k4 c3)
  by_cases c4 : y0 = 4
  · rw [c4]
    refine g_st (τ1 := τ) rfl (pc1 := 104) (L1 := [vR r0, none, none, vQ r3]) (st1 := []) rfl ?_
    exact (k5 c4)
  by_cases c5 : y0 = 5
  · rw [c5]
    refine g_st (τ1 := τ) rfl (pc1 := 113) (L1 := [vR r0, none, none, vQ r3]) (st1 := []) rfl ?_
    exact G_fg (lw2_f _ (lw2_k _ (lw2_k _ (lw2_k _ lw2_nil)))) (k6 c5)
  by_cases c6 : y0 = 6
  · rw [c6]
    refine g_st (τ1 := τ) rfl (pc1 := 118) (L1 := [vR r0, none, none, vQ r3]) (st1 := []) rfl ?_
    exact (k7 c6)
  have cd : y0 < 0 ∨ 6 < y0 := by omega
  refine g_tsd rfl (t0 := 127) rfl cd ?_
  exact G_fg (lw2_f _ (lw2_k _ (lw2_k _ (lw2_f _ lw2_nil)))) (k8 cd)

set_option maxRecDepth 8192 in
theorem t234_64 {d : Nat} {τ : T2} {Q : RS → T2 → Prop} {r3 : Nat} (sh1 : tS τ r3 = (1, 19, 0)) (k1 : Q (.inl (some (AI (tI τ r3 0)))) τ) : G d 234 64 [none, none, none, vR r3] [] τ Q := by
  refine g_sk 1 (pc1 := 65) (st1 := [AR r3]) rfl ?_
  refine g_gI rfl (ci := 19) (k := 0) rfl sh1 ?_
  refine g_iret rfl rfl ?_
  exact k1

set_option maxRecDepth 8192 in
theorem t234_69 {d : Nat} {τ : T2} {Q : RS → T2 → Prop} {r0 r3 : Nat} (hd : 1 ≤ d) (sh1 : tS τ r0 = (1, 21, 0)) (sh2 : tS τ r3 = (1, 19, 0)) (k1 : G (d - 1) 157 0 [vR r3, vI (tI τ r0 7), none, none] [] τ (KC d 234 74 77 [none, none, none, none] [] Q)) : G d 234 69 [vR r0, none, none, vR r3] [] τ Q := by
  refine g_sk 2 (pc1 := 71) (st1 := [AR r0, AR r3]) rfl ?_
  refine g_gI rfl (ci := 21) (k := 7) rfl sh1 ?_
  refine G_fg (lw2_f _ (lw2_k _ (lw2_k _ (lw2_f _ lw2_nil)))) ?_
  refine g_cv rfl rfl (by decide) rfl rfl (Nat.le_of_ble_eq_true rfl) (as2 := [AI (tI τ r0 7)]) rfl sh2 rfl (by omega) (L0 := [vR r3, vI (tI τ r0 7), none, none]) rfl ?_
  exact k1

set_option maxRecDepth 8192 in
theorem t234_81 {d : Nat} {τ : T2} {Q : RS → T2 → Prop} {r0 r3 : Nat} (hd : 1 ≤ d) (sh1 : tS τ r0 = (1, 21, 0)) (sh2 : tS τ r3 = (1, 19, 0)) (k1 : G (d - 1) 160 0 [vR r3, vI (tI τ r0 7)] [] τ (KC d 234 86 89 [none, none, none, none] [] Q)) : G d 234 81 [vR r0, none, none, vR r3] [] τ Q := by
  refine g_sk 2 (pc1 := 83) (st1 := [AR r0, AR r3]) rfl ?_
  refine g_gI rfl (ci := 21) (k := 7) rfl sh1 ?_
  refine G_fg (lw2_f _ (lw2_k _ (lw2_k _ (lw2_f _ lw2_nil)))) ?_
  refine g_cv rfl rfl (by decide) rfl rfl (Nat.le_of_ble_eq_true rfl) (as2 := [AI (tI τ r0 7)]) rfl sh2 rfl (by omega) (L0 := [vR r3, vI (tI τ r0 7)]) rfl ?_
  exact k1

set_option maxRecDepth 8192 in
theorem t234_90 {d : Nat} {τ : T2} {Q : RS → T2 → Prop} {r0 r3 : Nat} (hd : 1 ≤ d) (sh1 : tS τ r0 = (1, 21, 0)) (sh2 : tS τ r3 = (1, 19, 0)) (k1 : G (d - 1) 158 0 [vR r3, vI (tI τ r0 7), none, none] [] τ (KC d 234 99 102 [none, none, none, none] [AI (tI τ r0 7)] Q)) : G d 234 90 [vR r0, none, none, vR r3] [] τ Q := by
  refine g_sk 1 (pc1 := 91) (st1 := [AR r0]) rfl ?_
  refine g_gI rfl (ci := 21) (k := 7) rfl sh1 ?_
  refine g_sk 2 (pc1 := 96) (st1 := [AR r0, AR r3, AI (tI τ r0 7)]) rfl ?_
  refine g_gI rfl (ci := 21) (k := 7) rfl sh1 ?_
  refine G_fg (lw2_f _ (lw2_k _ (lw2_k _ (lw2_f _ lw2_nil)))) ?_
  refine g_cv rfl rfl (by decide) rfl rfl (Nat.le_of_ble_eq_true rfl) (as2 := [AI (tI τ r0 7)]) rfl sh2 rfl (by omega) (L0 := [vR r3, vI (tI τ r0 7), none, none]) rfl ?_
  exact k1

set_option maxRecDepth 8192 in
theorem t234_104 {d : Nat} {τ : T2} {Q : RS → T2 → Prop} {r0 r3 : Nat} (hd : 1 ≤ d) (sh1 : tS τ r0 = (1, 21, 0)) (sh2 : tS τ r3 = (1, 19, 0)) (k1 : G (d - 1) 159 0 [vR r3, vI (tI τ r0 7), none, none] [] τ (KC d 234 109 112 [none, none, none, none] [] Q)) : G d 234 104 [vR r0, none, none, vR r3] [] τ Q := by
  refine g_sk 2 (pc1 := 106) (st1 := [AR r0, AR r3]) rfl ?_
  refine g_gI rfl (ci := 21) (k := 7) rfl sh1 ?_
  refine G_fg (lw2_f _ (lw2_k _ (lw2_k _ (lw2_f _ lw2_nil)))) ?_
  refine g_cv rfl rfl (by decide) rfl rfl (Nat.le_of_ble_eq_true rfl) (as2 := [AI (tI τ r0 7)]) rfl sh2 rfl (by omega) (L0 := [vR r3, vI (tI τ r0 7), none, none]) rfl ?_
  exact k1

set_option maxRecDepth 8192 in
theorem t234_113 {d : Nat} {τ : T2} {Q : RS → T2 → Prop} {r3 : Nat} (sh1 : tS τ r3 = (1, 19, 0)) (k1 : Q (.inl (some (AI (tI τ r3 1)))) τ) : G d 234 113 [none, none, none, vR r3] [] τ Q := by
  refine g_sk 1 (pc1 := 114) (st1 := [AR r3]) rfl ?_
  refine g_gI rfl (ci := 19) (k := 1) rfl sh1 ?_
  refine g_iret rfl rfl ?_
  exact k1

set_option maxRecDepth 8192 in
theorem t234_118 {d : Nat} {τ : T2} {Q : RS → T2 → Prop} {r0 r3 : Nat} (hd : 1 ≤ d) (sh1 : tS τ r0 = (1, 21, 0)) (sh2 : tS τ r3 = (1, 19, 0)) (k1 : G (d - 1) 157 0 [vR r3, vI (tI τ r0 7), none, none] [] τ (KC d 234 123 126 [none, none, none, none] [] Q)) : G d 234 118 [vR r0, none, none, vR r3] [] τ Q := by
  refine g_sk 2 (pc1 := 120) (st1 := [AR r0, AR r3]) rfl ?_
  refine g_gI rfl (ci := 21) (k := 7) rfl sh1 ?_
  refine G_fg (lw2_f _ (lw2_k _ (lw2_k _ (lw2_f _ lw2_nil)))) ?_
  refine g_cv rfl rfl (by decide) rfl rfl (Nat.le_of_ble_eq_true rfl) (as2 := [AI (tI τ r0 7)]) rfl sh2 rfl (by omega) (L0 := [vR r3, vI (tI τ r0 7), none, none]) rfl ?_
  exact k1

set_option maxRecDepth 8192 in
theorem t234_127 {d : Nat} {τ : T2} {Q : RS → T2 → Prop}  (k1 : Q (.inl (some (AI (-1)))) τ) : G d 234 127 [none, none, none, none] [] τ Q := by
  refine g_sk 1 (pc1 := 128) (st1 := [AI (-1)]) rfl ?_
  refine g_iret rfl rfl ?_
  exact k1

set_option maxRecDepth 8192 in
theorem t244_6 {d : Nat} {τ : T2} {Q : RS → T2 → Prop} {y0 : Int} {r0 : Nat} (k1 : y0 = 0 → G d 244 48 [vR r0, none] [] τ Q) (k2 : y0 = 1 → G d 244 53 [vR r0, none] [] τ Q) (k3 : y0 = 2 → G d 244 58 [vR r0, none] [] τ Q) (k4 : y0 = 3 → G d 244 63 [vR r0, none] [] τ Q) (k5 : y0 = 4 → G d 244 68 [vR r0, none] [] τ Q) (k6 : y0 = 5 → G d 244 73 [vR r0, none] [] τ Q) (k7 : y0 = 6 → G d 244 78 [vR r0, none] [] τ Q) (k8 : y0 < 0 ∨ 6 < y0 → G d 244 83 [none, none] [] τ Q) : G d 244 6 [vR r0, none] [AI y0] τ Q := by
  by_cases c0 : y0 = 0
  · rw [c0]
    refine g_st (τ1 := τ) rfl (pc1 := 48) (L1 := [vR r0, none]) (st1 := []) rfl ?_
    exact (k1 c0)
  by_cases c1 : y0 = 1
  · rw [c1]
    refine g_st (τ1 := τ) rfl (pc1 := 53) (L1 := [vR r0, none]) (st1 := []) rfl ?_
    exact (k2 c1)
  by_cases c2 : y0 = 2
  · rw [c2]
    refine g_st (τ1 := τ) rfl (pc1 := 58) (L1 := [vR r0, none]) (st1 := []) rfl ?_
    exact (k3 c2)
  by_cases c3 : y0 = 3
  · rw [c3]
    refine g_st (τ1 := τ) rfl (pc1 := 63) (L1 := [vR r0, none]) (st1 := []) rfl ?_
    exact (k4 c3)
  by_cases c4 : y0 = 4
  · rw [c4]
    refine g_st (τ1 := τ) rfl (pc1 := 68) (L1 := [vR r0, none]) (st1 := []) rfl ?_
    exact (k5 c4)
  by_cases c5 : y0 = 5
  · rw [c5]
    refine g_st (τ1 := τ) rfl (pc1 := 73) (L1 := [vR r0, none]) (st1 := []) rfl ?_
    exact (k6 c5)
  by_cases c6 : y0 = 6
  · rw [c6]
    refine g_st (τ1 := τ) rfl (pc1 := 78) (L1 := [vR r0, none]) (st1 := []) rfl ?_
    exact (k7 c6)
  have cd : y0 < 0 ∨ 6 < y0 := by omega
  refine g_tsd rfl (t0 := 83) rfl cd ?_
  exact G_fg (lw2_f _ (lw2_k _ lw2_nil)) (k8 cd)

set_option maxRecDepth 8192 in
theorem t244_48 {d : Nat} {τ : T2} {Q : RS → T2 → Prop} {r0 : Nat} (sh1 : tS τ r0 = (1, 21, 0)) (k1 : Q (.inl (some (AI (tI τ r0 4)))) τ) : G d 244 48 [vR r0, none] [] τ Q := by
  refine g_sk 1 (pc1 := 49) (st1 := [AR r0]) rfl ?_
  refine g_gI rfl (ci := 21) (k := 4) rfl sh1 ?_
  refine g_iret rfl rfl ?_
  exact k1

set_option maxRecDepth 8192 in
theorem t244_53 {d : Nat} {τ : T2} {Q : RS → T2 → Prop} {r0 : Nat} (sh1 : tS τ r0 = (1, 21, 0)) (k1 : Q (.inl (some (AI (tI τ r0 5)))) τ) : G d 244 53 [vR r0, none] [] τ Q := by
  refine g_sk 1 (pc1 := 54) (st1 := [AR r0]) rfl ?_
  refine g_gI rfl (ci := 21) (k := 5) rfl sh1 ?_
  refine g_iret rfl rfl ?_
  exact k1

set_option maxRecDepth 8192 in
theorem t244_58 {d : Nat} {τ : T2} {Q : RS → T2 → Prop} {r0 : Nat} (sh1 : tS τ r0 = (1, 21, 0)) (k1 : Q (.inl (some (AI (tI τ r0 6)))) τ) : G d 244 58 [vR r0, none] [] τ Q := by
  refine g_sk 1 (pc1 := 59) (st1 := [AR r0]) rfl ?_
  refine g_gI rfl (ci := 21) (k := 6) rfl sh1 ?_
  refine g_iret rfl rfl ?_
  exact k1

set_option maxRecDepth 8192 in
theorem t244_63 {d : Nat} {τ : T2} {Q : RS → T2 → Prop} {r0 : Nat} (sh1 : tS τ r0 = (1, 21, 0)) (k1 : Q (.inl (some (AI (tI τ r0 7)))) τ) : G d 244 63 [vR r0, none] [] τ Q := by
  refine g_sk 1 (pc1 := 64) (st1 := [AR r0]) rfl ?_
  refine g_gI rfl (ci := 21) (k := 7) rfl sh1 ?_
  refine g_iret rfl rfl ?_
  exact k1

set_option maxRecDepth 8192 in
theorem t244_68 {d : Nat} {τ : T2} {Q : RS → T2 → Prop} {r0 : Nat} (sh1 : tS τ r0 = (1, 21, 0)) (k1 : Q (.inl (some (AI (tI τ r0 12)))) τ) : G d 244 68 [vR r0, none] [] τ Q := by
  refine g_sk 1 (pc1 := 69) (st1 := [AR r0]) rfl ?_
  refine g_gI rfl (ci := 21) (k := 12) rfl sh1 ?_
  refine g_iret rfl rfl ?_
  exact k1

set_option maxRecDepth 8192 in
theorem t244_73 {d : Nat} {τ : T2} {Q : RS → T2 → Prop} {r0 : Nat} (sh1 : tS τ r0 = (1, 21, 0)) (k1 : Q (.inl (some (AI (tI τ r0 15)))) τ) : G d 244 73 [vR r0, none] [] τ Q := by
  refine g_sk 1 (pc1 := 74) (st1 := [AR r0]) rfl ?_
  refine g_gI rfl (ci := 21) (k := 15) rfl sh1 ?_
  refine g_iret rfl rfl ?_
  exact k1

set_option maxRecDepth 8192 in
theorem t244_78 {d : Nat} {τ : T2} {Q : RS → T2 → Prop} {r0 : Nat} (sh1 : tS τ r0 = (1, 21, 0)) (k1 : Q (.inl (some (AI (tI τ r0 34)))) τ) : G d 244 78 [vR r0, none] [] τ Q := by
  refine g_sk 1 (pc1 := 79) (st1 := [AR r0]) rfl ?_
  refine g_gI rfl (ci := 21) (k := 34) rfl sh1 ?_
  refine g_iret rfl rfl ?_
  exact k1

set_option maxRecDepth 8192 in
theorem t244_83 {d : Nat} {τ : T2} {Q : RS → T2 → Prop}  (k1 : Q (.inl (some (AI (-1)))) τ) : G d 244 83 [none, none] [] τ Q := by
  refine g_sk 1 (pc1 := 84) (st1 := [AI (-1)]) rfl ?_
  refine g_iret rfl rfl ?_
  exact k1

set_option maxRecDepth 8192 in
theorem t29_n {d : Nat} {τ : T2} {Q : RS → T2 → Prop} {r0 q4 n6 : Nat} (sh1 : tS τ r0 = (1, 5, 0)) (p5 : tP τ r0 1 = some q4) (sh7 : tS τ q4 = (3, 6, n6)) (b8 : (0 : Int) ≤ 99 ∧ 99 < (n6 : Int)) (b10 : 0 < (tI τ r0 2) → (wr ((tI τ r0 2) - 1)) < 100 → (0 : Int) ≤ (wr ((tI τ r0 2) - 1)) ∧ (wr ((tI τ r0 2) - 1)) < (n6 : Int)) (k1 : (tI τ r0 2) ≤ 0 → (100 : Int) ≤ (99 : Int) → Q (.inl none) τ) (k2 : (tI τ r0 2) ≤ 0 → (99 : Int) < (100 : Int) → Q (.inl none) (uP τ q4 99 none)) (k3 : 0 < (tI τ r0 2) → 100 ≤ (wr ((tI τ r0 2) - 1)) → Q (.inl none) τ) (k4 : 0 < (tI τ r0 2) → (wr ((tI τ r0 2) - 1)) < 100 → Q (.inl none) (uP τ q4 (wr ((tI τ r0 2) - 1)).toNat none)) : G d 29 0 [vR r0, vQ none, none] [] τ Q := by
  refine g_sk 1 (pc1 := 1) (st1 := [AR r0]) rfl ?_
  refine g_gI rfl (ci := 5) (k := 2) rfl sh1 ?_
  refine g_br1 rfl (t := 16) rfl (fun c2 => ?_) (fun c2 => ?_)
  · have c2 : (tI τ r0 2) ≤ 0 := of_decide_eq_true c2
    refine g_sx 4 (pc1 := 22) (L1 := [vR r0, vQ none, vI 99]) (st1 := [AI 100, AI 99]) rfl ?_
    refine g_br2 rfl (t := 32) rfl (fun c3 => ?_) (fun c3 => ?_)
    · have c3 : (100 : Int) ≤ (99 : Int) := of_decide_eq_true c3
      refine g_vret rfl rfl ?_
      exact (k1 c2 c3)
    · have c3 : (99 : Int) < (100 : Int) := Int.not_le.mp (of_decide_eq_false c3)
      refine g_sk 1 (pc1 := 26) (st1 := [AR r0]) rfl ?_
      refine g_gQ rfl (ci := 5) (k := 1) rfl sh1 p5 ?_
      refine g_sk 2 (pc1 := 31) (st1 := [AN, AI 99, AR q4]) rfl ?_
      refine g_aastN rfl sh7 (by decide) b8.1 b8.2 ?_
      refine g_vret rfl rfl ?_
      exact (k2 c2 c3)
  · have c2 : 0 < (tI τ r0 2) := Int.not_le.mp (of_decide_eq_false c2)
    refine g_sk 1 (pc1 := 8) (st1 := [AR r0]) rfl ?_
    refine g_gI rfl (ci := 5) (k := 2) rfl sh1 ?_
    refine g_sx 6 (pc1 := 22) (L1 := [vR r0, vQ none, vI (wr ((tI τ r0 2) - 1))]) (st1 := [AI 100, AI (wr ((tI τ r0 2) - 1))]) rfl ?_
    refine g_br2 rfl (t := 32) rfl (fun c9 => ?_) (fun c9 => ?_)
    · have c9 : 100 ≤ (wr ((tI τ r0 2) - 1)) := of_decide_eq_true c9
      refine g_vret rfl rfl ?_
      exact (k3 c2 c9)
    · have c9 : (wr ((tI τ r0 2) - 1)) < 100 := Int.not_le.mp (of_decide_eq_false c9)
      refine g_sk 1 (pc1 := 26) (st1 := [AR r0]) rfl ?_
      refine g_gQ rfl (ci := 5) (k := 1) rfl sh1 p5 ?_
      refine g_sk 2 (pc1 := 31) (st1 := [AN, AI (wr ((tI τ r0 2) - 1)), AR q4]) rfl ?_
      refine g_aastN rfl sh7 (by decide) (b10 c2 c9).1 (b10 c2 c9).2 ?_
      refine g_vret rfl rfl ?_
      exact (k4 c2 c9)

