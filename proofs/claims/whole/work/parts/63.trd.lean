/-! TREES of methods 147 to 204, written by program (wip/whole/tree.py) -/
set_option maxRecDepth 8192 in
theorem t147_0 {d : Nat} {τ : T2} {Q : RS → T2 → Prop} {r0 : Nat} (hd : 17 ≤ d) (k1 : Q (.inl none) τ) : G d 147 0 [vR r0] [] τ Q := by
  refine g_sk 1 (pc1 := 1) (st1 := [AR r0]) rfl ?_
  refine g_oin (na := 1) rfl rfl rfl hd ?_
  refine g_vret rfl rfl ?_
  exact k1

set_option maxRecDepth 8192 in
theorem t148_0 {d : Nat} {τ : T2} {Q : RS → T2 → Prop} {r0 : Nat} (hd : 17 ≤ d) (k1 : Q (.inl none) τ) : G d 148 0 [vR r0] [] τ Q := by
  refine g_sk 1 (pc1 := 1) (st1 := [AR r0]) rfl ?_
  refine g_oin (na := 1) rfl rfl rfl hd ?_
  refine g_vret rfl rfl ?_
  exact k1

set_option maxRecDepth 8192 in
theorem t149_0 {d : Nat} {τ : T2} {Q : RS → T2 → Prop} {r0 : Nat} (hd : 17 ≤ d) (k1 : G d 149 8 [none] [AR (tN τ), AR r0] (nC τ (2, 3, 4) 4) Q) : G d 149 0 [vR r0] [] τ Q := by
  refine g_sk 1 (pc1 := 1) (st1 := [AR r0]) rfl ?_
  refine g_oin (na := 1) rfl rfl rfl hd ?_
  refine g_sk 2 (pc1 := 6) (st1 := [AI 4, AR r0]) rfl ?_
  refine g_newa rfl rfl (by decide) (by decide) ?_
  exact G_fg (lw2_f _ lw2_nil) k1

set_option maxRecDepth 8192 in
theorem t149_8 {d : Nat} {τ : T2} {Q : RS → T2 → Prop} {s1 : Nat} {s0 : Option Nat} (sh1 : tS τ s1 = (1, 14, 0)) (k1 : Q (.inl none) (uP τ s1 2 s0)) : G d 149 8 [none] [AP s0, AR s1] τ Q := by
  refine g_putP rfl (ci := 14) (k := 2) rfl sh1 ?_
  refine g_vret rfl rfl ?_
  exact k1

set_option maxRecDepth 8192 in
theorem t150_0 {d : Nat} {τ : T2} {Q : RS → T2 → Prop} {r0 : Nat} (hd : 17 ≤ d) (k1 : G d 150 9 [vR r0] [AR (tN τ), AR r0] (nC τ (2, 1, 12) 12) Q) : G d 150 0 [vR r0] [] τ Q := by
  refine g_sk 1 (pc1 := 1) (st1 := [AR r0]) rfl ?_
  refine g_oin (na := 1) rfl rfl rfl hd ?_
  refine g_sk 2 (pc1 := 7) (st1 := [AI 12, AR r0]) rfl ?_
  refine g_newa rfl rfl (by decide) (by decide) ?_
  exact k1

set_option maxRecDepth 8192 in
theorem t150_9 {d : Nat} {τ : T2} {Q : RS → T2 → Prop} {r0 s1 : Nat} {s0 : Option Nat} (sh1 : tS τ s1 = (1, 15, 0)) (k1 : G d 150 16 [vR r0] [AR (tN (uP τ s1 6 s0)), AR r0] (nC (uP τ s1 6 s0) (2, 0, 3) 3) Q) : G d 150 9 [vR r0] [AP s0, AR s1] τ Q := by
  refine g_putP rfl (ci := 15) (k := 6) rfl sh1 ?_
  refine g_sk 2 (pc1 := 14) (st1 := [AI 3, AR r0]) rfl ?_
  refine g_newa rfl rfl (by decide) (by decide) ?_
  exact k1

set_option maxRecDepth 8192 in
theorem t150_16 {d : Nat} {τ : T2} {Q : RS → T2 → Prop} {r0 s1 : Nat} {s0 : Option Nat} (sh1 : tS τ s1 = (1, 15, 0)) (k1 : G d 150 23 [none] [AR (tN (uP τ s1 7 s0)), AR r0] (nC (uP τ s1 7 s0) (2, 0, 3) 3) Q) : G d 150 16 [vR r0] [AP s0, AR s1] τ Q := by
  refine g_putP rfl (ci := 15) (k := 7) rfl sh1 ?_
  refine g_sk 2 (pc1 := 21) (st1 := [AI 3, AR r0]) rfl ?_
  refine g_newa rfl rfl (by decide) (by decide) ?_
  exact G_fg (lw2_f _ lw2_nil) k1

set_option maxRecDepth 8192 in
theorem t150_23 {d : Nat} {τ : T2} {Q : RS → T2 → Prop} {s1 : Nat} {s0 : Option Nat} (sh1 : tS τ s1 = (1, 15, 0)) (k1 : Q (.inl none) (uP τ s1 8 s0)) : G d 150 23 [none] [AP s0, AR s1] τ Q := by
  refine g_putP rfl (ci := 15) (k := 8) rfl sh1 ?_
  refine g_vret rfl rfl ?_
  exact k1

set_option maxRecDepth 8192 in
theorem t151_0 {d : Nat} {τ : T2} {Q : RS → T2 → Prop} {r0 : Nat} (hd : 17 ≤ d) (k1 : G d 151 8 [none] [AR (tN τ), AR r0] (nC τ (1, 1, 0) 3) Q) : G d 151 0 [vR r0] [] τ Q := by
  refine g_sk 1 (pc1 := 1) (st1 := [AR r0]) rfl ?_
  refine g_oin (na := 1) rfl rfl rfl hd ?_
  refine g_sk 1 (pc1 := 5) (st1 := [AR r0]) rfl ?_
  refine g_new rfl (ci := 1) rfl (by decide) (by decide) ?_
  exact G_fg (lw2_f _ lw2_nil) k1

set_option maxRecDepth 8192 in
theorem t151_8 {d : Nat} {τ : T2} {Q : RS → T2 → Prop} {s0 : Nat} {s1 : Option Nat} (hd : 1 ≤ d) (k1 : G (d - 1) 253 0 [vR s0] [] τ (KC d 151 9 12 [none] [AR s0, AP s1] Q)) : G d 151 8 [none] [AR s0, AP s1] τ Q := by
  refine g_sk 1 (pc1 := 9) (st1 := [AR s0, AR s0, AP s1]) rfl ?_
  refine g_ci rfl rfl (by decide) rfl rfl (Nat.le_of_ble_eq_true rfl) (as2 := []) rfl rfl (by omega) (L0 := [vR s0]) rfl ?_
  exact k1

set_option maxRecDepth 8192 in
theorem t151_12 {d : Nat} {τ : T2} {Q : RS → T2 → Prop} {s1 : Nat} {s0 : Option Nat} (sh1 : tS τ s1 = (1, 16, 0)) (k1 : Q (.inl none) (uP τ s1 0 s0)) : G d 151 12 [none] [AP s0, AR s1] τ Q := by
  refine g_putP rfl (ci := 16) (k := 0) rfl sh1 ?_
  refine g_vret rfl rfl ?_
  exact k1

set_option maxRecDepth 8192 in
theorem t152_0 {d : Nat} {τ : T2} {Q : RS → T2 → Prop} {r0 : Nat} (hd : 17 ≤ d) (k1 : G d 152 10 [vR r0] [AR (tN τ), AR r0] (nC τ (2, 0, 200) 200) Q) : G d 152 0 [vR r0] [] τ Q := by
  refine g_sk 1 (pc1 := 1) (st1 := [AR r0]) rfl ?_
  refine g_oin (na := 1) rfl rfl rfl hd ?_
  refine g_sk 2 (pc1 := 8) (st1 := [AI 200, AR r0]) rfl ?_
  refine g_newa rfl rfl (by decide) (by decide) ?_
  exact k1

set_option maxRecDepth 8192 in
theorem t152_10 {d : Nat} {τ : T2} {Q : RS → T2 → Prop} {r0 s1 : Nat} {s0 : Option Nat} (sh1 : tS τ s1 = (1, 17, 0)) (k1 : G d 152 19 [vR r0] [AR (tN (uP τ s1 0 s0)), AR r0] (nC (uP τ s1 0 s0) (2, 0, 200) 200) Q) : G d 152 10 [vR r0] [AP s0, AR s1] τ Q := by
  refine g_putP rfl (ci := 17) (k := 0) rfl sh1 ?_
  refine g_sk 2 (pc1 := 17) (st1 := [AI 200, AR r0]) rfl ?_
  refine g_newa rfl rfl (by decide) (by decide) ?_
  exact k1

set_option maxRecDepth 8192 in
theorem t152_19 {d : Nat} {τ : T2} {Q : RS → T2 → Prop} {r0 s1 : Nat} {s0 : Option Nat} (sh1 : tS τ s1 = (1, 17, 0)) (k1 : G d 152 28 [none] [AR (tN (uP τ s1 1 s0)), AR r0] (nC (uP τ s1 1 s0) (2, 0, 200) 200) Q) : G d 152 19 [vR r0] [AP s0, AR s1] τ Q := by
  refine g_putP rfl (ci := 17) (k := 1) rfl sh1 ?_
  refine g_sk 2 (pc1 := 26) (st1 := [AI 200, AR r0]) rfl ?_
  refine g_newa rfl rfl (by decide) (by decide) ?_
  exact G_fg (lw2_f _ lw2_nil) k1

set_option maxRecDepth 8192 in
theorem t152_28 {d : Nat} {τ : T2} {Q : RS → T2 → Prop} {s1 : Nat} {s0 : Option Nat} (sh1 : tS τ s1 = (1, 17, 0)) (k1 : Q (.inl none) (uP τ s1 2 s0)) : G d 152 28 [none] [AP s0, AR s1] τ Q := by
  refine g_putP rfl (ci := 17) (k := 2) rfl sh1 ?_
  refine g_vret rfl rfl ?_
  exact k1

set_option maxRecDepth 8192 in
theorem t153_0 {d : Nat} {τ : T2} {Q : RS → T2 → Prop} {x1 x2 x3 : Int} {r0 q2 n4 q7 n9 q12 n14 : Nat} (sh1 : tS τ r0 = (1, 17, 0)) (p3 : tP τ r0 0 = some q2) (sh5 : tS τ q2 = (2, 0, n4)) (b6 : (0 : Int) ≤ (tI τ r0 3) ∧ (tI τ r0 3) < (n4 : Int)) (p8 : tP τ r0 1 = some q7) (sh10 : tS τ q7 = (2, 0, n9)) (b11 : (0 : Int) ≤ (tI (uI τ q2 (tI τ r0 3).toNat x1) r0 3) ∧ (tI (uI τ q2 (tI τ r0 3).toNat x1) r0 3) < (n9 : Int)) (p13 : tP τ r0 2 = some q12) (sh15 : tS τ q12 = (2, 0, n14)) (b16 : (0 : Int) ≤ (tI (uI (uI τ q2 (tI τ r0 3).toNat x1) q7 (tI (uI τ q2 (tI τ r0 3).toNat x1) r0 3).toNat x2) r0 3) ∧ (tI (uI (uI τ q2 (tI τ r0 3).toNat x1) q7 (tI (uI τ q2 (tI τ r0 3).toNat x1) r0 3).toNat x2) r0 3) < (n14 : Int)) (k1 : ∀ τ17, (uI (uI (uI (uI τ q2 (tI τ r0 3).toNat x1) q7 (tI (uI τ q2 (tI τ r0 3).toNat x1) r0 3).toNat x2) q12 (tI (uI (uI τ q2 (tI τ r0 3).toNat x1) q7 (tI (uI τ q2 (tI τ r0 3).toNat x1) r0 3).toNat x2) r0 3).toNat x3) r0 3 (wr ((tI (uI (uI (uI τ q2 (tI τ r0 3).toNat x1) q7 (tI (uI τ q2 (tI τ r0 3).toNat x1) r0 3).toNat x2) q12 (tI (uI (uI τ q2 (tI τ r0 3).toNat x1) q7 (tI (uI τ q2 (tI τ r0 3).toNat x1) r0 3).toNat x2) r0 3).toNat x3) r0 3) + 1))) = τ17 → Q (.inl none) τ17) : G d 153 0 [vR r0, vI x1, vI x2, vI x3] [] τ Q := by
  refine g_sk 1 (pc1 := 1) (st1 := [AR r0]) rfl ?_
  refine g_gQ rfl (ci := 17) (k := 0) rfl sh1 p3 ?_
  refine g_sk 1 (pc1 := 5) (st1 := [AR r0, AR q2]) rfl ?_
  refine g_gI rfl (ci := 17) (k := 3) rfl sh1 ?_
  refine g_sk 1 (pc1 := 9) (st1 := [AI x1, AI (tI τ r0 3), AR q2]) rfl ?_
  refine g_iast rfl sh5 b6.1 b6.2 ?_
  refine g_sk 1 (pc1 := 11) (st1 := [AR r0]) rfl ?_
  refine g_gQ rfl (ci := 17) (k := 1) rfl sh1 p8 ?_
  refine g_sk 1 (pc1 := 15) (st1 := [AR r0, AR q7]) rfl ?_
  refine g_gI rfl (ci := 17) (k := 3) rfl sh1 ?_
  refine g_sk 1 (pc1 := 19) (st1 := [AI x2, AI (tI (uI τ q2 (tI τ r0 3).toNat x1) r0 3), AR q7]) rfl ?_
  refine g_iast rfl sh10 b11.1 b11.2 ?_
  refine g_sk 1 (pc1 := 21) (st1 := [AR r0]) rfl ?_
  refine g_gQ rfl (ci := 17) (k := 2) rfl sh1 p13 ?_
  refine g_sk 1 (pc1 := 25) (st1 := [AR r0, AR q12]) rfl ?_
  refine g_gI rfl (ci := 17) (k := 3) rfl sh1 ?_
  refine g_sk 1 (pc1 := 29) (st1 := [AI x3, AI (tI (uI (uI τ q2 (tI τ r0 3).toNat x1) q7 (tI (uI τ q2 (tI τ r0 3).toNat x1) r0 3).toNat x2) r0 3), AR q12]) rfl ?_
  refine g_iast rfl sh15 b16.1 b16.2 ?_
  refine g_sk 2 (pc1 := 32) (st1 := [AR r0, AR r0]) rfl ?_
  refine g_gI rfl (ci := 17) (k := 3) rfl sh1 ?_
  refine g_sk 2 (pc1 := 37) (st1 := [AI (wr ((tI (uI (uI (uI τ q2 (tI τ r0 3).toNat x1) q7 (tI (uI τ q2 (tI τ r0 3).toNat x1) r0 3).toNat x2) q12 (tI (uI (uI τ q2 (tI τ r0 3).toNat x1) q7 (tI (uI τ q2 (tI τ r0 3).toNat x1) r0 3).toNat x2) r0 3).toNat x3) r0 3) + 1)), AR r0]) rfl ?_
  refine g_putI (x := (wr ((tI (uI (uI (uI τ q2 (tI τ r0 3).toNat x1) q7 (tI (uI τ q2 (tI τ r0 3).toNat x1) r0 3).toNat x2) q12 (tI (uI (uI τ q2 (tI τ r0 3).toNat x1) q7 (tI (uI τ q2 (tI τ r0 3).toNat x1) r0 3).toNat x2) r0 3).toNat x3) r0 3) + 1))) rfl (ci := 17) (k := 3) (kd := 0) rfl (by decide) rfl rfl sh1 ?_
  show G d 153 40 [vR r0, vI x1, vI x2, vI x3] [] (uI (uI (uI (uI τ q2 (tI τ r0 3).toNat x1) q7 (tI (uI τ q2 (tI τ r0 3).toNat x1) r0 3).toNat x2) q12 (tI (uI (uI τ q2 (tI τ r0 3).toNat x1) q7 (tI (uI τ q2 (tI τ r0 3).toNat x1) r0 3).toNat x2) r0 3).toNat x3) r0 3 (wr ((tI (uI (uI (uI τ q2 (tI τ r0 3).toNat x1) q7 (tI (uI τ q2 (tI τ r0 3).toNat x1) r0 3).toNat x2) q12 (tI (uI (uI τ q2 (tI τ r0 3).toNat x1) q7 (tI (uI τ q2 (tI τ r0 3).toNat x1) r0 3).toNat x2) r0 3).toNat x3) r0 3) + 1))) Q
  generalize e18 : (uI (uI (uI (uI τ q2 (tI τ r0 3).toNat x1) q7 (tI (uI τ q2 (tI τ r0 3).toNat x1) r0 3).toNat x2) q12 (tI (uI (uI τ q2 (tI τ r0 3).toNat x1) q7 (tI (uI τ q2 (tI τ r0 3).toNat x1) r0 3).toNat x2) r0 3).toNat x3) r0 3 (wr ((tI (uI (uI (uI τ q2 (tI τ r0 3).toNat x1) q7 (tI (uI τ q2 (tI τ r0 3).toNat x1) r0 3).toNat x2) q12 (tI (uI (uI τ q2 (tI τ r0 3).toNat x1) q7 (tI (uI τ q2 (tI τ r0 3).toNat x1) r0 3).toNat x2) r0 3).toNat x3) r0 3) + 1))) = τ17
  refine g_vret rfl rfl ?_
  exact (k1 τ17 e18)

set_option maxRecDepth 8192 in
theorem t154_0 {d : Nat} {τ : T2} {Q : RS → T2 → Prop} {r0 : Nat} (hd : 17 ≤ d) (k1 : G d 154 5 [none] [AI 0, AI 0, AN, AN, AR r0] τ Q) : G d 154 0 [vR r0] [] τ Q := by
  refine g_sk 5 (pc1 := 5) (st1 := [AI 0, AI 0, AN, AN, AR r0]) rfl ?_
  exact G_fg (lw2_f _ lw2_nil) k1

set_option maxRecDepth 8192 in
theorem t155_0 {d : Nat} {τ : T2} {Q : RS → T2 → Prop} {r0 : Nat} (hd : 17 ≤ d) (k1 : G d 155 9 [vR r0] [AR (tN τ), AR r0] (nC τ (2, 0, 20) 20) Q) : G d 155 0 [vR r0] [] τ Q := by
  refine g_sk 1 (pc1 := 1) (st1 := [AR r0]) rfl ?_
  refine g_oin (na := 1) rfl rfl rfl hd ?_
  refine g_sk 2 (pc1 := 7) (st1 := [AI 20, AR r0]) rfl ?_
  refine g_newa rfl rfl (by decide) (by decide) ?_
  exact k1

set_option maxRecDepth 8192 in
theorem t155_9 {d : Nat} {τ : T2} {Q : RS → T2 → Prop} {r0 s1 : Nat} {s0 : Option Nat} (sh1 : tS τ s1 = (1, 19, 0)) (k1 : G d 155 17 [vR r0] [AR (tN (uP τ s1 3 s0)), AR r0] (nC (uP τ s1 3 s0) (2, 0, 20) 20) Q) : G d 155 9 [vR r0] [AP s0, AR s1] τ Q := by
  refine g_putP rfl (ci := 19) (k := 3) rfl sh1 ?_
  refine g_sk 2 (pc1 := 15) (st1 := [AI 20, AR r0]) rfl ?_
  refine g_newa rfl rfl (by decide) (by decide) ?_
  exact k1

set_option maxRecDepth 8192 in
theorem t155_17 {d : Nat} {τ : T2} {Q : RS → T2 → Prop} {r0 s1 : Nat} {s0 : Option Nat} (sh1 : tS τ s1 = (1, 19, 0)) (k1 : G d 155 25 [vR r0] [AR (tN (uP τ s1 4 s0)), AR r0] (nC (uP τ s1 4 s0) (2, 0, 20) 20) Q) : G d 155 17 [vR r0] [AP s0, AR s1] τ Q := by
  refine g_putP rfl (ci := 19) (k := 4) rfl sh1 ?_
  refine g_sk 2 (pc1 := 23) (st1 := [AI 20, AR r0]) rfl ?_
  refine g_newa rfl rfl (by decide) (by decide) ?_
  exact k1

set_option maxRecDepth 8192 in
theorem t155_25 {d : Nat} {τ : T2} {Q : RS → T2 → Prop} {r0 s1 : Nat} {s0 : Option Nat} (sh1 : tS τ s1 = (1, 19, 0)) (k1 : G d 155 33 [vR r0] [AR (tN (uP τ s1 5 s0)), AR r0] (nC (uP τ s1 5 s0) (2, 0, 20) 20) Q) : G d 155 25 [vR r0] [AP s0, AR s1] τ Q := by
  refine g_putP rfl (ci := 19) (k := 5) rfl sh1 ?_
  refine g_sk 2 (pc1 := 31) (st1 := [AI 20, AR r0]) rfl ?_
  refine g_newa rfl rfl (by decide) (by decide) ?_
  exact k1

set_option maxRecDepth 8192 in
theorem t155_33 {d : Nat} {τ : T2} {Q : RS → T2 → Prop} {r0 s1 : Nat} {s0 : Option Nat} (sh1 : tS τ s1 = (1, 19, 0)) (k1 : G d 155 41 [vR r0] [AR (tN (uP τ s1 6 s0)), AR r0] (nC (uP τ s1 6 s0) (2, 0, 60) 60) Q) : G d 155 33 [vR r0] [AP s0, AR s1] τ Q := by
  refine g_putP rfl (ci := 19) (k := 6) rfl sh1 ?_
  refine g_sk 2 (pc1 := 39) (st1 := [AI 60, AR r0]) rfl ?_
  refine g_newa rfl rfl (by decide) (by decide) ?_
  exact k1

set_option maxRecDepth 8192 in
theorem t155_41 {d : Nat} {τ : T2} {Q : RS → T2 → Prop} {r0 s1 : Nat} {s0 : Option Nat} (sh1 : tS τ s1 = (1, 19, 0)) (k1 : G d 155 49 [none] [AR (tN (uP τ s1 7 s0)), AR r0] (nC (uP τ s1 7 s0) (2, 0, 60) 60) Q) : G d 155 41 [vR r0] [AP s0, AR s1] τ Q := by
  refine g_putP rfl (ci := 19) (k := 7) rfl sh1 ?_
  refine g_sk 2 (pc1 := 47) (st1 := [AI 60, AR r0]) rfl ?_
  refine g_newa rfl rfl (by decide) (by decide) ?_
  exact G_fg (lw2_f _ lw2_nil) k1

set_option maxRecDepth 8192 in
theorem t155_49 {d : Nat} {τ : T2} {Q : RS → T2 → Prop} {s1 : Nat} {s0 : Option Nat} (sh1 : tS τ s1 = (1, 19, 0)) (k1 : Q (.inl none) (uP τ s1 8 s0)) : G d 155 49 [none] [AP s0, AR s1] τ Q := by
  refine g_putP rfl (ci := 19) (k := 8) rfl sh1 ?_
  refine g_vret rfl rfl ?_
  exact k1

set_option maxRecDepth 8192 in
theorem t156_0 {d : Nat} {τ : T2} {Q : RS → T2 → Prop} {x1 : Int} {r0 : Nat} (sh1 : tS τ r0 = (1, 19, 0)) (k1 : G d 156 17 [vR r0, none, vI 0] [] (uI (uI (uI τ r0 0 x1) r0 1 0) r0 2 0) Q) : G d 156 0 [vR r0, vI x1, none] [] τ Q := by
  refine g_sk 2 (pc1 := 2) (st1 := [AI x1, AR r0]) rfl ?_
  refine g_putI (x := x1) rfl (ci := 19) (k := 0) (kd := 0) rfl (by decide) rfl rfl sh1 ?_
  refine g_sk 2 (pc1 := 7) (st1 := [AI 0, AR r0]) rfl ?_
  refine g_putI (x := 0) rfl (ci := 19) (k := 1) (kd := 0) rfl (by decide) rfl rfl sh1 ?_
  refine g_sk 2 (pc1 := 12) (st1 := [AI 0, AR r0]) rfl ?_
  refine g_putI (x := 0) rfl (ci := 19) (k := 2) (kd := 0) rfl (by decide) rfl rfl sh1 ?_
  refine g_sx 2 (pc1 := 17) (L1 := [vR r0, vI x1, vI 0]) (st1 := []) rfl ?_
  exact G_fg (lw2_k _ (lw2_f _ (lw2_k _ lw2_nil))) k1

set_option maxRecDepth 8192 in
theorem t156_17 {d : Nat} {τ : T2} {Q : RS → T2 → Prop} {x2 : Int} {r0 q3 n5 q8 n10 q13 n15 q18 n20 : Nat} (sh2 : tS τ r0 = (1, 19, 0)) (p4 : tP τ r0 3 = some q3) (sh6 : tS τ q3 = (2, 0, n5)) (b7 : x2 < 20 → (0 : Int) ≤ x2 ∧ x2 < (n5 : Int)) (p9 : tP τ r0 4 = some q8) (sh11 : tS τ q8 = (2, 0, n10)) (b12 : x2 < 20 → (0 : Int) ≤ x2 ∧ x2 < (n10 : Int)) (p14 : tP τ r0 5 = some q13) (sh16 : tS τ q13 = (2, 0, n15)) (b17 : x2 < 20 → (0 : Int) ≤ x2 ∧ x2 < (n15 : Int)) (p19 : tP τ r0 6 = some q18) (sh21 : tS τ q18 = (2, 0, n20)) (b22 : x2 < 20 → (0 : Int) ≤ x2 ∧ x2 < (n20 : Int)) (k1 : 20 ≤ x2 → Q (.inl none) τ) (k2 : x2 < 20 → G d 156 17 [vR r0, none, vI (wr (x2 + 1))] [] (uI (uI (uI (uI τ q3 x2.toNat (-1)) q8 x2.toNat 0) q13 x2.toNat 0) q18 x2.toNat 0) Q) : G d 156 17 [vR r0, none, vI x2] [] τ Q := by
  refine g_sk 2 (pc1 := 20) (st1 := [AI 20, AI x2]) rfl ?_
  refine g_br2 rfl (t := 57) rfl (fun c1 => ?_) (fun c1 => ?_)
  · have c1 : 20 ≤ x2 := of_decide_eq_true c1
    refine g_vret rfl rfl ?_
    exact (k1 c1)
  · have c1 : x2 < 20 := Int.not_le.mp (of_decide_eq_false c1)
    refine g_sk 1 (pc1 := 24) (st1 := [AR r0]) rfl ?_
    refine g_gQ rfl (ci := 19) (k := 3) rfl sh2 p4 ?_
    refine g_sk 2 (pc1 := 29) (st1 := [AI (-1), AI x2, AR q3]) rfl ?_
    refine g_iast rfl sh6 (b7 c1).1 (b7 c1).2 ?_
    refine g_sk 1 (pc1 := 31) (st1 := [AR r0]) rfl ?_
    refine g_gQ rfl (ci := 19) (k := 4) rfl sh2 p9 ?_
    refine g_sk 2 (pc1 := 36) (st1 := [AI 0, AI x2, AR q8]) rfl ?_
    refine g_iast rfl sh11 (b12 c1).1 (b12 c1).2 ?_
    refine g_sk 1 (pc1 := 38) (st1 := [AR r0]) rfl ?_
    refine g_gQ rfl (ci := 19) (k := 5) rfl sh2 p14 ?_
    refine g_sk 2 (pc1 := 43) (st1 := [AI 0, AI x2, AR q13]) rfl ?_
    refine g_iast rfl sh16 (b17 c1).1 (b17 c1).2 ?_
    refine g_sk 1 (pc1 := 45) (st1 := [AR r0]) rfl ?_
    refine g_gQ rfl (ci := 19) (k := 6) rfl sh2 p19 ?_
    refine g_sk 2 (pc1 := 50) (st1 := [AI 0, AI x2, AR q18]) rfl ?_
    refine g_iast rfl sh21 (b22 c1).1 (b22 c1).2 ?_
    refine g_sx 2 (pc1 := 17) (L1 := [vR r0, none, vI (wr (x2 + 1))]) (st1 := []) rfl ?_
    exact (k2 c1)

set_option maxRecDepth 8192 in
theorem t157_0 {d : Nat} {τ : T2} {Q : RS → T2 → Prop} {x1 : Int} {r0 : Nat} (k1 : G d 157 4 [vR r0, vI x1, vI 0, vI 0] [] τ Q) : G d 157 0 [vR r0, vI x1, none, none] [] τ Q := by
  refine g_sx 4 (pc1 := 4) (L1 := [vR r0, vI x1, vI 0, vI 0]) (st1 := []) rfl ?_
  exact k1

set_option maxRecDepth 8192 in
theorem t157_4 {d : Nat} {τ : T2} {Q : RS → T2 → Prop} {x1 x2 x3 : Int} {r0 q3 n5 : Nat} (sh2 : tS τ r0 = (1, 19, 0)) (p4 : tP τ r0 3 = some q3) (sh6 : tS τ q3 = (2, 0, n5)) (b7 : x3 < 20 → (0 : Int) ≤ x3 ∧ x3 < (n5 : Int)) (k1 : 20 ≤ x3 → Q (.inl (some (AI x2))) τ) (k2 : x3 < 20 → (tI τ q3 x3.toNat) = (-1) → G d 157 4 [vR r0, vI x1, vI (zor x2 0), vI (wr (x3 + 1))] [] τ Q) (k3 : x3 < 20 → ¬ (tI τ q3 x3.toNat) = (-1) → x1 < (tI τ q3 x3.toNat) → G d 157 4 [vR r0, vI x1, vI (zor x2 0), vI (wr (x3 + 1))] [] τ Q) (k4 : x3 < 20 → ¬ (tI τ q3 x3.toNat) = (-1) → (tI τ q3 x3.toNat) ≤ x1 → G d 157 4 [vR r0, vI x1, vI (zor x2 (zshl 1 x3)), vI (wr (x3 + 1))] [] τ Q) : G d 157 4 [vR r0, vI x1, vI x2, vI x3] [] τ Q := by
  refine g_sk 2 (pc1 := 7) (st1 := [AI 20, AI x3]) rfl ?_
  refine g_br2 rfl (t := 46) rfl (fun c1 => ?_) (fun c1 => ?_)
  · have c1 : 20 ≤ x3 := of_decide_eq_true c1
    refine g_sk 1 (pc1 := 47) (st1 := [AI x2]) rfl ?_
    refine g_iret rfl rfl ?_
    exact (k1 c1)
  · have c1 : x3 < 20 := Int.not_le.mp (of_decide_eq_false c1)
    refine g_sk 2 (pc1 := 12) (st1 := [AR r0, AI x2]) rfl ?_
    refine g_gQ rfl (ci := 19) (k := 3) rfl sh2 p4 ?_
    refine g_sk 1 (pc1 := 16) (st1 := [AI x3, AR q3, AI x2]) rfl ?_
    refine g_iald rfl sh6 (by decide) (b7 c1).1 (b7 c1).2 ?_
    refine g_sk 1 (pc1 := 18) (st1 := [AI (-1), AI (tI τ q3 x3.toNat), AI x2]) rfl ?_
    refine g_br2 rfl (t := 37) rfl (fun c8 => ?_) (fun c8 => ?_)
    · have c8 : (tI τ q3 x3.toNat) = (-1) := of_decide_eq_true c8
      refine g_sx 5 (pc1 := 4) (L1 := [vR r0, vI x1, vI (zor x2 0), vI (wr (x3 + 1))]) (st1 := []) rfl ?_
      exact (k2 c1 c8)
    · have c8 : ¬ (tI τ q3 x3.toNat) = (-1) := of_decide_eq_false c8
      refine g_sk 1 (pc1 := 22) (st1 := [AR r0, AI x2]) rfl ?_
      refine g_gQ rfl (ci := 19) (k := 3) rfl sh2 p4 ?_
      refine g_sk 1 (pc1 := 26) (st1 := [AI x3, AR q3, AI x2]) rfl ?_
      refine g_iald rfl sh6 (by decide) (b7 c1).1 (b7 c1).2 ?_
      refine g_sk 1 (pc1 := 28) (st1 := [AI x1, AI (tI τ q3 x3.toNat), AI x2]) rfl ?_
      refine g_br2 rfl (t := 37) rfl (fun c9 => ?_) (fun c9 => ?_)
      · have c9 : x1 < (tI τ q3 x3.toNat) := of_decide_eq_true c9
        refine g_sx 5 (pc1 := 4) (L1 := [vR r0, vI x1, vI (zor x2 0), vI (wr (x3 + 1))]) (st1 := []) rfl ?_
        exact (k3 c1 c8 c9)
      · have c9 : (tI τ q3 x3.toNat) ≤ x1 := Int.not_lt.mp (of_decide_eq_false c9)
        refine g_sx 8 (pc1 := 4) (L1 := [vR r0, vI x1, vI (zor x2 (zshl 1 x3)), vI (wr (x3 + 1))]) (st1 := []) rfl ?_
        exact (k4 c1 c8 c9)

set_option maxRecDepth 8192 in
theorem t158_0 {d : Nat} {τ : T2} {Q : RS → T2 → Prop} {x1 : Int} {r0 : Nat} (k1 : G d 158 4 [vR r0, vI x1, vI (-1), vI 0] [] τ Q) : G d 158 0 [vR r0, vI x1, none, none] [] τ Q := by
  refine g_sx 4 (pc1 := 4) (L1 := [vR r0, vI x1, vI (-1), vI 0]) (st1 := []) rfl ?_
  exact k1

set_option maxRecDepth 8192 in
theorem t158_4 {d : Nat} {τ : T2} {Q : RS → T2 → Prop} {x1 x2 x3 : Int} {r0 q4 n6 : Nat} (hd : 17 ≤ d) (sh3 : tS τ r0 = (1, 19, 0)) (p5 : tP τ r0 3 = some q4) (sh7 : tS τ q4 = (2, 0, n6)) (b8 : x3 < 20 → (0 : Int) ≤ x3 ∧ x3 < (n6 : Int)) (k1 : 20 ≤ x3 → ¬ x2 = (-1) → Q (.inl (some (AI x2))) τ) (k2 : 20 ≤ x3 → x2 = (-1) → Q (.inl (some (AI (tI τ r0 0)))) τ) (k3 : x3 < 20 → x1 < (tI τ q4 x3.toNat) → G d 158 4 [vR r0, vI x1, vI x2, vI (wr (x3 + 1))] [] τ Q) (k4 : x3 < 20 → (tI τ q4 x3.toNat) ≤ x1 → G d 158 4 [vR r0, vI x1, vI (if x2 < (tI τ q4 x3.toNat) then (tI τ q4 x3.toNat) else x2), vI (wr (x3 + 1))] [] τ Q) : G d 158 4 [vR r0, vI x1, vI x2, vI x3] [] τ Q := by
  refine g_sk 2 (pc1 := 7) (st1 := [AI 20, AI x3]) rfl ?_
  refine g_br2 rfl (t := 37) rfl (fun c1 => ?_) (fun c1 => ?_)
  · have c1 : 20 ≤ x3 := of_decide_eq_true c1
    refine g_sk 2 (pc1 := 39) (st1 := [AI (-1), AI x2]) rfl ?_
    refine g_br2 rfl (t := 49) rfl (fun c2 => ?_) (fun c2 => ?_)
    · have c2 : ¬ x2 = (-1) := of_decide_eq_true c2
      refine g_sk 1 (pc1 := 50) (st1 := [AI x2]) rfl ?_
      refine g_iret rfl rfl ?_
      exact (k1 c1 c2)
    · have c2 : x2 = (-1) := Decidable.of_not_not (of_decide_eq_false c2)
      refine g_sk 1 (pc1 := 43) (st1 := [AR r0]) rfl ?_
      refine g_gI rfl (ci := 19) (k := 0) rfl sh3 ?_
      refine g_sk 1 (pc1 := 50) (st1 := [AI (tI τ r0 0)]) rfl ?_
      refine g_iret rfl rfl ?_
      exact (k2 c1 c2)
  · have c1 : x3 < 20 := Int.not_le.mp (of_decide_eq_false c1)
    refine g_sk 1 (pc1 := 11) (st1 := [AR r0]) rfl ?_
    refine g_gQ rfl (ci := 19) (k := 3) rfl sh3 p5 ?_
    refine g_sk 1 (pc1 := 15) (st1 := [AI x3, AR q4]) rfl ?_
    refine g_iald rfl sh7 (by decide) (b8 c1).1 (b8 c1).2 ?_
    refine g_sk 1 (pc1 := 17) (st1 := [AI x1, AI (tI τ q4 x3.toNat)]) rfl ?_
    refine g_br2 rfl (t := 31) rfl (fun c9 => ?_) (fun c9 => ?_)
    · have c9 : x1 < (tI τ q4 x3.toNat) := of_decide_eq_true c9
      refine g_sx 2 (pc1 := 4) (L1 := [vR r0, vI x1, vI x2, vI (wr (x3 + 1))]) (st1 := []) rfl ?_
      exact (k3 c1 c9)
    · have c9 : (tI τ q4 x3.toNat) ≤ x1 := Int.not_lt.mp (of_decide_eq_false c9)
      refine g_sk 2 (pc1 := 22) (st1 := [AR r0, AI x2]) rfl ?_
      refine g_gQ rfl (ci := 19) (k := 3) rfl sh3 p5 ?_
      refine g_sk 1 (pc1 := 26) (st1 := [AI x3, AR q4, AI x2]) rfl ?_
      refine g_iald rfl sh7 (by decide) (b8 c1).1 (b8 c1).2 ?_
      refine g_max rfl rfl rfl hd ?_
      refine g_sx 3 (pc1 := 4) (L1 := [vR r0, vI x1, vI (if x2 < (tI τ q4 x3.toNat) then (tI τ q4 x3.toNat) else x2), vI (wr (x3 + 1))]) (st1 := []) rfl ?_
      exact (k4 c1 c9)

set_option maxRecDepth 8192 in
theorem t159_0 {d : Nat} {τ : T2} {Q : RS → T2 → Prop} {x1 : Int} {r0 : Nat} (k1 : G d 159 4 [vR r0, vI x1, vI 0, vI 0] [] τ Q) : G d 159 0 [vR r0, vI x1, none, none] [] τ Q := by
  refine g_sx 4 (pc1 := 4) (L1 := [vR r0, vI x1, vI 0, vI 0]) (st1 := []) rfl ?_
  exact k1

set_option maxRecDepth 8192 in
theorem t159_4 {d : Nat} {τ : T2} {Q : RS → T2 → Prop} {x1 x2 x3 : Int} {r0 q3 n5 q9 n11 : Nat} (sh1 : tS τ r0 = (1, 19, 0)) (p4 : tP τ r0 7 = some q3) (sh6 : tS τ q3 = (2, 0, n5)) (b7 : x3 < (tI τ r0 2) → (0 : Int) ≤ x3 ∧ x3 < (n5 : Int)) (p10 : tP τ r0 8 = some q9) (sh12 : tS τ q9 = (2, 0, n11)) (b13 : x3 < (tI τ r0 2) → (tI τ q3 x3.toNat) ≤ x1 → (0 : Int) ≤ x3 ∧ x3 < (n11 : Int)) (k1 : (tI τ r0 2) ≤ x3 → Q (.inl (some (AI x2))) τ) (k2 : x3 < (tI τ r0 2) → x1 < (tI τ q3 x3.toNat) → G d 159 4 [vR r0, vI x1, vI (wr (x2 + 0)), vI (wr (x3 + 1))] [] τ Q) (k3 : x3 < (tI τ r0 2) → (tI τ q3 x3.toNat) ≤ x1 → G d 159 4 [vR r0, vI x1, vI (wr (x2 + (tI τ q9 x3.toNat))), vI (wr (x3 + 1))] [] τ Q) : G d 159 4 [vR r0, vI x1, vI x2, vI x3] [] τ Q := by
  refine g_sk 2 (pc1 := 6) (st1 := [AR r0, AI x3]) rfl ?_
  refine g_gI rfl (ci := 19) (k := 2) rfl sh1 ?_
  refine g_br2 rfl (t := 41) rfl (fun c2 => ?_) (fun c2 => ?_)
  · have c2 : (tI τ r0 2) ≤ x3 := of_decide_eq_true c2
    refine g_sk 1 (pc1 := 42) (st1 := [AI x2]) rfl ?_
    refine g_iret rfl rfl ?_
    exact (k1 c2)
  · have c2 : x3 < (tI τ r0 2) := Int.not_le.mp (of_decide_eq_false c2)
    refine g_sk 2 (pc1 := 14) (st1 := [AR r0, AI x2]) rfl ?_
    refine g_gQ rfl (ci := 19) (k := 7) rfl sh1 p4 ?_
    refine g_sk 1 (pc1 := 18) (st1 := [AI x3, AR q3, AI x2]) rfl ?_
    refine g_iald rfl sh6 (by decide) (b7 c2).1 (b7 c2).2 ?_
    refine g_sk 1 (pc1 := 20) (st1 := [AI x1, AI (tI τ q3 x3.toNat), AI x2]) rfl ?_
    refine g_br2 rfl (t := 32) rfl (fun c8 => ?_) (fun c8 => ?_)
    · have c8 : x1 < (tI τ q3 x3.toNat) := of_decide_eq_true c8
      refine g_sx 5 (pc1 := 4) (L1 := [vR r0, vI x1, vI (wr (x2 + 0)), vI (wr (x3 + 1))]) (st1 := []) rfl ?_
      exact (k2 c2 c8)
    · have c8 : (tI τ q3 x3.toNat) ≤ x1 := Int.not_lt.mp (of_decide_eq_false c8)
      refine g_sk 1 (pc1 := 24) (st1 := [AR r0, AI x2]) rfl ?_
      refine g_gQ rfl (ci := 19) (k := 8) rfl sh1 p10 ?_
      refine g_sk 1 (pc1 := 28) (st1 := [AI x3, AR q9, AI x2]) rfl ?_
      refine g_iald rfl sh12 (by decide) (b13 c2 c8).1 (b13 c2 c8).2 ?_
      refine g_sx 5 (pc1 := 4) (L1 := [vR r0, vI x1, vI (wr (x2 + (tI τ q9 x3.toNat))), vI (wr (x3 + 1))]) (st1 := []) rfl ?_
      exact (k3 c2 c8)

set_option maxRecDepth 8192 in
theorem t160_0 {d : Nat} {τ : T2} {Q : RS → T2 → Prop} {x1 : Int} {r0 : Nat} (hd : 1 ≤ d) (sh1 : tS τ r0 = (1, 19, 0)) (k1 : G (d - 1) 158 0 [vR r0, vI x1, none, none] [] τ (KC d 160 2 5 [vR r0, vI x1] [] Q)) : G d 160 0 [vR r0, vI x1] [] τ Q := by
  refine g_sk 2 (pc1 := 2) (st1 := [AI x1, AR r0]) rfl ?_
  refine g_cv rfl rfl (by decide) rfl rfl (Nat.le_of_ble_eq_true rfl) (as2 := [AI x1]) rfl sh1 rfl (by omega) (L0 := [vR r0, vI x1, none, none]) rfl ?_
  exact k1

set_option maxRecDepth 8192 in
theorem t160_5 {d : Nat} {τ : T2} {Q : RS → T2 → Prop} {x1 y0 : Int} {r0 : Nat} (hd : 1 ≤ d) (sh1 : tS τ r0 = (1, 19, 0)) (k1 : G (d - 1) 159 0 [vR r0, vI x1, none, none] [] τ (KC d 160 7 10 [none, none] [AI y0] Q)) : G d 160 5 [vR r0, vI x1] [AI y0] τ Q := by
  refine g_sk 2 (pc1 := 7) (st1 := [AI x1, AR r0, AI y0]) rfl ?_
  refine G_fg (lw2_f _ (lw2_f _ lw2_nil)) ?_
  refine g_cv rfl rfl (by decide) rfl rfl (Nat.le_of_ble_eq_true rfl) (as2 := [AI x1]) rfl sh1 rfl (by omega) (L0 := [vR r0, vI x1, none, none]) rfl ?_
  exact k1

set_option maxRecDepth 8192 in
theorem t160_10 {d : Nat} {τ : T2} {Q : RS → T2 → Prop} {y0 y1 : Int} (k1 : Q (.inl (some (AI (wr (y1 + y0))))) τ) : G d 160 10 [none, none] [AI y0, AI y1] τ Q := by
  refine g_sk 1 (pc1 := 11) (st1 := [AI (wr (y1 + y0))]) rfl ?_
  refine g_iret rfl rfl ?_
  exact k1

set_option maxRecDepth 8192 in
theorem t161_0 {d : Nat} {τ : T2} {Q : RS → T2 → Prop} {r0 : Nat} (hd : 17 ≤ d) (k1 : G d 161 9 [vR r0] [AR (tN τ), AR r0] (nC τ (2, 0, 12) 12) Q) : G d 161 0 [vR r0] [] τ Q := by
  refine g_sk 1 (pc1 := 1) (st1 := [AR r0]) rfl ?_
  refine g_oin (na := 1) rfl rfl rfl hd ?_
  refine g_sk 2 (pc1 := 7) (st1 := [AI 12, AR r0]) rfl ?_
  refine g_newa rfl rfl (by decide) (by decide) ?_
  exact k1

set_option maxRecDepth 8192 in
theorem t161_9 {d : Nat} {τ : T2} {Q : RS → T2 → Prop} {r0 s1 : Nat} {s0 : Option Nat} (sh1 : tS τ s1 = (1, 20, 0)) (k1 : G d 161 17 [vR r0] [AR (tN (uP τ s1 0 s0)), AR r0] (nC (uP τ s1 0 s0) (2, 0, 12) 12) Q) : G d 161 9 [vR r0] [AP s0, AR s1] τ Q := by
  refine g_putP rfl (ci := 20) (k := 0) rfl sh1 ?_
  refine g_sk 2 (pc1 := 15) (st1 := [AI 12, AR r0]) rfl ?_
  refine g_newa rfl rfl (by decide) (by decide) ?_
  exact k1

set_option maxRecDepth 8192 in
theorem t161_17 {d : Nat} {τ : T2} {Q : RS → T2 → Prop} {r0 s1 : Nat} {s0 : Option Nat} (sh1 : tS τ s1 = (1, 20, 0)) (k1 : G d 161 25 [vR r0] [AR (tN (uP τ s1 1 s0)), AR r0] (nC (uP τ s1 1 s0) (2, 0, 12) 12) Q) : G d 161 17 [vR r0] [AP s0, AR s1] τ Q := by
  refine g_putP rfl (ci := 20) (k := 1) rfl sh1 ?_
  refine g_sk 2 (pc1 := 23) (st1 := [AI 12, AR r0]) rfl ?_
  refine g_newa rfl rfl (by decide) (by decide) ?_
  exact k1

set_option maxRecDepth 8192 in
theorem t161_25 {d : Nat} {τ : T2} {Q : RS → T2 → Prop} {r0 s1 : Nat} {s0 : Option Nat} (sh1 : tS τ s1 = (1, 20, 0)) (k1 : G d 161 34 [vR r0] [AR (tN (uP τ s1 2 s0)), AR r0] (nC (uP τ s1 2 s0) (2, 0, 144) 144) Q) : G d 161 25 [vR r0] [AP s0, AR s1] τ Q := by
  refine g_putP rfl (ci := 20) (k := 2) rfl sh1 ?_
  refine g_sk 2 (pc1 := 32) (st1 := [AI 144, AR r0]) rfl ?_
  refine g_newa rfl rfl (by decide) (by decide) ?_
  exact k1

set_option maxRecDepth 8192 in
theorem t161_34 {d : Nat} {τ : T2} {Q : RS → T2 → Prop} {r0 s1 : Nat} {s0 : Option Nat} (sh1 : tS τ s1 = (1, 20, 0)) (k1 : G d 161 43 [none] [AR (tN (uP τ s1 3 s0)), AR r0] (nC (uP τ s1 3 s0) (2, 0, 144) 144) Q) : G d 161 34 [vR r0] [AP s0, AR s1] τ Q := by
  refine g_putP rfl (ci := 20) (k := 3) rfl sh1 ?_
  refine g_sk 2 (pc1 := 41) (st1 := [AI 144, AR r0]) rfl ?_
  refine g_newa rfl rfl (by decide) (by decide) ?_
  exact G_fg (lw2_f _ lw2_nil) k1

set_option maxRecDepth 8192 in
theorem t161_43 {d : Nat} {τ : T2} {Q : RS → T2 → Prop} {s1 : Nat} {s0 : Option Nat} (sh1 : tS τ s1 = (1, 20, 0)) (k1 : Q (.inl none) (uP τ s1 4 s0)) : G d 161 43 [none] [AP s0, AR s1] τ Q := by
  refine g_putP rfl (ci := 20) (k := 4) rfl sh1 ?_
  refine g_vret rfl rfl ?_
  exact k1

set_option maxRecDepth 8192 in
theorem t162_0 {d : Nat} {τ : T2} {Q : RS → T2 → Prop} {r0 : Nat} (sh1 : tS τ r0 = (1, 21, 0)) (k1 : Q (.inl (some (AI (tI τ r0 0)))) τ) : G d 162 0 [vR r0] [] τ Q := by
  refine g_sk 1 (pc1 := 1) (st1 := [AR r0]) rfl ?_
  refine g_gI rfl (ci := 21) (k := 0) rfl sh1 ?_
  refine g_iret rfl rfl ?_
  exact k1

set_option maxRecDepth 8192 in
theorem t163_0 {d : Nat} {τ : T2} {Q : RS → T2 → Prop} {x1 : Int} {r0 : Nat} (sh1 : tS τ r0 = (1, 21, 0)) (k1 : Q (.inl (some (AI (-1)))) (uI (uI τ r0 1 x1) r0 2 (-1))) : G d 163 0 [vR r0, vI x1] [] τ Q := by
  refine g_sk 2 (pc1 := 2) (st1 := [AI x1, AR r0]) rfl ?_
  refine g_putI (x := x1) rfl (ci := 21) (k := 1) (kd := 0) rfl (by decide) rfl rfl sh1 ?_
  refine g_sk 2 (pc1 := 7) (st1 := [AI (-1), AR r0]) rfl ?_
  refine g_putI (x := (-1)) rfl (ci := 21) (k := 2) (kd := 0) rfl (by decide) rfl rfl sh1 ?_
  refine g_sk 1 (pc1 := 11) (st1 := [AI (-1)]) rfl ?_
  refine g_iret rfl rfl ?_
  exact k1

set_option maxRecDepth 8192 in
theorem t164_0 {d : Nat} {τ : T2} {Q : RS → T2 → Prop} {x1 : Int} {r0 : Nat} (sh1 : tS τ r0 = (1, 21, 0)) (k1 : Q (.inl (some (AI 0))) (uI (uI τ r0 1 x1) r0 2 (-1))) : G d 164 0 [vR r0, vI x1] [] τ Q := by
  refine g_sk 2 (pc1 := 2) (st1 := [AI x1, AR r0]) rfl ?_
  refine g_putI (x := x1) rfl (ci := 21) (k := 1) (kd := 0) rfl (by decide) rfl rfl sh1 ?_
  refine g_sk 2 (pc1 := 7) (st1 := [AI (-1), AR r0]) rfl ?_
  refine g_putI (x := (-1)) rfl (ci := 21) (k := 2) (kd := 0) rfl (by decide) rfl rfl sh1 ?_
  refine g_sk 1 (pc1 := 11) (st1 := [AI 0]) rfl ?_
  refine g_zret rfl rfl (by decide) ?_
  exact k1

set_option maxRecDepth 8192 in
theorem t165_0 {d : Nat} {τ : T2} {Q : RS → T2 → Prop} {x1 : Int} {r0 : Nat} (sh1 : tS τ r0 = (1, 21, 0)) (k1 : Q (.inl (some (AI x1))) (uI (uI τ r0 1 0) r0 2 (-1))) : G d 165 0 [vR r0, vI x1] [] τ Q := by
  refine g_sk 2 (pc1 := 2) (st1 := [AI 0, AR r0]) rfl ?_
  refine g_putI (x := 0) rfl (ci := 21) (k := 1) (kd := 0) rfl (by decide) rfl rfl sh1 ?_
  refine g_sk 2 (pc1 := 7) (st1 := [AI (-1), AR r0]) rfl ?_
  refine g_putI (x := (-1)) rfl (ci := 21) (k := 2) (kd := 0) rfl (by decide) rfl rfl sh1 ?_
  refine g_sk 1 (pc1 := 11) (st1 := [AI x1]) rfl ?_
  refine g_iret rfl rfl ?_
  exact k1

set_option maxRecDepth 8192 in
theorem t166_0 {d : Nat} {τ : T2} {Q : RS → T2 → Prop} {r0 : Nat} (sh1 : tS τ r0 = (1, 21, 0)) (k1 : Q (.inl (some (AI 1))) (uI (uI τ r0 1 0) r0 2 (-1))) : G d 166 0 [vR r0] [] τ Q := by
  refine g_sk 2 (pc1 := 2) (st1 := [AI 0, AR r0]) rfl ?_
  refine g_putI (x := 0) rfl (ci := 21) (k := 1) (kd := 0) rfl (by decide) rfl rfl sh1 ?_
  refine g_sk 2 (pc1 := 7) (st1 := [AI (-1), AR r0]) rfl ?_
  refine g_putI (x := (-1)) rfl (ci := 21) (k := 2) (kd := 0) rfl (by decide) rfl rfl sh1 ?_
  refine g_sk 1 (pc1 := 11) (st1 := [AI 1]) rfl ?_
  refine g_zret rfl rfl (by decide) ?_
  exact k1

set_option maxRecDepth 8192 in
theorem t167_0 {d : Nat} {τ : T2} {Q : RS → T2 → Prop} {x0 x1 x2 : Int} (k1 : x0 < x1 → Q (.inl (some (AI 0))) τ) (k2 : x1 ≤ x0 → x2 < x0 → Q (.inl (some (AI 0))) τ) (k3 : x1 ≤ x0 → x0 ≤ x2 → Q (.inl (some (AI 1))) τ) : G d 167 0 [vI x0, vI x1, vI x2] [] τ Q := by
  refine g_sk 2 (pc1 := 2) (st1 := [AI x1, AI x0]) rfl ?_
  refine g_br2 rfl (t := 14) rfl (fun c1 => ?_) (fun c1 => ?_)
  · have c1 : x0 < x1 := of_decide_eq_true c1
    refine g_sk 1 (pc1 := 15) (st1 := [AI 0]) rfl ?_
    refine g_zret rfl rfl (by decide) ?_
    exact (k1 c1)
  · have c1 : x1 ≤ x0 := Int.not_lt.mp (of_decide_eq_false c1)
    refine g_sk 2 (pc1 := 7) (st1 := [AI x2, AI x0]) rfl ?_
    refine g_br2 rfl (t := 14) rfl (fun c2 => ?_) (fun c2 => ?_)
    · have c2 : x2 < x0 := of_decide_eq_true c2
      refine g_sk 1 (pc1 := 15) (st1 := [AI 0]) rfl ?_
      refine g_zret rfl rfl (by decide) ?_
      exact (k2 c1 c2)
    · have c2 : x0 ≤ x2 := Int.not_lt.mp (of_decide_eq_false c2)
      refine g_sk 2 (pc1 := 15) (st1 := [AI 1]) rfl ?_
      refine g_zret rfl rfl (by decide) ?_
      exact (k3 c1 c2)

set_option maxRecDepth 8192 in
theorem t168_0 {d : Nat} {τ : T2} {Q : RS → T2 → Prop} {x0 : Int} (k1 : G d 168 4 [none, vI 0, vI x0] [] τ Q) : G d 168 0 [vI x0, none, none] [] τ Q := by
  refine g_sx 4 (pc1 := 4) (L1 := [vI x0, vI 0, vI x0]) (st1 := []) rfl ?_
  exact G_fg (lw2_f _ (lw2_k _ (lw2_k _ lw2_nil))) k1

set_option maxRecDepth 8192 in
theorem t168_4 {d : Nat} {τ : T2} {Q : RS → T2 → Prop} {x1 x2 : Int} (k1 : x2 = 0 → Q (.inl (some (AI x1))) τ) (k2 : ¬ x2 = 0 → G d 168 4 [none, vI (wr (x1 + 1)), vI (zand x2 (wr (x2 - 1)))] [] τ Q) : G d 168 4 [none, vI x1, vI x2] [] τ Q := by
  refine g_sk 1 (pc1 := 5) (st1 := [AI x2]) rfl ?_
  refine g_br1 rfl (t := 20) rfl (fun c1 => ?_) (fun c1 => ?_)
  · have c1 : x2 = 0 := of_decide_eq_true c1
    refine g_sk 1 (pc1 := 21) (st1 := [AI x1]) rfl ?_
    refine g_iret rfl rfl ?_
    exact (k1 c1)
  · have c1 : ¬ x2 = 0 := of_decide_eq_false c1
    refine g_sx 8 (pc1 := 4) (L1 := [none, vI (wr (x1 + 1)), vI (zand x2 (wr (x2 - 1)))]) (st1 := []) rfl ?_
    exact (k2 c1)

set_option maxRecDepth 8192 in
theorem t169_0 {d : Nat} {τ : T2} {Q : RS → T2 → Prop} {r0 : Nat} (hd : 17 ≤ d) (sh1 : tS τ r0 = (1, 21, 0)) (k1 : G d 169 15 [vR r0, none] [AR (tN (uI τ r0 2 (-1))), AR r0] (nC (uI τ r0 2 (-1)) (3, 7, 20) 20) Q) : G d 169 0 [vR r0, none] [] τ Q := by
  refine g_sk 1 (pc1 := 1) (st1 := [AR r0]) rfl ?_
  refine g_oin (na := 1) rfl rfl rfl hd ?_
  refine g_sk 2 (pc1 := 6) (st1 := [AI (-1), AR r0]) rfl ?_
  refine g_putI (x := (-1)) rfl (ci := 21) (k := 2) (kd := 0) rfl (by decide) rfl rfl sh1 ?_
  refine g_sk 2 (pc1 := 12) (st1 := [AI 20, AR r0]) rfl ?_
  refine g_newq rfl rfl (by decide) (by decide) ?_
  exact k1

set_option maxRecDepth 8192 in
theorem t169_15 {d : Nat} {τ : T2} {Q : RS → T2 → Prop} {r0 s1 : Nat} {s0 : Option Nat} (sh1 : tS τ s1 = (1, 21, 0)) (k1 : G d 169 24 [vR r0, none] [AR (tN (uP τ s1 8 s0)), AR r0] (nC (uP τ s1 8 s0) (3, 8, 8) 8) Q) : G d 169 15 [vR r0, none] [AP s0, AR s1] τ Q := by
  refine g_putP rfl (ci := 21) (k := 8) rfl sh1 ?_
  refine g_sk 2 (pc1 := 21) (st1 := [AI 8, AR r0]) rfl ?_
  refine g_newq rfl rfl (by decide) (by decide) ?_
  exact k1

set_option maxRecDepth 8192 in
theorem t169_24 {d : Nat} {τ : T2} {Q : RS → T2 → Prop} {r0 s1 : Nat} {s0 : Option Nat} (sh1 : tS τ s1 = (1, 21, 0)) (k1 : G d 169 32 [vR r0, none] [AR (tN (uP τ s1 9 s0)), AR r0] (nC (uP τ s1 9 s0) (2, 3, 40) 40) Q) : G d 169 24 [vR r0, none] [AP s0, AR s1] τ Q := by
  refine g_putP rfl (ci := 21) (k := 9) rfl sh1 ?_
  refine g_sk 2 (pc1 := 30) (st1 := [AI 40, AR r0]) rfl ?_
  refine g_newa rfl rfl (by decide) (by decide) ?_
  exact k1

set_option maxRecDepth 8192 in
theorem t169_32 {d : Nat} {τ : T2} {Q : RS → T2 → Prop} {r0 s1 : Nat} {s0 : Option Nat} (sh1 : tS τ s1 = (1, 21, 0)) (k1 : G d 169 41 [vR r0, none] [AR (tN (uP τ s1 10 s0)), AR r0] (nC (uP τ s1 10 s0) (3, 9, 100) 100) Q) : G d 169 32 [vR r0, none] [AP s0, AR s1] τ Q := by
  refine g_putP rfl (ci := 21) (k := 10) rfl sh1 ?_
  refine g_sk 2 (pc1 := 38) (st1 := [AI 100, AR r0]) rfl ?_
  refine g_newq rfl rfl (by decide) (by decide) ?_
  exact k1

set_option maxRecDepth 8192 in
theorem t169_41 {d : Nat} {τ : T2} {Q : RS → T2 → Prop} {r0 s1 : Nat} {s0 : Option Nat} (sh1 : tS τ s1 = (1, 21, 0)) (k1 : G d 169 48 [vR r0, none] [AR (tN (uP τ s1 11 s0)), AR r0] (nC (uP τ s1 11 s0) (1, 18, 0) 8) Q) : G d 169 41 [vR r0, none] [AP s0, AR s1] τ Q := by
  refine g_putP rfl (ci := 21) (k := 11) rfl sh1 ?_
  refine g_sk 1 (pc1 := 45) (st1 := [AR r0]) rfl ?_
  refine g_new rfl (ci := 18) rfl (by decide) (by decide) ?_
  exact k1

set_option maxRecDepth 8192 in
theorem t169_48 {d : Nat} {τ : T2} {Q : RS → T2 → Prop} {r0 s0 : Nat} {s1 : Option Nat} (hd : 1 ≤ d) (k1 : G (d - 1) 154 0 [vR s0] [] τ (KC d 169 49 52 [vR r0, none] [AR s0, AP s1] Q)) : G d 169 48 [vR r0, none] [AR s0, AP s1] τ Q := by
  refine g_sk 1 (pc1 := 49) (st1 := [AR s0, AR s0, AP s1]) rfl ?_
  refine g_ci rfl rfl (by decide) rfl rfl (Nat.le_of_ble_eq_true rfl) (as2 := []) rfl rfl (by omega) (L0 := [vR s0]) rfl ?_
  exact k1

set_option maxRecDepth 8192 in
theorem t169_52 {d : Nat} {τ : T2} {Q : RS → T2 → Prop} {r0 s1 : Nat} {s0 : Option Nat} (sh1 : tS τ s1 = (1, 21, 0)) (k1 : G d 169 61 [vR r0, none] [AR (tN (uP τ s1 13 s0)), AR r0] (nC (uP τ s1 13 s0) (2, 1, 300) 300) Q) : G d 169 52 [vR r0, none] [AP s0, AR s1] τ Q := by
  refine g_putP rfl (ci := 21) (k := 13) rfl sh1 ?_
  refine g_sk 2 (pc1 := 59) (st1 := [AI 300, AR r0]) rfl ?_
  refine g_newa rfl rfl (by decide) (by decide) ?_
  exact k1

set_option maxRecDepth 8192 in
theorem t169_61 {d : Nat} {τ : T2} {Q : RS → T2 → Prop} {r0 s1 : Nat} {s0 : Option Nat} (sh1 : tS τ s1 = (1, 21, 0)) (k1 : G d 169 70 [vR r0, none] [AR (tN (uP τ s1 14 s0)), AR r0] (nC (uP τ s1 14 s0) (2, 2, 200) 200) Q) : G d 169 61 [vR r0, none] [AP s0, AR s1] τ Q := by
  refine g_putP rfl (ci := 21) (k := 14) rfl sh1 ?_
  refine g_sk 2 (pc1 := 68) (st1 := [AI 200, AR r0]) rfl ?_
  refine g_newa rfl rfl (by decide) (by decide) ?_
  exact k1

set_option maxRecDepth 8192 in
theorem t169_70 {d : Nat} {τ : T2} {Q : RS → T2 → Prop} {r0 s1 : Nat} {s0 : Option Nat} (sh1 : tS τ s1 = (1, 21, 0)) (k1 : G d 169 79 [vR r0, none] [AR (tN (uP τ s1 25 s0)), AR r0] (nC (uP τ s1 25 s0) (2, 1, 300) 300) Q) : G d 169 70 [vR r0, none] [AP s0, AR s1] τ Q := by
  refine g_putP rfl (ci := 21) (k := 25) rfl sh1 ?_
  refine g_sk 2 (pc1 := 77) (st1 := [AI 300, AR r0]) rfl ?_
  refine g_newa rfl rfl (by decide) (by decide) ?_
  exact k1

set_option maxRecDepth 8192 in
theorem t169_79 {d : Nat} {τ : T2} {Q : RS → T2 → Prop} {r0 s1 : Nat} {s0 : Option Nat} (sh1 : tS τ s1 = (1, 21, 0)) (k1 : G d 169 87 [vR r0, none] [AR (tN (uP τ s1 27 s0)), AR r0] (nC (uP τ s1 27 s0) (2, 0, 13) 13) Q) : G d 169 79 [vR r0, none] [AP s0, AR s1] τ Q := by
  refine g_putP rfl (ci := 21) (k := 27) rfl sh1 ?_
  refine g_sk 2 (pc1 := 85) (st1 := [AI 13, AR r0]) rfl ?_
  refine g_newa rfl rfl (by decide) (by decide) ?_
  exact k1

set_option maxRecDepth 8192 in
theorem t169_87 {d : Nat} {τ : T2} {Q : RS → T2 → Prop} {r0 s1 : Nat} {s0 : Option Nat} (sh1 : tS τ s1 = (1, 21, 0)) (k1 : G d 169 95 [vR r0, none] [AR (tN (uP τ s1 29 s0)), AR r0] (nC (uP τ s1 29 s0) (2, 0, 13) 13) Q) : G d 169 87 [vR r0, none] [AP s0, AR s1] τ Q := by
  refine g_putP rfl (ci := 21) (k := 29) rfl sh1 ?_
  refine g_sk 2 (pc1 := 93) (st1 := [AI 13, AR r0]) rfl ?_
  refine g_newa rfl rfl (by decide) (by decide) ?_
  exact k1

set_option maxRecDepth 8192 in
theorem t169_95 {d : Nat} {τ : T2} {Q : RS → T2 → Prop} {r0 s1 : Nat} {s0 : Option Nat} (sh1 : tS τ s1 = (1, 21, 0)) (k1 : G d 169 103 [vR r0, none] [AR (tN (uP τ s1 30 s0)), AR r0] (nC (uP τ s1 30 s0) (2, 1, 37) 37) Q) : G d 169 95 [vR r0, none] [AP s0, AR s1] τ Q := by
  refine g_putP rfl (ci := 21) (k := 30) rfl sh1 ?_
  refine g_sk 2 (pc1 := 101) (st1 := [AI 37, AR r0]) rfl ?_
  refine g_newa rfl rfl (by decide) (by decide) ?_
  exact k1

set_option maxRecDepth 8192 in
theorem t169_103 {d : Nat} {τ : T2} {Q : RS → T2 → Prop} {r0 s1 : Nat} {s0 : Option Nat} (sh1 : tS τ s1 = (1, 21, 0)) (k1 : G d 169 111 [vR r0, none] [AR (tN (uP τ s1 31 s0)), AR r0] (nC (uP τ s1 31 s0) (2, 1, 24) 24) Q) : G d 169 103 [vR r0, none] [AP s0, AR s1] τ Q := by
  refine g_putP rfl (ci := 21) (k := 31) rfl sh1 ?_
  refine g_sk 2 (pc1 := 109) (st1 := [AI 24, AR r0]) rfl ?_
  refine g_newa rfl rfl (by decide) (by decide) ?_
  exact k1

set_option maxRecDepth 8192 in
theorem t169_111 {d : Nat} {τ : T2} {Q : RS → T2 → Prop} {r0 s1 : Nat} {s0 : Option Nat} (sh1 : tS τ s1 = (1, 21, 0)) (k1 : G d 169 120 [vR r0, none] [AR (tN (uP τ s1 33 s0)), AR r0] (nC (uP τ s1 33 s0) (2, 0, 1000) 1000) Q) : G d 169 111 [vR r0, none] [AP s0, AR s1] τ Q := by
  refine g_putP rfl (ci := 21) (k := 33) rfl sh1 ?_
  refine g_sk 2 (pc1 := 118) (st1 := [AI 1000, AR r0]) rfl ?_
  refine g_newa rfl rfl (by decide) (by decide) ?_
  exact k1

set_option maxRecDepth 8192 in
theorem t169_120 {d : Nat} {τ : T2} {Q : RS → T2 → Prop} {r0 s1 : Nat} {s0 : Option Nat} (sh1 : tS τ s1 = (1, 21, 0)) (k1 : G d 169 129 [vR r0, none] [AR (tN (uP τ s1 35 s0)), AR r0] (nC (uP τ s1 35 s0) (2, 0, 1000) 1000) Q) : G d 169 120 [vR r0, none] [AP s0, AR s1] τ Q := by
  refine g_putP rfl (ci := 21) (k := 35) rfl sh1 ?_
  refine g_sk 2 (pc1 := 127) (st1 := [AI 1000, AR r0]) rfl ?_
  refine g_newa rfl rfl (by decide) (by decide) ?_
  exact k1

set_option maxRecDepth 8192 in
theorem t169_129 {d : Nat} {τ : T2} {Q : RS → T2 → Prop} {r0 s1 : Nat} {s0 : Option Nat} (sh1 : tS τ s1 = (1, 21, 0)) (k1 : G d 169 138 [vR r0, none] [AR (tN (uP τ s1 36 s0)), AR r0] (nC (uP τ s1 36 s0) (2, 2, 1000) 1000) Q) : G d 169 129 [vR r0, none] [AP s0, AR s1] τ Q := by
  refine g_putP rfl (ci := 21) (k := 36) rfl sh1 ?_
  refine g_sk 2 (pc1 := 136) (st1 := [AI 1000, AR r0]) rfl ?_
  refine g_newa rfl rfl (by decide) (by decide) ?_
  exact k1

set_option maxRecDepth 8192 in
theorem t169_138 {d : Nat} {τ : T2} {Q : RS → T2 → Prop} {r0 s1 : Nat} {s0 : Option Nat} (sh1 : tS τ s1 = (1, 21, 0)) (k1 : G d 169 143 [vR r0, vI 0] [] (uP τ s1 38 s0) Q) : G d 169 138 [vR r0, none] [AP s0, AR s1] τ Q := by
  refine g_putP rfl (ci := 21) (k := 38) rfl sh1 ?_
  refine g_sx 2 (pc1 := 143) (L1 := [vR r0, vI 0]) (st1 := []) rfl ?_
  exact k1

set_option maxRecDepth 8192 in
theorem t169_143 {d : Nat} {τ : T2} {Q : RS → T2 → Prop} {x1 : Int} {r0 : Nat} (sh2 : tS τ r0 = (1, 21, 0)) (k1 : 100 ≤ x1 → G d 169 170 [vR r0, vI 0] [] τ Q) (k2 : x1 < 100 → G d 169 157 [vR r0, vI x1] [AR (tN τ), AI x1, AP (tP τ r0 11)] (nC τ (1, 12, 0) 8) Q) : G d 169 143 [vR r0, vI x1] [] τ Q := by
  refine g_sk 2 (pc1 := 146) (st1 := [AI 100, AI x1]) rfl ?_
  refine g_br2 rfl (t := 168) rfl (fun c1 => ?_) (fun c1 => ?_)
  · have c1 : 100 ≤ x1 := of_decide_eq_true c1
    refine g_sx 2 (pc1 := 170) (L1 := [vR r0, vI 0]) (st1 := []) rfl ?_
    exact (k1 c1)
  · have c1 : x1 < 100 := Int.not_le.mp (of_decide_eq_false c1)
    refine g_sk 1 (pc1 := 150) (st1 := [AR r0]) rfl ?_
    refine g_gP rfl (ci := 21) (k := 11) rfl sh2 ?_
    refine g_sk 1 (pc1 := 154) (st1 := [AI x1, AP (tP τ r0 11)]) rfl ?_
    refine g_new rfl (ci := 12) rfl (by decide) (by decide) ?_
    exact (k2 c1)

set_option maxRecDepth 8192 in
theorem t169_157 {d : Nat} {τ : T2} {Q : RS → T2 → Prop} {x1 y1 : Int} {r0 s0 : Nat} {s2 : Option Nat} (hd : 1 ≤ d) (k1 : G (d - 1) 147 0 [vR s0] [] τ (KC d 169 158 161 [vR r0, vI x1] [AR s0, AI y1, AP s2] Q)) : G d 169 157 [vR r0, vI x1] [AR s0, AI y1, AP s2] τ Q := by
  refine g_sk 1 (pc1 := 158) (st1 := [AR s0, AR s0, AI y1, AP s2]) rfl ?_
  refine g_ci rfl rfl (by decide) rfl rfl (Nat.le_of_ble_eq_true rfl) (as2 := []) rfl rfl (by omega) (L0 := [vR s0]) rfl ?_
  exact k1

set_option maxRecDepth 8192 in
theorem t169_161 {d : Nat} {τ : T2} {Q : RS → T2 → Prop} {x1 y1 : Int} {r0 s0 s2 n1 : Nat} (sh2 : tS τ s2 = (3, 9, n1)) (b3 : (0 : Int) ≤ y1 ∧ y1 < (n1 : Int)) (p4 : okEs 9 (tS τ s0) = true) (k1 : G d 169 143 [vR r0, vI (wr (x1 + 1))] [] (uP τ s2 y1.toNat (some s0)) Q) : G d 169 161 [vR r0, vI x1] [AR s0, AI y1, AR s2] τ Q := by
  refine g_aast rfl sh2 (by decide) b3.1 b3.2 p4 ?_
  refine g_sx 2 (pc1 := 143) (L1 := [vR r0, vI (wr (x1 + 1))]) (st1 := []) rfl ?_
  exact k1

set_option maxRecDepth 8192 in
theorem t169_170 {d : Nat} {τ : T2} {Q : RS → T2 → Prop} {x1 : Int} {r0 : Nat} (sh2 : tS τ r0 = (1, 21, 0)) (k1 : 20 ≤ x1 → G d 169 197 [vR r0, vI 0] [] τ Q) (k2 : x1 < 20 → G d 169 184 [vR r0, vI x1] [AR (tN τ), AI x1, AP (tP τ r0 8)] (nC τ (1, 15, 0) 12) Q) : G d 169 170 [vR r0, vI x1] [] τ Q := by
  refine g_sk 2 (pc1 := 173) (st1 := [AI 20, AI x1]) rfl ?_
  refine g_br2 rfl (t := 195) rfl (fun c1 => ?_) (fun c1 => ?_)
  · have c1 : 20 ≤ x1 := of_decide_eq_true c1
    refine g_sx 2 (pc1 := 197) (L1 := [vR r0, vI 0]) (st1 := []) rfl ?_
    exact (k1 c1)
  · have c1 : x1 < 20 := Int.not_le.mp (of_decide_eq_false c1)
    refine g_sk 1 (pc1 := 177) (st1 := [AR r0]) rfl ?_
    refine g_gP rfl (ci := 21) (k := 8) rfl sh2 ?_
    refine g_sk 1 (pc1 := 181) (st1 := [AI x1, AP (tP τ r0 8)]) rfl ?_
    refine g_new rfl (ci := 15) rfl (by decide) (by decide) ?_
    exact (k2 c1)

set_option maxRecDepth 8192 in
theorem t169_184 {d : Nat} {τ : T2} {Q : RS → T2 → Prop} {x1 y1 : Int} {r0 s0 : Nat} {s2 : Option Nat} (hd : 1 ≤ d) (k1 : G (d - 1) 150 0 [vR s0] [] τ (KC d 169 185 188 [vR r0, vI x1] [AR s0, AI y1, AP s2] Q)) : G d 169 184 [vR r0, vI x1] [AR s0, AI y1, AP s2] τ Q := by
  refine g_sk 1 (pc1 := 185) (st1 := [AR s0, AR s0, AI y1, AP s2]) rfl ?_
  refine g_ci rfl rfl (by decide) rfl rfl (Nat.le_of_ble_eq_true rfl) (as2 := []) rfl rfl (by omega) (L0 := [vR s0]) rfl ?_
  exact k1

set_option maxRecDepth 8192 in
theorem t169_188 {d : Nat} {τ : T2} {Q : RS → T2 → Prop} {x1 y1 : Int} {r0 s0 s2 n1 : Nat} (sh2 : tS τ s2 = (3, 7, n1)) (b3 : (0 : Int) ≤ y1 ∧ y1 < (n1 : Int)) (p4 : okEs 7 (tS τ s0) = true) (k1 : G d 169 170 [vR r0, vI (wr (x1 + 1))] [] (uP τ s2 y1.toNat (some s0)) Q) : G d 169 188 [vR r0, vI x1] [AR s0, AI y1, AR s2] τ Q := by
  refine g_aast rfl sh2 (by decide) b3.1 b3.2 p4 ?_
  refine g_sx 2 (pc1 := 170) (L1 := [vR r0, vI (wr (x1 + 1))]) (st1 := []) rfl ?_
  exact k1

set_option maxRecDepth 8192 in
theorem t169_197 {d : Nat} {τ : T2} {Q : RS → T2 → Prop} {x1 : Int} {r0 : Nat} (sh2 : tS τ r0 = (1, 21, 0)) (k1 : 8 ≤ x1 → Q (.inl none) τ) (k2 : x1 < 8 → G d 169 211 [vR r0, vI x1] [AR (tN τ), AI x1, AP (tP τ r0 9)] (nC τ (1, 19, 0) 9) Q) : G d 169 197 [vR r0, vI x1] [] τ Q := by
  refine g_sk 2 (pc1 := 200) (st1 := [AI 8, AI x1]) rfl ?_
  refine g_br2 rfl (t := 222) rfl (fun c1 => ?_) (fun c1 => ?_)
  · have c1 : 8 ≤ x1 := of_decide_eq_true c1
    refine g_vret rfl rfl ?_
    exact (k1 c1)
  · have c1 : x1 < 8 := Int.not_le.mp (of_decide_eq_false c1)
    refine g_sk 1 (pc1 := 204) (st1 := [AR r0]) rfl ?_
    refine g_gP rfl (ci := 21) (k := 9) rfl sh2 ?_
    refine g_sk 1 (pc1 := 208) (st1 := [AI x1, AP (tP τ r0 9)]) rfl ?_
    refine g_new rfl (ci := 19) rfl (by decide) (by decide) ?_
    exact (k2 c1)

set_option maxRecDepth 8192 in
theorem t169_211 {d : Nat} {τ : T2} {Q : RS → T2 → Prop} {x1 y1 : Int} {r0 s0 : Nat} {s2 : Option Nat} (hd : 1 ≤ d) (k1 : G (d - 1) 155 0 [vR s0] [] τ (KC d 169 212 215 [vR r0, vI x1] [AR s0, AI y1, AP s2] Q)) : G d 169 211 [vR r0, vI x1] [AR s0, AI y1, AP s2] τ Q := by
  refine g_sk 1 (pc1 := 212) (st1 := [AR s0, AR s0, AI y1, AP s2]) rfl ?_
  refine g_ci rfl rfl (by decide) rfl rfl (Nat.le_of_ble_eq_true rfl) (as2 := []) rfl rfl (by omega) (L0 := [vR s0]) rfl ?_
  exact k1

set_option maxRecDepth 8192 in
theorem t169_215 {d : Nat} {τ : T2} {Q : RS → T2 → Prop} {x1 y1 : Int} {r0 s0 s2 n1 : Nat} (sh2 : tS τ s2 = (3, 8, n1)) (b3 : (0 : Int) ≤ y1 ∧ y1 < (n1 : Int)) (p4 : okEs 8 (tS τ s0) = true) (k1 : G d 169 197 [vR r0, vI (wr (x1 + 1))] [] (uP τ s2 y1.toNat (some s0)) Q) : G d 169 215 [vR r0, vI x1] [AR s0, AI y1, AR s2] τ Q := by
  refine g_aast rfl sh2 (by decide) b3.1 b3.2 p4 ?_
  refine g_sx 2 (pc1 := 197) (L1 := [vR r0, vI (wr (x1 + 1))]) (st1 := []) rfl ?_
  exact k1

set_option maxRecDepth 8192 in
theorem t170_0 {d : Nat} {τ : T2} {Q : RS → T2 → Prop} {x1 x2 x3 x4 x5 : Int} {r0 q3 n5 q8 : Nat} (sh1 : tS τ r0 = (1, 21, 0)) (p4 : tP τ r0 11 = some q3) (sh6 : tS τ q3 = (3, 9, n5)) (b7 : ¬ (tI τ r0 12) = 100 → (0 : Int) ≤ (tI τ r0 12) ∧ (tI τ r0 12) < (n5 : Int)) (p9 : ¬ (tI τ r0 12) = 100 → tP τ q3 (tI τ r0 12).toNat = some q8) (sh10 : tS τ q8 = (1, 12, 0)) (b11 : (0 : Int) ≤ 0 ∧ 0 < (n5 : Int)) (k1 : ¬ (tI τ r0 12) = 100 → Q (.inl (some (AR q8))) (uI (uI (uI (uI (uI (uI τ r0 12 (wr ((tI τ r0 12) + 1))) q8 0 x1) q8 1 x2) q8 2 x3) q8 3 x4) q8 4 x5)) (k2 : (tI τ r0 12) = 100 → G d 170 20 [vR r0, vI x1, vI x2, vI x3, vI x4, vI x5, vQ (tP τ q3 0), vI 1] [] τ Q) : G d 170 0 [vR r0, vI x1, vI x2, vI x3, vI x4, vI x5, none, none] [] τ Q := by
  refine g_sk 1 (pc1 := 1) (st1 := [AR r0]) rfl ?_
  refine g_gI rfl (ci := 21) (k := 12) rfl sh1 ?_
  refine g_sk 1 (pc1 := 6) (st1 := [AI 100, AI (tI τ r0 12)]) rfl ?_
  refine g_br2 rfl (t := 68) rfl (fun c2 => ?_) (fun c2 => ?_)
  · have c2 : ¬ (tI τ r0 12) = 100 := of_decide_eq_true c2
    refine g_sk 1 (pc1 := 69) (st1 := [AR r0]) rfl ?_
    refine g_gQ rfl (ci := 21) (k := 11) rfl sh1 p4 ?_
    refine g_sk 1 (pc1 := 73) (st1 := [AR r0, AR q3]) rfl ?_
    refine g_gI rfl (ci := 21) (k := 12) rfl sh1 ?_
    refine g_aalQ rfl sh6 (by decide) (b7 c2).1 (b7 c2).2 (p9 c2) ?_
    refine g_sx 3 (pc1 := 81) (L1 := [vR r0, vI x1, vI x2, vI x3, vI x4, vI x5, vR q8, none]) (st1 := [AR r0, AR r0]) rfl ?_
    refine g_gI rfl (ci := 21) (k := 12) rfl sh1 ?_
    refine g_sk 2 (pc1 := 86) (st1 := [AI (wr ((tI τ r0 12) + 1)), AR r0]) rfl ?_
    refine g_putI (x := (wr ((tI τ r0 12) + 1))) rfl (ci := 21) (k := 12) (kd := 0) rfl (by decide) rfl rfl sh1 ?_
    refine g_sk 2 (pc1 := 92) (st1 := [AI x1, AR q8]) rfl ?_
    refine g_putI (x := x1) rfl (ci := 12) (k := 0) (kd := 0) rfl (by decide) rfl rfl sh10 ?_
    refine g_sk 2 (pc1 := 98) (st1 := [AI x2, AR q8]) rfl ?_
    refine g_putI (x := x2) rfl (ci := 12) (k := 1) (kd := 0) rfl (by decide) rfl rfl sh10 ?_
    refine g_sk 2 (pc1 := 104) (st1 := [AI x3, AR q8]) rfl ?_
    refine g_putI (x := x3) rfl (ci := 12) (k := 2) (kd := 0) rfl (by decide) rfl rfl sh10 ?_
    refine g_sk 2 (pc1 := 111) (st1 := [AI x4, AR q8]) rfl ?_
    refine g_putI (x := x4) rfl (ci := 12) (k := 3) (kd := 0) rfl (by decide) rfl rfl sh10 ?_
    refine g_sk 2 (pc1 := 118) (st1 := [AI x5, AR q8]) rfl ?_
    refine g_putI (x := x5) rfl (ci := 12) (k := 4) (kd := 0) rfl (by decide) rfl rfl sh10 ?_
    refine g_sk 1 (pc1 := 123) (st1 := [AR q8]) rfl ?_
    refine g_aret rfl rfl ?_
    exact (k1 c2)
  · have c2 : (tI τ r0 12) = 100 := Decidable.of_not_not (of_decide_eq_false c2)
    refine g_sk 1 (pc1 := 10) (st1 := [AR r0]) rfl ?_
    refine g_gQ rfl (ci := 21) (k := 11) rfl sh1 p4 ?_
    refine g_sk 1 (pc1 := 14) (st1 := [AI 0, AR q3]) rfl ?_
    refine g_aald rfl sh6 (by decide) b11.1 b11.2 ?_
    refine g_sx 3 (pc1 := 20) (L1 := [vR r0, vI x1, vI x2, vI x3, vI x4, vI x5, vQ (tP τ q3 0), vI 1]) (st1 := []) rfl ?_
    exact (k2 c2)

set_option maxRecDepth 8192 in
theorem t170_20 {d : Nat} {τ : T2} {Q : RS → T2 → Prop} {x1 x2 x3 x4 x5 x7 : Int} {r0 r6 q3 n5 q9 n11 q14 q20 : Nat} (sh2 : tS τ r0 = (1, 21, 0)) (p4 : tP τ r0 11 = some q3) (sh6 : tS τ q3 = (3, 9, n5)) (b7 : (0 : Int) ≤ 99 ∧ 99 < (n5 : Int)) (p8 : 100 ≤ x7 → okEs 9 (tS τ r6) = true) (p10 : tP (uP τ q3 99 (some r6)) r0 11 = some q9) (sh12 : tS τ q9 = (3, 9, n11)) (b13 : 100 ≤ x7 → (0 : Int) ≤ (tI (uI (uP τ q3 99 (some r6)) r0 12 (wr ((tI (uP τ q3 99 (some r6)) r0 12) - 1))) r0 12) ∧ (tI (uI (uP τ q3 99 (some r6)) r0 12 (wr ((tI (uP τ q3 99 (some r6)) r0 12) - 1))) r0 12) < (n11 : Int)) (p15 : 100 ≤ x7 → tP (uP τ q3 99 (some r6)) q9 (tI (uI (uP τ q3 99 (some r6)) r0 12 (wr ((tI (uP τ q3 99 (some r6)) r0 12) - 1))) r0 12).toNat = some q14) (sh16 : tS τ q14 = (1, 12, 0)) (b19 : x7 < 100 → (0 : Int) ≤ x7 ∧ x7 < (n5 : Int)) (p21 : x7 < 100 → tP τ q3 x7.toNat = some q20) (b22 : x7 < 100 → (0 : Int) ≤ (wr (x7 - 1)) ∧ (wr (x7 - 1)) < (n5 : Int)) (p23 : x7 < 100 → okEs 9 (tS τ q20) = true) (k1 : 100 ≤ x7 → ∀ τ17, (uI (uI (uI (uI (uI (uI (uI (uP τ q3 99 (some r6)) r0 12 (wr ((tI (uP τ q3 99 (some r6)) r0 12) - 1))) r0 12 (wr ((tI (uI (uP τ q3 99 (some r6)) r0 12 (wr ((tI (uP τ q3 99 (some r6)) r0 12) - 1))) r0 12) + 1))) q14 0 x1) q14 1 x2) q14 2 x3) q14 3 x4) q14 4 x5) = τ17 → Q (.inl (some (AR q14))) τ17) (k2 : x7 < 100 → G d 170 20 [vR r0, vI x1, vI x2, vI x3, vI x4, vI x5, vR r6, vI (wr (x7 + 1))] [] (uP τ q3 (wr (x7 - 1)).toNat (some q20)) Q) : G d 170 20 [vR r0, vI x1, vI x2, vI x3, vI x4, vI x5, vR r6, vI x7] [] τ Q := by
  refine g_sk 2 (pc1 := 24) (st1 := [AI 100, AI x7]) rfl ?_
  refine g_br2 rfl (t := 49) rfl (fun c1 => ?_) (fun c1 => ?_)
  · have c1 : 100 ≤ x7 := of_decide_eq_true c1
    refine g_sk 1 (pc1 := 50) (st1 := [AR r0]) rfl ?_
    refine g_gQ rfl (ci := 21) (k := 11) rfl sh2 p4 ?_
    refine g_sk 2 (pc1 := 57) (st1 := [AR r6, AI 99, AR q3]) rfl ?_
    refine g_aast rfl sh6 (by decide) b7.1 b7.2 (p8 c1) ?_
    refine g_sk 2 (pc1 := 60) (st1 := [AR r0, AR r0]) rfl ?_
    refine g_gI rfl (ci := 21) (k := 12) rfl sh2 ?_
    refine g_sk 2 (pc1 := 65) (st1 := [AI (wr ((tI (uP τ q3 99 (some r6)) r0 12) - 1)), AR r0]) rfl ?_
    refine g_putI (x := (wr ((tI (uP τ q3 99 (some r6)) r0 12) - 1))) rfl (ci := 21) (k := 12) (kd := 0) rfl (by decide) rfl rfl sh2 ?_
    refine g_sk 1 (pc1 := 69) (st1 := [AR r0]) rfl ?_
    refine g_gQ rfl (ci := 21) (k := 11) rfl sh2 p10 ?_
    refine g_sk 1 (pc1 := 73) (st1 := [AR r0, AR q9]) rfl ?_
    refine g_gI rfl (ci := 21) (k := 12) rfl sh2 ?_
    refine g_aalQ rfl sh12 (by decide) (b13 c1).1 (b13 c1).2 (p15 c1) ?_
    refine g_sx 3 (pc1 := 81) (L1 := [vR r0, vI x1, vI x2, vI x3, vI x4, vI x5, vR q14, vI x7]) (st1 := [AR r0, AR r0]) rfl ?_
    refine g_gI rfl (ci := 21) (k := 12) rfl sh2 ?_
    refine g_sk 2 (pc1 := 86) (st1 := [AI (wr ((tI (uI (uP τ q3 99 (some r6)) r0 12 (wr ((tI (uP τ q3 99 (some r6)) r0 12) - 1))) r0 12) + 1)), AR r0]) rfl ?_
    refine g_putI (x := (wr ((tI (uI (uP τ q3 99 (some r6)) r0 12 (wr ((tI (uP τ q3 99 (some r6)) r0 12) - 1))) r0 12) + 1))) rfl (ci := 21) (k := 12) (kd := 0) rfl (by decide) rfl rfl sh2 ?_
    refine g_sk 2 (pc1 := 92) (st1 := [AI x1, AR q14]) rfl ?_
    refine g_putI (x := x1) rfl (ci := 12) (k := 0) (kd := 0) rfl (by decide) rfl rfl sh16 ?_
    refine g_sk 2 (pc1 := 98) (st1 := [AI x2, AR q14]) rfl ?_
    refine g_putI (x := x2) rfl (ci := 12) (k := 1) (kd := 0) rfl (by decide) rfl rfl sh16 ?_
    refine g_sk 2 (pc1 := 104) (st1 := [AI x3, AR q14]) rfl ?_
    refine g_putI (x := x3) rfl (ci := 12) (k := 2) (kd := 0) rfl (by decide) rfl rfl sh16 ?_
    refine g_sk 2 (pc1 := 111) (st1 := [AI x4, AR q14]) rfl ?_
    refine g_putI (x := x4) rfl (ci := 12) (k := 3) (kd := 0) rfl (by decide) rfl rfl sh16 ?_
    refine g_sk 2 (pc1 := 118) (st1 := [AI x5, AR q14]) rfl ?_
    refine g_putI (x := x5) rfl (ci := 12) (k := 4) (kd := 0) rfl (by decide) rfl rfl sh16 ?_
    show G d 170 121 [vR r0, vI x1, vI x2, vI x3, vI x4, vI x5, vR q14, vI x7] [] (uI (uI (uI (uI (uI (uI (uI (uP τ q3 99 (some r6)) r0 12 (wr ((tI (uP τ q3 99 (some r6)) r0 12) - 1))) r0 12 (wr ((tI (uI (uP τ q3 99 (some r6)) r0 12 (wr ((tI (uP τ q3 99 (some r6)) r0 12) - 1))) r0 12) + 1))) q14 0 x1) q14 1 x2) q14 2 x3) q14 3 x4) q14 4 x5) Q
    generalize e18 : (uI (uI (uI (uI (uI (uI (uI (uP τ q3 99 (some r6)) r0 12 (wr ((tI (uP τ q3 99 (some r6)) r0 12) - 1))) r0 12 (wr ((tI (uI (uP τ q3 99 (some r6)) r0 12 (wr ((tI (uP τ q3 99 (some r6)) r0 12) - 1))) r0 12) + 1))) q14 0 x1) q14 1 x2) q14 2 x3) q14 3 x4) q14 4 x5) = τ17
    refine g_sk 1 (pc1 := 123) (st1 := [AR q14]) rfl ?_
    refine g_aret rfl rfl ?_
    exact (k1 c1 τ17 e18)
  · have c1 : x7 < 100 := Int.not_le.mp (of_decide_eq_false c1)
    refine g_sk 1 (pc1 := 28) (st1 := [AR r0]) rfl ?_
    refine g_gQ rfl (ci := 21) (k := 11) rfl sh2 p4 ?_
    refine g_sk 4 (pc1 := 36) (st1 := [AR r0, AI (wr (x7 - 1)), AR q3]) rfl ?_
    refine g_gQ rfl (ci := 21) (k := 11) rfl sh2 p4 ?_
    refine g_sk 1 (pc1 := 41) (st1 := [AI x7, AR q3, AI (wr (x7 - 1)), AR q3]) rfl ?_
    refine g_aalQ rfl sh6 (by decide) (b19 c1).1 (b19 c1).2 (p21 c1) ?_
    refine g_aast rfl sh6 (by decide) (b22 c1).1 (b22 c1).2 (p23 c1) ?_
    refine g_sx 2 (pc1 := 20) (L1 := [vR r0, vI x1, vI x2, vI x3, vI x4, vI x5, vR r6, vI (wr (x7 + 1))]) (st1 := []) rfl ?_
    exact (k2 c1)

set_option maxRecDepth 8192 in
theorem t171_0 {d : Nat} {τ : T2} {Q : RS → T2 → Prop} {r0 q3 n5 q8 : Nat} (sh1 : tS τ r0 = (1, 21, 0)) (p4 : tP τ r0 11 = some q3) (sh6 : tS τ q3 = (3, 9, n5)) (b7 : ¬ (tI (uI τ r0 0 0) r0 12) = 0 → (0 : Int) ≤ (tI (uI (uI τ r0 0 0) r0 12 (wr ((tI (uI τ r0 0 0) r0 12) - 1))) r0 12) ∧ (tI (uI (uI τ r0 0 0) r0 12 (wr ((tI (uI τ r0 0 0) r0 12) - 1))) r0 12) < (n5 : Int)) (p9 : ¬ (tI (uI τ r0 0 0) r0 12) = 0 → tP τ q3 (tI (uI (uI τ r0 0 0) r0 12 (wr ((tI (uI τ r0 0 0) r0 12) - 1))) r0 12).toNat = some q8) (sh10 : tS τ q8 = (1, 12, 0)) (k1 : ¬ (tI (uI τ r0 0 0) r0 12) = 0 → G d 171 38 [vR r0, vR q8, none] [AI (tI (uI (uI τ r0 0 0) r0 12 (wr ((tI (uI τ r0 0 0) r0 12) - 1))) q8 0)] (uI (uI τ r0 0 0) r0 12 (wr ((tI (uI τ r0 0 0) r0 12) - 1))) Q) (k2 : (tI (uI τ r0 0 0) r0 12) = 0 → Q (.inl (some (AI 0))) (uI τ r0 0 0)) : G d 171 0 [vR r0, none, none] [] τ Q := by
  refine g_sk 2 (pc1 := 2) (st1 := [AI 0, AR r0]) rfl ?_
  refine g_putI (x := 0) rfl (ci := 21) (k := 0) (kd := 0) rfl (by decide) rfl rfl sh1 ?_
  refine g_sk 1 (pc1 := 6) (st1 := [AR r0]) rfl ?_
  refine g_gI rfl (ci := 21) (k := 12) rfl sh1 ?_
  refine g_br1 rfl (t := 14) rfl (fun c2 => ?_) (fun c2 => ?_)
  · have c2 : ¬ (tI (uI τ r0 0 0) r0 12) = 0 := of_decide_eq_true c2
    refine g_sk 2 (pc1 := 16) (st1 := [AR r0, AR r0]) rfl ?_
    refine g_gI rfl (ci := 21) (k := 12) rfl sh1 ?_
    refine g_sk 2 (pc1 := 21) (st1 := [AI (wr ((tI (uI τ r0 0 0) r0 12) - 1)), AR r0]) rfl ?_
    refine g_putI (x := (wr ((tI (uI τ r0 0 0) r0 12) - 1))) rfl (ci := 21) (k := 12) (kd := 0) rfl (by decide) rfl rfl sh1 ?_
    refine g_sk 1 (pc1 := 25) (st1 := [AR r0]) rfl ?_
    refine g_gQ rfl (ci := 21) (k := 11) rfl sh1 p4 ?_
    refine g_sk 1 (pc1 := 29) (st1 := [AR r0, AR q3]) rfl ?_
    refine g_gI rfl (ci := 21) (k := 12) rfl sh1 ?_
    refine g_aalQ rfl sh6 (by decide) (b7 c2).1 (b7 c2).2 (p9 c2) ?_
    refine g_sx 2 (pc1 := 35) (L1 := [vR r0, vR q8, none]) (st1 := [AR q8]) rfl ?_
    refine g_gI rfl (ci := 12) (k := 0) rfl sh10 ?_
    exact (k1 c2)
  · have c2 : (tI (uI τ r0 0 0) r0 12) = 0 := Decidable.of_not_not (of_decide_eq_false c2)
    refine g_sk 1 (pc1 := 13) (st1 := [AI 0]) rfl ?_
    refine g_iret rfl rfl ?_
    exact (k2 c2)

set_option maxRecDepth 8192 in
theorem t172_0 {d : Nat} {τ : T2} {Q : RS → T2 → Prop} {x1 : Int} {r0 q2 : Nat} (sh1 : tS τ r0 = (1, 21, 0)) (p3 : tP τ r0 13 = some q2) (sh4 : tS τ q2 = (1, 18, 0)) (k1 : Q (.inl (some (AR q2))) (uI (uI τ q2 6 x1) q2 7 (tI (uI τ q2 6 x1) r0 19))) : G d 172 0 [vR r0, vI x1] [] τ Q := by
  refine g_sk 1 (pc1 := 1) (st1 := [AR r0]) rfl ?_
  refine g_gQ rfl (ci := 21) (k := 13) rfl sh1 p3 ?_
  refine g_sk 1 (pc1 := 5) (st1 := [AI x1, AR q2]) rfl ?_
  refine g_putI (x := x1) rfl (ci := 18) (k := 6) (kd := 0) rfl (by decide) rfl rfl sh4 ?_
  refine g_sk 1 (pc1 := 9) (st1 := [AR r0]) rfl ?_
  refine g_gQ rfl (ci := 21) (k := 13) rfl sh1 p3 ?_
  refine g_sk 1 (pc1 := 13) (st1 := [AR r0, AR q2]) rfl ?_
  refine g_gI rfl (ci := 21) (k := 19) rfl sh1 ?_
  refine g_putI (x := (tI (uI τ q2 6 x1) r0 19)) rfl (ci := 18) (k := 7) (kd := 0) rfl (by decide) rfl rfl sh4 ?_
  refine g_sk 1 (pc1 := 20) (st1 := [AR r0]) rfl ?_
  refine g_gQ rfl (ci := 21) (k := 13) rfl sh1 p3 ?_
  refine g_aret rfl rfl ?_
  exact k1

set_option maxRecDepth 8192 in
theorem t173_0 {d : Nat} {τ : T2} {Q : RS → T2 → Prop} {x1 : Int} {r0 q3 n5 : Nat} (sh1 : tS τ r0 = (1, 21, 0)) (p4 : tP τ r0 14 = some q3) (sh6 : tS τ q3 = (2, 1, n5)) (b7 : x1 < (tI τ r0 16) → (0 : Int) ≤ x1 ∧ x1 < (n5 : Int)) (k1 : (tI τ r0 16) ≤ x1 → Q (.inl (some (AI (-1)))) τ) (k2 : x1 < (tI τ r0 16) → Q (.inl (some (AI (zand (tI τ q3 x1.toNat) 255)))) τ) : G d 173 0 [vR r0, vI x1] [] τ Q := by
  refine g_sk 2 (pc1 := 2) (st1 := [AR r0, AI x1]) rfl ?_
  refine g_gI rfl (ci := 21) (k := 16) rfl sh1 ?_
  refine g_br2 rfl (t := 21) rfl (fun c2 => ?_) (fun c2 => ?_)
  · have c2 : (tI τ r0 16) ≤ x1 := of_decide_eq_true c2
    refine g_sk 1 (pc1 := 22) (st1 := [AI (-1)]) rfl ?_
    refine g_iret rfl rfl ?_
    exact (k1 c2)
  · have c2 : x1 < (tI τ r0 16) := Int.not_le.mp (of_decide_eq_false c2)
    refine g_sk 1 (pc1 := 9) (st1 := [AR r0]) rfl ?_
    refine g_gQ rfl (ci := 21) (k := 14) rfl sh1 p4 ?_
    refine g_sk 1 (pc1 := 13) (st1 := [AI x1, AR q3]) rfl ?_
    refine g_bald rfl sh6 (by decide) (b7 c2).1 (b7 c2).2 ?_
    refine g_sk 3 (pc1 := 22) (st1 := [AI (zand (tI τ q3 x1.toNat) 255)]) rfl ?_
    refine g_iret rfl rfl ?_
    exact (k2 c2)

set_option maxRecDepth 8192 in
theorem t174_0 {d : Nat} {τ : T2} {Q : RS → T2 → Prop} {x0 : Int} (k1 : x0 < 97 → Q (.inl (some (AI 0))) τ) (k2 : 97 ≤ x0 → 122 < x0 → Q (.inl (some (AI 0))) τ) (k3 : 97 ≤ x0 → x0 ≤ 122 → Q (.inl (some (AI 1))) τ) : G d 174 0 [vI x0] [] τ Q := by
  refine g_sk 2 (pc1 := 3) (st1 := [AI 97, AI x0]) rfl ?_
  refine g_br2 rfl (t := 16) rfl (fun c1 => ?_) (fun c1 => ?_)
  · have c1 : x0 < 97 := of_decide_eq_true c1
    refine g_sk 1 (pc1 := 17) (st1 := [AI 0]) rfl ?_
    refine g_zret rfl rfl (by decide) ?_
    exact (k1 c1)
  · have c1 : 97 ≤ x0 := Int.not_lt.mp (of_decide_eq_false c1)
    refine g_sk 2 (pc1 := 9) (st1 := [AI 122, AI x0]) rfl ?_
    refine g_br2 rfl (t := 16) rfl (fun c2 => ?_) (fun c2 => ?_)
    · have c2 : 122 < x0 := of_decide_eq_true c2
      refine g_sk 1 (pc1 := 17) (st1 := [AI 0]) rfl ?_
      refine g_zret rfl rfl (by decide) ?_
      exact (k2 c1 c2)
    · have c2 : x0 ≤ 122 := Int.not_lt.mp (of_decide_eq_false c2)
      refine g_sk 2 (pc1 := 17) (st1 := [AI 1]) rfl ?_
      refine g_zret rfl rfl (by decide) ?_
      exact (k3 c1 c2)

set_option maxRecDepth 8192 in
theorem t175_0 {d : Nat} {τ : T2} {Q : RS → T2 → Prop} {x0 : Int} (k1 : x0 < 48 → Q (.inl (some (AI 0))) τ) (k2 : 48 ≤ x0 → 57 < x0 → Q (.inl (some (AI 0))) τ) (k3 : 48 ≤ x0 → x0 ≤ 57 → Q (.inl (some (AI 1))) τ) : G d 175 0 [vI x0] [] τ Q := by
  refine g_sk 2 (pc1 := 3) (st1 := [AI 48, AI x0]) rfl ?_
  refine g_br2 rfl (t := 16) rfl (fun c1 => ?_) (fun c1 => ?_)
  · have c1 : x0 < 48 := of_decide_eq_true c1
    refine g_sk 1 (pc1 := 17) (st1 := [AI 0]) rfl ?_
    refine g_zret rfl rfl (by decide) ?_
    exact (k1 c1)
  · have c1 : 48 ≤ x0 := Int.not_lt.mp (of_decide_eq_false c1)
    refine g_sk 2 (pc1 := 9) (st1 := [AI 57, AI x0]) rfl ?_
    refine g_br2 rfl (t := 16) rfl (fun c2 => ?_) (fun c2 => ?_)
    · have c2 : 57 < x0 := of_decide_eq_true c2
      refine g_sk 1 (pc1 := 17) (st1 := [AI 0]) rfl ?_
      refine g_zret rfl rfl (by decide) ?_
      exact (k2 c1 c2)
    · have c2 : x0 ≤ 57 := Int.not_lt.mp (of_decide_eq_false c2)
      refine g_sk 2 (pc1 := 17) (st1 := [AI 1]) rfl ?_
      refine g_zret rfl rfl (by decide) ?_
      exact (k3 c1 c2)

set_option maxRecDepth 8192 in
theorem t176_0 {d : Nat} {τ : T2} {Q : RS → T2 → Prop} {r0 : Option Nat} (k1 : G d 176 4 [vQ r0, vJ 0, none, vI 0] [] τ Q) : G d 176 0 [vQ r0, none, none, none] [] τ Q := by
  refine g_sx 4 (pc1 := 4) (L1 := [vQ r0, vJ 0, none, vI 0]) (st1 := []) rfl ?_
  exact k1

set_option maxRecDepth 8192 in
theorem t176_4 {d : Nat} {τ : T2} {Q : RS → T2 → Prop} {x1 x3 : Int} {r0 : Option Nat} (hd : 17 ≤ d) (k1 : G d 176 6 [vQ r0, vJ x1, none, vI x3] [AP r0, AI x3] τ Q) : G d 176 4 [vQ r0, vJ x1, none, vI x3] [] τ Q := by
  refine g_sk 2 (pc1 := 6) (st1 := [AP r0, AI x3]) rfl ?_
  exact k1

set_option maxRecDepth 8192 in
theorem t177_0 {d : Nat} {τ : T2} {Q : RS → T2 → Prop} {r0 : Nat} (hd : 1 ≤ d) (sh1 : tS τ r0 = (1, 21, 0)) (k1 : G (d - 1) 173 0 [vR r0, vI (tI τ r0 17)] [] τ (KC d 177 5 8 [vR r0, none, none] [] Q)) : G d 177 0 [vR r0, none, none] [] τ Q := by
  refine g_sk 2 (pc1 := 2) (st1 := [AR r0, AR r0]) rfl ?_
  refine g_gI rfl (ci := 21) (k := 17) rfl sh1 ?_
  refine g_cv rfl rfl (by decide) rfl rfl (Nat.le_of_ble_eq_true rfl) (as2 := [AI (tI τ r0 17)]) rfl sh1 rfl (by omega) (L0 := [vR r0, vI (tI τ r0 17)]) rfl ?_
  exact k1

set_option maxRecDepth 8192 in
theorem t177_8 {d : Nat} {τ : T2} {Q : RS → T2 → Prop} {y0 : Int} {r0 : Nat} (hd : 1 ≤ d) (sh2 : tS τ r0 = (1, 21, 0)) (k1 : ¬ y0 = 32 → G (d - 1) 173 0 [vR r0, vI (tI (uI (uI (uI τ r0 19 (tI τ r0 17)) r0 18 0) r0 20 0) r0 17)] [] (uI (uI (uI τ r0 19 (tI τ r0 17)) r0 18 0) r0 20 0) (KC d 177 49 52 [vR r0, none, none] [] Q)) (k2 : y0 = 32 → G d 177 0 [vR r0, none, none] [] (uI τ r0 17 (wr ((tI τ r0 17) + 1))) Q) : G d 177 8 [vR r0, none, none] [AI y0] τ Q := by
  refine g_sk 1 (pc1 := 10) (st1 := [AI 32, AI y0]) rfl ?_
  refine g_br2 rfl (t := 26) rfl (fun c1 => ?_) (fun c1 => ?_)
  · have c1 : ¬ y0 = 32 := of_decide_eq_true c1
    refine g_sk 2 (pc1 := 28) (st1 := [AR r0, AR r0]) rfl ?_
    refine g_gI rfl (ci := 21) (k := 17) rfl sh2 ?_
    refine g_putI (x := (tI τ r0 17)) rfl (ci := 21) (k := 19) (kd := 0) rfl (by decide) rfl rfl sh2 ?_
    refine g_sk 2 (pc1 := 36) (st1 := [AI 0, AR r0]) rfl ?_
    refine g_putI (x := 0) rfl (ci := 21) (k := 18) (kd := 0) rfl (by decide) rfl rfl sh2 ?_
    refine g_sk 2 (pc1 := 41) (st1 := [AI 0, AR r0]) rfl ?_
    refine g_putI (x := 0) rfl (ci := 21) (k := 20) (kd := 0) rfl (by decide) rfl rfl sh2 ?_
    refine g_sk 2 (pc1 := 46) (st1 := [AR r0, AR r0]) rfl ?_
    refine g_gI rfl (ci := 21) (k := 17) rfl sh2 ?_
    refine g_cv rfl rfl (by decide) rfl rfl (Nat.le_of_ble_eq_true rfl) (as2 := [AI (tI (uI (uI (uI τ r0 19 (tI τ r0 17)) r0 18 0) r0 20 0) r0 17)]) rfl sh2 rfl (by omega) (L0 := [vR r0, vI (tI (uI (uI (uI τ r0 19 (tI τ r0 17)) r0 18 0) r0 20 0) r0 17)]) rfl ?_
    exact (k1 c1)
  · have c1 : y0 = 32 := Decidable.of_not_not (of_decide_eq_false c1)
    refine g_sk 2 (pc1 := 15) (st1 := [AR r0, AR r0]) rfl ?_
    refine g_gI rfl (ci := 21) (k := 17) rfl sh2 ?_
    refine g_sk 2 (pc1 := 20) (st1 := [AI (wr ((tI τ r0 17) + 1)), AR r0]) rfl ?_
    refine g_putI (x := (wr ((tI τ r0 17) + 1))) rfl (ci := 21) (k := 17) (kd := 0) rfl (by decide) rfl rfl sh2 ?_
    refine g_sk 1 (pc1 := 0) (st1 := []) rfl ?_
    exact (k2 c1)

set_option maxRecDepth 8192 in
theorem t177_52 {d : Nat} {τ : T2} {Q : RS → T2 → Prop} {y0 : Int} {r0 : Nat} (hd : 1 ≤ d) (sh2 : tS τ r0 = (1, 21, 0)) (k1 : ¬ y0 = (-1) → G (d - 1) 174 0 [vI y0] [] τ (KC d 177 69 72 [vR r0, vI y0, vI 0] [] Q)) (k2 : y0 = (-1) → Q (.inl none) (uI τ r0 18 1)) : G d 177 52 [vR r0, none, none] [AI y0] τ Q := by
  refine g_sx 5 (pc1 := 57) (L1 := [vR r0, vI y0, vI 0]) (st1 := [AI (-1), AI y0]) rfl ?_
  refine g_br2 rfl (t := 68) rfl (fun c1 => ?_) (fun c1 => ?_)
  · have c1 : ¬ y0 = (-1) := of_decide_eq_true c1
    refine g_sk 1 (pc1 := 69) (st1 := [AI y0]) rfl ?_
    refine g_cs rfl rfl (by decide) rfl rfl (Nat.le_of_ble_eq_true rfl) rfl (by omega) (L0 := [vI y0]) rfl ?_
    exact (k1 c1)
  · have c1 : y0 = (-1) := Decidable.of_not_not (of_decide_eq_false c1)
    refine g_sk 2 (pc1 := 62) (st1 := [AI 1, AR r0]) rfl ?_
    refine g_putI (x := 1) rfl (ci := 21) (k := 18) (kd := 0) rfl (by decide) rfl rfl sh2 ?_
    refine g_sk 1 (pc1 := 306) (st1 := []) rfl ?_
    refine g_vret rfl rfl ?_
    exact (k2 c1)

set_option maxRecDepth 8192 in
theorem t177_72 {d : Nat} {τ : T2} {Q : RS → T2 → Prop} {x1 x2 y0 : Int} {r0 : Nat} (hd : 1 ≤ d) (sh2 : tS τ r0 = (1, 21, 0)) (k1 : y0 = 0 → G (d - 1) 175 0 [vI x1] [] τ (KC d 177 156 159 [vR r0, vI x1, vI x2] [] Q)) (k2 : ¬ y0 = 0 → G d 177 80 [vR r0, none, vI x2] [] (uI τ r0 22 0) Q) : G d 177 72 [vR r0, vI x1, vI x2] [AI y0] τ Q := by
  refine g_br1 rfl (t := 155) rfl (fun c1 => ?_) (fun c1 => ?_)
  · have c1 : y0 = 0 := of_decide_eq_true c1
    refine g_sk 1 (pc1 := 156) (st1 := [AI x1]) rfl ?_
    refine g_cs rfl rfl (by decide) rfl rfl (Nat.le_of_ble_eq_true rfl) rfl (by omega) (L0 := [vI x1]) rfl ?_
    exact (k1 c1)
  · have c1 : ¬ y0 = 0 := of_decide_eq_false c1
    refine g_sk 2 (pc1 := 77) (st1 := [AL 0, AR r0]) rfl ?_
    refine g_putI (x := 0) rfl (ci := 21) (k := 22) (kd := 3) rfl (by decide) rfl rfl sh2 ?_
    exact G_fg (lw2_k _ (lw2_f _ (lw2_k _ lw2_nil))) (k2 c1)

set_option maxRecDepth 8192 in
theorem t177_80 {d : Nat} {τ : T2} {Q : RS → T2 → Prop} {x2 : Int} {r0 : Nat} (hd : 1 ≤ d) (sh1 : tS τ r0 = (1, 21, 0)) (k1 : G (d - 1) 173 0 [vR r0, vI (tI τ r0 17)] [] τ (KC d 177 85 88 [vR r0, none, vI x2] [] Q)) : G d 177 80 [vR r0, none, vI x2] [] τ Q := by
  refine g_sk 2 (pc1 := 82) (st1 := [AR r0, AR r0]) rfl ?_
  refine g_gI rfl (ci := 21) (k := 17) rfl sh1 ?_
  refine g_cv rfl rfl (by decide) rfl rfl (Nat.le_of_ble_eq_true rfl) (as2 := [AI (tI τ r0 17)]) rfl sh1 rfl (by omega) (L0 := [vR r0, vI (tI τ r0 17)]) rfl ?_
  exact k1

set_option maxRecDepth 8192 in
theorem t177_88 {d : Nat} {τ : T2} {Q : RS → T2 → Prop} {x2 y0 : Int} {r0 : Nat} (hd : 1 ≤ d) (k1 : G (d - 1) 174 0 [vI y0] [] τ (KC d 177 88 91 [vR r0, none, vI x2] [] Q)) : G d 177 88 [vR r0, none, vI x2] [AI y0] τ Q := by
  refine g_cs rfl rfl (by decide) rfl rfl (Nat.le_of_ble_eq_true rfl) rfl (by omega) (L0 := [vI y0]) rfl ?_
  exact k1

set_option maxRecDepth 8192 in
theorem t177_91 {d : Nat} {τ : T2} {Q : RS → T2 → Prop} {x2 y0 : Int} {r0 : Nat} (hd : 1 ≤ d) (sh3 : tS τ r0 = (1, 21, 0)) (k1 : y0 = 0 → 12 < x2 → Q (.inl none) τ) (k2 : y0 = 0 → x2 ≤ 12 → Q (.inl none) (uI τ r0 18 2)) (k3 : ¬ y0 = 0 → 12 ≤ x2 → G d 177 80 [vR r0, none, vI (wr (x2 + 1))] [] (uI τ r0 17 (wr ((tI τ r0 17) + 1))) Q) (k4 : ¬ y0 = 0 → x2 < 12 → G (d - 1) 173 0 [vR r0, vI (tI τ r0 17)] [] τ (KC d 177 112 115 [vR r0, none, vI x2] [AL (lshl (tI τ r0 22) 5), AR r0] Q)) : G d 177 91 [vR r0, none, vI x2] [AI y0] τ Q := by
  refine g_br1 rfl (t := 141) rfl (fun c1 => ?_) (fun c1 => ?_)
  · have c1 : y0 = 0 := of_decide_eq_true c1
    refine g_sk 2 (pc1 := 144) (st1 := [AI 12, AI x2]) rfl ?_
    refine g_br2 rfl (t := 306) rfl (fun c2 => ?_) (fun c2 => ?_)
    · have c2 : 12 < x2 := of_decide_eq_true c2
      refine g_vret rfl rfl ?_
      exact (k1 c1 c2)
    · have c2 : x2 ≤ 12 := Int.not_lt.mp (of_decide_eq_false c2)
      refine g_sk 2 (pc1 := 149) (st1 := [AI 2, AR r0]) rfl ?_
      refine g_putI (x := 2) rfl (ci := 21) (k := 18) (kd := 0) rfl (by decide) rfl rfl sh3 ?_
      refine g_sk 1 (pc1 := 306) (st1 := []) rfl ?_
      refine g_vret rfl rfl ?_
      exact (k2 c1 c2)
  · have c1 : ¬ y0 = 0 := of_decide_eq_false c1
    refine g_sk 2 (pc1 := 97) (st1 := [AI 12, AI x2]) rfl ?_
    refine g_br2 rfl (t := 125) rfl (fun c4 => ?_) (fun c4 => ?_)
    · have c4 : 12 ≤ x2 := of_decide_eq_true c4
      refine g_sx 3 (pc1 := 130) (L1 := [vR r0, none, vI (wr (x2 + 1))]) (st1 := [AR r0, AR r0]) rfl ?_
      refine g_gI rfl (ci := 21) (k := 17) rfl sh3 ?_
      refine g_sk 2 (pc1 := 135) (st1 := [AI (wr ((tI τ r0 17) + 1)), AR r0]) rfl ?_
      refine g_putI (x := (wr ((tI τ r0 17) + 1))) rfl (ci := 21) (k := 17) (kd := 0) rfl (by decide) rfl rfl sh3 ?_
      refine g_sk 1 (pc1 := 80) (st1 := []) rfl ?_
      exact (k3 c1 c4)
    · have c4 : x2 < 12 := Int.not_le.mp (of_decide_eq_false c4)
      refine g_sk 2 (pc1 := 102) (st1 := [AR r0, AR r0]) rfl ?_
      refine g_gL rfl (ci := 21) (k := 22) rfl sh3 ?_
      refine g_sk 4 (pc1 := 109) (st1 := [AR r0, AR r0, AL (lshl (tI τ r0 22) 5), AR r0]) rfl ?_
      refine g_gI rfl (ci := 21) (k := 17) rfl sh3 ?_
      refine g_cv rfl rfl (by decide) rfl rfl (Nat.le_of_ble_eq_true rfl) (as2 := [AI (tI τ r0 17)]) rfl sh3 rfl (by omega) (L0 := [vR r0, vI (tI τ r0 17)]) rfl ?_
      exact (k4 c1 c4)

set_option maxRecDepth 8192 in
theorem t177_115 {d : Nat} {τ : T2} {Q : RS → T2 → Prop} {x2 y0 y1 : Int} {r0 s2 : Nat} (sh1 : tS τ s2 = (1, 21, 0)) (sh2 : tS τ r0 = (1, 21, 0)) (k1 : G d 177 80 [vR r0, none, vI (wr (x2 + 1))] [] (uI (uI τ s2 22 (lor y1 (wr ((wr (y0 - 97)) + 1)))) r0 17 (wr ((tI (uI τ s2 22 (lor y1 (wr ((wr (y0 - 97)) + 1)))) r0 17) + 1))) Q) : G d 177 115 [vR r0, none, vI x2] [AI y0, AL y1, AR s2] τ Q := by
  refine g_sk 6 (pc1 := 122) (st1 := [AL (lor y1 (wr ((wr (y0 - 97)) + 1))), AR s2]) rfl ?_
  refine g_putI (x := (lor y1 (wr ((wr (y0 - 97)) + 1)))) rfl (ci := 21) (k := 22) (kd := 3) rfl (by decide) rfl rfl sh1 ?_
  refine g_sx 3 (pc1 := 130) (L1 := [vR r0, none, vI (wr (x2 + 1))]) (st1 := [AR r0, AR r0]) rfl ?_
  refine g_gI rfl (ci := 21) (k := 17) rfl sh2 ?_
  refine g_sk 2 (pc1 := 135) (st1 := [AI (wr ((tI (uI τ s2 22 (lor y1 (wr ((wr (y0 - 97)) + 1)))) r0 17) + 1)), AR r0]) rfl ?_
  refine g_putI (x := (wr ((tI (uI τ s2 22 (lor y1 (wr ((wr (y0 - 97)) + 1)))) r0 17) + 1))) rfl (ci := 21) (k := 17) (kd := 0) rfl (by decide) rfl rfl sh2 ?_
  refine g_sk 1 (pc1 := 80) (st1 := []) rfl ?_
  exact k1

set_option maxRecDepth 8192 in
theorem t177_159 {d : Nat} {τ : T2} {Q : RS → T2 → Prop} {x1 x2 y0 : Int} {r0 : Nat} (sh3 : tS τ r0 = (1, 21, 0)) (k1 : y0 = 0 → x1 = 40 → Q (.inl none) (uI (uI (uI τ r0 18 4) r0 20 x1) r0 17 (wr ((tI (uI (uI τ r0 18 4) r0 20 x1) r0 17) + 1)))) (k2 : y0 = 0 → ¬ x1 = 40 → x1 = 41 → Q (.inl none) (uI (uI (uI τ r0 18 4) r0 20 x1) r0 17 (wr ((tI (uI (uI τ r0 18 4) r0 20 x1) r0 17) + 1)))) (k3 : y0 = 0 → ¬ x1 = 40 → ¬ x1 = 41 → x1 = 91 → Q (.inl none) (uI (uI (uI τ r0 18 4) r0 20 x1) r0 17 (wr ((tI (uI (uI τ r0 18 4) r0 20 x1) r0 17) + 1)))) (k4 : y0 = 0 → ¬ x1 = 40 → ¬ x1 = 41 → ¬ x1 = 91 → x1 = 93 → Q (.inl none) (uI (uI (uI τ r0 18 4) r0 20 x1) r0 17 (wr ((tI (uI (uI τ r0 18 4) r0 20 x1) r0 17) + 1)))) (k5 : y0 = 0 → ¬ x1 = 40 → ¬ x1 = 41 → ¬ x1 = 91 → ¬ x1 = 93 → x1 = 47 → Q (.inl none) (uI (uI (uI τ r0 18 4) r0 20 x1) r0 17 (wr ((tI (uI (uI τ r0 18 4) r0 20 x1) r0 17) + 1)))) (k6 : y0 = 0 → ¬ x1 = 40 → ¬ x1 = 41 → ¬ x1 = 91 → ¬ x1 = 93 → ¬ x1 = 47 → x1 = 63 → Q (.inl none) (uI (uI (uI τ r0 18 4) r0 20 x1) r0 17 (wr ((tI (uI (uI τ r0 18 4) r0 20 x1) r0 17) + 1)))) (k7 : y0 = 0 → ¬ x1 = 40 → ¬ x1 = 41 → ¬ x1 = 91 → ¬ x1 = 93 → ¬ x1 = 47 → ¬ x1 = 63 → x1 = 59 → Q (.inl none) (uI (uI (uI τ r0 18 4) r0 20 x1) r0 17 (wr ((tI (uI (uI τ r0 18 4) r0 20 x1) r0 17) + 1)))) (k8 : y0 = 0 → ¬ x1 = 40 → ¬ x1 = 41 → ¬ x1 = 91 → ¬ x1 = 93 → ¬ x1 = 47 → ¬ x1 = 63 → ¬ x1 = 59 → ¬ x1 = 44 → Q (.inl none) τ) (k9 : y0 = 0 → ¬ x1 = 40 → ¬ x1 = 41 → ¬ x1 = 91 → ¬ x1 = 93 → ¬ x1 = 47 → ¬ x1 = 63 → ¬ x1 = 59 → x1 = 44 → Q (.inl none) (uI (uI (uI τ r0 18 4) r0 20 x1) r0 17 (wr ((tI (uI (uI τ r0 18 4) r0 20 x1) r0 17) + 1)))) (k10 : ¬ y0 = 0 → G d 177 167 [vR r0, none, vI x2] [] (uI τ r0 21 0) Q) : G d 177 159 [vR r0, vI x1, vI x2] [AI y0] τ Q := by
  refine g_br1 rfl (t := 238) rfl (fun c1 => ?_) (fun c1 => ?_)
  · have c1 : y0 = 0 := of_decide_eq_true c1
    refine g_sk 2 (pc1 := 241) (st1 := [AI 40, AI x1]) rfl ?_
    refine g_br2 rfl (t := 286) rfl (fun c2 => ?_) (fun c2 => ?_)
    · have c2 : x1 = 40 := of_decide_eq_true c2
      refine g_sk 2 (pc1 := 288) (st1 := [AI 4, AR r0]) rfl ?_
      refine g_putI (x := 4) rfl (ci := 21) (k := 18) (kd := 0) rfl (by decide) rfl rfl sh3 ?_
      refine g_sk 2 (pc1 := 293) (st1 := [AI x1, AR r0]) rfl ?_
      refine g_putI (x := x1) rfl (ci := 21) (k := 20) (kd := 0) rfl (by decide) rfl rfl sh3 ?_
      refine g_sk 2 (pc1 := 298) (st1 := [AR r0, AR r0]) rfl ?_
      refine g_gI rfl (ci := 21) (k := 17) rfl sh3 ?_
      refine g_sk 2 (pc1 := 303) (st1 := [AI (wr ((tI (uI (uI τ r0 18 4) r0 20 x1) r0 17) + 1)), AR r0]) rfl ?_
      refine g_putI (x := (wr ((tI (uI (uI τ r0 18 4) r0 20 x1) r0 17) + 1))) rfl (ci := 21) (k := 17) (kd := 0) rfl (by decide) rfl rfl sh3 ?_
      refine g_vret rfl rfl ?_
      exact (k1 c1 c2)
    · have c2 : ¬ x1 = 40 := of_decide_eq_false c2
      refine g_sk 2 (pc1 := 247) (st1 := [AI 41, AI x1]) rfl ?_
      refine g_br2 rfl (t := 286) rfl (fun c4 => ?_) (fun c4 => ?_)
      · have c4 : x1 = 41 := of_decide_eq_true c4
        refine g_sk 2 (pc1 := 288) (st1 := [AI 4, AR r0]) rfl ?_
        refine g_putI (x := 4) rfl (ci := 21) (k := 18) (kd := 0) rfl (by decide) rfl rfl sh3 ?_
        refine g_sk 2 (pc1 := 293) (st1 := [AI x1, AR r0]) rfl ?_
        refine g_putI (x := x1) rfl (ci := 21) (k := 20) (kd := 0) rfl (by decide) rfl rfl sh3 ?_
        refine g_sk 2 (pc1 := 298) (st1 := [AR r0, AR r0]) rfl ?_
        refine g_gI rfl (ci := 21) (k := 17) rfl sh3 ?_
        refine g_sk 2 (pc1 := 303) (st1 := [AI (wr ((tI (uI (uI τ r0 18 4) r0 20 x1) r0 17) + 1)), AR r0]) rfl ?_
        refine g_putI (x := (wr ((tI (uI (uI τ r0 18 4) r0 20 x1) r0 17) + 1))) rfl (ci := 21) (k := 17) (kd := 0) rfl (by decide) rfl rfl sh3 ?_
        refine g_vret rfl rfl ?_
        exact (k2 c1 c2 c4)
      · have c4 : ¬ x1 = 41 := of_decide_eq_false c4
        refine g_sk 2 (pc1 := 253) (st1 := [AI 91, AI x1]) rfl ?_
        refine g_br2 rfl (t := 286) rfl (fun c5 => ?_) (fun c5 => ?_)
        · have c5 : x1 = 91 := of_decide_eq_true c5
          refine g_sk 2 (pc1 := 288) (st1 := [AI 4, AR r0]) rfl ?_
          refine g_putI (x := 4) rfl (ci := 21) (k := 18) (kd := 0) rfl (by decide) rfl rfl sh3 ?_
          refine g_sk 2 (pc1 := 293) (st1 := [AI x1, AR r0]) rfl ?_
          refine g_putI (x := x1) rfl (ci := 21) (k := 20) (kd := 0) rfl (by decide) rfl rfl sh3 ?_
          refine g_sk 2 (pc1 := 298) (st1 := [AR r0, AR r0]) rfl ?_
          refine g_gI rfl (ci := 21) (k := 17) rfl sh3 ?_
          refine g_sk 2 (pc1 := 303) (st1 := [AI (wr ((tI (uI (uI τ r0 18 4) r0 20 x1) r0 17) + 1)), AR r0]) rfl ?_
          refine g_putI (x := (wr ((tI (uI (uI τ r0 18 4) r0 20 x1) r0 17) + 1))) rfl (ci := 21) (k := 17) (kd := 0) rfl (by decide) rfl rfl sh3 ?_
          refine g_vret rfl rfl ?_
          exact (k3 c1 c2 c4 c5)
        · have c5 : ¬ x1 = 91 := of_decide_eq_false c5
          refine g_sk 2 (pc1 := 259) (st1 := [AI 93, AI x1]) rfl ?_
          refine g_br2 rfl (t := 286) rfl (fun c6 => ?_) (fun c6 => ?_)
          · have c6 : x1 = 93 := of_decide_eq_true c6
            refine g_sk 2 (pc1 := 288) (st1 := [AI 4, AR r0]) rfl ?_
            refine g_putI (x := 4) rfl (ci := 21) (k := 18) (kd := 0) rfl (by decide) rfl rfl sh3 ?_
            refine g_sk 2 (pc1 := 293) (st1 := [AI x1, AR r0]) rfl ?_
            refine g_putI (x := x1) rfl (ci := 21) (k := 20) (kd := 0) rfl (by decide) rfl rfl sh3 ?_
            refine g_sk 2 (pc1 := 298) (st1 := [AR r0, AR r0]) rfl ?_
            refine g_gI rfl (ci := 21) (k := 17) rfl sh3 ?_
            refine g_sk 2 (pc1 := 303) (st1 := [AI (wr ((tI (uI (uI τ r0 18 4) r0 20 x1) r0 17) + 1)), AR r0]) rfl ?_
            refine g_putI (x := (wr ((tI (uI (uI τ r0 18 4) r0 20 x1) r0 17) + 1))) rfl (ci := 21) (k := 17) (kd := 0) rfl (by decide) rfl rfl sh3 ?_
            refine g_vret rfl rfl ?_
            exact (k4 c1 c2 c4 c5 c6)
          · have c6 : ¬ x1 = 93 := of_decide_eq_false c6
            refine g_sk 2 (pc1 := 265) (st1 := [AI 47, AI x1]) rfl ?_
            refine g_br2 rfl (t := 286) rfl (fun c7 => ?_) (fun c7 => ?_)
            · have c7 : x1 = 47 := of_decide_eq_true c7
              refine g_sk 2 (pc1 := 288) (st1 := [AI 4, AR r0]) rfl ?_
              refine g_putI (x := 4) rfl (ci := 21) (k := 18) (kd := 0) rfl (by decide) rfl rfl sh3 ?_
              refine g_sk 2 (pc1 := 293) (st1 := [AI x1, AR r0]) rfl ?_
              refine g_putI (x := x1) rfl (ci := 21) (k := 20) (kd := 0) rfl (by decide) rfl rfl sh3 ?_
              refine g_sk 2 (pc1 := 298) (st1 := [AR r0, AR r0]) rfl ?_
              refine g_gI rfl (ci := 21) (k := 17) rfl sh3 ?_
              refine g_sk 2 (pc1 := 303) (st1 := [AI (wr ((tI (uI (uI τ r0 18 4) r0 20 x1) r0 17) + 1)), AR r0]) rfl ?_
              refine g_putI (x := (wr ((tI (uI (uI τ r0 18 4) r0 20 x1) r0 17) + 1))) rfl (ci := 21) (k := 17) (kd := 0) rfl (by decide) rfl rfl sh3 ?_
              refine g_vret rfl rfl ?_
              exact (k5 c1 c2 c4 c5 c6 c7)
            · have c7 : ¬ x1 = 47 := of_decide_eq_false c7
              refine g_sk 2 (pc1 := 271) (st1 := [AI 63, AI x1]) rfl ?_
              refine g_br2 rfl (t := 286) rfl (fun c8 => ?_) (fun c8 => ?_)
              · have c8 : x1 = 63 := of_decide_eq_true c8
                refine g_sk 2 (pc1 := 288) (st1 := [AI 4, AR r0]) rfl ?_
                refine g_putI (x := 4) rfl (ci := 21) (k := 18) (kd := 0) rfl (by decide) rfl rfl sh3 ?_
                refine g_sk 2 (pc1 := 293) (st1 := [AI x1, AR r0]) rfl ?_
                refine g_putI (x := x1) rfl (ci := 21) (k := 20) (kd := 0) rfl (by decide) rfl rfl sh3 ?_
                refine g_sk 2 (pc1 := 298) (st1 := [AR r0, AR r0]) rfl ?_
                refine g_gI rfl (ci := 21) (k := 17) rfl sh3 ?_
                refine g_sk 2 (pc1 := 303) (st1 := [AI (wr ((tI (uI (uI τ r0 18 4) r0 20 x1) r0 17) + 1)), AR r0]) rfl ?_
                refine g_putI (x := (wr ((tI (uI (uI τ r0 18 4) r0 20 x1) r0 17) + 1))) rfl (ci := 21) (k := 17) (kd := 0) rfl (by decide) rfl rfl sh3 ?_
                refine g_vret rfl rfl ?_
                exact (k6 c1 c2 c4 c5 c6 c7 c8)
              · have c8 : ¬ x1 = 63 := of_decide_eq_false c8
                refine g_sk 2 (pc1 := 277) (st1 := [AI 59, AI x1]) rfl ?_
                refine g_br2 rfl (t := 286) rfl (fun c9 => ?_) (fun c9 => ?_)
                · have c9 : x1 = 59 := of_decide_eq_true c9
                  refine g_sk 2 (pc1 := 288) (st1 := [AI 4, AR r0]) rfl ?_
                  refine g_putI (x := 4) rfl (ci := 21) (k := 18) (kd := 0) rfl (by decide) rfl rfl sh3 ?_
                  refine g_sk 2 (pc1 := 293) (st1 := [AI x1, AR r0]) rfl ?_
                  refine g_putI (x := x1) rfl (ci := 21) (k := 20) (kd := 0) rfl (by decide) rfl rfl sh3 ?_
                  refine g_sk 2 (pc1 := 298) (st1 := [AR r0, AR r0]) rfl ?_
                  refine g_gI rfl (ci := 21) (k := 17) rfl sh3 ?_
                  refine g_sk 2 (pc1 := 303) (st1 := [AI (wr ((tI (uI (uI τ r0 18 4) r0 20 x1) r0 17) + 1)), AR r0]) rfl ?_
                  refine g_putI (x := (wr ((tI (uI (uI τ r0 18 4) r0 20 x1) r0 17) + 1))) rfl (ci := 21) (k := 17) (kd := 0) rfl (by decide) rfl rfl sh3 ?_
                  refine g_vret rfl rfl ?_
                  exact (k7 c1 c2 c4 c5 c6 c7 c8 c9)
                · have c9 : ¬ x1 = 59 := of_decide_eq_false c9
                  refine g_sk 2 (pc1 := 283) (st1 := [AI 44, AI x1]) rfl ?_
                  refine g_br2 rfl (t := 306) rfl (fun c10 => ?_) (fun c10 => ?_)
                  · have c10 : ¬ x1 = 44 := of_decide_eq_true c10
                    refine g_vret rfl rfl ?_
                    exact (k8 c1 c2 c4 c5 c6 c7 c8 c9 c10)
                  · have c10 : x1 = 44 := Decidable.of_not_not (of_decide_eq_false c10)
                    refine g_sk 2 (pc1 := 288) (st1 := [AI 4, AR r0]) rfl ?_
                    refine g_putI (x := 4) rfl (ci := 21) (k := 18) (kd := 0) rfl (by decide) rfl rfl sh3 ?_
                    refine g_sk 2 (pc1 := 293) (st1 := [AI x1, AR r0]) rfl ?_
                    refine g_putI (x := x1) rfl (ci := 21) (k := 20) (kd := 0) rfl (by decide) rfl rfl sh3 ?_
                    refine g_sk 2 (pc1 := 298) (st1 := [AR r0, AR r0]) rfl ?_
                    refine g_gI rfl (ci := 21) (k := 17) rfl sh3 ?_
                    refine g_sk 2 (pc1 := 303) (st1 := [AI (wr ((tI (uI (uI τ r0 18 4) r0 20 x1) r0 17) + 1)), AR r0]) rfl ?_
                    refine g_putI (x := (wr ((tI (uI (uI τ r0 18 4) r0 20 x1) r0 17) + 1))) rfl (ci := 21) (k := 17) (kd := 0) rfl (by decide) rfl rfl sh3 ?_
                    refine g_vret rfl rfl ?_
                    exact (k9 c1 c2 c4 c5 c6 c7 c8 c9 c10)
  · have c1 : ¬ y0 = 0 := of_decide_eq_false c1
    refine g_sk 2 (pc1 := 164) (st1 := [AI 0, AR r0]) rfl ?_
    refine g_putI (x := 0) rfl (ci := 21) (k := 21) (kd := 0) rfl (by decide) rfl rfl sh3 ?_
    exact G_fg (lw2_k _ (lw2_f _ (lw2_k _ lw2_nil))) (k10 c1)

set_option maxRecDepth 8192 in
theorem t177_167 {d : Nat} {τ : T2} {Q : RS → T2 → Prop} {x2 : Int} {r0 : Nat} (hd : 1 ≤ d) (sh1 : tS τ r0 = (1, 21, 0)) (k1 : G (d - 1) 173 0 [vR r0, vI (tI τ r0 17)] [] τ (KC d 177 172 175 [vR r0, none, vI x2] [] Q)) : G d 177 167 [vR r0, none, vI x2] [] τ Q := by
  refine g_sk 2 (pc1 := 169) (st1 := [AR r0, AR r0]) rfl ?_
  refine g_gI rfl (ci := 21) (k := 17) rfl sh1 ?_
  refine g_cv rfl rfl (by decide) rfl rfl (Nat.le_of_ble_eq_true rfl) (as2 := [AI (tI τ r0 17)]) rfl sh1 rfl (by omega) (L0 := [vR r0, vI (tI τ r0 17)]) rfl ?_
  exact k1

set_option maxRecDepth 8192 in
theorem t177_175 {d : Nat} {τ : T2} {Q : RS → T2 → Prop} {x2 y0 : Int} {r0 : Nat} (hd : 1 ≤ d) (k1 : G (d - 1) 175 0 [vI y0] [] τ (KC d 177 175 178 [vR r0, none, vI x2] [] Q)) : G d 177 175 [vR r0, none, vI x2] [AI y0] τ Q := by
  refine g_cs rfl rfl (by decide) rfl rfl (Nat.le_of_ble_eq_true rfl) rfl (by omega) (L0 := [vI y0]) rfl ?_
  exact k1

set_option maxRecDepth 8192 in
theorem t177_178 {d : Nat} {τ : T2} {Q : RS → T2 → Prop} {x2 y0 : Int} {r0 : Nat} (hd : 1 ≤ d) (sh3 : tS τ r0 = (1, 21, 0)) (k1 : y0 = 0 → 4 ≤ x2 → Q (.inl none) τ) (k2 : y0 = 0 → x2 < 4 → Q (.inl none) (uI τ r0 18 3)) (k3 : ¬ y0 = 0 → 3 ≤ x2 → G d 177 167 [vR r0, none, vI (wr (x2 + 1))] [] (uI τ r0 17 (wr ((tI τ r0 17) + 1))) Q) (k4 : ¬ y0 = 0 → x2 < 3 → G (d - 1) 173 0 [vR r0, vI (tI τ r0 17)] [] τ (KC d 177 199 202 [vR r0, none, vI x2] [AI (wr (10 * (tI τ r0 21))), AR r0] Q)) : G d 177 178 [vR r0, none, vI x2] [AI y0] τ Q := by
  refine g_br1 rfl (t := 225) rfl (fun c1 => ?_) (fun c1 => ?_)
  · have c1 : y0 = 0 := of_decide_eq_true c1
    refine g_sk 2 (pc1 := 227) (st1 := [AI 4, AI x2]) rfl ?_
    refine g_br2 rfl (t := 306) rfl (fun c2 => ?_) (fun c2 => ?_)
    · have c2 : 4 ≤ x2 := of_decide_eq_true c2
      refine g_vret rfl rfl ?_
      exact (k1 c1 c2)
    · have c2 : x2 < 4 := Int.not_le.mp (of_decide_eq_false c2)
      refine g_sk 2 (pc1 := 232) (st1 := [AI 3, AR r0]) rfl ?_
      refine g_putI (x := 3) rfl (ci := 21) (k := 18) (kd := 0) rfl (by decide) rfl rfl sh3 ?_
      refine g_sk 1 (pc1 := 306) (st1 := []) rfl ?_
      refine g_vret rfl rfl ?_
      exact (k2 c1 c2)
  · have c1 : ¬ y0 = 0 := of_decide_eq_false c1
    refine g_sk 2 (pc1 := 183) (st1 := [AI 3, AI x2]) rfl ?_
    refine g_br2 rfl (t := 209) rfl (fun c4 => ?_) (fun c4 => ?_)
    · have c4 : 3 ≤ x2 := of_decide_eq_true c4
      refine g_sx 3 (pc1 := 214) (L1 := [vR r0, none, vI (wr (x2 + 1))]) (st1 := [AR r0, AR r0]) rfl ?_
      refine g_gI rfl (ci := 21) (k := 17) rfl sh3 ?_
      refine g_sk 2 (pc1 := 219) (st1 := [AI (wr ((tI τ r0 17) + 1)), AR r0]) rfl ?_
      refine g_putI (x := (wr ((tI τ r0 17) + 1))) rfl (ci := 21) (k := 17) (kd := 0) rfl (by decide) rfl rfl sh3 ?_
      refine g_sk 1 (pc1 := 167) (st1 := []) rfl ?_
      exact (k3 c1 c4)
    · have c4 : x2 < 3 := Int.not_le.mp (of_decide_eq_false c4)
      refine g_sk 3 (pc1 := 190) (st1 := [AR r0, AI 10, AR r0]) rfl ?_
      refine g_gI rfl (ci := 21) (k := 21) rfl sh3 ?_
      refine g_sk 3 (pc1 := 196) (st1 := [AR r0, AR r0, AI (wr (10 * (tI τ r0 21))), AR r0]) rfl ?_
      refine g_gI rfl (ci := 21) (k := 17) rfl sh3 ?_
      refine g_cv rfl rfl (by decide) rfl rfl (Nat.le_of_ble_eq_true rfl) (as2 := [AI (tI τ r0 17)]) rfl sh3 rfl (by omega) (L0 := [vR r0, vI (tI τ r0 17)]) rfl ?_
      exact (k4 c1 c4)

set_option maxRecDepth 8192 in
theorem t177_202 {d : Nat} {τ : T2} {Q : RS → T2 → Prop} {x2 y0 y1 : Int} {r0 s2 : Nat} (sh1 : tS τ s2 = (1, 21, 0)) (sh2 : tS τ r0 = (1, 21, 0)) (k1 : G d 177 167 [vR r0, none, vI (wr (x2 + 1))] [] (uI (uI τ s2 21 (wr ((wr (y1 + y0)) - 48))) r0 17 (wr ((tI (uI τ s2 21 (wr ((wr (y1 + y0)) - 48))) r0 17) + 1))) Q) : G d 177 202 [vR r0, none, vI x2] [AI y0, AI y1, AR s2] τ Q := by
  refine g_sk 3 (pc1 := 206) (st1 := [AI (wr ((wr (y1 + y0)) - 48)), AR s2]) rfl ?_
  refine g_putI (x := (wr ((wr (y1 + y0)) - 48))) rfl (ci := 21) (k := 21) (kd := 0) rfl (by decide) rfl rfl sh1 ?_
  refine g_sx 3 (pc1 := 214) (L1 := [vR r0, none, vI (wr (x2 + 1))]) (st1 := [AR r0, AR r0]) rfl ?_
  refine g_gI rfl (ci := 21) (k := 17) rfl sh2 ?_
  refine g_sk 2 (pc1 := 219) (st1 := [AI (wr ((tI (uI τ s2 21 (wr ((wr (y1 + y0)) - 48))) r0 17) + 1)), AR r0]) rfl ?_
  refine g_putI (x := (wr ((tI (uI τ s2 21 (wr ((wr (y1 + y0)) - 48))) r0 17) + 1))) rfl (ci := 21) (k := 17) (kd := 0) rfl (by decide) rfl rfl sh2 ?_
  refine g_sk 1 (pc1 := 167) (st1 := []) rfl ?_
  exact k1

set_option maxRecDepth 8192 in
theorem t178_0 {d : Nat} {τ : T2} {Q : RS → T2 → Prop} {x1 : Int} {r0 : Nat} (hd : 1 ≤ d) (sh1 : tS τ r0 = (1, 21, 0)) (k1 : G (d - 1) 177 0 [vR r0, none, none] [] (uI (uI (uI τ r0 16 x1) r0 15 0) r0 17 0) (KC d 178 16 19 [none, none] [] Q)) : G d 178 0 [vR r0, vI x1] [] τ Q := by
  refine g_sk 2 (pc1 := 2) (st1 := [AI x1, AR r0]) rfl ?_
  refine g_putI (x := x1) rfl (ci := 21) (k := 16) (kd := 0) rfl (by decide) rfl rfl sh1 ?_
  refine g_sk 2 (pc1 := 7) (st1 := [AI 0, AR r0]) rfl ?_
  refine g_putI (x := 0) rfl (ci := 21) (k := 15) (kd := 0) rfl (by decide) rfl rfl sh1 ?_
  refine g_sk 2 (pc1 := 12) (st1 := [AI 0, AR r0]) rfl ?_
  refine g_putI (x := 0) rfl (ci := 21) (k := 17) (kd := 0) rfl (by decide) rfl rfl sh1 ?_
  refine g_sk 1 (pc1 := 16) (st1 := [AR r0]) rfl ?_
  refine G_fg (lw2_f _ (lw2_f _ lw2_nil)) ?_
  refine g_cv rfl rfl (by decide) rfl rfl (Nat.le_of_ble_eq_true rfl) (as2 := []) rfl sh1 rfl (by omega) (L0 := [vR r0, none, none]) rfl ?_
  exact k1

set_option maxRecDepth 8192 in
theorem t178_19 {d : Nat} {τ : T2} {Q : RS → T2 → Prop}  (k1 : Q (.inl none) τ) : G d 178 19 [none, none] [] τ Q := by
  refine g_vret rfl rfl ?_
  exact k1

set_option maxRecDepth 8192 in
theorem t179_0 {d : Nat} {τ : T2} {Q : RS → T2 → Prop} {r0 : Nat} {r1 : Option Nat} (hd : 1 ≤ d) (sh1 : tS τ r0 = (1, 21, 0)) (k1 : ¬ (tI τ r0 18) = 2 → Q (.inl (some (AI 0))) τ) (k2 : (tI τ r0 18) = 2 → G (d - 1) 176 0 [vQ r1, none, none, none] [] τ (KC d 179 13 16 [none, none] [AL (tI τ r0 22)] Q)) : G d 179 0 [vR r0, vQ r1] [] τ Q := by
  refine g_sk 1 (pc1 := 1) (st1 := [AR r0]) rfl ?_
  refine g_gI rfl (ci := 21) (k := 18) rfl sh1 ?_
  refine g_sk 1 (pc1 := 5) (st1 := [AI 2, AI (tI τ r0 18)]) rfl ?_
  refine g_br2 rfl (t := 24) rfl (fun c2 => ?_) (fun c2 => ?_)
  · have c2 : ¬ (tI τ r0 18) = 2 := of_decide_eq_true c2
    refine g_sk 1 (pc1 := 25) (st1 := [AI 0]) rfl ?_
    refine g_zret rfl rfl (by decide) ?_
    exact (k1 c2)
  · have c2 : (tI τ r0 18) = 2 := Decidable.of_not_not (of_decide_eq_false c2)
    refine g_sk 1 (pc1 := 9) (st1 := [AR r0]) rfl ?_
    refine g_gL rfl (ci := 21) (k := 22) rfl sh1 ?_
    refine g_sk 1 (pc1 := 13) (st1 := [AP r1, AL (tI τ r0 22)]) rfl ?_
    refine G_fg (lw2_f _ (lw2_f _ lw2_nil)) ?_
    refine g_cs rfl rfl (by decide) rfl rfl (Nat.le_of_ble_eq_true rfl) rfl (by omega) (L0 := [vQ r1, none, none, none]) rfl ?_
    exact (k2 c2)

set_option maxRecDepth 8192 in
theorem t179_16 {d : Nat} {τ : T2} {Q : RS → T2 → Prop} {y0 y1 : Int} (k1 : ¬ (lcm y1 y0) = 0 → Q (.inl (some (AI 0))) τ) (k2 : (lcm y1 y0) = 0 → Q (.inl (some (AI 1))) τ) : G d 179 16 [none, none] [AL y0, AL y1] τ Q := by
  refine g_sk 1 (pc1 := 17) (st1 := [AI (lcm y1 y0)]) rfl ?_
  refine g_br1 rfl (t := 24) rfl (fun c1 => ?_) (fun c1 => ?_)
  · have c1 : ¬ (lcm y1 y0) = 0 := of_decide_eq_true c1
    refine g_sk 1 (pc1 := 25) (st1 := [AI 0]) rfl ?_
    refine g_zret rfl rfl (by decide) ?_
    exact (k1 c1)
  · have c1 : (lcm y1 y0) = 0 := Decidable.of_not_not (of_decide_eq_false c1)
    refine g_sk 2 (pc1 := 25) (st1 := [AI 1]) rfl ?_
    refine g_zret rfl rfl (by decide) ?_
    exact (k2 c1)

set_option maxRecDepth 8192 in
theorem t180_0 {d : Nat} {τ : T2} {Q : RS → T2 → Prop} {x1 : Int} {r0 : Nat} (sh1 : tS τ r0 = (1, 21, 0)) (k1 : ¬ (tI τ r0 18) = 4 → Q (.inl (some (AI 0))) τ) (k2 : (tI τ r0 18) = 4 → ¬ (tI τ r0 20) = x1 → Q (.inl (some (AI 0))) τ) (k3 : (tI τ r0 18) = 4 → (tI τ r0 20) = x1 → Q (.inl (some (AI 1))) τ) : G d 180 0 [vR r0, vI x1] [] τ Q := by
  refine g_sk 1 (pc1 := 1) (st1 := [AR r0]) rfl ?_
  refine g_gI rfl (ci := 21) (k := 18) rfl sh1 ?_
  refine g_sk 1 (pc1 := 5) (st1 := [AI 4, AI (tI τ r0 18)]) rfl ?_
  refine g_br2 rfl (t := 20) rfl (fun c2 => ?_) (fun c2 => ?_)
  · have c2 : ¬ (tI τ r0 18) = 4 := of_decide_eq_true c2
    refine g_sk 1 (pc1 := 21) (st1 := [AI 0]) rfl ?_
    refine g_zret rfl rfl (by decide) ?_
    exact (k1 c2)
  · have c2 : (tI τ r0 18) = 4 := Decidable.of_not_not (of_decide_eq_false c2)
    refine g_sk 1 (pc1 := 9) (st1 := [AR r0]) rfl ?_
    refine g_gI rfl (ci := 21) (k := 20) rfl sh1 ?_
    refine g_sk 1 (pc1 := 13) (st1 := [AI x1, AI (tI τ r0 20)]) rfl ?_
    refine g_br2 rfl (t := 20) rfl (fun c3 => ?_) (fun c3 => ?_)
    · have c3 : ¬ (tI τ r0 20) = x1 := of_decide_eq_true c3
      refine g_sk 1 (pc1 := 21) (st1 := [AI 0]) rfl ?_
      refine g_zret rfl rfl (by decide) ?_
      exact (k2 c2 c3)
    · have c3 : (tI τ r0 20) = x1 := Decidable.of_not_not (of_decide_eq_false c3)
      refine g_sk 2 (pc1 := 21) (st1 := [AI 1]) rfl ?_
      refine g_zret rfl rfl (by decide) ?_
      exact (k3 c2 c3)

set_option maxRecDepth 8192 in
theorem t181_0 {d : Nat} {τ : T2} {Q : RS → T2 → Prop} {x1 : Int} {r0 : Nat} (hd : 1 ≤ d) (sh1 : tS τ r0 = (1, 21, 0)) (k1 : G (d - 1) 180 0 [vR r0, vI x1] [] τ (KC d 181 2 5 [vR r0, none] [] Q)) : G d 181 0 [vR r0, vI x1] [] τ Q := by
  refine g_sk 2 (pc1 := 2) (st1 := [AI x1, AR r0]) rfl ?_
  refine G_fg (lw2_k _ (lw2_f _ lw2_nil)) ?_
  refine g_cv rfl rfl (by decide) rfl rfl (Nat.le_of_ble_eq_true rfl) (as2 := [AI x1]) rfl sh1 rfl (by omega) (L0 := [vR r0, vI x1]) rfl ?_
  exact k1

set_option maxRecDepth 8192 in
theorem t181_5 {d : Nat} {τ : T2} {Q : RS → T2 → Prop} {y0 : Int} {r0 : Nat} (hd : 1 ≤ d) (sh2 : tS τ r0 = (1, 21, 0)) (k1 : ¬ y0 = 0 → G (d - 1) 177 0 [vR r0, none, none] [] τ (KC d 181 15 18 [none, none] [] Q)) (k2 : y0 = 0 → G (d - 1) 172 0 [vR r0, vI 1] [] τ (KC d 181 10 13 [none, none] [] Q)) : G d 181 5 [vR r0, none] [AI y0] τ Q := by
  refine g_br1 rfl (t := 14) rfl (fun c1 => ?_) (fun c1 => ?_)
  · have c1 : ¬ y0 = 0 := of_decide_eq_true c1
    refine g_sk 1 (pc1 := 15) (st1 := [AR r0]) rfl ?_
    refine G_fg (lw2_f _ (lw2_k _ lw2_nil)) ?_
    refine g_cv rfl rfl (by decide) rfl rfl (Nat.le_of_ble_eq_true rfl) (as2 := []) rfl sh2 rfl (by omega) (L0 := [vR r0, none, none]) rfl ?_
    exact (k1 c1)
  · have c1 : y0 = 0 := Decidable.of_not_not (of_decide_eq_false c1)
    refine g_sk 2 (pc1 := 10) (st1 := [AI 1, AR r0]) rfl ?_
    refine G_fg (lw2_f _ (lw2_k _ lw2_nil)) ?_
    refine g_cv rfl rfl (by decide) rfl rfl (Nat.le_of_ble_eq_true rfl) (as2 := [AI 1]) rfl sh2 rfl (by omega) (L0 := [vR r0, vI 1]) rfl ?_
    exact (k2 c1)

set_option maxRecDepth 8192 in
theorem t181_13 {d : Nat} {τ : T2} {Q : RS → T2 → Prop} {s0 : Nat} (hd : 16 ≤ d) (sh1 : tS τ s0 = (1, 18, 0)) (k1 : Q (.inr s0) τ) : G d 181 13 [none, none] [AR s0] τ Q := by
  refine g_thr rfl sh1 rfl (by omega) rfl ?_
  exact k1

set_option maxRecDepth 8192 in
theorem t181_18 {d : Nat} {τ : T2} {Q : RS → T2 → Prop}  (k1 : Q (.inl none) τ) : G d 181 18 [none, none] [] τ Q := by
  refine g_vret rfl rfl ?_
  exact k1

set_option maxRecDepth 8192 in
theorem t182_0 {d : Nat} {τ : T2} {Q : RS → T2 → Prop} {x1 x2 : Int} {r0 : Nat} (hd : 1 ≤ d) (sh1 : tS τ r0 = (1, 21, 0)) (k1 : (tI τ r0 18) = 3 → G (d - 1) 167 0 [vI (tI τ r0 21), vI x1, vI x2] [] τ (KC d 182 20 23 [vR r0, none, none, none] [] Q)) (k2 : ¬ (tI τ r0 18) = 3 → G (d - 1) 172 0 [vR r0, vI 1] [] τ (KC d 182 10 13 [none, none, none, none] [] Q)) : G d 182 0 [vR r0, vI x1, vI x2, none] [] τ Q := by
  refine g_sk 1 (pc1 := 1) (st1 := [AR r0]) rfl ?_
  refine g_gI rfl (ci := 21) (k := 18) rfl sh1 ?_
  refine g_sk 1 (pc1 := 5) (st1 := [AI 3, AI (tI τ r0 18)]) rfl ?_
  refine g_br2 rfl (t := 14) rfl (fun c2 => ?_) (fun c2 => ?_)
  · have c2 : (tI τ r0 18) = 3 := of_decide_eq_true c2
    refine g_sk 1 (pc1 := 15) (st1 := [AR r0]) rfl ?_
    refine g_gI rfl (ci := 21) (k := 21) rfl sh1 ?_
    refine g_sk 2 (pc1 := 20) (st1 := [AI x2, AI x1, AI (tI τ r0 21)]) rfl ?_
    refine G_fg (lw2_k _ (lw2_f _ (lw2_f _ (lw2_k _ lw2_nil)))) ?_
    refine g_cs rfl rfl (by decide) rfl rfl (Nat.le_of_ble_eq_true rfl) rfl (by omega) (L0 := [vI (tI τ r0 21), vI x1, vI x2]) rfl ?_
    exact (k1 c2)
  · have c2 : ¬ (tI τ r0 18) = 3 := of_decide_eq_false c2
    refine g_sk 2 (pc1 := 10) (st1 := [AI 1, AR r0]) rfl ?_
    refine G_fg (lw2_f _ (lw2_f _ (lw2_f _ (lw2_k _ lw2_nil)))) ?_
    refine g_cv rfl rfl (by decide) rfl rfl (Nat.le_of_ble_eq_true rfl) (as2 := [AI 1]) rfl sh1 rfl (by omega) (L0 := [vR r0, vI 1]) rfl ?_
    exact (k2 c2)

set_option maxRecDepth 8192 in
theorem t182_13 {d : Nat} {τ : T2} {Q : RS → T2 → Prop} {s0 : Nat} (hd : 16 ≤ d) (sh1 : tS τ s0 = (1, 18, 0)) (k1 : Q (.inr s0) τ) : G d 182 13 [none, none, none, none] [AR s0] τ Q := by
  refine g_thr rfl sh1 rfl (by omega) rfl ?_
  exact k1

set_option maxRecDepth 8192 in
theorem t182_23 {d : Nat} {τ : T2} {Q : RS → T2 → Prop} {y0 : Int} {r0 : Nat} (hd : 1 ≤ d) (sh2 : tS τ r0 = (1, 21, 0)) (k1 : ¬ y0 = 0 → G (d - 1) 177 0 [vR r0, none, none] [] τ (KC d 182 38 41 [none, none, none, vI (tI τ r0 21)] [] Q)) (k2 : y0 = 0 → G (d - 1) 172 0 [vR r0, vI 3] [] τ (KC d 182 28 31 [none, none, none, none] [] Q)) : G d 182 23 [vR r0, none, none, none] [AI y0] τ Q := by
  refine g_br1 rfl (t := 32) rfl (fun c1 => ?_) (fun c1 => ?_)
  · have c1 : ¬ y0 = 0 := of_decide_eq_true c1
    refine g_sk 1 (pc1 := 33) (st1 := [AR r0]) rfl ?_
    refine g_gI rfl (ci := 21) (k := 21) rfl sh2 ?_
    refine g_sx 2 (pc1 := 38) (L1 := [vR r0, none, none, vI (tI τ r0 21)]) (st1 := [AR r0]) rfl ?_
    refine G_fg (lw2_f _ (lw2_k _ (lw2_k _ (lw2_k _ lw2_nil)))) ?_
    refine g_cv rfl rfl (by decide) rfl rfl (Nat.le_of_ble_eq_true rfl) (as2 := []) rfl sh2 rfl (by omega) (L0 := [vR r0, none, none]) rfl ?_
    exact (k1 c1)
  · have c1 : y0 = 0 := Decidable.of_not_not (of_decide_eq_false c1)
    refine g_sk 2 (pc1 := 28) (st1 := [AI 3, AR r0]) rfl ?_
    refine G_fg (lw2_f _ (lw2_k _ (lw2_k _ (lw2_k _ lw2_nil)))) ?_
    refine g_cv rfl rfl (by decide) rfl rfl (Nat.le_of_ble_eq_true rfl) (as2 := [AI 3]) rfl sh2 rfl (by omega) (L0 := [vR r0, vI 3]) rfl ?_
    exact (k2 c1)

set_option maxRecDepth 8192 in
theorem t182_31 {d : Nat} {τ : T2} {Q : RS → T2 → Prop} {s0 : Nat} (hd : 16 ≤ d) (sh1 : tS τ s0 = (1, 18, 0)) (k1 : Q (.inr s0) τ) : G d 182 31 [none, none, none, none] [AR s0] τ Q := by
  refine g_thr rfl sh1 rfl (by omega) rfl ?_
  exact k1

set_option maxRecDepth 8192 in
theorem t182_41 {d : Nat} {τ : T2} {Q : RS → T2 → Prop} {x3 : Int} (k1 : Q (.inl (some (AI x3))) τ) : G d 182 41 [none, none, none, vI x3] [] τ Q := by
  refine g_sk 1 (pc1 := 42) (st1 := [AI x3]) rfl ?_
  refine g_iret rfl rfl ?_
  exact k1

set_option maxRecDepth 8192 in
theorem t183_0 {d : Nat} {τ : T2} {Q : RS → T2 → Prop} {x1 : Int} {r0 : Nat} (hd : 1 ≤ d) (sh1 : tS τ r0 = (1, 21, 0)) (k1 : (tI τ r0 18) = 3 → (tI τ r0 21) < x1 → G (d - 1) 177 0 [vR r0, none, none] [] τ (KC d 183 34 37 [none, none, vI (tI τ r0 21)] [] Q)) (k2 : (tI τ r0 18) = 3 → x1 ≤ (tI τ r0 21) → G (d - 1) 172 0 [vR r0, vI 2] [] τ (KC d 183 24 27 [none, none, none] [] Q)) (k3 : ¬ (tI τ r0 18) = 3 → G (d - 1) 172 0 [vR r0, vI 1] [] τ (KC d 183 10 13 [none, none, none] [] Q)) : G d 183 0 [vR r0, vI x1, none] [] τ Q := by
  refine g_sk 1 (pc1 := 1) (st1 := [AR r0]) rfl ?_
  refine g_gI rfl (ci := 21) (k := 18) rfl sh1 ?_
  refine g_sk 1 (pc1 := 5) (st1 := [AI 3, AI (tI τ r0 18)]) rfl ?_
  refine g_br2 rfl (t := 14) rfl (fun c2 => ?_) (fun c2 => ?_)
  · have c2 : (tI τ r0 18) = 3 := of_decide_eq_true c2
    refine g_sk 1 (pc1 := 15) (st1 := [AR r0]) rfl ?_
    refine g_gI rfl (ci := 21) (k := 21) rfl sh1 ?_
    refine g_sk 1 (pc1 := 19) (st1 := [AI x1, AI (tI τ r0 21)]) rfl ?_
    refine g_br2 rfl (t := 28) rfl (fun c3 => ?_) (fun c3 => ?_)
    · have c3 : (tI τ r0 21) < x1 := of_decide_eq_true c3
      refine g_sk 1 (pc1 := 29) (st1 := [AR r0]) rfl ?_
      refine g_gI rfl (ci := 21) (k := 21) rfl sh1 ?_
      refine g_sx 2 (pc1 := 34) (L1 := [vR r0, vI x1, vI (tI τ r0 21)]) (st1 := [AR r0]) rfl ?_
      refine G_fg (lw2_f _ (lw2_f _ (lw2_k _ lw2_nil))) ?_
      refine g_cv rfl rfl (by decide) rfl rfl (Nat.le_of_ble_eq_true rfl) (as2 := []) rfl sh1 rfl (by omega) (L0 := [vR r0, none, none]) rfl ?_
      exact (k1 c2 c3)
    · have c3 : x1 ≤ (tI τ r0 21) := Int.not_lt.mp (of_decide_eq_false c3)
      refine g_sk 2 (pc1 := 24) (st1 := [AI 2, AR r0]) rfl ?_
      refine G_fg (lw2_f _ (lw2_f _ (lw2_k _ lw2_nil))) ?_
      refine g_cv rfl rfl (by decide) rfl rfl (Nat.le_of_ble_eq_true rfl) (as2 := [AI 2]) rfl sh1 rfl (by omega) (L0 := [vR r0, vI 2]) rfl ?_
      exact (k2 c2 c3)
  · have c2 : ¬ (tI τ r0 18) = 3 := of_decide_eq_false c2
    refine g_sk 2 (pc1 := 10) (st1 := [AI 1, AR r0]) rfl ?_
    refine G_fg (lw2_f _ (lw2_f _ (lw2_k _ lw2_nil))) ?_
    refine g_cv rfl rfl (by decide) rfl rfl (Nat.le_of_ble_eq_true rfl) (as2 := [AI 1]) rfl sh1 rfl (by omega) (L0 := [vR r0, vI 1]) rfl ?_
    exact (k3 c2)

set_option maxRecDepth 8192 in
theorem t183_13 {d : Nat} {τ : T2} {Q : RS → T2 → Prop} {s0 : Nat} (hd : 16 ≤ d) (sh1 : tS τ s0 = (1, 18, 0)) (k1 : Q (.inr s0) τ) : G d 183 13 [none, none, none] [AR s0] τ Q := by
  refine g_thr rfl sh1 rfl (by omega) rfl ?_
  exact k1

set_option maxRecDepth 8192 in
theorem t183_27 {d : Nat} {τ : T2} {Q : RS → T2 → Prop} {s0 : Nat} (hd : 16 ≤ d) (sh1 : tS τ s0 = (1, 18, 0)) (k1 : Q (.inr s0) τ) : G d 183 27 [none, none, none] [AR s0] τ Q := by
  refine g_thr rfl sh1 rfl (by omega) rfl ?_
  exact k1

set_option maxRecDepth 8192 in
theorem t183_37 {d : Nat} {τ : T2} {Q : RS → T2 → Prop} {x2 : Int} (k1 : Q (.inl (some (AI x2))) τ) : G d 183 37 [none, none, vI x2] [] τ Q := by
  refine g_sk 1 (pc1 := 38) (st1 := [AI x2]) rfl ?_
  refine g_iret rfl rfl ?_
  exact k1

set_option maxRecDepth 8192 in
theorem t184_0 {d : Nat} {τ : T2} {Q : RS → T2 → Prop} {r0 : Nat} {r1 : Option Nat} (hd : 1 ≤ d) (sh1 : tS τ r0 = (1, 21, 0)) (k1 : G (d - 1) 185 0 [vR r0, vQ r1] [] τ (KC d 184 2 5 [vR r0, vQ r1] [] Q)) : G d 184 0 [vR r0, vQ r1] [] τ Q := by
  refine g_sk 2 (pc1 := 2) (st1 := [AP r1, AR r0]) rfl ?_
  refine g_cv rfl rfl (by decide) rfl rfl (Nat.le_of_ble_eq_true rfl) (as2 := [AP r1]) rfl sh1 rfl (by omega) (L0 := [vR r0, vQ r1]) rfl ?_
  exact k1

set_option maxRecDepth 8192 in
theorem t184_5 {d : Nat} {τ : T2} {Q : RS → T2 → Prop} {r0 : Nat} {r1 : Option Nat} (hd : 1 ≤ d) (sh1 : tS τ r0 = (1, 21, 0)) (k1 : G (d - 1) 179 0 [vR r0, vR 25] [] τ (KC d 184 8 11 [vR r0, vQ r1] [] Q)) : G d 184 5 [vR r0, vQ r1] [] τ Q := by
  refine g_sk 2 (pc1 := 8) (st1 := [AR 25, AR r0]) rfl ?_
  refine g_cv rfl rfl (by decide) rfl rfl (Nat.le_of_ble_eq_true rfl) (as2 := [AR 25]) rfl sh1 rfl (by omega) (L0 := [vR r0, vR 25]) rfl ?_
  exact k1

set_option maxRecDepth 8192 in
theorem t184_11 {d : Nat} {τ : T2} {Q : RS → T2 → Prop} {y0 : Int} {r0 : Nat} {r1 : Option Nat} (hd : 1 ≤ d) (sh2 : tS τ r0 = (1, 21, 0)) (k1 : y0 = 0 → Q (.inl none) τ) (k2 : ¬ y0 = 0 → G (d - 1) 177 0 [vR r0, none, none] [] τ (KC d 184 15 18 [vR r0, vQ r1] [] Q)) : G d 184 11 [vR r0, vQ r1] [AI y0] τ Q := by
  refine g_br1 rfl (t := 34) rfl (fun c1 => ?_) (fun c1 => ?_)
  · have c1 : y0 = 0 := of_decide_eq_true c1
    refine g_vret rfl rfl ?_
    exact (k1 c1)
  · have c1 : ¬ y0 = 0 := of_decide_eq_false c1
    refine g_sk 1 (pc1 := 15) (st1 := [AR r0]) rfl ?_
    refine g_cv rfl rfl (by decide) rfl rfl (Nat.le_of_ble_eq_true rfl) (as2 := []) rfl sh2 rfl (by omega) (L0 := [vR r0, none, none]) rfl ?_
    exact (k2 c1)

set_option maxRecDepth 8192 in
theorem t184_18 {d : Nat} {τ : T2} {Q : RS → T2 → Prop} {r0 : Nat} {r1 : Option Nat} (hd : 1 ≤ d) (sh1 : tS τ r0 = (1, 21, 0)) (k1 : G (d - 1) 185 0 [vR r0, vQ r1] [] τ (KC d 184 20 23 [vR r0, vQ r1] [] Q)) : G d 184 18 [vR r0, vQ r1] [] τ Q := by
  refine g_sk 2 (pc1 := 20) (st1 := [AP r1, AR r0]) rfl ?_
  refine g_cv rfl rfl (by decide) rfl rfl (Nat.le_of_ble_eq_true rfl) (as2 := [AP r1]) rfl sh1 rfl (by omega) (L0 := [vR r0, vQ r1]) rfl ?_
  exact k1

set_option maxRecDepth 8192 in
theorem t184_23 {d : Nat} {τ : T2} {Q : RS → T2 → Prop} {r0 r1 : Nat} (hd : 1 ≤ d) (sh1 : tS τ r1 = (1, 17, 0)) (k1 : G (d - 1) 153 0 [vR r1, vI 6, vI 0, vI 0] [] τ (KC d 184 28 31 [vR r0, vR r1] [] Q)) : G d 184 23 [vR r0, vR r1] [] τ Q := by
  refine g_sk 4 (pc1 := 28) (st1 := [AI 0, AI 0, AI 6, AR r1]) rfl ?_
  refine g_cv rfl rfl (by decide) rfl rfl (Nat.le_of_ble_eq_true rfl) (as2 := [AI 6, AI 0, AI 0]) rfl sh1 rfl (by omega) (L0 := [vR r1, vI 6, vI 0, vI 0]) rfl ?_
  exact k1

set_option maxRecDepth 8192 in
theorem t184_31 {d : Nat} {τ : T2} {Q : RS → T2 → Prop} {r0 : Nat} {r1 : Option Nat} (k1 : G d 184 5 [vR r0, vQ r1] [] τ Q) : G d 184 31 [vR r0, vQ r1] [] τ Q := by
  refine g_sk 1 (pc1 := 5) (st1 := []) rfl ?_
  exact k1

set_option maxRecDepth 8192 in
theorem t185_0 {d : Nat} {τ : T2} {Q : RS → T2 → Prop} {r0 : Nat} {r1 : Option Nat} (hd : 1 ≤ d) (sh1 : tS τ r0 = (1, 21, 0)) (k1 : G (d - 1) 186 0 [vR r0, vQ r1, none, none, none] [] τ (KC d 185 2 5 [vR r0, vQ r1] [] Q)) : G d 185 0 [vR r0, vQ r1] [] τ Q := by
  refine g_sk 2 (pc1 := 2) (st1 := [AP r1, AR r0]) rfl ?_
  refine g_cv rfl rfl (by decide) rfl rfl (Nat.le_of_ble_eq_true rfl) (as2 := [AP r1]) rfl sh1 rfl (by omega) (L0 := [vR r0, vQ r1, none, none, none]) rfl ?_
  exact k1

set_option maxRecDepth 8192 in
theorem t185_5 {d : Nat} {τ : T2} {Q : RS → T2 → Prop} {r0 : Nat} {r1 : Option Nat} (hd : 1 ≤ d) (sh1 : tS τ r0 = (1, 21, 0)) (k1 : G (d - 1) 179 0 [vR r0, vR 26] [] τ (KC d 185 8 11 [vR r0, vQ r1] [] Q)) : G d 185 5 [vR r0, vQ r1] [] τ Q := by
  refine g_sk 2 (pc1 := 8) (st1 := [AR 26, AR r0]) rfl ?_
  refine g_cv rfl rfl (by decide) rfl rfl (Nat.le_of_ble_eq_true rfl) (as2 := [AR 26]) rfl sh1 rfl (by omega) (L0 := [vR r0, vR 26]) rfl ?_
  exact k1

set_option maxRecDepth 8192 in
theorem t185_11 {d : Nat} {τ : T2} {Q : RS → T2 → Prop} {y0 : Int} {r0 : Nat} {r1 : Option Nat} (hd : 1 ≤ d) (sh2 : tS τ r0 = (1, 21, 0)) (k1 : y0 = 0 → Q (.inl none) τ) (k2 : ¬ y0 = 0 → G (d - 1) 177 0 [vR r0, none, none] [] τ (KC d 185 15 18 [vR r0, vQ r1] [] Q)) : G d 185 11 [vR r0, vQ r1] [AI y0] τ Q := by
  refine g_br1 rfl (t := 33) rfl (fun c1 => ?_) (fun c1 => ?_)
  · have c1 : y0 = 0 := of_decide_eq_true c1
    refine g_vret rfl rfl ?_
    exact (k1 c1)
  · have c1 : ¬ y0 = 0 := of_decide_eq_false c1
    refine g_sk 1 (pc1 := 15) (st1 := [AR r0]) rfl ?_
    refine g_cv rfl rfl (by decide) rfl rfl (Nat.le_of_ble_eq_true rfl) (as2 := []) rfl sh2 rfl (by omega) (L0 := [vR r0, none, none]) rfl ?_
    exact (k2 c1)

set_option maxRecDepth 8192 in
theorem t185_18 {d : Nat} {τ : T2} {Q : RS → T2 → Prop} {r0 : Nat} {r1 : Option Nat} (hd : 1 ≤ d) (sh1 : tS τ r0 = (1, 21, 0)) (k1 : G (d - 1) 186 0 [vR r0, vQ r1, none, none, none] [] τ (KC d 185 20 23 [vR r0, vQ r1] [] Q)) : G d 185 18 [vR r0, vQ r1] [] τ Q := by
  refine g_sk 2 (pc1 := 20) (st1 := [AP r1, AR r0]) rfl ?_
  refine g_cv rfl rfl (by decide) rfl rfl (Nat.le_of_ble_eq_true rfl) (as2 := [AP r1]) rfl sh1 rfl (by omega) (L0 := [vR r0, vQ r1, none, none, none]) rfl ?_
  exact k1

set_option maxRecDepth 8192 in
theorem t185_23 {d : Nat} {τ : T2} {Q : RS → T2 → Prop} {r0 r1 : Nat} (hd : 1 ≤ d) (sh1 : tS τ r1 = (1, 17, 0)) (k1 : G (d - 1) 153 0 [vR r1, vI 5, vI 0, vI 0] [] τ (KC d 185 27 30 [vR r0, vR r1] [] Q)) : G d 185 23 [vR r0, vR r1] [] τ Q := by
  refine g_sk 4 (pc1 := 27) (st1 := [AI 0, AI 0, AI 5, AR r1]) rfl ?_
  refine g_cv rfl rfl (by decide) rfl rfl (Nat.le_of_ble_eq_true rfl) (as2 := [AI 5, AI 0, AI 0]) rfl sh1 rfl (by omega) (L0 := [vR r1, vI 5, vI 0, vI 0]) rfl ?_
  exact k1

set_option maxRecDepth 8192 in
theorem t185_30 {d : Nat} {τ : T2} {Q : RS → T2 → Prop} {r0 : Nat} {r1 : Option Nat} (k1 : G d 185 5 [vR r0, vQ r1] [] τ Q) : G d 185 30 [vR r0, vQ r1] [] τ Q := by
  refine g_sk 1 (pc1 := 5) (st1 := []) rfl ?_
  exact k1

set_option maxRecDepth 8192 in
theorem t186_0 {d : Nat} {τ : T2} {Q : RS → T2 → Prop} {r0 : Nat} {r1 : Option Nat} (k1 : G d 186 2 [vR r0, vQ r1, vI 0, none, none] [] τ Q) : G d 186 0 [vR r0, vQ r1, none, none, none] [] τ Q := by
  refine g_sx 2 (pc1 := 2) (L1 := [vR r0, vQ r1, vI 0, none, none]) (st1 := []) rfl ?_
  exact k1

set_option maxRecDepth 8192 in
theorem t186_2 {d : Nat} {τ : T2} {Q : RS → T2 → Prop} {x2 : Int} {r0 : Nat} {r1 : Option Nat} (hd : 1 ≤ d) (sh1 : tS τ r0 = (1, 21, 0)) (k1 : G (d - 1) 179 0 [vR r0, vR 27] [] τ (KC d 186 5 8 [vR r0, vQ r1, vI x2, none, none] [] Q)) : G d 186 2 [vR r0, vQ r1, vI x2, none, none] [] τ Q := by
  refine g_sk 2 (pc1 := 5) (st1 := [AR 27, AR r0]) rfl ?_
  refine g_cv rfl rfl (by decide) rfl rfl (Nat.le_of_ble_eq_true rfl) (as2 := [AR 27]) rfl sh1 rfl (by omega) (L0 := [vR r0, vR 27]) rfl ?_
  exact k1

set_option maxRecDepth 8192 in
theorem t186_8 {d : Nat} {τ : T2} {Q : RS → T2 → Prop} {x2 y0 : Int} {r0 : Nat} {r1 : Option Nat} (hd : 1 ≤ d) (sh2 : tS τ r0 = (1, 21, 0)) (k1 : y0 = 0 → G (d - 1) 180 0 [vR r0, vI 40] [] τ (KC d 186 36 39 [vR r0, vQ r1, vI x2, none, none] [] Q)) (k2 : ¬ y0 = 0 → ¬ x2 = 8 → G (d - 1) 177 0 [vR r0, none, none] [] τ (KC d 186 27 30 [vR r0, vQ r1, vI (wr (x2 + 1)), none, none] [] Q)) (k3 : ¬ y0 = 0 → x2 = 8 → G (d - 1) 172 0 [vR r0, vI 4] [] τ (KC d 186 19 22 [none, none, none, none, none] [] Q)) : G d 186 8 [vR r0, vQ r1, vI x2, none, none] [AI y0] τ Q := by
  refine g_br1 rfl (t := 33) rfl (fun c1 => ?_) (fun c1 => ?_)
  · have c1 : y0 = 0 := of_decide_eq_true c1
    refine g_sk 2 (pc1 := 36) (st1 := [AI 40, AR r0]) rfl ?_
    refine g_cv rfl rfl (by decide) rfl rfl (Nat.le_of_ble_eq_true rfl) (as2 := [AI 40]) rfl sh2 rfl (by omega) (L0 := [vR r0, vI 40]) rfl ?_
    exact (k1 c1)
  · have c1 : ¬ y0 = 0 := of_decide_eq_false c1
    refine g_sk 2 (pc1 := 14) (st1 := [AI 8, AI x2]) rfl ?_
    refine g_br2 rfl (t := 23) rfl (fun c3 => ?_) (fun c3 => ?_)
    · have c3 : ¬ x2 = 8 := of_decide_eq_true c3
      refine g_sx 2 (pc1 := 27) (L1 := [vR r0, vQ r1, vI (wr (x2 + 1)), none, none]) (st1 := [AR r0]) rfl ?_
      refine g_cv rfl rfl (by decide) rfl rfl (Nat.le_of_ble_eq_true rfl) (as2 := []) rfl sh2 rfl (by omega) (L0 := [vR r0, none, none]) rfl ?_
      exact (k2 c1 c3)
    · have c3 : x2 = 8 := Decidable.of_not_not (of_decide_eq_false c3)
      refine g_sk 2 (pc1 := 19) (st1 := [AI 4, AR r0]) rfl ?_
      refine G_fg (lw2_f _ (lw2_f _ (lw2_f _ (lw2_k _ (lw2_k _ lw2_nil))))) ?_
      refine g_cv rfl rfl (by decide) rfl rfl (Nat.le_of_ble_eq_true rfl) (as2 := [AI 4]) rfl sh2 rfl (by omega) (L0 := [vR r0, vI 4]) rfl ?_
      exact (k3 c1 c3)

set_option maxRecDepth 8192 in
theorem t186_22 {d : Nat} {τ : T2} {Q : RS → T2 → Prop} {s0 : Nat} (hd : 16 ≤ d) (sh1 : tS τ s0 = (1, 18, 0)) (k1 : Q (.inr s0) τ) : G d 186 22 [none, none, none, none, none] [AR s0] τ Q := by
  refine g_thr rfl sh1 rfl (by omega) rfl ?_
  exact k1

set_option maxRecDepth 8192 in
theorem t186_30 {d : Nat} {τ : T2} {Q : RS → T2 → Prop} {x2 : Int} {r0 : Nat} {r1 : Option Nat} (k1 : G d 186 2 [vR r0, vQ r1, vI x2, none, none] [] τ Q) : G d 186 30 [vR r0, vQ r1, vI x2, none, none] [] τ Q := by
  refine g_sk 1 (pc1 := 2) (st1 := []) rfl ?_
  exact k1

set_option maxRecDepth 8192 in
theorem t186_39 {d : Nat} {τ : T2} {Q : RS → T2 → Prop} {x2 y0 : Int} {r0 : Nat} {r1 : Option Nat} (hd : 1 ≤ d) (sh2 : tS τ r0 = (1, 21, 0)) (k1 : y0 = 0 → G (d - 1) 179 0 [vR r0, vR 28] [] τ (KC d 186 98 101 [vR r0, vQ r1, vI x2, none, none] [] Q)) (k2 : ¬ y0 = 0 → ¬ (tI τ r0 23) = 8 → G (d - 1) 177 0 [vR r0, none, none] [] (uI τ r0 23 (wr ((tI τ r0 23) + 1))) (KC d 186 68 71 [vR r0, vQ r1, vI x2, none, none] [] Q)) (k3 : ¬ y0 = 0 → (tI τ r0 23) = 8 → G (d - 1) 172 0 [vR r0, vI 4] [] τ (KC d 186 53 56 [none, none, none, none, none] [] Q)) : G d 186 39 [vR r0, vQ r1, vI x2, none, none] [AI y0] τ Q := by
  refine g_br1 rfl (t := 95) rfl (fun c1 => ?_) (fun c1 => ?_)
  · have c1 : y0 = 0 := of_decide_eq_true c1
    refine g_sk 2 (pc1 := 98) (st1 := [AR 28, AR r0]) rfl ?_
    refine g_cv rfl rfl (by decide) rfl rfl (Nat.le_of_ble_eq_true rfl) (as2 := [AR 28]) rfl sh2 rfl (by omega) (L0 := [vR r0, vR 28]) rfl ?_
    exact (k1 c1)
  · have c1 : ¬ y0 = 0 := of_decide_eq_false c1
    refine g_sk 1 (pc1 := 43) (st1 := [AR r0]) rfl ?_
    refine g_gI rfl (ci := 21) (k := 23) rfl sh2 ?_
    refine g_sk 1 (pc1 := 48) (st1 := [AI 8, AI (tI τ r0 23)]) rfl ?_
    refine g_br2 rfl (t := 57) rfl (fun c3 => ?_) (fun c3 => ?_)
    · have c3 : ¬ (tI τ r0 23) = 8 := of_decide_eq_true c3
      refine g_sk 2 (pc1 := 59) (st1 := [AR r0, AR r0]) rfl ?_
      refine g_gI rfl (ci := 21) (k := 23) rfl sh2 ?_
      refine g_sk 2 (pc1 := 64) (st1 := [AI (wr ((tI τ r0 23) + 1)), AR r0]) rfl ?_
      refine g_putI (x := (wr ((tI τ r0 23) + 1))) rfl (ci := 21) (k := 23) (kd := 0) rfl (by decide) rfl rfl sh2 ?_
      refine g_sk 1 (pc1 := 68) (st1 := [AR r0]) rfl ?_
      refine g_cv rfl rfl (by decide) rfl rfl (Nat.le_of_ble_eq_true rfl) (as2 := []) rfl sh2 rfl (by omega) (L0 := [vR r0, none, none]) rfl ?_
      exact (k2 c1 c3)
    · have c3 : (tI τ r0 23) = 8 := Decidable.of_not_not (of_decide_eq_false c3)
      refine g_sk 2 (pc1 := 53) (st1 := [AI 4, AR r0]) rfl ?_
      refine G_fg (lw2_f _ (lw2_f _ (lw2_f _ (lw2_k _ (lw2_k _ lw2_nil))))) ?_
      refine g_cv rfl rfl (by decide) rfl rfl (Nat.le_of_ble_eq_true rfl) (as2 := [AI 4]) rfl sh2 rfl (by omega) (L0 := [vR r0, vI 4]) rfl ?_
      exact (k3 c1 c3)

set_option maxRecDepth 8192 in
theorem t186_56 {d : Nat} {τ : T2} {Q : RS → T2 → Prop} {s0 : Nat} (hd : 16 ≤ d) (sh1 : tS τ s0 = (1, 18, 0)) (k1 : Q (.inr s0) τ) : G d 186 56 [none, none, none, none, none] [AR s0] τ Q := by
  refine g_thr rfl sh1 rfl (by omega) rfl ?_
  exact k1

set_option maxRecDepth 8192 in
theorem t186_71 {d : Nat} {τ : T2} {Q : RS → T2 → Prop} {x2 : Int} {r0 : Nat} {r1 : Option Nat} (hd : 1 ≤ d) (sh1 : tS τ r0 = (1, 21, 0)) (k1 : G (d - 1) 184 0 [vR r0, vQ r1] [] τ (KC d 186 73 76 [vR r0, vQ r1, vI x2, none, none] [] Q)) : G d 186 71 [vR r0, vQ r1, vI x2, none, none] [] τ Q := by
  refine g_sk 2 (pc1 := 73) (st1 := [AP r1, AR r0]) rfl ?_
  refine g_cv rfl rfl (by decide) rfl rfl (Nat.le_of_ble_eq_true rfl) (as2 := [AP r1]) rfl sh1 rfl (by omega) (L0 := [vR r0, vQ r1]) rfl ?_
  exact k1

set_option maxRecDepth 8192 in
theorem t186_76 {d : Nat} {τ : T2} {Q : RS → T2 → Prop} {x2 : Int} {r0 : Nat} {r1 : Option Nat} (hd : 1 ≤ d) (sh1 : tS τ r0 = (1, 21, 0)) (k1 : G (d - 1) 181 0 [vR r0, vI 41] [] τ (KC d 186 79 82 [vR r0, vQ r1, vI x2, none, none] [] Q)) : G d 186 76 [vR r0, vQ r1, vI x2, none, none] [] τ Q := by
  refine g_sk 2 (pc1 := 79) (st1 := [AI 41, AR r0]) rfl ?_
  refine g_cv rfl rfl (by decide) rfl rfl (Nat.le_of_ble_eq_true rfl) (as2 := [AI 41]) rfl sh1 rfl (by omega) (L0 := [vR r0, vI 41]) rfl ?_
  exact k1

set_option maxRecDepth 8192 in
theorem t186_82 {d : Nat} {τ : T2} {Q : RS → T2 → Prop} {x2 : Int} {r0 r1 : Nat} (hd : 1 ≤ d) (sh1 : tS τ r0 = (1, 21, 0)) (sh3 : tS τ r1 = (1, 17, 0)) (k1 : ¬ (zrem x2 2) = 1 → Q (.inl none) (uI τ r0 23 (wr ((tI τ r0 23) - 1)))) (k2 : (zrem x2 2) = 1 → G (d - 1) 153 0 [vR r1, vI 4, vI 0, vI 0] [] (uI τ r0 23 (wr ((tI τ r0 23) - 1))) (KC d 186 280 283 [none, none, none, none, none] [] Q)) : G d 186 82 [vR r0, vR r1, vI x2, none, none] [] τ Q := by
  refine g_sk 2 (pc1 := 84) (st1 := [AR r0, AR r0]) rfl ?_
  refine g_gI rfl (ci := 21) (k := 23) rfl sh1 ?_
  refine g_sk 2 (pc1 := 89) (st1 := [AI (wr ((tI τ r0 23) - 1)), AR r0]) rfl ?_
  refine g_putI (x := (wr ((tI τ r0 23) - 1))) rfl (ci := 21) (k := 23) (kd := 0) rfl (by decide) rfl rfl sh1 ?_
  refine g_sk 3 (pc1 := 271) (st1 := [AI 2, AI x2]) rfl ?_
  refine g_rem rfl (by decide) ?_
  refine g_sk 1 (pc1 := 273) (st1 := [AI 1, AI (zrem x2 2)]) rfl ?_
  refine g_br2 rfl (t := 283) rfl (fun c2 => ?_) (fun c2 => ?_)
  · have c2 : ¬ (zrem x2 2) = 1 := of_decide_eq_true c2
    refine g_vret rfl rfl ?_
    exact (k1 c2)
  · have c2 : (zrem x2 2) = 1 := Decidable.of_not_not (of_decide_eq_false c2)
    refine g_sk 4 (pc1 := 280) (st1 := [AI 0, AI 0, AI 4, AR r1]) rfl ?_
    refine G_fg (lw2_f _ (lw2_f _ (lw2_f _ (lw2_k _ (lw2_k _ lw2_nil))))) ?_
    refine g_cv rfl rfl (by decide) rfl rfl (Nat.le_of_ble_eq_true rfl) (as2 := [AI 4, AI 0, AI 0]) rfl sh3 rfl (by omega) (L0 := [vR r1, vI 4, vI 0, vI 0]) rfl ?_
    exact (k2 c2)

set_option maxRecDepth 8192 in
theorem t186_101 {d : Nat} {τ : T2} {Q : RS → T2 → Prop} {x2 y0 : Int} {r0 : Nat} {r1 : Option Nat} (hd : 1 ≤ d) (sh2 : tS τ r0 = (1, 21, 0)) (k1 : y0 = 0 → G (d - 1) 179 0 [vR r0, vR 29] [] τ (KC d 186 112 115 [vR r0, vQ r1, vI x2, none, none] [] Q)) (k2 : ¬ y0 = 0 → ¬ (0 : Int) = ((-1) : Int) → ¬ (tI τ r0 24) = 30 → G (d - 1) 177 0 [vR r0, none, none] [] (uI τ r0 24 (wr ((tI τ r0 24) + 1))) (KC d 186 189 192 [vR r0, vQ r1, vI x2, vI 0, none] [] Q)) (k3 : ¬ y0 = 0 → ¬ (0 : Int) = ((-1) : Int) → (tI τ r0 24) = 30 → G (d - 1) 172 0 [vR r0, vI 4] [] τ (KC d 186 174 177 [none, none, none, none, none] [] Q)) (k4 : ¬ y0 = 0 → (0 : Int) = ((-1) : Int) → G (d - 1) 172 0 [vR r0, vI 1] [] τ (KC d 186 159 162 [none, none, none, none, none] [] Q)) : G d 186 101 [vR r0, vQ r1, vI x2, none, none] [AI y0] τ Q := by
  refine g_br1 rfl (t := 108) rfl (fun c1 => ?_) (fun c1 => ?_)
  · have c1 : y0 = 0 := of_decide_eq_true c1
    refine g_sk 2 (pc1 := 112) (st1 := [AR 29, AR r0]) rfl ?_
    refine g_cv rfl rfl (by decide) rfl rfl (Nat.le_of_ble_eq_true rfl) (as2 := [AR 29]) rfl sh2 rfl (by omega) (L0 := [vR r0, vR 29]) rfl ?_
    exact (k1 c1)
  · have c1 : ¬ y0 = 0 := of_decide_eq_false c1
    refine g_sx 5 (pc1 := 154) (L1 := [vR r0, vQ r1, vI x2, vI 0, none]) (st1 := [AI (-1), AI 0]) rfl ?_
    refine g_br2 rfl (t := 163) rfl (fun c3 => ?_) (fun c3 => ?_)
    · have c3 : ¬ (0 : Int) = ((-1) : Int) := of_decide_eq_true c3
      refine g_sk 1 (pc1 := 164) (st1 := [AR r0]) rfl ?_
      refine g_gI rfl (ci := 21) (k := 24) rfl sh2 ?_
      refine g_sk 1 (pc1 := 169) (st1 := [AI 30, AI (tI τ r0 24)]) rfl ?_
      refine g_br2 rfl (t := 178) rfl (fun c4 => ?_) (fun c4 => ?_)
      · have c4 : ¬ (tI τ r0 24) = 30 := of_decide_eq_true c4
        refine g_sk 2 (pc1 := 180) (st1 := [AR r0, AR r0]) rfl ?_
        refine g_gI rfl (ci := 21) (k := 24) rfl sh2 ?_
        refine g_sk 2 (pc1 := 185) (st1 := [AI (wr ((tI τ r0 24) + 1)), AR r0]) rfl ?_
        refine g_putI (x := (wr ((tI τ r0 24) + 1))) rfl (ci := 21) (k := 24) (kd := 0) rfl (by decide) rfl rfl sh2 ?_
        refine g_sk 1 (pc1 := 189) (st1 := [AR r0]) rfl ?_
        refine g_cv rfl rfl (by decide) rfl rfl (Nat.le_of_ble_eq_true rfl) (as2 := []) rfl sh2 rfl (by omega) (L0 := [vR r0, none, none]) rfl ?_
        exact (k2 c1 c3 c4)
      · have c4 : (tI τ r0 24) = 30 := Decidable.of_not_not (of_decide_eq_false c4)
        refine g_sk 2 (pc1 := 174) (st1 := [AI 4, AR r0]) rfl ?_
        refine G_fg (lw2_f _ (lw2_f _ (lw2_f _ (lw2_f _ (lw2_k _ lw2_nil))))) ?_
        refine g_cv rfl rfl (by decide) rfl rfl (Nat.le_of_ble_eq_true rfl) (as2 := [AI 4]) rfl sh2 rfl (by omega) (L0 := [vR r0, vI 4]) rfl ?_
        exact (k3 c1 c3 c4)
    · have c3 : (0 : Int) = ((-1) : Int) := Decidable.of_not_not (of_decide_eq_false c3)
      refine g_sk 2 (pc1 := 159) (st1 := [AI 1, AR r0]) rfl ?_
      refine G_fg (lw2_f _ (lw2_f _ (lw2_f _ (lw2_f _ (lw2_k _ lw2_nil))))) ?_
      refine g_cv rfl rfl (by decide) rfl rfl (Nat.le_of_ble_eq_true rfl) (as2 := [AI 1]) rfl sh2 rfl (by omega) (L0 := [vR r0, vI 1]) rfl ?_
      exact (k4 c1 c3)

set_option maxRecDepth 8192 in
theorem t186_115 {d : Nat} {τ : T2} {Q : RS → T2 → Prop} {x2 y0 : Int} {r0 : Nat} {r1 : Option Nat} (hd : 1 ≤ d) (sh2 : tS τ r0 = (1, 21, 0)) (k1 : y0 = 0 → G (d - 1) 179 0 [vR r0, vR 30] [] τ (KC d 186 126 129 [vR r0, vQ r1, vI x2, none, none] [] Q)) (k2 : ¬ y0 = 0 → ¬ (1 : Int) = ((-1) : Int) → ¬ (tI τ r0 24) = 30 → G (d - 1) 177 0 [vR r0, none, none] [] (uI τ r0 24 (wr ((tI τ r0 24) + 1))) (KC d 186 189 192 [vR r0, vQ r1, vI x2, vI 1, none] [] Q)) (k3 : ¬ y0 = 0 → ¬ (1 : Int) = ((-1) : Int) → (tI τ r0 24) = 30 → G (d - 1) 172 0 [vR r0, vI 4] [] τ (KC d 186 174 177 [none, none, none, none, none] [] Q)) (k4 : ¬ y0 = 0 → (1 : Int) = ((-1) : Int) → G (d - 1) 172 0 [vR r0, vI 1] [] τ (KC d 186 159 162 [none, none, none, none, none] [] Q)) : G d 186 115 [vR r0, vQ r1, vI x2, none, none] [AI y0] τ Q := by
  refine g_br1 rfl (t := 122) rfl (fun c1 => ?_) (fun c1 => ?_)
  · have c1 : y0 = 0 := of_decide_eq_true c1
    refine g_sk 2 (pc1 := 126) (st1 := [AR 30, AR r0]) rfl ?_
    refine g_cv rfl rfl (by decide) rfl rfl (Nat.le_of_ble_eq_true rfl) (as2 := [AR 30]) rfl sh2 rfl (by omega) (L0 := [vR r0, vR 30]) rfl ?_
    exact (k1 c1)
  · have c1 : ¬ y0 = 0 := of_decide_eq_false c1
    refine g_sx 5 (pc1 := 154) (L1 := [vR r0, vQ r1, vI x2, vI 1, none]) (st1 := [AI (-1), AI 1]) rfl ?_
    refine g_br2 rfl (t := 163) rfl (fun c3 => ?_) (fun c3 => ?_)
    · have c3 : ¬ (1 : Int) = ((-1) : Int) := of_decide_eq_true c3
      refine g_sk 1 (pc1 := 164) (st1 := [AR r0]) rfl ?_
      refine g_gI rfl (ci := 21) (k := 24) rfl sh2 ?_
      refine g_sk 1 (pc1 := 169) (st1 := [AI 30, AI (tI τ r0 24)]) rfl ?_
      refine g_br2 rfl (t := 178) rfl (fun c4 => ?_) (fun c4 => ?_)
      · have c4 : ¬ (tI τ r0 24) = 30 := of_decide_eq_true c4
        refine g_sk 2 (pc1 := 180) (st1 := [AR r0, AR r0]) rfl ?_
        refine g_gI rfl (ci := 21) (k := 24) rfl sh2 ?_
        refine g_sk 2 (pc1 := 185) (st1 := [AI (wr ((tI τ r0 24) + 1)), AR r0]) rfl ?_
        refine g_putI (x := (wr ((tI τ r0 24) + 1))) rfl (ci := 21) (k := 24) (kd := 0) rfl (by decide) rfl rfl sh2 ?_
        refine g_sk 1 (pc1 := 189) (st1 := [AR r0]) rfl ?_
        refine g_cv rfl rfl (by decide) rfl rfl (Nat.le_of_ble_eq_true rfl) (as2 := []) rfl sh2 rfl (by omega) (L0 := [vR r0, none, none]) rfl ?_
        exact (k2 c1 c3 c4)
      · have c4 : (tI τ r0 24) = 30 := Decidable.of_not_not (of_decide_eq_false c4)
        refine g_sk 2 (pc1 := 174) (st1 := [AI 4, AR r0]) rfl ?_
        refine G_fg (lw2_f _ (lw2_f _ (lw2_f _ (lw2_f _ (lw2_k _ lw2_nil))))) ?_
        refine g_cv rfl rfl (by decide) rfl rfl (Nat.le_of_ble_eq_true rfl) (as2 := [AI 4]) rfl sh2 rfl (by omega) (L0 := [vR r0, vI 4]) rfl ?_
        exact (k3 c1 c3 c4)
    · have c3 : (1 : Int) = ((-1) : Int) := Decidable.of_not_not (of_decide_eq_false c3)
      refine g_sk 2 (pc1 := 159) (st1 := [AI 1, AR r0]) rfl ?_
      refine G_fg (lw2_f _ (lw2_f _ (lw2_f _ (lw2_f _ (lw2_k _ lw2_nil))))) ?_
      refine g_cv rfl rfl (by decide) rfl rfl (Nat.le_of_ble_eq_true rfl) (as2 := [AI 1]) rfl sh2 rfl (by omega) (L0 := [vR r0, vI 1]) rfl ?_
      exact (k4 c1 c3)

set_option maxRecDepth 8192 in
theorem t186_129 {d : Nat} {τ : T2} {Q : RS → T2 → Prop} {x2 y0 : Int} {r0 : Nat} {r1 : Option Nat} (hd : 1 ≤ d) (sh2 : tS τ r0 = (1, 21, 0)) (k1 : y0 = 0 → G (d - 1) 179 0 [vR r0, vR 31] [] τ (KC d 186 140 143 [vR r0, vQ r1, vI x2, none, none] [] Q)) (k2 : ¬ y0 = 0 → ¬ (2 : Int) = ((-1) : Int) → ¬ (tI τ r0 24) = 30 → G (d - 1) 177 0 [vR r0, none, none] [] (uI τ r0 24 (wr ((tI τ r0 24) + 1))) (KC d 186 189 192 [vR r0, vQ r1, vI x2, vI 2, none] [] Q)) (k3 : ¬ y0 = 0 → ¬ (2 : Int) = ((-1) : Int) → (tI τ r0 24) = 30 → G (d - 1) 172 0 [vR r0, vI 4] [] τ (KC d 186 174 177 [none, none, none, none, none] [] Q)) (k4 : ¬ y0 = 0 → (2 : Int) = ((-1) : Int) → G (d - 1) 172 0 [vR r0, vI 1] [] τ (KC d 186 159 162 [none, none, none, none, none] [] Q)) : G d 186 129 [vR r0, vQ r1, vI x2, none, none] [AI y0] τ Q := by
  refine g_br1 rfl (t := 136) rfl (fun c1 => ?_) (fun c1 => ?_)
  · have c1 : y0 = 0 := of_decide_eq_true c1
    refine g_sk 2 (pc1 := 140) (st1 := [AR 31, AR r0]) rfl ?_
    refine g_cv rfl rfl (by decide) rfl rfl (Nat.le_of_ble_eq_true rfl) (as2 := [AR 31]) rfl sh2 rfl (by omega) (L0 := [vR r0, vR 31]) rfl ?_
    exact (k1 c1)
  · have c1 : ¬ y0 = 0 := of_decide_eq_false c1
    refine g_sx 5 (pc1 := 154) (L1 := [vR r0, vQ r1, vI x2, vI 2, none]) (st1 := [AI (-1), AI 2]) rfl ?_
    refine g_br2 rfl (t := 163) rfl (fun c3 => ?_) (fun c3 => ?_)
    · have c3 : ¬ (2 : Int) = ((-1) : Int) := of_decide_eq_true c3
      refine g_sk 1 (pc1 := 164) (st1 := [AR r0]) rfl ?_
      refine g_gI rfl (ci := 21) (k := 24) rfl sh2 ?_
      refine g_sk 1 (pc1 := 169) (st1 := [AI 30, AI (tI τ r0 24)]) rfl ?_
      refine g_br2 rfl (t := 178) rfl (fun c4 => ?_) (fun c4 => ?_)
      · have c4 : ¬ (tI τ r0 24) = 30 := of_decide_eq_true c4
        refine g_sk 2 (pc1 := 180) (st1 := [AR r0, AR r0]) rfl ?_
        refine g_gI rfl (ci := 21) (k := 24) rfl sh2 ?_
        refine g_sk 2 (pc1 := 185) (st1 := [AI (wr ((tI τ r0 24) + 1)), AR r0]) rfl ?_
        refine g_putI (x := (wr ((tI τ r0 24) + 1))) rfl (ci := 21) (k := 24) (kd := 0) rfl (by decide) rfl rfl sh2 ?_
        refine g_sk 1 (pc1 := 189) (st1 := [AR r0]) rfl ?_
        refine g_cv rfl rfl (by decide) rfl rfl (Nat.le_of_ble_eq_true rfl) (as2 := []) rfl sh2 rfl (by omega) (L0 := [vR r0, none, none]) rfl ?_
        exact (k2 c1 c3 c4)
      · have c4 : (tI τ r0 24) = 30 := Decidable.of_not_not (of_decide_eq_false c4)
        refine g_sk 2 (pc1 := 174) (st1 := [AI 4, AR r0]) rfl ?_
        refine G_fg (lw2_f _ (lw2_f _ (lw2_f _ (lw2_f _ (lw2_k _ lw2_nil))))) ?_
        refine g_cv rfl rfl (by decide) rfl rfl (Nat.le_of_ble_eq_true rfl) (as2 := [AI 4]) rfl sh2 rfl (by omega) (L0 := [vR r0, vI 4]) rfl ?_
        exact (k3 c1 c3 c4)
    · have c3 : (2 : Int) = ((-1) : Int) := Decidable.of_not_not (of_decide_eq_false c3)
      refine g_sk 2 (pc1 := 159) (st1 := [AI 1, AR r0]) rfl ?_
      refine G_fg (lw2_f _ (lw2_f _ (lw2_f _ (lw2_f _ (lw2_k _ lw2_nil))))) ?_
      refine g_cv rfl rfl (by decide) rfl rfl (Nat.le_of_ble_eq_true rfl) (as2 := [AI 1]) rfl sh2 rfl (by omega) (L0 := [vR r0, vI 1]) rfl ?_
      exact (k4 c1 c3)

set_option maxRecDepth 8192 in
theorem t186_143 {d : Nat} {τ : T2} {Q : RS → T2 → Prop} {x2 y0 : Int} {r0 : Nat} {r1 : Option Nat} (hd : 1 ≤ d) (sh3 : tS τ r0 = (1, 21, 0)) (k1 : y0 = 0 → ¬ ((-1) : Int) = ((-1) : Int) → ¬ (tI τ r0 24) = 30 → G (d - 1) 177 0 [vR r0, none, none] [] (uI τ r0 24 (wr ((tI τ r0 24) + 1))) (KC d 186 189 192 [vR r0, vQ r1, vI x2, vI (-1), none] [] Q)) (k2 : y0 = 0 → ¬ ((-1) : Int) = ((-1) : Int) → (tI τ r0 24) = 30 → G (d - 1) 172 0 [vR r0, vI 4] [] τ (KC d 186 174 177 [none, none, none, none, none] [] Q)) (k3 : y0 = 0 → ((-1) : Int) = ((-1) : Int) → G (d - 1) 172 0 [vR r0, vI 1] [] τ (KC d 186 159 162 [none, none, none, none, none] [] Q)) (k4 : ¬ y0 = 0 → ¬ (3 : Int) = ((-1) : Int) → ¬ (tI τ r0 24) = 30 → G (d - 1) 177 0 [vR r0, none, none] [] (uI τ r0 24 (wr ((tI τ r0 24) + 1))) (KC d 186 189 192 [vR r0, vQ r1, vI x2, vI 3, none] [] Q)) (k5 : ¬ y0 = 0 → ¬ (3 : Int) = ((-1) : Int) → (tI τ r0 24) = 30 → G (d - 1) 172 0 [vR r0, vI 4] [] τ (KC d 186 174 177 [none, none, none, none, none] [] Q)) (k6 : ¬ y0 = 0 → (3 : Int) = ((-1) : Int) → G (d - 1) 172 0 [vR r0, vI 1] [] τ (KC d 186 159 162 [none, none, none, none, none] [] Q)) : G d 186 143 [vR r0, vQ r1, vI x2, none, none] [AI y0] τ Q := by
  refine g_br1 rfl (t := 150) rfl (fun c1 => ?_) (fun c1 => ?_)
  · have c1 : y0 = 0 := of_decide_eq_true c1
    refine g_sx 4 (pc1 := 154) (L1 := [vR r0, vQ r1, vI x2, vI (-1), none]) (st1 := [AI (-1), AI (-1)]) rfl ?_
    refine g_br2 rfl (t := 163) rfl (fun c2 => ?_) (fun c2 => ?_)
    · have c2 : ¬ ((-1) : Int) = ((-1) : Int) := of_decide_eq_true c2
      refine g_sk 1 (pc1 := 164) (st1 := [AR r0]) rfl ?_
      refine g_gI rfl (ci := 21) (k := 24) rfl sh3 ?_
      refine g_sk 1 (pc1 := 169) (st1 := [AI 30, AI (tI τ r0 24)]) rfl ?_
      refine g_br2 rfl (t := 178) rfl (fun c4 => ?_) (fun c4 => ?_)
      · have c4 : ¬ (tI τ r0 24) = 30 := of_decide_eq_true c4
        refine g_sk 2 (pc1 := 180) (st1 := [AR r0, AR r0]) rfl ?_
        refine g_gI rfl (ci := 21) (k := 24) rfl sh3 ?_
        refine g_sk 2 (pc1 := 185) (st1 := [AI (wr ((tI τ r0 24) + 1)), AR r0]) rfl ?_
        refine g_putI (x := (wr ((tI τ r0 24) + 1))) rfl (ci := 21) (k := 24) (kd := 0) rfl (by decide) rfl rfl sh3 ?_
        refine g_sk 1 (pc1 := 189) (st1 := [AR r0]) rfl ?_
        refine g_cv rfl rfl (by decide) rfl rfl (Nat.le_of_ble_eq_true rfl) (as2 := []) rfl sh3 rfl (by omega) (L0 := [vR r0, none, none]) rfl ?_
        exact (k1 c1 c2 c4)
      · have c4 : (tI τ r0 24) = 30 := Decidable.of_not_not (of_decide_eq_false c4)
        refine g_sk 2 (pc1 := 174) (st1 := [AI 4, AR r0]) rfl ?_
        refine G_fg (lw2_f _ (lw2_f _ (lw2_f _ (lw2_f _ (lw2_k _ lw2_nil))))) ?_
        refine g_cv rfl rfl (by decide) rfl rfl (Nat.le_of_ble_eq_true rfl) (as2 := [AI 4]) rfl sh3 rfl (by omega) (L0 := [vR r0, vI 4]) rfl ?_
        exact (k2 c1 c2 c4)
    · have c2 : ((-1) : Int) = ((-1) : Int) := Decidable.of_not_not (of_decide_eq_false c2)
      refine g_sk 2 (pc1 := 159) (st1 := [AI 1, AR r0]) rfl ?_
      refine G_fg (lw2_f _ (lw2_f _ (lw2_f _ (lw2_f _ (lw2_k _ lw2_nil))))) ?_
      refine g_cv rfl rfl (by decide) rfl rfl (Nat.le_of_ble_eq_true rfl) (as2 := [AI 1]) rfl sh3 rfl (by omega) (L0 := [vR r0, vI 1]) rfl ?_
      exact (k3 c1 c2)
  · have c1 : ¬ y0 = 0 := of_decide_eq_false c1
    refine g_sx 5 (pc1 := 154) (L1 := [vR r0, vQ r1, vI x2, vI 3, none]) (st1 := [AI (-1), AI 3]) rfl ?_
    refine g_br2 rfl (t := 163) rfl (fun c5 => ?_) (fun c5 => ?_)
    · have c5 : ¬ (3 : Int) = ((-1) : Int) := of_decide_eq_true c5
      refine g_sk 1 (pc1 := 164) (st1 := [AR r0]) rfl ?_
      refine g_gI rfl (ci := 21) (k := 24) rfl sh3 ?_
      refine g_sk 1 (pc1 := 169) (st1 := [AI 30, AI (tI τ r0 24)]) rfl ?_
      refine g_br2 rfl (t := 178) rfl (fun c6 => ?_) (fun c6 => ?_)
      · have c6 : ¬ (tI τ r0 24) = 30 := of_decide_eq_true c6
        refine g_sk 2 (pc1 := 180) (st1 := [AR r0, AR r0]) rfl ?_
        refine g_gI rfl (ci := 21) (k := 24) rfl sh3 ?_
        refine g_sk 2 (pc1 := 185) (st1 := [AI (wr ((tI τ r0 24) + 1)), AR r0]) rfl ?_
        refine g_putI (x := (wr ((tI τ r0 24) + 1))) rfl (ci := 21) (k := 24) (kd := 0) rfl (by decide) rfl rfl sh3 ?_
        refine g_sk 1 (pc1 := 189) (st1 := [AR r0]) rfl ?_
        refine g_cv rfl rfl (by decide) rfl rfl (Nat.le_of_ble_eq_true rfl) (as2 := []) rfl sh3 rfl (by omega) (L0 := [vR r0, none, none]) rfl ?_
        exact (k4 c1 c5 c6)
      · have c6 : (tI τ r0 24) = 30 := Decidable.of_not_not (of_decide_eq_false c6)
        refine g_sk 2 (pc1 := 174) (st1 := [AI 4, AR r0]) rfl ?_
        refine G_fg (lw2_f _ (lw2_f _ (lw2_f _ (lw2_f _ (lw2_k _ lw2_nil))))) ?_
        refine g_cv rfl rfl (by decide) rfl rfl (Nat.le_of_ble_eq_true rfl) (as2 := [AI 4]) rfl sh3 rfl (by omega) (L0 := [vR r0, vI 4]) rfl ?_
        exact (k5 c1 c5 c6)
    · have c5 : (3 : Int) = ((-1) : Int) := Decidable.of_not_not (of_decide_eq_false c5)
      refine g_sk 2 (pc1 := 159) (st1 := [AI 1, AR r0]) rfl ?_
      refine G_fg (lw2_f _ (lw2_f _ (lw2_f _ (lw2_f _ (lw2_k _ lw2_nil))))) ?_
      refine g_cv rfl rfl (by decide) rfl rfl (Nat.le_of_ble_eq_true rfl) (as2 := [AI 1]) rfl sh3 rfl (by omega) (L0 := [vR r0, vI 1]) rfl ?_
      exact (k6 c1 c5)

set_option maxRecDepth 8192 in
theorem t186_162 {d : Nat} {τ : T2} {Q : RS → T2 → Prop} {s0 : Nat} (hd : 16 ≤ d) (sh1 : tS τ s0 = (1, 18, 0)) (k1 : Q (.inr s0) τ) : G d 186 162 [none, none, none, none, none] [AR s0] τ Q := by
  refine g_thr rfl sh1 rfl (by omega) rfl ?_
  exact k1

set_option maxRecDepth 8192 in
theorem t186_177 {d : Nat} {τ : T2} {Q : RS → T2 → Prop} {s0 : Nat} (hd : 16 ≤ d) (sh1 : tS τ s0 = (1, 18, 0)) (k1 : Q (.inr s0) τ) : G d 186 177 [none, none, none, none, none] [AR s0] τ Q := by
  refine g_thr rfl sh1 rfl (by omega) rfl ?_
  exact k1

set_option maxRecDepth 8192 in
theorem t186_192 {d : Nat} {τ : T2} {Q : RS → T2 → Prop} {x2 x3 : Int} {r0 : Nat} {r1 : Option Nat} (hd : 1 ≤ d) (sh4 : tS τ r0 = (1, 21, 0)) (k1 : ¬ x3 = 0 → ¬ x3 = 1 → ¬ x3 = 2 → G (d - 1) 182 0 [vR r0, vI 0, vI 999, none] [] τ (KC d 186 241 244 [vR r0, vQ r1, vI x2, vI x3, none] [] Q)) (k2 : ¬ x3 = 0 → ¬ x3 = 1 → x3 = 2 → G (d - 1) 182 0 [vR r0, vI 0, vI 5, none] [] τ (KC d 186 230 233 [vR r0, vQ r1, vI x2, vI x3, none] [] Q)) (k3 : ¬ x3 = 0 → x3 = 1 → G (d - 1) 183 0 [vR r0, vI (tI τ r0 4), none] [] τ (KC d 186 216 219 [vR r0, vQ r1, vI x2, vI x3, none] [] Q)) (k4 : x3 = 0 → G (d - 1) 182 0 [vR r0, vI 0, vI 20, none] [] τ (KC d 186 200 203 [vR r0, vQ r1, vI x2, vI x3, none] [] Q)) : G d 186 192 [vR r0, vQ r1, vI x2, vI x3, none] [] τ Q := by
  refine g_sk 1 (pc1 := 193) (st1 := [AI x3]) rfl ?_
  refine g_br1 rfl (t := 206) rfl (fun c1 => ?_) (fun c1 => ?_)
  · have c1 : ¬ x3 = 0 := of_decide_eq_true c1
    refine g_sk 2 (pc1 := 208) (st1 := [AI 1, AI x3]) rfl ?_
    refine g_br2 rfl (t := 222) rfl (fun c2 => ?_) (fun c2 => ?_)
    · have c2 : ¬ x3 = 1 := of_decide_eq_true c2
      refine g_sk 2 (pc1 := 224) (st1 := [AI 2, AI x3]) rfl ?_
      refine g_br2 rfl (t := 236) rfl (fun c3 => ?_) (fun c3 => ?_)
      · have c3 : ¬ x3 = 2 := of_decide_eq_true c3
        refine g_sk 3 (pc1 := 241) (st1 := [AI 999, AI 0, AR r0]) rfl ?_
        refine g_cv rfl rfl (by decide) rfl rfl (Nat.le_of_ble_eq_true rfl) (as2 := [AI 0, AI 999]) rfl sh4 rfl (by omega) (L0 := [vR r0, vI 0, vI 999, none]) rfl ?_
        exact (k1 c1 c2 c3)
      · have c3 : x3 = 2 := Decidable.of_not_not (of_decide_eq_false c3)
        refine g_sk 3 (pc1 := 230) (st1 := [AI 5, AI 0, AR r0]) rfl ?_
        refine g_cv rfl rfl (by decide) rfl rfl (Nat.le_of_ble_eq_true rfl) (as2 := [AI 0, AI 5]) rfl sh4 rfl (by omega) (L0 := [vR r0, vI 0, vI 5, none]) rfl ?_
        exact (k2 c1 c2 c3)
    · have c2 : x3 = 1 := Decidable.of_not_not (of_decide_eq_false c2)
      refine g_sk 2 (pc1 := 213) (st1 := [AR r0, AR r0]) rfl ?_
      refine g_gI rfl (ci := 21) (k := 4) rfl sh4 ?_
      refine g_cv rfl rfl (by decide) rfl rfl (Nat.le_of_ble_eq_true rfl) (as2 := [AI (tI τ r0 4)]) rfl sh4 rfl (by omega) (L0 := [vR r0, vI (tI τ r0 4), none]) rfl ?_
      exact (k3 c1 c2)
  · have c1 : x3 = 0 := Decidable.of_not_not (of_decide_eq_false c1)
    refine g_sk 3 (pc1 := 200) (st1 := [AI 20, AI 0, AR r0]) rfl ?_
    refine g_cv rfl rfl (by decide) rfl rfl (Nat.le_of_ble_eq_true rfl) (as2 := [AI 0, AI 20]) rfl sh4 rfl (by omega) (L0 := [vR r0, vI 0, vI 20, none]) rfl ?_
    exact (k4 c1)

set_option maxRecDepth 8192 in
theorem t186_203 {d : Nat} {τ : T2} {Q : RS → T2 → Prop} {x2 x3 y0 : Int} {r0 r1 : Nat} (hd : 1 ≤ d) (sh2 : tS τ r1 = (1, 17, 0)) (sh3 : tS τ r0 = (1, 21, 0)) (k1 : ¬ x3 = 2 → G (d - 1) 153 0 [vR r1, vI x3, vI y0, vI 0] [] τ (KC d 186 266 269 [none, vR r1, vI x2, none, none] [] Q)) (k2 : x3 = 2 → G (d - 1) 182 0 [vR r0, vI 0, vI 20, none] [] τ (KC d 186 259 262 [none, vR r1, vI x2, none, none] [AI y0, AI x3, AR r1] Q)) : G d 186 203 [vR r0, vR r1, vI x2, vI x3, none] [AI y0] τ Q := by
  refine g_sx 7 (pc1 := 252) (L1 := [vR r0, vR r1, vI x2, vI x3, vI y0]) (st1 := [AI 2, AI x3, AI y0, AI x3, AR r1]) rfl ?_
  refine g_br2 rfl (t := 265) rfl (fun c1 => ?_) (fun c1 => ?_)
  · have c1 : ¬ x3 = 2 := of_decide_eq_true c1
    refine g_sk 1 (pc1 := 266) (st1 := [AI 0, AI y0, AI x3, AR r1]) rfl ?_
    refine G_fg (lw2_f _ (lw2_k _ (lw2_k _ (lw2_f _ (lw2_f _ lw2_nil))))) ?_
    refine g_cv rfl rfl (by decide) rfl rfl (Nat.le_of_ble_eq_true rfl) (as2 := [AI x3, AI y0, AI 0]) rfl sh2 rfl (by omega) (L0 := [vR r1, vI x3, vI y0, vI 0]) rfl ?_
    exact (k1 c1)
  · have c1 : x3 = 2 := Decidable.of_not_not (of_decide_eq_false c1)
    refine g_sk 3 (pc1 := 259) (st1 := [AI 20, AI 0, AR r0, AI y0, AI x3, AR r1]) rfl ?_
    refine G_fg (lw2_f _ (lw2_k _ (lw2_k _ (lw2_f _ (lw2_f _ lw2_nil))))) ?_
    refine g_cv rfl rfl (by decide) rfl rfl (Nat.le_of_ble_eq_true rfl) (as2 := [AI 0, AI 20]) rfl sh3 rfl (by omega) (L0 := [vR r0, vI 0, vI 20, none]) rfl ?_
    exact (k2 c1)

set_option maxRecDepth 8192 in
theorem t186_219 {d : Nat} {τ : T2} {Q : RS → T2 → Prop} {x2 x3 y0 : Int} {r0 r1 : Nat} (hd : 1 ≤ d) (sh2 : tS τ r1 = (1, 17, 0)) (sh3 : tS τ r0 = (1, 21, 0)) (k1 : ¬ x3 = 2 → G (d - 1) 153 0 [vR r1, vI x3, vI y0, vI 0] [] τ (KC d 186 266 269 [none, vR r1, vI x2, none, none] [] Q)) (k2 : x3 = 2 → G (d - 1) 182 0 [vR r0, vI 0, vI 20, none] [] τ (KC d 186 259 262 [none, vR r1, vI x2, none, none] [AI y0, AI x3, AR r1] Q)) : G d 186 219 [vR r0, vR r1, vI x2, vI x3, none] [AI y0] τ Q := by
  refine g_sx 7 (pc1 := 252) (L1 := [vR r0, vR r1, vI x2, vI x3, vI y0]) (st1 := [AI 2, AI x3, AI y0, AI x3, AR r1]) rfl ?_
  refine g_br2 rfl (t := 265) rfl (fun c1 => ?_) (fun c1 => ?_)
  · have c1 : ¬ x3 = 2 := of_decide_eq_true c1
    refine g_sk 1 (pc1 := 266) (st1 := [AI 0, AI y0, AI x3, AR r1]) rfl ?_
    refine G_fg (lw2_f _ (lw2_k _ (lw2_k _ (lw2_f _ (lw2_f _ lw2_nil))))) ?_
    refine g_cv rfl rfl (by decide) rfl rfl (Nat.le_of_ble_eq_true rfl) (as2 := [AI x3, AI y0, AI 0]) rfl sh2 rfl (by omega) (L0 := [vR r1, vI x3, vI y0, vI 0]) rfl ?_
    exact (k1 c1)
  · have c1 : x3 = 2 := Decidable.of_not_not (of_decide_eq_false c1)
    refine g_sk 3 (pc1 := 259) (st1 := [AI 20, AI 0, AR r0, AI y0, AI x3, AR r1]) rfl ?_
    refine G_fg (lw2_f _ (lw2_k _ (lw2_k _ (lw2_f _ (lw2_f _ lw2_nil))))) ?_
    refine g_cv rfl rfl (by decide) rfl rfl (Nat.le_of_ble_eq_true rfl) (as2 := [AI 0, AI 20]) rfl sh3 rfl (by omega) (L0 := [vR r0, vI 0, vI 20, none]) rfl ?_
    exact (k2 c1)

set_option maxRecDepth 8192 in
theorem t186_233 {d : Nat} {τ : T2} {Q : RS → T2 → Prop} {x2 x3 y0 : Int} {r0 r1 : Nat} (hd : 1 ≤ d) (sh2 : tS τ r1 = (1, 17, 0)) (sh3 : tS τ r0 = (1, 21, 0)) (k1 : ¬ x3 = 2 → G (d - 1) 153 0 [vR r1, vI x3, vI y0, vI 0] [] τ (KC d 186 266 269 [none, vR r1, vI x2, none, none] [] Q)) (k2 : x3 = 2 → G (d - 1) 182 0 [vR r0, vI 0, vI 20, none] [] τ (KC d 186 259 262 [none, vR r1, vI x2, none, none] [AI y0, AI x3, AR r1] Q)) : G d 186 233 [vR r0, vR r1, vI x2, vI x3, none] [AI y0] τ Q := by
  refine g_sx 7 (pc1 := 252) (L1 := [vR r0, vR r1, vI x2, vI x3, vI y0]) (st1 := [AI 2, AI x3, AI y0, AI x3, AR r1]) rfl ?_
  refine g_br2 rfl (t := 265) rfl (fun c1 => ?_) (fun c1 => ?_)
  · have c1 : ¬ x3 = 2 := of_decide_eq_true c1
    refine g_sk 1 (pc1 := 266) (st1 := [AI 0, AI y0, AI x3, AR r1]) rfl ?_
    refine G_fg (lw2_f _ (lw2_k _ (lw2_k _ (lw2_f _ (lw2_f _ lw2_nil))))) ?_
    refine g_cv rfl rfl (by decide) rfl rfl (Nat.le_of_ble_eq_true rfl) (as2 := [AI x3, AI y0, AI 0]) rfl sh2 rfl (by omega) (L0 := [vR r1, vI x3, vI y0, vI 0]) rfl ?_
    exact (k1 c1)
  · have c1 : x3 = 2 := Decidable.of_not_not (of_decide_eq_false c1)
    refine g_sk 3 (pc1 := 259) (st1 := [AI 20, AI 0, AR r0, AI y0, AI x3, AR r1]) rfl ?_
    refine G_fg (lw2_f _ (lw2_k _ (lw2_k _ (lw2_f _ (lw2_f _ lw2_nil))))) ?_
    refine g_cv rfl rfl (by decide) rfl rfl (Nat.le_of_ble_eq_true rfl) (as2 := [AI 0, AI 20]) rfl sh3 rfl (by omega) (L0 := [vR r0, vI 0, vI 20, none]) rfl ?_
    exact (k2 c1)

set_option maxRecDepth 8192 in
theorem t186_244 {d : Nat} {τ : T2} {Q : RS → T2 → Prop} {x2 x3 y0 : Int} {r0 r1 : Nat} (hd : 1 ≤ d) (sh2 : tS τ r1 = (1, 17, 0)) (sh3 : tS τ r0 = (1, 21, 0)) (k1 : ¬ x3 = 2 → G (d - 1) 153 0 [vR r1, vI x3, vI y0, vI 0] [] τ (KC d 186 266 269 [none, vR r1, vI x2, none, none] [] Q)) (k2 : x3 = 2 → G (d - 1) 182 0 [vR r0, vI 0, vI 20, none] [] τ (KC d 186 259 262 [none, vR r1, vI x2, none, none] [AI y0, AI x3, AR r1] Q)) : G d 186 244 [vR r0, vR r1, vI x2, vI x3, none] [AI y0] τ Q := by
  refine g_sx 6 (pc1 := 252) (L1 := [vR r0, vR r1, vI x2, vI x3, vI y0]) (st1 := [AI 2, AI x3, AI y0, AI x3, AR r1]) rfl ?_
  refine g_br2 rfl (t := 265) rfl (fun c1 => ?_) (fun c1 => ?_)
  · have c1 : ¬ x3 = 2 := of_decide_eq_true c1
    refine g_sk 1 (pc1 := 266) (st1 := [AI 0, AI y0, AI x3, AR r1]) rfl ?_
    refine G_fg (lw2_f _ (lw2_k _ (lw2_k _ (lw2_f _ (lw2_f _ lw2_nil))))) ?_
    refine g_cv rfl rfl (by decide) rfl rfl (Nat.le_of_ble_eq_true rfl) (as2 := [AI x3, AI y0, AI 0]) rfl sh2 rfl (by omega) (L0 := [vR r1, vI x3, vI y0, vI 0]) rfl ?_
    exact (k1 c1)
  · have c1 : x3 = 2 := Decidable.of_not_not (of_decide_eq_false c1)
    refine g_sk 3 (pc1 := 259) (st1 := [AI 20, AI 0, AR r0, AI y0, AI x3, AR r1]) rfl ?_
    refine G_fg (lw2_f _ (lw2_k _ (lw2_k _ (lw2_f _ (lw2_f _ lw2_nil))))) ?_
    refine g_cv rfl rfl (by decide) rfl rfl (Nat.le_of_ble_eq_true rfl) (as2 := [AI 0, AI 20]) rfl sh3 rfl (by omega) (L0 := [vR r0, vI 0, vI 20, none]) rfl ?_
    exact (k2 c1)

set_option maxRecDepth 8192 in
theorem t186_262 {d : Nat} {τ : T2} {Q : RS → T2 → Prop} {x2 y0 y1 y2 : Int} {s3 : Nat} {r1 : Option Nat} (hd : 1 ≤ d) (sh1 : tS τ s3 = (1, 17, 0)) (k1 : G (d - 1) 153 0 [vR s3, vI y2, vI y1, vI y0] [] τ (KC d 186 266 269 [none, vQ r1, vI x2, none, none] [] Q)) : G d 186 262 [none, vQ r1, vI x2, none, none] [AI y0, AI y1, AI y2, AR s3] τ Q := by
  refine g_sk 1 (pc1 := 266) (st1 := [AI y0, AI y1, AI y2, AR s3]) rfl ?_
  refine g_cv rfl rfl (by decide) rfl rfl (Nat.le_of_ble_eq_true rfl) (as2 := [AI y2, AI y1, AI y0]) rfl sh1 rfl (by omega) (L0 := [vR s3, vI y2, vI y1, vI y0]) rfl ?_
  exact k1

set_option maxRecDepth 8192 in
theorem t186_269 {d : Nat} {τ : T2} {Q : RS → T2 → Prop} {x2 : Int} {r1 : Nat} (hd : 1 ≤ d) (sh2 : tS τ r1 = (1, 17, 0)) (k1 : ¬ (zrem x2 2) = 1 → Q (.inl none) τ) (k2 : (zrem x2 2) = 1 → G (d - 1) 153 0 [vR r1, vI 4, vI 0, vI 0] [] τ (KC d 186 280 283 [none, none, none, none, none] [] Q)) : G d 186 269 [none, vR r1, vI x2, none, none] [] τ Q := by
  refine g_sk 2 (pc1 := 271) (st1 := [AI 2, AI x2]) rfl ?_
  refine g_rem rfl (by decide) ?_
  refine g_sk 1 (pc1 := 273) (st1 := [AI 1, AI (zrem x2 2)]) rfl ?_
  refine g_br2 rfl (t := 283) rfl (fun c1 => ?_) (fun c1 => ?_)
  · have c1 : ¬ (zrem x2 2) = 1 := of_decide_eq_true c1
    refine g_vret rfl rfl ?_
    exact (k1 c1)
  · have c1 : (zrem x2 2) = 1 := Decidable.of_not_not (of_decide_eq_false c1)
    refine g_sk 4 (pc1 := 280) (st1 := [AI 0, AI 0, AI 4, AR r1]) rfl ?_
    refine G_fg (lw2_k _ (lw2_f _ (lw2_f _ (lw2_k _ (lw2_k _ lw2_nil))))) ?_
    refine g_cv rfl rfl (by decide) rfl rfl (Nat.le_of_ble_eq_true rfl) (as2 := [AI 4, AI 0, AI 0]) rfl sh2 rfl (by omega) (L0 := [vR r1, vI 4, vI 0, vI 0]) rfl ?_
    exact (k2 c1)

set_option maxRecDepth 8192 in
theorem t186_283 {d : Nat} {τ : T2} {Q : RS → T2 → Prop}  (k1 : Q (.inl none) τ) : G d 186 283 [none, none, none, none, none] [] τ Q := by
  refine g_vret rfl rfl ?_
  exact k1

set_option maxRecDepth 8192 in
theorem t187_0 {d : Nat} {τ : T2} {Q : RS → T2 → Prop} {x1 x2 x3 : Int} {r0 q2 n4 q7 : Nat} (sh1 : tS τ r0 = (1, 21, 0)) (p3 : tP τ r0 8 = some q2) (sh5 : tS τ q2 = (3, 7, n4)) (b6 : (0 : Int) ≤ x1 ∧ x1 < (n4 : Int)) (p8 : tP τ q2 x1.toNat = some q7) (sh9 : tS τ q7 = (1, 15, 0)) (k1 : ∀ q11, (tP τ q7 9) = some q11 → G d 187 18 [vR r0, none, vI x2, vI x3, vR q11, none, none] [] τ Q) (k2 : (tP τ q7 9) = none → Q (.inl (some (AI 1))) τ) : G d 187 0 [vR r0, vI x1, vI x2, vI x3, none, none, none] [] τ Q := by
  refine g_sk 1 (pc1 := 1) (st1 := [AR r0]) rfl ?_
  refine g_gQ rfl (ci := 21) (k := 8) rfl sh1 p3 ?_
  refine g_sk 1 (pc1 := 5) (st1 := [AI x1, AR q2]) rfl ?_
  refine g_aalQ rfl sh5 (by decide) b6.1 b6.2 p8 ?_
  refine g_gP rfl (ci := 15) (k := 9) rfl sh9 ?_
  refine g_sx 2 (pc1 := 13) (L1 := [vR r0, vI x1, vI x2, vI x3, vQ (tP τ q7 9), none, none]) (st1 := [AP (tP τ q7 9)]) rfl ?_
  refine g_nnl rfl (t := 18) rfl (fun q11 c10 => ?_) (fun c10 => ?_)
  · skip
    rw [c10]
    exact G_fg (lw2_k _ (lw2_f _ (lw2_k _ (lw2_k _ (lw2_k _ (lw2_k _ (lw2_k _ lw2_nil))))))) (k1 q11 c10)
  · skip
    refine g_sk 1 (pc1 := 17) (st1 := [AI 1]) rfl ?_
    refine g_zret rfl rfl (by decide) ?_
    exact (k2 c10)

set_option maxRecDepth 8192 in
theorem t187_16 {d : Nat} {τ : T2} {Q : RS → T2 → Prop}  (k1 : Q (.inl (some (AI 1))) τ) : G d 187 16 [none, none, none, none, none, none, none] [] τ Q := by
  refine g_sk 1 (pc1 := 17) (st1 := [AI 1]) rfl ?_
  refine g_zret rfl rfl (by decide) ?_
  exact k1

set_option maxRecDepth 8192 in
theorem t187_18 {d : Nat} {τ : T2} {Q : RS → T2 → Prop} {x2 x3 : Int} {r0 : Nat} {r4 : Option Nat} (k1 : G d 187 24 [vR r0, none, vI x2, vI x3, vQ r4, vI 0, vI 0] [] τ Q) : G d 187 18 [vR r0, none, vI x2, vI x3, vQ r4, none, none] [] τ Q := by
  refine g_sx 4 (pc1 := 24) (L1 := [vR r0, none, vI x2, vI x3, vQ r4, vI 0, vI 0]) (st1 := []) rfl ?_
  exact k1

set_option maxRecDepth 8192 in
theorem t187_24 {d : Nat} {τ : T2} {Q : RS → T2 → Prop} {x2 x3 x5 x6 : Int} {r0 r4 q4 n6 q10 n12 : Nat} (sh1 : tS τ r4 = (1, 17, 0)) (sh3 : tS τ r0 = (1, 21, 0)) (p5 : tP τ r0 25 = some q4) (sh7 : tS τ q4 = (2, 2, n6)) (b8 : (0 : Int) ≤ 0 ∧ 0 < (n6 : Int)) (p9 : (tI τ r4 3) ≤ x6 → (tI τ q4 0) = 0 ∨ (tI τ q4 0) = 1) (p11 : tP τ r4 0 = some q10) (sh13 : tS τ q10 = (2, 0, n12)) (b14 : x6 < (tI τ r4 3) → (0 : Int) ≤ x6 ∧ x6 < (n12 : Int)) (k1 : (tI τ r4 3) ≤ x6 → Q (.inl (some (AI (tI τ q4 0)))) τ) (k2 : x6 < (tI τ r4 3) → G d 187 42 [vR r0, none, vI x2, vI x3, vR r4, vI x5, vI x6] [AI (tI τ q10 x6.toNat)] τ Q) : G d 187 24 [vR r0, none, vI x2, vI x3, vR r4, vI x5, vI x6] [] τ Q := by
  refine g_sk 2 (pc1 := 28) (st1 := [AR r4, AI x6]) rfl ?_
  refine g_gI rfl (ci := 17) (k := 3) rfl sh1 ?_
  refine g_br2 rfl (t := 227) rfl (fun c2 => ?_) (fun c2 => ?_)
  · have c2 : (tI τ r4 3) ≤ x6 := of_decide_eq_true c2
    refine g_sk 1 (pc1 := 228) (st1 := [AR r0]) rfl ?_
    refine g_gQ rfl (ci := 21) (k := 25) rfl sh3 p5 ?_
    refine g_sk 1 (pc1 := 232) (st1 := [AI 0, AR q4]) rfl ?_
    refine g_bald rfl sh7 (by decide) b8.1 b8.2 ?_
    refine g_zret rfl rfl (p9 c2) ?_
    exact (k1 c2)
  · have c2 : x6 < (tI τ r4 3) := Int.not_le.mp (of_decide_eq_false c2)
    refine g_sk 1 (pc1 := 36) (st1 := [AR r4]) rfl ?_
    refine g_gQ rfl (ci := 17) (k := 0) rfl sh1 p11 ?_
    refine g_sk 1 (pc1 := 41) (st1 := [AI x6, AR q10]) rfl ?_
    refine g_iald rfl sh13 (by decide) (b14 c2).1 (b14 c2).2 ?_
    exact (k2 c2)

set_option maxRecDepth 8192 in
theorem t187_217 {d : Nat} {τ : T2} {Q : RS → T2 → Prop} {x2 x3 x5 x6 y0 y1 : Int} {r0 s2 n1 : Nat} {r4 : Option Nat} (sh2 : tS τ s2 = (2, 2, n1)) (b3 : (0 : Int) ≤ y1 ∧ y1 < (n1 : Int)) (p4 : y0 = 0 ∨ y0 = 1) (k1 : G d 187 24 [vR r0, none, vI x2, vI x3, vQ r4, vI (wr (x5 + 1)), vI (wr (x6 + 1))] [] (uI τ s2 y1.toNat y0) Q) : G d 187 217 [vR r0, none, vI x2, vI x3, vQ r4, vI x5, vI x6] [AI y0, AI y1, AR s2] τ Q := by
  refine g_zast rfl sh2 p4 b3.1 b3.2 ?_
  refine g_sx 3 (pc1 := 24) (L1 := [vR r0, none, vI x2, vI x3, vQ r4, vI (wr (x5 + 1)), vI (wr (x6 + 1))]) (st1 := []) rfl ?_
  exact k1

set_option maxRecDepth 8192 in
theorem t188_0 {d : Nat} {τ : T2} {Q : RS → T2 → Prop} {x1 x2 x3 x4 x5 : Int} {r0 : Nat} (hd : 1 ≤ d) (k1 : ¬ x1 = 0 → ¬ x1 = 1 → ¬ x1 = 3 → G d 188 63 [vR r0, none, vI x2, vI x3, vI x4, none, vI 0, vI 0] [] τ Q) (k2 : ¬ x1 = 0 → ¬ x1 = 1 → x1 = 3 → x5 < x2 → Q (.inl (some (AI 0))) τ) (k3 : ¬ x1 = 0 → ¬ x1 = 1 → x1 = 3 → x2 ≤ x5 → Q (.inl (some (AI 1))) τ) (k4 : ¬ x1 = 0 → x1 = 1 → ¬ (zand (zshr x4 x2) 1) = 1 → Q (.inl (some (AI 0))) τ) (k5 : ¬ x1 = 0 → x1 = 1 → (zand (zshr x4 x2) 1) = 1 → Q (.inl (some (AI 1))) τ) (k6 : x1 = 0 → G (d - 1) 168 0 [vI x4, none, none] [] τ (KC d 188 6 9 [none, none, vI x2, none, none, none, none, none] [] Q)) : G d 188 0 [vR r0, vI x1, vI x2, vI x3, vI x4, vI x5, none, none] [] τ Q := by
  refine g_sk 1 (pc1 := 1) (st1 := [AI x1]) rfl ?_
  refine g_br1 rfl (t := 19) rfl (fun c1 => ?_) (fun c1 => ?_)
  · have c1 : ¬ x1 = 0 := of_decide_eq_true c1
    refine g_sk 2 (pc1 := 21) (st1 := [AI 1, AI x1]) rfl ?_
    refine g_br2 rfl (t := 40) rfl (fun c2 => ?_) (fun c2 => ?_)
    · have c2 : ¬ x1 = 1 := of_decide_eq_true c2
      refine g_sk 2 (pc1 := 42) (st1 := [AI 3, AI x1]) rfl ?_
      refine g_br2 rfl (t := 57) rfl (fun c3 => ?_) (fun c3 => ?_)
      · have c3 : ¬ x1 = 3 := of_decide_eq_true c3
        refine g_sx 4 (pc1 := 63) (L1 := [vR r0, vI x1, vI x2, vI x3, vI x4, vI x5, vI 0, vI 0]) (st1 := []) rfl ?_
        exact G_fg (lw2_k _ (lw2_f _ (lw2_k _ (lw2_k _ (lw2_k _ (lw2_f _ (lw2_k _ (lw2_k _ lw2_nil)))))))) (k1 c1 c2 c3)
      · have c3 : x1 = 3 := Decidable.of_not_not (of_decide_eq_false c3)
        refine g_sk 2 (pc1 := 48) (st1 := [AI x2, AI x5]) rfl ?_
        refine g_br2 rfl (t := 55) rfl (fun c4 => ?_) (fun c4 => ?_)
        · have c4 : x5 < x2 := of_decide_eq_true c4
          refine g_sk 1 (pc1 := 56) (st1 := [AI 0]) rfl ?_
          refine g_zret rfl rfl (by decide) ?_
          exact (k2 c1 c2 c3 c4)
        · have c4 : x2 ≤ x5 := Int.not_lt.mp (of_decide_eq_false c4)
          refine g_sk 2 (pc1 := 56) (st1 := [AI 1]) rfl ?_
          refine g_zret rfl rfl (by decide) ?_
          exact (k3 c1 c2 c3 c4)
    · have c2 : x1 = 1 := Decidable.of_not_not (of_decide_eq_false c2)
      refine g_sk 6 (pc1 := 31) (st1 := [AI 1, AI (zand (zshr x4 x2) 1)]) rfl ?_
      refine g_br2 rfl (t := 38) rfl (fun c5 => ?_) (fun c5 => ?_)
      · have c5 : ¬ (zand (zshr x4 x2) 1) = 1 := of_decide_eq_true c5
        refine g_sk 1 (pc1 := 39) (st1 := [AI 0]) rfl ?_
        refine g_zret rfl rfl (by decide) ?_
        exact (k4 c1 c2 c5)
      · have c5 : (zand (zshr x4 x2) 1) = 1 := Decidable.of_not_not (of_decide_eq_false c5)
        refine g_sk 2 (pc1 := 39) (st1 := [AI 1]) rfl ?_
        refine g_zret rfl rfl (by decide) ?_
        exact (k5 c1 c2 c5)
  · have c1 : x1 = 0 := Decidable.of_not_not (of_decide_eq_false c1)
    refine g_sk 1 (pc1 := 6) (st1 := [AI x4]) rfl ?_
    refine G_fg (lw2_f _ (lw2_f _ (lw2_k _ (lw2_f _ (lw2_f _ (lw2_f _ (lw2_k _ (lw2_k _ lw2_nil)))))))) ?_
    refine g_cs rfl rfl (by decide) rfl rfl (Nat.le_of_ble_eq_true rfl) rfl (by omega) (L0 := [vI x4, none, none]) rfl ?_
    exact (k6 c1)

set_option maxRecDepth 8192 in
theorem t188_9 {d : Nat} {τ : T2} {Q : RS → T2 → Prop} {x2 y0 : Int} (k1 : y0 < x2 → Q (.inl (some (AI 0))) τ) (k2 : x2 ≤ y0 → Q (.inl (some (AI 1))) τ) : G d 188 9 [none, none, vI x2, none, none, none, none, none] [AI y0] τ Q := by
  refine g_sk 1 (pc1 := 10) (st1 := [AI x2, AI y0]) rfl ?_
  refine g_br2 rfl (t := 17) rfl (fun c1 => ?_) (fun c1 => ?_)
  · have c1 : y0 < x2 := of_decide_eq_true c1
    refine g_sk 1 (pc1 := 18) (st1 := [AI 0]) rfl ?_
    refine g_zret rfl rfl (by decide) ?_
    exact (k1 c1)
  · have c1 : x2 ≤ y0 := Int.not_lt.mp (of_decide_eq_false c1)
    refine g_sk 2 (pc1 := 18) (st1 := [AI 1]) rfl ?_
    refine g_zret rfl rfl (by decide) ?_
    exact (k2 c1)

set_option maxRecDepth 8192 in
theorem t188_63 {d : Nat} {τ : T2} {Q : RS → T2 → Prop} {x2 x3 x4 x6 x7 : Int} {r0 q5 n7 q10 : Nat} (sh1 : tS τ r0 = (1, 21, 0)) (p6 : tP τ r0 8 = some q5) (sh8 : tS τ q5 = (3, 7, n7)) (b9 : x7 < (tI τ r0 4) → (zand (zshr x4 x7) 1) = 1 → (0 : Int) ≤ x7 ∧ x7 < (n7 : Int)) (p11 : x7 < (tI τ r0 4) → (zand (zshr x4 x7) 1) = 1 → tP τ q5 x7.toNat = some q10) (sh12 : tS τ q10 = (1, 15, 0)) (k1 : (tI τ r0 4) ≤ x7 → x6 < x3 → Q (.inl (some (AI 0))) τ) (k2 : (tI τ r0 4) ≤ x7 → x3 ≤ x6 → Q (.inl (some (AI 1))) τ) (k3 : x7 < (tI τ r0 4) → ¬ (zand (zshr x4 x7) 1) = 1 → G d 188 63 [vR r0, none, vI x2, vI x3, vI x4, none, vI (wr (x6 + 0)), vI (wr (x7 + 1))] [] τ Q) (k4 : x7 < (tI τ r0 4) → (zand (zshr x4 x7) 1) = 1 → ¬ (tI τ q10 1) = x2 → G d 188 63 [vR r0, none, vI x2, vI x3, vI x4, none, vI (wr (x6 + 0)), vI (wr (x7 + 1))] [] τ Q) (k5 : x7 < (tI τ r0 4) → (zand (zshr x4 x7) 1) = 1 → (tI τ q10 1) = x2 → G d 188 63 [vR r0, none, vI x2, vI x3, vI x4, none, vI (wr (x6 + 1)), vI (wr (x7 + 1))] [] τ Q) : G d 188 63 [vR r0, none, vI x2, vI x3, vI x4, none, vI x6, vI x7] [] τ Q := by
  refine g_sk 2 (pc1 := 66) (st1 := [AR r0, AI x7]) rfl ?_
  refine g_gI rfl (ci := 21) (k := 4) rfl sh1 ?_
  refine g_br2 rfl (t := 113) rfl (fun c2 => ?_) (fun c2 => ?_)
  · have c2 : (tI τ r0 4) ≤ x7 := of_decide_eq_true c2
    refine g_sk 2 (pc1 := 116) (st1 := [AI x3, AI x6]) rfl ?_
    refine g_br2 rfl (t := 123) rfl (fun c3 => ?_) (fun c3 => ?_)
    · have c3 : x6 < x3 := of_decide_eq_true c3
      refine g_sk 1 (pc1 := 124) (st1 := [AI 0]) rfl ?_
      refine g_zret rfl rfl (by decide) ?_
      exact (k1 c2 c3)
    · have c3 : x3 ≤ x6 := Int.not_lt.mp (of_decide_eq_false c3)
      refine g_sk 2 (pc1 := 124) (st1 := [AI 1]) rfl ?_
      refine g_zret rfl rfl (by decide) ?_
      exact (k2 c2 c3)
  · have c2 : x7 < (tI τ r0 4) := Int.not_le.mp (of_decide_eq_false c2)
    refine g_sk 7 (pc1 := 82) (st1 := [AI 1, AI (zand (zshr x4 x7) 1), AI x6]) rfl ?_
    refine g_br2 rfl (t := 103) rfl (fun c4 => ?_) (fun c4 => ?_)
    · have c4 : ¬ (zand (zshr x4 x7) 1) = 1 := of_decide_eq_true c4
      refine g_sx 5 (pc1 := 63) (L1 := [vR r0, none, vI x2, vI x3, vI x4, none, vI (wr (x6 + 0)), vI (wr (x7 + 1))]) (st1 := []) rfl ?_
      exact (k3 c2 c4)
    · have c4 : (zand (zshr x4 x7) 1) = 1 := Decidable.of_not_not (of_decide_eq_false c4)
      refine g_sk 1 (pc1 := 86) (st1 := [AR r0, AI x6]) rfl ?_
      refine g_gQ rfl (ci := 21) (k := 8) rfl sh1 p6 ?_
      refine g_sk 1 (pc1 := 91) (st1 := [AI x7, AR q5, AI x6]) rfl ?_
      refine g_aalQ rfl sh8 (by decide) (b9 c2 c4).1 (b9 c2 c4).2 (p11 c2 c4) ?_
      refine g_gI rfl (ci := 15) (k := 1) rfl sh12 ?_
      refine g_sk 1 (pc1 := 96) (st1 := [AI x2, AI (tI τ q10 1), AI x6]) rfl ?_
      refine g_br2 rfl (t := 103) rfl (fun c13 => ?_) (fun c13 => ?_)
      · have c13 : ¬ (tI τ q10 1) = x2 := of_decide_eq_true c13
        refine g_sx 5 (pc1 := 63) (L1 := [vR r0, none, vI x2, vI x3, vI x4, none, vI (wr (x6 + 0)), vI (wr (x7 + 1))]) (st1 := []) rfl ?_
        exact (k4 c2 c4 c13)
      · have c13 : (tI τ q10 1) = x2 := Decidable.of_not_not (of_decide_eq_false c13)
        refine g_sx 6 (pc1 := 63) (L1 := [vR r0, none, vI x2, vI x3, vI x4, none, vI (wr (x6 + 1)), vI (wr (x7 + 1))]) (st1 := []) rfl ?_
        exact (k5 c2 c4 c13)

set_option maxRecDepth 8192 in
theorem t189_0 {d : Nat} {τ : T2} {Q : RS → T2 → Prop} {r0 : Nat} (k1 : G d 189 3 [vR r0, none, none, none, none] [AR (tN τ)] (nC τ (1, 1, 0) 3) Q) : G d 189 0 [vR r0, none, none, none, none] [] τ Q := by
  refine g_new rfl (ci := 1) rfl (by decide) (by decide) ?_
  exact k1

set_option maxRecDepth 8192 in
theorem t189_3 {d : Nat} {τ : T2} {Q : RS → T2 → Prop} {r0 s0 : Nat} (hd : 1 ≤ d) (k1 : G (d - 1) 253 0 [vR s0] [] τ (KC d 189 4 7 [vR r0, none, none, none, none] [AR s0] Q)) : G d 189 3 [vR r0, none, none, none, none] [AR s0] τ Q := by
  refine g_sk 1 (pc1 := 4) (st1 := [AR s0, AR s0]) rfl ?_
  refine g_ci rfl rfl (by decide) rfl rfl (Nat.le_of_ble_eq_true rfl) (as2 := []) rfl rfl (by omega) (L0 := [vR s0]) rfl ?_
  exact k1

set_option maxRecDepth 8192 in
theorem t189_7 {d : Nat} {τ : T2} {Q : RS → T2 → Prop} {r0 : Nat} {s0 : Option Nat} (k1 : G d 189 10 [vR r0, vQ s0, vI 1, none, none] [] τ Q) : G d 189 7 [vR r0, none, none, none, none] [AP s0] τ Q := by
  refine g_sx 3 (pc1 := 10) (L1 := [vR r0, vQ s0, vI 1, none, none]) (st1 := []) rfl ?_
  exact k1

set_option maxRecDepth 8192 in
theorem t189_10 {d : Nat} {τ : T2} {Q : RS → T2 → Prop} {x2 : Int} {r0 : Nat} {r1 : Option Nat} (k1 : x2 = 0 → Q (.inl (some (AP r1))) τ) (k2 : ¬ x2 = 0 → G d 189 17 [vR r0, vQ r1, none, none, none] [AR (tN τ)] (nC τ (1, 16, 0) 1) Q) : G d 189 10 [vR r0, vQ r1, vI x2, none, none] [] τ Q := by
  refine g_sk 1 (pc1 := 11) (st1 := [AI x2]) rfl ?_
  refine g_br1 rfl (t := 102) rfl (fun c1 => ?_) (fun c1 => ?_)
  · have c1 : x2 = 0 := of_decide_eq_true c1
    refine g_sk 1 (pc1 := 103) (st1 := [AP r1]) rfl ?_
    refine g_aret rfl rfl ?_
    exact (k1 c1)
  · have c1 : ¬ x2 = 0 := of_decide_eq_false c1
    refine g_new rfl (ci := 16) rfl (by decide) (by decide) ?_
    exact G_fg (lw2_k _ (lw2_k _ (lw2_f _ (lw2_k _ (lw2_k _ lw2_nil))))) (k2 c1)

set_option maxRecDepth 8192 in
theorem t189_17 {d : Nat} {τ : T2} {Q : RS → T2 → Prop} {r0 s0 : Nat} {r1 : Option Nat} (hd : 1 ≤ d) (k1 : G (d - 1) 151 0 [vR s0] [] τ (KC d 189 18 21 [vR r0, vQ r1, none, none, none] [AR s0] Q)) : G d 189 17 [vR r0, vQ r1, none, none, none] [AR s0] τ Q := by
  refine g_sk 1 (pc1 := 18) (st1 := [AR s0, AR s0]) rfl ?_
  refine g_ci rfl rfl (by decide) rfl rfl (Nat.le_of_ble_eq_true rfl) (as2 := []) rfl rfl (by omega) (L0 := [vR s0]) rfl ?_
  exact k1

set_option maxRecDepth 8192 in
theorem t189_21 {d : Nat} {τ : T2} {Q : RS → T2 → Prop} {r0 : Nat} {r1 s0 : Option Nat} (k1 : G d 189 25 [vR r0, vQ r1, none, vQ s0, vI 1] [] τ Q) : G d 189 21 [vR r0, vQ r1, none, none, none] [AP s0] τ Q := by
  refine g_sx 3 (pc1 := 25) (L1 := [vR r0, vQ r1, none, vQ s0, vI 1]) (st1 := []) rfl ?_
  exact k1

set_option maxRecDepth 8192 in
theorem t189_25 {d : Nat} {τ : T2} {Q : RS → T2 → Prop} {x4 : Int} {r0 r1 r3 : Nat} (hd : 1 ≤ d) (sh2 : tS τ r1 = (1, 1, 0)) (sh3 : tS τ r3 = (1, 16, 0)) (sh4 : tS τ r0 = (1, 21, 0)) (k1 : x4 = 0 → G (d - 1) 257 0 [vR r1, vR r3] [] τ (KC d 189 80 83 [vR r0, vR r1, none, none, none] [] Q)) (k2 : ¬ x4 = 0 → G (d - 1) 190 0 [vR r0, none, none] [] τ (KC d 189 35 38 [vR r0, vR r1, none, vR r3, none] [AP (tP τ r3 0)] Q)) : G d 189 25 [vR r0, vR r1, none, vR r3, vI x4] [] τ Q := by
  refine g_sk 1 (pc1 := 27) (st1 := [AI x4]) rfl ?_
  refine g_br1 rfl (t := 78) rfl (fun c1 => ?_) (fun c1 => ?_)
  · have c1 : x4 = 0 := of_decide_eq_true c1
    refine g_sk 2 (pc1 := 80) (st1 := [AR r3, AR r1]) rfl ?_
    refine G_fg (lw2_k _ (lw2_k _ (lw2_k _ (lw2_f _ (lw2_f _ lw2_nil))))) ?_
    refine g_cv rfl rfl (by decide) rfl rfl (Nat.le_of_ble_eq_true rfl) (as2 := [AR r3]) rfl sh2 rfl (by omega) (L0 := [vR r1, vR r3]) rfl ?_
    exact (k1 c1)
  · have c1 : ¬ x4 = 0 := of_decide_eq_false c1
    refine g_sk 1 (pc1 := 31) (st1 := [AR r3]) rfl ?_
    refine g_gP rfl (ci := 16) (k := 0) rfl sh3 ?_
    refine g_sk 1 (pc1 := 35) (st1 := [AR r0, AP (tP τ r3 0)]) rfl ?_
    refine G_fg (lw2_k _ (lw2_k _ (lw2_k _ (lw2_k _ (lw2_f _ lw2_nil))))) ?_
    refine g_cv rfl rfl (by decide) rfl rfl (Nat.le_of_ble_eq_true rfl) (as2 := []) rfl sh4 rfl (by omega) (L0 := [vR r0, none, none]) rfl ?_
    exact (k2 c1)

set_option maxRecDepth 8192 in
theorem t189_38 {d : Nat} {τ : T2} {Q : RS → T2 → Prop} {r0 s1 : Nat} {r1 r3 s0 : Option Nat} (hd : 1 ≤ d) (sh1 : tS τ s1 = (1, 1, 0)) (k1 : G (d - 1) 257 0 [vR s1, vQ s0] [] τ (KC d 189 38 41 [vR r0, vQ r1, none, vQ r3, none] [] Q)) : G d 189 38 [vR r0, vQ r1, none, vQ r3, none] [AP s0, AR s1] τ Q := by
  refine g_cv rfl rfl (by decide) rfl rfl (Nat.le_of_ble_eq_true rfl) (as2 := [AP s0]) rfl sh1 rfl (by omega) (L0 := [vR s1, vQ s0]) rfl ?_
  exact k1

set_option maxRecDepth 8192 in
theorem t189_41 {d : Nat} {τ : T2} {Q : RS → T2 → Prop} {y0 : Int} {r0 : Nat} {r1 r3 : Option Nat} (hd : 1 ≤ d) (sh1 : tS τ r0 = (1, 21, 0)) (k1 : (tI τ r0 18) = 2 → G d 189 25 [vR r0, vQ r1, none, vQ r3, vI 1] [] τ Q) (k2 : ¬ (tI τ r0 18) = 2 → G (d - 1) 180 0 [vR r0, vI 40] [] τ (KC d 189 53 56 [vR r0, vQ r1, none, vQ r3, none] [] Q)) : G d 189 41 [vR r0, vQ r1, none, vQ r3, none] [AI y0] τ Q := by
  refine g_sk 2 (pc1 := 43) (st1 := [AR r0]) rfl ?_
  refine g_gI rfl (ci := 21) (k := 18) rfl sh1 ?_
  refine g_sk 1 (pc1 := 47) (st1 := [AI 2, AI (tI τ r0 18)]) rfl ?_
  refine g_br2 rfl (t := 68) rfl (fun c2 => ?_) (fun c2 => ?_)
  · have c2 : (tI τ r0 18) = 2 := of_decide_eq_true c2
    refine g_sx 4 (pc1 := 25) (L1 := [vR r0, vQ r1, none, vQ r3, vI 1]) (st1 := []) rfl ?_
    exact (k1 c2)
  · have c2 : ¬ (tI τ r0 18) = 2 := of_decide_eq_false c2
    refine g_sk 2 (pc1 := 53) (st1 := [AI 40, AR r0]) rfl ?_
    refine g_cv rfl rfl (by decide) rfl rfl (Nat.le_of_ble_eq_true rfl) (as2 := [AI 40]) rfl sh1 rfl (by omega) (L0 := [vR r0, vI 40]) rfl ?_
    exact (k2 c2)

set_option maxRecDepth 8192 in
theorem t189_56 {d : Nat} {τ : T2} {Q : RS → T2 → Prop} {y0 : Int} {r0 : Nat} {r1 r3 : Option Nat} (hd : 1 ≤ d) (sh2 : tS τ r0 = (1, 21, 0)) (k1 : ¬ y0 = 0 → G d 189 25 [vR r0, vQ r1, none, vQ r3, vI 1] [] τ Q) (k2 : y0 = 0 → G (d - 1) 180 0 [vR r0, vI 91] [] τ (KC d 189 62 65 [vR r0, vQ r1, none, vQ r3, none] [] Q)) : G d 189 56 [vR r0, vQ r1, none, vQ r3, none] [AI y0] τ Q := by
  refine g_br1 rfl (t := 68) rfl (fun c1 => ?_) (fun c1 => ?_)
  · have c1 : ¬ y0 = 0 := of_decide_eq_true c1
    refine g_sx 4 (pc1 := 25) (L1 := [vR r0, vQ r1, none, vQ r3, vI 1]) (st1 := []) rfl ?_
    exact (k1 c1)
  · have c1 : y0 = 0 := Decidable.of_not_not (of_decide_eq_false c1)
    refine g_sk 2 (pc1 := 62) (st1 := [AI 91, AR r0]) rfl ?_
    refine g_cv rfl rfl (by decide) rfl rfl (Nat.le_of_ble_eq_true rfl) (as2 := [AI 91]) rfl sh2 rfl (by omega) (L0 := [vR r0, vI 91]) rfl ?_
    exact (k2 c1)

set_option maxRecDepth 8192 in
theorem t189_65 {d : Nat} {τ : T2} {Q : RS → T2 → Prop} {y0 : Int} {r0 : Nat} {r1 r3 : Option Nat} (k1 : y0 = 0 → G d 189 25 [vR r0, vQ r1, none, vQ r3, vI 0] [] τ Q) (k2 : ¬ y0 = 0 → G d 189 25 [vR r0, vQ r1, none, vQ r3, vI 1] [] τ Q) : G d 189 65 [vR r0, vQ r1, none, vQ r3, none] [AI y0] τ Q := by
  refine g_br1 rfl (t := 72) rfl (fun c1 => ?_) (fun c1 => ?_)
  · have c1 : y0 = 0 := of_decide_eq_true c1
    refine g_sx 3 (pc1 := 25) (L1 := [vR r0, vQ r1, none, vQ r3, vI 0]) (st1 := []) rfl ?_
    exact (k1 c1)
  · have c1 : ¬ y0 = 0 := of_decide_eq_false c1
    refine g_sx 4 (pc1 := 25) (L1 := [vR r0, vQ r1, none, vQ r3, vI 1]) (st1 := []) rfl ?_
    exact (k2 c1)

set_option maxRecDepth 8192 in
theorem t189_83 {d : Nat} {τ : T2} {Q : RS → T2 → Prop} {y0 : Int} {r0 : Nat} {r1 : Option Nat} (hd : 1 ≤ d) (sh1 : tS τ r0 = (1, 21, 0)) (k1 : G (d - 1) 180 0 [vR r0, vI 47] [] τ (KC d 189 87 90 [vR r0, vQ r1, none, none, none] [] Q)) : G d 189 83 [vR r0, vQ r1, none, none, none] [AI y0] τ Q := by
  refine g_sk 3 (pc1 := 87) (st1 := [AI 47, AR r0]) rfl ?_
  refine g_cv rfl rfl (by decide) rfl rfl (Nat.le_of_ble_eq_true rfl) (as2 := [AI 47]) rfl sh1 rfl (by omega) (L0 := [vR r0, vI 47]) rfl ?_
  exact k1

set_option maxRecDepth 8192 in
theorem t189_90 {d : Nat} {τ : T2} {Q : RS → T2 → Prop} {y0 : Int} {r0 : Nat} {r1 : Option Nat} (hd : 1 ≤ d) (sh2 : tS τ r0 = (1, 21, 0)) (k1 : y0 = 0 → G d 189 10 [vR r0, vQ r1, vI y0, none, none] [] τ Q) (k2 : ¬ y0 = 0 → G (d - 1) 177 0 [vR r0, none, none] [] τ (KC d 189 96 99 [vR r0, vQ r1, vI y0, none, none] [] Q)) : G d 189 90 [vR r0, vQ r1, none, none, none] [AI y0] τ Q := by
  refine g_sx 2 (pc1 := 92) (L1 := [vR r0, vQ r1, vI y0, none, none]) (st1 := [AI y0]) rfl ?_
  refine g_br1 rfl (t := 99) rfl (fun c1 => ?_) (fun c1 => ?_)
  · have c1 : y0 = 0 := of_decide_eq_true c1
    refine g_sk 1 (pc1 := 10) (st1 := []) rfl ?_
    exact (k1 c1)
  · have c1 : ¬ y0 = 0 := of_decide_eq_false c1
    refine g_sk 1 (pc1 := 96) (st1 := [AR r0]) rfl ?_
    refine g_cv rfl rfl (by decide) rfl rfl (Nat.le_of_ble_eq_true rfl) (as2 := []) rfl sh2 rfl (by omega) (L0 := [vR r0, none, none]) rfl ?_
    exact (k2 c1)

set_option maxRecDepth 8192 in
theorem t189_99 {d : Nat} {τ : T2} {Q : RS → T2 → Prop} {x2 : Int} {r0 : Nat} {r1 : Option Nat} (k1 : G d 189 10 [vR r0, vQ r1, vI x2, none, none] [] τ Q) : G d 189 99 [vR r0, vQ r1, vI x2, none, none] [] τ Q := by
  refine g_sk 1 (pc1 := 10) (st1 := []) rfl ?_
  exact k1

set_option maxRecDepth 8192 in
theorem t190_0 {d : Nat} {τ : T2} {Q : RS → T2 → Prop} {r0 : Nat} (k1 : G d 190 3 [vR r0, none, none] [AR (tN τ)] (nC τ (1, 14, 0) 5) Q) : G d 190 0 [vR r0, none, none] [] τ Q := by
  refine g_new rfl (ci := 14) rfl (by decide) (by decide) ?_
  exact k1

set_option maxRecDepth 8192 in
theorem t190_3 {d : Nat} {τ : T2} {Q : RS → T2 → Prop} {r0 s0 : Nat} (hd : 1 ≤ d) (k1 : G (d - 1) 149 0 [vR s0] [] τ (KC d 190 4 7 [vR r0, none, none] [AR s0] Q)) : G d 190 3 [vR r0, none, none] [AR s0] τ Q := by
  refine g_sk 1 (pc1 := 4) (st1 := [AR s0, AR s0]) rfl ?_
  refine g_ci rfl rfl (by decide) rfl rfl (Nat.le_of_ble_eq_true rfl) (as2 := []) rfl rfl (by omega) (L0 := [vR s0]) rfl ?_
  exact k1

set_option maxRecDepth 8192 in
theorem t190_7 {d : Nat} {τ : T2} {Q : RS → T2 → Prop} {r0 s0 : Nat} (hd : 1 ≤ d) (sh1 : tS τ r0 = (1, 21, 0)) (sh4 : tS τ s0 = (1, 14, 0)) (k1 : ¬ (tI τ r0 18) = 2 → G (d - 1) 180 0 [vR r0, vI 40] [] τ (KC d 190 59 62 [vR r0, vR s0, none] [] Q)) (k2 : (tI τ r0 18) = 2 → ¬ (tI τ r0 26) = 40 → G (d - 1) 177 0 [vR r0, none, none] [] (uI (uI τ r0 26 (wr ((tI τ r0 26) + 1))) s0 0 (tI (uI τ r0 26 (wr ((tI τ r0 26) + 1))) r0 22)) (KC d 190 50 53 [vR r0, vR s0, none] [] Q)) (k3 : (tI τ r0 18) = 2 → (tI τ r0 26) = 40 → G (d - 1) 172 0 [vR r0, vI 4] [] τ (KC d 190 27 30 [none, none, none] [] Q)) : G d 190 7 [vR r0, none, none] [AR s0] τ Q := by
  refine g_sx 2 (pc1 := 9) (L1 := [vR r0, vR s0, none]) (st1 := [AR r0]) rfl ?_
  refine g_gI rfl (ci := 21) (k := 18) rfl sh1 ?_
  refine g_sk 1 (pc1 := 13) (st1 := [AI 2, AI (tI τ r0 18)]) rfl ?_
  refine g_br2 rfl (t := 56) rfl (fun c2 => ?_) (fun c2 => ?_)
  · have c2 : ¬ (tI τ r0 18) = 2 := of_decide_eq_true c2
    refine g_sk 2 (pc1 := 59) (st1 := [AI 40, AR r0]) rfl ?_
    refine g_cv rfl rfl (by decide) rfl rfl (Nat.le_of_ble_eq_true rfl) (as2 := [AI 40]) rfl sh1 rfl (by omega) (L0 := [vR r0, vI 40]) rfl ?_
    exact (k1 c2)
  · have c2 : (tI τ r0 18) = 2 := Decidable.of_not_not (of_decide_eq_false c2)
    refine g_sk 1 (pc1 := 17) (st1 := [AR r0]) rfl ?_
    refine g_gI rfl (ci := 21) (k := 26) rfl sh1 ?_
    refine g_sk 1 (pc1 := 22) (st1 := [AI 40, AI (tI τ r0 26)]) rfl ?_
    refine g_br2 rfl (t := 31) rfl (fun c3 => ?_) (fun c3 => ?_)
    · have c3 : ¬ (tI τ r0 26) = 40 := of_decide_eq_true c3
      refine g_sk 2 (pc1 := 33) (st1 := [AR r0, AR r0]) rfl ?_
      refine g_gI rfl (ci := 21) (k := 26) rfl sh1 ?_
      refine g_sk 2 (pc1 := 38) (st1 := [AI (wr ((tI τ r0 26) + 1)), AR r0]) rfl ?_
      refine g_putI (x := (wr ((tI τ r0 26) + 1))) rfl (ci := 21) (k := 26) (kd := 0) rfl (by decide) rfl rfl sh1 ?_
      refine g_sk 2 (pc1 := 43) (st1 := [AR r0, AR s0]) rfl ?_
      refine g_gL rfl (ci := 21) (k := 22) rfl sh1 ?_
      refine g_putI (x := (tI (uI τ r0 26 (wr ((tI τ r0 26) + 1))) r0 22)) rfl (ci := 14) (k := 0) (kd := 3) rfl (by decide) rfl rfl sh4 ?_
      refine g_sk 1 (pc1 := 50) (st1 := [AR r0]) rfl ?_
      refine g_cv rfl rfl (by decide) rfl rfl (Nat.le_of_ble_eq_true rfl) (as2 := []) rfl sh1 rfl (by omega) (L0 := [vR r0, none, none]) rfl ?_
      exact (k2 c2 c3)
    · have c3 : (tI τ r0 26) = 40 := Decidable.of_not_not (of_decide_eq_false c3)
      refine g_sk 2 (pc1 := 27) (st1 := [AI 4, AR r0]) rfl ?_
      refine G_fg (lw2_f _ (lw2_f _ (lw2_k _ lw2_nil))) ?_
      refine g_cv rfl rfl (by decide) rfl rfl (Nat.le_of_ble_eq_true rfl) (as2 := [AI 4]) rfl sh1 rfl (by omega) (L0 := [vR r0, vI 4]) rfl ?_
      exact (k3 c2 c3)

set_option maxRecDepth 8192 in
theorem t190_30 {d : Nat} {τ : T2} {Q : RS → T2 → Prop} {s0 : Nat} (hd : 16 ≤ d) (sh1 : tS τ s0 = (1, 18, 0)) (k1 : Q (.inr s0) τ) : G d 190 30 [none, none, none] [AR s0] τ Q := by
  refine g_thr rfl sh1 rfl (by omega) rfl ?_
  exact k1

set_option maxRecDepth 8192 in
theorem t190_53 {d : Nat} {τ : T2} {Q : RS → T2 → Prop} {r0 : Nat} {r1 : Option Nat} (hd : 1 ≤ d) (sh1 : tS τ r0 = (1, 21, 0)) (k1 : G (d - 1) 180 0 [vR r0, vI 63] [] τ (KC d 190 247 250 [vR r0, vQ r1, none] [] Q)) : G d 190 53 [vR r0, vQ r1, none] [] τ Q := by
  refine g_sk 3 (pc1 := 247) (st1 := [AI 63, AR r0]) rfl ?_
  refine g_cv rfl rfl (by decide) rfl rfl (Nat.le_of_ble_eq_true rfl) (as2 := [AI 63]) rfl sh1 rfl (by omega) (L0 := [vR r0, vI 63]) rfl ?_
  exact k1

set_option maxRecDepth 8192 in
theorem t190_62 {d : Nat} {τ : T2} {Q : RS → T2 → Prop} {y0 : Int} {r0 : Nat} {r1 : Option Nat} (hd : 1 ≤ d) (sh2 : tS τ r0 = (1, 21, 0)) (k1 : y0 = 0 → G (d - 1) 180 0 [vR r0, vI 91] [] τ (KC d 190 124 127 [vR r0, vQ r1, none] [] Q)) (k2 : ¬ y0 = 0 → ¬ (tI τ r0 23) = 8 → G (d - 1) 177 0 [vR r0, none, none] [] (uI τ r0 23 (wr ((tI τ r0 23) + 1))) (KC d 190 91 94 [vR r0, vQ r1, none] [] Q)) (k3 : ¬ y0 = 0 → (tI τ r0 23) = 8 → G (d - 1) 172 0 [vR r0, vI 4] [] τ (KC d 190 76 79 [none, none, none] [] Q)) : G d 190 62 [vR r0, vQ r1, none] [AI y0] τ Q := by
  refine g_br1 rfl (t := 121) rfl (fun c1 => ?_) (fun c1 => ?_)
  · have c1 : y0 = 0 := of_decide_eq_true c1
    refine g_sk 2 (pc1 := 124) (st1 := [AI 91, AR r0]) rfl ?_
    refine g_cv rfl rfl (by decide) rfl rfl (Nat.le_of_ble_eq_true rfl) (as2 := [AI 91]) rfl sh2 rfl (by omega) (L0 := [vR r0, vI 91]) rfl ?_
    exact (k1 c1)
  · have c1 : ¬ y0 = 0 := of_decide_eq_false c1
    refine g_sk 1 (pc1 := 66) (st1 := [AR r0]) rfl ?_
    refine g_gI rfl (ci := 21) (k := 23) rfl sh2 ?_
    refine g_sk 1 (pc1 := 71) (st1 := [AI 8, AI (tI τ r0 23)]) rfl ?_
    refine g_br2 rfl (t := 80) rfl (fun c3 => ?_) (fun c3 => ?_)
    · have c3 : ¬ (tI τ r0 23) = 8 := of_decide_eq_true c3
      refine g_sk 2 (pc1 := 82) (st1 := [AR r0, AR r0]) rfl ?_
      refine g_gI rfl (ci := 21) (k := 23) rfl sh2 ?_
      refine g_sk 2 (pc1 := 87) (st1 := [AI (wr ((tI τ r0 23) + 1)), AR r0]) rfl ?_
      refine g_putI (x := (wr ((tI τ r0 23) + 1))) rfl (ci := 21) (k := 23) (kd := 0) rfl (by decide) rfl rfl sh2 ?_
      refine g_sk 1 (pc1 := 91) (st1 := [AR r0]) rfl ?_
      refine g_cv rfl rfl (by decide) rfl rfl (Nat.le_of_ble_eq_true rfl) (as2 := []) rfl sh2 rfl (by omega) (L0 := [vR r0, none, none]) rfl ?_
      exact (k2 c1 c3)
    · have c3 : (tI τ r0 23) = 8 := Decidable.of_not_not (of_decide_eq_false c3)
      refine g_sk 2 (pc1 := 76) (st1 := [AI 4, AR r0]) rfl ?_
      refine G_fg (lw2_f _ (lw2_f _ (lw2_k _ lw2_nil))) ?_
      refine g_cv rfl rfl (by decide) rfl rfl (Nat.le_of_ble_eq_true rfl) (as2 := [AI 4]) rfl sh2 rfl (by omega) (L0 := [vR r0, vI 4]) rfl ?_
      exact (k3 c1 c3)

set_option maxRecDepth 8192 in
theorem t190_79 {d : Nat} {τ : T2} {Q : RS → T2 → Prop} {s0 : Nat} (hd : 16 ≤ d) (sh1 : tS τ s0 = (1, 18, 0)) (k1 : Q (.inr s0) τ) : G d 190 79 [none, none, none] [AR s0] τ Q := by
  refine g_thr rfl sh1 rfl (by omega) rfl ?_
  exact k1

set_option maxRecDepth 8192 in
theorem t190_94 {d : Nat} {τ : T2} {Q : RS → T2 → Prop} {r0 : Nat} {r1 : Option Nat} (hd : 1 ≤ d) (sh1 : tS τ r0 = (1, 21, 0)) (k1 : G (d - 1) 189 0 [vR r0, none, none, none, none] [] τ (KC d 190 96 99 [vR r0, vQ r1, none] [AP r1] Q)) : G d 190 94 [vR r0, vQ r1, none] [] τ Q := by
  refine g_sk 2 (pc1 := 96) (st1 := [AR r0, AP r1]) rfl ?_
  refine g_cv rfl rfl (by decide) rfl rfl (Nat.le_of_ble_eq_true rfl) (as2 := []) rfl sh1 rfl (by omega) (L0 := [vR r0, none, none, none, none]) rfl ?_
  exact k1

set_option maxRecDepth 8192 in
theorem t190_99 {d : Nat} {τ : T2} {Q : RS → T2 → Prop} {r0 s1 : Nat} {r1 s0 : Option Nat} (hd : 1 ≤ d) (sh1 : tS τ s1 = (1, 14, 0)) (sh2 : tS τ r0 = (1, 21, 0)) (k1 : G (d - 1) 181 0 [vR r0, vI 41] [] (uP τ s1 1 s0) (KC d 190 105 108 [vR r0, vQ r1, none] [] Q)) : G d 190 99 [vR r0, vQ r1, none] [AP s0, AR s1] τ Q := by
  refine g_putP rfl (ci := 14) (k := 1) rfl sh1 ?_
  refine g_sk 2 (pc1 := 105) (st1 := [AI 41, AR r0]) rfl ?_
  refine g_cv rfl rfl (by decide) rfl rfl (Nat.le_of_ble_eq_true rfl) (as2 := [AI 41]) rfl sh2 rfl (by omega) (L0 := [vR r0, vI 41]) rfl ?_
  exact k1

set_option maxRecDepth 8192 in
theorem t190_108 {d : Nat} {τ : T2} {Q : RS → T2 → Prop} {r0 : Nat} {r1 : Option Nat} (hd : 1 ≤ d) (sh1 : tS τ r0 = (1, 21, 0)) (k1 : G (d - 1) 180 0 [vR r0, vI 63] [] (uI τ r0 23 (wr ((tI τ r0 23) - 1))) (KC d 190 247 250 [vR r0, vQ r1, none] [] Q)) : G d 190 108 [vR r0, vQ r1, none] [] τ Q := by
  refine g_sk 2 (pc1 := 110) (st1 := [AR r0, AR r0]) rfl ?_
  refine g_gI rfl (ci := 21) (k := 23) rfl sh1 ?_
  refine g_sk 2 (pc1 := 115) (st1 := [AI (wr ((tI τ r0 23) - 1)), AR r0]) rfl ?_
  refine g_putI (x := (wr ((tI τ r0 23) - 1))) rfl (ci := 21) (k := 23) (kd := 0) rfl (by decide) rfl rfl sh1 ?_
  refine g_sk 3 (pc1 := 247) (st1 := [AI 63, AR r0]) rfl ?_
  refine g_cv rfl rfl (by decide) rfl rfl (Nat.le_of_ble_eq_true rfl) (as2 := [AI 63]) rfl sh1 rfl (by omega) (L0 := [vR r0, vI 63]) rfl ?_
  exact k1

set_option maxRecDepth 8192 in
theorem t190_127 {d : Nat} {τ : T2} {Q : RS → T2 → Prop} {y0 : Int} {r0 : Nat} {r1 : Option Nat} (hd : 1 ≤ d) (sh2 : tS τ r0 = (1, 21, 0)) (k1 : y0 = 0 → G (d - 1) 172 0 [vR r0, vI 1] [] τ (KC d 190 240 243 [none, none, none] [] Q)) (k2 : ¬ y0 = 0 → G (d - 1) 177 0 [vR r0, none, none] [] τ (KC d 190 131 134 [vR r0, vQ r1, none] [] Q)) : G d 190 127 [vR r0, vQ r1, none] [AI y0] τ Q := by
  refine g_br1 rfl (t := 238) rfl (fun c1 => ?_) (fun c1 => ?_)
  · have c1 : y0 = 0 := of_decide_eq_true c1
    refine g_sk 2 (pc1 := 240) (st1 := [AI 1, AR r0]) rfl ?_
    refine G_fg (lw2_f _ (lw2_f _ (lw2_k _ lw2_nil))) ?_
    refine g_cv rfl rfl (by decide) rfl rfl (Nat.le_of_ble_eq_true rfl) (as2 := [AI 1]) rfl sh2 rfl (by omega) (L0 := [vR r0, vI 1]) rfl ?_
    exact (k1 c1)
  · have c1 : ¬ y0 = 0 := of_decide_eq_false c1
    refine g_sk 1 (pc1 := 131) (st1 := [AR r0]) rfl ?_
    refine g_cv rfl rfl (by decide) rfl rfl (Nat.le_of_ble_eq_true rfl) (as2 := []) rfl sh2 rfl (by omega) (L0 := [vR r0, none, none]) rfl ?_
    exact (k2 c1)

set_option maxRecDepth 8192 in
theorem t190_134 {d : Nat} {τ : T2} {Q : RS → T2 → Prop} {r0 : Nat} {r1 : Option Nat} (k1 : G d 190 136 [vR r0, vQ r1, vI 1] [] τ Q) : G d 190 134 [vR r0, vQ r1, none] [] τ Q := by
  refine g_sx 2 (pc1 := 136) (L1 := [vR r0, vQ r1, vI 1]) (st1 := []) rfl ?_
  exact k1

set_option maxRecDepth 8192 in
theorem t190_136 {d : Nat} {τ : T2} {Q : RS → T2 → Prop} {x2 : Int} {r0 r1 q7 n9 : Nat} (hd : 1 ≤ d) (sh2 : tS τ r0 = (1, 21, 0)) (sh4 : tS τ r1 = (1, 14, 0)) (p8 : tP τ r1 2 = some q7) (sh10 : tS τ q7 = (2, 3, n9)) (b11 : ¬ x2 = 0 → (tI τ r0 18) = 2 → ¬ (tI τ r1 3) = 4 → ¬ (tI τ r0 26) = 40 → (0 : Int) ≤ (tI (uI τ r0 26 (wr ((tI τ r0 26) + 1))) r1 3) ∧ (tI (uI τ r0 26 (wr ((tI τ r0 26) + 1))) r1 3) < (n9 : Int)) (k1 : x2 = 0 → G (d - 1) 177 0 [vR r0, none, none] [] τ (KC d 190 233 236 [none, vR r1, none] [] Q)) (k2 : ¬ x2 = 0 → (tI τ r0 18) = 2 → (tI τ r1 3) = 4 → G (d - 1) 172 0 [vR r0, vI 4] [] τ (KC d 190 173 176 [none, none, none] [] Q)) (k3 : ¬ x2 = 0 → (tI τ r0 18) = 2 → ¬ (tI τ r1 3) = 4 → ¬ (tI τ r0 26) = 40 → ∀ τ12, (uI (uI (uI τ r0 26 (wr ((tI τ r0 26) + 1))) q7 (tI (uI τ r0 26 (wr ((tI τ r0 26) + 1))) r1 3).toNat (tI (uI τ r0 26 (wr ((tI τ r0 26) + 1))) r0 22)) r1 3 (wr ((tI (uI (uI τ r0 26 (wr ((tI τ r0 26) + 1))) q7 (tI (uI τ r0 26 (wr ((tI τ r0 26) + 1))) r1 3).toNat (tI (uI τ r0 26 (wr ((tI τ r0 26) + 1))) r0 22)) r1 3) + 1))) = τ12 → G (d - 1) 177 0 [vR r0, none, none] [] τ12 (KC d 190 211 214 [vR r0, vR r1, none] [] Q)) (k4 : ¬ x2 = 0 → (tI τ r0 18) = 2 → ¬ (tI τ r1 3) = 4 → (tI τ r0 26) = 40 → G (d - 1) 172 0 [vR r0, vI 4] [] τ (KC d 190 173 176 [none, none, none] [] Q)) (k5 : ¬ x2 = 0 → ¬ (tI τ r0 18) = 2 → G (d - 1) 172 0 [vR r0, vI 1] [] τ (KC d 190 150 153 [none, none, none] [] Q)) : G d 190 136 [vR r0, vR r1, vI x2] [] τ Q := by
  refine g_sk 1 (pc1 := 137) (st1 := [AI x2]) rfl ?_
  refine g_br1 rfl (t := 232) rfl (fun c1 => ?_) (fun c1 => ?_)
  · have c1 : x2 = 0 := of_decide_eq_true c1
    refine g_sk 1 (pc1 := 233) (st1 := [AR r0]) rfl ?_
    refine G_fg (lw2_f _ (lw2_k _ (lw2_f _ lw2_nil))) ?_
    refine g_cv rfl rfl (by decide) rfl rfl (Nat.le_of_ble_eq_true rfl) (as2 := []) rfl sh2 rfl (by omega) (L0 := [vR r0, none, none]) rfl ?_
    exact (k1 c1)
  · have c1 : ¬ x2 = 0 := of_decide_eq_false c1
    refine g_sk 1 (pc1 := 141) (st1 := [AR r0]) rfl ?_
    refine g_gI rfl (ci := 21) (k := 18) rfl sh2 ?_
    refine g_sk 1 (pc1 := 145) (st1 := [AI 2, AI (tI τ r0 18)]) rfl ?_
    refine g_br2 rfl (t := 154) rfl (fun c3 => ?_) (fun c3 => ?_)
    · have c3 : (tI τ r0 18) = 2 := of_decide_eq_true c3
      refine g_sk 1 (pc1 := 155) (st1 := [AR r1]) rfl ?_
      refine g_gI rfl (ci := 14) (k := 3) rfl sh4 ?_
      refine g_sk 1 (pc1 := 159) (st1 := [AI 4, AI (tI τ r1 3)]) rfl ?_
      refine g_br2 rfl (t := 171) rfl (fun c5 => ?_) (fun c5 => ?_)
      · have c5 : (tI τ r1 3) = 4 := of_decide_eq_true c5
        refine g_sk 2 (pc1 := 173) (st1 := [AI 4, AR r0]) rfl ?_
        refine G_fg (lw2_f _ (lw2_f _ (lw2_f _ lw2_nil))) ?_
        refine g_cv rfl rfl (by decide) rfl rfl (Nat.le_of_ble_eq_true rfl) (as2 := [AI 4]) rfl sh2 rfl (by omega) (L0 := [vR r0, vI 4]) rfl ?_
        exact (k2 c1 c3 c5)
      · have c5 : ¬ (tI τ r1 3) = 4 := of_decide_eq_false c5
        refine g_sk 1 (pc1 := 163) (st1 := [AR r0]) rfl ?_
        refine g_gI rfl (ci := 21) (k := 26) rfl sh2 ?_
        refine g_sk 1 (pc1 := 168) (st1 := [AI 40, AI (tI τ r0 26)]) rfl ?_
        refine g_br2 rfl (t := 177) rfl (fun c6 => ?_) (fun c6 => ?_)
        · have c6 : ¬ (tI τ r0 26) = 40 := of_decide_eq_true c6
          refine g_sk 2 (pc1 := 179) (st1 := [AR r0, AR r0]) rfl ?_
          refine g_gI rfl (ci := 21) (k := 26) rfl sh2 ?_
          refine g_sk 2 (pc1 := 184) (st1 := [AI (wr ((tI τ r0 26) + 1)), AR r0]) rfl ?_
          refine g_putI (x := (wr ((tI τ r0 26) + 1))) rfl (ci := 21) (k := 26) (kd := 0) rfl (by decide) rfl rfl sh2 ?_
          refine g_sk 1 (pc1 := 188) (st1 := [AR r1]) rfl ?_
          refine g_gQ rfl (ci := 14) (k := 2) rfl sh4 p8 ?_
          refine g_sk 1 (pc1 := 192) (st1 := [AR r1, AR q7]) rfl ?_
          refine g_gI rfl (ci := 14) (k := 3) rfl sh4 ?_
          refine g_sk 1 (pc1 := 196) (st1 := [AR r0, AI (tI (uI τ r0 26 (wr ((tI τ r0 26) + 1))) r1 3), AR q7]) rfl ?_
          refine g_gL rfl (ci := 21) (k := 22) rfl sh2 ?_
          refine g_last rfl sh10 (b11 c1 c3 c5 c6).1 (b11 c1 c3 c5 c6).2 ?_
          refine g_sk 2 (pc1 := 202) (st1 := [AR r1, AR r1]) rfl ?_
          refine g_gI rfl (ci := 14) (k := 3) rfl sh4 ?_
          refine g_sk 2 (pc1 := 207) (st1 := [AI (wr ((tI (uI (uI τ r0 26 (wr ((tI τ r0 26) + 1))) q7 (tI (uI τ r0 26 (wr ((tI τ r0 26) + 1))) r1 3).toNat (tI (uI τ r0 26 (wr ((tI τ r0 26) + 1))) r0 22)) r1 3) + 1)), AR r1]) rfl ?_
          refine g_putI (x := (wr ((tI (uI (uI τ r0 26 (wr ((tI τ r0 26) + 1))) q7 (tI (uI τ r0 26 (wr ((tI τ r0 26) + 1))) r1 3).toNat (tI (uI τ r0 26 (wr ((tI τ r0 26) + 1))) r0 22)) r1 3) + 1))) rfl (ci := 14) (k := 3) (kd := 0) rfl (by decide) rfl rfl sh4 ?_
          show G d 190 210 [vR r0, vR r1, vI x2] [] (uI (uI (uI τ r0 26 (wr ((tI τ r0 26) + 1))) q7 (tI (uI τ r0 26 (wr ((tI τ r0 26) + 1))) r1 3).toNat (tI (uI τ r0 26 (wr ((tI τ r0 26) + 1))) r0 22)) r1 3 (wr ((tI (uI (uI τ r0 26 (wr ((tI τ r0 26) + 1))) q7 (tI (uI τ r0 26 (wr ((tI τ r0 26) + 1))) r1 3).toNat (tI (uI τ r0 26 (wr ((tI τ r0 26) + 1))) r0 22)) r1 3) + 1))) Q
          generalize e13 : (uI (uI (uI τ r0 26 (wr ((tI τ r0 26) + 1))) q7 (tI (uI τ r0 26 (wr ((tI τ r0 26) + 1))) r1 3).toNat (tI (uI τ r0 26 (wr ((tI τ r0 26) + 1))) r0 22)) r1 3 (wr ((tI (uI (uI τ r0 26 (wr ((tI τ r0 26) + 1))) q7 (tI (uI τ r0 26 (wr ((tI τ r0 26) + 1))) r1 3).toNat (tI (uI τ r0 26 (wr ((tI τ r0 26) + 1))) r0 22)) r1 3) + 1))) = τ12
          refine g_sk 1 (pc1 := 211) (st1 := [AR r0]) rfl ?_
          refine G_fg (lw2_k _ (lw2_k _ (lw2_f _ lw2_nil))) ?_
          refine g_cv rfl rfl (by decide) rfl rfl (Nat.le_of_ble_eq_true rfl) (as2 := []) rfl (by rw [← e13]; exact sh2) rfl (by omega) (L0 := [vR r0, none, none]) rfl ?_
          exact (k3 c1 c3 c5 c6 τ12 e13)
        · have c6 : (tI τ r0 26) = 40 := Decidable.of_not_not (of_decide_eq_false c6)
          refine g_sk 2 (pc1 := 173) (st1 := [AI 4, AR r0]) rfl ?_
          refine G_fg (lw2_f _ (lw2_f _ (lw2_f _ lw2_nil))) ?_
          refine g_cv rfl rfl (by decide) rfl rfl (Nat.le_of_ble_eq_true rfl) (as2 := [AI 4]) rfl sh2 rfl (by omega) (L0 := [vR r0, vI 4]) rfl ?_
          exact (k4 c1 c3 c5 c6)
    · have c3 : ¬ (tI τ r0 18) = 2 := of_decide_eq_false c3
      refine g_sk 2 (pc1 := 150) (st1 := [AI 1, AR r0]) rfl ?_
      refine G_fg (lw2_f _ (lw2_f _ (lw2_f _ lw2_nil))) ?_
      refine g_cv rfl rfl (by decide) rfl rfl (Nat.le_of_ble_eq_true rfl) (as2 := [AI 1]) rfl sh2 rfl (by omega) (L0 := [vR r0, vI 1]) rfl ?_
      exact (k5 c1 c3)

set_option maxRecDepth 8192 in
theorem t190_153 {d : Nat} {τ : T2} {Q : RS → T2 → Prop} {s0 : Nat} (hd : 16 ≤ d) (sh1 : tS τ s0 = (1, 18, 0)) (k1 : Q (.inr s0) τ) : G d 190 153 [none, none, none] [AR s0] τ Q := by
  refine g_thr rfl sh1 rfl (by omega) rfl ?_
  exact k1

set_option maxRecDepth 8192 in
theorem t190_176 {d : Nat} {τ : T2} {Q : RS → T2 → Prop} {s0 : Nat} (hd : 16 ≤ d) (sh1 : tS τ s0 = (1, 18, 0)) (k1 : Q (.inr s0) τ) : G d 190 176 [none, none, none] [AR s0] τ Q := by
  refine g_thr rfl sh1 rfl (by omega) rfl ?_
  exact k1

set_option maxRecDepth 8192 in
theorem t190_214 {d : Nat} {τ : T2} {Q : RS → T2 → Prop} {r0 : Nat} {r1 : Option Nat} (hd : 1 ≤ d) (sh1 : tS τ r0 = (1, 21, 0)) (k1 : G (d - 1) 180 0 [vR r0, vI 93] [] τ (KC d 190 217 220 [vR r0, vQ r1, none] [] Q)) : G d 190 214 [vR r0, vQ r1, none] [] τ Q := by
  refine g_sk 2 (pc1 := 217) (st1 := [AI 93, AR r0]) rfl ?_
  refine g_cv rfl rfl (by decide) rfl rfl (Nat.le_of_ble_eq_true rfl) (as2 := [AI 93]) rfl sh1 rfl (by omega) (L0 := [vR r0, vI 93]) rfl ?_
  exact k1

set_option maxRecDepth 8192 in
theorem t190_220 {d : Nat} {τ : T2} {Q : RS → T2 → Prop} {y0 : Int} {r0 : Nat} {r1 : Option Nat} (k1 : ¬ y0 = 0 → G d 190 136 [vR r0, vQ r1, vI 0] [] τ Q) (k2 : y0 = 0 → G d 190 136 [vR r0, vQ r1, vI 1] [] τ Q) : G d 190 220 [vR r0, vQ r1, none] [AI y0] τ Q := by
  refine g_br1 rfl (t := 227) rfl (fun c1 => ?_) (fun c1 => ?_)
  · have c1 : ¬ y0 = 0 := of_decide_eq_true c1
    refine g_sx 3 (pc1 := 136) (L1 := [vR r0, vQ r1, vI 0]) (st1 := []) rfl ?_
    exact (k1 c1)
  · have c1 : y0 = 0 := Decidable.of_not_not (of_decide_eq_false c1)
    refine g_sx 4 (pc1 := 136) (L1 := [vR r0, vQ r1, vI 1]) (st1 := []) rfl ?_
    exact (k2 c1)

set_option maxRecDepth 8192 in
theorem t190_236 {d : Nat} {τ : T2} {Q : RS → T2 → Prop} {r1 : Option Nat} (k1 : Q (.inl (some (AP r1))) τ) : G d 190 236 [none, vQ r1, none] [] τ Q := by
  refine g_sk 1 (pc1 := 237) (st1 := [AP r1]) rfl ?_
  refine g_aret rfl rfl ?_
  exact k1

set_option maxRecDepth 8192 in
theorem t190_243 {d : Nat} {τ : T2} {Q : RS → T2 → Prop} {s0 : Nat} (hd : 16 ≤ d) (sh1 : tS τ s0 = (1, 18, 0)) (k1 : Q (.inr s0) τ) : G d 190 243 [none, none, none] [AR s0] τ Q := by
  refine g_thr rfl sh1 rfl (by omega) rfl ?_
  exact k1

set_option maxRecDepth 8192 in
theorem t190_250 {d : Nat} {τ : T2} {Q : RS → T2 → Prop} {y0 : Int} {r0 r1 : Nat} (hd : 1 ≤ d) (sh2 : tS τ r1 = (1, 14, 0)) (sh3 : tS τ r0 = (1, 21, 0)) (k1 : y0 = 0 → Q (.inl (some (AR r1))) τ) (k2 : ¬ y0 = 0 → G (d - 1) 177 0 [vR r0, none, none] [] (uI τ r1 4 1) (KC d 190 259 262 [none, vR r1, none] [] Q)) : G d 190 250 [vR r0, vR r1, none] [AI y0] τ Q := by
  refine g_br1 rfl (t := 262) rfl (fun c1 => ?_) (fun c1 => ?_)
  · have c1 : y0 = 0 := of_decide_eq_true c1
    refine g_sk 1 (pc1 := 263) (st1 := [AR r1]) rfl ?_
    refine g_aret rfl rfl ?_
    exact (k1 c1)
  · have c1 : ¬ y0 = 0 := of_decide_eq_false c1
    refine g_sk 2 (pc1 := 255) (st1 := [AI 1, AR r1]) rfl ?_
    refine g_putI (x := 1) rfl (ci := 14) (k := 4) (kd := 2) rfl (by decide) rfl rfl sh2 ?_
    refine g_sk 1 (pc1 := 259) (st1 := [AR r0]) rfl ?_
    refine G_fg (lw2_f _ (lw2_k _ (lw2_k _ lw2_nil))) ?_
    refine g_cv rfl rfl (by decide) rfl rfl (Nat.le_of_ble_eq_true rfl) (as2 := []) rfl sh3 rfl (by omega) (L0 := [vR r0, none, none]) rfl ?_
    exact (k2 c1)

set_option maxRecDepth 8192 in
theorem t190_262 {d : Nat} {τ : T2} {Q : RS → T2 → Prop} {r1 : Option Nat} (k1 : Q (.inl (some (AP r1))) τ) : G d 190 262 [none, vQ r1, none] [] τ Q := by
  refine g_sk 1 (pc1 := 263) (st1 := [AP r1]) rfl ?_
  refine g_aret rfl rfl ?_
  exact k1

set_option maxRecDepth 8192 in
theorem t191_0 {d : Nat} {τ : T2} {Q : RS → T2 → Prop} {x1 x3 : Int} {r0 : Nat} (k1 : G d 191 6 [vR r0, vJ x1, none, vI x3, vI 0, vJ x1, none] [] τ Q) : G d 191 0 [vR r0, vJ x1, none, vI x3, none, none, none] [] τ Q := by
  refine g_sx 4 (pc1 := 6) (L1 := [vR r0, vJ x1, none, vI x3, vI 0, vJ x1, none]) (st1 := []) rfl ?_
  exact k1

set_option maxRecDepth 8192 in
theorem t191_6 {d : Nat} {τ : T2} {Q : RS → T2 → Prop} {x1 x3 x4 x5 : Int} {r0 : Nat} (sh2 : tS τ r0 = (1, 21, 0)) (k1 : (lcm x5 0) ≤ 0 → (wr (x3 + x4)) ≤ (tI τ r0 28) → G d 191 44 [vR r0, vJ x1, none, vI x3, vI x4, vI 1, vI 0] [] τ Q) (k2 : (lcm x5 0) ≤ 0 → (tI τ r0 28) < (wr (x3 + x4)) → Q (.inl (some (AI (-1)))) τ) (k3 : 0 < (lcm x5 0) → G d 191 6 [vR r0, vJ x1, none, vI x3, vI (wr (x4 + 1)), vJ (lshr x5 5), none] [] τ Q) : G d 191 6 [vR r0, vJ x1, none, vI x3, vI x4, vJ x5, none] [] τ Q := by
  refine g_sk 3 (pc1 := 10) (st1 := [AI (lcm x5 0)]) rfl ?_
  refine g_br1 rfl (t := 25) rfl (fun c1 => ?_) (fun c1 => ?_)
  · have c1 : (lcm x5 0) ≤ 0 := of_decide_eq_true c1
    refine g_sk 4 (pc1 := 30) (st1 := [AR r0, AI (wr (x3 + x4))]) rfl ?_
    refine g_gI rfl (ci := 21) (k := 28) rfl sh2 ?_
    refine g_br2 rfl (t := 38) rfl (fun c3 => ?_) (fun c3 => ?_)
    · have c3 : (wr (x3 + x4)) ≤ (tI τ r0 28) := of_decide_eq_true c3
      refine g_sx 4 (pc1 := 44) (L1 := [vR r0, vJ x1, none, vI x3, vI x4, vI 1, vI 0]) (st1 := []) rfl ?_
      exact (k1 c1 c3)
    · have c3 : (tI τ r0 28) < (wr (x3 + x4)) := Int.not_le.mp (of_decide_eq_false c3)
      refine g_sk 1 (pc1 := 37) (st1 := [AI (-1)]) rfl ?_
      refine g_iret rfl rfl ?_
      exact (k2 c1 c3)
  · have c1 : 0 < (lcm x5 0) := Int.not_le.mp (of_decide_eq_false c1)
    refine g_sx 6 (pc1 := 6) (L1 := [vR r0, vJ x1, none, vI x3, vI (wr (x4 + 1)), vJ (lshr x5 5), none]) (st1 := []) rfl ?_
    exact (k3 c1)

set_option maxRecDepth 8192 in
theorem t191_44 {d : Nat} {τ : T2} {Q : RS → T2 → Prop} {x1 x3 x4 x5 x6 : Int} {r0 q6 n8 : Nat} (sh5 : tS τ r0 = (1, 21, 0)) (p7 : tP τ r0 27 = some q6) (sh9 : tS τ q6 = (2, 1, n8)) (b10 : x6 < x4 → ¬ x5 = 0 → (0 : Int) ≤ (wr (x3 + x6)) ∧ (wr (x3 + x6)) < (n8 : Int)) (k1 : x4 ≤ x6 → x5 = 0 → Q (.inl (some (AI (-1)))) τ) (k2 : x4 ≤ x6 → ¬ x5 = 0 → Q (.inl (some (AI (wr (x3 + x4))))) τ) (k3 : x6 < x4 → x5 = 0 → x5 = 0 → Q (.inl (some (AI (-1)))) τ) (k4 : x6 < x4 → x5 = 0 → ¬ x5 = 0 → Q (.inl (some (AI (wr (x3 + x4))))) τ) (k5 : x6 < x4 → ¬ x5 = 0 → ¬ (wr ((wr ((tI τ q6 (wr (x3 + x6)).toNat) - 97)) + 1)) = (wr (land (lshr x1 (wr (5 * (wr ((wr (x4 - 1)) - x6))))) 31)) → G d 191 44 [vR r0, vJ x1, none, vI x3, vI x4, vI 0, vI (wr (x6 + 1))] [] τ Q) (k6 : x6 < x4 → ¬ x5 = 0 → (wr ((wr ((tI τ q6 (wr (x3 + x6)).toNat) - 97)) + 1)) = (wr (land (lshr x1 (wr (5 * (wr ((wr (x4 - 1)) - x6))))) 31)) → G d 191 44 [vR r0, vJ x1, none, vI x3, vI x4, vI 1, vI (wr (x6 + 1))] [] τ Q) : G d 191 44 [vR r0, vJ x1, none, vI x3, vI x4, vI x5, vI x6] [] τ Q := by
  refine g_sk 2 (pc1 := 48) (st1 := [AI x4, AI x6]) rfl ?_
  refine g_br2 rfl (t := 102) rfl (fun c1 => ?_) (fun c1 => ?_)
  · have c1 : x4 ≤ x6 := of_decide_eq_true c1
    refine g_sk 1 (pc1 := 104) (st1 := [AI x5]) rfl ?_
    refine g_br1 rfl (t := 114) rfl (fun c2 => ?_) (fun c2 => ?_)
    · have c2 : x5 = 0 := of_decide_eq_true c2
      refine g_sk 1 (pc1 := 115) (st1 := [AI (-1)]) rfl ?_
      refine g_iret rfl rfl ?_
      exact (k1 c1 c2)
    · have c2 : ¬ x5 = 0 := of_decide_eq_false c2
      refine g_sk 4 (pc1 := 115) (st1 := [AI (wr (x3 + x4))]) rfl ?_
      refine g_iret rfl rfl ?_
      exact (k2 c1 c2)
  · have c1 : x6 < x4 := Int.not_le.mp (of_decide_eq_false c1)
    refine g_sk 1 (pc1 := 53) (st1 := [AI x5]) rfl ?_
    refine g_br1 rfl (t := 102) rfl (fun c3 => ?_) (fun c3 => ?_)
    · have c3 : x5 = 0 := of_decide_eq_true c3
      refine g_sk 1 (pc1 := 104) (st1 := [AI x5]) rfl ?_
      refine g_br1 rfl (t := 114) rfl (fun c4 => ?_) (fun c4 => ?_)
      · have c4 : x5 = 0 := of_decide_eq_true c4
        refine g_sk 1 (pc1 := 115) (st1 := [AI (-1)]) rfl ?_
        refine g_iret rfl rfl ?_
        exact (k3 c1 c3 c4)
      · have c4 : ¬ x5 = 0 := of_decide_eq_false c4
        refine g_sk 4 (pc1 := 115) (st1 := [AI (wr (x3 + x4))]) rfl ?_
        refine g_iret rfl rfl ?_
        exact (k4 c1 c3 c4)
    · have c3 : ¬ x5 = 0 := of_decide_eq_false c3
      refine g_sk 1 (pc1 := 57) (st1 := [AR r0]) rfl ?_
      refine g_gQ rfl (ci := 21) (k := 27) rfl sh5 p7 ?_
      refine g_sk 3 (pc1 := 64) (st1 := [AI (wr (x3 + x6)), AR q6]) rfl ?_
      refine g_bald rfl sh9 (by decide) (b10 c1 c3).1 (b10 c1 c3).2 ?_
      refine g_sk 16 (pc1 := 86) (st1 := [AI (wr (land (lshr x1 (wr (5 * (wr ((wr (x4 - 1)) - x6))))) 31)), AI (wr ((wr ((tI τ q6 (wr (x3 + x6)).toNat) - 97)) + 1))]) rfl ?_
      refine g_br2 rfl (t := 93) rfl (fun c11 => ?_) (fun c11 => ?_)
      · have c11 : ¬ (wr ((wr ((tI τ q6 (wr (x3 + x6)).toNat) - 97)) + 1)) = (wr (land (lshr x1 (wr (5 * (wr ((wr (x4 - 1)) - x6))))) 31)) := of_decide_eq_true c11
        refine g_sx 4 (pc1 := 44) (L1 := [vR r0, vJ x1, none, vI x3, vI x4, vI 0, vI (wr (x6 + 1))]) (st1 := []) rfl ?_
        exact (k5 c1 c3 c11)
      · have c11 : (wr ((wr ((tI τ q6 (wr (x3 + x6)).toNat) - 97)) + 1)) = (wr (land (lshr x1 (wr (5 * (wr ((wr (x4 - 1)) - x6))))) 31)) := Decidable.of_not_not (of_decide_eq_false c11)
        refine g_sx 5 (pc1 := 44) (L1 := [vR r0, vJ x1, none, vI x3, vI x4, vI 1, vI (wr (x6 + 1))]) (st1 := []) rfl ?_
        exact (k6 c1 c3 c11)

set_option maxRecDepth 8192 in
theorem t192_0 {d : Nat} {τ : T2} {Q : RS → T2 → Prop} {x1 : Int} {r0 n1 : Nat} (sh2 : tS τ r0 = (2, 3, n1)) (b3 : (0 : Int) ≤ (zshr x1 6) ∧ (zshr x1 6) < (n1 : Int)) (k1 : ¬ (lcm (land (lshr (tI τ r0 (zshr x1 6).toNat) (zand x1 63)) 1) 1) = 0 → Q (.inl (some (AI 0))) τ) (k2 : (lcm (land (lshr (tI τ r0 (zshr x1 6).toNat) (zand x1 63)) 1) 1) = 0 → Q (.inl (some (AI 1))) τ) : G d 192 0 [vR r0, vI x1] [] τ Q := by
  refine g_sk 4 (pc1 := 5) (st1 := [AI (zshr x1 6), AR r0]) rfl ?_
  refine g_lald rfl sh2 b3.1 b3.2 ?_
  refine g_sk 8 (pc1 := 15) (st1 := [AI (lcm (land (lshr (tI τ r0 (zshr x1 6).toNat) (zand x1 63)) 1) 1)]) rfl ?_
  refine g_br1 rfl (t := 22) rfl (fun c4 => ?_) (fun c4 => ?_)
  · have c4 : ¬ (lcm (land (lshr (tI τ r0 (zshr x1 6).toNat) (zand x1 63)) 1) 1) = 0 := of_decide_eq_true c4
    refine g_sk 1 (pc1 := 23) (st1 := [AI 0]) rfl ?_
    refine g_zret rfl rfl (by decide) ?_
    exact (k1 c4)
  · have c4 : (lcm (land (lshr (tI τ r0 (zshr x1 6).toNat) (zand x1 63)) 1) 1) = 0 := Decidable.of_not_not (of_decide_eq_false c4)
    refine g_sk 2 (pc1 := 23) (st1 := [AI 1]) rfl ?_
    refine g_zret rfl rfl (by decide) ?_
    exact (k2 c4)

set_option maxRecDepth 8192 in
theorem t193_0 {d : Nat} {τ : T2} {Q : RS → T2 → Prop} {x1 : Int} {r0 n1 : Nat} (sh2 : tS τ r0 = (2, 3, n1)) (b3 : (0 : Int) ≤ (zshr x1 6) ∧ (zshr x1 6) < (n1 : Int)) (k1 : Q (.inl none) (uI τ r0 (zshr x1 6).toNat (lor (tI τ r0 (zshr x1 6).toNat) (lshl 1 (zand x1 63))))) : G d 193 0 [vR r0, vI x1] [] τ Q := by
  refine g_sk 5 (pc1 := 6) (st1 := [AI (zshr x1 6), AR r0, AI (zshr x1 6), AR r0]) rfl ?_
  refine g_lald rfl sh2 b3.1 b3.2 ?_
  refine g_sk 6 (pc1 := 14) (st1 := [AL (lor (tI τ r0 (zshr x1 6).toNat) (lshl 1 (zand x1 63))), AI (zshr x1 6), AR r0]) rfl ?_
  refine g_last rfl sh2 b3.1 b3.2 ?_
  refine g_vret rfl rfl ?_
  exact k1

set_option maxRecDepth 8192 in
theorem t194_0 {d : Nat} {τ : T2} {Q : RS → T2 → Prop} {x1 : Int} {r0 : Nat} {r3 r4 : Option Nat} (k1 : G d 194 3 [vR r0, vJ x1, none, vQ r3, vQ r4, vI 0, none] [] τ Q) : G d 194 0 [vR r0, vJ x1, none, vQ r3, vQ r4, none, none] [] τ Q := by
  refine g_sx 2 (pc1 := 3) (L1 := [vR r0, vJ x1, none, vQ r3, vQ r4, vI 0, none]) (st1 := []) rfl ?_
  exact k1

set_option maxRecDepth 8192 in
theorem t194_3 {d : Nat} {τ : T2} {Q : RS → T2 → Prop} {x1 x5 : Int} {r0 : Nat} {r3 r4 : Option Nat} (hd : 1 ≤ d) (sh1 : tS τ r0 = (1, 21, 0)) (k1 : (tI τ r0 28) < x5 → Q (.inl none) τ) (k2 : x5 ≤ (tI τ r0 28) → G (d - 1) 192 0 [vQ r3, vI x5] [] τ (KC d 194 15 18 [vR r0, vJ x1, none, vQ r3, vQ r4, vI x5, none] [] Q)) : G d 194 3 [vR r0, vJ x1, none, vQ r3, vQ r4, vI x5, none] [] τ Q := by
  refine g_sk 2 (pc1 := 6) (st1 := [AR r0, AI x5]) rfl ?_
  refine g_gI rfl (ci := 21) (k := 28) rfl sh1 ?_
  refine g_br2 rfl (t := 52) rfl (fun c2 => ?_) (fun c2 => ?_)
  · have c2 : (tI τ r0 28) < x5 := of_decide_eq_true c2
    refine g_vret rfl rfl ?_
    exact (k1 c2)
  · have c2 : x5 ≤ (tI τ r0 28) := Int.not_lt.mp (of_decide_eq_false c2)
    refine g_sk 2 (pc1 := 15) (st1 := [AI x5, AP r3]) rfl ?_
    refine g_cs rfl rfl (by decide) rfl rfl (Nat.le_of_ble_eq_true rfl) rfl (by omega) (L0 := [vQ r3, vI x5]) rfl ?_
    exact (k2 c2)

set_option maxRecDepth 8192 in
theorem t194_18 {d : Nat} {τ : T2} {Q : RS → T2 → Prop} {x1 x5 y0 : Int} {r0 : Nat} {r3 r4 : Option Nat} (hd : 1 ≤ d) (sh2 : tS τ r0 = (1, 21, 0)) (k1 : ¬ y0 = 0 → G (d - 1) 191 0 [vR r0, vJ x1, none, vI x5, none, none, none] [] τ (KC d 194 28 31 [vR r0, vJ x1, none, vQ r3, vQ r4, vI x5, none] [] Q)) (k2 : y0 = 0 → G d 194 3 [vR r0, vJ x1, none, vQ r3, vQ r4, vI (wr (x5 + 1)), none] [] τ Q) : G d 194 18 [vR r0, vJ x1, none, vQ r3, vQ r4, vI x5, none] [AI y0] τ Q := by
  refine g_br1 rfl (t := 24) rfl (fun c1 => ?_) (fun c1 => ?_)
  · have c1 : ¬ y0 = 0 := of_decide_eq_true c1
    refine g_sk 3 (pc1 := 28) (st1 := [AI x5, AL x1, AR r0]) rfl ?_
    refine g_cv rfl rfl (by decide) rfl rfl (Nat.le_of_ble_eq_true rfl) (as2 := [AL x1, AI x5]) rfl sh2 rfl (by omega) (L0 := [vR r0, vJ x1, none, vI x5, none, none, none]) rfl ?_
    exact (k1 c1)
  · have c1 : y0 = 0 := Decidable.of_not_not (of_decide_eq_false c1)
    refine g_sx 3 (pc1 := 3) (L1 := [vR r0, vJ x1, none, vQ r3, vQ r4, vI (wr (x5 + 1)), none]) (st1 := []) rfl ?_
    exact (k2 c1)

set_option maxRecDepth 8192 in
theorem t194_31 {d : Nat} {τ : T2} {Q : RS → T2 → Prop} {x1 x5 y0 : Int} {r0 : Nat} {r3 r4 : Option Nat} (hd : 1 ≤ d) (k1 : y0 = (-1) → G d 194 3 [vR r0, vJ x1, none, vQ r3, vQ r4, vI (wr (x5 + 1)), none] [] τ Q) (k2 : ¬ y0 = (-1) → G (d - 1) 193 0 [vQ r4, vI y0] [] τ (KC d 194 43 46 [vR r0, vJ x1, none, vQ r3, vQ r4, vI x5, none] [] Q)) : G d 194 31 [vR r0, vJ x1, none, vQ r3, vQ r4, vI x5, none] [AI y0] τ Q := by
  refine g_sx 3 (pc1 := 36) (L1 := [vR r0, vJ x1, none, vQ r3, vQ r4, vI x5, vI y0]) (st1 := [AI (-1), AI y0]) rfl ?_
  refine g_br2 rfl (t := 46) rfl (fun c1 => ?_) (fun c1 => ?_)
  · have c1 : y0 = (-1) := of_decide_eq_true c1
    refine g_sx 2 (pc1 := 3) (L1 := [vR r0, vJ x1, none, vQ r3, vQ r4, vI (wr (x5 + 1)), vI y0]) (st1 := []) rfl ?_
    exact G_fg (lw2_k _ (lw2_k _ (lw2_k _ (lw2_k _ (lw2_k _ (lw2_k _ (lw2_f _ lw2_nil))))))) (k1 c1)
  · have c1 : ¬ y0 = (-1) := of_decide_eq_false c1
    refine g_sk 2 (pc1 := 43) (st1 := [AI y0, AP r4]) rfl ?_
    refine G_fg (lw2_k _ (lw2_k _ (lw2_k _ (lw2_k _ (lw2_k _ (lw2_k _ (lw2_f _ lw2_nil))))))) ?_
    refine g_cs rfl rfl (by decide) rfl rfl (Nat.le_of_ble_eq_true rfl) rfl (by omega) (L0 := [vQ r4, vI y0]) rfl ?_
    exact (k2 c1)

set_option maxRecDepth 8192 in
theorem t194_46 {d : Nat} {τ : T2} {Q : RS → T2 → Prop} {x1 x5 : Int} {r0 : Nat} {r3 r4 : Option Nat} (k1 : G d 194 3 [vR r0, vJ x1, none, vQ r3, vQ r4, vI (wr (x5 + 1)), none] [] τ Q) : G d 194 46 [vR r0, vJ x1, none, vQ r3, vQ r4, vI x5, none] [] τ Q := by
  refine g_sx 2 (pc1 := 3) (L1 := [vR r0, vJ x1, none, vQ r3, vQ r4, vI (wr (x5 + 1)), none]) (st1 := []) rfl ?_
  exact k1

set_option maxRecDepth 8192 in
theorem t195_0 {d : Nat} {τ : T2} {Q : RS → T2 → Prop} {r0 : Nat} {r1 r2 : Option Nat} (k1 : G d 195 3 [vR r0, vQ r1, vQ r2, none, none, none, none] [AR (tN τ)] (nC τ (2, 3, 5) 5) Q) : G d 195 0 [vR r0, vQ r1, vQ r2, none, none, none, none] [] τ Q := by
  refine g_sk 1 (pc1 := 1) (st1 := [AI 5]) rfl ?_
  refine g_newa rfl rfl (by decide) (by decide) ?_
  exact k1

set_option maxRecDepth 8192 in
theorem t195_3 {d : Nat} {τ : T2} {Q : RS → T2 → Prop} {r0 r1 : Nat} {r2 s0 : Option Nat} (hd : 1 ≤ d) (sh1 : tS τ r1 = (1, 14, 0)) (sh6 : tS τ r0 = (1, 21, 0)) (k1 : (tI τ r1 4) = 0 → (tP τ r1 1) = none → (tI τ r1 3) ≤ 0 → G (d - 1) 194 0 [vR r0, vJ (tI τ r1 0), none, vQ r2, vQ s0, none, none] [] τ (KC d 195 200 203 [none, none, none, vQ s0, none, none, none] [] Q)) (k2 : (tI τ r1 4) = 0 → (tP τ r1 1) = none → 0 < (tI τ r1 3) → G d 195 96 [vR r0, vR r1, vQ r2, none, none, none, none] [AI 5, AI (zshl 1 (tI τ r1 3))] τ Q) (k3 : (tI τ r1 4) = 0 → ∀ q4, (tP τ r1 1) = some q4 → G d 195 41 [vR r0, vR r1, vQ r2, vQ s0, none, none, none] [] τ Q) (k4 : ¬ (tI τ r1 4) = 0 → G d 195 14 [vR r0, vR r1, vQ r2, vQ s0, vI 0, none, none] [] τ Q) : G d 195 3 [vR r0, vR r1, vQ r2, none, none, none, none] [AP s0] τ Q := by
  refine g_sx 2 (pc1 := 5) (L1 := [vR r0, vR r1, vQ r2, vQ s0, none, none, none]) (st1 := [AR r1]) rfl ?_
  refine g_gZ rfl (ci := 14) (k := 4) rfl sh1 ?_
  refine g_br1 rfl (t := 34) rfl (fun c2 => ?_) (fun c2 => ?_)
  · have c2 : (tI τ r1 4) = 0 := of_decide_eq_true c2
    refine g_sk 1 (pc1 := 35) (st1 := [AR r1]) rfl ?_
    refine g_gP rfl (ci := 14) (k := 1) rfl sh1 ?_
    refine g_nul rfl (t := 82) rfl (fun c3 => ?_) (fun q4 c3 => ?_)
    · skip
      refine g_sk 1 (pc1 := 83) (st1 := [AR r1]) rfl ?_
      refine g_gI rfl (ci := 14) (k := 3) rfl sh1 ?_
      refine g_br1 rfl (t := 193) rfl (fun c5 => ?_) (fun c5 => ?_)
      · have c5 : (tI τ r1 3) ≤ 0 := of_decide_eq_true c5
        refine g_sk 2 (pc1 := 195) (st1 := [AR r1, AR r0]) rfl ?_
        refine g_gL rfl (ci := 14) (k := 0) rfl sh1 ?_
        refine g_sk 2 (pc1 := 200) (st1 := [AP s0, AP r2, AL (tI τ r1 0), AR r0]) rfl ?_
        refine G_fg (lw2_f _ (lw2_f _ (lw2_f _ (lw2_k _ (lw2_k _ (lw2_k _ (lw2_k _ lw2_nil))))))) ?_
        refine g_cv rfl rfl (by decide) rfl rfl (Nat.le_of_ble_eq_true rfl) (as2 := [AL (tI τ r1 0), AP r2, AP s0]) rfl sh6 rfl (by omega) (L0 := [vR r0, vJ (tI τ r1 0), none, vQ r2, vQ s0, none, none]) rfl ?_
        exact (k1 c2 c3 c5)
      · have c5 : 0 < (tI τ r1 3) := Int.not_le.mp (of_decide_eq_false c5)
        refine g_sk 2 (pc1 := 91) (st1 := [AR r1, AI 1]) rfl ?_
        refine g_gI rfl (ci := 14) (k := 3) rfl sh1 ?_
        refine g_sk 2 (pc1 := 96) (st1 := [AI 5, AI (zshl 1 (tI τ r1 3))]) rfl ?_
        exact G_fg (lw2_k _ (lw2_k _ (lw2_k _ (lw2_f _ (lw2_k _ (lw2_k _ (lw2_k _ lw2_nil))))))) (k2 c2 c3 c5)
    · skip
      exact (k3 c2 q4 c3)
  · have c2 : ¬ (tI τ r1 4) = 0 := of_decide_eq_false c2
    refine g_sx 2 (pc1 := 14) (L1 := [vR r0, vR r1, vQ r2, vQ s0, vI 0, none, none]) (st1 := []) rfl ?_
    exact (k4 c2)

set_option maxRecDepth 8192 in
theorem t195_14 {d : Nat} {τ : T2} {Q : RS → T2 → Prop} {x4 : Int} {r0 r1 r2 r3 n7 n10 : Nat} (hd : 1 ≤ d) (sh2 : tS τ r1 = (1, 14, 0)) (sh6 : tS τ r0 = (1, 21, 0)) (sh8 : tS τ r2 = (2, 3, n7)) (b9 : x4 < 5 → (0 : Int) ≤ x4 ∧ x4 < (n7 : Int)) (sh11 : tS τ r3 = (2, 3, n10)) (b12 : x4 < 5 → (0 : Int) ≤ x4 ∧ x4 < (n10 : Int)) (k1 : 5 ≤ x4 → (tP τ r1 1) = none → (tI τ r1 3) ≤ 0 → G (d - 1) 194 0 [vR r0, vJ (tI τ r1 0), none, vR r2, vR r3, none, none] [] τ (KC d 195 200 203 [none, none, none, vR r3, none, none, none] [] Q)) (k2 : 5 ≤ x4 → (tP τ r1 1) = none → 0 < (tI τ r1 3) → G d 195 96 [vR r0, vR r1, vR r2, none, none, none, none] [AI 5, AI (zshl 1 (tI τ r1 3))] τ Q) (k3 : 5 ≤ x4 → ∀ q4, (tP τ r1 1) = some q4 → G d 195 41 [vR r0, vR r1, vR r2, vR r3, none, none, none] [] τ Q) (k4 : x4 < 5 → G d 195 14 [vR r0, vR r1, vR r2, vR r3, vI (wr (x4 + 1)), none, none] [] (uI τ r3 x4.toNat (tI τ r2 x4.toNat)) Q) : G d 195 14 [vR r0, vR r1, vR r2, vR r3, vI x4, none, none] [] τ Q := by
  refine g_sk 2 (pc1 := 17) (st1 := [AI 5, AI x4]) rfl ?_
  refine g_br2 rfl (t := 34) rfl (fun c1 => ?_) (fun c1 => ?_)
  · have c1 : 5 ≤ x4 := of_decide_eq_true c1
    refine g_sk 1 (pc1 := 35) (st1 := [AR r1]) rfl ?_
    refine g_gP rfl (ci := 14) (k := 1) rfl sh2 ?_
    refine g_nul rfl (t := 82) rfl (fun c3 => ?_) (fun q4 c3 => ?_)
    · skip
      refine g_sk 1 (pc1 := 83) (st1 := [AR r1]) rfl ?_
      refine g_gI rfl (ci := 14) (k := 3) rfl sh2 ?_
      refine g_br1 rfl (t := 193) rfl (fun c5 => ?_) (fun c5 => ?_)
      · have c5 : (tI τ r1 3) ≤ 0 := of_decide_eq_true c5
        refine g_sk 2 (pc1 := 195) (st1 := [AR r1, AR r0]) rfl ?_
        refine g_gL rfl (ci := 14) (k := 0) rfl sh2 ?_
        refine g_sk 2 (pc1 := 200) (st1 := [AR r3, AR r2, AL (tI τ r1 0), AR r0]) rfl ?_
        refine G_fg (lw2_f _ (lw2_f _ (lw2_f _ (lw2_k _ (lw2_f _ (lw2_k _ (lw2_k _ lw2_nil))))))) ?_
        refine g_cv rfl rfl (by decide) rfl rfl (Nat.le_of_ble_eq_true rfl) (as2 := [AL (tI τ r1 0), AR r2, AR r3]) rfl sh6 rfl (by omega) (L0 := [vR r0, vJ (tI τ r1 0), none, vR r2, vR r3, none, none]) rfl ?_
        exact (k1 c1 c3 c5)
      · have c5 : 0 < (tI τ r1 3) := Int.not_le.mp (of_decide_eq_false c5)
        refine g_sk 2 (pc1 := 91) (st1 := [AR r1, AI 1]) rfl ?_
        refine g_gI rfl (ci := 14) (k := 3) rfl sh2 ?_
        refine g_sk 2 (pc1 := 96) (st1 := [AI 5, AI (zshl 1 (tI τ r1 3))]) rfl ?_
        exact G_fg (lw2_k _ (lw2_k _ (lw2_k _ (lw2_f _ (lw2_f _ (lw2_k _ (lw2_k _ lw2_nil))))))) (k2 c1 c3 c5)
    · skip
      exact G_fg (lw2_k _ (lw2_k _ (lw2_k _ (lw2_k _ (lw2_f _ (lw2_k _ (lw2_k _ lw2_nil))))))) (k3 c1 q4 c3)
  · have c1 : x4 < 5 := Int.not_le.mp (of_decide_eq_false c1)
    refine g_sk 4 (pc1 := 26) (st1 := [AI x4, AR r2, AI x4, AR r3]) rfl ?_
    refine g_lald rfl sh8 (b9 c1).1 (b9 c1).2 ?_
    refine g_last rfl sh11 (b12 c1).1 (b12 c1).2 ?_
    refine g_sx 2 (pc1 := 14) (L1 := [vR r0, vR r1, vR r2, vR r3, vI (wr (x4 + 1)), none, none]) (st1 := []) rfl ?_
    exact (k4 c1)

set_option maxRecDepth 8192 in
theorem t195_41 {d : Nat} {τ : T2} {Q : RS → T2 → Prop} {r0 r1 : Nat} {r2 r3 : Option Nat} (hd : 1 ≤ d) (sh1 : tS τ r1 = (1, 14, 0)) (sh2 : tS τ r0 = (1, 21, 0)) (k1 : G (d - 1) 196 0 [vR r0, vQ (tP τ r1 1), vQ r2, none, none, none, none, none, none] [] τ (KC d 195 47 50 [none, none, none, vQ r3, none, none, none] [] Q)) : G d 195 41 [vR r0, vR r1, vQ r2, vQ r3, none, none, none] [] τ Q := by
  refine g_sk 2 (pc1 := 43) (st1 := [AR r1, AR r0]) rfl ?_
  refine g_gP rfl (ci := 14) (k := 1) rfl sh1 ?_
  refine g_sk 1 (pc1 := 47) (st1 := [AP r2, AP (tP τ r1 1), AR r0]) rfl ?_
  refine G_fg (lw2_f _ (lw2_f _ (lw2_f _ (lw2_k _ (lw2_k _ (lw2_k _ (lw2_k _ lw2_nil))))))) ?_
  refine g_cv rfl rfl (by decide) rfl rfl (Nat.le_of_ble_eq_true rfl) (as2 := [AP (tP τ r1 1), AP r2]) rfl sh2 rfl (by omega) (L0 := [vR r0, vQ (tP τ r1 1), vQ r2, none, none, none, none, none, none]) rfl ?_
  exact k1

set_option maxRecDepth 8192 in
theorem t195_50 {d : Nat} {τ : T2} {Q : RS → T2 → Prop} {r3 s0 : Option Nat} (k1 : G d 195 55 [none, none, none, vQ r3, vQ s0, vI 0, none] [] τ Q) : G d 195 50 [none, none, none, vQ r3, none, none, none] [AP s0] τ Q := by
  refine g_sx 3 (pc1 := 55) (L1 := [none, none, none, vQ r3, vQ s0, vI 0, none]) (st1 := []) rfl ?_
  exact k1

set_option maxRecDepth 8192 in
theorem t195_55 {d : Nat} {τ : T2} {Q : RS → T2 → Prop} {x5 : Int} {r3 r4 n2 n5 : Nat} (sh3 : tS τ r3 = (2, 3, n2)) (b4 : x5 < 5 → (0 : Int) ≤ x5 ∧ x5 < (n2 : Int)) (sh6 : tS τ r4 = (2, 3, n5)) (b7 : x5 < 5 → (0 : Int) ≤ x5 ∧ x5 < (n5 : Int)) (k1 : 5 ≤ x5 → Q (.inl (some (AR r3))) τ) (k2 : x5 < 5 → G d 195 55 [none, none, none, vR r3, vR r4, vI (wr (x5 + 1)), none] [] (uI τ r3 x5.toNat (lor (tI τ r3 x5.toNat) (tI τ r4 x5.toNat))) Q) : G d 195 55 [none, none, none, vR r3, vR r4, vI x5, none] [] τ Q := by
  refine g_sk 2 (pc1 := 58) (st1 := [AI 5, AI x5]) rfl ?_
  refine g_br2 rfl (t := 79) rfl (fun c1 => ?_) (fun c1 => ?_)
  · have c1 : 5 ≤ x5 := of_decide_eq_true c1
    refine g_sk 2 (pc1 := 204) (st1 := [AR r3]) rfl ?_
    refine g_aret rfl rfl ?_
    exact (k1 c1)
  · have c1 : x5 < 5 := Int.not_le.mp (of_decide_eq_false c1)
    refine g_sk 3 (pc1 := 65) (st1 := [AI x5, AR r3, AI x5, AR r3]) rfl ?_
    refine g_lald rfl sh3 (b4 c1).1 (b4 c1).2 ?_
    refine g_sk 2 (pc1 := 70) (st1 := [AI x5, AR r4, AL (tI τ r3 x5.toNat), AI x5, AR r3]) rfl ?_
    refine g_lald rfl sh6 (b7 c1).1 (b7 c1).2 ?_
    refine g_sk 1 (pc1 := 72) (st1 := [AL (lor (tI τ r3 x5.toNat) (tI τ r4 x5.toNat)), AI x5, AR r3]) rfl ?_
    refine g_last rfl sh3 (b4 c1).1 (b4 c1).2 ?_
    refine g_sx 2 (pc1 := 55) (L1 := [none, none, none, vR r3, vR r4, vI (wr (x5 + 1)), none]) (st1 := []) rfl ?_
    exact (k2 c1)

set_option maxRecDepth 8192 in
theorem t195_82 {d : Nat} {τ : T2} {Q : RS → T2 → Prop} {r0 r1 : Nat} {r2 r3 : Option Nat} (hd : 1 ≤ d) (sh1 : tS τ r1 = (1, 14, 0)) (sh3 : tS τ r0 = (1, 21, 0)) (k1 : (tI τ r1 3) ≤ 0 → G (d - 1) 194 0 [vR r0, vJ (tI τ r1 0), none, vQ r2, vQ r3, none, none] [] τ (KC d 195 200 203 [none, none, none, vQ r3, none, none, none] [] Q)) (k2 : 0 < (tI τ r1 3) → G d 195 96 [vR r0, vR r1, vQ r2, none, none, none, none] [AI 5, AI (zshl 1 (tI τ r1 3))] τ Q) : G d 195 82 [vR r0, vR r1, vQ r2, vQ r3, none, none, none] [] τ Q := by
  refine g_sk 1 (pc1 := 83) (st1 := [AR r1]) rfl ?_
  refine g_gI rfl (ci := 14) (k := 3) rfl sh1 ?_
  refine g_br1 rfl (t := 193) rfl (fun c2 => ?_) (fun c2 => ?_)
  · have c2 : (tI τ r1 3) ≤ 0 := of_decide_eq_true c2
    refine g_sk 2 (pc1 := 195) (st1 := [AR r1, AR r0]) rfl ?_
    refine g_gL rfl (ci := 14) (k := 0) rfl sh1 ?_
    refine g_sk 2 (pc1 := 200) (st1 := [AP r3, AP r2, AL (tI τ r1 0), AR r0]) rfl ?_
    refine G_fg (lw2_f _ (lw2_f _ (lw2_f _ (lw2_k _ (lw2_k _ (lw2_k _ (lw2_k _ lw2_nil))))))) ?_
    refine g_cv rfl rfl (by decide) rfl rfl (Nat.le_of_ble_eq_true rfl) (as2 := [AL (tI τ r1 0), AP r2, AP r3]) rfl sh3 rfl (by omega) (L0 := [vR r0, vJ (tI τ r1 0), none, vQ r2, vQ r3, none, none]) rfl ?_
    exact (k1 c2)
  · have c2 : 0 < (tI τ r1 3) := Int.not_le.mp (of_decide_eq_false c2)
    refine g_sk 2 (pc1 := 91) (st1 := [AR r1, AI 1]) rfl ?_
    refine g_gI rfl (ci := 14) (k := 3) rfl sh1 ?_
    refine g_sk 2 (pc1 := 96) (st1 := [AI 5, AI (zshl 1 (tI τ r1 3))]) rfl ?_
    exact G_fg (lw2_k _ (lw2_k _ (lw2_k _ (lw2_f _ (lw2_k _ (lw2_k _ (lw2_k _ lw2_nil))))))) (k2 c2)

set_option maxRecDepth 8192 in
theorem t195_100 {d : Nat} {τ : T2} {Q : RS → T2 → Prop} {r0 r2 s0 n1 : Nat} {r1 : Option Nat} (sh2 : tS τ s0 = (3, 11, n1)) (b3 : (0 : Int) ≤ 0 ∧ 0 < (n1 : Int)) (p4 : okEs 11 (tS τ r2) = true) (k1 : G d 195 110 [vR r0, vQ r1, none, none, vR s0, vI 0, none] [] (uP τ s0 0 (some r2)) Q) : G d 195 100 [vR r0, vQ r1, vR r2, none, none, none, none] [AR s0] τ Q := by
  refine g_sx 4 (pc1 := 106) (L1 := [vR r0, vQ r1, vR r2, none, vR s0, none, none]) (st1 := [AR r2, AI 0, AR s0]) rfl ?_
  refine g_aast rfl sh2 (by decide) b3.1 b3.2 p4 ?_
  refine g_sx 2 (pc1 := 110) (L1 := [vR r0, vQ r1, vR r2, none, vR s0, vI 0, none]) (st1 := []) rfl ?_
  exact G_fg (lw2_k _ (lw2_k _ (lw2_f _ (lw2_k _ (lw2_k _ (lw2_k _ (lw2_k _ lw2_nil))))))) k1

set_option maxRecDepth 8192 in
theorem t195_110 {d : Nat} {τ : T2} {Q : RS → T2 → Prop} {x5 : Int} {r0 r1 r4 n3 : Nat} (sh1 : tS τ r1 = (1, 14, 0)) (sh4 : tS τ r4 = (3, 11, n3)) (b5 : (zshl 1 (tI τ r1 3)) ≤ x5 → (0 : Int) ≤ (wr ((zshl 1 (tI τ r1 3)) - 1)) ∧ (wr ((zshl 1 (tI τ r1 3)) - 1)) < (n3 : Int)) (k1 : (zshl 1 (tI τ r1 3)) ≤ x5 → Q (.inl (some (AP (tP τ r4 (wr ((zshl 1 (tI τ r1 3)) - 1)).toNat)))) τ) (k2 : x5 < (zshl 1 (tI τ r1 3)) → G d 195 124 [vR r0, vR r1, none, none, vR r4, vI x5, vI 0] [] τ Q) : G d 195 110 [vR r0, vR r1, none, none, vR r4, vI x5, none] [] τ Q := by
  refine g_sk 3 (pc1 := 114) (st1 := [AR r1, AI 1, AI x5]) rfl ?_
  refine g_gI rfl (ci := 14) (k := 3) rfl sh1 ?_
  refine g_sk 1 (pc1 := 118) (st1 := [AI (zshl 1 (tI τ r1 3)), AI x5]) rfl ?_
  refine g_br2 rfl (t := 181) rfl (fun c2 => ?_) (fun c2 => ?_)
  · have c2 : (zshl 1 (tI τ r1 3)) ≤ x5 := of_decide_eq_true c2
    refine g_sk 3 (pc1 := 185) (st1 := [AR r1, AI 1, AR r4]) rfl ?_
    refine g_gI rfl (ci := 14) (k := 3) rfl sh1 ?_
    refine g_sk 3 (pc1 := 191) (st1 := [AI (wr ((zshl 1 (tI τ r1 3)) - 1)), AR r4]) rfl ?_
    refine g_aald rfl sh4 (by decide) (b5 c2).1 (b5 c2).2 ?_
    refine g_aret rfl rfl ?_
    exact (k1 c2)
  · have c2 : x5 < (zshl 1 (tI τ r1 3)) := Int.not_le.mp (of_decide_eq_false c2)
    refine g_sx 2 (pc1 := 124) (L1 := [vR r0, vR r1, none, none, vR r4, vI x5, vI 0]) (st1 := []) rfl ?_
    exact (k2 c2)

set_option maxRecDepth 8192 in
theorem t195_124 {d : Nat} {τ : T2} {Q : RS → T2 → Prop} {x5 x6 : Int} {r0 r1 r4 q4 n6 n9 : Nat} (hd : 1 ≤ d) (sh1 : tS τ r1 = (1, 14, 0)) (p5 : tP τ r1 2 = some q4) (sh7 : tS τ q4 = (2, 3, n6)) (b8 : x6 < (tI τ r1 3) → (zand (zshr x5 x6) 1) = 0 → (0 : Int) ≤ x6 ∧ x6 < (n6 : Int)) (sh10 : tS τ r4 = (3, 11, n9)) (b11 : x6 < (tI τ r1 3) → (zand (zshr x5 x6) 1) = 0 → (0 : Int) ≤ x5 ∧ x5 < (n9 : Int)) (b12 : x6 < (tI τ r1 3) → (zand (zshr x5 x6) 1) = 0 → (0 : Int) ≤ (zor x5 (zshl 1 x6)) ∧ (zor x5 (zshl 1 x6)) < (n9 : Int)) (sh13 : tS τ r0 = (1, 21, 0)) (k1 : (tI τ r1 3) ≤ x6 → G d 195 110 [vR r0, vR r1, none, none, vR r4, vI (wr (x5 + 1)), none] [] τ Q) (k2 : x6 < (tI τ r1 3) → ¬ (zand (zshr x5 x6) 1) = 0 → G d 195 124 [vR r0, vR r1, none, none, vR r4, vI x5, vI (wr (x6 + 1))] [] τ Q) (k3 : x6 < (tI τ r1 3) → (zand (zshr x5 x6) 1) = 0 → G (d - 1) 194 0 [vR r0, vJ (tI τ q4 x6.toNat), none, vQ (tP τ r4 x5.toNat), vQ (tP τ r4 (zor x5 (zshl 1 x6)).toNat), none, none] [] τ (KC d 195 166 169 [vR r0, vR r1, none, none, vR r4, vI x5, vI x6] [] Q)) : G d 195 124 [vR r0, vR r1, none, none, vR r4, vI x5, vI x6] [] τ Q := by
  refine g_sk 2 (pc1 := 127) (st1 := [AR r1, AI x6]) rfl ?_
  refine g_gI rfl (ci := 14) (k := 3) rfl sh1 ?_
  refine g_br2 rfl (t := 175) rfl (fun c2 => ?_) (fun c2 => ?_)
  · have c2 : (tI τ r1 3) ≤ x6 := of_decide_eq_true c2
    refine g_sx 2 (pc1 := 110) (L1 := [vR r0, vR r1, none, none, vR r4, vI (wr (x5 + 1)), vI x6]) (st1 := []) rfl ?_
    exact G_fg (lw2_k _ (lw2_k _ (lw2_k _ (lw2_k _ (lw2_k _ (lw2_k _ (lw2_f _ lw2_nil))))))) (k1 c2)
  · have c2 : x6 < (tI τ r1 3) := Int.not_le.mp (of_decide_eq_false c2)
    refine g_sk 5 (pc1 := 140) (st1 := [AI (zand (zshr x5 x6) 1)]) rfl ?_
    refine g_br1 rfl (t := 169) rfl (fun c3 => ?_) (fun c3 => ?_)
    · have c3 : ¬ (zand (zshr x5 x6) 1) = 0 := of_decide_eq_true c3
      refine g_sx 2 (pc1 := 124) (L1 := [vR r0, vR r1, none, none, vR r4, vI x5, vI (wr (x6 + 1))]) (st1 := []) rfl ?_
      exact (k2 c2 c3)
    · have c3 : (zand (zshr x5 x6) 1) = 0 := Decidable.of_not_not (of_decide_eq_false c3)
      refine g_sk 2 (pc1 := 145) (st1 := [AR r1, AR r0]) rfl ?_
      refine g_gQ rfl (ci := 14) (k := 2) rfl sh1 p5 ?_
      refine g_sk 1 (pc1 := 150) (st1 := [AI x6, AR q4, AR r0]) rfl ?_
      refine g_lald rfl sh7 (b8 c2 c3).1 (b8 c2 c3).2 ?_
      refine g_sk 2 (pc1 := 155) (st1 := [AI x5, AR r4, AL (tI τ q4 x6.toNat), AR r0]) rfl ?_
      refine g_aald rfl sh10 (by decide) (b11 c2 c3).1 (b11 c2 c3).2 ?_
      refine g_sk 6 (pc1 := 165) (st1 := [AI (zor x5 (zshl 1 x6)), AR r4, AP (tP τ r4 x5.toNat), AL (tI τ q4 x6.toNat), AR r0]) rfl ?_
      refine g_aald rfl sh10 (by decide) (b12 c2 c3).1 (b12 c2 c3).2 ?_
      refine g_cv rfl rfl (by decide) rfl rfl (Nat.le_of_ble_eq_true rfl) (as2 := [AL (tI τ q4 x6.toNat), AP (tP τ r4 x5.toNat), AP (tP τ r4 (zor x5 (zshl 1 x6)).toNat)]) rfl sh13 rfl (by omega) (L0 := [vR r0, vJ (tI τ q4 x6.toNat), none, vQ (tP τ r4 x5.toNat), vQ (tP τ r4 (zor x5 (zshl 1 x6)).toNat), none, none]) rfl ?_
      exact (k3 c2 c3)

set_option maxRecDepth 8192 in
theorem t195_169 {d : Nat} {τ : T2} {Q : RS → T2 → Prop} {x5 x6 : Int} {r0 : Nat} {r1 r4 : Option Nat} (k1 : G d 195 124 [vR r0, vQ r1, none, none, vQ r4, vI x5, vI (wr (x6 + 1))] [] τ Q) : G d 195 169 [vR r0, vQ r1, none, none, vQ r4, vI x5, vI x6] [] τ Q := by
  refine g_sx 2 (pc1 := 124) (L1 := [vR r0, vQ r1, none, none, vQ r4, vI x5, vI (wr (x6 + 1))]) (st1 := []) rfl ?_
  exact k1

set_option maxRecDepth 8192 in
theorem t195_203 {d : Nat} {τ : T2} {Q : RS → T2 → Prop} {r3 : Option Nat} (k1 : Q (.inl (some (AP r3))) τ) : G d 195 203 [none, none, none, vQ r3, none, none, none] [] τ Q := by
  refine g_sk 1 (pc1 := 204) (st1 := [AP r3]) rfl ?_
  refine g_aret rfl rfl ?_
  exact k1

set_option maxRecDepth 8192 in
theorem t196_0 {d : Nat} {τ : T2} {Q : RS → T2 → Prop} {r0 : Nat} {r1 r2 : Option Nat} (k1 : G d 196 3 [vR r0, vQ r1, vQ r2, none, none, none, none, none, none] [AR (tN τ)] (nC τ (2, 3, 5) 5) Q) : G d 196 0 [vR r0, vQ r1, vQ r2, none, none, none, none, none, none] [] τ Q := by
  refine g_sk 1 (pc1 := 1) (st1 := [AI 5]) rfl ?_
  refine g_newa rfl rfl (by decide) (by decide) ?_
  exact k1

set_option maxRecDepth 8192 in
theorem t196_3 {d : Nat} {τ : T2} {Q : RS → T2 → Prop} {r0 r1 : Nat} {r2 s0 : Option Nat} (hd : 1 ≤ d) (sh1 : tS τ r1 = (1, 1, 0)) (k1 : G (d - 1) 258 0 [vR r1] [] τ (KC d 196 5 8 [vR r0, none, vQ r2, vQ s0, none, none, none, none, none] [] Q)) : G d 196 3 [vR r0, vR r1, vQ r2, none, none, none, none, none, none] [AP s0] τ Q := by
  refine g_sx 2 (pc1 := 5) (L1 := [vR r0, vR r1, vQ r2, vQ s0, none, none, none, none, none]) (st1 := [AR r1]) rfl ?_
  refine G_fg (lw2_k _ (lw2_f _ (lw2_k _ (lw2_k _ (lw2_k _ (lw2_k _ (lw2_k _ (lw2_k _ (lw2_k _ lw2_nil))))))))) ?_
  refine g_cv rfl rfl (by decide) rfl rfl (Nat.le_of_ble_eq_true rfl) (as2 := []) rfl sh1 rfl (by omega) (L0 := [vR r1]) rfl ?_
  exact k1

set_option maxRecDepth 8192 in
theorem t196_8 {d : Nat} {τ : T2} {Q : RS → T2 → Prop} {r0 : Nat} {r2 r3 s0 : Option Nat} (k1 : G d 196 10 [vR r0, none, vQ r2, vQ r3, vQ s0, none, none, none, none] [] τ Q) : G d 196 8 [vR r0, none, vQ r2, vQ r3, none, none, none, none, none] [AP s0] τ Q := by
  refine g_sx 1 (pc1 := 10) (L1 := [vR r0, none, vQ r2, vQ r3, vQ s0, none, none, none, none]) (st1 := []) rfl ?_
  exact k1

set_option maxRecDepth 8192 in
theorem t196_10 {d : Nat} {τ : T2} {Q : RS → T2 → Prop} {r0 : Nat} {r2 r3 r4 : Option Nat} (k1 : G d 196 12 [vR r0, none, vQ r2, vQ r3, vQ r4, none, none, none, none] [AP r4] τ Q) : G d 196 10 [vR r0, none, vQ r2, vQ r3, vQ r4, none, none, none, none] [] τ Q := by
  refine g_sk 1 (pc1 := 12) (st1 := [AP r4]) rfl ?_
  exact k1

set_option maxRecDepth 8192 in
theorem t196_17 {d : Nat} {τ : T2} {Q : RS → T2 → Prop} {y0 : Int} {r0 : Nat} {r2 r3 r4 : Option Nat} (k1 : y0 = 0 → Q (.inl (some (AP r3))) τ) (k2 : ¬ y0 = 0 → G d 196 22 [vR r0, none, vQ r2, vQ r3, vQ r4, none, none, none, none] [AP r4] τ Q) : G d 196 17 [vR r0, none, vQ r2, vQ r3, vQ r4, none, none, none, none] [AI y0] τ Q := by
  refine g_br1 rfl (t := 110) rfl (fun c1 => ?_) (fun c1 => ?_)
  · have c1 : y0 = 0 := of_decide_eq_true c1
    refine g_sk 1 (pc1 := 111) (st1 := [AP r3]) rfl ?_
    refine g_aret rfl rfl ?_
    exact (k1 c1)
  · have c1 : ¬ y0 = 0 := of_decide_eq_false c1
    refine g_sk 1 (pc1 := 22) (st1 := [AP r4]) rfl ?_
    exact (k2 c1)

set_option maxRecDepth 8192 in
theorem t196_27 {d : Nat} {τ : T2} {Q : RS → T2 → Prop} {r0 : Nat} {r2 r3 r4 s0 : Option Nat} (k1 : G d 196 27 [vR r0, none, vQ r2, vQ r3, vQ r4, none, none, none, none] [AP s0] τ Q) : G d 196 27 [vR r0, none, vQ r2, vQ r3, vQ r4, none, none, none, none] [AP s0] τ Q := by
  exact k1

set_option maxRecDepth 8192 in
theorem t196_43 {d : Nat} {τ : T2} {Q : RS → T2 → Prop} {r0 : Nat} {r2 r3 r4 r6 s0 : Option Nat} (k1 : G d 196 45 [vR r0, none, vQ r2, vQ r3, vQ r4, none, vQ r6, vQ s0, none] [] τ Q) : G d 196 43 [vR r0, none, vQ r2, vQ r3, vQ r4, none, vQ r6, none, none] [AP s0] τ Q := by
  refine g_sx 1 (pc1 := 45) (L1 := [vR r0, none, vQ r2, vQ r3, vQ r4, none, vQ r6, vQ s0, none]) (st1 := []) rfl ?_
  exact k1

set_option maxRecDepth 8192 in
theorem t196_45 {d : Nat} {τ : T2} {Q : RS → T2 → Prop} {r0 : Nat} {r2 r3 r4 r6 r7 : Option Nat} (k1 : G d 196 47 [vR r0, none, vQ r2, vQ r3, vQ r4, none, vQ r6, vQ r7, none] [AP r7] τ Q) : G d 196 45 [vR r0, none, vQ r2, vQ r3, vQ r4, none, vQ r6, vQ r7, none] [] τ Q := by
  refine g_sk 1 (pc1 := 47) (st1 := [AP r7]) rfl ?_
  exact k1

set_option maxRecDepth 8192 in
theorem t196_52 {d : Nat} {τ : T2} {Q : RS → T2 → Prop} {y0 : Int} {r0 : Nat} {r2 r3 r4 r6 r7 : Option Nat} (k1 : y0 = 0 → G d 196 83 [vR r0, none, vQ r2, vQ r3, vQ r4, none, vQ r6, vI 0, none] [] τ Q) (k2 : ¬ y0 = 0 → G d 196 57 [vR r0, none, vQ r2, vQ r3, vQ r4, none, vQ r6, vQ r7, none] [AP r7] τ Q) : G d 196 52 [vR r0, none, vQ r2, vQ r3, vQ r4, none, vQ r6, vQ r7, none] [AI y0] τ Q := by
  refine g_br1 rfl (t := 80) rfl (fun c1 => ?_) (fun c1 => ?_)
  · have c1 : y0 = 0 := of_decide_eq_true c1
    refine g_sx 2 (pc1 := 83) (L1 := [vR r0, none, vQ r2, vQ r3, vQ r4, none, vQ r6, vI 0, none]) (st1 := []) rfl ?_
    exact (k1 c1)
  · have c1 : ¬ y0 = 0 := of_decide_eq_false c1
    refine g_sk 1 (pc1 := 57) (st1 := [AP r7]) rfl ?_
    exact (k2 c1)

set_option maxRecDepth 8192 in
theorem t196_62 {d : Nat} {τ : T2} {Q : RS → T2 → Prop} {r0 : Nat} {r2 r3 r4 r6 r7 s0 : Option Nat} (k1 : G d 196 62 [vR r0, none, vQ r2, vQ r3, vQ r4, none, vQ r6, vQ r7, none] [AP s0] τ Q) : G d 196 62 [vR r0, none, vQ r2, vQ r3, vQ r4, none, vQ r6, vQ r7, none] [AP s0] τ Q := by
  exact k1

set_option maxRecDepth 8192 in
theorem t196_75 {d : Nat} {τ : T2} {Q : RS → T2 → Prop} {r0 : Nat} {r2 r3 r4 r7 s0 : Option Nat} (k1 : G d 196 45 [vR r0, none, vQ r2, vQ r3, vQ r4, none, vQ s0, vQ r7, none] [] τ Q) : G d 196 75 [vR r0, none, vQ r2, vQ r3, vQ r4, none, none, vQ r7, none] [AP s0] τ Q := by
  refine g_sx 2 (pc1 := 45) (L1 := [vR r0, none, vQ r2, vQ r3, vQ r4, none, vQ s0, vQ r7, none]) (st1 := []) rfl ?_
  exact k1

set_option maxRecDepth 8192 in
theorem t196_83 {d : Nat} {τ : T2} {Q : RS → T2 → Prop} {x7 : Int} {r0 r3 r6 n2 n5 : Nat} {r2 r4 : Option Nat} (sh3 : tS τ r3 = (2, 3, n2)) (b4 : x7 < 5 → (0 : Int) ≤ x7 ∧ x7 < (n2 : Int)) (sh6 : tS τ r6 = (2, 3, n5)) (b7 : x7 < 5 → (0 : Int) ≤ x7 ∧ x7 < (n5 : Int)) (k1 : 5 ≤ x7 → G d 196 10 [vR r0, none, vQ r2, vR r3, vQ r4, none, none, none, none] [] τ Q) (k2 : x7 < 5 → G d 196 83 [vR r0, none, vQ r2, vR r3, vQ r4, none, vR r6, vI (wr (x7 + 1)), none] [] (uI τ r3 x7.toNat (lor (tI τ r3 x7.toNat) (tI τ r6 x7.toNat))) Q) : G d 196 83 [vR r0, none, vQ r2, vR r3, vQ r4, none, vR r6, vI x7, none] [] τ Q := by
  refine g_sk 2 (pc1 := 86) (st1 := [AI 5, AI x7]) rfl ?_
  refine g_br2 rfl (t := 107) rfl (fun c1 => ?_) (fun c1 => ?_)
  · have c1 : 5 ≤ x7 := of_decide_eq_true c1
    refine g_sk 1 (pc1 := 10) (st1 := []) rfl ?_
    exact G_fg (lw2_k _ (lw2_k _ (lw2_k _ (lw2_k _ (lw2_k _ (lw2_k _ (lw2_f _ (lw2_f _ (lw2_k _ lw2_nil))))))))) (k1 c1)
  · have c1 : x7 < 5 := Int.not_le.mp (of_decide_eq_false c1)
    refine g_sk 3 (pc1 := 93) (st1 := [AI x7, AR r3, AI x7, AR r3]) rfl ?_
    refine g_lald rfl sh3 (b4 c1).1 (b4 c1).2 ?_
    refine g_sk 2 (pc1 := 98) (st1 := [AI x7, AR r6, AL (tI τ r3 x7.toNat), AI x7, AR r3]) rfl ?_
    refine g_lald rfl sh6 (b7 c1).1 (b7 c1).2 ?_
    refine g_sk 1 (pc1 := 100) (st1 := [AL (lor (tI τ r3 x7.toNat) (tI τ r6 x7.toNat)), AI x7, AR r3]) rfl ?_
    refine g_last rfl sh3 (b4 c1).1 (b4 c1).2 ?_
    refine g_sx 2 (pc1 := 83) (L1 := [vR r0, none, vQ r2, vR r3, vQ r4, none, vR r6, vI (wr (x7 + 1)), none]) (st1 := []) rfl ?_
    exact (k2 c1)

set_option maxRecDepth 8192 in
theorem t197_0 {d : Nat} {τ : T2} {Q : RS → T2 → Prop} {r0 r1 : Nat} (sh1 : tS τ r1 = (1, 15, 0)) (sh4 : tS τ r0 = (1, 21, 0)) (k1 : ∀ q3, (tP τ r1 10) = some q3 → G d 197 67 [vR r0, vR r1, none, none] [] τ Q) (k2 : (tP τ r1 10) = none → ¬ (tI τ r0 28) = (tI τ r1 2) → G d 197 26 [vR r0, vR r1, vI 0, vI 0] [] τ Q) (k3 : (tP τ r1 10) = none → (tI τ r0 28) = (tI τ r1 2) → G d 197 26 [vR r0, vR r1, vI 1, vI 0] [] τ Q) : G d 197 0 [vR r0, vR r1, none, none] [] τ Q := by
  refine g_sk 1 (pc1 := 1) (st1 := [AR r1]) rfl ?_
  refine g_gP rfl (ci := 15) (k := 10) rfl sh1 ?_
  refine g_nnl rfl (t := 67) rfl (fun q3 c2 => ?_) (fun c2 => ?_)
  · skip
    exact (k1 q3 c2)
  · skip
    refine g_sk 1 (pc1 := 8) (st1 := [AR r0]) rfl ?_
    refine g_gI rfl (ci := 21) (k := 28) rfl sh4 ?_
    refine g_sk 1 (pc1 := 12) (st1 := [AR r1, AI (tI τ r0 28)]) rfl ?_
    refine g_gI rfl (ci := 15) (k := 2) rfl sh1 ?_
    refine g_br2 rfl (t := 22) rfl (fun c5 => ?_) (fun c5 => ?_)
    · have c5 : ¬ (tI τ r0 28) = (tI τ r1 2) := of_decide_eq_true c5
      refine g_sx 4 (pc1 := 26) (L1 := [vR r0, vR r1, vI 0, vI 0]) (st1 := []) rfl ?_
      exact (k2 c2 c5)
    · have c5 : (tI τ r0 28) = (tI τ r1 2) := Decidable.of_not_not (of_decide_eq_false c5)
      refine g_sx 5 (pc1 := 26) (L1 := [vR r0, vR r1, vI 1, vI 0]) (st1 := []) rfl ?_
      exact (k3 c2 c5)

set_option maxRecDepth 8192 in
theorem t197_7 {d : Nat} {τ : T2} {Q : RS → T2 → Prop} {r0 r1 : Nat} (sh1 : tS τ r0 = (1, 21, 0)) (sh2 : tS τ r1 = (1, 15, 0)) (k1 : ¬ (tI τ r0 28) = (tI τ r1 2) → G d 197 26 [vR r0, vR r1, vI 0, vI 0] [] τ Q) (k2 : (tI τ r0 28) = (tI τ r1 2) → G d 197 26 [vR r0, vR r1, vI 1, vI 0] [] τ Q) : G d 197 7 [vR r0, vR r1, none, none] [] τ Q := by
  refine g_sk 1 (pc1 := 8) (st1 := [AR r0]) rfl ?_
  refine g_gI rfl (ci := 21) (k := 28) rfl sh1 ?_
  refine g_sk 1 (pc1 := 12) (st1 := [AR r1, AI (tI τ r0 28)]) rfl ?_
  refine g_gI rfl (ci := 15) (k := 2) rfl sh2 ?_
  refine g_br2 rfl (t := 22) rfl (fun c3 => ?_) (fun c3 => ?_)
  · have c3 : ¬ (tI τ r0 28) = (tI τ r1 2) := of_decide_eq_true c3
    refine g_sx 4 (pc1 := 26) (L1 := [vR r0, vR r1, vI 0, vI 0]) (st1 := []) rfl ?_
    exact (k1 c3)
  · have c3 : (tI τ r0 28) = (tI τ r1 2) := Decidable.of_not_not (of_decide_eq_false c3)
    refine g_sx 5 (pc1 := 26) (L1 := [vR r0, vR r1, vI 1, vI 0]) (st1 := []) rfl ?_
    exact (k2 c3)

set_option maxRecDepth 8192 in
theorem t197_26 {d : Nat} {τ : T2} {Q : RS → T2 → Prop} {x2 x3 : Int} {r0 r1 q7 n9 q12 n14 : Nat} (sh1 : tS τ r1 = (1, 15, 0)) (p3 : (tI τ r1 2) ≤ x3 → x2 = 0 ∨ x2 = 1) (p5 : x3 < (tI τ r1 2) → x2 = 0 → x2 = 0 ∨ x2 = 1) (sh6 : tS τ r0 = (1, 21, 0)) (p8 : tP τ r0 27 = some q7) (sh10 : tS τ q7 = (2, 1, n9)) (b11 : x3 < (tI τ r1 2) → ¬ x2 = 0 → (0 : Int) ≤ x3 ∧ x3 < (n9 : Int)) (p13 : tP τ r1 6 = some q12) (sh15 : tS τ q12 = (2, 1, n14)) (b16 : x3 < (tI τ r1 2) → ¬ x2 = 0 → (0 : Int) ≤ x3 ∧ x3 < (n14 : Int)) (k1 : (tI τ r1 2) ≤ x3 → Q (.inl (some (AI x2))) τ) (k2 : x3 < (tI τ r1 2) → x2 = 0 → Q (.inl (some (AI x2))) τ) (k3 : x3 < (tI τ r1 2) → ¬ x2 = 0 → ¬ (tI τ q7 x3.toNat) = (tI τ q12 x3.toNat) → G d 197 26 [vR r0, vR r1, vI 0, vI (wr (x3 + 1))] [] τ Q) (k4 : x3 < (tI τ r1 2) → ¬ x2 = 0 → (tI τ q7 x3.toNat) = (tI τ q12 x3.toNat) → G d 197 26 [vR r0, vR r1, vI 1, vI (wr (x3 + 1))] [] τ Q) : G d 197 26 [vR r0, vR r1, vI x2, vI x3] [] τ Q := by
  refine g_sk 2 (pc1 := 28) (st1 := [AR r1, AI x3]) rfl ?_
  refine g_gI rfl (ci := 15) (k := 2) rfl sh1 ?_
  refine g_br2 rfl (t := 65) rfl (fun c2 => ?_) (fun c2 => ?_)
  · have c2 : (tI τ r1 2) ≤ x3 := of_decide_eq_true c2
    refine g_sk 1 (pc1 := 66) (st1 := [AI x2]) rfl ?_
    refine g_zret rfl rfl (p3 c2) ?_
    exact (k1 c2)
  · have c2 : x3 < (tI τ r1 2) := Int.not_le.mp (of_decide_eq_false c2)
    refine g_sk 1 (pc1 := 35) (st1 := [AI x2]) rfl ?_
    refine g_br1 rfl (t := 65) rfl (fun c4 => ?_) (fun c4 => ?_)
    · have c4 : x2 = 0 := of_decide_eq_true c4
      refine g_sk 1 (pc1 := 66) (st1 := [AI x2]) rfl ?_
      refine g_zret rfl rfl (p5 c2 c4) ?_
      exact (k2 c2 c4)
    · have c4 : ¬ x2 = 0 := of_decide_eq_false c4
      refine g_sk 1 (pc1 := 39) (st1 := [AR r0]) rfl ?_
      refine g_gQ rfl (ci := 21) (k := 27) rfl sh6 p8 ?_
      refine g_sk 1 (pc1 := 43) (st1 := [AI x3, AR q7]) rfl ?_
      refine g_bald rfl sh10 (by decide) (b11 c2 c4).1 (b11 c2 c4).2 ?_
      refine g_sk 1 (pc1 := 45) (st1 := [AR r1, AI (tI τ q7 x3.toNat)]) rfl ?_
      refine g_gQ rfl (ci := 15) (k := 6) rfl sh1 p13 ?_
      refine g_sk 1 (pc1 := 49) (st1 := [AI x3, AR q12, AI (tI τ q7 x3.toNat)]) rfl ?_
      refine g_bald rfl sh15 (by decide) (b16 c2 c4).1 (b16 c2 c4).2 ?_
      refine g_br2 rfl (t := 57) rfl (fun c17 => ?_) (fun c17 => ?_)
      · have c17 : ¬ (tI τ q7 x3.toNat) = (tI τ q12 x3.toNat) := of_decide_eq_true c17
        refine g_sx 4 (pc1 := 26) (L1 := [vR r0, vR r1, vI 0, vI (wr (x3 + 1))]) (st1 := []) rfl ?_
        exact (k3 c2 c4 c17)
      · have c17 : (tI τ q7 x3.toNat) = (tI τ q12 x3.toNat) := Decidable.of_not_not (of_decide_eq_false c17)
        refine g_sx 5 (pc1 := 26) (L1 := [vR r0, vR r1, vI 1, vI (wr (x3 + 1))]) (st1 := []) rfl ?_
        exact (k4 c2 c4 c17)

set_option maxRecDepth 8192 in
theorem t197_67 {d : Nat} {τ : T2} {Q : RS → T2 → Prop} {r0 : Nat} {r1 : Option Nat} (k1 : G d 197 70 [vR r0, vQ r1, none, none] [AR (tN τ)] (nC τ (2, 3, 5) 5) Q) : G d 197 67 [vR r0, vQ r1, none, none] [] τ Q := by
  refine g_sk 1 (pc1 := 68) (st1 := [AI 5]) rfl ?_
  refine g_newa rfl rfl (by decide) (by decide) ?_
  exact k1

set_option maxRecDepth 8192 in
theorem t197_70 {d : Nat} {τ : T2} {Q : RS → T2 → Prop} {r0 : Nat} {r1 s0 : Option Nat} (hd : 1 ≤ d) (k1 : G (d - 1) 193 0 [vQ s0, vI 0] [] τ (KC d 197 73 76 [vR r0, vQ r1, vQ s0, none] [] Q)) : G d 197 70 [vR r0, vQ r1, none, none] [AP s0] τ Q := by
  refine g_sx 3 (pc1 := 73) (L1 := [vR r0, vQ r1, vQ s0, none]) (st1 := [AI 0, AP s0]) rfl ?_
  refine g_cs rfl rfl (by decide) rfl rfl (Nat.le_of_ble_eq_true rfl) rfl (by omega) (L0 := [vQ s0, vI 0]) rfl ?_
  exact k1

set_option maxRecDepth 8192 in
theorem t197_76 {d : Nat} {τ : T2} {Q : RS → T2 → Prop} {r0 r1 q2 : Nat} {r2 : Option Nat} (hd : 1 ≤ d) (sh1 : tS τ r1 = (1, 15, 0)) (p3 : tP τ r1 10 = some q2) (sh4 : tS τ q2 = (1, 13, 0)) (sh5 : tS τ r0 = (1, 21, 0)) (k1 : G (d - 1) 196 0 [vR r0, vQ (tP τ q2 0), vQ r2, none, none, none, none, none, none] [] τ (KC d 197 85 88 [vR r0, none, none, none] [] Q)) : G d 197 76 [vR r0, vR r1, vQ r2, none] [] τ Q := by
  refine g_sk 2 (pc1 := 78) (st1 := [AR r1, AR r0]) rfl ?_
  refine g_gQ rfl (ci := 15) (k := 10) rfl sh1 p3 ?_
  refine g_gP rfl (ci := 13) (k := 0) rfl sh4 ?_
  refine g_sk 1 (pc1 := 85) (st1 := [AP r2, AP (tP τ q2 0), AR r0]) rfl ?_
  refine G_fg (lw2_k _ (lw2_f _ (lw2_f _ (lw2_k _ lw2_nil)))) ?_
  refine g_cv rfl rfl (by decide) rfl rfl (Nat.le_of_ble_eq_true rfl) (as2 := [AP (tP τ q2 0), AP r2]) rfl sh5 rfl (by omega) (L0 := [vR r0, vQ (tP τ q2 0), vQ r2, none, none, none, none, none, none]) rfl ?_
  exact k1

set_option maxRecDepth 8192 in
theorem t197_88 {d : Nat} {τ : T2} {Q : RS → T2 → Prop} {r0 : Nat} {s0 : Option Nat} (hd : 1 ≤ d) (sh1 : tS τ r0 = (1, 21, 0)) (k1 : G (d - 1) 192 0 [vQ s0, vI (tI τ r0 28)] [] τ (KC d 197 92 95 [none, none, none, none] [] Q)) : G d 197 88 [vR r0, none, none, none] [AP s0] τ Q := by
  refine g_sk 1 (pc1 := 89) (st1 := [AR r0, AP s0]) rfl ?_
  refine g_gI rfl (ci := 21) (k := 28) rfl sh1 ?_
  refine G_fg (lw2_f _ (lw2_k _ (lw2_k _ (lw2_k _ lw2_nil)))) ?_
  refine g_cs rfl rfl (by decide) rfl rfl (Nat.le_of_ble_eq_true rfl) rfl (by omega) (L0 := [vQ s0, vI (tI τ r0 28)]) rfl ?_
  exact k1

set_option maxRecDepth 8192 in
theorem t197_95 {d : Nat} {τ : T2} {Q : RS → T2 → Prop} {y0 : Int} (p1 : y0 = 0 ∨ y0 = 1) (k1 : Q (.inl (some (AI y0))) τ) : G d 197 95 [none, none, none, none] [AI y0] τ Q := by
  refine g_zret rfl rfl p1 ?_
  exact k1

set_option maxRecDepth 8192 in
theorem t198_0 {d : Nat} {τ : T2} {Q : RS → T2 → Prop} {x1 : Int} {r0 : Nat} (sh1 : tS τ r0 = (1, 21, 0)) (k1 : G d 198 7 [vR r0, vI x1, vI 0, none] [] (uI τ r0 28 0) Q) : G d 198 0 [vR r0, vI x1, none, none] [] τ Q := by
  refine g_sk 2 (pc1 := 2) (st1 := [AI 0, AR r0]) rfl ?_
  refine g_putI (x := 0) rfl (ci := 21) (k := 28) (kd := 0) rfl (by decide) rfl rfl sh1 ?_
  refine g_sx 2 (pc1 := 7) (L1 := [vR r0, vI x1, vI 0, none]) (st1 := []) rfl ?_
  exact k1

set_option maxRecDepth 8192 in
theorem t198_7 {d : Nat} {τ : T2} {Q : RS → T2 → Prop} {x1 x2 : Int} {r0 q3 n5 : Nat} (hd : 1 ≤ d) (sh2 : tS τ r0 = (1, 21, 0)) (p4 : tP τ r0 14 = some q3) (sh6 : tS τ q3 = (2, 1, n5)) (b7 : x2 < x1 → (0 : Int) ≤ x2 ∧ x2 < (n5 : Int)) (k1 : x1 ≤ x2 → Q (.inl none) (uI τ r0 15 0)) (k2 : x2 < x1 → (zand (tI τ q3 x2.toNat) 255) < 65 → G (d - 1) 174 0 [vI (zand (tI τ q3 x2.toNat) 255)] [] τ (KC d 198 39 42 [vR r0, vI x1, vI x2, vI (zand (tI τ q3 x2.toNat) 255)] [] Q)) (k3 : x2 < x1 → 65 ≤ (zand (tI τ q3 x2.toNat) 255) → 90 < (zand (tI τ q3 x2.toNat) 255) → G (d - 1) 174 0 [vI (zand (tI τ q3 x2.toNat) 255)] [] τ (KC d 198 39 42 [vR r0, vI x1, vI x2, vI (zand (tI τ q3 x2.toNat) 255)] [] Q)) (k4 : x2 < x1 → 65 ≤ (zand (tI τ q3 x2.toNat) 255) → (zand (tI τ q3 x2.toNat) 255) ≤ 90 → G (d - 1) 174 0 [vI (wr ((zand (tI τ q3 x2.toNat) 255) + 32))] [] τ (KC d 198 39 42 [vR r0, vI x1, vI x2, vI (wr ((zand (tI τ q3 x2.toNat) 255) + 32))] [] Q)) : G d 198 7 [vR r0, vI x1, vI x2, none] [] τ Q := by
  refine g_sk 2 (pc1 := 9) (st1 := [AI x1, AI x2]) rfl ?_
  refine g_br2 rfl (t := 75) rfl (fun c1 => ?_) (fun c1 => ?_)
  · have c1 : x1 ≤ x2 := of_decide_eq_true c1
    refine g_sk 2 (pc1 := 77) (st1 := [AI 0, AR r0]) rfl ?_
    refine g_putI (x := 0) rfl (ci := 21) (k := 15) (kd := 0) rfl (by decide) rfl rfl sh2 ?_
    refine g_vret rfl rfl ?_
    exact (k1 c1)
  · have c1 : x2 < x1 := Int.not_le.mp (of_decide_eq_false c1)
    refine g_sk 1 (pc1 := 13) (st1 := [AR r0]) rfl ?_
    refine g_gQ rfl (ci := 21) (k := 14) rfl sh2 p4 ?_
    refine g_sk 1 (pc1 := 17) (st1 := [AI x2, AR q3]) rfl ?_
    refine g_bald rfl sh6 (by decide) (b7 c1).1 (b7 c1).2 ?_
    refine g_sx 5 (pc1 := 26) (L1 := [vR r0, vI x1, vI x2, vI (zand (tI τ q3 x2.toNat) 255)]) (st1 := [AI 65, AI (zand (tI τ q3 x2.toNat) 255)]) rfl ?_
    refine g_br2 rfl (t := 38) rfl (fun c8 => ?_) (fun c8 => ?_)
    · have c8 : (zand (tI τ q3 x2.toNat) 255) < 65 := of_decide_eq_true c8
      refine g_sk 1 (pc1 := 39) (st1 := [AI (zand (tI τ q3 x2.toNat) 255)]) rfl ?_
      refine g_cs rfl rfl (by decide) rfl rfl (Nat.le_of_ble_eq_true rfl) rfl (by omega) (L0 := [vI (zand (tI τ q3 x2.toNat) 255)]) rfl ?_
      exact (k2 c1 c8)
    · have c8 : 65 ≤ (zand (tI τ q3 x2.toNat) 255) := Int.not_lt.mp (of_decide_eq_false c8)
      refine g_sk 2 (pc1 := 32) (st1 := [AI 90, AI (zand (tI τ q3 x2.toNat) 255)]) rfl ?_
      refine g_br2 rfl (t := 38) rfl (fun c9 => ?_) (fun c9 => ?_)
      · have c9 : 90 < (zand (tI τ q3 x2.toNat) 255) := of_decide_eq_true c9
        refine g_sk 1 (pc1 := 39) (st1 := [AI (zand (tI τ q3 x2.toNat) 255)]) rfl ?_
        refine g_cs rfl rfl (by decide) rfl rfl (Nat.le_of_ble_eq_true rfl) rfl (by omega) (L0 := [vI (zand (tI τ q3 x2.toNat) 255)]) rfl ?_
        exact (k3 c1 c8 c9)
      · have c9 : (zand (tI τ q3 x2.toNat) 255) ≤ 90 := Int.not_lt.mp (of_decide_eq_false c9)
        refine g_sx 2 (pc1 := 39) (L1 := [vR r0, vI x1, vI x2, vI (wr ((zand (tI τ q3 x2.toNat) 255) + 32))]) (st1 := [AI (wr ((zand (tI τ q3 x2.toNat) 255) + 32))]) rfl ?_
        refine g_cs rfl rfl (by decide) rfl rfl (Nat.le_of_ble_eq_true rfl) rfl (by omega) (L0 := [vI (wr ((zand (tI τ q3 x2.toNat) 255) + 32))]) rfl ?_
        exact (k4 c1 c8 c9)

set_option maxRecDepth 8192 in
theorem t198_42 {d : Nat} {τ : T2} {Q : RS → T2 → Prop} {x1 x2 x3 y0 : Int} {r0 q3 n5 : Nat} (sh2 : tS τ r0 = (1, 21, 0)) (p4 : tP τ r0 27 = some q3) (sh6 : tS τ q3 = (2, 1, n5)) (b7 : ¬ y0 = 0 → (0 : Int) ≤ (tI τ r0 28) ∧ (tI τ r0 28) < (n5 : Int)) (k1 : ¬ y0 = 0 → G d 198 7 [vR r0, vI x1, vI (wr (x2 + 1)), none] [] (uI (uI τ q3 (tI τ r0 28).toNat (zbyt (zbyt x3))) r0 28 (wr ((tI (uI τ q3 (tI τ r0 28).toNat (zbyt (zbyt x3))) r0 28) + 1))) Q) (k2 : y0 = 0 → G d 198 7 [vR r0, vI x1, vI (wr (x2 + 1)), none] [] τ Q) : G d 198 42 [vR r0, vI x1, vI x2, vI x3] [AI y0] τ Q := by
  refine g_br1 rfl (t := 48) rfl (fun c1 => ?_) (fun c1 => ?_)
  · have c1 : ¬ y0 = 0 := of_decide_eq_true c1
    refine g_sk 1 (pc1 := 49) (st1 := [AR r0]) rfl ?_
    refine g_gQ rfl (ci := 21) (k := 27) rfl sh2 p4 ?_
    refine g_sk 1 (pc1 := 53) (st1 := [AR r0, AR q3]) rfl ?_
    refine g_gI rfl (ci := 21) (k := 28) rfl sh2 ?_
    refine g_sk 2 (pc1 := 58) (st1 := [AI (zbyt x3), AI (tI τ r0 28), AR q3]) rfl ?_
    refine g_bast rfl sh6 (b7 c1).1 (b7 c1).2 ?_
    refine g_sk 2 (pc1 := 61) (st1 := [AR r0, AR r0]) rfl ?_
    refine g_gI rfl (ci := 21) (k := 28) rfl sh2 ?_
    refine g_sk 2 (pc1 := 66) (st1 := [AI (wr ((tI (uI τ q3 (tI τ r0 28).toNat (zbyt (zbyt x3))) r0 28) + 1)), AR r0]) rfl ?_
    refine g_putI (x := (wr ((tI (uI τ q3 (tI τ r0 28).toNat (zbyt (zbyt x3))) r0 28) + 1))) rfl (ci := 21) (k := 28) (kd := 0) rfl (by decide) rfl rfl sh2 ?_
    refine g_sx 2 (pc1 := 7) (L1 := [vR r0, vI x1, vI (wr (x2 + 1)), vI x3]) (st1 := []) rfl ?_
    exact G_fg (lw2_k _ (lw2_k _ (lw2_k _ (lw2_f _ lw2_nil)))) (k1 c1)
  · have c1 : y0 = 0 := Decidable.of_not_not (of_decide_eq_false c1)
    refine g_sx 3 (pc1 := 7) (L1 := [vR r0, vI x1, vI (wr (x2 + 1)), vI x3]) (st1 := []) rfl ?_
    exact G_fg (lw2_k _ (lw2_k _ (lw2_k _ (lw2_f _ lw2_nil)))) (k2 c1)

set_option maxRecDepth 8192 in
theorem t199_0 {d : Nat} {τ : T2} {Q : RS → T2 → Prop} {r0 : Nat} {r1 : Option Nat} (k1 : G d 199 2 [vR r0, vQ r1, vI 0, none, none] [] τ Q) : G d 199 0 [vR r0, vQ r1, none, none, none] [] τ Q := by
  refine g_sx 2 (pc1 := 2) (L1 := [vR r0, vQ r1, vI 0, none, none]) (st1 := []) rfl ?_
  exact k1

set_option maxRecDepth 8192 in
theorem t199_2 {d : Nat} {τ : T2} {Q : RS → T2 → Prop} {x2 : Int} {r0 r1 q4 n6 : Nat} (sh1 : tS τ r1 = (1, 15, 0)) (sh3 : tS τ r0 = (1, 21, 0)) (p5 : tP τ r0 29 = some q4) (sh7 : tS τ q4 = (2, 0, n6)) (b8 : x2 ≤ (tI τ r1 2) → (0 : Int) ≤ x2 ∧ x2 < (n6 : Int)) (k1 : (tI τ r1 2) < x2 → G d 199 25 [vR r0, vR r1, vI 1, none, none] [] τ Q) (k2 : x2 ≤ (tI τ r1 2) → G d 199 2 [vR r0, vR r1, vI (wr (x2 + 1)), none, none] [] (uI τ q4 x2.toNat x2) Q) : G d 199 2 [vR r0, vR r1, vI x2, none, none] [] τ Q := by
  refine g_sk 2 (pc1 := 4) (st1 := [AR r1, AI x2]) rfl ?_
  refine g_gI rfl (ci := 15) (k := 2) rfl sh1 ?_
  refine g_br2 rfl (t := 23) rfl (fun c2 => ?_) (fun c2 => ?_)
  · have c2 : (tI τ r1 2) < x2 := of_decide_eq_true c2
    refine g_sx 2 (pc1 := 25) (L1 := [vR r0, vR r1, vI 1, none, none]) (st1 := []) rfl ?_
    exact (k1 c2)
  · have c2 : x2 ≤ (tI τ r1 2) := Int.not_lt.mp (of_decide_eq_false c2)
    refine g_sk 1 (pc1 := 11) (st1 := [AR r0]) rfl ?_
    refine g_gQ rfl (ci := 21) (k := 29) rfl sh3 p5 ?_
    refine g_sk 2 (pc1 := 16) (st1 := [AI x2, AI x2, AR q4]) rfl ?_
    refine g_iast rfl sh7 (b8 c2).1 (b8 c2).2 ?_
    refine g_sx 2 (pc1 := 2) (L1 := [vR r0, vR r1, vI (wr (x2 + 1)), none, none]) (st1 := []) rfl ?_
    exact (k2 c2)

set_option maxRecDepth 8192 in
theorem t199_25 {d : Nat} {τ : T2} {Q : RS → T2 → Prop} {x2 : Int} {r0 r1 q3 n6 q9 n11 : Nat} (sh1 : tS τ r0 = (1, 21, 0)) (p4 : tP τ r0 29 = some q3) (sh5 : tS τ r1 = (1, 15, 0)) (sh7 : tS τ q3 = (2, 0, n6)) (b8 : (tI τ r0 28) < x2 → (0 : Int) ≤ (tI τ r1 2) ∧ (tI τ r1 2) < (n6 : Int)) (p10 : tP τ r0 30 = some q9) (sh12 : tS τ q9 = (2, 0, n11)) (b13 : (0 : Int) ≤ 0 ∧ 0 < (n11 : Int)) (k1 : (tI τ r0 28) < x2 → Q (.inl (some (AI (tI τ q3 (tI τ r1 2).toNat)))) τ) (k2 : x2 ≤ (tI τ r0 28) → G d 199 42 [vR r0, vR r1, vI x2, vI 1, none] [] (uI τ q9 0 x2) Q) : G d 199 25 [vR r0, vR r1, vI x2, none, none] [] τ Q := by
  refine g_sk 2 (pc1 := 27) (st1 := [AR r0, AI x2]) rfl ?_
  refine g_gI rfl (ci := 21) (k := 28) rfl sh1 ?_
  refine g_br2 rfl (t := 155) rfl (fun c2 => ?_) (fun c2 => ?_)
  · have c2 : (tI τ r0 28) < x2 := of_decide_eq_true c2
    refine g_sk 1 (pc1 := 156) (st1 := [AR r0]) rfl ?_
    refine g_gQ rfl (ci := 21) (k := 29) rfl sh1 p4 ?_
    refine g_sk 1 (pc1 := 160) (st1 := [AR r1, AR q3]) rfl ?_
    refine g_gI rfl (ci := 15) (k := 2) rfl sh5 ?_
    refine g_iald rfl sh7 (by decide) (b8 c2).1 (b8 c2).2 ?_
    refine g_iret rfl rfl ?_
    exact (k1 c2)
  · have c2 : x2 ≤ (tI τ r0 28) := Int.not_lt.mp (of_decide_eq_false c2)
    refine g_sk 1 (pc1 := 34) (st1 := [AR r0]) rfl ?_
    refine g_gQ rfl (ci := 21) (k := 30) rfl sh1 p10 ?_
    refine g_sk 2 (pc1 := 39) (st1 := [AI x2, AI 0, AR q9]) rfl ?_
    refine g_iast rfl sh12 b13.1 b13.2 ?_
    refine g_sx 2 (pc1 := 42) (L1 := [vR r0, vR r1, vI x2, vI 1, none]) (st1 := []) rfl ?_
    exact (k2 c2)

set_option maxRecDepth 8192 in
theorem t199_42 {d : Nat} {τ : T2} {Q : RS → T2 → Prop} {x2 x3 : Int} {r0 r1 q4 n6 q9 n11 q14 n16 q20 n23 : Nat} (hd : 17 ≤ d) (sh1 : tS τ r1 = (1, 15, 0)) (sh3 : tS τ r0 = (1, 21, 0)) (p5 : tP τ r0 29 = some q4) (sh7 : tS τ q4 = (2, 0, n6)) (b8 : x3 ≤ (tI τ r1 2) → (0 : Int) ≤ (wr (x3 - 1)) ∧ (wr (x3 - 1)) < (n6 : Int)) (p10 : tP τ r0 27 = some q9) (sh12 : tS τ q9 = (2, 1, n11)) (b13 : x3 ≤ (tI τ r1 2) → (0 : Int) ≤ (wr (x2 - 1)) ∧ (wr (x2 - 1)) < (n11 : Int)) (p15 : tP τ r1 6 = some q14) (sh17 : tS τ q14 = (2, 1, n16)) (b18 : x3 ≤ (tI τ r1 2) → (0 : Int) ≤ (wr (x3 - 1)) ∧ (wr (x3 - 1)) < (n16 : Int)) (p21 : tP τ r0 30 = some q20) (b22 : x3 ≤ (tI τ r1 2) → ¬ (tI τ q9 (wr (x2 - 1)).toNat) = (tI τ q14 (wr (x3 - 1)).toNat) → (0 : Int) ≤ x3 ∧ x3 < (n6 : Int)) (sh24 : tS τ q20 = (2, 0, n23)) (b25 : x3 ≤ (tI τ r1 2) → ¬ (tI τ q9 (wr (x2 - 1)).toNat) = (tI τ q14 (wr (x3 - 1)).toNat) → (0 : Int) ≤ (wr (x3 - 1)) ∧ (wr (x3 - 1)) < (n23 : Int)) (b26 : x3 ≤ (tI τ r1 2) → ¬ (tI τ q9 (wr (x2 - 1)).toNat) = (tI τ q14 (wr (x3 - 1)).toNat) → (0 : Int) ≤ x3 ∧ x3 < (n23 : Int)) (b29 : x3 ≤ (tI τ r1 2) → (tI τ q9 (wr (x2 - 1)).toNat) = (tI τ q14 (wr (x3 - 1)).toNat) → (0 : Int) ≤ x3 ∧ x3 < (n6 : Int)) (b30 : x3 ≤ (tI τ r1 2) → (tI τ q9 (wr (x2 - 1)).toNat) = (tI τ q14 (wr (x3 - 1)).toNat) → (0 : Int) ≤ (wr (x3 - 1)) ∧ (wr (x3 - 1)) < (n23 : Int)) (b31 : x3 ≤ (tI τ r1 2) → (tI τ q9 (wr (x2 - 1)).toNat) = (tI τ q14 (wr (x3 - 1)).toNat) → (0 : Int) ≤ x3 ∧ x3 < (n23 : Int)) (k1 : (tI τ r1 2) < x3 → G d 199 123 [vR r0, vR r1, vI x2, vI 0, none] [] τ Q) (k2 : x3 ≤ (tI τ r1 2) → ¬ (tI τ q9 (wr (x2 - 1)).toNat) = (tI τ q14 (wr (x3 - 1)).toNat) → ∀ τ27, (uI τ q20 x3.toNat (if (wr (1 + (if (tI τ q20 (wr (x3 - 1)).toNat) < (tI τ q4 x3.toNat) then (tI τ q20 (wr (x3 - 1)).toNat) else (tI τ q4 x3.toNat)))) < (wr ((tI τ q4 (wr (x3 - 1)).toNat) + 1)) then (wr (1 + (if (tI τ q20 (wr (x3 - 1)).toNat) < (tI τ q4 x3.toNat) then (tI τ q20 (wr (x3 - 1)).toNat) else (tI τ q4 x3.toNat)))) else (wr ((tI τ q4 (wr (x3 - 1)).toNat) + 1)))) = τ27 → G d 199 42 [vR r0, vR r1, vI x2, vI (wr (x3 + 1)), none] [] τ27 Q) (k3 : x3 ≤ (tI τ r1 2) → (tI τ q9 (wr (x2 - 1)).toNat) = (tI τ q14 (wr (x3 - 1)).toNat) → ∀ τ32, (uI τ q20 x3.toNat (if (wr (1 + (if (tI τ q20 (wr (x3 - 1)).toNat) < (tI τ q4 x3.toNat) then (tI τ q20 (wr (x3 - 1)).toNat) else (tI τ q4 x3.toNat)))) < (wr ((tI τ q4 (wr (x3 - 1)).toNat) + 0)) then (wr (1 + (if (tI τ q20 (wr (x3 - 1)).toNat) < (tI τ q4 x3.toNat) then (tI τ q20 (wr (x3 - 1)).toNat) else (tI τ q4 x3.toNat)))) else (wr ((tI τ q4 (wr (x3 - 1)).toNat) + 0)))) = τ32 → G d 199 42 [vR r0, vR r1, vI x2, vI (wr (x3 + 1)), none] [] τ32 Q) : G d 199 42 [vR r0, vR r1, vI x2, vI x3, none] [] τ Q := by
  refine g_sk 2 (pc1 := 44) (st1 := [AR r1, AI x3]) rfl ?_
  refine g_gI rfl (ci := 15) (k := 2) rfl sh1 ?_
  refine g_br2 rfl (t := 121) rfl (fun c2 => ?_) (fun c2 => ?_)
  · have c2 : (tI τ r1 2) < x3 := of_decide_eq_true c2
    refine g_sx 2 (pc1 := 123) (L1 := [vR r0, vR r1, vI x2, vI 0, none]) (st1 := []) rfl ?_
    exact (k1 c2)
  · have c2 : x3 ≤ (tI τ r1 2) := Int.not_lt.mp (of_decide_eq_false c2)
    refine g_sk 1 (pc1 := 51) (st1 := [AR r0]) rfl ?_
    refine g_gQ rfl (ci := 21) (k := 29) rfl sh3 p5 ?_
    refine g_sk 3 (pc1 := 57) (st1 := [AI (wr (x3 - 1)), AR q4]) rfl ?_
    refine g_iald rfl sh7 (by decide) (b8 c2).1 (b8 c2).2 ?_
    refine g_sk 1 (pc1 := 59) (st1 := [AR r0, AI (tI τ q4 (wr (x3 - 1)).toNat)]) rfl ?_
    refine g_gQ rfl (ci := 21) (k := 27) rfl sh3 p10 ?_
    refine g_sk 3 (pc1 := 65) (st1 := [AI (wr (x2 - 1)), AR q9, AI (tI τ q4 (wr (x3 - 1)).toNat)]) rfl ?_
    refine g_bald rfl sh12 (by decide) (b13 c2).1 (b13 c2).2 ?_
    refine g_sk 1 (pc1 := 67) (st1 := [AR r1, AI (tI τ q9 (wr (x2 - 1)).toNat), AI (tI τ q4 (wr (x3 - 1)).toNat)]) rfl ?_
    refine g_gQ rfl (ci := 15) (k := 6) rfl sh1 p15 ?_
    refine g_sk 3 (pc1 := 73) (st1 := [AI (wr (x3 - 1)), AR q14, AI (tI τ q9 (wr (x2 - 1)).toNat), AI (tI τ q4 (wr (x3 - 1)).toNat)]) rfl ?_
    refine g_bald rfl sh17 (by decide) (b18 c2).1 (b18 c2).2 ?_
    refine g_br2 rfl (t := 81) rfl (fun c19 => ?_) (fun c19 => ?_)
    · have c19 : ¬ (tI τ q9 (wr (x2 - 1)).toNat) = (tI τ q14 (wr (x3 - 1)).toNat) := of_decide_eq_true c19
      refine g_sx 4 (pc1 := 86) (L1 := [vR r0, vR r1, vI x2, vI x3, vI (wr ((tI τ q4 (wr (x3 - 1)).toNat) + 1))]) (st1 := [AR r0]) rfl ?_
      refine g_gQ rfl (ci := 21) (k := 30) rfl sh3 p21 ?_
      refine g_sk 4 (pc1 := 94) (st1 := [AR r0, AI 1, AI (wr ((tI τ q4 (wr (x3 - 1)).toNat) + 1)), AI x3, AR q20]) rfl ?_
      refine g_gQ rfl (ci := 21) (k := 29) rfl sh3 p5 ?_
      refine g_sk 1 (pc1 := 98) (st1 := [AI x3, AR q4, AI 1, AI (wr ((tI τ q4 (wr (x3 - 1)).toNat) + 1)), AI x3, AR q20]) rfl ?_
      refine g_iald rfl sh7 (by decide) (b22 c2 c19).1 (b22 c2 c19).2 ?_
      refine g_sk 1 (pc1 := 100) (st1 := [AR r0, AI (tI τ q4 x3.toNat), AI 1, AI (wr ((tI τ q4 (wr (x3 - 1)).toNat) + 1)), AI x3, AR q20]) rfl ?_
      refine g_gQ rfl (ci := 21) (k := 30) rfl sh3 p21 ?_
      refine g_sk 3 (pc1 := 106) (st1 := [AI (wr (x3 - 1)), AR q20, AI (tI τ q4 x3.toNat), AI 1, AI (wr ((tI τ q4 (wr (x3 - 1)).toNat) + 1)), AI x3, AR q20]) rfl ?_
      refine g_iald rfl sh24 (by decide) (b25 c2 c19).1 (b25 c2 c19).2 ?_
      refine g_min rfl rfl rfl hd ?_
      refine g_sk 1 (pc1 := 111) (st1 := [AI (wr (1 + (if (tI τ q20 (wr (x3 - 1)).toNat) < (tI τ q4 x3.toNat) then (tI τ q20 (wr (x3 - 1)).toNat) else (tI τ q4 x3.toNat)))), AI (wr ((tI τ q4 (wr (x3 - 1)).toNat) + 1)), AI x3, AR q20]) rfl ?_
      refine g_min rfl rfl rfl hd ?_
      refine g_iast rfl sh24 (b26 c2 c19).1 (b26 c2 c19).2 ?_
      show G d 199 115 [vR r0, vR r1, vI x2, vI x3, vI (wr ((tI τ q4 (wr (x3 - 1)).toNat) + 1))] [] (uI τ q20 x3.toNat (if (wr (1 + (if (tI τ q20 (wr (x3 - 1)).toNat) < (tI τ q4 x3.toNat) then (tI τ q20 (wr (x3 - 1)).toNat) else (tI τ q4 x3.toNat)))) < (wr ((tI τ q4 (wr (x3 - 1)).toNat) + 1)) then (wr (1 + (if (tI τ q20 (wr (x3 - 1)).toNat) < (tI τ q4 x3.toNat) then (tI τ q20 (wr (x3 - 1)).toNat) else (tI τ q4 x3.toNat)))) else (wr ((tI τ q4 (wr (x3 - 1)).toNat) + 1)))) Q
      generalize e28 : (uI τ q20 x3.toNat (if (wr (1 + (if (tI τ q20 (wr (x3 - 1)).toNat) < (tI τ q4 x3.toNat) then (tI τ q20 (wr (x3 - 1)).toNat) else (tI τ q4 x3.toNat)))) < (wr ((tI τ q4 (wr (x3 - 1)).toNat) + 1)) then (wr (1 + (if (tI τ q20 (wr (x3 - 1)).toNat) < (tI τ q4 x3.toNat) then (tI τ q20 (wr (x3 - 1)).toNat) else (tI τ q4 x3.toNat)))) else (wr ((tI τ q4 (wr (x3 - 1)).toNat) + 1)))) = τ27
      refine g_sx 2 (pc1 := 42) (L1 := [vR r0, vR r1, vI x2, vI (wr (x3 + 1)), vI (wr ((tI τ q4 (wr (x3 - 1)).toNat) + 1))]) (st1 := []) rfl ?_
      exact G_fg (lw2_k _ (lw2_k _ (lw2_k _ (lw2_k _ (lw2_f _ lw2_nil))))) (k2 c2 c19 τ27 e28)
    · have c19 : (tI τ q9 (wr (x2 - 1)).toNat) = (tI τ q14 (wr (x3 - 1)).toNat) := Decidable.of_not_not (of_decide_eq_false c19)
      refine g_sx 5 (pc1 := 86) (L1 := [vR r0, vR r1, vI x2, vI x3, vI (wr ((tI τ q4 (wr (x3 - 1)).toNat) + 0))]) (st1 := [AR r0]) rfl ?_
      refine g_gQ rfl (ci := 21) (k := 30) rfl sh3 p21 ?_
      refine g_sk 4 (pc1 := 94) (st1 := [AR r0, AI 1, AI (wr ((tI τ q4 (wr (x3 - 1)).toNat) + 0)), AI x3, AR q20]) rfl ?_
      refine g_gQ rfl (ci := 21) (k := 29) rfl sh3 p5 ?_
      refine g_sk 1 (pc1 := 98) (st1 := [AI x3, AR q4, AI 1, AI (wr ((tI τ q4 (wr (x3 - 1)).toNat) + 0)), AI x3, AR q20]) rfl ?_
      refine g_iald rfl sh7 (by decide) (b29 c2 c19).1 (b29 c2 c19).2 ?_
      refine g_sk 1 (pc1 := 100) (st1 := [AR r0, AI (tI τ q4 x3.toNat), AI 1, AI (wr ((tI τ q4 (wr (x3 - 1)).toNat) + 0)), AI x3, AR q20]) rfl ?_
      refine g_gQ rfl (ci := 21) (k := 30) rfl sh3 p21 ?_
      refine g_sk 3 (pc1 := 106) (st1 := [AI (wr (x3 - 1)), AR q20, AI (tI τ q4 x3.toNat), AI 1, AI (wr ((tI τ q4 (wr (x3 - 1)).toNat) + 0)), AI x3, AR q20]) rfl ?_
      refine g_iald rfl sh24 (by decide) (b30 c2 c19).1 (b30 c2 c19).2 ?_
      refine g_min rfl rfl rfl hd ?_
      refine g_sk 1 (pc1 := 111) (st1 := [AI (wr (1 + (if (tI τ q20 (wr (x3 - 1)).toNat) < (tI τ q4 x3.toNat) then (tI τ q20 (wr (x3 - 1)).toNat) else (tI τ q4 x3.toNat)))), AI (wr ((tI τ q4 (wr (x3 - 1)).toNat) + 0)), AI x3, AR q20]) rfl ?_
      refine g_min rfl rfl rfl hd ?_
      refine g_iast rfl sh24 (b31 c2 c19).1 (b31 c2 c19).2 ?_
      show G d 199 115 [vR r0, vR r1, vI x2, vI x3, vI (wr ((tI τ q4 (wr (x3 - 1)).toNat) + 0))] [] (uI τ q20 x3.toNat (if (wr (1 + (if (tI τ q20 (wr (x3 - 1)).toNat) < (tI τ q4 x3.toNat) then (tI τ q20 (wr (x3 - 1)).toNat) else (tI τ q4 x3.toNat)))) < (wr ((tI τ q4 (wr (x3 - 1)).toNat) + 0)) then (wr (1 + (if (tI τ q20 (wr (x3 - 1)).toNat) < (tI τ q4 x3.toNat) then (tI τ q20 (wr (x3 - 1)).toNat) else (tI τ q4 x3.toNat)))) else (wr ((tI τ q4 (wr (x3 - 1)).toNat) + 0)))) Q
      generalize e33 : (uI τ q20 x3.toNat (if (wr (1 + (if (tI τ q20 (wr (x3 - 1)).toNat) < (tI τ q4 x3.toNat) then (tI τ q20 (wr (x3 - 1)).toNat) else (tI τ q4 x3.toNat)))) < (wr ((tI τ q4 (wr (x3 - 1)).toNat) + 0)) then (wr (1 + (if (tI τ q20 (wr (x3 - 1)).toNat) < (tI τ q4 x3.toNat) then (tI τ q20 (wr (x3 - 1)).toNat) else (tI τ q4 x3.toNat)))) else (wr ((tI τ q4 (wr (x3 - 1)).toNat) + 0)))) = τ32
      refine g_sx 2 (pc1 := 42) (L1 := [vR r0, vR r1, vI x2, vI (wr (x3 + 1)), vI (wr ((tI τ q4 (wr (x3 - 1)).toNat) + 0))]) (st1 := []) rfl ?_
      exact G_fg (lw2_k _ (lw2_k _ (lw2_k _ (lw2_k _ (lw2_f _ lw2_nil))))) (k3 c2 c19 τ32 e33)

set_option maxRecDepth 8192 in
theorem t199_123 {d : Nat} {τ : T2} {Q : RS → T2 → Prop} {x2 x3 : Int} {r0 r1 q4 q6 n8 n11 : Nat} (sh1 : tS τ r1 = (1, 15, 0)) (sh3 : tS τ r0 = (1, 21, 0)) (p5 : tP τ r0 29 = some q4) (p7 : tP τ r0 30 = some q6) (sh9 : tS τ q6 = (2, 0, n8)) (b10 : x3 ≤ (tI τ r1 2) → (0 : Int) ≤ x3 ∧ x3 < (n8 : Int)) (sh12 : tS τ q4 = (2, 0, n11)) (b13 : x3 ≤ (tI τ r1 2) → (0 : Int) ≤ x3 ∧ x3 < (n11 : Int)) (k1 : (tI τ r1 2) < x3 → G d 199 25 [vR r0, vR r1, vI (wr (x2 + 1)), none, none] [] τ Q) (k2 : x3 ≤ (tI τ r1 2) → G d 199 123 [vR r0, vR r1, vI x2, vI (wr (x3 + 1)), none] [] (uI τ q4 x3.toNat (tI τ q6 x3.toNat)) Q) : G d 199 123 [vR r0, vR r1, vI x2, vI x3, none] [] τ Q := by
  refine g_sk 2 (pc1 := 125) (st1 := [AR r1, AI x3]) rfl ?_
  refine g_gI rfl (ci := 15) (k := 2) rfl sh1 ?_
  refine g_br2 rfl (t := 149) rfl (fun c2 => ?_) (fun c2 => ?_)
  · have c2 : (tI τ r1 2) < x3 := of_decide_eq_true c2
    refine g_sx 2 (pc1 := 25) (L1 := [vR r0, vR r1, vI (wr (x2 + 1)), vI x3, none]) (st1 := []) rfl ?_
    exact G_fg (lw2_k _ (lw2_k _ (lw2_k _ (lw2_f _ (lw2_k _ lw2_nil))))) (k1 c2)
  · have c2 : x3 ≤ (tI τ r1 2) := Int.not_lt.mp (of_decide_eq_false c2)
    refine g_sk 1 (pc1 := 132) (st1 := [AR r0]) rfl ?_
    refine g_gQ rfl (ci := 21) (k := 29) rfl sh3 p5 ?_
    refine g_sk 2 (pc1 := 137) (st1 := [AR r0, AI x3, AR q4]) rfl ?_
    refine g_gQ rfl (ci := 21) (k := 30) rfl sh3 p7 ?_
    refine g_sk 1 (pc1 := 141) (st1 := [AI x3, AR q6, AI x3, AR q4]) rfl ?_
    refine g_iald rfl sh9 (by decide) (b10 c2).1 (b10 c2).2 ?_
    refine g_iast rfl sh12 (b13 c2).1 (b13 c2).2 ?_
    refine g_sx 2 (pc1 := 123) (L1 := [vR r0, vR r1, vI x2, vI (wr (x3 + 1)), none]) (st1 := []) rfl ?_
    exact (k2 c2)

set_option maxRecDepth 8192 in
theorem t200_0 {d : Nat} {τ : T2} {Q : RS → T2 → Prop} {r0 : Nat} {r1 : Option Nat} (hd : 1 ≤ d) (sh1 : tS τ r0 = (1, 21, 0)) (k1 : G (d - 1) 197 0 [vR r0, vQ r1, none, none] [] τ (KC d 200 2 5 [vR r0, vQ r1] [] Q)) : G d 200 0 [vR r0, vQ r1] [] τ Q := by
  refine g_sk 2 (pc1 := 2) (st1 := [AP r1, AR r0]) rfl ?_
  refine g_cv rfl rfl (by decide) rfl rfl (Nat.le_of_ble_eq_true rfl) (as2 := [AP r1]) rfl sh1 rfl (by omega) (L0 := [vR r0, vQ r1, none, none]) rfl ?_
  exact k1

set_option maxRecDepth 8192 in
theorem t200_5 {d : Nat} {τ : T2} {Q : RS → T2 → Prop} {y0 : Int} {r0 : Nat} {r1 : Option Nat} (hd : 1 ≤ d) (sh2 : tS τ r0 = (1, 21, 0)) (k1 : y0 = 0 → G (d - 1) 199 0 [vR r0, vQ r1, none, none, none] [] τ (KC d 200 14 17 [none, vQ r1] [] Q)) (k2 : ¬ y0 = 0 → Q (.inl (some (AI 1))) τ) : G d 200 5 [vR r0, vQ r1] [AI y0] τ Q := by
  refine g_br1 rfl (t := 12) rfl (fun c1 => ?_) (fun c1 => ?_)
  · have c1 : y0 = 0 := of_decide_eq_true c1
    refine g_sk 2 (pc1 := 14) (st1 := [AP r1, AR r0]) rfl ?_
    refine G_fg (lw2_f _ (lw2_k _ lw2_nil)) ?_
    refine g_cv rfl rfl (by decide) rfl rfl (Nat.le_of_ble_eq_true rfl) (as2 := [AP r1]) rfl sh2 rfl (by omega) (L0 := [vR r0, vQ r1, none, none, none]) rfl ?_
    exact (k1 c1)
  · have c1 : ¬ y0 = 0 := of_decide_eq_false c1
    refine g_sk 2 (pc1 := 29) (st1 := [AI 1]) rfl ?_
    refine g_iret rfl rfl ?_
    exact (k2 c1)

set_option maxRecDepth 8192 in
theorem t200_17 {d : Nat} {τ : T2} {Q : RS → T2 → Prop} {y0 : Int} {r1 : Nat} (sh1 : tS τ r1 = (1, 15, 0)) (k1 : (tI τ r1 3) < y0 → Q (.inl (some (AI 0))) τ) (k2 : y0 ≤ (tI τ r1 3) → Q (.inl (some (AI 2))) τ) : G d 200 17 [none, vR r1] [AI y0] τ Q := by
  refine g_sk 1 (pc1 := 18) (st1 := [AR r1, AI y0]) rfl ?_
  refine g_gI rfl (ci := 15) (k := 3) rfl sh1 ?_
  refine g_br2 rfl (t := 28) rfl (fun c2 => ?_) (fun c2 => ?_)
  · have c2 : (tI τ r1 3) < y0 := of_decide_eq_true c2
    refine g_sk 1 (pc1 := 29) (st1 := [AI 0]) rfl ?_
    refine g_iret rfl rfl ?_
    exact (k1 c2)
  · have c2 : y0 ≤ (tI τ r1 3) := Int.not_lt.mp (of_decide_eq_false c2)
    refine g_sk 2 (pc1 := 29) (st1 := [AI 2]) rfl ?_
    refine g_iret rfl rfl ?_
    exact (k2 c2)

set_option maxRecDepth 8192 in
theorem t201_0 {d : Nat} {τ : T2} {Q : RS → T2 → Prop} {x1 : Int} {r0 : Nat} {r2 : Option Nat} (k1 : G d 201 2 [vR r0, vI x1, vQ r2, vI 1, none, none] [] τ Q) : G d 201 0 [vR r0, vI x1, vQ r2, none, none, none] [] τ Q := by
  refine g_sx 2 (pc1 := 2) (L1 := [vR r0, vI x1, vQ r2, vI 1, none, none]) (st1 := []) rfl ?_
  exact k1

set_option maxRecDepth 8192 in
theorem t201_2 {d : Nat} {τ : T2} {Q : RS → T2 → Prop} {x1 x3 : Int} {r0 : Nat} {r2 : Option Nat} (hd : 1 ≤ d) (sh2 : tS τ r0 = (1, 21, 0)) (k1 : x3 = 0 → Q (.inl none) τ) (k2 : ¬ x3 = 0 → G (d - 1) 179 0 [vR r0, vR 32] [] τ (KC d 201 10 13 [vR r0, vI x1, vQ r2, none, none, none] [] Q)) : G d 201 2 [vR r0, vI x1, vQ r2, vI x3, none, none] [] τ Q := by
  refine g_sk 1 (pc1 := 3) (st1 := [AI x3]) rfl ?_
  refine g_br1 rfl (t := 269) rfl (fun c1 => ?_) (fun c1 => ?_)
  · have c1 : x3 = 0 := of_decide_eq_true c1
    refine g_vret rfl rfl ?_
    exact (k1 c1)
  · have c1 : ¬ x3 = 0 := of_decide_eq_false c1
    refine g_sk 2 (pc1 := 10) (st1 := [AR 32, AR r0]) rfl ?_
    refine G_fg (lw2_k _ (lw2_k _ (lw2_k _ (lw2_f _ (lw2_k _ (lw2_k _ lw2_nil)))))) ?_
    refine g_cv rfl rfl (by decide) rfl rfl (Nat.le_of_ble_eq_true rfl) (as2 := [AR 32]) rfl sh2 rfl (by omega) (L0 := [vR r0, vR 32]) rfl ?_
    exact (k2 c1)

set_option maxRecDepth 8192 in
theorem t201_13 {d : Nat} {τ : T2} {Q : RS → T2 → Prop} {x1 y0 : Int} {r0 r2 q6 n8 : Nat} (hd : 1 ≤ d) (sh2 : tS τ r0 = (1, 21, 0)) (sh4 : tS τ r2 = (1, 20, 0)) (p7 : tP τ r2 0 = some q6) (sh9 : tS τ q6 = (2, 0, n8)) (b10 : ¬ y0 = 0 → ¬ (0 : Int) = ((-1) : Int) → ¬ (tI τ r2 5) = 12 → (0 : Int) ≤ (tI τ r2 5) ∧ (tI τ r2 5) < (n8 : Int)) (k1 : y0 = 0 → G (d - 1) 179 0 [vR r0, vR 33] [] τ (KC d 201 24 27 [vR r0, vI x1, vR r2, none, none, none] [] Q)) (k2 : ¬ y0 = 0 → ¬ (0 : Int) = ((-1) : Int) → ¬ (tI τ r2 5) = 12 → G (d - 1) 177 0 [vR r0, none, none] [] (uI τ q6 (tI τ r2 5).toNat 0) (KC d 201 151 154 [vR r0, vI x1, vR r2, none, vI 0, vI (tI τ r2 5)] [] Q)) (k3 : ¬ y0 = 0 → ¬ (0 : Int) = ((-1) : Int) → (tI τ r2 5) = 12 → G (d - 1) 172 0 [vR r0, vI 4] [] τ (KC d 201 131 134 [none, none, none, none, none, none] [] Q)) (k4 : ¬ y0 = 0 → (0 : Int) = ((-1) : Int) → G (d - 1) 172 0 [vR r0, vI 1] [] τ (KC d 201 116 119 [none, none, none, none, none, none] [] Q)) : G d 201 13 [vR r0, vI x1, vR r2, none, none, none] [AI y0] τ Q := by
  refine g_br1 rfl (t := 20) rfl (fun c1 => ?_) (fun c1 => ?_)
  · have c1 : y0 = 0 := of_decide_eq_true c1
    refine g_sk 2 (pc1 := 24) (st1 := [AR 33, AR r0]) rfl ?_
    refine g_cv rfl rfl (by decide) rfl rfl (Nat.le_of_ble_eq_true rfl) (as2 := [AR 33]) rfl sh2 rfl (by omega) (L0 := [vR r0, vR 33]) rfl ?_
    exact (k1 c1)
  · have c1 : ¬ y0 = 0 := of_decide_eq_false c1
    refine g_sx 5 (pc1 := 111) (L1 := [vR r0, vI x1, vR r2, none, vI 0, none]) (st1 := [AI (-1), AI 0]) rfl ?_
    refine g_br2 rfl (t := 120) rfl (fun c3 => ?_) (fun c3 => ?_)
    · have c3 : ¬ (0 : Int) = ((-1) : Int) := of_decide_eq_true c3
      refine g_sk 1 (pc1 := 121) (st1 := [AR r2]) rfl ?_
      refine g_gI rfl (ci := 20) (k := 5) rfl sh4 ?_
      refine g_sk 1 (pc1 := 126) (st1 := [AI 12, AI (tI τ r2 5)]) rfl ?_
      refine g_br2 rfl (t := 135) rfl (fun c5 => ?_) (fun c5 => ?_)
      · have c5 : ¬ (tI τ r2 5) = 12 := of_decide_eq_true c5
        refine g_sk 1 (pc1 := 136) (st1 := [AR r2]) rfl ?_
        refine g_gI rfl (ci := 20) (k := 5) rfl sh4 ?_
        refine g_sx 2 (pc1 := 142) (L1 := [vR r0, vI x1, vR r2, none, vI 0, vI (tI τ r2 5)]) (st1 := [AR r2]) rfl ?_
        refine g_gQ rfl (ci := 20) (k := 0) rfl sh4 p7 ?_
        refine g_sk 2 (pc1 := 149) (st1 := [AI 0, AI (tI τ r2 5), AR q6]) rfl ?_
        refine g_iast rfl sh9 (b10 c1 c3 c5).1 (b10 c1 c3 c5).2 ?_
        refine g_sk 1 (pc1 := 151) (st1 := [AR r0]) rfl ?_
        refine g_cv rfl rfl (by decide) rfl rfl (Nat.le_of_ble_eq_true rfl) (as2 := []) rfl sh2 rfl (by omega) (L0 := [vR r0, none, none]) rfl ?_
        exact (k2 c1 c3 c5)
      · have c5 : (tI τ r2 5) = 12 := Decidable.of_not_not (of_decide_eq_false c5)
        refine g_sk 2 (pc1 := 131) (st1 := [AI 4, AR r0]) rfl ?_
        refine G_fg (lw2_f _ (lw2_f _ (lw2_f _ (lw2_k _ (lw2_f _ (lw2_k _ lw2_nil)))))) ?_
        refine g_cv rfl rfl (by decide) rfl rfl (Nat.le_of_ble_eq_true rfl) (as2 := [AI 4]) rfl sh2 rfl (by omega) (L0 := [vR r0, vI 4]) rfl ?_
        exact (k3 c1 c3 c5)
    · have c3 : (0 : Int) = ((-1) : Int) := Decidable.of_not_not (of_decide_eq_false c3)
      refine g_sk 2 (pc1 := 116) (st1 := [AI 1, AR r0]) rfl ?_
      refine G_fg (lw2_f _ (lw2_f _ (lw2_f _ (lw2_k _ (lw2_f _ (lw2_k _ lw2_nil)))))) ?_
      refine g_cv rfl rfl (by decide) rfl rfl (Nat.le_of_ble_eq_true rfl) (as2 := [AI 1]) rfl sh2 rfl (by omega) (L0 := [vR r0, vI 1]) rfl ?_
      exact (k4 c1 c3)

set_option maxRecDepth 8192 in
theorem t201_27 {d : Nat} {τ : T2} {Q : RS → T2 → Prop} {x1 y0 : Int} {r0 r2 q6 n8 : Nat} (hd : 1 ≤ d) (sh2 : tS τ r0 = (1, 21, 0)) (sh4 : tS τ r2 = (1, 20, 0)) (p7 : tP τ r2 0 = some q6) (sh9 : tS τ q6 = (2, 0, n8)) (b10 : ¬ y0 = 0 → ¬ (1 : Int) = ((-1) : Int) → ¬ (tI τ r2 5) = 12 → (0 : Int) ≤ (tI τ r2 5) ∧ (tI τ r2 5) < (n8 : Int)) (k1 : y0 = 0 → G (d - 1) 179 0 [vR r0, vR 34] [] τ (KC d 201 38 41 [vR r0, vI x1, vR r2, none, none, none] [] Q)) (k2 : ¬ y0 = 0 → ¬ (1 : Int) = ((-1) : Int) → ¬ (tI τ r2 5) = 12 → G (d - 1) 177 0 [vR r0, none, none] [] (uI τ q6 (tI τ r2 5).toNat 1) (KC d 201 151 154 [vR r0, vI x1, vR r2, none, vI 1, vI (tI τ r2 5)] [] Q)) (k3 : ¬ y0 = 0 → ¬ (1 : Int) = ((-1) : Int) → (tI τ r2 5) = 12 → G (d - 1) 172 0 [vR r0, vI 4] [] τ (KC d 201 131 134 [none, none, none, none, none, none] [] Q)) (k4 : ¬ y0 = 0 → (1 : Int) = ((-1) : Int) → G (d - 1) 172 0 [vR r0, vI 1] [] τ (KC d 201 116 119 [none, none, none, none, none, none] [] Q)) : G d 201 27 [vR r0, vI x1, vR r2, none, none, none] [AI y0] τ Q := by
  refine g_br1 rfl (t := 34) rfl (fun c1 => ?_) (fun c1 => ?_)
  · have c1 : y0 = 0 := of_decide_eq_true c1
    refine g_sk 2 (pc1 := 38) (st1 := [AR 34, AR r0]) rfl ?_
    refine g_cv rfl rfl (by decide) rfl rfl (Nat.le_of_ble_eq_true rfl) (as2 := [AR 34]) rfl sh2 rfl (by omega) (L0 := [vR r0, vR 34]) rfl ?_
    exact (k1 c1)
  · have c1 : ¬ y0 = 0 := of_decide_eq_false c1
    refine g_sx 5 (pc1 := 111) (L1 := [vR r0, vI x1, vR r2, none, vI 1, none]) (st1 := [AI (-1), AI 1]) rfl ?_
    refine g_br2 rfl (t := 120) rfl (fun c3 => ?_) (fun c3 => ?_)
    · have c3 : ¬ (1 : Int) = ((-1) : Int) := of_decide_eq_true c3
      refine g_sk 1 (pc1 := 121) (st1 := [AR r2]) rfl ?_
      refine g_gI rfl (ci := 20) (k := 5) rfl sh4 ?_
      refine g_sk 1 (pc1 := 126) (st1 := [AI 12, AI (tI τ r2 5)]) rfl ?_
      refine g_br2 rfl (t := 135) rfl (fun c5 => ?_) (fun c5 => ?_)
      · have c5 : ¬ (tI τ r2 5) = 12 := of_decide_eq_true c5
        refine g_sk 1 (pc1 := 136) (st1 := [AR r2]) rfl ?_
        refine g_gI rfl (ci := 20) (k := 5) rfl sh4 ?_
        refine g_sx 2 (pc1 := 142) (L1 := [vR r0, vI x1, vR r2, none, vI 1, vI (tI τ r2 5)]) (st1 := [AR r2]) rfl ?_
        refine g_gQ rfl (ci := 20) (k := 0) rfl sh4 p7 ?_
        refine g_sk 2 (pc1 := 149) (st1 := [AI 1, AI (tI τ r2 5), AR q6]) rfl ?_
        refine g_iast rfl sh9 (b10 c1 c3 c5).1 (b10 c1 c3 c5).2 ?_
        refine g_sk 1 (pc1 := 151) (st1 := [AR r0]) rfl ?_
        refine g_cv rfl rfl (by decide) rfl rfl (Nat.le_of_ble_eq_true rfl) (as2 := []) rfl sh2 rfl (by omega) (L0 := [vR r0, none, none]) rfl ?_
        exact (k2 c1 c3 c5)
      · have c5 : (tI τ r2 5) = 12 := Decidable.of_not_not (of_decide_eq_false c5)
        refine g_sk 2 (pc1 := 131) (st1 := [AI 4, AR r0]) rfl ?_
        refine G_fg (lw2_f _ (lw2_f _ (lw2_f _ (lw2_k _ (lw2_f _ (lw2_k _ lw2_nil)))))) ?_
        refine g_cv rfl rfl (by decide) rfl rfl (Nat.le_of_ble_eq_true rfl) (as2 := [AI 4]) rfl sh2 rfl (by omega) (L0 := [vR r0, vI 4]) rfl ?_
        exact (k3 c1 c3 c5)
    · have c3 : (1 : Int) = ((-1) : Int) := Decidable.of_not_not (of_decide_eq_false c3)
      refine g_sk 2 (pc1 := 116) (st1 := [AI 1, AR r0]) rfl ?_
      refine G_fg (lw2_f _ (lw2_f _ (lw2_f _ (lw2_k _ (lw2_f _ (lw2_k _ lw2_nil)))))) ?_
      refine g_cv rfl rfl (by decide) rfl rfl (Nat.le_of_ble_eq_true rfl) (as2 := [AI 1]) rfl sh2 rfl (by omega) (L0 := [vR r0, vI 1]) rfl ?_
      exact (k4 c1 c3)

set_option maxRecDepth 8192 in
theorem t201_41 {d : Nat} {τ : T2} {Q : RS → T2 → Prop} {x1 y0 : Int} {r0 r2 q6 n8 : Nat} (hd : 1 ≤ d) (sh2 : tS τ r0 = (1, 21, 0)) (sh4 : tS τ r2 = (1, 20, 0)) (p7 : tP τ r2 0 = some q6) (sh9 : tS τ q6 = (2, 0, n8)) (b10 : ¬ y0 = 0 → ¬ (2 : Int) = ((-1) : Int) → ¬ (tI τ r2 5) = 12 → (0 : Int) ≤ (tI τ r2 5) ∧ (tI τ r2 5) < (n8 : Int)) (k1 : y0 = 0 → G (d - 1) 179 0 [vR r0, vR 35] [] τ (KC d 201 52 55 [vR r0, vI x1, vR r2, none, none, none] [] Q)) (k2 : ¬ y0 = 0 → ¬ (2 : Int) = ((-1) : Int) → ¬ (tI τ r2 5) = 12 → G (d - 1) 177 0 [vR r0, none, none] [] (uI τ q6 (tI τ r2 5).toNat 2) (KC d 201 151 154 [vR r0, vI x1, vR r2, none, vI 2, vI (tI τ r2 5)] [] Q)) (k3 : ¬ y0 = 0 → ¬ (2 : Int) = ((-1) : Int) → (tI τ r2 5) = 12 → G (d - 1) 172 0 [vR r0, vI 4] [] τ (KC d 201 131 134 [none, none, none, none, none, none] [] Q)) (k4 : ¬ y0 = 0 → (2 : Int) = ((-1) : Int) → G (d - 1) 172 0 [vR r0, vI 1] [] τ (KC d 201 116 119 [none, none, none, none, none, none] [] Q)) : G d 201 41 [vR r0, vI x1, vR r2, none, none, none] [AI y0] τ Q := by
  refine g_br1 rfl (t := 48) rfl (fun c1 => ?_) (fun c1 => ?_)
  · have c1 : y0 = 0 := of_decide_eq_true c1
    refine g_sk 2 (pc1 := 52) (st1 := [AR 35, AR r0]) rfl ?_
    refine g_cv rfl rfl (by decide) rfl rfl (Nat.le_of_ble_eq_true rfl) (as2 := [AR 35]) rfl sh2 rfl (by omega) (L0 := [vR r0, vR 35]) rfl ?_
    exact (k1 c1)
  · have c1 : ¬ y0 = 0 := of_decide_eq_false c1
    refine g_sx 5 (pc1 := 111) (L1 := [vR r0, vI x1, vR r2, none, vI 2, none]) (st1 := [AI (-1), AI 2]) rfl ?_
    refine g_br2 rfl (t := 120) rfl (fun c3 => ?_) (fun c3 => ?_)
    · have c3 : ¬ (2 : Int) = ((-1) : Int) := of_decide_eq_true c3
      refine g_sk 1 (pc1 := 121) (st1 := [AR r2]) rfl ?_
      refine g_gI rfl (ci := 20) (k := 5) rfl sh4 ?_
      refine g_sk 1 (pc1 := 126) (st1 := [AI 12, AI (tI τ r2 5)]) rfl ?_
      refine g_br2 rfl (t := 135) rfl (fun c5 => ?_) (fun c5 => ?_)
      · have c5 : ¬ (tI τ r2 5) = 12 := of_decide_eq_true c5
        refine g_sk 1 (pc1 := 136) (st1 := [AR r2]) rfl ?_
        refine g_gI rfl (ci := 20) (k := 5) rfl sh4 ?_
        refine g_sx 2 (pc1 := 142) (L1 := [vR r0, vI x1, vR r2, none, vI 2, vI (tI τ r2 5)]) (st1 := [AR r2]) rfl ?_
        refine g_gQ rfl (ci := 20) (k := 0) rfl sh4 p7 ?_
        refine g_sk 2 (pc1 := 149) (st1 := [AI 2, AI (tI τ r2 5), AR q6]) rfl ?_
        refine g_iast rfl sh9 (b10 c1 c3 c5).1 (b10 c1 c3 c5).2 ?_
        refine g_sk 1 (pc1 := 151) (st1 := [AR r0]) rfl ?_
        refine g_cv rfl rfl (by decide) rfl rfl (Nat.le_of_ble_eq_true rfl) (as2 := []) rfl sh2 rfl (by omega) (L0 := [vR r0, none, none]) rfl ?_
        exact (k2 c1 c3 c5)
      · have c5 : (tI τ r2 5) = 12 := Decidable.of_not_not (of_decide_eq_false c5)
        refine g_sk 2 (pc1 := 131) (st1 := [AI 4, AR r0]) rfl ?_
        refine G_fg (lw2_f _ (lw2_f _ (lw2_f _ (lw2_k _ (lw2_f _ (lw2_k _ lw2_nil)))))) ?_
        refine g_cv rfl rfl (by decide) rfl rfl (Nat.le_of_ble_eq_true rfl) (as2 := [AI 4]) rfl sh2 rfl (by omega) (L0 := [vR r0, vI 4]) rfl ?_
        exact (k3 c1 c3 c5)
    · have c3 : (2 : Int) = ((-1) : Int) := Decidable.of_not_not (of_decide_eq_false c3)
      refine g_sk 2 (pc1 := 116) (st1 := [AI 1, AR r0]) rfl ?_
      refine G_fg (lw2_f _ (lw2_f _ (lw2_f _ (lw2_k _ (lw2_f _ (lw2_k _ lw2_nil)))))) ?_
      refine g_cv rfl rfl (by decide) rfl rfl (Nat.le_of_ble_eq_true rfl) (as2 := [AI 1]) rfl sh2 rfl (by omega) (L0 := [vR r0, vI 1]) rfl ?_
      exact (k4 c1 c3)

set_option maxRecDepth 8192 in
theorem t201_55 {d : Nat} {τ : T2} {Q : RS → T2 → Prop} {x1 y0 : Int} {r0 r2 q6 n8 : Nat} (hd : 1 ≤ d) (sh2 : tS τ r0 = (1, 21, 0)) (sh4 : tS τ r2 = (1, 20, 0)) (p7 : tP τ r2 0 = some q6) (sh9 : tS τ q6 = (2, 0, n8)) (b10 : ¬ y0 = 0 → ¬ (3 : Int) = ((-1) : Int) → ¬ (tI τ r2 5) = 12 → (0 : Int) ≤ (tI τ r2 5) ∧ (tI τ r2 5) < (n8 : Int)) (k1 : y0 = 0 → G (d - 1) 179 0 [vR r0, vR 36] [] τ (KC d 201 66 69 [vR r0, vI x1, vR r2, none, none, none] [] Q)) (k2 : ¬ y0 = 0 → ¬ (3 : Int) = ((-1) : Int) → ¬ (tI τ r2 5) = 12 → G (d - 1) 177 0 [vR r0, none, none] [] (uI τ q6 (tI τ r2 5).toNat 3) (KC d 201 151 154 [vR r0, vI x1, vR r2, none, vI 3, vI (tI τ r2 5)] [] Q)) (k3 : ¬ y0 = 0 → ¬ (3 : Int) = ((-1) : Int) → (tI τ r2 5) = 12 → G (d - 1) 172 0 [vR r0, vI 4] [] τ (KC d 201 131 134 [none, none, none, none, none, none] [] Q)) (k4 : ¬ y0 = 0 → (3 : Int) = ((-1) : Int) → G (d - 1) 172 0 [vR r0, vI 1] [] τ (KC d 201 116 119 [none, none, none, none, none, none] [] Q)) : G d 201 55 [vR r0, vI x1, vR r2, none, none, none] [AI y0] τ Q := by
  refine g_br1 rfl (t := 62) rfl (fun c1 => ?_) (fun c1 => ?_)
  · have c1 : y0 = 0 := of_decide_eq_true c1
    refine g_sk 2 (pc1 := 66) (st1 := [AR 36, AR r0]) rfl ?_
    refine g_cv rfl rfl (by decide) rfl rfl (Nat.le_of_ble_eq_true rfl) (as2 := [AR 36]) rfl sh2 rfl (by omega) (L0 := [vR r0, vR 36]) rfl ?_
    exact (k1 c1)
  · have c1 : ¬ y0 = 0 := of_decide_eq_false c1
    refine g_sx 5 (pc1 := 111) (L1 := [vR r0, vI x1, vR r2, none, vI 3, none]) (st1 := [AI (-1), AI 3]) rfl ?_
    refine g_br2 rfl (t := 120) rfl (fun c3 => ?_) (fun c3 => ?_)
    · have c3 : ¬ (3 : Int) = ((-1) : Int) := of_decide_eq_true c3
      refine g_sk 1 (pc1 := 121) (st1 := [AR r2]) rfl ?_
      refine g_gI rfl (ci := 20) (k := 5) rfl sh4 ?_
      refine g_sk 1 (pc1 := 126) (st1 := [AI 12, AI (tI τ r2 5)]) rfl ?_
      refine g_br2 rfl (t := 135) rfl (fun c5 => ?_) (fun c5 => ?_)
      · have c5 : ¬ (tI τ r2 5) = 12 := of_decide_eq_true c5
        refine g_sk 1 (pc1 := 136) (st1 := [AR r2]) rfl ?_
        refine g_gI rfl (ci := 20) (k := 5) rfl sh4 ?_
        refine g_sx 2 (pc1 := 142) (L1 := [vR r0, vI x1, vR r2, none, vI 3, vI (tI τ r2 5)]) (st1 := [AR r2]) rfl ?_
        refine g_gQ rfl (ci := 20) (k := 0) rfl sh4 p7 ?_
        refine g_sk 2 (pc1 := 149) (st1 := [AI 3, AI (tI τ r2 5), AR q6]) rfl ?_
        refine g_iast rfl sh9 (b10 c1 c3 c5).1 (b10 c1 c3 c5).2 ?_
        refine g_sk 1 (pc1 := 151) (st1 := [AR r0]) rfl ?_
        refine g_cv rfl rfl (by decide) rfl rfl (Nat.le_of_ble_eq_true rfl) (as2 := []) rfl sh2 rfl (by omega) (L0 := [vR r0, none, none]) rfl ?_
        exact (k2 c1 c3 c5)
      · have c5 : (tI τ r2 5) = 12 := Decidable.of_not_not (of_decide_eq_false c5)
        refine g_sk 2 (pc1 := 131) (st1 := [AI 4, AR r0]) rfl ?_
        refine G_fg (lw2_f _ (lw2_f _ (lw2_f _ (lw2_k _ (lw2_f _ (lw2_k _ lw2_nil)))))) ?_
        refine g_cv rfl rfl (by decide) rfl rfl (Nat.le_of_ble_eq_true rfl) (as2 := [AI 4]) rfl sh2 rfl (by omega) (L0 := [vR r0, vI 4]) rfl ?_
        exact (k3 c1 c3 c5)
    · have c3 : (3 : Int) = ((-1) : Int) := Decidable.of_not_not (of_decide_eq_false c3)
      refine g_sk 2 (pc1 := 116) (st1 := [AI 1, AR r0]) rfl ?_
      refine G_fg (lw2_f _ (lw2_f _ (lw2_f _ (lw2_k _ (lw2_f _ (lw2_k _ lw2_nil)))))) ?_
      refine g_cv rfl rfl (by decide) rfl rfl (Nat.le_of_ble_eq_true rfl) (as2 := [AI 1]) rfl sh2 rfl (by omega) (L0 := [vR r0, vI 1]) rfl ?_
      exact (k4 c1 c3)

set_option maxRecDepth 8192 in
theorem t201_69 {d : Nat} {τ : T2} {Q : RS → T2 → Prop} {x1 y0 : Int} {r0 r2 q6 n8 : Nat} (hd : 1 ≤ d) (sh2 : tS τ r0 = (1, 21, 0)) (sh4 : tS τ r2 = (1, 20, 0)) (p7 : tP τ r2 0 = some q6) (sh9 : tS τ q6 = (2, 0, n8)) (b10 : ¬ y0 = 0 → ¬ (4 : Int) = ((-1) : Int) → ¬ (tI τ r2 5) = 12 → (0 : Int) ≤ (tI τ r2 5) ∧ (tI τ r2 5) < (n8 : Int)) (k1 : y0 = 0 → G (d - 1) 179 0 [vR r0, vR 37] [] τ (KC d 201 80 83 [vR r0, vI x1, vR r2, none, none, none] [] Q)) (k2 : ¬ y0 = 0 → ¬ (4 : Int) = ((-1) : Int) → ¬ (tI τ r2 5) = 12 → G (d - 1) 177 0 [vR r0, none, none] [] (uI τ q6 (tI τ r2 5).toNat 4) (KC d 201 151 154 [vR r0, vI x1, vR r2, none, vI 4, vI (tI τ r2 5)] [] Q)) (k3 : ¬ y0 = 0 → ¬ (4 : Int) = ((-1) : Int) → (tI τ r2 5) = 12 → G (d - 1) 172 0 [vR r0, vI 4] [] τ (KC d 201 131 134 [none, none, none, none, none, none] [] Q)) (k4 : ¬ y0 = 0 → (4 : Int) = ((-1) : Int) → G (d - 1) 172 0 [vR r0, vI 1] [] τ (KC d 201 116 119 [none, none, none, none, none, none] [] Q)) : G d 201 69 [vR r0, vI x1, vR r2, none, none, none] [AI y0] τ Q := by
  refine g_br1 rfl (t := 76) rfl (fun c1 => ?_) (fun c1 => ?_)
  · have c1 : y0 = 0 := of_decide_eq_true c1
    refine g_sk 2 (pc1 := 80) (st1 := [AR 37, AR r0]) rfl ?_
    refine g_cv rfl rfl (by decide) rfl rfl (Nat.le_of_ble_eq_true rfl) (as2 := [AR 37]) rfl sh2 rfl (by omega) (L0 := [vR r0, vR 37]) rfl ?_
    exact (k1 c1)
  · have c1 : ¬ y0 = 0 := of_decide_eq_false c1
    refine g_sx 5 (pc1 := 111) (L1 := [vR r0, vI x1, vR r2, none, vI 4, none]) (st1 := [AI (-1), AI 4]) rfl ?_
    refine g_br2 rfl (t := 120) rfl (fun c3 => ?_) (fun c3 => ?_)
    · have c3 : ¬ (4 : Int) = ((-1) : Int) := of_decide_eq_true c3
      refine g_sk 1 (pc1 := 121) (st1 := [AR r2]) rfl ?_
      refine g_gI rfl (ci := 20) (k := 5) rfl sh4 ?_
      refine g_sk 1 (pc1 := 126) (st1 := [AI 12, AI (tI τ r2 5)]) rfl ?_
      refine g_br2 rfl (t := 135) rfl (fun c5 => ?_) (fun c5 => ?_)
      · have c5 : ¬ (tI τ r2 5) = 12 := of_decide_eq_true c5
        refine g_sk 1 (pc1 := 136) (st1 := [AR r2]) rfl ?_
        refine g_gI rfl (ci := 20) (k := 5) rfl sh4 ?_
        refine g_sx 2 (pc1 := 142) (L1 := [vR r0, vI x1, vR r2, none, vI 4, vI (tI τ r2 5)]) (st1 := [AR r2]) rfl ?_
        refine g_gQ rfl (ci := 20) (k := 0) rfl sh4 p7 ?_
        refine g_sk 2 (pc1 := 149) (st1 := [AI 4, AI (tI τ r2 5), AR q6]) rfl ?_
        refine g_iast rfl sh9 (b10 c1 c3 c5).1 (b10 c1 c3 c5).2 ?_
        refine g_sk 1 (pc1 := 151) (st1 := [AR r0]) rfl ?_
        refine g_cv rfl rfl (by decide) rfl rfl (Nat.le_of_ble_eq_true rfl) (as2 := []) rfl sh2 rfl (by omega) (L0 := [vR r0, none, none]) rfl ?_
        exact (k2 c1 c3 c5)
      · have c5 : (tI τ r2 5) = 12 := Decidable.of_not_not (of_decide_eq_false c5)
        refine g_sk 2 (pc1 := 131) (st1 := [AI 4, AR r0]) rfl ?_
        refine G_fg (lw2_f _ (lw2_f _ (lw2_f _ (lw2_k _ (lw2_f _ (lw2_k _ lw2_nil)))))) ?_
        refine g_cv rfl rfl (by decide) rfl rfl (Nat.le_of_ble_eq_true rfl) (as2 := [AI 4]) rfl sh2 rfl (by omega) (L0 := [vR r0, vI 4]) rfl ?_
        exact (k3 c1 c3 c5)
    · have c3 : (4 : Int) = ((-1) : Int) := Decidable.of_not_not (of_decide_eq_false c3)
      refine g_sk 2 (pc1 := 116) (st1 := [AI 1, AR r0]) rfl ?_
      refine G_fg (lw2_f _ (lw2_f _ (lw2_f _ (lw2_k _ (lw2_f _ (lw2_k _ lw2_nil)))))) ?_
      refine g_cv rfl rfl (by decide) rfl rfl (Nat.le_of_ble_eq_true rfl) (as2 := [AI 1]) rfl sh2 rfl (by omega) (L0 := [vR r0, vI 1]) rfl ?_
      exact (k4 c1 c3)

set_option maxRecDepth 8192 in
theorem t201_83 {d : Nat} {τ : T2} {Q : RS → T2 → Prop} {x1 y0 : Int} {r0 r2 q6 n8 : Nat} (hd : 1 ≤ d) (sh2 : tS τ r0 = (1, 21, 0)) (sh4 : tS τ r2 = (1, 20, 0)) (p7 : tP τ r2 0 = some q6) (sh9 : tS τ q6 = (2, 0, n8)) (b10 : ¬ y0 = 0 → ¬ (5 : Int) = ((-1) : Int) → ¬ (tI τ r2 5) = 12 → (0 : Int) ≤ (tI τ r2 5) ∧ (tI τ r2 5) < (n8 : Int)) (k1 : y0 = 0 → G (d - 1) 179 0 [vR r0, vR 38] [] τ (KC d 201 94 97 [vR r0, vI x1, vR r2, none, none, none] [] Q)) (k2 : ¬ y0 = 0 → ¬ (5 : Int) = ((-1) : Int) → ¬ (tI τ r2 5) = 12 → G (d - 1) 177 0 [vR r0, none, none] [] (uI τ q6 (tI τ r2 5).toNat 5) (KC d 201 151 154 [vR r0, vI x1, vR r2, none, vI 5, vI (tI τ r2 5)] [] Q)) (k3 : ¬ y0 = 0 → ¬ (5 : Int) = ((-1) : Int) → (tI τ r2 5) = 12 → G (d - 1) 172 0 [vR r0, vI 4] [] τ (KC d 201 131 134 [none, none, none, none, none, none] [] Q)) (k4 : ¬ y0 = 0 → (5 : Int) = ((-1) : Int) → G (d - 1) 172 0 [vR r0, vI 1] [] τ (KC d 201 116 119 [none, none, none, none, none, none] [] Q)) : G d 201 83 [vR r0, vI x1, vR r2, none, none, none] [AI y0] τ Q := by
  refine g_br1 rfl (t := 90) rfl (fun c1 => ?_) (fun c1 => ?_)
  · have c1 : y0 = 0 := of_decide_eq_true c1
    refine g_sk 2 (pc1 := 94) (st1 := [AR 38, AR r0]) rfl ?_
    refine g_cv rfl rfl (by decide) rfl rfl (Nat.le_of_ble_eq_true rfl) (as2 := [AR 38]) rfl sh2 rfl (by omega) (L0 := [vR r0, vR 38]) rfl ?_
    exact (k1 c1)
  · have c1 : ¬ y0 = 0 := of_decide_eq_false c1
    refine g_sx 5 (pc1 := 111) (L1 := [vR r0, vI x1, vR r2, none, vI 5, none]) (st1 := [AI (-1), AI 5]) rfl ?_
    refine g_br2 rfl (t := 120) rfl (fun c3 => ?_) (fun c3 => ?_)
    · have c3 : ¬ (5 : Int) = ((-1) : Int) := of_decide_eq_true c3
      refine g_sk 1 (pc1 := 121) (st1 := [AR r2]) rfl ?_
      refine g_gI rfl (ci := 20) (k := 5) rfl sh4 ?_
      refine g_sk 1 (pc1 := 126) (st1 := [AI 12, AI (tI τ r2 5)]) rfl ?_
      refine g_br2 rfl (t := 135) rfl (fun c5 => ?_) (fun c5 => ?_)
      · have c5 : ¬ (tI τ r2 5) = 12 := of_decide_eq_true c5
        refine g_sk 1 (pc1 := 136) (st1 := [AR r2]) rfl ?_
        refine g_gI rfl (ci := 20) (k := 5) rfl sh4 ?_
        refine g_sx 2 (pc1 := 142) (L1 := [vR r0, vI x1, vR r2, none, vI 5, vI (tI τ r2 5)]) (st1 := [AR r2]) rfl ?_
        refine g_gQ rfl (ci := 20) (k := 0) rfl sh4 p7 ?_
        refine g_sk 2 (pc1 := 149) (st1 := [AI 5, AI (tI τ r2 5), AR q6]) rfl ?_
        refine g_iast rfl sh9 (b10 c1 c3 c5).1 (b10 c1 c3 c5).2 ?_
        refine g_sk 1 (pc1 := 151) (st1 := [AR r0]) rfl ?_
        refine g_cv rfl rfl (by decide) rfl rfl (Nat.le_of_ble_eq_true rfl) (as2 := []) rfl sh2 rfl (by omega) (L0 := [vR r0, none, none]) rfl ?_
        exact (k2 c1 c3 c5)
      · have c5 : (tI τ r2 5) = 12 := Decidable.of_not_not (of_decide_eq_false c5)
        refine g_sk 2 (pc1 := 131) (st1 := [AI 4, AR r0]) rfl ?_
        refine G_fg (lw2_f _ (lw2_f _ (lw2_f _ (lw2_k _ (lw2_f _ (lw2_k _ lw2_nil)))))) ?_
        refine g_cv rfl rfl (by decide) rfl rfl (Nat.le_of_ble_eq_true rfl) (as2 := [AI 4]) rfl sh2 rfl (by omega) (L0 := [vR r0, vI 4]) rfl ?_
        exact (k3 c1 c3 c5)
    · have c3 : (5 : Int) = ((-1) : Int) := Decidable.of_not_not (of_decide_eq_false c3)
      refine g_sk 2 (pc1 := 116) (st1 := [AI 1, AR r0]) rfl ?_
      refine G_fg (lw2_f _ (lw2_f _ (lw2_f _ (lw2_k _ (lw2_f _ (lw2_k _ lw2_nil)))))) ?_
      refine g_cv rfl rfl (by decide) rfl rfl (Nat.le_of_ble_eq_true rfl) (as2 := [AI 1]) rfl sh2 rfl (by omega) (L0 := [vR r0, vI 1]) rfl ?_
      exact (k4 c1 c3)

set_option maxRecDepth 8192 in
theorem t201_97 {d : Nat} {τ : T2} {Q : RS → T2 → Prop} {x1 y0 : Int} {r0 r2 q5 n7 : Nat} (hd : 1 ≤ d) (sh3 : tS τ r2 = (1, 20, 0)) (p6 : tP τ r2 0 = some q5) (sh8 : tS τ q5 = (2, 0, n7)) (b9 : y0 = 0 → ¬ ((-1) : Int) = ((-1) : Int) → ¬ (tI τ r2 5) = 12 → (0 : Int) ≤ (tI τ r2 5) ∧ (tI τ r2 5) < (n7 : Int)) (sh10 : tS τ r0 = (1, 21, 0)) (b13 : ¬ y0 = 0 → ¬ (6 : Int) = ((-1) : Int) → ¬ (tI τ r2 5) = 12 → (0 : Int) ≤ (tI τ r2 5) ∧ (tI τ r2 5) < (n7 : Int)) (k1 : y0 = 0 → ¬ ((-1) : Int) = ((-1) : Int) → ¬ (tI τ r2 5) = 12 → G (d - 1) 177 0 [vR r0, none, none] [] (uI τ q5 (tI τ r2 5).toNat (-1)) (KC d 201 151 154 [vR r0, vI x1, vR r2, none, vI (-1), vI (tI τ r2 5)] [] Q)) (k2 : y0 = 0 → ¬ ((-1) : Int) = ((-1) : Int) → (tI τ r2 5) = 12 → G (d - 1) 172 0 [vR r0, vI 4] [] τ (KC d 201 131 134 [none, none, none, none, none, none] [] Q)) (k3 : y0 = 0 → ((-1) : Int) = ((-1) : Int) → G (d - 1) 172 0 [vR r0, vI 1] [] τ (KC d 201 116 119 [none, none, none, none, none, none] [] Q)) (k4 : ¬ y0 = 0 → ¬ (6 : Int) = ((-1) : Int) → ¬ (tI τ r2 5) = 12 → G (d - 1) 177 0 [vR r0, none, none] [] (uI τ q5 (tI τ r2 5).toNat 6) (KC d 201 151 154 [vR r0, vI x1, vR r2, none, vI 6, vI (tI τ r2 5)] [] Q)) (k5 : ¬ y0 = 0 → ¬ (6 : Int) = ((-1) : Int) → (tI τ r2 5) = 12 → G (d - 1) 172 0 [vR r0, vI 4] [] τ (KC d 201 131 134 [none, none, none, none, none, none] [] Q)) (k6 : ¬ y0 = 0 → (6 : Int) = ((-1) : Int) → G (d - 1) 172 0 [vR r0, vI 1] [] τ (KC d 201 116 119 [none, none, none, none, none, none] [] Q)) : G d 201 97 [vR r0, vI x1, vR r2, none, none, none] [AI y0] τ Q := by
  refine g_br1 rfl (t := 105) rfl (fun c1 => ?_) (fun c1 => ?_)
  · have c1 : y0 = 0 := of_decide_eq_true c1
    refine g_sx 4 (pc1 := 111) (L1 := [vR r0, vI x1, vR r2, none, vI (-1), none]) (st1 := [AI (-1), AI (-1)]) rfl ?_
    refine g_br2 rfl (t := 120) rfl (fun c2 => ?_) (fun c2 => ?_)
    · have c2 : ¬ ((-1) : Int) = ((-1) : Int) := of_decide_eq_true c2
      refine g_sk 1 (pc1 := 121) (st1 := [AR r2]) rfl ?_
      refine g_gI rfl (ci := 20) (k := 5) rfl sh3 ?_
      refine g_sk 1 (pc1 := 126) (st1 := [AI 12, AI (tI τ r2 5)]) rfl ?_
      refine g_br2 rfl (t := 135) rfl (fun c4 => ?_) (fun c4 => ?_)
      · have c4 : ¬ (tI τ r2 5) = 12 := of_decide_eq_true c4
        refine g_sk 1 (pc1 := 136) (st1 := [AR r2]) rfl ?_
        refine g_gI rfl (ci := 20) (k := 5) rfl sh3 ?_
        refine g_sx 2 (pc1 := 142) (L1 := [vR r0, vI x1, vR r2, none, vI (-1), vI (tI τ r2 5)]) (st1 := [AR r2]) rfl ?_
        refine g_gQ rfl (ci := 20) (k := 0) rfl sh3 p6 ?_
        refine g_sk 2 (pc1 := 149) (st1 := [AI (-1), AI (tI τ r2 5), AR q5]) rfl ?_
        refine g_iast rfl sh8 (b9 c1 c2 c4).1 (b9 c1 c2 c4).2 ?_
        refine g_sk 1 (pc1 := 151) (st1 := [AR r0]) rfl ?_
        refine g_cv rfl rfl (by decide) rfl rfl (Nat.le_of_ble_eq_true rfl) (as2 := []) rfl sh10 rfl (by omega) (L0 := [vR r0, none, none]) rfl ?_
        exact (k1 c1 c2 c4)
      · have c4 : (tI τ r2 5) = 12 := Decidable.of_not_not (of_decide_eq_false c4)
        refine g_sk 2 (pc1 := 131) (st1 := [AI 4, AR r0]) rfl ?_
        refine G_fg (lw2_f _ (lw2_f _ (lw2_f _ (lw2_k _ (lw2_f _ (lw2_k _ lw2_nil)))))) ?_
        refine g_cv rfl rfl (by decide) rfl rfl (Nat.le_of_ble_eq_true rfl) (as2 := [AI 4]) rfl sh10 rfl (by omega) (L0 := [vR r0, vI 4]) rfl ?_
        exact (k2 c1 c2 c4)
    · have c2 : ((-1) : Int) = ((-1) : Int) := Decidable.of_not_not (of_decide_eq_false c2)
      refine g_sk 2 (pc1 := 116) (st1 := [AI 1, AR r0]) rfl ?_
      refine G_fg (lw2_f _ (lw2_f _ (lw2_f _ (lw2_k _ (lw2_f _ (lw2_k _ lw2_nil)))))) ?_
      refine g_cv rfl rfl (by decide) rfl rfl (Nat.le_of_ble_eq_true rfl) (as2 := [AI 1]) rfl sh10 rfl (by omega) (L0 := [vR r0, vI 1]) rfl ?_
      exact (k3 c1 c2)
  · have c1 : ¬ y0 = 0 := of_decide_eq_false c1
    refine g_sx 5 (pc1 := 111) (L1 := [vR r0, vI x1, vR r2, none, vI 6, none]) (st1 := [AI (-1), AI 6]) rfl ?_
    refine g_br2 rfl (t := 120) rfl (fun c11 => ?_) (fun c11 => ?_)
    · have c11 : ¬ (6 : Int) = ((-1) : Int) := of_decide_eq_true c11
      refine g_sk 1 (pc1 := 121) (st1 := [AR r2]) rfl ?_
      refine g_gI rfl (ci := 20) (k := 5) rfl sh3 ?_
      refine g_sk 1 (pc1 := 126) (st1 := [AI 12, AI (tI τ r2 5)]) rfl ?_
      refine g_br2 rfl (t := 135) rfl (fun c12 => ?_) (fun c12 => ?_)
      · have c12 : ¬ (tI τ r2 5) = 12 := of_decide_eq_true c12
        refine g_sk 1 (pc1 := 136) (st1 := [AR r2]) rfl ?_
        refine g_gI rfl (ci := 20) (k := 5) rfl sh3 ?_
        refine g_sx 2 (pc1 := 142) (L1 := [vR r0, vI x1, vR r2, none, vI 6, vI (tI τ r2 5)]) (st1 := [AR r2]) rfl ?_
        refine g_gQ rfl (ci := 20) (k := 0) rfl sh3 p6 ?_
        refine g_sk 2 (pc1 := 149) (st1 := [AI 6, AI (tI τ r2 5), AR q5]) rfl ?_
        refine g_iast rfl sh8 (b13 c1 c11 c12).1 (b13 c1 c11 c12).2 ?_
        refine g_sk 1 (pc1 := 151) (st1 := [AR r0]) rfl ?_
        refine g_cv rfl rfl (by decide) rfl rfl (Nat.le_of_ble_eq_true rfl) (as2 := []) rfl sh10 rfl (by omega) (L0 := [vR r0, none, none]) rfl ?_
        exact (k4 c1 c11 c12)
      · have c12 : (tI τ r2 5) = 12 := Decidable.of_not_not (of_decide_eq_false c12)
        refine g_sk 2 (pc1 := 131) (st1 := [AI 4, AR r0]) rfl ?_
        refine G_fg (lw2_f _ (lw2_f _ (lw2_f _ (lw2_k _ (lw2_f _ (lw2_k _ lw2_nil)))))) ?_
        refine g_cv rfl rfl (by decide) rfl rfl (Nat.le_of_ble_eq_true rfl) (as2 := [AI 4]) rfl sh10 rfl (by omega) (L0 := [vR r0, vI 4]) rfl ?_
        exact (k5 c1 c11 c12)
    · have c11 : (6 : Int) = ((-1) : Int) := Decidable.of_not_not (of_decide_eq_false c11)
      refine g_sk 2 (pc1 := 116) (st1 := [AI 1, AR r0]) rfl ?_
      refine G_fg (lw2_f _ (lw2_f _ (lw2_f _ (lw2_k _ (lw2_f _ (lw2_k _ lw2_nil)))))) ?_
      refine g_cv rfl rfl (by decide) rfl rfl (Nat.le_of_ble_eq_true rfl) (as2 := [AI 1]) rfl sh10 rfl (by omega) (L0 := [vR r0, vI 1]) rfl ?_
      exact (k6 c1 c11)

set_option maxRecDepth 8192 in
theorem t201_119 {d : Nat} {τ : T2} {Q : RS → T2 → Prop} {s0 : Nat} (hd : 16 ≤ d) (sh1 : tS τ s0 = (1, 18, 0)) (k1 : Q (.inr s0) τ) : G d 201 119 [none, none, none, none, none, none] [AR s0] τ Q := by
  refine g_thr rfl sh1 rfl (by omega) rfl ?_
  exact k1

set_option maxRecDepth 8192 in
theorem t201_134 {d : Nat} {τ : T2} {Q : RS → T2 → Prop} {s0 : Nat} (hd : 16 ≤ d) (sh1 : tS τ s0 = (1, 18, 0)) (k1 : Q (.inr s0) τ) : G d 201 134 [none, none, none, none, none, none] [AR s0] τ Q := by
  refine g_thr rfl sh1 rfl (by omega) rfl ?_
  exact k1

set_option maxRecDepth 8192 in
theorem t201_154 {d : Nat} {τ : T2} {Q : RS → T2 → Prop} {x1 x4 x5 : Int} {r0 r2 : Nat} (hd : 1 ≤ d) (sh5 : tS τ r2 = (1, 20, 0)) (sh6 : tS τ r0 = (1, 21, 0)) (k1 : ¬ x4 = 0 → ¬ x4 = 1 → ¬ x4 = 2 → x4 = 5 → G (d - 1) 182 0 [vR r0, vI 1, vI 24, none] [] τ (KC d 201 237 240 [vR r0, vI x1, vR r2, none, none, none] [AI x5, AP (tP τ r2 1)] Q)) (k2 : ¬ x4 = 0 → ¬ x4 = 1 → ¬ x4 = 2 → ¬ x4 = 5 → ¬ x4 = 6 → G (d - 1) 180 0 [vR r0, vI 59] [] (uI τ r2 5 (wr ((tI τ r2 5) + 1))) (KC d 201 254 257 [vR r0, vI x1, vR r2, none, none, none] [] Q)) (k3 : ¬ x4 = 0 → ¬ x4 = 1 → ¬ x4 = 2 → ¬ x4 = 5 → x4 = 6 → G (d - 1) 182 0 [vR r0, vI 1, vI 24, none] [] τ (KC d 201 237 240 [vR r0, vI x1, vR r2, none, none, none] [AI x5, AP (tP τ r2 1)] Q)) (k4 : ¬ x4 = 0 → ¬ x4 = 1 → x4 = 2 → G (d - 1) 182 0 [vR r0, vI 0, vI 25, none] [] τ (KC d 201 207 210 [vR r0, vI x1, vR r2, none, none, none] [AI x5, AP (tP τ r2 1)] Q)) (k5 : ¬ x4 = 0 → x4 = 1 → G (d - 1) 183 0 [vR r0, vI x1, none] [] τ (KC d 201 184 187 [vR r0, vI x1, vR r2, none, none, none] [AI x5, AP (tP τ r2 1)] Q)) (k6 : x4 = 0 → G (d - 1) 202 0 [vR r0, vI x1, vR r2, vI x5, none, none] [] τ (KC d 201 164 167 [vR r0, vI x1, vR r2, none, none, none] [] Q)) : G d 201 154 [vR r0, vI x1, vR r2, none, vI x4, vI x5] [] τ Q := by
  refine g_sk 1 (pc1 := 156) (st1 := [AI x4]) rfl ?_
  refine g_br1 rfl (t := 170) rfl (fun c1 => ?_) (fun c1 => ?_)
  · have c1 : ¬ x4 = 0 := of_decide_eq_true c1
    refine g_sk 2 (pc1 := 173) (st1 := [AI 1, AI x4]) rfl ?_
    refine g_br2 rfl (t := 191) rfl (fun c2 => ?_) (fun c2 => ?_)
    · have c2 : ¬ x4 = 1 := of_decide_eq_true c2
      refine g_sk 2 (pc1 := 194) (st1 := [AI 2, AI x4]) rfl ?_
      refine g_br2 rfl (t := 214) rfl (fun c3 => ?_) (fun c3 => ?_)
      · have c3 : ¬ x4 = 2 := of_decide_eq_true c3
        refine g_sk 2 (pc1 := 217) (st1 := [AI 5, AI x4]) rfl ?_
        refine g_br2 rfl (t := 227) rfl (fun c4 => ?_) (fun c4 => ?_)
        · have c4 : x4 = 5 := of_decide_eq_true c4
          refine g_sk 1 (pc1 := 228) (st1 := [AR r2]) rfl ?_
          refine g_gP rfl (ci := 20) (k := 1) rfl sh5 ?_
          refine g_sk 4 (pc1 := 237) (st1 := [AI 24, AI 1, AR r0, AI x5, AP (tP τ r2 1)]) rfl ?_
          refine G_fg (lw2_k _ (lw2_k _ (lw2_k _ (lw2_k _ (lw2_f _ (lw2_f _ lw2_nil)))))) ?_
          refine g_cv rfl rfl (by decide) rfl rfl (Nat.le_of_ble_eq_true rfl) (as2 := [AI 1, AI 24]) rfl sh6 rfl (by omega) (L0 := [vR r0, vI 1, vI 24, none]) rfl ?_
          exact (k1 c1 c2 c3 c4)
        · have c4 : ¬ x4 = 5 := of_decide_eq_false c4
          refine g_sk 2 (pc1 := 224) (st1 := [AI 6, AI x4]) rfl ?_
          refine g_br2 rfl (t := 241) rfl (fun c7 => ?_) (fun c7 => ?_)
          · have c7 : ¬ x4 = 6 := of_decide_eq_true c7
            refine g_sk 2 (pc1 := 243) (st1 := [AR r2, AR r2]) rfl ?_
            refine g_gI rfl (ci := 20) (k := 5) rfl sh5 ?_
            refine g_sk 2 (pc1 := 248) (st1 := [AI (wr ((tI τ r2 5) + 1)), AR r2]) rfl ?_
            refine g_putI (x := (wr ((tI τ r2 5) + 1))) rfl (ci := 20) (k := 5) (kd := 0) rfl (by decide) rfl rfl sh5 ?_
            refine g_sk 2 (pc1 := 254) (st1 := [AI 59, AR r0]) rfl ?_
            refine G_fg (lw2_k _ (lw2_k _ (lw2_k _ (lw2_k _ (lw2_f _ (lw2_f _ lw2_nil)))))) ?_
            refine g_cv rfl rfl (by decide) rfl rfl (Nat.le_of_ble_eq_true rfl) (as2 := [AI 59]) rfl sh6 rfl (by omega) (L0 := [vR r0, vI 59]) rfl ?_
            exact (k2 c1 c2 c3 c4 c7)
          · have c7 : x4 = 6 := Decidable.of_not_not (of_decide_eq_false c7)
            refine g_sk 1 (pc1 := 228) (st1 := [AR r2]) rfl ?_
            refine g_gP rfl (ci := 20) (k := 1) rfl sh5 ?_
            refine g_sk 4 (pc1 := 237) (st1 := [AI 24, AI 1, AR r0, AI x5, AP (tP τ r2 1)]) rfl ?_
            refine G_fg (lw2_k _ (lw2_k _ (lw2_k _ (lw2_k _ (lw2_f _ (lw2_f _ lw2_nil)))))) ?_
            refine g_cv rfl rfl (by decide) rfl rfl (Nat.le_of_ble_eq_true rfl) (as2 := [AI 1, AI 24]) rfl sh6 rfl (by omega) (L0 := [vR r0, vI 1, vI 24, none]) rfl ?_
            exact (k3 c1 c2 c3 c4 c7)
      · have c3 : x4 = 2 := Decidable.of_not_not (of_decide_eq_false c3)
        refine g_sk 1 (pc1 := 198) (st1 := [AR r2]) rfl ?_
        refine g_gP rfl (ci := 20) (k := 1) rfl sh5 ?_
        refine g_sk 4 (pc1 := 207) (st1 := [AI 25, AI 0, AR r0, AI x5, AP (tP τ r2 1)]) rfl ?_
        refine G_fg (lw2_k _ (lw2_k _ (lw2_k _ (lw2_k _ (lw2_f _ (lw2_f _ lw2_nil)))))) ?_
        refine g_cv rfl rfl (by decide) rfl rfl (Nat.le_of_ble_eq_true rfl) (as2 := [AI 0, AI 25]) rfl sh6 rfl (by omega) (L0 := [vR r0, vI 0, vI 25, none]) rfl ?_
        exact (k4 c1 c2 c3)
    · have c2 : x4 = 1 := Decidable.of_not_not (of_decide_eq_false c2)
      refine g_sk 1 (pc1 := 177) (st1 := [AR r2]) rfl ?_
      refine g_gP rfl (ci := 20) (k := 1) rfl sh5 ?_
      refine g_sk 3 (pc1 := 184) (st1 := [AI x1, AR r0, AI x5, AP (tP τ r2 1)]) rfl ?_
      refine G_fg (lw2_k _ (lw2_k _ (lw2_k _ (lw2_k _ (lw2_f _ (lw2_f _ lw2_nil)))))) ?_
      refine g_cv rfl rfl (by decide) rfl rfl (Nat.le_of_ble_eq_true rfl) (as2 := [AI x1]) rfl sh6 rfl (by omega) (L0 := [vR r0, vI x1, none]) rfl ?_
      exact (k5 c1 c2)
  · have c1 : x4 = 0 := Decidable.of_not_not (of_decide_eq_false c1)
    refine g_sk 4 (pc1 := 164) (st1 := [AI x5, AR r2, AI x1, AR r0]) rfl ?_
    refine G_fg (lw2_k _ (lw2_k _ (lw2_k _ (lw2_k _ (lw2_f _ (lw2_f _ lw2_nil)))))) ?_
    refine g_cv rfl rfl (by decide) rfl rfl (Nat.le_of_ble_eq_true rfl) (as2 := [AI x1, AR r2, AI x5]) rfl sh6 rfl (by omega) (L0 := [vR r0, vI x1, vR r2, vI x5, none, none]) rfl ?_
    exact (k6 c1)

set_option maxRecDepth 8192 in
theorem t201_167 {d : Nat} {τ : T2} {Q : RS → T2 → Prop} {x1 : Int} {r0 r2 : Nat} (hd : 1 ≤ d) (sh1 : tS τ r2 = (1, 20, 0)) (sh2 : tS τ r0 = (1, 21, 0)) (k1 : G (d - 1) 180 0 [vR r0, vI 59] [] (uI τ r2 5 (wr ((tI τ r2 5) + 1))) (KC d 201 254 257 [vR r0, vI x1, vR r2, none, none, none] [] Q)) : G d 201 167 [vR r0, vI x1, vR r2, none, none, none] [] τ Q := by
  refine g_sk 3 (pc1 := 243) (st1 := [AR r2, AR r2]) rfl ?_
  refine g_gI rfl (ci := 20) (k := 5) rfl sh1 ?_
  refine g_sk 2 (pc1 := 248) (st1 := [AI (wr ((tI τ r2 5) + 1)), AR r2]) rfl ?_
  refine g_putI (x := (wr ((tI τ r2 5) + 1))) rfl (ci := 20) (k := 5) (kd := 0) rfl (by decide) rfl rfl sh1 ?_
  refine g_sk 2 (pc1 := 254) (st1 := [AI 59, AR r0]) rfl ?_
  refine g_cv rfl rfl (by decide) rfl rfl (Nat.le_of_ble_eq_true rfl) (as2 := [AI 59]) rfl sh2 rfl (by omega) (L0 := [vR r0, vI 59]) rfl ?_
  exact k1

set_option maxRecDepth 8192 in
theorem t201_187 {d : Nat} {τ : T2} {Q : RS → T2 → Prop} {x1 y0 y1 : Int} {r0 r2 s2 n1 : Nat} (hd : 1 ≤ d) (sh2 : tS τ s2 = (2, 0, n1)) (b3 : (0 : Int) ≤ y1 ∧ y1 < (n1 : Int)) (sh4 : tS τ r2 = (1, 20, 0)) (sh5 : tS τ r0 = (1, 21, 0)) (k1 : G (d - 1) 180 0 [vR r0, vI 59] [] (uI (uI τ s2 y1.toNat y0) r2 5 (wr ((tI (uI τ s2 y1.toNat y0) r2 5) + 1))) (KC d 201 254 257 [vR r0, vI x1, vR r2, none, none, none] [] Q)) : G d 201 187 [vR r0, vI x1, vR r2, none, none, none] [AI y0, AI y1, AR s2] τ Q := by
  refine g_iast rfl sh2 b3.1 b3.2 ?_
  refine g_sk 3 (pc1 := 243) (st1 := [AR r2, AR r2]) rfl ?_
  refine g_gI rfl (ci := 20) (k := 5) rfl sh4 ?_
  refine g_sk 2 (pc1 := 248) (st1 := [AI (wr ((tI (uI τ s2 y1.toNat y0) r2 5) + 1)), AR r2]) rfl ?_
  refine g_putI (x := (wr ((tI (uI τ s2 y1.toNat y0) r2 5) + 1))) rfl (ci := 20) (k := 5) (kd := 0) rfl (by decide) rfl rfl sh4 ?_
  refine g_sk 2 (pc1 := 254) (st1 := [AI 59, AR r0]) rfl ?_
  refine g_cv rfl rfl (by decide) rfl rfl (Nat.le_of_ble_eq_true rfl) (as2 := [AI 59]) rfl sh5 rfl (by omega) (L0 := [vR r0, vI 59]) rfl ?_
  exact k1

set_option maxRecDepth 8192 in
theorem t201_210 {d : Nat} {τ : T2} {Q : RS → T2 → Prop} {x1 y0 y1 : Int} {r0 r2 s2 n1 : Nat} (hd : 1 ≤ d) (sh2 : tS τ s2 = (2, 0, n1)) (b3 : (0 : Int) ≤ y1 ∧ y1 < (n1 : Int)) (sh4 : tS τ r2 = (1, 20, 0)) (sh5 : tS τ r0 = (1, 21, 0)) (k1 : G (d - 1) 180 0 [vR r0, vI 59] [] (uI (uI τ s2 y1.toNat y0) r2 5 (wr ((tI (uI τ s2 y1.toNat y0) r2 5) + 1))) (KC d 201 254 257 [vR r0, vI x1, vR r2, none, none, none] [] Q)) : G d 201 210 [vR r0, vI x1, vR r2, none, none, none] [AI y0, AI y1, AR s2] τ Q := by
  refine g_iast rfl sh2 b3.1 b3.2 ?_
  refine g_sk 3 (pc1 := 243) (st1 := [AR r2, AR r2]) rfl ?_
  refine g_gI rfl (ci := 20) (k := 5) rfl sh4 ?_
  refine g_sk 2 (pc1 := 248) (st1 := [AI (wr ((tI (uI τ s2 y1.toNat y0) r2 5) + 1)), AR r2]) rfl ?_
  refine g_putI (x := (wr ((tI (uI τ s2 y1.toNat y0) r2 5) + 1))) rfl (ci := 20) (k := 5) (kd := 0) rfl (by decide) rfl rfl sh4 ?_
  refine g_sk 2 (pc1 := 254) (st1 := [AI 59, AR r0]) rfl ?_
  refine g_cv rfl rfl (by decide) rfl rfl (Nat.le_of_ble_eq_true rfl) (as2 := [AI 59]) rfl sh5 rfl (by omega) (L0 := [vR r0, vI 59]) rfl ?_
  exact k1

set_option maxRecDepth 8192 in
theorem t201_240 {d : Nat} {τ : T2} {Q : RS → T2 → Prop} {x1 y0 y1 : Int} {r0 r2 s2 n1 : Nat} (hd : 1 ≤ d) (sh2 : tS τ s2 = (2, 0, n1)) (b3 : (0 : Int) ≤ y1 ∧ y1 < (n1 : Int)) (sh4 : tS τ r2 = (1, 20, 0)) (sh5 : tS τ r0 = (1, 21, 0)) (k1 : G (d - 1) 180 0 [vR r0, vI 59] [] (uI (uI τ s2 y1.toNat y0) r2 5 (wr ((tI (uI τ s2 y1.toNat y0) r2 5) + 1))) (KC d 201 254 257 [vR r0, vI x1, vR r2, none, none, none] [] Q)) : G d 201 240 [vR r0, vI x1, vR r2, none, none, none] [AI y0, AI y1, AR s2] τ Q := by
  refine g_iast rfl sh2 b3.1 b3.2 ?_
  refine g_sk 2 (pc1 := 243) (st1 := [AR r2, AR r2]) rfl ?_
  refine g_gI rfl (ci := 20) (k := 5) rfl sh4 ?_
  refine g_sk 2 (pc1 := 248) (st1 := [AI (wr ((tI (uI τ s2 y1.toNat y0) r2 5) + 1)), AR r2]) rfl ?_
  refine g_putI (x := (wr ((tI (uI τ s2 y1.toNat y0) r2 5) + 1))) rfl (ci := 20) (k := 5) (kd := 0) rfl (by decide) rfl rfl sh4 ?_
  refine g_sk 2 (pc1 := 254) (st1 := [AI 59, AR r0]) rfl ?_
  refine g_cv rfl rfl (by decide) rfl rfl (Nat.le_of_ble_eq_true rfl) (as2 := [AI 59]) rfl sh5 rfl (by omega) (L0 := [vR r0, vI 59]) rfl ?_
  exact k1

set_option maxRecDepth 8192 in
theorem t201_257 {d : Nat} {τ : T2} {Q : RS → T2 → Prop} {x1 y0 : Int} {r0 : Nat} {r2 : Option Nat} (hd : 1 ≤ d) (sh2 : tS τ r0 = (1, 21, 0)) (k1 : y0 = 0 → G d 201 2 [vR r0, vI x1, vQ r2, vI y0, none, none] [] τ Q) (k2 : ¬ y0 = 0 → G (d - 1) 177 0 [vR r0, none, none] [] τ (KC d 201 263 266 [vR r0, vI x1, vQ r2, vI y0, none, none] [] Q)) : G d 201 257 [vR r0, vI x1, vQ r2, none, none, none] [AI y0] τ Q := by
  refine g_sx 2 (pc1 := 259) (L1 := [vR r0, vI x1, vQ r2, vI y0, none, none]) (st1 := [AI y0]) rfl ?_
  refine g_br1 rfl (t := 266) rfl (fun c1 => ?_) (fun c1 => ?_)
  · have c1 : y0 = 0 := of_decide_eq_true c1
    refine g_sk 1 (pc1 := 2) (st1 := []) rfl ?_
    exact (k1 c1)
  · have c1 : ¬ y0 = 0 := of_decide_eq_false c1
    refine g_sk 1 (pc1 := 263) (st1 := [AR r0]) rfl ?_
    refine g_cv rfl rfl (by decide) rfl rfl (Nat.le_of_ble_eq_true rfl) (as2 := []) rfl sh2 rfl (by omega) (L0 := [vR r0, none, none]) rfl ?_
    exact (k2 c1)

set_option maxRecDepth 8192 in
theorem t201_266 {d : Nat} {τ : T2} {Q : RS → T2 → Prop} {x1 x3 : Int} {r0 : Nat} {r2 : Option Nat} (k1 : G d 201 2 [vR r0, vI x1, vQ r2, vI x3, none, none] [] τ Q) : G d 201 266 [vR r0, vI x1, vQ r2, vI x3, none, none] [] τ Q := by
  refine g_sk 1 (pc1 := 2) (st1 := []) rfl ?_
  exact k1

set_option maxRecDepth 8192 in
theorem t202_0 {d : Nat} {τ : T2} {Q : RS → T2 → Prop} {x1 x3 : Int} {r0 : Nat} {r2 : Option Nat} (k1 : G d 202 3 [vR r0, vI x1, vQ r2, vI x3, vI 1, none] [] τ Q) : G d 202 0 [vR r0, vI x1, vQ r2, vI x3, none, none] [] τ Q := by
  refine g_sx 2 (pc1 := 3) (L1 := [vR r0, vI x1, vQ r2, vI x3, vI 1, none]) (st1 := []) rfl ?_
  exact k1

set_option maxRecDepth 8192 in
theorem t202_3 {d : Nat} {τ : T2} {Q : RS → T2 → Prop} {x1 x3 x4 : Int} {r0 : Nat} {r2 : Option Nat} (hd : 1 ≤ d) (sh2 : tS τ r0 = (1, 21, 0)) (k1 : x4 = 0 → Q (.inl none) τ) (k2 : ¬ x4 = 0 → (tI τ r0 18) = 3 → G (d - 1) 167 0 [vI (tI τ r0 21), vI 1, vI 12] [] τ (KC d 202 29 32 [vR r0, vI x1, vQ r2, vI x3, none, none] [] Q)) (k3 : ¬ x4 = 0 → ¬ (tI τ r0 18) = 3 → G (d - 1) 172 0 [vR r0, vI 1] [] τ (KC d 202 18 21 [none, none, none, none, none, none] [] Q)) : G d 202 3 [vR r0, vI x1, vQ r2, vI x3, vI x4, none] [] τ Q := by
  refine g_sk 1 (pc1 := 5) (st1 := [AI x4]) rfl ?_
  refine g_br1 rfl (t := 148) rfl (fun c1 => ?_) (fun c1 => ?_)
  · have c1 : x4 = 0 := of_decide_eq_true c1
    refine g_vret rfl rfl ?_
    exact (k1 c1)
  · have c1 : ¬ x4 = 0 := of_decide_eq_false c1
    refine g_sk 1 (pc1 := 9) (st1 := [AR r0]) rfl ?_
    refine g_gI rfl (ci := 21) (k := 18) rfl sh2 ?_
    refine g_sk 1 (pc1 := 13) (st1 := [AI 3, AI (tI τ r0 18)]) rfl ?_
    refine g_br2 rfl (t := 22) rfl (fun c3 => ?_) (fun c3 => ?_)
    · have c3 : (tI τ r0 18) = 3 := of_decide_eq_true c3
      refine g_sk 1 (pc1 := 23) (st1 := [AR r0]) rfl ?_
      refine g_gI rfl (ci := 21) (k := 21) rfl sh2 ?_
      refine g_sk 2 (pc1 := 29) (st1 := [AI 12, AI 1, AI (tI τ r0 21)]) rfl ?_
      refine G_fg (lw2_k _ (lw2_k _ (lw2_k _ (lw2_k _ (lw2_f _ (lw2_k _ lw2_nil)))))) ?_
      refine g_cs rfl rfl (by decide) rfl rfl (Nat.le_of_ble_eq_true rfl) rfl (by omega) (L0 := [vI (tI τ r0 21), vI 1, vI 12]) rfl ?_
      exact (k2 c1 c3)
    · have c3 : ¬ (tI τ r0 18) = 3 := of_decide_eq_false c3
      refine g_sk 2 (pc1 := 18) (st1 := [AI 1, AR r0]) rfl ?_
      refine G_fg (lw2_f _ (lw2_f _ (lw2_f _ (lw2_f _ (lw2_f _ (lw2_k _ lw2_nil)))))) ?_
      refine g_cv rfl rfl (by decide) rfl rfl (Nat.le_of_ble_eq_true rfl) (as2 := [AI 1]) rfl sh2 rfl (by omega) (L0 := [vR r0, vI 1]) rfl ?_
      exact (k3 c1 c3)

set_option maxRecDepth 8192 in
theorem t202_21 {d : Nat} {τ : T2} {Q : RS → T2 → Prop} {s0 : Nat} (hd : 16 ≤ d) (sh1 : tS τ s0 = (1, 18, 0)) (k1 : Q (.inr s0) τ) : G d 202 21 [none, none, none, none, none, none] [AR s0] τ Q := by
  refine g_thr rfl sh1 rfl (by omega) rfl ?_
  exact k1

set_option maxRecDepth 8192 in
theorem t202_32 {d : Nat} {τ : T2} {Q : RS → T2 → Prop} {x1 x3 y0 : Int} {r0 r2 q3 n5 q9 n12 : Nat} (hd : 1 ≤ d) (sh2 : tS τ r2 = (1, 20, 0)) (p4 : tP τ r2 2 = some q3) (sh6 : tS τ q3 = (2, 0, n5)) (b7 : ¬ y0 = 0 → (0 : Int) ≤ x3 ∧ x3 < (n5 : Int)) (p10 : tP τ r2 3 = some q9) (sh11 : tS τ r0 = (1, 21, 0)) (sh13 : tS τ q9 = (2, 0, n12)) (b14 : ¬ y0 = 0 → ¬ (tI τ q3 x3.toNat) = 12 → (0 : Int) ≤ (wr ((wr (12 * x3)) + (tI τ q3 x3.toNat))) ∧ (wr ((wr (12 * x3)) + (tI τ q3 x3.toNat))) < (n12 : Int)) (k1 : ¬ y0 = 0 → ¬ (tI τ q3 x3.toNat) = 12 → G (d - 1) 177 0 [vR r0, none, none] [] (uI τ q9 (wr ((wr (12 * x3)) + (tI τ q3 x3.toNat))).toNat (tI τ r0 21)) (KC d 202 83 86 [vR r0, vI x1, vR r2, vI x3, none, vI (wr ((wr (12 * x3)) + (tI τ q3 x3.toNat)))] [] Q)) (k2 : ¬ y0 = 0 → (tI τ q3 x3.toNat) = 12 → G (d - 1) 172 0 [vR r0, vI 4] [] τ (KC d 202 54 57 [none, none, none, none, none, none] [] Q)) (k3 : y0 = 0 → G (d - 1) 172 0 [vR r0, vI 3] [] τ (KC d 202 37 40 [none, none, none, none, none, none] [] Q)) : G d 202 32 [vR r0, vI x1, vR r2, vI x3, none, none] [AI y0] τ Q := by
  refine g_br1 rfl (t := 41) rfl (fun c1 => ?_) (fun c1 => ?_)
  · have c1 : ¬ y0 = 0 := of_decide_eq_true c1
    refine g_sk 1 (pc1 := 42) (st1 := [AR r2]) rfl ?_
    refine g_gQ rfl (ci := 20) (k := 2) rfl sh2 p4 ?_
    refine g_sk 1 (pc1 := 46) (st1 := [AI x3, AR q3]) rfl ?_
    refine g_iald rfl sh6 (by decide) (b7 c1).1 (b7 c1).2 ?_
    refine g_sk 1 (pc1 := 49) (st1 := [AI 12, AI (tI τ q3 x3.toNat)]) rfl ?_
    refine g_br2 rfl (t := 58) rfl (fun c8 => ?_) (fun c8 => ?_)
    · have c8 : ¬ (tI τ q3 x3.toNat) = 12 := of_decide_eq_true c8
      refine g_sk 4 (pc1 := 63) (st1 := [AR r2, AI (wr (12 * x3))]) rfl ?_
      refine g_gQ rfl (ci := 20) (k := 2) rfl sh2 p4 ?_
      refine g_sk 1 (pc1 := 67) (st1 := [AI x3, AR q3, AI (wr (12 * x3))]) rfl ?_
      refine g_iald rfl sh6 (by decide) (b7 c1).1 (b7 c1).2 ?_
      refine g_sx 3 (pc1 := 72) (L1 := [vR r0, vI x1, vR r2, vI x3, none, vI (wr ((wr (12 * x3)) + (tI τ q3 x3.toNat)))]) (st1 := [AR r2]) rfl ?_
      refine g_gQ rfl (ci := 20) (k := 3) rfl sh2 p10 ?_
      refine g_sk 2 (pc1 := 78) (st1 := [AR r0, AI (wr ((wr (12 * x3)) + (tI τ q3 x3.toNat))), AR q9]) rfl ?_
      refine g_gI rfl (ci := 21) (k := 21) rfl sh11 ?_
      refine g_iast rfl sh13 (b14 c1 c8).1 (b14 c1 c8).2 ?_
      refine g_sk 1 (pc1 := 83) (st1 := [AR r0]) rfl ?_
      refine g_cv rfl rfl (by decide) rfl rfl (Nat.le_of_ble_eq_true rfl) (as2 := []) rfl sh11 rfl (by omega) (L0 := [vR r0, none, none]) rfl ?_
      exact (k1 c1 c8)
    · have c8 : (tI τ q3 x3.toNat) = 12 := Decidable.of_not_not (of_decide_eq_false c8)
      refine g_sk 2 (pc1 := 54) (st1 := [AI 4, AR r0]) rfl ?_
      refine G_fg (lw2_f _ (lw2_f _ (lw2_f _ (lw2_f _ (lw2_k _ (lw2_k _ lw2_nil)))))) ?_
      refine g_cv rfl rfl (by decide) rfl rfl (Nat.le_of_ble_eq_true rfl) (as2 := [AI 4]) rfl sh11 rfl (by omega) (L0 := [vR r0, vI 4]) rfl ?_
      exact (k2 c1 c8)
  · have c1 : y0 = 0 := Decidable.of_not_not (of_decide_eq_false c1)
    refine g_sk 2 (pc1 := 37) (st1 := [AI 3, AR r0]) rfl ?_
    refine G_fg (lw2_f _ (lw2_f _ (lw2_f _ (lw2_f _ (lw2_k _ (lw2_k _ lw2_nil)))))) ?_
    refine g_cv rfl rfl (by decide) rfl rfl (Nat.le_of_ble_eq_true rfl) (as2 := [AI 3]) rfl sh11 rfl (by omega) (L0 := [vR r0, vI 3]) rfl ?_
    exact (k3 c1)

set_option maxRecDepth 8192 in
theorem t202_40 {d : Nat} {τ : T2} {Q : RS → T2 → Prop} {s0 : Nat} (hd : 16 ≤ d) (sh1 : tS τ s0 = (1, 18, 0)) (k1 : Q (.inr s0) τ) : G d 202 40 [none, none, none, none, none, none] [AR s0] τ Q := by
  refine g_thr rfl sh1 rfl (by omega) rfl ?_
  exact k1

set_option maxRecDepth 8192 in
theorem t202_57 {d : Nat} {τ : T2} {Q : RS → T2 → Prop} {s0 : Nat} (hd : 16 ≤ d) (sh1 : tS τ s0 = (1, 18, 0)) (k1 : Q (.inr s0) τ) : G d 202 57 [none, none, none, none, none, none] [AR s0] τ Q := by
  refine g_thr rfl sh1 rfl (by omega) rfl ?_
  exact k1

set_option maxRecDepth 8192 in
theorem t202_86 {d : Nat} {τ : T2} {Q : RS → T2 → Prop} {x1 x3 x5 : Int} {r0 : Nat} {r2 : Option Nat} (hd : 1 ≤ d) (sh1 : tS τ r0 = (1, 21, 0)) (k1 : G (d - 1) 179 0 [vR r0, vR 39] [] τ (KC d 202 90 93 [vR r0, vI x1, vQ r2, vI x3, none, vI x5] [] Q)) : G d 202 86 [vR r0, vI x1, vQ r2, vI x3, none, vI x5] [] τ Q := by
  refine g_sk 2 (pc1 := 90) (st1 := [AR 39, AR r0]) rfl ?_
  refine g_cv rfl rfl (by decide) rfl rfl (Nat.le_of_ble_eq_true rfl) (as2 := [AR 39]) rfl sh1 rfl (by omega) (L0 := [vR r0, vR 39]) rfl ?_
  exact k1

set_option maxRecDepth 8192 in
theorem t202_93 {d : Nat} {τ : T2} {Q : RS → T2 → Prop} {x1 x3 x5 y0 : Int} {r0 : Nat} {r2 : Option Nat} (hd : 1 ≤ d) (sh2 : tS τ r0 = (1, 21, 0)) (k1 : ¬ y0 = 0 → G (d - 1) 177 0 [vR r0, none, none] [] τ (KC d 202 103 106 [vR r0, vI x1, vQ r2, vI x3, none, vI x5] [] Q)) (k2 : y0 = 0 → G (d - 1) 172 0 [vR r0, vI 1] [] τ (KC d 202 98 101 [none, none, none, none, none, none] [] Q)) : G d 202 93 [vR r0, vI x1, vQ r2, vI x3, none, vI x5] [AI y0] τ Q := by
  refine g_br1 rfl (t := 102) rfl (fun c1 => ?_) (fun c1 => ?_)
  · have c1 : ¬ y0 = 0 := of_decide_eq_true c1
    refine g_sk 1 (pc1 := 103) (st1 := [AR r0]) rfl ?_
    refine g_cv rfl rfl (by decide) rfl rfl (Nat.le_of_ble_eq_true rfl) (as2 := []) rfl sh2 rfl (by omega) (L0 := [vR r0, none, none]) rfl ?_
    exact (k1 c1)
  · have c1 : y0 = 0 := Decidable.of_not_not (of_decide_eq_false c1)
    refine g_sk 2 (pc1 := 98) (st1 := [AI 1, AR r0]) rfl ?_
    refine G_fg (lw2_f _ (lw2_f _ (lw2_f _ (lw2_f _ (lw2_k _ (lw2_f _ lw2_nil)))))) ?_
    refine g_cv rfl rfl (by decide) rfl rfl (Nat.le_of_ble_eq_true rfl) (as2 := [AI 1]) rfl sh2 rfl (by omega) (L0 := [vR r0, vI 1]) rfl ?_
    exact (k2 c1)

set_option maxRecDepth 8192 in
theorem t202_101 {d : Nat} {τ : T2} {Q : RS → T2 → Prop} {s0 : Nat} (hd : 16 ≤ d) (sh1 : tS τ s0 = (1, 18, 0)) (k1 : Q (.inr s0) τ) : G d 202 101 [none, none, none, none, none, none] [AR s0] τ Q := by
  refine g_thr rfl sh1 rfl (by omega) rfl ?_
  exact k1

set_option maxRecDepth 8192 in
theorem t202_106 {d : Nat} {τ : T2} {Q : RS → T2 → Prop} {x1 x3 x5 : Int} {r0 r2 : Nat} (hd : 1 ≤ d) (sh1 : tS τ r2 = (1, 20, 0)) (sh2 : tS τ r0 = (1, 21, 0)) (k1 : G (d - 1) 183 0 [vR r0, vI x1, none] [] τ (KC d 202 114 117 [vR r0, vI x1, vR r2, vI x3, none, none] [AI x5, AP (tP τ r2 4)] Q)) : G d 202 106 [vR r0, vI x1, vR r2, vI x3, none, vI x5] [] τ Q := by
  refine g_sk 1 (pc1 := 107) (st1 := [AR r2]) rfl ?_
  refine g_gP rfl (ci := 20) (k := 4) rfl sh1 ?_
  refine g_sk 3 (pc1 := 114) (st1 := [AI x1, AR r0, AI x5, AP (tP τ r2 4)]) rfl ?_
  refine G_fg (lw2_k _ (lw2_k _ (lw2_k _ (lw2_k _ (lw2_k _ (lw2_f _ lw2_nil)))))) ?_
  refine g_cv rfl rfl (by decide) rfl rfl (Nat.le_of_ble_eq_true rfl) (as2 := [AI x1]) rfl sh2 rfl (by omega) (L0 := [vR r0, vI x1, none]) rfl ?_
  exact k1

set_option maxRecDepth 8192 in
theorem t202_117 {d : Nat} {τ : T2} {Q : RS → T2 → Prop} {x1 x3 y0 y1 : Int} {r0 r2 s2 n1 q5 n7 : Nat} (hd : 1 ≤ d) (sh2 : tS τ s2 = (2, 0, n1)) (b3 : (0 : Int) ≤ y1 ∧ y1 < (n1 : Int)) (sh4 : tS τ r2 = (1, 20, 0)) (p6 : tP τ r2 2 = some q5) (sh8 : tS τ q5 = (2, 0, n7)) (b9 : (0 : Int) ≤ x3 ∧ x3 < (n7 : Int)) (sh10 : tS τ r0 = (1, 21, 0)) (k1 : G (d - 1) 180 0 [vR r0, vI 44] [] (uI (uI τ s2 y1.toNat y0) q5 x3.toNat (wr ((tI (uI τ s2 y1.toNat y0) q5 x3.toNat) + 1))) (KC d 202 131 134 [vR r0, vI x1, vR r2, vI x3, none, none] [] Q)) : G d 202 117 [vR r0, vI x1, vR r2, vI x3, none, none] [AI y0, AI y1, AR s2] τ Q := by
  refine g_iast rfl sh2 b3.1 b3.2 ?_
  refine g_sk 1 (pc1 := 119) (st1 := [AR r2]) rfl ?_
  refine g_gQ rfl (ci := 20) (k := 2) rfl sh4 p6 ?_
  refine g_sk 2 (pc1 := 124) (st1 := [AI x3, AR q5, AI x3, AR q5]) rfl ?_
  refine g_iald rfl sh8 (by decide) b9.1 b9.2 ?_
  refine g_sk 2 (pc1 := 127) (st1 := [AI (wr ((tI (uI τ s2 y1.toNat y0) q5 x3.toNat) + 1)), AI x3, AR q5]) rfl ?_
  refine g_iast rfl sh8 b9.1 b9.2 ?_
  refine g_sk 2 (pc1 := 131) (st1 := [AI 44, AR r0]) rfl ?_
  refine g_cv rfl rfl (by decide) rfl rfl (Nat.le_of_ble_eq_true rfl) (as2 := [AI 44]) rfl sh10 rfl (by omega) (L0 := [vR r0, vI 44]) rfl ?_
  exact k1

set_option maxRecDepth 8192 in
theorem t202_134 {d : Nat} {τ : T2} {Q : RS → T2 → Prop} {x1 x3 y0 : Int} {r0 : Nat} {r2 : Option Nat} (hd : 1 ≤ d) (sh2 : tS τ r0 = (1, 21, 0)) (k1 : y0 = 0 → G d 202 3 [vR r0, vI x1, vQ r2, vI x3, vI y0, none] [] τ Q) (k2 : ¬ y0 = 0 → G (d - 1) 177 0 [vR r0, none, none] [] τ (KC d 202 142 145 [vR r0, vI x1, vQ r2, vI x3, vI y0, none] [] Q)) : G d 202 134 [vR r0, vI x1, vQ r2, vI x3, none, none] [AI y0] τ Q := by
  refine g_sx 2 (pc1 := 138) (L1 := [vR r0, vI x1, vQ r2, vI x3, vI y0, none]) (st1 := [AI y0]) rfl ?_
  refine g_br1 rfl (t := 145) rfl (fun c1 => ?_) (fun c1 => ?_)
  · have c1 : y0 = 0 := of_decide_eq_true c1
    refine g_sk 1 (pc1 := 3) (st1 := []) rfl ?_
    exact (k1 c1)
  · have c1 : ¬ y0 = 0 := of_decide_eq_false c1
    refine g_sk 1 (pc1 := 142) (st1 := [AR r0]) rfl ?_
    refine g_cv rfl rfl (by decide) rfl rfl (Nat.le_of_ble_eq_true rfl) (as2 := []) rfl sh2 rfl (by omega) (L0 := [vR r0, none, none]) rfl ?_
    exact (k2 c1)

set_option maxRecDepth 8192 in
theorem t202_145 {d : Nat} {τ : T2} {Q : RS → T2 → Prop} {x1 x3 x4 : Int} {r0 : Nat} {r2 : Option Nat} (k1 : G d 202 3 [vR r0, vI x1, vQ r2, vI x3, vI x4, none] [] τ Q) : G d 202 145 [vR r0, vI x1, vQ r2, vI x3, vI x4, none] [] τ Q := by
  refine g_sk 1 (pc1 := 3) (st1 := []) rfl ?_
  exact k1

set_option maxRecDepth 8192 in
theorem t203_0 {d : Nat} {τ : T2} {Q : RS → T2 → Prop} {x2 : Int} {r0 : Nat} {r1 : Option Nat} (sh1 : tS τ r0 = (1, 21, 0)) (k1 : G d 203 7 [vR r0, vQ r1, vI x2, vI 0, none, none, none] [] (uI τ r0 32 0) Q) : G d 203 0 [vR r0, vQ r1, vI x2, none, none, none, none] [] τ Q := by
  refine g_sk 2 (pc1 := 2) (st1 := [AI 0, AR r0]) rfl ?_
  refine g_putI (x := 0) rfl (ci := 21) (k := 32) (kd := 0) rfl (by decide) rfl rfl sh1 ?_
  refine g_sx 2 (pc1 := 7) (L1 := [vR r0, vQ r1, vI x2, vI 0, none, none, none]) (st1 := []) rfl ?_
  exact k1

set_option maxRecDepth 8192 in
theorem t203_7 {d : Nat} {τ : T2} {Q : RS → T2 → Prop} {x2 x3 : Int} {r0 r1 q3 n5 q8 n10 : Nat} (sh1 : tS τ r1 = (1, 20, 0)) (p4 : tP τ r1 1 = some q3) (sh6 : tS τ q3 = (2, 0, n5)) (b7 : x3 < (tI τ r1 5) → (0 : Int) ≤ x3 ∧ x3 < (n5 : Int)) (p9 : tP τ r1 0 = some q8) (sh11 : tS τ q8 = (2, 0, n10)) (b12 : x3 < (tI τ r1 5) → (0 : Int) ≤ x3 ∧ x3 < (n10 : Int)) (k1 : (tI τ r1 5) ≤ x3 → Q (.inl (some (AI 1))) τ) (k2 : x3 < (tI τ r1 5) → G d 203 29 [vR r0, vR r1, vI x2, vI x3, vI (tI τ q3 x3.toNat), none, none] [AI (tI τ q8 x3.toNat)] τ Q) : G d 203 7 [vR r0, vR r1, vI x2, vI x3, none, none, none] [] τ Q := by
  refine g_sk 2 (pc1 := 9) (st1 := [AR r1, AI x3]) rfl ?_
  refine g_gI rfl (ci := 20) (k := 5) rfl sh1 ?_
  refine g_br2 rfl (t := 495) rfl (fun c2 => ?_) (fun c2 => ?_)
  · have c2 : (tI τ r1 5) ≤ x3 := of_decide_eq_true c2
    refine g_sk 1 (pc1 := 496) (st1 := [AI 1]) rfl ?_
    refine g_zret rfl rfl (by decide) ?_
    exact (k1 c2)
  · have c2 : x3 < (tI τ r1 5) := Int.not_le.mp (of_decide_eq_false c2)
    refine g_sk 1 (pc1 := 16) (st1 := [AR r1]) rfl ?_
    refine g_gQ rfl (ci := 20) (k := 1) rfl sh1 p4 ?_
    refine g_sk 1 (pc1 := 20) (st1 := [AI x3, AR q3]) rfl ?_
    refine g_iald rfl sh6 (by decide) (b7 c2).1 (b7 c2).2 ?_
    refine g_sx 2 (pc1 := 24) (L1 := [vR r0, vR r1, vI x2, vI x3, vI (tI τ q3 x3.toNat), none, none]) (st1 := [AR r1]) rfl ?_
    refine g_gQ rfl (ci := 20) (k := 0) rfl sh1 p9 ?_
    refine g_sk 1 (pc1 := 28) (st1 := [AI x3, AR q8]) rfl ?_
    refine g_iald rfl sh11 (by decide) (b12 c2).1 (b12 c2).2 ?_
    exact (k2 c2)

set_option maxRecDepth 8192 in
theorem t203_74 {d : Nat} {τ : T2} {Q : RS → T2 → Prop} {x2 x3 x5 : Int} {r0 r1 q2 n4 q9 q11 n13 n16 q19 q21 n23 q29 q32 n34 n37 : Nat} (sh1 : tS τ r1 = (1, 20, 0)) (p3 : tP τ r1 2 = some q2) (sh5 : tS τ q2 = (2, 0, n4)) (b6 : (0 : Int) ≤ x3 ∧ x3 < (n4 : Int)) (sh8 : tS τ r0 = (1, 21, 0)) (p10 : tP τ r0 8 = some q9) (p12 : tP τ r1 4 = some q11) (sh14 : tS τ q11 = (2, 0, n13)) (b15 : x5 < (wr ((wr (12 * x3)) + (tI τ q2 x3.toNat))) → (0 : Int) ≤ x5 ∧ x5 < (n13 : Int)) (sh17 : tS τ q9 = (3, 7, n16)) (b18 : x5 < (wr ((wr (12 * x3)) + (tI τ q2 x3.toNat))) → (0 : Int) ≤ (tI τ q11 x5.toNat) ∧ (tI τ q11 x5.toNat) < (n16 : Int)) (p20 : x5 < (wr ((wr (12 * x3)) + (tI τ q2 x3.toNat))) → tP τ q9 (tI τ q11 x5.toNat).toNat = some q19) (p22 : tP τ r1 3 = some q21) (sh24 : tS τ q21 = (2, 0, n23)) (b25 : x5 < (wr ((wr (12 * x3)) + (tI τ q2 x3.toNat))) → (0 : Int) ≤ x5 ∧ x5 < (n23 : Int)) (sh26 : tS τ q19 = (1, 15, 0)) (p30 : tP τ r0 31 = some q29) (p33 : tP τ q19 6 = some q32) (sh35 : tS τ q32 = (2, 1, n34)) (b36 : x5 < (wr ((wr (12 * x3)) + (tI τ q2 x3.toNat))) → (tI τ q21 x5.toNat) ≤ (tI τ q19 2) → ¬ (tI τ r0 32) = 24 → ¬ (zand (zshr x2 (tI τ q11 x5.toNat)) 1) = 1 → (0 : Int) ≤ (wr ((tI τ q21 x5.toNat) - 1)) ∧ (wr ((tI τ q21 x5.toNat) - 1)) < (n34 : Int)) (sh38 : tS τ q29 = (2, 1, n37)) (b39 : x5 < (wr ((wr (12 * x3)) + (tI τ q2 x3.toNat))) → (tI τ q21 x5.toNat) ≤ (tI τ q19 2) → ¬ (tI τ r0 32) = 24 → ¬ (zand (zshr x2 (tI τ q11 x5.toNat)) 1) = 1 → (0 : Int) ≤ (tI τ r0 32) ∧ (tI τ r0 32) < (n37 : Int)) (b40 : x5 < (wr ((wr (12 * x3)) + (tI τ q2 x3.toNat))) → (tI τ q21 x5.toNat) ≤ (tI τ q19 2) → ¬ (tI τ r0 32) = 24 → (zand (zshr x2 (tI τ q11 x5.toNat)) 1) = 1 → (0 : Int) ≤ (tI τ r0 32) ∧ (tI τ r0 32) < (n37 : Int)) (k1 : (wr ((wr (12 * x3)) + (tI τ q2 x3.toNat))) ≤ x5 → G d 203 7 [vR r0, vR r1, vI x2, vI (wr (x3 + 1)), none, none, none] [] τ Q) (k2 : x5 < (wr ((wr (12 * x3)) + (tI τ q2 x3.toNat))) → (tI τ q19 2) < (tI τ q21 x5.toNat) → Q (.inl (some (AI 0))) τ) (k3 : x5 < (wr ((wr (12 * x3)) + (tI τ q2 x3.toNat))) → (tI τ q21 x5.toNat) ≤ (tI τ q19 2) → ¬ (tI τ r0 32) = 24 → ¬ (zand (zshr x2 (tI τ q11 x5.toNat)) 1) = 1 → G d 203 74 [vR r0, vR r1, vI x2, vI x3, none, vI (wr (x5 + 1)), none] [] (uI (uI τ q29 (tI τ r0 32).toNat (zbyt (tI τ q32 (wr ((tI τ q21 x5.toNat) - 1)).toNat))) r0 32 (wr ((tI (uI τ q29 (tI τ r0 32).toNat (zbyt (tI τ q32 (wr ((tI τ q21 x5.toNat) - 1)).toNat))) r0 32) + 1))) Q) (k4 : x5 < (wr ((wr (12 * x3)) + (tI τ q2 x3.toNat))) → (tI τ q21 x5.toNat) ≤ (tI τ q19 2) → ¬ (tI τ r0 32) = 24 → (zand (zshr x2 (tI τ q11 x5.toNat)) 1) = 1 → G d 203 74 [vR r0, vR r1, vI x2, vI x3, none, vI (wr (x5 + 1)), none] [] (uI (uI τ q29 (tI τ r0 32).toNat (zbyt 63)) r0 32 (wr ((tI (uI τ q29 (tI τ r0 32).toNat (zbyt 63)) r0 32) + 1))) Q) (k5 : x5 < (wr ((wr (12 * x3)) + (tI τ q2 x3.toNat))) → (tI τ q21 x5.toNat) ≤ (tI τ q19 2) → (tI τ r0 32) = 24 → Q (.inl (some (AI 0))) τ) : G d 203 74 [vR r0, vR r1, vI x2, vI x3, none, vI x5, none] [] τ Q := by
  refine g_sk 5 (pc1 := 81) (st1 := [AR r1, AI (wr (12 * x3)), AI x5]) rfl ?_
  refine g_gQ rfl (ci := 20) (k := 2) rfl sh1 p3 ?_
  refine g_sk 1 (pc1 := 85) (st1 := [AI x3, AR q2, AI (wr (12 * x3)), AI x5]) rfl ?_
  refine g_iald rfl sh5 (by decide) b6.1 b6.2 ?_
  refine g_sk 1 (pc1 := 87) (st1 := [AI (wr ((wr (12 * x3)) + (tI τ q2 x3.toNat))), AI x5]) rfl ?_
  refine g_br2 rfl (t := 190) rfl (fun c7 => ?_) (fun c7 => ?_)
  · have c7 : (wr ((wr (12 * x3)) + (tI τ q2 x3.toNat))) ≤ x5 := of_decide_eq_true c7
    refine g_sx 3 (pc1 := 7) (L1 := [vR r0, vR r1, vI x2, vI (wr (x3 + 1)), none, vI x5, none]) (st1 := []) rfl ?_
    exact G_fg (lw2_k _ (lw2_k _ (lw2_k _ (lw2_k _ (lw2_k _ (lw2_f _ (lw2_k _ lw2_nil))))))) (k1 c7)
  · have c7 : x5 < (wr ((wr (12 * x3)) + (tI τ q2 x3.toNat))) := Int.not_le.mp (of_decide_eq_false c7)
    refine g_sk 1 (pc1 := 91) (st1 := [AR r0]) rfl ?_
    refine g_gQ rfl (ci := 21) (k := 8) rfl sh8 p10 ?_
    refine g_sk 1 (pc1 := 95) (st1 := [AR r1, AR q9]) rfl ?_
    refine g_gQ rfl (ci := 20) (k := 4) rfl sh1 p12 ?_
    refine g_sk 1 (pc1 := 100) (st1 := [AI x5, AR q11, AR q9]) rfl ?_
    refine g_iald rfl sh14 (by decide) (b15 c7).1 (b15 c7).2 ?_
    refine g_aalQ rfl sh17 (by decide) (b18 c7).1 (b18 c7).2 (p20 c7) ?_
    refine g_sx 2 (pc1 := 105) (L1 := [vR r0, vR r1, vI x2, vI x3, none, vI x5, vR q19]) (st1 := [AR r1]) rfl ?_
    refine g_gQ rfl (ci := 20) (k := 3) rfl sh1 p22 ?_
    refine g_sk 1 (pc1 := 110) (st1 := [AI x5, AR q21]) rfl ?_
    refine g_iald rfl sh24 (by decide) (b25 c7).1 (b25 c7).2 ?_
    refine g_sk 1 (pc1 := 113) (st1 := [AR q19, AI (tI τ q21 x5.toNat)]) rfl ?_
    refine g_gI rfl (ci := 15) (k := 2) rfl sh26 ?_
    refine g_br2 rfl (t := 128) rfl (fun c27 => ?_) (fun c27 => ?_)
    · have c27 : (tI τ q19 2) < (tI τ q21 x5.toNat) := of_decide_eq_true c27
      refine g_sk 1 (pc1 := 129) (st1 := [AI 0]) rfl ?_
      refine g_zret rfl rfl (by decide) ?_
      exact (k2 c7 c27)
    · have c27 : (tI τ q21 x5.toNat) ≤ (tI τ q19 2) := Int.not_lt.mp (of_decide_eq_false c27)
      refine g_sk 1 (pc1 := 120) (st1 := [AR r0]) rfl ?_
      refine g_gI rfl (ci := 21) (k := 32) rfl sh8 ?_
      refine g_sk 1 (pc1 := 125) (st1 := [AI 24, AI (tI τ r0 32)]) rfl ?_
      refine g_br2 rfl (t := 130) rfl (fun c28 => ?_) (fun c28 => ?_)
      · have c28 : ¬ (tI τ r0 32) = 24 := of_decide_eq_true c28
        refine g_sk 1 (pc1 := 131) (st1 := [AR r0]) rfl ?_
        refine g_gQ rfl (ci := 21) (k := 31) rfl sh8 p30 ?_
        refine g_sk 1 (pc1 := 135) (st1 := [AR r0, AR q29]) rfl ?_
        refine g_gI rfl (ci := 21) (k := 32) rfl sh8 ?_
        refine g_sk 2 (pc1 := 140) (st1 := [AR r1, AI x2, AI (tI τ r0 32), AR q29]) rfl ?_
        refine g_gQ rfl (ci := 20) (k := 4) rfl sh1 p12 ?_
        refine g_sk 1 (pc1 := 145) (st1 := [AI x5, AR q11, AI x2, AI (tI τ r0 32), AR q29]) rfl ?_
        refine g_iald rfl sh14 (by decide) (b15 c7).1 (b15 c7).2 ?_
        refine g_sk 4 (pc1 := 150) (st1 := [AI 1, AI (zand (zshr x2 (tI τ q11 x5.toNat)) 1), AI (tI τ r0 32), AR q29]) rfl ?_
        refine g_br2 rfl (t := 158) rfl (fun c31 => ?_) (fun c31 => ?_)
        · have c31 : ¬ (zand (zshr x2 (tI τ q11 x5.toNat)) 1) = 1 := of_decide_eq_true c31
          refine g_sk 1 (pc1 := 160) (st1 := [AR q19, AI (tI τ r0 32), AR q29]) rfl ?_
          refine g_gQ rfl (ci := 15) (k := 6) rfl sh26 p33 ?_
          refine g_sk 1 (pc1 := 164) (st1 := [AR r1, AR q32, AI (tI τ r0 32), AR q29]) rfl ?_
          refine g_gQ rfl (ci := 20) (k := 3) rfl sh1 p22 ?_
          refine g_sk 1 (pc1 := 169) (st1 := [AI x5, AR q21, AR q32, AI (tI τ r0 32), AR q29]) rfl ?_
          refine g_iald rfl sh24 (by decide) (b25 c7).1 (b25 c7).2 ?_
          refine g_sk 2 (pc1 := 172) (st1 := [AI (wr ((tI τ q21 x5.toNat) - 1)), AR q32, AI (tI τ r0 32), AR q29]) rfl ?_
          refine g_bald rfl sh35 (by decide) (b36 c7 c27 c28 c31).1 (b36 c7 c27 c28 c31).2 ?_
          refine g_bast rfl sh38 (b39 c7 c27 c28 c31).1 (b39 c7 c27 c28 c31).2 ?_
          refine g_sk 2 (pc1 := 176) (st1 := [AR r0, AR r0]) rfl ?_
          refine g_gI rfl (ci := 21) (k := 32) rfl sh8 ?_
          refine g_sk 2 (pc1 := 181) (st1 := [AI (wr ((tI (uI τ q29 (tI τ r0 32).toNat (zbyt (tI τ q32 (wr ((tI τ q21 x5.toNat) - 1)).toNat))) r0 32) + 1)), AR r0]) rfl ?_
          refine g_putI (x := (wr ((tI (uI τ q29 (tI τ r0 32).toNat (zbyt (tI τ q32 (wr ((tI τ q21 x5.toNat) - 1)).toNat))) r0 32) + 1))) rfl (ci := 21) (k := 32) (kd := 0) rfl (by decide) rfl rfl sh8 ?_
          refine g_sx 2 (pc1 := 74) (L1 := [vR r0, vR r1, vI x2, vI x3, none, vI (wr (x5 + 1)), vR q19]) (st1 := []) rfl ?_
          exact G_fg (lw2_k _ (lw2_k _ (lw2_k _ (lw2_k _ (lw2_k _ (lw2_k _ (lw2_f _ lw2_nil))))))) (k3 c7 c27 c28 c31)
        · have c31 : (zand (zshr x2 (tI τ q11 x5.toNat)) 1) = 1 := Decidable.of_not_not (of_decide_eq_false c31)
          refine g_sk 2 (pc1 := 173) (st1 := [AI 63, AI (tI τ r0 32), AR q29]) rfl ?_
          refine g_bast rfl sh38 (b40 c7 c27 c28 c31).1 (b40 c7 c27 c28 c31).2 ?_
          refine g_sk 2 (pc1 := 176) (st1 := [AR r0, AR r0]) rfl ?_
          refine g_gI rfl (ci := 21) (k := 32) rfl sh8 ?_
          refine g_sk 2 (pc1 := 181) (st1 := [AI (wr ((tI (uI τ q29 (tI τ r0 32).toNat (zbyt 63)) r0 32) + 1)), AR r0]) rfl ?_
          refine g_putI (x := (wr ((tI (uI τ q29 (tI τ r0 32).toNat (zbyt 63)) r0 32) + 1))) rfl (ci := 21) (k := 32) (kd := 0) rfl (by decide) rfl rfl sh8 ?_
          refine g_sx 2 (pc1 := 74) (L1 := [vR r0, vR r1, vI x2, vI x3, none, vI (wr (x5 + 1)), vR q19]) (st1 := []) rfl ?_
          exact G_fg (lw2_k _ (lw2_k _ (lw2_k _ (lw2_k _ (lw2_k _ (lw2_k _ (lw2_f _ lw2_nil))))))) (k4 c7 c27 c28 c31)
      · have c28 : (tI τ r0 32) = 24 := Decidable.of_not_not (of_decide_eq_false c28)
        refine g_sk 1 (pc1 := 129) (st1 := [AI 0]) rfl ?_
        refine g_zret rfl rfl (by decide) ?_
        exact (k5 c7 c27 c28)

set_option maxRecDepth 8192 in
theorem t203_222 {d : Nat} {τ : T2} {Q : RS → T2 → Prop} {x2 x3 x4 x6 : Int} {r0 r5 q4 q7 n9 n12 : Nat} {r1 : Option Nat} (sh1 : tS τ r5 = (1, 15, 0)) (sh3 : tS τ r0 = (1, 21, 0)) (p5 : tP τ r0 31 = some q4) (p8 : tP τ r5 6 = some q7) (sh10 : tS τ q7 = (2, 1, n9)) (b11 : x6 < (tI τ r5 2) → ¬ (zand (zshr x2 x4) 1) = 1 → (0 : Int) ≤ x6 ∧ x6 < (n9 : Int)) (sh13 : tS τ q4 = (2, 1, n12)) (b14 : x6 < (tI τ r5 2) → ¬ (zand (zshr x2 x4) 1) = 1 → (0 : Int) ≤ (tI τ r0 32) ∧ (tI τ r0 32) < (n12 : Int)) (b15 : x6 < (tI τ r5 2) → (zand (zshr x2 x4) 1) = 1 → (0 : Int) ≤ (tI τ r0 32) ∧ (tI τ r0 32) < (n12 : Int)) (k1 : (tI τ r5 2) ≤ x6 → G d 203 7 [vR r0, vQ r1, vI x2, vI (wr (x3 + 1)), none, none, none] [] τ Q) (k2 : x6 < (tI τ r5 2) → ¬ (zand (zshr x2 x4) 1) = 1 → G d 203 222 [vR r0, vQ r1, vI x2, vI x3, vI x4, vR r5, vI (wr (x6 + 1))] [] (uI (uI τ q4 (tI τ r0 32).toNat (zbyt (tI τ q7 x6.toNat))) r0 32 (wr ((tI (uI τ q4 (tI τ r0 32).toNat (zbyt (tI τ q7 x6.toNat))) r0 32) + 1))) Q) (k3 : x6 < (tI τ r5 2) → (zand (zshr x2 x4) 1) = 1 → G d 203 222 [vR r0, vQ r1, vI x2, vI x3, vI x4, vR r5, vI (wr (x6 + 1))] [] (uI (uI τ q4 (tI τ r0 32).toNat (zbyt 63)) r0 32 (wr ((tI (uI τ q4 (tI τ r0 32).toNat (zbyt 63)) r0 32) + 1))) Q) : G d 203 222 [vR r0, vQ r1, vI x2, vI x3, vI x4, vR r5, vI x6] [] τ Q := by
  refine g_sk 2 (pc1 := 226) (st1 := [AR r5, AI x6]) rfl ?_
  refine g_gI rfl (ci := 15) (k := 2) rfl sh1 ?_
  refine g_br2 rfl (t := 280) rfl (fun c2 => ?_) (fun c2 => ?_)
  · have c2 : (tI τ r5 2) ≤ x6 := of_decide_eq_true c2
    refine g_sx 3 (pc1 := 7) (L1 := [vR r0, vQ r1, vI x2, vI (wr (x3 + 1)), vI x4, vR r5, vI x6]) (st1 := []) rfl ?_
    exact G_fg (lw2_k _ (lw2_k _ (lw2_k _ (lw2_k _ (lw2_f _ (lw2_f _ (lw2_f _ lw2_nil))))))) (k1 c2)
  · have c2 : x6 < (tI τ r5 2) := Int.not_le.mp (of_decide_eq_false c2)
    refine g_sk 1 (pc1 := 233) (st1 := [AR r0]) rfl ?_
    refine g_gQ rfl (ci := 21) (k := 31) rfl sh3 p5 ?_
    refine g_sk 1 (pc1 := 237) (st1 := [AR r0, AR q4]) rfl ?_
    refine g_gI rfl (ci := 21) (k := 32) rfl sh3 ?_
    refine g_sk 6 (pc1 := 247) (st1 := [AI 1, AI (zand (zshr x2 x4) 1), AI (tI τ r0 32), AR q4]) rfl ?_
    refine g_br2 rfl (t := 255) rfl (fun c6 => ?_) (fun c6 => ?_)
    · have c6 : ¬ (zand (zshr x2 x4) 1) = 1 := of_decide_eq_true c6
      refine g_sk 1 (pc1 := 257) (st1 := [AR r5, AI (tI τ r0 32), AR q4]) rfl ?_
      refine g_gQ rfl (ci := 15) (k := 6) rfl sh1 p8 ?_
      refine g_sk 1 (pc1 := 262) (st1 := [AI x6, AR q7, AI (tI τ r0 32), AR q4]) rfl ?_
      refine g_bald rfl sh10 (by decide) (b11 c2 c6).1 (b11 c2 c6).2 ?_
      refine g_bast rfl sh13 (b14 c2 c6).1 (b14 c2 c6).2 ?_
      refine g_sk 2 (pc1 := 266) (st1 := [AR r0, AR r0]) rfl ?_
      refine g_gI rfl (ci := 21) (k := 32) rfl sh3 ?_
      refine g_sk 2 (pc1 := 271) (st1 := [AI (wr ((tI (uI τ q4 (tI τ r0 32).toNat (zbyt (tI τ q7 x6.toNat))) r0 32) + 1)), AR r0]) rfl ?_
      refine g_putI (x := (wr ((tI (uI τ q4 (tI τ r0 32).toNat (zbyt (tI τ q7 x6.toNat))) r0 32) + 1))) rfl (ci := 21) (k := 32) (kd := 0) rfl (by decide) rfl rfl sh3 ?_
      refine g_sx 2 (pc1 := 222) (L1 := [vR r0, vQ r1, vI x2, vI x3, vI x4, vR r5, vI (wr (x6 + 1))]) (st1 := []) rfl ?_
      exact (k2 c2 c6)
    · have c6 : (zand (zshr x2 x4) 1) = 1 := Decidable.of_not_not (of_decide_eq_false c6)
      refine g_sk 2 (pc1 := 263) (st1 := [AI 63, AI (tI τ r0 32), AR q4]) rfl ?_
      refine g_bast rfl sh13 (b15 c2 c6).1 (b15 c2 c6).2 ?_
      refine g_sk 2 (pc1 := 266) (st1 := [AR r0, AR r0]) rfl ?_
      refine g_gI rfl (ci := 21) (k := 32) rfl sh3 ?_
      refine g_sk 2 (pc1 := 271) (st1 := [AI (wr ((tI (uI τ q4 (tI τ r0 32).toNat (zbyt 63)) r0 32) + 1)), AR r0]) rfl ?_
      refine g_putI (x := (wr ((tI (uI τ q4 (tI τ r0 32).toNat (zbyt 63)) r0 32) + 1))) rfl (ci := 21) (k := 32) (kd := 0) rfl (by decide) rfl rfl sh3 ?_
      refine g_sx 2 (pc1 := 222) (L1 := [vR r0, vQ r1, vI x2, vI x3, vI x4, vR r5, vI (wr (x6 + 1))]) (st1 := []) rfl ?_
      exact (k3 c2 c6)

set_option maxRecDepth 8192 in
theorem t203_286 {d : Nat} {τ : T2} {Q : RS → T2 → Prop} {x2 x3 x4 x5 : Int} {r0 q3 n5 : Nat} {r1 : Option Nat} (sh1 : tS τ r0 = (1, 21, 0)) (p4 : tP τ r0 31 = some q3) (sh6 : tS τ q3 = (2, 1, n5)) (b7 : x5 < (tI τ r0 32) → (0 : Int) ≤ x5 ∧ x5 < (n5 : Int)) (k1 : (tI τ r0 32) ≤ x5 → G d 203 7 [vR r0, vQ r1, vI x2, vI (wr (x3 + 1)), none, none, none] [] τ Q) (k2 : x5 < (tI τ r0 32) → (tI τ q3 x5.toNat) = 63 → G d 203 286 [vR r0, vQ r1, vI x2, vI x3, vI x4, vI (wr (x5 + 1)), none] [] τ Q) (k3 : x5 < (tI τ r0 32) → ¬ (tI τ q3 x5.toNat) = 63 → G d 203 286 [vR r0, vQ r1, vI x2, vI x3, vI x4, vI (wr (x5 + 1)), none] [] (uI τ q3 x5.toNat (zbyt (zbyt (wr ((zrem (wr ((wr ((tI τ q3 x5.toNat) - 97)) + x4)) 26) + 97))))) Q) : G d 203 286 [vR r0, vQ r1, vI x2, vI x3, vI x4, vI x5, none] [] τ Q := by
  refine g_sk 2 (pc1 := 289) (st1 := [AR r0, AI x5]) rfl ?_
  refine g_gI rfl (ci := 21) (k := 32) rfl sh1 ?_
  refine g_br2 rfl (t := 340) rfl (fun c2 => ?_) (fun c2 => ?_)
  · have c2 : (tI τ r0 32) ≤ x5 := of_decide_eq_true c2
    refine g_sx 3 (pc1 := 7) (L1 := [vR r0, vQ r1, vI x2, vI (wr (x3 + 1)), vI x4, vI x5, none]) (st1 := []) rfl ?_
    exact G_fg (lw2_k _ (lw2_k _ (lw2_k _ (lw2_k _ (lw2_f _ (lw2_f _ (lw2_k _ lw2_nil))))))) (k1 c2)
  · have c2 : x5 < (tI τ r0 32) := Int.not_le.mp (of_decide_eq_false c2)
    refine g_sk 1 (pc1 := 296) (st1 := [AR r0]) rfl ?_
    refine g_gQ rfl (ci := 21) (k := 31) rfl sh1 p4 ?_
    refine g_sk 1 (pc1 := 301) (st1 := [AI x5, AR q3]) rfl ?_
    refine g_bald rfl sh6 (by decide) (b7 c2).1 (b7 c2).2 ?_
    refine g_sk 1 (pc1 := 304) (st1 := [AI 63, AI (tI τ q3 x5.toNat)]) rfl ?_
    refine g_br2 rfl (t := 334) rfl (fun c8 => ?_) (fun c8 => ?_)
    · have c8 : (tI τ q3 x5.toNat) = 63 := of_decide_eq_true c8
      refine g_sx 2 (pc1 := 286) (L1 := [vR r0, vQ r1, vI x2, vI x3, vI x4, vI (wr (x5 + 1)), none]) (st1 := []) rfl ?_
      exact (k2 c2 c8)
    · have c8 : ¬ (tI τ q3 x5.toNat) = 63 := of_decide_eq_false c8
      refine g_sk 1 (pc1 := 308) (st1 := [AR r0]) rfl ?_
      refine g_gQ rfl (ci := 21) (k := 31) rfl sh1 p4 ?_
      refine g_sk 2 (pc1 := 314) (st1 := [AR r0, AI x5, AR q3]) rfl ?_
      refine g_gQ rfl (ci := 21) (k := 31) rfl sh1 p4 ?_
      refine g_sk 1 (pc1 := 319) (st1 := [AI x5, AR q3, AI x5, AR q3]) rfl ?_
      refine g_bald rfl sh6 (by decide) (b7 c2).1 (b7 c2).2 ?_
      refine g_sk 5 (pc1 := 328) (st1 := [AI 26, AI (wr ((wr ((tI τ q3 x5.toNat) - 97)) + x4)), AI x5, AR q3]) rfl ?_
      refine g_rem rfl (by decide) ?_
      refine g_sk 3 (pc1 := 333) (st1 := [AI (zbyt (wr ((zrem (wr ((wr ((tI τ q3 x5.toNat) - 97)) + x4)) 26) + 97))), AI x5, AR q3]) rfl ?_
      refine g_bast rfl sh6 (b7 c2).1 (b7 c2).2 ?_
      refine g_sx 2 (pc1 := 286) (L1 := [vR r0, vQ r1, vI x2, vI x3, vI x4, vI (wr (x5 + 1)), none]) (st1 := []) rfl ?_
      exact (k3 c2 c8)

set_option maxRecDepth 8192 in
theorem t203_346 {d : Nat} {τ : T2} {Q : RS → T2 → Prop} {x2 x3 x5 : Int} {r0 q3 n5 : Nat} {r1 : Option Nat} (sh1 : tS τ r0 = (1, 21, 0)) (p4 : tP τ r0 31 = some q3) (sh6 : tS τ q3 = (2, 1, n5)) (b7 : x5 < (zdiv (tI τ r0 32) 2) → (0 : Int) ≤ x5 ∧ x5 < (n5 : Int)) (b8 : x5 < (zdiv (tI τ r0 32) 2) → (0 : Int) ≤ (wr ((wr ((tI τ r0 32) - 1)) - x5)) ∧ (wr ((wr ((tI τ r0 32) - 1)) - x5)) < (n5 : Int)) (b9 : x5 < (zdiv (tI τ r0 32) 2) → (0 : Int) ≤ (wr ((wr ((tI (uI τ q3 x5.toNat (zbyt (tI τ q3 (wr ((wr ((tI τ r0 32) - 1)) - x5)).toNat))) r0 32) - 1)) - x5)) ∧ (wr ((wr ((tI (uI τ q3 x5.toNat (zbyt (tI τ q3 (wr ((wr ((tI τ r0 32) - 1)) - x5)).toNat))) r0 32) - 1)) - x5)) < (n5 : Int)) (k1 : (zdiv (tI τ r0 32) 2) ≤ x5 → G d 203 7 [vR r0, vQ r1, vI x2, vI (wr (x3 + 1)), none, none, none] [] τ Q) (k2 : x5 < (zdiv (tI τ r0 32) 2) → G d 203 346 [vR r0, vQ r1, vI x2, vI x3, none, vI (wr (x5 + 1)), none] [] (uI (uI τ q3 x5.toNat (zbyt (tI τ q3 (wr ((wr ((tI τ r0 32) - 1)) - x5)).toNat))) q3 (wr ((wr ((tI (uI τ q3 x5.toNat (zbyt (tI τ q3 (wr ((wr ((tI τ r0 32) - 1)) - x5)).toNat))) r0 32) - 1)) - x5)).toNat (zbyt (tI τ q3 x5.toNat))) Q) : G d 203 346 [vR r0, vQ r1, vI x2, vI x3, none, vI x5, none] [] τ Q := by
  refine g_sk 2 (pc1 := 349) (st1 := [AR r0, AI x5]) rfl ?_
  refine g_gI rfl (ci := 21) (k := 32) rfl sh1 ?_
  refine g_sk 1 (pc1 := 353) (st1 := [AI 2, AI (tI τ r0 32), AI x5]) rfl ?_
  refine g_div rfl (by decide) ?_
  refine g_br2 rfl (t := 409) rfl (fun c2 => ?_) (fun c2 => ?_)
  · have c2 : (zdiv (tI τ r0 32) 2) ≤ x5 := of_decide_eq_true c2
    refine g_sx 3 (pc1 := 7) (L1 := [vR r0, vQ r1, vI x2, vI (wr (x3 + 1)), none, vI x5, none]) (st1 := []) rfl ?_
    exact G_fg (lw2_k _ (lw2_k _ (lw2_k _ (lw2_k _ (lw2_k _ (lw2_f _ (lw2_k _ lw2_nil))))))) (k1 c2)
  · have c2 : x5 < (zdiv (tI τ r0 32) 2) := Int.not_le.mp (of_decide_eq_false c2)
    refine g_sk 1 (pc1 := 358) (st1 := [AR r0]) rfl ?_
    refine g_gQ rfl (ci := 21) (k := 31) rfl sh1 p4 ?_
    refine g_sk 1 (pc1 := 363) (st1 := [AI x5, AR q3]) rfl ?_
    refine g_bald rfl sh6 (by decide) (b7 c2).1 (b7 c2).2 ?_
    refine g_sx 2 (pc1 := 367) (L1 := [vR r0, vQ r1, vI x2, vI x3, none, vI x5, vI (tI τ q3 x5.toNat)]) (st1 := [AR r0]) rfl ?_
    refine g_gQ rfl (ci := 21) (k := 31) rfl sh1 p4 ?_
    refine g_sk 2 (pc1 := 373) (st1 := [AR r0, AI x5, AR q3]) rfl ?_
    refine g_gQ rfl (ci := 21) (k := 31) rfl sh1 p4 ?_
    refine g_sk 1 (pc1 := 377) (st1 := [AR r0, AR q3, AI x5, AR q3]) rfl ?_
    refine g_gI rfl (ci := 21) (k := 32) rfl sh1 ?_
    refine g_sk 4 (pc1 := 385) (st1 := [AI (wr ((wr ((tI τ r0 32) - 1)) - x5)), AR q3, AI x5, AR q3]) rfl ?_
    refine g_bald rfl sh6 (by decide) (b8 c2).1 (b8 c2).2 ?_
    refine g_bast rfl sh6 (b7 c2).1 (b7 c2).2 ?_
    refine g_sk 1 (pc1 := 388) (st1 := [AR r0]) rfl ?_
    refine g_gQ rfl (ci := 21) (k := 31) rfl sh1 p4 ?_
    refine g_sk 1 (pc1 := 392) (st1 := [AR r0, AR q3]) rfl ?_
    refine g_gI rfl (ci := 21) (k := 32) rfl sh1 ?_
    refine g_sk 5 (pc1 := 402) (st1 := [AI (tI τ q3 x5.toNat), AI (wr ((wr ((tI (uI τ q3 x5.toNat (zbyt (tI τ q3 (wr ((wr ((tI τ r0 32) - 1)) - x5)).toNat))) r0 32) - 1)) - x5)), AR q3]) rfl ?_
    refine g_bast rfl sh6 (b9 c2).1 (b9 c2).2 ?_
    refine g_sx 2 (pc1 := 346) (L1 := [vR r0, vQ r1, vI x2, vI x3, none, vI (wr (x5 + 1)), vI (tI τ q3 x5.toNat)]) (st1 := []) rfl ?_
    exact G_fg (lw2_k _ (lw2_k _ (lw2_k _ (lw2_k _ (lw2_k _ (lw2_k _ (lw2_f _ lw2_nil))))))) (k2 c2)

set_option maxRecDepth 8192 in
theorem t203_416 {d : Nat} {τ : T2} {Q : RS → T2 → Prop} {x2 x3 : Int} {r0 : Nat} {r1 : Option Nat} (k1 : G d 203 7 [vR r0, vQ r1, vI x2, vI (wr (x3 + 1)), none, none, none] [] τ Q) : G d 203 416 [vR r0, vQ r1, vI x2, vI x3, none, none, none] [] τ Q := by
  refine g_sx 3 (pc1 := 7) (L1 := [vR r0, vQ r1, vI x2, vI (wr (x3 + 1)), none, none, none]) (st1 := []) rfl ?_
  exact k1

set_option maxRecDepth 8192 in
theorem t203_444 {d : Nat} {τ : T2} {Q : RS → T2 → Prop} {x2 x3 x4 x5 x6 : Int} {r0 q3 n5 : Nat} {r1 : Option Nat} (sh1 : tS τ r0 = (1, 21, 0)) (p4 : tP τ r0 31 = some q3) (sh6 : tS τ q3 = (2, 1, n5)) (b7 : x6 < (tI τ r0 32) → (0 : Int) ≤ x6 ∧ x6 < (n5 : Int)) (b8 : x6 < (tI τ r0 32) → (0 : Int) ≤ x5 ∧ x5 < (n5 : Int)) (k1 : (tI τ r0 32) ≤ x6 → G d 203 7 [vR r0, vQ r1, vI x2, vI (wr (x3 + 1)), none, none, none] [] (uI τ r0 32 x5) Q) (k2 : x6 < (tI τ r0 32) → G d 203 444 [vR r0, vQ r1, vI x2, vI x3, vI x4, vI (wr (x5 + 1)), vI (wr (x6 + x4))] [] (uI τ q3 x5.toNat (zbyt (tI τ q3 x6.toNat))) Q) : G d 203 444 [vR r0, vQ r1, vI x2, vI x3, vI x4, vI x5, vI x6] [] τ Q := by
  refine g_sk 2 (pc1 := 447) (st1 := [AR r0, AI x6]) rfl ?_
  refine g_gI rfl (ci := 21) (k := 32) rfl sh1 ?_
  refine g_br2 rfl (t := 480) rfl (fun c2 => ?_) (fun c2 => ?_)
  · have c2 : (tI τ r0 32) ≤ x6 := of_decide_eq_true c2
    refine g_sk 2 (pc1 := 483) (st1 := [AI x5, AR r0]) rfl ?_
    refine g_putI (x := x5) rfl (ci := 21) (k := 32) (kd := 0) rfl (by decide) rfl rfl sh1 ?_
    refine g_sx 3 (pc1 := 7) (L1 := [vR r0, vQ r1, vI x2, vI (wr (x3 + 1)), vI x4, vI x5, vI x6]) (st1 := []) rfl ?_
    exact G_fg (lw2_k _ (lw2_k _ (lw2_k _ (lw2_k _ (lw2_f _ (lw2_f _ (lw2_f _ lw2_nil))))))) (k1 c2)
  · have c2 : x6 < (tI τ r0 32) := Int.not_le.mp (of_decide_eq_false c2)
    refine g_sk 1 (pc1 := 454) (st1 := [AR r0]) rfl ?_
    refine g_gQ rfl (ci := 21) (k := 31) rfl sh1 p4 ?_
    refine g_sk 2 (pc1 := 460) (st1 := [AR r0, AI x5, AR q3]) rfl ?_
    refine g_gQ rfl (ci := 21) (k := 31) rfl sh1 p4 ?_
    refine g_sk 1 (pc1 := 465) (st1 := [AI x6, AR q3, AI x5, AR q3]) rfl ?_
    refine g_bald rfl sh6 (by decide) (b7 c2).1 (b7 c2).2 ?_
    refine g_bast rfl sh6 (b8 c2).1 (b8 c2).2 ?_
    refine g_sx 6 (pc1 := 444) (L1 := [vR r0, vQ r1, vI x2, vI x3, vI x4, vI (wr (x5 + 1)), vI (wr (x6 + x4))]) (st1 := []) rfl ?_
    exact (k2 c2)

set_option maxRecDepth 8192 in
theorem t204_0 {d : Nat} {τ : T2} {Q : RS → T2 → Prop} {r0 : Nat} (k1 : G d 204 4 [vR r0, vI 0, vI 0, none, none] [] τ Q) : G d 204 0 [vR r0, none, none, none, none] [] τ Q := by
  refine g_sx 4 (pc1 := 4) (L1 := [vR r0, vI 0, vI 0, none, none]) (st1 := []) rfl ?_
  exact k1

set_option maxRecDepth 8192 in
theorem t204_4 {d : Nat} {τ : T2} {Q : RS → T2 → Prop} {x1 x2 : Int} {r0 q4 n6 : Nat} (sh1 : tS τ r0 = (1, 21, 0)) (p5 : tP τ r0 31 = some q4) (sh7 : tS τ q4 = (2, 1, n6)) (b8 : x2 < (tI τ r0 32) → x1 = 0 → (0 : Int) ≤ x2 ∧ x2 < (n6 : Int)) (k1 : (tI τ r0 32) ≤ x2 → G d 204 41 [vR r0, vI x1, vI 0, none, none] [] τ Q) (k2 : x2 < (tI τ r0 32) → ¬ x1 = 0 → G d 204 4 [vR r0, vI 1, vI (wr (x2 + 1)), none, none] [] τ Q) (k3 : x2 < (tI τ r0 32) → x1 = 0 → ¬ (tI τ q4 x2.toNat) = 63 → G d 204 4 [vR r0, vI 0, vI (wr (x2 + 1)), none, none] [] τ Q) (k4 : x2 < (tI τ r0 32) → x1 = 0 → (tI τ q4 x2.toNat) = 63 → G d 204 4 [vR r0, vI 1, vI (wr (x2 + 1)), none, none] [] τ Q) : G d 204 4 [vR r0, vI x1, vI x2, none, none] [] τ Q := by
  refine g_sk 2 (pc1 := 6) (st1 := [AR r0, AI x2]) rfl ?_
  refine g_gI rfl (ci := 21) (k := 32) rfl sh1 ?_
  refine g_br2 rfl (t := 39) rfl (fun c2 => ?_) (fun c2 => ?_)
  · have c2 : (tI τ r0 32) ≤ x2 := of_decide_eq_true c2
    refine g_sx 2 (pc1 := 41) (L1 := [vR r0, vI x1, vI 0, none, none]) (st1 := []) rfl ?_
    exact (k1 c2)
  · have c2 : x2 < (tI τ r0 32) := Int.not_le.mp (of_decide_eq_false c2)
    refine g_sk 1 (pc1 := 13) (st1 := [AI x1]) rfl ?_
    refine g_br1 rfl (t := 27) rfl (fun c3 => ?_) (fun c3 => ?_)
    · have c3 : ¬ x1 = 0 := of_decide_eq_true c3
      refine g_sx 5 (pc1 := 4) (L1 := [vR r0, vI 1, vI (wr (x2 + 1)), none, none]) (st1 := []) rfl ?_
      exact (k2 c2 c3)
    · have c3 : x1 = 0 := Decidable.of_not_not (of_decide_eq_false c3)
      refine g_sk 1 (pc1 := 17) (st1 := [AR r0]) rfl ?_
      refine g_gQ rfl (ci := 21) (k := 31) rfl sh1 p5 ?_
      refine g_sk 1 (pc1 := 21) (st1 := [AI x2, AR q4]) rfl ?_
      refine g_bald rfl sh7 (by decide) (b8 c2 c3).1 (b8 c2 c3).2 ?_
      refine g_sk 1 (pc1 := 24) (st1 := [AI 63, AI (tI τ q4 x2.toNat)]) rfl ?_
      refine g_br2 rfl (t := 31) rfl (fun c9 => ?_) (fun c9 => ?_)
      · have c9 : ¬ (tI τ q4 x2.toNat) = 63 := of_decide_eq_true c9
        refine g_sx 4 (pc1 := 4) (L1 := [vR r0, vI 0, vI (wr (x2 + 1)), none, none]) (st1 := []) rfl ?_
        exact (k3 c2 c3 c9)
      · have c9 : (tI τ q4 x2.toNat) = 63 := Decidable.of_not_not (of_decide_eq_false c9)
        refine g_sx 5 (pc1 := 4) (L1 := [vR r0, vI 1, vI (wr (x2 + 1)), none, none]) (st1 := []) rfl ?_
        exact (k4 c2 c3 c9)

set_option maxRecDepth 8192 in
theorem t204_41 {d : Nat} {τ : T2} {Q : RS → T2 → Prop} {x1 x2 : Int} {r0 q4 n6 : Nat} (sh1 : tS τ r0 = (1, 21, 0)) (p5 : tP τ r0 31 = some q4) (sh7 : tS τ q4 = (2, 1, n6)) (b8 : x2 < (tI τ r0 32) → ¬ x1 = 0 → (0 : Int) ≤ x2 ∧ x2 < (n6 : Int)) (k1 : (tI τ r0 32) ≤ x2 → G d 204 69 [vR r0, vI x1, vI 1, none, none] [] τ Q) (k2 : x2 < (tI τ r0 32) → x1 = 0 → G d 204 69 [vR r0, vI x1, vI 1, none, none] [] τ Q) (k3 : x2 < (tI τ r0 32) → ¬ x1 = 0 → G d 204 41 [vR r0, vI x1, vI (wr (x2 + 1)), none, none] [] (uI τ q4 x2.toNat (zbyt 63)) Q) : G d 204 41 [vR r0, vI x1, vI x2, none, none] [] τ Q := by
  refine g_sk 2 (pc1 := 43) (st1 := [AR r0, AI x2]) rfl ?_
  refine g_gI rfl (ci := 21) (k := 32) rfl sh1 ?_
  refine g_br2 rfl (t := 67) rfl (fun c2 => ?_) (fun c2 => ?_)
  · have c2 : (tI τ r0 32) ≤ x2 := of_decide_eq_true c2
    refine g_sx 2 (pc1 := 69) (L1 := [vR r0, vI x1, vI 1, none, none]) (st1 := []) rfl ?_
    exact (k1 c2)
  · have c2 : x2 < (tI τ r0 32) := Int.not_le.mp (of_decide_eq_false c2)
    refine g_sk 1 (pc1 := 50) (st1 := [AI x1]) rfl ?_
    refine g_br1 rfl (t := 67) rfl (fun c3 => ?_) (fun c3 => ?_)
    · have c3 : x1 = 0 := of_decide_eq_true c3
      refine g_sx 2 (pc1 := 69) (L1 := [vR r0, vI x1, vI 1, none, none]) (st1 := []) rfl ?_
      exact (k2 c2 c3)
    · have c3 : ¬ x1 = 0 := of_decide_eq_false c3
      refine g_sk 1 (pc1 := 54) (st1 := [AR r0]) rfl ?_
      refine g_gQ rfl (ci := 21) (k := 31) rfl sh1 p5 ?_
      refine g_sk 2 (pc1 := 60) (st1 := [AI 63, AI x2, AR q4]) rfl ?_
      refine g_bast rfl sh7 (b8 c2 c3).1 (b8 c2 c3).2 ?_
      refine g_sx 2 (pc1 := 41) (L1 := [vR r0, vI x1, vI (wr (x2 + 1)), none, none]) (st1 := []) rfl ?_
      exact (k3 c2 c3)

set_option maxRecDepth 8192 in
theorem t204_69 {d : Nat} {τ : T2} {Q : RS → T2 → Prop} {x1 x2 : Int} {r0 q4 n6 : Nat} (sh1 : tS τ r0 = (1, 21, 0)) (p5 : tP τ r0 31 = some q4) (sh7 : tS τ q4 = (2, 1, n6)) (b8 : x2 < (tI τ r0 32) → x1 = 0 → (0 : Int) ≤ x2 ∧ x2 < (n6 : Int)) (k1 : (tI τ r0 32) ≤ x2 → Q (.inl none) τ) (k2 : x2 < (tI τ r0 32) → ¬ x1 = 0 → Q (.inl none) τ) (k3 : x2 < (tI τ r0 32) → x1 = 0 → G d 204 91 [vR r0, vI x1, vI x2, vI (tI τ q4 x2.toNat), vI x2] [] τ Q) : G d 204 69 [vR r0, vI x1, vI x2, none, none] [] τ Q := by
  refine g_sk 2 (pc1 := 71) (st1 := [AR r0, AI x2]) rfl ?_
  refine g_gI rfl (ci := 21) (k := 32) rfl sh1 ?_
  refine g_br2 rfl (t := 145) rfl (fun c2 => ?_) (fun c2 => ?_)
  · have c2 : (tI τ r0 32) ≤ x2 := of_decide_eq_true c2
    refine g_vret rfl rfl ?_
    exact (k1 c2)
  · have c2 : x2 < (tI τ r0 32) := Int.not_le.mp (of_decide_eq_false c2)
    refine g_sk 1 (pc1 := 78) (st1 := [AI x1]) rfl ?_
    refine g_br1 rfl (t := 145) rfl (fun c3 => ?_) (fun c3 => ?_)
    · have c3 : ¬ x1 = 0 := of_decide_eq_true c3
      refine g_vret rfl rfl ?_
      exact (k2 c2 c3)
    · have c3 : x1 = 0 := Decidable.of_not_not (of_decide_eq_false c3)
      refine g_sk 1 (pc1 := 82) (st1 := [AR r0]) rfl ?_
      refine g_gQ rfl (ci := 21) (k := 31) rfl sh1 p5 ?_
      refine g_sk 1 (pc1 := 86) (st1 := [AI x2, AR q4]) rfl ?_
      refine g_bald rfl sh7 (by decide) (b8 c2 c3).1 (b8 c2 c3).2 ?_
      refine g_sx 3 (pc1 := 91) (L1 := [vR r0, vI x1, vI x2, vI (tI τ q4 x2.toNat), vI x2]) (st1 := []) rfl ?_
      exact (k3 c2 c3)

set_option maxRecDepth 8192 in
theorem t204_91 {d : Nat} {τ : T2} {Q : RS → T2 → Prop} {x1 x2 x3 x4 : Int} {r0 q3 n5 : Nat} (sh2 : tS τ r0 = (1, 21, 0)) (p4 : tP τ r0 31 = some q3) (sh6 : tS τ q3 = (2, 1, n5)) (b7 : x4 ≤ 0 → (0 : Int) ≤ x4 ∧ x4 < (n5 : Int)) (b8 : 0 < x4 → (0 : Int) ≤ (wr (x4 - 1)) ∧ (wr (x4 - 1)) < (n5 : Int)) (b10 : 0 < x4 → (tI τ q3 (wr (x4 - 1)).toNat) ≤ x3 → (0 : Int) ≤ x4 ∧ x4 < (n5 : Int)) (b11 : 0 < x4 → x3 < (tI τ q3 (wr (x4 - 1)).toNat) → (0 : Int) ≤ x4 ∧ x4 < (n5 : Int)) (k1 : x4 ≤ 0 → G d 204 69 [vR r0, vI x1, vI (wr (x2 + 1)), none, none] [] (uI τ q3 x4.toNat (zbyt x3)) Q) (k2 : 0 < x4 → (tI τ q3 (wr (x4 - 1)).toNat) ≤ x3 → G d 204 69 [vR r0, vI x1, vI (wr (x2 + 1)), none, none] [] (uI τ q3 x4.toNat (zbyt x3)) Q) (k3 : 0 < x4 → x3 < (tI τ q3 (wr (x4 - 1)).toNat) → G d 204 91 [vR r0, vI x1, vI x2, vI x3, vI (wr (x4 + (-1)))] [] (uI τ q3 x4.toNat (zbyt (tI τ q3 (wr (x4 - 1)).toNat))) Q) : G d 204 91 [vR r0, vI x1, vI x2, vI x3, vI x4] [] τ Q := by
  refine g_sk 1 (pc1 := 93) (st1 := [AI x4]) rfl ?_
  refine g_br1 rfl (t := 131) rfl (fun c1 => ?_) (fun c1 => ?_)
  · have c1 : x4 ≤ 0 := of_decide_eq_true c1
    refine g_sk 1 (pc1 := 132) (st1 := [AR r0]) rfl ?_
    refine g_gQ rfl (ci := 21) (k := 31) rfl sh2 p4 ?_
    refine g_sk 2 (pc1 := 138) (st1 := [AI x3, AI x4, AR q3]) rfl ?_
    refine g_bast rfl sh6 (b7 c1).1 (b7 c1).2 ?_
    refine g_sx 2 (pc1 := 69) (L1 := [vR r0, vI x1, vI (wr (x2 + 1)), vI x3, vI x4]) (st1 := []) rfl ?_
    exact G_fg (lw2_k _ (lw2_k _ (lw2_k _ (lw2_f _ (lw2_f _ lw2_nil))))) (k1 c1)
  · have c1 : 0 < x4 := Int.not_le.mp (of_decide_eq_false c1)
    refine g_sk 1 (pc1 := 97) (st1 := [AR r0]) rfl ?_
    refine g_gQ rfl (ci := 21) (k := 31) rfl sh2 p4 ?_
    refine g_sk 3 (pc1 := 104) (st1 := [AI (wr (x4 - 1)), AR q3]) rfl ?_
    refine g_bald rfl sh6 (by decide) (b8 c1).1 (b8 c1).2 ?_
    refine g_sk 1 (pc1 := 106) (st1 := [AI x3, AI (tI τ q3 (wr (x4 - 1)).toNat)]) rfl ?_
    refine g_br2 rfl (t := 131) rfl (fun c9 => ?_) (fun c9 => ?_)
    · have c9 : (tI τ q3 (wr (x4 - 1)).toNat) ≤ x3 := of_decide_eq_true c9
      refine g_sk 1 (pc1 := 132) (st1 := [AR r0]) rfl ?_
      refine g_gQ rfl (ci := 21) (k := 31) rfl sh2 p4 ?_
      refine g_sk 2 (pc1 := 138) (st1 := [AI x3, AI x4, AR q3]) rfl ?_
      refine g_bast rfl sh6 (b10 c1 c9).1 (b10 c1 c9).2 ?_
      refine g_sx 2 (pc1 := 69) (L1 := [vR r0, vI x1, vI (wr (x2 + 1)), vI x3, vI x4]) (st1 := []) rfl ?_
      exact G_fg (lw2_k _ (lw2_k _ (lw2_k _ (lw2_f _ (lw2_f _ lw2_nil))))) (k2 c1 c9)
    · have c9 : x3 < (tI τ q3 (wr (x4 - 1)).toNat) := Int.not_le.mp (of_decide_eq_false c9)
      refine g_sk 1 (pc1 := 110) (st1 := [AR r0]) rfl ?_
      refine g_gQ rfl (ci := 21) (k := 31) rfl sh2 p4 ?_
      refine g_sk 2 (pc1 := 116) (st1 := [AR r0, AI x4, AR q3]) rfl ?_
      refine g_gQ rfl (ci := 21) (k := 31) rfl sh2 p4 ?_
      refine g_sk 3 (pc1 := 123) (st1 := [AI (wr (x4 - 1)), AR q3, AI x4, AR q3]) rfl ?_
      refine g_bald rfl sh6 (by decide) (b8 c1).1 (b8 c1).2 ?_
      refine g_bast rfl sh6 (b11 c1 c9).1 (b11 c1 c9).2 ?_
      refine g_sx 2 (pc1 := 91) (L1 := [vR r0, vI x1, vI x2, vI x3, vI (wr (x4 + (-1)))]) (st1 := []) rfl ?_
      exact (k3 c1 c9)
