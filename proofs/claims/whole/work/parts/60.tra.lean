/-! TREES of methods 91 to 146, written by program (wip/whole/tree.py) -/
theorem t91_0 {d : Nat} {τ : T2} {Q : RS → T2 → Prop} {r0 : Nat} (hd : 17 ≤ d) (k1 : G d 91 10 [vR r0, none] [AR (tN τ), AR r0] (nC τ (2, 1, 300) 300) Q) : G d 91 0 [vR r0, none] [] τ Q := by
  refine g_sk 1 (pc1 := 1) (st1 := [AR r0]) rfl ?_
  refine g_oin (na := 1) rfl rfl rfl hd ?_
  refine g_sk 2 (pc1 := 8) (st1 := [AI 300, AR r0]) rfl ?_
  refine g_newa rfl rfl (by decide) (by decide) ?_
  exact k1

theorem t91_10 {d : Nat} {τ : T2} {Q : RS → T2 → Prop} {r0 s1 : Nat} {s0 : Option Nat} (sh1 : tS τ s1 = (1, 11, 0)) (sh2 : tS τ r0 = (1, 11, 0)) (k1 : G d 91 24 [vR r0, none] [AR (tN (uI (uP τ s1 0 s0) r0 1 0)), AR r0] (nC (uI (uP τ s1 0 s0) r0 1 0) (3, 4, 20) 20) Q) : G d 91 10 [vR r0, none] [AP s0, AR s1] τ Q := by
  refine g_putP rfl (ci := 11) (k := 0) rfl sh1 ?_
  refine g_sk 2 (pc1 := 15) (st1 := [AI 0, AR r0]) rfl ?_
  refine g_putI (x := 0) rfl (ci := 11) (k := 1) (kd := 0) rfl (by decide) rfl rfl sh2 ?_
  refine g_sk 2 (pc1 := 21) (st1 := [AI 20, AR r0]) rfl ?_
  refine g_newq rfl rfl (by decide) (by decide) ?_
  exact k1

theorem t91_24 {d : Nat} {τ : T2} {Q : RS → T2 → Prop} {r0 s1 : Nat} {s0 : Option Nat} (sh1 : tS τ s1 = (1, 11, 0)) (sh2 : tS τ r0 = (1, 11, 0)) (k1 : G d 91 37 [vR r0, none] [AR (tN (uI (uP τ s1 2 s0) r0 3 0)), AR r0] (nC (uI (uP τ s1 2 s0) r0 3 0) (2, 0, 6) 6) Q) : G d 91 24 [vR r0, none] [AP s0, AR s1] τ Q := by
  refine g_putP rfl (ci := 11) (k := 2) rfl sh1 ?_
  refine g_sk 2 (pc1 := 29) (st1 := [AI 0, AR r0]) rfl ?_
  refine g_putI (x := 0) rfl (ci := 11) (k := 3) (kd := 0) rfl (by decide) rfl rfl sh2 ?_
  refine g_sk 2 (pc1 := 35) (st1 := [AI 6, AR r0]) rfl ?_
  refine g_newa rfl rfl (by decide) (by decide) ?_
  exact k1

theorem t91_37 {d : Nat} {τ : T2} {Q : RS → T2 → Prop} {r0 s1 : Nat} {s0 : Option Nat} (sh1 : tS τ s1 = (1, 11, 0)) (k1 : G d 91 46 [vR r0, none] [AR (tN (uP τ s1 4 s0)), AR r0] (nC (uP τ s1 4 s0) (3, 5, 8) 8) Q) : G d 91 37 [vR r0, none] [AP s0, AR s1] τ Q := by
  refine g_putP rfl (ci := 11) (k := 4) rfl sh1 ?_
  refine g_sk 2 (pc1 := 43) (st1 := [AI 8, AR r0]) rfl ?_
  refine g_newq rfl rfl (by decide) (by decide) ?_
  exact k1

theorem t91_46 {d : Nat} {τ : T2} {Q : RS → T2 → Prop} {r0 s1 : Nat} {s0 : Option Nat} (sh1 : tS τ s1 = (1, 11, 0)) (sh2 : tS τ r0 = (1, 11, 0)) (k1 : G d 91 59 [vR r0, none] [AR (tN (uI (uP τ s1 5 s0) r0 6 0)), AR r0] (nC (uI (uP τ s1 5 s0) r0 6 0) (2, 3, 8) 8) Q) : G d 91 46 [vR r0, none] [AP s0, AR s1] τ Q := by
  refine g_putP rfl (ci := 11) (k := 5) rfl sh1 ?_
  refine g_sk 2 (pc1 := 51) (st1 := [AI 0, AR r0]) rfl ?_
  refine g_putI (x := 0) rfl (ci := 11) (k := 6) (kd := 0) rfl (by decide) rfl rfl sh2 ?_
  refine g_sk 2 (pc1 := 57) (st1 := [AI 8, AR r0]) rfl ?_
  refine g_newa rfl rfl (by decide) (by decide) ?_
  exact k1

theorem t91_59 {d : Nat} {τ : T2} {Q : RS → T2 → Prop} {r0 s1 : Nat} {s0 : Option Nat} (sh1 : tS τ s1 = (1, 11, 0)) (k1 : G d 91 66 [vR r0, none] [AR (tN (uP τ s1 7 s0)), AR r0] (nC (uP τ s1 7 s0) (1, 2, 0) 3) Q) : G d 91 59 [vR r0, none] [AP s0, AR s1] τ Q := by
  refine g_putP rfl (ci := 11) (k := 7) rfl sh1 ?_
  refine g_sk 1 (pc1 := 63) (st1 := [AR r0]) rfl ?_
  refine g_new rfl (ci := 2) rfl (by decide) (by decide) ?_
  exact k1

theorem t91_66 {d : Nat} {τ : T2} {Q : RS → T2 → Prop} {r0 s0 : Nat} {s1 : Option Nat} (hd : 1 ≤ d) (k1 : G (d - 1) 0 0 [vR s0] [] τ (KC d 91 67 70 [vR r0, none] [AR s0, AP s1] Q)) : G d 91 66 [vR r0, none] [AR s0, AP s1] τ Q := by
  refine g_sk 1 (pc1 := 67) (st1 := [AR s0, AR s0, AP s1]) rfl ?_
  refine g_ci rfl rfl (by decide) rfl rfl (Nat.le_of_ble_eq_true rfl) (as2 := []) rfl rfl (by omega) (L0 := [vR s0]) rfl ?_
  exact k1

theorem t91_70 {d : Nat} {τ : T2} {Q : RS → T2 → Prop} {r0 s1 : Nat} {s0 : Option Nat} (sh1 : tS τ s1 = (1, 11, 0)) (sh2 : tS τ r0 = (1, 11, 0)) (k1 : G d 91 82 [vR r0, none] [AR (tN (uI (uP τ s1 8 s0) r0 9 0)), AR r0] (nC (uI (uP τ s1 8 s0) r0 9 0) (1, 9, 0) 11) Q) : G d 91 70 [vR r0, none] [AP s0, AR s1] τ Q := by
  refine g_putP rfl (ci := 11) (k := 8) rfl sh1 ?_
  refine g_sk 2 (pc1 := 75) (st1 := [AI 0, AR r0]) rfl ?_
  refine g_putI (x := 0) rfl (ci := 11) (k := 9) (kd := 0) rfl (by decide) rfl rfl sh2 ?_
  refine g_sk 1 (pc1 := 79) (st1 := [AR r0]) rfl ?_
  refine g_new rfl (ci := 9) rfl (by decide) (by decide) ?_
  exact k1

theorem t91_82 {d : Nat} {τ : T2} {Q : RS → T2 → Prop} {r0 s0 : Nat} {s1 : Option Nat} (hd : 1 ≤ d) (k1 : G (d - 1) 66 0 [vR s0] [] τ (KC d 91 83 86 [vR r0, none] [AR s0, AP s1] Q)) : G d 91 82 [vR r0, none] [AR s0, AP s1] τ Q := by
  refine g_sk 1 (pc1 := 83) (st1 := [AR s0, AR s0, AP s1]) rfl ?_
  refine g_ci rfl rfl (by decide) rfl rfl (Nat.le_of_ble_eq_true rfl) (as2 := []) rfl rfl (by omega) (L0 := [vR s0]) rfl ?_
  exact k1

theorem t91_86 {d : Nat} {τ : T2} {Q : RS → T2 → Prop} {r0 s1 : Nat} {s0 : Option Nat} (sh1 : tS τ s1 = (1, 11, 0)) (k1 : G d 91 93 [vR r0, none] [AR (tN (uP τ s1 10 s0)), AR r0] (nC (uP τ s1 10 s0) (1, 4, 0) 4) Q) : G d 91 86 [vR r0, none] [AP s0, AR s1] τ Q := by
  refine g_putP rfl (ci := 11) (k := 10) rfl sh1 ?_
  refine g_sk 1 (pc1 := 90) (st1 := [AR r0]) rfl ?_
  refine g_new rfl (ci := 4) rfl (by decide) (by decide) ?_
  exact k1

theorem t91_93 {d : Nat} {τ : T2} {Q : RS → T2 → Prop} {r0 s0 : Nat} {s1 : Option Nat} (hd : 1 ≤ d) (k1 : G (d - 1) 13 0 [vR s0] [] τ (KC d 91 94 97 [vR r0, none] [AR s0, AP s1] Q)) : G d 91 93 [vR r0, none] [AR s0, AP s1] τ Q := by
  refine g_sk 1 (pc1 := 94) (st1 := [AR s0, AR s0, AP s1]) rfl ?_
  refine g_ci rfl rfl (by decide) rfl rfl (Nat.le_of_ble_eq_true rfl) (as2 := []) rfl rfl (by omega) (L0 := [vR s0]) rfl ?_
  exact k1

theorem t91_97 {d : Nat} {τ : T2} {Q : RS → T2 → Prop} {r0 s1 : Nat} {s0 : Option Nat} (sh1 : tS τ s1 = (1, 11, 0)) (k1 : G d 91 104 [vR r0, none] [AR (tN (uP τ s1 11 s0)), AR r0] (nC (uP τ s1 11 s0) (1, 7, 0) 2) Q) : G d 91 97 [vR r0, none] [AP s0, AR s1] τ Q := by
  refine g_putP rfl (ci := 11) (k := 11) rfl sh1 ?_
  refine g_sk 1 (pc1 := 101) (st1 := [AR r0]) rfl ?_
  refine g_new rfl (ci := 7) rfl (by decide) (by decide) ?_
  exact k1

theorem t91_104 {d : Nat} {τ : T2} {Q : RS → T2 → Prop} {r0 s0 : Nat} {s1 : Option Nat} (hd : 1 ≤ d) (k1 : G (d - 1) 34 0 [vR s0] [] τ (KC d 91 105 108 [vR r0, none] [AR s0, AP s1] Q)) : G d 91 104 [vR r0, none] [AR s0, AP s1] τ Q := by
  refine g_sk 1 (pc1 := 105) (st1 := [AR s0, AR s0, AP s1]) rfl ?_
  refine g_ci rfl rfl (by decide) rfl rfl (Nat.le_of_ble_eq_true rfl) (as2 := []) rfl rfl (by omega) (L0 := [vR s0]) rfl ?_
  exact k1

theorem t91_108 {d : Nat} {τ : T2} {Q : RS → T2 → Prop} {r0 s1 : Nat} {s0 : Option Nat} (sh1 : tS τ s1 = (1, 11, 0)) (k1 : G d 91 115 [vR r0, none] [AR (tN (uP τ s1 12 s0)), AR r0] (nC (uP τ s1 12 s0) (1, 7, 0) 2) Q) : G d 91 108 [vR r0, none] [AP s0, AR s1] τ Q := by
  refine g_putP rfl (ci := 11) (k := 12) rfl sh1 ?_
  refine g_sk 1 (pc1 := 112) (st1 := [AR r0]) rfl ?_
  refine g_new rfl (ci := 7) rfl (by decide) (by decide) ?_
  exact k1

theorem t91_115 {d : Nat} {τ : T2} {Q : RS → T2 → Prop} {r0 s0 : Nat} {s1 : Option Nat} (hd : 1 ≤ d) (k1 : G (d - 1) 34 0 [vR s0] [] τ (KC d 91 116 119 [vR r0, none] [AR s0, AP s1] Q)) : G d 91 115 [vR r0, none] [AR s0, AP s1] τ Q := by
  refine g_sk 1 (pc1 := 116) (st1 := [AR s0, AR s0, AP s1]) rfl ?_
  refine g_ci rfl rfl (by decide) rfl rfl (Nat.le_of_ble_eq_true rfl) (as2 := []) rfl rfl (by omega) (L0 := [vR s0]) rfl ?_
  exact k1

theorem t91_119 {d : Nat} {τ : T2} {Q : RS → T2 → Prop} {r0 s1 : Nat} {s0 : Option Nat} (sh1 : tS τ s1 = (1, 11, 0)) (k1 : G d 91 126 [vR r0, none] [AR (tN (uP τ s1 13 s0)), AR r0] (nC (uP τ s1 13 s0) (1, 10, 0) 5) Q) : G d 91 119 [vR r0, none] [AP s0, AR s1] τ Q := by
  refine g_putP rfl (ci := 11) (k := 13) rfl sh1 ?_
  refine g_sk 1 (pc1 := 123) (st1 := [AR r0]) rfl ?_
  refine g_new rfl (ci := 10) rfl (by decide) (by decide) ?_
  exact k1

theorem t91_126 {d : Nat} {τ : T2} {Q : RS → T2 → Prop} {r0 s0 : Nat} {s1 : Option Nat} (hd : 1 ≤ d) (k1 : G (d - 1) 82 0 [vR s0] [] τ (KC d 91 127 130 [vR r0, none] [AR s0, AP s1] Q)) : G d 91 126 [vR r0, none] [AR s0, AP s1] τ Q := by
  refine g_sk 1 (pc1 := 127) (st1 := [AR s0, AR s0, AP s1]) rfl ?_
  refine g_ci rfl rfl (by decide) rfl rfl (Nat.le_of_ble_eq_true rfl) (as2 := []) rfl rfl (by omega) (L0 := [vR s0]) rfl ?_
  exact k1

theorem t91_130 {d : Nat} {τ : T2} {Q : RS → T2 → Prop} {r0 s1 : Nat} {s0 : Option Nat} (sh1 : tS τ s1 = (1, 11, 0)) (k1 : G d 91 137 [vR r0, none] [AR (tN (uP τ s1 14 s0)), AR r0] (nC (uP τ s1 14 s0) (1, 5, 0) 10) Q) : G d 91 130 [vR r0, none] [AP s0, AR s1] τ Q := by
  refine g_putP rfl (ci := 11) (k := 14) rfl sh1 ?_
  refine g_sk 1 (pc1 := 134) (st1 := [AR r0]) rfl ?_
  refine g_new rfl (ci := 5) rfl (by decide) (by decide) ?_
  exact k1

theorem t91_137 {d : Nat} {τ : T2} {Q : RS → T2 → Prop} {r0 s0 : Nat} {s1 : Option Nat} (hd : 1 ≤ d) (k1 : G (d - 1) 27 0 [vR s0] [] τ (KC d 91 138 141 [vR r0, none] [AR s0, AP s1] Q)) : G d 91 137 [vR r0, none] [AR s0, AP s1] τ Q := by
  refine g_sk 1 (pc1 := 138) (st1 := [AR s0, AR s0, AP s1]) rfl ?_
  refine g_ci rfl rfl (by decide) rfl rfl (Nat.le_of_ble_eq_true rfl) (as2 := []) rfl rfl (by omega) (L0 := [vR s0]) rfl ?_
  exact k1

theorem t91_141 {d : Nat} {τ : T2} {Q : RS → T2 → Prop} {r0 s1 : Nat} {s0 : Option Nat} (sh1 : tS τ s1 = (1, 11, 0)) (sh2 : tS τ r0 = (1, 11, 0)) (k1 : G d 91 156 [vR r0, vI 0] [] (uI (uI (uP τ s1 15 s0) r0 16 0) r0 17 0) Q) : G d 91 141 [vR r0, none] [AP s0, AR s1] τ Q := by
  refine g_putP rfl (ci := 11) (k := 15) rfl sh1 ?_
  refine g_sk 2 (pc1 := 146) (st1 := [AI 0, AR r0]) rfl ?_
  refine g_putI (x := 0) rfl (ci := 11) (k := 16) (kd := 0) rfl (by decide) rfl rfl sh2 ?_
  refine g_sk 2 (pc1 := 151) (st1 := [AI 0, AR r0]) rfl ?_
  refine g_putI (x := 0) rfl (ci := 11) (k := 17) (kd := 0) rfl (by decide) rfl rfl sh2 ?_
  refine g_sx 2 (pc1 := 156) (L1 := [vR r0, vI 0]) (st1 := []) rfl ?_
  exact k1

theorem t91_156 {d : Nat} {τ : T2} {Q : RS → T2 → Prop} {x1 : Int} {r0 : Nat} (sh2 : tS τ r0 = (1, 11, 0)) (k1 : 20 ≤ x1 → G d 91 183 [vR r0, vI 0] [] τ Q) (k2 : x1 < 20 → G d 91 170 [vR r0, vI x1] [AR (tN τ), AI x1, AP (tP τ r0 2)] (nC τ (1, 6, 0) 12) Q) : G d 91 156 [vR r0, vI x1] [] τ Q := by
  refine g_sk 2 (pc1 := 159) (st1 := [AI 20, AI x1]) rfl ?_
  refine g_br2 rfl (t := 181) rfl (fun c1 => ?_) (fun c1 => ?_)
  · have c1 : 20 ≤ x1 := of_decide_eq_true c1
    refine g_sx 2 (pc1 := 183) (L1 := [vR r0, vI 0]) (st1 := []) rfl ?_
    exact (k1 c1)
  · have c1 : x1 < 20 := Int.not_le.mp (of_decide_eq_false c1)
    refine g_sk 1 (pc1 := 163) (st1 := [AR r0]) rfl ?_
    refine g_gP rfl (ci := 11) (k := 2) rfl sh2 ?_
    refine g_sk 1 (pc1 := 167) (st1 := [AI x1, AP (tP τ r0 2)]) rfl ?_
    refine g_new rfl (ci := 6) rfl (by decide) (by decide) ?_
    exact (k2 c1)

theorem t91_170 {d : Nat} {τ : T2} {Q : RS → T2 → Prop} {x1 y1 : Int} {r0 s0 : Nat} {s2 : Option Nat} (hd : 1 ≤ d) (k1 : G (d - 1) 31 0 [vR s0] [] τ (KC d 91 171 174 [vR r0, vI x1] [AR s0, AI y1, AP s2] Q)) : G d 91 170 [vR r0, vI x1] [AR s0, AI y1, AP s2] τ Q := by
  refine g_sk 1 (pc1 := 171) (st1 := [AR s0, AR s0, AI y1, AP s2]) rfl ?_
  refine g_ci rfl rfl (by decide) rfl rfl (Nat.le_of_ble_eq_true rfl) (as2 := []) rfl rfl (by omega) (L0 := [vR s0]) rfl ?_
  exact k1

theorem t91_174 {d : Nat} {τ : T2} {Q : RS → T2 → Prop} {x1 y1 : Int} {r0 s0 s2 n1 : Nat} (sh2 : tS τ s2 = (3, 4, n1)) (b3 : 0 ≤ y1 ∧ y1 < (n1 : Int)) (p4 : okEs 4 (tS τ s0) = true) (k1 : G d 91 156 [vR r0, vI (wr (x1 + 1))] [] (uP τ s2 y1.toNat (some s0)) Q) : G d 91 174 [vR r0, vI x1] [AR s0, AI y1, AR s2] τ Q := by
  refine g_aast rfl sh2 (by decide) b3.1 b3.2 p4 ?_
  refine g_sx 2 (pc1 := 156) (L1 := [vR r0, vI (wr (x1 + 1))]) (st1 := []) rfl ?_
  exact k1

theorem t91_183 {d : Nat} {τ : T2} {Q : RS → T2 → Prop} {x1 : Int} {r0 : Nat} (sh2 : tS τ r0 = (1, 11, 0)) (k1 : 8 ≤ x1 → Q (.inl none) τ) (k2 : x1 < 8 → G d 91 197 [vR r0, vI x1] [AR (tN τ), AI x1, AP (tP τ r0 5)] (nC τ (1, 8, 0) 7) Q) : G d 91 183 [vR r0, vI x1] [] τ Q := by
  refine g_sk 2 (pc1 := 186) (st1 := [AI 8, AI x1]) rfl ?_
  refine g_br2 rfl (t := 208) rfl (fun c1 => ?_) (fun c1 => ?_)
  · have c1 : 8 ≤ x1 := of_decide_eq_true c1
    refine g_vret rfl rfl ?_
    exact (k1 c1)
  · have c1 : x1 < 8 := Int.not_le.mp (of_decide_eq_false c1)
    refine g_sk 1 (pc1 := 190) (st1 := [AR r0]) rfl ?_
    refine g_gP rfl (ci := 11) (k := 5) rfl sh2 ?_
    refine g_sk 1 (pc1 := 194) (st1 := [AI x1, AP (tP τ r0 5)]) rfl ?_
    refine g_new rfl (ci := 8) rfl (by decide) (by decide) ?_
    exact (k2 c1)

theorem t91_197 {d : Nat} {τ : T2} {Q : RS → T2 → Prop} {x1 y1 : Int} {r0 s0 : Nat} {s2 : Option Nat} (hd : 1 ≤ d) (k1 : G (d - 1) 59 0 [vR s0] [] τ (KC d 91 198 201 [vR r0, vI x1] [AR s0, AI y1, AP s2] Q)) : G d 91 197 [vR r0, vI x1] [AR s0, AI y1, AP s2] τ Q := by
  refine g_sk 1 (pc1 := 198) (st1 := [AR s0, AR s0, AI y1, AP s2]) rfl ?_
  refine g_ci rfl rfl (by decide) rfl rfl (Nat.le_of_ble_eq_true rfl) (as2 := []) rfl rfl (by omega) (L0 := [vR s0]) rfl ?_
  exact k1

theorem t91_201 {d : Nat} {τ : T2} {Q : RS → T2 → Prop} {x1 y1 : Int} {r0 s0 s2 n1 : Nat} (sh2 : tS τ s2 = (3, 5, n1)) (b3 : 0 ≤ y1 ∧ y1 < (n1 : Int)) (p4 : okEs 5 (tS τ s0) = true) (k1 : G d 91 183 [vR r0, vI (wr (x1 + 1))] [] (uP τ s2 y1.toNat (some s0)) Q) : G d 91 201 [vR r0, vI x1] [AR s0, AI y1, AR s2] τ Q := by
  refine g_aast rfl sh2 (by decide) b3.1 b3.2 p4 ?_
  refine g_sx 2 (pc1 := 183) (L1 := [vR r0, vI (wr (x1 + 1))]) (st1 := []) rfl ?_
  exact k1

theorem t92_0 {d : Nat} {τ : T2} {Q : RS → T2 → Prop} {x1 x2 x3 x4 x5 : Int} {r0 : Nat} (hd : 1 ≤ d) (sh1 : tS τ r0 = (1, 11, 0)) (k1 : (wr ((tI τ r0 1) + 20)) ≤ 300 → G (d - 1) 125 0 [vR r0, vI x1, none] [] τ (KC d 92 17 20 [vR r0, none, vI x2, vI x3, vI x4, vI x5] [] Q)) (k2 : 300 < (wr ((tI τ r0 1) + 20)) → Q (.inl (some (AI (-1)))) τ) : G d 92 0 [vR r0, vI x1, vI x2, vI x3, vI x4, vI x5] [] τ Q := by
  refine g_sk 1 (pc1 := 1) (st1 := [AR r0]) rfl ?_
  refine g_gI rfl (ci := 11) (k := 1) rfl sh1 ?_
  refine g_sk 3 (pc1 := 10) (st1 := [AI 300, AI (wr ((tI τ r0 1) + 20))]) rfl ?_
  refine g_br2 rfl (t := 15) rfl (fun c2 => ?_) (fun c2 => ?_)
  · have c2 : (wr ((tI τ r0 1) + 20)) ≤ 300 := of_decide_eq_true c2
    refine g_sk 2 (pc1 := 17) (st1 := [AI x1, AR r0]) rfl ?_
    refine G_fg (lw2_k _ (lw2_f _ (lw2_k _ (lw2_k _ (lw2_k _ (lw2_k _ lw2_nil)))))) ?_
    refine g_cv rfl rfl (by decide) rfl rfl (Nat.le_of_ble_eq_true rfl) (as2 := [AI x1]) rfl sh1 rfl (by omega) (L0 := [vR r0, vI x1, none]) rfl ?_
    exact (k1 c2)
  · have c2 : 300 < (wr ((tI τ r0 1) + 20)) := Int.not_le.mp (of_decide_eq_false c2)
    refine g_sk 1 (pc1 := 14) (st1 := [AI (-1)]) rfl ?_
    refine g_iret rfl rfl ?_
    exact (k2 c2)

theorem t92_20 {d : Nat} {τ : T2} {Q : RS → T2 → Prop} {x2 x3 x4 x5 : Int} {r0 : Nat} (hd : 1 ≤ d) (sh1 : tS τ r0 = (1, 11, 0)) (k1 : G (d - 1) 125 0 [vR r0, vI x2, none] [] τ (KC d 92 22 25 [vR r0, none, none, vI x3, vI x4, vI x5] [] Q)) : G d 92 20 [vR r0, none, vI x2, vI x3, vI x4, vI x5] [] τ Q := by
  refine g_sk 2 (pc1 := 22) (st1 := [AI x2, AR r0]) rfl ?_
  refine G_fg (lw2_k _ (lw2_k _ (lw2_f _ (lw2_k _ (lw2_k _ (lw2_k _ lw2_nil)))))) ?_
  refine g_cv rfl rfl (by decide) rfl rfl (Nat.le_of_ble_eq_true rfl) (as2 := [AI x2]) rfl sh1 rfl (by omega) (L0 := [vR r0, vI x2, none]) rfl ?_
  exact k1

theorem t92_25 {d : Nat} {τ : T2} {Q : RS → T2 → Prop} {x3 x4 x5 : Int} {r0 : Nat} (hd : 1 ≤ d) (sh1 : tS τ r0 = (1, 11, 0)) (k1 : G (d - 1) 125 0 [vR r0, vI x3, none] [] τ (KC d 92 27 30 [vR r0, none, none, none, vI x4, vI x5] [] Q)) : G d 92 25 [vR r0, none, none, vI x3, vI x4, vI x5] [] τ Q := by
  refine g_sk 2 (pc1 := 27) (st1 := [AI x3, AR r0]) rfl ?_
  refine G_fg (lw2_k _ (lw2_k _ (lw2_k _ (lw2_f _ (lw2_k _ (lw2_k _ lw2_nil)))))) ?_
  refine g_cv rfl rfl (by decide) rfl rfl (Nat.le_of_ble_eq_true rfl) (as2 := [AI x3]) rfl sh1 rfl (by omega) (L0 := [vR r0, vI x3, none]) rfl ?_
  exact k1

theorem t92_30 {d : Nat} {τ : T2} {Q : RS → T2 → Prop} {x4 x5 : Int} {r0 : Nat} (hd : 1 ≤ d) (sh1 : tS τ r0 = (1, 11, 0)) (k1 : G (d - 1) 125 0 [vR r0, vI x4, none] [] τ (KC d 92 33 36 [vR r0, none, none, none, none, vI x5] [] Q)) : G d 92 30 [vR r0, none, none, none, vI x4, vI x5] [] τ Q := by
  refine g_sk 2 (pc1 := 33) (st1 := [AI x4, AR r0]) rfl ?_
  refine G_fg (lw2_k _ (lw2_k _ (lw2_k _ (lw2_k _ (lw2_f _ (lw2_k _ lw2_nil)))))) ?_
  refine g_cv rfl rfl (by decide) rfl rfl (Nat.le_of_ble_eq_true rfl) (as2 := [AI x4]) rfl sh1 rfl (by omega) (L0 := [vR r0, vI x4, none]) rfl ?_
  exact k1

theorem t92_36 {d : Nat} {τ : T2} {Q : RS → T2 → Prop} {x5 : Int} {r0 : Nat} (hd : 1 ≤ d) (sh1 : tS τ r0 = (1, 11, 0)) (k1 : G (d - 1) 125 0 [vR r0, vI x5, none] [] τ (KC d 92 39 42 [vR r0, none, none, none, none, none] [] Q)) : G d 92 36 [vR r0, none, none, none, none, vI x5] [] τ Q := by
  refine g_sk 2 (pc1 := 39) (st1 := [AI x5, AR r0]) rfl ?_
  refine G_fg (lw2_k _ (lw2_k _ (lw2_k _ (lw2_k _ (lw2_k _ (lw2_f _ lw2_nil)))))) ?_
  refine g_cv rfl rfl (by decide) rfl rfl (Nat.le_of_ble_eq_true rfl) (as2 := [AI x5]) rfl sh1 rfl (by omega) (L0 := [vR r0, vI x5, none]) rfl ?_
  exact k1

theorem t92_42 {d : Nat} {τ : T2} {Q : RS → T2 → Prop} {r0 : Nat} (sh1 : tS τ r0 = (1, 11, 0)) (k1 : Q (.inl (some (AI (tI τ r0 1)))) τ) : G d 92 42 [vR r0, none, none, none, none, none] [] τ Q := by
  refine g_sk 1 (pc1 := 43) (st1 := [AR r0]) rfl ?_
  refine g_gI rfl (ci := 11) (k := 1) rfl sh1 ?_
  refine g_iret rfl rfl ?_
  exact k1

theorem t93_0 {d : Nat} {τ : T2} {Q : RS → T2 → Prop} {x1 x2 x3 : Int} {r0 : Nat} (hd : 1 ≤ d) (sh3 : tS τ r0 = (1, 11, 0)) (k1 : x1 < 0 → 0 = 0 → G (d - 1) 126 0 [vR r0, vI 2] [] τ (KC d 93 41 44 [none, none, none, none, none, none] [] Q)) (k2 : x1 < 0 → ¬ 0 = 0 → G (d - 1) 132 0 [vR r0, vI x3] [] τ (KC d 93 33 36 [vR r0, vI x1, vI x2, vI x3, none, none] [] Q)) (k3 : 0 ≤ x1 → 2 < x1 → 0 = 0 → G (d - 1) 126 0 [vR r0, vI 2] [] τ (KC d 93 41 44 [none, none, none, none, none, none] [] Q)) (k4 : 0 ≤ x1 → 2 < x1 → ¬ 0 = 0 → G (d - 1) 132 0 [vR r0, vI x3] [] τ (KC d 93 33 36 [vR r0, vI x1, vI x2, vI x3, none, none] [] Q)) (k5 : 0 ≤ x1 → x1 ≤ 2 → x2 < 0 → 0 = 0 → G (d - 1) 126 0 [vR r0, vI 2] [] τ (KC d 93 41 44 [none, none, none, none, none, none] [] Q)) (k6 : 0 ≤ x1 → x1 ≤ 2 → x2 < 0 → ¬ 0 = 0 → G (d - 1) 132 0 [vR r0, vI x3] [] τ (KC d 93 33 36 [vR r0, vI x1, vI x2, vI x3, none, none] [] Q)) (k7 : 0 ≤ x1 → x1 ≤ 2 → 0 ≤ x2 → 6 ≤ x2 → 0 = 0 → G (d - 1) 126 0 [vR r0, vI 2] [] τ (KC d 93 41 44 [none, none, none, none, none, none] [] Q)) (k8 : 0 ≤ x1 → x1 ≤ 2 → 0 ≤ x2 → 6 ≤ x2 → ¬ 0 = 0 → G (d - 1) 132 0 [vR r0, vI x3] [] τ (KC d 93 33 36 [vR r0, vI x1, vI x2, vI x3, none, none] [] Q)) (k9 : 0 ≤ x1 → x1 ≤ 2 → 0 ≤ x2 → x2 < 6 → 1 = 0 → G (d - 1) 126 0 [vR r0, vI 2] [] τ (KC d 93 41 44 [none, none, none, none, none, none] [] Q)) (k10 : 0 ≤ x1 → x1 ≤ 2 → 0 ≤ x2 → x2 < 6 → ¬ 1 = 0 → G (d - 1) 132 0 [vR r0, vI x3] [] τ (KC d 93 33 36 [vR r0, vI x1, vI x2, vI x3, none, none] [] Q)) : G d 93 0 [vR r0, vI x1, vI x2, vI x3, none, none] [] τ Q := by
  refine g_sk 1 (pc1 := 1) (st1 := [AI x1]) rfl ?_
  refine g_br1 rfl (t := 23) rfl (fun c1 => ?_) (fun c1 => ?_)
  · have c1 : x1 < 0 := of_decide_eq_true c1
    refine g_sx 3 (pc1 := 28) (L1 := [vR r0, vI x1, vI x2, vI x3, vI 0, none]) (st1 := [AI 0]) rfl ?_
    refine g_br1 rfl (t := 39) rfl (fun c2 => ?_) (fun c2 => ?_)
    · have c2 : 0 = 0 := of_decide_eq_true c2
      refine g_sk 2 (pc1 := 41) (st1 := [AI 2, AR r0]) rfl ?_
      refine G_fg (lw2_f _ (lw2_f _ (lw2_f _ (lw2_f _ (lw2_f _ (lw2_k _ lw2_nil)))))) ?_
      refine g_cv rfl rfl (by decide) rfl rfl (Nat.le_of_ble_eq_true rfl) (as2 := [AI 2]) rfl sh3 rfl (by omega) (L0 := [vR r0, vI 2]) rfl ?_
      exact (k1 c1 c2)
    · have c2 : ¬ 0 = 0 := of_decide_eq_false c2
      refine g_sk 2 (pc1 := 33) (st1 := [AI x3, AR r0]) rfl ?_
      refine G_fg (lw2_k _ (lw2_k _ (lw2_k _ (lw2_k _ (lw2_f _ (lw2_k _ lw2_nil)))))) ?_
      refine g_cv rfl rfl (by decide) rfl rfl (Nat.le_of_ble_eq_true rfl) (as2 := [AI x3]) rfl sh3 rfl (by omega) (L0 := [vR r0, vI x3]) rfl ?_
      exact (k2 c1 c2)
  · have c1 : 0 ≤ x1 := Int.not_lt.mp (of_decide_eq_false c1)
    refine g_sk 2 (pc1 := 6) (st1 := [AI 2, AI x1]) rfl ?_
    refine g_br2 rfl (t := 23) rfl (fun c4 => ?_) (fun c4 => ?_)
    · have c4 : 2 < x1 := of_decide_eq_true c4
      refine g_sx 3 (pc1 := 28) (L1 := [vR r0, vI x1, vI x2, vI x3, vI 0, none]) (st1 := [AI 0]) rfl ?_
      refine g_br1 rfl (t := 39) rfl (fun c5 => ?_) (fun c5 => ?_)
      · have c5 : 0 = 0 := of_decide_eq_true c5
        refine g_sk 2 (pc1 := 41) (st1 := [AI 2, AR r0]) rfl ?_
        refine G_fg (lw2_f _ (lw2_f _ (lw2_f _ (lw2_f _ (lw2_f _ (lw2_k _ lw2_nil)))))) ?_
        refine g_cv rfl rfl (by decide) rfl rfl (Nat.le_of_ble_eq_true rfl) (as2 := [AI 2]) rfl sh3 rfl (by omega) (L0 := [vR r0, vI 2]) rfl ?_
        exact (k3 c1 c4 c5)
      · have c5 : ¬ 0 = 0 := of_decide_eq_false c5
        refine g_sk 2 (pc1 := 33) (st1 := [AI x3, AR r0]) rfl ?_
        refine G_fg (lw2_k _ (lw2_k _ (lw2_k _ (lw2_k _ (lw2_f _ (lw2_k _ lw2_nil)))))) ?_
        refine g_cv rfl rfl (by decide) rfl rfl (Nat.le_of_ble_eq_true rfl) (as2 := [AI x3]) rfl sh3 rfl (by omega) (L0 := [vR r0, vI x3]) rfl ?_
        exact (k4 c1 c4 c5)
    · have c4 : x1 ≤ 2 := Int.not_lt.mp (of_decide_eq_false c4)
      refine g_sk 1 (pc1 := 10) (st1 := [AI x2]) rfl ?_
      refine g_br1 rfl (t := 23) rfl (fun c6 => ?_) (fun c6 => ?_)
      · have c6 : x2 < 0 := of_decide_eq_true c6
        refine g_sx 3 (pc1 := 28) (L1 := [vR r0, vI x1, vI x2, vI x3, vI 0, none]) (st1 := [AI 0]) rfl ?_
        refine g_br1 rfl (t := 39) rfl (fun c7 => ?_) (fun c7 => ?_)
        · have c7 : 0 = 0 := of_decide_eq_true c7
          refine g_sk 2 (pc1 := 41) (st1 := [AI 2, AR r0]) rfl ?_
          refine G_fg (lw2_f _ (lw2_f _ (lw2_f _ (lw2_f _ (lw2_f _ (lw2_k _ lw2_nil)))))) ?_
          refine g_cv rfl rfl (by decide) rfl rfl (Nat.le_of_ble_eq_true rfl) (as2 := [AI 2]) rfl sh3 rfl (by omega) (L0 := [vR r0, vI 2]) rfl ?_
          exact (k5 c1 c4 c6 c7)
        · have c7 : ¬ 0 = 0 := of_decide_eq_false c7
          refine g_sk 2 (pc1 := 33) (st1 := [AI x3, AR r0]) rfl ?_
          refine G_fg (lw2_k _ (lw2_k _ (lw2_k _ (lw2_k _ (lw2_f _ (lw2_k _ lw2_nil)))))) ?_
          refine g_cv rfl rfl (by decide) rfl rfl (Nat.le_of_ble_eq_true rfl) (as2 := [AI x3]) rfl sh3 rfl (by omega) (L0 := [vR r0, vI x3]) rfl ?_
          exact (k6 c1 c4 c6 c7)
      · have c6 : 0 ≤ x2 := Int.not_lt.mp (of_decide_eq_false c6)
        refine g_sk 2 (pc1 := 16) (st1 := [AI 6, AI x2]) rfl ?_
        refine g_br2 rfl (t := 23) rfl (fun c8 => ?_) (fun c8 => ?_)
        · have c8 : 6 ≤ x2 := of_decide_eq_true c8
          refine g_sx 3 (pc1 := 28) (L1 := [vR r0, vI x1, vI x2, vI x3, vI 0, none]) (st1 := [AI 0]) rfl ?_
          refine g_br1 rfl (t := 39) rfl (fun c9 => ?_) (fun c9 => ?_)
          · have c9 : 0 = 0 := of_decide_eq_true c9
            refine g_sk 2 (pc1 := 41) (st1 := [AI 2, AR r0]) rfl ?_
            refine G_fg (lw2_f _ (lw2_f _ (lw2_f _ (lw2_f _ (lw2_f _ (lw2_k _ lw2_nil)))))) ?_
            refine g_cv rfl rfl (by decide) rfl rfl (Nat.le_of_ble_eq_true rfl) (as2 := [AI 2]) rfl sh3 rfl (by omega) (L0 := [vR r0, vI 2]) rfl ?_
            exact (k7 c1 c4 c6 c8 c9)
          · have c9 : ¬ 0 = 0 := of_decide_eq_false c9
            refine g_sk 2 (pc1 := 33) (st1 := [AI x3, AR r0]) rfl ?_
            refine G_fg (lw2_k _ (lw2_k _ (lw2_k _ (lw2_k _ (lw2_f _ (lw2_k _ lw2_nil)))))) ?_
            refine g_cv rfl rfl (by decide) rfl rfl (Nat.le_of_ble_eq_true rfl) (as2 := [AI x3]) rfl sh3 rfl (by omega) (L0 := [vR r0, vI x3]) rfl ?_
            exact (k8 c1 c4 c6 c8 c9)
        · have c8 : x2 < 6 := Int.not_le.mp (of_decide_eq_false c8)
          refine g_sx 4 (pc1 := 28) (L1 := [vR r0, vI x1, vI x2, vI x3, vI 1, none]) (st1 := [AI 1]) rfl ?_
          refine g_br1 rfl (t := 39) rfl (fun c10 => ?_) (fun c10 => ?_)
          · have c10 : 1 = 0 := of_decide_eq_true c10
            refine g_sk 2 (pc1 := 41) (st1 := [AI 2, AR r0]) rfl ?_
            refine G_fg (lw2_f _ (lw2_f _ (lw2_f _ (lw2_f _ (lw2_f _ (lw2_k _ lw2_nil)))))) ?_
            refine g_cv rfl rfl (by decide) rfl rfl (Nat.le_of_ble_eq_true rfl) (as2 := [AI 2]) rfl sh3 rfl (by omega) (L0 := [vR r0, vI 2]) rfl ?_
            exact (k9 c1 c4 c6 c8 c10)
          · have c10 : ¬ 1 = 0 := of_decide_eq_false c10
            refine g_sk 2 (pc1 := 33) (st1 := [AI x3, AR r0]) rfl ?_
            refine G_fg (lw2_k _ (lw2_k _ (lw2_k _ (lw2_k _ (lw2_f _ (lw2_k _ lw2_nil)))))) ?_
            refine g_cv rfl rfl (by decide) rfl rfl (Nat.le_of_ble_eq_true rfl) (as2 := [AI x3]) rfl sh3 rfl (by omega) (L0 := [vR r0, vI x3]) rfl ?_
            exact (k10 c1 c4 c6 c8 c10)

theorem t93_36 {d : Nat} {τ : T2} {Q : RS → T2 → Prop} {x1 x2 x3 y0 : Int} {r0 : Nat} (hd : 1 ≤ d) (sh2 : tS τ r0 = (1, 11, 0)) (k1 : ¬ y0 = 0 → G (d - 1) 138 0 [vR r0, vI x3] [] τ (KC d 93 47 50 [vR r0, vI x1, vI x2, none, none, none] [] Q)) (k2 : y0 = 0 → G (d - 1) 126 0 [vR r0, vI 2] [] τ (KC d 93 41 44 [none, none, none, none, none, none] [] Q)) : G d 93 36 [vR r0, vI x1, vI x2, vI x3, none, none] [AI y0] τ Q := by
  refine g_br1 rfl (t := 45) rfl (fun c1 => ?_) (fun c1 => ?_)
  · have c1 : ¬ y0 = 0 := of_decide_eq_true c1
    refine g_sk 2 (pc1 := 47) (st1 := [AI x3, AR r0]) rfl ?_
    refine G_fg (lw2_k _ (lw2_k _ (lw2_k _ (lw2_f _ (lw2_k _ (lw2_k _ lw2_nil)))))) ?_
    refine g_cv rfl rfl (by decide) rfl rfl (Nat.le_of_ble_eq_true rfl) (as2 := [AI x3]) rfl sh2 rfl (by omega) (L0 := [vR r0, vI x3]) rfl ?_
    exact (k1 c1)
  · have c1 : y0 = 0 := Decidable.of_not_not (of_decide_eq_false c1)
    refine g_sk 2 (pc1 := 41) (st1 := [AI 2, AR r0]) rfl ?_
    refine G_fg (lw2_f _ (lw2_f _ (lw2_f _ (lw2_f _ (lw2_k _ (lw2_k _ lw2_nil)))))) ?_
    refine g_cv rfl rfl (by decide) rfl rfl (Nat.le_of_ble_eq_true rfl) (as2 := [AI 2]) rfl sh2 rfl (by omega) (L0 := [vR r0, vI 2]) rfl ?_
    exact (k2 c1)

theorem t93_44 {d : Nat} {τ : T2} {Q : RS → T2 → Prop} {y0 : Int} (k1 : Q (.inl (some (AI y0))) τ) : G d 93 44 [none, none, none, none, none, none] [AI y0] τ Q := by
  refine g_iret rfl rfl ?_
  exact k1

theorem t93_50 {d : Nat} {τ : T2} {Q : RS → T2 → Prop} {x1 x2 : Int} {r0 q2 : Nat} (hd : 1 ≤ d) (sh1 : tS τ r0 = (1, 11, 0)) (p3 : tP τ r0 10 = some q2) (sh4 : tS τ q2 = (1, 9, 0)) (k1 : G (d - 1) 71 0 [vR q2, none] [] τ (KC d 93 54 57 [vR r0, vI x1, vI x2, none, none, none] [] Q)) : G d 93 50 [vR r0, vI x1, vI x2, none, none, none] [] τ Q := by
  refine g_sk 1 (pc1 := 51) (st1 := [AR r0]) rfl ?_
  refine g_gQ rfl (ci := 11) (k := 10) rfl sh1 p3 ?_
  refine g_cv rfl rfl (by decide) rfl rfl (Nat.le_of_ble_eq_true rfl) (as2 := []) rfl sh4 rfl (by omega) (L0 := [vR q2, none]) rfl ?_
  exact k1

theorem t93_57 {d : Nat} {τ : T2} {Q : RS → T2 → Prop} {x1 x2 y0 : Int} {r0 q5 n7 q10 q12 : Nat} (hd : 1 ≤ d) (sh3 : tS τ r0 = (1, 11, 0)) (p6 : tP τ r0 2 = some q5) (sh8 : tS τ q5 = (3, 4, n7)) (b9 : ¬ y0 = 0 → ¬ x1 = 2 → (tI τ r0 3) < 20 → 0 ≤ (tI τ r0 3) ∧ (tI τ r0 3) < (n7 : Int)) (p11 : ¬ y0 = 0 → ¬ x1 = 2 → (tI τ r0 3) < 20 → tP τ q5 (tI τ r0 3).toNat = some q10) (p13 : tP τ r0 10 = some q12) (sh14 : tS τ q12 = (1, 9, 0)) (sh15 : tS τ q10 = (1, 6, 0)) (k1 : ¬ y0 = 0 → ¬ x1 = 2 → (tI τ r0 3) < 20 → G (d - 1) 32 0 [vR q10, vI x1, vI x2, vQ (tP τ r0 0), vI (tI τ q12 4), vI (tI τ q12 5), none] [] τ (KC d 93 134 137 [vR r0, none, vI x2, none, none, vI (tI τ r0 3)] [] Q)) (k2 : ¬ y0 = 0 → ¬ x1 = 2 → 20 ≤ (tI τ r0 3) → G (d - 1) 126 0 [vR r0, vI 3] [] τ (KC d 93 97 100 [none, none, none, none, none, none] [] Q)) (k3 : ¬ y0 = 0 → x1 = 2 → G (d - 1) 134 0 [vR r0, none] [] τ (KC d 93 72 75 [vR r0, vI x1, vI x2, none, none, none] [] Q)) (k4 : y0 = 0 → G (d - 1) 126 0 [vR r0, vI 2] [] τ (KC d 93 62 65 [none, none, none, none, none, none] [] Q)) : G d 93 57 [vR r0, vI x1, vI x2, none, none, none] [AI y0] τ Q := by
  refine g_br1 rfl (t := 66) rfl (fun c1 => ?_) (fun c1 => ?_)
  · have c1 : ¬ y0 = 0 := of_decide_eq_true c1
    refine g_sk 2 (pc1 := 68) (st1 := [AI 2, AI x1]) rfl ?_
    refine g_br2 rfl (t := 86) rfl (fun c2 => ?_) (fun c2 => ?_)
    · have c2 : ¬ x1 = 2 := of_decide_eq_true c2
      refine g_sk 1 (pc1 := 87) (st1 := [AR r0]) rfl ?_
      refine g_gI rfl (ci := 11) (k := 3) rfl sh3 ?_
      refine g_sk 1 (pc1 := 92) (st1 := [AI 20, AI (tI τ r0 3)]) rfl ?_
      refine g_br2 rfl (t := 101) rfl (fun c4 => ?_) (fun c4 => ?_)
      · have c4 : (tI τ r0 3) < 20 := of_decide_eq_true c4
        refine g_sk 1 (pc1 := 102) (st1 := [AR r0]) rfl ?_
        refine g_gI rfl (ci := 11) (k := 3) rfl sh3 ?_
        refine g_sx 2 (pc1 := 108) (L1 := [vR r0, vI x1, vI x2, none, none, vI (tI τ r0 3)]) (st1 := [AR r0]) rfl ?_
        refine g_gQ rfl (ci := 11) (k := 2) rfl sh3 p6 ?_
        refine g_sk 1 (pc1 := 113) (st1 := [AI (tI τ r0 3), AR q5]) rfl ?_
        refine g_aalQ rfl sh8 (by decide) (b9 c1 c2 c4).1 (b9 c1 c2 c4).2 (p11 c1 c2 c4) ?_
        refine g_sk 3 (pc1 := 117) (st1 := [AR r0, AI x2, AI x1, AR q10]) rfl ?_
        refine g_gP rfl (ci := 11) (k := 0) rfl sh3 ?_
        refine g_sk 1 (pc1 := 121) (st1 := [AR r0, AP (tP τ r0 0), AI x2, AI x1, AR q10]) rfl ?_
        refine g_gQ rfl (ci := 11) (k := 10) rfl sh3 p13 ?_
        refine g_gI rfl (ci := 9) (k := 4) rfl sh14 ?_
        refine g_sk 1 (pc1 := 128) (st1 := [AR r0, AI (tI τ q12 4), AP (tP τ r0 0), AI x2, AI x1, AR q10]) rfl ?_
        refine g_gQ rfl (ci := 11) (k := 10) rfl sh3 p13 ?_
        refine g_gI rfl (ci := 9) (k := 5) rfl sh14 ?_
        refine G_fg (lw2_k _ (lw2_f _ (lw2_k _ (lw2_k _ (lw2_k _ (lw2_k _ lw2_nil)))))) ?_
        refine g_cv rfl rfl (by decide) rfl rfl (Nat.le_of_ble_eq_true rfl) (as2 := [AI x1, AI x2, AP (tP τ r0 0), AI (tI τ q12 4), AI (tI τ q12 5)]) rfl sh15 rfl (by omega) (L0 := [vR q10, vI x1, vI x2, vQ (tP τ r0 0), vI (tI τ q12 4), vI (tI τ q12 5), none]) rfl ?_
        exact (k1 c1 c2 c4)
      · have c4 : 20 ≤ (tI τ r0 3) := Int.not_lt.mp (of_decide_eq_false c4)
        refine g_sk 2 (pc1 := 97) (st1 := [AI 3, AR r0]) rfl ?_
        refine G_fg (lw2_f _ (lw2_f _ (lw2_f _ (lw2_k _ (lw2_k _ (lw2_k _ lw2_nil)))))) ?_
        refine g_cv rfl rfl (by decide) rfl rfl (Nat.le_of_ble_eq_true rfl) (as2 := [AI 3]) rfl sh3 rfl (by omega) (L0 := [vR r0, vI 3]) rfl ?_
        exact (k2 c1 c2 c4)
    · have c2 : x1 = 2 := Decidable.of_not_not (of_decide_eq_false c2)
      refine g_sk 1 (pc1 := 72) (st1 := [AR r0]) rfl ?_
      refine g_cv rfl rfl (by decide) rfl rfl (Nat.le_of_ble_eq_true rfl) (as2 := []) rfl sh3 rfl (by omega) (L0 := [vR r0, none]) rfl ?_
      exact (k3 c1 c2)
  · have c1 : y0 = 0 := Decidable.of_not_not (of_decide_eq_false c1)
    refine g_sk 2 (pc1 := 62) (st1 := [AI 2, AR r0]) rfl ?_
    refine G_fg (lw2_f _ (lw2_f _ (lw2_f _ (lw2_k _ (lw2_k _ (lw2_k _ lw2_nil)))))) ?_
    refine g_cv rfl rfl (by decide) rfl rfl (Nat.le_of_ble_eq_true rfl) (as2 := [AI 2]) rfl sh3 rfl (by omega) (L0 := [vR r0, vI 2]) rfl ?_
    exact (k4 c1)

theorem t93_65 {d : Nat} {τ : T2} {Q : RS → T2 → Prop} {y0 : Int} (k1 : Q (.inl (some (AI y0))) τ) : G d 93 65 [none, none, none, none, none, none] [AI y0] τ Q := by
  refine g_iret rfl rfl ?_
  exact k1

theorem t93_75 {d : Nat} {τ : T2} {Q : RS → T2 → Prop} {x1 x2 y0 : Int} {r0 q4 n6 q9 q11 : Nat} (hd : 1 ≤ d) (sh2 : tS τ r0 = (1, 11, 0)) (p5 : tP τ r0 2 = some q4) (sh7 : tS τ q4 = (3, 4, n6)) (b8 : y0 = (-1) → (tI τ r0 3) < 20 → 0 ≤ (tI τ r0 3) ∧ (tI τ r0 3) < (n6 : Int)) (p10 : y0 = (-1) → (tI τ r0 3) < 20 → tP τ q4 (tI τ r0 3).toNat = some q9) (p12 : tP τ r0 10 = some q11) (sh13 : tS τ q11 = (1, 9, 0)) (sh14 : tS τ q9 = (1, 6, 0)) (k1 : y0 = (-1) → (tI τ r0 3) < 20 → G (d - 1) 32 0 [vR q9, vI x1, vI x2, vQ (tP τ r0 0), vI (tI τ q11 4), vI (tI τ q11 5), none] [] τ (KC d 93 134 137 [vR r0, none, vI x2, none, none, vI (tI τ r0 3)] [] Q)) (k2 : y0 = (-1) → 20 ≤ (tI τ r0 3) → G (d - 1) 126 0 [vR r0, vI 3] [] τ (KC d 93 97 100 [none, none, none, none, none, none] [] Q)) (k3 : ¬ y0 = (-1) → G (d - 1) 126 0 [vR r0, vI 9] [] τ (KC d 93 82 85 [none, none, none, none, none, none] [] Q)) : G d 93 75 [vR r0, vI x1, vI x2, none, none, none] [AI y0] τ Q := by
  refine g_sk 1 (pc1 := 76) (st1 := [AI (-1), AI y0]) rfl ?_
  refine g_br2 rfl (t := 86) rfl (fun c1 => ?_) (fun c1 => ?_)
  · have c1 : y0 = (-1) := of_decide_eq_true c1
    refine g_sk 1 (pc1 := 87) (st1 := [AR r0]) rfl ?_
    refine g_gI rfl (ci := 11) (k := 3) rfl sh2 ?_
    refine g_sk 1 (pc1 := 92) (st1 := [AI 20, AI (tI τ r0 3)]) rfl ?_
    refine g_br2 rfl (t := 101) rfl (fun c3 => ?_) (fun c3 => ?_)
    · have c3 : (tI τ r0 3) < 20 := of_decide_eq_true c3
      refine g_sk 1 (pc1 := 102) (st1 := [AR r0]) rfl ?_
      refine g_gI rfl (ci := 11) (k := 3) rfl sh2 ?_
      refine g_sx 2 (pc1 := 108) (L1 := [vR r0, vI x1, vI x2, none, none, vI (tI τ r0 3)]) (st1 := [AR r0]) rfl ?_
      refine g_gQ rfl (ci := 11) (k := 2) rfl sh2 p5 ?_
      refine g_sk 1 (pc1 := 113) (st1 := [AI (tI τ r0 3), AR q4]) rfl ?_
      refine g_aalQ rfl sh7 (by decide) (b8 c1 c3).1 (b8 c1 c3).2 (p10 c1 c3) ?_
      refine g_sk 3 (pc1 := 117) (st1 := [AR r0, AI x2, AI x1, AR q9]) rfl ?_
      refine g_gP rfl (ci := 11) (k := 0) rfl sh2 ?_
      refine g_sk 1 (pc1 := 121) (st1 := [AR r0, AP (tP τ r0 0), AI x2, AI x1, AR q9]) rfl ?_
      refine g_gQ rfl (ci := 11) (k := 10) rfl sh2 p12 ?_
      refine g_gI rfl (ci := 9) (k := 4) rfl sh13 ?_
      refine g_sk 1 (pc1 := 128) (st1 := [AR r0, AI (tI τ q11 4), AP (tP τ r0 0), AI x2, AI x1, AR q9]) rfl ?_
      refine g_gQ rfl (ci := 11) (k := 10) rfl sh2 p12 ?_
      refine g_gI rfl (ci := 9) (k := 5) rfl sh13 ?_
      refine G_fg (lw2_k _ (lw2_f _ (lw2_k _ (lw2_k _ (lw2_k _ (lw2_k _ lw2_nil)))))) ?_
      refine g_cv rfl rfl (by decide) rfl rfl (Nat.le_of_ble_eq_true rfl) (as2 := [AI x1, AI x2, AP (tP τ r0 0), AI (tI τ q11 4), AI (tI τ q11 5)]) rfl sh14 rfl (by omega) (L0 := [vR q9, vI x1, vI x2, vQ (tP τ r0 0), vI (tI τ q11 4), vI (tI τ q11 5), none]) rfl ?_
      exact (k1 c1 c3)
    · have c3 : 20 ≤ (tI τ r0 3) := Int.not_lt.mp (of_decide_eq_false c3)
      refine g_sk 2 (pc1 := 97) (st1 := [AI 3, AR r0]) rfl ?_
      refine G_fg (lw2_f _ (lw2_f _ (lw2_f _ (lw2_k _ (lw2_k _ (lw2_k _ lw2_nil)))))) ?_
      refine g_cv rfl rfl (by decide) rfl rfl (Nat.le_of_ble_eq_true rfl) (as2 := [AI 3]) rfl sh2 rfl (by omega) (L0 := [vR r0, vI 3]) rfl ?_
      exact (k2 c1 c3)
  · have c1 : ¬ y0 = (-1) := of_decide_eq_false c1
    refine g_sk 2 (pc1 := 82) (st1 := [AI 9, AR r0]) rfl ?_
    refine G_fg (lw2_f _ (lw2_f _ (lw2_f _ (lw2_k _ (lw2_k _ (lw2_k _ lw2_nil)))))) ?_
    refine g_cv rfl rfl (by decide) rfl rfl (Nat.le_of_ble_eq_true rfl) (as2 := [AI 9]) rfl sh2 rfl (by omega) (L0 := [vR r0, vI 9]) rfl ?_
    exact (k3 c1)

theorem t93_85 {d : Nat} {τ : T2} {Q : RS → T2 → Prop} {y0 : Int} (k1 : Q (.inl (some (AI y0))) τ) : G d 93 85 [none, none, none, none, none, none] [AI y0] τ Q := by
  refine g_iret rfl rfl ?_
  exact k1

theorem t93_100 {d : Nat} {τ : T2} {Q : RS → T2 → Prop} {y0 : Int} (k1 : Q (.inl (some (AI y0))) τ) : G d 93 100 [none, none, none, none, none, none] [AI y0] τ Q := by
  refine g_iret rfl rfl ?_
  exact k1

theorem t93_137 {d : Nat} {τ : T2} {Q : RS → T2 → Prop} {x2 x5 : Int} {r0 q2 n4 : Nat} (hd : 1 ≤ d) (sh1 : tS τ r0 = (1, 11, 0)) (p3 : tP τ r0 4 = some q2) (sh5 : tS τ q2 = (2, 0, n4)) (b6 : 0 ≤ x2 ∧ x2 < (n4 : Int)) (k1 : G (d - 1) 127 0 [vR r0, vI 1, vI x5, vI 0, vI 0, vI 0] [] (uI (uI τ r0 3 (wr ((tI τ r0 3) + 1))) q2 x2.toNat (zor (tI (uI τ r0 3 (wr ((tI τ r0 3) + 1))) q2 x2.toNat) (zshl 1 x5))) (KC d 93 167 170 [none, none, none, none, none, vI x5] [] Q)) : G d 93 137 [vR r0, none, vI x2, none, none, vI x5] [] τ Q := by
  refine g_sk 2 (pc1 := 139) (st1 := [AR r0, AR r0]) rfl ?_
  refine g_gI rfl (ci := 11) (k := 3) rfl sh1 ?_
  refine g_sk 2 (pc1 := 144) (st1 := [AI (wr ((tI τ r0 3) + 1)), AR r0]) rfl ?_
  refine g_putI (x := (wr ((tI τ r0 3) + 1))) rfl (ci := 11) (k := 3) (kd := 0) rfl (by decide) rfl rfl sh1 ?_
  refine g_sk 1 (pc1 := 148) (st1 := [AR r0]) rfl ?_
  refine g_gQ rfl (ci := 11) (k := 4) rfl sh1 p3 ?_
  refine g_sk 2 (pc1 := 153) (st1 := [AI x2, AR q2, AI x2, AR q2]) rfl ?_
  refine g_iald rfl sh5 (by decide) b6.1 b6.2 ?_
  refine g_sk 4 (pc1 := 159) (st1 := [AI (zor (tI (uI τ r0 3 (wr ((tI τ r0 3) + 1))) q2 x2.toNat) (zshl 1 x5)), AI x2, AR q2]) rfl ?_
  refine g_iast rfl sh5 b6.1 b6.2 ?_
  refine g_sk 6 (pc1 := 167) (st1 := [AI 0, AI 0, AI 0, AI x5, AI 1, AR r0]) rfl ?_
  refine G_fg (lw2_f _ (lw2_k _ (lw2_f _ (lw2_k _ (lw2_k _ (lw2_k _ lw2_nil)))))) ?_
  refine g_cv rfl rfl (by decide) rfl rfl (Nat.le_of_ble_eq_true rfl) (as2 := [AI 1, AI x5, AI 0, AI 0, AI 0]) rfl sh1 rfl (by omega) (L0 := [vR r0, vI 1, vI x5, vI 0, vI 0, vI 0]) rfl ?_
  exact k1

theorem t93_170 {d : Nat} {τ : T2} {Q : RS → T2 → Prop} {x5 : Int} (k1 : Q (.inl (some (AI x5))) τ) : G d 93 170 [none, none, none, none, none, vI x5] [] τ Q := by
  refine g_sk 1 (pc1 := 172) (st1 := [AI x5]) rfl ?_
  refine g_iret rfl rfl ?_
  exact k1

theorem t94_0 {d : Nat} {τ : T2} {Q : RS → T2 → Prop} {x1 x2 : Int} {r0 : Nat} (hd : 1 ≤ d) (sh1 : tS τ r0 = (1, 11, 0)) (k1 : G (d - 1) 137 0 [vR r0, vI x1, vI 0, vI x2] [] τ (KC d 94 4 7 [vR r0, vI x1, vI x2] [] Q)) : G d 94 0 [vR r0, vI x1, vI x2] [] τ Q := by
  refine g_sk 4 (pc1 := 4) (st1 := [AI x2, AI 0, AI x1, AR r0]) rfl ?_
  refine g_cv rfl rfl (by decide) rfl rfl (Nat.le_of_ble_eq_true rfl) (as2 := [AI x1, AI 0, AI x2]) rfl sh1 rfl (by omega) (L0 := [vR r0, vI x1, vI 0, vI x2]) rfl ?_
  exact k1

theorem t94_7 {d : Nat} {τ : T2} {Q : RS → T2 → Prop} {x1 x2 y0 : Int} {r0 : Nat} (hd : 1 ≤ d) (sh2 : tS τ r0 = (1, 11, 0)) (k1 : ¬ y0 = 0 → G (d - 1) 138 0 [vR r0, vI x2] [] τ (KC d 94 14 17 [vR r0, vI x1, none] [] Q)) (k2 : y0 = 0 → Q (.inl (some (AI 0))) τ) : G d 94 7 [vR r0, vI x1, vI x2] [AI y0] τ Q := by
  refine g_br1 rfl (t := 12) rfl (fun c1 => ?_) (fun c1 => ?_)
  · have c1 : ¬ y0 = 0 := of_decide_eq_true c1
    refine g_sk 2 (pc1 := 14) (st1 := [AI x2, AR r0]) rfl ?_
    refine G_fg (lw2_k _ (lw2_k _ (lw2_f _ lw2_nil))) ?_
    refine g_cv rfl rfl (by decide) rfl rfl (Nat.le_of_ble_eq_true rfl) (as2 := [AI x2]) rfl sh2 rfl (by omega) (L0 := [vR r0, vI x2]) rfl ?_
    exact (k1 c1)
  · have c1 : y0 = 0 := Decidable.of_not_not (of_decide_eq_false c1)
    refine g_sk 1 (pc1 := 11) (st1 := [AI 0]) rfl ?_
    refine g_zret rfl rfl (by decide) ?_
    exact (k2 c1)

theorem t94_17 {d : Nat} {τ : T2} {Q : RS → T2 → Prop} {x1 : Int} {r0 : Nat} (hd : 1 ≤ d) (sh1 : tS τ r0 = (1, 11, 0)) (k1 : G (d - 1) 50 0 [vQ (tP τ r0 10), vI (tI τ r0 3)] [] τ (KC d 94 26 29 [vR r0, vI x1, none] [AR r0] Q)) : G d 94 17 [vR r0, vI x1, none] [] τ Q := by
  refine g_sk 2 (pc1 := 19) (st1 := [AR r0, AR r0]) rfl ?_
  refine g_gP rfl (ci := 11) (k := 10) rfl sh1 ?_
  refine g_sk 1 (pc1 := 23) (st1 := [AR r0, AP (tP τ r0 10), AR r0]) rfl ?_
  refine g_gI rfl (ci := 11) (k := 3) rfl sh1 ?_
  refine g_cs rfl rfl (by decide) rfl rfl (Nat.le_of_ble_eq_true rfl) rfl (by omega) (L0 := [vQ (tP τ r0 10), vI (tI τ r0 3)]) rfl ?_
  exact k1

theorem t94_29 {d : Nat} {τ : T2} {Q : RS → T2 → Prop} {x1 y0 : Int} {r0 s1 : Nat} (hd : 1 ≤ d) (sh1 : tS τ s1 = (1, 11, 0)) (k1 : G (d - 1) 139 0 [vR s1, vI y0] [] τ (KC d 94 29 32 [vR r0, vI x1, none] [] Q)) : G d 94 29 [vR r0, vI x1, none] [AI y0, AR s1] τ Q := by
  refine g_cv rfl rfl (by decide) rfl rfl (Nat.le_of_ble_eq_true rfl) (as2 := [AI y0]) rfl sh1 rfl (by omega) (L0 := [vR s1, vI y0]) rfl ?_
  exact k1

theorem t94_32 {d : Nat} {τ : T2} {Q : RS → T2 → Prop} {x1 y0 : Int} {r0 q3 n5 q8 : Nat} (hd : 1 ≤ d) (sh2 : tS τ r0 = (1, 11, 0)) (p4 : tP τ r0 2 = some q3) (sh6 : tS τ q3 = (3, 4, n5)) (b7 : ¬ y0 = 0 → 0 ≤ x1 ∧ x1 < (n5 : Int)) (p9 : ¬ y0 = 0 → tP τ q3 x1.toNat = some q8) (sh10 : tS τ q8 = (1, 6, 0)) (k1 : ¬ y0 = 0 → G (d - 1) 128 0 [vR r0, vI 2, vI x1, vQ (tP τ q8 9)] [] τ (KC d 94 49 52 [vR r0, vI x1, none] [] Q)) (k2 : y0 = 0 → Q (.inl (some (AI 0))) τ) : G d 94 32 [vR r0, vI x1, none] [AI y0] τ Q := by
  refine g_br1 rfl (t := 37) rfl (fun c1 => ?_) (fun c1 => ?_)
  · have c1 : ¬ y0 = 0 := of_decide_eq_true c1
    refine g_sk 4 (pc1 := 41) (st1 := [AR r0, AI x1, AI 2, AR r0]) rfl ?_
    refine g_gQ rfl (ci := 11) (k := 2) rfl sh2 p4 ?_
    refine g_sk 1 (pc1 := 45) (st1 := [AI x1, AR q3, AI x1, AI 2, AR r0]) rfl ?_
    refine g_aalQ rfl sh6 (by decide) (b7 c1).1 (b7 c1).2 (p9 c1) ?_
    refine g_gP rfl (ci := 6) (k := 9) rfl sh10 ?_
    refine g_cv rfl rfl (by decide) rfl rfl (Nat.le_of_ble_eq_true rfl) (as2 := [AI 2, AI x1, AP (tP τ q8 9)]) rfl sh2 rfl (by omega) (L0 := [vR r0, vI 2, vI x1, vQ (tP τ q8 9)]) rfl ?_
    exact (k1 c1)
  · have c1 : y0 = 0 := Decidable.of_not_not (of_decide_eq_false c1)
    refine g_sk 1 (pc1 := 36) (st1 := [AI 0]) rfl ?_
    refine g_zret rfl rfl (by decide) ?_
    exact (k2 c1)

theorem t94_52 {d : Nat} {τ : T2} {Q : RS → T2 → Prop} {x1 : Int} {r0 q2 n4 q7 : Nat} (hd : 1 ≤ d) (sh1 : tS τ r0 = (1, 11, 0)) (p3 : tP τ r0 2 = some q2) (sh5 : tS τ q2 = (3, 4, n4)) (b6 : 0 ≤ x1 ∧ x1 < (n4 : Int)) (p8 : tP τ r0 10 = some q7) (sh9 : tS τ q7 = (1, 9, 0)) (k1 : G (d - 1) 81 0 [vR q7] [] τ (KC d 94 62 65 [none, none, none] [AP (tP τ q2 x1.toNat)] Q)) : G d 94 52 [vR r0, vI x1, none] [] τ Q := by
  refine g_sk 1 (pc1 := 53) (st1 := [AR r0]) rfl ?_
  refine g_gQ rfl (ci := 11) (k := 2) rfl sh1 p3 ?_
  refine g_sk 1 (pc1 := 57) (st1 := [AI x1, AR q2]) rfl ?_
  refine g_aald rfl sh5 (by decide) b6.1 b6.2 ?_
  refine g_sk 1 (pc1 := 59) (st1 := [AR r0, AP (tP τ q2 x1.toNat)]) rfl ?_
  refine g_gQ rfl (ci := 11) (k := 10) rfl sh1 p8 ?_
  refine G_fg (lw2_f _ (lw2_f _ (lw2_k _ lw2_nil))) ?_
  refine g_cv rfl rfl (by decide) rfl rfl (Nat.le_of_ble_eq_true rfl) (as2 := []) rfl sh9 rfl (by omega) (L0 := [vR q7]) rfl ?_
  exact k1

theorem t94_65 {d : Nat} {τ : T2} {Q : RS → T2 → Prop} {s1 : Nat} {s0 : Option Nat} (sh1 : tS τ s1 = (1, 6, 0)) (k1 : Q (.inl (some (AI 1))) (uP τ s1 9 s0)) : G d 94 65 [none, none, none] [AP s0, AR s1] τ Q := by
  refine g_putP rfl (ci := 6) (k := 9) rfl sh1 ?_
  refine g_sk 1 (pc1 := 69) (st1 := [AI 1]) rfl ?_
  refine g_zret rfl rfl (by decide) ?_
  exact k1

theorem t95_0 {d : Nat} {τ : T2} {Q : RS → T2 → Prop} {x1 x2 : Int} {r0 : Nat} (hd : 1 ≤ d) (sh1 : tS τ r0 = (1, 11, 0)) (k1 : G (d - 1) 137 0 [vR r0, vI x1, vI 0, vI x2] [] τ (KC d 95 4 7 [vR r0, vI x1, vI x2] [] Q)) : G d 95 0 [vR r0, vI x1, vI x2] [] τ Q := by
  refine g_sk 4 (pc1 := 4) (st1 := [AI x2, AI 0, AI x1, AR r0]) rfl ?_
  refine g_cv rfl rfl (by decide) rfl rfl (Nat.le_of_ble_eq_true rfl) (as2 := [AI x1, AI 0, AI x2]) rfl sh1 rfl (by omega) (L0 := [vR r0, vI x1, vI 0, vI x2]) rfl ?_
  exact k1

theorem t95_7 {d : Nat} {τ : T2} {Q : RS → T2 → Prop} {x1 x2 y0 : Int} {r0 : Nat} (hd : 1 ≤ d) (sh2 : tS τ r0 = (1, 11, 0)) (k1 : ¬ y0 = 0 → G (d - 1) 138 0 [vR r0, vI x2] [] τ (KC d 95 14 17 [vR r0, vI x1, none] [] Q)) (k2 : y0 = 0 → Q (.inl (some (AI 0))) τ) : G d 95 7 [vR r0, vI x1, vI x2] [AI y0] τ Q := by
  refine g_br1 rfl (t := 12) rfl (fun c1 => ?_) (fun c1 => ?_)
  · have c1 : ¬ y0 = 0 := of_decide_eq_true c1
    refine g_sk 2 (pc1 := 14) (st1 := [AI x2, AR r0]) rfl ?_
    refine G_fg (lw2_k _ (lw2_k _ (lw2_f _ lw2_nil))) ?_
    refine g_cv rfl rfl (by decide) rfl rfl (Nat.le_of_ble_eq_true rfl) (as2 := [AI x2]) rfl sh2 rfl (by omega) (L0 := [vR r0, vI x2]) rfl ?_
    exact (k1 c1)
  · have c1 : y0 = 0 := Decidable.of_not_not (of_decide_eq_false c1)
    refine g_sk 1 (pc1 := 11) (st1 := [AI 0]) rfl ?_
    refine g_zret rfl rfl (by decide) ?_
    exact (k2 c1)

theorem t95_17 {d : Nat} {τ : T2} {Q : RS → T2 → Prop} {x1 : Int} {r0 : Nat} (hd : 1 ≤ d) (sh1 : tS τ r0 = (1, 11, 0)) (k1 : G (d - 1) 5 0 [vQ (tP τ r0 10)] [] τ (KC d 95 22 25 [vR r0, vI x1, none] [AR r0] Q)) : G d 95 17 [vR r0, vI x1, none] [] τ Q := by
  refine g_sk 2 (pc1 := 19) (st1 := [AR r0, AR r0]) rfl ?_
  refine g_gP rfl (ci := 11) (k := 10) rfl sh1 ?_
  refine g_cs rfl rfl (by decide) rfl rfl (Nat.le_of_ble_eq_true rfl) rfl (by omega) (L0 := [vQ (tP τ r0 10)]) rfl ?_
  exact k1

theorem t95_25 {d : Nat} {τ : T2} {Q : RS → T2 → Prop} {x1 y0 : Int} {r0 s1 : Nat} (hd : 1 ≤ d) (sh1 : tS τ s1 = (1, 11, 0)) (k1 : G (d - 1) 139 0 [vR s1, vI y0] [] τ (KC d 95 25 28 [vR r0, vI x1, none] [] Q)) : G d 95 25 [vR r0, vI x1, none] [AI y0, AR s1] τ Q := by
  refine g_cv rfl rfl (by decide) rfl rfl (Nat.le_of_ble_eq_true rfl) (as2 := [AI y0]) rfl sh1 rfl (by omega) (L0 := [vR s1, vI y0]) rfl ?_
  exact k1

theorem t95_28 {d : Nat} {τ : T2} {Q : RS → T2 → Prop} {x1 y0 : Int} {r0 q3 n5 q8 : Nat} (hd : 1 ≤ d) (sh2 : tS τ r0 = (1, 11, 0)) (p4 : tP τ r0 2 = some q3) (sh6 : tS τ q3 = (3, 4, n5)) (b7 : ¬ y0 = 0 → 0 ≤ x1 ∧ x1 < (n5 : Int)) (p9 : ¬ y0 = 0 → tP τ q3 x1.toNat = some q8) (sh10 : tS τ q8 = (1, 6, 0)) (k1 : ¬ y0 = 0 → G (d - 1) 128 0 [vR r0, vI 3, vI x1, vQ (tP τ q8 10)] [] τ (KC d 95 45 48 [vR r0, vI x1, none] [] Q)) (k2 : y0 = 0 → Q (.inl (some (AI 0))) τ) : G d 95 28 [vR r0, vI x1, none] [AI y0] τ Q := by
  refine g_br1 rfl (t := 33) rfl (fun c1 => ?_) (fun c1 => ?_)
  · have c1 : ¬ y0 = 0 := of_decide_eq_true c1
    refine g_sk 4 (pc1 := 37) (st1 := [AR r0, AI x1, AI 3, AR r0]) rfl ?_
    refine g_gQ rfl (ci := 11) (k := 2) rfl sh2 p4 ?_
    refine g_sk 1 (pc1 := 41) (st1 := [AI x1, AR q3, AI x1, AI 3, AR r0]) rfl ?_
    refine g_aalQ rfl sh6 (by decide) (b7 c1).1 (b7 c1).2 (p9 c1) ?_
    refine g_gP rfl (ci := 6) (k := 10) rfl sh10 ?_
    refine g_cv rfl rfl (by decide) rfl rfl (Nat.le_of_ble_eq_true rfl) (as2 := [AI 3, AI x1, AP (tP τ q8 10)]) rfl sh2 rfl (by omega) (L0 := [vR r0, vI 3, vI x1, vQ (tP τ q8 10)]) rfl ?_
    exact (k1 c1)
  · have c1 : y0 = 0 := Decidable.of_not_not (of_decide_eq_false c1)
    refine g_sk 1 (pc1 := 32) (st1 := [AI 0]) rfl ?_
    refine g_zret rfl rfl (by decide) ?_
    exact (k2 c1)

theorem t95_48 {d : Nat} {τ : T2} {Q : RS → T2 → Prop} {x1 : Int} {r0 q2 n4 q7 : Nat} (hd : 1 ≤ d) (sh1 : tS τ r0 = (1, 11, 0)) (p3 : tP τ r0 2 = some q2) (sh5 : tS τ q2 = (3, 4, n4)) (b6 : 0 ≤ x1 ∧ x1 < (n4 : Int)) (p8 : tP τ r0 10 = some q7) (sh9 : tS τ q7 = (1, 9, 0)) (k1 : G (d - 1) 81 0 [vR q7] [] τ (KC d 95 58 61 [none, none, none] [AP (tP τ q2 x1.toNat)] Q)) : G d 95 48 [vR r0, vI x1, none] [] τ Q := by
  refine g_sk 1 (pc1 := 49) (st1 := [AR r0]) rfl ?_
  refine g_gQ rfl (ci := 11) (k := 2) rfl sh1 p3 ?_
  refine g_sk 1 (pc1 := 53) (st1 := [AI x1, AR q2]) rfl ?_
  refine g_aald rfl sh5 (by decide) b6.1 b6.2 ?_
  refine g_sk 1 (pc1 := 55) (st1 := [AR r0, AP (tP τ q2 x1.toNat)]) rfl ?_
  refine g_gQ rfl (ci := 11) (k := 10) rfl sh1 p8 ?_
  refine G_fg (lw2_f _ (lw2_f _ (lw2_k _ lw2_nil))) ?_
  refine g_cv rfl rfl (by decide) rfl rfl (Nat.le_of_ble_eq_true rfl) (as2 := []) rfl sh9 rfl (by omega) (L0 := [vR q7]) rfl ?_
  exact k1

theorem t95_61 {d : Nat} {τ : T2} {Q : RS → T2 → Prop} {s1 : Nat} {s0 : Option Nat} (sh1 : tS τ s1 = (1, 6, 0)) (k1 : Q (.inl (some (AI 1))) (uP τ s1 10 s0)) : G d 95 61 [none, none, none] [AP s0, AR s1] τ Q := by
  refine g_putP rfl (ci := 6) (k := 10) rfl sh1 ?_
  refine g_sk 1 (pc1 := 65) (st1 := [AI 1]) rfl ?_
  refine g_zret rfl rfl (by decide) ?_
  exact k1

theorem t96_0 {d : Nat} {τ : T2} {Q : RS → T2 → Prop} {x1 x2 : Int} {r0 : Nat} (hd : 1 ≤ d) (sh1 : tS τ r0 = (1, 11, 0)) (k1 : G (d - 1) 137 0 [vR r0, vI x1, vI 1, vI x2] [] τ (KC d 96 4 7 [vR r0, vI x1, vI x2] [] Q)) : G d 96 0 [vR r0, vI x1, vI x2] [] τ Q := by
  refine g_sk 4 (pc1 := 4) (st1 := [AI x2, AI 1, AI x1, AR r0]) rfl ?_
  refine g_cv rfl rfl (by decide) rfl rfl (Nat.le_of_ble_eq_true rfl) (as2 := [AI x1, AI 1, AI x2]) rfl sh1 rfl (by omega) (L0 := [vR r0, vI x1, vI 1, vI x2]) rfl ?_
  exact k1

theorem t96_7 {d : Nat} {τ : T2} {Q : RS → T2 → Prop} {x1 x2 y0 : Int} {r0 : Nat} (hd : 1 ≤ d) (sh2 : tS τ r0 = (1, 11, 0)) (k1 : ¬ y0 = 0 → G (d - 1) 138 0 [vR r0, vI x2] [] τ (KC d 96 14 17 [vR r0, vI x1, none] [] Q)) (k2 : y0 = 0 → Q (.inl (some (AI 0))) τ) : G d 96 7 [vR r0, vI x1, vI x2] [AI y0] τ Q := by
  refine g_br1 rfl (t := 12) rfl (fun c1 => ?_) (fun c1 => ?_)
  · have c1 : ¬ y0 = 0 := of_decide_eq_true c1
    refine g_sk 2 (pc1 := 14) (st1 := [AI x2, AR r0]) rfl ?_
    refine G_fg (lw2_k _ (lw2_k _ (lw2_f _ lw2_nil))) ?_
    refine g_cv rfl rfl (by decide) rfl rfl (Nat.le_of_ble_eq_true rfl) (as2 := [AI x2]) rfl sh2 rfl (by omega) (L0 := [vR r0, vI x2]) rfl ?_
    exact (k1 c1)
  · have c1 : y0 = 0 := Decidable.of_not_not (of_decide_eq_false c1)
    refine g_sk 1 (pc1 := 11) (st1 := [AI 0]) rfl ?_
    refine g_zret rfl rfl (by decide) ?_
    exact (k2 c1)

theorem t96_17 {d : Nat} {τ : T2} {Q : RS → T2 → Prop} {x1 : Int} {r0 : Nat} (hd : 1 ≤ d) (sh1 : tS τ r0 = (1, 11, 0)) (k1 : G (d - 1) 35 0 [vQ (tP τ r0 10), vI x1, none] [] τ (KC d 96 23 26 [vR r0, vI x1, none] [AR r0] Q)) : G d 96 17 [vR r0, vI x1, none] [] τ Q := by
  refine g_sk 2 (pc1 := 19) (st1 := [AR r0, AR r0]) rfl ?_
  refine g_gP rfl (ci := 11) (k := 10) rfl sh1 ?_
  refine g_sk 1 (pc1 := 23) (st1 := [AI x1, AP (tP τ r0 10), AR r0]) rfl ?_
  refine g_cs rfl rfl (by decide) rfl rfl (Nat.le_of_ble_eq_true rfl) rfl (by omega) (L0 := [vQ (tP τ r0 10), vI x1, none]) rfl ?_
  exact k1

theorem t96_26 {d : Nat} {τ : T2} {Q : RS → T2 → Prop} {x1 y0 : Int} {r0 s1 : Nat} (hd : 1 ≤ d) (sh1 : tS τ s1 = (1, 11, 0)) (k1 : G (d - 1) 139 0 [vR s1, vI y0] [] τ (KC d 96 26 29 [vR r0, vI x1, none] [] Q)) : G d 96 26 [vR r0, vI x1, none] [AI y0, AR s1] τ Q := by
  refine g_cv rfl rfl (by decide) rfl rfl (Nat.le_of_ble_eq_true rfl) (as2 := [AI y0]) rfl sh1 rfl (by omega) (L0 := [vR s1, vI y0]) rfl ?_
  exact k1

theorem t96_29 {d : Nat} {τ : T2} {Q : RS → T2 → Prop} {x1 y0 : Int} {r0 q3 n5 q8 : Nat} (hd : 1 ≤ d) (sh2 : tS τ r0 = (1, 11, 0)) (p4 : tP τ r0 2 = some q3) (sh6 : tS τ q3 = (3, 4, n5)) (b7 : ¬ y0 = 0 → 0 ≤ x1 ∧ x1 < (n5 : Int)) (p9 : ¬ y0 = 0 → tP τ q3 x1.toNat = some q8) (sh10 : tS τ q8 = (1, 6, 0)) (k1 : ¬ y0 = 0 → G (d - 1) 128 0 [vR r0, vI 4, vI x1, vQ (tP τ q8 11)] [] τ (KC d 96 46 49 [vR r0, vI x1, none] [] Q)) (k2 : y0 = 0 → Q (.inl (some (AI 0))) τ) : G d 96 29 [vR r0, vI x1, none] [AI y0] τ Q := by
  refine g_br1 rfl (t := 34) rfl (fun c1 => ?_) (fun c1 => ?_)
  · have c1 : ¬ y0 = 0 := of_decide_eq_true c1
    refine g_sk 4 (pc1 := 38) (st1 := [AR r0, AI x1, AI 4, AR r0]) rfl ?_
    refine g_gQ rfl (ci := 11) (k := 2) rfl sh2 p4 ?_
    refine g_sk 1 (pc1 := 42) (st1 := [AI x1, AR q3, AI x1, AI 4, AR r0]) rfl ?_
    refine g_aalQ rfl sh6 (by decide) (b7 c1).1 (b7 c1).2 (p9 c1) ?_
    refine g_gP rfl (ci := 6) (k := 11) rfl sh10 ?_
    refine g_cv rfl rfl (by decide) rfl rfl (Nat.le_of_ble_eq_true rfl) (as2 := [AI 4, AI x1, AP (tP τ q8 11)]) rfl sh2 rfl (by omega) (L0 := [vR r0, vI 4, vI x1, vQ (tP τ q8 11)]) rfl ?_
    exact (k1 c1)
  · have c1 : y0 = 0 := Decidable.of_not_not (of_decide_eq_false c1)
    refine g_sk 1 (pc1 := 33) (st1 := [AI 0]) rfl ?_
    refine g_zret rfl rfl (by decide) ?_
    exact (k2 c1)

theorem t96_49 {d : Nat} {τ : T2} {Q : RS → T2 → Prop} {x1 : Int} {r0 q2 n4 q7 : Nat} (hd : 1 ≤ d) (sh1 : tS τ r0 = (1, 11, 0)) (p3 : tP τ r0 2 = some q2) (sh5 : tS τ q2 = (3, 4, n4)) (b6 : 0 ≤ x1 ∧ x1 < (n4 : Int)) (p8 : tP τ r0 10 = some q7) (sh9 : tS τ q7 = (1, 9, 0)) (k1 : G (d - 1) 81 0 [vR q7] [] τ (KC d 96 59 62 [none, none, none] [AP (tP τ q2 x1.toNat)] Q)) : G d 96 49 [vR r0, vI x1, none] [] τ Q := by
  refine g_sk 1 (pc1 := 50) (st1 := [AR r0]) rfl ?_
  refine g_gQ rfl (ci := 11) (k := 2) rfl sh1 p3 ?_
  refine g_sk 1 (pc1 := 54) (st1 := [AI x1, AR q2]) rfl ?_
  refine g_aald rfl sh5 (by decide) b6.1 b6.2 ?_
  refine g_sk 1 (pc1 := 56) (st1 := [AR r0, AP (tP τ q2 x1.toNat)]) rfl ?_
  refine g_gQ rfl (ci := 11) (k := 10) rfl sh1 p8 ?_
  refine G_fg (lw2_f _ (lw2_f _ (lw2_k _ lw2_nil))) ?_
  refine g_cv rfl rfl (by decide) rfl rfl (Nat.le_of_ble_eq_true rfl) (as2 := []) rfl sh9 rfl (by omega) (L0 := [vR q7]) rfl ?_
  exact k1

theorem t96_62 {d : Nat} {τ : T2} {Q : RS → T2 → Prop} {s1 : Nat} {s0 : Option Nat} (sh1 : tS τ s1 = (1, 6, 0)) (k1 : Q (.inl (some (AI 1))) (uP τ s1 11 s0)) : G d 96 62 [none, none, none] [AP s0, AR s1] τ Q := by
  refine g_putP rfl (ci := 6) (k := 11) rfl sh1 ?_
  refine g_sk 1 (pc1 := 66) (st1 := [AI 1]) rfl ?_
  refine g_zret rfl rfl (by decide) ?_
  exact k1

theorem t97_0 {d : Nat} {τ : T2} {Q : RS → T2 → Prop} {x1 x2 x3 : Int} {r0 : Nat} (hd : 1 ≤ d) (sh1 : tS τ r0 = (1, 11, 0)) (k1 : G (d - 1) 129 0 [vR r0, vI x1] [] τ (KC d 97 2 5 [vR r0, vI x1, vI x2, vI x3, none] [] Q)) : G d 97 0 [vR r0, vI x1, vI x2, vI x3, none] [] τ Q := by
  refine g_sk 2 (pc1 := 2) (st1 := [AI x1, AR r0]) rfl ?_
  refine g_cv rfl rfl (by decide) rfl rfl (Nat.le_of_ble_eq_true rfl) (as2 := [AI x1]) rfl sh1 rfl (by omega) (L0 := [vR r0, vI x1]) rfl ?_
  exact k1

theorem t97_5 {d : Nat} {τ : T2} {Q : RS → T2 → Prop} {x1 x2 x3 y0 : Int} {r0 q7 n9 q12 : Nat} (hd : 1 ≤ d) (sh3 : tS τ r0 = (1, 11, 0)) (p8 : tP τ r0 2 = some q7) (sh10 : tS τ q7 = (3, 4, n9)) (b11 : ¬ y0 = 0 → 0 ≤ x2 → x2 ≤ 3 → 0 ≤ x3 → x3 ≤ 60 → 0 ≤ x1 ∧ x1 < (n9 : Int)) (p13 : ¬ y0 = 0 → 0 ≤ x2 → x2 ≤ 3 → 0 ≤ x3 → x3 ≤ 60 → tP τ q7 x1.toNat = some q12) (sh14 : tS τ q12 = (1, 6, 0)) (k1 : ¬ y0 = 0 → x2 < 0 → Q (.inl (some (AI 0))) (uI τ r0 16 2)) (k2 : ¬ y0 = 0 → 0 ≤ x2 → 3 < x2 → Q (.inl (some (AI 0))) (uI τ r0 16 2)) (k3 : ¬ y0 = 0 → 0 ≤ x2 → x2 ≤ 3 → x3 < 0 → Q (.inl (some (AI 0))) (uI τ r0 16 2)) (k4 : ¬ y0 = 0 → 0 ≤ x2 → x2 ≤ 3 → 0 ≤ x3 → x3 ≤ 60 → G (d - 1) 127 0 [vR r0, vI 5, vI x1, vI (tI τ q12 4), vI (tI τ q12 5), vI 0] [] τ (KC d 97 63 66 [none, none, vI x2, vI x3, vR q12] [] Q)) (k5 : ¬ y0 = 0 → 0 ≤ x2 → x2 ≤ 3 → 0 ≤ x3 → 60 < x3 → Q (.inl (some (AI 0))) (uI τ r0 16 2)) (k6 : y0 = 0 → Q (.inl (some (AI 0))) (uI τ r0 16 1)) : G d 97 5 [vR r0, vI x1, vI x2, vI x3, none] [AI y0] τ Q := by
  refine g_br1 rfl (t := 15) rfl (fun c1 => ?_) (fun c1 => ?_)
  · have c1 : ¬ y0 = 0 := of_decide_eq_true c1
    refine g_sk 1 (pc1 := 16) (st1 := [AI x2]) rfl ?_
    refine g_br1 rfl (t := 34) rfl (fun c2 => ?_) (fun c2 => ?_)
    · have c2 : x2 < 0 := of_decide_eq_true c2
      refine g_sk 2 (pc1 := 36) (st1 := [AI 2, AR r0]) rfl ?_
      refine g_putI (x := 2) rfl (ci := 11) (k := 16) (kd := 0) rfl (by decide) rfl rfl sh3 ?_
      refine g_sk 1 (pc1 := 40) (st1 := [AI 0]) rfl ?_
      refine g_zret rfl rfl (by decide) ?_
      exact (k1 c1 c2)
    · have c2 : 0 ≤ x2 := Int.not_lt.mp (of_decide_eq_false c2)
      refine g_sk 2 (pc1 := 21) (st1 := [AI 3, AI x2]) rfl ?_
      refine g_br2 rfl (t := 34) rfl (fun c4 => ?_) (fun c4 => ?_)
      · have c4 : 3 < x2 := of_decide_eq_true c4
        refine g_sk 2 (pc1 := 36) (st1 := [AI 2, AR r0]) rfl ?_
        refine g_putI (x := 2) rfl (ci := 11) (k := 16) (kd := 0) rfl (by decide) rfl rfl sh3 ?_
        refine g_sk 1 (pc1 := 40) (st1 := [AI 0]) rfl ?_
        refine g_zret rfl rfl (by decide) ?_
        exact (k2 c1 c2 c4)
      · have c4 : x2 ≤ 3 := Int.not_lt.mp (of_decide_eq_false c4)
        refine g_sk 1 (pc1 := 25) (st1 := [AI x3]) rfl ?_
        refine g_br1 rfl (t := 34) rfl (fun c5 => ?_) (fun c5 => ?_)
        · have c5 : x3 < 0 := of_decide_eq_true c5
          refine g_sk 2 (pc1 := 36) (st1 := [AI 2, AR r0]) rfl ?_
          refine g_putI (x := 2) rfl (ci := 11) (k := 16) (kd := 0) rfl (by decide) rfl rfl sh3 ?_
          refine g_sk 1 (pc1 := 40) (st1 := [AI 0]) rfl ?_
          refine g_zret rfl rfl (by decide) ?_
          exact (k3 c1 c2 c4 c5)
        · have c5 : 0 ≤ x3 := Int.not_lt.mp (of_decide_eq_false c5)
          refine g_sk 2 (pc1 := 31) (st1 := [AI 60, AI x3]) rfl ?_
          refine g_br2 rfl (t := 41) rfl (fun c6 => ?_) (fun c6 => ?_)
          · have c6 : x3 ≤ 60 := of_decide_eq_true c6
            refine g_sk 1 (pc1 := 42) (st1 := [AR r0]) rfl ?_
            refine g_gQ rfl (ci := 11) (k := 2) rfl sh3 p8 ?_
            refine g_sk 1 (pc1 := 46) (st1 := [AI x1, AR q7]) rfl ?_
            refine g_aalQ rfl sh10 (by decide) (b11 c1 c2 c4 c5 c6).1 (b11 c1 c2 c4 c5 c6).2 (p13 c1 c2 c4 c5 c6) ?_
            refine g_sx 5 (pc1 := 54) (L1 := [vR r0, vI x1, vI x2, vI x3, vR q12]) (st1 := [AR q12, AI x1, AI 5, AR r0]) rfl ?_
            refine g_gI rfl (ci := 6) (k := 4) rfl sh14 ?_
            refine g_sk 1 (pc1 := 59) (st1 := [AR q12, AI (tI τ q12 4), AI x1, AI 5, AR r0]) rfl ?_
            refine g_gI rfl (ci := 6) (k := 5) rfl sh14 ?_
            refine g_sk 1 (pc1 := 63) (st1 := [AI 0, AI (tI τ q12 5), AI (tI τ q12 4), AI x1, AI 5, AR r0]) rfl ?_
            refine G_fg (lw2_f _ (lw2_f _ (lw2_k _ (lw2_k _ (lw2_k _ lw2_nil))))) ?_
            refine g_cv rfl rfl (by decide) rfl rfl (Nat.le_of_ble_eq_true rfl) (as2 := [AI 5, AI x1, AI (tI τ q12 4), AI (tI τ q12 5), AI 0]) rfl sh3 rfl (by omega) (L0 := [vR r0, vI 5, vI x1, vI (tI τ q12 4), vI (tI τ q12 5), vI 0]) rfl ?_
            exact (k4 c1 c2 c4 c5 c6)
          · have c6 : 60 < x3 := Int.not_le.mp (of_decide_eq_false c6)
            refine g_sk 2 (pc1 := 36) (st1 := [AI 2, AR r0]) rfl ?_
            refine g_putI (x := 2) rfl (ci := 11) (k := 16) (kd := 0) rfl (by decide) rfl rfl sh3 ?_
            refine g_sk 1 (pc1 := 40) (st1 := [AI 0]) rfl ?_
            refine g_zret rfl rfl (by decide) ?_
            exact (k5 c1 c2 c4 c5 c6)
  · have c1 : y0 = 0 := Decidable.of_not_not (of_decide_eq_false c1)
    refine g_sk 2 (pc1 := 10) (st1 := [AI 1, AR r0]) rfl ?_
    refine g_putI (x := 1) rfl (ci := 11) (k := 16) (kd := 0) rfl (by decide) rfl rfl sh3 ?_
    refine g_sk 1 (pc1 := 14) (st1 := [AI 0]) rfl ?_
    refine g_zret rfl rfl (by decide) ?_
    exact (k6 c1)

theorem t97_66 {d : Nat} {τ : T2} {Q : RS → T2 → Prop} {x2 x3 : Int} {r4 : Nat} (sh1 : tS τ r4 = (1, 6, 0)) (k1 : Q (.inl (some (AI 1))) (uI (uI τ r4 4 x2) r4 5 x3)) : G d 97 66 [none, none, vI x2, vI x3, vR r4] [] τ Q := by
  refine g_sk 2 (pc1 := 69) (st1 := [AI x2, AR r4]) rfl ?_
  refine g_putI (x := x2) rfl (ci := 6) (k := 4) (kd := 0) rfl (by decide) rfl rfl sh1 ?_
  refine g_sk 2 (pc1 := 75) (st1 := [AI x3, AR r4]) rfl ?_
  refine g_putI (x := x3) rfl (ci := 6) (k := 5) (kd := 0) rfl (by decide) rfl rfl sh1 ?_
  refine g_sk 1 (pc1 := 79) (st1 := [AI 1]) rfl ?_
  refine g_zret rfl rfl (by decide) ?_
  exact k1

theorem t98_0 {d : Nat} {τ : T2} {Q : RS → T2 → Prop} {x1 x2 x3 : Int} {r0 : Nat} (hd : 1 ≤ d) (sh1 : tS τ r0 = (1, 11, 0)) (k1 : G (d - 1) 129 0 [vR r0, vI x1] [] τ (KC d 98 2 5 [vR r0, vI x1, vI x2, vI x3, none] [] Q)) : G d 98 0 [vR r0, vI x1, vI x2, vI x3, none] [] τ Q := by
  refine g_sk 2 (pc1 := 2) (st1 := [AI x1, AR r0]) rfl ?_
  refine g_cv rfl rfl (by decide) rfl rfl (Nat.le_of_ble_eq_true rfl) (as2 := [AI x1]) rfl sh1 rfl (by omega) (L0 := [vR r0, vI x1]) rfl ?_
  exact k1

theorem t98_5 {d : Nat} {τ : T2} {Q : RS → T2 → Prop} {x1 x2 x3 y0 : Int} {r0 q7 n9 q12 q16 n18 q21 n23 : Nat} (hd : 1 ≤ d) (sh3 : tS τ r0 = (1, 11, 0)) (p8 : tP τ r0 2 = some q7) (sh10 : tS τ q7 = (3, 4, n9)) (b11 : ¬ y0 = 0 → 0 ≤ x2 → x2 ≤ 999 → 0 ≤ x3 → x3 ≤ 999 → 0 ≤ x1 ∧ x1 < (n9 : Int)) (p13 : ¬ y0 = 0 → 0 ≤ x2 → x2 ≤ 999 → 0 ≤ x3 → x3 ≤ 999 → tP τ q7 x1.toNat = some q12) (sh14 : tS τ q12 = (1, 6, 0)) (p17 : tP τ q12 7 = some q16) (sh19 : tS τ q16 = (2, 0, n18)) (b20 : ¬ y0 = 0 → 0 ≤ x2 → x2 ≤ 999 → 0 ≤ x3 → x3 ≤ 999 → (tI τ q12 6) < 3 → 0 ≤ (tI τ q12 6) ∧ (tI τ q12 6) < (n18 : Int)) (p22 : tP τ q12 8 = some q21) (sh24 : tS τ q21 = (2, 0, n23)) (b25 : ¬ y0 = 0 → 0 ≤ x2 → x2 ≤ 999 → 0 ≤ x3 → x3 ≤ 999 → (tI τ q12 6) < 3 → 0 ≤ (tI (uI τ q16 (tI τ q12 6).toNat x2) q12 6) ∧ (tI (uI τ q16 (tI τ q12 6).toNat x2) q12 6) < (n23 : Int)) (k1 : ¬ y0 = 0 → x2 < 0 → G (d - 1) 126 0 [vR r0, vI 2] [] τ (KC d 98 38 41 [none, none, none, none, none] [] Q)) (k2 : ¬ y0 = 0 → 0 ≤ x2 → 999 < x2 → G (d - 1) 126 0 [vR r0, vI 2] [] τ (KC d 98 38 41 [none, none, none, none, none] [] Q)) (k3 : ¬ y0 = 0 → 0 ≤ x2 → x2 ≤ 999 → x3 < 0 → G (d - 1) 126 0 [vR r0, vI 2] [] τ (KC d 98 38 41 [none, none, none, none, none] [] Q)) (k4 : ¬ y0 = 0 → 0 ≤ x2 → x2 ≤ 999 → 0 ≤ x3 → x3 ≤ 999 → (tI τ q12 6) < 3 → G (d - 1) 127 0 [vR r0, vI 6, vI x1, vI 0, vI 0, vI 0] [] (uI (uI (uI τ q16 (tI τ q12 6).toNat x2) q21 (tI (uI τ q16 (tI τ q12 6).toNat x2) q12 6).toNat x3) q12 6 (wr ((tI (uI (uI τ q16 (tI τ q12 6).toNat x2) q21 (tI (uI τ q16 (tI τ q12 6).toNat x2) q12 6).toNat x3) q12 6) + 1))) (KC d 98 107 110 [none, none, none, none, vR q12] [] Q)) (k5 : ¬ y0 = 0 → 0 ≤ x2 → x2 ≤ 999 → 0 ≤ x3 → x3 ≤ 999 → 3 ≤ (tI τ q12 6) → G (d - 1) 126 0 [vR r0, vI 3] [] τ (KC d 98 61 64 [none, none, none, none, none] [] Q)) (k6 : ¬ y0 = 0 → 0 ≤ x2 → x2 ≤ 999 → 0 ≤ x3 → 999 < x3 → G (d - 1) 126 0 [vR r0, vI 2] [] τ (KC d 98 38 41 [none, none, none, none, none] [] Q)) (k7 : y0 = 0 → G (d - 1) 126 0 [vR r0, vI 1] [] τ (KC d 98 10 13 [none, none, none, none, none] [] Q)) : G d 98 5 [vR r0, vI x1, vI x2, vI x3, none] [AI y0] τ Q := by
  refine g_br1 rfl (t := 14) rfl (fun c1 => ?_) (fun c1 => ?_)
  · have c1 : ¬ y0 = 0 := of_decide_eq_true c1
    refine g_sk 1 (pc1 := 15) (st1 := [AI x2]) rfl ?_
    refine g_br1 rfl (t := 36) rfl (fun c2 => ?_) (fun c2 => ?_)
    · have c2 : x2 < 0 := of_decide_eq_true c2
      refine g_sk 2 (pc1 := 38) (st1 := [AI 2, AR r0]) rfl ?_
      refine G_fg (lw2_f _ (lw2_f _ (lw2_f _ (lw2_f _ (lw2_k _ lw2_nil))))) ?_
      refine g_cv rfl rfl (by decide) rfl rfl (Nat.le_of_ble_eq_true rfl) (as2 := [AI 2]) rfl sh3 rfl (by omega) (L0 := [vR r0, vI 2]) rfl ?_
      exact (k1 c1 c2)
    · have c2 : 0 ≤ x2 := Int.not_lt.mp (of_decide_eq_false c2)
      refine g_sk 2 (pc1 := 22) (st1 := [AI 999, AI x2]) rfl ?_
      refine g_br2 rfl (t := 36) rfl (fun c4 => ?_) (fun c4 => ?_)
      · have c4 : 999 < x2 := of_decide_eq_true c4
        refine g_sk 2 (pc1 := 38) (st1 := [AI 2, AR r0]) rfl ?_
        refine G_fg (lw2_f _ (lw2_f _ (lw2_f _ (lw2_f _ (lw2_k _ lw2_nil))))) ?_
        refine g_cv rfl rfl (by decide) rfl rfl (Nat.le_of_ble_eq_true rfl) (as2 := [AI 2]) rfl sh3 rfl (by omega) (L0 := [vR r0, vI 2]) rfl ?_
        exact (k2 c1 c2 c4)
      · have c4 : x2 ≤ 999 := Int.not_lt.mp (of_decide_eq_false c4)
        refine g_sk 1 (pc1 := 26) (st1 := [AI x3]) rfl ?_
        refine g_br1 rfl (t := 36) rfl (fun c5 => ?_) (fun c5 => ?_)
        · have c5 : x3 < 0 := of_decide_eq_true c5
          refine g_sk 2 (pc1 := 38) (st1 := [AI 2, AR r0]) rfl ?_
          refine G_fg (lw2_f _ (lw2_f _ (lw2_f _ (lw2_f _ (lw2_k _ lw2_nil))))) ?_
          refine g_cv rfl rfl (by decide) rfl rfl (Nat.le_of_ble_eq_true rfl) (as2 := [AI 2]) rfl sh3 rfl (by omega) (L0 := [vR r0, vI 2]) rfl ?_
          exact (k3 c1 c2 c4 c5)
        · have c5 : 0 ≤ x3 := Int.not_lt.mp (of_decide_eq_false c5)
          refine g_sk 2 (pc1 := 33) (st1 := [AI 999, AI x3]) rfl ?_
          refine g_br2 rfl (t := 42) rfl (fun c6 => ?_) (fun c6 => ?_)
          · have c6 : x3 ≤ 999 := of_decide_eq_true c6
            refine g_sk 1 (pc1 := 43) (st1 := [AR r0]) rfl ?_
            refine g_gQ rfl (ci := 11) (k := 2) rfl sh3 p8 ?_
            refine g_sk 1 (pc1 := 47) (st1 := [AI x1, AR q7]) rfl ?_
            refine g_aalQ rfl sh10 (by decide) (b11 c1 c2 c4 c5 c6).1 (b11 c1 c2 c4 c5 c6).2 (p13 c1 c2 c4 c5 c6) ?_
            refine g_sx 2 (pc1 := 52) (L1 := [vR r0, vI x1, vI x2, vI x3, vR q12]) (st1 := [AR q12]) rfl ?_
            refine g_gI rfl (ci := 6) (k := 6) rfl sh14 ?_
            refine g_sk 1 (pc1 := 56) (st1 := [AI 3, AI (tI τ q12 6)]) rfl ?_
            refine g_br2 rfl (t := 65) rfl (fun c15 => ?_) (fun c15 => ?_)
            · have c15 : (tI τ q12 6) < 3 := of_decide_eq_true c15
              refine g_sk 1 (pc1 := 67) (st1 := [AR q12]) rfl ?_
              refine g_gQ rfl (ci := 6) (k := 7) rfl sh14 p17 ?_
              refine g_sk 1 (pc1 := 72) (st1 := [AR q12, AR q16]) rfl ?_
              refine g_gI rfl (ci := 6) (k := 6) rfl sh14 ?_
              refine g_sk 1 (pc1 := 76) (st1 := [AI x2, AI (tI τ q12 6), AR q16]) rfl ?_
              refine g_iast rfl sh19 (b20 c1 c2 c4 c5 c6 c15).1 (b20 c1 c2 c4 c5 c6 c15).2 ?_
              refine g_sk 1 (pc1 := 79) (st1 := [AR q12]) rfl ?_
              refine g_gQ rfl (ci := 6) (k := 8) rfl sh14 p22 ?_
              refine g_sk 1 (pc1 := 84) (st1 := [AR q12, AR q21]) rfl ?_
              refine g_gI rfl (ci := 6) (k := 6) rfl sh14 ?_
              refine g_sk 1 (pc1 := 88) (st1 := [AI x3, AI (tI (uI τ q16 (tI τ q12 6).toNat x2) q12 6), AR q21]) rfl ?_
              refine g_iast rfl sh24 (b25 c1 c2 c4 c5 c6 c15).1 (b25 c1 c2 c4 c5 c6 c15).2 ?_
              refine g_sk 2 (pc1 := 92) (st1 := [AR q12, AR q12]) rfl ?_
              refine g_gI rfl (ci := 6) (k := 6) rfl sh14 ?_
              refine g_sk 2 (pc1 := 97) (st1 := [AI (wr ((tI (uI (uI τ q16 (tI τ q12 6).toNat x2) q21 (tI (uI τ q16 (tI τ q12 6).toNat x2) q12 6).toNat x3) q12 6) + 1)), AR q12]) rfl ?_
              refine g_putI (x := (wr ((tI (uI (uI τ q16 (tI τ q12 6).toNat x2) q21 (tI (uI τ q16 (tI τ q12 6).toNat x2) q12 6).toNat x3) q12 6) + 1))) rfl (ci := 6) (k := 6) (kd := 0) rfl (by decide) rfl rfl sh14 ?_
              refine g_sk 6 (pc1 := 107) (st1 := [AI 0, AI 0, AI 0, AI x1, AI 6, AR r0]) rfl ?_
              refine G_fg (lw2_f _ (lw2_f _ (lw2_f _ (lw2_f _ (lw2_k _ lw2_nil))))) ?_
              refine g_cv rfl rfl (by decide) rfl rfl (Nat.le_of_ble_eq_true rfl) (as2 := [AI 6, AI x1, AI 0, AI 0, AI 0]) rfl sh3 rfl (by omega) (L0 := [vR r0, vI 6, vI x1, vI 0, vI 0, vI 0]) rfl ?_
              exact (k4 c1 c2 c4 c5 c6 c15)
            · have c15 : 3 ≤ (tI τ q12 6) := Int.not_lt.mp (of_decide_eq_false c15)
              refine g_sk 2 (pc1 := 61) (st1 := [AI 3, AR r0]) rfl ?_
              refine G_fg (lw2_f _ (lw2_f _ (lw2_f _ (lw2_f _ (lw2_f _ lw2_nil))))) ?_
              refine g_cv rfl rfl (by decide) rfl rfl (Nat.le_of_ble_eq_true rfl) (as2 := [AI 3]) rfl sh3 rfl (by omega) (L0 := [vR r0, vI 3]) rfl ?_
              exact (k5 c1 c2 c4 c5 c6 c15)
          · have c6 : 999 < x3 := Int.not_le.mp (of_decide_eq_false c6)
            refine g_sk 2 (pc1 := 38) (st1 := [AI 2, AR r0]) rfl ?_
            refine G_fg (lw2_f _ (lw2_f _ (lw2_f _ (lw2_f _ (lw2_k _ lw2_nil))))) ?_
            refine g_cv rfl rfl (by decide) rfl rfl (Nat.le_of_ble_eq_true rfl) (as2 := [AI 2]) rfl sh3 rfl (by omega) (L0 := [vR r0, vI 2]) rfl ?_
            exact (k6 c1 c2 c4 c5 c6)
  · have c1 : y0 = 0 := Decidable.of_not_not (of_decide_eq_false c1)
    refine g_sk 2 (pc1 := 10) (st1 := [AI 1, AR r0]) rfl ?_
    refine G_fg (lw2_f _ (lw2_f _ (lw2_f _ (lw2_f _ (lw2_k _ lw2_nil))))) ?_
    refine g_cv rfl rfl (by decide) rfl rfl (Nat.le_of_ble_eq_true rfl) (as2 := [AI 1]) rfl sh3 rfl (by omega) (L0 := [vR r0, vI 1]) rfl ?_
    exact (k7 c1)

theorem t98_13 {d : Nat} {τ : T2} {Q : RS → T2 → Prop} {y0 : Int} (k1 : Q (.inl (some (AI y0))) τ) : G d 98 13 [none, none, none, none, none] [AI y0] τ Q := by
  refine g_iret rfl rfl ?_
  exact k1

theorem t98_41 {d : Nat} {τ : T2} {Q : RS → T2 → Prop} {y0 : Int} (k1 : Q (.inl (some (AI y0))) τ) : G d 98 41 [none, none, none, none, none] [AI y0] τ Q := by
  refine g_iret rfl rfl ?_
  exact k1

theorem t98_64 {d : Nat} {τ : T2} {Q : RS → T2 → Prop} {y0 : Int} (k1 : Q (.inl (some (AI y0))) τ) : G d 98 64 [none, none, none, none, none] [AI y0] τ Q := by
  refine g_iret rfl rfl ?_
  exact k1

theorem t98_110 {d : Nat} {τ : T2} {Q : RS → T2 → Prop} {r4 : Nat} (sh1 : tS τ r4 = (1, 6, 0)) (k1 : Q (.inl (some (AI (tI τ r4 6)))) τ) : G d 98 110 [none, none, none, none, vR r4] [] τ Q := by
  refine g_sk 1 (pc1 := 112) (st1 := [AR r4]) rfl ?_
  refine g_gI rfl (ci := 6) (k := 6) rfl sh1 ?_
  refine g_iret rfl rfl ?_
  exact k1

theorem t99_0 {d : Nat} {τ : T2} {Q : RS → T2 → Prop} {r0 : Nat} (sh1 : tS τ r0 = (1, 11, 0)) (k1 : Q (.inl (some (AI (tI τ r0 17)))) τ) : G d 99 0 [vR r0] [] τ Q := by
  refine g_sk 1 (pc1 := 1) (st1 := [AR r0]) rfl ?_
  refine g_gI rfl (ci := 11) (k := 17) rfl sh1 ?_
  refine g_iret rfl rfl ?_
  exact k1

theorem t100_0 {d : Nat} {τ : T2} {Q : RS → T2 → Prop} {r0 q3 : Nat} (sh1 : tS τ r0 = (1, 11, 0)) (p4 : tP τ r0 10 = some q3) (sh5 : tS τ q3 = (1, 9, 0)) (k1 : ¬ (tI τ r0 16) = 4 → Q (.inl (some (AI (-1)))) τ) (k2 : (tI τ r0 16) = 4 → Q (.inl (some (AI (tI τ q3 7)))) τ) : G d 100 0 [vR r0] [] τ Q := by
  refine g_sk 1 (pc1 := 1) (st1 := [AR r0]) rfl ?_
  refine g_gI rfl (ci := 11) (k := 16) rfl sh1 ?_
  refine g_sk 1 (pc1 := 5) (st1 := [AI 4, AI (tI τ r0 16)]) rfl ?_
  refine g_br2 rfl (t := 18) rfl (fun c2 => ?_) (fun c2 => ?_)
  · have c2 : ¬ (tI τ r0 16) = 4 := of_decide_eq_true c2
    refine g_sk 1 (pc1 := 19) (st1 := [AI (-1)]) rfl ?_
    refine g_iret rfl rfl ?_
    exact (k1 c2)
  · have c2 : (tI τ r0 16) = 4 := Decidable.of_not_not (of_decide_eq_false c2)
    refine g_sk 1 (pc1 := 9) (st1 := [AR r0]) rfl ?_
    refine g_gQ rfl (ci := 11) (k := 10) rfl sh1 p4 ?_
    refine g_gI rfl (ci := 9) (k := 7) rfl sh5 ?_
    refine g_sk 1 (pc1 := 19) (st1 := [AI (tI τ q3 7)]) rfl ?_
    refine g_iret rfl rfl ?_
    exact (k2 c2)

theorem t101_0 {d : Nat} {τ : T2} {Q : RS → T2 → Prop} {x1 x2 : Int} {r0 : Nat} (hd : 1 ≤ d) (sh1 : tS τ r0 = (1, 11, 0)) (k1 : G (d - 1) 129 0 [vR r0, vI x1] [] τ (KC d 101 2 5 [vR r0, vI x1, vI x2, none] [] Q)) : G d 101 0 [vR r0, vI x1, vI x2, none] [] τ Q := by
  refine g_sk 2 (pc1 := 2) (st1 := [AI x1, AR r0]) rfl ?_
  refine g_cv rfl rfl (by decide) rfl rfl (Nat.le_of_ble_eq_true rfl) (as2 := [AI x1]) rfl sh1 rfl (by omega) (L0 := [vR r0, vI x1]) rfl ?_
  exact k1

theorem t101_5 {d : Nat} {τ : T2} {Q : RS → T2 → Prop} {x1 x2 y0 : Int} {r0 q3 n5 : Nat} (sh2 : tS τ r0 = (1, 11, 0)) (p4 : tP τ r0 2 = some q3) (sh6 : tS τ q3 = (3, 4, n5)) (b7 : ¬ y0 = 0 → 0 ≤ x1 ∧ x1 < (n5 : Int)) (k1 : ¬ y0 = 0 → G d 101 18 [none, none, none, vQ (tP τ q3 x1.toNat)] [AI x2] τ Q) (k2 : y0 = 0 → Q (.inl (some (AI (-1)))) τ) : G d 101 5 [vR r0, vI x1, vI x2, none] [AI y0] τ Q := by
  refine g_br1 rfl (t := 10) rfl (fun c1 => ?_) (fun c1 => ?_)
  · have c1 : ¬ y0 = 0 := of_decide_eq_true c1
    refine g_sk 1 (pc1 := 11) (st1 := [AR r0]) rfl ?_
    refine g_gQ rfl (ci := 11) (k := 2) rfl sh2 p4 ?_
    refine g_sk 1 (pc1 := 15) (st1 := [AI x1, AR q3]) rfl ?_
    refine g_aald rfl sh6 (by decide) (b7 c1).1 (b7 c1).2 ?_
    refine g_sx 2 (pc1 := 18) (L1 := [vR r0, vI x1, vI x2, vQ (tP τ q3 x1.toNat)]) (st1 := [AI x2]) rfl ?_
    exact G_fg (lw2_f _ (lw2_f _ (lw2_f _ (lw2_k _ lw2_nil)))) (k1 c1)
  · have c1 : y0 = 0 := Decidable.of_not_not (of_decide_eq_false c1)
    refine g_sk 1 (pc1 := 9) (st1 := [AI (-1)]) rfl ?_
    refine g_iret rfl rfl ?_
    exact (k2 c1)

theorem t101_105 {d : Nat} {τ : T2} {Q : RS → T2 → Prop}  (k1 : Q (.inl (some (AI 1))) τ) : G d 101 105 [none, none, none, none] [] τ Q := by
  refine g_sk 2 (pc1 := 110) (st1 := [AI 1]) rfl ?_
  refine g_iret rfl rfl ?_
  exact k1

theorem t101_109 {d : Nat} {τ : T2} {Q : RS → T2 → Prop}  (k1 : Q (.inl (some (AI 0))) τ) : G d 101 109 [none, none, none, none] [] τ Q := by
  refine g_sk 1 (pc1 := 110) (st1 := [AI 0]) rfl ?_
  refine g_iret rfl rfl ?_
  exact k1

theorem t101_118 {d : Nat} {τ : T2} {Q : RS → T2 → Prop}  (k1 : Q (.inl (some (AI 1))) τ) : G d 101 118 [none, none, none, none] [] τ Q := by
  refine g_sk 2 (pc1 := 123) (st1 := [AI 1]) rfl ?_
  refine g_iret rfl rfl ?_
  exact k1

theorem t101_122 {d : Nat} {τ : T2} {Q : RS → T2 → Prop}  (k1 : Q (.inl (some (AI 0))) τ) : G d 101 122 [none, none, none, none] [] τ Q := by
  refine g_sk 1 (pc1 := 123) (st1 := [AI 0]) rfl ?_
  refine g_iret rfl rfl ?_
  exact k1

theorem t101_131 {d : Nat} {τ : T2} {Q : RS → T2 → Prop}  (k1 : Q (.inl (some (AI 1))) τ) : G d 101 131 [none, none, none, none] [] τ Q := by
  refine g_sk 2 (pc1 := 136) (st1 := [AI 1]) rfl ?_
  refine g_iret rfl rfl ?_
  exact k1

theorem t101_135 {d : Nat} {τ : T2} {Q : RS → T2 → Prop}  (k1 : Q (.inl (some (AI 0))) τ) : G d 101 135 [none, none, none, none] [] τ Q := by
  refine g_sk 1 (pc1 := 136) (st1 := [AI 0]) rfl ?_
  refine g_iret rfl rfl ?_
  exact k1

theorem t102_0 {d : Nat} {τ : T2} {Q : RS → T2 → Prop} {x1 x2 : Int} {r0 : Nat} (hd : 1 ≤ d) (sh1 : tS τ r0 = (1, 11, 0)) (k1 : G (d - 1) 136 0 [vR r0, vI x1, vI x2] [] τ (KC d 102 3 6 [vR r0, vI x1, none] [] Q)) : G d 102 0 [vR r0, vI x1, vI x2] [] τ Q := by
  refine g_sk 3 (pc1 := 3) (st1 := [AI x2, AI x1, AR r0]) rfl ?_
  refine G_fg (lw2_k _ (lw2_k _ (lw2_f _ lw2_nil))) ?_
  refine g_cv rfl rfl (by decide) rfl rfl (Nat.le_of_ble_eq_true rfl) (as2 := [AI x1, AI x2]) rfl sh1 rfl (by omega) (L0 := [vR r0, vI x1, vI x2]) rfl ?_
  exact k1

theorem t102_6 {d : Nat} {τ : T2} {Q : RS → T2 → Prop} {x1 y0 : Int} {r0 q3 q5 n7 : Nat} (hd : 1 ≤ d) (sh2 : tS τ r0 = (1, 11, 0)) (p4 : tP τ r0 11 = some q3) (p6 : tP τ r0 2 = some q5) (sh8 : tS τ q5 = (3, 4, n7)) (b9 : ¬ y0 = 0 → 0 ≤ x1 ∧ x1 < (n7 : Int)) (sh10 : tS τ q3 = (1, 4, 0)) (k1 : y0 = 0 → Q (.inl (some (AI (-1)))) τ) (k2 : ¬ y0 = 0 → G (d - 1) 15 0 [vR q3, vQ (tP τ q5 x1.toNat), none] [] τ (KC d 102 19 22 [none, none, none] [] Q)) : G d 102 6 [vR r0, vI x1, none] [AI y0] τ Q := by
  refine g_br1 rfl (t := 25) rfl (fun c1 => ?_) (fun c1 => ?_)
  · have c1 : y0 = 0 := of_decide_eq_true c1
    refine g_sk 1 (pc1 := 26) (st1 := [AI (-1)]) rfl ?_
    refine g_iret rfl rfl ?_
    exact (k1 c1)
  · have c1 : ¬ y0 = 0 := of_decide_eq_false c1
    refine g_sk 1 (pc1 := 10) (st1 := [AR r0]) rfl ?_
    refine g_gQ rfl (ci := 11) (k := 11) rfl sh2 p4 ?_
    refine g_sk 1 (pc1 := 14) (st1 := [AR r0, AR q3]) rfl ?_
    refine g_gQ rfl (ci := 11) (k := 2) rfl sh2 p6 ?_
    refine g_sk 1 (pc1 := 18) (st1 := [AI x1, AR q5, AR q3]) rfl ?_
    refine g_aald rfl sh8 (by decide) (b9 c1).1 (b9 c1).2 ?_
    refine G_fg (lw2_f _ (lw2_f _ (lw2_k _ lw2_nil))) ?_
    refine g_cv rfl rfl (by decide) rfl rfl (Nat.le_of_ble_eq_true rfl) (as2 := [AP (tP τ q5 x1.toNat)]) rfl sh10 rfl (by omega) (L0 := [vR q3, vQ (tP τ q5 x1.toNat), none]) rfl ?_
    exact (k2 c1)

theorem t102_22 {d : Nat} {τ : T2} {Q : RS → T2 → Prop} {y0 : Int} (k1 : Q (.inl (some (AI y0))) τ) : G d 102 22 [none, none, none] [AI y0] τ Q := by
  refine g_sk 1 (pc1 := 26) (st1 := [AI y0]) rfl ?_
  refine g_iret rfl rfl ?_
  exact k1

theorem t103_0 {d : Nat} {τ : T2} {Q : RS → T2 → Prop} {x1 x2 : Int} {r0 : Nat} (hd : 1 ≤ d) (sh1 : tS τ r0 = (1, 11, 0)) (k1 : G (d - 1) 136 0 [vR r0, vI x1, vI x2] [] τ (KC d 103 3 6 [vR r0, vI x1, none] [] Q)) : G d 103 0 [vR r0, vI x1, vI x2] [] τ Q := by
  refine g_sk 3 (pc1 := 3) (st1 := [AI x2, AI x1, AR r0]) rfl ?_
  refine G_fg (lw2_k _ (lw2_k _ (lw2_f _ lw2_nil))) ?_
  refine g_cv rfl rfl (by decide) rfl rfl (Nat.le_of_ble_eq_true rfl) (as2 := [AI x1, AI x2]) rfl sh1 rfl (by omega) (L0 := [vR r0, vI x1, vI x2]) rfl ?_
  exact k1

theorem t103_6 {d : Nat} {τ : T2} {Q : RS → T2 → Prop} {x1 y0 : Int} {r0 q3 q5 n7 : Nat} (hd : 1 ≤ d) (sh2 : tS τ r0 = (1, 11, 0)) (p4 : tP τ r0 11 = some q3) (p6 : tP τ r0 2 = some q5) (sh8 : tS τ q5 = (3, 4, n7)) (b9 : ¬ y0 = 0 → 0 ≤ x1 ∧ x1 < (n7 : Int)) (sh10 : tS τ q3 = (1, 4, 0)) (k1 : y0 = 0 → Q (.inl (some (AI (-1)))) τ) (k2 : ¬ y0 = 0 → G (d - 1) 18 0 [vR q3, vQ (tP τ q5 x1.toNat), none, none, none, none, none] [] τ (KC d 103 19 22 [none, none, none] [] Q)) : G d 103 6 [vR r0, vI x1, none] [AI y0] τ Q := by
  refine g_br1 rfl (t := 25) rfl (fun c1 => ?_) (fun c1 => ?_)
  · have c1 : y0 = 0 := of_decide_eq_true c1
    refine g_sk 1 (pc1 := 26) (st1 := [AI (-1)]) rfl ?_
    refine g_iret rfl rfl ?_
    exact (k1 c1)
  · have c1 : ¬ y0 = 0 := of_decide_eq_false c1
    refine g_sk 1 (pc1 := 10) (st1 := [AR r0]) rfl ?_
    refine g_gQ rfl (ci := 11) (k := 11) rfl sh2 p4 ?_
    refine g_sk 1 (pc1 := 14) (st1 := [AR r0, AR q3]) rfl ?_
    refine g_gQ rfl (ci := 11) (k := 2) rfl sh2 p6 ?_
    refine g_sk 1 (pc1 := 18) (st1 := [AI x1, AR q5, AR q3]) rfl ?_
    refine g_aald rfl sh8 (by decide) (b9 c1).1 (b9 c1).2 ?_
    refine G_fg (lw2_f _ (lw2_f _ (lw2_k _ lw2_nil))) ?_
    refine g_cv rfl rfl (by decide) rfl rfl (Nat.le_of_ble_eq_true rfl) (as2 := [AP (tP τ q5 x1.toNat)]) rfl sh10 rfl (by omega) (L0 := [vR q3, vQ (tP τ q5 x1.toNat), none, none, none, none, none]) rfl ?_
    exact (k2 c1)

theorem t103_22 {d : Nat} {τ : T2} {Q : RS → T2 → Prop} {y0 : Int} (k1 : Q (.inl (some (AI y0))) τ) : G d 103 22 [none, none, none] [AI y0] τ Q := by
  refine g_sk 1 (pc1 := 26) (st1 := [AI y0]) rfl ?_
  refine g_iret rfl rfl ?_
  exact k1

theorem t104_0 {d : Nat} {τ : T2} {Q : RS → T2 → Prop} {x1 : Int} {r0 : Nat} (hd : 1 ≤ d) (sh1 : tS τ r0 = (1, 11, 0)) (k1 : G (d - 1) 106 0 [vR r0, vI x1, vI 0, none] [] τ (KC d 104 3 6 [none, none] [] Q)) : G d 104 0 [vR r0, vI x1] [] τ Q := by
  refine g_sk 3 (pc1 := 3) (st1 := [AI 0, AI x1, AR r0]) rfl ?_
  refine G_fg (lw2_f _ (lw2_f _ lw2_nil)) ?_
  refine g_cv rfl rfl (by decide) rfl rfl (Nat.le_of_ble_eq_true rfl) (as2 := [AI x1, AI 0]) rfl sh1 rfl (by omega) (L0 := [vR r0, vI x1, vI 0, none]) rfl ?_
  exact k1

theorem t104_6 {d : Nat} {τ : T2} {Q : RS → T2 → Prop} {y0 : Int} (k1 : Q (.inl (some (AI y0))) τ) : G d 104 6 [none, none] [AI y0] τ Q := by
  refine g_iret rfl rfl ?_
  exact k1

theorem t105_0 {d : Nat} {τ : T2} {Q : RS → T2 → Prop} {x1 : Int} {r0 : Nat} (hd : 1 ≤ d) (sh1 : tS τ r0 = (1, 11, 0)) (k1 : G (d - 1) 129 0 [vR r0, vI x1] [] τ (KC d 105 2 5 [vR r0, vI x1, none, none] [] Q)) : G d 105 0 [vR r0, vI x1, none, none] [] τ Q := by
  refine g_sk 2 (pc1 := 2) (st1 := [AI x1, AR r0]) rfl ?_
  refine g_cv rfl rfl (by decide) rfl rfl (Nat.le_of_ble_eq_true rfl) (as2 := [AI x1]) rfl sh1 rfl (by omega) (L0 := [vR r0, vI x1]) rfl ?_
  exact k1

theorem t105_5 {d : Nat} {τ : T2} {Q : RS → T2 → Prop} {x1 y0 : Int} {r0 q3 n5 q8 : Nat} (hd : 1 ≤ d) (sh2 : tS τ r0 = (1, 11, 0)) (p4 : tP τ r0 2 = some q3) (sh6 : tS τ q3 = (3, 4, n5)) (b7 : ¬ y0 = 0 → 0 ≤ x1 ∧ x1 < (n5 : Int)) (p9 : ¬ y0 = 0 → tP τ q3 x1.toNat = some q8) (sh10 : tS τ q8 = (1, 6, 0)) (k1 : ¬ y0 = 0 → ∀ q12, (tP τ q8 11) = some q12 → G d 105 35 [vR r0, none, vR q8, none] [] τ Q) (k2 : ¬ y0 = 0 → (tP τ q8 11) = none → G (d - 1) 126 0 [vR r0, vI 9] [] τ (KC d 105 31 34 [none, none, none, none] [] Q)) (k3 : y0 = 0 → G (d - 1) 126 0 [vR r0, vI 1] [] τ (KC d 105 10 13 [none, none, none, none] [] Q)) : G d 105 5 [vR r0, vI x1, none, none] [AI y0] τ Q := by
  refine g_br1 rfl (t := 14) rfl (fun c1 => ?_) (fun c1 => ?_)
  · have c1 : ¬ y0 = 0 := of_decide_eq_true c1
    refine g_sk 1 (pc1 := 15) (st1 := [AR r0]) rfl ?_
    refine g_gQ rfl (ci := 11) (k := 2) rfl sh2 p4 ?_
    refine g_sk 1 (pc1 := 19) (st1 := [AI x1, AR q3]) rfl ?_
    refine g_aalQ rfl sh6 (by decide) (b7 c1).1 (b7 c1).2 (p9 c1) ?_
    refine g_sx 2 (pc1 := 22) (L1 := [vR r0, vI x1, vR q8, none]) (st1 := [AR q8]) rfl ?_
    refine g_gP rfl (ci := 6) (k := 11) rfl sh10 ?_
    refine g_nnl rfl (t := 35) rfl (fun q12 c11 => ?_) (fun c11 => ?_)
    · skip
      exact G_fg (lw2_k _ (lw2_f _ (lw2_k _ (lw2_k _ lw2_nil)))) (k1 c1 q12 c11)
    · skip
      refine g_sk 2 (pc1 := 31) (st1 := [AI 9, AR r0]) rfl ?_
      refine G_fg (lw2_f _ (lw2_f _ (lw2_f _ (lw2_k _ lw2_nil)))) ?_
      refine g_cv rfl rfl (by decide) rfl rfl (Nat.le_of_ble_eq_true rfl) (as2 := [AI 9]) rfl sh2 rfl (by omega) (L0 := [vR r0, vI 9]) rfl ?_
      exact (k2 c1 c11)
  · have c1 : y0 = 0 := Decidable.of_not_not (of_decide_eq_false c1)
    refine g_sk 2 (pc1 := 10) (st1 := [AI 1, AR r0]) rfl ?_
    refine G_fg (lw2_f _ (lw2_f _ (lw2_k _ (lw2_k _ lw2_nil)))) ?_
    refine g_cv rfl rfl (by decide) rfl rfl (Nat.le_of_ble_eq_true rfl) (as2 := [AI 1]) rfl sh2 rfl (by omega) (L0 := [vR r0, vI 1]) rfl ?_
    exact (k3 c1)

theorem t105_13 {d : Nat} {τ : T2} {Q : RS → T2 → Prop} {y0 : Int} (k1 : Q (.inl (some (AI y0))) τ) : G d 105 13 [none, none, none, none] [AI y0] τ Q := by
  refine g_iret rfl rfl ?_
  exact k1

theorem t105_28 {d : Nat} {τ : T2} {Q : RS → T2 → Prop} {r0 : Nat} (hd : 1 ≤ d) (sh1 : tS τ r0 = (1, 11, 0)) (k1 : G (d - 1) 126 0 [vR r0, vI 9] [] τ (KC d 105 31 34 [none, none, none, none] [] Q)) : G d 105 28 [vR r0, none, none, none] [] τ Q := by
  refine g_sk 2 (pc1 := 31) (st1 := [AI 9, AR r0]) rfl ?_
  refine G_fg (lw2_f _ (lw2_k _ (lw2_k _ (lw2_k _ lw2_nil)))) ?_
  refine g_cv rfl rfl (by decide) rfl rfl (Nat.le_of_ble_eq_true rfl) (as2 := [AI 9]) rfl sh1 rfl (by omega) (L0 := [vR r0, vI 9]) rfl ?_
  exact k1

theorem t105_34 {d : Nat} {τ : T2} {Q : RS → T2 → Prop} {y0 : Int} (k1 : Q (.inl (some (AI y0))) τ) : G d 105 34 [none, none, none, none] [AI y0] τ Q := by
  refine g_iret rfl rfl ?_
  exact k1

theorem t105_35 {d : Nat} {τ : T2} {Q : RS → T2 → Prop} {r0 r2 q2 : Nat} (hd : 1 ≤ d) (sh1 : tS τ r0 = (1, 11, 0)) (p3 : tP τ r0 13 = some q2) (sh4 : tS τ r2 = (1, 6, 0)) (sh5 : tS τ q2 = (1, 7, 0)) (k1 : G (d - 1) 40 0 [vR q2, vQ (tP τ r2 11), vQ (tP τ r0 2), vI 0, none, none] [] (uI τ r0 16 0) (KC d 105 53 56 [vR r0, none, vR r2, none] [] Q)) : G d 105 35 [vR r0, none, vR r2, none] [] τ Q := by
  refine g_sk 2 (pc1 := 37) (st1 := [AI 0, AR r0]) rfl ?_
  refine g_putI (x := 0) rfl (ci := 11) (k := 16) (kd := 0) rfl (by decide) rfl rfl sh1 ?_
  refine g_sk 1 (pc1 := 41) (st1 := [AR r0]) rfl ?_
  refine g_gQ rfl (ci := 11) (k := 13) rfl sh1 p3 ?_
  refine g_sk 1 (pc1 := 45) (st1 := [AR r2, AR q2]) rfl ?_
  refine g_gP rfl (ci := 6) (k := 11) rfl sh4 ?_
  refine g_sk 1 (pc1 := 49) (st1 := [AR r0, AP (tP τ r2 11), AR q2]) rfl ?_
  refine g_gP rfl (ci := 11) (k := 2) rfl sh1 ?_
  refine g_sk 1 (pc1 := 53) (st1 := [AI 0, AP (tP τ r0 2), AP (tP τ r2 11), AR q2]) rfl ?_
  refine g_cv rfl rfl (by decide) rfl rfl (Nat.le_of_ble_eq_true rfl) (as2 := [AP (tP τ r2 11), AP (tP τ r0 2), AI 0]) rfl sh5 rfl (by omega) (L0 := [vR q2, vQ (tP τ r2 11), vQ (tP τ r0 2), vI 0, none, none]) rfl ?_
  exact k1

theorem t105_56 {d : Nat} {τ : T2} {Q : RS → T2 → Prop} {y0 : Int} {r0 q3 : Nat} {r2 : Option Nat} (hd : 1 ≤ d) (sh2 : tS τ r0 = (1, 11, 0)) (p4 : tP τ r0 13 = some q3) (sh5 : tS τ q3 = (1, 7, 0)) (k1 : y0 = 0 → Q (.inl (some (AI 0))) τ) (k2 : ¬ y0 = 0 → G (d - 1) 49 0 [vR q3, vQ r2, none] [] τ (KC d 105 66 69 [none, none, none, none] [] Q)) : G d 105 56 [vR r0, none, vQ r2, none] [AI y0] τ Q := by
  refine g_sx 2 (pc1 := 58) (L1 := [vR r0, none, vQ r2, vI y0]) (st1 := [AI y0]) rfl ?_
  refine g_br1 rfl (t := 76) rfl (fun c1 => ?_) (fun c1 => ?_)
  · have c1 : y0 = 0 := of_decide_eq_true c1
    refine g_sk 1 (pc1 := 77) (st1 := [AI 0]) rfl ?_
    refine g_iret rfl rfl ?_
    exact (k1 c1)
  · have c1 : ¬ y0 = 0 := of_decide_eq_false c1
    refine g_sk 1 (pc1 := 62) (st1 := [AR r0]) rfl ?_
    refine g_gQ rfl (ci := 11) (k := 13) rfl sh2 p4 ?_
    refine g_sk 1 (pc1 := 66) (st1 := [AP r2, AR q3]) rfl ?_
    refine G_fg (lw2_f _ (lw2_k _ (lw2_f _ (lw2_f _ lw2_nil)))) ?_
    refine g_cv rfl rfl (by decide) rfl rfl (Nat.le_of_ble_eq_true rfl) (as2 := [AP r2]) rfl sh5 rfl (by omega) (L0 := [vR q3, vQ r2, none]) rfl ?_
    exact (k2 c1)

theorem t105_69 {d : Nat} {τ : T2} {Q : RS → T2 → Prop} {y0 : Int} (k1 : y0 = 0 → Q (.inl (some (AI 0))) τ) (k2 : ¬ y0 = 0 → Q (.inl (some (AI 1))) τ) : G d 105 69 [none, none, none, none] [AI y0] τ Q := by
  refine g_br1 rfl (t := 76) rfl (fun c1 => ?_) (fun c1 => ?_)
  · have c1 : y0 = 0 := of_decide_eq_true c1
    refine g_sk 1 (pc1 := 77) (st1 := [AI 0]) rfl ?_
    refine g_iret rfl rfl ?_
    exact (k1 c1)
  · have c1 : ¬ y0 = 0 := of_decide_eq_false c1
    refine g_sk 2 (pc1 := 77) (st1 := [AI 1]) rfl ?_
    refine g_iret rfl rfl ?_
    exact (k2 c1)

theorem t106_0 {d : Nat} {τ : T2} {Q : RS → T2 → Prop} {x1 x2 : Int} {r0 : Nat} (hd : 1 ≤ d) (sh1 : tS τ r0 = (1, 11, 0)) (k1 : G (d - 1) 140 0 [vR r0, vI x1, vI x2, none] [] τ (KC d 106 3 6 [vR r0, none, none, none] [] Q)) : G d 106 0 [vR r0, vI x1, vI x2, none] [] τ Q := by
  refine g_sk 3 (pc1 := 3) (st1 := [AI x2, AI x1, AR r0]) rfl ?_
  refine G_fg (lw2_k _ (lw2_f _ (lw2_f _ (lw2_k _ lw2_nil)))) ?_
  refine g_cv rfl rfl (by decide) rfl rfl (Nat.le_of_ble_eq_true rfl) (as2 := [AI x1, AI x2]) rfl sh1 rfl (by omega) (L0 := [vR r0, vI x1, vI x2, none]) rfl ?_
  exact k1

theorem t106_6 {d : Nat} {τ : T2} {Q : RS → T2 → Prop} {y0 : Int} {r0 q3 : Nat} (sh2 : tS τ r0 = (1, 11, 0)) (p4 : tP (uP (uP τ r0 13 (tP τ r0 12)) r0 12 (tP τ r0 13)) r0 12 = some q3) (sh5 : tS τ q3 = (1, 7, 0)) (k1 : ¬ y0 = 0 → Q (.inl (some (AI (tI (uP (uP τ r0 13 (tP τ r0 12)) r0 12 (tP τ r0 13)) q3 1)))) (uP (uP τ r0 13 (tP τ r0 12)) r0 12 (tP τ r0 13))) (k2 : y0 = 0 → Q (.inl (some (AI (-1)))) τ) : G d 106 6 [vR r0, none, none, none] [AI y0] τ Q := by
  refine g_br1 rfl (t := 11) rfl (fun c1 => ?_) (fun c1 => ?_)
  · have c1 : ¬ y0 = 0 := of_decide_eq_true c1
    refine g_sk 1 (pc1 := 12) (st1 := [AR r0]) rfl ?_
    refine g_gP rfl (ci := 11) (k := 13) rfl sh2 ?_
    refine g_sx 3 (pc1 := 18) (L1 := [vR r0, none, none, vQ (tP τ r0 13)]) (st1 := [AR r0, AR r0]) rfl ?_
    refine g_gP rfl (ci := 11) (k := 12) rfl sh2 ?_
    refine g_putP rfl (ci := 11) (k := 13) rfl sh2 ?_
    refine g_sk 2 (pc1 := 26) (st1 := [AP (tP τ r0 13), AR r0]) rfl ?_
    refine g_putP rfl (ci := 11) (k := 12) rfl sh2 ?_
    refine g_sk 1 (pc1 := 30) (st1 := [AR r0]) rfl ?_
    refine g_gQ rfl (ci := 11) (k := 12) rfl sh2 p4 ?_
    refine g_gI rfl (ci := 7) (k := 1) rfl sh5 ?_
    refine g_iret rfl rfl ?_
    exact (k1 c1)
  · have c1 : y0 = 0 := Decidable.of_not_not (of_decide_eq_false c1)
    refine g_sk 1 (pc1 := 10) (st1 := [AI (-1)]) rfl ?_
    refine g_iret rfl rfl ?_
    exact (k2 c1)

theorem t107_0 {d : Nat} {τ : T2} {Q : RS → T2 → Prop} {x1 x2 : Int} {r0 : Nat} (hd : 1 ≤ d) (sh1 : tS τ r0 = (1, 11, 0)) (k1 : G (d - 1) 140 0 [vR r0, vI x1, vI x2, none] [] τ (KC d 107 3 6 [vR r0, none, none] [] Q)) : G d 107 0 [vR r0, vI x1, vI x2] [] τ Q := by
  refine g_sk 3 (pc1 := 3) (st1 := [AI x2, AI x1, AR r0]) rfl ?_
  refine G_fg (lw2_k _ (lw2_f _ (lw2_f _ lw2_nil))) ?_
  refine g_cv rfl rfl (by decide) rfl rfl (Nat.le_of_ble_eq_true rfl) (as2 := [AI x1, AI x2]) rfl sh1 rfl (by omega) (L0 := [vR r0, vI x1, vI x2, none]) rfl ?_
  exact k1

theorem t107_6 {d : Nat} {τ : T2} {Q : RS → T2 → Prop} {y0 : Int} {r0 q3 : Nat} (hd : 1 ≤ d) (sh2 : tS τ r0 = (1, 11, 0)) (p4 : tP τ r0 8 = some q3) (sh5 : tS τ q3 = (1, 2, 0)) (k1 : ¬ y0 = 0 → G (d - 1) 2 0 [vR q3, vQ (tP τ r0 13), none, none] [] τ (KC d 107 19 22 [none, none, none] [] Q)) (k2 : y0 = 0 → Q (.inl (some (AI (-1)))) τ) : G d 107 6 [vR r0, none, none] [AI y0] τ Q := by
  refine g_br1 rfl (t := 11) rfl (fun c1 => ?_) (fun c1 => ?_)
  · have c1 : ¬ y0 = 0 := of_decide_eq_true c1
    refine g_sk 1 (pc1 := 12) (st1 := [AR r0]) rfl ?_
    refine g_gQ rfl (ci := 11) (k := 8) rfl sh2 p4 ?_
    refine g_sk 1 (pc1 := 16) (st1 := [AR r0, AR q3]) rfl ?_
    refine g_gP rfl (ci := 11) (k := 13) rfl sh2 ?_
    refine G_fg (lw2_f _ (lw2_k _ (lw2_k _ lw2_nil))) ?_
    refine g_cv rfl rfl (by decide) rfl rfl (Nat.le_of_ble_eq_true rfl) (as2 := [AP (tP τ r0 13)]) rfl sh5 rfl (by omega) (L0 := [vR q3, vQ (tP τ r0 13), none, none]) rfl ?_
    exact (k1 c1)
  · have c1 : y0 = 0 := Decidable.of_not_not (of_decide_eq_false c1)
    refine g_sk 1 (pc1 := 10) (st1 := [AI (-1)]) rfl ?_
    refine g_iret rfl rfl ?_
    exact (k2 c1)

theorem t107_22 {d : Nat} {τ : T2} {Q : RS → T2 → Prop} {y0 : Int} (k1 : Q (.inl (some (AI y0))) τ) : G d 107 22 [none, none, none] [AI y0] τ Q := by
  refine g_iret rfl rfl ?_
  exact k1

theorem t108_0 {d : Nat} {τ : T2} {Q : RS → T2 → Prop} {x1 : Int} {r0 q3 q7 n9 : Nat} (sh2 : tS τ r0 = (1, 11, 0)) (p4 : tP τ r0 12 = some q3) (sh5 : tS τ q3 = (1, 7, 0)) (p8 : tP τ q3 0 = some q7) (sh10 : tS τ q7 = (2, 1, n9)) (b12 : 0 ≤ x1 → x1 < (tI τ q3 1) → x1 < (n9 : Int) → 0 ≤ x1 ∧ x1 < (n9 : Int)) (k1 : x1 < 0 → G d 108 27 [none, none] [] τ Q) (k2 : 0 ≤ x1 → (tI τ q3 1) ≤ x1 → G d 108 27 [none, none] [] τ Q) (k3 : 0 ≤ x1 → x1 < (tI τ q3 1) → x1 < (n9 : Int) → Q (.inl (some (AI (tI τ q7 x1.toNat)))) τ) (k4 : 0 ≤ x1 → x1 < (tI τ q3 1) → (n9 : Int) ≤ x1 → G d 108 27 [none, none] [] τ Q) : G d 108 0 [vR r0, vI x1] [] τ Q := by
  refine g_sk 1 (pc1 := 1) (st1 := [AI x1]) rfl ?_
  refine g_br1 rfl (t := 27) rfl (fun c1 => ?_) (fun c1 => ?_)
  · have c1 : x1 < 0 := of_decide_eq_true c1
    exact G_fg (lw2_f _ (lw2_f _ lw2_nil)) (k1 c1)
  · have c1 : 0 ≤ x1 := Int.not_lt.mp (of_decide_eq_false c1)
    refine g_sk 2 (pc1 := 6) (st1 := [AR r0, AI x1]) rfl ?_
    refine g_gQ rfl (ci := 11) (k := 12) rfl sh2 p4 ?_
    refine g_gI rfl (ci := 7) (k := 1) rfl sh5 ?_
    refine g_br2 rfl (t := 27) rfl (fun c6 => ?_) (fun c6 => ?_)
    · have c6 : (tI τ q3 1) ≤ x1 := of_decide_eq_true c6
      exact G_fg (lw2_f _ (lw2_f _ lw2_nil)) (k2 c1 c6)
    · have c6 : x1 < (tI τ q3 1) := Int.not_le.mp (of_decide_eq_false c6)
      refine g_sk 2 (pc1 := 17) (st1 := [AR r0, AI x1]) rfl ?_
      refine g_gQ rfl (ci := 11) (k := 12) rfl sh2 p4 ?_
      refine g_gQ rfl (ci := 7) (k := 0) rfl sh5 p8 ?_
      refine g_al2 rfl sh10 ?_
      refine g_br2 rfl (t := 35) rfl (fun c11 => ?_) (fun c11 => ?_)
      · have c11 : x1 < (n9 : Int) := of_decide_eq_true c11
        refine g_sk 1 (pc1 := 36) (st1 := [AR r0]) rfl ?_
        refine g_gQ rfl (ci := 11) (k := 12) rfl sh2 p4 ?_
        refine g_gQ rfl (ci := 7) (k := 0) rfl sh5 p8 ?_
        refine g_sk 1 (pc1 := 43) (st1 := [AI x1, AR q7]) rfl ?_
        refine g_bald rfl sh10 (by decide) (b12 c1 c6 c11).1 (b12 c1 c6 c11).2 ?_
        refine g_iret rfl rfl ?_
        exact (k3 c1 c6 c11)
      · have c11 : (n9 : Int) ≤ x1 := Int.not_lt.mp (of_decide_eq_false c11)
        exact G_fg (lw2_f _ (lw2_f _ lw2_nil)) (k4 c1 c6 c11)

theorem t108_30 {d : Nat} {τ : T2} {Q : RS → T2 → Prop} {s0 : Option Nat} (hd : 17 ≤ d) (k1 : G d 108 31 [none, none] [AP s0, AP s0] τ Q) : G d 108 30 [none, none] [AP s0] τ Q := by
  refine g_sk 1 (pc1 := 31) (st1 := [AP s0, AP s0]) rfl ?_
  exact k1

theorem t109_0 {d : Nat} {τ : T2} {Q : RS → T2 → Prop} {x1 : Int} {r0 : Nat} (hd : 1 ≤ d) (sh1 : tS τ r0 = (1, 11, 0)) (k1 : G (d - 1) 132 0 [vR r0, vI x1] [] τ (KC d 109 2 5 [vR r0, vI x1] [] Q)) : G d 109 0 [vR r0, vI x1] [] τ Q := by
  refine g_sk 2 (pc1 := 2) (st1 := [AI x1, AR r0]) rfl ?_
  refine g_cv rfl rfl (by decide) rfl rfl (Nat.le_of_ble_eq_true rfl) (as2 := [AI x1]) rfl sh1 rfl (by omega) (L0 := [vR r0, vI x1]) rfl ?_
  exact k1

theorem t109_5 {d : Nat} {τ : T2} {Q : RS → T2 → Prop} {x1 y0 : Int} {r0 : Nat} (hd : 1 ≤ d) (sh2 : tS τ r0 = (1, 11, 0)) (k1 : ¬ y0 = 0 → G (d - 1) 138 0 [vR r0, vI x1] [] τ (KC d 109 16 19 [vR r0, none] [] Q)) (k2 : y0 = 0 → G (d - 1) 126 0 [vR r0, vI 2] [] τ (KC d 109 10 13 [none, none] [] Q)) : G d 109 5 [vR r0, vI x1] [AI y0] τ Q := by
  refine g_br1 rfl (t := 14) rfl (fun c1 => ?_) (fun c1 => ?_)
  · have c1 : ¬ y0 = 0 := of_decide_eq_true c1
    refine g_sk 2 (pc1 := 16) (st1 := [AI x1, AR r0]) rfl ?_
    refine G_fg (lw2_k _ (lw2_f _ lw2_nil)) ?_
    refine g_cv rfl rfl (by decide) rfl rfl (Nat.le_of_ble_eq_true rfl) (as2 := [AI x1]) rfl sh2 rfl (by omega) (L0 := [vR r0, vI x1]) rfl ?_
    exact (k1 c1)
  · have c1 : y0 = 0 := Decidable.of_not_not (of_decide_eq_false c1)
    refine g_sk 2 (pc1 := 10) (st1 := [AI 2, AR r0]) rfl ?_
    refine G_fg (lw2_f _ (lw2_f _ lw2_nil)) ?_
    refine g_cv rfl rfl (by decide) rfl rfl (Nat.le_of_ble_eq_true rfl) (as2 := [AI 2]) rfl sh2 rfl (by omega) (L0 := [vR r0, vI 2]) rfl ?_
    exact (k2 c1)

theorem t109_13 {d : Nat} {τ : T2} {Q : RS → T2 → Prop} {y0 : Int} (k1 : Q (.inl (some (AI y0))) τ) : G d 109 13 [none, none] [AI y0] τ Q := by
  refine g_iret rfl rfl ?_
  exact k1

theorem t109_19 {d : Nat} {τ : T2} {Q : RS → T2 → Prop} {r0 q2 : Nat} (hd : 1 ≤ d) (sh1 : tS τ r0 = (1, 11, 0)) (p3 : tP τ r0 10 = some q2) (sh4 : tS τ q2 = (1, 9, 0)) (k1 : G (d - 1) 71 0 [vR q2, none] [] τ (KC d 109 23 26 [vR r0, none] [] Q)) : G d 109 19 [vR r0, none] [] τ Q := by
  refine g_sk 1 (pc1 := 20) (st1 := [AR r0]) rfl ?_
  refine g_gQ rfl (ci := 11) (k := 10) rfl sh1 p3 ?_
  refine g_cv rfl rfl (by decide) rfl rfl (Nat.le_of_ble_eq_true rfl) (as2 := []) rfl sh4 rfl (by omega) (L0 := [vR q2, none]) rfl ?_
  exact k1

theorem t109_26 {d : Nat} {τ : T2} {Q : RS → T2 → Prop} {y0 : Int} {r0 q3 q7 : Nat} (hd : 1 ≤ d) (sh2 : tS τ r0 = (1, 11, 0)) (p4 : tP τ r0 8 = some q3) (sh5 : tS τ q3 = (1, 2, 0)) (p8 : tP τ r0 10 = some q7) (sh9 : tS τ q7 = (1, 9, 0)) (k1 : ¬ y0 = 0 → (tI τ q3 2) < 40 → G (d - 1) 1 0 [vR q3, vQ (tP τ r0 0), vI (tI τ q7 4), vI (tI τ q7 5), none, none] [] τ (KC d 109 75 78 [vR r0, none] [] Q)) (k2 : ¬ y0 = 0 → 40 ≤ (tI τ q3 2) → G (d - 1) 126 0 [vR r0, vI 3] [] τ (KC d 109 49 52 [none, none] [] Q)) (k3 : y0 = 0 → G (d - 1) 126 0 [vR r0, vI 2] [] τ (KC d 109 31 34 [none, none] [] Q)) : G d 109 26 [vR r0, none] [AI y0] τ Q := by
  refine g_br1 rfl (t := 35) rfl (fun c1 => ?_) (fun c1 => ?_)
  · have c1 : ¬ y0 = 0 := of_decide_eq_true c1
    refine g_sk 1 (pc1 := 36) (st1 := [AR r0]) rfl ?_
    refine g_gQ rfl (ci := 11) (k := 8) rfl sh2 p4 ?_
    refine g_gI rfl (ci := 2) (k := 2) rfl sh5 ?_
    refine g_sk 1 (pc1 := 44) (st1 := [AI 40, AI (tI τ q3 2)]) rfl ?_
    refine g_br2 rfl (t := 53) rfl (fun c6 => ?_) (fun c6 => ?_)
    · have c6 : (tI τ q3 2) < 40 := of_decide_eq_true c6
      refine g_sk 1 (pc1 := 54) (st1 := [AR r0]) rfl ?_
      refine g_gQ rfl (ci := 11) (k := 8) rfl sh2 p4 ?_
      refine g_sk 1 (pc1 := 58) (st1 := [AR r0, AR q3]) rfl ?_
      refine g_gP rfl (ci := 11) (k := 0) rfl sh2 ?_
      refine g_sk 1 (pc1 := 62) (st1 := [AR r0, AP (tP τ r0 0), AR q3]) rfl ?_
      refine g_gQ rfl (ci := 11) (k := 10) rfl sh2 p8 ?_
      refine g_gI rfl (ci := 9) (k := 4) rfl sh9 ?_
      refine g_sk 1 (pc1 := 69) (st1 := [AR r0, AI (tI τ q7 4), AP (tP τ r0 0), AR q3]) rfl ?_
      refine g_gQ rfl (ci := 11) (k := 10) rfl sh2 p8 ?_
      refine g_gI rfl (ci := 9) (k := 5) rfl sh9 ?_
      refine g_cv rfl rfl (by decide) rfl rfl (Nat.le_of_ble_eq_true rfl) (as2 := [AP (tP τ r0 0), AI (tI τ q7 4), AI (tI τ q7 5)]) rfl sh5 rfl (by omega) (L0 := [vR q3, vQ (tP τ r0 0), vI (tI τ q7 4), vI (tI τ q7 5), none, none]) rfl ?_
      exact (k1 c1 c6)
    · have c6 : 40 ≤ (tI τ q3 2) := Int.not_lt.mp (of_decide_eq_false c6)
      refine g_sk 2 (pc1 := 49) (st1 := [AI 3, AR r0]) rfl ?_
      refine G_fg (lw2_f _ (lw2_k _ lw2_nil)) ?_
      refine g_cv rfl rfl (by decide) rfl rfl (Nat.le_of_ble_eq_true rfl) (as2 := [AI 3]) rfl sh2 rfl (by omega) (L0 := [vR r0, vI 3]) rfl ?_
      exact (k2 c1 c6)
  · have c1 : y0 = 0 := Decidable.of_not_not (of_decide_eq_false c1)
    refine g_sk 2 (pc1 := 31) (st1 := [AI 2, AR r0]) rfl ?_
    refine G_fg (lw2_f _ (lw2_k _ lw2_nil)) ?_
    refine g_cv rfl rfl (by decide) rfl rfl (Nat.le_of_ble_eq_true rfl) (as2 := [AI 2]) rfl sh2 rfl (by omega) (L0 := [vR r0, vI 2]) rfl ?_
    exact (k3 c1)

theorem t109_34 {d : Nat} {τ : T2} {Q : RS → T2 → Prop} {y0 : Int} (k1 : Q (.inl (some (AI y0))) τ) : G d 109 34 [none, none] [AI y0] τ Q := by
  refine g_iret rfl rfl ?_
  exact k1

theorem t109_52 {d : Nat} {τ : T2} {Q : RS → T2 → Prop} {y0 : Int} (k1 : Q (.inl (some (AI y0))) τ) : G d 109 52 [none, none] [AI y0] τ Q := by
  refine g_iret rfl rfl ?_
  exact k1

theorem t109_78 {d : Nat} {τ : T2} {Q : RS → T2 → Prop} {r0 : Nat} (hd : 1 ≤ d) (sh1 : tS τ r0 = (1, 11, 0)) (k1 : G (d - 1) 127 0 [vR r0, vI 7, vI 0, vI 0, vI 0, vI 0] [] τ (KC d 109 85 88 [vR r0, none] [] Q)) : G d 109 78 [vR r0, none] [] τ Q := by
  refine g_sk 6 (pc1 := 85) (st1 := [AI 0, AI 0, AI 0, AI 0, AI 7, AR r0]) rfl ?_
  refine g_cv rfl rfl (by decide) rfl rfl (Nat.le_of_ble_eq_true rfl) (as2 := [AI 7, AI 0, AI 0, AI 0, AI 0]) rfl sh1 rfl (by omega) (L0 := [vR r0, vI 7, vI 0, vI 0, vI 0, vI 0]) rfl ?_
  exact k1

theorem t109_88 {d : Nat} {τ : T2} {Q : RS → T2 → Prop} {r0 q2 : Nat} (sh1 : tS τ r0 = (1, 11, 0)) (p3 : tP τ r0 8 = some q2) (sh4 : tS τ q2 = (1, 2, 0)) (k1 : Q (.inl (some (AI (tI τ q2 2)))) τ) : G d 109 88 [vR r0, none] [] τ Q := by
  refine g_sk 1 (pc1 := 89) (st1 := [AR r0]) rfl ?_
  refine g_gQ rfl (ci := 11) (k := 8) rfl sh1 p3 ?_
  refine g_gI rfl (ci := 2) (k := 2) rfl sh4 ?_
  refine g_iret rfl rfl ?_
  exact k1

theorem t110_0 {d : Nat} {τ : T2} {Q : RS → T2 → Prop} {r0 q3 n5 q8 : Nat} (hd : 1 ≤ d) (sh1 : tS τ r0 = (1, 11, 0)) (p4 : tP τ r0 5 = some q3) (sh6 : tS τ q3 = (3, 5, n5)) (b7 : (tI τ r0 6) < 8 → 0 ≤ (tI τ r0 6) ∧ (tI τ r0 6) < (n5 : Int)) (p9 : (tI τ r0 6) < 8 → tP τ q3 (tI τ r0 6).toNat = some q8) (sh10 : tS τ q8 = (1, 8, 0)) (k1 : (tI τ r0 6) < 8 → G (d - 1) 60 0 [vR q8, vI (tI τ r0 9)] [] τ (KC d 110 30 33 [vR r0, vI (tI τ r0 6)] [] Q)) (k2 : 8 ≤ (tI τ r0 6) → G (d - 1) 126 0 [vR r0, vI 3] [] τ (KC d 110 11 14 [none, none] [] Q)) : G d 110 0 [vR r0, none] [] τ Q := by
  refine g_sk 1 (pc1 := 1) (st1 := [AR r0]) rfl ?_
  refine g_gI rfl (ci := 11) (k := 6) rfl sh1 ?_
  refine g_sk 1 (pc1 := 6) (st1 := [AI 8, AI (tI τ r0 6)]) rfl ?_
  refine g_br2 rfl (t := 15) rfl (fun c2 => ?_) (fun c2 => ?_)
  · have c2 : (tI τ r0 6) < 8 := of_decide_eq_true c2
    refine g_sk 1 (pc1 := 16) (st1 := [AR r0]) rfl ?_
    refine g_gI rfl (ci := 11) (k := 6) rfl sh1 ?_
    refine g_sx 2 (pc1 := 21) (L1 := [vR r0, vI (tI τ r0 6)]) (st1 := [AR r0]) rfl ?_
    refine g_gQ rfl (ci := 11) (k := 5) rfl sh1 p4 ?_
    refine g_sk 1 (pc1 := 25) (st1 := [AI (tI τ r0 6), AR q3]) rfl ?_
    refine g_aalQ rfl sh6 (by decide) (b7 c2).1 (b7 c2).2 (p9 c2) ?_
    refine g_sk 1 (pc1 := 27) (st1 := [AR r0, AR q8]) rfl ?_
    refine g_gI rfl (ci := 11) (k := 9) rfl sh1 ?_
    refine g_cv rfl rfl (by decide) rfl rfl (Nat.le_of_ble_eq_true rfl) (as2 := [AI (tI τ r0 9)]) rfl sh10 rfl (by omega) (L0 := [vR q8, vI (tI τ r0 9)]) rfl ?_
    exact (k1 c2)
  · have c2 : 8 ≤ (tI τ r0 6) := Int.not_lt.mp (of_decide_eq_false c2)
    refine g_sk 2 (pc1 := 11) (st1 := [AI 3, AR r0]) rfl ?_
    refine G_fg (lw2_f _ (lw2_k _ lw2_nil)) ?_
    refine g_cv rfl rfl (by decide) rfl rfl (Nat.le_of_ble_eq_true rfl) (as2 := [AI 3]) rfl sh1 rfl (by omega) (L0 := [vR r0, vI 3]) rfl ?_
    exact (k2 c2)

theorem t110_14 {d : Nat} {τ : T2} {Q : RS → T2 → Prop} {y0 : Int} (k1 : Q (.inl (some (AI y0))) τ) : G d 110 14 [none, none] [AI y0] τ Q := by
  refine g_iret rfl rfl ?_
  exact k1

theorem t110_33 {d : Nat} {τ : T2} {Q : RS → T2 → Prop} {x1 : Int} {r0 : Nat} (hd : 1 ≤ d) (sh1 : tS τ r0 = (1, 11, 0)) (k1 : G (d - 1) 127 0 [vR r0, vI 8, vI x1, vI 0, vI 0, vI 0] [] (uI τ r0 6 (wr ((tI τ r0 6) + 1))) (KC d 110 50 53 [none, vI x1] [] Q)) : G d 110 33 [vR r0, vI x1] [] τ Q := by
  refine g_sk 2 (pc1 := 35) (st1 := [AR r0, AR r0]) rfl ?_
  refine g_gI rfl (ci := 11) (k := 6) rfl sh1 ?_
  refine g_sk 2 (pc1 := 40) (st1 := [AI (wr ((tI τ r0 6) + 1)), AR r0]) rfl ?_
  refine g_putI (x := (wr ((tI τ r0 6) + 1))) rfl (ci := 11) (k := 6) (kd := 0) rfl (by decide) rfl rfl sh1 ?_
  refine g_sk 6 (pc1 := 50) (st1 := [AI 0, AI 0, AI 0, AI x1, AI 8, AR r0]) rfl ?_
  refine G_fg (lw2_f _ (lw2_k _ lw2_nil)) ?_
  refine g_cv rfl rfl (by decide) rfl rfl (Nat.le_of_ble_eq_true rfl) (as2 := [AI 8, AI x1, AI 0, AI 0, AI 0]) rfl sh1 rfl (by omega) (L0 := [vR r0, vI 8, vI x1, vI 0, vI 0, vI 0]) rfl ?_
  exact k1

theorem t110_53 {d : Nat} {τ : T2} {Q : RS → T2 → Prop} {x1 : Int} (k1 : Q (.inl (some (AI x1))) τ) : G d 110 53 [none, vI x1] [] τ Q := by
  refine g_sk 1 (pc1 := 54) (st1 := [AI x1]) rfl ?_
  refine g_iret rfl rfl ?_
  exact k1

theorem t111_0 {d : Nat} {τ : T2} {Q : RS → T2 → Prop} {x1 : Int} {r0 : Nat} (hd : 1 ≤ d) (sh2 : tS τ r0 = (1, 11, 0)) (k1 : x1 < 1 → G (d - 1) 126 0 [vR r0, vI 2] [] τ (KC d 111 26 29 [none, none] [] Q)) (k2 : 1 ≤ x1 → 1000 < x1 → G (d - 1) 126 0 [vR r0, vI 2] [] τ (KC d 111 26 29 [none, none] [] Q)) (k3 : 1 ≤ x1 → x1 ≤ 1000 → (wr ((tI τ r0 9) + x1)) ≤ 9999 → G (d - 1) 127 0 [vR r0, vI 9, vI x1, vI 0, vI 0, vI 0] [] τ (KC d 111 37 40 [vR r0, vI x1] [] Q)) (k4 : 1 ≤ x1 → x1 ≤ 1000 → 9999 < (wr ((tI τ r0 9) + x1)) → G (d - 1) 126 0 [vR r0, vI 2] [] τ (KC d 111 26 29 [none, none] [] Q)) : G d 111 0 [vR r0, vI x1] [] τ Q := by
  refine g_sk 2 (pc1 := 2) (st1 := [AI 1, AI x1]) rfl ?_
  refine g_br2 rfl (t := 24) rfl (fun c1 => ?_) (fun c1 => ?_)
  · have c1 : x1 < 1 := of_decide_eq_true c1
    refine g_sk 2 (pc1 := 26) (st1 := [AI 2, AR r0]) rfl ?_
    refine G_fg (lw2_f _ (lw2_f _ lw2_nil)) ?_
    refine g_cv rfl rfl (by decide) rfl rfl (Nat.le_of_ble_eq_true rfl) (as2 := [AI 2]) rfl sh2 rfl (by omega) (L0 := [vR r0, vI 2]) rfl ?_
    exact (k1 c1)
  · have c1 : 1 ≤ x1 := Int.not_lt.mp (of_decide_eq_false c1)
    refine g_sk 2 (pc1 := 9) (st1 := [AI 1000, AI x1]) rfl ?_
    refine g_br2 rfl (t := 24) rfl (fun c3 => ?_) (fun c3 => ?_)
    · have c3 : 1000 < x1 := of_decide_eq_true c3
      refine g_sk 2 (pc1 := 26) (st1 := [AI 2, AR r0]) rfl ?_
      refine G_fg (lw2_f _ (lw2_f _ lw2_nil)) ?_
      refine g_cv rfl rfl (by decide) rfl rfl (Nat.le_of_ble_eq_true rfl) (as2 := [AI 2]) rfl sh2 rfl (by omega) (L0 := [vR r0, vI 2]) rfl ?_
      exact (k2 c1 c3)
    · have c3 : x1 ≤ 1000 := Int.not_lt.mp (of_decide_eq_false c3)
      refine g_sk 1 (pc1 := 13) (st1 := [AR r0]) rfl ?_
      refine g_gI rfl (ci := 11) (k := 9) rfl sh2 ?_
      refine g_sk 3 (pc1 := 21) (st1 := [AI 9999, AI (wr ((tI τ r0 9) + x1))]) rfl ?_
      refine g_br2 rfl (t := 30) rfl (fun c4 => ?_) (fun c4 => ?_)
      · have c4 : (wr ((tI τ r0 9) + x1)) ≤ 9999 := of_decide_eq_true c4
        refine g_sk 6 (pc1 := 37) (st1 := [AI 0, AI 0, AI 0, AI x1, AI 9, AR r0]) rfl ?_
        refine g_cv rfl rfl (by decide) rfl rfl (Nat.le_of_ble_eq_true rfl) (as2 := [AI 9, AI x1, AI 0, AI 0, AI 0]) rfl sh2 rfl (by omega) (L0 := [vR r0, vI 9, vI x1, vI 0, vI 0, vI 0]) rfl ?_
        exact (k3 c1 c3 c4)
      · have c4 : 9999 < (wr ((tI τ r0 9) + x1)) := Int.not_le.mp (of_decide_eq_false c4)
        refine g_sk 2 (pc1 := 26) (st1 := [AI 2, AR r0]) rfl ?_
        refine G_fg (lw2_f _ (lw2_f _ lw2_nil)) ?_
        refine g_cv rfl rfl (by decide) rfl rfl (Nat.le_of_ble_eq_true rfl) (as2 := [AI 2]) rfl sh2 rfl (by omega) (L0 := [vR r0, vI 2]) rfl ?_
        exact (k4 c1 c3 c4)

theorem t111_29 {d : Nat} {τ : T2} {Q : RS → T2 → Prop} {y0 : Int} (k1 : Q (.inl (some (AI y0))) τ) : G d 111 29 [none, none] [AI y0] τ Q := by
  refine g_iret rfl rfl ?_
  exact k1

theorem t111_40 {d : Nat} {τ : T2} {Q : RS → T2 → Prop} {x1 : Int} {r0 : Nat} (sh1 : tS τ r0 = (1, 11, 0)) (k1 : Q (.inl (some (AI (tI (uI τ r0 9 (wr ((tI τ r0 9) + x1))) r0 9)))) (uI τ r0 9 (wr ((tI τ r0 9) + x1)))) : G d 111 40 [vR r0, vI x1] [] τ Q := by
  refine g_sk 2 (pc1 := 42) (st1 := [AR r0, AR r0]) rfl ?_
  refine g_gI rfl (ci := 11) (k := 9) rfl sh1 ?_
  refine g_sk 2 (pc1 := 47) (st1 := [AI (wr ((tI τ r0 9) + x1)), AR r0]) rfl ?_
  refine g_putI (x := (wr ((tI τ r0 9) + x1))) rfl (ci := 11) (k := 9) (kd := 0) rfl (by decide) rfl rfl sh1 ?_
  refine g_sk 1 (pc1 := 51) (st1 := [AR r0]) rfl ?_
  refine g_gI rfl (ci := 11) (k := 9) rfl sh1 ?_
  refine g_iret rfl rfl ?_
  exact k1

theorem t112_0 {d : Nat} {τ : T2} {Q : RS → T2 → Prop} {x1 x2 : Int} {r0 : Nat} (hd : 1 ≤ d) (sh1 : tS τ r0 = (1, 11, 0)) (k1 : G (d - 1) 130 0 [vR r0, vI x1] [] τ (KC d 112 2 5 [vR r0, vI x1, vI x2] [] Q)) : G d 112 0 [vR r0, vI x1, vI x2] [] τ Q := by
  refine g_sk 2 (pc1 := 2) (st1 := [AI x1, AR r0]) rfl ?_
  refine g_cv rfl rfl (by decide) rfl rfl (Nat.le_of_ble_eq_true rfl) (as2 := [AI x1]) rfl sh1 rfl (by omega) (L0 := [vR r0, vI x1]) rfl ?_
  exact k1

theorem t112_5 {d : Nat} {τ : T2} {Q : RS → T2 → Prop} {x1 x2 y0 : Int} {r0 : Nat} (hd : 1 ≤ d) (sh2 : tS τ r0 = (1, 11, 0)) (k1 : y0 = 0 → G (d - 1) 126 0 [vR r0, vI 1] [] τ (KC d 112 18 21 [none, none, none] [] Q)) (k2 : ¬ y0 = 0 → G (d - 1) 129 0 [vR r0, vI x2] [] τ (KC d 112 10 13 [vR r0, vI x1, vI x2] [] Q)) : G d 112 5 [vR r0, vI x1, vI x2] [AI y0] τ Q := by
  refine g_br1 rfl (t := 16) rfl (fun c1 => ?_) (fun c1 => ?_)
  · have c1 : y0 = 0 := of_decide_eq_true c1
    refine g_sk 2 (pc1 := 18) (st1 := [AI 1, AR r0]) rfl ?_
    refine G_fg (lw2_f _ (lw2_f _ (lw2_f _ lw2_nil))) ?_
    refine g_cv rfl rfl (by decide) rfl rfl (Nat.le_of_ble_eq_true rfl) (as2 := [AI 1]) rfl sh2 rfl (by omega) (L0 := [vR r0, vI 1]) rfl ?_
    exact (k1 c1)
  · have c1 : ¬ y0 = 0 := of_decide_eq_false c1
    refine g_sk 2 (pc1 := 10) (st1 := [AI x2, AR r0]) rfl ?_
    refine g_cv rfl rfl (by decide) rfl rfl (Nat.le_of_ble_eq_true rfl) (as2 := [AI x2]) rfl sh2 rfl (by omega) (L0 := [vR r0, vI x2]) rfl ?_
    exact (k2 c1)

theorem t112_13 {d : Nat} {τ : T2} {Q : RS → T2 → Prop} {x1 x2 y0 : Int} {r0 q3 n5 : Nat} (hd : 1 ≤ d) (sh2 : tS τ r0 = (1, 11, 0)) (p4 : tP τ r0 5 = some q3) (sh6 : tS τ q3 = (3, 5, n5)) (b7 : ¬ y0 = 0 → 0 ≤ x1 ∧ x1 < (n5 : Int)) (k1 : ¬ y0 = 0 → G (d - 1) 141 0 [vR r0, vQ (tP τ q3 x1.toNat), vI x2] [] (uI τ r0 16 0) (KC d 112 35 38 [none, none, none] [] Q)) (k2 : y0 = 0 → G (d - 1) 126 0 [vR r0, vI 1] [] τ (KC d 112 18 21 [none, none, none] [] Q)) : G d 112 13 [vR r0, vI x1, vI x2] [AI y0] τ Q := by
  refine g_br1 rfl (t := 22) rfl (fun c1 => ?_) (fun c1 => ?_)
  · have c1 : ¬ y0 = 0 := of_decide_eq_true c1
    refine g_sk 2 (pc1 := 24) (st1 := [AI 0, AR r0]) rfl ?_
    refine g_putI (x := 0) rfl (ci := 11) (k := 16) (kd := 0) rfl (by decide) rfl rfl sh2 ?_
    refine g_sk 2 (pc1 := 29) (st1 := [AR r0, AR r0]) rfl ?_
    refine g_gQ rfl (ci := 11) (k := 5) rfl sh2 p4 ?_
    refine g_sk 1 (pc1 := 33) (st1 := [AI x1, AR q3, AR r0]) rfl ?_
    refine g_aald rfl sh6 (by decide) (b7 c1).1 (b7 c1).2 ?_
    refine g_sk 1 (pc1 := 35) (st1 := [AI x2, AP (tP τ q3 x1.toNat), AR r0]) rfl ?_
    refine G_fg (lw2_f _ (lw2_f _ (lw2_f _ lw2_nil))) ?_
    refine g_cv rfl rfl (by decide) rfl rfl (Nat.le_of_ble_eq_true rfl) (as2 := [AP (tP τ q3 x1.toNat), AI x2]) rfl sh2 rfl (by omega) (L0 := [vR r0, vQ (tP τ q3 x1.toNat), vI x2]) rfl ?_
    exact (k1 c1)
  · have c1 : y0 = 0 := Decidable.of_not_not (of_decide_eq_false c1)
    refine g_sk 2 (pc1 := 18) (st1 := [AI 1, AR r0]) rfl ?_
    refine G_fg (lw2_f _ (lw2_f _ (lw2_f _ lw2_nil))) ?_
    refine g_cv rfl rfl (by decide) rfl rfl (Nat.le_of_ble_eq_true rfl) (as2 := [AI 1]) rfl sh2 rfl (by omega) (L0 := [vR r0, vI 1]) rfl ?_
    exact (k2 c1)

theorem t112_21 {d : Nat} {τ : T2} {Q : RS → T2 → Prop} {y0 : Int} (k1 : Q (.inl (some (AI y0))) τ) : G d 112 21 [none, none, none] [AI y0] τ Q := by
  refine g_iret rfl rfl ?_
  exact k1

theorem t112_38 {d : Nat} {τ : T2} {Q : RS → T2 → Prop} {y0 : Int} (k1 : y0 = 0 → Q (.inl (some (AI 0))) τ) (k2 : ¬ y0 = 0 → Q (.inl (some (AI 1))) τ) : G d 112 38 [none, none, none] [AI y0] τ Q := by
  refine g_br1 rfl (t := 45) rfl (fun c1 => ?_) (fun c1 => ?_)
  · have c1 : y0 = 0 := of_decide_eq_true c1
    refine g_sk 1 (pc1 := 46) (st1 := [AI 0]) rfl ?_
    refine g_iret rfl rfl ?_
    exact (k1 c1)
  · have c1 : ¬ y0 = 0 := of_decide_eq_false c1
    refine g_sk 2 (pc1 := 46) (st1 := [AI 1]) rfl ?_
    refine g_iret rfl rfl ?_
    exact (k2 c1)

theorem t113_0 {d : Nat} {τ : T2} {Q : RS → T2 → Prop} {x1 x2 x3 : Int} {r0 : Nat} (hd : 1 ≤ d) (sh1 : tS τ r0 = (1, 11, 0)) (k1 : G (d - 1) 130 0 [vR r0, vI x1] [] τ (KC d 113 2 5 [vR r0, vI x1, vI x2, vI x3, none, none] [] Q)) : G d 113 0 [vR r0, vI x1, vI x2, vI x3, none, none] [] τ Q := by
  refine g_sk 2 (pc1 := 2) (st1 := [AI x1, AR r0]) rfl ?_
  refine g_cv rfl rfl (by decide) rfl rfl (Nat.le_of_ble_eq_true rfl) (as2 := [AI x1]) rfl sh1 rfl (by omega) (L0 := [vR r0, vI x1]) rfl ?_
  exact k1

theorem t113_5 {d : Nat} {τ : T2} {Q : RS → T2 → Prop} {x1 x2 x3 y0 : Int} {r0 : Nat} (hd : 1 ≤ d) (sh2 : tS τ r0 = (1, 11, 0)) (k1 : y0 = 0 → G (d - 1) 126 0 [vR r0, vI 1] [] τ (KC d 113 18 21 [none, none, none, none, none, none] [] Q)) (k2 : ¬ y0 = 0 → G (d - 1) 129 0 [vR r0, vI x2] [] τ (KC d 113 10 13 [vR r0, vI x1, vI x2, vI x3, none, none] [] Q)) : G d 113 5 [vR r0, vI x1, vI x2, vI x3, none, none] [AI y0] τ Q := by
  refine g_br1 rfl (t := 16) rfl (fun c1 => ?_) (fun c1 => ?_)
  · have c1 : y0 = 0 := of_decide_eq_true c1
    refine g_sk 2 (pc1 := 18) (st1 := [AI 1, AR r0]) rfl ?_
    refine G_fg (lw2_f _ (lw2_f _ (lw2_f _ (lw2_f _ (lw2_k _ (lw2_k _ lw2_nil)))))) ?_
    refine g_cv rfl rfl (by decide) rfl rfl (Nat.le_of_ble_eq_true rfl) (as2 := [AI 1]) rfl sh2 rfl (by omega) (L0 := [vR r0, vI 1]) rfl ?_
    exact (k1 c1)
  · have c1 : ¬ y0 = 0 := of_decide_eq_false c1
    refine g_sk 2 (pc1 := 10) (st1 := [AI x2, AR r0]) rfl ?_
    refine g_cv rfl rfl (by decide) rfl rfl (Nat.le_of_ble_eq_true rfl) (as2 := [AI x2]) rfl sh2 rfl (by omega) (L0 := [vR r0, vI x2]) rfl ?_
    exact (k2 c1)

theorem t113_13 {d : Nat} {τ : T2} {Q : RS → T2 → Prop} {x1 x2 x3 y0 : Int} {r0 : Nat} (hd : 1 ≤ d) (sh2 : tS τ r0 = (1, 11, 0)) (k1 : ¬ y0 = 0 → G (d - 1) 132 0 [vR r0, vI x3] [] τ (KC d 113 24 27 [vR r0, vI x1, vI x2, vI x3, none, none] [] Q)) (k2 : y0 = 0 → G (d - 1) 126 0 [vR r0, vI 1] [] τ (KC d 113 18 21 [none, none, none, none, none, none] [] Q)) : G d 113 13 [vR r0, vI x1, vI x2, vI x3, none, none] [AI y0] τ Q := by
  refine g_br1 rfl (t := 22) rfl (fun c1 => ?_) (fun c1 => ?_)
  · have c1 : ¬ y0 = 0 := of_decide_eq_true c1
    refine g_sk 2 (pc1 := 24) (st1 := [AI x3, AR r0]) rfl ?_
    refine g_cv rfl rfl (by decide) rfl rfl (Nat.le_of_ble_eq_true rfl) (as2 := [AI x3]) rfl sh2 rfl (by omega) (L0 := [vR r0, vI x3]) rfl ?_
    exact (k1 c1)
  · have c1 : y0 = 0 := Decidable.of_not_not (of_decide_eq_false c1)
    refine g_sk 2 (pc1 := 18) (st1 := [AI 1, AR r0]) rfl ?_
    refine G_fg (lw2_f _ (lw2_f _ (lw2_f _ (lw2_f _ (lw2_k _ (lw2_k _ lw2_nil)))))) ?_
    refine g_cv rfl rfl (by decide) rfl rfl (Nat.le_of_ble_eq_true rfl) (as2 := [AI 1]) rfl sh2 rfl (by omega) (L0 := [vR r0, vI 1]) rfl ?_
    exact (k2 c1)

theorem t113_21 {d : Nat} {τ : T2} {Q : RS → T2 → Prop} {y0 : Int} (k1 : Q (.inl (some (AI y0))) τ) : G d 113 21 [none, none, none, none, none, none] [AI y0] τ Q := by
  refine g_iret rfl rfl ?_
  exact k1

theorem t113_27 {d : Nat} {τ : T2} {Q : RS → T2 → Prop} {x1 x2 x3 y0 : Int} {r0 : Nat} (hd : 1 ≤ d) (sh2 : tS τ r0 = (1, 11, 0)) (k1 : ¬ y0 = 0 → G (d - 1) 135 0 [vR r0, vI x3] [] τ (KC d 113 38 41 [vR r0, vI x1, vI x2, none, none, none] [] Q)) (k2 : y0 = 0 → G (d - 1) 126 0 [vR r0, vI 2] [] τ (KC d 113 32 35 [none, none, none, none, none, none] [] Q)) : G d 113 27 [vR r0, vI x1, vI x2, vI x3, none, none] [AI y0] τ Q := by
  refine g_br1 rfl (t := 36) rfl (fun c1 => ?_) (fun c1 => ?_)
  · have c1 : ¬ y0 = 0 := of_decide_eq_true c1
    refine g_sk 2 (pc1 := 38) (st1 := [AI x3, AR r0]) rfl ?_
    refine G_fg (lw2_k _ (lw2_k _ (lw2_k _ (lw2_f _ (lw2_k _ (lw2_k _ lw2_nil)))))) ?_
    refine g_cv rfl rfl (by decide) rfl rfl (Nat.le_of_ble_eq_true rfl) (as2 := [AI x3]) rfl sh2 rfl (by omega) (L0 := [vR r0, vI x3]) rfl ?_
    exact (k1 c1)
  · have c1 : y0 = 0 := Decidable.of_not_not (of_decide_eq_false c1)
    refine g_sk 2 (pc1 := 32) (st1 := [AI 2, AR r0]) rfl ?_
    refine G_fg (lw2_f _ (lw2_f _ (lw2_f _ (lw2_f _ (lw2_k _ (lw2_k _ lw2_nil)))))) ?_
    refine g_cv rfl rfl (by decide) rfl rfl (Nat.le_of_ble_eq_true rfl) (as2 := [AI 2]) rfl sh2 rfl (by omega) (L0 := [vR r0, vI 2]) rfl ?_
    exact (k2 c1)

theorem t113_35 {d : Nat} {τ : T2} {Q : RS → T2 → Prop} {y0 : Int} (k1 : Q (.inl (some (AI y0))) τ) : G d 113 35 [none, none, none, none, none, none] [AI y0] τ Q := by
  refine g_iret rfl rfl ?_
  exact k1

theorem t113_41 {d : Nat} {τ : T2} {Q : RS → T2 → Prop} {x1 x2 : Int} {r0 q2 n4 : Nat} (hd : 1 ≤ d) (sh1 : tS τ r0 = (1, 11, 0)) (p3 : tP τ r0 5 = some q2) (sh5 : tS τ q2 = (3, 5, n4)) (b6 : 0 ≤ x1 ∧ x1 < (n4 : Int)) (k1 : G (d - 1) 141 0 [vR r0, vQ (tP τ q2 x1.toNat), vI x2] [] τ (KC d 113 53 56 [vR r0, vI x1, vI x2, none, vQ (tP τ q2 x1.toNat), none] [] Q)) : G d 113 41 [vR r0, vI x1, vI x2, none, none, none] [] τ Q := by
  refine g_sk 1 (pc1 := 42) (st1 := [AR r0]) rfl ?_
  refine g_gQ rfl (ci := 11) (k := 5) rfl sh1 p3 ?_
  refine g_sk 1 (pc1 := 46) (st1 := [AI x1, AR q2]) rfl ?_
  refine g_aald rfl sh5 (by decide) b6.1 b6.2 ?_
  refine g_sx 4 (pc1 := 53) (L1 := [vR r0, vI x1, vI x2, none, vQ (tP τ q2 x1.toNat), none]) (st1 := [AI x2, AP (tP τ q2 x1.toNat), AR r0]) rfl ?_
  refine g_cv rfl rfl (by decide) rfl rfl (Nat.le_of_ble_eq_true rfl) (as2 := [AP (tP τ q2 x1.toNat), AI x2]) rfl sh1 rfl (by omega) (L0 := [vR r0, vQ (tP τ q2 x1.toNat), vI x2]) rfl ?_
  exact k1

theorem t113_56 {d : Nat} {τ : T2} {Q : RS → T2 → Prop} {x1 x2 y0 : Int} {r0 r4 q3 n5 q10 n12 q16 q18 n20 : Nat} (hd : 1 ≤ d) (sh2 : tS τ r4 = (1, 8, 0)) (p4 : tP τ r4 2 = some q3) (sh6 : tS τ q3 = (2, 0, n5)) (b7 : ¬ y0 = 0 → 0 ≤ x2 ∧ x2 < (n5 : Int)) (sh9 : tS τ r0 = (1, 11, 0)) (p11 : tP τ r4 5 = some q10) (sh13 : tS τ q10 = (2, 0, n12)) (b14 : ¬ y0 = 0 → (tI τ q3 x2.toNat) = (-1) → 0 ≤ x2 ∧ x2 < (n12 : Int)) (p17 : tP τ r0 11 = some q16) (p19 : tP τ r0 2 = some q18) (sh21 : tS τ q18 = (3, 4, n20)) (b22 : ¬ y0 = 0 → (tI τ q3 x2.toNat) = (-1) → (tI τ q10 x2.toNat) ≤ (tI τ r0 9) → 0 ≤ x2 ∧ x2 < (n20 : Int)) (sh23 : tS τ q16 = (1, 4, 0)) (k1 : ¬ y0 = 0 → (tI τ q3 x2.toNat) = (-1) → (tI τ q10 x2.toNat) ≤ (tI τ r0 9) → G (d - 1) 15 0 [vR q16, vQ (tP τ q18 x2.toNat), none] [] τ (KC d 113 114 117 [vR r0, vI x1, vI x2, none, vR r4, none] [] Q)) (k2 : ¬ y0 = 0 → (tI τ q3 x2.toNat) = (-1) → (tI τ r0 9) < (tI τ q10 x2.toNat) → G (d - 1) 126 0 [vR r0, vI 7] [] τ (KC d 113 100 103 [none, none, none, none, none, none] [] Q)) (k3 : ¬ y0 = 0 → ¬ (tI τ q3 x2.toNat) = (-1) → G (d - 1) 126 0 [vR r0, vI 6] [] τ (KC d 113 79 82 [none, none, none, none, none, none] [] Q)) (k4 : y0 = 0 → G (d - 1) 126 0 [vR r0, vI 5] [] τ (KC d 113 61 64 [none, none, none, none, none, none] [] Q)) : G d 113 56 [vR r0, vI x1, vI x2, none, vR r4, none] [AI y0] τ Q := by
  refine g_br1 rfl (t := 65) rfl (fun c1 => ?_) (fun c1 => ?_)
  · have c1 : ¬ y0 = 0 := of_decide_eq_true c1
    refine g_sk 1 (pc1 := 67) (st1 := [AR r4]) rfl ?_
    refine g_gQ rfl (ci := 8) (k := 2) rfl sh2 p4 ?_
    refine g_sk 1 (pc1 := 71) (st1 := [AI x2, AR q3]) rfl ?_
    refine g_iald rfl sh6 (by decide) (b7 c1).1 (b7 c1).2 ?_
    refine g_sk 1 (pc1 := 73) (st1 := [AI (-1), AI (tI τ q3 x2.toNat)]) rfl ?_
    refine g_br2 rfl (t := 83) rfl (fun c8 => ?_) (fun c8 => ?_)
    · have c8 : (tI τ q3 x2.toNat) = (-1) := of_decide_eq_true c8
      refine g_sk 1 (pc1 := 84) (st1 := [AR r0]) rfl ?_
      refine g_gI rfl (ci := 11) (k := 9) rfl sh9 ?_
      refine g_sk 1 (pc1 := 89) (st1 := [AR r4, AI (tI τ r0 9)]) rfl ?_
      refine g_gQ rfl (ci := 8) (k := 5) rfl sh2 p11 ?_
      refine g_sk 1 (pc1 := 93) (st1 := [AI x2, AR q10, AI (tI τ r0 9)]) rfl ?_
      refine g_iald rfl sh13 (by decide) (b14 c1 c8).1 (b14 c1 c8).2 ?_
      refine g_br2 rfl (t := 104) rfl (fun c15 => ?_) (fun c15 => ?_)
      · have c15 : (tI τ q10 x2.toNat) ≤ (tI τ r0 9) := of_decide_eq_true c15
        refine g_sk 1 (pc1 := 105) (st1 := [AR r0]) rfl ?_
        refine g_gQ rfl (ci := 11) (k := 11) rfl sh9 p17 ?_
        refine g_sk 1 (pc1 := 109) (st1 := [AR r0, AR q16]) rfl ?_
        refine g_gQ rfl (ci := 11) (k := 2) rfl sh9 p19 ?_
        refine g_sk 1 (pc1 := 113) (st1 := [AI x2, AR q18, AR q16]) rfl ?_
        refine g_aald rfl sh21 (by decide) (b22 c1 c8 c15).1 (b22 c1 c8 c15).2 ?_
        refine g_cv rfl rfl (by decide) rfl rfl (Nat.le_of_ble_eq_true rfl) (as2 := [AP (tP τ q18 x2.toNat)]) rfl sh23 rfl (by omega) (L0 := [vR q16, vQ (tP τ q18 x2.toNat), none]) rfl ?_
        exact (k1 c1 c8 c15)
      · have c15 : (tI τ r0 9) < (tI τ q10 x2.toNat) := Int.not_le.mp (of_decide_eq_false c15)
        refine g_sk 2 (pc1 := 100) (st1 := [AI 7, AR r0]) rfl ?_
        refine G_fg (lw2_f _ (lw2_f _ (lw2_f _ (lw2_k _ (lw2_f _ (lw2_k _ lw2_nil)))))) ?_
        refine g_cv rfl rfl (by decide) rfl rfl (Nat.le_of_ble_eq_true rfl) (as2 := [AI 7]) rfl sh9 rfl (by omega) (L0 := [vR r0, vI 7]) rfl ?_
        exact (k2 c1 c8 c15)
    · have c8 : ¬ (tI τ q3 x2.toNat) = (-1) := of_decide_eq_false c8
      refine g_sk 2 (pc1 := 79) (st1 := [AI 6, AR r0]) rfl ?_
      refine G_fg (lw2_f _ (lw2_f _ (lw2_f _ (lw2_k _ (lw2_f _ (lw2_k _ lw2_nil)))))) ?_
      refine g_cv rfl rfl (by decide) rfl rfl (Nat.le_of_ble_eq_true rfl) (as2 := [AI 6]) rfl sh9 rfl (by omega) (L0 := [vR r0, vI 6]) rfl ?_
      exact (k3 c1 c8)
  · have c1 : y0 = 0 := Decidable.of_not_not (of_decide_eq_false c1)
    refine g_sk 2 (pc1 := 61) (st1 := [AI 5, AR r0]) rfl ?_
    refine G_fg (lw2_f _ (lw2_f _ (lw2_f _ (lw2_k _ (lw2_f _ (lw2_k _ lw2_nil)))))) ?_
    refine g_cv rfl rfl (by decide) rfl rfl (Nat.le_of_ble_eq_true rfl) (as2 := [AI 5]) rfl sh9 rfl (by omega) (L0 := [vR r0, vI 5]) rfl ?_
    exact (k4 c1)

theorem t113_64 {d : Nat} {τ : T2} {Q : RS → T2 → Prop} {y0 : Int} (k1 : Q (.inl (some (AI y0))) τ) : G d 113 64 [none, none, none, none, none, none] [AI y0] τ Q := by
  refine g_iret rfl rfl ?_
  exact k1

theorem t113_82 {d : Nat} {τ : T2} {Q : RS → T2 → Prop} {y0 : Int} (k1 : Q (.inl (some (AI y0))) τ) : G d 113 82 [none, none, none, none, none, none] [AI y0] τ Q := by
  refine g_iret rfl rfl ?_
  exact k1

theorem t113_103 {d : Nat} {τ : T2} {Q : RS → T2 → Prop} {y0 : Int} (k1 : Q (.inl (some (AI y0))) τ) : G d 113 103 [none, none, none, none, none, none] [AI y0] τ Q := by
  refine g_iret rfl rfl ?_
  exact k1

theorem t113_117 {d : Nat} {τ : T2} {Q : RS → T2 → Prop} {x1 x2 y0 : Int} {r0 r4 q2 n4 : Nat} (hd : 1 ≤ d) (sh1 : tS τ r4 = (1, 8, 0)) (p3 : tP τ r4 5 = some q2) (sh5 : tS τ q2 = (2, 0, n4)) (b6 : 0 ≤ x2 ∧ x2 < (n4 : Int)) (sh7 : tS τ r0 = (1, 11, 0)) (k1 : G (d - 1) 127 0 [vR r0, vI 10, vI x1, vI x2, vI y0, vI (tI τ q2 x2.toNat)] [] τ (KC d 113 133 136 [vR r0, none, vI x2, none, vR r4, vI y0] [] Q)) : G d 113 117 [vR r0, vI x1, vI x2, none, vR r4, none] [AI y0] τ Q := by
  refine g_sx 7 (pc1 := 128) (L1 := [vR r0, vI x1, vI x2, none, vR r4, vI y0]) (st1 := [AR r4, AI y0, AI x2, AI x1, AI 10, AR r0]) rfl ?_
  refine g_gQ rfl (ci := 8) (k := 5) rfl sh1 p3 ?_
  refine g_sk 1 (pc1 := 132) (st1 := [AI x2, AR q2, AI y0, AI x2, AI x1, AI 10, AR r0]) rfl ?_
  refine g_iald rfl sh5 (by decide) b6.1 b6.2 ?_
  refine G_fg (lw2_k _ (lw2_f _ (lw2_k _ (lw2_k _ (lw2_k _ (lw2_k _ lw2_nil)))))) ?_
  refine g_cv rfl rfl (by decide) rfl rfl (Nat.le_of_ble_eq_true rfl) (as2 := [AI 10, AI x1, AI x2, AI y0, AI (tI τ q2 x2.toNat)]) rfl sh7 rfl (by omega) (L0 := [vR r0, vI 10, vI x1, vI x2, vI y0, vI (tI τ q2 x2.toNat)]) rfl ?_
  exact k1

theorem t113_136 {d : Nat} {τ : T2} {Q : RS → T2 → Prop} {x2 x5 : Int} {r0 r4 q2 n4 q8 q11 n13 q16 n19 q24 n26 : Nat} (sh1 : tS τ r4 = (1, 8, 0)) (p3 : tP τ r4 3 = some q2) (sh5 : tS τ q2 = (2, 0, n4)) (b6 : 0 ≤ x2 ∧ x2 < (n4 : Int)) (p9 : tP τ r4 5 = some q8) (sh10 : tS τ r0 = (1, 11, 0)) (p12 : tP τ r0 2 = some q11) (sh14 : tS τ q11 = (3, 4, n13)) (b15 : ¬ x5 = 1 → 0 ≤ x2 ∧ x2 < (n13 : Int)) (p17 : ¬ x5 = 1 → tP τ q11 x2.toNat = some q16) (sh18 : tS τ q16 = (1, 6, 0)) (sh20 : tS τ q8 = (2, 0, n19)) (b21 : ¬ x5 = 1 → 0 ≤ x2 ∧ x2 < (n19 : Int)) (p25 : tP τ r4 2 = some q24) (sh27 : tS τ q24 = (2, 0, n26)) (b28 : x5 = 1 → 0 ≤ x2 ∧ x2 < (n26 : Int)) (k1 : ¬ x5 = 1 → ∀ τ22, (uI (uI (uI τ q2 x2.toNat (wr ((tI τ q2 x2.toNat) + 1))) r4 1 (wr ((tI (uI τ q2 x2.toNat (wr ((tI τ q2 x2.toNat) + 1))) r4 1) + 1))) q8 x2.toNat (wr ((tI (uI (uI τ q2 x2.toNat (wr ((tI τ q2 x2.toNat) + 1))) r4 1 (wr ((tI (uI τ q2 x2.toNat (wr ((tI τ q2 x2.toNat) + 1))) r4 1) + 1))) r0 9) + (tI (uI (uI τ q2 x2.toNat (wr ((tI τ q2 x2.toNat) + 1))) r4 1 (wr ((tI (uI τ q2 x2.toNat (wr ((tI τ q2 x2.toNat) + 1))) r4 1) + 1))) q16 5)))) = τ22 → Q (.inl (some (AI x5))) τ22) (k2 : x5 = 1 → Q (.inl (some (AI x5))) (uI (uI τ q2 x2.toNat (wr ((tI τ q2 x2.toNat) + 1))) q24 x2.toNat (tI (uI τ q2 x2.toNat (wr ((tI τ q2 x2.toNat) + 1))) r0 9))) : G d 113 136 [vR r0, none, vI x2, none, vR r4, vI x5] [] τ Q := by
  refine g_sk 1 (pc1 := 138) (st1 := [AR r4]) rfl ?_
  refine g_gQ rfl (ci := 8) (k := 3) rfl sh1 p3 ?_
  refine g_sk 2 (pc1 := 143) (st1 := [AI x2, AR q2, AI x2, AR q2]) rfl ?_
  refine g_iald rfl sh5 (by decide) b6.1 b6.2 ?_
  refine g_sk 2 (pc1 := 146) (st1 := [AI (wr ((tI τ q2 x2.toNat) + 1)), AI x2, AR q2]) rfl ?_
  refine g_iast rfl sh5 b6.1 b6.2 ?_
  refine g_sk 2 (pc1 := 150) (st1 := [AI 1, AI x5]) rfl ?_
  refine g_br2 rfl (t := 167) rfl (fun c7 => ?_) (fun c7 => ?_)
  · have c7 : ¬ x5 = 1 := of_decide_eq_true c7
    refine g_sk 2 (pc1 := 170) (st1 := [AR r4, AR r4]) rfl ?_
    refine g_gI rfl (ci := 8) (k := 1) rfl sh1 ?_
    refine g_sk 2 (pc1 := 175) (st1 := [AI (wr ((tI (uI τ q2 x2.toNat (wr ((tI τ q2 x2.toNat) + 1))) r4 1) + 1)), AR r4]) rfl ?_
    refine g_putI (x := (wr ((tI (uI τ q2 x2.toNat (wr ((tI τ q2 x2.toNat) + 1))) r4 1) + 1))) rfl (ci := 8) (k := 1) (kd := 0) rfl (by decide) rfl rfl sh1 ?_
    refine g_sk 1 (pc1 := 180) (st1 := [AR r4]) rfl ?_
    refine g_gQ rfl (ci := 8) (k := 5) rfl sh1 p9 ?_
    refine g_sk 2 (pc1 := 185) (st1 := [AR r0, AI x2, AR q8]) rfl ?_
    refine g_gI rfl (ci := 11) (k := 9) rfl sh10 ?_
    refine g_sk 1 (pc1 := 189) (st1 := [AR r0, AI (tI (uI (uI τ q2 x2.toNat (wr ((tI τ q2 x2.toNat) + 1))) r4 1 (wr ((tI (uI τ q2 x2.toNat (wr ((tI τ q2 x2.toNat) + 1))) r4 1) + 1))) r0 9), AI x2, AR q8]) rfl ?_
    refine g_gQ rfl (ci := 11) (k := 2) rfl sh10 p12 ?_
    refine g_sk 1 (pc1 := 193) (st1 := [AI x2, AR q11, AI (tI (uI (uI τ q2 x2.toNat (wr ((tI τ q2 x2.toNat) + 1))) r4 1 (wr ((tI (uI τ q2 x2.toNat (wr ((tI τ q2 x2.toNat) + 1))) r4 1) + 1))) r0 9), AI x2, AR q8]) rfl ?_
    refine g_aalQ rfl sh14 (by decide) (b15 c7).1 (b15 c7).2 (p17 c7) ?_
    refine g_gI rfl (ci := 6) (k := 5) rfl sh18 ?_
    refine g_sk 1 (pc1 := 198) (st1 := [AI (wr ((tI (uI (uI τ q2 x2.toNat (wr ((tI τ q2 x2.toNat) + 1))) r4 1 (wr ((tI (uI τ q2 x2.toNat (wr ((tI τ q2 x2.toNat) + 1))) r4 1) + 1))) r0 9) + (tI (uI (uI τ q2 x2.toNat (wr ((tI τ q2 x2.toNat) + 1))) r4 1 (wr ((tI (uI τ q2 x2.toNat (wr ((tI τ q2 x2.toNat) + 1))) r4 1) + 1))) q16 5))), AI x2, AR q8]) rfl ?_
    refine g_iast rfl sh20 (b21 c7).1 (b21 c7).2 ?_
    generalize e23 : (uI (uI (uI τ q2 x2.toNat (wr ((tI τ q2 x2.toNat) + 1))) r4 1 (wr ((tI (uI τ q2 x2.toNat (wr ((tI τ q2 x2.toNat) + 1))) r4 1) + 1))) q8 x2.toNat (wr ((tI (uI (uI τ q2 x2.toNat (wr ((tI τ q2 x2.toNat) + 1))) r4 1 (wr ((tI (uI τ q2 x2.toNat (wr ((tI τ q2 x2.toNat) + 1))) r4 1) + 1))) r0 9) + (tI (uI (uI τ q2 x2.toNat (wr ((tI τ q2 x2.toNat) + 1))) r4 1 (wr ((tI (uI τ q2 x2.toNat (wr ((tI τ q2 x2.toNat) + 1))) r4 1) + 1))) q16 5)))) = τ22
    refine g_sk 1 (pc1 := 201) (st1 := [AI x5]) rfl ?_
    refine g_iret rfl rfl ?_
    exact (k1 c7 τ22 e23)
  · have c7 : x5 = 1 := Decidable.of_not_not (of_decide_eq_false c7)
    refine g_sk 1 (pc1 := 155) (st1 := [AR r4]) rfl ?_
    refine g_gQ rfl (ci := 8) (k := 2) rfl sh1 p25 ?_
    refine g_sk 2 (pc1 := 160) (st1 := [AR r0, AI x2, AR q24]) rfl ?_
    refine g_gI rfl (ci := 11) (k := 9) rfl sh10 ?_
    refine g_iast rfl sh27 (b28 c7).1 (b28 c7).2 ?_
    refine g_sk 2 (pc1 := 201) (st1 := [AI x5]) rfl ?_
    refine g_iret rfl rfl ?_
    exact (k2 c7)

theorem t114_0 {d : Nat} {τ : T2} {Q : RS → T2 → Prop} {x1 x2 : Int} {r0 : Nat} (hd : 1 ≤ d) (sh1 : tS τ r0 = (1, 11, 0)) (k1 : G (d - 1) 130 0 [vR r0, vI x1] [] τ (KC d 114 2 5 [vR r0, vI x1, vI x2, none, none, none] [] Q)) : G d 114 0 [vR r0, vI x1, vI x2, none, none, none] [] τ Q := by
  refine g_sk 2 (pc1 := 2) (st1 := [AI x1, AR r0]) rfl ?_
  refine g_cv rfl rfl (by decide) rfl rfl (Nat.le_of_ble_eq_true rfl) (as2 := [AI x1]) rfl sh1 rfl (by omega) (L0 := [vR r0, vI x1]) rfl ?_
  exact k1

theorem t114_5 {d : Nat} {τ : T2} {Q : RS → T2 → Prop} {x1 x2 y0 : Int} {r0 : Nat} (hd : 1 ≤ d) (sh2 : tS τ r0 = (1, 11, 0)) (k1 : y0 = 0 → G (d - 1) 126 0 [vR r0, vI 1] [] τ (KC d 114 18 21 [none, none, none, none, none, none] [] Q)) (k2 : ¬ y0 = 0 → G (d - 1) 129 0 [vR r0, vI x2] [] τ (KC d 114 10 13 [vR r0, vI x1, vI x2, none, none, none] [] Q)) : G d 114 5 [vR r0, vI x1, vI x2, none, none, none] [AI y0] τ Q := by
  refine g_br1 rfl (t := 16) rfl (fun c1 => ?_) (fun c1 => ?_)
  · have c1 : y0 = 0 := of_decide_eq_true c1
    refine g_sk 2 (pc1 := 18) (st1 := [AI 1, AR r0]) rfl ?_
    refine G_fg (lw2_f _ (lw2_f _ (lw2_f _ (lw2_k _ (lw2_k _ (lw2_k _ lw2_nil)))))) ?_
    refine g_cv rfl rfl (by decide) rfl rfl (Nat.le_of_ble_eq_true rfl) (as2 := [AI 1]) rfl sh2 rfl (by omega) (L0 := [vR r0, vI 1]) rfl ?_
    exact (k1 c1)
  · have c1 : ¬ y0 = 0 := of_decide_eq_false c1
    refine g_sk 2 (pc1 := 10) (st1 := [AI x2, AR r0]) rfl ?_
    refine g_cv rfl rfl (by decide) rfl rfl (Nat.le_of_ble_eq_true rfl) (as2 := [AI x2]) rfl sh2 rfl (by omega) (L0 := [vR r0, vI x2]) rfl ?_
    exact (k2 c1)

theorem t114_13 {d : Nat} {τ : T2} {Q : RS → T2 → Prop} {x1 x2 y0 : Int} {r0 q3 n5 : Nat} (hd : 1 ≤ d) (sh2 : tS τ r0 = (1, 11, 0)) (p4 : tP τ r0 5 = some q3) (sh6 : tS τ q3 = (3, 5, n5)) (b7 : ¬ y0 = 0 → 0 ≤ x1 ∧ x1 < (n5 : Int)) (k1 : ¬ y0 = 0 → G (d - 1) 141 0 [vR r0, vQ (tP τ q3 x1.toNat), vI x2] [] τ (KC d 114 32 35 [vR r0, vI x1, vI x2, vQ (tP τ q3 x1.toNat), none, none] [] Q)) (k2 : y0 = 0 → G (d - 1) 126 0 [vR r0, vI 1] [] τ (KC d 114 18 21 [none, none, none, none, none, none] [] Q)) : G d 114 13 [vR r0, vI x1, vI x2, none, none, none] [AI y0] τ Q := by
  refine g_br1 rfl (t := 22) rfl (fun c1 => ?_) (fun c1 => ?_)
  · have c1 : ¬ y0 = 0 := of_decide_eq_true c1
    refine g_sk 1 (pc1 := 23) (st1 := [AR r0]) rfl ?_
    refine g_gQ rfl (ci := 11) (k := 5) rfl sh2 p4 ?_
    refine g_sk 1 (pc1 := 27) (st1 := [AI x1, AR q3]) rfl ?_
    refine g_aald rfl sh6 (by decide) (b7 c1).1 (b7 c1).2 ?_
    refine g_sx 4 (pc1 := 32) (L1 := [vR r0, vI x1, vI x2, vQ (tP τ q3 x1.toNat), none, none]) (st1 := [AI x2, AP (tP τ q3 x1.toNat), AR r0]) rfl ?_
    refine g_cv rfl rfl (by decide) rfl rfl (Nat.le_of_ble_eq_true rfl) (as2 := [AP (tP τ q3 x1.toNat), AI x2]) rfl sh2 rfl (by omega) (L0 := [vR r0, vQ (tP τ q3 x1.toNat), vI x2]) rfl ?_
    exact (k1 c1)
  · have c1 : y0 = 0 := Decidable.of_not_not (of_decide_eq_false c1)
    refine g_sk 2 (pc1 := 18) (st1 := [AI 1, AR r0]) rfl ?_
    refine G_fg (lw2_f _ (lw2_f _ (lw2_f _ (lw2_k _ (lw2_k _ (lw2_k _ lw2_nil)))))) ?_
    refine g_cv rfl rfl (by decide) rfl rfl (Nat.le_of_ble_eq_true rfl) (as2 := [AI 1]) rfl sh2 rfl (by omega) (L0 := [vR r0, vI 1]) rfl ?_
    exact (k2 c1)

theorem t114_21 {d : Nat} {τ : T2} {Q : RS → T2 → Prop} {y0 : Int} (k1 : Q (.inl (some (AI y0))) τ) : G d 114 21 [none, none, none, none, none, none] [AI y0] τ Q := by
  refine g_iret rfl rfl ?_
  exact k1

theorem t114_35 {d : Nat} {τ : T2} {Q : RS → T2 → Prop} {x1 x2 y0 : Int} {r0 r3 q3 n5 q10 n12 q15 q17 n19 : Nat} (hd : 1 ≤ d) (sh2 : tS τ r3 = (1, 8, 0)) (p4 : tP τ r3 2 = some q3) (sh6 : tS τ q3 = (2, 0, n5)) (b7 : ¬ y0 = 0 → 0 ≤ x2 ∧ x2 < (n5 : Int)) (sh9 : tS τ r0 = (1, 11, 0)) (p11 : tP τ r0 2 = some q10) (sh13 : tS τ q10 = (3, 4, n12)) (b14 : ¬ y0 = 0 → (tI τ q3 x2.toNat) = (-1) → 0 ≤ x2 ∧ x2 < (n12 : Int)) (p16 : ¬ y0 = 0 → (tI τ q3 x2.toNat) = (-1) → tP τ q10 x2.toNat = some q15) (p18 : tP τ r3 4 = some q17) (sh20 : tS τ q17 = (2, 0, n19)) (b21 : ¬ y0 = 0 → (tI τ q3 x2.toNat) = (-1) → 0 ≤ x2 ∧ x2 < (n19 : Int)) (sh22 : tS τ q15 = (1, 6, 0)) (k1 : ¬ y0 = 0 → (tI τ q3 x2.toNat) = (-1) → (tI τ q15 6) ≤ (tI τ q17 x2.toNat) → G (d - 1) 126 0 [vR r0, vI 8] [] τ (KC d 114 96 99 [none, none, none, none, none, none] [] Q)) (k2 : ¬ y0 = 0 → (tI τ q3 x2.toNat) = (-1) → (tI τ q17 x2.toNat) < (tI τ q15 6) → (tI τ q17 x2.toNat) < 3 → G (d - 1) 62 0 [vR r3, vI (tI τ r0 9), none, none] [] τ (KC d 114 109 112 [vR r0, vI x1, vI x2, vR r3, vR q15, vI (tI τ q17 x2.toNat)] [AI (tI τ r0 9)] Q)) (k3 : ¬ y0 = 0 → (tI τ q3 x2.toNat) = (-1) → (tI τ q17 x2.toNat) < (tI τ q15 6) → 3 ≤ (tI τ q17 x2.toNat) → G (d - 1) 126 0 [vR r0, vI 8] [] τ (KC d 114 96 99 [none, none, none, none, none, none] [] Q)) (k4 : ¬ y0 = 0 → ¬ (tI τ q3 x2.toNat) = (-1) → G (d - 1) 126 0 [vR r0, vI 6] [] τ (KC d 114 57 60 [none, none, none, none, none, none] [] Q)) (k5 : y0 = 0 → G (d - 1) 126 0 [vR r0, vI 5] [] τ (KC d 114 40 43 [none, none, none, none, none, none] [] Q)) : G d 114 35 [vR r0, vI x1, vI x2, vR r3, none, none] [AI y0] τ Q := by
  refine g_br1 rfl (t := 44) rfl (fun c1 => ?_) (fun c1 => ?_)
  · have c1 : ¬ y0 = 0 := of_decide_eq_true c1
    refine g_sk 1 (pc1 := 45) (st1 := [AR r3]) rfl ?_
    refine g_gQ rfl (ci := 8) (k := 2) rfl sh2 p4 ?_
    refine g_sk 1 (pc1 := 49) (st1 := [AI x2, AR q3]) rfl ?_
    refine g_iald rfl sh6 (by decide) (b7 c1).1 (b7 c1).2 ?_
    refine g_sk 1 (pc1 := 51) (st1 := [AI (-1), AI (tI τ q3 x2.toNat)]) rfl ?_
    refine g_br2 rfl (t := 61) rfl (fun c8 => ?_) (fun c8 => ?_)
    · have c8 : (tI τ q3 x2.toNat) = (-1) := of_decide_eq_true c8
      refine g_sk 1 (pc1 := 62) (st1 := [AR r0]) rfl ?_
      refine g_gQ rfl (ci := 11) (k := 2) rfl sh9 p11 ?_
      refine g_sk 1 (pc1 := 66) (st1 := [AI x2, AR q10]) rfl ?_
      refine g_aalQ rfl sh13 (by decide) (b14 c1 c8).1 (b14 c1 c8).2 (p16 c1 c8) ?_
      refine g_sx 2 (pc1 := 70) (L1 := [vR r0, vI x1, vI x2, vR r3, vR q15, none]) (st1 := [AR r3]) rfl ?_
      refine g_gQ rfl (ci := 8) (k := 4) rfl sh2 p18 ?_
      refine g_sk 1 (pc1 := 74) (st1 := [AI x2, AR q17]) rfl ?_
      refine g_iald rfl sh20 (by decide) (b21 c1 c8).1 (b21 c1 c8).2 ?_
      refine g_sx 3 (pc1 := 81) (L1 := [vR r0, vI x1, vI x2, vR r3, vR q15, vI (tI τ q17 x2.toNat)]) (st1 := [AR q15, AI (tI τ q17 x2.toNat)]) rfl ?_
      refine g_gI rfl (ci := 6) (k := 6) rfl sh22 ?_
      refine g_br2 rfl (t := 93) rfl (fun c23 => ?_) (fun c23 => ?_)
      · have c23 : (tI τ q15 6) ≤ (tI τ q17 x2.toNat) := of_decide_eq_true c23
        refine g_sk 2 (pc1 := 96) (st1 := [AI 8, AR r0]) rfl ?_
        refine G_fg (lw2_f _ (lw2_f _ (lw2_f _ (lw2_f _ (lw2_f _ (lw2_f _ lw2_nil)))))) ?_
        refine g_cv rfl rfl (by decide) rfl rfl (Nat.le_of_ble_eq_true rfl) (as2 := [AI 8]) rfl sh9 rfl (by omega) (L0 := [vR r0, vI 8]) rfl ?_
        exact (k1 c1 c8 c23)
      · have c23 : (tI τ q17 x2.toNat) < (tI τ q15 6) := Int.not_le.mp (of_decide_eq_false c23)
        refine g_sk 2 (pc1 := 90) (st1 := [AI 3, AI (tI τ q17 x2.toNat)]) rfl ?_
        refine g_br2 rfl (t := 100) rfl (fun c24 => ?_) (fun c24 => ?_)
        · have c24 : (tI τ q17 x2.toNat) < 3 := of_decide_eq_true c24
          refine g_sk 1 (pc1 := 101) (st1 := [AR r0]) rfl ?_
          refine g_gI rfl (ci := 11) (k := 9) rfl sh9 ?_
          refine g_sk 2 (pc1 := 106) (st1 := [AR r0, AR r3, AI (tI τ r0 9)]) rfl ?_
          refine g_gI rfl (ci := 11) (k := 9) rfl sh9 ?_
          refine g_cv rfl rfl (by decide) rfl rfl (Nat.le_of_ble_eq_true rfl) (as2 := [AI (tI τ r0 9)]) rfl sh2 rfl (by omega) (L0 := [vR r3, vI (tI τ r0 9), none, none]) rfl ?_
          exact (k2 c1 c8 c23 c24)
        · have c24 : 3 ≤ (tI τ q17 x2.toNat) := Int.not_lt.mp (of_decide_eq_false c24)
          refine g_sk 2 (pc1 := 96) (st1 := [AI 8, AR r0]) rfl ?_
          refine G_fg (lw2_f _ (lw2_f _ (lw2_f _ (lw2_f _ (lw2_f _ (lw2_f _ lw2_nil)))))) ?_
          refine g_cv rfl rfl (by decide) rfl rfl (Nat.le_of_ble_eq_true rfl) (as2 := [AI 8]) rfl sh9 rfl (by omega) (L0 := [vR r0, vI 8]) rfl ?_
          exact (k3 c1 c8 c23 c24)
    · have c8 : ¬ (tI τ q3 x2.toNat) = (-1) := of_decide_eq_false c8
      refine g_sk 2 (pc1 := 57) (st1 := [AI 6, AR r0]) rfl ?_
      refine G_fg (lw2_f _ (lw2_f _ (lw2_f _ (lw2_f _ (lw2_k _ (lw2_k _ lw2_nil)))))) ?_
      refine g_cv rfl rfl (by decide) rfl rfl (Nat.le_of_ble_eq_true rfl) (as2 := [AI 6]) rfl sh9 rfl (by omega) (L0 := [vR r0, vI 6]) rfl ?_
      exact (k4 c1 c8)
  · have c1 : y0 = 0 := Decidable.of_not_not (of_decide_eq_false c1)
    refine g_sk 2 (pc1 := 40) (st1 := [AI 5, AR r0]) rfl ?_
    refine G_fg (lw2_f _ (lw2_f _ (lw2_f _ (lw2_f _ (lw2_k _ (lw2_k _ lw2_nil)))))) ?_
    refine g_cv rfl rfl (by decide) rfl rfl (Nat.le_of_ble_eq_true rfl) (as2 := [AI 5]) rfl sh9 rfl (by omega) (L0 := [vR r0, vI 5]) rfl ?_
    exact (k5 c1)

theorem t114_43 {d : Nat} {τ : T2} {Q : RS → T2 → Prop} {y0 : Int} (k1 : Q (.inl (some (AI y0))) τ) : G d 114 43 [none, none, none, none, none, none] [AI y0] τ Q := by
  refine g_iret rfl rfl ?_
  exact k1

theorem t114_60 {d : Nat} {τ : T2} {Q : RS → T2 → Prop} {y0 : Int} (k1 : Q (.inl (some (AI y0))) τ) : G d 114 60 [none, none, none, none, none, none] [AI y0] τ Q := by
  refine g_iret rfl rfl ?_
  exact k1

theorem t114_99 {d : Nat} {τ : T2} {Q : RS → T2 → Prop} {y0 : Int} (k1 : Q (.inl (some (AI y0))) τ) : G d 114 99 [none, none, none, none, none, none] [AI y0] τ Q := by
  refine g_iret rfl rfl ?_
  exact k1

theorem t114_112 {d : Nat} {τ : T2} {Q : RS → T2 → Prop} {x1 x2 x5 y0 y1 : Int} {r0 r4 q2 n4 : Nat} {r3 : Option Nat} (hd : 1 ≤ d) (sh1 : tS τ r4 = (1, 6, 0)) (p3 : tP τ r4 7 = some q2) (sh5 : tS τ q2 = (2, 0, n4)) (b6 : 0 ≤ x5 ∧ x5 < (n4 : Int)) (sh8 : tS τ r0 = (1, 11, 0)) (k1 : (tI τ q2 x5.toNat) ≤ (wr (y1 - y0)) → G (d - 1) 127 0 [vR r0, vI 11, vI x1, vI x2, vI 0, vI 0] [] τ (KC d 114 138 141 [vR r0, none, vI x2, vQ r3, none, vI x5] [] Q)) (k2 : (wr (y1 - y0)) < (tI τ q2 x5.toNat) → G (d - 1) 126 0 [vR r0, vI 8] [] τ (KC d 114 127 130 [none, none, none, none, none, none] [] Q)) : G d 114 112 [vR r0, vI x1, vI x2, vQ r3, vR r4, vI x5] [AI y0, AI y1] τ Q := by
  refine g_sk 2 (pc1 := 115) (st1 := [AR r4, AI (wr (y1 - y0))]) rfl ?_
  refine g_gQ rfl (ci := 6) (k := 7) rfl sh1 p3 ?_
  refine g_sk 1 (pc1 := 120) (st1 := [AI x5, AR q2, AI (wr (y1 - y0))]) rfl ?_
  refine g_iald rfl sh5 (by decide) b6.1 b6.2 ?_
  refine g_br2 rfl (t := 131) rfl (fun c7 => ?_) (fun c7 => ?_)
  · have c7 : (tI τ q2 x5.toNat) ≤ (wr (y1 - y0)) := of_decide_eq_true c7
    refine g_sk 6 (pc1 := 138) (st1 := [AI 0, AI 0, AI x2, AI x1, AI 11, AR r0]) rfl ?_
    refine G_fg (lw2_k _ (lw2_f _ (lw2_k _ (lw2_k _ (lw2_f _ (lw2_k _ lw2_nil)))))) ?_
    refine g_cv rfl rfl (by decide) rfl rfl (Nat.le_of_ble_eq_true rfl) (as2 := [AI 11, AI x1, AI x2, AI 0, AI 0]) rfl sh8 rfl (by omega) (L0 := [vR r0, vI 11, vI x1, vI x2, vI 0, vI 0]) rfl ?_
    exact (k1 c7)
  · have c7 : (wr (y1 - y0)) < (tI τ q2 x5.toNat) := Int.not_le.mp (of_decide_eq_false c7)
    refine g_sk 2 (pc1 := 127) (st1 := [AI 8, AR r0]) rfl ?_
    refine G_fg (lw2_f _ (lw2_f _ (lw2_f _ (lw2_f _ (lw2_f _ (lw2_f _ lw2_nil)))))) ?_
    refine g_cv rfl rfl (by decide) rfl rfl (Nat.le_of_ble_eq_true rfl) (as2 := [AI 8]) rfl sh8 rfl (by omega) (L0 := [vR r0, vI 8]) rfl ?_
    exact (k2 c7)

theorem t114_130 {d : Nat} {τ : T2} {Q : RS → T2 → Prop} {y0 : Int} (k1 : Q (.inl (some (AI y0))) τ) : G d 114 130 [none, none, none, none, none, none] [AI y0] τ Q := by
  refine g_iret rfl rfl ?_
  exact k1

theorem t114_141 {d : Nat} {τ : T2} {Q : RS → T2 → Prop} {x2 x5 : Int} {r0 r3 q2 n5 q8 n10 : Nat} (sh1 : tS τ r3 = (1, 8, 0)) (p3 : tP τ r3 6 = some q2) (sh4 : tS τ r0 = (1, 11, 0)) (sh6 : tS τ q2 = (2, 0, n5)) (b7 : 0 ≤ (wr ((wr (x2 * 3)) + x5)) ∧ (wr ((wr (x2 * 3)) + x5)) < (n5 : Int)) (p9 : tP τ r3 4 = some q8) (sh11 : tS τ q8 = (2, 0, n10)) (b12 : 0 ≤ x2 ∧ x2 < (n10 : Int)) (k1 : Q (.inl (some (AI x5))) (uI (uI τ q2 (wr ((wr (x2 * 3)) + x5)).toNat (tI τ r0 9)) q8 x2.toNat (wr ((tI (uI τ q2 (wr ((wr (x2 * 3)) + x5)).toNat (tI τ r0 9)) q8 x2.toNat) + 1)))) : G d 114 141 [vR r0, none, vI x2, vR r3, none, vI x5] [] τ Q := by
  refine g_sk 1 (pc1 := 142) (st1 := [AR r3]) rfl ?_
  refine g_gQ rfl (ci := 8) (k := 6) rfl sh1 p3 ?_
  refine g_sk 6 (pc1 := 152) (st1 := [AR r0, AI (wr ((wr (x2 * 3)) + x5)), AR q2]) rfl ?_
  refine g_gI rfl (ci := 11) (k := 9) rfl sh4 ?_
  refine g_iast rfl sh6 b7.1 b7.2 ?_
  refine g_sk 1 (pc1 := 157) (st1 := [AR r3]) rfl ?_
  refine g_gQ rfl (ci := 8) (k := 4) rfl sh1 p9 ?_
  refine g_sk 2 (pc1 := 162) (st1 := [AI x2, AR q8, AI x2, AR q8]) rfl ?_
  refine g_iald rfl sh11 (by decide) b12.1 b12.2 ?_
  refine g_sk 2 (pc1 := 165) (st1 := [AI (wr ((tI (uI τ q2 (wr ((wr (x2 * 3)) + x5)).toNat (tI τ r0 9)) q8 x2.toNat) + 1)), AI x2, AR q8]) rfl ?_
  refine g_iast rfl sh11 b12.1 b12.2 ?_
  refine g_sk 1 (pc1 := 168) (st1 := [AI x5]) rfl ?_
  refine g_iret rfl rfl ?_
  exact k1

theorem t115_0 {d : Nat} {τ : T2} {Q : RS → T2 → Prop} {x1 x2 : Int} {r0 : Nat} (hd : 1 ≤ d) (sh1 : tS τ r0 = (1, 11, 0)) (k1 : G (d - 1) 130 0 [vR r0, vI x1] [] τ (KC d 115 2 5 [vR r0, vI x1, vI x2, none] [] Q)) : G d 115 0 [vR r0, vI x1, vI x2, none] [] τ Q := by
  refine g_sk 2 (pc1 := 2) (st1 := [AI x1, AR r0]) rfl ?_
  refine g_cv rfl rfl (by decide) rfl rfl (Nat.le_of_ble_eq_true rfl) (as2 := [AI x1]) rfl sh1 rfl (by omega) (L0 := [vR r0, vI x1]) rfl ?_
  exact k1

theorem t115_5 {d : Nat} {τ : T2} {Q : RS → T2 → Prop} {x1 x2 y0 : Int} {r0 q3 n5 : Nat} (sh2 : tS τ r0 = (1, 11, 0)) (p4 : tP τ r0 5 = some q3) (sh6 : tS τ q3 = (3, 5, n5)) (b7 : ¬ y0 = 0 → 0 ≤ x1 ∧ x1 < (n5 : Int)) (k1 : ¬ y0 = 0 → G d 115 18 [vR r0, none, none, vQ (tP τ q3 x1.toNat)] [AI x2] τ Q) (k2 : y0 = 0 → Q (.inl (some (AI (-1)))) τ) : G d 115 5 [vR r0, vI x1, vI x2, none] [AI y0] τ Q := by
  refine g_br1 rfl (t := 10) rfl (fun c1 => ?_) (fun c1 => ?_)
  · have c1 : ¬ y0 = 0 := of_decide_eq_true c1
    refine g_sk 1 (pc1 := 11) (st1 := [AR r0]) rfl ?_
    refine g_gQ rfl (ci := 11) (k := 5) rfl sh2 p4 ?_
    refine g_sk 1 (pc1 := 15) (st1 := [AI x1, AR q3]) rfl ?_
    refine g_aald rfl sh6 (by decide) (b7 c1).1 (b7 c1).2 ?_
    refine g_sx 2 (pc1 := 18) (L1 := [vR r0, vI x1, vI x2, vQ (tP τ q3 x1.toNat)]) (st1 := [AI x2]) rfl ?_
    exact G_fg (lw2_k _ (lw2_f _ (lw2_f _ (lw2_k _ lw2_nil)))) (k1 c1)
  · have c1 : y0 = 0 := Decidable.of_not_not (of_decide_eq_false c1)
    refine g_sk 1 (pc1 := 9) (st1 := [AI (-1)]) rfl ?_
    refine g_iret rfl rfl ?_
    exact (k2 c1)

theorem t115_73 {d : Nat} {τ : T2} {Q : RS → T2 → Prop} {y0 : Int} (hd : 1 ≤ d) (k1 : G (d - 1) 246 0 [vI y0] [] τ (KC d 115 73 76 [none, none, none, none] [] Q)) : G d 115 73 [none, none, none, none] [AI y0] τ Q := by
  refine g_cs rfl rfl (by decide) rfl rfl (Nat.le_of_ble_eq_true rfl) rfl (by omega) (L0 := [vI y0]) rfl ?_
  exact k1

theorem t115_76 {d : Nat} {τ : T2} {Q : RS → T2 → Prop} {y0 : Int} (k1 : Q (.inl (some (AI y0))) τ) : G d 115 76 [none, none, none, none] [AI y0] τ Q := by
  refine g_iret rfl rfl ?_
  exact k1

theorem t115_89 {d : Nat} {τ : T2} {Q : RS → T2 → Prop} {y0 : Int} (k1 : Q (.inl (some (AI y0))) τ) : G d 115 89 [none, none, none, none] [AI y0] τ Q := by
  refine g_iret rfl rfl ?_
  exact k1

theorem t115_102 {d : Nat} {τ : T2} {Q : RS → T2 → Prop} {y0 y1 : Int} (k1 : Q (.inl (some (AI (wr (y1 - y0))))) τ) : G d 115 102 [none, none, none, none] [AI y0, AI y1] τ Q := by
  refine g_sk 1 (pc1 := 103) (st1 := [AI (wr (y1 - y0))]) rfl ?_
  refine g_iret rfl rfl ?_
  exact k1

theorem t115_116 {d : Nat} {τ : T2} {Q : RS → T2 → Prop} {y0 : Int} (k1 : Q (.inl (some (AI y0))) τ) : G d 115 116 [none, none, none, none] [AI y0] τ Q := by
  refine g_iret rfl rfl ?_
  exact k1

theorem t115_130 {d : Nat} {τ : T2} {Q : RS → T2 → Prop} {y0 : Int} (k1 : Q (.inl (some (AI y0))) τ) : G d 115 130 [none, none, none, none] [AI y0] τ Q := by
  refine g_iret rfl rfl ?_
  exact k1

theorem t116_0 {d : Nat} {τ : T2} {Q : RS → T2 → Prop} {x1 x2 x3 : Int} {r0 : Nat} (hd : 1 ≤ d) (sh1 : tS τ r0 = (1, 11, 0)) (k1 : G (d - 1) 130 0 [vR r0, vI x1] [] τ (KC d 116 2 5 [vR r0, vI x1, vI x2, vI x3, none] [] Q)) : G d 116 0 [vR r0, vI x1, vI x2, vI x3, none] [] τ Q := by
  refine g_sk 2 (pc1 := 2) (st1 := [AI x1, AR r0]) rfl ?_
  refine g_cv rfl rfl (by decide) rfl rfl (Nat.le_of_ble_eq_true rfl) (as2 := [AI x1]) rfl sh1 rfl (by omega) (L0 := [vR r0, vI x1]) rfl ?_
  exact k1

theorem t116_5 {d : Nat} {τ : T2} {Q : RS → T2 → Prop} {x1 x2 x3 y0 : Int} {r0 : Nat} (hd : 1 ≤ d) (sh2 : tS τ r0 = (1, 11, 0)) (k1 : y0 = 0 → Q (.inl (some (AI (-1)))) τ) (k2 : ¬ y0 = 0 → G (d - 1) 129 0 [vR r0, vI x2] [] τ (KC d 116 10 13 [vR r0, vI x1, vI x2, vI x3, none] [] Q)) : G d 116 5 [vR r0, vI x1, vI x2, vI x3, none] [AI y0] τ Q := by
  refine g_br1 rfl (t := 16) rfl (fun c1 => ?_) (fun c1 => ?_)
  · have c1 : y0 = 0 := of_decide_eq_true c1
    refine g_sk 1 (pc1 := 17) (st1 := [AI (-1)]) rfl ?_
    refine g_iret rfl rfl ?_
    exact (k1 c1)
  · have c1 : ¬ y0 = 0 := of_decide_eq_false c1
    refine g_sk 2 (pc1 := 10) (st1 := [AI x2, AR r0]) rfl ?_
    refine g_cv rfl rfl (by decide) rfl rfl (Nat.le_of_ble_eq_true rfl) (as2 := [AI x2]) rfl sh2 rfl (by omega) (L0 := [vR r0, vI x2]) rfl ?_
    exact (k2 c1)

theorem t116_13 {d : Nat} {τ : T2} {Q : RS → T2 → Prop} {x1 x2 x3 y0 : Int} {r0 q3 n5 : Nat} (sh2 : tS τ r0 = (1, 11, 0)) (p4 : tP τ r0 5 = some q3) (sh6 : tS τ q3 = (3, 5, n5)) (b7 : ¬ y0 = 0 → 0 ≤ x1 ∧ x1 < (n5 : Int)) (k1 : ¬ y0 = 0 → G d 116 27 [none, none, vI x2, none, vQ (tP τ q3 x1.toNat)] [AI x3] τ Q) (k2 : y0 = 0 → Q (.inl (some (AI (-1)))) τ) : G d 116 13 [vR r0, vI x1, vI x2, vI x3, none] [AI y0] τ Q := by
  refine g_br1 rfl (t := 18) rfl (fun c1 => ?_) (fun c1 => ?_)
  · have c1 : ¬ y0 = 0 := of_decide_eq_true c1
    refine g_sk 1 (pc1 := 19) (st1 := [AR r0]) rfl ?_
    refine g_gQ rfl (ci := 11) (k := 5) rfl sh2 p4 ?_
    refine g_sk 1 (pc1 := 23) (st1 := [AI x1, AR q3]) rfl ?_
    refine g_aald rfl sh6 (by decide) (b7 c1).1 (b7 c1).2 ?_
    refine g_sx 2 (pc1 := 27) (L1 := [vR r0, vI x1, vI x2, vI x3, vQ (tP τ q3 x1.toNat)]) (st1 := [AI x3]) rfl ?_
    exact G_fg (lw2_f _ (lw2_f _ (lw2_k _ (lw2_f _ (lw2_k _ lw2_nil))))) (k1 c1)
  · have c1 : y0 = 0 := Decidable.of_not_not (of_decide_eq_false c1)
    refine g_sk 1 (pc1 := 17) (st1 := [AI (-1)]) rfl ?_
    refine g_iret rfl rfl ?_
    exact (k2 c1)

theorem t117_0 {d : Nat} {τ : T2} {Q : RS → T2 → Prop} {x1 x2 : Int} {r0 : Nat} (hd : 1 ≤ d) (sh3 : tS τ r0 = (1, 11, 0)) (k1 : x1 < 0 → Q (.inl (some (AI (-1)))) τ) (k2 : 0 ≤ x1 → x2 < 0 → Q (.inl (some (AI (-1)))) τ) (k3 : 0 ≤ x1 → 0 ≤ x2 → x2 ≤ (tI τ r0 9) → G (d - 1) 134 0 [vR r0, none] [] τ (KC d 117 19 22 [vR r0, vI x1, vI x2, none, none] [] Q)) (k4 : 0 ≤ x1 → 0 ≤ x2 → (tI τ r0 9) < x2 → Q (.inl (some (AI (-1)))) τ) : G d 117 0 [vR r0, vI x1, vI x2, none, none] [] τ Q := by
  refine g_sk 1 (pc1 := 1) (st1 := [AI x1]) rfl ?_
  refine g_br1 rfl (t := 16) rfl (fun c1 => ?_) (fun c1 => ?_)
  · have c1 : x1 < 0 := of_decide_eq_true c1
    refine g_sk 1 (pc1 := 17) (st1 := [AI (-1)]) rfl ?_
    refine g_iret rfl rfl ?_
    exact (k1 c1)
  · have c1 : 0 ≤ x1 := Int.not_lt.mp (of_decide_eq_false c1)
    refine g_sk 1 (pc1 := 5) (st1 := [AI x2]) rfl ?_
    refine g_br1 rfl (t := 16) rfl (fun c2 => ?_) (fun c2 => ?_)
    · have c2 : x2 < 0 := of_decide_eq_true c2
      refine g_sk 1 (pc1 := 17) (st1 := [AI (-1)]) rfl ?_
      refine g_iret rfl rfl ?_
      exact (k2 c1 c2)
    · have c2 : 0 ≤ x2 := Int.not_lt.mp (of_decide_eq_false c2)
      refine g_sk 2 (pc1 := 10) (st1 := [AR r0, AI x2]) rfl ?_
      refine g_gI rfl (ci := 11) (k := 9) rfl sh3 ?_
      refine g_br2 rfl (t := 18) rfl (fun c4 => ?_) (fun c4 => ?_)
      · have c4 : x2 ≤ (tI τ r0 9) := of_decide_eq_true c4
        refine g_sk 1 (pc1 := 19) (st1 := [AR r0]) rfl ?_
        refine g_cv rfl rfl (by decide) rfl rfl (Nat.le_of_ble_eq_true rfl) (as2 := []) rfl sh3 rfl (by omega) (L0 := [vR r0, none]) rfl ?_
        exact (k3 c1 c2 c4)
      · have c4 : (tI τ r0 9) < x2 := Int.not_le.mp (of_decide_eq_false c4)
        refine g_sk 1 (pc1 := 17) (st1 := [AI (-1)]) rfl ?_
        refine g_iret rfl rfl ?_
        exact (k4 c1 c2 c4)

theorem t117_22 {d : Nat} {τ : T2} {Q : RS → T2 → Prop} {x1 x2 y0 : Int} {r0 : Nat} (k1 : G d 117 26 [vR r0, vI x1, vI x2, vI y0, vI 0] [] τ Q) : G d 117 22 [vR r0, vI x1, vI x2, none, none] [AI y0] τ Q := by
  refine g_sx 3 (pc1 := 26) (L1 := [vR r0, vI x1, vI x2, vI y0, vI 0]) (st1 := []) rfl ?_
  exact k1

theorem t117_26 {d : Nat} {τ : T2} {Q : RS → T2 → Prop} {x1 x2 x3 x4 : Int} {r0 : Nat} (hd : 1 ≤ d) (sh1 : tS τ r0 = (1, 11, 0)) (k1 : (tI τ r0 6) ≤ x4 → G d 117 66 [vR r0, vI x1, vI x2, none, vI 0] [] τ Q) (k2 : x4 < (tI τ r0 6) → 8 ≤ x4 → G d 117 66 [vR r0, vI x1, vI x2, none, vI 0] [] τ Q) (k3 : x4 < (tI τ r0 6) → x4 < 8 → G (d - 1) 142 0 [vR r0, vI x4, vI x3, vI x2, none, none, none] [] τ (KC d 117 53 56 [vR r0, vI x1, vI x2, vI x3, vI x4] [AI x4, AP (tP τ r0 7)] Q)) : G d 117 26 [vR r0, vI x1, vI x2, vI x3, vI x4] [] τ Q := by
  refine g_sk 2 (pc1 := 29) (st1 := [AR r0, AI x4]) rfl ?_
  refine g_gI rfl (ci := 11) (k := 6) rfl sh1 ?_
  refine g_br2 rfl (t := 63) rfl (fun c2 => ?_) (fun c2 => ?_)
  · have c2 : (tI τ r0 6) ≤ x4 := of_decide_eq_true c2
    refine g_sx 2 (pc1 := 66) (L1 := [vR r0, vI x1, vI x2, vI x3, vI 0]) (st1 := []) rfl ?_
    exact G_fg (lw2_k _ (lw2_k _ (lw2_k _ (lw2_f _ (lw2_k _ lw2_nil))))) (k1 c2)
  · have c2 : x4 < (tI τ r0 6) := Int.not_le.mp (of_decide_eq_false c2)
    refine g_sk 2 (pc1 := 39) (st1 := [AI 8, AI x4]) rfl ?_
    refine g_br2 rfl (t := 63) rfl (fun c3 => ?_) (fun c3 => ?_)
    · have c3 : 8 ≤ x4 := of_decide_eq_true c3
      refine g_sx 2 (pc1 := 66) (L1 := [vR r0, vI x1, vI x2, vI x3, vI 0]) (st1 := []) rfl ?_
      exact G_fg (lw2_k _ (lw2_k _ (lw2_k _ (lw2_f _ (lw2_k _ lw2_nil))))) (k2 c2 c3)
    · have c3 : x4 < 8 := Int.not_le.mp (of_decide_eq_false c3)
      refine g_sk 1 (pc1 := 43) (st1 := [AR r0]) rfl ?_
      refine g_gP rfl (ci := 11) (k := 7) rfl sh1 ?_
      refine g_sk 5 (pc1 := 53) (st1 := [AI x2, AI x3, AI x4, AR r0, AI x4, AP (tP τ r0 7)]) rfl ?_
      refine g_cv rfl rfl (by decide) rfl rfl (Nat.le_of_ble_eq_true rfl) (as2 := [AI x4, AI x3, AI x2]) rfl sh1 rfl (by omega) (L0 := [vR r0, vI x4, vI x3, vI x2, none, none, none]) rfl ?_
      exact (k3 c2 c3)

theorem t117_56 {d : Nat} {τ : T2} {Q : RS → T2 → Prop} {x1 x2 x3 x4 y0 y1 : Int} {r0 s2 n1 : Nat} (sh2 : tS τ s2 = (2, 3, n1)) (b3 : 0 ≤ y1 ∧ y1 < (n1 : Int)) (k1 : G d 117 26 [vR r0, vI x1, vI x2, vI x3, vI (wr (x4 + 1))] [] (uI τ s2 y1.toNat y0) Q) : G d 117 56 [vR r0, vI x1, vI x2, vI x3, vI x4] [AL y0, AI y1, AR s2] τ Q := by
  refine g_last rfl sh2 b3.1 b3.2 ?_
  refine g_sx 2 (pc1 := 26) (L1 := [vR r0, vI x1, vI x2, vI x3, vI (wr (x4 + 1))]) (st1 := []) rfl ?_
  exact k1

theorem t117_66 {d : Nat} {τ : T2} {Q : RS → T2 → Prop} {x1 x2 x4 : Int} {r0 q4 n6 q9 : Nat} (hd : 1 ≤ d) (sh1 : tS τ r0 = (1, 11, 0)) (p5 : tP τ r0 5 = some q4) (sh7 : tS τ q4 = (3, 5, n6)) (b8 : x4 < (tI τ r0 6) → x4 < 8 → 0 ≤ x4 ∧ x4 < (n6 : Int)) (p10 : x4 < (tI τ r0 6) → x4 < 8 → tP τ q4 x4.toNat = some q9) (sh11 : tS τ q9 = (1, 8, 0)) (k1 : (tI τ r0 6) ≤ x4 → Q (.inl (some (AI (-1)))) τ) (k2 : x4 < (tI τ r0 6) → 8 ≤ x4 → Q (.inl (some (AI (-1)))) τ) (k3 : x4 < (tI τ r0 6) → x4 < 8 → x2 < (tI τ q9 0) → G d 117 66 [vR r0, vI x1, vI x2, none, vI (wr (x4 + 1))] [] τ Q) (k4 : x4 < (tI τ r0 6) → x4 < 8 → (tI τ q9 0) ≤ x2 → G (d - 1) 143 0 [vR r0, vI x4, vI x2, none, none] [] τ (KC d 117 100 103 [vR r0, vI x1, vI x2, none, vI x4] [] Q)) : G d 117 66 [vR r0, vI x1, vI x2, none, vI x4] [] τ Q := by
  refine g_sk 2 (pc1 := 69) (st1 := [AR r0, AI x4]) rfl ?_
  refine g_gI rfl (ci := 11) (k := 6) rfl sh1 ?_
  refine g_br2 rfl (t := 116) rfl (fun c2 => ?_) (fun c2 => ?_)
  · have c2 : (tI τ r0 6) ≤ x4 := of_decide_eq_true c2
    refine g_sk 1 (pc1 := 117) (st1 := [AI (-1)]) rfl ?_
    refine g_iret rfl rfl ?_
    exact (k1 c2)
  · have c2 : x4 < (tI τ r0 6) := Int.not_le.mp (of_decide_eq_false c2)
    refine g_sk 2 (pc1 := 79) (st1 := [AI 8, AI x4]) rfl ?_
    refine g_br2 rfl (t := 116) rfl (fun c3 => ?_) (fun c3 => ?_)
    · have c3 : 8 ≤ x4 := of_decide_eq_true c3
      refine g_sk 1 (pc1 := 117) (st1 := [AI (-1)]) rfl ?_
      refine g_iret rfl rfl ?_
      exact (k2 c2 c3)
    · have c3 : x4 < 8 := Int.not_le.mp (of_decide_eq_false c3)
      refine g_sk 1 (pc1 := 83) (st1 := [AR r0]) rfl ?_
      refine g_gQ rfl (ci := 11) (k := 5) rfl sh1 p5 ?_
      refine g_sk 1 (pc1 := 88) (st1 := [AI x4, AR q4]) rfl ?_
      refine g_aalQ rfl sh7 (by decide) (b8 c2 c3).1 (b8 c2 c3).2 (p10 c2 c3) ?_
      refine g_gI rfl (ci := 8) (k := 0) rfl sh11 ?_
      refine g_sk 1 (pc1 := 93) (st1 := [AI x2, AI (tI τ q9 0)]) rfl ?_
      refine g_br2 rfl (t := 110) rfl (fun c12 => ?_) (fun c12 => ?_)
      · have c12 : x2 < (tI τ q9 0) := of_decide_eq_true c12
        refine g_sx 2 (pc1 := 66) (L1 := [vR r0, vI x1, vI x2, none, vI (wr (x4 + 1))]) (st1 := []) rfl ?_
        exact (k3 c2 c3 c12)
      · have c12 : (tI τ q9 0) ≤ x2 := Int.not_lt.mp (of_decide_eq_false c12)
        refine g_sk 3 (pc1 := 100) (st1 := [AI x2, AI x4, AR r0]) rfl ?_
        refine g_cv rfl rfl (by decide) rfl rfl (Nat.le_of_ble_eq_true rfl) (as2 := [AI x4, AI x2]) rfl sh1 rfl (by omega) (L0 := [vR r0, vI x4, vI x2, none, none]) rfl ?_
        exact (k4 c2 c3 c12)

theorem t117_103 {d : Nat} {τ : T2} {Q : RS → T2 → Prop} {x1 x2 x4 y0 : Int} {r0 : Nat} (k1 : ¬ y0 = x1 → G d 117 66 [vR r0, vI x1, vI x2, none, vI (wr (x4 + 1))] [] τ Q) (k2 : y0 = x1 → Q (.inl (some (AI x4))) τ) : G d 117 103 [vR r0, vI x1, vI x2, none, vI x4] [AI y0] τ Q := by
  refine g_sk 1 (pc1 := 104) (st1 := [AI x1, AI y0]) rfl ?_
  refine g_br2 rfl (t := 110) rfl (fun c1 => ?_) (fun c1 => ?_)
  · have c1 : ¬ y0 = x1 := of_decide_eq_true c1
    refine g_sx 2 (pc1 := 66) (L1 := [vR r0, vI x1, vI x2, none, vI (wr (x4 + 1))]) (st1 := []) rfl ?_
    exact (k1 c1)
  · have c1 : y0 = x1 := Decidable.of_not_not (of_decide_eq_false c1)
    refine g_sk 1 (pc1 := 109) (st1 := [AI x4]) rfl ?_
    refine g_iret rfl rfl ?_
    exact (k2 c1)

theorem t118_0 {d : Nat} {τ : T2} {Q : RS → T2 → Prop} {x1 : Int} {r0 : Nat} (hd : 1 ≤ d) (sh1 : tS τ r0 = (1, 11, 0)) (k1 : G (d - 1) 131 0 [vR r0, vI x1] [] τ (KC d 118 2 5 [vR r0, vI x1] [] Q)) : G d 118 0 [vR r0, vI x1] [] τ Q := by
  refine g_sk 2 (pc1 := 2) (st1 := [AI x1, AR r0]) rfl ?_
  refine g_cv rfl rfl (by decide) rfl rfl (Nat.le_of_ble_eq_true rfl) (as2 := [AI x1]) rfl sh1 rfl (by omega) (L0 := [vR r0, vI x1]) rfl ?_
  exact k1

theorem t118_5 {d : Nat} {τ : T2} {Q : RS → T2 → Prop} {x1 y0 : Int} {r0 q3 : Nat} (hd : 1 ≤ d) (sh2 : tS τ r0 = (1, 11, 0)) (p4 : tP τ r0 14 = some q3) (sh5 : tS τ q3 = (1, 10, 0)) (k1 : ¬ y0 = 0 → G (d - 1) 83 0 [vR q3, vQ (tP τ r0 2), vI (tI τ r0 3), vQ (tP τ r0 4), vI x1, none, none] [] τ (KC d 118 31 34 [vR r0, none] [] Q)) (k2 : y0 = 0 → G (d - 1) 126 0 [vR r0, vI 2] [] τ (KC d 118 10 13 [none, none] [] Q)) : G d 118 5 [vR r0, vI x1] [AI y0] τ Q := by
  refine g_br1 rfl (t := 14) rfl (fun c1 => ?_) (fun c1 => ?_)
  · have c1 : ¬ y0 = 0 := of_decide_eq_true c1
    refine g_sk 1 (pc1 := 15) (st1 := [AR r0]) rfl ?_
    refine g_gQ rfl (ci := 11) (k := 14) rfl sh2 p4 ?_
    refine g_sk 1 (pc1 := 19) (st1 := [AR r0, AR q3]) rfl ?_
    refine g_gP rfl (ci := 11) (k := 2) rfl sh2 ?_
    refine g_sk 1 (pc1 := 23) (st1 := [AR r0, AP (tP τ r0 2), AR q3]) rfl ?_
    refine g_gI rfl (ci := 11) (k := 3) rfl sh2 ?_
    refine g_sk 1 (pc1 := 27) (st1 := [AR r0, AI (tI τ r0 3), AP (tP τ r0 2), AR q3]) rfl ?_
    refine g_gP rfl (ci := 11) (k := 4) rfl sh2 ?_
    refine g_sk 1 (pc1 := 31) (st1 := [AI x1, AP (tP τ r0 4), AI (tI τ r0 3), AP (tP τ r0 2), AR q3]) rfl ?_
    refine G_fg (lw2_k _ (lw2_f _ lw2_nil)) ?_
    refine g_cv rfl rfl (by decide) rfl rfl (Nat.le_of_ble_eq_true rfl) (as2 := [AP (tP τ r0 2), AI (tI τ r0 3), AP (tP τ r0 4), AI x1]) rfl sh5 rfl (by omega) (L0 := [vR q3, vQ (tP τ r0 2), vI (tI τ r0 3), vQ (tP τ r0 4), vI x1, none, none]) rfl ?_
    exact (k1 c1)
  · have c1 : y0 = 0 := Decidable.of_not_not (of_decide_eq_false c1)
    refine g_sk 2 (pc1 := 10) (st1 := [AI 2, AR r0]) rfl ?_
    refine G_fg (lw2_f _ (lw2_f _ lw2_nil)) ?_
    refine g_cv rfl rfl (by decide) rfl rfl (Nat.le_of_ble_eq_true rfl) (as2 := [AI 2]) rfl sh2 rfl (by omega) (L0 := [vR r0, vI 2]) rfl ?_
    exact (k2 c1)

theorem t118_13 {d : Nat} {τ : T2} {Q : RS → T2 → Prop} {y0 : Int} (k1 : Q (.inl (some (AI y0))) τ) : G d 118 13 [none, none] [AI y0] τ Q := by
  refine g_iret rfl rfl ?_
  exact k1

theorem t118_34 {d : Nat} {τ : T2} {Q : RS → T2 → Prop} {y0 : Int} {r0 q3 : Nat} (hd : 1 ≤ d) (sh2 : tS τ r0 = (1, 11, 0)) (p4 : tP τ r0 14 = some q3) (sh5 : tS τ q3 = (1, 10, 0)) (k1 : ¬ y0 = 0 → Q (.inl (some (AI (tI (uI τ r0 16 0) q3 4)))) (uI τ r0 16 0)) (k2 : y0 = 0 → G (d - 1) 126 0 [vR r0, vI 10] [] τ (KC d 118 40 43 [none, none] [] Q)) : G d 118 34 [vR r0, none] [AI y0] τ Q := by
  refine g_br1 rfl (t := 44) rfl (fun c1 => ?_) (fun c1 => ?_)
  · have c1 : ¬ y0 = 0 := of_decide_eq_true c1
    refine g_sk 2 (pc1 := 46) (st1 := [AI 0, AR r0]) rfl ?_
    refine g_putI (x := 0) rfl (ci := 11) (k := 16) (kd := 0) rfl (by decide) rfl rfl sh2 ?_
    refine g_sk 1 (pc1 := 50) (st1 := [AR r0]) rfl ?_
    refine g_gQ rfl (ci := 11) (k := 14) rfl sh2 p4 ?_
    refine g_gI rfl (ci := 10) (k := 4) rfl sh5 ?_
    refine g_iret rfl rfl ?_
    exact (k1 c1)
  · have c1 : y0 = 0 := Decidable.of_not_not (of_decide_eq_false c1)
    refine g_sk 2 (pc1 := 40) (st1 := [AI 10, AR r0]) rfl ?_
    refine G_fg (lw2_f _ (lw2_k _ lw2_nil)) ?_
    refine g_cv rfl rfl (by decide) rfl rfl (Nat.le_of_ble_eq_true rfl) (as2 := [AI 10]) rfl sh2 rfl (by omega) (L0 := [vR r0, vI 10]) rfl ?_
    exact (k2 c1)

theorem t118_43 {d : Nat} {τ : T2} {Q : RS → T2 → Prop} {y0 : Int} (k1 : Q (.inl (some (AI y0))) τ) : G d 118 43 [none, none] [AI y0] τ Q := by
  refine g_iret rfl rfl ?_
  exact k1

theorem t119_0 {d : Nat} {τ : T2} {Q : RS → T2 → Prop} {x1 : Int} {r0 : Nat} (hd : 1 ≤ d) (sh1 : tS τ r0 = (1, 11, 0)) (k1 : G (d - 1) 144 0 [vR r0, vI x1, none] [] τ (KC d 119 2 5 [vR r0, none, none] [] Q)) : G d 119 0 [vR r0, vI x1, none] [] τ Q := by
  refine g_sk 2 (pc1 := 2) (st1 := [AI x1, AR r0]) rfl ?_
  refine G_fg (lw2_k _ (lw2_f _ (lw2_k _ lw2_nil))) ?_
  refine g_cv rfl rfl (by decide) rfl rfl (Nat.le_of_ble_eq_true rfl) (as2 := [AI x1]) rfl sh1 rfl (by omega) (L0 := [vR r0, vI x1, none]) rfl ?_
  exact k1

theorem t119_5 {d : Nat} {τ : T2} {Q : RS → T2 → Prop} {y0 : Int} {r0 q3 : Nat} (hd : 1 ≤ d) (sh2 : tS τ r0 = (1, 11, 0)) (p4 : tP τ r0 14 = some q3) (sh5 : tS τ q3 = (1, 10, 0)) (k1 : ¬ y0 = (-1) → G (d - 1) 87 0 [vR q3, vI y0, none, none, none] [] τ (KC d 119 20 23 [none, none, none] [] Q)) (k2 : y0 = (-1) → Q (.inl (some (AI (-1)))) τ) : G d 119 5 [vR r0, none, none] [AI y0] τ Q := by
  refine g_sx 3 (pc1 := 8) (L1 := [vR r0, none, vI y0]) (st1 := [AI (-1), AI y0]) rfl ?_
  refine g_br2 rfl (t := 15) rfl (fun c1 => ?_) (fun c1 => ?_)
  · have c1 : ¬ y0 = (-1) := of_decide_eq_true c1
    refine g_sk 1 (pc1 := 16) (st1 := [AR r0]) rfl ?_
    refine g_gQ rfl (ci := 11) (k := 14) rfl sh2 p4 ?_
    refine g_sk 1 (pc1 := 20) (st1 := [AI y0, AR q3]) rfl ?_
    refine G_fg (lw2_f _ (lw2_k _ (lw2_f _ lw2_nil))) ?_
    refine g_cv rfl rfl (by decide) rfl rfl (Nat.le_of_ble_eq_true rfl) (as2 := [AI y0]) rfl sh5 rfl (by omega) (L0 := [vR q3, vI y0, none, none, none]) rfl ?_
    exact (k1 c1)
  · have c1 : y0 = (-1) := Decidable.of_not_not (of_decide_eq_false c1)
    refine g_sk 2 (pc1 := 23) (st1 := [AI (-1)]) rfl ?_
    refine g_iret rfl rfl ?_
    exact (k2 c1)

theorem t119_23 {d : Nat} {τ : T2} {Q : RS → T2 → Prop} {y0 : Int} (k1 : Q (.inl (some (AI y0))) τ) : G d 119 23 [none, none, none] [AI y0] τ Q := by
  refine g_iret rfl rfl ?_
  exact k1

theorem t120_0 {d : Nat} {τ : T2} {Q : RS → T2 → Prop} {x1 : Int} {r0 : Nat} (hd : 1 ≤ d) (sh1 : tS τ r0 = (1, 11, 0)) (k1 : G (d - 1) 144 0 [vR r0, vI x1, none] [] τ (KC d 120 2 5 [vR r0, none, none] [] Q)) : G d 120 0 [vR r0, vI x1, none] [] τ Q := by
  refine g_sk 2 (pc1 := 2) (st1 := [AI x1, AR r0]) rfl ?_
  refine G_fg (lw2_k _ (lw2_f _ (lw2_k _ lw2_nil))) ?_
  refine g_cv rfl rfl (by decide) rfl rfl (Nat.le_of_ble_eq_true rfl) (as2 := [AI x1]) rfl sh1 rfl (by omega) (L0 := [vR r0, vI x1, none]) rfl ?_
  exact k1

theorem t120_5 {d : Nat} {τ : T2} {Q : RS → T2 → Prop} {y0 : Int} {r0 q3 : Nat} (hd : 1 ≤ d) (sh2 : tS τ r0 = (1, 11, 0)) (p4 : tP τ r0 14 = some q3) (sh5 : tS τ q3 = (1, 10, 0)) (k1 : ¬ y0 = (-1) → G (d - 1) 89 0 [vR q3, vI y0, none] [] τ (KC d 120 20 23 [none, none, none] [] Q)) (k2 : y0 = (-1) → Q (.inl (some (AI (-1)))) τ) : G d 120 5 [vR r0, none, none] [AI y0] τ Q := by
  refine g_sx 3 (pc1 := 8) (L1 := [vR r0, none, vI y0]) (st1 := [AI (-1), AI y0]) rfl ?_
  refine g_br2 rfl (t := 15) rfl (fun c1 => ?_) (fun c1 => ?_)
  · have c1 : ¬ y0 = (-1) := of_decide_eq_true c1
    refine g_sk 1 (pc1 := 16) (st1 := [AR r0]) rfl ?_
    refine g_gQ rfl (ci := 11) (k := 14) rfl sh2 p4 ?_
    refine g_sk 1 (pc1 := 20) (st1 := [AI y0, AR q3]) rfl ?_
    refine G_fg (lw2_f _ (lw2_k _ (lw2_f _ lw2_nil))) ?_
    refine g_cv rfl rfl (by decide) rfl rfl (Nat.le_of_ble_eq_true rfl) (as2 := [AI y0]) rfl sh5 rfl (by omega) (L0 := [vR q3, vI y0, none]) rfl ?_
    exact (k1 c1)
  · have c1 : y0 = (-1) := Decidable.of_not_not (of_decide_eq_false c1)
    refine g_sk 2 (pc1 := 23) (st1 := [AI (-1)]) rfl ?_
    refine g_iret rfl rfl ?_
    exact (k2 c1)

theorem t120_23 {d : Nat} {τ : T2} {Q : RS → T2 → Prop} {y0 : Int} (k1 : Q (.inl (some (AI y0))) τ) : G d 120 23 [none, none, none] [AI y0] τ Q := by
  refine g_iret rfl rfl ?_
  exact k1

theorem t121_0 {d : Nat} {τ : T2} {Q : RS → T2 → Prop} {x1 : Int} {r0 : Nat} (hd : 1 ≤ d) (sh1 : tS τ r0 = (1, 11, 0)) (k1 : G (d - 1) 118 0 [vR r0, vI x1] [] τ (KC d 121 2 5 [vR r0, none] [] Q)) : G d 121 0 [vR r0, vI x1] [] τ Q := by
  refine g_sk 2 (pc1 := 2) (st1 := [AI x1, AR r0]) rfl ?_
  refine G_fg (lw2_k _ (lw2_f _ lw2_nil)) ?_
  refine g_cv rfl rfl (by decide) rfl rfl (Nat.le_of_ble_eq_true rfl) (as2 := [AI x1]) rfl sh1 rfl (by omega) (L0 := [vR r0, vI x1]) rfl ?_
  exact k1

theorem t121_5 {d : Nat} {τ : T2} {Q : RS → T2 → Prop} {y0 : Int} {r0 q3 : Nat} (hd : 1 ≤ d) (sh2 : tS τ r0 = (1, 11, 0)) (p4 : tP τ r0 14 = some q3) (sh5 : tS τ q3 = (1, 10, 0)) (k1 : ¬ y0 = (-1) → G (d - 1) 90 0 [vR q3, none, none] [] τ (KC d 121 23 26 [none, none] [AI (wr ((zshl 1 (tI τ r0 3)) - 1))] Q)) (k2 : y0 = (-1) → Q (.inl (some (AI (-1)))) τ) : G d 121 5 [vR r0, none] [AI y0] τ Q := by
  refine g_sk 1 (pc1 := 6) (st1 := [AI (-1), AI y0]) rfl ?_
  refine g_br2 rfl (t := 11) rfl (fun c1 => ?_) (fun c1 => ?_)
  · have c1 : ¬ y0 = (-1) := of_decide_eq_true c1
    refine g_sk 2 (pc1 := 13) (st1 := [AR r0, AI 1]) rfl ?_
    refine g_gI rfl (ci := 11) (k := 3) rfl sh2 ?_
    refine g_sk 4 (pc1 := 20) (st1 := [AR r0, AI (wr ((zshl 1 (tI τ r0 3)) - 1))]) rfl ?_
    refine g_gQ rfl (ci := 11) (k := 14) rfl sh2 p4 ?_
    refine G_fg (lw2_f _ (lw2_k _ lw2_nil)) ?_
    refine g_cv rfl rfl (by decide) rfl rfl (Nat.le_of_ble_eq_true rfl) (as2 := []) rfl sh5 rfl (by omega) (L0 := [vR q3, none, none]) rfl ?_
    exact (k1 c1)
  · have c1 : y0 = (-1) := Decidable.of_not_not (of_decide_eq_false c1)
    refine g_sk 1 (pc1 := 10) (st1 := [AI (-1)]) rfl ?_
    refine g_iret rfl rfl ?_
    exact (k2 c1)

theorem t121_26 {d : Nat} {τ : T2} {Q : RS → T2 → Prop} {y0 y1 : Int} (k1 : Q (.inl (some (AI (zand y1 (zxor y0 (-1)))))) τ) : G d 121 26 [none, none] [AI y0, AI y1] τ Q := by
  refine g_sk 3 (pc1 := 29) (st1 := [AI (zand y1 (zxor y0 (-1)))]) rfl ?_
  refine g_iret rfl rfl ?_
  exact k1

theorem t122_0 {d : Nat} {τ : T2} {Q : RS → T2 → Prop} {r0 q2 : Nat} (hd : 1 ≤ d) (sh1 : tS τ r0 = (1, 11, 0)) (p3 : tP τ r0 15 = some q2) (sh4 : tS τ q2 = (1, 5, 0)) (k1 : G (d - 1) 30 0 [vR q2, none] [] τ (KC d 122 4 7 [vR r0] [] Q)) : G d 122 0 [vR r0] [] τ Q := by
  refine g_sk 1 (pc1 := 1) (st1 := [AR r0]) rfl ?_
  refine g_gQ rfl (ci := 11) (k := 15) rfl sh1 p3 ?_
  refine g_cv rfl rfl (by decide) rfl rfl (Nat.le_of_ble_eq_true rfl) (as2 := []) rfl sh4 rfl (by omega) (L0 := [vR q2, none]) rfl ?_
  exact k1

theorem t122_7 {d : Nat} {τ : T2} {Q : RS → T2 → Prop} {y0 : Int} {r0 q3 : Nat} (hd : 1 ≤ d) (sh2 : tS τ r0 = (1, 11, 0)) (p4 : tP τ r0 15 = some q3) (sh5 : tS τ q3 = (1, 5, 0)) (k1 : ¬ y0 = 0 → (tI τ q3 4) < 8 → G (d - 1) 145 0 [vR r0, none, none] [] τ (KC d 122 32 35 [none] [] Q)) (k2 : ¬ y0 = 0 → 8 ≤ (tI τ q3 4) → G (d - 1) 146 0 [vR r0, none, none] [] τ (KC d 122 25 28 [none] [] Q)) (k3 : y0 = 0 → Q (.inl (some (AI 0))) τ) : G d 122 7 [vR r0] [AI y0] τ Q := by
  refine g_br1 rfl (t := 12) rfl (fun c1 => ?_) (fun c1 => ?_)
  · have c1 : ¬ y0 = 0 := of_decide_eq_true c1
    refine g_sk 1 (pc1 := 13) (st1 := [AR r0]) rfl ?_
    refine g_gQ rfl (ci := 11) (k := 15) rfl sh2 p4 ?_
    refine g_gI rfl (ci := 5) (k := 4) rfl sh5 ?_
    refine g_sk 1 (pc1 := 21) (st1 := [AI 8, AI (tI τ q3 4)]) rfl ?_
    refine g_br2 rfl (t := 31) rfl (fun c6 => ?_) (fun c6 => ?_)
    · have c6 : (tI τ q3 4) < 8 := of_decide_eq_true c6
      refine g_sk 1 (pc1 := 32) (st1 := [AR r0]) rfl ?_
      refine G_fg (lw2_f _ lw2_nil) ?_
      refine g_cv rfl rfl (by decide) rfl rfl (Nat.le_of_ble_eq_true rfl) (as2 := []) rfl sh2 rfl (by omega) (L0 := [vR r0, none, none]) rfl ?_
      exact (k1 c1 c6)
    · have c6 : 8 ≤ (tI τ q3 4) := Int.not_lt.mp (of_decide_eq_false c6)
      refine g_sk 1 (pc1 := 25) (st1 := [AR r0]) rfl ?_
      refine G_fg (lw2_f _ lw2_nil) ?_
      refine g_cv rfl rfl (by decide) rfl rfl (Nat.le_of_ble_eq_true rfl) (as2 := []) rfl sh2 rfl (by omega) (L0 := [vR r0, none, none]) rfl ?_
      exact (k2 c1 c6)
  · have c1 : y0 = 0 := Decidable.of_not_not (of_decide_eq_false c1)
    refine g_sk 1 (pc1 := 11) (st1 := [AI 0]) rfl ?_
    refine g_iret rfl rfl ?_
    exact (k3 c1)

theorem t122_28 {d : Nat} {τ : T2} {Q : RS → T2 → Prop}  (k1 : Q (.inl (some (AI 1))) τ) : G d 122 28 [none] [] τ Q := by
  refine g_sk 2 (pc1 := 36) (st1 := [AI 1]) rfl ?_
  refine g_iret rfl rfl ?_
  exact k1

theorem t122_35 {d : Nat} {τ : T2} {Q : RS → T2 → Prop}  (k1 : Q (.inl (some (AI 1))) τ) : G d 122 35 [none] [] τ Q := by
  refine g_sk 1 (pc1 := 36) (st1 := [AI 1]) rfl ?_
  refine g_iret rfl rfl ?_
  exact k1

theorem t123_0 {d : Nat} {τ : T2} {Q : RS → T2 → Prop} {x1 : Int} {r0 : Nat} (k1 : G d 123 1 [vR r0, none] [AI x1] τ Q) : G d 123 0 [vR r0, vI x1] [] τ Q := by
  refine g_sk 1 (pc1 := 1) (st1 := [AI x1]) rfl ?_
  exact G_fg (lw2_k _ (lw2_f _ lw2_nil)) k1

theorem t124_0 {d : Nat} {τ : T2} {Q : RS → T2 → Prop} {r0 : Nat} (sh1 : tS τ r0 = (1, 11, 0)) (k1 : Q (.inl (some (AI (tI τ r0 16)))) τ) : G d 124 0 [vR r0] [] τ Q := by
  refine g_sk 1 (pc1 := 1) (st1 := [AR r0]) rfl ?_
  refine g_gI rfl (ci := 11) (k := 16) rfl sh1 ?_
  refine g_iret rfl rfl ?_
  exact k1

theorem t125_0 {d : Nat} {τ : T2} {Q : RS → T2 → Prop} {x1 : Int} {r0 : Nat} (k1 : G d 125 3 [vR r0, vI x1, vI 24] [] τ Q) : G d 125 0 [vR r0, vI x1, none] [] τ Q := by
  refine g_sx 2 (pc1 := 3) (L1 := [vR r0, vI x1, vI 24]) (st1 := []) rfl ?_
  exact k1

theorem t125_3 {d : Nat} {τ : T2} {Q : RS → T2 → Prop} {x1 x2 : Int} {r0 q4 n6 : Nat} (sh2 : tS τ r0 = (1, 11, 0)) (p5 : tP τ r0 0 = some q4) (sh7 : tS τ q4 = (2, 1, n6)) (b8 : 0 ≤ x2 → (tI τ r0 1) < 300 → 0 ≤ (tI τ r0 1) ∧ (tI τ r0 1) < (n6 : Int)) (k1 : x2 < 0 → Q (.inl none) τ) (k2 : 0 ≤ x2 → 300 ≤ (tI τ r0 1) → Q (.inl none) τ) (k3 : 0 ≤ x2 → (tI τ r0 1) < 300 → G d 125 3 [vR r0, vI x1, vI (wr (x2 + (-8)))] [] (uI (uI τ q4 (tI τ r0 1).toNat (zbyt (zbyt (zshr x1 x2)))) r0 1 (wr ((tI (uI τ q4 (tI τ r0 1).toNat (zbyt (zbyt (zshr x1 x2)))) r0 1) + 1))) Q) : G d 125 3 [vR r0, vI x1, vI x2] [] τ Q := by
  refine g_sk 1 (pc1 := 4) (st1 := [AI x2]) rfl ?_
  refine g_br1 rfl (t := 46) rfl (fun c1 => ?_) (fun c1 => ?_)
  · have c1 : x2 < 0 := of_decide_eq_true c1
    refine g_vret rfl rfl ?_
    exact (k1 c1)
  · have c1 : 0 ≤ x2 := Int.not_lt.mp (of_decide_eq_false c1)
    refine g_sk 1 (pc1 := 8) (st1 := [AR r0]) rfl ?_
    refine g_gI rfl (ci := 11) (k := 1) rfl sh2 ?_
    refine g_sk 1 (pc1 := 14) (st1 := [AI 300, AI (tI τ r0 1)]) rfl ?_
    refine g_br2 rfl (t := 46) rfl (fun c3 => ?_) (fun c3 => ?_)
    · have c3 : 300 ≤ (tI τ r0 1) := of_decide_eq_true c3
      refine g_vret rfl rfl ?_
      exact (k2 c1 c3)
    · have c3 : (tI τ r0 1) < 300 := Int.not_le.mp (of_decide_eq_false c3)
      refine g_sk 1 (pc1 := 18) (st1 := [AR r0]) rfl ?_
      refine g_gQ rfl (ci := 11) (k := 0) rfl sh2 p5 ?_
      refine g_sk 1 (pc1 := 22) (st1 := [AR r0, AR q4]) rfl ?_
      refine g_gI rfl (ci := 11) (k := 1) rfl sh2 ?_
      refine g_sk 4 (pc1 := 29) (st1 := [AI (zbyt (zshr x1 x2)), AI (tI τ r0 1), AR q4]) rfl ?_
      refine g_bast rfl sh7 (b8 c1 c3).1 (b8 c1 c3).2 ?_
      refine g_sk 2 (pc1 := 32) (st1 := [AR r0, AR r0]) rfl ?_
      refine g_gI rfl (ci := 11) (k := 1) rfl sh2 ?_
      refine g_sk 2 (pc1 := 37) (st1 := [AI (wr ((tI (uI τ q4 (tI τ r0 1).toNat (zbyt (zbyt (zshr x1 x2)))) r0 1) + 1)), AR r0]) rfl ?_
      refine g_putI (x := (wr ((tI (uI τ q4 (tI τ r0 1).toNat (zbyt (zbyt (zshr x1 x2)))) r0 1) + 1))) rfl (ci := 11) (k := 1) (kd := 0) rfl (by decide) rfl rfl sh2 ?_
      refine g_sx 2 (pc1 := 3) (L1 := [vR r0, vI x1, vI (wr (x2 + (-8)))]) (st1 := []) rfl ?_
      exact (k3 c1 c3)

theorem t126_0 {d : Nat} {τ : T2} {Q : RS → T2 → Prop} {x1 : Int} {r0 : Nat} (sh1 : tS τ r0 = (1, 11, 0)) (k1 : Q (.inl (some (AI (-1)))) (uI τ r0 16 x1)) : G d 126 0 [vR r0, vI x1] [] τ Q := by
  refine g_sk 2 (pc1 := 2) (st1 := [AI x1, AR r0]) rfl ?_
  refine g_putI (x := x1) rfl (ci := 11) (k := 16) (kd := 0) rfl (by decide) rfl rfl sh1 ?_
  refine g_sk 1 (pc1 := 6) (st1 := [AI (-1)]) rfl ?_
  refine g_iret rfl rfl ?_
  exact k1

theorem t127_0 {d : Nat} {τ : T2} {Q : RS → T2 → Prop} {x1 x2 x3 x4 x5 : Int} {r0 q2 : Nat} (hd : 1 ≤ d) (sh1 : tS τ r0 = (1, 11, 0)) (p3 : tP τ r0 15 = some q2) (sh4 : tS τ q2 = (1, 5, 0)) (k1 : G (d - 1) 28 0 [vR q2, vI x1, vI x2, vI x3, vI x4, vI x5, none] [] (uI τ r0 16 0) (KC d 127 16 19 [none, none, none, none, none, none] [] Q)) : G d 127 0 [vR r0, vI x1, vI x2, vI x3, vI x4, vI x5] [] τ Q := by
  refine g_sk 2 (pc1 := 2) (st1 := [AI 0, AR r0]) rfl ?_
  refine g_putI (x := 0) rfl (ci := 11) (k := 16) (kd := 0) rfl (by decide) rfl rfl sh1 ?_
  refine g_sk 1 (pc1 := 6) (st1 := [AR r0]) rfl ?_
  refine g_gQ rfl (ci := 11) (k := 15) rfl sh1 p3 ?_
  refine g_sk 5 (pc1 := 16) (st1 := [AI x5, AI x4, AI x3, AI x2, AI x1, AR q2]) rfl ?_
  refine G_fg (lw2_f _ (lw2_f _ (lw2_f _ (lw2_f _ (lw2_f _ (lw2_f _ lw2_nil)))))) ?_
  refine g_cv rfl rfl (by decide) rfl rfl (Nat.le_of_ble_eq_true rfl) (as2 := [AI x1, AI x2, AI x3, AI x4, AI x5]) rfl sh4 rfl (by omega) (L0 := [vR q2, vI x1, vI x2, vI x3, vI x4, vI x5, none]) rfl ?_
  exact k1

theorem t127_19 {d : Nat} {τ : T2} {Q : RS → T2 → Prop}  (k1 : Q (.inl none) τ) : G d 127 19 [none, none, none, none, none, none] [] τ Q := by
  refine g_vret rfl rfl ?_
  exact k1

theorem t128_0 {d : Nat} {τ : T2} {Q : RS → T2 → Prop} {x1 x2 : Int} {r0 : Nat} {r3 : Option Nat} (hd : 1 ≤ d) (sh1 : tS τ r0 = (1, 11, 0)) (k1 : G (d - 1) 127 0 [vR r0, vI x1, vI x2, vI 0, vI 0, vI 0] [] τ (KC d 128 6 9 [vR r0, none, none, vQ r3] [] Q)) : G d 128 0 [vR r0, vI x1, vI x2, vQ r3] [] τ Q := by
  refine g_sk 6 (pc1 := 6) (st1 := [AI 0, AI 0, AI 0, AI x2, AI x1, AR r0]) rfl ?_
  refine G_fg (lw2_k _ (lw2_f _ (lw2_f _ (lw2_k _ lw2_nil)))) ?_
  refine g_cv rfl rfl (by decide) rfl rfl (Nat.le_of_ble_eq_true rfl) (as2 := [AI x1, AI x2, AI 0, AI 0, AI 0]) rfl sh1 rfl (by omega) (L0 := [vR r0, vI x1, vI x2, vI 0, vI 0, vI 0]) rfl ?_
  exact k1

theorem t128_9 {d : Nat} {τ : T2} {Q : RS → T2 → Prop} {r0 q2 : Nat} {r3 : Option Nat} (hd : 1 ≤ d) (sh1 : tS τ r0 = (1, 11, 0)) (p3 : tP τ r0 15 = some q2) (sh4 : tS τ q2 = (1, 5, 0)) (k1 : G (d - 1) 29 0 [vR q2, vQ r3, none] [] τ (KC d 128 14 17 [none, none, none, none] [] Q)) : G d 128 9 [vR r0, none, none, vQ r3] [] τ Q := by
  refine g_sk 1 (pc1 := 10) (st1 := [AR r0]) rfl ?_
  refine g_gQ rfl (ci := 11) (k := 15) rfl sh1 p3 ?_
  refine g_sk 1 (pc1 := 14) (st1 := [AP r3, AR q2]) rfl ?_
  refine G_fg (lw2_f _ (lw2_k _ (lw2_k _ (lw2_f _ lw2_nil)))) ?_
  refine g_cv rfl rfl (by decide) rfl rfl (Nat.le_of_ble_eq_true rfl) (as2 := [AP r3]) rfl sh4 rfl (by omega) (L0 := [vR q2, vQ r3, none]) rfl ?_
  exact k1

theorem t128_17 {d : Nat} {τ : T2} {Q : RS → T2 → Prop}  (k1 : Q (.inl none) τ) : G d 128 17 [none, none, none, none] [] τ Q := by
  refine g_vret rfl rfl ?_
  exact k1

theorem t129_0 {d : Nat} {τ : T2} {Q : RS → T2 → Prop} {x1 : Int} {r0 : Nat} (sh2 : tS τ r0 = (1, 11, 0)) (k1 : x1 < 0 → Q (.inl (some (AI 0))) τ) (k2 : 0 ≤ x1 → (tI τ r0 3) ≤ x1 → Q (.inl (some (AI 0))) τ) (k3 : 0 ≤ x1 → x1 < (tI τ r0 3) → 20 ≤ x1 → Q (.inl (some (AI 0))) τ) (k4 : 0 ≤ x1 → x1 < (tI τ r0 3) → x1 < 20 → Q (.inl (some (AI 1))) τ) : G d 129 0 [vR r0, vI x1] [] τ Q := by
  refine g_sk 1 (pc1 := 1) (st1 := [AI x1]) rfl ?_
  refine g_br1 rfl (t := 22) rfl (fun c1 => ?_) (fun c1 => ?_)
  · have c1 : x1 < 0 := of_decide_eq_true c1
    refine g_sk 1 (pc1 := 23) (st1 := [AI 0]) rfl ?_
    refine g_zret rfl rfl (by decide) ?_
    exact (k1 c1)
  · have c1 : 0 ≤ x1 := Int.not_lt.mp (of_decide_eq_false c1)
    refine g_sk 2 (pc1 := 6) (st1 := [AR r0, AI x1]) rfl ?_
    refine g_gI rfl (ci := 11) (k := 3) rfl sh2 ?_
    refine g_br2 rfl (t := 22) rfl (fun c3 => ?_) (fun c3 => ?_)
    · have c3 : (tI τ r0 3) ≤ x1 := of_decide_eq_true c3
      refine g_sk 1 (pc1 := 23) (st1 := [AI 0]) rfl ?_
      refine g_zret rfl rfl (by decide) ?_
      exact (k2 c1 c3)
    · have c3 : x1 < (tI τ r0 3) := Int.not_le.mp (of_decide_eq_false c3)
      refine g_sk 2 (pc1 := 15) (st1 := [AI 20, AI x1]) rfl ?_
      refine g_br2 rfl (t := 22) rfl (fun c4 => ?_) (fun c4 => ?_)
      · have c4 : 20 ≤ x1 := of_decide_eq_true c4
        refine g_sk 1 (pc1 := 23) (st1 := [AI 0]) rfl ?_
        refine g_zret rfl rfl (by decide) ?_
        exact (k3 c1 c3 c4)
      · have c4 : x1 < 20 := Int.not_le.mp (of_decide_eq_false c4)
        refine g_sk 2 (pc1 := 23) (st1 := [AI 1]) rfl ?_
        refine g_zret rfl rfl (by decide) ?_
        exact (k4 c1 c3 c4)

theorem t130_0 {d : Nat} {τ : T2} {Q : RS → T2 → Prop} {x1 : Int} {r0 : Nat} (sh2 : tS τ r0 = (1, 11, 0)) (k1 : x1 < 0 → Q (.inl (some (AI 0))) τ) (k2 : 0 ≤ x1 → (tI τ r0 6) ≤ x1 → Q (.inl (some (AI 0))) τ) (k3 : 0 ≤ x1 → x1 < (tI τ r0 6) → 8 ≤ x1 → Q (.inl (some (AI 0))) τ) (k4 : 0 ≤ x1 → x1 < (tI τ r0 6) → x1 < 8 → Q (.inl (some (AI 1))) τ) : G d 130 0 [vR r0, vI x1] [] τ Q := by
  refine g_sk 1 (pc1 := 1) (st1 := [AI x1]) rfl ?_
  refine g_br1 rfl (t := 22) rfl (fun c1 => ?_) (fun c1 => ?_)
  · have c1 : x1 < 0 := of_decide_eq_true c1
    refine g_sk 1 (pc1 := 23) (st1 := [AI 0]) rfl ?_
    refine g_zret rfl rfl (by decide) ?_
    exact (k1 c1)
  · have c1 : 0 ≤ x1 := Int.not_lt.mp (of_decide_eq_false c1)
    refine g_sk 2 (pc1 := 6) (st1 := [AR r0, AI x1]) rfl ?_
    refine g_gI rfl (ci := 11) (k := 6) rfl sh2 ?_
    refine g_br2 rfl (t := 22) rfl (fun c3 => ?_) (fun c3 => ?_)
    · have c3 : (tI τ r0 6) ≤ x1 := of_decide_eq_true c3
      refine g_sk 1 (pc1 := 23) (st1 := [AI 0]) rfl ?_
      refine g_zret rfl rfl (by decide) ?_
      exact (k2 c1 c3)
    · have c3 : x1 < (tI τ r0 6) := Int.not_le.mp (of_decide_eq_false c3)
      refine g_sk 2 (pc1 := 15) (st1 := [AI 8, AI x1]) rfl ?_
      refine g_br2 rfl (t := 22) rfl (fun c4 => ?_) (fun c4 => ?_)
      · have c4 : 8 ≤ x1 := of_decide_eq_true c4
        refine g_sk 1 (pc1 := 23) (st1 := [AI 0]) rfl ?_
        refine g_zret rfl rfl (by decide) ?_
        exact (k3 c1 c3 c4)
      · have c4 : x1 < 8 := Int.not_le.mp (of_decide_eq_false c4)
        refine g_sk 2 (pc1 := 23) (st1 := [AI 1]) rfl ?_
        refine g_zret rfl rfl (by decide) ?_
        exact (k4 c1 c3 c4)

theorem t131_0 {d : Nat} {τ : T2} {Q : RS → T2 → Prop} {x1 : Int} (k1 : x1 < 0 → Q (.inl (some (AI 0))) τ) (k2 : 0 ≤ x1 → 9999 < x1 → Q (.inl (some (AI 0))) τ) (k3 : 0 ≤ x1 → x1 ≤ 9999 → Q (.inl (some (AI 1))) τ) : G d 131 0 [none, vI x1] [] τ Q := by
  refine g_sk 1 (pc1 := 1) (st1 := [AI x1]) rfl ?_
  refine g_br1 rfl (t := 15) rfl (fun c1 => ?_) (fun c1 => ?_)
  · have c1 : x1 < 0 := of_decide_eq_true c1
    refine g_sk 1 (pc1 := 16) (st1 := [AI 0]) rfl ?_
    refine g_zret rfl rfl (by decide) ?_
    exact (k1 c1)
  · have c1 : 0 ≤ x1 := Int.not_lt.mp (of_decide_eq_false c1)
    refine g_sk 2 (pc1 := 8) (st1 := [AI 9999, AI x1]) rfl ?_
    refine g_br2 rfl (t := 15) rfl (fun c2 => ?_) (fun c2 => ?_)
    · have c2 : 9999 < x1 := of_decide_eq_true c2
      refine g_sk 1 (pc1 := 16) (st1 := [AI 0]) rfl ?_
      refine g_zret rfl rfl (by decide) ?_
      exact (k2 c1 c2)
    · have c2 : x1 ≤ 9999 := Int.not_lt.mp (of_decide_eq_false c2)
      refine g_sk 2 (pc1 := 16) (st1 := [AI 1]) rfl ?_
      refine g_zret rfl rfl (by decide) ?_
      exact (k3 c1 c2)

theorem t132_0 {d : Nat} {τ : T2} {Q : RS → T2 → Prop} {x1 : Int} {r0 : Nat} (sh2 : tS τ r0 = (1, 11, 0)) (k1 : x1 < 0 → Q (.inl (some (AI 0))) τ) (k2 : 0 ≤ x1 → (tI τ r0 1) < x1 → Q (.inl (some (AI 0))) τ) (k3 : 0 ≤ x1 → x1 ≤ (tI τ r0 1) → 300 < x1 → Q (.inl (some (AI 0))) τ) (k4 : 0 ≤ x1 → x1 ≤ (tI τ r0 1) → x1 ≤ 300 → Q (.inl (some (AI 1))) τ) : G d 132 0 [vR r0, vI x1] [] τ Q := by
  refine g_sk 1 (pc1 := 1) (st1 := [AI x1]) rfl ?_
  refine g_br1 rfl (t := 23) rfl (fun c1 => ?_) (fun c1 => ?_)
  · have c1 : x1 < 0 := of_decide_eq_true c1
    refine g_sk 1 (pc1 := 24) (st1 := [AI 0]) rfl ?_
    refine g_zret rfl rfl (by decide) ?_
    exact (k1 c1)
  · have c1 : 0 ≤ x1 := Int.not_lt.mp (of_decide_eq_false c1)
    refine g_sk 2 (pc1 := 6) (st1 := [AR r0, AI x1]) rfl ?_
    refine g_gI rfl (ci := 11) (k := 1) rfl sh2 ?_
    refine g_br2 rfl (t := 23) rfl (fun c3 => ?_) (fun c3 => ?_)
    · have c3 : (tI τ r0 1) < x1 := of_decide_eq_true c3
      refine g_sk 1 (pc1 := 24) (st1 := [AI 0]) rfl ?_
      refine g_zret rfl rfl (by decide) ?_
      exact (k2 c1 c3)
    · have c3 : x1 ≤ (tI τ r0 1) := Int.not_lt.mp (of_decide_eq_false c3)
      refine g_sk 2 (pc1 := 16) (st1 := [AI 300, AI x1]) rfl ?_
      refine g_br2 rfl (t := 23) rfl (fun c4 => ?_) (fun c4 => ?_)
      · have c4 : 300 < x1 := of_decide_eq_true c4
        refine g_sk 1 (pc1 := 24) (st1 := [AI 0]) rfl ?_
        refine g_zret rfl rfl (by decide) ?_
        exact (k3 c1 c3 c4)
      · have c4 : x1 ≤ 300 := Int.not_lt.mp (of_decide_eq_false c4)
        refine g_sk 2 (pc1 := 24) (st1 := [AI 1]) rfl ?_
        refine g_zret rfl rfl (by decide) ?_
        exact (k4 c1 c3 c4)

theorem t133_0 {d : Nat} {τ : T2} {Q : RS → T2 → Prop} {x0 : Int} (k1 : x0 < 97 → Q (.inl (some (AI 0))) τ) (k2 : 97 ≤ x0 → 122 < x0 → Q (.inl (some (AI 0))) τ) (k3 : 97 ≤ x0 → x0 ≤ 122 → Q (.inl (some (AI 1))) τ) : G d 133 0 [vI x0] [] τ Q := by
  refine g_sk 2 (pc1 := 3) (st1 := [AI 97, AI x0]) rfl ?_
  refine g_br2 rfl (t := 16) rfl (fun c1 => ?_) (fun c1 => ?_)
  · have c1 : x0 < 97 := of_decide_eq_true c1
    refine g_sk 1 (pc1 := 17) (st1 := [AI 0]) rfl ?_
    refine g_zret rfl rfl (by decide) ?_
    exact (k1 c1)
  · have c1 : 97 ≤ x0 := Int.not_lt.mp (of_decide_eq_false c1)
    refine g_sk 2 (pc1 := 9) (st1 := [AI 122, AI x0]) rfl ?_
    refine g_br2 rfl (t := 16) rfl (fun c2 => ?_) (fun c2 => ?_)
    · have c2 : 122 < x0 := of_decide_eq_true c2
      refine g_sk 1 (pc1 := 17) (st1 := [AI 0]) rfl ?_
      refine g_zret rfl rfl (by decide) ?_
      exact (k2 c1 c2)
    · have c2 : x0 ≤ 122 := Int.not_lt.mp (of_decide_eq_false c2)
      refine g_sk 2 (pc1 := 17) (st1 := [AI 1]) rfl ?_
      refine g_zret rfl rfl (by decide) ?_
      exact (k3 c1 c2)

theorem t134_0 {d : Nat} {τ : T2} {Q : RS → T2 → Prop} {r0 : Nat} (k1 : G d 134 2 [vR r0, vI 0] [] τ Q) : G d 134 0 [vR r0, none] [] τ Q := by
  refine g_sx 2 (pc1 := 2) (L1 := [vR r0, vI 0]) (st1 := []) rfl ?_
  exact k1

theorem t134_2 {d : Nat} {τ : T2} {Q : RS → T2 → Prop} {x1 : Int} {r0 q4 n6 q9 : Nat} (sh1 : tS τ r0 = (1, 11, 0)) (p5 : tP τ r0 2 = some q4) (sh7 : tS τ q4 = (3, 4, n6)) (b8 : x1 < (tI τ r0 3) → x1 < 20 → 0 ≤ x1 ∧ x1 < (n6 : Int)) (p10 : x1 < (tI τ r0 3) → x1 < 20 → tP τ q4 x1.toNat = some q9) (sh11 : tS τ q9 = (1, 6, 0)) (k1 : (tI τ r0 3) ≤ x1 → Q (.inl (some (AI (-1)))) τ) (k2 : x1 < (tI τ r0 3) → 20 ≤ x1 → Q (.inl (some (AI (-1)))) τ) (k3 : x1 < (tI τ r0 3) → x1 < 20 → ¬ (tI τ q9 0) = 2 → G d 134 2 [vR r0, vI (wr (x1 + 1))] [] τ Q) (k4 : x1 < (tI τ r0 3) → x1 < 20 → (tI τ q9 0) = 2 → Q (.inl (some (AI x1))) τ) : G d 134 2 [vR r0, vI x1] [] τ Q := by
  refine g_sk 2 (pc1 := 4) (st1 := [AR r0, AI x1]) rfl ?_
  refine g_gI rfl (ci := 11) (k := 3) rfl sh1 ?_
  refine g_br2 rfl (t := 37) rfl (fun c2 => ?_) (fun c2 => ?_)
  · have c2 : (tI τ r0 3) ≤ x1 := of_decide_eq_true c2
    refine g_sk 1 (pc1 := 38) (st1 := [AI (-1)]) rfl ?_
    refine g_iret rfl rfl ?_
    exact (k1 c2)
  · have c2 : x1 < (tI τ r0 3) := Int.not_le.mp (of_decide_eq_false c2)
    refine g_sk 2 (pc1 := 13) (st1 := [AI 20, AI x1]) rfl ?_
    refine g_br2 rfl (t := 37) rfl (fun c3 => ?_) (fun c3 => ?_)
    · have c3 : 20 ≤ x1 := of_decide_eq_true c3
      refine g_sk 1 (pc1 := 38) (st1 := [AI (-1)]) rfl ?_
      refine g_iret rfl rfl ?_
      exact (k2 c2 c3)
    · have c3 : x1 < 20 := Int.not_le.mp (of_decide_eq_false c3)
      refine g_sk 1 (pc1 := 17) (st1 := [AR r0]) rfl ?_
      refine g_gQ rfl (ci := 11) (k := 2) rfl sh1 p5 ?_
      refine g_sk 1 (pc1 := 21) (st1 := [AI x1, AR q4]) rfl ?_
      refine g_aalQ rfl sh7 (by decide) (b8 c2 c3).1 (b8 c2 c3).2 (p10 c2 c3) ?_
      refine g_gI rfl (ci := 6) (k := 0) rfl sh11 ?_
      refine g_sk 1 (pc1 := 26) (st1 := [AI 2, AI (tI τ q9 0)]) rfl ?_
      refine g_br2 rfl (t := 31) rfl (fun c12 => ?_) (fun c12 => ?_)
      · have c12 : ¬ (tI τ q9 0) = 2 := of_decide_eq_true c12
        refine g_sx 2 (pc1 := 2) (L1 := [vR r0, vI (wr (x1 + 1))]) (st1 := []) rfl ?_
        exact (k3 c2 c3 c12)
      · have c12 : (tI τ q9 0) = 2 := Decidable.of_not_not (of_decide_eq_false c12)
        refine g_sk 1 (pc1 := 30) (st1 := [AI x1]) rfl ?_
        refine g_iret rfl rfl ?_
        exact (k4 c2 c3 c12)

theorem t135_0 {d : Nat} {τ : T2} {Q : RS → T2 → Prop} {x1 : Int} {r0 q2 : Nat} (hd : 1 ≤ d) (sh1 : tS τ r0 = (1, 11, 0)) (p3 : tP τ r0 11 = some q2) (sh4 : tS τ q2 = (1, 4, 0)) (k1 : G (d - 1) 14 0 [vR q2, vQ (tP τ r0 0), vI x1, none, none] [] τ (KC d 135 9 12 [vR r0, none] [] Q)) : G d 135 0 [vR r0, vI x1] [] τ Q := by
  refine g_sk 1 (pc1 := 1) (st1 := [AR r0]) rfl ?_
  refine g_gQ rfl (ci := 11) (k := 11) rfl sh1 p3 ?_
  refine g_sk 1 (pc1 := 5) (st1 := [AR r0, AR q2]) rfl ?_
  refine g_gP rfl (ci := 11) (k := 0) rfl sh1 ?_
  refine g_sk 1 (pc1 := 9) (st1 := [AI x1, AP (tP τ r0 0), AR q2]) rfl ?_
  refine G_fg (lw2_k _ (lw2_f _ lw2_nil)) ?_
  refine g_cv rfl rfl (by decide) rfl rfl (Nat.le_of_ble_eq_true rfl) (as2 := [AP (tP τ r0 0), AI x1]) rfl sh4 rfl (by omega) (L0 := [vR q2, vQ (tP τ r0 0), vI x1, none, none]) rfl ?_
  exact k1

theorem t135_12 {d : Nat} {τ : T2} {Q : RS → T2 → Prop} {r0 : Nat} (sh1 : tS τ r0 = (1, 11, 0)) (k1 : Q (.inl none) (uI τ r0 1 0)) : G d 135 12 [vR r0, none] [] τ Q := by
  refine g_sk 2 (pc1 := 14) (st1 := [AI 0, AR r0]) rfl ?_
  refine g_putI (x := 0) rfl (ci := 11) (k := 1) (kd := 0) rfl (by decide) rfl rfl sh1 ?_
  refine g_vret rfl rfl ?_
  exact k1

theorem t136_0 {d : Nat} {τ : T2} {Q : RS → T2 → Prop} {x1 x2 : Int} {r0 : Nat} (hd : 1 ≤ d) (sh1 : tS τ r0 = (1, 11, 0)) (k1 : G (d - 1) 129 0 [vR r0, vI x1] [] τ (KC d 136 2 5 [vR r0, none, vI x2] [] Q)) : G d 136 0 [vR r0, vI x1, vI x2] [] τ Q := by
  refine g_sk 2 (pc1 := 2) (st1 := [AI x1, AR r0]) rfl ?_
  refine G_fg (lw2_k _ (lw2_f _ (lw2_k _ lw2_nil))) ?_
  refine g_cv rfl rfl (by decide) rfl rfl (Nat.le_of_ble_eq_true rfl) (as2 := [AI x1]) rfl sh1 rfl (by omega) (L0 := [vR r0, vI x1]) rfl ?_
  exact k1

theorem t136_5 {d : Nat} {τ : T2} {Q : RS → T2 → Prop} {x2 y0 : Int} {r0 : Nat} (hd : 1 ≤ d) (sh2 : tS τ r0 = (1, 11, 0)) (k1 : ¬ y0 = 0 → G (d - 1) 132 0 [vR r0, vI x2] [] τ (KC d 136 17 20 [vR r0, none, vI x2] [] Q)) (k2 : y0 = 0 → Q (.inl (some (AI 0))) (uI τ r0 16 1)) : G d 136 5 [vR r0, none, vI x2] [AI y0] τ Q := by
  refine g_br1 rfl (t := 15) rfl (fun c1 => ?_) (fun c1 => ?_)
  · have c1 : ¬ y0 = 0 := of_decide_eq_true c1
    refine g_sk 2 (pc1 := 17) (st1 := [AI x2, AR r0]) rfl ?_
    refine g_cv rfl rfl (by decide) rfl rfl (Nat.le_of_ble_eq_true rfl) (as2 := [AI x2]) rfl sh2 rfl (by omega) (L0 := [vR r0, vI x2]) rfl ?_
    exact (k1 c1)
  · have c1 : y0 = 0 := Decidable.of_not_not (of_decide_eq_false c1)
    refine g_sk 2 (pc1 := 10) (st1 := [AI 1, AR r0]) rfl ?_
    refine g_putI (x := 1) rfl (ci := 11) (k := 16) (kd := 0) rfl (by decide) rfl rfl sh2 ?_
    refine g_sk 1 (pc1 := 14) (st1 := [AI 0]) rfl ?_
    refine g_zret rfl rfl (by decide) ?_
    exact (k2 c1)

theorem t136_20 {d : Nat} {τ : T2} {Q : RS → T2 → Prop} {x2 y0 : Int} {r0 : Nat} (hd : 1 ≤ d) (sh2 : tS τ r0 = (1, 11, 0)) (k1 : ¬ y0 = 0 → G (d - 1) 135 0 [vR r0, vI x2] [] τ (KC d 136 32 35 [vR r0, none, none] [] Q)) (k2 : y0 = 0 → Q (.inl (some (AI 0))) (uI τ r0 16 2)) : G d 136 20 [vR r0, none, vI x2] [AI y0] τ Q := by
  refine g_br1 rfl (t := 30) rfl (fun c1 => ?_) (fun c1 => ?_)
  · have c1 : ¬ y0 = 0 := of_decide_eq_true c1
    refine g_sk 2 (pc1 := 32) (st1 := [AI x2, AR r0]) rfl ?_
    refine G_fg (lw2_k _ (lw2_k _ (lw2_f _ lw2_nil))) ?_
    refine g_cv rfl rfl (by decide) rfl rfl (Nat.le_of_ble_eq_true rfl) (as2 := [AI x2]) rfl sh2 rfl (by omega) (L0 := [vR r0, vI x2]) rfl ?_
    exact (k1 c1)
  · have c1 : y0 = 0 := Decidable.of_not_not (of_decide_eq_false c1)
    refine g_sk 2 (pc1 := 25) (st1 := [AI 2, AR r0]) rfl ?_
    refine g_putI (x := 2) rfl (ci := 11) (k := 16) (kd := 0) rfl (by decide) rfl rfl sh2 ?_
    refine g_sk 1 (pc1 := 29) (st1 := [AI 0]) rfl ?_
    refine g_zret rfl rfl (by decide) ?_
    exact (k2 c1)

theorem t136_35 {d : Nat} {τ : T2} {Q : RS → T2 → Prop} {r0 : Nat} (sh1 : tS τ r0 = (1, 11, 0)) (k1 : Q (.inl (some (AI 1))) (uI τ r0 16 0)) : G d 136 35 [vR r0, none, none] [] τ Q := by
  refine g_sk 2 (pc1 := 37) (st1 := [AI 0, AR r0]) rfl ?_
  refine g_putI (x := 0) rfl (ci := 11) (k := 16) (kd := 0) rfl (by decide) rfl rfl sh1 ?_
  refine g_sk 1 (pc1 := 41) (st1 := [AI 1]) rfl ?_
  refine g_zret rfl rfl (by decide) ?_
  exact k1

theorem t137_0 {d : Nat} {τ : T2} {Q : RS → T2 → Prop} {x1 x2 x3 : Int} {r0 : Nat} (hd : 1 ≤ d) (sh1 : tS τ r0 = (1, 11, 0)) (k1 : G (d - 1) 129 0 [vR r0, vI x1] [] τ (KC d 137 2 5 [vR r0, vI x1, vI x2, vI x3] [] Q)) : G d 137 0 [vR r0, vI x1, vI x2, vI x3] [] τ Q := by
  refine g_sk 2 (pc1 := 2) (st1 := [AI x1, AR r0]) rfl ?_
  refine g_cv rfl rfl (by decide) rfl rfl (Nat.le_of_ble_eq_true rfl) (as2 := [AI x1]) rfl sh1 rfl (by omega) (L0 := [vR r0, vI x1]) rfl ?_
  exact k1

theorem t137_5 {d : Nat} {τ : T2} {Q : RS → T2 → Prop} {x1 x2 x3 y0 : Int} {r0 q4 n6 q9 : Nat} (hd : 1 ≤ d) (sh3 : tS τ r0 = (1, 11, 0)) (p5 : tP τ r0 2 = some q4) (sh7 : tS τ q4 = (3, 4, n6)) (b8 : ¬ y0 = 0 → ¬ x2 = 0 → 0 ≤ x1 ∧ x1 < (n6 : Int)) (p10 : ¬ y0 = 0 → ¬ x2 = 0 → tP τ q4 x1.toNat = some q9) (sh11 : tS τ q9 = (1, 6, 0)) (k1 : ¬ y0 = 0 → x2 = 0 → G (d - 1) 132 0 [vR r0, vI x3] [] τ (KC d 137 41 44 [vR r0, none, none, none] [] Q)) (k2 : ¬ y0 = 0 → ¬ x2 = 0 → ¬ (tI τ q9 0) = 0 → G (d - 1) 132 0 [vR r0, vI x3] [] τ (KC d 137 41 44 [vR r0, none, none, none] [] Q)) (k3 : ¬ y0 = 0 → ¬ x2 = 0 → (tI τ q9 0) = 0 → Q (.inl (some (AI 0))) (uI τ r0 16 9)) (k4 : y0 = 0 → Q (.inl (some (AI 0))) (uI τ r0 16 1)) : G d 137 5 [vR r0, vI x1, vI x2, vI x3] [AI y0] τ Q := by
  refine g_br1 rfl (t := 15) rfl (fun c1 => ?_) (fun c1 => ?_)
  · have c1 : ¬ y0 = 0 := of_decide_eq_true c1
    refine g_sk 1 (pc1 := 16) (st1 := [AI x2]) rfl ?_
    refine g_br1 rfl (t := 39) rfl (fun c2 => ?_) (fun c2 => ?_)
    · have c2 : x2 = 0 := of_decide_eq_true c2
      refine g_sk 2 (pc1 := 41) (st1 := [AI x3, AR r0]) rfl ?_
      refine G_fg (lw2_k _ (lw2_f _ (lw2_f _ (lw2_f _ lw2_nil)))) ?_
      refine g_cv rfl rfl (by decide) rfl rfl (Nat.le_of_ble_eq_true rfl) (as2 := [AI x3]) rfl sh3 rfl (by omega) (L0 := [vR r0, vI x3]) rfl ?_
      exact (k1 c1 c2)
    · have c2 : ¬ x2 = 0 := of_decide_eq_false c2
      refine g_sk 1 (pc1 := 20) (st1 := [AR r0]) rfl ?_
      refine g_gQ rfl (ci := 11) (k := 2) rfl sh3 p5 ?_
      refine g_sk 1 (pc1 := 24) (st1 := [AI x1, AR q4]) rfl ?_
      refine g_aalQ rfl sh7 (by decide) (b8 c1 c2).1 (b8 c1 c2).2 (p10 c1 c2) ?_
      refine g_gI rfl (ci := 6) (k := 0) rfl sh11 ?_
      refine g_br1 rfl (t := 39) rfl (fun c12 => ?_) (fun c12 => ?_)
      · have c12 : ¬ (tI τ q9 0) = 0 := of_decide_eq_true c12
        refine g_sk 2 (pc1 := 41) (st1 := [AI x3, AR r0]) rfl ?_
        refine G_fg (lw2_k _ (lw2_f _ (lw2_f _ (lw2_f _ lw2_nil)))) ?_
        refine g_cv rfl rfl (by decide) rfl rfl (Nat.le_of_ble_eq_true rfl) (as2 := [AI x3]) rfl sh3 rfl (by omega) (L0 := [vR r0, vI x3]) rfl ?_
        exact (k2 c1 c2 c12)
      · have c12 : (tI τ q9 0) = 0 := Decidable.of_not_not (of_decide_eq_false c12)
        refine g_sk 2 (pc1 := 34) (st1 := [AI 9, AR r0]) rfl ?_
        refine g_putI (x := 9) rfl (ci := 11) (k := 16) (kd := 0) rfl (by decide) rfl rfl sh3 ?_
        refine g_sk 1 (pc1 := 38) (st1 := [AI 0]) rfl ?_
        refine g_zret rfl rfl (by decide) ?_
        exact (k3 c1 c2 c12)
  · have c1 : y0 = 0 := Decidable.of_not_not (of_decide_eq_false c1)
    refine g_sk 2 (pc1 := 10) (st1 := [AI 1, AR r0]) rfl ?_
    refine g_putI (x := 1) rfl (ci := 11) (k := 16) (kd := 0) rfl (by decide) rfl rfl sh3 ?_
    refine g_sk 1 (pc1 := 14) (st1 := [AI 0]) rfl ?_
    refine g_zret rfl rfl (by decide) ?_
    exact (k4 c1)

theorem t137_44 {d : Nat} {τ : T2} {Q : RS → T2 → Prop} {y0 : Int} {r0 : Nat} (sh2 : tS τ r0 = (1, 11, 0)) (k1 : ¬ y0 = 0 → Q (.inl (some (AI 1))) τ) (k2 : y0 = 0 → Q (.inl (some (AI 0))) (uI τ r0 16 2)) : G d 137 44 [vR r0, none, none, none] [AI y0] τ Q := by
  refine g_br1 rfl (t := 54) rfl (fun c1 => ?_) (fun c1 => ?_)
  · have c1 : ¬ y0 = 0 := of_decide_eq_true c1
    refine g_sk 1 (pc1 := 55) (st1 := [AI 1]) rfl ?_
    refine g_zret rfl rfl (by decide) ?_
    exact (k1 c1)
  · have c1 : y0 = 0 := Decidable.of_not_not (of_decide_eq_false c1)
    refine g_sk 2 (pc1 := 49) (st1 := [AI 2, AR r0]) rfl ?_
    refine g_putI (x := 2) rfl (ci := 11) (k := 16) (kd := 0) rfl (by decide) rfl rfl sh2 ?_
    refine g_sk 1 (pc1 := 53) (st1 := [AI 0]) rfl ?_
    refine g_zret rfl rfl (by decide) ?_
    exact (k2 c1)

theorem t138_0 {d : Nat} {τ : T2} {Q : RS → T2 → Prop} {x1 : Int} {r0 q2 : Nat} (hd : 1 ≤ d) (sh1 : tS τ r0 = (1, 11, 0)) (p3 : tP τ r0 10 = some q2) (sh4 : tS τ q2 = (1, 9, 0)) (k1 : G (d - 1) 67 0 [vR q2, vQ (tP τ r0 0), vI x1] [] τ (KC d 138 9 12 [vR r0, none] [] Q)) : G d 138 0 [vR r0, vI x1] [] τ Q := by
  refine g_sk 1 (pc1 := 1) (st1 := [AR r0]) rfl ?_
  refine g_gQ rfl (ci := 11) (k := 10) rfl sh1 p3 ?_
  refine g_sk 1 (pc1 := 5) (st1 := [AR r0, AR q2]) rfl ?_
  refine g_gP rfl (ci := 11) (k := 0) rfl sh1 ?_
  refine g_sk 1 (pc1 := 9) (st1 := [AI x1, AP (tP τ r0 0), AR q2]) rfl ?_
  refine G_fg (lw2_k _ (lw2_f _ lw2_nil)) ?_
  refine g_cv rfl rfl (by decide) rfl rfl (Nat.le_of_ble_eq_true rfl) (as2 := [AP (tP τ r0 0), AI x1]) rfl sh4 rfl (by omega) (L0 := [vR q2, vQ (tP τ r0 0), vI x1]) rfl ?_
  exact k1

theorem t138_12 {d : Nat} {τ : T2} {Q : RS → T2 → Prop} {r0 : Nat} (sh1 : tS τ r0 = (1, 11, 0)) (k1 : Q (.inl none) (uI τ r0 1 0)) : G d 138 12 [vR r0, none] [] τ Q := by
  refine g_sk 2 (pc1 := 14) (st1 := [AI 0, AR r0]) rfl ?_
  refine g_putI (x := 0) rfl (ci := 11) (k := 1) (kd := 0) rfl (by decide) rfl rfl sh1 ?_
  refine g_vret rfl rfl ?_
  exact k1

theorem t139_0 {d : Nat} {τ : T2} {Q : RS → T2 → Prop} {x1 : Int} {r0 q3 : Nat} (sh2 : tS τ r0 = (1, 11, 0)) (p4 : tP τ r0 10 = some q3) (sh5 : tS τ q3 = (1, 9, 0)) (p7 : x1 = 0 → x1 = 0 → x1 = 0 ∨ x1 = 1) (p8 : x1 = 0 → ¬ x1 = 0 → x1 = 0 ∨ x1 = 1) (p10 : ¬ x1 = 0 → x1 = 0 → x1 = 0 ∨ x1 = 1) (p11 : ¬ x1 = 0 → ¬ x1 = 0 → x1 = 0 ∨ x1 = 1) (k1 : x1 = 0 → x1 = 0 → Q (.inl (some (AI x1))) (uI (uI τ r0 17 (tI τ q3 6)) r0 16 4)) (k2 : x1 = 0 → ¬ x1 = 0 → Q (.inl (some (AI x1))) (uI (uI τ r0 17 (tI τ q3 6)) r0 16 0)) (k3 : ¬ x1 = 0 → x1 = 0 → Q (.inl (some (AI x1))) (uI (uI τ r0 17 0) r0 16 4)) (k4 : ¬ x1 = 0 → ¬ x1 = 0 → Q (.inl (some (AI x1))) (uI (uI τ r0 17 0) r0 16 0)) : G d 139 0 [vR r0, vI x1] [] τ Q := by
  refine g_sk 2 (pc1 := 2) (st1 := [AI x1, AR r0]) rfl ?_
  refine g_br1 rfl (t := 9) rfl (fun c1 => ?_) (fun c1 => ?_)
  · have c1 : x1 = 0 := of_decide_eq_true c1
    refine g_sk 1 (pc1 := 10) (st1 := [AR r0, AR r0]) rfl ?_
    refine g_gQ rfl (ci := 11) (k := 10) rfl sh2 p4 ?_
    refine g_gI rfl (ci := 9) (k := 6) rfl sh5 ?_
    refine g_putI (x := (tI τ q3 6)) rfl (ci := 11) (k := 17) (kd := 0) rfl (by decide) rfl rfl sh2 ?_
    refine g_sk 2 (pc1 := 21) (st1 := [AI x1, AR r0]) rfl ?_
    refine g_br1 rfl (t := 28) rfl (fun c6 => ?_) (fun c6 => ?_)
    · have c6 : x1 = 0 := of_decide_eq_true c6
      refine g_sk 1 (pc1 := 29) (st1 := [AI 4, AR r0]) rfl ?_
      refine g_putI (x := 4) rfl (ci := 11) (k := 16) (kd := 0) rfl (by decide) rfl rfl sh2 ?_
      refine g_sk 1 (pc1 := 33) (st1 := [AI x1]) rfl ?_
      refine g_zret rfl rfl (p7 c1 c6) ?_
      exact (k1 c1 c6)
    · have c6 : ¬ x1 = 0 := of_decide_eq_false c6
      refine g_sk 2 (pc1 := 29) (st1 := [AI 0, AR r0]) rfl ?_
      refine g_putI (x := 0) rfl (ci := 11) (k := 16) (kd := 0) rfl (by decide) rfl rfl sh2 ?_
      refine g_sk 1 (pc1 := 33) (st1 := [AI x1]) rfl ?_
      refine g_zret rfl rfl (p8 c1 c6) ?_
      exact (k2 c1 c6)
  · have c1 : ¬ x1 = 0 := of_decide_eq_false c1
    refine g_sk 2 (pc1 := 16) (st1 := [AI 0, AR r0]) rfl ?_
    refine g_putI (x := 0) rfl (ci := 11) (k := 17) (kd := 0) rfl (by decide) rfl rfl sh2 ?_
    refine g_sk 2 (pc1 := 21) (st1 := [AI x1, AR r0]) rfl ?_
    refine g_br1 rfl (t := 28) rfl (fun c9 => ?_) (fun c9 => ?_)
    · have c9 : x1 = 0 := of_decide_eq_true c9
      refine g_sk 1 (pc1 := 29) (st1 := [AI 4, AR r0]) rfl ?_
      refine g_putI (x := 4) rfl (ci := 11) (k := 16) (kd := 0) rfl (by decide) rfl rfl sh2 ?_
      refine g_sk 1 (pc1 := 33) (st1 := [AI x1]) rfl ?_
      refine g_zret rfl rfl (p10 c1 c9) ?_
      exact (k3 c1 c9)
    · have c9 : ¬ x1 = 0 := of_decide_eq_false c9
      refine g_sk 2 (pc1 := 29) (st1 := [AI 0, AR r0]) rfl ?_
      refine g_putI (x := 0) rfl (ci := 11) (k := 16) (kd := 0) rfl (by decide) rfl rfl sh2 ?_
      refine g_sk 1 (pc1 := 33) (st1 := [AI x1]) rfl ?_
      refine g_zret rfl rfl (p11 c1 c9) ?_
      exact (k4 c1 c9)

theorem t140_0 {d : Nat} {τ : T2} {Q : RS → T2 → Prop} {x1 x2 : Int} {r0 : Nat} (hd : 1 ≤ d) (sh1 : tS τ r0 = (1, 11, 0)) (k1 : G (d - 1) 129 0 [vR r0, vI x1] [] τ (KC d 140 2 5 [vR r0, vI x1, vI x2, none] [] Q)) : G d 140 0 [vR r0, vI x1, vI x2, none] [] τ Q := by
  refine g_sk 2 (pc1 := 2) (st1 := [AI x1, AR r0]) rfl ?_
  refine g_cv rfl rfl (by decide) rfl rfl (Nat.le_of_ble_eq_true rfl) (as2 := [AI x1]) rfl sh1 rfl (by omega) (L0 := [vR r0, vI x1]) rfl ?_
  exact k1

theorem t140_5 {d : Nat} {τ : T2} {Q : RS → T2 → Prop} {x1 x2 y0 : Int} {r0 q3 n5 q8 : Nat} (sh2 : tS τ r0 = (1, 11, 0)) (p4 : tP τ r0 2 = some q3) (sh6 : tS τ q3 = (3, 4, n5)) (b7 : ¬ y0 = 0 → 0 ≤ x1 ∧ x1 < (n5 : Int)) (p9 : ¬ y0 = 0 → tP τ q3 x1.toNat = some q8) (sh10 : tS τ q8 = (1, 6, 0)) (k1 : ¬ y0 = 0 → (tP τ q8 11) = none → Q (.inl (some (AI 0))) (uI τ r0 16 9)) (k2 : ¬ y0 = 0 → ∀ q12, (tP τ q8 11) = some q12 → G d 140 29 [vR r0, none, vI x2, vR q12] [] τ Q) (k3 : y0 = 0 → Q (.inl (some (AI 0))) (uI τ r0 16 1)) : G d 140 5 [vR r0, vI x1, vI x2, none] [AI y0] τ Q := by
  refine g_br1 rfl (t := 15) rfl (fun c1 => ?_) (fun c1 => ?_)
  · have c1 : ¬ y0 = 0 := of_decide_eq_true c1
    refine g_sk 1 (pc1 := 16) (st1 := [AR r0]) rfl ?_
    refine g_gQ rfl (ci := 11) (k := 2) rfl sh2 p4 ?_
    refine g_sk 1 (pc1 := 20) (st1 := [AI x1, AR q3]) rfl ?_
    refine g_aalQ rfl sh6 (by decide) (b7 c1).1 (b7 c1).2 (p9 c1) ?_
    refine g_gP rfl (ci := 6) (k := 11) rfl sh10 ?_
    refine g_sx 2 (pc1 := 26) (L1 := [vR r0, vI x1, vI x2, vQ (tP τ q8 11)]) (st1 := [AP (tP τ q8 11)]) rfl ?_
    refine g_nul rfl (t := 45) rfl (fun c11 => ?_) (fun q12 c11 => ?_)
    · skip
      refine g_sk 2 (pc1 := 48) (st1 := [AI 9, AR r0]) rfl ?_
      refine g_putI (x := 9) rfl (ci := 11) (k := 16) (kd := 0) rfl (by decide) rfl rfl sh2 ?_
      refine g_sk 1 (pc1 := 52) (st1 := [AI 0]) rfl ?_
      refine g_zret rfl rfl (by decide) ?_
      exact (k1 c1 c11)
    · skip
      rw [c11]
      exact G_fg (lw2_k _ (lw2_f _ (lw2_k _ (lw2_k _ lw2_nil)))) (k2 c1 q12 c11)
  · have c1 : y0 = 0 := Decidable.of_not_not (of_decide_eq_false c1)
    refine g_sk 2 (pc1 := 10) (st1 := [AI 1, AR r0]) rfl ?_
    refine g_putI (x := 1) rfl (ci := 11) (k := 16) (kd := 0) rfl (by decide) rfl rfl sh2 ?_
    refine g_sk 1 (pc1 := 14) (st1 := [AI 0]) rfl ?_
    refine g_zret rfl rfl (by decide) ?_
    exact (k3 c1)

theorem t140_29 {d : Nat} {τ : T2} {Q : RS → T2 → Prop} {x2 : Int} {r0 q2 : Nat} {r3 : Option Nat} (hd : 1 ≤ d) (sh1 : tS τ r0 = (1, 11, 0)) (p3 : tP τ r0 13 = some q2) (sh4 : tS τ q2 = (1, 7, 0)) (k1 : G (d - 1) 40 0 [vR q2, vQ r3, vQ (tP τ r0 2), vI x2, none, none] [] τ (KC d 140 39 42 [vR r0, none, none, none] [] Q)) : G d 140 29 [vR r0, none, vI x2, vQ r3] [] τ Q := by
  refine g_sk 1 (pc1 := 30) (st1 := [AR r0]) rfl ?_
  refine g_gQ rfl (ci := 11) (k := 13) rfl sh1 p3 ?_
  refine g_sk 2 (pc1 := 35) (st1 := [AR r0, AP r3, AR q2]) rfl ?_
  refine g_gP rfl (ci := 11) (k := 2) rfl sh1 ?_
  refine g_sk 1 (pc1 := 39) (st1 := [AI x2, AP (tP τ r0 2), AP r3, AR q2]) rfl ?_
  refine G_fg (lw2_k _ (lw2_k _ (lw2_f _ (lw2_f _ lw2_nil)))) ?_
  refine g_cv rfl rfl (by decide) rfl rfl (Nat.le_of_ble_eq_true rfl) (as2 := [AP r3, AP (tP τ r0 2), AI x2]) rfl sh4 rfl (by omega) (L0 := [vR q2, vQ r3, vQ (tP τ r0 2), vI x2, none, none]) rfl ?_
  exact k1

theorem t140_42 {d : Nat} {τ : T2} {Q : RS → T2 → Prop} {y0 : Int} {r0 : Nat} (sh2 : tS τ r0 = (1, 11, 0)) (k1 : ¬ y0 = 0 → Q (.inl (some (AI 1))) (uI τ r0 16 0)) (k2 : y0 = 0 → Q (.inl (some (AI 0))) (uI τ r0 16 9)) : G d 140 42 [vR r0, none, none, none] [AI y0] τ Q := by
  refine g_br1 rfl (t := 53) rfl (fun c1 => ?_) (fun c1 => ?_)
  · have c1 : ¬ y0 = 0 := of_decide_eq_true c1
    refine g_sk 2 (pc1 := 55) (st1 := [AI 0, AR r0]) rfl ?_
    refine g_putI (x := 0) rfl (ci := 11) (k := 16) (kd := 0) rfl (by decide) rfl rfl sh2 ?_
    refine g_sk 1 (pc1 := 59) (st1 := [AI 1]) rfl ?_
    refine g_zret rfl rfl (by decide) ?_
    exact (k1 c1)
  · have c1 : y0 = 0 := Decidable.of_not_not (of_decide_eq_false c1)
    refine g_sk 2 (pc1 := 48) (st1 := [AI 9, AR r0]) rfl ?_
    refine g_putI (x := 9) rfl (ci := 11) (k := 16) (kd := 0) rfl (by decide) rfl rfl sh2 ?_
    refine g_sk 1 (pc1 := 52) (st1 := [AI 0]) rfl ?_
    refine g_zret rfl rfl (by decide) ?_
    exact (k2 c1)

theorem t140_45 {d : Nat} {τ : T2} {Q : RS → T2 → Prop} {r0 : Nat} (sh1 : tS τ r0 = (1, 11, 0)) (k1 : Q (.inl (some (AI 0))) (uI τ r0 16 9)) : G d 140 45 [vR r0, none, none, none] [] τ Q := by
  refine g_sk 2 (pc1 := 48) (st1 := [AI 9, AR r0]) rfl ?_
  refine g_putI (x := 9) rfl (ci := 11) (k := 16) (kd := 0) rfl (by decide) rfl rfl sh1 ?_
  refine g_sk 1 (pc1 := 52) (st1 := [AI 0]) rfl ?_
  refine g_zret rfl rfl (by decide) ?_
  exact k1

theorem t141_0 {d : Nat} {τ : T2} {Q : RS → T2 → Prop} {x2 : Int} {r0 r1 q2 n4 : Nat} (hd : 1 ≤ d) (sh1 : tS τ r0 = (1, 11, 0)) (p3 : tP τ r0 2 = some q2) (sh5 : tS τ q2 = (3, 4, n4)) (b6 : 0 ≤ x2 ∧ x2 < (n4 : Int)) (sh7 : tS τ r1 = (1, 8, 0)) (k1 : G (d - 1) 61 0 [vR r1, vI (tI τ r0 9), none, none] [] τ (KC d 141 11 14 [vR r0, none, none] [AP (tP τ q2 x2.toNat)] Q)) : G d 141 0 [vR r0, vR r1, vI x2] [] τ Q := by
  refine g_sk 1 (pc1 := 1) (st1 := [AR r0]) rfl ?_
  refine g_gQ rfl (ci := 11) (k := 2) rfl sh1 p3 ?_
  refine g_sk 1 (pc1 := 5) (st1 := [AI x2, AR q2]) rfl ?_
  refine g_aald rfl sh5 (by decide) b6.1 b6.2 ?_
  refine g_sk 2 (pc1 := 8) (st1 := [AR r0, AR r1, AP (tP τ q2 x2.toNat)]) rfl ?_
  refine g_gI rfl (ci := 11) (k := 9) rfl sh1 ?_
  refine G_fg (lw2_k _ (lw2_f _ (lw2_f _ lw2_nil))) ?_
  refine g_cv rfl rfl (by decide) rfl rfl (Nat.le_of_ble_eq_true rfl) (as2 := [AI (tI τ r0 9)]) rfl sh7 rfl (by omega) (L0 := [vR r1, vI (tI τ r0 9), none, none]) rfl ?_
  exact k1

theorem t141_14 {d : Nat} {τ : T2} {Q : RS → T2 → Prop} {y0 : Int} {r0 s1 : Nat} (hd : 1 ≤ d) (sh1 : tS τ r0 = (1, 11, 0)) (sh2 : tS τ s1 = (1, 6, 0)) (k1 : G (d - 1) 33 0 [vR s1, vI y0, vI (tI τ r0 9), vQ (tP τ r0 4)] [] τ (KC d 141 22 25 [none, none, none] [] Q)) : G d 141 14 [vR r0, none, none] [AI y0, AR s1] τ Q := by
  refine g_sk 1 (pc1 := 15) (st1 := [AR r0, AI y0, AR s1]) rfl ?_
  refine g_gI rfl (ci := 11) (k := 9) rfl sh1 ?_
  refine g_sk 1 (pc1 := 19) (st1 := [AR r0, AI (tI τ r0 9), AI y0, AR s1]) rfl ?_
  refine g_gP rfl (ci := 11) (k := 4) rfl sh1 ?_
  refine G_fg (lw2_f _ (lw2_k _ (lw2_k _ lw2_nil))) ?_
  refine g_cv rfl rfl (by decide) rfl rfl (Nat.le_of_ble_eq_true rfl) (as2 := [AI y0, AI (tI τ r0 9), AP (tP τ r0 4)]) rfl sh2 rfl (by omega) (L0 := [vR s1, vI y0, vI (tI τ r0 9), vQ (tP τ r0 4)]) rfl ?_
  exact k1

theorem t141_25 {d : Nat} {τ : T2} {Q : RS → T2 → Prop} {y0 : Int} (p1 : y0 = 0 ∨ y0 = 1) (k1 : Q (.inl (some (AI y0))) τ) : G d 141 25 [none, none, none] [AI y0] τ Q := by
  refine g_zret rfl rfl p1 ?_
  exact k1

theorem t142_0 {d : Nat} {τ : T2} {Q : RS → T2 → Prop} {x1 x2 x3 : Int} {r0 q2 n4 q7 : Nat} (hd : 1 ≤ d) (sh1 : tS τ r0 = (1, 11, 0)) (p3 : tP τ r0 5 = some q2) (sh5 : tS τ q2 = (3, 5, n4)) (b6 : 0 ≤ x1 ∧ x1 < (n4 : Int)) (p8 : tP τ q2 x1.toNat = some q7) (sh9 : tS τ q7 = (1, 8, 0)) (k1 : G (d - 1) 61 0 [vR q7, vI x3, none, none] [] τ (KC d 142 7 10 [vR r0, vI x1, vI x2, vI x3, none, none, none] [] Q)) : G d 142 0 [vR r0, vI x1, vI x2, vI x3, none, none, none] [] τ Q := by
  refine g_sk 1 (pc1 := 1) (st1 := [AR r0]) rfl ?_
  refine g_gQ rfl (ci := 11) (k := 5) rfl sh1 p3 ?_
  refine g_sk 1 (pc1 := 5) (st1 := [AI x1, AR q2]) rfl ?_
  refine g_aalQ rfl sh5 (by decide) b6.1 b6.2 p8 ?_
  refine g_sk 1 (pc1 := 7) (st1 := [AI x3, AR q7]) rfl ?_
  refine g_cv rfl rfl (by decide) rfl rfl (Nat.le_of_ble_eq_true rfl) (as2 := [AI x3]) rfl sh9 rfl (by omega) (L0 := [vR q7, vI x3, none, none]) rfl ?_
  exact k1

theorem t142_10 {d : Nat} {τ : T2} {Q : RS → T2 → Prop} {x1 x2 x3 y0 : Int} {r0 : Nat} (hd : 1 ≤ d) (k1 : x2 = (-1) → G (d - 1) 246 0 [vI y0] [] τ (KC d 142 44 47 [vR r0, vI x1, none, vI x3, none, none, none] [AL (wl ((lshl 1 5) + 20))] Q)) (k2 : ¬ x2 = (-1) → ¬ (zand (zshr y0 x2) 1) = 1 → G (d - 1) 246 0 [vI y0] [] τ (KC d 142 44 47 [vR r0, vI x1, none, vI x3, none, none, none] [AL (wl ((lshl 1 5) + 20))] Q)) (k3 : ¬ x2 = (-1) → (zand (zshr y0 x2) 1) = 1 → G (d - 1) 246 0 [vI y0] [] τ (KC d 142 44 47 [vR r0, vI x1, none, vI x3, none, none, none] [AL (wl ((lshl 0 5) + 20))] Q)) : G d 142 10 [vR r0, vI x1, vI x2, vI x3, none, none, none] [AI y0] τ Q := by
  refine g_sx 3 (pc1 := 14) (L1 := [vR r0, vI x1, vI x2, vI x3, vI y0, none, none]) (st1 := [AI (-1), AI x2]) rfl ?_
  refine g_br2 rfl (t := 31) rfl (fun c1 => ?_) (fun c1 => ?_)
  · have c1 : x2 = (-1) := of_decide_eq_true c1
    refine g_sx 8 (pc1 := 44) (L1 := [vR r0, vI x1, vI x2, vI x3, vI y0, vJ 1, none]) (st1 := [AI y0, AL (wl ((lshl 1 5) + 20))]) rfl ?_
    refine G_fg (lw2_k _ (lw2_k _ (lw2_f _ (lw2_k _ (lw2_f _ (lw2_f _ (lw2_k _ lw2_nil))))))) ?_
    refine g_cs rfl rfl (by decide) rfl rfl (Nat.le_of_ble_eq_true rfl) rfl (by omega) (L0 := [vI y0]) rfl ?_
    exact (k1 c1)
  · have c1 : ¬ x2 = (-1) := of_decide_eq_false c1
    refine g_sk 6 (pc1 := 24) (st1 := [AI 1, AI (zand (zshr y0 x2) 1)]) rfl ?_
    refine g_br2 rfl (t := 31) rfl (fun c2 => ?_) (fun c2 => ?_)
    · have c2 : ¬ (zand (zshr y0 x2) 1) = 1 := of_decide_eq_true c2
      refine g_sx 8 (pc1 := 44) (L1 := [vR r0, vI x1, vI x2, vI x3, vI y0, vJ 1, none]) (st1 := [AI y0, AL (wl ((lshl 1 5) + 20))]) rfl ?_
      refine G_fg (lw2_k _ (lw2_k _ (lw2_f _ (lw2_k _ (lw2_f _ (lw2_f _ (lw2_k _ lw2_nil))))))) ?_
      refine g_cs rfl rfl (by decide) rfl rfl (Nat.le_of_ble_eq_true rfl) rfl (by omega) (L0 := [vI y0]) rfl ?_
      exact (k2 c1 c2)
    · have c2 : (zand (zshr y0 x2) 1) = 1 := Decidable.of_not_not (of_decide_eq_false c2)
      refine g_sx 9 (pc1 := 44) (L1 := [vR r0, vI x1, vI x2, vI x3, vI y0, vJ 0, none]) (st1 := [AI y0, AL (wl ((lshl 0 5) + 20))]) rfl ?_
      refine G_fg (lw2_k _ (lw2_k _ (lw2_f _ (lw2_k _ (lw2_f _ (lw2_f _ (lw2_k _ lw2_nil))))))) ?_
      refine g_cs rfl rfl (by decide) rfl rfl (Nat.le_of_ble_eq_true rfl) rfl (by omega) (L0 := [vI y0]) rfl ?_
      exact (k3 c1 c2)

theorem t142_47 {d : Nat} {τ : T2} {Q : RS → T2 → Prop} {x1 x3 y0 y1 : Int} {r0 q2 n4 q7 : Nat} (hd : 1 ≤ d) (sh1 : tS τ r0 = (1, 11, 0)) (p3 : tP τ r0 5 = some q2) (sh5 : tS τ q2 = (3, 5, n4)) (b6 : 0 ≤ x1 ∧ x1 < (n4 : Int)) (p8 : tP τ q2 x1.toNat = some q7) (sh9 : tS τ q7 = (1, 8, 0)) (k1 : G (d - 1) 64 0 [vR q7, vI x3, vQ (tP τ r0 2)] [] τ (KC d 142 67 70 [none, vI x1, none, none, none, none, none] [AL (lshl (wl (y1 - y0)) 20)] Q)) : G d 142 47 [vR r0, vI x1, none, vI x3, none, none, none] [AI y0, AL y1] τ Q := by
  refine g_sx 7 (pc1 := 57) (L1 := [vR r0, vI x1, none, vI x3, none, vJ (wl (y1 - y0)), none]) (st1 := [AR r0, AL (lshl (wl (y1 - y0)) 20)]) rfl ?_
  refine g_gQ rfl (ci := 11) (k := 5) rfl sh1 p3 ?_
  refine g_sk 1 (pc1 := 61) (st1 := [AI x1, AR q2, AL (lshl (wl (y1 - y0)) 20)]) rfl ?_
  refine g_aalQ rfl sh5 (by decide) b6.1 b6.2 p8 ?_
  refine g_sk 2 (pc1 := 64) (st1 := [AR r0, AI x3, AR q7, AL (lshl (wl (y1 - y0)) 20)]) rfl ?_
  refine g_gP rfl (ci := 11) (k := 2) rfl sh1 ?_
  refine G_fg (lw2_f _ (lw2_k _ (lw2_k _ (lw2_f _ (lw2_k _ (lw2_f _ (lw2_k _ lw2_nil))))))) ?_
  refine g_cv rfl rfl (by decide) rfl rfl (Nat.le_of_ble_eq_true rfl) (as2 := [AI x3, AP (tP τ r0 2)]) rfl sh9 rfl (by omega) (L0 := [vR q7, vI x3, vQ (tP τ r0 2)]) rfl ?_
  exact k1

theorem t142_70 {d : Nat} {τ : T2} {Q : RS → T2 → Prop} {x1 y0 y1 : Int} (k1 : Q (.inl (some (AL (wl ((lshl (wl (y1 + y0)) 3) + x1))))) τ) : G d 142 70 [none, vI x1, none, none, none, none, none] [AI y0, AL y1] τ Q := by
  refine g_sx 9 (pc1 := 81) (L1 := [none, vI x1, none, none, none, vJ (wl (y1 + y0)), none]) (st1 := [AL (wl ((lshl (wl (y1 + y0)) 3) + x1))]) rfl ?_
  refine g_lret rfl rfl ?_
  exact k1

theorem t143_0 {d : Nat} {τ : T2} {Q : RS → T2 → Prop} {x1 x2 : Int} {r0 : Nat} (k1 : G d 143 5 [vR r0, vI x1, vI x2, vI 0, vI 0] [] τ Q) : G d 143 0 [vR r0, vI x1, vI x2, none, none] [] τ Q := by
  refine g_sx 4 (pc1 := 5) (L1 := [vR r0, vI x1, vI x2, vI 0, vI 0]) (st1 := []) rfl ?_
  exact k1

theorem t143_5 {d : Nat} {τ : T2} {Q : RS → T2 → Prop} {x1 x2 x3 x4 : Int} {r0 q4 n6 q9 q13 n15 : Nat} (sh1 : tS τ r0 = (1, 11, 0)) (p5 : tP τ r0 5 = some q4) (sh7 : tS τ q4 = (3, 5, n6)) (b8 : x4 < (tI τ r0 6) → x4 < 8 → 0 ≤ x4 ∧ x4 < (n6 : Int)) (p10 : x4 < (tI τ r0 6) → x4 < 8 → tP τ q4 x4.toNat = some q9) (sh11 : tS τ q9 = (1, 8, 0)) (p14 : tP τ r0 7 = some q13) (sh16 : tS τ q13 = (2, 3, n15)) (b17 : x4 < (tI τ r0 6) → x4 < 8 → (tI τ q9 0) ≤ x2 → 0 ≤ x4 ∧ x4 < (n15 : Int)) (b18 : x4 < (tI τ r0 6) → x4 < 8 → (tI τ q9 0) ≤ x2 → 0 ≤ x1 ∧ x1 < (n15 : Int)) (k1 : (tI τ r0 6) ≤ x4 → Q (.inl (some (AI x3))) τ) (k2 : x4 < (tI τ r0 6) → 8 ≤ x4 → Q (.inl (some (AI x3))) τ) (k3 : x4 < (tI τ r0 6) → x4 < 8 → x2 < (tI τ q9 0) → G d 143 5 [vR r0, vI x1, vI x2, vI x3, vI (wr (x4 + 1))] [] τ Q) (k4 : x4 < (tI τ r0 6) → x4 < 8 → (tI τ q9 0) ≤ x2 → 0 ≤ (lcm (tI τ q13 x4.toNat) (tI τ q13 x1.toNat)) → G d 143 5 [vR r0, vI x1, vI x2, vI x3, vI (wr (x4 + 1))] [] τ Q) (k5 : x4 < (tI τ r0 6) → x4 < 8 → (tI τ q9 0) ≤ x2 → (lcm (tI τ q13 x4.toNat) (tI τ q13 x1.toNat)) < 0 → G d 143 5 [vR r0, vI x1, vI x2, vI (wr (x3 + 1)), vI (wr (x4 + 1))] [] τ Q) : G d 143 5 [vR r0, vI x1, vI x2, vI x3, vI x4] [] τ Q := by
  refine g_sk 2 (pc1 := 8) (st1 := [AR r0, AI x4]) rfl ?_
  refine g_gI rfl (ci := 11) (k := 6) rfl sh1 ?_
  refine g_br2 rfl (t := 61) rfl (fun c2 => ?_) (fun c2 => ?_)
  · have c2 : (tI τ r0 6) ≤ x4 := of_decide_eq_true c2
    refine g_sk 1 (pc1 := 62) (st1 := [AI x3]) rfl ?_
    refine g_iret rfl rfl ?_
    exact (k1 c2)
  · have c2 : x4 < (tI τ r0 6) := Int.not_le.mp (of_decide_eq_false c2)
    refine g_sk 2 (pc1 := 18) (st1 := [AI 8, AI x4]) rfl ?_
    refine g_br2 rfl (t := 61) rfl (fun c3 => ?_) (fun c3 => ?_)
    · have c3 : 8 ≤ x4 := of_decide_eq_true c3
      refine g_sk 1 (pc1 := 62) (st1 := [AI x3]) rfl ?_
      refine g_iret rfl rfl ?_
      exact (k2 c2 c3)
    · have c3 : x4 < 8 := Int.not_le.mp (of_decide_eq_false c3)
      refine g_sk 1 (pc1 := 22) (st1 := [AR r0]) rfl ?_
      refine g_gQ rfl (ci := 11) (k := 5) rfl sh1 p5 ?_
      refine g_sk 1 (pc1 := 27) (st1 := [AI x4, AR q4]) rfl ?_
      refine g_aalQ rfl sh7 (by decide) (b8 c2 c3).1 (b8 c2 c3).2 (p10 c2 c3) ?_
      refine g_gI rfl (ci := 8) (k := 0) rfl sh11 ?_
      refine g_sk 1 (pc1 := 32) (st1 := [AI x2, AI (tI τ q9 0)]) rfl ?_
      refine g_br2 rfl (t := 55) rfl (fun c12 => ?_) (fun c12 => ?_)
      · have c12 : x2 < (tI τ q9 0) := of_decide_eq_true c12
        refine g_sx 2 (pc1 := 5) (L1 := [vR r0, vI x1, vI x2, vI x3, vI (wr (x4 + 1))]) (st1 := []) rfl ?_
        exact (k3 c2 c3 c12)
      · have c12 : (tI τ q9 0) ≤ x2 := Int.not_lt.mp (of_decide_eq_false c12)
        refine g_sk 1 (pc1 := 36) (st1 := [AR r0]) rfl ?_
        refine g_gQ rfl (ci := 11) (k := 7) rfl sh1 p14 ?_
        refine g_sk 1 (pc1 := 41) (st1 := [AI x4, AR q13]) rfl ?_
        refine g_lald rfl sh16 (b17 c2 c3 c12).1 (b17 c2 c3 c12).2 ?_
        refine g_sk 1 (pc1 := 43) (st1 := [AR r0, AL (tI τ q13 x4.toNat)]) rfl ?_
        refine g_gQ rfl (ci := 11) (k := 7) rfl sh1 p14 ?_
        refine g_sk 1 (pc1 := 47) (st1 := [AI x1, AR q13, AL (tI τ q13 x4.toNat)]) rfl ?_
        refine g_lald rfl sh16 (b18 c2 c3 c12).1 (b18 c2 c3 c12).2 ?_
        refine g_sk 1 (pc1 := 49) (st1 := [AI (lcm (tI τ q13 x4.toNat) (tI τ q13 x1.toNat))]) rfl ?_
        refine g_br1 rfl (t := 55) rfl (fun c19 => ?_) (fun c19 => ?_)
        · have c19 : 0 ≤ (lcm (tI τ q13 x4.toNat) (tI τ q13 x1.toNat)) := of_decide_eq_true c19
          refine g_sx 2 (pc1 := 5) (L1 := [vR r0, vI x1, vI x2, vI x3, vI (wr (x4 + 1))]) (st1 := []) rfl ?_
          exact (k4 c2 c3 c12 c19)
        · have c19 : (lcm (tI τ q13 x4.toNat) (tI τ q13 x1.toNat)) < 0 := Int.not_le.mp (of_decide_eq_false c19)
          refine g_sx 3 (pc1 := 5) (L1 := [vR r0, vI x1, vI x2, vI (wr (x3 + 1)), vI (wr (x4 + 1))]) (st1 := []) rfl ?_
          exact (k5 c2 c3 c12 c19)

theorem t144_0 {d : Nat} {τ : T2} {Q : RS → T2 → Prop} {x1 : Int} {r0 : Nat} (hd : 1 ≤ d) (sh1 : tS τ r0 = (1, 11, 0)) (k1 : G (d - 1) 131 0 [vR r0, vI x1] [] τ (KC d 144 2 5 [vR r0, vI x1, none] [] Q)) : G d 144 0 [vR r0, vI x1, none] [] τ Q := by
  refine g_sk 2 (pc1 := 2) (st1 := [AI x1, AR r0]) rfl ?_
  refine g_cv rfl rfl (by decide) rfl rfl (Nat.le_of_ble_eq_true rfl) (as2 := [AI x1]) rfl sh1 rfl (by omega) (L0 := [vR r0, vI x1]) rfl ?_
  exact k1

theorem t144_5 {d : Nat} {τ : T2} {Q : RS → T2 → Prop} {x1 y0 : Int} {r0 : Nat} (hd : 1 ≤ d) (sh2 : tS τ r0 = (1, 11, 0)) (k1 : ¬ y0 = 0 → G (d - 1) 134 0 [vR r0, none] [] τ (KC d 144 15 18 [vR r0, vI x1, none] [] Q)) (k2 : y0 = 0 → G (d - 1) 126 0 [vR r0, vI 2] [] τ (KC d 144 10 13 [none, none, none] [] Q)) : G d 144 5 [vR r0, vI x1, none] [AI y0] τ Q := by
  refine g_br1 rfl (t := 14) rfl (fun c1 => ?_) (fun c1 => ?_)
  · have c1 : ¬ y0 = 0 := of_decide_eq_true c1
    refine g_sk 1 (pc1 := 15) (st1 := [AR r0]) rfl ?_
    refine g_cv rfl rfl (by decide) rfl rfl (Nat.le_of_ble_eq_true rfl) (as2 := []) rfl sh2 rfl (by omega) (L0 := [vR r0, none]) rfl ?_
    exact (k1 c1)
  · have c1 : y0 = 0 := Decidable.of_not_not (of_decide_eq_false c1)
    refine g_sk 2 (pc1 := 10) (st1 := [AI 2, AR r0]) rfl ?_
    refine G_fg (lw2_f _ (lw2_f _ (lw2_k _ lw2_nil))) ?_
    refine g_cv rfl rfl (by decide) rfl rfl (Nat.le_of_ble_eq_true rfl) (as2 := [AI 2]) rfl sh2 rfl (by omega) (L0 := [vR r0, vI 2]) rfl ?_
    exact (k2 c1)

theorem t144_13 {d : Nat} {τ : T2} {Q : RS → T2 → Prop} {y0 : Int} (k1 : Q (.inl (some (AI y0))) τ) : G d 144 13 [none, none, none] [AI y0] τ Q := by
  refine g_iret rfl rfl ?_
  exact k1

theorem t144_18 {d : Nat} {τ : T2} {Q : RS → T2 → Prop} {x1 y0 : Int} {r0 : Nat} (hd : 1 ≤ d) (sh2 : tS τ r0 = (1, 11, 0)) (k1 : ¬ y0 = (-1) → G (d - 1) 118 0 [vR r0, vI x1] [] τ (KC d 144 33 36 [none, none, vI y0] [] Q)) (k2 : y0 = (-1) → G (d - 1) 126 0 [vR r0, vI 9] [] τ (KC d 144 27 30 [none, none, none] [] Q)) : G d 144 18 [vR r0, vI x1, none] [AI y0] τ Q := by
  refine g_sx 3 (pc1 := 21) (L1 := [vR r0, vI x1, vI y0]) (st1 := [AI (-1), AI y0]) rfl ?_
  refine g_br2 rfl (t := 31) rfl (fun c1 => ?_) (fun c1 => ?_)
  · have c1 : ¬ y0 = (-1) := of_decide_eq_true c1
    refine g_sk 2 (pc1 := 33) (st1 := [AI x1, AR r0]) rfl ?_
    refine G_fg (lw2_f _ (lw2_f _ (lw2_k _ lw2_nil))) ?_
    refine g_cv rfl rfl (by decide) rfl rfl (Nat.le_of_ble_eq_true rfl) (as2 := [AI x1]) rfl sh2 rfl (by omega) (L0 := [vR r0, vI x1]) rfl ?_
    exact (k1 c1)
  · have c1 : y0 = (-1) := Decidable.of_not_not (of_decide_eq_false c1)
    refine g_sk 2 (pc1 := 27) (st1 := [AI 9, AR r0]) rfl ?_
    refine G_fg (lw2_f _ (lw2_f _ (lw2_f _ lw2_nil))) ?_
    refine g_cv rfl rfl (by decide) rfl rfl (Nat.le_of_ble_eq_true rfl) (as2 := [AI 9]) rfl sh2 rfl (by omega) (L0 := [vR r0, vI 9]) rfl ?_
    exact (k2 c1)

theorem t144_30 {d : Nat} {τ : T2} {Q : RS → T2 → Prop} {y0 : Int} (k1 : Q (.inl (some (AI y0))) τ) : G d 144 30 [none, none, none] [AI y0] τ Q := by
  refine g_iret rfl rfl ?_
  exact k1

theorem t144_36 {d : Nat} {τ : T2} {Q : RS → T2 → Prop} {x2 y0 : Int} (k1 : ¬ y0 = (-1) → Q (.inl (some (AI x2))) τ) (k2 : y0 = (-1) → Q (.inl (some (AI (-1)))) τ) : G d 144 36 [none, none, vI x2] [AI y0] τ Q := by
  refine g_sk 1 (pc1 := 37) (st1 := [AI (-1), AI y0]) rfl ?_
  refine g_br2 rfl (t := 44) rfl (fun c1 => ?_) (fun c1 => ?_)
  · have c1 : ¬ y0 = (-1) := of_decide_eq_true c1
    refine g_sk 1 (pc1 := 45) (st1 := [AI x2]) rfl ?_
    refine g_iret rfl rfl ?_
    exact (k1 c1)
  · have c1 : y0 = (-1) := Decidable.of_not_not (of_decide_eq_false c1)
    refine g_sk 2 (pc1 := 45) (st1 := [AI (-1)]) rfl ?_
    refine g_iret rfl rfl ?_
    exact (k2 c1)

theorem t145_0 {d : Nat} {τ : T2} {Q : RS → T2 → Prop} {r0 q2 q6 : Nat} (hd : 1 ≤ d) (sh1 : tS τ r0 = (1, 11, 0)) (p3 : tP τ r0 15 = some q2) (sh4 : tS τ q2 = (1, 5, 0)) (p7 : tP τ r0 8 = some q6) (sh8 : tS τ q6 = (1, 2, 0)) (k1 : ¬ (tI τ q2 4) = 7 → G (d - 1) 129 0 [vR r0, vI (tI τ q2 5)] [] τ (KC d 145 36 39 [vR r0, vI (tI τ q2 5), none] [] Q)) (k2 : (tI τ q2 4) = 7 → Q (.inl none) (uI τ q6 2 (wr ((tI τ q6 2) - 1)))) : G d 145 0 [vR r0, none, none] [] τ Q := by
  refine g_sk 1 (pc1 := 1) (st1 := [AR r0]) rfl ?_
  refine g_gQ rfl (ci := 11) (k := 15) rfl sh1 p3 ?_
  refine g_gI rfl (ci := 5) (k := 5) rfl sh4 ?_
  refine g_sx 2 (pc1 := 9) (L1 := [vR r0, vI (tI τ q2 5), none]) (st1 := [AR r0]) rfl ?_
  refine g_gQ rfl (ci := 11) (k := 15) rfl sh1 p3 ?_
  refine g_gI rfl (ci := 5) (k := 4) rfl sh4 ?_
  refine g_sk 1 (pc1 := 17) (st1 := [AI 7, AI (tI τ q2 4)]) rfl ?_
  refine g_br2 rfl (t := 34) rfl (fun c5 => ?_) (fun c5 => ?_)
  · have c5 : ¬ (tI τ q2 4) = 7 := of_decide_eq_true c5
    refine g_sk 2 (pc1 := 36) (st1 := [AI (tI τ q2 5), AR r0]) rfl ?_
    refine g_cv rfl rfl (by decide) rfl rfl (Nat.le_of_ble_eq_true rfl) (as2 := [AI (tI τ q2 5)]) rfl sh1 rfl (by omega) (L0 := [vR r0, vI (tI τ q2 5)]) rfl ?_
    exact (k1 c5)
  · have c5 : (tI τ q2 4) = 7 := Decidable.of_not_not (of_decide_eq_false c5)
    refine g_sk 1 (pc1 := 21) (st1 := [AR r0]) rfl ?_
    refine g_gQ rfl (ci := 11) (k := 8) rfl sh1 p7 ?_
    refine g_sk 1 (pc1 := 25) (st1 := [AR q6, AR q6]) rfl ?_
    refine g_gI rfl (ci := 2) (k := 2) rfl sh8 ?_
    refine g_sk 2 (pc1 := 30) (st1 := [AI (wr ((tI τ q6 2) - 1)), AR q6]) rfl ?_
    refine g_putI (x := (wr ((tI τ q6 2) - 1))) rfl (ci := 2) (k := 2) (kd := 0) rfl (by decide) rfl rfl sh8 ?_
    refine g_vret rfl rfl ?_
    exact (k2 c5)

theorem t145_39 {d : Nat} {τ : T2} {Q : RS → T2 → Prop} {x1 y0 : Int} {r0 q3 n5 q8 : Nat} (sh2 : tS τ r0 = (1, 11, 0)) (p4 : tP τ r0 2 = some q3) (sh6 : tS τ q3 = (3, 4, n5)) (b7 : ¬ y0 = 0 → 0 ≤ x1 ∧ x1 < (n5 : Int)) (p9 : tP τ r0 15 = some q8) (sh10 : tS τ q8 = (1, 5, 0)) (k1 : ¬ y0 = 0 → G d 145 57 [vR r0, vI x1, vQ (tP τ q3 x1.toNat)] [AI (tI τ q8 4)] τ Q) (k2 : y0 = 0 → Q (.inl none) τ) : G d 145 39 [vR r0, vI x1, none] [AI y0] τ Q := by
  refine g_br1 rfl (t := 43) rfl (fun c1 => ?_) (fun c1 => ?_)
  · have c1 : ¬ y0 = 0 := of_decide_eq_true c1
    refine g_sk 1 (pc1 := 44) (st1 := [AR r0]) rfl ?_
    refine g_gQ rfl (ci := 11) (k := 2) rfl sh2 p4 ?_
    refine g_sk 1 (pc1 := 48) (st1 := [AI x1, AR q3]) rfl ?_
    refine g_aald rfl sh6 (by decide) (b7 c1).1 (b7 c1).2 ?_
    refine g_sx 2 (pc1 := 51) (L1 := [vR r0, vI x1, vQ (tP τ q3 x1.toNat)]) (st1 := [AR r0]) rfl ?_
    refine g_gQ rfl (ci := 11) (k := 15) rfl sh2 p9 ?_
    refine g_gI rfl (ci := 5) (k := 4) rfl sh10 ?_
    exact (k1 c1)
  · have c1 : y0 = 0 := Decidable.of_not_not (of_decide_eq_false c1)
    refine g_vret rfl rfl ?_
    exact (k2 c1)

theorem t146_0 {d : Nat} {τ : T2} {Q : RS → T2 → Prop} {r0 q2 : Nat} (hd : 1 ≤ d) (sh1 : tS τ r0 = (1, 11, 0)) (p3 : tP τ r0 15 = some q2) (sh4 : tS τ q2 = (1, 5, 0)) (k1 : ¬ (tI τ q2 4) = 9 → G (d - 1) 130 0 [vR r0, vI (tI τ q2 5)] [] τ (KC d 146 37 40 [vR r0, none, none] [] Q)) (k2 : (tI τ q2 4) = 9 → Q (.inl none) (uI τ r0 9 (wr ((tI τ r0 9) - (tI τ q2 5))))) : G d 146 0 [vR r0, none, none] [] τ Q := by
  refine g_sk 1 (pc1 := 1) (st1 := [AR r0]) rfl ?_
  refine g_gQ rfl (ci := 11) (k := 15) rfl sh1 p3 ?_
  refine g_gI rfl (ci := 5) (k := 4) rfl sh4 ?_
  refine g_sk 1 (pc1 := 9) (st1 := [AI 9, AI (tI τ q2 4)]) rfl ?_
  refine g_br2 rfl (t := 29) rfl (fun c5 => ?_) (fun c5 => ?_)
  · have c5 : ¬ (tI τ q2 4) = 9 := of_decide_eq_true c5
    refine g_sk 2 (pc1 := 31) (st1 := [AR r0, AR r0]) rfl ?_
    refine g_gQ rfl (ci := 11) (k := 15) rfl sh1 p3 ?_
    refine g_gI rfl (ci := 5) (k := 5) rfl sh4 ?_
    refine g_cv rfl rfl (by decide) rfl rfl (Nat.le_of_ble_eq_true rfl) (as2 := [AI (tI τ q2 5)]) rfl sh1 rfl (by omega) (L0 := [vR r0, vI (tI τ q2 5)]) rfl ?_
    exact (k1 c5)
  · have c5 : (tI τ q2 4) = 9 := Decidable.of_not_not (of_decide_eq_false c5)
    refine g_sk 2 (pc1 := 14) (st1 := [AR r0, AR r0]) rfl ?_
    refine g_gI rfl (ci := 11) (k := 9) rfl sh1 ?_
    refine g_sk 1 (pc1 := 18) (st1 := [AR r0, AI (tI τ r0 9), AR r0]) rfl ?_
    refine g_gQ rfl (ci := 11) (k := 15) rfl sh1 p3 ?_
    refine g_gI rfl (ci := 5) (k := 5) rfl sh4 ?_
    refine g_sk 1 (pc1 := 25) (st1 := [AI (wr ((tI τ r0 9) - (tI τ q2 5))), AR r0]) rfl ?_
    refine g_putI (x := (wr ((tI τ r0 9) - (tI τ q2 5)))) rfl (ci := 11) (k := 9) (kd := 0) rfl (by decide) rfl rfl sh1 ?_
    refine g_vret rfl rfl ?_
    exact (k2 c5)

theorem t146_40 {d : Nat} {τ : T2} {Q : RS → T2 → Prop} {y0 : Int} {r0 q3 q5 n8 : Nat} (hd : 1 ≤ d) (sh2 : tS τ r0 = (1, 11, 0)) (p4 : tP τ r0 5 = some q3) (p6 : tP τ r0 15 = some q5) (sh7 : tS τ q5 = (1, 5, 0)) (sh9 : tS τ q3 = (3, 5, n8)) (b10 : ¬ y0 = 0 → 0 ≤ (tI τ q5 5) ∧ (tI τ q5 5) < (n8 : Int)) (k1 : ¬ y0 = 0 → ¬ (tI τ q5 4) = 8 → G (d - 1) 129 0 [vR r0, vI (tI τ q5 6)] [] τ (KC d 146 92 95 [vR r0, vQ (tP τ q3 (tI τ q5 5).toNat), vI (tI τ q5 6)] [] Q)) (k2 : ¬ y0 = 0 → (tI τ q5 4) = 8 → Q (.inl none) (uI τ r0 6 (wr ((tI τ r0 6) - 1)))) (k3 : y0 = 0 → Q (.inl none) τ) : G d 146 40 [vR r0, none, none] [AI y0] τ Q := by
  refine g_br1 rfl (t := 44) rfl (fun c1 => ?_) (fun c1 => ?_)
  · have c1 : ¬ y0 = 0 := of_decide_eq_true c1
    refine g_sk 1 (pc1 := 45) (st1 := [AR r0]) rfl ?_
    refine g_gQ rfl (ci := 11) (k := 5) rfl sh2 p4 ?_
    refine g_sk 1 (pc1 := 49) (st1 := [AR r0, AR q3]) rfl ?_
    refine g_gQ rfl (ci := 11) (k := 15) rfl sh2 p6 ?_
    refine g_gI rfl (ci := 5) (k := 5) rfl sh7 ?_
    refine g_aald rfl sh9 (by decide) (b10 c1).1 (b10 c1).2 ?_
    refine g_sx 2 (pc1 := 58) (L1 := [vR r0, vQ (tP τ q3 (tI τ q5 5).toNat), none]) (st1 := [AR r0]) rfl ?_
    refine g_gQ rfl (ci := 11) (k := 15) rfl sh2 p6 ?_
    refine g_gI rfl (ci := 5) (k := 6) rfl sh7 ?_
    refine g_sx 2 (pc1 := 66) (L1 := [vR r0, vQ (tP τ q3 (tI τ q5 5).toNat), vI (tI τ q5 6)]) (st1 := [AR r0]) rfl ?_
    refine g_gQ rfl (ci := 11) (k := 15) rfl sh2 p6 ?_
    refine g_gI rfl (ci := 5) (k := 4) rfl sh7 ?_
    refine g_sk 1 (pc1 := 74) (st1 := [AI 8, AI (tI τ q5 4)]) rfl ?_
    refine g_br2 rfl (t := 90) rfl (fun c11 => ?_) (fun c11 => ?_)
    · have c11 : ¬ (tI τ q5 4) = 8 := of_decide_eq_true c11
      refine g_sk 2 (pc1 := 92) (st1 := [AI (tI τ q5 6), AR r0]) rfl ?_
      refine g_cv rfl rfl (by decide) rfl rfl (Nat.le_of_ble_eq_true rfl) (as2 := [AI (tI τ q5 6)]) rfl sh2 rfl (by omega) (L0 := [vR r0, vI (tI τ q5 6)]) rfl ?_
      exact (k1 c1 c11)
    · have c11 : (tI τ q5 4) = 8 := Decidable.of_not_not (of_decide_eq_false c11)
      refine g_sk 2 (pc1 := 79) (st1 := [AR r0, AR r0]) rfl ?_
      refine g_gI rfl (ci := 11) (k := 6) rfl sh2 ?_
      refine g_sk 2 (pc1 := 84) (st1 := [AI (wr ((tI τ r0 6) - 1)), AR r0]) rfl ?_
      refine g_putI (x := (wr ((tI τ r0 6) - 1))) rfl (ci := 11) (k := 6) (kd := 0) rfl (by decide) rfl rfl sh2 ?_
      refine g_sk 1 (pc1 := 159) (st1 := []) rfl ?_
      refine g_vret rfl rfl ?_
      exact (k2 c1 c11)
  · have c1 : y0 = 0 := Decidable.of_not_not (of_decide_eq_false c1)
    refine g_vret rfl rfl ?_
    exact (k3 c1)

theorem t146_95 {d : Nat} {τ : T2} {Q : RS → T2 → Prop} {x2 y0 : Int} {r0 r1 q3 q8 n10 : Nat} (hd : 1 ≤ d) (sh2 : tS τ r0 = (1, 11, 0)) (p4 : tP τ r0 15 = some q3) (sh5 : tS τ q3 = (1, 5, 0)) (sh7 : tS τ r1 = (1, 8, 0)) (p9 : tP τ r1 4 = some q8) (sh11 : tS τ q8 = (2, 0, n10)) (b12 : ¬ y0 = 0 → (tI τ q3 4) = 11 → 0 ≤ x2 ∧ x2 < (n10 : Int)) (k1 : y0 = 0 → G (d - 1) 129 0 [vR r0, vI x2] [] τ (KC d 146 125 128 [vR r0, vR r1, vI x2] [] Q)) (k2 : ¬ y0 = 0 → ¬ (tI τ q3 4) = 11 → G (d - 1) 129 0 [vR r0, vI x2] [] τ (KC d 146 125 128 [vR r0, vR r1, vI x2] [] Q)) (k3 : ¬ y0 = 0 → (tI τ q3 4) = 11 → Q (.inl none) (uI τ q8 x2.toNat (wr ((tI τ q8 x2.toNat) - 1)))) : G d 146 95 [vR r0, vR r1, vI x2] [AI y0] τ Q := by
  refine g_br1 rfl (t := 123) rfl (fun c1 => ?_) (fun c1 => ?_)
  · have c1 : y0 = 0 := of_decide_eq_true c1
    refine g_sk 2 (pc1 := 125) (st1 := [AI x2, AR r0]) rfl ?_
    refine g_cv rfl rfl (by decide) rfl rfl (Nat.le_of_ble_eq_true rfl) (as2 := [AI x2]) rfl sh2 rfl (by omega) (L0 := [vR r0, vI x2]) rfl ?_
    exact (k1 c1)
  · have c1 : ¬ y0 = 0 := of_decide_eq_false c1
    refine g_sk 1 (pc1 := 99) (st1 := [AR r0]) rfl ?_
    refine g_gQ rfl (ci := 11) (k := 15) rfl sh2 p4 ?_
    refine g_gI rfl (ci := 5) (k := 4) rfl sh5 ?_
    refine g_sk 1 (pc1 := 107) (st1 := [AI 11, AI (tI τ q3 4)]) rfl ?_
    refine g_br2 rfl (t := 123) rfl (fun c6 => ?_) (fun c6 => ?_)
    · have c6 : ¬ (tI τ q3 4) = 11 := of_decide_eq_true c6
      refine g_sk 2 (pc1 := 125) (st1 := [AI x2, AR r0]) rfl ?_
      refine g_cv rfl rfl (by decide) rfl rfl (Nat.le_of_ble_eq_true rfl) (as2 := [AI x2]) rfl sh2 rfl (by omega) (L0 := [vR r0, vI x2]) rfl ?_
      exact (k2 c1 c6)
    · have c6 : (tI τ q3 4) = 11 := Decidable.of_not_not (of_decide_eq_false c6)
      refine g_sk 1 (pc1 := 111) (st1 := [AR r1]) rfl ?_
      refine g_gQ rfl (ci := 8) (k := 4) rfl sh7 p9 ?_
      refine g_sk 2 (pc1 := 116) (st1 := [AI x2, AR q8, AI x2, AR q8]) rfl ?_
      refine g_iald rfl sh11 (by decide) (b12 c1 c6).1 (b12 c1 c6).2 ?_
      refine g_sk 2 (pc1 := 119) (st1 := [AI (wr ((tI τ q8 x2.toNat) - 1)), AI x2, AR q8]) rfl ?_
      refine g_iast rfl sh11 (b12 c1 c6).1 (b12 c1 c6).2 ?_
      refine g_sk 1 (pc1 := 159) (st1 := []) rfl ?_
      refine g_vret rfl rfl ?_
      exact (k3 c1 c6)

theorem t146_128 {d : Nat} {τ : T2} {Q : RS → T2 → Prop} {x2 y0 : Int} {r0 r1 q3 : Nat} (hd : 1 ≤ d) (sh2 : tS τ r0 = (1, 11, 0)) (p4 : tP τ r0 15 = some q3) (sh5 : tS τ q3 = (1, 5, 0)) (sh7 : tS τ r1 = (1, 8, 0)) (k1 : y0 = 0 → Q (.inl none) τ) (k2 : ¬ y0 = 0 → ¬ (tI τ q3 7) = 1 → G (d - 1) 65 0 [vR r1, vI x2, vI 0, vI (tI τ q3 8)] [] τ (KC d 146 156 159 [none, none, none] [] Q)) (k3 : ¬ y0 = 0 → (tI τ q3 7) = 1 → G (d - 1) 65 0 [vR r1, vI x2, vI 1, vI (tI τ q3 8)] [] τ (KC d 146 156 159 [none, none, none] [] Q)) : G d 146 128 [vR r0, vR r1, vI x2] [AI y0] τ Q := by
  refine g_br1 rfl (t := 159) rfl (fun c1 => ?_) (fun c1 => ?_)
  · have c1 : y0 = 0 := of_decide_eq_true c1
    refine g_vret rfl rfl ?_
    exact (k1 c1)
  · have c1 : ¬ y0 = 0 := of_decide_eq_false c1
    refine g_sk 3 (pc1 := 134) (st1 := [AR r0, AI x2, AR r1]) rfl ?_
    refine g_gQ rfl (ci := 11) (k := 15) rfl sh2 p4 ?_
    refine g_gI rfl (ci := 5) (k := 7) rfl sh5 ?_
    refine g_sk 1 (pc1 := 141) (st1 := [AI 1, AI (tI τ q3 7), AI x2, AR r1]) rfl ?_
    refine g_br2 rfl (t := 148) rfl (fun c6 => ?_) (fun c6 => ?_)
    · have c6 : ¬ (tI τ q3 7) = 1 := of_decide_eq_true c6
      refine g_sk 2 (pc1 := 150) (st1 := [AR r0, AI 0, AI x2, AR r1]) rfl ?_
      refine g_gQ rfl (ci := 11) (k := 15) rfl sh2 p4 ?_
      refine g_gI rfl (ci := 5) (k := 8) rfl sh5 ?_
      refine G_fg (lw2_f _ (lw2_f _ (lw2_f _ lw2_nil))) ?_
      refine g_cv rfl rfl (by decide) rfl rfl (Nat.le_of_ble_eq_true rfl) (as2 := [AI x2, AI 0, AI (tI τ q3 8)]) rfl sh7 rfl (by omega) (L0 := [vR r1, vI x2, vI 0, vI (tI τ q3 8)]) rfl ?_
      exact (k2 c1 c6)
    · have c6 : (tI τ q3 7) = 1 := Decidable.of_not_not (of_decide_eq_false c6)
      refine g_sk 3 (pc1 := 150) (st1 := [AR r0, AI 1, AI x2, AR r1]) rfl ?_
      refine g_gQ rfl (ci := 11) (k := 15) rfl sh2 p4 ?_
      refine g_gI rfl (ci := 5) (k := 8) rfl sh5 ?_
      refine G_fg (lw2_f _ (lw2_f _ (lw2_f _ lw2_nil))) ?_
      refine g_cv rfl rfl (by decide) rfl rfl (Nat.le_of_ble_eq_true rfl) (as2 := [AI x2, AI 1, AI (tI τ q3 8)]) rfl sh7 rfl (by omega) (L0 := [vR r1, vI x2, vI 1, vI (tI τ q3 8)]) rfl ?_
      exact (k3 c1 c6)

theorem t146_159 {d : Nat} {τ : T2} {Q : RS → T2 → Prop}  (k1 : Q (.inl none) τ) : G d 146 159 [none, none, none] [] τ Q := by
  refine g_vret rfl rfl ?_
  exact k1
