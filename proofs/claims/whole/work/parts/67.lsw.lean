/-! THE LAW's SWITCH: written by program (wip/whole/tree.py swi) -/
set_option maxRecDepth 8192 in
theorem t268_40 {d : Nat} {τ : T2} {Q : RS → T2 → Prop} {x4 y0 : Int} {r0 r1 r2 r3 : Option Nat} (k1 : y0 = 0 → G d 268 188 [vQ r0, vQ r1, vQ r2, vQ r3, vI x4, none, none] [] τ Q) (k2 : y0 = 1 → G d 268 261 [vQ r0, vQ r1, vQ r2, vQ r3, vI x4, none, none] [] τ Q) (k3 : y0 = 2 → G d 268 310 [vQ r0, vQ r1, vQ r2, vQ r3, vI x4, none, none] [] τ Q) (k4 : y0 = 3 → G d 268 347 [vQ r0, vQ r1, vQ r2, vQ r3, vI x4, none, none] [] τ Q) (k5 : y0 = 4 → G d 268 384 [vQ r0, vQ r1, vQ r2, vQ r3, vI x4, none, none] [] τ Q) (k6 : y0 = 5 → G d 268 421 [vQ r0, vQ r1, vQ r2, vQ r3, vI x4, none, none] [] τ Q) (k7 : y0 = 6 → G d 268 470 [vQ r0, vQ r1, vQ r2, vQ r3, vI x4, none, none] [] τ Q) (k8 : y0 = 7 → G d 268 519 [vQ r0, vQ r1, vQ r2, vQ r3, vI x4, none, none] [] τ Q) (k9 : y0 = 8 → G d 268 532 [vQ r0, vQ r1, vQ r2, vQ r3, vI x4, none, none] [] τ Q) (k10 : y0 = 9 → G d 268 545 [vQ r0, vQ r1, vQ r2, vQ r3, vI x4, none, none] [] τ Q) (k11 : y0 = 10 → G d 268 582 [vQ r0, vQ r1, vQ r2, vQ r3, vI x4, none, none] [] τ Q) (k12 : y0 = 11 → G d 268 619 [vQ r0, vQ r1, vQ r2, vQ r3, vI x4, none, none] [] τ Q) (k13 : y0 = 12 → G d 268 656 [vQ r0, vQ r1, vQ r2, vQ r3, vI x4, none, none] [] τ Q) (k14 : y0 = 13 → G d 268 681 [vQ r0, vQ r1, vQ r2, vQ r3, vI x4, none, none] [] τ Q) (k15 : y0 = 14 → G d 268 706 [vQ r0, vQ r1, vQ r2, vQ r3, vI x4, none, none] [] τ Q) (k16 : y0 = 15 → G d 268 743 [vQ r0, vQ r1, vQ r2, vQ r3, vI x4, none, none] [] τ Q) (k17 : y0 = 16 → G d 268 780 [vQ r0, vQ r1, vQ r2, vQ r3, vI x4, none, none] [] τ Q) (k18 : y0 = 17 → G d 268 836 [vQ r0, vQ r1, vQ r2, vQ r3, vI x4, none, none] [] τ Q) (k19 : y0 = 18 → G d 268 861 [vQ r0, vQ r1, vQ r2, vQ r3, vI x4, none, none] [] τ Q) (k20 : y0 = 19 → G d 268 874 [vQ r0, vQ r1, vQ r2, vQ r3, vI x4, none, none] [] τ Q) (k21 : y0 = 20 → G d 268 899 [vQ r0, vQ r1, vQ r2, vQ r3, vI x4, none, none] [] τ Q) (k22 : y0 = 21 → G d 268 936 [vQ r0, vQ r1, vQ r2, vQ r3, vI x4, none, none] [] τ Q) (k23 : y0 = 22 → G d 268 985 [vQ r0, vQ r1, vQ r2, vQ r3, vI x4, none, none] [] τ Q) (k24 : y0 = 23 → G d 268 1022 [vQ r0, vQ r1, vQ r2, vQ r3, vI x4, none, none] [] τ Q) (k25 : y0 = 24 → G d 268 1059 [vQ r0, vQ r1, vQ r2, vQ r3, vI x4, none, none] [] τ Q) (k26 : y0 = 25 → G d 268 1108 [vQ r0, vQ r1, vQ r2, vQ r3, vI x4, none, none] [] τ Q) (k27 : y0 = 26 → G d 268 1145 [vQ r0, vQ r1, vQ r2, vQ r3, vI x4, none, none] [] τ Q) (k28 : y0 = 27 → G d 268 1170 [vQ r0, vQ r1, vQ r2, vQ r3, vI x4, none, none] [] τ Q) (k29 : y0 = 28 → G d 268 1195 [vQ r0, vQ r1, vQ r2, vQ r3, vI x4, none, none] [] τ Q) (k30 : y0 = 29 → G d 268 1220 [vQ r0, vQ r1, vQ r2, vQ r3, vI x4, none, none] [] τ Q) (k31 : y0 = 30 → G d 268 1245 [vQ r0, vQ r1, vQ r2, vQ r3, vI x4, none, none] [] τ Q) (k32 : y0 = 31 → G d 268 1258 [vQ r0, vQ r1, vQ r2, vQ r3, vI x4, none, none] [] τ Q) (k33 : y0 = 32 → G d 268 1283 [vQ r0, vQ r1, vQ r2, vQ r3, vI x4, none, none] [] τ Q) (k34 : y0 < 0 ∨ 32 < y0 → G d 268 1296 [vQ r0, vQ r1, vQ r2, vQ r3, vI x4, none, none] [] τ Q) : G d 268 40 [vQ r0, vQ r1, vQ r2, vQ r3, vI x4, none, none] [AI y0] τ Q := by
  by_cases c0 : y0 = 0
  · rw [c0]
    refine g_st (τ1 := τ) rfl (pc1 := 188) (L1 := [vQ r0, vQ r1, vQ r2, vQ r3, vI x4, none, none]) (st1 := []) rfl ?_
    exact (k1 c0)
  by_cases c1 : y0 = 1
  · rw [c1]
    refine g_st (τ1 := τ) rfl (pc1 := 261) (L1 := [vQ r0, vQ r1, vQ r2, vQ r3, vI x4, none, none]) (st1 := []) rfl ?_
    exact (k2 c1)
  by_cases c2 : y0 = 2
  · rw [c2]
    refine g_st (τ1 := τ) rfl (pc1 := 310) (L1 := [vQ r0, vQ r1, vQ r2, vQ r3, vI x4, none, none]) (st1 := []) rfl ?_
    exact (k3 c2)
  by_cases c3 : y0 = 3
  · rw [c3]
    refine g_st (τ1 := τ) rfl (pc1 := 347) (L1 := [vQ r0, vQ r1, vQ r2, vQ r3, vI x4, none, none]) (st1 := []) rfl ?_
    exact (k4 c3)
  by_cases c4 : y0 = 4
  · rw [c4]
    refine g_st (τ1 := τ) rfl (pc1 := 384) (L1 := [vQ r0, vQ r1, vQ r2, vQ r3, vI x4, none, none]) (st1 := []) rfl ?_
    exact (k5 c4)
  by_cases c5 : y0 = 5
  · rw [c5]
    refine g_st (τ1 := τ) rfl (pc1 := 421) (L1 := [vQ r0, vQ r1, vQ r2, vQ r3, vI x4, none, none]) (st1 := []) rfl ?_
    exact (k6 c5)
  by_cases c6 : y0 = 6
  · rw [c6]
    refine g_st (τ1 := τ) rfl (pc1 := 470) (L1 := [vQ r0, vQ r1, vQ r2, vQ r3, vI x4, none, none]) (st1 := []) rfl ?_
    exact (k7 c6)
  by_cases c7 : y0 = 7
  · rw [c7]
    refine g_st (τ1 := τ) rfl (pc1 := 519) (L1 := [vQ r0, vQ r1, vQ r2, vQ r3, vI x4, none, none]) (st1 := []) rfl ?_
    exact (k8 c7)
  by_cases c8 : y0 = 8
  · rw [c8]
    refine g_st (τ1 := τ) rfl (pc1 := 532) (L1 := [vQ r0, vQ r1, vQ r2, vQ r3, vI x4, none, none]) (st1 := []) rfl ?_
    exact (k9 c8)
  by_cases c9 : y0 = 9
  · rw [c9]
    refine g_st (τ1 := τ) rfl (pc1 := 545) (L1 := [vQ r0, vQ r1, vQ r2, vQ r3, vI x4, none, none]) (st1 := []) rfl ?_
    exact (k10 c9)
  by_cases c10 : y0 = 10
  · rw [c10]
    refine g_st (τ1 := τ) rfl (pc1 := 582) (L1 := [vQ r0, vQ r1, vQ r2, vQ r3, vI x4, none, none]) (st1 := []) rfl ?_
    exact (k11 c10)
  by_cases c11 : y0 = 11
  · rw [c11]
    refine g_st (τ1 := τ) rfl (pc1 := 619) (L1 := [vQ r0, vQ r1, vQ r2, vQ r3, vI x4, none, none]) (st1 := []) rfl ?_
    exact (k12 c11)
  by_cases c12 : y0 = 12
  · rw [c12]
    refine g_st (τ1 := τ) rfl (pc1 := 656) (L1 := [vQ r0, vQ r1, vQ r2, vQ r3, vI x4, none, none]) (st1 := []) rfl ?_
    exact (k13 c12)
  by_cases c13 : y0 = 13
  · rw [c13]
    refine g_st (τ1 := τ) rfl (pc1 := 681) (L1 := [vQ r0, vQ r1, vQ r2, vQ r3, vI x4, none, none]) (st1 := []) rfl ?_
    exact (k14 c13)
  by_cases c14 : y0 = 14
  · rw [c14]
    refine g_st (τ1 := τ) rfl (pc1 := 706) (L1 := [vQ r0, vQ r1, vQ r2, vQ r3, vI x4, none, none]) (st1 := []) rfl ?_
    exact (k15 c14)
  by_cases c15 : y0 = 15
  · rw [c15]
    refine g_st (τ1 := τ) rfl (pc1 := 743) (L1 := [vQ r0, vQ r1, vQ r2, vQ r3, vI x4, none, none]) (st1 := []) rfl ?_
    exact (k16 c15)
  by_cases c16 : y0 = 16
  · rw [c16]
    refine g_st (τ1 := τ) rfl (pc1 := 780) (L1 := [vQ r0, vQ r1, vQ r2, vQ r3, vI x4, none, none]) (st1 := []) rfl ?_
    exact (k17 c16)
  by_cases c17 : y0 = 17
  · rw [c17]
    refine g_st (τ1 := τ) rfl (pc1 := 836) (L1 := [vQ r0, vQ r1, vQ r2, vQ r3, vI x4, none, none]) (st1 := []) rfl ?_
    exact (k18 c17)
  by_cases c18 : y0 = 18
  · rw [c18]
    refine g_st (τ1 := τ) rfl (pc1 := 861) (L1 := [vQ r0, vQ r1, vQ r2, vQ r3, vI x4, none, none]) (st1 := []) rfl ?_
    exact (k19 c18)
  by_cases c19 : y0 = 19
  · rw [c19]
    refine g_st (τ1 := τ) rfl (pc1 := 874) (L1 := [vQ r0, vQ r1, vQ r2, vQ r3, vI x4, none, none]) (st1 := []) rfl ?_
    exact (k20 c19)
  by_cases c20 : y0 = 20
  · rw [c20]
    refine g_st (τ1 := τ) rfl (pc1 := 899) (L1 := [vQ r0, vQ r1, vQ r2, vQ r3, vI x4, none, none]) (st1 := []) rfl ?_
    exact (k21 c20)
  by_cases c21 : y0 = 21
  · rw [c21]
    refine g_st (τ1 := τ) rfl (pc1 := 936) (L1 := [vQ r0, vQ r1, vQ r2, vQ r3, vI x4, none, none]) (st1 := []) rfl ?_
    exact (k22 c21)
  by_cases c22 : y0 = 22
  · rw [c22]
    refine g_st (τ1 := τ) rfl (pc1 := 985) (L1 := [vQ r0, vQ r1, vQ r2, vQ r3, vI x4, none, none]) (st1 := []) rfl ?_
    exact (k23 c22)
  by_cases c23 : y0 = 23
  · rw [c23]
    refine g_st (τ1 := τ) rfl (pc1 := 1022) (L1 := [vQ r0, vQ r1, vQ r2, vQ r3, vI x4, none, none]) (st1 := []) rfl ?_
    exact (k24 c23)
  by_cases c24 : y0 = 24
  · rw [c24]
    refine g_st (τ1 := τ) rfl (pc1 := 1059) (L1 := [vQ r0, vQ r1, vQ r2, vQ r3, vI x4, none, none]) (st1 := []) rfl ?_
    exact (k25 c24)
  by_cases c25 : y0 = 25
  · rw [c25]
    refine g_st (τ1 := τ) rfl (pc1 := 1108) (L1 := [vQ r0, vQ r1, vQ r2, vQ r3, vI x4, none, none]) (st1 := []) rfl ?_
    exact (k26 c25)
  by_cases c26 : y0 = 26
  · rw [c26]
    refine g_st (τ1 := τ) rfl (pc1 := 1145) (L1 := [vQ r0, vQ r1, vQ r2, vQ r3, vI x4, none, none]) (st1 := []) rfl ?_
    exact (k27 c26)
  by_cases c27 : y0 = 27
  · rw [c27]
    refine g_st (τ1 := τ) rfl (pc1 := 1170) (L1 := [vQ r0, vQ r1, vQ r2, vQ r3, vI x4, none, none]) (st1 := []) rfl ?_
    exact (k28 c27)
  by_cases c28 : y0 = 28
  · rw [c28]
    refine g_st (τ1 := τ) rfl (pc1 := 1195) (L1 := [vQ r0, vQ r1, vQ r2, vQ r3, vI x4, none, none]) (st1 := []) rfl ?_
    exact (k29 c28)
  by_cases c29 : y0 = 29
  · rw [c29]
    refine g_st (τ1 := τ) rfl (pc1 := 1220) (L1 := [vQ r0, vQ r1, vQ r2, vQ r3, vI x4, none, none]) (st1 := []) rfl ?_
    exact (k30 c29)
  by_cases c30 : y0 = 30
  · rw [c30]
    refine g_st (τ1 := τ) rfl (pc1 := 1245) (L1 := [vQ r0, vQ r1, vQ r2, vQ r3, vI x4, none, none]) (st1 := []) rfl ?_
    exact (k31 c30)
  by_cases c31 : y0 = 31
  · rw [c31]
    refine g_st (τ1 := τ) rfl (pc1 := 1258) (L1 := [vQ r0, vQ r1, vQ r2, vQ r3, vI x4, none, none]) (st1 := []) rfl ?_
    exact (k32 c31)
  by_cases c32 : y0 = 32
  · rw [c32]
    refine g_st (τ1 := τ) rfl (pc1 := 1283) (L1 := [vQ r0, vQ r1, vQ r2, vQ r3, vI x4, none, none]) (st1 := []) rfl ?_
    exact (k33 c32)
  have cd : y0 < 0 ∨ 32 < y0 := by omega
  refine g_tsd rfl (t0 := 1296) rfl cd ?_
  exact (k34 cd)

set_option maxRecDepth 8192 in
theorem t268_188 {d : Nat} {τ : T2} {Q : RS → T2 → Prop} {x4 : Int} {r0 r1 n1 : Nat} {r2 r3 : Option Nat} (hd : 1 ≤ d) (sh2 : tS τ r0 = (2, 100, n1)) (b3 : (0 : Int) ≤ (wr (x4 + 1)) ∧ (wr (x4 + 1)) < (n1 : Int)) (b4 : (0 : Int) ≤ (wr (x4 + 2)) ∧ (wr (x4 + 2)) < (n1 : Int)) (b5 : (0 : Int) ≤ (wr (x4 + 3)) ∧ (wr (x4 + 3)) < (n1 : Int)) (b6 : (0 : Int) ≤ (wr (x4 + 4)) ∧ (wr (x4 + 4)) < (n1 : Int)) (b7 : (0 : Int) ≤ (wr (x4 + 5)) ∧ (wr (x4 + 5)) < (n1 : Int)) (sh8 : tS τ r1 = (1, 11, 0)) (k1 : G (d - 1) 92 0 [vR r1, vI (tI τ r0 (wr (x4 + 1)).toNat), vI (tI τ r0 (wr (x4 + 2)).toNat), vI (tI τ r0 (wr (x4 + 3)).toNat), vI (tI τ r0 (wr (x4 + 4)).toNat), vI (tI τ r0 (wr (x4 + 5)).toNat)] [] τ (KC d 268 219 222 [vR r0, vR r1, vQ r2, vQ r3, vI x4, none, none] [] Q)) : G d 268 188 [vR r0, vR r1, vQ r2, vQ r3, vI x4, none, none] [] τ Q := by
  refine g_sk 5 (pc1 := 194) (st1 := [AI (wr (x4 + 1)), AR r0, AR r1]) rfl ?_
  refine g_iald rfl sh2 (by decide) b3.1 b3.2 ?_
  refine g_sk 4 (pc1 := 200) (st1 := [AI (wr (x4 + 2)), AR r0, AI (tI τ r0 (wr (x4 + 1)).toNat), AR r1]) rfl ?_
  refine g_iald rfl sh2 (by decide) b4.1 b4.2 ?_
  refine g_sk 4 (pc1 := 206) (st1 := [AI (wr (x4 + 3)), AR r0, AI (tI τ r0 (wr (x4 + 2)).toNat), AI (tI τ r0 (wr (x4 + 1)).toNat), AR r1]) rfl ?_
  refine g_iald rfl sh2 (by decide) b5.1 b5.2 ?_
  refine g_sk 4 (pc1 := 212) (st1 := [AI (wr (x4 + 4)), AR r0, AI (tI τ r0 (wr (x4 + 3)).toNat), AI (tI τ r0 (wr (x4 + 2)).toNat), AI (tI τ r0 (wr (x4 + 1)).toNat), AR r1]) rfl ?_
  refine g_iald rfl sh2 (by decide) b6.1 b6.2 ?_
  refine g_sk 4 (pc1 := 218) (st1 := [AI (wr (x4 + 5)), AR r0, AI (tI τ r0 (wr (x4 + 4)).toNat), AI (tI τ r0 (wr (x4 + 3)).toNat), AI (tI τ r0 (wr (x4 + 2)).toNat), AI (tI τ r0 (wr (x4 + 1)).toNat), AR r1]) rfl ?_
  refine g_iald rfl sh2 (by decide) b7.1 b7.2 ?_
  refine g_cv rfl rfl (by decide) rfl rfl (Nat.le_of_ble_eq_true rfl) (as2 := [AI (tI τ r0 (wr (x4 + 1)).toNat), AI (tI τ r0 (wr (x4 + 2)).toNat), AI (tI τ r0 (wr (x4 + 3)).toNat), AI (tI τ r0 (wr (x4 + 4)).toNat), AI (tI τ r0 (wr (x4 + 5)).toNat)]) rfl sh8 rfl (by omega) (L0 := [vR r1, vI (tI τ r0 (wr (x4 + 1)).toNat), vI (tI τ r0 (wr (x4 + 2)).toNat), vI (tI τ r0 (wr (x4 + 3)).toNat), vI (tI τ r0 (wr (x4 + 4)).toNat), vI (tI τ r0 (wr (x4 + 5)).toNat)]) rfl ?_
  exact k1

set_option maxRecDepth 8192 in
theorem t268_261 {d : Nat} {τ : T2} {Q : RS → T2 → Prop} {x4 : Int} {r0 r1 n1 : Nat} {r2 r3 : Option Nat} (hd : 1 ≤ d) (sh2 : tS τ r0 = (2, 100, n1)) (b3 : (0 : Int) ≤ (wr (x4 + 1)) ∧ (wr (x4 + 1)) < (n1 : Int)) (b4 : (0 : Int) ≤ (wr (x4 + 2)) ∧ (wr (x4 + 2)) < (n1 : Int)) (b5 : (0 : Int) ≤ (wr (x4 + 3)) ∧ (wr (x4 + 3)) < (n1 : Int)) (sh6 : tS τ r1 = (1, 11, 0)) (k1 : G (d - 1) 93 0 [vR r1, vI (tI τ r0 (wr (x4 + 1)).toNat), vI (tI τ r0 (wr (x4 + 2)).toNat), vI (tI τ r0 (wr (x4 + 3)).toNat), none, none] [] τ (KC d 268 280 283 [vR r0, vR r1, vQ r2, vQ r3, vI x4, none, none] [] Q)) : G d 268 261 [vR r0, vR r1, vQ r2, vQ r3, vI x4, none, none] [] τ Q := by
  refine g_sk 5 (pc1 := 267) (st1 := [AI (wr (x4 + 1)), AR r0, AR r1]) rfl ?_
  refine g_iald rfl sh2 (by decide) b3.1 b3.2 ?_
  refine g_sk 4 (pc1 := 273) (st1 := [AI (wr (x4 + 2)), AR r0, AI (tI τ r0 (wr (x4 + 1)).toNat), AR r1]) rfl ?_
  refine g_iald rfl sh2 (by decide) b4.1 b4.2 ?_
  refine g_sk 4 (pc1 := 279) (st1 := [AI (wr (x4 + 3)), AR r0, AI (tI τ r0 (wr (x4 + 2)).toNat), AI (tI τ r0 (wr (x4 + 1)).toNat), AR r1]) rfl ?_
  refine g_iald rfl sh2 (by decide) b5.1 b5.2 ?_
  refine g_cv rfl rfl (by decide) rfl rfl (Nat.le_of_ble_eq_true rfl) (as2 := [AI (tI τ r0 (wr (x4 + 1)).toNat), AI (tI τ r0 (wr (x4 + 2)).toNat), AI (tI τ r0 (wr (x4 + 3)).toNat)]) rfl sh6 rfl (by omega) (L0 := [vR r1, vI (tI τ r0 (wr (x4 + 1)).toNat), vI (tI τ r0 (wr (x4 + 2)).toNat), vI (tI τ r0 (wr (x4 + 3)).toNat), none, none]) rfl ?_
  exact k1

set_option maxRecDepth 8192 in
theorem t268_310 {d : Nat} {τ : T2} {Q : RS → T2 → Prop} {x4 : Int} {r0 r1 n1 : Nat} {r2 r3 : Option Nat} (hd : 1 ≤ d) (sh2 : tS τ r0 = (2, 100, n1)) (b3 : (0 : Int) ≤ (wr (x4 + 1)) ∧ (wr (x4 + 1)) < (n1 : Int)) (b4 : (0 : Int) ≤ (wr (x4 + 2)) ∧ (wr (x4 + 2)) < (n1 : Int)) (sh5 : tS τ r1 = (1, 11, 0)) (k1 : G (d - 1) 94 0 [vR r1, vI (tI τ r0 (wr (x4 + 1)).toNat), vI (tI τ r0 (wr (x4 + 2)).toNat)] [] τ (KC d 268 323 326 [vR r0, vR r1, vQ r2, vQ r3, vI x4, none, none] [] Q)) : G d 268 310 [vR r0, vR r1, vQ r2, vQ r3, vI x4, none, none] [] τ Q := by
  refine g_sk 5 (pc1 := 316) (st1 := [AI (wr (x4 + 1)), AR r0, AR r1]) rfl ?_
  refine g_iald rfl sh2 (by decide) b3.1 b3.2 ?_
  refine g_sk 4 (pc1 := 322) (st1 := [AI (wr (x4 + 2)), AR r0, AI (tI τ r0 (wr (x4 + 1)).toNat), AR r1]) rfl ?_
  refine g_iald rfl sh2 (by decide) b4.1 b4.2 ?_
  refine g_cv rfl rfl (by decide) rfl rfl (Nat.le_of_ble_eq_true rfl) (as2 := [AI (tI τ r0 (wr (x4 + 1)).toNat), AI (tI τ r0 (wr (x4 + 2)).toNat)]) rfl sh5 rfl (by omega) (L0 := [vR r1, vI (tI τ r0 (wr (x4 + 1)).toNat), vI (tI τ r0 (wr (x4 + 2)).toNat)]) rfl ?_
  exact k1

set_option maxRecDepth 8192 in
theorem t268_347 {d : Nat} {τ : T2} {Q : RS → T2 → Prop} {x4 : Int} {r0 r1 n1 : Nat} {r2 r3 : Option Nat} (hd : 1 ≤ d) (sh2 : tS τ r0 = (2, 100, n1)) (b3 : (0 : Int) ≤ (wr (x4 + 1)) ∧ (wr (x4 + 1)) < (n1 : Int)) (b4 : (0 : Int) ≤ (wr (x4 + 2)) ∧ (wr (x4 + 2)) < (n1 : Int)) (sh5 : tS τ r1 = (1, 11, 0)) (k1 : G (d - 1) 95 0 [vR r1, vI (tI τ r0 (wr (x4 + 1)).toNat), vI (tI τ r0 (wr (x4 + 2)).toNat)] [] τ (KC d 268 360 363 [vR r0, vR r1, vQ r2, vQ r3, vI x4, none, none] [] Q)) : G d 268 347 [vR r0, vR r1, vQ r2, vQ r3, vI x4, none, none] [] τ Q := by
  refine g_sk 5 (pc1 := 353) (st1 := [AI (wr (x4 + 1)), AR r0, AR r1]) rfl ?_
  refine g_iald rfl sh2 (by decide) b3.1 b3.2 ?_
  refine g_sk 4 (pc1 := 359) (st1 := [AI (wr (x4 + 2)), AR r0, AI (tI τ r0 (wr (x4 + 1)).toNat), AR r1]) rfl ?_
  refine g_iald rfl sh2 (by decide) b4.1 b4.2 ?_
  refine g_cv rfl rfl (by decide) rfl rfl (Nat.le_of_ble_eq_true rfl) (as2 := [AI (tI τ r0 (wr (x4 + 1)).toNat), AI (tI τ r0 (wr (x4 + 2)).toNat)]) rfl sh5 rfl (by omega) (L0 := [vR r1, vI (tI τ r0 (wr (x4 + 1)).toNat), vI (tI τ r0 (wr (x4 + 2)).toNat)]) rfl ?_
  exact k1

set_option maxRecDepth 8192 in
theorem t268_384 {d : Nat} {τ : T2} {Q : RS → T2 → Prop} {x4 : Int} {r0 r1 n1 : Nat} {r2 r3 : Option Nat} (hd : 1 ≤ d) (sh2 : tS τ r0 = (2, 100, n1)) (b3 : (0 : Int) ≤ (wr (x4 + 1)) ∧ (wr (x4 + 1)) < (n1 : Int)) (b4 : (0 : Int) ≤ (wr (x4 + 2)) ∧ (wr (x4 + 2)) < (n1 : Int)) (sh5 : tS τ r1 = (1, 11, 0)) (k1 : G (d - 1) 96 0 [vR r1, vI (tI τ r0 (wr (x4 + 1)).toNat), vI (tI τ r0 (wr (x4 + 2)).toNat)] [] τ (KC d 268 397 400 [vR r0, vR r1, vQ r2, vQ r3, vI x4, none, none] [] Q)) : G d 268 384 [vR r0, vR r1, vQ r2, vQ r3, vI x4, none, none] [] τ Q := by
  refine g_sk 5 (pc1 := 390) (st1 := [AI (wr (x4 + 1)), AR r0, AR r1]) rfl ?_
  refine g_iald rfl sh2 (by decide) b3.1 b3.2 ?_
  refine g_sk 4 (pc1 := 396) (st1 := [AI (wr (x4 + 2)), AR r0, AI (tI τ r0 (wr (x4 + 1)).toNat), AR r1]) rfl ?_
  refine g_iald rfl sh2 (by decide) b4.1 b4.2 ?_
  refine g_cv rfl rfl (by decide) rfl rfl (Nat.le_of_ble_eq_true rfl) (as2 := [AI (tI τ r0 (wr (x4 + 1)).toNat), AI (tI τ r0 (wr (x4 + 2)).toNat)]) rfl sh5 rfl (by omega) (L0 := [vR r1, vI (tI τ r0 (wr (x4 + 1)).toNat), vI (tI τ r0 (wr (x4 + 2)).toNat)]) rfl ?_
  exact k1

set_option maxRecDepth 8192 in
theorem t268_421 {d : Nat} {τ : T2} {Q : RS → T2 → Prop} {x4 : Int} {r0 r1 n1 : Nat} {r2 r3 : Option Nat} (hd : 1 ≤ d) (sh2 : tS τ r0 = (2, 100, n1)) (b3 : (0 : Int) ≤ (wr (x4 + 1)) ∧ (wr (x4 + 1)) < (n1 : Int)) (b4 : (0 : Int) ≤ (wr (x4 + 2)) ∧ (wr (x4 + 2)) < (n1 : Int)) (b5 : (0 : Int) ≤ (wr (x4 + 3)) ∧ (wr (x4 + 3)) < (n1 : Int)) (sh6 : tS τ r1 = (1, 11, 0)) (k1 : G (d - 1) 97 0 [vR r1, vI (tI τ r0 (wr (x4 + 1)).toNat), vI (tI τ r0 (wr (x4 + 2)).toNat), vI (tI τ r0 (wr (x4 + 3)).toNat), none] [] τ (KC d 268 440 443 [vR r0, vR r1, vQ r2, vQ r3, vI x4, none, none] [] Q)) : G d 268 421 [vR r0, vR r1, vQ r2, vQ r3, vI x4, none, none] [] τ Q := by
  refine g_sk 5 (pc1 := 427) (st1 := [AI (wr (x4 + 1)), AR r0, AR r1]) rfl ?_
  refine g_iald rfl sh2 (by decide) b3.1 b3.2 ?_
  refine g_sk 4 (pc1 := 433) (st1 := [AI (wr (x4 + 2)), AR r0, AI (tI τ r0 (wr (x4 + 1)).toNat), AR r1]) rfl ?_
  refine g_iald rfl sh2 (by decide) b4.1 b4.2 ?_
  refine g_sk 4 (pc1 := 439) (st1 := [AI (wr (x4 + 3)), AR r0, AI (tI τ r0 (wr (x4 + 2)).toNat), AI (tI τ r0 (wr (x4 + 1)).toNat), AR r1]) rfl ?_
  refine g_iald rfl sh2 (by decide) b5.1 b5.2 ?_
  refine g_cv rfl rfl (by decide) rfl rfl (Nat.le_of_ble_eq_true rfl) (as2 := [AI (tI τ r0 (wr (x4 + 1)).toNat), AI (tI τ r0 (wr (x4 + 2)).toNat), AI (tI τ r0 (wr (x4 + 3)).toNat)]) rfl sh6 rfl (by omega) (L0 := [vR r1, vI (tI τ r0 (wr (x4 + 1)).toNat), vI (tI τ r0 (wr (x4 + 2)).toNat), vI (tI τ r0 (wr (x4 + 3)).toNat), none]) rfl ?_
  exact k1

set_option maxRecDepth 8192 in
theorem t268_470 {d : Nat} {τ : T2} {Q : RS → T2 → Prop} {x4 : Int} {r0 r1 n1 : Nat} {r2 r3 : Option Nat} (hd : 1 ≤ d) (sh2 : tS τ r0 = (2, 100, n1)) (b3 : (0 : Int) ≤ (wr (x4 + 1)) ∧ (wr (x4 + 1)) < (n1 : Int)) (b4 : (0 : Int) ≤ (wr (x4 + 2)) ∧ (wr (x4 + 2)) < (n1 : Int)) (b5 : (0 : Int) ≤ (wr (x4 + 3)) ∧ (wr (x4 + 3)) < (n1 : Int)) (sh6 : tS τ r1 = (1, 11, 0)) (k1 : G (d - 1) 98 0 [vR r1, vI (tI τ r0 (wr (x4 + 1)).toNat), vI (tI τ r0 (wr (x4 + 2)).toNat), vI (tI τ r0 (wr (x4 + 3)).toNat), none] [] τ (KC d 268 489 492 [vR r0, vR r1, vQ r2, vQ r3, vI x4, none, none] [] Q)) : G d 268 470 [vR r0, vR r1, vQ r2, vQ r3, vI x4, none, none] [] τ Q := by
  refine g_sk 5 (pc1 := 476) (st1 := [AI (wr (x4 + 1)), AR r0, AR r1]) rfl ?_
  refine g_iald rfl sh2 (by decide) b3.1 b3.2 ?_
  refine g_sk 4 (pc1 := 482) (st1 := [AI (wr (x4 + 2)), AR r0, AI (tI τ r0 (wr (x4 + 1)).toNat), AR r1]) rfl ?_
  refine g_iald rfl sh2 (by decide) b4.1 b4.2 ?_
  refine g_sk 4 (pc1 := 488) (st1 := [AI (wr (x4 + 3)), AR r0, AI (tI τ r0 (wr (x4 + 2)).toNat), AI (tI τ r0 (wr (x4 + 1)).toNat), AR r1]) rfl ?_
  refine g_iald rfl sh2 (by decide) b5.1 b5.2 ?_
  refine g_cv rfl rfl (by decide) rfl rfl (Nat.le_of_ble_eq_true rfl) (as2 := [AI (tI τ r0 (wr (x4 + 1)).toNat), AI (tI τ r0 (wr (x4 + 2)).toNat), AI (tI τ r0 (wr (x4 + 3)).toNat)]) rfl sh6 rfl (by omega) (L0 := [vR r1, vI (tI τ r0 (wr (x4 + 1)).toNat), vI (tI τ r0 (wr (x4 + 2)).toNat), vI (tI τ r0 (wr (x4 + 3)).toNat), none]) rfl ?_
  exact k1

set_option maxRecDepth 8192 in
theorem t268_519 {d : Nat} {τ : T2} {Q : RS → T2 → Prop} {x4 : Int} {r1 : Nat} {r0 r2 r3 : Option Nat} (hd : 1 ≤ d) (sh1 : tS τ r1 = (1, 11, 0)) (k1 : G (d - 1) 99 0 [vR r1] [] τ (KC d 268 520 523 [vQ r0, vR r1, vQ r2, vQ r3, vI x4, none, none] [] Q)) : G d 268 519 [vQ r0, vR r1, vQ r2, vQ r3, vI x4, none, none] [] τ Q := by
  refine g_sk 1 (pc1 := 520) (st1 := [AR r1]) rfl ?_
  refine g_cv rfl rfl (by decide) rfl rfl (Nat.le_of_ble_eq_true rfl) (as2 := []) rfl sh1 rfl (by omega) (L0 := [vR r1]) rfl ?_
  exact k1

set_option maxRecDepth 8192 in
theorem t268_532 {d : Nat} {τ : T2} {Q : RS → T2 → Prop} {x4 : Int} {r1 : Nat} {r0 r2 r3 : Option Nat} (hd : 1 ≤ d) (sh1 : tS τ r1 = (1, 11, 0)) (k1 : G (d - 1) 100 0 [vR r1] [] τ (KC d 268 533 536 [vQ r0, vR r1, vQ r2, vQ r3, vI x4, none, none] [] Q)) : G d 268 532 [vQ r0, vR r1, vQ r2, vQ r3, vI x4, none, none] [] τ Q := by
  refine g_sk 1 (pc1 := 533) (st1 := [AR r1]) rfl ?_
  refine g_cv rfl rfl (by decide) rfl rfl (Nat.le_of_ble_eq_true rfl) (as2 := []) rfl sh1 rfl (by omega) (L0 := [vR r1]) rfl ?_
  exact k1

set_option maxRecDepth 8192 in
theorem t268_545 {d : Nat} {τ : T2} {Q : RS → T2 → Prop} {x4 : Int} {r0 r1 n1 : Nat} {r2 r3 : Option Nat} (hd : 1 ≤ d) (sh2 : tS τ r0 = (2, 100, n1)) (b3 : (0 : Int) ≤ (wr (x4 + 1)) ∧ (wr (x4 + 1)) < (n1 : Int)) (b4 : (0 : Int) ≤ (wr (x4 + 2)) ∧ (wr (x4 + 2)) < (n1 : Int)) (sh5 : tS τ r1 = (1, 11, 0)) (k1 : G (d - 1) 101 0 [vR r1, vI (tI τ r0 (wr (x4 + 1)).toNat), vI (tI τ r0 (wr (x4 + 2)).toNat), none] [] τ (KC d 268 558 561 [vR r0, vR r1, vQ r2, vQ r3, vI x4, none, none] [] Q)) : G d 268 545 [vR r0, vR r1, vQ r2, vQ r3, vI x4, none, none] [] τ Q := by
  refine g_sk 5 (pc1 := 551) (st1 := [AI (wr (x4 + 1)), AR r0, AR r1]) rfl ?_
  refine g_iald rfl sh2 (by decide) b3.1 b3.2 ?_
  refine g_sk 4 (pc1 := 557) (st1 := [AI (wr (x4 + 2)), AR r0, AI (tI τ r0 (wr (x4 + 1)).toNat), AR r1]) rfl ?_
  refine g_iald rfl sh2 (by decide) b4.1 b4.2 ?_
  refine g_cv rfl rfl (by decide) rfl rfl (Nat.le_of_ble_eq_true rfl) (as2 := [AI (tI τ r0 (wr (x4 + 1)).toNat), AI (tI τ r0 (wr (x4 + 2)).toNat)]) rfl sh5 rfl (by omega) (L0 := [vR r1, vI (tI τ r0 (wr (x4 + 1)).toNat), vI (tI τ r0 (wr (x4 + 2)).toNat), none]) rfl ?_
  exact k1

set_option maxRecDepth 8192 in
theorem t268_582 {d : Nat} {τ : T2} {Q : RS → T2 → Prop} {x4 : Int} {r0 r1 n1 : Nat} {r2 r3 : Option Nat} (hd : 1 ≤ d) (sh2 : tS τ r0 = (2, 100, n1)) (b3 : (0 : Int) ≤ (wr (x4 + 1)) ∧ (wr (x4 + 1)) < (n1 : Int)) (b4 : (0 : Int) ≤ (wr (x4 + 2)) ∧ (wr (x4 + 2)) < (n1 : Int)) (sh5 : tS τ r1 = (1, 11, 0)) (k1 : G (d - 1) 102 0 [vR r1, vI (tI τ r0 (wr (x4 + 1)).toNat), vI (tI τ r0 (wr (x4 + 2)).toNat)] [] τ (KC d 268 595 598 [vR r0, vR r1, vQ r2, vQ r3, vI x4, none, none] [] Q)) : G d 268 582 [vR r0, vR r1, vQ r2, vQ r3, vI x4, none, none] [] τ Q := by
  refine g_sk 5 (pc1 := 588) (st1 := [AI (wr (x4 + 1)), AR r0, AR r1]) rfl ?_
  refine g_iald rfl sh2 (by decide) b3.1 b3.2 ?_
  refine g_sk 4 (pc1 := 594) (st1 := [AI (wr (x4 + 2)), AR r0, AI (tI τ r0 (wr (x4 + 1)).toNat), AR r1]) rfl ?_
  refine g_iald rfl sh2 (by decide) b4.1 b4.2 ?_
  refine g_cv rfl rfl (by decide) rfl rfl (Nat.le_of_ble_eq_true rfl) (as2 := [AI (tI τ r0 (wr (x4 + 1)).toNat), AI (tI τ r0 (wr (x4 + 2)).toNat)]) rfl sh5 rfl (by omega) (L0 := [vR r1, vI (tI τ r0 (wr (x4 + 1)).toNat), vI (tI τ r0 (wr (x4 + 2)).toNat)]) rfl ?_
  exact k1

set_option maxRecDepth 8192 in
theorem t268_619 {d : Nat} {τ : T2} {Q : RS → T2 → Prop} {x4 : Int} {r0 r1 n1 : Nat} {r2 r3 : Option Nat} (hd : 1 ≤ d) (sh2 : tS τ r0 = (2, 100, n1)) (b3 : (0 : Int) ≤ (wr (x4 + 1)) ∧ (wr (x4 + 1)) < (n1 : Int)) (b4 : (0 : Int) ≤ (wr (x4 + 2)) ∧ (wr (x4 + 2)) < (n1 : Int)) (sh5 : tS τ r1 = (1, 11, 0)) (k1 : G (d - 1) 103 0 [vR r1, vI (tI τ r0 (wr (x4 + 1)).toNat), vI (tI τ r0 (wr (x4 + 2)).toNat)] [] τ (KC d 268 632 635 [vR r0, vR r1, vQ r2, vQ r3, vI x4, none, none] [] Q)) : G d 268 619 [vR r0, vR r1, vQ r2, vQ r3, vI x4, none, none] [] τ Q := by
  refine g_sk 5 (pc1 := 625) (st1 := [AI (wr (x4 + 1)), AR r0, AR r1]) rfl ?_
  refine g_iald rfl sh2 (by decide) b3.1 b3.2 ?_
  refine g_sk 4 (pc1 := 631) (st1 := [AI (wr (x4 + 2)), AR r0, AI (tI τ r0 (wr (x4 + 1)).toNat), AR r1]) rfl ?_
  refine g_iald rfl sh2 (by decide) b4.1 b4.2 ?_
  refine g_cv rfl rfl (by decide) rfl rfl (Nat.le_of_ble_eq_true rfl) (as2 := [AI (tI τ r0 (wr (x4 + 1)).toNat), AI (tI τ r0 (wr (x4 + 2)).toNat)]) rfl sh5 rfl (by omega) (L0 := [vR r1, vI (tI τ r0 (wr (x4 + 1)).toNat), vI (tI τ r0 (wr (x4 + 2)).toNat)]) rfl ?_
  exact k1

set_option maxRecDepth 8192 in
theorem t268_656 {d : Nat} {τ : T2} {Q : RS → T2 → Prop} {x4 : Int} {r0 r1 n1 : Nat} {r2 r3 : Option Nat} (hd : 1 ≤ d) (sh2 : tS τ r0 = (2, 100, n1)) (b3 : (0 : Int) ≤ (wr (x4 + 1)) ∧ (wr (x4 + 1)) < (n1 : Int)) (sh4 : tS τ r1 = (1, 11, 0)) (k1 : G (d - 1) 104 0 [vR r1, vI (tI τ r0 (wr (x4 + 1)).toNat)] [] τ (KC d 268 663 666 [vR r0, vR r1, vQ r2, vQ r3, vI x4, none, none] [] Q)) : G d 268 656 [vR r0, vR r1, vQ r2, vQ r3, vI x4, none, none] [] τ Q := by
  refine g_sk 5 (pc1 := 662) (st1 := [AI (wr (x4 + 1)), AR r0, AR r1]) rfl ?_
  refine g_iald rfl sh2 (by decide) b3.1 b3.2 ?_
  refine g_cv rfl rfl (by decide) rfl rfl (Nat.le_of_ble_eq_true rfl) (as2 := [AI (tI τ r0 (wr (x4 + 1)).toNat)]) rfl sh4 rfl (by omega) (L0 := [vR r1, vI (tI τ r0 (wr (x4 + 1)).toNat)]) rfl ?_
  exact k1

set_option maxRecDepth 8192 in
theorem t268_681 {d : Nat} {τ : T2} {Q : RS → T2 → Prop} {x4 : Int} {r0 r1 n1 : Nat} {r2 r3 : Option Nat} (hd : 1 ≤ d) (sh2 : tS τ r0 = (2, 100, n1)) (b3 : (0 : Int) ≤ (wr (x4 + 1)) ∧ (wr (x4 + 1)) < (n1 : Int)) (sh4 : tS τ r1 = (1, 11, 0)) (k1 : G (d - 1) 105 0 [vR r1, vI (tI τ r0 (wr (x4 + 1)).toNat), none, none] [] τ (KC d 268 688 691 [vR r0, vR r1, vQ r2, vQ r3, vI x4, none, none] [] Q)) : G d 268 681 [vR r0, vR r1, vQ r2, vQ r3, vI x4, none, none] [] τ Q := by
  refine g_sk 5 (pc1 := 687) (st1 := [AI (wr (x4 + 1)), AR r0, AR r1]) rfl ?_
  refine g_iald rfl sh2 (by decide) b3.1 b3.2 ?_
  refine g_cv rfl rfl (by decide) rfl rfl (Nat.le_of_ble_eq_true rfl) (as2 := [AI (tI τ r0 (wr (x4 + 1)).toNat)]) rfl sh4 rfl (by omega) (L0 := [vR r1, vI (tI τ r0 (wr (x4 + 1)).toNat), none, none]) rfl ?_
  exact k1

set_option maxRecDepth 8192 in
theorem t268_706 {d : Nat} {τ : T2} {Q : RS → T2 → Prop} {x4 : Int} {r0 r1 n1 : Nat} {r2 r3 : Option Nat} (hd : 1 ≤ d) (sh2 : tS τ r0 = (2, 100, n1)) (b3 : (0 : Int) ≤ (wr (x4 + 1)) ∧ (wr (x4 + 1)) < (n1 : Int)) (b4 : (0 : Int) ≤ (wr (x4 + 2)) ∧ (wr (x4 + 2)) < (n1 : Int)) (sh5 : tS τ r1 = (1, 11, 0)) (k1 : G (d - 1) 106 0 [vR r1, vI (tI τ r0 (wr (x4 + 1)).toNat), vI (tI τ r0 (wr (x4 + 2)).toNat), none] [] τ (KC d 268 719 722 [vR r0, vR r1, vQ r2, vQ r3, vI x4, none, none] [] Q)) : G d 268 706 [vR r0, vR r1, vQ r2, vQ r3, vI x4, none, none] [] τ Q := by
  refine g_sk 5 (pc1 := 712) (st1 := [AI (wr (x4 + 1)), AR r0, AR r1]) rfl ?_
  refine g_iald rfl sh2 (by decide) b3.1 b3.2 ?_
  refine g_sk 4 (pc1 := 718) (st1 := [AI (wr (x4 + 2)), AR r0, AI (tI τ r0 (wr (x4 + 1)).toNat), AR r1]) rfl ?_
  refine g_iald rfl sh2 (by decide) b4.1 b4.2 ?_
  refine g_cv rfl rfl (by decide) rfl rfl (Nat.le_of_ble_eq_true rfl) (as2 := [AI (tI τ r0 (wr (x4 + 1)).toNat), AI (tI τ r0 (wr (x4 + 2)).toNat)]) rfl sh5 rfl (by omega) (L0 := [vR r1, vI (tI τ r0 (wr (x4 + 1)).toNat), vI (tI τ r0 (wr (x4 + 2)).toNat), none]) rfl ?_
  exact k1

set_option maxRecDepth 8192 in
theorem t268_743 {d : Nat} {τ : T2} {Q : RS → T2 → Prop} {x4 : Int} {r0 r1 n1 : Nat} {r2 r3 : Option Nat} (hd : 1 ≤ d) (sh2 : tS τ r0 = (2, 100, n1)) (b3 : (0 : Int) ≤ (wr (x4 + 1)) ∧ (wr (x4 + 1)) < (n1 : Int)) (b4 : (0 : Int) ≤ (wr (x4 + 2)) ∧ (wr (x4 + 2)) < (n1 : Int)) (sh5 : tS τ r1 = (1, 11, 0)) (k1 : G (d - 1) 107 0 [vR r1, vI (tI τ r0 (wr (x4 + 1)).toNat), vI (tI τ r0 (wr (x4 + 2)).toNat)] [] τ (KC d 268 756 759 [vR r0, vR r1, vQ r2, vQ r3, vI x4, none, none] [] Q)) : G d 268 743 [vR r0, vR r1, vQ r2, vQ r3, vI x4, none, none] [] τ Q := by
  refine g_sk 5 (pc1 := 749) (st1 := [AI (wr (x4 + 1)), AR r0, AR r1]) rfl ?_
  refine g_iald rfl sh2 (by decide) b3.1 b3.2 ?_
  refine g_sk 4 (pc1 := 755) (st1 := [AI (wr (x4 + 2)), AR r0, AI (tI τ r0 (wr (x4 + 1)).toNat), AR r1]) rfl ?_
  refine g_iald rfl sh2 (by decide) b4.1 b4.2 ?_
  refine g_cv rfl rfl (by decide) rfl rfl (Nat.le_of_ble_eq_true rfl) (as2 := [AI (tI τ r0 (wr (x4 + 1)).toNat), AI (tI τ r0 (wr (x4 + 2)).toNat)]) rfl sh5 rfl (by omega) (L0 := [vR r1, vI (tI τ r0 (wr (x4 + 1)).toNat), vI (tI τ r0 (wr (x4 + 2)).toNat)]) rfl ?_
  exact k1

set_option maxRecDepth 8192 in
theorem t268_780 {d : Nat} {τ : T2} {Q : RS → T2 → Prop} {x4 : Int} {r0 n1 : Nat} {r1 r2 r3 : Option Nat} (hd : 1 ≤ d) (sh2 : tS τ r0 = (2, 100, n1)) (b3 : (0 : Int) ≤ (wr (x4 + 1)) ∧ (wr (x4 + 1)) < (n1 : Int)) (k1 : G (d - 1) 267 0 [vQ r1, vI (tI τ r0 (wr (x4 + 1)).toNat), vQ r3, none] [] τ (KC d 268 788 791 [vR r0, vQ r1, vQ r2, vQ r3, vI x4, none, none] [] Q)) : G d 268 780 [vR r0, vQ r1, vQ r2, vQ r3, vI x4, none, none] [] τ Q := by
  refine g_sk 5 (pc1 := 786) (st1 := [AI (wr (x4 + 1)), AR r0, AP r1]) rfl ?_
  refine g_iald rfl sh2 (by decide) b3.1 b3.2 ?_
  refine g_sk 1 (pc1 := 788) (st1 := [AP r3, AI (tI τ r0 (wr (x4 + 1)).toNat), AP r1]) rfl ?_
  refine g_cs rfl rfl (by decide) rfl rfl (Nat.le_of_ble_eq_true rfl) rfl (by omega) (L0 := [vQ r1, vI (tI τ r0 (wr (x4 + 1)).toNat), vQ r3, none]) rfl ?_
  exact k1

set_option maxRecDepth 8192 in
theorem t268_836 {d : Nat} {τ : T2} {Q : RS → T2 → Prop} {x4 : Int} {r0 r1 n1 : Nat} {r2 r3 : Option Nat} (hd : 1 ≤ d) (sh2 : tS τ r0 = (2, 100, n1)) (b3 : (0 : Int) ≤ (wr (x4 + 1)) ∧ (wr (x4 + 1)) < (n1 : Int)) (sh4 : tS τ r1 = (1, 11, 0)) (k1 : G (d - 1) 109 0 [vR r1, vI (tI τ r0 (wr (x4 + 1)).toNat)] [] τ (KC d 268 843 846 [vR r0, vR r1, vQ r2, vQ r3, vI x4, none, none] [] Q)) : G d 268 836 [vR r0, vR r1, vQ r2, vQ r3, vI x4, none, none] [] τ Q := by
  refine g_sk 5 (pc1 := 842) (st1 := [AI (wr (x4 + 1)), AR r0, AR r1]) rfl ?_
  refine g_iald rfl sh2 (by decide) b3.1 b3.2 ?_
  refine g_cv rfl rfl (by decide) rfl rfl (Nat.le_of_ble_eq_true rfl) (as2 := [AI (tI τ r0 (wr (x4 + 1)).toNat)]) rfl sh4 rfl (by omega) (L0 := [vR r1, vI (tI τ r0 (wr (x4 + 1)).toNat)]) rfl ?_
  exact k1

set_option maxRecDepth 8192 in
theorem t268_861 {d : Nat} {τ : T2} {Q : RS → T2 → Prop} {x4 : Int} {r1 : Nat} {r0 r2 r3 : Option Nat} (hd : 1 ≤ d) (sh1 : tS τ r1 = (1, 11, 0)) (k1 : G (d - 1) 110 0 [vR r1, none] [] τ (KC d 268 862 865 [vQ r0, vR r1, vQ r2, vQ r3, vI x4, none, none] [] Q)) : G d 268 861 [vQ r0, vR r1, vQ r2, vQ r3, vI x4, none, none] [] τ Q := by
  refine g_sk 1 (pc1 := 862) (st1 := [AR r1]) rfl ?_
  refine g_cv rfl rfl (by decide) rfl rfl (Nat.le_of_ble_eq_true rfl) (as2 := []) rfl sh1 rfl (by omega) (L0 := [vR r1, none]) rfl ?_
  exact k1

set_option maxRecDepth 8192 in
theorem t268_874 {d : Nat} {τ : T2} {Q : RS → T2 → Prop} {x4 : Int} {r0 r1 n1 : Nat} {r2 r3 : Option Nat} (hd : 1 ≤ d) (sh2 : tS τ r0 = (2, 100, n1)) (b3 : (0 : Int) ≤ (wr (x4 + 1)) ∧ (wr (x4 + 1)) < (n1 : Int)) (sh4 : tS τ r1 = (1, 11, 0)) (k1 : G (d - 1) 111 0 [vR r1, vI (tI τ r0 (wr (x4 + 1)).toNat)] [] τ (KC d 268 881 884 [vR r0, vR r1, vQ r2, vQ r3, vI x4, none, none] [] Q)) : G d 268 874 [vR r0, vR r1, vQ r2, vQ r3, vI x4, none, none] [] τ Q := by
  refine g_sk 5 (pc1 := 880) (st1 := [AI (wr (x4 + 1)), AR r0, AR r1]) rfl ?_
  refine g_iald rfl sh2 (by decide) b3.1 b3.2 ?_
  refine g_cv rfl rfl (by decide) rfl rfl (Nat.le_of_ble_eq_true rfl) (as2 := [AI (tI τ r0 (wr (x4 + 1)).toNat)]) rfl sh4 rfl (by omega) (L0 := [vR r1, vI (tI τ r0 (wr (x4 + 1)).toNat)]) rfl ?_
  exact k1

set_option maxRecDepth 8192 in
theorem t268_899 {d : Nat} {τ : T2} {Q : RS → T2 → Prop} {x4 : Int} {r0 r1 n1 : Nat} {r2 r3 : Option Nat} (hd : 1 ≤ d) (sh2 : tS τ r0 = (2, 100, n1)) (b3 : (0 : Int) ≤ (wr (x4 + 1)) ∧ (wr (x4 + 1)) < (n1 : Int)) (b4 : (0 : Int) ≤ (wr (x4 + 2)) ∧ (wr (x4 + 2)) < (n1 : Int)) (sh5 : tS τ r1 = (1, 11, 0)) (k1 : G (d - 1) 112 0 [vR r1, vI (tI τ r0 (wr (x4 + 1)).toNat), vI (tI τ r0 (wr (x4 + 2)).toNat)] [] τ (KC d 268 912 915 [vR r0, vR r1, vQ r2, vQ r3, vI x4, none, none] [] Q)) : G d 268 899 [vR r0, vR r1, vQ r2, vQ r3, vI x4, none, none] [] τ Q := by
  refine g_sk 5 (pc1 := 905) (st1 := [AI (wr (x4 + 1)), AR r0, AR r1]) rfl ?_
  refine g_iald rfl sh2 (by decide) b3.1 b3.2 ?_
  refine g_sk 4 (pc1 := 911) (st1 := [AI (wr (x4 + 2)), AR r0, AI (tI τ r0 (wr (x4 + 1)).toNat), AR r1]) rfl ?_
  refine g_iald rfl sh2 (by decide) b4.1 b4.2 ?_
  refine g_cv rfl rfl (by decide) rfl rfl (Nat.le_of_ble_eq_true rfl) (as2 := [AI (tI τ r0 (wr (x4 + 1)).toNat), AI (tI τ r0 (wr (x4 + 2)).toNat)]) rfl sh5 rfl (by omega) (L0 := [vR r1, vI (tI τ r0 (wr (x4 + 1)).toNat), vI (tI τ r0 (wr (x4 + 2)).toNat)]) rfl ?_
  exact k1

set_option maxRecDepth 8192 in
theorem t268_936 {d : Nat} {τ : T2} {Q : RS → T2 → Prop} {x4 : Int} {r0 r1 n1 : Nat} {r2 r3 : Option Nat} (hd : 1 ≤ d) (sh2 : tS τ r0 = (2, 100, n1)) (b3 : (0 : Int) ≤ (wr (x4 + 1)) ∧ (wr (x4 + 1)) < (n1 : Int)) (b4 : (0 : Int) ≤ (wr (x4 + 2)) ∧ (wr (x4 + 2)) < (n1 : Int)) (b5 : (0 : Int) ≤ (wr (x4 + 3)) ∧ (wr (x4 + 3)) < (n1 : Int)) (sh6 : tS τ r1 = (1, 11, 0)) (k1 : G (d - 1) 113 0 [vR r1, vI (tI τ r0 (wr (x4 + 1)).toNat), vI (tI τ r0 (wr (x4 + 2)).toNat), vI (tI τ r0 (wr (x4 + 3)).toNat), none, none] [] τ (KC d 268 955 958 [vR r0, vR r1, vQ r2, vQ r3, vI x4, none, none] [] Q)) : G d 268 936 [vR r0, vR r1, vQ r2, vQ r3, vI x4, none, none] [] τ Q := by
  refine g_sk 5 (pc1 := 942) (st1 := [AI (wr (x4 + 1)), AR r0, AR r1]) rfl ?_
  refine g_iald rfl sh2 (by decide) b3.1 b3.2 ?_
  refine g_sk 4 (pc1 := 948) (st1 := [AI (wr (x4 + 2)), AR r0, AI (tI τ r0 (wr (x4 + 1)).toNat), AR r1]) rfl ?_
  refine g_iald rfl sh2 (by decide) b4.1 b4.2 ?_
  refine g_sk 4 (pc1 := 954) (st1 := [AI (wr (x4 + 3)), AR r0, AI (tI τ r0 (wr (x4 + 2)).toNat), AI (tI τ r0 (wr (x4 + 1)).toNat), AR r1]) rfl ?_
  refine g_iald rfl sh2 (by decide) b5.1 b5.2 ?_
  refine g_cv rfl rfl (by decide) rfl rfl (Nat.le_of_ble_eq_true rfl) (as2 := [AI (tI τ r0 (wr (x4 + 1)).toNat), AI (tI τ r0 (wr (x4 + 2)).toNat), AI (tI τ r0 (wr (x4 + 3)).toNat)]) rfl sh6 rfl (by omega) (L0 := [vR r1, vI (tI τ r0 (wr (x4 + 1)).toNat), vI (tI τ r0 (wr (x4 + 2)).toNat), vI (tI τ r0 (wr (x4 + 3)).toNat), none, none]) rfl ?_
  exact k1

set_option maxRecDepth 8192 in
theorem t268_985 {d : Nat} {τ : T2} {Q : RS → T2 → Prop} {x4 : Int} {r0 r1 n1 : Nat} {r2 r3 : Option Nat} (hd : 1 ≤ d) (sh2 : tS τ r0 = (2, 100, n1)) (b3 : (0 : Int) ≤ (wr (x4 + 1)) ∧ (wr (x4 + 1)) < (n1 : Int)) (b4 : (0 : Int) ≤ (wr (x4 + 2)) ∧ (wr (x4 + 2)) < (n1 : Int)) (sh5 : tS τ r1 = (1, 11, 0)) (k1 : G (d - 1) 114 0 [vR r1, vI (tI τ r0 (wr (x4 + 1)).toNat), vI (tI τ r0 (wr (x4 + 2)).toNat), none, none, none] [] τ (KC d 268 998 1001 [vR r0, vR r1, vQ r2, vQ r3, vI x4, none, none] [] Q)) : G d 268 985 [vR r0, vR r1, vQ r2, vQ r3, vI x4, none, none] [] τ Q := by
  refine g_sk 5 (pc1 := 991) (st1 := [AI (wr (x4 + 1)), AR r0, AR r1]) rfl ?_
  refine g_iald rfl sh2 (by decide) b3.1 b3.2 ?_
  refine g_sk 4 (pc1 := 997) (st1 := [AI (wr (x4 + 2)), AR r0, AI (tI τ r0 (wr (x4 + 1)).toNat), AR r1]) rfl ?_
  refine g_iald rfl sh2 (by decide) b4.1 b4.2 ?_
  refine g_cv rfl rfl (by decide) rfl rfl (Nat.le_of_ble_eq_true rfl) (as2 := [AI (tI τ r0 (wr (x4 + 1)).toNat), AI (tI τ r0 (wr (x4 + 2)).toNat)]) rfl sh5 rfl (by omega) (L0 := [vR r1, vI (tI τ r0 (wr (x4 + 1)).toNat), vI (tI τ r0 (wr (x4 + 2)).toNat), none, none, none]) rfl ?_
  exact k1

set_option maxRecDepth 8192 in
theorem t268_1022 {d : Nat} {τ : T2} {Q : RS → T2 → Prop} {x4 : Int} {r0 r1 n1 : Nat} {r2 r3 : Option Nat} (hd : 1 ≤ d) (sh2 : tS τ r0 = (2, 100, n1)) (b3 : (0 : Int) ≤ (wr (x4 + 1)) ∧ (wr (x4 + 1)) < (n1 : Int)) (b4 : (0 : Int) ≤ (wr (x4 + 2)) ∧ (wr (x4 + 2)) < (n1 : Int)) (sh5 : tS τ r1 = (1, 11, 0)) (k1 : G (d - 1) 115 0 [vR r1, vI (tI τ r0 (wr (x4 + 1)).toNat), vI (tI τ r0 (wr (x4 + 2)).toNat), none] [] τ (KC d 268 1035 1038 [vR r0, vR r1, vQ r2, vQ r3, vI x4, none, none] [] Q)) : G d 268 1022 [vR r0, vR r1, vQ r2, vQ r3, vI x4, none, none] [] τ Q := by
  refine g_sk 5 (pc1 := 1028) (st1 := [AI (wr (x4 + 1)), AR r0, AR r1]) rfl ?_
  refine g_iald rfl sh2 (by decide) b3.1 b3.2 ?_
  refine g_sk 4 (pc1 := 1034) (st1 := [AI (wr (x4 + 2)), AR r0, AI (tI τ r0 (wr (x4 + 1)).toNat), AR r1]) rfl ?_
  refine g_iald rfl sh2 (by decide) b4.1 b4.2 ?_
  refine g_cv rfl rfl (by decide) rfl rfl (Nat.le_of_ble_eq_true rfl) (as2 := [AI (tI τ r0 (wr (x4 + 1)).toNat), AI (tI τ r0 (wr (x4 + 2)).toNat)]) rfl sh5 rfl (by omega) (L0 := [vR r1, vI (tI τ r0 (wr (x4 + 1)).toNat), vI (tI τ r0 (wr (x4 + 2)).toNat), none]) rfl ?_
  exact k1

set_option maxRecDepth 8192 in
theorem t268_1059 {d : Nat} {τ : T2} {Q : RS → T2 → Prop} {x4 : Int} {r0 r1 n1 : Nat} {r2 r3 : Option Nat} (hd : 1 ≤ d) (sh2 : tS τ r0 = (2, 100, n1)) (b3 : (0 : Int) ≤ (wr (x4 + 1)) ∧ (wr (x4 + 1)) < (n1 : Int)) (b4 : (0 : Int) ≤ (wr (x4 + 2)) ∧ (wr (x4 + 2)) < (n1 : Int)) (b5 : (0 : Int) ≤ (wr (x4 + 3)) ∧ (wr (x4 + 3)) < (n1 : Int)) (sh6 : tS τ r1 = (1, 11, 0)) (k1 : G (d - 1) 116 0 [vR r1, vI (tI τ r0 (wr (x4 + 1)).toNat), vI (tI τ r0 (wr (x4 + 2)).toNat), vI (tI τ r0 (wr (x4 + 3)).toNat), none] [] τ (KC d 268 1078 1081 [vR r0, vR r1, vQ r2, vQ r3, vI x4, none, none] [] Q)) : G d 268 1059 [vR r0, vR r1, vQ r2, vQ r3, vI x4, none, none] [] τ Q := by
  refine g_sk 5 (pc1 := 1065) (st1 := [AI (wr (x4 + 1)), AR r0, AR r1]) rfl ?_
  refine g_iald rfl sh2 (by decide) b3.1 b3.2 ?_
  refine g_sk 4 (pc1 := 1071) (st1 := [AI (wr (x4 + 2)), AR r0, AI (tI τ r0 (wr (x4 + 1)).toNat), AR r1]) rfl ?_
  refine g_iald rfl sh2 (by decide) b4.1 b4.2 ?_
  refine g_sk 4 (pc1 := 1077) (st1 := [AI (wr (x4 + 3)), AR r0, AI (tI τ r0 (wr (x4 + 2)).toNat), AI (tI τ r0 (wr (x4 + 1)).toNat), AR r1]) rfl ?_
  refine g_iald rfl sh2 (by decide) b5.1 b5.2 ?_
  refine g_cv rfl rfl (by decide) rfl rfl (Nat.le_of_ble_eq_true rfl) (as2 := [AI (tI τ r0 (wr (x4 + 1)).toNat), AI (tI τ r0 (wr (x4 + 2)).toNat), AI (tI τ r0 (wr (x4 + 3)).toNat)]) rfl sh6 rfl (by omega) (L0 := [vR r1, vI (tI τ r0 (wr (x4 + 1)).toNat), vI (tI τ r0 (wr (x4 + 2)).toNat), vI (tI τ r0 (wr (x4 + 3)).toNat), none]) rfl ?_
  exact k1

set_option maxRecDepth 8192 in
theorem t268_1108 {d : Nat} {τ : T2} {Q : RS → T2 → Prop} {x4 : Int} {r0 r1 n1 : Nat} {r2 r3 : Option Nat} (hd : 1 ≤ d) (sh2 : tS τ r0 = (2, 100, n1)) (b3 : (0 : Int) ≤ (wr (x4 + 1)) ∧ (wr (x4 + 1)) < (n1 : Int)) (b4 : (0 : Int) ≤ (wr (x4 + 2)) ∧ (wr (x4 + 2)) < (n1 : Int)) (sh5 : tS τ r1 = (1, 11, 0)) (k1 : G (d - 1) 117 0 [vR r1, vI (tI τ r0 (wr (x4 + 1)).toNat), vI (tI τ r0 (wr (x4 + 2)).toNat), none, none] [] τ (KC d 268 1121 1124 [vR r0, vR r1, vQ r2, vQ r3, vI x4, none, none] [] Q)) : G d 268 1108 [vR r0, vR r1, vQ r2, vQ r3, vI x4, none, none] [] τ Q := by
  refine g_sk 5 (pc1 := 1114) (st1 := [AI (wr (x4 + 1)), AR r0, AR r1]) rfl ?_
  refine g_iald rfl sh2 (by decide) b3.1 b3.2 ?_
  refine g_sk 4 (pc1 := 1120) (st1 := [AI (wr (x4 + 2)), AR r0, AI (tI τ r0 (wr (x4 + 1)).toNat), AR r1]) rfl ?_
  refine g_iald rfl sh2 (by decide) b4.1 b4.2 ?_
  refine g_cv rfl rfl (by decide) rfl rfl (Nat.le_of_ble_eq_true rfl) (as2 := [AI (tI τ r0 (wr (x4 + 1)).toNat), AI (tI τ r0 (wr (x4 + 2)).toNat)]) rfl sh5 rfl (by omega) (L0 := [vR r1, vI (tI τ r0 (wr (x4 + 1)).toNat), vI (tI τ r0 (wr (x4 + 2)).toNat), none, none]) rfl ?_
  exact k1

set_option maxRecDepth 8192 in
theorem t268_1145 {d : Nat} {τ : T2} {Q : RS → T2 → Prop} {x4 : Int} {r0 r1 n1 : Nat} {r2 r3 : Option Nat} (hd : 1 ≤ d) (sh2 : tS τ r0 = (2, 100, n1)) (b3 : (0 : Int) ≤ (wr (x4 + 1)) ∧ (wr (x4 + 1)) < (n1 : Int)) (sh4 : tS τ r1 = (1, 11, 0)) (k1 : G (d - 1) 118 0 [vR r1, vI (tI τ r0 (wr (x4 + 1)).toNat)] [] τ (KC d 268 1152 1155 [vR r0, vR r1, vQ r2, vQ r3, vI x4, none, none] [] Q)) : G d 268 1145 [vR r0, vR r1, vQ r2, vQ r3, vI x4, none, none] [] τ Q := by
  refine g_sk 5 (pc1 := 1151) (st1 := [AI (wr (x4 + 1)), AR r0, AR r1]) rfl ?_
  refine g_iald rfl sh2 (by decide) b3.1 b3.2 ?_
  refine g_cv rfl rfl (by decide) rfl rfl (Nat.le_of_ble_eq_true rfl) (as2 := [AI (tI τ r0 (wr (x4 + 1)).toNat)]) rfl sh4 rfl (by omega) (L0 := [vR r1, vI (tI τ r0 (wr (x4 + 1)).toNat)]) rfl ?_
  exact k1

set_option maxRecDepth 8192 in
theorem t268_1170 {d : Nat} {τ : T2} {Q : RS → T2 → Prop} {x4 : Int} {r0 r1 n1 : Nat} {r2 r3 : Option Nat} (hd : 1 ≤ d) (sh2 : tS τ r0 = (2, 100, n1)) (b3 : (0 : Int) ≤ (wr (x4 + 1)) ∧ (wr (x4 + 1)) < (n1 : Int)) (sh4 : tS τ r1 = (1, 11, 0)) (k1 : G (d - 1) 119 0 [vR r1, vI (tI τ r0 (wr (x4 + 1)).toNat), none] [] τ (KC d 268 1177 1180 [vR r0, vR r1, vQ r2, vQ r3, vI x4, none, none] [] Q)) : G d 268 1170 [vR r0, vR r1, vQ r2, vQ r3, vI x4, none, none] [] τ Q := by
  refine g_sk 5 (pc1 := 1176) (st1 := [AI (wr (x4 + 1)), AR r0, AR r1]) rfl ?_
  refine g_iald rfl sh2 (by decide) b3.1 b3.2 ?_
  refine g_cv rfl rfl (by decide) rfl rfl (Nat.le_of_ble_eq_true rfl) (as2 := [AI (tI τ r0 (wr (x4 + 1)).toNat)]) rfl sh4 rfl (by omega) (L0 := [vR r1, vI (tI τ r0 (wr (x4 + 1)).toNat), none]) rfl ?_
  exact k1

set_option maxRecDepth 8192 in
theorem t268_1195 {d : Nat} {τ : T2} {Q : RS → T2 → Prop} {x4 : Int} {r0 r1 n1 : Nat} {r2 r3 : Option Nat} (hd : 1 ≤ d) (sh2 : tS τ r0 = (2, 100, n1)) (b3 : (0 : Int) ≤ (wr (x4 + 1)) ∧ (wr (x4 + 1)) < (n1 : Int)) (sh4 : tS τ r1 = (1, 11, 0)) (k1 : G (d - 1) 120 0 [vR r1, vI (tI τ r0 (wr (x4 + 1)).toNat), none] [] τ (KC d 268 1202 1205 [vR r0, vR r1, vQ r2, vQ r3, vI x4, none, none] [] Q)) : G d 268 1195 [vR r0, vR r1, vQ r2, vQ r3, vI x4, none, none] [] τ Q := by
  refine g_sk 5 (pc1 := 1201) (st1 := [AI (wr (x4 + 1)), AR r0, AR r1]) rfl ?_
  refine g_iald rfl sh2 (by decide) b3.1 b3.2 ?_
  refine g_cv rfl rfl (by decide) rfl rfl (Nat.le_of_ble_eq_true rfl) (as2 := [AI (tI τ r0 (wr (x4 + 1)).toNat)]) rfl sh4 rfl (by omega) (L0 := [vR r1, vI (tI τ r0 (wr (x4 + 1)).toNat), none]) rfl ?_
  exact k1

set_option maxRecDepth 8192 in
theorem t268_1220 {d : Nat} {τ : T2} {Q : RS → T2 → Prop} {x4 : Int} {r0 r1 n1 : Nat} {r2 r3 : Option Nat} (hd : 1 ≤ d) (sh2 : tS τ r0 = (2, 100, n1)) (b3 : (0 : Int) ≤ (wr (x4 + 1)) ∧ (wr (x4 + 1)) < (n1 : Int)) (sh4 : tS τ r1 = (1, 11, 0)) (k1 : G (d - 1) 121 0 [vR r1, vI (tI τ r0 (wr (x4 + 1)).toNat)] [] τ (KC d 268 1227 1230 [vR r0, vR r1, vQ r2, vQ r3, vI x4, none, none] [] Q)) : G d 268 1220 [vR r0, vR r1, vQ r2, vQ r3, vI x4, none, none] [] τ Q := by
  refine g_sk 5 (pc1 := 1226) (st1 := [AI (wr (x4 + 1)), AR r0, AR r1]) rfl ?_
  refine g_iald rfl sh2 (by decide) b3.1 b3.2 ?_
  refine g_cv rfl rfl (by decide) rfl rfl (Nat.le_of_ble_eq_true rfl) (as2 := [AI (tI τ r0 (wr (x4 + 1)).toNat)]) rfl sh4 rfl (by omega) (L0 := [vR r1, vI (tI τ r0 (wr (x4 + 1)).toNat)]) rfl ?_
  exact k1

set_option maxRecDepth 8192 in
theorem t268_1245 {d : Nat} {τ : T2} {Q : RS → T2 → Prop} {x4 : Int} {r1 : Nat} {r0 r2 r3 : Option Nat} (hd : 1 ≤ d) (sh1 : tS τ r1 = (1, 11, 0)) (k1 : G (d - 1) 122 0 [vR r1] [] τ (KC d 268 1246 1249 [vQ r0, vR r1, vQ r2, vQ r3, vI x4, none, none] [] Q)) : G d 268 1245 [vQ r0, vR r1, vQ r2, vQ r3, vI x4, none, none] [] τ Q := by
  refine g_sk 1 (pc1 := 1246) (st1 := [AR r1]) rfl ?_
  refine g_cv rfl rfl (by decide) rfl rfl (Nat.le_of_ble_eq_true rfl) (as2 := []) rfl sh1 rfl (by omega) (L0 := [vR r1]) rfl ?_
  exact k1

set_option maxRecDepth 8192 in
theorem t268_1258 {d : Nat} {τ : T2} {Q : RS → T2 → Prop} {x4 : Int} {r0 r1 n1 : Nat} {r2 r3 : Option Nat} (hd : 1 ≤ d) (sh2 : tS τ r0 = (2, 100, n1)) (b3 : (0 : Int) ≤ (wr (x4 + 1)) ∧ (wr (x4 + 1)) < (n1 : Int)) (sh4 : tS τ r1 = (1, 11, 0)) (k1 : G (d - 1) 123 0 [vR r1, vI (tI τ r0 (wr (x4 + 1)).toNat)] [] τ (KC d 268 1265 1268 [vR r0, vR r1, vQ r2, vQ r3, vI x4, none, none] [] Q)) : G d 268 1258 [vR r0, vR r1, vQ r2, vQ r3, vI x4, none, none] [] τ Q := by
  refine g_sk 5 (pc1 := 1264) (st1 := [AI (wr (x4 + 1)), AR r0, AR r1]) rfl ?_
  refine g_iald rfl sh2 (by decide) b3.1 b3.2 ?_
  refine g_cv rfl rfl (by decide) rfl rfl (Nat.le_of_ble_eq_true rfl) (as2 := [AI (tI τ r0 (wr (x4 + 1)).toNat)]) rfl sh4 rfl (by omega) (L0 := [vR r1, vI (tI τ r0 (wr (x4 + 1)).toNat)]) rfl ?_
  exact k1

set_option maxRecDepth 8192 in
theorem t268_1283 {d : Nat} {τ : T2} {Q : RS → T2 → Prop} {x4 : Int} {r1 : Nat} {r0 r2 r3 : Option Nat} (hd : 1 ≤ d) (sh1 : tS τ r1 = (1, 11, 0)) (k1 : G (d - 1) 124 0 [vR r1] [] τ (KC d 268 1284 1287 [vQ r0, vR r1, vQ r2, vQ r3, vI x4, none, none] [] Q)) : G d 268 1283 [vQ r0, vR r1, vQ r2, vQ r3, vI x4, none, none] [] τ Q := by
  refine g_sk 1 (pc1 := 1284) (st1 := [AR r1]) rfl ?_
  refine g_cv rfl rfl (by decide) rfl rfl (Nat.le_of_ble_eq_true rfl) (as2 := []) rfl sh1 rfl (by omega) (L0 := [vR r1]) rfl ?_
  exact k1

set_option maxRecDepth 8192 in
theorem t268_1296 {d : Nat} {τ : T2} {Q : RS → T2 → Prop} {x4 : Int} {r0 r1 r2 r3 : Option Nat} (k1 : G d 268 23 [vQ r0, vQ r1, vQ r2, vQ r3, vI (wr (x4 + 6)), none, none] [] τ Q) : G d 268 1296 [vQ r0, vQ r1, vQ r2, vQ r3, vI x4, none, none] [] τ Q := by
  refine g_sx 2 (pc1 := 23) (L1 := [vQ r0, vQ r1, vQ r2, vQ r3, vI (wr (x4 + 6)), none, none]) (st1 := []) rfl ?_
  exact k1

