/-! THE CLAIM -/
theorem slg_z : SLG 409 = 19162 := by decide +kernel
theorem pure_ok : PURE := pure_oy fun L f τ hL hf B => by
  have I : LI L f τ S00 0 := by
    have s := B.2.1.2.2.2.2.2.2.2
    refine ⟨FX2_of B.2.1, ci_0 B, mi_0 B, ws_0, wx_0, ⟨s.1, s.2.1, s.2.2.1⟩, Nat.le_of_eq B.1, Nat.le_of_eq ?_⟩
    exact B.2.1.2.2.1.trans slg_z
  exact law_lp hL hf 512 0 τ S00 rfl I
theorem i_vc : Claimed_1_1 ∧ Claimed_1_2 := vc_of pure_ok
