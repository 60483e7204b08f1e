/-! THE LENGTH OF THE LOCALS stays -/
def LN (L : LO) (so : SO) : Prop := match so with
  | .inl (fr, _) => fr.2.1.length = L.length
  | _ => True
section LNS
variable {pc : Nat} {L : LO} {st : List AV} {σ : ST} {so : SO}
theorem gs_ln {o : Option (List AV)} (h : gs pc L σ o = some so) : LN L so := by
  unfold gs at h
  split at h
  · cases h; exact rfl
  · cases h
theorem stI_ln {k : Nat} (h : stI pc L k st σ = some so) : LN L so := by
  unfold stI at h
  split at h
  · split at h
    · cases h; exact setL_len _ _ _
    · cases h
  · cases h
theorem stL_ln {k : Nat} (h : stL pc L k st σ = some so) : LN L so := by
  unfold stL at h
  split at h
  · split at h
    · cases h; exact setL2_len _ _ _
    · cases h
  · cases h
theorem stA_ln {k : Nat} (h : stA pc L k st σ = some so) : LN L so := by
  unfold stA at h
  split at h
  · split at h
    · cases h; exact setL_len _ _ _
    · cases h
  · cases h
theorem inc_ln {k : Nat} {n : Int} (h : inc pc L k n st σ = some so) : LN L so := by
  unfold inc at h
  split at h
  · cases h; exact setL_len _ _ _
  · cases h
theorem br_ln {t : Option Nat} {bb : Bool} (h : br pc t L st σ bb = some so) : LN L so := by
  unfold br at h
  split at h
  · cases h; exact rfl
  · cases h
theorem br1_ln {t : Option Nat} {c : ClassFile.Cond} (h : br1 pc t L c st σ = some so) : LN L so := by
  unfold br1 at h
  split at h
  · exact br_ln h
  · cases h
theorem br2_ln {t : Option Nat} {c : ClassFile.Cond} (h : br2 pc t L c st σ = some so) : LN L so := by
  unfold br2 at h
  split at h
  · exact br_ln h
  · cases h
theorem brN_ln {t : Option Nat} (h : brN pc t L st σ = some so) : LN L so := by
  unfold brN at h
  split at h
  · exact br_ln h
  · cases h
theorem brS_ln {t : Option Nat} (h : brS pc t L st σ = some so) : LN L so := by
  unfold brS at h
  split at h
  · exact br_ln h
  · cases h
theorem brA_ln {t : Option Nat} {ee : Bool} (h : brA pc t L ee st σ = some so) : LN L so := by
  unfold brA at h
  split at h
  · split at h
    · exact br_ln h
    · cases h
  · cases h
theorem tsw_ln {d lo hi : Int} {offs : Array Int} (h : tsw pc L d lo hi offs st σ = some so) : LN L so := by
  unfold tsw at h
  split at h
  · split at h
    · exact br_ln h
    · split at h
      · exact br_ln h
      · cases h
  · cases h
theorem pfd_ln {k : Nat} {cis : List Nat} (h : pfd pc L k cis st σ = some so) : LN L so := by
  unfold pfd at h
  split at h
  · split at h
    · split at h
      · cases h; exact rfl
      · cases h
    · cases h
  · cases h
theorem asI_ln (h : asI pc L st σ = some so) : LN L so := by
  unfold asI at h
  split at h
  · split at h
    · split at h
      · cases h; exact rfl
      · cases h
    · cases h
  · cases h
theorem asB_ln (h : asB pc L st σ = some so) : LN L so := by
  unfold asB at h
  split at h
  · split at h
    · split at h
      · cases h; exact rfl
      · cases h
    · cases h
  · cases h
theorem asL_ln (h : asL pc L st σ = some so) : LN L so := by
  unfold asL at h
  split at h
  · split at h
    · split at h
      · cases h; exact rfl
      · cases h
    · cases h
  · cases h
theorem asA_ln (h : asA pc L st σ = some so) : LN L so := by
  unfold asA at h
  split at h
  · split at h
    · split at h
      · cases h; exact rfl
      · cases h
    · cases h
  · cases h
theorem nwa_ln {t : Option Nat} (h : nwa pc L t st σ = some so) : LN L so := by
  unfold nwa at h
  split at h
  · split at h
    · cases h; exact rfl
    · cases h
  · cases h
theorem nwq_ln {t : Option Nat} (h : nwq pc L t st σ = some so) : LN L so := by
  unfold nwq at h
  split at h
  · split at h
    · cases h; exact rfl
    · cases h
  · cases h
theorem nwm_ln (h : nwm pc L st σ = some so) : LN L so := by
  unfold nwm at h
  split at h
  · split at h
    · cases h; exact rfl
    · cases h
  · cases h
theorem cal_ln {i : ClassFile.Instr} {mm : Option (Nat × Nat × Nat × Nat)} (h : cal pc L i mm st σ = some so) : LN L so := by
  unfold cal at h
  split at h
  · split at h
    · cases h; trivial
    · cases h
  · cases h
theorem ret_ln {rt : Nat} (h : ret1 rt st σ = some so) : LN L so := by
  unfold ret1 at h
  split at h
  · split at h
    · cases h; trivial
    · cases h
  · cases h
end LNS
set_option maxHeartbeats 4000000 in
theorem stepI_ln {mi pc len : Nat} {i : ClassFile.Instr} {L : LO} {st : List AV} {σ : ST} {so : SO} (h : stepI mi pc i len L st σ = some so) : LN L so := by
  cases i
  case invokestatic ix => exact cal_ln h
  case invokespecial ix => exact cal_ln h
  case invokevirtual ix => exact cal_ln h
  case invokeinterface ix n => exact cal_ln h
  case return_ =>
    simp only [stepI] at h
    split at h
    · split at h
      · cases h; trivial
      · cases h
    · cases h
  case ireturn =>
    simp only [stepI] at h
    split at h
    · exact ret_ln h
    · cases h
  case lreturn =>
    simp only [stepI] at h
    split at h
    · exact ret_ln h
    · cases h
  case areturn =>
    simp only [stepI] at h
    split at h
    · exact ret_ln h
    · cases h
  case athrow =>
    simp only [stepI] at h
    split at h
    · split at h
      · cases h; trivial
      · cases h
    · cases h
  case new ix =>
    have h : nwo (pc + len) L (NW mi ix) st σ = _ := h
    cases hn : NW mi ix with
    | none => rw [hn] at h; cases h
    | some ci =>
      rw [hn] at h
      by_cases h99 : ci = 99
      · subst h99
        cases h
        trivial
      · simp only [nwo, if_neg h99] at h
        split at h
        · cases h; exact rfl
        · cases h
  case idiv =>
    simp only [stepI] at h
    split at h
    · split at h
      · cases h
      · exact gs_ln h
    · cases h
  case irem =>
    simp only [stepI] at h
    split at h
    · split at h
      · cases h
      · exact gs_ln h
    · cases h
  case getfield ix =>
    simp only [stepI] at h
    split at h
    · exact gs_ln h
    · cases h
  case putfield ix =>
    simp only [stepI] at h
    split at h
    · exact pfd_ln h
    · cases h
  case multianewarray ix dm =>
    simp only [stepI] at h
    split at h
    · exact nwm_ln h
    · cases h
  case if_acmp cnd o =>
    cases cnd with
    | eq => exact brA_ln h
    | ne => exact brA_ln h
  case istore k => exact stI_ln h
  case istore_n k => exact stI_ln h
  case lstore k => exact stL_ln h
  case lstore_n k => exact stL_ln h
  case astore k => exact stA_ln h
  case astore_n k => exact stA_ln h
  case iinc k n => exact inc_ln h
  case goto o => exact br_ln h
  case ifCond c o => exact br1_ln h
  case if_icmp c o => exact br2_ln h
  case ifnull o => exact brN_ln h
  case ifnonnull o => exact brS_ln h
  case tableswitch d lo hi offs => exact tsw_ln h
  case iastore => exact asI_ln h
  case bastore => exact asB_ln h
  case lastore => exact asL_ln h
  case aastore => exact asA_ln h
  case newarray t => exact nwa_ln h
  case anewarray ix => exact nwq_ln h
  all_goals first
    | exact gs_ln h
    | (simp only [stepI] at h; exact gs_ln h)
    | (simp only [stepI] at h; cases h)
