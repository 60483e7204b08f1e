/-! WHAT AN INSTRUCTION CAN LEAD TO -/
section INL
variable {pc : Nat} {L : LO} {st : List AV} {σ : ST} {so : SO}
theorem gs_in {o : Option (List AV)} (h : gs pc L σ o = some so) : ∃ y : FR × ST, so = .inl y := by
  unfold gs at h
  split at h
  · cases h; exact ⟨_, rfl⟩
  · cases h
theorem stI_in {k : Nat} (h : stI pc L k st σ = some so) : ∃ y : FR × ST, so = .inl y := by
  unfold stI at h
  split at h
  · split at h
    · cases h; exact ⟨_, rfl⟩
    · cases h
  · cases h
theorem stL_in {k : Nat} (h : stL pc L k st σ = some so) : ∃ y : FR × ST, so = .inl y := by
  unfold stL at h
  split at h
  · split at h
    · cases h; exact ⟨_, rfl⟩
    · cases h
  · cases h
theorem stA_in {k : Nat} (h : stA pc L k st σ = some so) : ∃ y : FR × ST, so = .inl y := by
  unfold stA at h
  split at h
  · split at h
    · cases h; exact ⟨_, rfl⟩
    · cases h
  · cases h
theorem inc_in {k : Nat} {n : Int} (h : inc pc L k n st σ = some so) : ∃ y : FR × ST, so = .inl y := by
  unfold inc at h
  split at h
  · cases h; exact ⟨_, rfl⟩
  · cases h
theorem br_in {t : Option Nat} {bb : Bool} (h : br pc t L st σ bb = some so) : ∃ y : FR × ST, so = .inl y := by
  unfold br at h
  split at h
  · cases h; exact ⟨_, rfl⟩
  · cases h
theorem br1_in {t : Option Nat} {c : ClassFile.Cond} (h : br1 pc t L c st σ = some so) : ∃ y : FR × ST, so = .inl y := by
  unfold br1 at h
  split at h
  · exact br_in h
  · cases h
theorem br2_in {t : Option Nat} {c : ClassFile.Cond} (h : br2 pc t L c st σ = some so) : ∃ y : FR × ST, so = .inl y := by
  unfold br2 at h
  split at h
  · exact br_in h
  · cases h
theorem brN_in {t : Option Nat} (h : brN pc t L st σ = some so) : ∃ y : FR × ST, so = .inl y := by
  unfold brN at h
  split at h
  · exact br_in h
  · cases h
theorem brS_in {t : Option Nat} (h : brS pc t L st σ = some so) : ∃ y : FR × ST, so = .inl y := by
  unfold brS at h
  split at h
  · exact br_in h
  · cases h
theorem brA_in {t : Option Nat} {ee : Bool} (h : brA pc t L ee st σ = some so) : ∃ y : FR × ST, so = .inl y := by
  unfold brA at h
  split at h
  · split at h
    · exact br_in h
    · cases h
  · cases h
theorem tsw_in {d lo hi : Int} {offs : Array Int} (h : tsw pc L d lo hi offs st σ = some so) : ∃ y : FR × ST, so = .inl y := by
  unfold tsw at h
  split at h
  · split at h
    · exact br_in h
    · split at h
      · exact br_in h
      · cases h
  · cases h
theorem pfd_in {k : Nat} {cis : List Nat} (h : pfd pc L k cis st σ = some so) : ∃ y : FR × ST, so = .inl y := by
  unfold pfd at h
  split at h
  · split at h
    · split at h
      · cases h; exact ⟨_, rfl⟩
      · cases h
    · cases h
  · cases h
theorem asI_in (h : asI pc L st σ = some so) : ∃ y : FR × ST, so = .inl y := by
  unfold asI at h
  split at h
  · split at h
    · split at h
      · cases h; exact ⟨_, rfl⟩
      · cases h
    · cases h
  · cases h
theorem asB_in (h : asB pc L st σ = some so) : ∃ y : FR × ST, so = .inl y := by
  unfold asB at h
  split at h
  · split at h
    · split at h
      · cases h; exact ⟨_, rfl⟩
      · cases h
    · cases h
  · cases h
theorem asL_in (h : asL pc L st σ = some so) : ∃ y : FR × ST, so = .inl y := by
  unfold asL at h
  split at h
  · split at h
    · split at h
      · cases h; exact ⟨_, rfl⟩
      · cases h
    · cases h
  · cases h
theorem asA_in (h : asA pc L st σ = some so) : ∃ y : FR × ST, so = .inl y := by
  unfold asA at h
  split at h
  · split at h
    · split at h
      · cases h; exact ⟨_, rfl⟩
      · cases h
    · cases h
  · cases h
theorem nwa_in {t : Option Nat} (h : nwa pc L t st σ = some so) : ∃ y : FR × ST, so = .inl y := by
  unfold nwa at h
  split at h
  · split at h
    · cases h; exact ⟨_, rfl⟩
    · cases h
  · cases h
theorem nwq_in {t : Option Nat} (h : nwq pc L t st σ = some so) : ∃ y : FR × ST, so = .inl y := by
  unfold nwq at h
  split at h
  · split at h
    · cases h; exact ⟨_, rfl⟩
    · cases h
  · cases h
theorem nwm_in (h : nwm pc L st σ = some so) : ∃ y : FR × ST, so = .inl y := by
  unfold nwm at h
  split at h
  · split at h
    · cases h; exact ⟨_, rfl⟩
    · cases h
  · cases h
end INL
set_option maxHeartbeats 4000000 in
theorem stepI_end {mi pc len : Nat} {i : ClassFile.Instr} {L : LO} {st : List AV} {σ : ST} {z : (Nat × List AV × FR) ⊕ (RS × ST)} (h : stepI mi pc i len L st σ = some (.inr z)) :
    (∃ ix, (i = .invokestatic ix ∨ i = .invokespecial ix ∨ i = .invokevirtual ix ∨ ∃ n, i = .invokeinterface ix n) ∧ cal (pc + len) L i (ML mi ix) st σ = some (.inr z)) ∨
    (i = .return_ ∧ st = [] ∧ RT mi = 9 ∧ z = .inr (.inl none, σ)) ∨
    ((i = .ireturn ∧ ∃ x r, st = .inl x :: r) ∧ ret1 (RT mi) st σ = some (.inr z)) ∨
    ((i = .lreturn ∧ ∃ x r, st = .inr (.inl x) :: r) ∧ ret1 (RT mi) st σ = some (.inr z)) ∨
    ((i = .areturn ∧ ∃ x r, st = .inr (.inr x) :: r) ∧ ret1 (RT mi) st σ = some (.inr z)) ∨
    (i = .athrow ∧ ∃ a r fs, st = .inr (.inr (some a)) :: r ∧ σ.1 a = .inl (18, fs) ∧ z = .inr (.inr a, σ)) ∨
    (∃ ix, i = .new ix ∧ NW mi ix = some 99 ∧ z = .inr (.inr σ.2.1, sN σ (.inl (99, [])) 6)) := by
  have no : ∀ {P : Prop}, (∃ y : FR × ST, (Sum.inr z : SO) = .inl y) → P := fun q => by obtain ⟨y, hy⟩ := q; cases hy
  cases i
  case invokestatic ix => exact Or.inl ⟨ix, Or.inl rfl, h⟩
  case invokespecial ix => exact Or.inl ⟨ix, Or.inr (Or.inl rfl), h⟩
  case invokevirtual ix => exact Or.inl ⟨ix, Or.inr (Or.inr (Or.inl rfl)), h⟩
  case invokeinterface ix n => exact Or.inl ⟨ix, Or.inr (Or.inr (Or.inr ⟨n, rfl⟩)), h⟩
  case return_ =>
    simp only [stepI] at h
    split at h
    · split at h
      · cases h; exact Or.inr (Or.inl ⟨rfl, rfl, by assumption, rfl⟩)
      · cases h
    · cases h
  case ireturn =>
    simp only [stepI] at h
    split at h
    · exact Or.inr (Or.inr (Or.inl ⟨⟨rfl, _, _, rfl⟩, h⟩))
    · cases h
  case lreturn =>
    simp only [stepI] at h
    split at h
    · exact Or.inr (Or.inr (Or.inr (Or.inl ⟨⟨rfl, _, _, rfl⟩, h⟩)))
    · cases h
  case areturn =>
    simp only [stepI] at h
    split at h
    · exact Or.inr (Or.inr (Or.inr (Or.inr (Or.inl ⟨⟨rfl, _, _, rfl⟩, h⟩))))
    · cases h
  case athrow =>
    simp only [stepI] at h
    split at h
    · split at h
      · rename_i fs hc
        cases h
        exact Or.inr (Or.inr (Or.inr (Or.inr (Or.inr (Or.inl ⟨rfl, _, _, fs, rfl, hc, rfl⟩)))))
      · cases h
    · cases h
  case new ix =>
    have h : nwo (pc + len) L (NW mi ix) st σ = _ := h
    cases hn : NW mi ix with
    | none => rw [hn] at h; cases h
    | some ci =>
      rw [hn] at h
      by_cases h99 : ci = 99
      · subst h99
        cases h
        exact Or.inr (Or.inr (Or.inr (Or.inr (Or.inr (Or.inr ⟨ix, rfl, hn, rfl⟩)))))
      · simp only [nwo, if_neg h99] at h
        split at h <;> cases h
  case idiv =>
    simp only [stepI] at h
    split at h
    · split at h
      · cases h
      · exact no (gs_in h)
    · cases h
  case irem =>
    simp only [stepI] at h
    split at h
    · split at h
      · cases h
      · exact no (gs_in h)
    · cases h
  case getfield ix =>
    simp only [stepI] at h
    split at h
    · exact no (gs_in h)
    · cases h
  case putfield ix =>
    simp only [stepI] at h
    split at h
    · exact no (pfd_in h)
    · cases h
  case multianewarray ix dm =>
    simp only [stepI] at h
    split at h
    · exact no (nwm_in h)
    · cases h
  case if_acmp cnd o =>
    cases cnd with
    | eq => exact no (brA_in h)
    | ne => exact no (brA_in h)
  case istore k => exact no (stI_in h)
  case istore_n k => exact no (stI_in h)
  case lstore k => exact no (stL_in h)
  case lstore_n k => exact no (stL_in h)
  case astore k => exact no (stA_in h)
  case astore_n k => exact no (stA_in h)
  case iinc k n => exact no (inc_in h)
  case goto o => exact no (br_in h)
  case ifCond c o => exact no (br1_in h)
  case if_icmp c o => exact no (br2_in h)
  case ifnull o => exact no (brN_in h)
  case ifnonnull o => exact no (brS_in h)
  case tableswitch d lo hi offs => exact no (tsw_in h)
  case iastore => exact no (asI_in h)
  case bastore => exact no (asB_in h)
  case lastore => exact no (asL_in h)
  case aastore => exact no (asA_in h)
  case newarray t => exact no (nwa_in h)
  case anewarray ix => exact no (nwq_in h)
  all_goals first
    | exact no (gs_in h)
    | (simp only [stepI] at h; exact no (gs_in h))
    | (simp only [stepI] at h; cases h)
