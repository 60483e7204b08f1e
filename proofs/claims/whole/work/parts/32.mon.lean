/-! THE STORE GROWS -/
def MO (σ : ST) (so : SO) : Prop := match so with
  | .inl (_, σ1) => σ.2.1 ≤ σ1.2.1 ∧ σ.2.2 ≤ σ1.2.2
  | .inr (.inl _) => True
  | .inr (.inr (_, σ1)) => σ.2.1 ≤ σ1.2.1 ∧ σ.2.2 ≤ σ1.2.2
theorem MO_0 (σ : ST) (fr : FR) : MO σ (.inl (fr, σ)) := ⟨Nat.le_refl _, Nat.le_refl _⟩
section MON
variable {pc : Nat} {L : LO} {st : List AV} {σ : ST} {so : SO}
theorem gs_mo {o : Option (List AV)} (h : gs pc L σ o = some so) : MO σ so := by
  unfold gs at h
  split at h
  · cases h; exact MO_0 _ _
  · cases h
theorem stI_mo {k : Nat} (h : stI pc L k st σ = some so) : MO σ so := by
  unfold stI at h
  split at h
  · split at h
    · cases h; exact MO_0 _ _
    · cases h
  · cases h
theorem stL_mo {k : Nat} (h : stL pc L k st σ = some so) : MO σ so := by
  unfold stL at h
  split at h
  · split at h
    · cases h; exact MO_0 _ _
    · cases h
  · cases h
theorem stA_mo {k : Nat} (h : stA pc L k st σ = some so) : MO σ so := by
  unfold stA at h
  split at h
  · split at h
    · cases h; exact MO_0 _ _
    · cases h
  · cases h
theorem inc_mo {k : Nat} {n : Int} (h : inc pc L k n st σ = some so) : MO σ so := by
  unfold inc at h
  split at h
  · cases h; exact MO_0 _ _
  · cases h
theorem br_mo {t : Option Nat} {bb : Bool} (h : br pc t L st σ bb = some so) : MO σ so := by
  unfold br at h
  split at h
  · cases h; exact MO_0 _ _
  · cases h
theorem br1_mo {t : Option Nat} {c : ClassFile.Cond} (h : br1 pc t L c st σ = some so) : MO σ so := by
  unfold br1 at h
  split at h
  · exact br_mo h
  · cases h
theorem br2_mo {t : Option Nat} {c : ClassFile.Cond} (h : br2 pc t L c st σ = some so) : MO σ so := by
  unfold br2 at h
  split at h
  · exact br_mo h
  · cases h
theorem brN_mo {t : Option Nat} (h : brN pc t L st σ = some so) : MO σ so := by
  unfold brN at h
  split at h
  · exact br_mo h
  · cases h
theorem brS_mo {t : Option Nat} (h : brS pc t L st σ = some so) : MO σ so := by
  unfold brS at h
  split at h
  · exact br_mo h
  · cases h
theorem brA_mo {t : Option Nat} {ee : Bool} (h : brA pc t L ee st σ = some so) : MO σ so := by
  unfold brA at h
  split at h
  · split at h
    · exact br_mo h
    · cases h
  · cases h
theorem tsw_mo {d lo hi : Int} {offs : Array Int} (h : tsw pc L d lo hi offs st σ = some so) : MO σ so := by
  unfold tsw at h
  split at h
  · split at h
    · exact br_mo h
    · split at h
      · exact br_mo h
      · cases h
  · cases h
theorem pfd_mo {k : Nat} {cis : List Nat} (h : pfd pc L k cis st σ = some so) : MO σ so := by
  unfold pfd at h
  split at h
  · split at h
    · split at h
      · cases h; exact ⟨Nat.le_refl _, Nat.le_refl _⟩
      · cases h
    · cases h
  · cases h
theorem asI_mo (h : asI pc L st σ = some so) : MO σ so := by
  unfold asI at h
  split at h
  · split at h
    · split at h
      · cases h; exact ⟨Nat.le_refl _, Nat.le_refl _⟩
      · cases h
    · cases h
  · cases h
theorem asB_mo (h : asB pc L st σ = some so) : MO σ so := by
  unfold asB at h
  split at h
  · split at h
    · split at h
      · cases h; exact ⟨Nat.le_refl _, Nat.le_refl _⟩
      · cases h
    · cases h
  · cases h
theorem asL_mo (h : asL pc L st σ = some so) : MO σ so := by
  unfold asL at h
  split at h
  · split at h
    · split at h
      · cases h; exact ⟨Nat.le_refl _, Nat.le_refl _⟩
      · cases h
    · cases h
  · cases h
theorem asA_mo (h : asA pc L st σ = some so) : MO σ so := by
  unfold asA at h
  split at h
  · split at h
    · split at h
      · cases h; exact ⟨Nat.le_refl _, Nat.le_refl _⟩
      · cases h
    · cases h
  · cases h
theorem nwa_mo {t : Option Nat} (h : nwa pc L t st σ = some so) : MO σ so := by
  unfold nwa at h
  split at h
  · split at h
    · cases h; exact ⟨Nat.le_succ _, Nat.le_add_right _ _⟩
    · cases h
  · cases h
theorem nwq_mo {t : Option Nat} (h : nwq pc L t st σ = some so) : MO σ so := by
  unfold nwq at h
  split at h
  · split at h
    · cases h; exact ⟨Nat.le_succ _, Nat.le_add_right _ _⟩
    · cases h
  · cases h
theorem nwm_mo (h : nwm pc L st σ = some so) : MO σ so := by
  unfold nwm at h
  split at h
  · split at h
    · cases h
      refine ⟨?_, ?_⟩
      · rw [(nwr_cnt _ _ _).1]
        show σ.2.1 ≤ σ.2.1 + 1 + _
        omega
      · rw [(nwr_cnt _ _ _).2]
        show σ.2.2 ≤ σ.2.2 + _ + _
        omega
    · cases h
  · cases h
theorem nwo_mo {t : Option Nat} (h : nwo pc L t st σ = some so) : MO σ so := by
  unfold nwo at h
  split at h
  · split at h
    · cases h; exact ⟨Nat.le_succ _, Nat.le_add_right _ _⟩
    · split at h
      · cases h; exact ⟨Nat.le_succ _, Nat.le_add_right _ _⟩
      · cases h
  · cases h
theorem cal_mo {i : ClassFile.Instr} {m : Option (Nat × Nat × Nat × Nat)} (h : cal pc L i m st σ = some so) : MO σ so := by
  unfold cal at h
  split at h
  · split at h
    · cases h; exact trivial
    · cases h
  · cases h
theorem ret_mo {rt : Nat} (h : ret1 rt st σ = some so) : MO σ so := by
  unfold ret1 at h
  split at h
  · split at h
    · cases h; exact ⟨Nat.le_refl _, Nat.le_refl _⟩
    · cases h
  · cases h
end MON
set_option maxHeartbeats 4000000 in
theorem stepI_mo {mi pc len : Nat} {i : ClassFile.Instr} {L : LO} {st : List AV} {σ : ST} {so : SO} (h : stepI mi pc i len L st σ = some so) : MO σ so := by
  cases i
  case idiv =>
    simp only [stepI] at h
    split at h
    · split at h
      · cases h
      · exact gs_mo h
    · cases h
  case irem =>
    simp only [stepI] at h
    split at h
    · split at h
      · cases h
      · exact gs_mo h
    · cases h
  case getfield ix =>
    simp only [stepI] at h
    split at h
    · exact gs_mo h
    · cases h
  case putfield ix =>
    simp only [stepI] at h
    split at h
    · exact pfd_mo h
    · cases h
  case multianewarray ix dm =>
    simp only [stepI] at h
    split at h
    · exact nwm_mo h
    · cases h
  case if_acmp cnd o =>
    cases cnd with
    | eq => exact brA_mo h
    | ne => exact brA_mo h
  case return_ =>
    simp only [stepI] at h
    split at h
    · split at h
      · cases h; exact ⟨Nat.le_refl _, Nat.le_refl _⟩
      · cases h
    · cases h
  case ireturn =>
    simp only [stepI] at h
    split at h
    · exact ret_mo h
    · cases h
  case lreturn =>
    simp only [stepI] at h
    split at h
    · exact ret_mo h
    · cases h
  case areturn =>
    simp only [stepI] at h
    split at h
    · exact ret_mo h
    · cases h
  case athrow =>
    simp only [stepI] at h
    split at h
    · split at h
      · cases h; exact ⟨Nat.le_refl _, Nat.le_refl _⟩
      · cases h
    · cases h
  case istore k => exact stI_mo h
  case istore_n k => exact stI_mo h
  case lstore k => exact stL_mo h
  case lstore_n k => exact stL_mo h
  case astore k => exact stA_mo h
  case astore_n k => exact stA_mo h
  case iinc k n => exact inc_mo h
  case goto o => exact br_mo h
  case ifCond c o => exact br1_mo h
  case if_icmp c o => exact br2_mo h
  case ifnull o => exact brN_mo h
  case ifnonnull o => exact brS_mo h
  case tableswitch d lo hi offs => exact tsw_mo h
  case iastore => exact asI_mo h
  case bastore => exact asB_mo h
  case lastore => exact asL_mo h
  case aastore => exact asA_mo h
  case newarray t => exact nwa_mo h
  case anewarray ix => exact nwq_mo h
  case new ix => exact nwo_mo h
  case invokestatic ix => exact cal_mo h
  case invokespecial ix => exact cal_mo h
  case invokevirtual ix => exact cal_mo h
  case invokeinterface ix n => exact cal_mo h
  all_goals first
    | exact gs_mo h
    | (simp only [stepI] at h; exact gs_mo h)
    | (simp only [stepI] at h; cases h)
theorem BF_mo {cm : Nat} {as : List AV} {σ : ST} {x : RS × ST} (h : BF cm as σ = some x) : σ.2.1 ≤ x.2.2.1 ∧ σ.2.2 ≤ x.2.2.2 := by
  unfold BF at h
  split at h
  all_goals try split at h
  all_goals try split at h
  all_goals first
    | (cases h; exact ⟨Nat.le_refl _, Nat.le_refl _⟩)
    | (cases h; exact ⟨Nat.le_succ _, Nat.le_add_right _ _⟩)
    | (rename_i σ1 hb; cases h; unfold bArr at hb; split at hb <;> (try split at hb) <;> (try split at hb) <;> first | (cases hb; exact ⟨Nat.le_refl _, Nat.le_refl _⟩) | cases hb)
    | cases h
theorem run_mo : ∀ (n : Nat) {d mi pc : Nat} {L : LO} {st : List AV} {σ : ST} {x : RS × ST}, run n d mi pc L st σ = some x → σ.2.1 ≤ x.2.2.1 ∧ σ.2.2 ≤ x.2.2.2
  | 0, d, mi, pc, L, st, σ, x, h => by cases h
  | n + 1, d, mi, pc, L, st, σ, x, h => by
    simp only [run] at h
    have hmo : ∀ so, step mi pc L st σ = some so → MO σ so := by
      intro so hs
      unfold step at hs
      split at hs
      · exact stepI_mo hs
      · cases hs
    split at h
    · cases h
    · rename_i fr σ1 hs
      have m1 := hmo _ hs
      have m2 := run_mo n h
      exact ⟨Nat.le_trans m1.1 m2.1, Nat.le_trans m1.2 m2.2⟩
    · rename_i cm as fr hs
      split at h
      · cases h
      · rename_i d1
        have mc : ∀ y, (if cm < 1000 then run n d1 cm 0 (iL (MX cm) as) [] σ else if d1 < 16 then none else BF cm as σ) = some y → σ.2.1 ≤ y.2.2.1 ∧ σ.2.2 ≤ y.2.2.2 := by
          intro y hy
          split at hy
          · exact run_mo n hy
          · split at hy
            · cases hy
            · exact BF_mo hy
        split at h
        · cases h
        · rename_i v σ2 hy
          have m1 := mc _ hy
          have m2 := run_mo n h
          exact ⟨Nat.le_trans m1.1 m2.1, Nat.le_trans m1.2 m2.2⟩
        · rename_i a σ2 hy
          have m1 := mc _ hy
          split at h
          · have m2 := run_mo n h
            exact ⟨Nat.le_trans m1.1 m2.1, Nat.le_trans m1.2 m2.2⟩
          · cases h; exact m1
          · cases h
    · rename_i v σ1 hs
      cases h
      exact hmo _ hs
    · rename_i a σ1 hs
      have m1 := hmo _ hs
      split at h
      · cases h
      split at h
      · have m2 := run_mo n h
        exact ⟨Nat.le_trans m1.1 m2.1, Nat.le_trans m1.2 m2.2⟩
      · cases h; exact m1
      · cases h
