/-! LOCALS MAY BE FORGOTTEN -/
def lw2 (A B : LO) : Prop := A.length = B.length ∧ ∀ (j : Nat) (v : AV), A[j]? = some (some v) → B[j]? = some (some v)
def reL (L : LO) : Option SO → Option SO
  | some (.inl ((p, _, s), σ)) => some (.inl ((p, L, s), σ))
  | some (.inr (.inl (cm, as, (p, _, s)))) => some (.inr (.inl (cm, as, (p, L, s))))
  | x => x
theorem gs_re (pc : Nat) (L : LO) (σ : ST) (o : Option (List AV)) : gs pc L σ o = reL L (gs pc [] σ o) := by cases o <;> rfl
theorem br_re (pc : Nat) (t : Option Nat) (L : LO) (st : List AV) (σ : ST) (b : Bool) : br pc t L st σ b = reL L (br pc t [] st σ b) := by cases t <;> rfl
theorem br1_re (pc : Nat) (t : Option Nat) (L : LO) (c : ClassFile.Cond) (st : List AV) (σ : ST) : br1 pc t L c st σ = reL L (br1 pc t [] c st σ) := by
  unfold br1
  split
  · exact br_re ..
  · rfl
theorem br2_re (pc : Nat) (t : Option Nat) (L : LO) (c : ClassFile.Cond) (st : List AV) (σ : ST) : br2 pc t L c st σ = reL L (br2 pc t [] c st σ) := by
  unfold br2
  split
  · exact br_re ..
  · rfl
theorem brN_re (pc : Nat) (t : Option Nat) (L : LO) (st : List AV) (σ : ST) : brN pc t L st σ = reL L (brN pc t [] st σ) := by
  unfold brN
  split
  · exact br_re ..
  · rfl
theorem brS_re (pc : Nat) (t : Option Nat) (L : LO) (st : List AV) (σ : ST) : brS pc t L st σ = reL L (brS pc t [] st σ) := by
  unfold brS
  split
  · exact br_re ..
  · rfl
theorem brA_re (pc : Nat) (t : Option Nat) (L : LO) (e : Bool) (st : List AV) (σ : ST) : brA pc t L e st σ = reL L (brA pc t [] e st σ) := by
  unfold brA
  split
  · split
    · exact br_re ..
    · rfl
  · rfl
theorem tsw_re (pc : Nat) (L : LO) (dflt lo hi : Int) (offs : Array Int) (st : List AV) (σ : ST) : tsw pc L dflt lo hi offs st σ = reL L (tsw pc [] dflt lo hi offs st σ) := by
  unfold tsw
  split
  · split
    · exact br_re ..
    · split
      · exact br_re ..
      · rfl
  · rfl
theorem pfd_re (pc : Nat) (L : LO) (k : Nat) (cis : List Nat) (st : List AV) (σ : ST) : pfd pc L k cis st σ = reL L (pfd pc [] k cis st σ) := by
  unfold pfd
  repeat' split
  all_goals rfl
theorem asI_re (pc : Nat) (L : LO) (st : List AV) (σ : ST) : asI pc L st σ = reL L (asI pc [] st σ) := by
  unfold asI
  repeat' split
  all_goals rfl
theorem asB_re (pc : Nat) (L : LO) (st : List AV) (σ : ST) : asB pc L st σ = reL L (asB pc [] st σ) := by
  unfold asB
  repeat' split
  all_goals rfl
theorem asL_re (pc : Nat) (L : LO) (st : List AV) (σ : ST) : asL pc L st σ = reL L (asL pc [] st σ) := by
  unfold asL
  repeat' split
  all_goals rfl
theorem asA_re (pc : Nat) (L : LO) (st : List AV) (σ : ST) : asA pc L st σ = reL L (asA pc [] st σ) := by
  unfold asA
  repeat' split
  all_goals rfl
theorem nwa_re (pc : Nat) (L : LO) (ty : Option Nat) (st : List AV) (σ : ST) : nwa pc L ty st σ = reL L (nwa pc [] ty st σ) := by
  unfold nwa
  repeat' split
  all_goals rfl
theorem nwq_re (pc : Nat) (L : LO) (ty : Option Nat) (st : List AV) (σ : ST) : nwq pc L ty st σ = reL L (nwq pc [] ty st σ) := by
  unfold nwq
  repeat' split
  all_goals rfl
theorem nwm_re (pc : Nat) (L : LO) (st : List AV) (σ : ST) : nwm pc L st σ = reL L (nwm pc [] st σ) := by
  unfold nwm
  repeat' split
  all_goals rfl
theorem nwo_re (pc : Nat) (L : LO) (ci : Option Nat) (st : List AV) (σ : ST) : nwo pc L ci st σ = reL L (nwo pc [] ci st σ) := by
  unfold nwo
  repeat' split
  all_goals rfl
theorem cal_re (pc : Nat) (L : LO) (i : ClassFile.Instr) (m : Option (Nat × Nat × Nat × Nat)) (st : List AV) (σ : ST) : cal pc L i m st σ = reL L (cal pc [] i m st σ) := by
  unfold cal
  repeat' split
  all_goals rfl
theorem ret_re (L : LO) (rt : Nat) (st : List AV) (σ : ST) : ret1 rt st σ = reL L (ret1 rt st σ) := by
  unfold ret1
  repeat' split
  all_goals rfl
/-- which instructions look at the locals -/
def onL (i : ClassFile.Instr) : Bool := match i with
  | .iload _ | .iload_n _ | .lload _ | .lload_n _ | .aload _ | .aload_n _ | .istore _ | .istore_n _ | .lstore _ | .lstore_n _ | .astore _ | .astore_n _ | .iinc _ _ => true
  | _ => false
theorem stepI_re {mi pc len : Nat} {i : ClassFile.Instr} (h : onL i = false) (L : LO) (st : List AV) (σ : ST) : stepI mi pc i len L st σ = reL L (stepI mi pc i len [] st σ) := by
  cases i
  all_goals first
    | (cases h; done)
    | exact gs_re ..
    | exact br1_re ..
    | exact br2_re ..
    | exact brN_re ..
    | exact brS_re ..
    | exact br_re ..
    | exact tsw_re ..
    | exact asI_re ..
    | exact asB_re ..
    | exact asL_re ..
    | exact asA_re ..
    | exact nwa_re ..
    | exact nwq_re ..
    | exact nwo_re ..
    | exact cal_re ..
    | rfl
    | (rename_i c o; cases c <;> exact brA_re ..)
    | (simp only [stepI]; repeat' split
       all_goals first
         | exact gs_re ..
         | exact brA_re ..
         | exact pfd_re ..
         | exact nwm_re ..
         | exact ret_re ..
         | rfl)
theorem lw2_set {A B : LO} (h : lw2 A B) (k : Nat) (v : Option AV) : lw2 (A.set k v) (B.set k v) := by
  refine ⟨by rw [List.length_set, List.length_set]; exact h.1, fun j w hj => ?_⟩
  rw [List.getElem?_set] at hj ⊢
  rw [← h.1]
  by_cases e : k = j
  · rw [if_pos e] at hj ⊢
    exact hj
  · rw [if_neg e] at hj ⊢
    exact h.2 j w hj
theorem clrL_s (L : LO) (j : Nat) : clrL L (j + 1) = match L[j]? with | some (some (.inr (.inl _))) => L.set j none | _ => L := rfl
theorem lw2_clr {A B : LO} (h : lw2 A B) (k : Nat) (hk : k < A.length) (v : AV) : lw2 ((clrL A k).set k (some v)) ((clrL B k).set k (some v)) := by
  cases k with
  | zero => exact lw2_set h 0 _
  | succ j =>
    have key : lw2 (clrL A (j + 1)) (clrL B (j + 1)) := by
      refine ⟨?_, fun i w hi => ?_⟩
      · rw [clrL_s, clrL_s]
        split <;> split <;> simp [List.length_set, h.1]
      · rw [clrL_s] at hi ⊢
        have hij : ∀ w : AV, A[i]? = some (some w) → i ≠ j → B[i]? = some (some w) := fun w hw _ => h.2 i w hw
        split at hi
        · rename_i x hx
          rw [h.2 j _ hx]
          dsimp only
          rw [List.getElem?_set] at hi ⊢
          by_cases e : j = i
          · rw [if_pos e] at hi
            split at hi <;> cases hi
          · rw [if_neg e] at hi ⊢
            exact h.2 i w hi
        · rename_i hx
          split
          · rename_i y hy
            rw [List.getElem?_set]
            by_cases e : j = i
            · subst e
              have hB := h.2 j w hi
              rw [hy] at hB
              cases hB
              exact absurd hi (hx y)
            · rw [if_neg e]
              exact h.2 i w hi
          · exact h.2 i w hi
    exact lw2_set key _ _
theorem run_fg : ∀ (n : Nat) {d mi pc : Nat} {A B : LO} {st : List AV} {σ : ST} {x : RS × ST}, lw2 A B → run n d mi pc A st σ = some x → run n d mi pc B st σ = some x := by
  intro n
  induction n with
  | zero => intro d mi pc A B st σ x _ h; cases h
  | succ n ih =>
    intro d mi pc A B st σ x hAB h
    obtain ⟨i, len, so, hcd, hso, h⟩ := run_inv h
    have key : ∃ so', stepI mi pc i len B st σ = some so' ∧ ((∃ p A1 B1 s1 σ1, so = .inl ((p, A1, s1), σ1) ∧ so' = .inl ((p, B1, s1), σ1) ∧ lw2 A1 B1) ∨ (∃ cm as p s1, so = .inr (.inl (cm, as, (p, A, s1))) ∧ so' = .inr (.inl (cm, as, (p, B, s1)))) ∨ (∃ z, so = .inr (.inr z) ∧ so' = so)) := by
      cases hon : onL i with
      | false =>
        rw [stepI_re hon] at hso
        rw [stepI_re hon]
        cases h0 : stepI mi pc i len [] st σ with
        | none => rw [h0] at hso; cases hso
        | some so0 =>
          rw [h0] at hso
          rcases so0 with ⟨⟨p, l0, s1⟩, σ1⟩ | ⟨cm, as, ⟨p, l0, s1⟩⟩ | z
          · cases hso
            exact ⟨_, rfl, Or.inl ⟨p, A, B, s1, σ1, rfl, rfl, hAB⟩⟩
          · cases hso
            exact ⟨_, rfl, Or.inr (Or.inl ⟨cm, as, p, s1, rfl, rfl⟩)⟩
          · cases hso
            exact ⟨_, rfl, Or.inr (Or.inr ⟨z, rfl, rfl⟩)⟩
      | true =>
        have hld : ∀ {o1 o2 : Option (List AV)}, (∀ r, o1 = some r → o2 = some r) → gs (pc + len) A σ o1 = some so → ∃ so', gs (pc + len) B σ o2 = some so' ∧ ((∃ p A1 B1 s1 σ1, so = .inl ((p, A1, s1), σ1) ∧ so' = .inl ((p, B1, s1), σ1) ∧ lw2 A1 B1) ∨ (∃ cm as p s1, so = .inr (.inl (cm, as, (p, A, s1))) ∧ so' = .inr (.inl (cm, as, (p, B, s1)))) ∨ (∃ z, so = .inr (.inr z) ∧ so' = so)) := fun {o1 o2} ho hg => by
          cases ho1 : o1 with
          | none => rw [ho1] at hg; cases hg
          | some r =>
            rw [ho1] at hg
            rw [ho r ho1]
            cases hg
            exact ⟨_, rfl, Or.inl ⟨_, A, B, r, σ, rfl, rfl, hAB⟩⟩
        have hI : ∀ k r, ldI A k st = some r → ldI B k st = some r := fun k r hr => by
          unfold ldI at hr ⊢
          split at hr
          · rename_i y hy
            rw [hAB.2 k _ hy]
            exact hr
          · cases hr
        have hL : ∀ k r, ldL A k st = some r → ldL B k st = some r := fun k r hr => by
          unfold ldL at hr ⊢
          split at hr
          · rename_i y hy
            rw [hAB.2 k _ hy]
            exact hr
          · cases hr
        have hA : ∀ k r, ldA A k st = some r → ldA B k st = some r := fun k r hr => by
          unfold ldA at hr ⊢
          split at hr
          · rename_i y hy
            rw [hAB.2 k _ hy]
            exact hr
          · cases hr
        have sI : ∀ k, stI (pc + len) A k st σ = some so → ∃ so', stI (pc + len) B k st σ = some so' ∧ ((∃ p A1 B1 s1 σ1, so = .inl ((p, A1, s1), σ1) ∧ so' = .inl ((p, B1, s1), σ1) ∧ lw2 A1 B1) ∨ (∃ cm as p s1, so = .inr (.inl (cm, as, (p, A, s1))) ∧ so' = .inr (.inl (cm, as, (p, B, s1)))) ∨ (∃ z, so = .inr (.inr z) ∧ so' = so)) := fun k hs => by
          unfold stI at hs ⊢
          split at hs
          · rename_i y r
            split at hs
            · rename_i hk
              cases hs
              rw [if_pos (by rw [← hAB.1]; exact hk)]
              exact ⟨_, rfl, Or.inl ⟨_, _, _, _, σ, rfl, rfl, lw2_clr hAB k hk _⟩⟩
            · cases hs
          · cases hs
        have sA : ∀ k, stA (pc + len) A k st σ = some so → ∃ so', stA (pc + len) B k st σ = some so' ∧ ((∃ p A1 B1 s1 σ1, so = .inl ((p, A1, s1), σ1) ∧ so' = .inl ((p, B1, s1), σ1) ∧ lw2 A1 B1) ∨ (∃ cm as p s1, so = .inr (.inl (cm, as, (p, A, s1))) ∧ so' = .inr (.inl (cm, as, (p, B, s1)))) ∨ (∃ z, so = .inr (.inr z) ∧ so' = so)) := fun k hs => by
          unfold stA at hs ⊢
          split at hs
          · rename_i y r
            split at hs
            · rename_i hk
              cases hs
              rw [if_pos (by rw [← hAB.1]; exact hk)]
              exact ⟨_, rfl, Or.inl ⟨_, _, _, _, σ, rfl, rfl, lw2_clr hAB k hk _⟩⟩
            · cases hs
          · cases hs
        have sL : ∀ k, stL (pc + len) A k st σ = some so → ∃ so', stL (pc + len) B k st σ = some so' ∧ ((∃ p A1 B1 s1 σ1, so = .inl ((p, A1, s1), σ1) ∧ so' = .inl ((p, B1, s1), σ1) ∧ lw2 A1 B1) ∨ (∃ cm as p s1, so = .inr (.inl (cm, as, (p, A, s1))) ∧ so' = .inr (.inl (cm, as, (p, B, s1)))) ∨ (∃ z, so = .inr (.inr z) ∧ so' = so)) := fun k hs => by
          unfold stL at hs ⊢
          split at hs
          · rename_i y r
            split at hs
            · rename_i hk
              cases hs
              rw [if_pos (by rw [← hAB.1]; exact hk)]
              exact ⟨_, rfl, Or.inl ⟨_, _, _, _, σ, rfl, rfl, lw2_set (lw2_clr hAB k (by omega) _) _ _⟩⟩
            · cases hs
          · cases hs
        cases i
        all_goals first
          | (cases hon; done)
          | exact hld (hI _) hso
          | exact hld (hL _) hso
          | exact hld (hA _) hso
          | exact sI _ hso
          | exact sA _ hso
          | exact sL _ hso
          | skip
        rename_i k q
        have hso : inc (pc + len) A k q st σ = some so := hso
        show ∃ so', inc (pc + len) B k q st σ = some so' ∧ _
        unfold inc at hso ⊢
        split at hso
        · rename_i y hy
          cases hso
          rw [hAB.2 k _ hy]
          have hk : k < A.length := (List.getElem?_eq_some_iff.mp hy).1
          exact ⟨_, rfl, Or.inl ⟨_, _, _, st, σ, rfl, rfl, lw2_clr hAB k hk _⟩⟩
        · cases hso
    obtain ⟨so', hs', hk⟩ := key
    have hst : step mi pc B st σ = some so' := by unfold step; rw [hcd]; exact hs'
    simp only [run]
    rw [hst]
    rcases hk with ⟨p, A1, B1, s1, σ1, rfl, rfl, hl⟩ | ⟨cm, as, p, s1, rfl, rfl⟩ | ⟨z, rfl, rfl⟩
    · rcases h with ⟨fr, σ2, e1, h⟩ | ⟨_, _, _, _, e1, _⟩ | ⟨_, _, e1, _⟩ | ⟨_, _, e1, _⟩
      · cases e1
        exact ih hl h
      · cases e1
      · cases e1
      · cases e1
    · rcases h with ⟨fr, σ2, e1, h⟩ | ⟨cm2, as2, fr, d1, e1, rfl, y, hy, h⟩ | ⟨_, _, e1, _⟩ | ⟨_, _, e1, _⟩
      · cases e1
      · cases e1
        have hy2 : (if cm < 1000 then run n d1 cm 0 (iL (MX cm) as) [] σ else if d1 < 16 then none else BF cm as σ) = some y := by
          rcases hy with ⟨hc, hy⟩ | ⟨hc, h16, hy⟩
          · rw [if_pos hc]; exact hy
          · rw [if_neg (by omega), if_neg (by omega)]; exact hy
        simp only [hy2]
        obtain ⟨y1, σ2⟩ := y
        rcases h with ⟨v, hv, h⟩ | ⟨a, ix, ha, rfl, h⟩
        · cases hv
          exact ih hAB h
        · cases ha
          have hxo : XO mi pc a σ2 = HX mi pc a σ2 := by unfold XO; rw [hcd]
          rcases h with ⟨h9, hx, h⟩ | ⟨hx, rfl⟩
          · simp only [hxo, hx]
            exact ih hAB h
          · simp only [hxo, hx]
      · cases e1
      · cases e1
    · rcases h with ⟨fr, σ2, e1, h⟩ | ⟨_, _, _, _, e1, _⟩ | ⟨v, σ1, e1, rfl⟩ | ⟨a, σ1, e1, hd16, hw8, h⟩
      · cases e1
      · cases e1
      · cases e1
        rfl
      · cases e1
        have e0 : ¬ (d < 16 ∨ 8 < wt st) := by omega
        rcases h with ⟨h9, hx, h⟩ | ⟨hx, rfl⟩
        · simp only [if_neg e0, hx]
          exact ih hAB h
        · simp only [if_neg e0, hx]
/-- how a list of locals is forgotten: by looking -/
def fgB : LO → LO → Bool
  | [], [] => true
  | none :: r, _ :: q => fgB r q
  | some _ :: r, some _ :: q => fgB r q
  | _, _ => false
theorem G_fg {d mi pc : Nat} {A B : LO} {st : List AV} {τ : T2} {Q : RS → T2 → Prop} (h : lw2 A B) (k : G d mi pc A st τ Q) : G d mi pc B st τ Q := by
  obtain ⟨n, r, τ1, h1, h2⟩ := k
  exact ⟨n, r, τ1, run_fg n h h1, h2⟩
theorem lw2_nil : lw2 [] [] := ⟨rfl, fun _ _ h => by simp at h⟩
theorem lw2_k {A B : LO} (v : Option AV) (h : lw2 A B) : lw2 (v :: A) (v :: B) := by
  refine ⟨by simp [h.1], fun j w hj => ?_⟩
  cases j with
  | zero => exact hj
  | succ j => exact h.2 j w hj
theorem lw2_f {A B : LO} (v : Option AV) (h : lw2 A B) : lw2 (none :: A) (v :: B) := by
  refine ⟨by simp [h.1], fun j w hj => ?_⟩
  cases j with
  | zero => cases hj
  | succ j => exact h.2 j w hj
