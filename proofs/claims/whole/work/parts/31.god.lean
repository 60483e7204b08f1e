/-! EVERY INSTRUCTION THAT GOES ON WITHIN ITS METHOD -/
theorem lcm_ok {x y : Int} (hx : okJ x) (hy : okJ y) : lg_cmp (i6 x) (i6 y) = i3 (lcm x y) ∧ okI (lcm x y) := by
  have h1 := i6_lt hy hx
  have h2 := i6_eq hx hy
  unfold lg_cmp lcm
  by_cases a : y < x
  · rw [if_pos (h1.mpr a), if_neg (by omega), if_neg (by omega)]
    exact ⟨rfl, okI_1⟩
  · rw [if_neg (fun q => a (h1.mp q))]
    by_cases e : x = y
    · rw [if_pos (h2.mpr e), if_neg (by omega), if_pos e]
      exact ⟨rfl, okI_0⟩
    · rw [if_neg (fun q => e (h2.mp q)), if_pos (by omega)]
      exact ⟨rfl, by unfold okI; omega⟩
theorem cal_ne {pc : Nat} {L : LO} {i : ClassFile.Instr} {m : Option (Nat × Nat × Nat × Nat)} {st : List AV} {σ : ST} {x : FR × ST} : ¬ cal pc L i m st σ = some (.inl x) := by
  intro h
  unfold cal at h
  split at h
  · split at h <;> cases h
  · cases h
theorem ret_ne {rt : Nat} {st : List AV} {σ : ST} {x : FR × ST} : ¬ ret1 rt st σ = some (.inl x) := by
  intro h
  unfold ret1 at h
  split at h
  · split at h <;> cases h
  · cases h
section GOD
variable {p : Program} {l : Launch} {e : Env} {R : Room} {s s0 : State} {m : MethodId} {args a0 : Array Value} {below : List Frame} {meth : Method} {c : Code} {H : Heap} {locs : List Loc} {cells slots : Nat} {Q : State → Prop}
variable {b : ByteArray} {pc mi : Nat} {ls : Array Slot} {rest : List Value} {E : EP} {L : LO} {st st1 : List AV} {σ σ1 : ST} {fr : FR}
theorem go_stI {j n : Nat} (h : stI (pc + n) L j st σ = some (.inl (fr, σ1))) (hL : LR E L ls) (hs : okS st)
    (row : ∀ (x : Int) (r : List AV), j < L.length → (∀ ls' : Array Slot, lv_has ls' L.length ((j, .int (i3 x)) :: (toAL E L).filter (fun q => !(q.1 == j) && !(q.1 + 1 == j && q.2.category == 2))) → W p l e R s m args below meth c H locs cells slots Q (F0 m (pc + n) ls' (r.map (rel E)))) → W p l e R s m args below meth c H locs cells slots Q (F0 m pc ls (.int (i3 x) :: r.map (rel E))))
    (kk : ∀ ls' : Array Slot, σ1 = σ → LR E fr.2.1 ls' → okS fr.2.2 → W p l e R s m args below meth c H locs cells slots Q (F0 m fr.1 ls' (fr.2.2.map (rel E)))) : W p l e R s m args below meth c H locs cells slots Q (F0 m pc ls (st.map (rel E))) := by
  unfold stI at h
  split at h
  · rename_i x r
    split at h
    · rename_i hj
      cases h
      obtain ⟨ox, hs1⟩ := okS_cons hs
      exact row x r hj (fun ls' h' => kk ls' rfl (hL.set1 hj ox h') hs1)
    · cases h
  · cases h
theorem go_stL {j n : Nat} (h : stL (pc + n) L j st σ = some (.inl (fr, σ1))) (hL : LR E L ls) (hs : okS st)
    (row : ∀ (x : Int) (r : List AV), j + 1 < L.length → (∀ ls' : Array Slot, lv_has ls' L.length ((j, .long (i6 x)) :: (toAL E L).filter (fun q => !(q.1 == j) && (!(q.1 == j + 1) && !(q.1 + 1 == j && q.2.category == 2)))) → W p l e R s m args below meth c H locs cells slots Q (F0 m (pc + n) ls' (r.map (rel E)))) → W p l e R s m args below meth c H locs cells slots Q (F0 m pc ls (.long (i6 x) :: r.map (rel E))))
    (kk : ∀ ls' : Array Slot, σ1 = σ → LR E fr.2.1 ls' → okS fr.2.2 → W p l e R s m args below meth c H locs cells slots Q (F0 m fr.1 ls' (fr.2.2.map (rel E)))) : W p l e R s m args below meth c H locs cells slots Q (F0 m pc ls (st.map (rel E))) := by
  unfold stL at h
  split at h
  · rename_i x r
    split at h
    · rename_i hj
      cases h
      obtain ⟨ox, hs1⟩ := okS_cons hs
      exact row x r hj (fun ls' h' => kk ls' rfl (hL.set2 hj ox h') hs1)
    · cases h
  · cases h
theorem go_stA {j n : Nat} (h : stA (pc + n) L j st σ = some (.inl (fr, σ1))) (hL : LR E L ls) (hs : okS st)
    (row : ∀ (x : Nat) (r : List AV), j < L.length → (∀ ls' : Array Slot, lv_has ls' L.length ((j, .ref x) :: (toAL E L).filter (fun q => !(q.1 == j) && !(q.1 + 1 == j && q.2.category == 2))) → W p l e R s m args below meth c H locs cells slots Q (F0 m (pc + n) ls' (r.map (rel E)))) → W p l e R s m args below meth c H locs cells slots Q (F0 m pc ls (.ref x :: r.map (rel E))))
    (rowN : ∀ (r : List AV), j < L.length → (∀ ls' : Array Slot, lv_has ls' L.length ((j, .null) :: (toAL E L).filter (fun q => !(q.1 == j) && !(q.1 + 1 == j && q.2.category == 2))) → W p l e R s m args below meth c H locs cells slots Q (F0 m (pc + n) ls' (r.map (rel E)))) → W p l e R s m args below meth c H locs cells slots Q (F0 m pc ls (.null :: r.map (rel E))))
    (kk : ∀ ls' : Array Slot, σ1 = σ → LR E fr.2.1 ls' → okS fr.2.2 → W p l e R s m args below meth c H locs cells slots Q (F0 m fr.1 ls' (fr.2.2.map (rel E)))) : W p l e R s m args below meth c H locs cells slots Q (F0 m pc ls (st.map (rel E))) := by
  unfold stA at h
  split at h
  · rename_i x r
    split at h
    · rename_i hj
      cases h
      obtain ⟨ox, hs1⟩ := okS_cons hs
      cases x with
      | none => exact rowN r hj (fun ls' h' => kk ls' rfl (hL.set1 (v := .inr (.inr none)) hj trivial h') hs1)
      | some a => exact row _ r hj (fun ls' h' => kk ls' rfl (hL.set1 (v := .inr (.inr (some a))) hj trivial h') hs1)
    · cases h
  · cases h
theorem go_tsw {d lo hi : Int} {offs : Array Int} {len : Nat} (hx : p.tables.exec = Jvm.exec) (hb : c.code = b) (hd : decode b pc = .ok (.tableswitch d lo hi offs, len)) (h : tsw pc L d lo hi offs st σ = some (.inl (fr, σ1))) (hs : okS st)
    (kk : σ1 = σ → fr.2.1 = L → okS fr.2.2 → W p l e R s m args below meth c H locs cells slots Q (F0 m fr.1 ls (fr.2.2.map (rel E)))) : W p l e R s m args below meth c H locs cells slots Q (F0 m pc ls (st.map (rel E))) := by
  unfold tsw at h
  split at h
  · rename_i x r
    obtain ⟨ox, hs1⟩ := okS_cons hs
    have ox : okI x := ox
    split at h
    · rename_i hc
      obtain ⟨t0, ht, rfl, rfl⟩ := go_br h
      exact lv_tableOut (x := i3 x) hx hb hd (by rw [i3_toInt ox]; exact hc) (tgt_inv ht) (kk rfl rfl hs1)
    · rename_i hc
      split at h
      · rename_i o ho
        obtain ⟨t0, ht, rfl, rfl⟩ := go_br h
        exact lv_tableIn (x := i3 x) hx hb hd (by rw [i3_toInt ox]; omega) (by rw [i3_toInt ox]; omega) (by rw [i3_toInt ox]; exact ho) (tgt_inv ht) (kk rfl rfl hs1)
      · cases h
  · cases h
theorem go_brA (C : CX l a0 s0 E mi p s m meth c) (hb : c.code = b) {off : Int} {ee : Bool} (hd : (ee = true ∧ decode b pc = .ok (.if_acmp .eq off, 3)) ∨ (ee = false ∧ decode b pc = .ok (.if_acmp .ne off, 3))) (h : brA (pc + 3) (tgt pc off) L ee st σ = some (.inl (fr, σ1))) (hs : okS st)
    (kk : σ1 = σ → fr.2.1 = L → okS fr.2.2 → W p l e R s m args below meth c H locs cells slots Q (F0 m fr.1 ls (fr.2.2.map (rel E)))) : W p l e R s m args below meth c H locs cells slots Q (F0 m pc ls (st.map (rel E))) := by
  unfold brA at h
  split at h
  · rename_i y x r
    split at h
    · rename_i hc
      obtain ⟨rfl, hx⟩ := hc
      obtain ⟨-, hs1⟩ := okS_cons hs
      obtain ⟨-, hs2⟩ := okS_cons hs1
      obtain ⟨t0, ht, rfl, rfl⟩ := go_br h
      have ht := tgt_inv ht
      have kk := kk rfl rfl hs2
      have hlt : eX E 1 < eN E := C.1.2.2.2.2.2.2.1.2.2
      have hq : (some (adr E x) = some (adr E 1)) ↔ x = 1 := by
        refine ⟨fun q => ?_, fun q => by rw [q]⟩
        rcases hx with rfl | hx
        · rfl
        · have q := Option.some.inj q
          have e1 : adr E 1 = eX E 1 := rfl
          have := adr_ge (E := E) hx
          omega
      rcases hd with ⟨rfl, hd⟩ | ⟨rfl, hd⟩
      · refine lv_acmp_eq (rx := some (adr E x)) (ry := some (adr E 1)) C.2.1 hb hd ht (fun q => ?_) (fun q => ?_)
        · rw [if_pos (hq.mp q)] at kk; exact kk
        · rw [if_neg (fun z => q (hq.mpr z))] at kk; exact kk
      · refine lv_acmp_ne (rx := some (adr E x)) (ry := some (adr E 1)) C.2.1 hb hd ht (fun q => ?_) (fun q => ?_)
        · rw [if_neg (fun z => q (hq.mpr z))] at kk; exact kk
        · rw [if_pos (hq.mp q)] at kk; exact kk
    · cases h
  · cases h
set_option maxHeartbeats 4000000 in
theorem go_sound (C : CX l a0 s0 E mi p s m meth c) {i : ClassFile.Instr} {len : Nat} (hcd : CD mi pc = some (i, len)) (h : stepI mi pc i len L st σ = some (.inl (fr, σ1))) (hH : HS E σ H) (hz : s.heap.size ≤ H.size) (hl : ∀ q ∈ locs, AE E q.base) (hL : LR E L ls) (hs : okS st)
    (hcr : cells + (σ1.2.1 - σ.2.1) ≤ R.cells) (hsr : slots + (σ1.2.2 - σ.2.2) ≤ R.slots)
    (kk : ∀ (ls' : Array Slot) (H1 : Heap) (locs1 : List Loc), HS E σ1 H1 → s.heap.size ≤ H1.size → (∀ q ∈ locs1, AE E q.base) → LR E fr.2.1 ls' → okS fr.2.2 → W p l e R s m args below meth c H1 locs1 (cells + (σ1.2.1 - σ.2.1)) (slots + (σ1.2.2 - σ.2.2)) Q (F0 m fr.1 ls' (fr.2.2.map (rel E)))) : W p l e R s m args below meth c H locs cells slots Q (F0 m pc ls (st.map (rel E))) := by
  obtain ⟨b, hb, hd⟩ := C.dec hcd
  have hx := C.2.1
  have hok := CD_ok hcd
  have k1 : σ1.2 = σ.2 → ∀ (ls' : Array Slot) (H1 : Heap) (locs1 : List Loc), HS E σ1 H1 → s.heap.size ≤ H1.size → (∀ q ∈ locs1, AE E q.base) → LR E fr.2.1 ls' → okS fr.2.2 → W p l e R s m args below meth c H1 locs1 cells slots Q (F0 m fr.1 ls' (fr.2.2.map (rel E))) := by
    intro hq ls' H1 locs1 a1 a2 a3 a4 a5
    have := kk ls' H1 locs1 a1 a2 a3 a4 a5
    rw [hq, Nat.sub_self, Nat.sub_self, Nat.add_zero, Nat.add_zero] at this
    exact this
  have k0 : σ1 = σ → ∀ (ls' : Array Slot), LR E fr.2.1 ls' → okS fr.2.2 → W p l e R s m args below meth c H locs cells slots Q (F0 m fr.1 ls' (fr.2.2.map (rel E))) := by
    intro hq ls' a4 a5
    subst hq
    exact k1 rfl ls' H locs hH hz hl a4 a5
  cases i
  case aconst_null =>
    have h : gs (pc + len) L σ (some (.inr (.inr none) :: st)) = _ := h
    obtain ⟨st1, ho, rfl, rfl⟩ := gs_inv h
    have e1 : len = 1 := by simpa [iOK] using hok
    subst e1
    cases ho
    exact lv_null hx hb hd (k0 rfl ls hL (okS_push trivial hs))
  case iconst n =>
    have h : gs (pc + len) L σ (some (.inl n :: st)) = _ := h
    obtain ⟨st1, ho, rfl, rfl⟩ := gs_inv h
    simp only [iOK, Bool.and_eq_true, beq_iff_eq, decide_eq_true_eq] at hok
    obtain ⟨e1, e2⟩ := hok
    subst e1
    cases ho
    exact lv_iconst hx hb hd rfl (k0 rfl ls hL (okS_push (show okI n by unfold okI; omega) hs))
  case bipush n =>
    have h : gs (pc + len) L σ (some (.inl n :: st)) = _ := h
    obtain ⟨st1, ho, rfl, rfl⟩ := gs_inv h
    simp only [iOK, Bool.and_eq_true, beq_iff_eq, decide_eq_true_eq] at hok
    obtain ⟨e1, e2, e3⟩ := hok
    subst e1
    cases ho
    exact lv_bipush hx hb hd (i3_i8 e2 e3) (k0 rfl ls hL (okS_push (show okI n by unfold okI; omega) hs))
  case sipush n =>
    have h : gs (pc + len) L σ (some (.inl n :: st)) = _ := h
    obtain ⟨st1, ho, rfl, rfl⟩ := gs_inv h
    simp only [iOK, Bool.and_eq_true, beq_iff_eq, decide_eq_true_eq] at hok
    obtain ⟨e1, e2, e3⟩ := hok
    subst e1
    cases ho
    exact lv_sipush hx hb hd (i3_i16 e2 e3) (k0 rfl ls hL (okS_push (show okI n by unfold okI; omega) hs))
  case lconst n =>
    have h : gs (pc + len) L σ (some (.inr (.inl (n.val : Int)) :: st)) = _ := h
    obtain ⟨st1, ho, rfl, rfl⟩ := gs_inv h
    have e1 : len = 1 := by simpa [iOK] using hok
    subst e1
    cases ho
    exact lv_lconst hx hb hd rfl (k0 rfl ls hL (okS_push (show okJ _ by unfold okJ; omega) hs))
  case ldc ix =>
    obtain ⟨st1, ho, rfl, rfl⟩ := gs_inv h
    have e1 : len = 2 := by simpa [iOK] using hok
    subst e1
    exact go_ldc C hb (Or.inl ⟨rfl, rfl, hd⟩) ho hs (fun o => k0 rfl ls hL o)
  case ldc_w ix =>
    obtain ⟨st1, ho, rfl, rfl⟩ := gs_inv h
    have e1 : len = 3 := by simpa [iOK] using hok
    subst e1
    exact go_ldc C hb (Or.inr (Or.inl ⟨rfl, rfl, hd⟩)) ho hs (fun o => k0 rfl ls hL o)
  case ldc2_w ix =>
    obtain ⟨st1, ho, rfl, rfl⟩ := gs_inv h
    have e1 : len = 3 := by simpa [iOK] using hok
    subst e1
    exact go_ldc C hb (Or.inr (Or.inr ⟨rfl, rfl, hd⟩)) ho hs (fun o => k0 rfl ls hL o)
  case iload j =>
    obtain ⟨st1, ho, rfl, rfl⟩ := gs_inv h
    have e1 : len = 2 := by simpa [iOK] using hok
    subst e1
    exact go_ldI ho hL hs (fun x h1 w => lv_iload hx hb hd h1 w) (fun o => k0 rfl ls hL o)
  case iload_n j =>
    obtain ⟨st1, ho, rfl, rfl⟩ := gs_inv h
    have e1 : len = 1 := by simpa [iOK] using hok
    subst e1
    exact go_ldI ho hL hs (fun x h1 w => lv_iload_n hx hb hd rfl h1 w) (fun o => k0 rfl ls hL o)
  case lload j =>
    obtain ⟨st1, ho, rfl, rfl⟩ := gs_inv h
    have e1 : len = 2 := by simpa [iOK] using hok
    subst e1
    exact go_ldL ho hL hs (fun x h1 w => lv_lload hx hb hd h1 w) (fun o => k0 rfl ls hL o)
  case lload_n j =>
    obtain ⟨st1, ho, rfl, rfl⟩ := gs_inv h
    have e1 : len = 1 := by simpa [iOK] using hok
    subst e1
    exact go_ldL ho hL hs (fun x h1 w => lv_lload_n hx hb hd rfl h1 w) (fun o => k0 rfl ls hL o)
  case aload j =>
    obtain ⟨st1, ho, rfl, rfl⟩ := gs_inv h
    have e1 : len = 2 := by simpa [iOK] using hok
    subst e1
    exact go_ldA ho hL hs (fun x h1 w => lv_aload hx hb hd h1 w) (fun h1 w => lv_aloadN hx hb hd h1 w) (fun o => k0 rfl ls hL o)
  case aload_n j =>
    obtain ⟨st1, ho, rfl, rfl⟩ := gs_inv h
    have e1 : len = 1 := by simpa [iOK] using hok
    subst e1
    exact go_ldA ho hL hs (fun x h1 w => lv_aload_n hx hb hd rfl h1 w) (fun h1 w => lv_aload_nN hx hb hd rfl h1 w) (fun o => k0 rfl ls hL o)
  case istore j =>
    have e1 : len = 2 := by simpa [iOK] using hok
    subst e1
    exact go_stI (n := 2) h hL hs (fun x r hj w => lv_istore hx hb hd hL.has hj rfl w) (fun ls' q a1 a2 => k0 q ls' a1 a2)
  case istore_n j =>
    have e1 : len = 1 := by simpa [iOK] using hok
    subst e1
    exact go_stI (n := 1) h hL hs (fun x r hj w => lv_istore_n hx hb hd rfl hL.has hj rfl w) (fun ls' q a1 a2 => k0 q ls' a1 a2)
  case lstore j =>
    have e1 : len = 2 := by simpa [iOK] using hok
    subst e1
    exact go_stL (n := 2) h hL hs (fun x r hj w => lv_lstore hx hb hd hL.has hj rfl w) (fun ls' q a1 a2 => k0 q ls' a1 a2)
  case lstore_n j =>
    have e1 : len = 1 := by simpa [iOK] using hok
    subst e1
    exact go_stL (n := 1) h hL hs (fun x r hj w => lv_lstore_n hx hb hd rfl hL.has hj rfl w) (fun ls' q a1 a2 => k0 q ls' a1 a2)
  case astore j =>
    have e1 : len = 2 := by simpa [iOK] using hok
    subst e1
    exact go_stA (n := 2) h hL hs (fun x r hj w => lv_astore hx hb hd hL.has hj rfl w) (fun r hj w => lv_astoreN hx hb hd hL.has hj rfl w) (fun ls' q a1 a2 => k0 q ls' a1 a2)
  case astore_n j =>
    have e1 : len = 1 := by simpa [iOK] using hok
    subst e1
    exact go_stA (n := 1) h hL hs (fun x r hj w => lv_astore_n hx hb hd rfl hL.has hj rfl w) (fun r hj w => lv_astore_nN hx hb hd rfl hL.has hj rfl w) (fun ls' q a1 a2 => k0 q ls' a1 a2)
  case iinc j n =>
    have e1 : len = 3 := by simpa [iOK] using hok
    subst e1
    change inc (pc + 3) L j n st σ = _ at h
    unfold inc at h
    split at h
    · rename_i x hj
      cases h
      have hlt : j < L.length := (List.getElem?_eq_some_iff.mp hj).1
      obtain ⟨k9, hk9⟩ := List.getElem?_of_mem (mem_toAL (E := E) hj)
      refine lv_iinc (x := i3 x) (v := i3 (wr (x + n))) hx hb hd hL.has hk9 (i3_add x n) hlt rfl (fun ls' h' => ?_)
      exact k0 rfl ls' (hL.set1 (v := .inl (wr (x + n))) hlt (okI_wr _) h') hs
    · cases h
  case iadd =>
    obtain ⟨st1, ho, rfl, rfl⟩ := gs_inv h
    have e1 : len = 1 := by simpa [iOK] using hok
    subst e1
    exact go_p2 (fun _ _ => okI_wr _) ho hs (fun x y r ox oy w => lv_iadd hx hb hd (by rw [i3_add]; exact w)) (fun o => k0 rfl ls hL o)
  case isub =>
    obtain ⟨st1, ho, rfl, rfl⟩ := gs_inv h
    have e1 : len = 1 := by simpa [iOK] using hok
    subst e1
    exact go_p2 (fun _ _ => okI_wr _) ho hs (fun x y r ox oy w => lv_isub hx hb hd (by rw [i3_sub]; exact w)) (fun o => k0 rfl ls hL o)
  case imul =>
    obtain ⟨st1, ho, rfl, rfl⟩ := gs_inv h
    have e1 : len = 1 := by simpa [iOK] using hok
    subst e1
    exact go_p2 (fun _ _ => okI_wr _) ho hs (fun x y r ox oy w => lv_imul hx hb hd (by rw [i3_mul]; exact w)) (fun o => k0 rfl ls hL o)
  case iand =>
    obtain ⟨st1, ho, rfl, rfl⟩ := gs_inv h
    have e1 : len = 1 := by simpa [iOK] using hok
    subst e1
    exact go_p2 (fun _ _ => okI_of _) ho hs (fun x y r ox oy w => lv_iand hx hb hd (by rw [i3_of] at w; exact w)) (fun o => k0 rfl ls hL o)
  case ior =>
    obtain ⟨st1, ho, rfl, rfl⟩ := gs_inv h
    have e1 : len = 1 := by simpa [iOK] using hok
    subst e1
    exact go_p2 (fun _ _ => okI_of _) ho hs (fun x y r ox oy w => lv_ior hx hb hd (by rw [i3_of] at w; exact w)) (fun o => k0 rfl ls hL o)
  case ixor =>
    obtain ⟨st1, ho, rfl, rfl⟩ := gs_inv h
    have e1 : len = 1 := by simpa [iOK] using hok
    subst e1
    exact go_p2 (fun _ _ => okI_of _) ho hs (fun x y r ox oy w => lv_ixor hx hb hd (by rw [i3_of] at w; exact w)) (fun o => k0 rfl ls hL o)
  case ishl =>
    obtain ⟨st1, ho, rfl, rfl⟩ := gs_inv h
    have e1 : len = 1 := by simpa [iOK] using hok
    subst e1
    exact go_p2 (fun _ _ => okI_of _) ho hs (fun x y r ox oy w => lv_ishl hx hb hd (by rw [i3_of] at w; exact w)) (fun o => k0 rfl ls hL o)
  case ishr =>
    obtain ⟨st1, ho, rfl, rfl⟩ := gs_inv h
    have e1 : len = 1 := by simpa [iOK] using hok
    subst e1
    exact go_p2 (fun _ _ => okI_of _) ho hs (fun x y r ox oy w => lv_ishr hx hb hd (by rw [i3_of] at w; exact w)) (fun o => k0 rfl ls hL o)
  case iushr =>
    obtain ⟨st1, ho, rfl, rfl⟩ := gs_inv h
    have e1 : len = 1 := by simpa [iOK] using hok
    subst e1
    exact go_p2 (fun _ _ => okI_of _) ho hs (fun x y r ox oy w => lv_iushr hx hb hd (by rw [i3_of]) w) (fun o => k0 rfl ls hL o)
  case idiv =>
    have e1 : len = 1 := by simpa [iOK] using hok
    subst e1
    simp only [stepI] at h
    split at h
    · rename_i y r0
      split at h
      · cases h
      · rename_i hy
        obtain ⟨st1, ho, rfl, rfl⟩ := gs_inv h
        obtain ⟨x, y2, r, e3, rfl⟩ := p2_inv ho
        cases e3
        obtain ⟨oy, hs1⟩ := okS_cons hs
        obtain ⟨ox, hs2⟩ := okS_cons hs1
        have w : W p l e R s m args below meth c H locs cells slots Q (F0 m (pc + 1) ls (.int (i3 (zdiv x y)) :: r.map (rel E))) := k0 rfl ls hL (okS_push (show okI _ from okI_of _) hs2)
        unfold zdiv at w
        rw [i3_of] at w
        exact lv_idiv (x := i3 x) (y := i3 y) hx hb hd (fun q => hy ((i3_eq oy okI_0).mp q)) w
    · cases h
  case irem =>
    have e1 : len = 1 := by simpa [iOK] using hok
    subst e1
    simp only [stepI] at h
    split at h
    · rename_i y r0
      split at h
      · cases h
      · rename_i hy
        obtain ⟨st1, ho, rfl, rfl⟩ := gs_inv h
        obtain ⟨x, y2, r, e3, rfl⟩ := p2_inv ho
        cases e3
        obtain ⟨oy, hs1⟩ := okS_cons hs
        obtain ⟨ox, hs2⟩ := okS_cons hs1
        have w : W p l e R s m args below meth c H locs cells slots Q (F0 m (pc + 1) ls (.int (i3 (zrem x y)) :: r.map (rel E))) := k0 rfl ls hL (okS_push (show okI _ from okI_of _) hs2)
        unfold zrem at w
        rw [i3_of] at w
        exact lv_irem (x := i3 x) (y := i3 y) hx hb hd (fun q => hy ((i3_eq oy okI_0).mp q)) w
    · cases h
  case ladd =>
    obtain ⟨st1, ho, rfl, rfl⟩ := gs_inv h
    have e1 : len = 1 := by simpa [iOK] using hok
    subst e1
    exact go_q2 (fun _ _ => okJ_wl _) ho hs (fun x y r ox oy w => lv_ladd hx hb hd (by rw [i6_add]; exact w)) (fun o => k0 rfl ls hL o)
  case lsub =>
    obtain ⟨st1, ho, rfl, rfl⟩ := gs_inv h
    have e1 : len = 1 := by simpa [iOK] using hok
    subst e1
    exact go_q2 (fun _ _ => okJ_wl _) ho hs (fun x y r ox oy w => lv_lsub hx hb hd (by rw [i6_sub]; exact w)) (fun o => k0 rfl ls hL o)
  case land =>
    obtain ⟨st1, ho, rfl, rfl⟩ := gs_inv h
    have e1 : len = 1 := by simpa [iOK] using hok
    subst e1
    exact go_q2 (fun _ _ => okJ_of _) ho hs (fun x y r ox oy w => lv_land hx hb hd (by rw [i6_of] at w; exact w)) (fun o => k0 rfl ls hL o)
  case lor =>
    obtain ⟨st1, ho, rfl, rfl⟩ := gs_inv h
    have e1 : len = 1 := by simpa [iOK] using hok
    subst e1
    exact go_q2 (fun _ _ => okJ_of _) ho hs (fun x y r ox oy w => lv_lor hx hb hd (by rw [i6_of] at w; exact w)) (fun o => k0 rfl ls hL o)
  case lshl =>
    obtain ⟨st1, ho, rfl, rfl⟩ := gs_inv h
    have e1 : len = 1 := by simpa [iOK] using hok
    subst e1
    exact go_q1 (fun _ _ => okJ_of _) ho hs (fun x y r ox oy w => lv_lshl hx hb hd (by rw [i6_of]) w) (fun o => k0 rfl ls hL o)
  case lshr =>
    obtain ⟨st1, ho, rfl, rfl⟩ := gs_inv h
    have e1 : len = 1 := by simpa [iOK] using hok
    subst e1
    exact go_q1 (fun _ _ => okJ_of _) ho hs (fun x y r ox oy w => lv_lshr hx hb hd (by rw [i6_of]) w) (fun o => k0 rfl ls hL o)
  case lushr =>
    obtain ⟨st1, ho, rfl, rfl⟩ := gs_inv h
    have e1 : len = 1 := by simpa [iOK] using hok
    subst e1
    exact go_q1 (fun _ _ => okJ_of _) ho hs (fun x y r ox oy w => lv_lushr hx hb hd (by rw [i6_of]) w) (fun o => k0 rfl ls hL o)
  case lcmp =>
    obtain ⟨st1, ho, rfl, rfl⟩ := gs_inv h
    have e1 : len = 1 := by simpa [iOK] using hok
    subst e1
    split at ho
    · rename_i y x r
      cases ho
      obtain ⟨oy, hs1⟩ := okS_cons hs
      obtain ⟨ox, hs2⟩ := okS_cons hs1
      obtain ⟨w1, w2⟩ := lcm_ok ox oy
      refine W.lcmp (x := i6 x) (y := i6 y) hx hb hd ?_
      rw [w1]
      exact k0 rfl ls hL (okS_push w2 hs2)
    · cases ho
  case i2l =>
    obtain ⟨st1, ho, rfl, rfl⟩ := gs_inv h
    have e1 : len = 1 := by simpa [iOK] using hok
    subst e1
    split at ho
    · rename_i x r
      cases ho
      obtain ⟨ox, hs1⟩ := okS_cons hs
      have ox : okI x := ox
      exact lv_i2l (x := i3 x) hx hb hd (i6_i3 ox) (k0 rfl ls hL (okS_push (show okJ x by unfold okI at ox; unfold okJ; omega) hs1))
    · cases ho
  case l2i =>
    obtain ⟨st1, ho, rfl, rfl⟩ := gs_inv h
    have e1 : len = 1 := by simpa [iOK] using hok
    subst e1
    split at ho
    · rename_i x r
      cases ho
      obtain ⟨ox, hs1⟩ := okS_cons hs
      exact lv_l2i (x := i6 x) hx hb hd (i3_i6 ox) (k0 rfl ls hL (okS_push (show okI _ from okI_wr x) hs1))
    · cases ho
  case i2b =>
    obtain ⟨st1, ho, rfl, rfl⟩ := gs_inv h
    have e1 : len = 1 := by simpa [iOK] using hok
    subst e1
    split at ho
    · rename_i x r
      cases ho
      obtain ⟨ox, hs1⟩ := okS_cons hs
      exact lv_i2b (x := i3 x) (v := i3 (zbyt x)) hx hb hd (by unfold zbyt; rw [i3_of]) (k0 rfl ls hL (okS_push (show okI _ from okI_of _) hs1))
    · cases ho
  case dup =>
    obtain ⟨st1, ho, rfl, rfl⟩ := gs_inv h
    have e1 : len = 1 := by simpa [iOK] using hok
    subst e1
    split at ho
    · rename_i v r
      split at ho
      · cases ho
      · rename_i hlg
        cases ho
        obtain ⟨ov, hs1⟩ := okS_cons hs
        exact lv_dup hx hb hd (by rw [rel_cat, if_neg hlg]) (k0 rfl ls hL (okS_push ov hs))
    · cases ho
  case dup_x1 =>
    obtain ⟨st1, ho, rfl, rfl⟩ := gs_inv h
    have e1 : len = 1 := by simpa [iOK] using hok
    subst e1
    split at ho
    · rename_i v w r
      split at ho
      · cases ho
      · rename_i hlg
        cases ho
        simp only [Bool.or_eq_true, not_or] at hlg
        obtain ⟨ov, hs1⟩ := okS_cons hs
        obtain ⟨ow, hs2⟩ := okS_cons hs1
        exact lv_dup_x1 hx hb hd (by rw [rel_cat, if_neg hlg.1]) (by rw [rel_cat, if_neg hlg.2]) (k0 rfl ls hL (okS_push ov (okS_push ow (okS_push ov hs2))))
    · cases ho
  case dup2 =>
    obtain ⟨st1, ho, rfl, rfl⟩ := gs_inv h
    have e1 : len = 1 := by simpa [iOK] using hok
    subst e1
    split at ho
    · rename_i v w r
      split at ho
      · cases ho
      · rename_i hlg
        cases ho
        simp only [Bool.or_eq_true, not_or] at hlg
        obtain ⟨ov, hs1⟩ := okS_cons hs
        obtain ⟨ow, hs2⟩ := okS_cons hs1
        exact lv_dup2_11 hx hb hd (by rw [rel_cat, if_neg hlg.1]) (by rw [rel_cat, if_neg hlg.2]) (k0 rfl ls hL (okS_push ov (okS_push ow hs)))
    · cases ho
  case pop =>
    obtain ⟨st1, ho, rfl, rfl⟩ := gs_inv h
    have e1 : len = 1 := by simpa [iOK] using hok
    subst e1
    split at ho
    · rename_i v r
      split at ho
      · cases ho
      · rename_i hlg
        cases ho
        obtain ⟨ov, hs1⟩ := okS_cons hs
        exact lv_pop hx hb hd (by rw [rel_cat, if_neg hlg]) (k0 rfl ls hL hs1)
    · cases ho
  case goto o =>
    have e1 : len = 3 := by simpa [iOK] using hok
    subst e1
    obtain ⟨t0, ht, rfl, rfl⟩ := go_br h
    exact lv_goto hx hb hd (tgt_inv ht) (k0 rfl ls hL hs)
  case ifCond cnd o =>
    have e1 : len = 3 := by simpa [iOK] using hok
    subst e1
    exact go_br1 hx hb hd h hs (fun q a1 a2 => k0 q ls (by rw [a1]; exact hL) a2)
  case if_icmp cnd o =>
    have e1 : len = 3 := by simpa [iOK] using hok
    subst e1
    exact go_br2 hx hb hd h hs (fun q a1 a2 => k0 q ls (by rw [a1]; exact hL) a2)
  case ifnull o =>
    have e1 : len = 3 := by simpa [iOK] using hok
    subst e1
    change brN _ _ _ _ _ = _ at h
    unfold brN at h
    split at h
    · rename_i x r
      obtain ⟨-, hs1⟩ := okS_cons hs
      obtain ⟨t0, ht, rfl, rfl⟩ := go_br h
      cases x with
      | none => exact lv_ifnullN hx hb hd (tgt_inv ht) (k0 rfl ls hL hs1)
      | some a => exact lv_ifnull hx hb hd (k0 rfl ls hL hs1)
    · cases h
  case ifnonnull o =>
    have e1 : len = 3 := by simpa [iOK] using hok
    subst e1
    change brS _ _ _ _ _ = _ at h
    unfold brS at h
    split at h
    · rename_i x r
      obtain ⟨-, hs1⟩ := okS_cons hs
      obtain ⟨t0, ht, rfl, rfl⟩ := go_br h
      cases x with
      | none => exact lv_ifnonnullN hx hb hd (k0 rfl ls hL hs1)
      | some a => exact lv_ifnonnull hx hb hd (tgt_inv ht) (k0 rfl ls hL hs1)
    · cases h
  case if_acmp cnd o =>
    have e1 : len = 3 := by simpa [iOK] using hok
    subst e1
    cases cnd with
    | eq => exact go_brA C hb (Or.inl ⟨rfl, hd⟩) h hs (fun q a1 a2 => k0 q ls (by rw [a1]; exact hL) a2)
    | ne => exact go_brA C hb (Or.inr ⟨rfl, hd⟩) h hs (fun q a1 a2 => k0 q ls (by rw [a1]; exact hL) a2)
  case tableswitch d lo hi offs =>
    exact go_tsw hx hb hd h hs (fun q a1 a2 => k0 q ls (by rw [a1]; exact hL) a2)
  case getfield ix =>
    have e1 : len = 3 := by simpa [iOK] using hok
    subst e1
    simp only [stepI] at h
    split at h
    · rename_i k cis tag hf
      obtain ⟨st1, ho, rfl, rfl⟩ := gs_inv h
      exact go_get C hb hd hf ho hH hs (fun o => k0 rfl ls hL o)
    · cases h
  case putfield ix =>
    have e1 : len = 3 := by simpa [iOK] using hok
    subst e1
    simp only [stepI] at h
    split at h
    · rename_i k cis tag hf
      refine go_put C hb hd hf (PF_at hcd) h hH hz hl hs (fun H1 locs1 q1 q2 a1 a2 a3 a4 => ?_)
      have w := k1 q1 ls H1 locs1 a1 a2 a3 (by rw [q2]; exact hL) a4
      rw [q2] at w
      exact w
    · cases h
  case getstatic ix =>
    have e1 : len = 3 := by simpa [iOK] using hok
    subst e1
    obtain ⟨st1, ho, rfl, rfl⟩ := gs_inv h
    obtain ⟨v, hv, rfl⟩ := Option.map_eq_some_iff.mp ho
    exact go_gst C hb hd hv hH hz hl hs (fun o => k0 rfl ls hL o)
  case arraylength =>
    have e1 : len = 1 := by simpa [iOK] using hok
    subst e1
    obtain ⟨st1, ho, rfl, rfl⟩ := gs_inv h
    exact go_al C hb hd ho hH hz hl hs (fun o => k0 rfl ls hL o)
  case iaload =>
    have e1 : len = 1 := by simpa [iOK] using hok
    subst e1
    obtain ⟨st1, ho, rfl, rfl⟩ := gs_inv h
    exact go_ald C hb (Or.inl ⟨rfl, hd⟩) ho hH hl hs (fun o => k0 rfl ls hL o)
  case baload =>
    have e1 : len = 1 := by simpa [iOK] using hok
    subst e1
    obtain ⟨st1, ho, rfl, rfl⟩ := gs_inv h
    exact go_ald C hb (Or.inr ⟨rfl, hd⟩) ho hH hl hs (fun o => k0 rfl ls hL o)
  case laload =>
    have e1 : len = 1 := by simpa [iOK] using hok
    subst e1
    obtain ⟨st1, ho, rfl, rfl⟩ := gs_inv h
    exact go_aldL C hb hd ho hH hs (fun o => k0 rfl ls hL o)
  case aaload =>
    have e1 : len = 1 := by simpa [iOK] using hok
    subst e1
    obtain ⟨st1, ho, rfl, rfl⟩ := gs_inv h
    exact go_aldA C hb hd ho hH hs (fun o => k0 rfl ls hL o)
  case iastore =>
    have e1 : len = 1 := by simpa [iOK] using hok
    subst e1
    refine go_asI C hb hd h hH hz hl hs (fun H1 locs1 q1 q2 a1 a2 a3 a4 => ?_)
    have w := k1 q1 ls H1 locs1 a1 a2 a3 (by rw [q2]; exact hL) a4
    rw [q2] at w
    exact w
  case bastore =>
    have e1 : len = 1 := by simpa [iOK] using hok
    subst e1
    refine go_asB C hb hd h hH hz hl hs (fun H1 locs1 q1 q2 a1 a2 a3 a4 => ?_)
    have w := k1 q1 ls H1 locs1 a1 a2 a3 (by rw [q2]; exact hL) a4
    rw [q2] at w
    exact w
  case lastore =>
    have e1 : len = 1 := by simpa [iOK] using hok
    subst e1
    refine go_asL C hb hd h hH hz hl hs (fun H1 locs1 q1 q2 a1 a2 a3 a4 => ?_)
    have w := k1 q1 ls H1 locs1 a1 a2 a3 (by rw [q2]; exact hL) a4
    rw [q2] at w
    exact w
  case aastore =>
    have e1 : len = 1 := by simpa [iOK] using hok
    subst e1
    refine go_asA C hb hd h hH hz hl hs (fun H1 locs1 q1 q2 a1 a2 a3 a4 => ?_)
    have w := k1 q1 ls H1 locs1 a1 a2 a3 (by rw [q2]; exact hL) a4
    rw [q2] at w
    exact w
  case newarray t =>
    have e1 : len = 2 := by simpa [iOK] using hok
    subst e1
    refine go_nwa C hb hd h hH hz hs hcr hsr (fun H1 q2 a1 a2 a4 => ?_)
    have w := kk ls H1 locs a1 a2 hl (by rw [q2]; exact hL) a4
    rw [q2] at w
    exact w
  case anewarray ix =>
    have e1 : len = 3 := by simpa [iOK] using hok
    subst e1
    refine go_nwq C hb hd h hH hz hs hcr hsr (fun H1 q2 a1 a2 a4 => ?_)
    have w := kk ls H1 locs a1 a2 hl (by rw [q2]; exact hL) a4
    rw [q2] at w
    exact w
  case new ix =>
    have e1 : len = 3 := by simpa [iOK] using hok
    subst e1
    refine go_nwo C hb hd h hH hz hs hcr hsr (fun H1 q2 a1 a2 a4 => ?_)
    have w := kk ls H1 locs a1 a2 hl (by rw [q2]; exact hL) a4
    rw [q2] at w
    exact w
  case multianewarray ix dm =>
    have e1 : len = 4 := by simpa [iOK] using hok
    subst e1
    simp only [stepI] at h
    split at h
    · rename_i hq
      obtain ⟨rfl, hmi, rfl⟩ := hq
      refine go_nwm C hb hmi hd h hH hz hs hcr hsr (fun H1 q2 a1 a2 a4 => ?_)
      have w := kk ls H1 locs a1 a2 hl (by rw [q2]; exact hL) a4
      rw [q2] at w
      exact w
    · cases h
  case checkcast ix =>
    have e1 : len = 3 := by simpa [iOK] using hok
    subst e1
    obtain ⟨st1, ho, rfl, rfl⟩ := gs_inv h
    exact go_cst C hb hd ho hH hs (fun o => k0 rfl ls hL o)
  case invokestatic ix => exact absurd h cal_ne
  case invokespecial ix => exact absurd h cal_ne
  case invokevirtual ix => exact absurd h cal_ne
  case invokeinterface ix n => exact absurd h cal_ne
  case return_ =>
    simp only [stepI] at h
    split at h
    · split at h <;> cases h
    · cases h
  case ireturn =>
    simp only [stepI] at h
    split at h
    · exact absurd h ret_ne
    · cases h
  case lreturn =>
    simp only [stepI] at h
    split at h
    · exact absurd h ret_ne
    · cases h
  case areturn =>
    simp only [stepI] at h
    split at h
    · exact absurd h ret_ne
    · cases h
  case athrow =>
    simp only [stepI] at h
    split at h
    · split at h <;> cases h
    · cases h
  all_goals (simp only [stepI] at h; cases h)
end GOD
