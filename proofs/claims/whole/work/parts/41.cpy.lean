/-! System.arraycopy -/
theorem cpy_all : (allT MLs fun o ix e => !(e.1 == 1003) || (o == 27 && ix == 150)) = true := by decide +kernel
theorem cpy_w : wAt (3, 106) = some (.methodLink (oN 27) 150 arraycopyName) ∧ wAt (3, 108) = some (.native arraycopyName) ∧ wAt (3, 107) = some (.static arraycopyName) ∧ wAt (1, 26) = some (.initialized "java/lang/System") := by decide +kernel
theorem cpy_at {mi ix na rc kd : Nat} (h : ML mi ix = some (1003, na, rc, kd)) : OWs[mi]? = some 27 ∧ ix = 150 := by
  obtain ⟨o, h1, h2⟩ := allT_at cpy_all h
  simp only [beq_self_eq_true, Bool.not_true, Bool.false_or, Bool.and_eq_true, beq_iff_eq] at h2
  rw [h2.1] at h1
  exact ⟨h1, h2.2⟩
theorem fits_nv {ty : Nat} {x : Int} (ht : ty < 4) (h : okn ty x) : fits (TYS ty) (nv ty x) = true := by
  match ty, ht with
  | 0, _ => rfl
  | 1, _ =>
    have h : -128 ≤ x ∧ x ≤ 127 := h
    have hx : okI x := by unfold okI; omega
    show fits .byte (.int (i3 x)) = true
    simp [fits, narrow, i3_toInt hx]
    have a1 : i3 (-128) ≤ i3 x := (i3_le (by unfold okI; omega) hx).mpr h.1
    have a2 : i3 x ≤ i3 127 := (i3_le hx (by unfold okI; omega)).mpr h.2
    exact ⟨a1, a2⟩
  | 2, _ =>
    have h : x = 0 ∨ x = 1 := h
    rcases h with rfl | rfl
    · show fits .boolean (.int (i3 0)) = true
      decide
    · show fits .boolean (.int (i3 1)) = true
      decide
  | 3, _ => rfl
section CPY
variable {p : Program} {l : Launch} {e : Env} {R : Room} {s s0 : State} {m : MethodId} {args a0 : Array Value} {below : List Frame} {meth : Method} {c : Code} {H : Heap} {locs : List Loc} {cells slots : Nat} {Q : State → Prop}
variable {b : ByteArray} {pc mi : Nat} {ls : Array Slot} {E : EP} {rest : List AV} {ix na rc kd : Nat} {σ σ1 : ST}
theorem b1003 (C : CX l a0 s0 E mi p s m meth c) (hb : c.code = b) (hd : decode b pc = .ok (.invokestatic ix, 3)) (hml : ML mi ix = some (1003, na, rc, kd)) {a q : Nat} {sp dp n : Int} (o1 : okI sp) (o2 : okI dp) (o3 : okI n) (hB : bArr σ a q sp dp n = some σ1) (hH : HS E σ H) (hl : ∀ q ∈ locs, AE E q.base) (hwt : wt rest ≤ 8) (hsz : ls.size = c.maxLocals) (hfr : 17 ≤ R.frames) (hlo : 680 ≤ R.locals)
    (kk : ∀ (H1 : Heap) (locs1 : List Loc), HS E σ1 H1 → (∀ q ∈ locs1, AE E q.base) → W p l e R s m args below meth c H1 locs1 cells slots Q (F0 m (pc + 3) ls (rest.map (rel E)))) : W p l e R s m args below meth c H locs cells slots Q (F0 m pc ls (.int (i3 n) :: .int (i3 dp) :: .ref (adr E q) :: .int (i3 sp) :: .ref (adr E a) :: rest.map (rel E))) := by
  obtain ⟨h1, rfl⟩ := cpy_at hml
  have hsum : ((rest.map (rel E)).map fun v => v.category).sum ≤ 8 := by rw [wt_cat]; exact hwt
  unfold bArr at hB
  split at hB
  · cases hB
  · split at hB
    · rename_i hne t ln f u mn g ha hq
      split at hB
      · rename_i hc
        obtain ⟨rfl, ht, p1, p2, p3, p4, p5⟩ := hc
        cases hB
        obtain ⟨x1, x2, x3⟩ := hH.num ha (by omega)
        obtain ⟨y1, y2, y3⟩ := hH.num hq (by omega)
        obtain ⟨-, x4, x5, x6⟩ := x3
        obtain ⟨-, y4, y5, y6⟩ := y3
        have hA := (C.KT.2.1 t (by omega)).1
        obtain ⟨-, k0, hk0, cm0, hkk0⟩ := hA ln (fun j => nv t (f j))
        obtain ⟨-, k1, hk1, cm1, hkk1⟩ := hA mn (fun j => nv t (g j))
        have hprim : refKind (TYS t) = false := by
          match t, ht with
          | 0, _ => rfl
          | 1, _ => rfl
          | 2, _ => rfl
          | 3, _ => rfl
        have z1 : ¬ i3 sp < 0 := fun z => by have := (i3_lt o1 (show okI 0 by unfold okI; omega)).mp z; omega
        have z2 : ¬ i3 dp < 0 := fun z => by have := (i3_lt o2 (show okI 0 by unfold okI; omega)).mp z; omega
        have z3 : ¬ i3 n < 0 := fun z => by have := (i3_lt o3 (show okI 0 by unfold okI; omega)).mp z; omega
        intro T hT X
        obtain ⟨vm', X', step⟩ := X.arraycopy C.2.1 (C.own h1) (C.word (wAt_in cpy_w.1) rfl) (C.word (wAt_in cpy_w.2.1) rfl) (C.word (wAt_in cpy_w.2.2.1) rfl) (C.word (wAt_in cpy_w.2.2.2) rfl) (src := adr E a) (dst := adr E q) (cs := arrV (eA E t) ln (fun j => nv t (f j))) (cd := arrV (eA E t) mn (fun j => nv t (g j))) (srcPos := i3 sp) (destPos := i3 dp) (n := i3 n) (by rw [hT]; exact x6) (by rw [hT]; exact y6)
          (fun _ h => by cases h) (fun _ h => by cases h) (fun h => by cases h) (fun h => by cases h) hk0 hk1 hkk0 hkk1 (by simp [hprim]) z1 z2 z3
          (by rw [i3_toInt o1, i3_toInt o3, arrV_size]; omega)
          (by rw [i3_toInt o2, i3_toInt o3, arrV_size]; omega)
          (fun vm₁ _ i hi => by
            rw [i3_clamp o3] at hi
            rw [i3_clamp o1]
            have e : (arrV (eA E t) ln (fun j => nv t (f j))).slots.getD (sp.toNat + i) .null = nv t (f (sp.toNat + i)) := by
              rw [Array.getD_eq_getD_getElem?, arrV_read _ _ (by omega)]
              rfl
            refine ⟨?_, ?_⟩
            · rw [e]
              exact fits_nv ht (x5 _ (by omega))
            · rw [e]
              unfold nv
              split <;> exact trivial)
          (g := F0 m pc ls (.int (i3 n) :: .int (i3 dp) :: .ref (adr E q) :: .int (i3 sp) :: .ref (adr E a) :: rest.map (rel E))) rfl (by rw [hsz]) (rest := rest.map (rel E)) rfl (by rw [hb]; exact hd) (by omega) (by show 2 * 0 + _ + (7 + 11) ≤ _; omega)
        have e1 : copied (arrV (eA E t) ln (fun j => nv t (f j))) (arrV (eA E t) mn (fun j => nv t (g j))) (i3 sp) (i3 dp) (i3 n) = arrV (eA E t) mn (fun j => nv t (cpy f g sp.toNat dp.toNat n.toNat j)) := by
          have := va_copied (fun z => nv t z) (eA E t) (eA E t) (n1 := mn) (dp := dp.toNat) (n := n.toNat) (sp := sp.toNat) (n0 := ln) f g (by omega)
          unfold copied
          rw [i3_clamp o1, i3_clamp o2, i3_clamp o3]
          exact this
        rw [e1] at X' step
        have hlt : adr E q < H.size := (Array.getElem?_eq_some_iff.mp y6).1
        have hheap : ((T.setVm vm').setCell (adr E q) (arrV (eA E t) mn (fun j => nv t (cpy f g sp.toNat dp.toNat n.toNat j)))).heap = H.setIfInBounds (adr E q) (arrV (eA E t) mn (fun j => nv t (cpy f g sp.toNat dp.toNat n.toNat j))) := by rw [← hT]; rfl
        have hok : ∀ k, k < mn → okn t (cpy f g sp.toNat dp.toNat n.toNat k) := fun k hk => by
          unfold cpy
          split
          · exact x5 _ (by omega)
          · exact y5 k hk
        obtain ⟨t9, a1, b1⟩ := kk _ _ (hH.set (c := .inr (.inl (t, mn, cpy f g sp.toNat dp.toNat n.toNat))) y1 y2 (H1 := H.setIfInBounds (adr E q) (arrV (eA E t) mn (fun j => nv t (cpy f g sp.toNat dp.toNat n.toNat j)))) (by simp) (fun z hz => by simp [Array.getElem?_setIfInBounds, Ne.symm hz]) ⟨ht, y4, hok, by simp [Array.getElem?_setIfInBounds, hlt]⟩) (fun z hz => by
          rcases List.mem_append.mp hz with h | h
          · exact hl z h
          · obtain ⟨w, -, hw⟩ := List.mem_map.mp h
            rw [← hw]
            exact adr_ge y1) _ hheap X'
        exact ⟨t9, step t9 a1, b1⟩
      · cases hB
    · cases hB
end CPY
