/-! ONE INSTRUCTION: makes, constants, casts -/
theorem vr_outer (c : ClassId) (N h0 : Nat) : ∀ i : Nat, Jvm.Free.Multi.outerC c N h0 i = arrV c N (fun j => va_rf (if j < i then some (h0 + 1 + j) else none))
  | 0 => by
    show ({ cls := c, slots := Array.replicate N .null, vm := .none } : Cell) = _
    rw [arrV_new]
    refine congrArg (arrV c N) (funext fun j => ?_)
    simp [va_rf]
  | i + 1 => by
    show (Jvm.Free.Multi.outerC c N h0 i).setSlot i (.ref (h0 + 1 + i)) = _
    rw [vr_outer c N h0 i, arrV_store]
    refine congrArg (arrV c N) (funext fun j => ?_)
    by_cases e : j = i
    · subst e
      simp [updV, va_rf]
    · by_cases h : j < i
      · simp [updV, e, h, Nat.lt_succ_of_lt h]
      · simp [updV, e, h, show ¬ j < i + 1 by omega]
theorem acs_at {ty : Nat} (h : ty < 4) : Cond.arrayClass (TYS ty) ∈ lw_tbl := by
  have hh : ty = 0 ∨ ty = 1 ∨ ty = 2 ∨ ty = 3 := by omega
  rcases hh with rfl | rfl | rfl | rfl
  · exact (show Cond.arrayClass .int ∈ lw_tbl from wAt_in (q := acsP.getD 0 (0, 0)) (by have := congrArg (fun l => l.getD 0 none) acs_all; simpa [acsP] using this))
  · exact (show Cond.arrayClass .byte ∈ lw_tbl from wAt_in (q := acsP.getD 1 (0, 0)) (by have := congrArg (fun l => l.getD 1 none) acs_all; simpa [acsP] using this))
  · exact (show Cond.arrayClass .boolean ∈ lw_tbl from wAt_in (q := acsP.getD 2 (0, 0)) (by have := congrArg (fun l => l.getD 2 none) acs_all; simpa [acsP] using this))
  · exact (show Cond.arrayClass .long ∈ lw_tbl from wAt_in (q := acsP.getD 3 (0, 0)) (by have := congrArg (fun l => l.getD 3 none) acs_all; simpa [acsP] using this))
theorem aty_ty {t : ClassFile.ArrayType} {ty : Nat} (h : aty t = some ty) : ty < 4 ∧ newarray.typeOf t = TYS ty := by
  cases t <;> simp [aty] at h <;> subst h <;> exact ⟨by omega, rfl⟩
theorem TYS_dv {ty : Nat} (h : ty < 4) : defaultValue (TYS ty) = nv ty 0 := by
  have hh : ty = 0 ∨ ty = 1 ∨ ty = 2 ∨ ty = 3 := by omega
  rcases hh with rfl | rfl | rfl | rfl <;> rfl
theorem okn_0 (ty : Nat) : okn ty 0 := by
  unfold okn okI okJ
  repeat' split
  all_goals omega
theorem TYS_cb {ty n : Nat} (h : ty < 4) (hn : n ≤ 1000000) : n * componentBytes (TYS ty) ≤ 536870912 := by
  have hh : ty = 0 ∨ ty = 1 ∨ ty = 2 ∨ ty = 3 := by omega
  rcases hh with rfl | rfl | rfl | rfl
  · show n * 4 ≤ _; omega
  · show n * 1 ≤ _; omega
  · show n * 1 ≤ _; omega
  · show n * 8 ≤ _; omega
theorem TYS_RA {E : EP} {U : State} (h : KT E U) {ty : Nat} (ht : ty < 4) : U.vm.findClass ("[" ++ (TYS ty).toString) = some (eA E ty) := by
  have hh : ty = 0 ∨ ty = 1 ∨ ty = 2 ∨ ty = 3 := by omega
  have := (h.2.1 ty (by omega)).2
  rcases hh with rfl | rfl | rfl | rfl <;> exact this
section GOM
variable {p : Program} {l : Launch} {e : Env} {R : Room} {s s0 : State} {m : MethodId} {args a0 : Array Value} {below : List Frame} {meth : Method} {c : Code} {H : Heap} {locs : List Loc} {cells slots : Nat} {Q : State → Prop}
variable {b : ByteArray} {pc mi : Nat} {ls : Array Slot} {rest : List Value} {E : EP} {L : LO} {st st1 : List AV} {σ σ1 : ST} {fr : FR}
theorem go_nwa (C : CX l a0 s0 E mi p s m meth c) (hb : c.code = b) {t : ClassFile.ArrayType} (hd : decode b pc = .ok (.newarray t, 2)) (ho : nwa (pc + 2) L (aty t) st σ = some (.inl (fr, σ1))) (hH : HS E σ H) (hz : s.heap.size ≤ H.size) (hs : okS st)
    (hcr : cells + (σ1.2.1 - σ.2.1) ≤ R.cells) (hsr : slots + (σ1.2.2 - σ.2.2) ≤ R.slots)
    (kk : ∀ H1 : Heap, fr = (pc + 2, L, fr.2.2) → HS E σ1 H1 → s.heap.size ≤ H1.size → okS fr.2.2 → W p l e R s m args below meth c H1 locs (cells + (σ1.2.1 - σ.2.1)) (slots + (σ1.2.2 - σ.2.2)) Q (F0 m (pc + 2) ls (fr.2.2.map (rel E)))) : W p l e R s m args below meth c H locs cells slots Q (F0 m pc ls (st.map (rel E))) := by
  unfold nwa at ho
  split at ho
  · rename_i n r ty hty
    split at ho
    · rename_i hn
      obtain ⟨h0, h1⟩ := hn
      cases ho
      obtain ⟨on, hs1⟩ := okS_cons hs
      have on : okI n := on
      obtain ⟨t4, tt⟩ := aty_ty hty
      have ec : (sN σ (.inr (.inl (ty, n.toNat, fun _ => 0))) n.toNat).2.1 - σ.2.1 = 1 := by show σ.2.1 + 1 - σ.2.1 = 1; omega
      have es : (sN σ (.inr (.inl (ty, n.toNat, fun _ => 0))) n.toNat).2.2 - σ.2.2 = n.toNat := by show σ.2.2 + n.toNat - σ.2.2 = n.toNat; omega
      rw [ec] at hcr kk
      rw [es] at hsr kk
      have hw : (Cond.arrayClass (newarray.typeOf t)).before args s = true := by rw [tt]; exact C.word (acs_at t4) rfl
      refine va_newaK (n := i3 n) (N := n.toNat) C.2.1 hb hw rfl hd rfl (i3_nn on h0) (i3_clamp on) (by rw [tt]; exact TYS_cb t4 (by omega)) hcr hsr rfl fun H1 cA e1 e2 e3 e4 e5 => ?_
      rw [tt] at e1 e5
      have ecA : cA = eA E ty := Option.some.inj (e5.symm.trans (TYS_RA C.KT t4))
      have hA : adr E σ.2.1 = H.size := hH.nxt
      have kk := kk H1 rfl (hH.new e2 e3 ⟨t4, by omega, fun k _ => okn_0 ty, by rw [hA, e1, ecA, TYS_dv t4]⟩) (by omega) (okS_push trivial hs1)
      rw [← hA]
      exact kk
    · cases ho
  · cases ho
theorem AT_at {ix ty : Nat} (h : AT mi ix = some ty) : ∃ o, OWs[mi]? = some o ∧ 4 ≤ ty ∧ ty < 11 ∧ Cond.classLink (oN o) ix (atN ty) ∈ lw_tbl ∧ Cond.arrayOver (.object (atN ty)) ∈ lw_tbl := by
  obtain ⟨o, h1, h2⟩ := allT_at AT_all h
  unfold atC at h2
  split at h2
  · simp only [Bool.and_eq_true, decide_eq_true_eq] at h2
    exact ⟨o, h1, h2.1.1.1, h2.1.1.2, wAt_in h2.1.2, wAt_in h2.2⟩
  · cases h2
theorem go_nwq (C : CX l a0 s0 E mi p s m meth c) (hb : c.code = b) {ix : Nat} (hd : decode b pc = .ok (.anewarray ix, 3)) (ho : nwq (pc + 3) L (AT mi ix) st σ = some (.inl (fr, σ1))) (hH : HS E σ H) (hz : s.heap.size ≤ H.size) (hs : okS st)
    (hcr : cells + (σ1.2.1 - σ.2.1) ≤ R.cells) (hsr : slots + (σ1.2.2 - σ.2.2) ≤ R.slots)
    (kk : ∀ H1 : Heap, fr = (pc + 3, L, fr.2.2) → HS E σ1 H1 → s.heap.size ≤ H1.size → okS fr.2.2 → W p l e R s m args below meth c H1 locs (cells + (σ1.2.1 - σ.2.1)) (slots + (σ1.2.2 - σ.2.2)) Q (F0 m (pc + 3) ls (fr.2.2.map (rel E)))) : W p l e R s m args below meth c H locs cells slots Q (F0 m pc ls (st.map (rel E))) := by
  unfold nwq at ho
  split at ho
  · rename_i n r ty hty
    split at ho
    · rename_i hn
      obtain ⟨h0, h1⟩ := hn
      cases ho
      obtain ⟨on, hs1⟩ := okS_cons hs
      have on : okI n := on
      obtain ⟨o, ho1, t4, t11, w1, w2⟩ := AT_at hty
      have ec : (sN σ (.inr (.inr (ty, n.toNat, fun _ => none))) n.toNat).2.1 - σ.2.1 = 1 := by show σ.2.1 + 1 - σ.2.1 = 1; omega
      have es : (sN σ (.inr (.inr (ty, n.toNat, fun _ => none))) n.toNat).2.2 - σ.2.2 = n.toNat := by show σ.2.2 + n.toNat - σ.2.2 = n.toNat; omega
      rw [ec] at hcr kk
      rw [es] at hsr kk
      have hov := va_AO.moved C.2.2.1.alike (va_AO.of (C.1.1 _ w2))
      have hcl := i3_clamp on
      refine W.anew (n := i3 n) C.2.1 hb (C.own ho1) (C.word w1 rfl) (va_AO.use hov) rfl hd rfl (i3_nn on h0) (by rw [hcl]; omega) hcr (by rw [hcl]; exact hsr) fun cA kA comp f1 f2 f3 f4 => ?_
      rw [hcl]
      have hRA := (C.KT.2.1 ty (by omega)).2
      rw [TYS_obj t4 t11] at hRA
      obtain ⟨-, -, -, -, -, hf⟩ := hRA
      have ecA : cA = eA E ty := Option.some.inj (f1.symm.trans hf)
      have hA : adr E σ.2.1 = H.size := hH.nxt
      have kk := kk (H.push { cls := cA, slots := Array.replicate n.toNat .null, vm := .none }) rfl (hH.new (by rw [Array.size_push]) (fun q hq => by rw [Array.getElem?_push, if_neg (Nat.ne_of_lt hq)]) ⟨⟨t4, by omega⟩, by omega, by rw [hA, Array.getElem?_push_size, ← ecA, arrV_new]; rfl⟩) (by rw [Array.size_push]; omega) (okS_push trivial hs1)
      rw [← hA]
      exact kk
    · cases ho
  · cases ho
theorem NW_at {ix ci : Nat} (h : NW mi ix = some ci) (h99 : ci ≠ 99) : ∃ o r, OWs[mi]? = some o ∧ CLS[ci]? = some r ∧ ci < 99 ∧ Cond.classLink (oN o) ix r.1 ∈ lw_tbl ∧ Cond.instantiable r.1 r.2.2 ∈ lw_tbl ∧ Cond.initialized r.1 ∈ lw_tbl ∧ (DFs.getD ci []) = (FKs.getD ci []).map dfK ∧ (DFs.getD ci []).length = r.2.2 ∧ DFs[ci]? = some (DFs.getD ci []) := by
  obtain ⟨o, h1, h2⟩ := allT_at NW_all h
  unfold nwC at h2
  have e : (ci == 99) = false := by simpa using h99
  rw [e, Bool.false_or] at h2
  split at h2
  · rename_i r _ hr
    simp only [Bool.and_eq_true, decide_eq_true_eq] at h2
    obtain ⟨⟨⟨⟨⟨⟨a1, a2⟩, a3⟩, a4⟩, a5⟩, a6⟩, a7⟩ := h2
    exact ⟨o, r, h1, hr, a4, wAt_in a1, wAt_in a2, wAt_in a3, a5, a6, a7⟩
  · cases h2
theorem dfK_ok (k : Nat) : okv (dfK k) := by
  unfold dfK
  split
  · show okJ 0; unfold okJ; omega
  · split
    · trivial
    · exact okI_0
theorem dfK_dv {E : EP} {t : FieldType} {k : Nat} (h : kOK (some t) k = true) : defaultValue t = rel E (dfK k) := by
  cases t <;> simp [kOK] at h <;> subst h <;> rfl
theorem go_nwo (C : CX l a0 s0 E mi p s m meth c) (hb : c.code = b) {ix : Nat} (hd : decode b pc = .ok (.new ix, 3)) (ho : nwo (pc + 3) L (NW mi ix) st σ = some (.inl (fr, σ1))) (hH : HS E σ H) (hz : s.heap.size ≤ H.size) (hs : okS st)
    (hcr : cells + (σ1.2.1 - σ.2.1) ≤ R.cells) (hsr : slots + (σ1.2.2 - σ.2.2) ≤ R.slots)
    (kk : ∀ H1 : Heap, fr = (pc + 3, L, fr.2.2) → HS E σ1 H1 → s.heap.size ≤ H1.size → okS fr.2.2 → W p l e R s m args below meth c H1 locs (cells + (σ1.2.1 - σ.2.1)) (slots + (σ1.2.2 - σ.2.2)) Q (F0 m (pc + 3) ls (fr.2.2.map (rel E)))) : W p l e R s m args below meth c H locs cells slots Q (F0 m pc ls (st.map (rel E))) := by
  cases hnw : NW mi ix with
  | none => rw [hnw] at ho; cases ho
  | some ci =>
    rw [hnw] at ho
    by_cases h99 : ci = 99
    · subst h99; cases ho
    have ho2 := ho
    simp only [nwo, if_neg h99] at ho2
    split at ho2
    · rename_i fs hfs
      cases ho2
      obtain ⟨o, r, ho1, hr, hlt, w1, w2, w3, d1, d2, d3⟩ := NW_at hnw h99
      have efs : fs = DFs.getD ci [] := Option.some.inj (hfs.symm.trans d3)
      have ec : (sN σ (.inl (ci, fs)) fs.length).2.1 - σ.2.1 = 1 := by show σ.2.1 + 1 - σ.2.1 = 1; omega
      have es : (sN σ (.inl (ci, fs)) fs.length).2.2 - σ.2.2 = r.2.2 := by rw [← d2, ← efs]; show σ.2.2 + fs.length - σ.2.2 = fs.length; omega
      rw [ec] at hcr kk
      rw [es] at hsr kk
      have hKn := C.KT.1 ci r hr
      have hts : ∀ w ∈ u_ws r.1 r.2.1 r.2.2, w.before args s = true := fun w hw => by
        obtain ⟨j, -, rfl⟩ := List.mem_map.mp hw
        exact C.word (CL_in hr _ hw) (u_good _ _ _)
      have hA : adr E σ.2.1 = H.size := hH.nxt
      refine W.newcK (n := r.2.2) C.2.1 hb (C.own ho1) (C.word w1 rfl) (C.word w2 rfl) (C.word w3 rfl) rfl hd hcr hsr hKn.2.1 rfl fun H1 kC hkC e1 e2 e3 => ?_
      have hbn := u_born (tyO r) hts (fun w h => h) hKn hkC e1 (CL_tyo hr)
      have hcell : cellAt E σ.2.1 (.inl (ci, fs)) H1 := by
        refine Or.inr ⟨hlt, fun v hv => ?_, ⟨r, hr, by rw [efs]; exact d2⟩, ⟨r, hr, ?_⟩⟩
        · rw [efs, d1] at hv
          obtain ⟨k, -, rfl⟩ := List.mem_map.mp hv
          exact dfK_ok k
        · show t_OB (adr E σ.2.1) ((eD E).1 ci) r.2.2 ((eD E).2 ci) H1 (vp_V (fs.map (rel E)))
          rw [hA]
          refine hbn.to (fun j hj => ?_)
          have h1 := CL_tyv hr hj
          rw [CL_tyo hr j hj] at h1
          rw [dfK_dv (E := E) h1]
          have hl : j < (FKs.getD ci []).length := by
            have := d2
            rw [d1, List.length_map] at this
            omega
          show _ = (fs.map (rel E)).getD j .null
          rw [efs, d1, List.map_map, List.getD_eq_getElem?_getD (l := List.map _ _), List.getElem?_map, List.getD_eq_getElem?_getD, List.getElem?_eq_getElem hl]
          rfl
      have kk := kk H1 rfl (hH.new e2 e3 hcell) (by omega) (okS_push trivial hs)
      rw [← hA]
      exact kk
    · cases ho2
end GOM
