/-! CALLS of methods -/
theorem cal_inv {pc1 : Nat} {L : LO} {i : ClassFile.Instr} {mm : Option (Nat × Nat × Nat × Nat)} {st : List AV} {σ : ST} {z : (Nat × List AV × FR) ⊕ (RS × ST)} (h : cal pc1 L i mm st σ = some (.inr z)) : ∃ cm na rc kd, mm = some (cm, na, rc, kd) ∧ na ≤ st.length ∧ kdOf i kd = true ∧ okC kd rc (st.take na).reverse σ = true ∧ wt (st.drop na) ≤ 8 ∧ (cm < 1000 → (iA (st.take na).reverse).length ≤ MX cm) ∧ z = .inl (cm, (st.take na).reverse, (pc1, L, st.drop na)) := by
  unfold cal at h
  split at h
  · rename_i cm na rc kd
    split at h
    · rename_i hc
      obtain ⟨h1, h2, h3, h4⟩ := hc
      cases h
      simp only [Bool.and_eq_true, Bool.or_eq_true] at h4
      refine ⟨cm, na, rc, kd, rfl, h1, h2, h3, Nat.le_of_ble_eq_true h4.1, fun hlt => ?_, rfl⟩
      rcases h4.2 with h5 | h5
      · exact absurd (Nat.le_of_ble_eq_true h5) (by omega)
      · exact Nat.le_of_ble_eq_true h5
    · cases h
  · cases h
theorem ML_v {mi ix cm na rc : Nat} (h : ML mi ix = some (cm, na, rc, 2)) (hcm : cm < 1000) : ∃ (o : Nat) (r : MTY) (q : vw_C), OWs[mi]? = some o ∧ MTB[cm]? = some r ∧ nmOK r.1 = true ∧ Cond.methodLink (oN o) ix r.1 ∈ lw_tbl ∧ Cond.instanceMethod r.1 ∈ lw_tbl ∧ Cond.selects r.1.cls r.1 r.1 ∈ lw_tbl ∧ Cond.initialized r.1.cls ∈ lw_tbl ∧ nPar r.1 = some (na - 1) ∧ 0 < na ∧ CLS[rc]? = some q ∧ q.1 = r.1.cls ∧ rc < 99 := by
  obtain ⟨o, h1, h2⟩ := ML_at h
  unfold mlC at h2
  have e0 : Nat.ble 1000 cm = false := Bool.eq_false_iff.mpr fun z => absurd (Nat.le_of_ble_eq_true z) (by omega)
  rw [e0, Bool.false_or] at h2
  split at h2
  · simp at h2
  · rename_i r a b c d tg hr hp ht
    simp only [Bool.and_eq_true, decide_eq_true_eq, beq_iff_eq] at h2
    obtain ⟨⟨⟨⟨⟨⟨⟨⟨⟨⟨-, b2⟩, -⟩, b4⟩, b5⟩, b6⟩, b7⟩, b8⟩, b9⟩, b10⟩, b11⟩ := h2
    cases hq : CLS[rc]? with
    | none => rw [hq] at b10; cases b10
    | some q =>
      rw [hq] at b10
      exact ⟨o, r, q, h1, hr, b2, wAt_in b4, wAt_in b5, wAt_in b6, wAt_in b7, b8, b9, rfl, Option.some.inj b10, b11⟩
  · simp at h2
  · cases h2
theorem ML_s {mi ix cm na rc : Nat} (h : ML mi ix = some (cm, na, rc, 0)) (hcm : cm < 1000) : ∃ (o : Nat) (r : MTY) (tg : Nat), OWs[mi]? = some o ∧ MTB[cm]? = some r ∧ nmOK r.1 = true ∧ (tg = 0 ∨ tg = 1) ∧ lkW tg o ix r.1 ∈ lw_tbl ∧ Cond.static r.1 ∈ lw_tbl ∧ Cond.initialized r.1.cls ∈ lw_tbl ∧ nPar r.1 = some na ∧ (tg = 0 ∨ r.2.2.2.2 = []) := by
  obtain ⟨o, h1, h2⟩ := ML_at h
  unfold mlC at h2
  have e0 : Nat.ble 1000 cm = false := Bool.eq_false_iff.mpr fun z => absurd (Nat.le_of_ble_eq_true z) (by omega)
  rw [e0, Bool.false_or] at h2
  split at h2
  · rename_i r a b c tg hr hp ht
    simp only [Bool.and_eq_true, Bool.or_eq_true, decide_eq_true_eq, beq_iff_eq] at h2
    obtain ⟨⟨⟨⟨b1, b2⟩, b3⟩, b4⟩, b5⟩ := h2
    rcases b5 with ⟨⟨⟨-, b6⟩, b7⟩, b8⟩ | ⟨⟨⟨⟨⟨⟨b6, -⟩, -⟩, -⟩, -⟩, -⟩, -⟩
    · exact ⟨o, r, tg, h1, hr, b2, b1, wAt_in b3, wAt_in b6, wAt_in b4, b7, b8⟩
    · cases b6
  · simp at h2
  · simp at h2
  · cases h2
theorem ML_i {mi ix cm na rc : Nat} (h : ML mi ix = some (cm, na, rc, 1)) (hcm : cm < 1000) : ∃ (o : Nat) (r : MTY) (tg : Nat), OWs[mi]? = some o ∧ MTB[cm]? = some r ∧ nmOK r.1 = true ∧ (tg = 0 ∨ tg = 1) ∧ lkW tg o ix r.1 ∈ lw_tbl ∧ Cond.instanceMethod r.1 ∈ lw_tbl ∧ Cond.initialized r.1.cls ∈ lw_tbl ∧ nPar r.1 = some (na - 1) ∧ 0 < na ∧ r.1.name = "<init>" ∧ r.2.2.2.1 = none ∧ r.2.2.2.2 = [] := by
  obtain ⟨o, h1, h2⟩ := ML_at h
  unfold mlC at h2
  have e0 : Nat.ble 1000 cm = false := Bool.eq_false_iff.mpr fun z => absurd (Nat.le_of_ble_eq_true z) (by omega)
  rw [e0, Bool.false_or] at h2
  split at h2
  · rename_i r a b c tg hr hp ht
    simp only [Bool.and_eq_true, Bool.or_eq_true, decide_eq_true_eq, beq_iff_eq] at h2
    obtain ⟨⟨⟨⟨b1, b2⟩, b3⟩, b4⟩, b5⟩ := h2
    rcases b5 with ⟨⟨⟨b6, -⟩, -⟩, -⟩ | ⟨⟨⟨⟨⟨⟨-, b7⟩, b8⟩, b9⟩, b10⟩, b11⟩, b12⟩
    · cases b6
    · exact ⟨o, r, tg, h1, hr, b2, b1, wAt_in b3, wAt_in b7, wAt_in b4, b8, b9, b10, b11, b12⟩
  · simp at h2
  · simp at h2
  · cases h2
theorem nm_at {y : MethodName} (h : nmOK y = true) : (y.cls ≠ "java/lang/invoke/MethodHandle" ∧ y.cls ≠ "java/lang/invoke/VarHandle") ∧ plainName y.cls = true := by
  unfold nmOK at h
  simp only [Bool.and_eq_true, decide_eq_true_eq] at h
  exact ⟨h.1, h.2⟩
theorem nPar_at {y : MethodName} {n : Nat} (h : nPar y = some n) : ∀ sig, parseMethodDescriptor y.desc = some sig → n = sig.parameters.length := by
  intro sig hs
  unfold nPar at h
  rw [hs] at h
  exact (Option.some.inj h).symm
theorem call_st {E : EP} {st : List AV} {na aR : Nat} {asR : List AV} (hsplit : (st.take na).reverse = .inr (.inr (some aR)) :: asR) : st.map (rel E) = (asR.map (rel E)).reverse ++ .ref (adr E aR) :: (st.drop na).map (rel E) := by
  have e1 : st.take na = asR.reverse ++ [.inr (.inr (some aR))] := by
    have := congrArg List.reverse hsplit
    rw [List.reverse_reverse, List.reverse_cons] at this
    exact this
  have e2 : st = (asR.reverse ++ [.inr (.inr (some aR))]) ++ st.drop na := by rw [← e1, List.take_append_drop]
  have e3 : st.map (rel E) = ((asR.reverse ++ [AR aR]) ++ st.drop na).map (rel E) := congrArg (List.map (rel E)) e2
  rw [e3, List.map_append, List.map_append, List.map_reverse, List.append_assoc]
  rfl
section CAM
variable {p : Program} {l : Launch} {e : Env} {R : Room} {s s0 : State} {m : MethodId} {args a0 : Array Value} {below : List Frame} {meth : Method} {c : Code} {H : Heap} {locs : List Loc} {cells slots : Nat} {Q : State → Prop}
variable {b : ByteArray} {pc mi : Nat} {ls : Array Slot} {E : EP} {L : LO} {st : List AV} {σ : ST} {x : RS × ST} {cm na rc d ix : Nat}
/-- a virtual call -/
theorem call_v (C : CX l a0 s0 E mi p s m meth c) (hb : c.code = b) (hd : decode b pc = .ok (.invokevirtual ix, 3)) (hml : ML mi ix = some (cm, na, rc, 2)) (hcm : cm < 1000) (hlaw : cm < lawI) (hna : na ≤ st.length) (hok : okC 2 rc (st.take na).reverse σ = true) (hwt : wt (st.drop na) ≤ 8) (hmx : MX cm ≤ 12)
    (hM : METP l s0 E d cm (st.take na).reverse σ x) (hH : HS E σ H) (hl : ∀ q ∈ locs, AE E q.base) (hsz : ls.size = c.maxLocals)
    (hfr : d + 1 ≤ R.frames) (hlo : 40 * (d + 1) ≤ R.locals) (hcr : cells + (x.2.2.1 - σ.2.1) ≤ R.cells) (hsr : slots + (x.2.2.2 - σ.2.2) ≤ R.slots)
    (kr : ∀ (v : Option AV) (H1 : Heap) (locs1 : List Loc), x.1 = .inl v → HS E x.2 H1 → okS v.toList → (∀ q ∈ locs1, AE E q.base) → W p l e R s m args below meth c H1 locs1 (cells + (x.2.2.1 - σ.2.1)) (slots + (x.2.2.2 - σ.2.2)) Q (F0 m (pc + 3) ls ((v.map (rel E)).toList ++ (st.drop na).map (rel E))))
    (kt : ∀ (q : Nat) (H1 : Heap) (locs1 : List Loc), x.1 = .inr q → HS E x.2 H1 → (exOf x.2 q = 18 ∨ exOf x.2 q = 99) → (∀ q ∈ locs1, AE E q.base) → vx_W p l e R s m args below meth c H1 locs1 (cells + (x.2.2.1 - σ.2.1)) (slots + (x.2.2.2 - σ.2.2)) Q (F0 m pc ls ((st.drop na).map (rel E))) (adr E q)) : W p l e R s m args below meth c H locs cells slots Q (F0 m pc ls (st.map (rel E))) := by
  obtain ⟨o, r, q, h1, hr, hnm, w1, w2, w3, w4, hnp, hn0, hq, hqn, hrc⟩ := ML_v hml hcm
  obtain ⟨hnm1, hnm2⟩ := nm_at hnm
  have hmxr := MX_at hr
  obtain ⟨aR, asR, fsR, hsplit, hcell⟩ : ∃ aR asR fs, (st.take na).reverse = .inr (.inr (some aR)) :: asR ∧ σ.1 aR = .inl (rc, fs) := by
    unfold okC at hok
    simp only at hok
    split at hok
    · rename_i a r9 he
      split at hok
      · rename_i ci fs hcell
        refine ⟨a, r9, fs, he, ?_⟩
        rw [hcell, eq_of_beq hok]
      · cases hok
    · cases hok
  have hst : st.map (rel E) = (asR.map (rel E)).reverse ++ .ref (adr E aR) :: (st.drop na).map (rel E) := call_st hsplit
  have hlen : (asR.map (rel E)).length = na - 1 := by
    have := congrArg List.length hsplit
    simp only [List.length_reverse, List.length_take, List.length_cons] at this
    rw [List.length_map]
    omega
  obtain ⟨-, -, k3⟩ := hH.obj hcell (by omega)
  rcases k3 with ⟨q1, -, -⟩ | ⟨-, -, -, q4⟩
  · omega
  obtain ⟨r', hr', cellV, v1, v2, v3, -⟩ := q4
  have hcls := (C.KT.1 rc q hq).2.1
  rw [hqn] at hcls
  have hpre : PreV s H r.1.cls (adr E aR) (PcM s0 E (st.take na).reverse σ) (asR.map (rel E)) := ⟨PcM_blind, ⟨cellV, v1, by rw [v3]; rfl, by rw [v2]; exact hcls⟩, fun U hU hW => ⟨by rw [hsplit]; rfl, State.WarmedH.trans C.2.2.1 hW, by rw [hU]; exact hH⟩⟩
  have hroom : (rmM d (x.2.2.1 - σ.2.1) (x.2.2.2 - σ.2.2)).frames + 1 ≤ R.frames ∧ 8 + (r.2.2.1 + 11) + (rmM d (x.2.2.1 - σ.2.1) (x.2.2.2 - σ.2.2)).locals ≤ R.locals := by
    refine ⟨hfr, ?_⟩
    show 8 + (r.2.2.1 + 11) + 40 * d ≤ R.locals
    omega
  have hws : ∀ w ∈ wsM r, ∀ (a' : Array Value) (U : State), s.WarmedH U.vm → w.before a' U = true := fun w hw a' U hW => by
    rw [List.mem_singleton.mp hw]
    exact C.later (CK_at hr hlaw) (cd_good r) a' U hW
  have hcd : (cdW r).before args s = true := C.word (CK_at hr hlaw) (cd_good r)
  rw [hst]
  have hfix : CallFix p m c b c.maxLocals s args [] (oN o) := ⟨C.2.1, hb, rfl, C.own h1, fun w hw => nomatch hw⟩
  have hW8 : 2 * (F0 m pc ls ((asR.map (rel E)).reverse ++ .ref (adr E aR) :: (st.drop na).map (rel E))).monitorRoom + (((st.drop na).map (rel E)).map fun v => v.category).sum ≤ 8 := lv_room (by rw [wt_cat]; exact hwt)
  cases hhh : r.2.2.2.2 with
  | nil =>
    have ecd : cdW r = .code r.1 r.2.1 r.2.2.1 r.2.2.2.1 := by unfold cdW; rw [hhh]
    exact vx_go (vx_runV (g := F0 m pc ls ((asR.map (rel E)).reverse ++ .ref (adr E aR) :: (st.drop na).map (rel E))) hfix (hM r hr) ⟨⟨rfl, rfl, hroom.1, hroom.2, hws, by rw [← ecd]; exact List.mem_singleton.mpr rfl, by rw [← ecd]; exact hcd, C.word w4 rfl, hnm1, nPar_at hnp, C.word w1 rfl⟩, C.word w2 rfl, C.word w3 rfl⟩ hpre rfl hlen hsz rfl hW8 hd ⟨hcr, hsr⟩) hl kr kt
  | cons h0 hh0 =>
    have ecd : cdW r = .codeWith r.1 r.2.1 r.2.2.1 r.2.2.2.1 r.2.2.2.2 := by unfold cdW; rw [hhh]
    exact vx_go (vx_runVX (g := F0 m pc ls ((asR.map (rel E)).reverse ++ .ref (adr E aR) :: (st.drop na).map (rel E))) hfix (hM r hr) ⟨⟨rfl, rfl, hroom.1, hroom.2, hws, by rw [← ecd]; exact List.mem_singleton.mpr rfl⟩, by rw [← ecd]; exact hcd, C.word w4 rfl, hnm1, nPar_at hnp, C.word w1 rfl, C.word w2 rfl, C.word w3 rfl⟩ hpre rfl hlen hsz rfl hW8 hd ⟨hcr, hsr⟩) hl kr kt
/-- a static call of a method that returns -/
theorem call_s {v9 : Option AV} {σ2 : ST} (C : CX l a0 s0 E mi p s m meth c) (hb : c.code = b) (hd : decode b pc = .ok (.invokestatic ix, 3)) (hml : ML mi ix = some (cm, na, rc, 0)) (hcm : cm < 1000) (hlaw : cm < lawI) (hna : na ≤ st.length) (hwt : wt (st.drop na) ≤ 8) (hmx : MX cm ≤ 12)
    (hM : METP l s0 E d cm (st.take na).reverse σ (.inl v9, σ2)) (hH : HS E σ H) (hl : ∀ q ∈ locs, AE E q.base) (hsz : ls.size = c.maxLocals)
    (hfr : d + 1 ≤ R.frames) (hlo : 40 * (d + 1) ≤ R.locals) (hcr : cells + (σ2.2.1 - σ.2.1) ≤ R.cells) (hsr : slots + (σ2.2.2 - σ.2.2) ≤ R.slots)
    (kr : ∀ (H1 : Heap) (locs1 : List Loc), HS E σ2 H1 → okS v9.toList → (∀ q ∈ locs1, AE E q.base) → W p l e R s m args below meth c H1 locs1 (cells + (σ2.2.1 - σ.2.1)) (slots + (σ2.2.2 - σ.2.2)) Q (F0 m (pc + 3) ls ((v9.map (rel E)).toList ++ (st.drop na).map (rel E)))) : W p l e R s m args below meth c H locs cells slots Q (F0 m pc ls (st.map (rel E))) := by
  obtain ⟨o, r, tg, h1, hr, hnm, htg, w1, w2, w4, hnp, htg2⟩ := ML_s hml hcm
  obtain ⟨hnm1, hnm2⟩ := nm_at hnm
  have hmxr := MX_at hr
  have hst : st.map (rel E) = ((st.take na).reverse.map (rel E)).reverse ++ (st.drop na).map (rel E) := by
    rw [← List.map_reverse, List.reverse_reverse, ← List.map_append, List.take_append_drop]
  have hlen : ((st.take na).reverse.map (rel E)).length = na := by
    rw [List.length_map, List.length_reverse, List.length_take]
    omega
  have hpre : PreS s H (PcM s0 E (st.take na).reverse σ) ((st.take na).reverse.map (rel E)) := ⟨PcM_blind, fun U hU hW => ⟨rfl, State.WarmedH.trans C.2.2.1 hW, by rw [hU]; exact hH⟩⟩
  have hroom : (rmM d (σ2.2.1 - σ.2.1) (σ2.2.2 - σ.2.2)).frames + 1 ≤ R.frames ∧ 8 + (r.2.2.1 + 11) + (rmM d (σ2.2.1 - σ.2.1) (σ2.2.2 - σ.2.2)).locals ≤ R.locals := by
    refine ⟨hfr, ?_⟩
    show 8 + (r.2.2.1 + 11) + 40 * d ≤ R.locals
    omega
  have hws : ∀ w ∈ wsM r, ∀ (a' : Array Value) (U : State), s.WarmedH U.vm → w.before a' U = true := fun w hw a' U hW => by
    rw [List.mem_singleton.mp hw]
    exact C.later (CK_at hr hlaw) (cd_good r) a' U hW
  have hcd : (cdW r).before args s = true := C.word (CK_at hr hlaw) (cd_good r)
  rw [hst]
  have hfix : CallFix p m c b c.maxLocals s args [] (oN o) := ⟨C.2.1, hb, rfl, C.own h1, fun w hw => nomatch hw⟩
  have hW8 : 2 * (F0 m pc ls (((st.take na).reverse.map (rel E)).reverse ++ (st.drop na).map (rel E))).monitorRoom + (((st.drop na).map (rel E)).map fun v => v.category).sum ≤ 8 := lv_room (by rw [wt_cat]; exact hwt)
  cases hhh : r.2.2.2.2 with
  | nil =>
    have ecd : cdW r = .code r.1 r.2.1 r.2.2.1 r.2.2.2.1 := by unfold cdW; rw [hhh]
    have hcin : Cond.code r.1 r.2.1 r.2.2.1 r.2.2.2.1 ∈ wsM r := by rw [← ecd]; exact List.mem_singleton.mpr rfl
    rw [ecd] at hcd
    rcases htg with rfl | rfl
    · exact va_go (va_runS (g := F0 m pc ls (((st.take na).reverse.map (rel E)).reverse ++ (st.drop na).map (rel E))) hfix (hM.ret hr) ⟨⟨rfl, rfl, hroom.1, hroom.2, hws, hcin, hcd, C.word w4 rfl, hnm1, nPar_at hnp, C.word w1 rfl⟩, C.word w2 rfl⟩ hpre rfl hlen hsz rfl hW8 hd ⟨hcr, hsr⟩) hl kr
    · have hN := va_Nw.warmM C.2.2.1 (va_Nw.of rfl (C.1.1 _ w1))
      exact va_go (va_runSN (host := HOST o) (g := F0 m pc ls (((st.take na).reverse.map (rel E)).reverse ++ (st.drop na).map (rel E))) hfix (hM.ret hr) ⟨⟨⟨rfl, rfl, hroom.1, hroom.2, hws, hcin⟩, hcd, C.word w4 rfl, hnm1, nPar_at hnp, va_Nw.use rfl hN⟩, C.word w2 rfl, trivial⟩ hpre rfl hlen hsz rfl hW8 hd ⟨hcr, hsr⟩) hl kr
  | cons h0 hh0 =>
    have ecd : cdW r = .codeWith r.1 r.2.1 r.2.2.1 r.2.2.2.1 r.2.2.2.2 := by unfold cdW; rw [hhh]
    have hcin : Cond.codeWith r.1 r.2.1 r.2.2.1 r.2.2.2.1 r.2.2.2.2 ∈ wsM r := by rw [← ecd]; exact List.mem_singleton.mpr rfl
    rw [ecd] at hcd
    rcases htg with rfl | rfl
    · exact va_go (vx_runSW (g := F0 m pc ls (((st.take na).reverse.map (rel E)).reverse ++ (st.drop na).map (rel E))) hfix (hM.ret hr) ⟨⟨rfl, rfl, hroom.1, hroom.2, hws, hcin⟩, hcd, C.word w4 rfl, hnm1, nPar_at hnp, C.word w1 rfl, C.word w2 rfl⟩ hpre rfl hlen hsz rfl hW8 hd ⟨hcr, hsr⟩) hl kr
    · rcases htg2 with h9 | h9
      · cases h9
      · rw [hhh] at h9; cases h9
/-- a constructor's call -/
theorem call_i {v9 : Option AV} {σ2 : ST} (C : CX l a0 s0 E mi p s m meth c) (hb : c.code = b) (hd : decode b pc = .ok (.invokespecial ix, 3)) (hml : ML mi ix = some (cm, na, rc, 1)) (hcm : cm < 1000) (hlaw : cm < lawI) (hna : na ≤ st.length) (hok : okC 1 rc (st.take na).reverse σ = true) (hwt : wt (st.drop na) ≤ 8) (hmx : MX cm ≤ 12)
    (hM : METP l s0 E d cm (st.take na).reverse σ (.inl v9, σ2)) (hH : HS E σ H) (hl : ∀ q ∈ locs, AE E q.base) (hsz : ls.size = c.maxLocals)
    (hfr : d + 1 ≤ R.frames) (hlo : 40 * (d + 1) ≤ R.locals) (hcr : cells + (σ2.2.1 - σ.2.1) ≤ R.cells) (hsr : slots + (σ2.2.2 - σ.2.2) ≤ R.slots)
    (kr : ∀ (H1 : Heap) (locs1 : List Loc), HS E σ2 H1 → okS v9.toList → (∀ q ∈ locs1, AE E q.base) → W p l e R s m args below meth c H1 locs1 (cells + (σ2.2.1 - σ.2.1)) (slots + (σ2.2.2 - σ.2.2)) Q (F0 m (pc + 3) ls ((v9.map (rel E)).toList ++ (st.drop na).map (rel E)))) : W p l e R s m args below meth c H locs cells slots Q (F0 m pc ls (st.map (rel E))) := by
  obtain ⟨o, r, tg, h1, hr, hnm, htg, w1, w2, w4, hnp, hn0, hin, hrn, hhh⟩ := ML_i hml hcm
  obtain ⟨hnm1, hnm2⟩ := nm_at hnm
  have hmxr := MX_at hr
  obtain ⟨aR, asR, hsplit⟩ : ∃ aR asR, (st.take na).reverse = .inr (.inr (some aR)) :: asR := by
    unfold okC at hok
    simp only at hok
    split at hok
    · rename_i a r9 he
      exact ⟨a, r9, he⟩
    · cases hok
  have hst : st.map (rel E) = (asR.map (rel E)).reverse ++ .ref (adr E aR) :: (st.drop na).map (rel E) := call_st hsplit
  have hlen : (asR.map (rel E)).length = na - 1 := by
    have := congrArg List.length hsplit
    simp only [List.length_reverse, List.length_take, List.length_cons] at this
    rw [List.length_map]
    omega
  have hpre : PreS s H (PcM s0 E (st.take na).reverse σ) (.ref (adr E aR) :: asR.map (rel E)) := ⟨PcM_blind, fun U hU hW => ⟨by rw [hsplit]; rfl, State.WarmedH.trans C.2.2.1 hW, by rw [hU]; exact hH⟩⟩
  have hroom : (rmM d (σ2.2.1 - σ.2.1) (σ2.2.2 - σ.2.2)).frames + 1 ≤ R.frames ∧ 8 + (r.2.2.1 + 11) + (rmM d (σ2.2.1 - σ.2.1) (σ2.2.2 - σ.2.2)).locals ≤ R.locals := by
    refine ⟨hfr, ?_⟩
    show 8 + (r.2.2.1 + 11) + 40 * d ≤ R.locals
    omega
  have hws : ∀ w ∈ wsM r, ∀ (a' : Array Value) (U : State), s.WarmedH U.vm → w.before a' U = true := fun w hw a' U hW => by
    rw [List.mem_singleton.mp hw]
    exact C.later (CK_at hr hlaw) (cd_good r) a' U hW
  have ecd : cdW r = .code r.1 r.2.1 r.2.2.1 none := by unfold cdW; rw [hhh, hrn]
  have hcin : Cond.code r.1 r.2.1 r.2.2.1 none ∈ wsM r := by rw [← ecd]; exact List.mem_singleton.mpr rfl
  have hcd : (Cond.code r.1 r.2.1 r.2.2.1 none).before args s = true := by rw [← ecd]; exact C.word (CK_at hr hlaw) (cd_good r)
  rw [hst]
  have hfix : CallFix p m c b c.maxLocals s args [] (oN o) := ⟨C.2.1, hb, rfl, C.own h1, fun w hw => nomatch hw⟩
  have hW8 : 2 * (F0 m pc ls ((asR.map (rel E)).reverse ++ .ref (adr E aR) :: (st.drop na).map (rel E))).monitorRoom + (((st.drop na).map (rel E)).map fun v => v.category).sum ≤ 8 := lv_room (by rw [wt_cat]; exact hwt)
  rcases htg with rfl | rfl
  · exact va_go (va_runI (g := F0 m pc ls ((asR.map (rel E)).reverse ++ .ref (adr E aR) :: (st.drop na).map (rel E))) hfix (hM.ret hr) ⟨⟨rfl, rfl, hroom.1, hroom.2, hws, hcin, hcd, C.word w4 rfl, hnm1, nPar_at hnp, C.word w1 rfl⟩, hin, C.word w2 rfl⟩ hpre rfl hlen hsz rfl hW8 hd ⟨hcr, hsr⟩) hl kr
  · have hN := va_Nw.warmM C.2.2.1 (va_Nw.of rfl (C.1.1 _ w1))
    exact va_go (va_runIN (host := HOST o) (g := F0 m pc ls ((asR.map (rel E)).reverse ++ .ref (adr E aR) :: (st.drop na).map (rel E))) hfix (hM.ret hr) ⟨⟨⟨rfl, rfl, hroom.1, hroom.2, hws, hcin⟩, hcd, C.word w4 rfl, hnm1, nPar_at hnp, va_Nw.use rfl hN⟩, hin, C.word w2 rfl⟩ hpre rfl hlen hsz rfl hW8 hd ⟨hcr, hsr⟩) hl kr
end CAM
