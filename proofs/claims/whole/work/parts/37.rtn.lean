/-! RETURNS; calls by an interface; the length of the locals -/
section RTN
variable {p : Program} {l : Launch} {e : Env} {R : Room} {s s0 : State} {m : MethodId} {args a0 : Array Value} {below : List Frame} {meth : Method} {c : Code} {H : Heap} {locs : List Loc} {cells slots : Nat} {Q : State → Prop}
variable {b : ByteArray} {pc mi : Nat} {ls : Array Slot} {E : EP} {L : LO} {st : List AV} {σ : ST} {cm na rc d ix : Nat}
theorem ret_inv {rt : Nat} {z : (Nat × List AV × FR) ⊕ (RS × ST)} (h : ret1 rt st σ = some (.inr z)) : ∃ v, st = [v] ∧ okR rt v = true ∧ z = .inr (.inl (some v), σ) := by
  unfold ret1 at h
  split at h
  · rename_i v
    split at h
    · rename_i ho
      cases h
      exact ⟨v, rfl, ho, rfl⟩
    · cases h
  · cases h
/-- a method returns -/
theorem ret_sound (C : CX l a0 s0 E mi p s m meth c) {i : ClassFile.Instr} {len : Nat} (hcd : CD mi pc = some (i, len)) {v : Option AV} {σ1 : ST} (h : stepI mi pc i len L st σ = some (.inr (.inr (.inl v, σ1)))) (hH : HS E σ H) (hl : ∀ q ∈ locs, AE E q.base) (hs : okS st) {XC : Addr → String → State → State → Prop} : σ1 = σ ∧ W p l e R s m args below meth c H locs cells slots (vx_MQ below (QcM E (.inl v, σ)) XC args s cells slots (AE E)) (F0 m pc ls (st.map (rel E))) := by
  obtain ⟨b, hb, hd⟩ := C.dec hcd
  have hok := CD_ok hcd
  obtain ⟨-, hx, -, -, r, m1, m2, m3, m4, m5, m6, m7, m8⟩ := id C
  have hrt := RT_at m1
  rcases stepI_end h with ⟨ix, -, hc⟩ | ⟨rfl, rfl, hR, hz⟩ | ⟨⟨rfl, x, r0, hst⟩, hr1⟩ | ⟨⟨rfl, x, r0, hst⟩, hr1⟩ | ⟨⟨rfl, x, r0, hst⟩, hr1⟩ | ⟨rfl, a, r0, fs, hst, hcell, hz⟩ | ⟨ix, rfl, hn, hz⟩
  · obtain ⟨cm, na, rc, kd, -, -, -, -, -, -, hz⟩ := cal_inv hc
    cases hz
  · cases hz
    have e1 : len = 1 := by simpa [iOK] using hok
    subst e1
    refine ⟨rfl, vx_ret ?_⟩
    have hret : meth.sig.returnType = none := by
      rw [m5]
      rw [hR] at hrt
      cases hrr : r.2.2.2.1 with
      | none => rfl
      | some t => rw [hrr] at hrt; cases t <;> simp [rtOK] at hrt
    exact W.vret hx hb hret (fun t ht _ => ⟨rfl, by rw [ht]; exact hH, hs⟩) hl hd m6
  · obtain ⟨w, hw, ho, hz⟩ := ret_inv hr1
    cases hz
    rw [hw] at hst
    cases hst
    subst hw
    have e1 : len = 1 := by simpa [iOK] using hok
    subst e1
    refine ⟨rfl, vx_ret ?_⟩
    simp only [okR, Bool.or_eq_true, Bool.and_eq_true, beq_iff_eq] at ho
    rcases ho with hR | ⟨hR, hx01⟩
    · have hret : meth.sig.returnType = some .int := by
        rw [m5]
        rw [hR] at hrt
        cases hrr : r.2.2.2.1 with
        | none => rw [hrr] at hrt; simp [rtOK] at hrt
        | some t => rw [hrr] at hrt; cases t <;> first | rfl | simp [rtOK] at hrt
      exact W.iret (v := i3 x) hx hb hret (fun t ht _ => ⟨rfl, by rw [ht]; exact hH, hs⟩) hl hd m6
    · have hret : meth.sig.returnType = some .boolean := by
        rw [m5]
        rw [hR] at hrt
        cases hrr : r.2.2.2.1 with
        | none => rw [hrr] at hrt; simp [rtOK] at hrt
        | some t => rw [hrr] at hrt; cases t <;> first | rfl | simp [rtOK] at hrt
      refine W.zret (v := i3 x) hx hb hret ?_ (fun t ht _ => ⟨rfl, by rw [ht]; exact hH, hs⟩) hl hd m6
      rcases hx01 with rfl | rfl
      · show narrow .boolean (.int (i3 0)) = .int (i3 0)
        decide
      · show narrow .boolean (.int (i3 1)) = .int (i3 1)
        decide
  · obtain ⟨w, hw, ho, hz⟩ := ret_inv hr1
    cases hz
    rw [hw] at hst
    cases hst
    subst hw
    have e1 : len = 1 := by simpa [iOK] using hok
    subst e1
    refine ⟨rfl, vx_ret ?_⟩
    simp only [okR, beq_iff_eq] at ho
    have hret : meth.sig.returnType = some .long := by
      rw [m5]
      rw [ho] at hrt
      cases hrr : r.2.2.2.1 with
      | none => rw [hrr] at hrt; simp [rtOK] at hrt
      | some t => rw [hrr] at hrt; cases t <;> first | rfl | simp [rtOK] at hrt
    exact W.lret (v := i6 x) hx hb hret (fun t ht _ => ⟨rfl, by rw [ht]; exact hH, hs⟩) hl hd m6
  · obtain ⟨w, hw, ho, hz⟩ := ret_inv hr1
    cases hz
    rw [hw] at hst
    cases hst
    subst hw
    have e1 : len = 1 := by simpa [iOK] using hok
    subst e1
    refine ⟨rfl, vx_ret ?_⟩
    simp only [okR, beq_iff_eq] at ho
    have hret : ∃ rt, meth.sig.returnType = some rt ∧ ((∃ n, rt = .object n) ∨ ∃ t, rt = .array t) := by
      rw [m5]
      rw [ho] at hrt
      cases hrr : r.2.2.2.1 with
      | none => rw [hrr] at hrt; simp [rtOK] at hrt
      | some t => rw [hrr] at hrt; cases t <;> first | exact ⟨_, rfl, Or.inl ⟨_, rfl⟩⟩ | exact ⟨_, rfl, Or.inr ⟨_, rfl⟩⟩ | simp [rtOK] at hrt
    obtain ⟨rt, hr1, hr2⟩ := hret
    refine W.aret (v := va_rf (rf E x)) hx hb hr1 hr2 ?_ (fun t ht _ => ⟨rfl, by rw [ht]; exact hH, hs⟩) hl hd m6
    cases x with
    | none => exact Or.inl rfl
    | some a => exact Or.inr ⟨_, rfl⟩
  · cases hz
  · cases hz
theorem ML_f {mi ix cm na rc : Nat} (h : ML mi ix = some (cm, na, rc, 3)) (hcm : cm < 1000) : ∃ (o : Nat) (r : MTY) (q : vw_C) (x : MethodName), OWs[mi]? = some o ∧ MTB[cm]? = some r ∧ r.2.2.2.2 = [] ∧ na = 1 ∧ CLS[rc]? = some q ∧ q.1 = r.1.cls ∧ rc < 99 ∧ nmOK r.1 = true ∧ nmOK x = true ∧ nPar x = some 0 ∧ Cond.methodLink (oN o) ix x ∈ lw_tbl ∧ Cond.selects r.1.cls x r.1 ∈ lw_tbl ∧ Cond.instanceMethod r.1 ∈ lw_tbl ∧ Cond.initialized r.1.cls ∈ lw_tbl ∧ Cond.declares x ∈ lw_tbl ∧ Cond.interfaceMethod x.cls x.cls x.name x.desc ∈ lw_tbl ∧ Cond.publicMethod r.1 ∈ lw_tbl ∧ Cond.unhidden r.1.cls x.name x.desc ∈ lw_tbl ∧ Cond.castable r.1.cls x.cls ∈ lw_tbl := by
  obtain ⟨o, h1, h2⟩ := ML_at h
  unfold mlC at h2
  have e0 : Nat.ble 1000 cm = false := Bool.eq_false_iff.mpr fun z => absurd (Nat.le_of_ble_eq_true z) (by omega)
  rw [e0, Bool.false_or] at h2
  split at h2
  · simp at h2
  · simp at h2
  · rename_i r a b c d f g h i j tg hr hp ht
    simp only [Bool.and_eq_true, decide_eq_true_eq, beq_iff_eq] at h2
    obtain ⟨⟨⟨⟨⟨⟨-, b2⟩, b3⟩, b4⟩, b5⟩, b6⟩, b7⟩ := h2
    cases hq : CLS[rc]? with
    | none => rw [hq] at b4; cases b4
    | some q =>
      rw [hq] at b4
      split at b7
      · rename_i o2 ix2 x hw
        simp only [Bool.and_eq_true, decide_eq_true_eq] at b7
        obtain ⟨⟨⟨⟨⟨⟨⟨⟨⟨⟨⟨c1, c2⟩, c3⟩, c4⟩, c5⟩, c6⟩, c7⟩, c8⟩, c9⟩, c10⟩, c11⟩, c12⟩ := b7
        subst c1
        subst c2
        exact ⟨o, r, q, x, h1, hr, b2, b3, rfl, Option.some.inj b4, b5, b6, c3, c4, wAt_in hw, wAt_in c5, wAt_in c6, wAt_in c7, wAt_in c8, wAt_in c9, wAt_in c10, wAt_in c11, wAt_in c12⟩
      · cases b7
  · cases h2
/-- a call by an interface -/
theorem call_f {v9 : Option AV} {σ2 : ST} {cnt : Nat} (C : CX l a0 s0 E mi p s m meth c) (hb : c.code = b) (hd : decode b pc = .ok (.invokeinterface ix cnt, 5)) (hml : ML mi ix = some (cm, na, rc, 3)) (hcm : cm < 1000) (hlaw : cm < lawI) (hna : na ≤ st.length) (hok : okC 3 rc (st.take na).reverse σ = true) (hwt : wt (st.drop na) ≤ 8) (hmx : MX cm ≤ 12)
    (hM : METP l s0 E d cm (st.take na).reverse σ (.inl v9, σ2)) (hH : HS E σ H) (hl : ∀ q ∈ locs, AE E q.base) (hsz : ls.size = c.maxLocals)
    (hfr : d + 1 ≤ R.frames) (hlo : 40 * (d + 1) ≤ R.locals) (hcr : cells + (σ2.2.1 - σ.2.1) ≤ R.cells) (hsr : slots + (σ2.2.2 - σ.2.2) ≤ R.slots)
    (kr : ∀ (H1 : Heap) (locs1 : List Loc), HS E σ2 H1 → okS v9.toList → (∀ q ∈ locs1, AE E q.base) → W p l e R s m args below meth c H1 locs1 (cells + (σ2.2.1 - σ.2.1)) (slots + (σ2.2.2 - σ.2.2)) Q (F0 m (pc + 5) ls ((v9.map (rel E)).toList ++ (st.drop na).map (rel E)))) : W p l e R s m args below meth c H locs cells slots Q (F0 m pc ls (st.map (rel E))) := by
  obtain ⟨o, r, q, x, h1, hr, hhh, hn1, hq, hqn, hrc, hnm, hnx, hnp, w1, w2, w3, w4, w5, w6, w7, w8, w9⟩ := ML_f hml hcm
  obtain ⟨hnm1, hnm2⟩ := nm_at hnm
  obtain ⟨hnx1, hnx2⟩ := nm_at hnx
  have hmxr := MX_at hr
  obtain ⟨aR, asR, fsR, hsplit, hcell⟩ : ∃ aR asR fs, (st.take na).reverse = .inr (.inr (some aR)) :: asR ∧ σ.1 aR = .inl (rc, fs) := by
    unfold okC at hok
    simp only at hok
    split at hok
    · rename_i a r9 he
      split at hok
      · rename_i ci fs hcell
        refine ⟨a, r9, fs, he, ?_⟩
        rw [hcell, eq_of_beq hok]
      · cases hok
    · cases hok
  have hst : st.map (rel E) = (asR.map (rel E)).reverse ++ .ref (adr E aR) :: (st.drop na).map (rel E) := call_st hsplit
  have hlen : (asR.map (rel E)).length = 0 := by
    have := congrArg List.length hsplit
    simp only [List.length_reverse, List.length_take, List.length_cons] at this
    rw [List.length_map]
    omega
  obtain ⟨-, -, k3⟩ := hH.obj hcell (by omega)
  rcases k3 with ⟨q1, -, -⟩ | ⟨-, -, -, q4⟩
  · omega
  obtain ⟨r', hr', cellV, v1, v2, v3, -⟩ := q4
  have hcls := (C.KT.1 rc q hq).2
  rw [hqn] at hcls
  have hpre : PreV s H r.1.cls (adr E aR) (PcM s0 E (st.take na).reverse σ) (asR.map (rel E)) := ⟨PcM_blind, ⟨cellV, v1, by rw [v3]; rfl, by rw [v2]; exact hcls.1⟩, fun U hU hW => ⟨by rw [hsplit]; rfl, State.WarmedH.trans C.2.2.1 hW, by rw [hU]; exact hH⟩⟩
  have hroom : (rmM d (σ2.2.1 - σ.2.1) (σ2.2.2 - σ.2.2)).frames + 1 ≤ R.frames ∧ 8 + (r.2.2.1 + 11) + (rmM d (σ2.2.1 - σ.2.1) (σ2.2.2 - σ.2.2)).locals ≤ R.locals := by
    refine ⟨hfr, ?_⟩
    show 8 + (r.2.2.1 + 11) + 40 * d ≤ R.locals
    omega
  have hws : ∀ w ∈ wsM r, ∀ (a' : Array Value) (U : State), s.WarmedH U.vm → w.before a' U = true := fun w hw a' U hW => by
    rw [List.mem_singleton.mp hw]
    exact C.later (CK_at hr hlaw) (cd_good r) a' U hW
  have ecd : cdW r = .code r.1 r.2.1 r.2.2.1 r.2.2.2.1 := by unfold cdW; rw [hhh]
  have hcin : Cond.code r.1 r.2.1 r.2.2.1 r.2.2.2.1 ∈ wsM r := by rw [← ecd]; exact List.mem_singleton.mpr rfl
  have hcd : (Cond.code r.1 r.2.1 r.2.2.1 r.2.2.2.1).before args s = true := by rw [← ecd]; exact C.word (CK_at hr hlaw) (cd_good r)
  have hF : va_Fw r.1.cls x r.1 s := va_Fw.moved hnx1 C.2.2.1.alike (va_Fw.of (C.1.1 _ w5) (C.1.1 _ w6) (C.1.1 _ w7) (C.1.1 _ w8) (C.1.1 _ w9))
  obtain ⟨f1, f2, f3, f4, f5⟩ := hF
  rw [hst]
  have hfix : CallFix p m c b c.maxLocals s args [] (oN o) := ⟨C.2.1, hb, rfl, C.own h1, fun w hw => nomatch hw⟩
  have hW8 : 2 * (F0 m pc ls ((asR.map (rel E)).reverse ++ .ref (adr E aR) :: (st.drop na).map (rel E))).monitorRoom + (((st.drop na).map (rel E)).map fun v => v.category).sum ≤ 8 := lv_room (by rw [wt_cat]; exact hwt)
  exact va_go5 (va_runF (g := F0 m pc ls ((asR.map (rel E)).reverse ++ .ref (adr E aR) :: (st.drop na).map (rel E))) hcls hfix (hM.ret hr) ⟨⟨rfl, rfl, hroom.1, hroom.2, hws, hcin⟩, C.word w1 rfl, va_any rfl f1, va_any rfl f2, C.word w2 rfl, C.word w3 rfl, va_any rfl f3, va_any rfl f4, va_any rfl f5, C.word w4 rfl, hcd, hnx1, nPar_at hnp⟩ hpre rfl hlen hsz rfl hW8 hd ⟨hcr, hsr⟩) hl kr
end RTN
