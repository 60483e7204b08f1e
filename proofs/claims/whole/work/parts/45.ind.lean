/-! THE INDUCTION -/
set_option maxRecDepth 100000 in
theorem MX_le : (MXs.all fun x => Nat.ble x 12) = true := by decide +kernel
theorem MX_12 (cm : Nat) : MX cm ≤ 12 := by
  unfold MX
  rw [List.getD_eq_getElem?_getD]
  cases h : MXs[cm]? with
  | none => exact Nat.zero_le _
  | some v => exact Nat.le_of_ble_eq_true (List.all_eq_true.mp MX_le v (List.mem_of_getElem? h))
def lawF (x : Nat × Nat × Nat × Nat) : Bool := Nat.ble 1000 x.1 || Nat.blt x.1 lawI
theorem BF_inl {cm : Nat} {as : List AV} {σ : ST} {x : RS × ST} (h : BF cm as σ = some x) : ∃ v, x.1 = .inl v := by
  unfold BF at h
  split at h
  all_goals try split at h
  all_goals try split at h
  all_goals first
    | (cases h; exact ⟨_, rfl⟩)
    | cases h
section IND
/-- the built-in methods -/
def BLT : Prop := ∀ {p : Program} {l : Launch} {e : Env} {R : Room} {s s0 : State} {m : MethodId} {args a0 : Array Value} {below : List Frame} {meth : Method} {c : Code} {H : Heap} {locs : List Loc} {cells slots : Nat} {Q : State → Prop} {pc mi : Nat} {ls : Array Slot} {E : EP} {st : List AV} {σ σ2 : ST} {cm na rc kd ix : Nat} {i : ClassFile.Instr} {len : Nat} {v : Option AV},
  CX l a0 s0 E mi p s m meth c → CD mi pc = some (i, len) → (i = .invokestatic ix ∨ i = .invokespecial ix ∨ i = .invokevirtual ix ∨ ∃ n, i = .invokeinterface ix n) → ML mi ix = some (cm, na, rc, kd) → 1000 ≤ cm → na ≤ st.length → kdOf i kd = true → okC kd rc (st.take na).reverse σ = true → wt (st.drop na) ≤ 8 → BF cm (st.take na).reverse σ = some (.inl v, σ2) →
  HS E σ H → s.heap.size ≤ H.size → (∀ q ∈ locs, AE E q.base) → okS st → ls.size = c.maxLocals → 17 ≤ R.frames → 680 ≤ R.locals → cells + (σ2.2.1 - σ.2.1) ≤ R.cells → slots + (σ2.2.2 - σ.2.2) ≤ R.slots →
  (∀ (H1 : Heap) (locs1 : List Loc), HS E σ2 H1 → okS v.toList → (∀ q ∈ locs1, AE E q.base) → W p l e R s m args below meth c H1 locs1 (cells + (σ2.2.1 - σ.2.1)) (slots + (σ2.2.2 - σ.2.2)) Q (F0 m (pc + len) ls ((v.map (rel E)).toList ++ (st.drop na).map (rel E)))) →
  W p l e R s m args below meth c H locs cells slots Q (F0 m pc ls (st.map (rel E)))
/-- thrown where it is made -/
def THR : Prop := ∀ {p : Program} {l : Launch} {e : Env} {R : Room} {s s0 : State} {m : MethodId} {args a0 : Array Value} {below : List Frame} {meth : Method} {c : Code} {H : Heap} {locs : List Loc} {cells slots : Nat} {pc mi : Nat} {ls : Array Slot} {E : EP} {st : List AV} {σ : ST} {ix : Nat} {len : Nat},
  CX l a0 s0 E mi p s m meth c → CD mi pc = some (.new ix, len) → NW mi ix = some 99 → wt st ≤ 8 →
  HS E σ H → s.heap.size ≤ H.size → (∀ q ∈ locs, AE E q.base) → ls.size = c.maxLocals → 16 ≤ R.frames → 640 ≤ R.locals → cells + 1 ≤ R.cells → slots + 6 ≤ R.slots → HD mi pc = none ∧
  W p l e R s m args below meth c H locs cells slots (vx_MQ below (QcM E (.inr σ.2.1, sN σ (.inl (99, [])) 6)) (XcM E (.inr σ.2.1, sN σ (.inl (99, [])) 6)) args s (cells + 1) (slots + 6) (AE E)) (F0 m pc ls (st.map (rel E)))
/-- no call leads to the law -/
def LWF : Prop := ∀ {mi ix cm na rc kd : Nat}, ML mi ix = some (cm, na, rc, kd) → cm < 1000 → cm < lawI
def SND (n : Nat) : Prop := ∀ {d mi pc : Nat} {L : LO} {st : List AV} {σ : ST} {x : RS × ST}, run n d mi pc L st σ = some x →
  ∀ {p : Program} {l : Launch} {e : Env} {R : Room} {s s0 : State} {m : MethodId} {args a0 : Array Value} {below : List Frame} {meth : Method} {c : Code} {H : Heap} {locs : List Loc} {cells slots : Nat} {ls : Array Slot} {E : EP},
  CX l a0 s0 E mi p s m meth c → HS E σ H → s.heap.size ≤ H.size → (∀ q ∈ locs, AE E q.base) → LR E L ls → okS st → L.length = MX mi → d ≤ R.frames → 40 * d ≤ R.locals → cells + (x.2.2.1 - σ.2.1) ≤ R.cells → slots + (x.2.2.2 - σ.2.2) ≤ R.slots →
  W p l e R s m args below meth c H locs cells slots (vx_MQ below (QcM E x) (XcM E x) args s (cells + (x.2.2.1 - σ.2.1)) (slots + (x.2.2.2 - σ.2.2)) (AE E)) (F0 m pc ls (st.map (rel E)))
/-- a method by its run -/
theorem METP_of {n : Nat} (ih : SND n) {d cm : Nat} {as : List AV} {σ : ST} {x : RS × ST} (h : run n d cm 0 (iL (MX cm) as) [] σ = some x) {l : Launch} {s0 : State} {a0 : Array Value} {E : EP} (hE : EV l a0 s0 E) (hfit : (iA as).length ≤ MX cm) (hok : okS as) (hpl : ∀ r, MTB[cm]? = some r → plainName r.1.cls = true) : METP l s0 E d cm as σ x := by
  intro r hr
  have hmx := MX_at hr
  have key : ∀ {p : Program} {e : Env} {s : State} {m : MethodId} {args : Array Value} {below : List Frame} {meth : Method} {c : Code} {s₁ : State}, BodyLoose p l r.1 (headSpec (wsM r) (rmM d (x.2.2.1 - σ.2.1) (x.2.2.2 - σ.2.2))) r.2.1 r.2.2.1 r.2.2.2.1 e s m args below meth c s₁ → c.maxLocals = r.2.2.1 → c.exceptionTable.toList = tableOf r.2.2.2.2 → PcM s0 E as σ args s →
      W p l e (headSpec (wsM r) (rmM d (x.2.2.1 - σ.2.1) (x.2.2.2 - σ.2.2))).room s m args below meth c s.heap [] 0 0 (vx_MQ below (QcM E x) (XcM E x) args s (x.2.2.1 - σ.2.1) (x.2.2.2 - σ.2.2) (AE E)) (entryFrame m args r.2.2.1) := by
    intro p e s m args below meth c s₁ B hml htab hP
    obtain ⟨rfl, hW, hH⟩ := hP
    have C : CX l a0 s0 E cm p s m meth c := ⟨hE, B.exec, hW, ⟨by rw [hH.2.1]; omega, hH.2.2.1⟩, r, hr, B.bytes, hml, findClass_of_methodNamed B.named, B.returns, B.notSynchronized, (name_of_methodNamed B.named B.method).1, htab⟩
    have hLR := LR_entry (E := E) (mx := r.2.2.1) (by rw [hmx]; exact hfit) hok
    have hlen : (iL (MX cm) as).length = MX cm := by
      unfold iL
      rw [List.length_append, List.length_replicate]
      omega
    rw [lg_entry_eq, hmx]
    rw [hmx] at hLR
    have := ih h (R := (headSpec (wsM r) (rmM d (x.2.2.1 - σ.2.1) (x.2.2.2 - σ.2.2))).room) (args := (as.map (rel E)).toArray) (below := below) (e := e) (locs := []) (cells := 0) (slots := 0) C hH (Nat.le_refl _) (fun q hq => nomatch hq) hLR (fun v hv => nomatch hv) hlen (Nat.le_refl d) (Nat.le_refl (40 * d)) (by rw [Nat.zero_add]; exact Nat.le_refl _) (by rw [Nat.zero_add]; exact Nat.le_refl _)
    rw [Nat.zero_add, Nat.zero_add] at this
    exact this
  cases hhh : r.2.2.2.2 with
  | nil =>
    have ecd : wsM r = [Cond.code r.1 r.2.1 r.2.2.1 r.2.2.2.1] := by unfold wsM cdW; rw [hhh]
    refine vx_ofW (hpl r hr) ecd fun p e s m args below meth c s₁ B hml ht hP => ?_
    refine key B hml ?_ hP
    rw [hhh]
    cases hc : c.exceptionTable.toList with
    | nil => rfl
    | cons z zs => exact (ht z (by rw [hc]; exact List.mem_cons_self)).elim
  | cons h0 hh0 =>
    have ecd : wsM r = [Cond.codeWith r.1 r.2.1 r.2.2.1 r.2.2.2.1 r.2.2.2.2] := by unfold wsM cdW; rw [hhh]
    refine vx_ofWH (hpl r hr) ecd fun p e s m args below meth c s₁ B hml hP => ?_
    refine key B hml ?_ hP
    exact vx_table (x := r.1) B (atoms_spec (ws := wsM r) B.pre _ (by rw [ecd]; exact List.mem_cons_self))
theorem okS_take {st : List AV} (h : okS st) (na : Nat) : okS (st.take na).reverse := fun v hv => h v (List.mem_of_mem_take (List.mem_reverse.mp hv))
theorem okS_drop {st : List AV} (h : okS st) (na : Nat) : okS (st.drop na) := fun v hv => h v (List.mem_of_mem_drop hv)
theorem okS_app {a b : List AV} (h1 : okS a) (h2 : okS b) : okS (a ++ b) := fun v hv => (List.mem_append.mp hv).elim (h1 v) (h2 v)
set_option maxRecDepth 100000 in
theorem MT_nm : (MTB.all fun r => nmOK r.1) = true := by decide +kernel
theorem MT_pl {cm : Nat} : ∀ r, MTB[cm]? = some r → plainName r.1.cls = true := fun r hr => (nm_at (List.all_eq_true.mp MT_nm r (List.mem_of_getElem? hr))).2
theorem ML_kd {mi ix cm na rc kd : Nat} (h : ML mi ix = some (cm, na, rc, kd)) (hcm : cm < 1000) : kd ≠ 4 ∧ kd ≠ 5 := by
  obtain ⟨o, h1, h2⟩ := ML_at h
  unfold mlC at h2
  have e0 : Nat.ble 1000 cm = false := Bool.eq_false_iff.mpr fun z => absurd (Nat.le_of_ble_eq_true z) (by omega)
  rw [e0, Bool.false_or] at h2
  split at h2
  · simp only [Bool.and_eq_true, Bool.or_eq_true, decide_eq_true_eq, beq_iff_eq] at h2
    omega
  · simp only [Bool.and_eq_true, decide_eq_true_eq, beq_iff_eq] at h2
    omega
  · simp only [Bool.and_eq_true, decide_eq_true_eq, beq_iff_eq] at h2
    omega
  · cases h2
theorem XO_inv {mi pc a : Nat} {σ : ST} {o : Option Nat} (h : XO mi pc a σ = some o) : ∃ ix len, CD mi pc = some (.invokevirtual ix, len) ∧ HX mi pc a σ = some o := by
  unfold XO at h
  split at h
  · rename_i ix len hc
    exact ⟨ix, len, hc, h⟩
  · cases h
theorem run_inv {n d mi pc : Nat} {L : LO} {st : List AV} {σ : ST} {x : RS × ST} (h : run (n + 1) d mi pc L st σ = some x) : ∃ i len so, CD mi pc = some (i, len) ∧ stepI mi pc i len L st σ = some so ∧
    ((∃ fr σ1, so = .inl (fr, σ1) ∧ run n d mi fr.1 fr.2.1 fr.2.2 σ1 = some x) ∨
    (∃ cm as fr d1, so = .inr (.inl (cm, as, fr)) ∧ d = d1 + 1 ∧ ∃ y : RS × ST, ((cm < 1000 ∧ run n d1 cm 0 (iL (MX cm) as) [] σ = some y) ∨ (1000 ≤ cm ∧ 16 ≤ d1 ∧ BF cm as σ = some y)) ∧
      ((∃ v, y.1 = .inl v ∧ run n (d1 + 1) mi fr.1 fr.2.1 (v.toList ++ fr.2.2) y.2 = some x) ∨ (∃ a ix, y.1 = .inr a ∧ i = .invokevirtual ix ∧ ((∃ h, HX mi pc a y.2 = some (some h) ∧ run n (d1 + 1) mi h L [.inr (.inr (some a))] y.2 = some x) ∨ (HX mi pc a y.2 = some none ∧ x = (.inr a, y.2)))))) ∨
    (∃ v σ1, so = .inr (.inr (.inl v, σ1)) ∧ x = (.inl v, σ1)) ∨
    (∃ a σ1, so = .inr (.inr (.inr a, σ1)) ∧ 16 ≤ d ∧ wt st ≤ 8 ∧ ((∃ h, HX mi pc a σ1 = some (some h) ∧ run n d mi h L [.inr (.inr (some a))] σ1 = some x) ∨ (HX mi pc a σ1 = some none ∧ x = (.inr a, σ1))))) := by
  simp only [run] at h
  cases hcd : CD mi pc with
  | none => unfold step at h; rw [hcd] at h; cases h
  | some il =>
    obtain ⟨i, len⟩ := il
    have hst : step mi pc L st σ = stepI mi pc i len L st σ := by unfold step; rw [hcd]
    rw [hst] at h
    refine ⟨i, len, ?_⟩
    split at h
    · cases h
    · rename_i fr σ1 hso
      exact ⟨_, rfl, hso, Or.inl ⟨fr, σ1, rfl, h⟩⟩
    · rename_i cm as fr hso
      refine ⟨_, rfl, hso, Or.inr (Or.inl ⟨cm, as, fr, ?_⟩)⟩
      split at h
      · cases h
      · rename_i d1
        refine ⟨d1, rfl, rfl, ?_⟩
        have hy : ∀ y, (if cm < 1000 then run n d1 cm 0 (iL (MX cm) as) [] σ else if d1 < 16 then none else BF cm as σ) = some y → ((cm < 1000 ∧ run n d1 cm 0 (iL (MX cm) as) [] σ = some y) ∨ (1000 ≤ cm ∧ 16 ≤ d1 ∧ BF cm as σ = some y)) := by
          intro y hy
          split at hy
          · rename_i hc
            exact Or.inl ⟨hc, hy⟩
          · rename_i hc
            split at hy
            · cases hy
            · rename_i hd
              exact Or.inr ⟨Nat.not_lt.mp hc, Nat.not_lt.mp hd, hy⟩
        split at h
        · cases h
        · rename_i v σ2 h9
          exact ⟨_, hy _ h9, Or.inl ⟨v, rfl, h⟩⟩
        · rename_i a σ2 h9
          refine ⟨_, hy _ h9, Or.inr ⟨a, ?_⟩⟩
          split at h
          · rename_i hh hx
            obtain ⟨ix, len9, c1, c2⟩ := XO_inv hx
            cases hcd.symm.trans c1
            exact ⟨ix, rfl, rfl, Or.inl ⟨hh, c2, h⟩⟩
          · rename_i hx
            obtain ⟨ix, len9, c1, c2⟩ := XO_inv hx
            cases hcd.symm.trans c1
            exact ⟨ix, rfl, rfl, Or.inr ⟨c2, (Option.some.inj h).symm⟩⟩
          · cases h
    · rename_i v σ1 hso
      exact ⟨_, rfl, hso, Or.inr (Or.inr (Or.inl ⟨v, σ1, rfl, (Option.some.inj h).symm⟩))⟩
    · rename_i a σ1 hso
      refine ⟨_, rfl, hso, Or.inr (Or.inr (Or.inr ⟨a, σ1, rfl, ?_⟩))⟩
      split at h
      · cases h
      · rename_i hdw
        refine ⟨by omega, by omega, ?_⟩
        split at h
        · rename_i hh hx
          exact Or.inl ⟨hh, hx, h⟩
        · rename_i hx
          exact Or.inr ⟨hx, (Option.some.inj h).symm⟩
        · cases h
set_option maxHeartbeats 4000000 in
theorem snd_all (BL : BLT) (TH : THR) (LW : LWF) : ∀ n, SND n := by
  intro n
  induction n with
  | zero =>
    intro d mi pc L st σ x h
    cases h
  | succ n ih =>
    intro d mi pc L st σ x h p l e R s s0 m args a0 below meth c H locs cells slots ls E C hH hz hl hL hs hln hfr hlo hcr hsr
    have hmo := run_mo (n + 1) h
    obtain ⟨i, len, so, hcd, hso, h⟩ := run_inv h
    obtain ⟨b, hb, hd⟩ := C.dec hcd
    have hiok := CD_ok hcd
    have hsz : ls.size = c.maxLocals := by
      obtain ⟨-, -, -, -, r, m1, -, m3, -⟩ := id C
      rw [hL.1, hln, m3, MX_at m1]
    have hsize : ∀ {σ9 : ST} {H9 : Heap}, HS E σ9 H9 → σ.2.1 ≤ σ9.2.1 → s.heap.size ≤ H9.size := by
      intro σ9 H9 h9 hle
      have e1 := hH.2.1
      have e2 := h9.2.1
      omega
    have next : ∀ {σ2 : ST} {pc2 : Nat} {st2 : List AV} {L2 : LO} {ls2 : Array Slot}, run n d mi pc2 L2 st2 σ2 = some x → σ.2.1 ≤ σ2.2.1 ∧ σ.2.2 ≤ σ2.2.2 → LR E L2 ls2 → L2.length = MX mi → okS st2 → ∀ (H1 : Heap) (locs1 : List Loc), HS E σ2 H1 → (∀ q ∈ locs1, AE E q.base) → W p l e R s m args below meth c H1 locs1 (cells + (σ2.2.1 - σ.2.1)) (slots + (σ2.2.2 - σ.2.2)) (vx_MQ below (QcM E x) (XcM E x) args s (cells + (x.2.2.1 - σ.2.1)) (slots + (x.2.2.2 - σ.2.2)) (AE E)) (F0 m pc2 ls2 (st2.map (rel E))) := by
      intro σ2 pc2 st2 L2 ls2 hr my hL2 hln2 hs2 H1 locs1 g1 g3
      have m2 := run_mo n hr
      have k := ih hr (args := args) (below := below) (e := e) (R := R) (cells := cells + (σ2.2.1 - σ.2.1)) (slots := slots + (σ2.2.2 - σ.2.2)) C g1 (hsize g1 my.1) g3 hL2 hs2 hln2 hfr hlo (by omega) (by omega)
      rw [show cells + (σ2.2.1 - σ.2.1) + (x.2.2.1 - σ2.2.1) = cells + (x.2.2.1 - σ.2.1) by omega, show slots + (σ2.2.2 - σ.2.2) + (x.2.2.2 - σ2.2.2) = slots + (x.2.2.2 - σ.2.2) by omega] at k
      exact k
    have okA : ∀ a : Nat, okS [.inr (.inr (some a))] := fun a v hv => by rw [List.mem_singleton.mp hv]; trivial
    rcases h with ⟨fr, σ1, rfl, h⟩ | ⟨cm, as, fr, d1, rfl, rfl, y, hy, h⟩ | ⟨v, σ1, rfl, rfl⟩ | ⟨a, σ1, rfl, hd16, hw8, h⟩
    · have m1 : σ.2.1 ≤ σ1.2.1 ∧ σ.2.2 ≤ σ1.2.2 := stepI_mo hso
      have m2 := run_mo n h
      have ln : fr.2.1.length = L.length := stepI_ln hso
      exact go_sound C hcd hso hH hz hl hL hs (by omega) (by omega) fun ls' H1 locs1 a1 a2 a3 a4 a5 => next h m1 a4 (ln.trans hln) a5 H1 locs1 a1 a3
    · rcases stepI_end hso with ⟨ix, hi, hc⟩ | ⟨g1, g2, g3, h9⟩ | ⟨g1, h9⟩ | ⟨g1, h9⟩ | ⟨g1, h9⟩ | ⟨g1, g2, g3, g4, g5, g6, h9⟩ | ⟨g1, g2, g3, h9⟩
      · obtain ⟨cm', na, rc, kd, hml, hna, hkd, hok, hwt, hfit, h9⟩ := cal_inv hc
        cases h9
        have my : σ.2.1 ≤ y.2.2.1 ∧ σ.2.2 ≤ y.2.2.2 := by
          rcases hy with ⟨-, hy⟩ | ⟨-, -, hy⟩
          · exact run_mo n hy
          · exact BF_mo hy
        have m2 : y.2.2.1 ≤ x.2.2.1 ∧ y.2.2.2 ≤ x.2.2.2 := by
          rcases h with ⟨v, -, h⟩ | ⟨a, ix9, -, -, ⟨h9, -, h⟩ | ⟨-, rfl⟩⟩
          · exact run_mo n h
          · exact run_mo n h
          · exact ⟨Nat.le_refl _, Nat.le_refl _⟩
        have kr0 : ∀ {v : Option AV}, run n (d1 + 1) mi (pc + len) L (v.toList ++ st.drop na) y.2 = some x → ∀ (H1 : Heap) (locs1 : List Loc), HS E y.2 H1 → okS v.toList → (∀ q ∈ locs1, AE E q.base) → W p l e R s m args below meth c H1 locs1 (cells + (y.2.2.1 - σ.2.1)) (slots + (y.2.2.2 - σ.2.2)) (vx_MQ below (QcM E x) (XcM E x) args s (cells + (x.2.2.1 - σ.2.1)) (slots + (x.2.2.2 - σ.2.2)) (AE E)) (F0 m (pc + len) ls ((v.map (rel E)).toList ++ (st.drop na).map (rel E))) := by
          intro v hr H1 locs1 g1 g2 g3
          have k := next hr my hL hln (okS_app g2 (okS_drop hs na)) H1 locs1 g1 g3
          rw [List.map_append] at k
          have e9 : v.toList.map (rel E) = (v.map (rel E)).toList := by cases v <;> rfl
          rw [e9] at k
          exact k
        rcases hy with ⟨hcm, hy⟩ | ⟨hcm, hd16, hy⟩
        · have hM : METP l s0 E d1 cm (st.take na).reverse σ y := METP_of ih hy C.1 (hfit hcm) (okS_take hs na) MT_pl
          have hlaw := LW hml hcm
          have hk45 := ML_kd hml hcm
          rcases hi with rfl | rfl | rfl | ⟨cnt, rfl⟩
          · have e1 : len = 3 := by simpa [iOK] using hiok
            subst e1
            have e2 : kd = 0 := by simpa [kdOf] using hkd
            subst e2
            rcases h with ⟨v, hv, h⟩ | ⟨a, ix9, -, h9, -⟩
            · obtain ⟨y1, σ2⟩ := y
              cases hv
              exact call_s C hb hd hml hcm hlaw hna hwt (MX_12 _) hM hH hl hsz hfr hlo (by simp only at m2 ⊢; omega) (by simp only at m2 ⊢; omega) (kr0 h)
            · cases h9
          · have e1 : len = 3 := by simpa [iOK] using hiok
            subst e1
            have e2 : kd = 1 := by simpa [kdOf] using hkd
            subst e2
            rcases h with ⟨v, hv, h⟩ | ⟨a, ix9, -, h9, -⟩
            · obtain ⟨y1, σ2⟩ := y
              cases hv
              exact call_i C hb hd hml hcm hlaw hna hok hwt (MX_12 _) hM hH hl hsz hfr hlo (by simp only at m2 ⊢; omega) (by simp only at m2 ⊢; omega) (kr0 h)
            · cases h9
          · have e1 : len = 3 := by simpa [iOK] using hiok
            subst e1
            have e2 : kd = 2 := by
              simp only [kdOf, Bool.or_eq_true, beq_iff_eq] at hkd
              omega
            subst e2
            refine call_v C hb hd hml hcm hlaw hna hok hwt (MX_12 _) hM hH hl hsz hfr hlo (by omega) (by omega) (fun v9 H1 locs1 e9 g1 g2 g3 => ?_) (fun q H1 locs1 e9 g1 g2 g3 => ?_)
            · rcases h with ⟨v, hv, h⟩ | ⟨a, ix9, ha, -⟩
              · rw [e9] at hv
                cases hv
                exact kr0 h H1 locs1 g1 g2 g3
              · rw [e9] at ha
                cases ha
            · rcases h with ⟨v, hv, h⟩ | ⟨a, ix9, ha, -, ⟨h9, hx, h⟩ | ⟨hx, rfl⟩⟩
              · rw [e9] at hv
                cases hv
              · rw [e9] at ha
                cases ha
                exact thr_in C hx g1 g2 (next h my hL hln (okA q) H1 locs1 g1 g3)
              · rw [e9] at ha
                cases ha
                exact thr_out C hx g1 g2 g3 (Nat.le_refl _) (Nat.le_refl _)
          · have e1 : len = 5 := by simpa [iOK] using hiok
            subst e1
            have e2 : kd = 3 := by simpa [kdOf] using hkd
            subst e2
            rcases h with ⟨v, hv, h⟩ | ⟨a, ix9, -, h9, -⟩
            · obtain ⟨y1, σ2⟩ := y
              cases hv
              exact call_f C hb hd hml hcm hlaw hna hok hwt (MX_12 _) hM hH hl hsz hfr hlo (by simp only at m2 ⊢; omega) (by simp only at m2 ⊢; omega) (kr0 h)
            · cases h9
        · obtain ⟨v, hv⟩ := BF_inl hy
          rcases h with ⟨v', hv', h⟩ | ⟨a, ix9, ha, -⟩
          · obtain ⟨y1, σ2⟩ := y
            cases hv'
            exact BL C hcd hi hml hcm hna hkd hok hwt hy hH hz hl hs hsz (by omega) (by omega) (by simp only at m2 ⊢; omega) (by simp only at m2 ⊢; omega) (kr0 h)
          · rw [hv] at ha
            cases ha
      · cases h9
      · obtain ⟨w, -, -, hz9⟩ := ret_inv h9
        cases hz9
      · obtain ⟨w, -, -, hz9⟩ := ret_inv h9
        cases hz9
      · obtain ⟨w, -, -, hz9⟩ := ret_inv h9
        cases hz9
      · cases h9
      · cases h9
    · obtain ⟨e9, hw⟩ := ret_sound (R := R) (e := e) (args := args) (below := below) (ls := ls) (cells := cells) (slots := slots) (XC := XcM E (.inl v, σ1)) C hcd hso hH hl hs
      subst e9
      rw [show cells + (((.inl v, σ1) : RS × ST).2.2.1 - σ1.2.1) = cells by simp, show slots + (((.inl v, σ1) : RS × ST).2.2.2 - σ1.2.2) = slots by simp]
      exact hw
    · rcases stepI_end hso with ⟨ix, hi, hc⟩ | ⟨g1, g2, g3, h9⟩ | ⟨g1, h9⟩ | ⟨g1, h9⟩ | ⟨g1, h9⟩ | ⟨rfl, a9, r9, fs9, hst9, hcell, h9⟩ | ⟨ix, rfl, hn, h9⟩
      · obtain ⟨cm', na, rc, kd, hml, hna, hkd, hok, hwt, hfit, h9⟩ := cal_inv hc
        cases h9
      · cases h9
      · obtain ⟨w, -, -, hz9⟩ := ret_inv h9
        cases hz9
      · obtain ⟨w, -, -, hz9⟩ := ret_inv h9
        cases hz9
      · obtain ⟨w, -, -, hz9⟩ := ret_inv h9
        cases hz9
      · cases h9
        have e1 : len = 1 := by simpa [iOK] using hiok
        subst e1
        have hex : exOf σ a = 18 ∨ exOf σ a = 99 := Or.inl (by unfold exOf; rw [hcell])
        rw [hst9]
        refine W_athrow C.2.1 hb hd ?_
        rcases h with ⟨h9, hx, h⟩ | ⟨hx, rfl⟩
        · refine thr_in C hx hH hex ?_
          have k := next h ⟨Nat.le_refl _, Nat.le_refl _⟩ hL hln (okA a) H locs hH hl
          rw [Nat.sub_self, Nat.sub_self] at k
          exact k
        · exact thr_out C hx hH hex hl (Nat.le_add_right _ _) (Nat.le_add_right _ _)
      · cases h9
        have hT := TH (R := R) (e := e) (args := args) (below := below) (ls := ls) (locs := locs) (cells := cells) (slots := slots) C hcd hn hw8 hH hz hl hsz (by omega) (by omega)
        rcases h with ⟨h9, hx, h⟩ | ⟨hx, rfl⟩
        · have m2 := run_mo n h
          have c1 : cells + 1 ≤ R.cells := by
            have : σ.2.1 + 1 ≤ x.2.2.1 := m2.1
            omega
          have c2 : slots + 6 ≤ R.slots := by
            have : σ.2.2 + 6 ≤ x.2.2.2 := m2.2
            omega
          have := (hT c1 c2).1
          unfold HX at hx
          rw [this] at hx
          cases hx
        · have q1 : (sN σ (.inl (99, [])) 6).2.1 - σ.2.1 = 1 := by
            show σ.2.1 + 1 - σ.2.1 = 1
            omega
          have q2 : (sN σ (.inl (99, [])) 6).2.2 - σ.2.2 = 6 := by
            show σ.2.2 + 6 - σ.2.2 = 6
            omega
          simp only [q1, q2] at hcr hsr ⊢
          exact (hT hcr hsr).2
end IND
