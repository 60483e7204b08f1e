/-! METHODS OF THE JDK that are built in: contracts and calls -/
/-- a frame, its class, what is known there -/
def FX (l : Launch) (a0 : Array Value) (s0 : State) (E : EP) (own : String) (p : Program) (s : State) (m : MethodId) : Prop :=
  EV l a0 s0 E ∧ p.tables.exec = Jvm.exec ∧ s0.WarmedH s.vm ∧ (eN E ≤ s.heap.size ∧ ∀ q, q < eN E → s.heap[q]? = (eH E)[q]?) ∧ s.vm.findClass own = some m.cls
def PcR (s0 : State) (E : EP) (av : List Value) (σ : ST) : Array Value → State → Prop := fun a U => a = av.toArray ∧ s0.WarmedH U.vm ∧ HS E σ U.heap
def QcR (E : EP) (v : Option Value) (σ : ST) : Array Value → State → Outcome → State → Prop := fun _ _ o t => o = .returned v ∧ HS E σ t.heap
theorem PcR_blind {s0 : State} {E : EP} {av : List Value} {σ : ST} : FrameBlind (PcR s0 E av σ) := fun _ _ _ _ h => h
/-- a method of the JDK that changes nothing -/
def JM (l : Launch) (s0 : State) (E : EP) (d : Nat) (y : MethodName) (b : ByteArray) (mx : Nat) (rt : Option FieldType) (av : List Value) (v : Option Value) (σ : ST) : Prop := Met l y [Cond.code y b mx rt] (rmM d 0 0) (PcR s0 E av σ) (QcR E v σ) 0 0 (AE E)
section JMS
variable {p : Program} {l : Launch} {e : Env} {R : Room} {s s0 : State} {m : MethodId} {args a0 : Array Value} {below : List Frame} {meth : Method} {c : Code} {H : Heap} {locs : List Loc} {cells slots : Nat} {Q : State → Prop}
variable {b : ByteArray} {pc mi d mx ix : Nat} {ls : Array Slot} {E : EP} {rest : List Value} {σ : ST} {y : MethodName} {cb : ByteArray} {rt : Option FieldType} {av : List Value} {v : Option Value} {own : String}
theorem CX.FX {o : Nat} (C : CX l a0 s0 E mi p s m meth c) (h : OWs[mi]? = some o) : FX l a0 s0 E (oN o) p s m := ⟨C.1, C.2.1, C.2.2.1, C.2.2.2.1, C.own h⟩
theorem FX.word (F : FX l a0 s0 E own p s m) {w : Cond} (hw : w ∈ lw_tbl) (hg : goodWord w = true) : w.before args s = true := word_at F.2.2.1 (good_of_word hg) (F.1.1 w hw)
theorem FX.later (F : FX l a0 s0 E own p s m) {w : Cond} (hw : w ∈ lw_tbl) (hg : goodWord w = true) : ∀ (a' : Array Value) (U : State), s.WarmedH U.vm → w.before a' U = true := fun a' U hW => word_at (State.WarmedH.trans F.2.2.1 hW) (good_of_word hg) (F.1.1 w hw)
theorem FX.kp (F : FX l a0 s0 E own p s m) : ∀ a : Nat, a < s0.heap.size → ¬ AE E a → s.heap[a]? = s0.heap[a]? := fun a h1 h2 => by
  have hq : a < eN E := Nat.not_le.mp h2
  rw [F.2.2.2.1.2 a hq, F.1.2.2.2.1]
theorem FX.S (F : FX l a0 s0 E own p s m) (hH : HS E σ H) (h0 : HS E σ s.heap) (hl : ∀ q ∈ locs, AE E q.base) : va_S (AE E) s.heap H locs :=
  ⟨by rw [hH.2.1, h0.2.1]; exact Nat.le_refl _, fun q _ h2 => by
    have hq : q < eN E := Nat.not_le.mp h2
    rw [hH.2.2.1 q hq, F.2.2.2.1.2 q hq], hl⟩
theorem JM_of (hE : EV l a0 s0 E) (hy : plainName y.cls = true)
    (body : ∀ {p : Program} {e : Env} {s : State} {m : MethodId} {below : List Frame} {meth : Method} {c : Code}, FX l a0 s0 E y.cls p s m → c.code = cb → c.maxLocals = mx → meth.sig.returnType = rt → meth.locks = false → HS E σ s.heap → W p l e (rmM d 0 0) s m av.toArray below meth c s.heap [] 0 0 (MQ below (QcR E v σ) av.toArray s 0 0 (AE E)) (entryFrame m av.toArray mx)) : JM l s0 E d y cb mx rt av v σ := by
  have h : vx_Met l y [Cond.code y cb mx rt] (rmM d 0 0) (PcR s0 E av σ) (QcR E v σ) (fun _ _ _ _ => False) 0 0 (AE E) := by
    refine vx_ofW hy rfl fun p e s m args below meth c s₁ B hml ht hP => ?_
    obtain ⟨rfl, hW, hH⟩ := hP
    exact vx_ret (body ⟨hE, B.exec, hW, ⟨by rw [hH.2.1]; omega, hH.2.2.1⟩, findClass_of_methodNamed B.named⟩ B.bytes hml B.returns B.notSynchronized hH)
  intro p e ha hc hk s m args below hf happ hP hK
  obtain ⟨n, o, h1, h2, h3, h4⟩ := h p e ha hc hk s m args below hf happ hP hK
  refine ⟨n, o, h1, h2, h3, ?_⟩
  rcases h4 with h4 | ⟨q, -, E9, ce, L, hx, -⟩
  · exact h4
  · exact hx.elim
/-- behind a call -/
theorem jgo {st0 : List Value} {a : Array Value} (hr : va_Run p l e R s m args below meth c H locs cells slots 0 0 (F0 m pc ls st0) rest (QcR E v σ a) (AE E)) (hl : ∀ q ∈ locs, AE E q.base)
    (kr : ∀ (H1 : Heap) (locs1 : List Loc), HS E σ H1 → (∀ q ∈ locs1, AE E q.base) → W p l e R s m args below meth c H1 locs1 cells slots Q (F0 m (pc + 3) ls (v.toList ++ rest))) : W p l e R s m args below meth c H locs cells slots Q (F0 m pc ls st0) := by
  intro T hT X
  obtain ⟨v9, st₀, t, T', L2, h0, X', hL, e1, e2, hq, st⟩ := hr T hT X
  obtain ⟨hv, hH⟩ := hq
  have hv : v9 = v := by injection hv
  subst hv
  obtain ⟨t2, a1, b1⟩ := kr T'.heap (locs ++ L2) (by rw [e1]; exact hH) (locs_app hl hL) T' rfl X'
  exact ⟨t2, st t2 a1, b1⟩
theorem jroom (hmx : mx ≤ 12) (hfr : d + 1 ≤ R.frames) (hlo : 40 * (d + 1) ≤ R.locals) : (rmM d 0 0).frames + 1 ≤ R.frames ∧ 8 + (mx + 11) + (rmM d 0 0).locals ≤ R.locals := by
  refine ⟨hfr, ?_⟩
  show 8 + (mx + 11) + 40 * d ≤ R.locals
  omega
theorem jcall_s (F : FX l a0 s0 E own p s m) (hb : c.code = b) (hM : JM l s0 E d y cb mx rt av v σ) (hd : decode b pc = .ok (.invokestatic ix, 3)) (w1 : Cond.methodLink own ix y ∈ lw_tbl) (w2 : Cond.static y ∈ lw_tbl) (w4 : Cond.initialized y.cls ∈ lw_tbl) (w5 : Cond.code y cb mx rt ∈ lw_tbl) (hnm : nmOK y = true) (hnp : nPar y = some av.length)
    (hH : HS E σ H) (hl : ∀ q ∈ locs, AE E q.base) (hsz : ls.size = c.maxLocals) (hwt : (rest.map fun v => v.category).sum ≤ 8) (hmx : mx ≤ 12) (hfr : d + 1 ≤ R.frames) (hlo : 40 * (d + 1) ≤ R.locals) (hcr : cells ≤ R.cells) (hsr : slots ≤ R.slots)
    (kr : ∀ (H1 : Heap) (locs1 : List Loc), HS E σ H1 → (∀ q ∈ locs1, AE E q.base) → W p l e R s m args below meth c H1 locs1 cells slots Q (F0 m (pc + 3) ls (v.toList ++ rest))) : W p l e R s m args below meth c H locs cells slots Q (F0 m pc ls (av.reverse ++ rest)) := by
  obtain ⟨hnm1, hnm2⟩ := nm_at hnm
  have hpre : PreS s H (PcR s0 E av σ) av := ⟨PcR_blind, fun U hU hW => ⟨rfl, State.WarmedH.trans F.2.2.1 hW, by rw [hU]; exact hH⟩⟩
  obtain ⟨hr1, hr2⟩ := jroom hmx hfr hlo
  have hws : ∀ w ∈ [Cond.code y cb mx rt], ∀ (a' : Array Value) (U : State), s.WarmedH U.vm → w.before a' U = true := fun w hw a' U hW => by
    rw [List.mem_singleton.mp hw]
    exact F.later w5 rfl a' U hW
  have hfix : CallFix p m c b c.maxLocals s args [] own := ⟨F.2.1, hb, rfl, F.2.2.2.2, fun w hw => nomatch hw⟩
  have hW8 : 2 * (F0 m pc ls (av.reverse ++ rest)).monitorRoom + (rest.map fun v => v.category).sum ≤ 8 := lv_room hwt
  exact jgo (va_runS (g := F0 m pc ls (av.reverse ++ rest)) hfix hM ⟨⟨rfl, rfl, hr1, hr2, hws, List.mem_singleton.mpr rfl, F.word w5 rfl, F.word w4 rfl, hnm1, nPar_at hnp, F.word w1 rfl⟩, F.word w2 rfl⟩ hpre rfl rfl hsz rfl hW8 hd ⟨hcr, hsr⟩) hl kr
theorem jcall_v (F : FX l a0 s0 E own p s m) (hb : c.code = b) {a : Nat} (hM : JM l s0 E d y cb mx rt (.ref a :: av) v σ) (hd : decode b pc = .ok (.invokevirtual ix, 3)) (w1 : Cond.methodLink own ix y ∈ lw_tbl) (w2 : Cond.instanceMethod y ∈ lw_tbl) (w3 : Cond.selects y.cls y y ∈ lw_tbl) (w4 : Cond.initialized y.cls ∈ lw_tbl) (w5 : Cond.code y cb mx rt ∈ lw_tbl) (hnm : nmOK y = true) (hnp : nPar y = some av.length)
    (hO : va_O y.cls a (AE E) s0 s0.heap) (hH : HS E σ H) (hl : ∀ q ∈ locs, AE E q.base) (hsz : ls.size = c.maxLocals) (hwt : (rest.map fun v => v.category).sum ≤ 8) (hmx : mx ≤ 12) (hfr : d + 1 ≤ R.frames) (hlo : 40 * (d + 1) ≤ R.locals) (hcr : cells ≤ R.cells) (hsr : slots ≤ R.slots)
    (kr : ∀ (H1 : Heap) (locs1 : List Loc), HS E σ H1 → (∀ q ∈ locs1, AE E q.base) → W p l e R s m args below meth c H1 locs1 cells slots Q (F0 m (pc + 3) ls (v.toList ++ rest))) : W p l e R s m args below meth c H locs cells slots Q (F0 m pc ls (av.reverse ++ .ref a :: rest)) := by
  obtain ⟨hnm1, hnm2⟩ := nm_at hnm
  obtain ⟨cell, o1, o2, o3, o4⟩ := va_O.moved F.2.2.1.alike hO
  have hq : a < eN E := Nat.not_le.mp o4
  have hpre : PreV s H y.cls a (PcR s0 E (.ref a :: av) σ) av := ⟨PcR_blind, ⟨cell, by rw [hH.2.2.1 a hq, F.1.2.2.2.1]; exact o1, o2, o3⟩, fun U hU hW => ⟨rfl, State.WarmedH.trans F.2.2.1 hW, by rw [hU]; exact hH⟩⟩
  obtain ⟨hr1, hr2⟩ := jroom hmx hfr hlo
  have hws : ∀ w ∈ [Cond.code y cb mx rt], ∀ (a' : Array Value) (U : State), s.WarmedH U.vm → w.before a' U = true := fun w hw a' U hW => by
    rw [List.mem_singleton.mp hw]
    exact F.later w5 rfl a' U hW
  have hfix : CallFix p m c b c.maxLocals s args [] own := ⟨F.2.1, hb, rfl, F.2.2.2.2, fun w hw => nomatch hw⟩
  have hW8 : 2 * (F0 m pc ls (av.reverse ++ .ref a :: rest)).monitorRoom + (rest.map fun v => v.category).sum ≤ 8 := lv_room hwt
  exact jgo (va_runV (g := F0 m pc ls (av.reverse ++ .ref a :: rest)) hfix hM ⟨⟨rfl, rfl, hr1, hr2, hws, List.mem_singleton.mpr rfl, F.word w5 rfl, F.word w4 rfl, hnm1, nPar_at hnp, F.word w1 rfl⟩, F.word w2 rfl, F.word w3 rfl⟩ hpre rfl rfl hsz rfl hW8 hd ⟨hcr, hsr⟩) hl kr
end JMS
