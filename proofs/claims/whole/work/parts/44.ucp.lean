/-! Arrays.copyOf of objects -/
def jArr : String := "java/util/Arrays"
def yCp2 : MethodName := ⟨jArr, "copyOf", "([Ljava/lang/Object;I)[Ljava/lang/Object;"⟩
def yCp3 : MethodName := ⟨jArr, "copyOf", "([Ljava/lang/Object;ILjava/lang/Class;)[Ljava/lang/Object;"⟩
def yGet : MethodName := ⟨"java/lang/Object", "getClass", "()Ljava/lang/Class;"⟩
theorem dj_cp2_0 : decode prog_40_method_119_code 0 = .ok (.aload_n 0, 1) := by decide +kernel
theorem dj_cp2_1 : decode prog_40_method_119_code 1 = .ok (.iload_n 1, 1) := by decide +kernel
theorem dj_cp2_2 : decode prog_40_method_119_code 2 = .ok (.aload_n 0, 1) := by decide +kernel
theorem dj_cp2_3 : decode prog_40_method_119_code 3 = .ok (.invokevirtual 86, 3) := by decide +kernel
theorem dj_cp2_6 : decode prog_40_method_119_code 6 = .ok (.invokestatic 300, 3) := by decide +kernel
theorem dj_cp2_9 : decode prog_40_method_119_code 9 = .ok (.areturn, 1) := by decide +kernel
theorem dj_cp3_0 : decode prog_40_method_120_code 0 = .ok (.aload_n 2, 1) := by decide +kernel
theorem dj_cp3_1 : decode prog_40_method_120_code 1 = .ok (.ldc 110, 2) := by decide +kernel
theorem dj_cp3_3 : decode prog_40_method_120_code 3 = .ok (.if_acmp .ne 10, 3) := by decide +kernel
theorem dj_cp3_6 : decode prog_40_method_120_code 6 = .ok (.iload_n 1, 1) := by decide +kernel
theorem dj_cp3_7 : decode prog_40_method_120_code 7 = .ok (.anewarray 2, 3) := by decide +kernel
theorem dj_cp3_10 : decode prog_40_method_120_code 10 = .ok (.goto 14, 3) := by decide +kernel
theorem dj_cp3_13 : decode prog_40_method_120_code 13 = .ok (.aload_n 2, 1) := by decide +kernel
theorem dj_cp3_14 : decode prog_40_method_120_code 14 = .ok (.invokevirtual 90, 3) := by decide +kernel
theorem dj_cp3_17 : decode prog_40_method_120_code 17 = .ok (.iload_n 1, 1) := by decide +kernel
theorem dj_cp3_18 : decode prog_40_method_120_code 18 = .ok (.invokestatic 95, 3) := by decide +kernel
theorem dj_cp3_21 : decode prog_40_method_120_code 21 = .ok (.checkcast 110, 3) := by decide +kernel
theorem dj_cp3_24 : decode prog_40_method_120_code 24 = .ok (.astore_n 3, 1) := by decide +kernel
theorem dj_cp3_25 : decode prog_40_method_120_code 25 = .ok (.aload_n 0, 1) := by decide +kernel
theorem dj_cp3_26 : decode prog_40_method_120_code 26 = .ok (.iconst 0, 1) := by decide +kernel
theorem dj_cp3_27 : decode prog_40_method_120_code 27 = .ok (.aload_n 3, 1) := by decide +kernel
theorem dj_cp3_28 : decode prog_40_method_120_code 28 = .ok (.iconst 0, 1) := by decide +kernel
theorem dj_cp3_29 : decode prog_40_method_120_code 29 = .ok (.aload_n 0, 1) := by decide +kernel
theorem dj_cp3_30 : decode prog_40_method_120_code 30 = .ok (.arraylength, 1) := by decide +kernel
theorem dj_cp3_31 : decode prog_40_method_120_code 31 = .ok (.iload_n 1, 1) := by decide +kernel
theorem dj_cp3_32 : decode prog_40_method_120_code 32 = .ok (.invokestatic 304, 3) := by decide +kernel
theorem dj_cp3_35 : decode prog_40_method_120_code 35 = .ok (.invokestatic 150, 3) := by decide +kernel
theorem dj_cp3_38 : decode prog_40_method_120_code 38 = .ok (.aload_n 3, 1) := by decide +kernel
theorem dj_cp3_39 : decode prog_40_method_120_code 39 = .ok (.areturn, 1) := by decide +kernel
theorem w_cp21 : Cond.methodLink (oN 26) 66 yCp2 ∈ lw_tbl := wAt_in (q := (7, 228)) (by decide +kernel)
theorem w_cp22 : Cond.static yCp2 ∈ lw_tbl := wAt_in (q := (7, 229)) (by decide +kernel)
theorem w_cp25 : Cond.code yCp2 prog_40_method_119_code 2 (some (.array (.object "java/lang/Object"))) ∈ lw_tbl := wAt_in (q := (7, 230)) (by decide +kernel)
theorem w_get1 : Cond.methodLink jArr 86 yGet ∈ lw_tbl := wAt_in (q := (7, 231)) (by decide +kernel)
theorem w_get2 : Cond.instanceMethod yGet ∈ lw_tbl := wAt_in (q := (7, 232)) (by decide +kernel)
theorem w_get3 : Cond.selects "[Ljava/lang/Object;" yGet yGet ∈ lw_tbl := wAt_in (q := (9, 119)) (by decide +kernel)
theorem w_get4 : Cond.native yGet ∈ lw_tbl := wAt_in (q := (8, 17)) (by decide +kernel)
theorem w_get5 : Cond.declares yGet ∈ lw_tbl := wAt_in (q := (9, 120)) (by decide +kernel)
theorem w_cp31 : Cond.methodLink jArr 300 yCp3 ∈ lw_tbl := wAt_in (q := (8, 18)) (by decide +kernel)
theorem w_cp32 : Cond.static yCp3 ∈ lw_tbl := wAt_in (q := (8, 19)) (by decide +kernel)
theorem w_cp35 : Cond.code yCp3 prog_40_method_120_code 4 (some (.array (.object "java/lang/Object"))) ∈ lw_tbl := wAt_in (q := (8, 20)) (by decide +kernel)
theorem w_cp3c : Cond.classLink jArr 110 "[Ljava/lang/Object;" ∈ lw_tbl := wAt_in (q := (8, 21)) (by decide +kernel)
theorem w_cp3a : Cond.arrayOver (.object "java/lang/Object") ∈ lw_tbl := wAt_in (q := (8, 22)) (by decide +kernel)
theorem w_cp3o : Cond.classLink jArr 2 "java/lang/Object" ∈ lw_tbl := wAt_in (q := (8, 23)) (by decide +kernel)
theorem w_cp3m : Cond.methodLink jArr 304 Lib.Math.min.name ∈ lw_tbl := wAt_in (q := (3, 105)) (by decide +kernel)
theorem w_cp3y : Cond.methodLink jArr 150 arraycopyName ∈ lw_tbl := wAt_in (q := (3, 106)) (by decide +kernel)
theorem w_cp34 : Cond.initialized jArr ∈ lw_tbl := wAt_in (q := (1, 25)) (by decide +kernel)
theorem np_c2 : nPar yCp2 = some 2 := by decide +kernel
theorem np_c3 : nPar yCp3 = some 3 := by decide +kernel
/-- a method of the JDK that makes something -/
def JA (l : Launch) (s0 : State) (E : EP) (d : Nat) (y : MethodName) (b : ByteArray) (mx : Nat) (rt : Option FieldType) (av : List Value) (v : Option Value) (σ σ1 : ST) (mc ms : Nat) : Prop := Met l y [Cond.code y b mx rt] (rmM d mc ms) (PcR s0 E av σ) (QcR E v σ1) mc ms (AE E)
theorem cpy_lo {α : Type} (f g : Nat → α) (n : Nat) : cpy f g 0 0 n = fun j => if j < n then f j else g j := by
  funext j
  unfold cpy
  by_cases h : j < n
  · rw [if_pos ⟨by omega, by omega⟩, if_pos h]
    congr 1
    omega
  · rw [if_neg (by omega), if_neg h]
theorem sU_sN (σ : ST) (c c1 : AC) (k : Nat) : sU (sN σ c k) σ.2.1 c1 = sN σ c1 k := by
  unfold sU sN
  congr 1
  funext b
  by_cases h : b = σ.2.1
  · rw [if_pos h]; exact (if_pos h).symm
  · rw [if_neg h]; dsimp only; rw [if_neg h, if_neg h]
section UCP
variable {p : Program} {l : Launch} {e : Env} {R : Room} {s s0 : State} {m : MethodId} {args a0 : Array Value} {below : List Frame} {meth : Method} {c : Code} {H : Heap} {locs : List Loc} {cells slots : Nat} {Q : State → Prop}
variable {b : ByteArray} {pc mi d mx ix mc ms : Nat} {ls : Array Slot} {E : EP} {rest : List Value} {σ σ1 : ST} {y : MethodName} {cb : ByteArray} {rt : Option FieldType} {av : List Value} {v : Option Value} {own : String}
theorem JA_of (hE : EV l a0 s0 E) (hy : plainName y.cls = true)
    (body : ∀ {p : Program} {e : Env} {s : State} {m : MethodId} {below : List Frame} {meth : Method} {c : Code}, FX l a0 s0 E y.cls p s m → c.code = cb → c.maxLocals = mx → meth.sig.returnType = rt → meth.locks = false → HS E σ s.heap → W p l e (rmM d mc ms) s m av.toArray below meth c s.heap [] 0 0 (MQ below (QcR E v σ1) av.toArray s mc ms (AE E)) (entryFrame m av.toArray mx)) : JA l s0 E d y cb mx rt av v σ σ1 mc ms := by
  have h : vx_Met l y [Cond.code y cb mx rt] (rmM d mc ms) (PcR s0 E av σ) (QcR E v σ1) (fun _ _ _ _ => False) mc ms (AE E) := by
    refine vx_ofW hy rfl fun p e s m args below meth c s₁ B hml ht hP => ?_
    obtain ⟨rfl, hW, hH⟩ := hP
    exact vx_ret (body ⟨hE, B.exec, hW, ⟨by rw [hH.2.1]; omega, hH.2.2.1⟩, findClass_of_methodNamed B.named⟩ B.bytes hml B.returns B.notSynchronized hH)
  intro p e ha hc hk s m args below hf happ hP hK
  obtain ⟨n, o, h1, h2, h3, h4⟩ := h p e ha hc hk s m args below hf happ hP hK
  refine ⟨n, o, h1, h2, h3, ?_⟩
  rcases h4 with h4 | ⟨q, -, E9, ce, L, hx, -⟩
  · exact h4
  · exact hx.elim
theorem jgoA {st0 : List Value} {a : Array Value} (hr : va_Run p l e R s m args below meth c H locs cells slots mc ms (F0 m pc ls st0) rest (QcR E v σ1 a) (AE E)) (hl : ∀ q ∈ locs, AE E q.base)
    (kr : ∀ (H1 : Heap) (locs1 : List Loc), HS E σ1 H1 → (∀ q ∈ locs1, AE E q.base) → W p l e R s m args below meth c H1 locs1 (cells + mc) (slots + ms) Q (F0 m (pc + 3) ls (v.toList ++ rest))) : W p l e R s m args below meth c H locs cells slots Q (F0 m pc ls st0) := by
  intro T hT X
  obtain ⟨v9, st₀, t, T', L2, h0, X', hL, e1, e2, hq, st⟩ := hr T hT X
  obtain ⟨hv, hH⟩ := hq
  have hv : v9 = v := by injection hv
  subst hv
  obtain ⟨t2, a1, b1⟩ := kr T'.heap (locs ++ L2) (by rw [e1]; exact hH) (locs_app hl hL) T' rfl X'
  exact ⟨t2, st t2 a1, b1⟩
theorem jcall_a (F : FX l a0 s0 E own p s m) (hb : c.code = b) (hM : JA l s0 E d y cb mx rt av v σ σ1 mc ms) (hd : decode b pc = .ok (.invokestatic ix, 3)) (w1 : Cond.methodLink own ix y ∈ lw_tbl) (w2 : Cond.static y ∈ lw_tbl) (w4 : Cond.initialized y.cls ∈ lw_tbl) (w5 : Cond.code y cb mx rt ∈ lw_tbl) (hnm : nmOK y = true) (hnp : nPar y = some av.length)
    (hH : HS E σ H) (hl : ∀ q ∈ locs, AE E q.base) (hsz : ls.size = c.maxLocals) (hwt : (rest.map fun v => v.category).sum ≤ 8) (hmx : mx ≤ 12) (hfr : d + 1 ≤ R.frames) (hlo : 40 * (d + 1) ≤ R.locals) (hcr : cells + mc ≤ R.cells) (hsr : slots + ms ≤ R.slots)
    (kr : ∀ (H1 : Heap) (locs1 : List Loc), HS E σ1 H1 → (∀ q ∈ locs1, AE E q.base) → W p l e R s m args below meth c H1 locs1 (cells + mc) (slots + ms) Q (F0 m (pc + 3) ls (v.toList ++ rest))) : W p l e R s m args below meth c H locs cells slots Q (F0 m pc ls (av.reverse ++ rest)) := by
  obtain ⟨hnm1, hnm2⟩ := nm_at hnm
  have hpre : PreS s H (PcR s0 E av σ) av := ⟨PcR_blind, fun U hU hW => ⟨rfl, State.WarmedH.trans F.2.2.1 hW, by rw [hU]; exact hH⟩⟩
  have hroom : (rmM d mc ms).frames + 1 ≤ R.frames ∧ 8 + (mx + 11) + (rmM d mc ms).locals ≤ R.locals := by
    refine ⟨hfr, ?_⟩
    show 8 + (mx + 11) + 40 * d ≤ R.locals
    omega
  have hws : ∀ w ∈ [Cond.code y cb mx rt], ∀ (a' : Array Value) (U : State), s.WarmedH U.vm → w.before a' U = true := fun w hw a' U hW => by
    rw [List.mem_singleton.mp hw]
    exact F.later w5 rfl a' U hW
  have hfix : CallFix p m c b c.maxLocals s args [] own := ⟨F.2.1, hb, rfl, F.2.2.2.2, fun w hw => nomatch hw⟩
  have hW8 : 2 * (F0 m pc ls (av.reverse ++ rest)).monitorRoom + (rest.map fun v => v.category).sum ≤ 8 := lv_room hwt
  exact jgoA (va_runS (g := F0 m pc ls (av.reverse ++ rest)) hfix hM ⟨⟨rfl, rfl, hroom.1, hroom.2, hws, List.mem_singleton.mpr rfl, F.word w5 rfl, F.word w4 rfl, hnm1, nPar_at hnp, F.word w1 rfl⟩, F.word w2 rfl⟩ hpre rfl rfl hsz rfl hW8 hd ⟨hcr, hsr⟩) hl kr
/-- what may stand in an array of objects -/
theorem el_any (F : FX l a0 s0 E own p s m) (hH : HS E σ H) {x : Nat} (hx : okE 10 (σ.1 x) = true) : va_Any "java/lang/Object" s H (adr E x) := by
  cases hc : σ.1 x with
  | inr o =>
    rw [hc] at hx
    rcases o with ⟨t, n, f⟩ | ⟨t, n, f⟩
    · simp [okE] at hx
    · cases hx
  | inl o =>
    obtain ⟨ci, fs⟩ := o
    rw [hc] at hx
    obtain ⟨⟨rr, hr, t1, t2, hty⟩, hci⟩ := okE_obj hx
    obtain ⟨-, -, k3⟩ := hH.obj hc (by omega)
    rcases k3 with ⟨q1, -, -⟩ | ⟨-, -, -, q4⟩
    · omega
    · obtain ⟨r', hr', cellV, w1, w2, w3, -⟩ := q4
      have hcls := (F.KT.1 ci rr hr).2
      obtain ⟨kC, hkC, -⟩ := hcls.2
      refine ⟨cellV, w1, by rw [w3]; rfl, ⟨kC, by rw [w2]; exact hkC⟩, fun comp k3 => ?_⟩
      rw [w2]
      rcases hty with hty | ⟨-, hca⟩
      · have k4 : s.vm.findClass rr.1 = some comp := by rw [hty]; exact k3
        rw [Option.some.inj (hcls.1.symm.trans k4)]
        exact va_asg _ _
      · have hN := va_Nw.warmC F.2.2.1 (va_Nw.of rfl (F.1.1 _ hca))
        obtain ⟨c0, t1, f1, f2, f3⟩ := Cond.castable_spec (va_Nw.use (A := #[]) rfl hN)
        cases hcls.1.symm.trans f1
        cases k3.symm.trans f2
        exact f3
theorem rcpy (F : FX l a0 s0 E own p s m) (hb : c.code = b) (hd : decode b pc = .ok (.invokestatic ix, 3)) (w1 : Cond.methodLink own ix arraycopyName ∈ lw_tbl) {a q ln mn : Nat} {f g : Nat → Option Nat} (ha : σ.1 a = .inr (.inr (10, ln, f))) (hq : σ.1 q = .inr (.inr (10, mn, g))) (hle : ln ≤ mn) (hln : ln ≤ 100000) (hel : ∀ j, j < ln → okEo 10 (f j) σ = true) (hH : HS E σ H) (hl : ∀ q ∈ locs, AE E q.base) (hwt : (rest.map fun v => v.category).sum ≤ 8) (hsz : ls.size = c.maxLocals) (hfr : 1 ≤ R.frames) (hlo : 26 ≤ R.locals)
    (kk : ∀ (H1 : Heap) (locs1 : List Loc), HS E (sU σ q (.inr (.inr (10, mn, fun j => if j < ln then f j else g j)))) H1 → (∀ q ∈ locs1, AE E q.base) → W p l e R s m args below meth c H1 locs1 cells slots Q (F0 m (pc + 3) ls rest)) : W p l e R s m args below meth c H locs cells slots Q (F0 m pc ls (.int (i3 (ln : Int)) :: .int (i3 0) :: .ref (adr E q) :: .int (i3 0) :: .ref (adr E a) :: rest)) := by
  have o1 : okI 0 := okI_0
  have o3 : okI (ln : Int) := by unfold okI; omega
  have c0 : (i3 0).toNatClampNeg = 0 := i3_clamp o1
  have c3 : (i3 (ln : Int)).toNatClampNeg = ln := by rw [i3_clamp o3]; rfl
  obtain ⟨x1, x2, x3, x4, x6⟩ := hH.rfs ha (by decide)
  obtain ⟨y1, y2, y3, y4, y6⟩ := hH.rfs hq (by decide)
  have hA := (F.KT.2.1 10 (by omega)).1
  obtain ⟨-, k0, hk0, cm0, hkk0⟩ := hA ln (fun j => va_rf (rf E (f j)))
  obtain ⟨-, k1, hk1, cm1, hkk1⟩ := hA mn (fun j => va_rf (rf E (g j)))
  have z3 : ¬ i3 (ln : Int) < 0 := i3_nn o3 (by omega)
  have z0 : ¬ i3 0 < 0 := i3_nn o1 (by omega)
  intro T hT X
  obtain ⟨vm', X', step⟩ := X.arraycopy F.2.1 F.2.2.2.2 (F.word w1 rfl) (F.word (wAt_in cpy_w.2.1) rfl) (F.word (wAt_in cpy_w.2.2.1) rfl) (F.word (wAt_in cpy_w.2.2.2) rfl) (src := adr E a) (dst := adr E q) (cs := arrV (eA E 10) ln (fun j => va_rf (rf E (f j)))) (cd := arrV (eA E 10) mn (fun j => va_rf (rf E (g j)))) (srcPos := i3 0) (destPos := i3 0) (n := i3 (ln : Int)) (by rw [hT]; exact x6) (by rw [hT]; exact y6)
    (fun _ h => by cases h) (fun _ h => by cases h) (fun h => by cases h) (fun h => by cases h) hk0 hk1 hkk0 hkk1 rfl z0 z0 z3
    (by rw [i3_toInt o1, i3_toInt o3, arrV_size]; omega)
    (by rw [i3_toInt o1, i3_toInt o3, arrV_size]; omega)
    (fun vm₁ hal i hi => by
      rw [c3] at hi
      rw [c0]
      have e : (arrV (eA E 10) ln (fun j => va_rf (rf E (f j)))).slots.getD (0 + i) .null = va_rf (rf E (f i)) := by
        rw [Nat.zero_add, Array.getD_eq_getD_getElem?, arrV_read _ _ hi]
        rfl
      rw [e]
      cases hy : f i with
      | none => exact ⟨rfl, trivial⟩
      | some x =>
        have h9 := hel i hi
        rw [hy] at h9
        obtain ⟨cellV, g1, g2, ⟨kC, hkC⟩, hasg⟩ := el_any F hH h9
        have hRA := (F.KT.2.1 10 (by omega)).2
        obtain ⟨kA, comp, r1, r2, r3, -⟩ := hRA
        cases hk1.symm.trans r1
        cases hkk1.symm.trans r2
        obtain ⟨kE, hkE, -⟩ := Vm.findClass_spec r3
        obtain ⟨kC', hkC', -⟩ := hal.2.2 _ _ hkC
        obtain ⟨kE', hkE', -⟩ := hal.2.2 _ _ hkE
        refine ⟨rfl, cellV, (show T.heap[adr E x]? = some cellV by rw [hT]; exact g1), (fun q h => by rw [h] at g2; cases g2), ⟨kC', hkC'⟩, ?_, ?_⟩
        · exact ⟨kE', hkE'⟩
        · show vm₁.assignable _ _ = true
          rw [hal.assignable]
          exact hasg _ r3)
    (g := F0 m pc ls (.int (i3 (ln : Int)) :: .int (i3 0) :: .ref (adr E q) :: .int (i3 0) :: .ref (adr E a) :: rest)) rfl (by rw [hsz]) (rest := rest) rfl (by rw [hb]; exact hd) hfr (by show 2 * 0 + _ + (7 + 11) ≤ _; omega)
  have e1 : copied (arrV (eA E 10) ln (fun j => va_rf (rf E (f j)))) (arrV (eA E 10) mn (fun j => va_rf (rf E (g j)))) (i3 0) (i3 0) (i3 (ln : Int)) = arrV (eA E 10) mn (fun j => va_rf (rf E (if j < ln then f j else g j))) := by
    have := va_copied (fun z => va_rf (rf E z)) (eA E 10) (eA E 10) (n1 := mn) (dp := 0) (n := ln) (sp := 0) (n0 := ln) f g (by omega)
    unfold copied
    rw [c0, c3]
    rw [show (fun j => va_rf (rf E (if j < ln then f j else g j))) = fun j => va_rf (rf E (cpy f g 0 0 ln j)) by rw [cpy_lo]]
    exact this
  rw [e1] at X' step
  have hlt : adr E q < H.size := (Array.getElem?_eq_some_iff.mp y6).1
  have hheap : ((T.setVm vm').setCell (adr E q) (arrV (eA E 10) mn (fun j => va_rf (rf E (if j < ln then f j else g j))))).heap = H.setIfInBounds (adr E q) (arrV (eA E 10) mn (fun j => va_rf (rf E (if j < ln then f j else g j)))) := by rw [← hT]; rfl
  obtain ⟨t9, a1, b1⟩ := kk _ _ (hH.set (c := .inr (.inr (10, mn, fun j => if j < ln then f j else g j))) y1 y2 (H1 := H.setIfInBounds (adr E q) (arrV (eA E 10) mn (fun j => va_rf (rf E (if j < ln then f j else g j))))) (by simp) (fun z hz => by simp [Array.getElem?_setIfInBounds, Ne.symm hz]) ⟨⟨by omega, by omega⟩, y4, by simp [Array.getElem?_setIfInBounds, hlt]⟩) (fun z hz => by
    rcases List.mem_append.mp hz with h | h
    · exact hl z h
    · obtain ⟨w, -, hw⟩ := List.mem_map.mp h
      rw [← hw]
      exact adr_ge y1) _ hheap X'
  exact ⟨t9, step t9 a1, b1⟩
/-- copyOf of three -/
theorem jm_cp3 {a ln mr : Nat} {n : Int} {f : Nat → Option Nat} (hE : EV l a0 s0 E) (hmi : va_Mi "[Ljava/lang/Object;" mr s0) (hc : σ.1 a = .inr (.inr (10, ln, f))) (h1 : (ln : Int) ≤ n) (h2 : n ≤ 100000) (hel : ((List.range ln).all fun j => okEo 10 (f j) σ) = true) : JA l s0 E 1 yCp3 prog_40_method_120_code 4 (some (.array (.object "java/lang/Object"))) [.ref (adr E a), .int (i3 n), .ref mr] (some (.ref (adr E σ.2.1))) σ (sN σ (.inr (.inr (10, n.toNat, fun j => if j < ln then f j else none))) n.toNat) 1 n.toNat := by
  have on : okI n := by unfold okI; omega
  have ol : okI (ln : Int) := by unfold okI; omega
  have hcl : (i3 n).toNatClampNeg = n.toNat := i3_clamp on
  refine JA_of hE (by decide) fun {p e s m below meth c} F hb hml hrt hlk hH => ?_
  have hx := F.2.1
  have hM := va_Mi.moved F.2.2.1.alike hmi
  rw [lg_entry_eq]
  have hv0 := lv_entry [.ref (adr E a), .int (i3 n), .ref mr] (n := 4) (show 3 ≤ 4 by omega)
  refine lv_aload_n hx hb (i := 2) (x := mr) dj_cp3_0 rfl rfl ?_
  refine va_ldcM hx hb F.2.2.2.2 (F.word w_cp3c rfl) hM dj_cp3_1 ?_
  refine lv_acmp_ne (rx := some mr) (ry := some mr) hx hb (tgt := 13) dj_cp3_3 rfl (fun h => absurd rfl h) fun _ => ?_
  refine lv_iload_n hx hb (i := 1) (x := i3 n) dj_cp3_6 rfl rfl ?_
  have hov := va_AO.moved F.2.2.1.alike (va_AO.of (F.1.1 _ w_cp3a))
  refine W.anew (n := i3 n) hx hb F.2.2.2.2 (F.word w_cp3o rfl) (va_AO.use hov) rfl dj_cp3_7 rfl (i3_nn on (by omega)) (by rw [hcl]; omega) (Nat.le_refl _) (by rw [hcl]; show 0 + n.toNat ≤ n.toNat; omega) fun cA kA comp f1 f2 f3 f4 => ?_
  rw [hcl]
  have hRA := (F.KT.2.1 10 (by omega)).2
  obtain ⟨-, -, -, -, -, hf⟩ := hRA
  have ecA : cA = eA E 10 := Option.some.inj (f1.symm.trans hf)
  have hA : adr E σ.2.1 = s.heap.size := hH.nxt
  have hH1 : HS E (sN σ (.inr (.inr (10, n.toNat, fun _ => none))) n.toNat) (s.heap.push { cls := cA, slots := Array.replicate n.toNat .null, vm := .none }) := hH.new (by rw [Array.size_push]) (fun q hq => by rw [Array.getElem?_push, if_neg (Nat.ne_of_lt hq)]) ⟨⟨by omega, by omega⟩, by omega, by rw [hA, Array.getElem?_push_size, ← ecA, arrV_new]; rfl⟩
  rw [← hA]
  generalize s.heap.push { cls := cA, slots := Array.replicate n.toNat .null, vm := .none } = H1 at hH1
  refine lv_goto hx hb (tgt := 24) dj_cp3_10 rfl ?_
  refine lv_astore_n hx hb (i := 3) (x := adr E σ.2.1) dj_cp3_24 rfl hv0 (by decide) rfl fun ls1 hv1 => ?_
  have i0 : ls1[0]? = some (.val (.ref (adr E a))) := lv_at hv1 1 rfl
  have i1 : ls1[1]? = some (.val (.int (i3 n))) := lv_at hv1 2 rfl
  have i3' : ls1[3]? = some (.val (.ref (adr E σ.2.1))) := lv_at hv1 0 rfl
  refine lv_aload_n hx hb (i := 0) (x := adr E a) dj_cp3_25 rfl i0 ?_
  refine lv_iconst hx hb (v := i3 0) dj_cp3_26 rfl ?_
  refine lv_aload_n hx hb (i := 3) (x := adr E σ.2.1) dj_cp3_27 rfl i3' ?_
  refine lv_iconst hx hb (v := i3 0) dj_cp3_28 rfl ?_
  refine lv_aload_n hx hb (i := 0) (x := adr E a) dj_cp3_29 rfl i0 ?_
  obtain ⟨x1, x2, x3, x4, x6⟩ := hH.rfs hc (by decide)
  have hc1 : (sN σ (.inr (.inr (10, n.toNat, fun _ => none))) n.toNat).1 a = .inr (.inr (10, ln, f)) := by
    show (if a = σ.2.1 then _ else σ.1 a) = _
    rw [if_neg (by omega)]; exact hc
  have hc2 : (sN σ (.inr (.inr (10, n.toNat, fun _ => none))) n.toNat).1 σ.2.1 = .inr (.inr (10, n.toNat, fun _ => none)) := if_pos rfl
  obtain ⟨-, -, -, -, g5⟩ := hH1.rfs hc1 (by decide)
  refine W.alen (n := i3 (ln : Int)) hx hb g5 ((F.KT.2.1 10 (by omega)).1 _ _) (by rw [arrV_size]; rfl) rfl rfl dj_cp3_30 ?_
  refine lv_iload_n hx hb (i := 1) (x := i3 n) dj_cp3_31 rfl i1 ?_
  refine va_mmin hx hb (hml.trans hv1.1.symm) F.2.2.2.2 (F.word w_cp3m rfl) (F.word (wAt_in blt_w.2.2.2.1) rfl) (F.word (wAt_in blt_w.2.2.1) rfl) (F.word (wAt_in blt_w.2.2.2.2.1) rfl) (Nat.le_refl _) (by show 1 + (1 + (1 + (1 + 0))) + 13 ≤ 40; omega) (by show 0 + 1 ≤ 1; omega) (by show 0 + n.toNat ≤ n.toNat; omega) dj_cp3_32 ?_
  have hmn : (if i3 n < i3 (ln : Int) then i3 n else i3 (ln : Int)) = i3 (ln : Int) := if_neg (fun z => by have := (i3_lt on ol).mp z; omega)
  rw [hmn]
  refine rcpy F hb dj_cp3_35 w_cp3y (a := a) (q := σ.2.1) (mn := n.toNat) (f := f) (g := fun _ => none) hc1 hc2 (by omega) (by omega) (fun j hj => ?_) hH1 (fun q hq => nomatch hq) (rest := []) (by decide) (hv1.1.trans hml.symm) (Nat.le_refl _) (show 26 ≤ 40 by omega) fun H2 locs2 hH2 hl2 => ?_
  · have h9 := List.all_eq_true.mp hel j (List.mem_range.mpr hj)
    cases hfj : f j with
    | none => rfl
    | some x =>
      rw [hfj] at h9
      show okE 10 ((sN σ (.inr (.inr (10, n.toNat, fun _ => none))) n.toNat).1 x) = true
      have hxl : x ≠ σ.2.1 := fun e9 => by
        have h8 : okE 10 (σ.1 x) = true := h9
        rw [e9, hH.2.2.2.2.1 σ.2.1 (Nat.le_refl _)] at h8
        exact absurd h8 (by decide)
      rw [show (sN σ (.inr (.inr (10, n.toNat, fun _ => none))) n.toNat).1 x = σ.1 x from if_neg hxl]
      exact h9
  rw [sU_sN] at hH2
  refine lv_aload_n hx hb (i := 3) (x := adr E σ.2.1) dj_cp3_38 rfl i3' ?_
  have hfin := W.aret (p := p) (l := l) (e := e) (R := rmM 1 1 n.toNat) (s := s) (m := m) (below := below) (cells := 0 + 1) (slots := 0 + n.toNat) (args := #[.ref (adr E a), .int (i3 n), .ref mr]) (v := .ref (adr E σ.2.1)) (Qc := QcR E (some (.ref (adr E σ.2.1))) (sN σ (.inr (.inr (10, n.toNat, fun j => if j < ln then f j else none))) n.toNat)) (ls := ls1) hx hb hrt (Or.inr ⟨_, rfl⟩) (Or.inr ⟨_, rfl⟩) (fun t ht _ => ⟨rfl, by rw [ht]; exact hH2⟩) hl2 dj_cp3_39 hlk
  rw [Nat.zero_add, Nat.zero_add] at hfin
  rw [Nat.zero_add, Nat.zero_add]
  exact hfin
/-- copyOf of two -/
theorem jm_cp2 {a ln : Nat} {n : Int} {f : Nat → Option Nat} (hE : EV l a0 s0 E) (hc : σ.1 a = .inr (.inr (10, ln, f))) (h1 : (ln : Int) ≤ n) (h2 : n ≤ 100000) (hel : ((List.range ln).all fun j => okEo 10 (f j) σ) = true) : JA l s0 E 2 yCp2 prog_40_method_119_code 2 (some (.array (.object "java/lang/Object"))) [.ref (adr E a), .int (i3 n)] (some (.ref (adr E σ.2.1))) σ (sN σ (.inr (.inr (10, n.toNat, fun j => if j < ln then f j else none))) n.toNat) 1 n.toNat := by
  obtain ⟨mr, hmi⟩ := hE.2.2.2.2.2.2.2.1.2.2.2.2
  refine JA_of hE (by decide) fun {p e s m below meth c} F hb hml hrt hlk hH => ?_
  have hx := F.2.1
  have hM := va_Mi.moved F.2.2.1.alike hmi
  obtain ⟨x1, x2, x3, x4, x6⟩ := hH.rfs hc (by decide)
  have hRA := (F.KT.2.1 10 (by omega)).2
  obtain ⟨-, -, -, -, -, hf⟩ := hRA
  rw [lg_entry_eq]
  refine lv_aload_n hx hb (i := 0) (x := adr E a) dj_cp2_0 rfl rfl ?_
  refine lv_iload_n hx hb (i := 1) (x := i3 n) dj_cp2_1 rfl rfl ?_
  refine lv_aload_n hx hb (i := 0) (x := adr E a) dj_cp2_2 rfl rfl ?_
  have hN : (Cond.declares yGet).before #[.ref (adr E a), .int (i3 n)] s = true := va_Nw.use rfl (va_Nw.warmD F.2.2.1 (va_Nw.of rfl (F.1.1 _ w_get5)))
  refine va_getC hx hb (by rw [hml]; rfl) F.2.2.2.2 (F.word w_get1 rfl) hN (F.word w_get3 rfl) (F.word w_get2 rfl) (F.word w_get4 rfl) hM ⟨_, x6, rfl, hf⟩ (by show 1 ≤ 2; omega) (by show 1 + (1 + 0) + 14 ≤ 80; omega) dj_cp2_3 ?_
  refine jcall_a (av := [.ref (adr E a), .int (i3 n), .ref mr]) (rest := []) F hb (jm_cp3 hE hmi hc h1 h2 hel) dj_cp2_6 w_cp31 w_cp32 w_cp34 w_cp35 (by decide) np_c3 hH (fun q hq => nomatch hq) (by rw [hml]; rfl) (by decide) (by decide) (Nat.le_refl _) (Nat.le_refl _) (by show 0 + 1 ≤ 1; omega) (by show 0 + n.toNat ≤ n.toNat; omega) fun H2 locs2 hH2 hl2 => ?_
  have hfin := W.aret (p := p) (l := l) (e := e) (R := rmM 2 1 n.toNat) (s := s) (m := m) (below := below) (cells := 0 + 1) (slots := 0 + n.toNat) (args := #[.ref (adr E a), .int (i3 n)]) (v := .ref (adr E σ.2.1)) (Qc := QcR E (some (.ref (adr E σ.2.1))) (sN σ (.inr (.inr (10, n.toNat, fun j => if j < ln then f j else none))) n.toNat)) (ls := (lg_sl [.ref (adr E a), .int (i3 n)] ++ List.replicate (2 - (lg_sl [.ref (adr E a), .int (i3 n)]).length) Slot.unset).toArray) hx hb hrt (Or.inr ⟨_, rfl⟩) (Or.inr ⟨_, rfl⟩) (fun t ht _ => ⟨rfl, by rw [ht]; exact hH2⟩) hl2 dj_cp2_9 hlk
  rw [Nat.zero_add, Nat.zero_add] at hfin
  rw [Nat.zero_add, Nat.zero_add]
  exact hfin
end UCP
theorem cp_all : (allT MLs fun o ix e => !(e.1 == 1006) || (o == 26 && (ix == 66 && (e.2.1 == 2 && e.2.2.2 == 0)))) = true := by decide +kernel
section UCB
variable {p : Program} {l : Launch} {e : Env} {R : Room} {s s0 : State} {m : MethodId} {args a0 : Array Value} {below : List Frame} {meth : Method} {c : Code} {H : Heap} {locs : List Loc} {cells slots : Nat} {Q : State → Prop}
variable {b : ByteArray} {pc mi : Nat} {ls : Array Slot} {E : EP} {rest : List AV} {ix na rc kd : Nat} {σ : ST} {a : Nat}
theorem b1006 (C : CX l a0 s0 E mi p s m meth c) (hb : c.code = b) (hd : decode b pc = .ok (.invokestatic ix, 3)) (hml : ML mi ix = some (1006, na, rc, kd)) {ln : Nat} {n : Int} {f : Nat → Option Nat} (hca : σ.1 a = .inr (.inr (10, ln, f))) (h1 : (ln : Int) ≤ n) (h2 : n ≤ 100000) (hel : ((List.range ln).all fun j => okEo 10 (f j) σ) = true) (hH : HS E σ H) (hl : ∀ q ∈ locs, AE E q.base) (hwt : wt rest ≤ 8) (hsz : ls.size = c.maxLocals) (hfr : 17 ≤ R.frames) (hlo : 680 ≤ R.locals) (hcr : cells + 1 ≤ R.cells) (hsr : slots + n.toNat ≤ R.slots)
    (kk : ∀ (H1 : Heap) (locs1 : List Loc), HS E (sN σ (.inr (.inr (10, n.toNat, fun j => if j < ln then f j else none))) n.toNat) H1 → (∀ q ∈ locs1, AE E q.base) → W p l e R s m args below meth c H1 locs1 (cells + 1) (slots + n.toNat) Q (F0 m (pc + 3) ls (.ref (adr E σ.2.1) :: rest.map (rel E)))) : W p l e R s m args below meth c H locs cells slots Q (F0 m pc ls (.int (i3 n) :: .ref (adr E a) :: rest.map (rel E))) := by
  obtain ⟨o, h3, h4⟩ := allT_at cp_all hml
  simp only [beq_self_eq_true, Bool.not_true, Bool.false_or, Bool.and_eq_true, beq_iff_eq] at h4
  obtain ⟨ho, hix, -, -⟩ := h4
  rw [ho] at h3
  rw [hix] at hd
  exact jcall_a (av := [.ref (adr E a), .int (i3 n)]) (v := some (.ref (adr E σ.2.1))) (C.FX h3) hb (jm_cp2 C.1 hca h1 h2 hel) hd w_cp21 w_cp22 w_cp34 w_cp25 (by decide) np_c2 hH hl hsz (by rw [wt_cat]; exact hwt) (by decide) (by omega) (by omega) hcr hsr kk
end UCB
