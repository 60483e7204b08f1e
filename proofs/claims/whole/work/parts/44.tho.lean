/-! RuntimeException's constructor of four -/
def jThr : String := "java/lang/Throwable"
def jExc : String := "java/lang/Exception"
def jRte : String := "java/lang/RuntimeException"
def yThr : MethodName := ⟨jThr, "<init>", "(Ljava/lang/String;Ljava/lang/Throwable;ZZ)V"⟩
def yExc : MethodName := ⟨jExc, "<init>", "(Ljava/lang/String;Ljava/lang/Throwable;ZZ)V"⟩
def yRte : MethodName := ⟨jRte, "<init>", "(Ljava/lang/String;Ljava/lang/Throwable;ZZ)V"⟩
theorem dj_exc_0 : decode prog_26_method_5_code 0 = .ok (.aload_n 0, 1) := by decide +kernel
theorem dj_exc_1 : decode prog_26_method_5_code 1 = .ok (.aload_n 1, 1) := by decide +kernel
theorem dj_exc_2 : decode prog_26_method_5_code 2 = .ok (.aload_n 2, 1) := by decide +kernel
theorem dj_exc_3 : decode prog_26_method_5_code 3 = .ok (.iload_n 3, 1) := by decide +kernel
theorem dj_exc_4 : decode prog_26_method_5_code 4 = .ok (.iload 4, 2) := by decide +kernel
theorem dj_exc_6 : decode prog_26_method_5_code 6 = .ok (.invokespecial 16, 3) := by decide +kernel
theorem dj_exc_9 : decode prog_26_method_5_code 9 = .ok (.return_, 1) := by decide +kernel
theorem dj_rte_0 : decode prog_30_method_5_code 0 = .ok (.aload_n 0, 1) := by decide +kernel
theorem dj_rte_1 : decode prog_30_method_5_code 1 = .ok (.aload_n 1, 1) := by decide +kernel
theorem dj_rte_2 : decode prog_30_method_5_code 2 = .ok (.aload_n 2, 1) := by decide +kernel
theorem dj_rte_3 : decode prog_30_method_5_code 3 = .ok (.iload_n 3, 1) := by decide +kernel
theorem dj_rte_4 : decode prog_30_method_5_code 4 = .ok (.iload 4, 2) := by decide +kernel
theorem dj_rte_6 : decode prog_30_method_5_code 6 = .ok (.invokespecial 16, 3) := by decide +kernel
theorem dj_rte_9 : decode prog_30_method_5_code 9 = .ok (.return_, 1) := by decide +kernel
theorem dj_thr_0 : decode prog_35_method_5_code 0 = .ok (.aload_n 0, 1) := by decide +kernel
theorem dj_thr_1 : decode prog_35_method_5_code 1 = .ok (.invokespecial 1, 3) := by decide +kernel
theorem dj_thr_4 : decode prog_35_method_5_code 4 = .ok (.aload_n 0, 1) := by decide +kernel
theorem dj_thr_5 : decode prog_35_method_5_code 5 = .ok (.aload_n 0, 1) := by decide +kernel
theorem dj_thr_6 : decode prog_35_method_5_code 6 = .ok (.putfield 7, 3) := by decide +kernel
theorem dj_thr_9 : decode prog_35_method_5_code 9 = .ok (.aload_n 0, 1) := by decide +kernel
theorem dj_thr_10 : decode prog_35_method_5_code 10 = .ok (.getstatic 13, 3) := by decide +kernel
theorem dj_thr_13 : decode prog_35_method_5_code 13 = .ok (.putfield 17, 3) := by decide +kernel
theorem dj_thr_16 : decode prog_35_method_5_code 16 = .ok (.aload_n 0, 1) := by decide +kernel
theorem dj_thr_17 : decode prog_35_method_5_code 17 = .ok (.getstatic 20, 3) := by decide +kernel
theorem dj_thr_20 : decode prog_35_method_5_code 20 = .ok (.putfield 24, 3) := by decide +kernel
theorem dj_thr_23 : decode prog_35_method_5_code 23 = .ok (.iload 4, 2) := by decide +kernel
theorem dj_thr_25 : decode prog_35_method_5_code 25 = .ok (.ifCond .eq 11, 3) := by decide +kernel
theorem dj_thr_36 : decode prog_35_method_5_code 36 = .ok (.aload_n 0, 1) := by decide +kernel
theorem dj_thr_37 : decode prog_35_method_5_code 37 = .ok (.aconst_null, 1) := by decide +kernel
theorem dj_thr_38 : decode prog_35_method_5_code 38 = .ok (.putfield 17, 3) := by decide +kernel
theorem dj_thr_41 : decode prog_35_method_5_code 41 = .ok (.aload_n 0, 1) := by decide +kernel
theorem dj_thr_42 : decode prog_35_method_5_code 42 = .ok (.aload_n 1, 1) := by decide +kernel
theorem dj_thr_43 : decode prog_35_method_5_code 43 = .ok (.putfield 31, 3) := by decide +kernel
theorem dj_thr_46 : decode prog_35_method_5_code 46 = .ok (.aload_n 0, 1) := by decide +kernel
theorem dj_thr_47 : decode prog_35_method_5_code 47 = .ok (.aload_n 2, 1) := by decide +kernel
theorem dj_thr_48 : decode prog_35_method_5_code 48 = .ok (.putfield 7, 3) := by decide +kernel
theorem dj_thr_51 : decode prog_35_method_5_code 51 = .ok (.iload_n 3, 1) := by decide +kernel
theorem dj_thr_52 : decode prog_35_method_5_code 52 = .ok (.ifCond .ne 8, 3) := by decide +kernel
theorem dj_thr_55 : decode prog_35_method_5_code 55 = .ok (.aload_n 0, 1) := by decide +kernel
theorem dj_thr_56 : decode prog_35_method_5_code 56 = .ok (.aconst_null, 1) := by decide +kernel
theorem dj_thr_57 : decode prog_35_method_5_code 57 = .ok (.putfield 24, 3) := by decide +kernel
theorem dj_thr_60 : decode prog_35_method_5_code 60 = .ok (.return_, 1) := by decide +kernel
theorem w_rte1 : Cond.methodLink (oN 18) 1 yRte ∈ lw_tbl := wAt_in (q := (5, 189)) (by decide +kernel)
theorem w_rte2 : Cond.instanceMethod yRte ∈ lw_tbl := wAt_in (q := (5, 190)) (by decide +kernel)
theorem w_rte5 : Cond.code yRte prog_30_method_5_code 5 none ∈ lw_tbl := wAt_in (q := (5, 191)) (by decide +kernel)
theorem w_exc1 : Cond.methodLink jRte 16 yExc ∈ lw_tbl := wAt_in (q := (5, 192)) (by decide +kernel)
theorem w_exc2 : Cond.instanceMethod yExc ∈ lw_tbl := wAt_in (q := (5, 193)) (by decide +kernel)
theorem w_exc5 : Cond.code yExc prog_26_method_5_code 5 none ∈ lw_tbl := wAt_in (q := (5, 194)) (by decide +kernel)
theorem w_thr1 : Cond.methodLink jExc 16 yThr ∈ lw_tbl := wAt_in (q := (5, 195)) (by decide +kernel)
theorem w_thr2 : Cond.instanceMethod yThr ∈ lw_tbl := wAt_in (q := (5, 196)) (by decide +kernel)
theorem w_thr5 : Cond.code yThr prog_35_method_5_code 5 none ∈ lw_tbl := wAt_in (q := (5, 197)) (by decide +kernel)
theorem w_thr4 : Cond.initialized jThr ∈ lw_tbl := wAt_in (q := (1, 11)) (by decide +kernel)
theorem w_exc4 : Cond.initialized jExc ∈ lw_tbl := wAt_in (q := (1, 12)) (by decide +kernel)
theorem w_rte4 : Cond.initialized jRte ∈ lw_tbl := wAt_in (q := (1, 13)) (by decide +kernel)
theorem w_oin1 : Cond.methodLink jThr 1 Lib.objectInit ∈ lw_tbl := wAt_in (q := (5, 123)) (by decide +kernel)
theorem w_tst1 : Cond.fieldLink jThr 13 jThr "UNASSIGNED_STACK" "[Ljava/lang/StackTraceElement;" ∈ lw_tbl := wAt_in (q := (5, 124)) (by decide +kernel)
theorem w_tst2 : Cond.fieldLink jThr 20 jThr "SUPPRESSED_SENTINEL" "Ljava/util/List;" ∈ lw_tbl := wAt_in (q := (5, 126)) (by decide +kernel)
theorem w_tf3 : Cond.fieldLink jThr 31 jThr "detailMessage" "Ljava/lang/String;" ∈ lw_tbl := wAt_in (q := (5, 149)) (by decide +kernel)
theorem w_tf0 : Cond.fieldLink jThr 7 jThr "cause" "Ljava/lang/Throwable;" ∈ lw_tbl := wAt_in (q := (5, 150)) (by decide +kernel)
theorem w_tf1 : Cond.fieldLink jThr 17 jThr "stackTrace" "[Ljava/lang/StackTraceElement;" ∈ lw_tbl := wAt_in (q := (5, 151)) (by decide +kernel)
theorem w_tf2 : Cond.fieldLink jThr 24 jThr "suppressedExceptions" "Ljava/util/List;" ∈ lw_tbl := wAt_in (q := (5, 152)) (by decide +kernel)
theorem np_4t : nPar yThr = some 4 := by decide +kernel
theorem np_4e : nPar yExc = some 4 := by decide +kernel
theorem np_4r : nPar yRte = some 4 := by decide +kernel
def r18 : vw_C := (RX18, TX18, 8)
theorem r18_at : CLS[18]? = some r18 := rfl
theorem ty18 : tyO r18 0 = .object "java/lang/Throwable" ∧ tyO r18 1 = .array (.object "java/lang/StackTraceElement") ∧ tyO r18 2 = .object "java/util/List" ∧ tyO r18 3 = .object "java/lang/String" := by decide +kernel
theorem fit18 {k : Nat} {v : Value} (hk : k < 4) (hv : v.isRef = true) : narrow (tyO r18 k) v = v ∧ fits (tyO r18 k) v = true := by
  obtain ⟨t0, t1, t2, t3⟩ := ty18
  have hh : k = 0 ∨ k = 1 ∨ k = 2 ∨ k = 3 := by omega
  rcases hh with rfl | rfl | rfl | rfl
  · rw [t0]; cases v <;> first | exact ⟨rfl, rfl⟩ | simp [Value.isRef] at hv
  · rw [t1]; cases v <;> first | exact ⟨rfl, rfl⟩ | simp [Value.isRef] at hv
  · rw [t2]; cases v <;> first | exact ⟨rfl, rfl⟩ | simp [Value.isRef] at hv
  · rw [t3]; cases v <;> first | exact ⟨rfl, rfl⟩ | simp [Value.isRef] at hv
theorem sU_self (σ : ST) (a : Nat) : sU σ a (σ.1 a) = σ := by
  obtain ⟨f, n, k⟩ := σ
  show ((fun b => if b = a then f a else f b), n, k) = (f, n, k)
  congr 1
  funext b
  by_cases h : b = a
  · rw [if_pos h, h]
  · rw [if_neg h]
/-- the thrown thing while it is made -/
def K18 (E : EP) (q : Nat) (vs : List Value) (s : State) (H : Heap) (locs : List Loc) : Prop := va_at (eD E) CLS (q, .inr (18, vs)) H ∧ vs.length = 8 ∧ H.size = s.heap.size ∧ (∀ z, z ≠ q → H[z]? = s.heap[z]?) ∧ (∀ z ∈ locs, AE E z.base) ∧ AE E q
section THO
variable {p : Program} {l : Launch} {e : Env} {R : Room} {s s0 : State} {m : MethodId} {args a0 : Array Value} {below : List Frame} {meth : Method} {c : Code} {H : Heap} {locs : List Loc} {cells slots : Nat} {Q : State → Prop}
variable {b : ByteArray} {pc mi d mx ix : Nat} {ls : Array Slot} {E : EP} {rest : List Value} {σ : ST} {y : MethodName} {cb : ByteArray} {rt : Option FieldType} {av : List Value} {v : Option Value} {own : String}
theorem FX.KT (F : FX l a0 s0 E own p s m) : KT E s := (F.1.2.1).moved F.2.2.1.alike
theorem K18.S {q : Nat} {vs : List Value} (h : K18 E q vs s H locs) : va_S (AE E) s.heap H locs := ⟨by rw [h.2.2.1]; exact Nat.le_refl _, fun z _ h2 => h.2.2.2.1 z (fun e => h2 (by rw [e]; exact h.2.2.2.2.2)), h.2.2.2.2.1⟩
/-- a field of it is written -/
theorem put18 (F : FX l a0 s0 E own p s m) (hb : c.code = b) (hd : decode b pc = .ok (.putfield ix, 3)) {k : Nat} (hk : k < 4) (hw : Cond.fieldLink own ix (TX18 k).1 (TX18 k).2.1 (TX18 k).2.2.1 ∈ lw_tbl) {vs : List Value} {q : Nat} {w : Value} (hv : w.isRef = true) (hK : K18 E q vs s H locs)
    (kk : ∀ (H1 : Heap) (locs1 : List Loc), K18 E q (vs.set k w) s H1 locs1 → W p l e R s m args below meth c H1 locs1 cells slots Q (F0 m (pc + 3) ls rest)) : W p l e R s m args below meth c H locs cells slots Q (F0 m pc ls (w :: .ref q :: rest)) := by
  obtain ⟨hat, hlen, hz, ho, hl, hq⟩ := hK
  have hk8 : k < r18.2.2 := Nat.lt_of_lt_of_le hk (by decide)
  have hts : ∀ w ∈ u_ws r18.1 r18.2.1 r18.2.2, w.before args s = true := fun w hw => by
    obtain ⟨j, -, rfl⟩ := List.mem_map.mp hw
    exact F.word (CL_in r18_at _ hw) (u_good _ _ _)
  have hKs := F.KT
  have hap := va_apart (own := r18.1) (D := eD E) (cl := CLS) (tys := []) (C := r18.1) (T := r18.2.1) (N := r18.2.2) hts (fun w h => h) (tyO r18) (CL_tyo r18_at) (CL_nmv r18_at) hKs.K r18_at
  obtain ⟨r', h1', cell, p1, p2, p3, p4⟩ := hat
  have hrr : r' = r18 := Option.some.inj (h1'.symm.trans r18_at)
  subst hrr
  obtain ⟨hS, hfc, kC, hkC, hkind⟩ := hKs.1 18 _ r18_at
  obtain ⟨cf, kf, fi, f, hi, hsl⟩ := hS k hk8
  have hst := (u_facts hfc hkC (u_lays hts (fun w h => h) hk8) hi).1
  obtain ⟨hnar, hfit⟩ := fit18 hk hv
  have hlay := hts _ (u_in_lay hk8)
  unfold u_lay at hlay
  have hfin : (r18.2.1 k).2.2.2 = false := by
    have hh : k = 0 ∨ k = 1 ∨ k = 2 ∨ k = 3 := by omega
    rcases hh with rfl | rfl | rfl | rfl <;> rfl
  rw [if_neg (by rw [hfin]; decide)] at hlay
  have h6 := u_store hfc hkC hkind hlay hi (CL_tyo r18_at k hk8) hnar hfit
  refine W.putK F.2.1 hb (f := f) ⟨F.2.2.2.2, F.word hw rfl, ⟨_, _, _, hi⟩, hst⟩ (by rw [p2]; exact h6) p1 p3 (by rw [hsl]; exact k2_hasslot (p4 k hk8)) rfl rfl hd fun H' e1 e2 e3 => ?_
  rw [hsl] at e1
  refine kk H' _ ⟨⟨r18, r18_at, t_OB.to (V := updV (vp_V vs) k w) ⟨_, e1, p2, p3, t_set p4 hap hk8 w⟩ (fun j _ => vp_updV_set (by rw [hlen]; exact hk8) w j)⟩, by rw [List.length_set]; exact hlen, e2.trans hz, fun z hz' => (e3 z hz').trans (ho z hz'), fun z hz' => ?_, hq⟩
  rcases List.mem_append.mp hz' with h | h
  · exact hl z h
  · rw [List.mem_singleton.mp h]; exact hq
theorem jcall_i (F : FX l a0 s0 E own p s m) (hb : c.code = b) {a : Nat} (hM : JM l s0 E d y cb mx none (.ref a :: av) v σ) (hd : decode b pc = .ok (.invokespecial ix, 3)) (w1 : Cond.methodLink own ix y ∈ lw_tbl) (w2 : Cond.instanceMethod y ∈ lw_tbl) (w4 : Cond.initialized y.cls ∈ lw_tbl) (w5 : Cond.code y cb mx none ∈ lw_tbl) (hnm : nmOK y = true) (hin : y.name = "<init>") (hnp : nPar y = some av.length)
    (hH : HS E σ H) (hl : ∀ q ∈ locs, AE E q.base) (hsz : ls.size = c.maxLocals) (hwt : (rest.map fun v => v.category).sum ≤ 8) (hmx : mx ≤ 12) (hfr : d + 1 ≤ R.frames) (hlo : 40 * (d + 1) ≤ R.locals) (hcr : cells ≤ R.cells) (hsr : slots ≤ R.slots)
    (kr : ∀ (H1 : Heap) (locs1 : List Loc), HS E σ H1 → (∀ q ∈ locs1, AE E q.base) → W p l e R s m args below meth c H1 locs1 cells slots Q (F0 m (pc + 3) ls (v.toList ++ rest))) : W p l e R s m args below meth c H locs cells slots Q (F0 m pc ls (av.reverse ++ .ref a :: rest)) := by
  obtain ⟨hnm1, hnm2⟩ := nm_at hnm
  have hpre : PreS s H (PcR s0 E (.ref a :: av) σ) (.ref a :: av) := ⟨PcR_blind, fun U hU hW => ⟨rfl, State.WarmedH.trans F.2.2.1 hW, by rw [hU]; exact hH⟩⟩
  obtain ⟨hr1, hr2⟩ := jroom hmx hfr hlo
  have hws : ∀ w ∈ [Cond.code y cb mx none], ∀ (a' : Array Value) (U : State), s.WarmedH U.vm → w.before a' U = true := fun w hw a' U hW => by
    rw [List.mem_singleton.mp hw]
    exact F.later w5 rfl a' U hW
  have hfix : CallFix p m c b c.maxLocals s args [] own := ⟨F.2.1, hb, rfl, F.2.2.2.2, fun w hw => nomatch hw⟩
  have hW8 : 2 * (F0 m pc ls (av.reverse ++ .ref a :: rest)).monitorRoom + (rest.map fun v => v.category).sum ≤ 8 := lv_room hwt
  exact jgo (va_runI (g := F0 m pc ls (av.reverse ++ .ref a :: rest)) hfix hM ⟨⟨rfl, rfl, hr1, hr2, hws, List.mem_singleton.mpr rfl, F.word w5 rfl, F.word w4 rfl, hnm1, nPar_at hnp, F.word w1 rfl⟩, hin, F.word w2 rfl⟩ hpre rfl rfl hsz rfl hW8 hd ⟨hcr, hsr⟩) hl kr
theorem zq_at {C n dd : String} {U : State} {hp : Heap} {A : Nat → Prop} (h : va_Zq C n dd A U hp) : ∃ w : Value, w.isRef = true ∧ va_Z C n dd w A U hp := by
  rcases h with h | ⟨t, h⟩
  · exact ⟨_, rfl, h⟩
  · exact ⟨_, rfl, h⟩
def fs18 : List AV := [.inr (.inr none), .inr (.inr none), .inr (.inr none), .inr (.inr none), .inr (.inr none), .inl 0, .inl 0, .inl 0]
def v18 : List Value := [.null, .null, .null, .null, .null, .int 0, .int 0, .int 0]
/-- Throwable's constructor of four -/
theorem jm_thr {a : Nat} (hE : EV l a0 s0 E) (hc : σ.1 a = .inl (18, fs18)) : JM l s0 E 1 yThr prog_35_method_5_code 5 none [.ref (adr E a), .null, .null, .int 0, .int 0] none σ := by
  obtain ⟨zU, zS⟩ := hE.2.2.2.2.2.2.2.2
  refine JM_of hE (by decide) fun {p e s m below meth c} F hb hml hrt hlk hH => ?_
  have hx := F.2.1
  have hA := F.2.2.1.alike
  obtain ⟨wU, hwU, zU1⟩ := zq_at ((vx_Zq.moved hA zU).kept F.kp).1
  obtain ⟨wS, hwS, zS1⟩ := zq_at ((vx_Zq.moved hA zS).kept F.kp).1
  obtain ⟨g1, g2, g3⟩ := hH.obj hc (by decide)
  rcases g3 with ⟨q1, -, -⟩ | ⟨-, q2, q3, q4⟩
  · cases q1
  have K0 : K18 E (adr E a) v18 s s.heap [] := ⟨q4, rfl, rfl, (fun z _ => rfl), (fun z hz => nomatch hz), adr_ge g1⟩
  rw [lg_entry_eq]
  refine lv_aload_n hx hb (i := 0) (x := adr E a) dj_thr_0 rfl rfl ?_
  refine W.objInit (g := F0 m 1 _ [.ref (adr E a)]) hx hb F.2.2.2.2 (F.word w_oin1 rfl) (F.word (wAt_in blt_w.1) rfl) (F.word (wAt_in blt_w.2.1) rfl) rfl (by rw [hml]; rfl) rfl dj_thr_1 (Nat.le_refl _) (by show 2 * 0 + 0 + 12 ≤ 40; omega) ?_
  refine lv_aload_n hx hb (i := 0) (x := adr E a) dj_thr_4 rfl rfl ?_
  refine lv_aload_n hx hb (i := 0) (x := adr E a) dj_thr_5 rfl rfl ?_
  refine put18 F hb dj_thr_6 (k := 0) (by decide) w_tf0 rfl K0 fun H1 locs1 K1 => ?_
  refine lv_aload_n hx hb (i := 0) (x := adr E a) dj_thr_9 rfl rfl ?_
  refine va_gets hx hb zU1 K1.S F.2.2.2.2 (F.word w_tst1 rfl) (fun x h => h) dj_thr_10 ?_
  refine put18 F hb dj_thr_13 (k := 1) (by decide) w_tf1 hwU K1 fun H2 locs2 K2 => ?_
  refine lv_aload_n hx hb (i := 0) (x := adr E a) dj_thr_16 rfl rfl ?_
  refine va_gets hx hb zS1 K2.S F.2.2.2.2 (F.word w_tst2 rfl) (fun x h => h) dj_thr_17 ?_
  refine put18 F hb dj_thr_20 (k := 2) (by decide) w_tf2 hwS K2 fun H3 locs3 K3 => ?_
  refine lv_iload hx hb (x := 0) dj_thr_23 rfl ?_
  refine lv_if_eq hx hb (tgt := 36) dj_thr_25 rfl (fun _ => ?_) fun h => absurd rfl h
  refine lv_aload_n hx hb (i := 0) (x := adr E a) dj_thr_36 rfl rfl ?_
  refine lv_null hx hb dj_thr_37 ?_
  refine put18 F hb dj_thr_38 (k := 1) (by decide) w_tf1 rfl K3 fun H4 locs4 K4 => ?_
  refine lv_aload_n hx hb (i := 0) (x := adr E a) dj_thr_41 rfl rfl ?_
  refine lv_aload_nN hx hb (i := 1) dj_thr_42 rfl rfl ?_
  refine put18 F hb dj_thr_43 (k := 3) (by decide) w_tf3 rfl K4 fun H5 locs5 K5 => ?_
  refine lv_aload_n hx hb (i := 0) (x := adr E a) dj_thr_46 rfl rfl ?_
  refine lv_aload_nN hx hb (i := 2) dj_thr_47 rfl rfl ?_
  refine put18 F hb dj_thr_48 (k := 0) (by decide) w_tf0 rfl K5 fun H6 locs6 K6 => ?_
  refine lv_iload_n hx hb (i := 3) (x := 0) dj_thr_51 rfl rfl ?_
  refine lv_if_ne hx hb (tgt := 60) dj_thr_52 rfl (fun h => absurd rfl h) fun _ => ?_
  refine lv_aload_n hx hb (i := 0) (x := adr E a) dj_thr_55 rfl rfl ?_
  refine lv_null hx hb dj_thr_56 ?_
  refine put18 F hb dj_thr_57 (k := 2) (by decide) w_tf2 rfl K6 fun H7 locs7 K7 => ?_
  obtain ⟨k1, -, k3, k4, k5, k6⟩ := K7
  have hH7 : HS E σ H7 := by
    have := hH.set (c := .inl (18, fs18)) g1 g2 k3 k4 (Or.inr ⟨by decide, q2, q3, k1⟩)
    rw [← hc, sU_self] at this
    exact this
  exact W.vret hx hb hrt (fun t ht _ => ⟨rfl, by rw [ht]; exact hH7⟩) k5 dj_thr_60 hlk
theorem jm_exc {a : Nat} (hE : EV l a0 s0 E) (hc : σ.1 a = .inl (18, fs18)) : JM l s0 E 2 yExc prog_26_method_5_code 5 none [.ref (adr E a), .null, .null, .int 0, .int 0] none σ := by
  refine JM_of hE (by decide) fun {p e s m below meth c} F hb hml hrt hlk hH => ?_
  have hx := F.2.1
  rw [lg_entry_eq]
  refine lv_aload_n hx hb (i := 0) (x := adr E a) dj_exc_0 rfl rfl ?_
  refine lv_aload_nN hx hb (i := 1) dj_exc_1 rfl rfl ?_
  refine lv_aload_nN hx hb (i := 2) dj_exc_2 rfl rfl ?_
  refine lv_iload_n hx hb (i := 3) (x := 0) dj_exc_3 rfl rfl ?_
  refine lv_iload hx hb (x := 0) dj_exc_4 rfl ?_
  refine jcall_i (av := [.null, .null, .int 0, .int 0]) (rest := []) F hb (jm_thr hE hc) dj_exc_6 w_thr1 w_thr2 w_thr4 w_thr5 (by decide) rfl np_4t hH (fun q hq => nomatch hq) (by rw [hml]; rfl) (by decide) (by decide) (Nat.le_refl _) (Nat.le_refl _) (Nat.zero_le _) (Nat.zero_le _) fun H1 locs1 hH1 hl1 => ?_
  exact W.vret hx hb hrt (fun t ht _ => ⟨rfl, by rw [ht]; exact hH1⟩) hl1 dj_exc_9 hlk
theorem jm_rte {a : Nat} (hE : EV l a0 s0 E) (hc : σ.1 a = .inl (18, fs18)) : JM l s0 E 3 yRte prog_30_method_5_code 5 none [.ref (adr E a), .null, .null, .int 0, .int 0] none σ := by
  refine JM_of hE (by decide) fun {p e s m below meth c} F hb hml hrt hlk hH => ?_
  have hx := F.2.1
  rw [lg_entry_eq]
  refine lv_aload_n hx hb (i := 0) (x := adr E a) dj_rte_0 rfl rfl ?_
  refine lv_aload_nN hx hb (i := 1) dj_rte_1 rfl rfl ?_
  refine lv_aload_nN hx hb (i := 2) dj_rte_2 rfl rfl ?_
  refine lv_iload_n hx hb (i := 3) (x := 0) dj_rte_3 rfl rfl ?_
  refine lv_iload hx hb (x := 0) dj_rte_4 rfl ?_
  refine jcall_i (av := [.null, .null, .int 0, .int 0]) (rest := []) F hb (jm_exc hE hc) dj_rte_6 w_exc1 w_exc2 w_exc4 w_exc5 (by decide) rfl np_4e hH (fun q hq => nomatch hq) (by rw [hml]; rfl) (by decide) (by decide) (Nat.le_refl _) (Nat.le_refl _) (Nat.zero_le _) (Nat.zero_le _) fun H1 locs1 hH1 hl1 => ?_
  exact W.vret hx hb hrt (fun t ht _ => ⟨rfl, by rw [ht]; exact hH1⟩) hl1 dj_rte_9 hlk
end THO
theorem rte_all : (allT MLs fun o ix e => !(e.1 == 1007) || (o == 18 && (ix == 1 && (e.2.1 == 5 && e.2.2.2 == 1)))) = true := by decide +kernel
section RTB
variable {p : Program} {l : Launch} {e : Env} {R : Room} {s s0 : State} {m : MethodId} {args a0 : Array Value} {below : List Frame} {meth : Method} {c : Code} {H : Heap} {locs : List Loc} {cells slots : Nat} {Q : State → Prop}
variable {b : ByteArray} {pc mi : Nat} {ls : Array Slot} {E : EP} {rest : List AV} {ix na rc kd : Nat} {σ : ST} {a : Nat}
theorem b1007 (C : CX l a0 s0 E mi p s m meth c) (hb : c.code = b) (hd : decode b pc = .ok (.invokespecial ix, 3)) (hml : ML mi ix = some (1007, na, rc, kd)) (hca : σ.1 a = .inl (18, fs18)) (hH : HS E σ H) (hl : ∀ q ∈ locs, AE E q.base) (hwt : wt rest ≤ 8) (hsz : ls.size = c.maxLocals) (hfr : 17 ≤ R.frames) (hlo : 680 ≤ R.locals) (hcr : cells ≤ R.cells) (hsr : slots ≤ R.slots)
    (kk : ∀ (H1 : Heap) (locs1 : List Loc), HS E σ H1 → (∀ q ∈ locs1, AE E q.base) → W p l e R s m args below meth c H1 locs1 cells slots Q (F0 m (pc + 3) ls (rest.map (rel E)))) : W p l e R s m args below meth c H locs cells slots Q (F0 m pc ls (.int 0 :: .int 0 :: .null :: .null :: .ref (adr E a) :: rest.map (rel E))) := by
  obtain ⟨o, h1, h2⟩ := allT_at rte_all hml
  simp only [beq_self_eq_true, Bool.not_true, Bool.false_or, Bool.and_eq_true, beq_iff_eq] at h2
  obtain ⟨ho, hix, -, -⟩ := h2
  rw [ho] at h1
  rw [hix] at hd
  exact jcall_i (av := [.null, .null, .int 0, .int 0]) (v := none) (C.FX h1) hb (jm_rte C.1 hca) hd w_rte1 w_rte2 w_rte4 w_rte5 (by decide) rfl np_4r hH hl hsz (by rw [wt_cat]; exact hwt) (by decide) (by omega) (by omega) hcr hsr kk
end RTB
