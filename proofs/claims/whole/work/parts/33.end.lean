/-! ENDS: returns and throws -/
def rtOK (t : Option FieldType) (k : Nat) : Bool := match t with
  | some .int => k == 0
  | some .boolean => k == 2
  | some .long => k == 3
  | some (.object _) => k == 4
  | some (.array _) => k == 4
  | some _ => k == 1 || k == 5
  | none => k == 9
set_option maxRecDepth 100000 in
theorem RT_all : (MTB.zipIdx.all fun x => rtOK x.1.2.2.2.1 (RT x.2)) = true := by decide +kernel
theorem RT_at {mi : Nat} {r : MethodName × ByteArray × Nat × Option FieldType × List (Nat × Nat × Nat × Nat)} (h : MTB[mi]? = some r) : rtOK r.2.2.2.1 (RT mi) = true := by
  have h4 : (r, mi) ∈ MTB.zipIdx := by
    rw [List.mem_zipIdx_iff_getElem?]
    exact h
  exact List.all_eq_true.mp RT_all _ h4
/-- the exceptions -/
def exN (ci : Nat) : String := if ci = 18 then "HuntHouseModel$Stop" else "java/util/NoSuchElementException"
def exOf (σ : ST) (a : Nat) : Nat := match σ.1 a with
  | .inl (ci, _) => ci
  | _ => 0
/-- what a method's end says -/
def QcM (E : EP) (x : RS × ST) : Array Value → State → Outcome → State → Prop := fun _ _ o t => match x.1 with
  | .inl v => o = .returned (v.map (rel E)) ∧ HS E x.2 t.heap ∧ okS v.toList
  | .inr _ => False
def XcM (E : EP) (x : RS × ST) : Addr → String → State → State → Prop := fun q n _ t => match x.1 with
  | .inl _ => False
  | .inr a => q = adr E a ∧ HS E x.2 t.heap ∧ (exOf x.2 a = 18 ∨ exOf x.2 a = 99) ∧ n = exN (exOf x.2 a)
/-- handlers as the machine has them -/
def hdOK (mi : Nat) (hh : List (Nat × Nat × Nat × Nat)) : Bool := match hh, lk mi HDs with
  | [], none => true
  | [q], some [x] => decide (q.1 = x.1) && decide (q.2.1 = x.2.1) && decide (q.2.2.1 = x.2.2.1) && decide (q.2.2.2 ≠ 0) && decide (x.2.2.2 = 18 ∨ x.2.2.2 = 99) && decide (OWs[mi]? = some (OWs.getD mi 0)) && (match lk mi hndP with
    | some [u, v] => decide (wAt u = some (.classLink (oN (OWs.getD mi 0)) q.2.2.2 (exN x.2.2.2))) && decide (wAt v = some (.castable (exN x.2.2.2) (exN x.2.2.2)))
    | _ => false)
  | _, _ => false
set_option maxRecDepth 100000 in
theorem HD_all : (MTB.zipIdx.all fun x => hdOK x.2 x.1.2.2.2.2) = true := by decide +kernel
theorem HD_at {mi : Nat} {r : MethodName × ByteArray × Nat × Option FieldType × List (Nat × Nat × Nat × Nat)} (h : MTB[mi]? = some r) : hdOK mi r.2.2.2.2 = true := by
  have h4 : (r, mi) ∈ MTB.zipIdx := by
    rw [List.mem_zipIdx_iff_getElem?]
    exact h
  exact List.all_eq_true.mp HD_all _ h4
theorem covers_at (q : Nat × Nat × Nat × Nat) (pc : Nat) : covers ⟨q.1, q.2.1, q.2.2.1, q.2.2.2⟩ pc = (Nat.ble q.1 pc && Nat.blt pc q.2.1) := by
  have e1 : (Nat.ble q.1 pc) = decide (q.1 ≤ pc) := by
    by_cases h : q.1 ≤ pc
    · rw [Nat.ble_eq_true_of_le h]; simp [h]
    · rw [decide_eq_false h]; exact Bool.eq_false_iff.mpr fun z => h (Nat.le_of_ble_eq_true z)
  have e2 : (Nat.blt pc q.2.1) = decide (pc < q.2.1) := by
    by_cases h : pc < q.2.1
    · unfold Nat.blt; rw [Nat.ble_eq_true_of_le h]; simp [h]
    · rw [decide_eq_false h]; exact Bool.eq_false_iff.mpr fun z => h (Nat.le_of_ble_eq_true z)
  rw [e1, e2]
/-- a thrown thing's cell -/
theorem HS.exc {E : EP} {σ : ST} {H : Heap} {s : State} {a : Nat} (hH : HS E σ H) (hK : KT E s) (hx : exOf σ a = 18 ∨ exOf σ a = 99) : ∃ ce : Cell, H[adr E a]? = some ce ∧ ce.vm = .none ∧ s.vm.findClass (exN (exOf σ a)) = some ce.cls := by
  cases hc : σ.1 a with
  | inr o =>
    unfold exOf at hx
    rw [hc] at hx
    rcases hx with h | h <;> cases h
  | inl o =>
    obtain ⟨ci, fs⟩ := o
    have e1 : exOf σ a = ci := by unfold exOf; rw [hc]
    rw [e1] at hx ⊢
    obtain ⟨-, -, k3⟩ := hH.obj hc (by omega)
    rcases hx with rfl | rfl
    · rcases k3 with ⟨q1, -, -⟩ | ⟨-, -, -, q4⟩
      · omega
      · obtain ⟨r, hr, cell, w1, w2, w3, -⟩ := q4
        have hcls := (hK.1 18 r hr).2.1
        refine ⟨cell, w1, w3, ?_⟩
        rw [w2]
        have e2 : r.1 = "HuntHouseModel$Stop" := by
          have h9 : CLS[18]? = some (RX18, TX18, 8) := rfl
          rw [← Option.some.inj (h9.symm.trans hr)]
          rfl
        rw [e2] at hcls
        exact hcls
    · rcases k3 with ⟨-, -, cell, w1, w2, w3⟩ | ⟨q1, -⟩
      · refine ⟨cell, w1, w2, ?_⟩
        rw [w3]
        exact hK.2.2.2
      · omega
section END
variable {p : Program} {l : Launch} {e : Env} {R : Room} {s s0 : State} {m : MethodId} {args a0 : Array Value} {below : List Frame} {meth : Method} {c : Code} {H : Heap} {locs : List Loc} {cells slots : Nat} {Q : State → Prop}
variable {b : ByteArray} {pc mi : Nat} {ls : Array Slot} {rest : List Value} {E : EP} {L : LO} {st st1 : List AV} {σ σ1 : ST} {fr : FR}
theorem W_athrow (hx : p.tables.exec = Jvm.exec) (hb : c.code = b) (hd : decode b pc = .ok (.athrow, 1)) {q : Nat} (k : vx_W p l e R s m args below meth c H locs cells slots Q (F0 m pc ls rest) q) : W p l e R s m args below meth c H locs cells slots Q (F0 m pc ls (.ref q :: rest)) := by
  intro T hT X
  obtain ⟨t, a1, b1⟩ := k T hT X
  refine ⟨t, ?_, b1⟩
  have hdg : decode c.code pc = .ok (.athrow, 1) := by rw [hb]; exact hd
  jvm_step X.here [hx, hdg, athrow.wp_sem]
  exact a1
/-- caught here -/
theorem thr_in (C : CX l a0 s0 E mi p s m meth c) {a h : Nat} (hx : HX mi pc a σ = some (some h)) (hH : HS E σ H) (hex : exOf σ a = 18 ∨ exOf σ a = 99) (kk : W p l e R s m args below meth c H locs cells slots Q (F0 m h ls [.ref (adr E a)])) : vx_W p l e R s m args below meth c H locs cells slots Q (F0 m pc ls rest) (adr E a) := by
  obtain ⟨ce, w1, w2, w3⟩ := hH.exc C.KT hex
  obtain ⟨-, -, -, -, r, m1, m2, m3, m4, m5, m6, m7, m8⟩ := id C
  have hd := HD_at m1
  unfold HX HD at hx
  unfold hdOK at hd
  split at hd
  · rename_i h1 h2
    rw [h2] at hx
    cases hx
  · rename_i q x h1 h2
    rw [h2] at hx
    simp only [Bool.and_eq_true, decide_eq_true_eq] at hd
    obtain ⟨⟨⟨⟨⟨⟨d1, d2⟩, d3⟩, d4⟩, d5⟩, d6⟩, d7⟩ := hd
    split at d7
    · rename_i u v huv
      simp only [Bool.and_eq_true, decide_eq_true_eq] at d7
      simp only [Option.bind_some, HDf] at hx
      cases hc : (Nat.ble x.1 pc && Nat.blt pc x.2.1) with
      | false => rw [hc] at hx; simp only [cond_false] at hx; cases hx
      | true =>
        rw [hc] at hx
        simp only [cond_true] at hx
        have hcl : exOf σ a = x.2.2.2 ∧ h = x.2.2.1 := by
          unfold exOf
          split at hx
          · rename_i cj fs hcell
            split at hx
            · rename_i e9
              rw [hcell]
              exact ⟨e9, (Option.some.inj (Option.some.inj hx)).symm⟩
            · cases hx
          · cases hx
        rw [hcl.1] at w3
        have hN := va_Nw.warmC C.2.2.1 (va_Nw.of rfl (C.1.1 _ (wAt_in d7.2)))
        refine vx_catch (own := oN (OWs.getD mi 0)) (name := exN x.2.2.2) (E := exN x.2.2.2) (C.own d6) [] ⟨q.1, q.2.1, q.2.2.1, q.2.2.2⟩ [] (by rw [m8, h1]; rfl) (fun z hz => by cases hz) (by rw [covers_at, d1, d2]; exact hc) d4 (C.word (wAt_in d7.1) rfl) (va_Nw.use rfl hN) w1 w2 w3 ?_
        show W p l e R s m args below meth c H locs cells slots Q (F0 m q.2.2.1 ls [.ref (adr E a)])
        rw [d3, ← hcl.2]
        exact kk
    · cases d7
  · cases hd
/-- it goes on to the caller -/
theorem thr_out (C : CX l a0 s0 E mi p s m meth c) {a mc ms : Nat} (hx : HX mi pc a σ = some none) (hH : HS E σ H) (hex : exOf σ a = 18 ∨ exOf σ a = 99) (hl : ∀ q ∈ locs, AE E q.base) (hc1 : cells ≤ mc) (hs1 : slots ≤ ms) : vx_W p l e R s m args below meth c H locs cells slots (vx_MQ below (QcM E (.inr a, σ)) (XcM E (.inr a, σ)) args s mc ms (AE E)) (F0 m pc ls rest) (adr E a) := by
  obtain ⟨ce, w1, w2, w3⟩ := hH.exc C.KT hex
  obtain ⟨-, -, -, -, r, m1, m2, m3, m4, m5, m6, m7, m8⟩ := id C
  have hd := HD_at m1
  have hout : ∀ x ∈ c.exceptionTable.toList, covers x pc = false := by
    rw [m8]
    unfold HX HD at hx
    unfold hdOK at hd
    split at hd
    · rename_i h1 h2
      rw [h1]
      intro x hx
      cases hx
    · rename_i q x h1 h2
      rw [h2] at hx
      simp only [Option.bind_some, HDf] at hx
      rw [h1]
      intro z hz
      rw [List.mem_singleton.mp hz, covers_at]
      simp only [Bool.and_eq_true, decide_eq_true_eq] at hd
      obtain ⟨⟨⟨⟨⟨⟨d1, d2⟩, d3⟩, d4⟩, d5⟩, d6⟩, d7⟩ := hd
      rw [d1, d2]
      cases hc : (Nat.ble x.1 pc && Nat.blt pc x.2.1) with
      | false => rfl
      | true =>
        rw [hc] at hx
        simp only [cond_true] at hx
        split at hx
        · split at hx
          · cases hx
          · cases hx
        · cases hx
    · cases hd
  exact vx_out hout m6 w1 w2 w3 (fun t ht _ => ⟨rfl, by rw [ht]; exact hH, hex, rfl⟩) hl hc1 hs1
end END
