/-! THROWN WHERE IT IS MADE -/
theorem LW_all : (allT MLs fun _ _ e => Nat.ble 1000 e.1 || Nat.blt e.1 lawI) = true := by decide +kernel
theorem LW_at {mi ix cm na rc kd : Nat} (h : ML mi ix = some (cm, na, rc, kd)) (hcm : cm < 1000) : cm < lawI := by
  obtain ⟨o, -, h2⟩ := allT_at LW_all h
  simp only [Bool.or_eq_true] at h2
  rcases h2 with h2 | h2
  · exact absurd (Nat.le_of_ble_eq_true h2) (by omega)
  · exact Nat.le_of_ble_eq_true h2
def wgX (w : Cond) : Bool := goodWord w || (match w with
  | .declares _ => true
  | .castable _ _ => true
  | _ => false)
theorem CX.wordX {l : Launch} {a0 args : Array Value} {s0 s : State} {E : EP} {mi : Nat} {p : Program} {m : MethodId} {meth : Method} {c : Code} (C : CX l a0 s0 E mi p s m meth c) {w : Cond} (hw : w ∈ lw_tbl) (hg : wgX w = true) : w.before args s = true := by
  unfold wgX at hg
  rw [Bool.or_eq_true] at hg
  rcases hg with hg | hg
  · exact C.word hw hg
  · split at hg
    · exact va_Nw.use rfl (va_Nw.warmD C.2.2.1 (va_Nw.of rfl (C.1.1 _ hw)))
    · exact va_Nw.use rfl (va_Nw.warmC C.2.2.1 (va_Nw.of rfl (C.1.1 _ hw)))
    · cases hg
def eN99 : String := "java/util/NoSuchElementException"
def nm99 : List String := ["java/lang/RuntimeException", "java/lang/Exception"]
def at99 : List Cond := Cond.classLink "HuntHouse" 240 eN99 :: Cond.initialized eN99 :: vx_at0 "HuntHouse" 242 eN99 nm99
def at99P : List (Nat × Nat) := [(5, 98), (1, 38), (1, 11), (5, 120), (5, 129), (5, 132), (5, 135), (5, 137), (5, 121), (5, 122), (1, 46), (1, 47), (5, 123), (5, 128), (5, 133), (5, 150), (5, 110), (5, 151), (5, 112), (5, 152), (5, 114), (5, 124), (5, 126), (5, 116), (5, 139), (5, 140), (5, 141), (5, 142), (5, 101), (5, 143), (5, 144), (5, 145), (5, 103), (5, 146), (5, 147), (5, 105), (5, 138), (5, 99), (5, 100), (5, 107), (5, 108), (5, 109), (5, 111), (5, 113), (5, 115), (5, 119), (5, 118), (5, 117)]
set_option maxRecDepth 100000 in
theorem at99_ok : (at99.all fun w => wgX w && vx_ot w && at99P.any fun q => decide (wAt q = some w)) = true := by decide +kernel
theorem at99_at {w : Cond} (h : w ∈ at99) : wgX w = true ∧ vx_ot w = true ∧ w ∈ lw_tbl := by
  have h1 := List.all_eq_true.mp at99_ok w h
  simp only [Bool.and_eq_true] at h1
  obtain ⟨q, -, hq⟩ := List.any_eq_true.mp h1.2
  exact ⟨h1.1.1, h1.1.2, wAt_in (of_decide_eq_true hq)⟩
def n99C (mi pc : Nat) (i : ClassFile.Instr) : Bool := match i with
  | .new ix => !decide (NW mi ix = some 99) || (mi == 108 && pc == 27 && ix == 240)
  | _ => true
set_option maxRecDepth 100000 in
theorem n99_all : (CDs.zipIdx.all fun x => x.1.all fun y => n99C x.2 y.1 y.2.1) = true := by decide +kernel
theorem n99_at {mi pc ix len : Nat} (h : CD mi pc = some (.new ix, len)) (hn : NW mi ix = some 99) : mi = 108 ∧ pc = 27 ∧ ix = 240 := by
  unfold CD at h
  cases hc : CDs[mi]? with
  | none => rw [hc] at h; cases h
  | some t =>
    rw [hc] at h
    have h4 : (t, mi) ∈ CDs.zipIdx := by
      rw [List.mem_zipIdx_iff_getElem?]
      exact hc
    have h5 := List.all_eq_true.mp (List.all_eq_true.mp n99_all _ h4) _ (lk_mem h)
    simp only [n99C, hn, decide_true, Bool.not_true, Bool.false_or, Bool.and_eq_true, beq_iff_eq] at h5
    exact ⟨h5.1.1, h5.1.2, h5.2⟩
section THR
variable {p : Program} {l : Launch} {e : Env} {R : Room} {s s0 : State} {m : MethodId} {args a0 : Array Value} {below : List Frame} {meth : Method} {c : Code} {H : Heap} {locs : List Loc} {cells slots : Nat}
variable {pc mi : Nat} {ls : Array Slot} {E : EP} {st : List AV} {σ : ST} {ix len : Nat}
theorem thr0 (C : CX l a0 s0 E mi p s m meth c) (hcd : CD mi pc = some (.new ix, len)) (hn : NW mi ix = some 99) (hwt : wt st ≤ 8) (hH : HS E σ H) (hz : s.heap.size ≤ H.size) (hl : ∀ q ∈ locs, AE E q.base) (hsz : ls.size = c.maxLocals) (hfr : 16 ≤ R.frames) (hlo : 640 ≤ R.locals) (hcr : cells + 1 ≤ R.cells) (hsr : slots + 6 ≤ R.slots) : HD mi pc = none ∧
    W p l e R s m args below meth c H locs cells slots (vx_MQ below (QcM E (.inr σ.2.1, sN σ (.inl (99, [])) 6)) (XcM E (.inr σ.2.1, sN σ (.inl (99, [])) 6)) args s (cells + 1) (slots + 6) (AE E)) (F0 m pc ls (st.map (rel E))) := by
  obtain ⟨rfl, rfl, rfl⟩ := n99_at hcd hn
  refine ⟨rfl, ?_⟩
  obtain ⟨-, -, -, hheap, r, m1, m2, m3, m4, m5, m6, m7, m8⟩ := id C
  have d0 := CD_dec (show CD 108 27 = some (.new 240, 3) by decide +kernel) m1
  have d3 := CD_dec (show CD 108 30 = some (.dup, 1) by decide +kernel) m1
  have d4 := CD_dec (show CD 108 31 = some (.invokespecial 242, 3) by decide +kernel) m1
  have d7 := CD_dec (show CD 108 34 = some (.athrow, 1) by decide +kernel) m1
  have hE := C.1
  obtain ⟨q1, q2, q3, q4, q5, -, -, -, q9⟩ := hE
  have hk : ∀ a : Nat, a < s0.heap.size → ¬ AE E a → s.heap[a]? = s0.heap[a]? := fun a ha _ => by
    rw [hheap.2 a (by rw [q3]; exact ha), q4]
  have hU := (q9.1.moved C.2.2.1.alike).kept hk
  have hN := (q9.2.moved C.2.2.1.alike).kept hk
  have hhd := HD_at m1
  have htab : c.exceptionTable.toList = [] := by
    rw [m8]
    unfold hdOK at hhd
    split at hhd
    · rename_i h1 h2
      rw [h1]
      rfl
    · rename_i q x h1 h2
      have h3 : lk 108 HDs = none := by decide +kernel
      rw [h3] at h2
      cases h2
    · cases hhd
  have hsum : ((st.map (rel E)).map fun v => v.category).sum ≤ 8 := by rw [wt_cat]; exact hwt
  refine vx_throw0 (own := "HuntHouse") (cls := eN99) (names := nm99) (ik := 240) (ic := 242) (A := AE E) C.2.1 m2 q5 (C.own (o := 11) (by decide +kernel)) (by decide +kernel) (by decide +kernel) (C.wordX (at99_at List.mem_cons_self).2.2 (at99_at List.mem_cons_self).1) ?_ (fun w hw => ?_) (fun w hw => (at99_at hw).2.1) hU hN (C.S hH hz hl) hsz d0 d3 d4 d7 (fun x hx => by rw [htab] at hx; cases hx) (by show 5 < R.frames; omega) (by show _ + 81 ≤ R.locals; omega) hcr hsr m6 ?_ hl (Nat.le_refl _) (Nat.le_refl _)
  · have hw : Cond.initialized eN99 ∈ at99 := List.mem_cons_of_mem _ List.mem_cons_self
    exact C.wordX (at99_at hw).2.2 (at99_at hw).1
  · have hw : w ∈ at99 := List.mem_cons_of_mem _ (List.mem_cons_of_mem _ hw)
    exact C.wordX (at99_at hw).2.2 (at99_at hw).1
  · intro t ce hA hs1 hs2 hce hcv hcl
    have hadr := hH.nxt
    refine ⟨hadr.symm, ?_, Or.inr ?_, ?_⟩
    · refine hH.new hs1 hs2 (Or.inl ⟨rfl, rfl, ce, ?_, hcv, ?_⟩)
      · rw [hadr]; exact hce
      · exact Option.some.inj (hcl.symm.trans C.KT.2.2.2)
    · show exOf (sN σ (.inl (99, [])) 6) σ.2.1 = 99
      unfold exOf sN
      simp
    · show eN99 = exN (exOf (sN σ (.inl (99, [])) 6) σ.2.1)
      have : exOf (sN σ (.inl (99, [])) 6) σ.2.1 = 99 := by
        unfold exOf sN
        simp
      rw [this]
      rfl
end THR
