/-! an array's clone -/
def clnA : Nat → String
  | 1 => "[B"
  | _ => "[I"
def clnI : Nat → Nat
  | 1 => 310
  | _ => 316
theorem cln_all : (allT MLs fun o ix e => !(e.1 == 1008) || (o == 27 && (e.2.1 == 1 && (e.2.2.2 == 5 && ((ix == 310 && e.2.2.1 == 1) || (ix == 316 && e.2.2.1 == 0)))))) = true := by decide +kernel
def clnW (ty : Nat) : List Cond := [.methodLink (oN 27) (clnI ty) ⟨clnA ty, "clone", "()Ljava/lang/Object;"⟩, .sameMethod (clnA ty) "java/lang/Object" "clone" "()Ljava/lang/Object;", .selects (clnA ty) ⟨clnA ty, "clone", "()Ljava/lang/Object;"⟩ ⟨"java/lang/Object", "clone", "()Ljava/lang/Object;"⟩, .castable (clnA ty) "java/lang/Cloneable"]
theorem cln_w0 : wAt (3, 98) = (clnW 0)[0]? ∧ wAt (3, 99) = (clnW 0)[1]? ∧ wAt (3, 102) = (clnW 0)[2]? ∧ wAt (3, 103) = (clnW 0)[3]? := by decide +kernel
theorem cln_w1 : wAt (3, 112) = (clnW 1)[0]? ∧ wAt (3, 113) = (clnW 1)[1]? ∧ wAt (3, 114) = (clnW 1)[2]? ∧ wAt (3, 115) = (clnW 1)[3]? := by decide +kernel
theorem cln_w : wAt (3, 100) = some (.native ⟨"java/lang/Object", "clone", "()Ljava/lang/Object;"⟩) ∧ wAt (3, 101) = some (.instanceMethod ⟨"java/lang/Object", "clone", "()Ljava/lang/Object;"⟩) := by decide +kernel
theorem cln_ty {ty : Nat} (h : ty < 2) : Cond.methodLink (oN 27) (clnI ty) ⟨clnA ty, "clone", "()Ljava/lang/Object;"⟩ ∈ lw_tbl ∧ Cond.sameMethod (clnA ty) "java/lang/Object" "clone" "()Ljava/lang/Object;" ∈ lw_tbl ∧ Cond.selects (clnA ty) ⟨clnA ty, "clone", "()Ljava/lang/Object;"⟩ ⟨"java/lang/Object", "clone", "()Ljava/lang/Object;"⟩ ∈ lw_tbl ∧ Cond.castable (clnA ty) "java/lang/Cloneable" ∈ lw_tbl := by
  have hh : ty = 0 ∨ ty = 1 := by omega
  rcases hh with rfl | rfl
  · exact ⟨wAt_in (cln_w0.1.trans rfl), wAt_in (cln_w0.2.1.trans rfl), wAt_in (cln_w0.2.2.1.trans rfl), wAt_in (cln_w0.2.2.2.trans rfl)⟩
  · exact ⟨wAt_in (cln_w1.1.trans rfl), wAt_in (cln_w1.2.1.trans rfl), wAt_in (cln_w1.2.2.1.trans rfl), wAt_in (cln_w1.2.2.2.trans rfl)⟩
section CLN
variable {p : Program} {l : Launch} {e : Env} {R : Room} {s s0 : State} {m : MethodId} {args a0 : Array Value} {below : List Frame} {meth : Method} {c : Code} {H : Heap} {locs : List Loc} {cells slots : Nat} {Q : State → Prop}
variable {b : ByteArray} {pc mi : Nat} {ls : Array Slot} {E : EP} {rest : List AV} {ix na rc kd : Nat} {σ : ST}
theorem b1008 (C : CX l a0 s0 E mi p s m meth c) (hb : c.code = b) (hd : decode b pc = .ok (.invokevirtual ix, 3)) (hml : ML mi ix = some (1008, na, rc, kd)) {a ty n : Nat} {f : Nat → Int} (hca : σ.1 a = .inr (.inl (ty, n, f))) (hty : ty < 2) (hrc : ty = rc) (hH : HS E σ H) (hwt : wt rest ≤ 8) (hsz : ls.size = c.maxLocals) (hfr : 17 ≤ R.frames) (hlo : 680 ≤ R.locals) (hcr : cells + 1 ≤ R.cells) (hsr : slots + n ≤ R.slots)
    (kk : ∀ H1 : Heap, HS E (sN σ (.inr (.inl (ty, n, f))) n) H1 → W p l e R s m args below meth c H1 locs (cells + 1) (slots + n) Q (F0 m (pc + 3) ls (.ref (adr E σ.2.1) :: rest.map (rel E)))) : W p l e R s m args below meth c H locs cells slots Q (F0 m pc ls (.ref (adr E a) :: rest.map (rel E))) := by
  obtain ⟨o, h1, h2⟩ := allT_at cln_all hml
  simp only [beq_self_eq_true, Bool.not_true, Bool.false_or, Bool.and_eq_true, beq_iff_eq, Bool.or_eq_true] at h2
  obtain ⟨ho, -, -, h3⟩ := h2
  rw [ho] at h1
  have hix : ix = clnI ty := by
    rcases h3 with ⟨r1, r2⟩ | ⟨r1, r2⟩
    · rw [r1, hrc, r2]; rfl
    · rw [r1, hrc, r2]; rfl
  rw [hix] at hd
  obtain ⟨w1, w2, w3, w4⟩ := cln_ty hty
  have hsum : ((rest.map (rel E)).map fun v => v.category).sum ≤ 8 := by rw [wt_cat]; exact hwt
  obtain ⟨x1, x2, x3⟩ := hH.num hca (by omega)
  obtain ⟨-, x4, x5, x6⟩ := x3
  have hnm : s.vm.findClass (clnA ty) = some (eA E ty) := by
    have h9 := TYS_RA C.KT (ty := ty) (by omega)
    have hh : ty = 0 ∨ ty = 1 := by omega
    rcases hh with rfl | rfl <;> exact h9
  obtain ⟨c0, t0', f1, f2, f3⟩ := Cond.castable_spec (va_Nw.use (A := args) rfl (va_Nw.warmC C.2.2.1 (va_Nw.of (A := a0) rfl (C.1.1 _ w4))))
  cases hnm.symm.trans f1
  have hA := (C.KT.2.1 ty (by omega)).1
  intro T hT X
  have hcellT : T.heap[adr E a]? = some (arrV (eA E ty) n (fun j => nv ty (f j))) := by rw [hT]; exact x6
  obtain ⟨-, kA, hkA, comp, hkind⟩ := State.isArrayOf_alike X.warmed.alike (hA 0 (fun _ => .null))
  obtain ⟨-, kS, hkS, compS, hkindS⟩ := hA 0 (fun _ => .null)
  have hsz1 : (arrV (eA E ty) n (fun j => nv ty (f j))).slots.size = n := arrV_size _ _ _
  obtain ⟨vm', X', st⟩ := X.cloneArray C.2.1 (C.own h1) (C.word w1 rfl) (C.word w2 rfl) (C.word (wAt_in cln_w.1) rfl) (C.word (wAt_in cln_w.2) rfl) (C.word w3 rfl) (a := adr E a) (cell := arrV (eA E ty) n (fun j => nv ty (f j))) hcellT (fun k h => by cases h) (fun h => by cases h) hnm f2 f3
    (fun i v hv => by
      have hk' : T.vm.classes[eA E ty]? = some kA := hkA
      have hi : i < n := by
        have := (Array.getElem?_eq_some_iff.mp hv).1
        rw [hsz1] at this
        exact this
      rw [arrV_read _ _ hi] at hv
      cases hv
      have h9 := fits_nv (show ty < 4 by omega) (x5 i hi)
      show T.fitsSlot (eA E ty) .none i (nv ty (f i)) = true
      simpa [State.fitsSlot, State.slotType?, hk', hkind] using h9)
    (g := F0 m pc ls (.ref (adr E a) :: rest.map (rel E))) rfl (by rw [hsz]) rfl (by rw [hb]; exact hd) (by omega) (by show 2 * 0 + _ + 14 ≤ _; omega) hcr (by rw [hsz1]; exact hsr) (hloader := Vm.clonesLoader_of_array hkS hkindS)
  have hcellE : ({ cls := (arrV (eA E ty) n (fun j => nv ty (f j))).cls, slots := (arrV (eA E ty) n (fun j => nv ty (f j))).slots } : Cell) = arrV (eA E ty) n (fun j => nv ty (f j)) := rfl
  rw [hcellE, hsz1] at X'
  obtain ⟨t, b1, b2⟩ := kk (H.push (arrV (eA E ty) n (fun j => nv ty (f j)))) (hH.new (by rw [Array.size_push]) (fun q hq => by rw [Array.getElem?_push, if_neg (Nat.ne_of_lt hq)]) ⟨by omega, x4, x5, by rw [hH.nxt, Array.getElem?_push_size]⟩) ((T.setVm vm').pushCell (arrV (eA E ty) n (fun j => nv ty (f j)))) (by rw [← hT]; rfl) X'
  refine ⟨t, st t ?_, b2⟩
  rw [hcellE, hT, ← hH.nxt]
  exact b1
end CLN
