/-! WHAT IS KNOWN INSIDE A METHOD -/
theorem FL_at {mi ix k tag : Nat} {cis : List Nat} (h : FL mi ix = some (k, cis, tag)) : ∃ o ci r, OWs[mi]? = some o ∧ cis = [ci] ∧ CLS[ci]? = some r ∧ k < r.2.2 ∧ ci < 99 ∧ flW o ix k r tag ∈ lw_tbl ∧ ((tag = 0 ∨ tag = 1) ∨ (tag = 2 ∧ Cond.sameField r.1 (r.2.1 k).1 (r.2.1 k).2.1 (r.2.1 k).2.2.1 ∈ lw_tbl)) := by
  obtain ⟨o, h1, h2⟩ := allT_at FL_all h
  unfold flC at h2
  split at h2
  · rename_i p ci h3 h4
    dsimp only at h4
    split at h2
    · rename_i r hr
      simp only [Bool.and_eq_true, decide_eq_true_eq, Bool.or_eq_true, beq_iff_eq] at h2
      obtain ⟨⟨⟨a1, a2⟩, a3⟩, a4⟩ := h2
      exact ⟨o, ci, r, h1, h4, hr, a1, a2, wAt_in a3, Or.inl a4⟩
    · cases h2
  · rename_i p q ci h3 h4
    dsimp only at h4
    split at h2
    · rename_i r hr
      simp only [Bool.and_eq_true, decide_eq_true_eq, beq_iff_eq] at h2
      obtain ⟨⟨⟨⟨a1, a2⟩, a3⟩, a4⟩, a5⟩ := h2
      exact ⟨o, ci, r, h1, h4, hr, a1, a2, wAt_in a3, Or.inr ⟨a4, wAt_in a5⟩⟩
    · cases h2
  · cases h2
theorem CL_in {ci : Nat} {r : vw_C} (h : CLS[ci]? = some r) : ∀ w ∈ u_ws r.1 r.2.1 r.2.2, w ∈ lw_tbl := by
  intro w hw
  have hl : ci < CPs.length := by rw [← CL_ws.2]; exact (List.getElem?_eq_some_iff.mp h).1
  have hz : (CLS.zip CPs)[ci]? = some (r, CPs[ci]) := by
    rw [List.getElem?_zip_eq_some]
    exact ⟨h, List.getElem?_eq_getElem hl⟩
  have h1 := List.all_eq_true.mp CL_ws.1 _ (List.mem_of_getElem? hz)
  unfold cwC at h1
  simp only [Bool.and_eq_true, beq_iff_eq] at h1
  obtain ⟨k, hk, hwk⟩ := List.mem_map.mp hw
  have hk' : k < (CPs[ci]).length := by rw [h1.1]; exact List.mem_range.mp hk
  have h4 : ((CPs[ci])[k], k) ∈ (CPs[ci]).zipIdx := by
    rw [List.mem_zipIdx_iff_getElem?]
    exact List.getElem?_eq_getElem hk'
  have h5 := List.all_eq_true.mp h1.2 _ h4
  rw [decide_eq_true_eq] at h5
  rw [← hwk]
  exact wAt_in h5
theorem CL_nmv {ci : Nat} {r : vw_C} (h : CLS[ci]? = some r) : ∀ a, a < r.2.2 → ∀ b, b < r.2.2 → a ≠ b → (r.2.1 a).2.1 ≠ (r.2.1 b).2.1 := CL_nm r (List.mem_of_getElem? h)
theorem CL_tyv {ci : Nat} {r : vw_C} (h : CLS[ci]? = some r) {k : Nat} (hk : k < r.2.2) : kOK (parseFieldDescriptor (r.2.1 k).2.2.1) ((FKs.getD ci []).getD k 9) = true := by
  have h4 : (r, ci) ∈ CLS.zipIdx := by
    rw [List.mem_zipIdx_iff_getElem?]
    exact h
  exact List.all_eq_true.mp (List.all_eq_true.mp CL_ty _ h4) k (List.mem_range.mpr hk)
/-- the types of a class's fields -/
def tyO (r : vw_C) (k : Nat) : FieldType := (parseFieldDescriptor (r.2.1 k).2.2.1).getD .int
theorem CL_tyo {ci : Nat} {r : vw_C} (h : CLS[ci]? = some r) : ∀ k, k < r.2.2 → parseFieldDescriptor (r.2.1 k).2.2.1 = some (tyO r k) := by
  intro k hk
  have := CL_tyv h hk
  unfold tyO
  cases e : parseFieldDescriptor (r.2.1 k).2.2.1 with
  | none => rw [e] at this; simp [kOK] at this
  | some t => rfl
theorem okF_fits {E : EP} {t : FieldType} {kd : Nat} {v : AV} (hk : kOK (some t) kd = true) (h : okF kd v = true) : narrow t (rel E v) = rel E v ∧ fits t (rel E v) = true := by
  cases t with
  | int =>
    have e : kd = 0 := by simpa [kOK] using hk
    subst e
    rcases v with x | x | x | x <;> first | exact ⟨rfl, rfl⟩ | simp [okF] at h
  | byte =>
    have e : kd = 1 := by simpa [kOK] using hk
    subst e
    rcases v with x | x | x | x <;> simp [okF] at h
  | boolean =>
    have e : kd = 2 := by simpa [kOK] using hk
    subst e
    rcases v with x | x | x | x <;> simp [okF] at h
    rcases h with rfl | rfl
    · exact ⟨show narrow .boolean (.int (i3 0)) = .int (i3 0) by decide, show fits .boolean (.int (i3 0)) = true by decide⟩
    · exact ⟨show narrow .boolean (.int (i3 1)) = .int (i3 1) by decide, show fits .boolean (.int (i3 1)) = true by decide⟩
  | long =>
    have e : kd = 3 := by simpa [kOK] using hk
    subst e
    rcases v with x | x | x | x <;> first | exact ⟨rfl, rfl⟩ | simp [okF] at h
  | object n =>
    have e : kd = 4 := by simpa [kOK] using hk
    subst e
    rcases v with x | x | x | x <;> first | exact ⟨rfl, rfl⟩ | simp [okF] at h
  | array n =>
    have e : kd = 4 := by simpa [kOK] using hk
    subst e
    rcases v with x | x | x | x <;> first | exact ⟨rfl, rfl⟩ | simp [okF] at h
  | _ => simp [kOK] at hk
/-- cells that may be written -/
def AE (E : EP) : Nat → Prop := fun q => eN E ≤ q
/-- a text that was there -/
def strOK (E : EP) (a : Nat) (t : List Nat) (U : State) (H : Heap) : Prop := ∃ v : Nat, va_O "java/lang/String" (eX E a) (AE E) U H ∧ va_OF "java/lang/String" "coder" "B" (.int 0) (eX E a) (AE E) U H ∧ va_OF "java/lang/String" "value" "[B" (.ref v) (eX E a) (AE E) U H ∧ va_T .byte v t.length (fun j => .int (i3 (t.getD j 0 : Nat))) (AE E) U H
/-- the surroundings are as told -/
def EV (l : Launch) (a0 : Array Value) (s0 : State) (E : EP) : Prop :=
  (∀ w ∈ lw_tbl, w.before a0 s0 = true) ∧ KT E s0 ∧ eN E = s0.heap.size ∧ eH E = s0.heap ∧ l.stackTraces = false ∧
  (va_X (eX E 0) (eL E) (fun j => i3 (eS E j)) s0 s0.heap ∧ eX E 0 < eN E ∧ eL E ≤ 3072 ∧ ∀ j, okI (eS E j)) ∧
  (va_Z "java/util/ArrayList" "DEFAULTCAPACITY_EMPTY_ELEMENTDATA" "[Ljava/lang/Object;" (.ref (eX E 1)) (AE E) s0 s0.heap ∧ va_T (.object "java/lang/Object") (eX E 1) 0 (fun _ => .null) (AE E) s0 s0.heap ∧ eX E 1 < eN E) ∧
  ((∀ o ix a tx, lk ix (LCs.getD o []) = some (AR a) → lk a TXs = some tx → vk_R (oN o) ix tx (eX E a) s0) ∧ (∀ a t, STR a = some t → strOK E a t s0 s0.heap) ∧ va_Z "java/lang/String" "COMPACT_STRINGS" "Z" (.int 1) (AE E) s0 s0.heap ∧ (∃ v : Value, v.isRef = true ∧ va_Z "jdk/internal/util/Preconditions" "SIOOBE_FORMATTER" "Ljava/util/function/BiFunction;" v (AE E) s0 s0.heap) ∧ ∃ mi : Nat, va_Mi "[Ljava/lang/Object;" mi s0) ∧
  (vx_Zq Bundle.tN "UNASSIGNED_STACK" Bundle.steD (AE E) s0 s0.heap ∧ vx_Zq Bundle.tN "SUPPRESSED_SENTINEL" Bundle.listD (AE E) s0 s0.heap)
/-- a frame of the method mi, entered at s -/
def CX (l : Launch) (a0 : Array Value) (s0 : State) (E : EP) (mi : Nat) (p : Program) (s : State) (m : MethodId) (meth : Method) (c : Code) : Prop :=
  EV l a0 s0 E ∧ p.tables.exec = Jvm.exec ∧ s0.WarmedH s.vm ∧ (eN E ≤ s.heap.size ∧ ∀ q, q < eN E → s.heap[q]? = (eH E)[q]?) ∧
  ∃ r : MethodName × ByteArray × Nat × Option FieldType × List (Nat × Nat × Nat × Nat), MTB[mi]? = some r ∧ c.code = r.2.1 ∧ c.maxLocals = r.2.2.1 ∧ s.vm.findClass r.1.cls = some m.cls ∧ meth.sig.returnType = r.2.2.2.1 ∧ meth.locks = false ∧ meth.name = r.1.name ∧ c.exceptionTable.toList = tableOf r.2.2.2.2
section CXS
variable {l : Launch} {a0 args : Array Value} {s0 s : State} {E : EP} {mi : Nat} {p : Program} {m : MethodId} {meth : Method} {c : Code}
theorem CX.word (C : CX l a0 s0 E mi p s m meth c) {w : Cond} (hw : w ∈ lw_tbl) (hg : goodWord w = true) : w.before args s = true := word_at C.2.2.1 (good_of_word hg) (C.1.1 w hw)
theorem CX.KT (C : CX l a0 s0 E mi p s m meth c) : KT E s := (C.1.2.1).moved C.2.2.1.alike
theorem CX.own (C : CX l a0 s0 E mi p s m meth c) {o : Nat} (ho : OWs[mi]? = some o) : s.vm.findClass (oN o) = some m.cls := by
  obtain ⟨-, -, -, -, r, h1, -, -, h4, -⟩ := C
  rw [OW_at h1 ho]
  exact h4
theorem CX.dec (C : CX l a0 s0 E mi p s m meth c) {pc len : Nat} {i : ClassFile.Instr} (h : CD mi pc = some (i, len)) : ∃ b, c.code = b ∧ decode b pc = .ok (i, len) := by
  obtain ⟨-, -, -, -, r, h1, h2, -⟩ := C
  exact ⟨r.2.1, h2, CD_dec h h1⟩
theorem CX.S (C : CX l a0 s0 E mi p s m meth c) {H : Heap} {σ : ST} {locs : List Loc} (hH : HS E σ H) (hz : s.heap.size ≤ H.size) (hl : ∀ q ∈ locs, AE E q.base) : va_S (AE E) s.heap H locs :=
  ⟨hz, fun q _ h2 => by
    have hq : q < eN E := Nat.not_le.mp h2
    rw [hH.2.2.1 q hq, C.2.2.2.1.2 q hq], hl⟩
end CXS
