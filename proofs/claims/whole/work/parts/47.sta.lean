/-! WHAT HOLDS AT THE LAW'S ENTRY -/
def FLT : List Cond := flatC (Jvm.Cond.and given_1 narrow_1)
/-- the texts: address; owner, entry, text, signs, place of its word, place in the start's list -/
def SQ : List (Nat × Nat × Nat × String × List Nat × (Nat × Nat) × Nat) := [(10, (6, 61, "take", [116, 97, 107, 101], (3, 188), 119)), (11, (6, 67, "all", [97, 108, 108], (3, 190), 127)), (12, (6, 69, "shift", [115, 104, 105, 102, 116], (3, 191), 134)), (13, (6, 71, "back", [98, 97, 99, 107], (3, 192), 143)), (14, (6, 73, "sort", [115, 111, 114, 116], (3, 193), 151)), (15, (6, 75, "cut", [99, 117, 116], (3, 194), 159)), (16, (6, 77, "each", [101, 97, 99, 104], (3, 195), 166)), (17, (6, 83, "of", [111, 102], (3, 203), 174)), (18, (7, 24, "or", [111, 114], (3, 72), 113)), (19, (7, 44, "and", [97, 110, 100], (3, 67), 106)), (20, (7, 46, "not", [110, 111, 116], (2, 219), 60)), (21, (7, 78, "solved", [115, 111, 108, 118, 101, 100], (3, 50), 67)), (22, (7, 80, "riddle", [114, 105, 100, 100, 108, 101], (3, 51), 77)), (23, (7, 82, "round", [114, 111, 117, 110, 100], (3, 52), 87)), (24, (7, 84, "minute", [109, 105, 110, 117, 116, 101], (3, 53), 96)), (25, (21, 226, "or", [111, 114], (7, 106), 239)), (26, (21, 241, "and", [97, 110, 100], (7, 105), 231)), (27, (21, 243, "not", [110, 111, 116], (7, 67), 180)), (28, (21, 255, "solved", [115, 111, 108, 118, 101, 100], (7, 89), 188)), (29, (21, 256, "riddle", [114, 105, 100, 100, 108, 101], (7, 90), 199)), (30, (21, 257, "round", [114, 111, 117, 110, 100], (7, 91), 210)), (31, (21, 259, "minute", [109, 105, 110, 117, 116, 101], (7, 92), 220)), (32, (21, 391, "take", [116, 97, 107, 101], (8, 64), 246)), (33, (21, 393, "all", [97, 108, 108], (8, 65), 255)), (34, (21, 395, "shift", [115, 104, 105, 102, 116], (8, 66), 263)), (35, (21, 397, "back", [98, 97, 99, 107], (8, 67), 273)), (36, (21, 399, "sort", [115, 111, 114, 116], (8, 68), 282)), (37, (21, 400, "cut", [99, 117, 116], (8, 69), 291)), (38, (21, 402, "each", [101, 97, 99, 104], (8, 70), 299)), (39, (21, 421, "of", [111, 102], (8, 75), 308))]
def tmS (o ix : Nat) : Term := .string (oN o) ix
def tmV (o ix : Nat) : Term := .field (tmS o ix) "java/lang/String" "value" "[B"
def elW (o ix : Nat) : Nat → List Nat → List Cond
  | _, [] => []
  | j, c :: r => .eq (.elem (tmV o ix) (.int (Int32.ofNat j))) (.int (Int32.ofNat c)) :: elW o ix (j + 1) r
def sqW (o ix : Nat) (t : List Nat) : List Cond := .exactly (tmS o ix) "java/lang/String" :: .eq (.field (tmS o ix) "java/lang/String" "coder" "B") (.int 0) :: .arrayOf (tmV o ix) .byte :: .eq (.length (tmV o ix)) (.int (Int32.ofNat t.length)) :: elW o ix 0 t
def sqC (x : Nat × Nat × Nat × String × List Nat × (Nat × Nat) × Nat) : Bool := decide ((FLT.drop x.2.2.2.2.2.2).take (sqW x.2.1 x.2.2.1 x.2.2.2.2.1).length = sqW x.2.1 x.2.2.1 x.2.2.2.2.1) && decide (wAt x.2.2.2.2.2.1 = some (.stringRef (oN x.2.1) x.2.2.1 x.2.2.2.1)) && decide (x.2.2.2.2.1.length < 1000)
set_option maxRecDepth 100000 in
theorem sq_all : (SQ.all sqC) = true := by decide +kernel
def lqC (o : Nat) (y : Nat × AV) : Bool := match y.2 with
  | .inr (.inr (some a)) => match lk a SQ with
    | some d => d.1 == o && d.2.1 == y.1 && decide (lk a TXs = some d.2.2.1)
    | none => false
  | _ => true
theorem lc_sq : (LCs.zipIdx.all fun x => x.1.all fun y => lqC x.2 y) = true := by decide +kernel
theorem sq_lo : (SQ.all fun x => decide (10 ≤ x.1)) = true := by decide +kernel
theorem str_sq : (STRs.all fun x => match lk x.1 SQ with
    | some d => decide (d.2.2.2.1 = x.2)
    | none => false) = true := by decide +kernel
/-- places of the classes that can be made -/
def insP : List (Nat × Nat) := [(8, 124), (7, 134), (1, 53), (3, 94), (1, 122), (1, 182), (1, 227), (1, 141), (2, 47), (1, 73), (1, 158), (1, 41), (5, 206), (7, 120), (7, 180), (5, 236), (7, 163), (7, 33), (5, 178), (6, 41), (8, 31), (5, 166)]
def insC (x : vw_C × (Nat × Nat)) : Bool := match wAt x.2 with
  | some (.instantiable c _) => c == x.1.1
  | _ => false
theorem ins_all : ((CLS.zip insP).all insC) = true ∧ CLS.length = insP.length := by decide +kernel
theorem flt_at : FLT[4]? = some (.eq (.static "java/lang/String" "COMPACT_STRINGS" "Z") (.int 1)) ∧ FLT[5]? = some (.isRef (.static "jdk/internal/util/Preconditions" "SIOOBE_FORMATTER" "Ljava/util/function/BiFunction;")) ∧ FLT[9]? = some (.isRef (.static "java/lang/Throwable" "UNASSIGNED_STACK" "[Ljava/lang/StackTraceElement;")) ∧ FLT[10]? = some (.isRef (.static "java/lang/Throwable" "SUPPRESSED_SENTINEL" "Ljava/util/List;")) ∧ FLT[12]? = some (.arrayOf (.static "java/util/ArrayList" "DEFAULTCAPACITY_EMPTY_ELEMENTDATA" "[Ljava/lang/Object;") (.object "java/lang/Object")) ∧ FLT[14]? = some (.eq (.length (.static "java/util/ArrayList" "DEFAULTCAPACITY_EMPTY_ELEMENTDATA" "[Ljava/lang/Object;")) (.int 0)) ∧ FLT[59]? = some (.isRef (.mirror "[Ljava/lang/Object;")) := by decide +kernel
theorem lays_w : Cond.laysStatic "java/lang/String" "COMPACT_STRINGS" "Z" ∈ lw_tbl ∧ Cond.laysStatic "jdk/internal/util/Preconditions" "SIOOBE_FORMATTER" "Ljava/util/function/BiFunction;" ∈ lw_tbl ∧ Cond.laysStatic "java/lang/Throwable" "UNASSIGNED_STACK" "[Ljava/lang/StackTraceElement;" ∈ lw_tbl ∧ Cond.laysStatic "java/lang/Throwable" "SUPPRESSED_SENTINEL" "Ljava/util/List;" ∈ lw_tbl ∧ Cond.laysStatic "java/util/ArrayList" "DEFAULTCAPACITY_EMPTY_ELEMENTDATA" "[Ljava/lang/Object;" ∈ lw_tbl ∧ Cond.initialized "java/util/ArrayList" ∈ lw_tbl ∧ Cond.initialized "java/util/NoSuchElementException" ∈ lw_tbl ∧ Cond.arrayOver (.array .long) ∈ lw_tbl :=
  ⟨wAt_in (q := (2, 233)) (by decide +kernel), wAt_in (q := (3, 9)) (by decide +kernel), wAt_in (q := (5, 125)) (by decide +kernel), wAt_in (q := (5, 127)) (by decide +kernel), wAt_in (q := (7, 146)) (by decide +kernel), wAt_in (q := (1, 32)) (by decide +kernel), wAt_in (q := (1, 38)) (by decide +kernel), wAt_in (q := (8, 172)) (by decide +kernel)⟩
theorem aov_w : Cond.arrayOver (.object (atN 4)) ∈ lw_tbl ∧ Cond.arrayOver (.object (atN 5)) ∈ lw_tbl ∧ Cond.arrayOver (.object (atN 6)) ∈ lw_tbl ∧ Cond.arrayOver (.object (atN 7)) ∈ lw_tbl ∧ Cond.arrayOver (.object (atN 8)) ∈ lw_tbl ∧ Cond.arrayOver (.object (atN 9)) ∈ lw_tbl ∧ Cond.arrayOver (.object (atN 10)) ∈ lw_tbl :=
  ⟨wAt_in (q := (1, 49)) (by decide +kernel), wAt_in (q := (1, 51)) (by decide +kernel), wAt_in (q := (1, 188)) (by decide +kernel), wAt_in (q := (5, 172)) (by decide +kernel), wAt_in (q := (5, 174)) (by decide +kernel), wAt_in (q := (5, 176)) (by decide +kernel), wAt_in (q := (8, 22)) (by decide +kernel)⟩
section STA
variable {s : State} {A0 : Array Value} {A : Nat → Prop}
theorem eq_int {x : Term} {z : Int32} (h : (Cond.eq x (.int z)).before A0 s = true) : x.eval A0 s none [] s = some (.int z) := by
  simp only [Cond.before, Cond.holds, Cond.value, Term.eval] at h
  cases hx : x.eval A0 s none [] s with
  | none => rw [hx] at h; simp at h
  | some v =>
    rw [hx] at h
    cases v <;> simp at h
    rw [h]
theorem el_at {o ix : Nat} : ∀ (t : List Nat) (j k : Nat), k < t.length → Cond.eq (.elem (tmV o ix) (.int (Int32.ofNat (j + k)))) (.int (Int32.ofNat (t.getD k 0))) ∈ elW o ix j t
  | [], _, _, h => by simp at h
  | c :: r, j, 0, _ => List.mem_cons_self
  | c :: r, j, k + 1, h => by
    have := el_at (o := o) (ix := ix) r (j + 1) k (by simpa using h)
    rw [show j + (k + 1) = j + 1 + k by omega]
    exact List.mem_cons_of_mem _ this
/-- a text at the start -/
theorem sq_at (hts : ∀ w ∈ lw_tbl, w.before A0 s = true) (hfl : ∀ w ∈ FLT, w.before A0 s = true) (hA : ∀ a : Nat, a < s.heap.size → ¬ A a) {x : Nat × Nat × Nat × String × List Nat × (Nat × Nat) × Nat} (hx : x ∈ SQ) : ∃ t : Nat, vk_R (oN x.2.1) x.2.2.1 x.2.2.2.1 t s ∧ ∃ v : Nat, va_O "java/lang/String" t A s s.heap ∧ va_OF "java/lang/String" "coder" "B" (.int 0) t A s s.heap ∧ va_OF "java/lang/String" "value" "[B" (.ref v) t A s s.heap ∧ va_T .byte v x.2.2.2.2.1.length (fun j => .int (i3 (x.2.2.2.2.1.getD j 0 : Nat))) A s s.heap := by
  have h := List.all_eq_true.mp sq_all x hx
  unfold sqC at h
  simp only [Bool.and_eq_true, decide_eq_true_eq] at h
  obtain ⟨⟨h1, h2⟩, h3⟩ := h
  have hw : ∀ w ∈ sqW x.2.1 x.2.2.1 x.2.2.2.2.1, w.before A0 s = true := fun w hw => by
    rw [← h1] at hw
    exact hfl w (List.mem_of_mem_drop (List.mem_of_mem_take hw))
  have w1 : (Cond.exactly (tmS x.2.1 x.2.2.1) "java/lang/String").before A0 s = true := hw _ List.mem_cons_self
  have w2 := eq_int (hw _ (List.mem_cons_of_mem _ List.mem_cons_self))
  have w3 : (Cond.arrayOf (tmV x.2.1 x.2.2.1) .byte).before A0 s = true := hw _ (List.mem_cons_of_mem _ (List.mem_cons_of_mem _ List.mem_cons_self))
  have w4 := eq_int (hw _ (List.mem_cons_of_mem _ (List.mem_cons_of_mem _ (List.mem_cons_of_mem _ List.mem_cons_self))))
  obtain ⟨t, c, cell, k, e1, -⟩ := Cond.exactly_spec w1
  obtain ⟨v, e2, e3⟩ := va_Tof (A := A) (f := fun j => .int (i3 (x.2.2.2.2.1.getD j 0 : Nat))) (N := x.2.2.2.2.1.length) (by omega) w3 w4 (fun j hj => by
    have := eq_int (hw _ (List.mem_cons_of_mem _ (List.mem_cons_of_mem _ (List.mem_cons_of_mem _ (List.mem_cons_of_mem _ (el_at _ 0 j hj))))))
    rw [Nat.zero_add] at this
    exact this) hA
  exact ⟨t, vk_R.of (A := A0) (hts _ (wAt_in h2)) e1, v, va_Oof w1 e1 hA, vk_OFof e1 w2 hA, vk_OFof e1 e2 hA, e3⟩
theorem str_ex (hts : ∀ w ∈ lw_tbl, w.before A0 s = true) (hfl : ∀ w ∈ FLT, w.before A0 s = true) (hA : ∀ a : Nat, a < s.heap.size → ¬ A a) : ∃ f : Nat → Nat, ∀ a d, lk a SQ = some d → (vk_R (oN d.1) d.2.1 d.2.2.1 (f a) s ∧ ∃ v : Nat, va_O "java/lang/String" (f a) A s s.heap ∧ va_OF "java/lang/String" "coder" "B" (.int 0) (f a) A s s.heap ∧ va_OF "java/lang/String" "value" "[B" (.ref v) (f a) A s s.heap ∧ va_T .byte v d.2.2.2.1.length (fun j => .int (i3 (d.2.2.2.1.getD j 0 : Nat))) A s s.heap) := by
  refine Classical.axiomOfChoice (r := fun a t => ∀ d, lk a SQ = some d → (vk_R (oN d.1) d.2.1 d.2.2.1 t s ∧ ∃ v : Nat, va_O "java/lang/String" t A s s.heap ∧ va_OF "java/lang/String" "coder" "B" (.int 0) t A s s.heap ∧ va_OF "java/lang/String" "value" "[B" (.ref v) t A s s.heap ∧ va_T .byte v d.2.2.2.1.length (fun j => .int (i3 (d.2.2.2.1.getD j 0 : Nat))) A s s.heap)) fun a => ?_
  cases h : lk a SQ with
  | none => exact ⟨0, fun d hd => nomatch hd⟩
  | some d =>
    obtain ⟨t, h1⟩ := sq_at hts hfl hA (lk_mem (l := SQ) h)
    exact ⟨t, fun d' hd => by cases hd; exact h1⟩
theorem cls_ex (hts : ∀ w ∈ lw_tbl, w.before A0 s = true) : ∃ f : Nat → ClassId × (Nat → Nat), ∀ (c : Nat) (q : vw_C), CLS[c]? = some q → u_Kn s q.1 q.2.1 q.2.2 (f c).1 (f c).2 := by
  refine Classical.axiomOfChoice (r := fun (c : Nat) (x : ClassId × (Nat → Nat)) => ∀ q : vw_C, CLS[c]? = some q → u_Kn s q.1 q.2.1 q.2.2 x.1 x.2) fun c => ?_
  cases h : CLS[c]? with
  | none => exact ⟨(0, fun _ => 0), fun q hq => nomatch hq⟩
  | some q =>
    have hl : c < insP.length := by rw [← ins_all.2]; exact (List.getElem?_eq_some_iff.mp h).1
    have hz : (CLS.zip insP)[c]? = some (q, insP[c]) := by
      rw [List.getElem?_zip_eq_some]
      exact ⟨h, List.getElem?_eq_getElem hl⟩
    have h1 := List.all_eq_true.mp ins_all.1 _ (List.mem_of_getElem? hz)
    unfold insC at h1
    split at h1
    · rename_i c1 n hw
      have hi := hts _ (wAt_in hw)
      rw [eq_of_beq h1] at hi
      obtain ⟨cC, iS, hk⟩ := u_known hts (CL_in h) hi
      exact ⟨(cC, iS), fun q' hq => by cases hq; exact hk⟩
    · cases h1
theorem arr_p (hts : ∀ w ∈ lw_tbl, w.before A0 s = true) {ty : Nat} (h : ty < 4) : ∃ cA, ArrOfT s cA (TYS ty) ∧ va_RA s cA (TYS ty) := by
  obtain ⟨c, k, comp, h1, h2, h3⟩ := Cond.arrayClass_spec (hts _ (acs_at h))
  refine ⟨c, fun n z => ⟨(fun _ h => nomatch h), k, h2, comp, h3⟩, ?_⟩
  have hh : ty = 0 ∨ ty = 1 ∨ ty = 2 ∨ ty = 3 := by omega
  rcases hh with rfl | rfl | rfl | rfl <;> exact h1
theorem arr_o (hts : ∀ w ∈ lw_tbl, w.before A0 s = true) {ty : Nat} (h4 : 4 ≤ ty) (h : ty < 11) : ∃ cA, ArrOfT s cA (TYS ty) ∧ va_RA s cA (TYS ty) := by
  have hw : Cond.arrayOver (.object (atN ty)) ∈ lw_tbl := by
    obtain ⟨a4, a5, a6, a7, a8, a9, a10⟩ := aov_w
    have hh : ty = 4 ∨ ty = 5 ∨ ty = 6 ∨ ty = 7 ∨ ty = 8 ∨ ty = 9 ∨ ty = 10 := by omega
    rcases hh with rfl | rfl | rfl | rfl | rfl | rfl | rfl <;> assumption
  obtain ⟨comp, c, k, h1, h2, h3, h4', h5⟩ := Cond.arrayOver_spec (hts _ hw)
  rw [TYS_obj h4 h]
  exact ⟨c, fun n z => ⟨(fun _ h => nomatch h), k, h3, comp, h4'⟩, k, comp, h3, h4', h1, h5⟩
theorem arr_ex (hts : ∀ w ∈ lw_tbl, w.before A0 s = true) : ∃ f : Nat → ClassId, (∀ i, i < 12 → ArrOfT s (f i) (TYS i) ∧ va_RA s (f i) (TYS i)) ∧ (∃ kA : Class, s.vm.classes[f 11]? = some kA ∧ kA.kind = .array (f 3) (.array .long)) ∧ s.vm.findClass "java/util/NoSuchElementException" = some (f 12) := by
  have h0 : ∃ f : Nat → ClassId, ∀ i, i < 11 → ArrOfT s (f i) (TYS i) ∧ va_RA s (f i) (TYS i) := Classical.axiomOfChoice (r := fun i x => i < 11 → ArrOfT s x (TYS i) ∧ va_RA s x (TYS i)) fun i => by
    by_cases h : i < 4
    · obtain ⟨c, hc⟩ := arr_p hts h
      exact ⟨c, fun _ => hc⟩
    · by_cases h1 : i < 11
      · obtain ⟨c, hc⟩ := arr_o hts (by omega) h1
        exact ⟨c, fun _ => hc⟩
      · exact ⟨0, fun h => absurd h h1⟩
  obtain ⟨f, hf⟩ := h0
  obtain ⟨comp, c, k, h1, h2, h3, h4, h5⟩ := arrayOver_specB (hts _ lays_w.2.2.2.2.2.2.2)
  obtain ⟨cN, hN⟩ : ∃ cN, s.vm.findClass "java/util/NoSuchElementException" = some cN := by
    have := hts _ lays_w.2.2.2.2.2.2.1
    simp only [Cond.before, Cond.holds, Cond.value] at this
    cases hc : s.vm.findClass "java/util/NoSuchElementException" with
    | none => rw [hc] at this; simp at this
    | some c => exact ⟨c, rfl⟩
  have e3 : comp = f 3 := by
    have h9 : s.vm.findClass ("[" ++ (TYS 3).toString) = some (f 3) := (hf 3 (by omega)).2
    exact Option.some.inj (h1.symm.trans h9)
  refine ⟨fun i => if i = 11 then c else if i = 12 then cN else f i, fun i hi => ?_, ⟨k, h3, ?_⟩, hN⟩
  · by_cases e : i = 11
    · subst e
      exact ⟨fun n z => ⟨(fun _ h => nomatch h), k, h3, comp, h4⟩, h5⟩
    · show ArrOfT s (if i = 11 then c else if i = 12 then cN else f i) _ ∧ va_RA s (if i = 11 then c else if i = 12 then cN else f i) _
      rw [if_neg e, if_neg (by omega)]
      exact hf i (by omega)
  · rw [h4, e3]
    rfl
theorem i3_self (x : Int32) : i3 x.toInt = x := Int32.ofInt_toInt x
theorem okI_self (x : Int32) : okI x.toInt := by
  have h1 := Int32.le_toInt x
  have h2 := Int32.toInt_lt x
  unfold okI
  omega
/-- the surroundings at the entry -/
theorem ev_at {l : Launch} {b L : Nat} {xs : Nat → Int32} (hl : l.stackTraces = false) (hL : L ≤ 3072) (hts : ∀ w ∈ lw_tbl, w.before A0 s = true) (hX : va_X b L xs s s.heap) (hb : b < s.heap.size) (hg : (Jvm.Cond.and given_1 narrow_1).before A0 s = true) : ∃ E : EP, EV l A0 s E ∧ eX E 0 = b ∧ eL E = L ∧ (∀ j, eS E j = (xs j).toInt) := by
  have hfl : ∀ w ∈ FLT, w.before A0 s = true := flat_of_before _ hg
  have hA : ∀ a : Nat, a < s.heap.size → ¬ s.heap.size ≤ a := fun a h => Nat.not_le.mpr h
  obtain ⟨fS, hS⟩ := str_ex (A := fun q => s.heap.size ≤ q) hts hfl hA
  obtain ⟨fC, hC⟩ := cls_ex hts
  obtain ⟨fA, hA1, hA2, hA3⟩ := arr_ex hts
  obtain ⟨p1, p2, p3, p4, p5, p6, p7⟩ := flt_at
  obtain ⟨q1, q2, q3, q4, q5, q6, -, -⟩ := lays_w
  have hF : ∀ {i : Nat} {w : Cond}, FLT[i]? = some w → w.before A0 s = true := fun h => hfl _ (List.mem_of_getElem? h)
  obtain ⟨t1, e1, hT⟩ := va_Tof (A := fun q => s.heap.size ≤ q) (f := fun _ => Value.null) (N := 0) (by decide) (hF p5) (eq_int (hF p6)) (fun j hj => absurd hj (Nat.not_lt_zero j)) hA
  obtain ⟨vS, eS1, eS2⟩ := Cond.isRef_spec (hF p2)
  obtain ⟨mr, hmr⟩ := va_Mi.of (hF p7)
  have ht1 : t1 < s.heap.size := by
    obtain ⟨cell, z1, -⟩ := hT
    exact (Array.getElem?_eq_some_iff.mp z1).1
  let E : EP := (s.heap.size, (fun a => if a = 0 then b else if a = 1 then t1 else fS a), (fun c => (fC c).1, fun c => (fC c).2), fA, s.heap, L, fun j => (xs j).toInt)
  have hlo : ∀ a, 10 ≤ a → eX E a = fS a := fun a h => by
    show (if a = 0 then b else if a = 1 then t1 else fS a) = fS a
    rw [if_neg (by omega), if_neg (by omega)]
  have h10 : ∀ a d, lk a SQ = some d → 10 ≤ a := fun a d h => by
    have := List.all_eq_true.mp sq_lo _ (lk_mem (l := SQ) h)
    simpa using this
  refine ⟨E, ⟨hts, ⟨fun c q hq => hC c q hq, hA1, hA2, hA3⟩, rfl, rfl, hl, ⟨?_, hb, hL, fun j => okI_self _⟩, ⟨va_Zof (hts _ q5) (hts _ q6) e1 hA, hT, ht1⟩, ⟨fun o ix a tx h1 h2 => ?_, fun a t h => ?_, va_Zof (hts _ q1) (hts _ w_ini1) (eq_int (hF p1)) hA, ⟨vS, eS2, va_Zof (hts _ q2) (hts _ w_ini3) eS1 hA⟩, mr, hmr⟩, vx_Zqof (hts _ q3) (hts _ w_thr4) (hF p3) hA, vx_Zqof (hts _ q4) (hts _ w_thr4) (hF p4) hA⟩, rfl, rfl, fun j => rfl⟩
  · have e9 : (fun j => i3 ((xs j).toInt)) = xs := funext fun j => i3_self _
    show va_X b L (fun j => i3 ((xs j).toInt)) s s.heap
    rw [e9]
    exact hX
  · have hm := lk_mem h1
    have ho : (LCs.getD o [], o) ∈ LCs.zipIdx := by
      rw [List.mem_zipIdx_iff_getElem?]
      rw [List.getD_eq_getElem?_getD] at hm ⊢
      cases hc : LCs[o]? with
      | none => rw [hc] at hm; cases hm
      | some q => rfl
    have h9 := List.all_eq_true.mp (List.all_eq_true.mp lc_sq _ ho) _ hm
    unfold lqC at h9
    dsimp only [AR] at h9
    split at h9
    · rename_i d hd
      simp only [Bool.and_eq_true, beq_iff_eq, decide_eq_true_eq] at h9
      obtain ⟨⟨r1, r2⟩, r3⟩ := h9
      have hv := (hS a d hd).1
      rw [r1, r2, Option.some.inj (r3.symm.trans h2)] at hv
      rw [hlo a (h10 a d hd)]
      exact hv
    · cases h9
  · have h9 := List.all_eq_true.mp str_sq _ (lk_mem (l := STRs) h)
    dsimp only at h9
    split at h9
    · rename_i d hd
      rw [decide_eq_true_eq] at h9
      obtain ⟨-, v, z1, z2, z3, z4⟩ := hS a d hd
      rw [h9] at z4
      refine ⟨v, ?_⟩
      rw [hlo a (h10 a d hd)]
      exact ⟨z1, z2, z3, z4⟩
    · cases h9
end STA
