/-! BUILT-IN METHODS: Object's constructor, Math.min, Math.max -/
def bltN (cm : Nat) : MethodName := if cm = 1000 then Lib.objectInit else if cm = 1001 then Lib.Math.min.name else Lib.Math.max.name
/-- places of the links: the owner, the entry, the place -/
def bltP : List (Nat × Nat × Nat × Nat) := [(0, 3, 1, 57), (1, 1, 3, 120), (3, 5, 1, 126), (3, 61, 4, 63), (4, 3, 1, 186), (4, 47, 2, 194), (5, 3, 1, 231), (6, 3, 1, 145), (6, 111, 4, 115), (8, 3, 2, 51), (9, 3, 1, 77), (9, 47, 2, 164), (10, 3, 1, 162), (10, 54, 5, 40), (11, 1, 1, 45), (12, 1, 5, 210), (13, 1, 7, 124), (14, 1, 7, 184), (15, 3, 6, 0), (16, 1, 7, 167), (17, 1, 7, 37), (19, 3, 6, 45), (19, 40, 9, 33), (20, 1, 8, 35), (21, 13, 5, 170), (21, 378, 8, 188), (23, 1, 7, 144), (25, 7, 8, 128), (26, 79, 8, 24), (27, 304, 3, 105), (28, 194, 7, 221)]
def bltC (o ix : Nat) (e : Nat × Nat × Nat × Nat) : Bool := (!(e.1 == 1000 || e.1 == 1001 || e.1 == 1002)) || (e.2.1 == (if e.1 = 1000 then 1 else 2) && e.2.2.2 == (if e.1 = 1000 then 1 else 0) && bltP.any fun y => y.1 == o && y.2.1 == ix && decide (wAt y.2.2 = some (.methodLink (oN o) ix (bltN e.1))))
set_option maxRecDepth 100000 in
theorem blt_all : allT MLs bltC = true := by decide +kernel
theorem blt_at {mi ix cm na rc kd : Nat} (h : ML mi ix = some (cm, na, rc, kd)) (hc : cm = 1000 ∨ cm = 1001 ∨ cm = 1002) : ∃ o, OWs[mi]? = some o ∧ na = (if cm = 1000 then 1 else 2) ∧ kd = (if cm = 1000 then 1 else 0) ∧ Cond.methodLink (oN o) ix (bltN cm) ∈ lw_tbl := by
  obtain ⟨o, h1, h2⟩ := allT_at blt_all h
  refine ⟨o, h1, ?_⟩
  unfold bltC at h2
  have e0 : (cm == 1000 || cm == 1001 || cm == 1002) = true := by
    rcases hc with rfl | rfl | rfl <;> rfl
  simp only [e0, Bool.not_true, Bool.false_or, Bool.and_eq_true, beq_iff_eq] at h2
  obtain ⟨y, -, hy⟩ := List.any_eq_true.mp h2.2
  simp only [Bool.and_eq_true, decide_eq_true_eq] at hy
  exact ⟨h2.1.1, h2.1.2, wAt_in hy.2⟩
theorem blt_w : wAt (1, 46) = some (.instanceMethod Lib.objectInit) ∧ wAt (1, 47) = some (.code Lib.objectInit ⟨#[0xb1]⟩ 1 none) ∧ wAt (1, 18) = some (.initialized "java/lang/Math") ∧ wAt (2, 165) = some (.static Lib.Math.min.name) ∧ wAt (2, 166) = some (.code Lib.Math.min.name Lib.Math.min.code 2 (some .int)) ∧ wAt (7, 222) = some (.static Lib.Math.max.name) ∧ wAt (7, 223) = some (.code Lib.Math.max.name Lib.Math.max.code 2 (some .int)) := by decide +kernel
section BLT
variable {p : Program} {l : Launch} {e : Env} {R : Room} {s s0 : State} {m : MethodId} {args a0 : Array Value} {below : List Frame} {meth : Method} {c : Code} {H : Heap} {locs : List Loc} {cells slots : Nat} {Q : State → Prop}
variable {b : ByteArray} {pc mi : Nat} {ls : Array Slot} {E : EP} {rest : List AV} {ix na rc kd : Nat}
theorem b1000 (C : CX l a0 s0 E mi p s m meth c) (hb : c.code = b) (hd : decode b pc = .ok (.invokespecial ix, 3)) (hml : ML mi ix = some (1000, na, rc, kd)) {a : Nat} (hwt : wt rest ≤ 8) (hsz : ls.size = c.maxLocals) (hfr : 17 ≤ R.frames) (hlo : 680 ≤ R.locals)
    (kk : W p l e R s m args below meth c H locs cells slots Q (F0 m (pc + 3) ls (rest.map (rel E)))) : W p l e R s m args below meth c H locs cells slots Q (F0 m pc ls (.ref (adr E a) :: rest.map (rel E))) := by
  obtain ⟨o, h1, -, -, w1⟩ := blt_at hml (Or.inl rfl)
  have hsum : ((rest.map (rel E)).map fun v => v.category).sum ≤ 8 := by rw [wt_cat]; exact hwt
  exact W.objInit (g := F0 m pc ls (.ref (adr E a) :: rest.map (rel E))) C.2.1 hb (C.own h1) (C.word w1 rfl) (C.word (wAt_in blt_w.1) rfl) (C.word (wAt_in blt_w.2.1) rfl) rfl hsz rfl hd (by omega) (by show 2 * 0 + _ + 12 ≤ _; omega) kk
theorem b1001 (C : CX l a0 s0 E mi p s m meth c) (hb : c.code = b) (hd : decode b pc = .ok (.invokestatic ix, 3)) (hml : ML mi ix = some (1001, na, rc, kd)) {x y : Int} (hx : okI x) (hy : okI y) (hwt : wt rest ≤ 8) (hsz : ls.size = c.maxLocals) (hfr : 17 ≤ R.frames) (hlo : 680 ≤ R.locals) (hcr : cells ≤ R.cells) (hsr : slots ≤ R.slots)
    (kk : W p l e R s m args below meth c H locs cells slots Q (F0 m (pc + 3) ls (.int (i3 (if y < x then y else x)) :: rest.map (rel E)))) : W p l e R s m args below meth c H locs cells slots Q (F0 m pc ls (.int (i3 y) :: .int (i3 x) :: rest.map (rel E))) := by
  obtain ⟨o, h1, -, -, w1⟩ := blt_at hml (Or.inr (Or.inl rfl))
  have hsum : ((rest.map (rel E)).map fun v => v.category).sum ≤ 8 := by rw [wt_cat]; exact hwt
  refine va_mmin C.2.1 hb hsz.symm (C.own h1) (C.word w1 rfl) (C.word (wAt_in blt_w.2.2.2.1) rfl) (C.word (wAt_in blt_w.2.2.1) rfl) (C.word (wAt_in blt_w.2.2.2.2.1) rfl) (by omega) (by omega) hcr hsr hd ?_
  have e1 : (if i3 y < i3 x then i3 y else i3 x) = i3 (if y < x then y else x) := by
    by_cases h : y < x
    · rw [if_pos h, if_pos ((i3_lt hy hx).mpr h)]
    · rw [if_neg h, if_neg (fun z => h ((i3_lt hy hx).mp z))]
  rw [e1]
  exact kk
theorem b1002 (C : CX l a0 s0 E mi p s m meth c) (hb : c.code = b) (hd : decode b pc = .ok (.invokestatic ix, 3)) (hml : ML mi ix = some (1002, na, rc, kd)) {x y : Int} (hx : okI x) (hy : okI y) (hwt : wt rest ≤ 8) (hsz : ls.size = c.maxLocals) (hfr : 17 ≤ R.frames) (hlo : 680 ≤ R.locals) (hcr : cells ≤ R.cells) (hsr : slots ≤ R.slots)
    (kk : W p l e R s m args below meth c H locs cells slots Q (F0 m (pc + 3) ls (.int (i3 (if x < y then y else x)) :: rest.map (rel E)))) : W p l e R s m args below meth c H locs cells slots Q (F0 m pc ls (.int (i3 y) :: .int (i3 x) :: rest.map (rel E))) := by
  obtain ⟨o, h1, -, -, w1⟩ := blt_at hml (Or.inr (Or.inr rfl))
  have hsum : ((rest.map (rel E)).map fun v => v.category).sum ≤ 8 := by rw [wt_cat]; exact hwt
  refine va_mmax C.2.1 hb hsz.symm (C.own h1) (C.word w1 rfl) (C.word (wAt_in blt_w.2.2.2.2.2.1) rfl) (C.word (wAt_in blt_w.2.2.1) rfl) (C.word (wAt_in blt_w.2.2.2.2.2.2) rfl) (by omega) (by omega) hcr hsr hd ?_
  have e1 : (if i3 x < i3 y then i3 y else i3 x) = i3 (if x < y then y else x) := by
    by_cases h : x < y
    · rw [if_pos h, if_pos ((i3_lt hx hy).mpr h)]
    · rw [if_neg h, if_neg (fun z => h ((i3_lt hx hy).mp z))]
  rw [e1]
  exact kk
end BLT
