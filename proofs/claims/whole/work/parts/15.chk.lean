/-! THE TABLES' ENTRIES MEAN WHAT tables_1 SAYS: checks by the kernel -/
theorem LKo_at {α : Type} {t : List (List (Nat × α))} {mi ix : Nat} {e : α} (h : LKo t mi ix = some e) : ∃ o q, OWs[mi]? = some o ∧ t[o]? = some q ∧ (ix, e) ∈ q := by
  unfold LKo at h
  cases e1 : OWs[mi]? with
  | none => rw [e1] at h; cases h
  | some o =>
    rw [e1] at h
    cases e2 : t[o]? with
    | none =>
      have h' : (t[o]?).bind (lk ix) = some e := h
      rw [e2] at h'; cases h'
    | some q =>
      have h' : (t[o]?).bind (lk ix) = some e := h
      rw [e2] at h'
      exact ⟨o, q, rfl, e2, lk_mem h'⟩
def allT {α : Type} (t : List (List (Nat × α))) (f : Nat → Nat → α → Bool) : Bool := t.zipIdx.all fun x => x.1.all fun y => f x.2 y.1 y.2
theorem allT_at {α : Type} {t : List (List (Nat × α))} {f : Nat → Nat → α → Bool} (h : allT t f = true) {mi ix : Nat} {e : α} (he : LKo t mi ix = some e) : ∃ o, OWs[mi]? = some o ∧ f o ix e = true := by
  obtain ⟨o, q, h1, h2, h3⟩ := LKo_at he
  have h4 : (q, o) ∈ t.zipIdx := by
    rw [List.mem_zipIdx_iff_getElem?]
    exact h2
  exact ⟨o, h1, List.all_eq_true.mp (List.all_eq_true.mp h _ h4) _ h3⟩
def oN (o : Nat) : String := OWNS.getD o ""
set_option maxRecDepth 100000 in
theorem OW_all : (MTB.zipIdx.all fun x => decide (OWs[x.2]? = some (OWs.getD x.2 0)) && decide (oN (OWs.getD x.2 0) = x.1.1.cls) && decide (x.1.2.2.1 = MX x.2)) = true := by decide +kernel
theorem OW_at {mi o : Nat} {r : MethodName × ByteArray × Nat × Option FieldType × List (Nat × Nat × Nat × Nat)} (h : MTB[mi]? = some r) (ho : OWs[mi]? = some o) : oN o = r.1.cls := by
  have h4 : (r, mi) ∈ MTB.zipIdx := by
    rw [List.mem_zipIdx_iff_getElem?]
    exact h
  have h5 := List.all_eq_true.mp OW_all _ h4
  simp only [Bool.and_eq_true, decide_eq_true_eq] at h5
  have e := h5.1.1
  rw [ho] at e
  rw [Option.some.inj e]
  exact h5.1.2
theorem MX_at {mi : Nat} {r : MethodName × ByteArray × Nat × Option FieldType × List (Nat × Nat × Nat × Nat)} (h : MTB[mi]? = some r) : r.2.2.1 = MX mi := by
  have h4 : (r, mi) ∈ MTB.zipIdx := by
    rw [List.mem_zipIdx_iff_getElem?]
    exact h
  have h5 := List.all_eq_true.mp OW_all _ h4
  simp only [Bool.and_eq_true, decide_eq_true_eq] at h5
  exact h5.2
/-- a field's link: plain, of a nest mate, spelled by the subclass -/
def flW (o ix k : Nat) (r : vw_C) (tag : Nat) : Cond := match tag with
  | 0 => .fieldLink (oN o) ix (r.2.1 k).1 (r.2.1 k).2.1 (r.2.1 k).2.2.1
  | 1 => .fieldLinkNest (oN o) ix (r.2.1 k).1 (r.2.1 k).2.1 (r.2.1 k).2.2.1 (HOST o)
  | _ => .fieldLink (oN o) ix r.1 (r.2.1 k).2.1 (r.2.1 k).2.2.1
theorem lw_mem {w : Cond} (h : w ∈ tables_1) : w ∈ lw_tbl := List.mem_append_right _ h
theorem SEG_in : ∀ (j : Nat) (w : Cond), w ∈ SEG j → w ∈ lw_tbl := by
  intro j w h
  unfold SEG at h
  split at h
  · exact List.mem_append_left _ h
  all_goals (apply lw_mem; unfold tables_1; simp only [List.mem_append]; simp [h])
theorem wAt_in {q : Nat × Nat} {w : Cond} (h : wAt q = some w) : w ∈ lw_tbl := SEG_in q.1 w (List.mem_of_getElem? h)
def flC (o ix : Nat) (e : Nat × List Nat × Nat) : Bool := match lk ix (FPs.getD o []), e.2.1 with
  | some [p], [ci] => match CLS[ci]? with
    | some r => decide (e.1 < r.2.2) && decide (ci < 99) && decide (wAt p = some (flW o ix e.1 r e.2.2)) && (e.2.2 == 0 || e.2.2 == 1)
    | none => false
  | some [p, q], [ci] => match CLS[ci]? with
    | some r => decide (e.1 < r.2.2) && decide (ci < 99) && decide (wAt p = some (flW o ix e.1 r e.2.2)) && e.2.2 == 2 && decide (wAt q = some (.sameField r.1 (r.2.1 e.1).1 (r.2.1 e.1).2.1 (r.2.1 e.1).2.2.1))
    | none => false
  | _, _ => false
set_option maxRecDepth 100000 in
theorem FL_all : allT FLs flC = true := by decide +kernel
/-- classes: their fields' words stand in the tables, their names differ, their kinds are as told -/
def kOK (t : Option FieldType) (k : Nat) : Bool := match t with
  | some .int => k == 0
  | some .byte => k == 1
  | some .boolean => k == 2
  | some .long => k == 3
  | some (.object _) => k == 4
  | some (.array _) => k == 4
  | _ => false
def cwC (r : vw_C) (ps : List (Nat × Nat)) : Bool := (ps.length == r.2.2) && (ps.zipIdx.all fun x => decide (wAt x.1 = some (u_lay r.1 r.2.1 x.2)))
set_option maxRecDepth 100000 in
theorem CL_ws : (CLS.zip CPs).all (fun x => cwC x.1 x.2) = true ∧ CLS.length = CPs.length := by decide +kernel
set_option maxRecDepth 100000 in
theorem CL_nm : ∀ r ∈ CLS, ∀ a, a < r.2.2 → ∀ b, b < r.2.2 → a ≠ b → (r.2.1 a).2.1 ≠ (r.2.1 b).2.1 := by decide +kernel
set_option maxRecDepth 100000 in
theorem CL_ty : (CLS.zipIdx.all fun x => (List.range x.1.2.2).all fun k => kOK (parseFieldDescriptor (x.1.2.1 k).2.2.1) ((FKs.getD x.2 []).getD k 9)) = true := by decide +kernel
/-- what a new object holds -/
def dfK (k : Nat) : AV := if k = 3 then AL 0 else if k = 4 then AN else AI 0
def nwC (o ix ci : Nat) : Bool := ci == 99 || match lk ix (NPs.getD o []), CLS[ci]? with
  | some [p, q, t], some r => decide (wAt p = some (.classLink (oN o) ix r.1)) && decide (wAt q = some (.instantiable r.1 r.2.2)) && decide (wAt t = some (.initialized r.1)) && decide (ci < 99) && decide ((DFs.getD ci []) = (FKs.getD ci []).map dfK) && decide ((DFs.getD ci []).length = r.2.2) && decide (DFs[ci]? = some (DFs.getD ci []))
  | _, _ => false
set_option maxRecDepth 100000 in
theorem NW_all : allT NWs nwC = true := by decide +kernel
def atN (ty : Nat) : String := match ty with
  | 4 => "HuntHouse$Riddle"
  | 5 => "HuntHouse$Team"
  | 6 => "HuntHouse$Code"
  | 7 => "HuntHouseModel$Riddle"
  | 8 => "HuntHouseModel$Team"
  | 9 => "HuntHouseModel$Act"
  | _ => "java/lang/Object"
def atC (o ix ty : Nat) : Bool := match lk ix (APs.getD o []) with
  | some [p, q] => decide (4 ≤ ty ∧ ty < 11) && decide (wAt p = some (.classLink (oN o) ix (atN ty))) && decide (wAt q = some (.arrayOver (.object (atN ty))))
  | _ => false
set_option maxRecDepth 100000 in
theorem AT_all : allT ATs atC = true := by decide +kernel
def lcC (o ix : Nat) (v : AV) : Bool := match lk ix (LPs.getD o []), v with
  | some [p], .inl x => decide (wAt p = some (.constant (oN o) ix (Int32.ofInt x))) && decide (-2147483648 ≤ x ∧ x < 2147483648)
  | some [p], .inr (.inl x) => decide (wAt p = some (.constantLong (oN o) ix (Int64.ofInt x))) && decide (-9223372036854775808 ≤ x ∧ x < 9223372036854775808)
  | some [p], .inr (.inr (some a)) => match lk a TXs with
    | some tx => decide (wAt p = some (.stringRef (oN o) ix tx))
    | none => false
  | _, _ => false
set_option maxRecDepth 100000 in
theorem LC_all : allT LCs lcC = true := by decide +kernel
def slC (o ix : Nat) (v : AV) : Bool := match lk ix (SPs.getD o []) with
  | some [p] => decide (v = AR 1) && decide (wAt p = some (.fieldLink (oN o) ix "java/util/ArrayList" "DEFAULTCAPACITY_EMPTY_ELEMENTDATA" "[Ljava/lang/Object;"))
  | _ => false
set_option maxRecDepth 100000 in
theorem SL_all : allT SLs slC = true := by decide +kernel
def ccC (o ix : Nat) (cis : List Nat) : Bool := match lk ix (KPs.getD o []), cis with
  | some [p], [2000] => decide (wAt p = some (.classLink (oN o) ix "[I"))
  | some [p], [2001] => decide (wAt p = some (.classLink (oN o) ix "[B"))
  | some [p], [ci] => match CLS[ci]? with
    | some r => decide (ci < 99) && decide (wAt p = some (.classLink (oN o) ix r.1))
    | none => false
  | _, _ => false
set_option maxRecDepth 100000 in
theorem CC_all : allT CCs ccC = true := by decide +kernel
set_option maxRecDepth 100000 in
theorem acs_all : acsP.map wAt = [some (.arrayClass .int), some (.arrayClass .byte), some (.arrayClass .boolean), some (.arrayClass .long)] := by decide +kernel
set_option maxRecDepth 100000 in
theorem ovr_all : ovrP.map wAt = [some (.arrayOver (.object (atN 4))), some (.arrayOver (.object (atN 5))), some (.arrayOver (.object (atN 6))), some (.arrayOver (.object (atN 7))), some (.arrayOver (.object (atN 8))), some (.arrayOver (.object (atN 9))), some (.arrayOver (.object (atN 10))), some (.arrayOver (.array .long))] := by decide +kernel
set_option maxRecDepth 100000 in
theorem cst_all : cstP.map wAt = [some (.castable "HuntHouseModel$Part" "java/lang/Object"), some (.castable "HuntHouseModel$Row" "java/lang/Object")] := by decide +kernel
set_option maxRecDepth 100000 in
theorem mna_all : OWs[MNAm]? = some (OWs.getD MNAm 0) ∧ wAt mnaP = some (.classLink (oN (OWs.getD MNAm 0)) MNAi ("[" ++ (FieldType.array .long).toString)) := by decide +kernel
/-- calls: the code word of each method but the law -/
def cdW (r : MTY) : Cond := match r.2.2.2.2 with
  | [] => .code r.1 r.2.1 r.2.2.1 r.2.2.2.1
  | hh => .codeWith r.1 r.2.1 r.2.2.1 r.2.2.2.1 hh
def nPar (y : MethodName) : Option Nat := (parseMethodDescriptor y.desc).map (fun d => d.parameters.length)
def lkW (tg o ix : Nat) (y : MethodName) : Cond := if tg = 0 then .methodLink (oN o) ix y else .methodLinkNest (oN o) ix y (HOST o)
def nmOK (y : MethodName) : Bool := decide (y.cls ≠ "java/lang/invoke/MethodHandle") && decide (y.cls ≠ "java/lang/invoke/VarHandle") && plainName y.cls
def mlC (o ix : Nat) (e : Nat × Nat × Nat × Nat) : Bool := Nat.ble 1000 e.1 || match MTB[e.1]?, lk ix (MPs.getD o []), lk ix (MTs.getD o []) with
  | some r, some [a, b, c], some tg => (tg == 0 || tg == 1) && nmOK r.1 && decide (wAt a = some (lkW tg o ix r.1)) && decide (wAt c = some (.initialized r.1.cls)) && (
    (e.2.2.2 == 0 && decide (wAt b = some (.static r.1)) && decide (nPar r.1 = some e.2.1) && (tg == 0 || decide (r.2.2.2.2 = []))) ||
    (e.2.2.2 == 1 && decide (wAt b = some (.instanceMethod r.1)) && decide (nPar r.1 = some (e.2.1 - 1)) && decide (0 < e.2.1) && decide (r.1.name = "<init>") && decide (r.2.2.2.1 = none) && decide (r.2.2.2.2 = [])))
  | some r, some [a, b, c, d], some tg => tg == 0 && nmOK r.1 && e.2.2.2 == 2 && decide (wAt a = some (.methodLink (oN o) ix r.1)) && decide (wAt b = some (.instanceMethod r.1)) && decide (wAt c = some (.selects r.1.cls r.1 r.1)) && decide (wAt d = some (.initialized r.1.cls)) && decide (nPar r.1 = some (e.2.1 - 1)) && decide (0 < e.2.1) && decide ((CLS[e.2.2.1]?).map (fun q => q.1) = some r.1.cls) && decide (e.2.2.1 < 99)
  | some r, some [a, b, c, d, f, g, h, i, j], some _ => e.2.2.2 == 3 && decide (r.2.2.2.2 = []) && decide (e.2.1 = 1) && decide ((CLS[e.2.2.1]?).map (fun q => q.1) = some r.1.cls) && decide (e.2.2.1 < 99) && nmOK r.1 && (match wAt a with
    | some (.methodLink o2 ix2 x) => decide (o2 = oN o) && decide (ix2 = ix) && nmOK x && decide (nPar x = some 0) && decide (wAt b = some (.selects r.1.cls x r.1)) && decide (wAt c = some (.instanceMethod r.1)) && decide (wAt d = some (.initialized r.1.cls)) && decide (wAt f = some (.declares x)) && decide (wAt g = some (.interfaceMethod x.cls x.cls x.name x.desc)) && decide (wAt h = some (.publicMethod r.1)) && decide (wAt i = some (.unhidden r.1.cls x.name x.desc)) && decide (wAt j = some (.castable r.1.cls x.cls))
    | _ => false)
  | _, _, _ => false
