/-! THE ABSTRACT MACHINE's STEPS -/
def gs (pc : Nat) (L : LO) (σ : ST) (o : Option (List AV)) : Option SO := match o with
  | some st => some (.inl ((pc, L, st), σ))
  | none => none
def ldI (L : LO) (k : Nat) (st : List AV) : Option (List AV) := match L[k]? with
  | some (some (.inl x)) => some (.inl x :: st)
  | _ => none
def ldL (L : LO) (k : Nat) (st : List AV) : Option (List AV) := match L[k]? with
  | some (some (.inr (.inl x))) => some (.inr (.inl x) :: st)
  | _ => none
def ldA (L : LO) (k : Nat) (st : List AV) : Option (List AV) := match L[k]? with
  | some (some (.inr (.inr x))) => some (.inr (.inr x) :: st)
  | _ => none
def stI (pc : Nat) (L : LO) (k : Nat) (st : List AV) (σ : ST) : Option SO := match st with
  | .inl x :: r => if k < L.length then some (.inl ((pc, setL L k (.inl x), r), σ)) else none
  | _ => none
def stL (pc : Nat) (L : LO) (k : Nat) (st : List AV) (σ : ST) : Option SO := match st with
  | .inr (.inl x) :: r => if k + 1 < L.length then some (.inl ((pc, setL2 L k (.inr (.inl x)), r), σ)) else none
  | _ => none
def stA (pc : Nat) (L : LO) (k : Nat) (st : List AV) (σ : ST) : Option SO := match st with
  | .inr (.inr x) :: r => if k < L.length then some (.inl ((pc, setL L k (.inr (.inr x)), r), σ)) else none
  | _ => none
def inc (pc : Nat) (L : LO) (k : Nat) (n : Int) (st : List AV) (σ : ST) : Option SO := match L[k]? with
  | some (some (.inl x)) => some (.inl ((pc, setL L k (.inl (wr (x + n))), st), σ))
  | _ => none
/-- a branch on an int, on two ints, on a reference -/
def br (pc : Nat) (t : Option Nat) (L : LO) (st : List AV) (σ : ST) (b : Bool) : Option SO := match t with
  | some t => some (.inl ((cond b t pc, L, st), σ))
  | none => none
def br1 (pc : Nat) (t : Option Nat) (L : LO) (c : ClassFile.Cond) (st : List AV) (σ : ST) : Option SO := match st with
  | .inl x :: r => br pc t L r σ (cmpI c x 0)
  | _ => none
def br2 (pc : Nat) (t : Option Nat) (L : LO) (c : ClassFile.Cond) (st : List AV) (σ : ST) : Option SO := match st with
  | .inl y :: .inl x :: r => br pc t L r σ (cmpI c x y)
  | _ => none
def brN (pc : Nat) (t : Option Nat) (L : LO) (st : List AV) (σ : ST) : Option SO := match st with
  | .inr (.inr x) :: r => br pc t L r σ x.isNone
  | _ => none
def brS (pc : Nat) (t : Option Nat) (L : LO) (st : List AV) (σ : ST) : Option SO := match st with
  | .inr (.inr x) :: r => br pc t L r σ x.isSome
  | _ => none
/-- the same thing or not: of things at least one of which was made here -/
def brA (pc : Nat) (t : Option Nat) (L : LO) (e : Bool) (st : List AV) (σ : ST) : Option SO := match st with
  | .inr (.inr (some y)) :: .inr (.inr (some x)) :: r => if y = 1 ∧ (x = 1 ∨ 64 ≤ x) then br pc t L r σ (if x = y then e else !e) else none
  | _ => none
def tsw (pc : Nat) (L : LO) (dflt lo hi : Int) (offs : Array Int) (st : List AV) (σ : ST) : Option SO := match st with
  | .inl x :: r => if x < lo ∨ hi < x then br 0 (tgt pc dflt) L r σ true else match offs[(x - lo).toNat]? with
    | some o => br 0 (tgt pc o) L r σ true
    | none => none
  | _ => none
def gfd (k : Nat) (cis : List Nat) (st : List AV) (σ : ST) : Option (List AV) := match st with
  | .inr (.inr (some a)) :: r => match σ.1 a with
    | .inl (ci, fs) => if ci ∈ cis then match fs[k]? with
      | some v => some (v :: r)
      | none => none
      else none
    | _ => none
  | _ => none
def okF (kd : Nat) (v : AV) : Bool := match v with
  | .inl x => kd == 0 || (kd == 2 && (x == 0 || x == 1))
  | .inr (.inl _) => kd == 3
  | .inr (.inr _) => kd == 4
def pfd (pc : Nat) (L : LO) (k : Nat) (cis : List Nat) (st : List AV) (σ : ST) : Option SO := match st with
  | v :: .inr (.inr (some a)) :: r => match σ.1 a with
    | .inl (ci, fs) => if ci ∈ cis ∧ k < fs.length ∧ okF ((FKs.getD ci []).getD k 9) v = true then some (.inl ((pc, L, r), sU σ a (.inl (ci, fs.set k v)))) else none
    | _ => none
  | _ => none
def al (st : List AV) (σ : ST) : Option (List AV) := match st with
  | .inr (.inr (some a)) :: r => match σ.1 a with
    | .inr (.inl (_, n, _)) => some (.inl (n : Int) :: r)
    | .inr (.inr (_, n, _)) => some (.inl (n : Int) :: r)
    | _ => none
  | _ => none
/-- loads: int, byte or boolean, long, reference -/
def ald (tys : List Nat) (st : List AV) (σ : ST) : Option (List AV) := match st with
  | .inl i :: .inr (.inr (some a)) :: r => match σ.1 a with
    | .inr (.inl (ty, n, f)) => if ty ∈ tys ∧ 0 ≤ i ∧ i < n then some (.inl (f i.toNat) :: r) else none
    | _ => none
  | _ => none
def aldL (st : List AV) (σ : ST) : Option (List AV) := match st with
  | .inl i :: .inr (.inr (some a)) :: r => match σ.1 a with
    | .inr (.inl (ty, n, f)) => if ty = 3 ∧ 0 ≤ i ∧ i < n then some (.inr (.inl (f i.toNat)) :: r) else none
    | _ => none
  | _ => none
def aldA (st : List AV) (σ : ST) : Option (List AV) := match st with
  | .inl i :: .inr (.inr (some a)) :: r => match σ.1 a with
    | .inr (.inr (ty, n, f)) => if ty < 100 ∧ 0 ≤ i ∧ i < n then some (.inr (.inr (f i.toNat)) :: r) else none
    | _ => none
  | _ => none
/-- stores -/
def asI (pc : Nat) (L : LO) (st : List AV) (σ : ST) : Option SO := match st with
  | .inl x :: .inl i :: .inr (.inr (some a)) :: r => match σ.1 a with
    | .inr (.inl (ty, n, f)) => if ty = 0 ∧ 0 ≤ i ∧ i < n then some (.inl ((pc, L, r), sU σ a (.inr (.inl (ty, n, aU f i.toNat x))))) else none
    | _ => none
  | _ => none
def asB (pc : Nat) (L : LO) (st : List AV) (σ : ST) : Option SO := match st with
  | .inl x :: .inl i :: .inr (.inr (some a)) :: r => match σ.1 a with
    | .inr (.inl (ty, n, f)) => if (ty = 1 ∨ (ty = 2 ∧ (x = 0 ∨ x = 1))) ∧ 0 ≤ i ∧ i < n then some (.inl ((pc, L, r), sU σ a (.inr (.inl (ty, n, aU f i.toNat (if ty = 1 then zbyt x else x)))))) else none
    | _ => none
  | _ => none
def asL (pc : Nat) (L : LO) (st : List AV) (σ : ST) : Option SO := match st with
  | .inr (.inl x) :: .inl i :: .inr (.inr (some a)) :: r => match σ.1 a with
    | .inr (.inl (ty, n, f)) => if ty = 3 ∧ 0 ≤ i ∧ i < n then some (.inl ((pc, L, r), sU σ a (.inr (.inl (ty, n, aU f i.toNat x))))) else none
    | _ => none
  | _ => none
/-- what may stand in an array of references of a type: 4 Riddle, 5 Team, 6 Code, 7 .. 9 the model's Riddle, Team, Act, 10 Object, 11 long[] -/
def okE (ty : Nat) (c : AC) : Bool := match c with
  | .inl (ci, _) => (ty == 4 && ci == 6) || (ty == 5 && ci == 8) || (ty == 6 && ci == 3) || (ty == 7 && ci == 15) || (ty == 8 && ci == 19) || (ty == 9 && ci == 12) || (ty == 10 && (ci == 14 || ci == 16))
  | .inr (.inl (t, _, _)) => ty == 11 && t == 3
  | _ => false
def okEo (ty : Nat) (v : Option Nat) (σ : ST) : Bool := match v with
  | some b => okE ty (σ.1 b)
  | none => Nat.blt ty 11
def asA (pc : Nat) (L : LO) (st : List AV) (σ : ST) : Option SO := match st with
  | .inr (.inr v) :: .inl i :: .inr (.inr (some a)) :: r => match σ.1 a with
    | .inr (.inr (ty, n, f)) => if ty < 100 ∧ 0 ≤ i ∧ i < n ∧ okEo ty v σ = true then some (.inl ((pc, L, r), sU σ a (.inr (.inr (ty, n, aU f i.toNat v))))) else none
    | _ => none
  | _ => none
def aty (t : ClassFile.ArrayType) : Option Nat := match t with
  | .int => some 0
  | .byte => some 1
  | .boolean => some 2
  | .long => some 3
  | _ => none
def nwa (pc : Nat) (L : LO) (ty : Option Nat) (st : List AV) (σ : ST) : Option SO := match st, ty with
  | .inl n :: r, some ty => if 0 ≤ n ∧ n ≤ 1000000 then some (.inl ((pc, L, .inr (.inr (some σ.2.1)) :: r), sN σ (.inr (.inl (ty, n.toNat, fun _ => 0))) n.toNat)) else none
  | _, _ => none
def nwq (pc : Nat) (L : LO) (ty : Option Nat) (st : List AV) (σ : ST) : Option SO := match st, ty with
  | .inl n :: r, some ty => if 0 ≤ n ∧ n ≤ 1000000 then some (.inl ((pc, L, .inr (.inr (some σ.2.1)) :: r), sN σ (.inr (.inr (ty, n.toNat, fun _ => none))) n.toNat)) else none
  | _, _ => none
/-- new long[n][k]: the rows lie behind the outer array -/
def nwr (σ : ST) (k : Nat) : Nat → ST
  | 0 => σ
  | n + 1 => sN (nwr σ k n) (.inr (.inl (3, k, fun _ => 0))) k
def nwm (pc : Nat) (L : LO) (st : List AV) (σ : ST) : Option SO := match st with
  | .inl k :: .inl n :: r => if 0 ≤ n ∧ n ≤ 1000 ∧ 0 ≤ k ∧ k ≤ 1000 then some (.inl ((pc, L, .inr (.inr (some σ.2.1)) :: r), nwr (sN σ (.inr (.inr (11, n.toNat, fun j => if j < n.toNat then some (σ.2.1 + 1 + j) else none))) n.toNat) k.toNat n.toNat)) else none
  | _ => none
def nwo (pc : Nat) (L : LO) (ci : Option Nat) (st : List AV) (σ : ST) : Option SO := match ci with
  | some ci => if ci = 99 then some (.inr (.inr (.inr σ.2.1, sN σ (.inl (99, [])) 6))) else match DFs[ci]? with
    | some fs => some (.inl ((pc, L, .inr (.inr (some σ.2.1)) :: st), sN σ (.inl (ci, fs)) fs.length))
    | none => none
  | none => none
/-- is the receiver such as the kind of call asks? -/
def okC (kd rc : Nat) (as : List AV) (σ : ST) : Bool := match kd with
  | 0 => true
  | 1 => match as with
    | .inr (.inr (some _)) :: _ => true
    | _ => false
  | 2 => match as with
    | .inr (.inr (some a)) :: _ => match σ.1 a with
      | .inl (ci, _) => ci == rc
      | _ => false
    | _ => false
  | 3 => match as with
    | .inr (.inr (some a)) :: _ => match σ.1 a with
      | .inl (ci, _) => ci == rc
      | _ => false
    | _ => false
  | 4 => match as with
    | .inr (.inr (some a)) :: _ => (STR a).isSome
    | _ => false
  | 5 => match as with
    | .inr (.inr (some a)) :: _ => match σ.1 a with
      | .inr (.inl (ty, _, _)) => (ty == 0 || ty == 1) && ty == rc
      | _ => false
    | _ => false
  | _ => false
def kdOf (i : ClassFile.Instr) (kd : Nat) : Bool := match i with
  | .invokestatic _ => kd == 0
  | .invokespecial _ => kd == 1
  | .invokevirtual _ => kd == 2 || kd == 4 || kd == 5
  | .invokeinterface _ _ => kd == 3
  | _ => false
def wt : List AV → Nat
  | [] => 0
  | v :: r => (if isLg v then 2 else 1) + wt r
def cal (pc : Nat) (L : LO) (i : ClassFile.Instr) (m : Option (Nat × Nat × Nat × Nat)) (st : List AV) (σ : ST) : Option SO := match m with
  | some (cm, na, rc, kd) => if na ≤ st.length ∧ kdOf i kd = true ∧ okC kd rc (st.take na).reverse σ = true ∧ (Nat.ble (wt (st.drop na)) 8 && (Nat.ble 1000 cm || Nat.ble (iA (st.take na).reverse).length (MX cm))) = true then some (.inr (.inl (cm, (st.take na).reverse, (pc, L, st.drop na)))) else none
  | none => none
def okR (rt : Nat) (v : AV) : Bool := match v with
  | .inl x => rt == 0 || (rt == 2 && (x == 0 || x == 1))
  | .inr (.inl _) => rt == 3
  | .inr (.inr _) => rt == 4
def ret1 (rt : Nat) (st : List AV) (σ : ST) : Option SO := match st with
  | v :: [] => if okR rt v = true then some (.inr (.inr (.inl (some v), σ))) else none
  | _ => none
def kCat (cis : Option (List Nat)) (st : List AV) (σ : ST) : Option (List AV) := match st, cis with
  | .inr (.inr none) :: r, some _ => some (.inr (.inr none) :: r)
  | .inr (.inr (some a)) :: r, some cis => match σ.1 a with
    | .inl (ci, _) => if ci ∈ cis then some (.inr (.inr (some a)) :: r) else none
    | .inr (.inl (ty, _, _)) => if (2000 + ty) ∈ cis then some (.inr (.inr (some a)) :: r) else none
    | _ => none
  | _, _ => none
def ldk (lg : Bool) (v : Option AV) (st : List AV) : Option (List AV) := match v with
  | some v => if isLg v = lg then some (v :: st) else none
  | none => none
def stepI (mi pc : Nat) (i : ClassFile.Instr) (len : Nat) (L : LO) (st : List AV) (σ : ST) : Option SO := match i with
  | .aconst_null => gs (pc + len) L σ (some (.inr (.inr none) :: st))
  | .iconst n => gs (pc + len) L σ (some (.inl n :: st))
  | .bipush n => gs (pc + len) L σ (some (.inl n :: st))
  | .sipush n => gs (pc + len) L σ (some (.inl n :: st))
  | .lconst n => gs (pc + len) L σ (some (.inr (.inl (n.val : Int)) :: st))
  | .ldc ix => gs (pc + len) L σ (ldk false (LC mi ix) st)
  | .ldc_w ix => gs (pc + len) L σ (ldk false (LC mi ix) st)
  | .ldc2_w ix => gs (pc + len) L σ (ldk true (LC mi ix) st)
  | .iload k => gs (pc + len) L σ (ldI L k st)
  | .iload_n k => gs (pc + len) L σ (ldI L k.val st)
  | .lload k => gs (pc + len) L σ (ldL L k st)
  | .lload_n k => gs (pc + len) L σ (ldL L k.val st)
  | .aload k => gs (pc + len) L σ (ldA L k st)
  | .aload_n k => gs (pc + len) L σ (ldA L k.val st)
  | .istore k => stI (pc + len) L k st σ
  | .istore_n k => stI (pc + len) L k.val st σ
  | .lstore k => stL (pc + len) L k st σ
  | .lstore_n k => stL (pc + len) L k.val st σ
  | .astore k => stA (pc + len) L k st σ
  | .astore_n k => stA (pc + len) L k.val st σ
  | .iinc k n => inc (pc + len) L k n st σ
  | .iadd => gs (pc + len) L σ (p2 (fun x y => wr (x + y)) st)
  | .isub => gs (pc + len) L σ (p2 (fun x y => wr (x - y)) st)
  | .imul => gs (pc + len) L σ (p2 (fun x y => wr (x * y)) st)
  | .iand => gs (pc + len) L σ (p2 zand st)
  | .ior => gs (pc + len) L σ (p2 zor st)
  | .ixor => gs (pc + len) L σ (p2 zxor st)
  | .ishl => gs (pc + len) L σ (p2 zshl st)
  | .ishr => gs (pc + len) L σ (p2 zshr st)
  | .iushr => gs (pc + len) L σ (p2 zush st)
  | .idiv => match st with
    | .inl y :: _ => if y = 0 then none else gs (pc + len) L σ (p2 zdiv st)
    | _ => none
  | .irem => match st with
    | .inl y :: _ => if y = 0 then none else gs (pc + len) L σ (p2 zrem st)
    | _ => none
  | .ladd => gs (pc + len) L σ (q2 (fun x y => wl (x + y)) st)
  | .lsub => gs (pc + len) L σ (q2 (fun x y => wl (x - y)) st)
  | .land => gs (pc + len) L σ (q2 land st)
  | .lor => gs (pc + len) L σ (q2 lor st)
  | .lshl => gs (pc + len) L σ (q1 lshl st)
  | .lshr => gs (pc + len) L σ (q1 lshr st)
  | .lushr => gs (pc + len) L σ (q1 lush st)
  | .lcmp => gs (pc + len) L σ (match st with
    | .inr (.inl y) :: .inr (.inl x) :: r => some (.inl (lcm x y) :: r)
    | _ => none)
  | .i2l => gs (pc + len) L σ (match st with
    | .inl x :: r => some (.inr (.inl x) :: r)
    | _ => none)
  | .l2i => gs (pc + len) L σ (match st with
    | .inr (.inl x) :: r => some (.inl (wr x) :: r)
    | _ => none)
  | .i2b => gs (pc + len) L σ (match st with
    | .inl x :: r => some (.inl (zbyt x) :: r)
    | _ => none)
  | .dup => gs (pc + len) L σ (match st with
    | v :: r => if isLg v then none else some (v :: v :: r)
    | _ => none)
  | .dup_x1 => gs (pc + len) L σ (match st with
    | v :: w :: r => if isLg v || isLg w then none else some (v :: w :: v :: r)
    | _ => none)
  | .dup2 => gs (pc + len) L σ (match st with
    | v :: w :: r => if isLg v || isLg w then none else some (v :: w :: v :: w :: r)
    | _ => none)
  | .pop => gs (pc + len) L σ (match st with
    | v :: r => if isLg v then none else some r
    | _ => none)
  | .goto o => br 0 (tgt pc o) L st σ true
  | .ifCond c o => br1 (pc + len) (tgt pc o) L c st σ
  | .if_icmp c o => br2 (pc + len) (tgt pc o) L c st σ
  | .ifnull o => brN (pc + len) (tgt pc o) L st σ
  | .ifnonnull o => brS (pc + len) (tgt pc o) L st σ
  | .if_acmp .eq o => brA (pc + len) (tgt pc o) L true st σ
  | .if_acmp .ne o => brA (pc + len) (tgt pc o) L false st σ
  | .tableswitch d lo hi offs => tsw pc L d lo hi offs st σ
  | .getfield ix => match FL mi ix with
    | some (k, cis, _) => gs (pc + len) L σ (gfd k cis st σ)
    | none => none
  | .putfield ix => match FL mi ix with
    | some (k, cis, _) => pfd (pc + len) L k cis st σ
    | none => none
  | .getstatic ix => gs (pc + len) L σ ((SL mi ix).map (· :: st))
  | .arraylength => gs (pc + len) L σ (al st σ)
  | .iaload => gs (pc + len) L σ (ald [0, 100] st σ)
  | .baload => gs (pc + len) L σ (ald [1, 2] st σ)
  | .laload => gs (pc + len) L σ (aldL st σ)
  | .aaload => gs (pc + len) L σ (aldA st σ)
  | .iastore => asI (pc + len) L st σ
  | .bastore => asB (pc + len) L st σ
  | .lastore => asL (pc + len) L st σ
  | .aastore => asA (pc + len) L st σ
  | .newarray t => nwa (pc + len) L (aty t) st σ
  | .anewarray ix => nwq (pc + len) L (AT mi ix) st σ
  | .multianewarray ix dm => if dm = 2 ∧ mi = MNAm ∧ ix = MNAi then nwm (pc + len) L st σ else none
  | .new ix => nwo (pc + len) L (NW mi ix) st σ
  | .checkcast ix => gs (pc + len) L σ (kCat (CC mi ix) st σ)
  | .invokestatic ix => cal (pc + len) L i (ML mi ix) st σ
  | .invokespecial ix => cal (pc + len) L i (ML mi ix) st σ
  | .invokevirtual ix => cal (pc + len) L i (ML mi ix) st σ
  | .invokeinterface ix _ => cal (pc + len) L i (ML mi ix) st σ
  | .return_ => match st with
    | [] => if RT mi = 9 then some (.inr (.inr (.inl none, σ))) else none
    | _ => none
  | .ireturn => match st with
    | .inl _ :: _ => ret1 (RT mi) st σ
    | _ => none
  | .lreturn => match st with
    | .inr (.inl _) :: _ => ret1 (RT mi) st σ
    | _ => none
  | .areturn => match st with
    | .inr (.inr _) :: _ => ret1 (RT mi) st σ
    | _ => none
  | .athrow => match st with
    | .inr (.inr (some a)) :: _ => match σ.1 a with
      | .inl (18, _) => some (.inr (.inr (.inr a, σ)))
      | _ => none
    | _ => none
  | _ => none
def step (mi pc : Nat) (L : LO) (st : List AV) (σ : ST) : Option SO := match CD mi pc with
  | some (i, len) => stepI mi pc i len L st σ
  | none => none
/-- what is built in: 1000 Object's constructor; 1001, 1002 Math.min, max; 1003 System.arraycopy; 1004, 1005 a text's length and sign; 1006 Arrays.copyOf of objects; 1007 RuntimeException's constructor of four; 1008 an array's clone -/
def cpy {α : Type} (f g : Nat → α) (sp dp n : Nat) : Nat → α := fun j => if dp ≤ j ∧ j < dp + n then f (sp + (j - dp)) else g j
def bArr (σ : ST) (a b : Nat) (sp dp n : Int) : Option ST := if a = b then none else match σ.1 a, σ.1 b with
  | .inr (.inl (t, l, f)), .inr (.inl (u, m, g)) => if t = u ∧ t < 4 ∧ 0 ≤ sp ∧ 0 ≤ dp ∧ 0 ≤ n ∧ sp + n ≤ l ∧ dp + n ≤ m then some (sU σ b (.inr (.inl (u, m, cpy f g sp.toNat dp.toNat n.toNat)))) else none
  | _, _ => none
def BF (cm : Nat) (as : List AV) (σ : ST) : Option (RS × ST) := match cm, as with
  | 1000, .inr (.inr (some _)) :: [] => some (.inl none, σ)
  | 1001, [.inl x, .inl y] => some (.inl (some (.inl (if y < x then y else x))), σ)
  | 1002, [.inl x, .inl y] => some (.inl (some (.inl (if x < y then y else x))), σ)
  | 1003, [.inr (.inr (some a)), .inl sp, .inr (.inr (some b)), .inl dp, .inl n] => match bArr σ a b sp dp n with
    | some σ1 => some (.inl none, σ1)
    | none => none
  | 1004, [.inr (.inr (some a))] => match STR a with
    | some t => some (.inl (some (.inl (t.length : Int))), σ)
    | none => none
  | 1005, [.inr (.inr (some a)), .inl i] => match STR a with
    | some t => if 0 ≤ i ∧ i < t.length then some (.inl (some (.inl (t.getD i.toNat 0 : Int))), σ) else none
    | none => none
  | 1006, [.inr (.inr (some a)), .inl n] => match σ.1 a with
    | .inr (.inr (10, l, f)) => if (l : Int) ≤ n ∧ n ≤ 100000 ∧ ((List.range l).all fun j => okEo 10 (f j) σ) = true then some (.inl (some (.inr (.inr (some σ.2.1)))), sN σ (.inr (.inr (10, n.toNat, fun j => if j < l then f j else none))) n.toNat) else none
    | _ => none
  | 1007, [.inr (.inr (some a)), .inr (.inr none), .inr (.inr none), .inl 0, .inl 0] => match σ.1 a with
    | .inl (18, fs) => if fs = [.inr (.inr none), .inr (.inr none), .inr (.inr none), .inr (.inr none), .inr (.inr none), .inl 0, .inl 0, .inl 0] then some (.inl none, σ) else none
    | _ => none
  | 1008, [.inr (.inr (some a))] => match σ.1 a with
    | .inr (.inl (ty, n, f)) => if ty < 2 then some (.inl (some (.inr (.inr (some σ.2.1)))), sN σ (.inr (.inl (ty, n, f))) n) else none
    | _ => none
  | _, _ => none
/-- a thing is thrown at a place: by its class it is caught there (the handler's place), or goes on to the caller -/
def HX (mi pc a : Nat) (σ : ST) : Option (Option Nat) := match HD mi pc with
  | none => some none
  | some (h, ci) => match σ.1 a with
    | .inl (cj, _) => if cj = ci then some (some h) else none
    | _ => none
/-- where a callee may throw: at a virtual call -/
def XO (mi pc a : Nat) (σ : ST) : Option (Option Nat) := match CD mi pc with
  | some (.invokevirtual _, _) => HX mi pc a σ
  | _ => none
/-- at most n steps deep; d: how many calls may stand open; the method, its place, its locals, its stack, the store -/
def run : Nat → Nat → Nat → Nat → LO → List AV → ST → Option (RS × ST)
  | 0, _, _, _, _, _, _ => none
  | n + 1, d, mi, pc, L, st, σ => match step mi pc L st σ with
    | none => none
    | some (.inl (fr, σ1)) => run n d mi fr.1 fr.2.1 fr.2.2 σ1
    | some (.inr (.inl (cm, as, fr))) => match d with
      | 0 => none
      | d1 + 1 => match (if cm < 1000 then run n d1 cm 0 (iL (MX cm) as) [] σ else if d1 < 16 then none else BF cm as σ) with
        | none => none
        | some (.inl v, σ2) => run n (d1 + 1) mi fr.1 fr.2.1 (v.toList ++ fr.2.2) σ2
        | some (.inr a, σ2) => match XO mi pc a σ2 with
          | some (some h) => run n (d1 + 1) mi h L [.inr (.inr (some a))] σ2
          | some none => some (.inr a, σ2)
          | none => none
    | some (.inr (.inr (.inl v, σ1))) => some (.inl v, σ1)
    | some (.inr (.inr (.inr a, σ1))) => if d < 16 ∨ 8 < wt st then none else match HX mi pc a σ1 with
      | some (some h) => run n d mi h L [.inr (.inr (some a))] σ1
      | some none => some (.inr a, σ1)
      | none => none
