/-! MORE STEPS OF THE SECOND LAYER -/
/-- instructions that look at no store -/
def simp1 (i : ClassFile.Instr) : Bool := match i with
  | .aconst_null | .iconst _ | .bipush _ | .sipush _ | .lconst _ | .ldc _ | .ldc_w _ | .ldc2_w _ => true
  | .iload _ | .iload_n _ | .lload _ | .lload_n _ | .aload _ | .aload_n _ | .istore _ | .istore_n _ | .lstore _ | .lstore_n _ | .astore _ | .astore_n _ | .iinc _ _ => true
  | .iadd | .isub | .imul | .iand | .ior | .ixor | .ishl | .ishr | .iushr | .ladd | .lsub | .land | .lor | .lshl | .lshr | .lushr | .lcmp | .i2l | .l2i | .i2b | .dup | .dup_x1 | .dup2 | .pop | .goto _ => true
  | _ => false
abbrev vI (x : Int) : Option AV := some (.inl x)
abbrev vJ (x : Int) : Option AV := some (.inr (.inl x))
abbrev vR (a : Nat) : Option AV := some (.inr (.inr (some a)))
abbrev vQ (q : Option Nat) : Option AV := some (.inr (.inr q))
abbrev AP (q : Option Nat) : AV := .inr (.inr q)
def reS (σ : ST) : Option SO → Option SO
  | some (.inl (fr, _)) => some (.inl (fr, σ))
  | _ => none
def σz : ST := (fun _ => DEAD, 0, 0)
theorem gs_rs (pc : Nat) (L : LO) (σ : ST) (o : Option (List AV)) : gs pc L σ o = reS σ (gs pc L σz o) := by cases o <;> rfl
theorem stepI_rs {mi pc len : Nat} {i : ClassFile.Instr} (h : simp1 i = true) (L : LO) (st : List AV) (σ : ST) : stepI mi pc i len L st σ = reS σ (stepI mi pc i len L st σz) := by
  cases i
  all_goals first
    | (cases h; done)
    | rfl
    | exact gs_rs ..
    | (show stI _ _ _ _ _ = reS _ (stI _ _ _ _ _); unfold stI; repeat' split
       all_goals rfl)
    | (show stA _ _ _ _ _ = reS _ (stA _ _ _ _ _); unfold stA; repeat' split
       all_goals rfl)
    | (show stL _ _ _ _ _ = reS _ (stL _ _ _ _ _); unfold stL; repeat' split
       all_goals rfl)
    | (show inc _ _ _ _ _ _ = reS _ (inc _ _ _ _ _ _); unfold inc; repeat' split
       all_goals rfl)
    | (show br _ _ _ _ _ _ = reS _ (br _ _ _ _ _ _); unfold br; repeat' split
       all_goals rfl)
/-- n such instructions -/
def sxN (mi : Nat) : Nat → Nat → LO → List AV → Option FR
  | 0, pc, L, st => some (pc, L, st)
  | n + 1, pc, L, st => match CD mi pc with
    | some (i, len) => cond (simp1 i) (match stepI mi pc i len L st σz with
      | some (.inl (fr, _)) => sxN mi n fr.1 fr.2.1 fr.2.2
      | _ => none) none
    | none => none
section GM
variable {d mi pc pc1 len : Nat} {L L1 : LO} {st st1 : List AV} {τ τ1 : T2} {Q Q1 : RS → T2 → Prop}
theorem g_sx : ∀ (n : Nat) {pc : Nat} {L : LO} {st : List AV} {pc1 : Nat} {L1 : LO} {st1 : List AV}, sxN mi n pc L st = some (pc1, L1, st1) → G d mi pc1 L1 st1 τ Q → G d mi pc L st τ Q
  | 0, pc, L, st, pc1, L1, st1, h, k => by cases h; exact k
  | n + 1, pc, L, st, pc1, L1, st1, h, k => by
    unfold sxN at h
    cases hc : CD mi pc with
    | none => rw [hc] at h; cases h
    | some il =>
      obtain ⟨i, len⟩ := il
      rw [hc] at h
      dsimp only at h
      cases hs : simp1 i with
      | false => rw [hs] at h; cases h
      | true =>
        rw [hs] at h
        dsimp only [cond] at h
        cases hq : stepI mi pc i len L st σz with
        | none => rw [hq] at h; cases h
        | some so =>
          rw [hq] at h
          rcases so with ⟨⟨p2, L2, s2⟩, σ2⟩ | z
          · exact g_st hc (by rw [stepI_rs hs, hq]; rfl) (g_sx n h k)
          · cases h
/-- the same, where the locals stay -/
theorem g_sk (n : Nat) {pc1 : Nat} {st1 : List AV} (h : sxN mi n pc L st = some (pc1, L, st1)) (k : G d mi pc1 L st1 τ Q) : G d mi pc L st τ Q := g_sx n h k
theorem g_gI {ix ci k z a : Nat} (hc : CD mi pc = some (.getfield ix, 3)) (hf : gfC mi ix ci k 0 = true) (hs : tS τ a = (1, ci, z)) (kk : G d mi (pc + 3) L (AI (tI τ a k) :: st) τ Q) : G d mi pc L (AR a :: st) τ Q := g_get hc hf hs kk
theorem g_gZ {ix ci k z a : Nat} (hc : CD mi pc = some (.getfield ix, 3)) (hf : gfC mi ix ci k 2 = true) (hs : tS τ a = (1, ci, z)) (kk : G d mi (pc + 3) L (AI (tI τ a k) :: st) τ Q) : G d mi pc L (AR a :: st) τ Q := g_get hc hf hs kk
theorem g_gL {ix ci k z a : Nat} (hc : CD mi pc = some (.getfield ix, 3)) (hf : gfC mi ix ci k 3 = true) (hs : tS τ a = (1, ci, z)) (kk : G d mi (pc + 3) L (AL (tI τ a k) :: st) τ Q) : G d mi pc L (AR a :: st) τ Q := g_get hc hf hs kk
theorem g_gP {ix ci k z a : Nat} (hc : CD mi pc = some (.getfield ix, 3)) (hf : gfC mi ix ci k 4 = true) (hs : tS τ a = (1, ci, z)) (kk : G d mi (pc + 3) L (.inr (.inr (tP τ a k)) :: st) τ Q) : G d mi pc L (AR a :: st) τ Q := g_get hc hf hs kk
theorem g_gQ {ix ci k z a q : Nat} (hc : CD mi pc = some (.getfield ix, 3)) (hf : gfC mi ix ci k 4 = true) (hs : tS τ a = (1, ci, z)) (hp : tP τ a k = some q) (kk : G d mi (pc + 3) L (AR q :: st) τ Q) : G d mi pc L (AR a :: st) τ Q := g_gP hc hf hs (by rw [hp]; exact kk)
theorem g_aalQ {a ty n q : Nat} {i : Int} (hc : CD mi pc = some (.aaload, 1)) (hs : tS τ a = (3, ty, n)) (ht : ty < 100) (h0 : 0 ≤ i) (h1 : i < n) (hp : tP τ a i.toNat = some q) (kk : G d mi (pc + 1) L (AR q :: st) τ Q) : G d mi pc L (AI i :: AR a :: st) τ Q := g_aald hc hs ht h0 h1 (by rw [hp]; exact kk)
theorem g_div {x y : Int} (hc : CD mi pc = some (.idiv, 1)) (hy : y ≠ 0) (k : G d mi (pc + 1) L (.inl (zdiv x y) :: st) τ Q) : G d mi pc L (.inl y :: .inl x :: st) τ Q := by
  refine g_st hc ?_ k
  show (if y = 0 then none else gs (pc + 1) L (toST τ) (p2 zdiv (.inl y :: .inl x :: st))) = _
  rw [if_neg hy]
  rfl
theorem g_rem {x y : Int} (hc : CD mi pc = some (.irem, 1)) (hy : y ≠ 0) (k : G d mi (pc + 1) L (.inl (zrem x y) :: st) τ Q) : G d mi pc L (.inl y :: .inl x :: st) τ Q := by
  refine g_st hc ?_ k
  show (if y = 0 then none else gs (pc + 1) L (toST τ) (p2 zrem (.inl y :: .inl x :: st))) = _
  rw [if_neg hy]
  rfl
/-- a switch: beyond its numbers, at one of them -/
theorem g_tsw {dflt lo hi : Int} {offs : Array Int} {x : Int} {t0 : Nat} (hc : CD mi pc = some (.tableswitch dflt lo hi offs, len)) (h0 : tgt pc dflt = some t0) (kd : x < lo ∨ hi < x → G d mi t0 L st τ Q) (kk : ∀ (j : Nat) (o : Int), offs[j]? = some o → x = lo + j → j ≤ (hi - lo).toNat → ∃ t, tgt pc o = some t ∧ G d mi t L st τ Q) (hz : ∀ j : Nat, lo + (j : Int) ≤ hi → ∃ o, offs[j]? = some o) : G d mi pc L (.inl x :: st) τ Q := by
  by_cases h : x < lo ∨ hi < x
  · refine g_st hc ?_ (kd h)
    show (if x < lo ∨ hi < x then br 0 (tgt pc dflt) L st (toST τ) true else _) = _
    rw [if_pos h, h0]
    rfl
  · have hx : x = lo + ((x - lo).toNat : Nat) := by omega
    obtain ⟨o, ho⟩ := hz (x - lo).toNat (by omega)
    obtain ⟨t, ht, k⟩ := kk (x - lo).toNat o ho hx (by omega)
    refine g_st hc ?_ k
    show (if x < lo ∨ hi < x then _ else match offs[(x - lo).toNat]? with | some o => br 0 (tgt pc o) L st (toST τ) true | none => none) = _
    rw [if_neg h, ho]
    show br 0 (tgt pc o) L st (toST τ) true = _
    rw [ht]
    rfl
theorem g_gst {ix : Nat} {v : AV} (hc : CD mi pc = some (.getstatic ix, 3)) (hs : SL mi ix = some v) (k : G d mi (pc + 3) L (v :: st) τ Q) : G d mi pc L st τ Q := by
  refine g_st hc ?_ k
  show gs (pc + 3) L (toST τ) ((SL mi ix).map (· :: st)) = _
  rw [hs]
  rfl
/-- a cast of an object, of an array of numbers -/
theorem g_cst {ix ci z a : Nat} {cis : List Nat} (hc : CD mi pc = some (.checkcast ix, 3)) (hs : CC mi ix = some cis) (hm : ci ∈ cis) (hq : tS τ a = (1, ci, z)) (k : G d mi (pc + 3) L (.inr (.inr (some a)) :: st) τ Q) : G d mi pc L (.inr (.inr (some a)) :: st) τ Q := by
  refine g_st hc ?_ k
  show gs (pc + 3) L (toST τ) (kCat (CC mi ix) (.inr (.inr (some a)) :: st) (toST τ)) = _
  rw [hs]
  show gs (pc + 3) L (toST τ) (match (toST τ).1 a with | .inl (ci, _) => if ci ∈ cis then some (.inr (.inr (some a)) :: st) else none | .inr (.inl (ty, _, _)) => if (2000 + ty) ∈ cis then some (.inr (.inr (some a)) :: st) else none | _ => none) = _
  rw [toST_at, hq]
  show gs (pc + 3) L (toST τ) (if ci ∈ cis then _ else none) = _
  rw [if_pos hm]
  rfl
theorem g_csa {ix ty n a : Nat} {cis : List Nat} (hc : CD mi pc = some (.checkcast ix, 3)) (hs : CC mi ix = some cis) (hm : 2000 + ty ∈ cis) (hq : tS τ a = (2, ty, n)) (k : G d mi (pc + 3) L (.inr (.inr (some a)) :: st) τ Q) : G d mi pc L (.inr (.inr (some a)) :: st) τ Q := by
  refine g_st hc ?_ k
  show gs (pc + 3) L (toST τ) (kCat (CC mi ix) (.inr (.inr (some a)) :: st) (toST τ)) = _
  rw [hs]
  show gs (pc + 3) L (toST τ) (match (toST τ).1 a with | .inl (ci, _) => if ci ∈ cis then some (.inr (.inr (some a)) :: st) else none | .inr (.inl (ty, _, _)) => if (2000 + ty) ∈ cis then some (.inr (.inr (some a)) :: st) else none | _ => none) = _
  rw [toST_at, hq]
  show gs (pc + 3) L (toST τ) (if (2000 + ty) ∈ cis then _ else none) = _
  rw [if_pos hm]
  rfl
/-- a virtual call of a method of the program, a static one, a special one -/
theorem g_cv {ix cm na rc a z : Nat} {as : List AV} {rest : List AV} (hc : CD mi pc = some (.invokevirtual ix, 3)) (hml : ML mi ix = some (cm, na, rc, 2)) (hcm : cm < 1000) (hst : st.take na = as) (hdr : st.drop na = rest) (hna : na ≤ st.length) {as2 : List AV} (hr : as.reverse = .inr (.inr (some a)) :: as2) (hs : tS τ a = (1, rc, z)) (hw : (Nat.ble (wt rest) 8 && (Nat.ble 1000 cm || Nat.ble (iA as.reverse).length (MX cm))) = true) (hd : 1 ≤ d) {L0 : LO} (hL : iL (MX cm) as.reverse = L0)
    (kk : G (d - 1) cm 0 L0 [] τ (KC d mi pc (pc + 3) L rest Q)) : G d mi pc L st τ Q := by
  subst hst hdr hL
  refine g_call hc rfl hml hcm hna rfl ?_ hw hd kk
  rw [hr]
  show (match (toST τ).1 a with | .inl (ci, _) => ci == rc | _ => false) = true
  rw [toST_at, hs]
  exact beq_self_eq_true rc
theorem g_cs {ix cm na rc : Nat} {as : List AV} {rest : List AV} (hc : CD mi pc = some (.invokestatic ix, 3)) (hml : ML mi ix = some (cm, na, rc, 0)) (hcm : cm < 1000) (hst : st.take na = as) (hdr : st.drop na = rest) (hna : na ≤ st.length) (hw : (Nat.ble (wt rest) 8 && (Nat.ble 1000 cm || Nat.ble (iA as.reverse).length (MX cm))) = true) (hd : 1 ≤ d) {L0 : LO} (hL : iL (MX cm) as.reverse = L0)
    (kk : G (d - 1) cm 0 L0 [] τ (KC d mi pc (pc + 3) L rest Q)) : G d mi pc L st τ Q := by
  subst hst hdr hL
  exact g_call hc rfl hml hcm hna rfl rfl hw hd kk
theorem g_ci {ix cm na rc a : Nat} {as : List AV} {rest : List AV} (hc : CD mi pc = some (.invokespecial ix, 3)) (hml : ML mi ix = some (cm, na, rc, 1)) (hcm : cm < 1000) (hst : st.take na = as) (hdr : st.drop na = rest) (hna : na ≤ st.length) {as2 : List AV} (hr : as.reverse = .inr (.inr (some a)) :: as2) (hw : (Nat.ble (wt rest) 8 && (Nat.ble 1000 cm || Nat.ble (iA as.reverse).length (MX cm))) = true) (hd : 1 ≤ d) {L0 : LO} (hL : iL (MX cm) as.reverse = L0)
    (kk : G (d - 1) cm 0 L0 [] τ (KC d mi pc (pc + 3) L rest Q)) : G d mi pc L st τ Q := by
  subst hst hdr hL
  refine g_call hc rfl hml hcm hna rfl ?_ hw hd kk
  rw [hr]
  rfl
/-- what is built in -/
theorem g_blt {i : ClassFile.Instr} {ix cm na rc kd : Nat} {v : Option AV} {τ1 : T2} (hc : CD mi pc = some (i, len)) (hi : stepI mi pc i len L st (toST τ) = cal (pc + len) L i (ML mi ix) st (toST τ)) (hml : ML mi ix = some (cm, na, rc, kd)) (hcm : 1000 ≤ cm) (hna : na ≤ st.length) (hk : kdOf i kd = true) (hok : okC kd rc (st.take na).reverse (toST τ) = true) (hw : Nat.ble (wt (st.drop na)) 8 = true) (hd : 17 ≤ d) (hB : BF cm (st.take na).reverse (toST τ) = some (.inl v, toST τ1))
    (kk : G d mi (pc + len) L (v.toList ++ st.drop na) τ1 Q) : G d mi pc L st τ Q := by
  obtain ⟨n2, r2, τ2, h3, h4⟩ := kk
  obtain ⟨d1, rfl⟩ : ∃ d1, d = d1 + 1 := ⟨d - 1, by omega⟩
  have hst : step mi pc L st (toST τ) = some (.inr (.inl (cm, (st.take na).reverse, (pc + len, L, st.drop na)))) := by
    unfold step
    rw [hc]
    show stepI mi pc i len L st (toST τ) = _
    rw [hi, hml]
    exact if_pos ⟨hna, hk, hok, by rw [hw, Nat.ble_eq_true_of_le hcm]; rfl⟩
  refine ⟨n2 + 1, r2, τ2, ?_, h4⟩
  simp only [run]
  rw [hst]
  simp only [if_neg (show ¬ cm < 1000 by omega), if_neg (show ¬ d1 < 16 by omega), hB]
  exact h3
theorem g_oin {ix na rc a : Nat} {rest : List AV} (hc : CD mi pc = some (.invokespecial ix, 3)) (hml : ML mi ix = some (1000, 1, rc, 1)) (hw : Nat.ble (wt rest) 8 = true) (hd : 17 ≤ d) (kk : G d mi (pc + 3) L rest τ Q) : G d mi pc L (.inr (.inr (some a)) :: rest) τ Q :=
  g_blt (st := .inr (.inr (some a)) :: rest) hc rfl hml (by decide) (by simp) rfl rfl hw hd (v := none) (τ1 := τ) rfl kk
theorem g_min {ix rc : Nat} {x y : Int} {rest : List AV} (hc : CD mi pc = some (.invokestatic ix, 3)) (hml : ML mi ix = some (1001, 2, rc, 0)) (hw : Nat.ble (wt rest) 8 = true) (hd : 17 ≤ d) (kk : G d mi (pc + 3) L (.inl (if y < x then y else x) :: rest) τ Q) : G d mi pc L (.inl y :: .inl x :: rest) τ Q :=
  g_blt (st := .inl y :: .inl x :: rest) hc rfl hml (by decide) (by simp) rfl rfl hw hd (v := some (.inl (if y < x then y else x))) (τ1 := τ) rfl kk
theorem g_max {ix rc : Nat} {x y : Int} {rest : List AV} (hc : CD mi pc = some (.invokestatic ix, 3)) (hml : ML mi ix = some (1002, 2, rc, 0)) (hw : Nat.ble (wt rest) 8 = true) (hd : 17 ≤ d) (kk : G d mi (pc + 3) L (.inl (if x < y then y else x) :: rest) τ Q) : G d mi pc L (.inl y :: .inl x :: rest) τ Q :=
  g_blt (st := .inl y :: .inl x :: rest) hc rfl hml (by decide) (by simp) rfl rfl hw hd (v := some (.inl (if x < y then y else x))) (τ1 := τ) rfl kk
theorem g_acp {ix rc a q ty ln mn : Nat} {sp dp n : Int} {rest : List AV} (hc : CD mi pc = some (.invokestatic ix, 3)) (hml : ML mi ix = some (1003, 5, rc, 0)) (hw : Nat.ble (wt rest) 8 = true) (hd : 17 ≤ d) (hne : a ≠ q) (ha : tS τ a = (2, ty, ln)) (hq : tS τ q = (2, ty, mn)) (ht : ty < 4) (h0 : 0 ≤ sp) (h1 : 0 ≤ dp) (h2 : 0 ≤ n) (h3 : sp + n ≤ ln) (h4 : dp + n ≤ mn) (kk : G d mi (pc + 3) L rest (rI τ q (cpy (tI τ a) (tI τ q) sp.toNat dp.toNat n.toNat)) Q) : G d mi pc L (.inl n :: .inl dp :: .inr (.inr (some q)) :: .inl sp :: .inr (.inr (some a)) :: rest) τ Q := by
  refine g_blt (st := .inl n :: .inl dp :: .inr (.inr (some q)) :: .inl sp :: .inr (.inr (some a)) :: rest) hc rfl hml (by decide) (by simp) rfl rfl hw hd (v := none) (τ1 := rI τ q (cpy (tI τ a) (tI τ q) sp.toNat dp.toNat n.toNat)) ?_ kk
  show (match bArr (toST τ) a q sp dp n with | some σ1 => some (.inl none, σ1) | none => none : Option (RS × ST)) = _
  have hb : bArr (toST τ) a q sp dp n = some (sU (toST τ) q (.inr (.inl (ty, mn, cpy (tI τ a) (tI τ q) sp.toNat dp.toNat n.toNat)))) := by
    unfold bArr
    rw [if_neg hne, toST_at, toST_at, ha, hq]
    exact if_pos ⟨rfl, ht, h0, h1, h2, h3, h4⟩
  rw [hb, toST_rI, hq]
  rfl
theorem g_cln {ix rc a n : Nat} {rest : List AV} (hc : CD mi pc = some (.invokevirtual ix, 3)) (hml : ML mi ix = some (1008, 1, rc, 5)) (hw : Nat.ble (wt rest) 8 = true) (hd : 17 ≤ d) (ha : tS τ a = (2, rc, n)) (ht : rc < 2) (kk : G d mi (pc + 3) L (.inr (.inr (some (tN τ))) :: rest) (rI (nC τ (2, rc, n) n) (tN τ) (tI τ a)) Q) : G d mi pc L (.inr (.inr (some a)) :: rest) τ Q := by
  refine g_blt (st := .inr (.inr (some a)) :: rest) hc rfl hml (by decide) (by simp) rfl ?_ hw hd (v := some (.inr (.inr (some (tN τ))))) (τ1 := rI (nC τ (2, rc, n) n) (tN τ) (tI τ a)) ?_ kk
  · show (match (toST τ).1 a with | .inr (.inl (ty, _, _)) => (ty == 0 || ty == 1) && ty == rc | _ => false) = true
    rw [toST_at, ha]
    show ((rc == 0 || rc == 1) && rc == rc) = true
    have hh : rc = 0 ∨ rc = 1 := by omega
    rcases hh with rfl | rfl <;> rfl
  · show (match (toST τ).1 a with | .inr (.inl (ty, n, f)) => if ty < 2 then some (.inl (some (.inr (.inr (some (tN τ))))), sN (toST τ) (.inr (.inl (ty, n, f))) n) else none | _ => none : Option (RS × ST)) = _
    rw [toST_at, ha]
    show (if rc < 2 then _ else none) = _
    rw [if_pos ht, toST_rI, toST_nC]
    have e1 : tS (nC τ (2, rc, n) n) (tN τ) = (2, rc, n) := if_pos rfl
    rw [e1]
    show _ = some (_, sU (sN (toST τ) (.inr (.inl (rc, n, fun _ => 0))) n) (toST τ).2.1 (.inr (.inl (rc, n, tI τ a))))
    rw [sU_sN]
theorem g_sln {ix rc a : Nat} {t : List Nat} {rest : List AV} (hc : CD mi pc = some (.invokevirtual ix, 3)) (hml : ML mi ix = some (1004, 1, rc, 4)) (hw : Nat.ble (wt rest) 8 = true) (hd : 17 ≤ d) (ht : STR a = some t) (kk : G d mi (pc + 3) L (.inl (t.length : Int) :: rest) τ Q) : G d mi pc L (.inr (.inr (some a)) :: rest) τ Q := by
  refine g_blt (st := .inr (.inr (some a)) :: rest) hc rfl hml (by decide) (by simp) rfl (by show (STR a).isSome = true; rw [ht]; rfl) hw hd (v := some (.inl (t.length : Int))) (τ1 := τ) ?_ kk
  show (match STR a with | some t => some (.inl (some (.inl (t.length : Int))), toST τ) | none => none : Option (RS × ST)) = _
  rw [ht]
theorem g_sch {ix rc a : Nat} {t : List Nat} {i : Int} {rest : List AV} (hc : CD mi pc = some (.invokevirtual ix, 3)) (hml : ML mi ix = some (1005, 2, rc, 4)) (hw : Nat.ble (wt rest) 8 = true) (hd : 17 ≤ d) (ht : STR a = some t) (h0 : 0 ≤ i) (h1 : i < t.length) (kk : G d mi (pc + 3) L (.inl ((t.getD i.toNat 0 : Nat) : Int) :: rest) τ Q) : G d mi pc L (.inl i :: .inr (.inr (some a)) :: rest) τ Q := by
  refine g_blt (st := .inl i :: .inr (.inr (some a)) :: rest) hc rfl hml (by decide) (by simp) rfl (by show (STR a).isSome = true; rw [ht]; rfl) hw hd (v := some (.inl ((t.getD i.toNat 0 : Nat) : Int))) (τ1 := τ) ?_ kk
  show (match STR a with | some t => if 0 ≤ i ∧ i < t.length then some (.inl (some (.inl ((t.getD i.toNat 0 : Nat) : Int))), toST τ) else none | none => none : Option (RS × ST)) = _
  rw [ht]
  exact if_pos ⟨h0, h1⟩
theorem g_rte {ix rc a : Nat} {rest : List AV} (hc : CD mi pc = some (.invokespecial ix, 3)) (hml : ML mi ix = some (1007, 5, rc, 1)) (hw : Nat.ble (wt rest) 8 = true) (hd : 17 ≤ d) (ha : tS τ a = (1, 18, 0)) (hI : ∀ k, k < 8 → tI τ a k = 0) (hP : ∀ k, k < 8 → tP τ a k = none) (kk : G d mi (pc + 3) L rest τ Q) : G d mi pc L (.inl 0 :: .inl 0 :: .inr (.inr none) :: .inr (.inr none) :: .inr (.inr (some a)) :: rest) τ Q := by
  refine g_blt (st := .inl 0 :: .inl 0 :: .inr (.inr none) :: .inr (.inr none) :: .inr (.inr (some a)) :: rest) hc rfl hml (by decide) (by simp) rfl rfl hw hd (v := none) (τ1 := τ) ?_ kk
  show (match (toST τ).1 a with | .inl (18, fs) => if fs = [.inr (.inr none), .inr (.inr none), .inr (.inr none), .inr (.inr none), .inr (.inr none), .inl 0, .inl 0, .inl 0] then some (.inl none, toST τ) else none | _ => none : Option (RS × ST)) = _
  rw [toST_at, ha, mkC_o]
  show (if mkF (FKs.getD 18 []) 0 (tI τ a) (tP τ a) = _ then _ else none) = _
  refine if_pos ?_
  show ([.inr (.inr (tP τ a 0)), .inr (.inr (tP τ a 1)), .inr (.inr (tP τ a 2)), .inr (.inr (tP τ a 3)), .inr (.inr (tP τ a 4)), .inl (tI τ a 5), .inl (tI τ a 6), .inl (tI τ a 7)] : List AV) = _
  rw [hP 0 (by decide), hP 1 (by decide), hP 2 (by decide), hP 3 (by decide), hP 4 (by decide), hI 5 (by decide), hI 6 (by decide), hI 7 (by decide)]
end GM
