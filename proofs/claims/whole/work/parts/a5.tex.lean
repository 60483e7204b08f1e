/-! TEXTS THAT ARE TAKEN: what the calls share -/
theorem g_cpI {d : Nat} {τ : T2} {Q : RS → T2 → Prop} {a n1 z : Nat} (sa : tS τ a = (2, 0, n1)) (ha : a < tN τ) (hz : z < n1) (hz2 : z ≤ 100000) (hd : 17 ≤ d) (k : ∀ τ1, OC (fun _ _ => False) τ τ1 → (FX2 τ → FX2 τ1) → tN τ1 = tN τ + 1 → tZ τ1 = tZ τ + z → tS τ1 (tN τ) = (2, 0, z) → (∀ i, i < z → tI τ1 (tN τ) i = tI τ a i) → tP τ1 (tN τ) = (fun _ => none) → Q (.inl (some (AR (tN τ)))) τ1) : G d 264 0 [vR a, vI (z : Int), none] [] τ Q := by
  refine t264_0 (n1 := n1) hd sa (fun _ => by omega) (fun _ => ?_) (fun q => by omega)
  rw [Int.toNat_natCast]
  have e1 : tS (nC τ (2, 0, z) z) a = (2, 0, n1) := by
    show (if a = tN τ then ((2, 0, z) : SH) else tS τ a) = _
    rw [if_neg (by omega)]; exact sa
  have e2 : tS (nC τ (2, 0, z) z) (tN τ) = (2, 0, z) := if_pos rfl
  refine t264_17 (s0 := some (tN τ)) (n1 := n1) hd e1 ?_
  rw [if_pos (by omega)]
  refine g_acp (ty := 0) (ln := n1) (mn := z) (rest := []) rfl rfl rfl hd (by omega) e1 e2 (by omega) (by omega) (by omega) (by omega) (by omega) (by omega) ?_
  refine g_sk 1 (pc1 := 32) (st1 := [AR (tN τ)]) rfl ?_
  refine g_aret rfl rfl (k _ ?_ (fun F => F.n.r) rfl rfl e2 (fun i hi => ?_) ?_)
  · exact OC.rn OC.rf.n (Nat.le_refl _)
  · show rw2 _ (tN τ) _ (tN τ) i = _
    rw [rw2_row]
    show (if ((0 : Int)).toNat ≤ i ∧ i < ((0 : Int)).toNat + ((z : Int)).toNat then tI (nC τ (2, 0, z) z) a (((0 : Int)).toNat + (i - ((0 : Int)).toNat)) else _) = _
    rw [Int.toNat_natCast, show ((0 : Int)).toNat = 0 from rfl, if_pos (by omega), Nat.zero_add, Nat.sub_zero]
    exact congrFun (rw2_oth (tI τ) (fun _ => 0) (show a ≠ tN τ by omega)) i
  · exact rw2_row _ _ _
theorem g_cpB {d : Nat} {τ : T2} {Q : RS → T2 → Prop} {a n1 z : Nat} (sa : tS τ a = (2, 1, n1)) (ha : a < tN τ) (hz : z ≤ n1) (hz2 : z ≤ 100000) (hd : 18 ≤ d) (k : ∀ τ1, OC (fun _ _ => False) τ τ1 → (FX2 τ → FX2 τ1) → tN τ1 = tN τ + 1 → tZ τ1 = tZ τ + z → tS τ1 (tN τ) = (2, 1, z) → (∀ i, i < z → tI τ1 (tN τ) i = tI τ a i) → Q (.inl (some (AR (tN τ)))) τ1) : G d 263 0 [vR a, vI (z : Int), none] [] τ Q := by
  refine t263_0 (n1 := n1) (by omega) sa (fun _ => by omega) (fun q0 => ?_) (fun q => ?_)
  · rw [Int.toNat_natCast]
    have e1 : tS (nC τ (2, 1, z) z) a = (2, 1, n1) := by
      show (if a = tN τ then ((2, 1, z) : SH) else tS τ a) = _
      rw [if_neg (by omega)]; exact sa
    have e2 : tS (nC τ (2, 1, z) z) (tN τ) = (2, 1, z) := if_pos rfl
    refine t263_17 (s0 := some (tN τ)) (n1 := n1) (by omega) e1 ?_
    rw [if_pos (by omega)]
    refine g_acp (ty := 1) (ln := n1) (mn := z) (rest := []) rfl rfl rfl (by omega) (by omega) e1 e2 (by omega) (by omega) (by omega) (by omega) (by omega) (by omega) ?_
    refine g_sk 1 (pc1 := 32) (st1 := [AR (tN τ)]) rfl ?_
    refine g_aret rfl rfl (k _ ?_ (fun F => F.n.r) rfl rfl e2 (fun i hi => ?_))
    · exact OC.rn OC.rf.n (Nat.le_refl _)
    · show rw2 _ (tN τ) _ (tN τ) i = _
      rw [rw2_row]
      show (if ((0 : Int)).toNat ≤ i ∧ i < ((0 : Int)).toNat + ((z : Int)).toNat then tI (nC τ (2, 1, z) z) a (((0 : Int)).toNat + (i - ((0 : Int)).toNat)) else _) = _
      rw [Int.toNat_natCast, show ((0 : Int)).toNat = 0 from rfl, if_pos (by omega), Nat.zero_add, Nat.sub_zero]
      exact congrFun (rw2_oth (tI τ) (fun _ => 0) (show a ≠ tN τ by omega)) i
  · have e : z = n1 := by omega
    subst e
    refine g_cln (rest := []) (n := z) rfl rfl rfl (by omega) sa (by decide) ?_
    have e2 : tS (rI (nC τ (2, 1, z) z) (tN τ) (tI τ a)) (tN τ) = (2, 1, z) := if_pos rfl
    refine g_csa (ty := 1) (n := z) rfl rfl (by decide) e2 ?_
    refine g_aret rfl rfl (k _ (OC.rn OC.rf.n (Nat.le_refl _)) (fun F => F.n.r) rfl rfl e2 (fun i _ => ?_))
    show rw2 _ (tN τ) _ (tN τ) i = _
    rw [rw2_row]
/-- code: what was read is kept -/
theorem c81 {d : Nat} {τ : T2} {Q : RS → T2 → Prop} {f : Nat → Int} {n z : Nat} (F : FX2 τ) (X : TxC τ f n) (h10 : tI τ 73 10 = (z : Int)) (hz : z < 1200) (hd : 20 ≤ d) (k : ∀ τ1, OC (fun _ _ => False) τ τ1 → FX2 τ1 → tN τ1 = tN τ + 3 → tZ τ1 ≤ tZ τ + 1502 → CoA τ1 (tN τ) → tP τ1 (tN τ) 0 = some (tN τ + 1) → tP τ1 (tN τ) 1 = some (tN τ + 2) → tS τ1 (tN τ + 1) = (2, 0, z) → tS τ1 (tN τ + 2) = (2, 1, n) → (∀ i, i < z → tI τ1 (tN τ + 1) i = tI τ 75 i) → (∀ i, i < n → tI τ1 (tN τ + 2) i = f i) → Q (.inl (some (AR (tN τ)))) τ1) : G d 81 0 [vR 73] [] τ Q := by
  have N := F.1
  obtain ⟨x1, x2, x3, x4⟩ := X
  refine t81_0 ?_
  have o1 : OC (fun _ _ => False) τ (nC τ (1, 3, 0) 2) := OC.rf.n
  have F1 : FX2 (nC τ (1, 3, 0) 2) := F.n
  have e1 : tS (nC τ (1, 3, 0) 2) (tN τ) = (1, 3, 0) := if_pos rfl
  have n1 : tN (nC τ (1, 3, 0) 2) = tN τ + 1 := rfl
  have z1 : tZ (nC τ (1, 3, 0) 2) = tZ τ + 2 := rfl
  generalize nC τ (1, 3, 0) 2 = τ1 at *
  have sm1 : ∀ a k, a < tN τ → tI τ1 a k = tI τ a k ∧ tP τ1 a k = tP τ a k := fun a k h => o1.2.2.2 a k h (fun z => z)
  refine t81_3 (s0 := some (tN τ)) (by omega) (s73 F1).1 ?_
  rw [(s73 F1).2.1, (sm1 73 10 (by omega)).1, h10]
  refine g_cpI (n1 := 1200) (s73 F1).2.2 (by omega) hz (by omega) (by omega) (fun τ2 o2 f2 n2 z2 e2 v2 _ => ?_)
  have F2 := f2 F1
  have sm2 : ∀ a k, a < tN τ1 → tI τ2 a k = tI τ1 a k ∧ tP τ2 a k = tP τ1 a k := fun a k h => o2.2.2.2 a k h (fun z => z)
  refine t81_15 (s0 := some (tN τ1)) (s1 := some (tN τ)) (s2 := some (tN τ)) (by omega) (s73 F2).1 ?_
  rw [(sm2 73 0 (by omega)).2, (sm1 73 0 (by omega)).2, x1, (sm2 73 1 (by omega)).1, (sm1 73 1 (by omega)).1, x2]
  refine g_cpB (n1 := 300) (F2.sh rfl (by omega) (by omega)) (by omega) x3 (by omega) (by omega) (fun τ3 o3 f3 n3 z3 e3 v3 => ?_)
  have F3 := f3 F2
  have sm3 : ∀ a k, a < tN τ2 → tI τ3 a k = tI τ2 a k ∧ tP τ3 a k = tP τ2 a k := fun a k h => o3.2.2.2 a k h (fun z => z)
  have q3 : tS τ3 (tN τ) = (1, 3, 0) := by rw [o3.2.2.1 (tN τ) (by omega), o2.2.2.1 (tN τ) (by omega)]; exact e1
  refine t81_26 (s0 := some (tN τ2)) (s1 := some (tN τ1)) (s2 := tN τ) (s3 := some (tN τ)) (by omega) (t4_0 (r1 := some (tN τ1)) (r2 := some (tN τ2)) (by omega) q3 (t81_29 (s0 := some (tN τ)) ?_))
  have pn : PTI (tN τ) 0 = none ∧ PTI (tN τ) 1 = none := by
    have key : ∀ k q, PTI (tN τ) k = some q → False := fun k q hq => by
      have := (PTF_v (PTI_PTF hq)).2.2.2
      omega
    refine ⟨?_, ?_⟩
    · cases h : PTI (tN τ) 0 with
      | none => rfl
      | some q => exact (key 0 q h).elim
    · cases h : PTI (tN τ) 1 with
      | none => rfl
      | some q => exact (key 1 q h).elim
  have o3' : OC (fun _ _ => False) τ τ3 := (o1.tr o2).tr o3
  have eN : tN τ1 = tN τ + 1 ∧ tN τ2 = tN τ + 2 := ⟨n1, by omega⟩
  rw [eN.1] at e2 v2
  rw [eN.2] at e3 v3
  rw [eN.1, eN.2]
  refine k _ ((o3'.qn (Nat.le_refl _)).qn (Nat.le_refl _)) ((F3.q pn.1).q pn.2) (by show tN τ3 = _; omega) (by show tZ τ3 ≤ _; omega) ⟨N, by show tN τ < tN τ3; omega, q3⟩ ?_ ?_ ?_ e3 (fun i hi => ?_) (fun i hi => ?_)
  · rw [tP_uP, if_neg (by omega), tP_uP, if_pos ⟨rfl, rfl⟩]
  · rw [tP_uP, if_pos ⟨rfl, rfl⟩]
  · show tS τ3 (tN τ + 1) = _
    rw [o3.2.2.1 (tN τ + 1) (by omega)]; exact e2
  · show tI τ3 (tN τ + 1) i = _
    rw [(sm3 (tN τ + 1) i (by omega)).1, v2 i hi, (sm1 75 i (by omega)).1]
  · show tI τ3 (tN τ + 2) i = _
    rw [v3 i hi, (sm2 65 i (by omega)).1, (sm1 65 i (by omega)).1, x4 i hi]
/-- isTextFor -/
theorem c137 {d : Nat} {τ : T2} {Q : RS → T2 → Prop} {c : CO} {n : Nat} {x y wk : Int} (F : FX2 τ) (R : RC τ c) (w : WF c) (hT : tI τ 64 1 = (n : Int)) (h3 : n ≤ 300) (hd : 2 ≤ d) (k1 : ∀ r m : Nat, r < cn c 0 → x = (r : Int) → m ≤ n → y = (m : Int) → (wk ≠ 0 → cD c 1 r 0 ≠ 0) → Q (.inl (some (AI 1))) τ) (k0 : ¬ (0 ≤ x ∧ x < (cn c 0 : Int)) → Q (.inl (some (AI 0))) (uI τ 64 16 1)) (k9 : ∀ r : Nat, r < cn c 0 → x = (r : Int) → wk ≠ 0 → cD c 1 r 0 = 0 → Q (.inl (some (AI 0))) (uI τ 64 16 9)) (k2 : ∀ r : Nat, r < cn c 0 → x = (r : Int) → (wk ≠ 0 → cD c 1 r 0 ≠ 0) → ¬ (0 ≤ y ∧ y ≤ (n : Int)) → Q (.inl (some (AI 0))) (uI τ 64 16 2)) : G d 137 0 [vR 64, vI x, vI wk, vI y] [] τ Q := by
  have s0 : tS τ 64 = (1, 11, 0) := F.sh rfl (by omega) (by omega)
  have h20 := w.1.1
  refine t137_0 (by omega) s0 (c129 F R.1.1 h20 (fun r hr e => ?_) (fun e => ?_))
  · subst e
    have fin : (wk ≠ 0 → cD c 1 r 0 ≠ 0) → G (d - 1) 132 0 [vR 64, vI y] [] τ (KC d 137 41 44 [vR 64, none, none, none] [] Q) := fun hk => c132 F hT h3 (fun m hm e => t137_44 s0 (fun _ => k1 r m hr rfl hm e hk) (fun q => absurd q (by decide))) (fun e => t137_44 s0 (fun q => absurd rfl q) (fun _ => k2 r hr rfl hk (by omega)))
    exact t137_5 (q4 := 66) (n6 := 20) (q9 := 92 + 4 * r) (by omega) s0 (F.p rfl) (F.sh rfl (by omega) (by omega)) (fun _ _ => by omega) (fun _ _ => by rw [Int.toNat_natCast]; exact F.p (ptR r (by omega)).1) (F.sh (shR r (by omega)).1 (by omega) (by omega)) (fun _ q => fin (fun z => absurd q z)) (fun _ _ q => fin (fun _ => by rw [← R.r0 hr]; exact q)) (fun _ q1 q2 => k9 r hr rfl q1 (by rw [← R.r0 hr]; exact q2)) (fun q => absurd q (by decide))
  · exact t137_5 (q4 := 66) (n6 := 20) (q9 := 92) (by omega) s0 (F.p rfl) (F.sh rfl (by omega) (by omega)) (fun q => absurd rfl q) (fun q => absurd rfl q) (F.sh rfl (by omega) (by omega)) (fun q => absurd rfl q) (fun q => absurd rfl q) (fun q => absurd rfl q) (fun _ => k0 (by omega))
/-- a text with a fault; one that is taken -/
def flS (S : HSx) (e : Int × Nat) : HSx := (S.1, S.2.1, [], S.2.2.2.1, 4, (e.2 : Int), e.1)
def atS (S : HSx) (c1 : CO) : HSx := (c1, S.1 :: S.2.1.take 99, [], S.2.2.2.1, 0, -1, 0)
theorem WS.fl {S : HSx} (w : WS S) (e : Int × Nat) : WS (flS S e) := ⟨w.1, Nat.zero_le _, fun x hx => (by cases hx), w.2.2.2.1, fun h => absurd (show (4 : Int) = 4 from rfl) h⟩
theorem WS.at {S : HSx} {c1 : CO} (w : WS S) (h : WF c1) : WS (atS S c1) := ⟨(w.act h).1, Nat.zero_le _, fun x hx => (by cases hx), w.2.2.2.1, fun _ => rfl⟩
def TXC (a k : Nat) : Prop := a = 73 ∨ a = 75 ∨ (a = 64 ∧ (k = 1 ∨ k = 16 ∨ k = 17))
theorem CI.fl {τ τ1 : T2} {S : HSx} {e : Int × Nat} (C : CI τ S) (w : WS S) (F : FX2 τ) (o : OC TXC τ τ1) (h1 : tI τ1 64 1 = 0) (h16 : tI τ1 64 16 = 4) (h7 : tI τ1 73 7 = (e.2 : Int)) (h17 : tI τ1 64 17 = e.1) : CI τ1 (flS S e) := by
  have C0 := C
  obtain ⟨-, -, T, O, -, -, -⟩ := C0
  exact C.up w F o (fun a k z => by unfold TXC at z; unfold FC DC LGP; omega) ⟨h1, fun j hj => (by cases hj)⟩ (O.oc F o (fun a k z => by unfold TXC at z; omega)) h16 (fun _ => h7) h17
/-- the same of the model -/
def TXM (a k : Nat) : Prop := (a = 220 ∧ (k ≤ 3 ∨ (15 ≤ k ∧ k ≤ 26))) ∨ (a = 225 ∧ (k = 6 ∨ k = 7))
theorem MI.fl {τ τ1 : T2} {S : HSx} {e : Int × Nat} (C : MI τ S) (w : WS S) (F : FX2 τ) (o : OC TXM τ τ1) (h15 : tI τ1 220 15 = 0) (h1 : tI τ1 220 1 = 4) (h2 : tI τ1 220 2 = (e.2 : Int)) (h3 : tI τ1 220 3 = e.1) : MI τ1 (flS S e) := by
  have C0 := C
  obtain ⟨-, -, T, O, -, -, -⟩ := C0
  exact C.up w F o (fun a k z => by unfold TXM at z; unfold FM DM AMP; omega) ⟨h15, fun j hj => (by cases hj)⟩ (O.oc F o (fun a k z => by unfold TXM at z; omega)) h1 h2 h3
theorem uf_at {α : Type} {f : Nat → α} {i : Nat} {x : α} : uf f i x i = x := if_pos rfl
theorem uf_ne {α : Type} {f : Nat → α} {i j : Nat} {x : α} (h : j ≠ i) : uf f i x j = f j := if_neg h
theorem uf_back {α : Type} {f : Nat → α} {i : Nat} {x : α} : uf (uf f i x) i (f i) = f := by
  funext j
  by_cases h : j = i
  · rw [h, uf_at]
  · rw [uf_ne h, uf_ne h]
theorem Fr.q {τ : T2} {a k : Nat} {x : Option Nat} (h : a < 473) : Fr τ (uP τ a k x) := Fr.v h
theorem pnR (r : Nat) (h : r < 20) : PTI (92 + 4 * r) 9 = none ∧ PTI (92 + 4 * r) 10 = none ∧ PTI (92 + 4 * r) 11 = none ∧ PTI (336 + 4 * r) 9 = none ∧ PTI (336 + 4 * r) 10 = none ∧ PTI (336 + 4 * r) 11 = none := (show ∀ r : Nat, r < 20 → (PTI (92 + 4 * r) 9 = none ∧ PTI (92 + 4 * r) 10 = none ∧ PTI (92 + 4 * r) 11 = none ∧ PTI (336 + 4 * r) 9 = none ∧ PTI (336 + 4 * r) 10 = none ∧ PTI (336 + 4 * r) 11 = none) by decide +kernel) r h
/-- a rule of a riddle is set -/
def cRu (c : CO) (r : Nat) (v : Option RSm) : CO := (c.1, c.2.1, uf (cR c) r v, cF c, cW c, cP c)
theorem cRu_back {c : CO} {r : Nat} {v : Option RSm} : cRu (cRu c r v) r (cR c r) = c := by
  show ((c.1, c.2.1, uf (uf (cR c) r v) r (cR c r), cF c, cW c, cP c) : CO) = c
  rw [uf_back]
  rfl
theorem RC.ru {τ : T2} {c : CO} {r : Nat} {p : Option Nat} {v : Option RSm} (R : RC τ c) (w : WF c) (hr : r < cn c 0) (h : OkO p v (RuC τ)) : RC (uP τ (92 + 4 * r) 9 p) (cRu c r v) := by
  have h20 := w.1.1
  obtain ⟨h1, hI, h5, h6⟩ := R
  have fr : Fr τ (uP τ (92 + 4 * r) 9 p) := Fr.q (by omega)
  refine ⟨h1, hI, h5, fun i hi => ?_⟩
  have hi : i < cn c 0 := hi
  obtain ⟨a1, a2, a3⟩ := h6 i hi
  have oth : ∀ k, ¬ (i = r ∧ k = 9) → tP (uP τ (92 + 4 * r) 9 p) (92 + 4 * i) k = tP τ (92 + 4 * i) k := fun k hk => by rw [tP_uP, if_neg (by omega)]
  by_cases e : i = r
  · subst e
    have at0 : tP (uP τ (92 + 4 * i) 9 p) (92 + 4 * i) 9 = p := by rw [tP_uP, if_pos ⟨rfl, rfl⟩]
    rw [at0, oth 10 (by omega), oth 11 (by omega)]
    refine ⟨?_, a2.mo fun _ _ z => z.fr fr, a3.mo fun _ _ z => z.fr fr⟩
    show OkO p (uf (cR c) i v i) _
    rw [uf_at]; exact h.mo fun _ _ z => z.fr fr
  · rw [oth 9 (by omega), oth 10 (by omega), oth 11 (by omega)]
    refine ⟨?_, a2.mo fun _ _ z => z.fr fr, a3.mo fun _ _ z => z.fr fr⟩
    show OkO _ (uf (cR c) r v i) _
    rw [uf_ne e]; exact a1.mo fun _ _ z => z.fr fr
theorem RM.ru {τ : T2} {c : CO} {r : Nat} {p : Option Nat} {v : Option RSm} (R : RM τ c) (w : WF c) (hr : r < cn c 0) (h : OkO p v (RuM τ)) : RM (uP τ (336 + 4 * r) 9 p) (cRu c r v) := by
  have h20 := w.1.1
  obtain ⟨h1, hI, h5, h7, h6⟩ := R
  have fr : Fr τ (uP τ (336 + 4 * r) 9 p) := Fr.q (by omega)
  refine ⟨h1, hI, h5, h7, fun i hi => ?_⟩
  have hi : i < cn c 0 := hi
  obtain ⟨a1, a2, a3⟩ := h6 i hi
  have oth : ∀ k, ¬ (i = r ∧ k = 9) → tP (uP τ (336 + 4 * r) 9 p) (336 + 4 * i) k = tP τ (336 + 4 * i) k := fun k hk => by rw [tP_uP, if_neg (by omega)]
  by_cases e : i = r
  · subst e
    have at0 : tP (uP τ (336 + 4 * i) 9 p) (336 + 4 * i) 9 = p := by rw [tP_uP, if_pos ⟨rfl, rfl⟩]
    rw [at0, oth 10 (by omega), oth 11 (by omega)]
    refine ⟨?_, a2.mo fun _ _ z => z.fr fr, a3.mo fun _ _ z => z.fr fr⟩
    show OkO p (uf (cR c) i v i) _
    rw [uf_at]; exact h.mo fun _ _ z => z.fr fr
  · rw [oth 9 (by omega), oth 10 (by omega), oth 11 (by omega)]
    refine ⟨?_, a2.mo fun _ _ z => z.fr fr, a3.mo fun _ _ z => z.fr fr⟩
    show OkO _ (uf (cR c) r v i) _
    rw [uf_ne e]; exact a1.mo fun _ _ z => z.fr fr
theorem und_ru_C {τ : T2} {c : CO} (w : WF c) {r : Nat} (hr : r < cn c 0) {p : Option Nat} {v : Option RSm} (h : OkO p (cR c r) (RuC τ)) : UndC τ ((2, (r : Int), 0, 0, 0), p) (cRu c r v) c := by
  intro τ1 d Q hd fr F R ⟨⟨m1, m2, m3, m4, m5⟩, m6⟩ k
  have l1 : tI τ1 89 4 = 2 := m1
  have l2 : tI τ1 89 5 = (r : Int) := m2
  have l6 : tP τ1 89 9 = p := m6
  have h20 := w.1.1
  refine ⟨fun _ => ?_, fun h => absurd (show 8 ≤ (2 : Int) from h) (by decide)⟩
  have s89 : tS τ1 89 = (1, 5, 0) := F.sh rfl (by omega) (by omega)
  have s64 : tS τ1 64 = (1, 11, 0) := F.sh rfl (by omega) (by omega)
  have sr := F.sh (shR r (by omega)).1 (by omega) (by omega)
  refine t145_0 (q2 := 89) (q6 := 70) (by omega) s64 (F.p rfl) s89 (F.p rfl) (F.sh rfl (by omega) (by omega)) (fun _ => ?_) (fun h => by rw [l1] at h; exact absurd h (by decide))
  rw [l2]
  refine c129 F R.1.1 h20 (fun r1 hr1 e => ?_) (fun e => by have : cn (cRu c r v) 0 = cn c 0 := rfl; omega)
  have e : r1 = r := by omega
  subst e
  refine t145_39 (q3 := 66) (n5 := 20) (q8 := 89) s64 (F.p rfl) (F.sh rfl (by omega) (by omega)) (fun _ => by omega) (F.p rfl) s89 (fun _ => ?_) (fun c => absurd c (by decide))
  rw [Int.toNat_natCast, F.p (ptR r1 (by omega)).1, l1]
  refine t145_57 (r2 := some (92 + 4 * r1)) (fun c => absurd c (by decide)) (fun _ => ?_) (fun c => absurd c (by decide)) (fun c => absurd c (by decide)) (fun c => absurd c (by decide)) (fun c => absurd c (by decide))
  refine t145_122 (q2 := 89) s64 (F.p rfl) s89 sr ?_
  rw [l6]
  have R2 := R.ru (v := cR c r1) (p := p) w hr (h.mo fun _ _ z => z.fr fr)
  rw [cRu_back] at R2
  exact k _ (OC.rf.q (by unfold DC; omega)) (F.q (pnR r1 (by omega)).1) rfl rfl R2
theorem und_ru_M {τ : T2} {c : CO} (w : WF c) {r : Nat} (hr : r < cn c 0) {p0 p1 p2 : Option Nat} {v : Option RSm} (h : OkO p0 (cR c r) (RuM τ)) : UndM τ ((1, (r : Int), 0, 0, 0), p0, p1, p2) (cRu c r v) c := by
  intro τ1 d Q q hd fr F R q1 q2 ⟨⟨m1, m2, m3, m4, m5⟩, n0, n1, n2⟩ k
  have l1 : tI τ1 q 0 = 1 := m1
  have l2 : tI τ1 q 1 = (r : Int) := m2
  have l6 : tP τ1 q 5 = p0 := n0
  have h20 := w.1.1
  have sq := shq F q1 q2
  have sr := F.sh (shM r (by omega)).1 (by omega) (by omega)
  show G d 171 38 [vR 220, vR q, none] [AI 1] τ1 Q
  refine t171_38 (r1 := some q) (fun c => absurd c (by decide)) (fun _ => ?_) (fun c => absurd c (by decide)) (fun c => absurd c (by decide)) (fun c => absurd c (by decide)) (fun c => absurd c (by decide)) (fun c => absurd c (by decide)) (fun c => absurd c (by decide)) (fun c => absurd c (by decide)) (fun c => absurd c (by decide)) (fun c => absurd c (by decide))
  refine t171_105 (q2 := 221) (n5 := 20) (q8 := 336 + 4 * r) (F.sh rfl (by omega) (by omega)) (F.p rfl) sq (F.sh rfl (by omega) (by omega)) (by rw [l2]; omega) (by rw [l2, Int.toNat_natCast]; exact F.p (ptM r (by omega)).1) sr ?_
  rw [l6]
  have R2 := R.ru (v := cR c r) (p := p0) w hr (h.mo fun _ _ z => z.fr fr)
  rw [cRu_back] at R2
  exact k _ (OC.rf.q (by unfold DM; omega)) (F.q (pnR r (by omega)).2.2.2.1) rfl rfl R2
/-- a form of a riddle is set -/
def cFo (c : CO) (r : Nat) (v : Option FSm) : CO := (c.1, c.2.1, cR c, uf (cF c) r v, cW c, cP c)
theorem cFo_back {c : CO} {r : Nat} {v : Option FSm} : cFo (cFo c r v) r (cF c r) = c := by
  show ((c.1, c.2.1, cR c, uf (uf (cF c) r v) r (cF c r), cW c, cP c) : CO) = c
  rw [uf_back]
  rfl
theorem RC.fo {τ : T2} {c : CO} {r : Nat} {p : Option Nat} {v : Option FSm} (R : RC τ c) (w : WF c) (hr : r < cn c 0) (h : OkO p v (FoC τ)) : RC (uP τ (92 + 4 * r) 10 p) (cFo c r v) := by
  have h20 := w.1.1
  obtain ⟨h1, hI, h5, h6⟩ := R
  have fr : Fr τ (uP τ (92 + 4 * r) 10 p) := Fr.q (by omega)
  refine ⟨h1, hI, h5, fun i hi => ?_⟩
  have hi : i < cn c 0 := hi
  obtain ⟨a1, a2, a3⟩ := h6 i hi
  have oth : ∀ k, ¬ (i = r ∧ k = 10) → tP (uP τ (92 + 4 * r) 10 p) (92 + 4 * i) k = tP τ (92 + 4 * i) k := fun k hk => by rw [tP_uP, if_neg (by omega)]
  by_cases e : i = r
  · subst e
    have at0 : tP (uP τ (92 + 4 * i) 10 p) (92 + 4 * i) 10 = p := by rw [tP_uP, if_pos ⟨rfl, rfl⟩]
    rw [oth 9 (by omega), at0, oth 11 (by omega)]
    refine ⟨a1.mo fun _ _ z => z.fr fr, ?_, a3.mo fun _ _ z => z.fr fr⟩
    show OkO p (uf (cF c) i v i) _
    rw [uf_at]; exact h.mo fun _ _ z => z.fr fr
  · rw [oth 9 (by omega), oth 10 (by omega), oth 11 (by omega)]
    refine ⟨a1.mo fun _ _ z => z.fr fr, ?_, a3.mo fun _ _ z => z.fr fr⟩
    show OkO _ (uf (cF c) r v i) _
    rw [uf_ne e]; exact a2.mo fun _ _ z => z.fr fr
theorem RM.fo {τ : T2} {c : CO} {r : Nat} {p : Option Nat} {v : Option FSm} (R : RM τ c) (w : WF c) (hr : r < cn c 0) (h : OkO p v (FoM τ)) : RM (uP τ (336 + 4 * r) 10 p) (cFo c r v) := by
  have h20 := w.1.1
  obtain ⟨h1, hI, h5, h7, h6⟩ := R
  have fr : Fr τ (uP τ (336 + 4 * r) 10 p) := Fr.q (by omega)
  refine ⟨h1, hI, h5, h7, fun i hi => ?_⟩
  have hi : i < cn c 0 := hi
  obtain ⟨a1, a2, a3⟩ := h6 i hi
  have oth : ∀ k, ¬ (i = r ∧ k = 10) → tP (uP τ (336 + 4 * r) 10 p) (336 + 4 * i) k = tP τ (336 + 4 * i) k := fun k hk => by rw [tP_uP, if_neg (by omega)]
  by_cases e : i = r
  · subst e
    have at0 : tP (uP τ (336 + 4 * i) 10 p) (336 + 4 * i) 10 = p := by rw [tP_uP, if_pos ⟨rfl, rfl⟩]
    rw [oth 9 (by omega), at0, oth 11 (by omega)]
    refine ⟨a1.mo fun _ _ z => z.fr fr, ?_, a3.mo fun _ _ z => z.fr fr⟩
    show OkO p (uf (cF c) i v i) _
    rw [uf_at]; exact h.mo fun _ _ z => z.fr fr
  · rw [oth 9 (by omega), oth 10 (by omega), oth 11 (by omega)]
    refine ⟨a1.mo fun _ _ z => z.fr fr, ?_, a3.mo fun _ _ z => z.fr fr⟩
    show OkO _ (uf (cF c) r v i) _
    rw [uf_ne e]; exact a2.mo fun _ _ z => z.fr fr
theorem und_fo_C {τ : T2} {c : CO} (w : WF c) {r : Nat} (hr : r < cn c 0) {p : Option Nat} {v : Option FSm} (h : OkO p (cF c r) (FoC τ)) : UndC τ ((3, (r : Int), 0, 0, 0), p) (cFo c r v) c := by
  intro τ1 d Q hd fr F R ⟨⟨m1, m2, m3, m4, m5⟩, m6⟩ k
  have l1 : tI τ1 89 4 = 3 := m1
  have l2 : tI τ1 89 5 = (r : Int) := m2
  have l6 : tP τ1 89 9 = p := m6
  have h20 := w.1.1
  refine ⟨fun _ => ?_, fun h => absurd (show 8 ≤ (3 : Int) from h) (by decide)⟩
  have s89 : tS τ1 89 = (1, 5, 0) := F.sh rfl (by omega) (by omega)
  have s64 : tS τ1 64 = (1, 11, 0) := F.sh rfl (by omega) (by omega)
  have sr := F.sh (shR r (by omega)).1 (by omega) (by omega)
  refine t145_0 (q2 := 89) (q6 := 70) (by omega) s64 (F.p rfl) s89 (F.p rfl) (F.sh rfl (by omega) (by omega)) (fun _ => ?_) (fun h => by rw [l1] at h; exact absurd h (by decide))
  rw [l2]
  refine c129 F R.1.1 h20 (fun r1 hr1 e => ?_) (fun e => by have : cn (cFo c r v) 0 = cn c 0 := rfl; omega)
  have e : r1 = r := by omega
  subst e
  refine t145_39 (q3 := 66) (n5 := 20) (q8 := 89) s64 (F.p rfl) (F.sh rfl (by omega) (by omega)) (fun _ => by omega) (F.p rfl) s89 (fun _ => ?_) (fun c => absurd c (by decide))
  rw [Int.toNat_natCast, F.p (ptR r1 (by omega)).1, l1]
  refine t145_57 (r2 := some (92 + 4 * r1)) (fun c => absurd c (by decide)) (fun c => absurd c (by decide)) (fun _ => ?_) (fun c => absurd c (by decide)) (fun c => absurd c (by decide)) (fun c => absurd c (by decide))
  refine t145_136 (q2 := 89) s64 (F.p rfl) s89 sr ?_
  rw [l6]
  have R2 := R.fo (v := cF c r1) (p := p) w hr (h.mo fun _ _ z => z.fr fr)
  rw [cFo_back] at R2
  exact k _ (OC.rf.q (by unfold DC; omega)) (F.q (pnR r1 (by omega)).2.1) rfl rfl R2
theorem und_fo_M {τ : T2} {c : CO} (w : WF c) {r : Nat} (hr : r < cn c 0) {p0 p1 p2 : Option Nat} {v : Option FSm} (h : OkO p1 (cF c r) (FoM τ)) : UndM τ ((2, (r : Int), 0, 0, 0), p0, p1, p2) (cFo c r v) c := by
  intro τ1 d Q q hd fr F R q1 q2 ⟨⟨m1, m2, m3, m4, m5⟩, n0, n1, n2⟩ k
  have l1 : tI τ1 q 0 = 2 := m1
  have l2 : tI τ1 q 1 = (r : Int) := m2
  have l6 : tP τ1 q 6 = p1 := n1
  have h20 := w.1.1
  have sq := shq F q1 q2
  have sr := F.sh (shM r (by omega)).1 (by omega) (by omega)
  show G d 171 38 [vR 220, vR q, none] [AI 2] τ1 Q
  refine t171_38 (r1 := some q) (fun c => absurd c (by decide)) (fun c => absurd c (by decide)) (fun _ => ?_) (fun c => absurd c (by decide)) (fun c => absurd c (by decide)) (fun c => absurd c (by decide)) (fun c => absurd c (by decide)) (fun c => absurd c (by decide)) (fun c => absurd c (by decide)) (fun c => absurd c (by decide)) (fun c => absurd c (by decide))
  refine t171_124 (q2 := 221) (n5 := 20) (q8 := 336 + 4 * r) (F.sh rfl (by omega) (by omega)) (F.p rfl) sq (F.sh rfl (by omega) (by omega)) (by rw [l2]; omega) (by rw [l2, Int.toNat_natCast]; exact F.p (ptM r (by omega)).1) sr ?_
  rw [l6]
  have R2 := R.fo (v := cF c r) (p := p1) w hr (h.mo fun _ _ z => z.fr fr)
  rw [cFo_back] at R2
  exact k _ (OC.rf.q (by unfold DM; omega)) (F.q (pnR r (by omega)).2.2.2.2.1) rfl rfl R2
/-- a working of a riddle is set -/
def cWo (c : CO) (r : Nat) (v : Option WSm) : CO := (c.1, c.2.1, cR c, cF c, uf (cW c) r v, cP c)
theorem cWo_back {c : CO} {r : Nat} {v : Option WSm} : cWo (cWo c r v) r (cW c r) = c := by
  show ((c.1, c.2.1, cR c, cF c, uf (uf (cW c) r v) r (cW c r), cP c) : CO) = c
  rw [uf_back]
  rfl
theorem RC.wo {τ : T2} {c : CO} {r : Nat} {p : Option Nat} {v : Option WSm} (R : RC τ c) (w : WF c) (hr : r < cn c 0) (h : OkO p v (WoC τ r)) : RC (uP τ (92 + 4 * r) 11 p) (cWo c r v) := by
  have h20 := w.1.1
  obtain ⟨h1, hI, h5, h6⟩ := R
  have fr : Fr τ (uP τ (92 + 4 * r) 11 p) := Fr.q (by omega)
  refine ⟨h1, hI, h5, fun i hi => ?_⟩
  have hi : i < cn c 0 := hi
  obtain ⟨a1, a2, a3⟩ := h6 i hi
  have oth : ∀ k, ¬ (i = r ∧ k = 11) → tP (uP τ (92 + 4 * r) 11 p) (92 + 4 * i) k = tP τ (92 + 4 * i) k := fun k hk => by rw [tP_uP, if_neg (by omega)]
  by_cases e : i = r
  · subst e
    have at0 : tP (uP τ (92 + 4 * i) 11 p) (92 + 4 * i) 11 = p := by rw [tP_uP, if_pos ⟨rfl, rfl⟩]
    rw [oth 9 (by omega), oth 10 (by omega), at0]
    refine ⟨a1.mo fun _ _ z => z.fr fr, a2.mo fun _ _ z => z.fr fr, ?_⟩
    show OkO p (uf (cW c) i v i) _
    rw [uf_at]; exact h.mo fun _ _ z => z.fr fr
  · rw [oth 9 (by omega), oth 10 (by omega), oth 11 (by omega)]
    refine ⟨a1.mo fun _ _ z => z.fr fr, a2.mo fun _ _ z => z.fr fr, ?_⟩
    show OkO _ (uf (cW c) r v i) _
    rw [uf_ne e]; exact a3.mo fun _ _ z => z.fr fr
theorem RM.wo {τ : T2} {c : CO} {r : Nat} {p : Option Nat} {v : Option WSm} (R : RM τ c) (w : WF c) (hr : r < cn c 0) (h : OkO p v (WoM τ r)) : RM (uP τ (336 + 4 * r) 11 p) (cWo c r v) := by
  have h20 := w.1.1
  obtain ⟨h1, hI, h5, h7, h6⟩ := R
  have fr : Fr τ (uP τ (336 + 4 * r) 11 p) := Fr.q (by omega)
  refine ⟨h1, hI, h5, h7, fun i hi => ?_⟩
  have hi : i < cn c 0 := hi
  obtain ⟨a1, a2, a3⟩ := h6 i hi
  have oth : ∀ k, ¬ (i = r ∧ k = 11) → tP (uP τ (336 + 4 * r) 11 p) (336 + 4 * i) k = tP τ (336 + 4 * i) k := fun k hk => by rw [tP_uP, if_neg (by omega)]
  by_cases e : i = r
  · subst e
    have at0 : tP (uP τ (336 + 4 * i) 11 p) (336 + 4 * i) 11 = p := by rw [tP_uP, if_pos ⟨rfl, rfl⟩]
    rw [oth 9 (by omega), oth 10 (by omega), at0]
    refine ⟨a1.mo fun _ _ z => z.fr fr, a2.mo fun _ _ z => z.fr fr, ?_⟩
    show OkO p (uf (cW c) i v i) _
    rw [uf_at]; exact h.mo fun _ _ z => z.fr fr
  · rw [oth 9 (by omega), oth 10 (by omega), oth 11 (by omega)]
    refine ⟨a1.mo fun _ _ z => z.fr fr, a2.mo fun _ _ z => z.fr fr, ?_⟩
    show OkO _ (uf (cW c) r v i) _
    rw [uf_ne e]; exact a3.mo fun _ _ z => z.fr fr
theorem und_wo_C {τ : T2} {c : CO} (w : WF c) {r : Nat} (hr : r < cn c 0) {p : Option Nat} {v : Option WSm} (h : OkO p (cW c r) (WoC τ r)) : UndC τ ((4, (r : Int), 0, 0, 0), p) (cWo c r v) c := by
  intro τ1 d Q hd fr F R ⟨⟨m1, m2, m3, m4, m5⟩, m6⟩ k
  have l1 : tI τ1 89 4 = 4 := m1
  have l2 : tI τ1 89 5 = (r : Int) := m2
  have l6 : tP τ1 89 9 = p := m6
  have h20 := w.1.1
  refine ⟨fun _ => ?_, fun h => absurd (show 8 ≤ (4 : Int) from h) (by decide)⟩
  have s89 : tS τ1 89 = (1, 5, 0) := F.sh rfl (by omega) (by omega)
  have s64 : tS τ1 64 = (1, 11, 0) := F.sh rfl (by omega) (by omega)
  have sr := F.sh (shR r (by omega)).1 (by omega) (by omega)
  refine t145_0 (q2 := 89) (q6 := 70) (by omega) s64 (F.p rfl) s89 (F.p rfl) (F.sh rfl (by omega) (by omega)) (fun _ => ?_) (fun h => by rw [l1] at h; exact absurd h (by decide))
  rw [l2]
  refine c129 F R.1.1 h20 (fun r1 hr1 e => ?_) (fun e => by have : cn (cWo c r v) 0 = cn c 0 := rfl; omega)
  have e : r1 = r := by omega
  subst e
  refine t145_39 (q3 := 66) (n5 := 20) (q8 := 89) s64 (F.p rfl) (F.sh rfl (by omega) (by omega)) (fun _ => by omega) (F.p rfl) s89 (fun _ => ?_) (fun c => absurd c (by decide))
  rw [Int.toNat_natCast, F.p (ptR r1 (by omega)).1, l1]
  refine t145_57 (r2 := some (92 + 4 * r1)) (fun c => absurd c (by decide)) (fun c => absurd c (by decide)) (fun c => absurd c (by decide)) (fun _ => ?_) (fun c => absurd c (by decide)) (fun c => absurd c (by decide))
  refine t145_150 (q2 := 89) s64 (F.p rfl) s89 sr ?_
  rw [l6]
  have R2 := R.wo (v := cW c r1) (p := p) w hr (h.mo fun _ _ z => z.fr fr)
  rw [cWo_back] at R2
  exact k _ (OC.rf.q (by unfold DC; omega)) (F.q (pnR r1 (by omega)).2.2.1) rfl rfl R2
theorem und_wo_M {τ : T2} {c : CO} (w : WF c) {r : Nat} (hr : r < cn c 0) {p0 p1 p2 : Option Nat} {v : Option WSm} (h : OkO p2 (cW c r) (WoM τ r)) : UndM τ ((3, (r : Int), 0, 0, 0), p0, p1, p2) (cWo c r v) c := by
  intro τ1 d Q q hd fr F R q1 q2 ⟨⟨m1, m2, m3, m4, m5⟩, n0, n1, n2⟩ k
  have l1 : tI τ1 q 0 = 3 := m1
  have l2 : tI τ1 q 1 = (r : Int) := m2
  have l6 : tP τ1 q 7 = p2 := n2
  have h20 := w.1.1
  have sq := shq F q1 q2
  have sr := F.sh (shM r (by omega)).1 (by omega) (by omega)
  show G d 171 38 [vR 220, vR q, none] [AI 3] τ1 Q
  refine t171_38 (r1 := some q) (fun c => absurd c (by decide)) (fun c => absurd c (by decide)) (fun c => absurd c (by decide)) (fun _ => ?_) (fun c => absurd c (by decide)) (fun c => absurd c (by decide)) (fun c => absurd c (by decide)) (fun c => absurd c (by decide)) (fun c => absurd c (by decide)) (fun c => absurd c (by decide)) (fun c => absurd c (by decide))
  refine t171_143 (q2 := 221) (n5 := 20) (q8 := 336 + 4 * r) (F.sh rfl (by omega) (by omega)) (F.p rfl) sq (F.sh rfl (by omega) (by omega)) (by rw [l2]; omega) (by rw [l2, Int.toNat_natCast]; exact F.p (ptM r (by omega)).1) sr ?_
  rw [l6]
  have R2 := R.wo (v := cW c r) (p := p2) w hr (h.mo fun _ _ z => z.fr fr)
  rw [cWo_back] at R2
  exact k _ (OC.rf.q (by unfold DM; omega)) (F.q (pnR r (by omega)).2.2.2.2.2) rfl rfl R2
