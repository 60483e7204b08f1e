/-! rule: the calls -/
theorem OC.tn {P P1 : Nat → Nat → Prop} {τ τ1 τ2 : T2} (h : OC P τ τ1) (h1 : OC P1 τ1 τ2) (hp : ∀ a k, a < tN τ → P1 a k → P a k) : OC P τ τ2 := by
  obtain ⟨a1, a2, a3, a4⟩ := h
  obtain ⟨b1, b2, b3, b4⟩ := h1
  refine ⟨by omega, by omega, fun a ha => (b3 a (by omega)).trans (a3 a ha), fun a k ha hn => ?_⟩
  obtain ⟨c1, c2⟩ := a4 a k ha hn
  obtain ⟨d1, d2⟩ := b4 a k (by omega) (fun z => hn (hp a k ha z))
  exact ⟨d1.trans c1, d2.trans c2⟩
/-- what a reader of the class does with a text -/
def RdC {α : Type} (res : (Int × Nat) ⊕ α) (cd : (Nat → Int) → Nat → α → Prop) (f : Nat → Int) (n : Nat) (run : Nat → T2 → (RS → T2 → Prop) → Prop) : Prop := ∀ (d : Nat) (τ : T2) (Q : RS → T2 → Prop), 90 ≤ d → PC τ f n 0 0 0 → (∀ e τ1, res = .inl e → PK τ τ1 → FX2 τ1 → tI τ1 73 6 = e.1 → tI τ1 73 7 = (e.2 : Int) → Q (.inl (some (AI 0))) τ1) → (∀ g a c z τ1, res = .inr g → PK τ τ1 → PC τ1 f n a c z → z < 1200 → cd (tI τ1 75) z g → Q (.inl (some (AI 1))) τ1) → run d τ Q
theorem rdC_rule {f : Nat → Int} {n R : Nat} (hR : R ≤ 20) : RdC (pRule f n R) (fun o z g => SgR o 0 z g) f n (fun d τ Q => G d 50 0 [vR 73, vI (R : Int)] [] τ Q) := fun d τ Q hd h k0 k1 => c50 hR (by omega) h k0 (fun g a c z τ1 he p h1 hz sg => k1 g a c z τ1 he p h1 (by omega) sg)
def sp_rule (x y : Int) (S : HSx) : Int × HSx := if 0 ≤ x ∧ x < (cn S.1 0 : Int) then (if 0 ≤ y ∧ y ≤ ((sTp S).length : Int) then (match pRule (byt (sTp S)) y.toNat (cn S.1 0) with
  | .inl e => (0, flS S e)
  | .inr g => (1, atS S (cRu S.1 x.toNat (some g)))) else (0, rfS S 2)) else (0, rfS S 1)
theorem ws_rule {S : HSx} (w : WS S) {x y : Int} : WS (sp_rule x y S).2 := by
  have w1 := w.1 S.1 (by simp)
  unfold sp_rule
  split
  · split
    · split
      · exact w.fl _
      · exact w.at w1
    · exact w.rfs 2
  · exact w.rfs 1
theorem cc94 {x y : Int} : CCl 94 [vR 64, vI x, vI y] (sp_rule x y) := fun d τ S Q hd F C w k => by
  have s0 : ∀ {τ : T2}, FX2 τ → tS τ 64 = (1, 11, 0) := fun F => F.sh rfl (by omega) (by omega)
  have w1 := w.1 S.1 (by simp)
  have N := F.1
  have C0 := C
  obtain ⟨R, ⟨E, L, hc⟩, T, O, h3, h4, h5⟩ := C0
  have h20 := w1.1.1
  unfold sp_rule at k
  refine t94_0 (by omega) (s0 F) (c137 F R w1 T.1 w.2.1 (by omega) (fun r m hr e hm e2 hk => ?_) (fun h => ?_) (fun r hr e h1 h2 => ?_) (fun r hr e hk h => ?_))
  · subst e e2
    rw [if_pos (show 0 ≤ (r : Int) ∧ (r : Int) < (cn S.1 0 : Int) by omega), if_pos (show 0 ≤ (m : Int) ∧ (m : Int) ≤ ((sTp S).length : Int) by have : m ≤ (sTp S).length := hm; omega)] at k
    rw [Int.toNat_natCast] at k
    rw [Int.toNat_natCast] at k
    refine t94_7 (by omega) (s0 F) (fun _ => c138 F T w.2.1 hm (by omega) (fun τ1 o1 F1 n1 z1 X1 K1 e1 e6 e7 e8 e10 => ?_)) (fun q => absurd q (by decide))
    have hpc : PC τ1 (byt (sTp S)) m 0 0 0 := ⟨F1, X1, K1, Nat.zero_le _, e8, e10⟩
    have o01 : OC TXC τ τ1 := o1.mo fun a k z => by unfold BGC at z; unfold TXC; omega
    have R1 : RC τ1 S.1 := R.oc w1 F o01 (fun a k z => by unfold TXC at z; unfold DC; omega)
    refine t94_17 (by omega) (s0 F1) ?_
    rw [F1.p (show PTI 64 10 = some 73 from rfl), R1.1.1]
    refine rdC_rule h20 (d - 1) τ1 _ (by omega) hpc (fun e τ2 he p2 F2 x1 x2 => ?_) (fun g a c z τ2 he p2 pc2 hz cd => ?_)
    · rw [he] at k
      have o02 : OC TXC τ τ2 := o01.tr (p2.1.mo fun a k z => by unfold PPC at z; unfold TXC; omega)
      have N2 := F2.1
      have b2 : tI τ2 64 1 = 0 := by rw [(p2.1.2.2.2 64 1 (by omega) (by unfold PPC; omega)).1]; exact e1
      have o3 : OC TXC τ (uI (uI τ2 64 17 (tI τ2 73 6)) 64 16 4) := (o02.j (by unfold TXC; omega)).j (by unfold TXC; omega)
      refine t94_29 (by omega) (s0 F2) (t139_0 (q3 := 73) (s0 F2) (F2.p rfl) (s73 F2).1 (fun _ _ => by decide) (fun _ q => absurd rfl q) (fun q => absurd rfl q) (fun q => absurd rfl q) (fun _ _ => ?_) (fun _ q => absurd rfl q) (fun q => absurd rfl q) (fun q => absurd rfl q))
      have F3 : FX2 (uI (uI τ2 64 17 (tI τ2 73 6)) 64 16 4) := F2.j.j
      refine t94_32 (q3 := 66) (n5 := 20) (q8 := 92) (by omega) (s0 F3) (F3.p rfl) (F3.sh rfl (by omega) (by omega)) (fun q => absurd rfl q) (fun q => absurd rfl q) (F3.sh rfl (by omega) (by omega)) (fun q => absurd rfl q) (fun _ => k _ ⟨o3.kp (fun a k z => by unfold TXC at z; omega), F3, ?_, ?_, ?_⟩)
      · show tN τ2 ≤ _; have := p2.2.1; omega
      · show tZ τ2 ≤ _; have := p2.2.2; omega
      · refine C.fl w F o3 ?_ ?_ ?_ ?_
        · rw [tI_uI, if_neg (by decide), tI_uI, if_neg (by decide)]; exact b2
        · rw [tI_uI, if_pos ⟨rfl, rfl⟩]
        · rw [tI_uI, if_neg (by decide), tI_uI, if_neg (by decide)]; exact x2
        · rw [tI_uI, if_neg (by decide), tI_uI, if_pos ⟨rfl, rfl⟩]; exact x1
    · rw [he] at k
      have F2 := pc2.1
      have N2 := F2.1
      have o02 : OC TXC τ τ2 := o01.tr (p2.1.mo fun a k z => by unfold PPC at z; unfold TXC; omega)
      have b2 : tI τ2 64 1 = 0 := by rw [(p2.1.2.2.2 64 1 (by omega) (by unfold PPC; omega)).1]; exact e1
      have o3 : OC TXC τ (uI (uI τ2 64 17 0) 64 16 0) := (o02.j (by unfold TXC; omega)).j (by unfold TXC; omega)
      have o23 : OC (fun a k => a = 64 ∧ (k = 16 ∨ k = 17)) τ2 (uI (uI τ2 64 17 0) 64 16 0) := OC.j (P := fun a k => a = 64 ∧ (k = 16 ∨ k = 17)) (OC.j (P := fun a k => a = 64 ∧ (k = 16 ∨ k = 17)) OC.rf (by omega)) (by omega)
      have F3 : FX2 (uI (uI τ2 64 17 0) 64 16 0) := F2.j.j
      refine t94_29 (by omega) (s0 F2) (t139_0 (q3 := 73) (s0 F2) (F2.p rfl) (s73 F2).1 (fun q => absurd q (by decide)) (fun q => absurd q (by decide)) (fun _ q => absurd q (by decide)) (fun _ _ => by decide) (fun q => absurd q (by decide)) (fun q => absurd q (by decide)) (fun _ q => absurd q (by decide)) (fun _ _ => ?_))
      have b3 : tI (uI (uI τ2 64 17 0) 64 16 0) 64 1 = 0 := by rw [tI_uI, if_neg (by decide), tI_uI, if_neg (by decide)]; exact b2
      have b17 : tI (uI (uI τ2 64 17 0) 64 16 0) 64 17 = 0 := by rw [tI_uI, if_neg (by decide), tI_uI, if_pos ⟨rfl, rfl⟩]
      have pc3 : TxC (uI (uI τ2 64 17 0) 64 16 0) (byt (sTp S)) m := pc2.2.1.oc F2 o23 (fun a k z => by omega)
      have b10 : tI (uI (uI τ2 64 17 0) 64 16 0) 73 10 = (z : Int) := by rw [tI_uI, if_neg (by decide), tI_uI, if_neg (by decide)]; exact pc2.2.2.2.2.2
      have ops3 : tI (uI (uI τ2 64 17 0) 64 16 0) 75 = tI τ2 75 := funext fun i => by rw [tI_uI, if_neg (by omega), tI_uI, if_neg (by omega)]
      have n3 : tN (uI (uI τ2 64 17 0) 64 16 0) = tN τ := by show tN τ2 = _; have := p2.2.1; omega
      have z3 : tZ (uI (uI τ2 64 17 0) 64 16 0) = tZ τ := by show tZ τ2 = _; have := p2.2.2; omega
      generalize uI (uI τ2 64 17 0) 64 16 0 = τ3 at *
      have R3 : RC τ3 S.1 := R.oc w1 F o3 (fun a k z => by unfold TXC at z; unfold DC; omega)
      have L3 : LgC τ3 E := L.oc F o3 (fun a k z => by unfold TXC at z; omega)
      have ho := (R3.2.2.2 r hr).1
      refine t94_32 (q3 := 66) (n5 := 20) (q8 := 92 + 4 * r) (by omega) (s0 F3) (F3.p rfl) (F3.sh rfl (by omega) (by omega)) (fun _ => by omega) (fun _ => by rw [Int.toNat_natCast]; exact F3.p (ptR r (by omega)).1) (F3.sh (shR r (by omega)).1 (by omega) (by omega)) (fun _ => ?_) (fun q => absurd q (by decide))
      have hcoa : ∀ q, tP τ3 (92 + 4 * r) 9 = some q → CoA τ3 q := fun q hq => by
        obtain ⟨f, -, hf⟩ := ho.ss hq
        exact hf.1
      refine c128 F3 L3 (by omega) (fun q hq => (hcoa q hq).2.2) (fun q hq => (hcoa q hq).2.1) (fun τ4 o4 F4 n4 z4 h0 hl => ?_)
      have N4 := F4.1
      have pc4 : TxC τ4 (byt (sTp S)) m := pc3.oc F3 o4 (fun a k z => by unfold ACP LGP at z; omega)
      have sm4 : ∀ a k, a < 473 → ¬ ACP a k → tI τ4 a k = tI τ3 a k ∧ tP τ4 a k = tP τ3 a k := fun a k h1 h2 => o4.2.2.2 a k (by omega) h2
      refine t94_52 (q2 := 66) (n4 := 20) (q7 := 73) (by omega) (s0 F4) (F4.p rfl) (F4.sh rfl (by omega) (by omega)) (by omega) (F4.p rfl) (s73 F4).1 ?_
      rw [Int.toNat_natCast, F4.p (ptR r (by omega)).1]
      refine c81 F4 pc4 (by rw [(sm4 73 10 (by omega) (by unfold ACP LGP; omega)).1]; exact b10) hz (by omega) (fun τ5 o5 F5 n5 z5 co po pt so st vo vt => ?_)
      have N5 := F5.1
      have sm5 : ∀ a k, a < tN τ4 → tI τ5 a k = tI τ4 a k ∧ tP τ5 a k = tP τ4 a k := fun a k h1 => o5.2.2.2 a k h1 (fun z => z)
      have ops5 : ∀ i, i < z → tI τ5 (tN τ4 + 1) i = tI τ2 75 i := fun i hi => by rw [vo i hi, (sm4 75 i (by omega) (by unfold ACP LGP; omega)).1, ops3]
      have XC : RuC τ5 (tN τ4) g := ruC_of co po (by omega) (by omega) so (by omega) (cd.fr (fun i _ hi => ops5 i hi))
      refine t94_65 (s0 := some (tN τ4)) (s1 := 92 + 4 * r) (F5.sh (shR r (by omega)).1 (by omega) (by omega)) ?_
      have o45 : OC (fun a k => TXC a k ∨ ACP a k) τ τ5 := ((o3.mo fun a k z => Or.inl z).tr (o4.mo fun a k z => Or.inr z)).tr (o5.mo fun a k z => z.elim)
      have fr35 : Fr τ3 τ5 := (o4.fr fun a k z => by unfold ACP LGP at z; omega).tr (o5.fr fun a k z => z.elim)
      have fr05 : Fr τ τ5 := o45.fr fun a k z => by unfold TXC ACP LGP at z; omega
      have R5 : RC τ5 S.1 := R.oc w1 F o45 (fun a k z => by unfold TXC ACP LGP at z; unfold DC; omega)
      have o6 : OC (fun a k => a = 92 + 4 * r ∧ k = 9) τ5 (uP τ5 (92 + 4 * r) 9 (some (tN τ4))) := OC.q (P := fun a k => a = 92 + 4 * r ∧ k = 9) OC.rf ⟨rfl, rfl⟩
      have fr6 : Fr τ5 (uP τ5 (92 + 4 * r) 9 (some (tN τ4))) := Fr.q (by omega)
      have R6 := R5.ru (v := some g) (p := some (tN τ4)) w1 hr (Or.inr ⟨tN τ4, g, rfl, rfl, XC⟩)
      have p5 : tP τ3 (92 + 4 * r) 9 = tP τ3 (92 + 4 * r) 9 := rfl
      have kp : Kp 64 220 τ (uP τ5 (92 + 4 * r) 9 (some (tN τ4))) := (o45.kp (fun a k z => by unfold TXC ACP LGP at z; omega)).q (by omega) (by omega)
      have lg6 : LgC (uP τ5 (92 + 4 * r) 9 (some (tN τ4))) (((2, (r : Int), 0, 0, 0), tP τ3 (92 + 4 * r) 9) :: E.take 99) := (hl.oc F4 o5 (fun a k z => z.elim)).oc F5 o6 (fun a k z => by omega)
      have un6 : UndC (uP τ5 (92 + 4 * r) 9 (some (tN τ4))) ((2, (r : Int), 0, 0, 0), tP τ3 (92 + 4 * r) 9) (cRu S.1 r (some g)) S.1 := und_ru_C w1 hr (ho.mo fun _ _ z => z.fr (fr35.tr fr6))
      have T6 : TpC (uP τ5 (92 + 4 * r) 9 (some (tN τ4))) [] := ⟨by rw [tI_uP, (sm5 64 1 (by omega)).1, (sm4 64 1 (by omega) (by unfold ACP LGP; omega)).1]; exact b3, fun j hj => (by cases hj)⟩
      have O6 : OuC (uP τ5 (92 + 4 * r) 9 (some (tN τ4))) (sOu S) := (O.oc F o45 (fun a k z => by unfold TXC ACP LGP at z; omega)).oc F5 o6 (fun a k z => by omega)
      refine k _ ⟨kp, F5.q (pnR r (by omega)).1, ?_, ?_, CI.mkA R6 lg6 un6 hc (fr05.tr fr6) T6 O6 ?_ ?_⟩
      · show tN τ5 ≤ _; omega
      · show tZ τ5 ≤ _; omega
      · rw [tI_uP, (sm5 64 16 (by omega)).1]; exact h0
      · rw [tI_uP, (sm5 64 17 (by omega)).1, (sm4 64 17 (by omega) (by unfold ACP LGP; omega)).1]; exact b17
  · rw [if_neg h] at k
    exact t94_7 (by omega) (s0 F) (fun q => absurd rfl q) (fun _ => k _ (EC.rfs F C w (by decide)))
  · exact absurd rfl h1
  · subst e
    rw [if_pos (show 0 ≤ (r : Int) ∧ (r : Int) < (cn S.1 0 : Int) by omega), if_neg h] at k
    exact t94_7 (by omega) (s0 F) (fun q => absurd rfl q) (fun _ => k _ (EC.rfs F C w (by decide)))
