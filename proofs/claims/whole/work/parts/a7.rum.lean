/-! rule of the model -/
theorem PTI_n {a k : Nat} (h : 473 ≤ a) : PTI a k = none := by
  cases e : PTI a k with
  | none => rfl
  | some q => have := (PTF_v (PTI_PTF e)).2.2.2; omega
theorem nCS {τ : T2} {s : SH} {k a : Nat} : tS (nC τ s k) a = if a = tN τ then s else tS τ a := rfl
/-- the constructor of a rule -/
theorem m152 {d : Nat} {τ : T2} {Q : RS → T2 → Prop} {q : Nat} (F : FX2 τ) (hq : 473 ≤ q) (hn : tN τ = q + 1) (sq : tS τ q = (1, 17, 0)) (h0 : tI τ q 3 = 0) (hd : 17 ≤ d) (k : ∀ τ1, OC (fun a k => a = q ∧ k < 3) τ τ1 → FX2 τ1 → tN τ1 = q + 4 → tZ τ1 = tZ τ + 600 → RO τ1 q 0 → Q (.inl none) τ1) : G d 152 0 [vR q] [] τ Q := by
  have pn : ∀ k, PTI q k = none := fun k => PTI_n hq
  refine t152_0 hd ?_
  have o1 : OC (fun a k => a = q ∧ k < 3) τ (nC τ (2, 0, 200) 200) := OC.rf.n
  have F1 : FX2 (nC τ (2, 0, 200) 200) := F.n
  have n1 : tN (nC τ (2, 0, 200) 200) = q + 2 := by show tN τ + 1 = _; omega
  have z1 : tZ (nC τ (2, 0, 200) 200) = tZ τ + 200 := rfl
  have a1 : tS (nC τ (2, 0, 200) 200) (q + 1) = (2, 0, 200) := by rw [nCS, if_pos (by omega)]
  have b1 : tS (nC τ (2, 0, 200) 200) q = (1, 17, 0) := by rw [nCS, if_neg (by omega)]; exact sq
  rw [hn]
  generalize nC τ (2, 0, 200) 200 = τ1 at *
  refine t152_10 (s0 := some (q + 1)) b1 ?_
  have F2 : FX2 (uP τ1 q 0 (some (q + 1))) := F1.q (pn 0)
  have o2 : OC (fun a k => a = q ∧ k < 3) τ (nC (uP τ1 q 0 (some (q + 1))) (2, 0, 200) 200) := (o1.q ⟨rfl, by omega⟩).n
  have F3 : FX2 (nC (uP τ1 q 0 (some (q + 1))) (2, 0, 200) 200) := F2.n
  have n3 : tN (nC (uP τ1 q 0 (some (q + 1))) (2, 0, 200) 200) = q + 3 := by show tN τ1 + 1 = _; omega
  have z3 : tZ (nC (uP τ1 q 0 (some (q + 1))) (2, 0, 200) 200) = tZ τ + 400 := by show tZ τ1 + 200 = _; omega
  have a3 : tS (nC (uP τ1 q 0 (some (q + 1))) (2, 0, 200) 200) (q + 2) = (2, 0, 200) := by rw [nCS, if_pos (by show q + 2 = tN τ1; omega)]
  have b3 : tS (nC (uP τ1 q 0 (some (q + 1))) (2, 0, 200) 200) q = (1, 17, 0) := by rw [nCS, if_neg (by show q ≠ tN τ1; omega)]; exact b1
  have c3 : tS (nC (uP τ1 q 0 (some (q + 1))) (2, 0, 200) 200) (q + 1) = (2, 0, 200) := by rw [nCS, if_neg (by show q + 1 ≠ tN τ1; omega)]; exact a1
  have e3 : tP (nC (uP τ1 q 0 (some (q + 1))) (2, 0, 200) 200) q 0 = some (q + 1) := by
    show rw2 (tP (uP τ1 q 0 (some (q + 1)))) (tN τ1) (fun _ => none) q 0 = _
    rw [rw2_oth _ _ (by omega), tP_uP, if_pos ⟨rfl, rfl⟩]
  rw [show tN (uP τ1 q 0 (some (q + 1))) = q + 2 from n1]
  generalize nC (uP τ1 q 0 (some (q + 1))) (2, 0, 200) 200 = τ3 at *
  refine t152_19 (s0 := some (q + 2)) b3 ?_
  have o4 : OC (fun a k => a = q ∧ k < 3) τ (nC (uP τ3 q 1 (some (q + 2))) (2, 0, 200) 200) := (o2.q ⟨rfl, by omega⟩).n
  have F4 : FX2 (nC (uP τ3 q 1 (some (q + 2))) (2, 0, 200) 200) := (F3.q (pn 1)).n
  have n4 : tN (nC (uP τ3 q 1 (some (q + 2))) (2, 0, 200) 200) = q + 4 := by show tN τ3 + 1 = _; omega
  have z4 : tZ (nC (uP τ3 q 1 (some (q + 2))) (2, 0, 200) 200) = tZ τ + 600 := by show tZ τ3 + 200 = _; omega
  have a4 : tS (nC (uP τ3 q 1 (some (q + 2))) (2, 0, 200) 200) (q + 3) = (2, 0, 200) := by rw [nCS, if_pos (by show q + 3 = tN τ3; omega)]
  have b4 : tS (nC (uP τ3 q 1 (some (q + 2))) (2, 0, 200) 200) q = (1, 17, 0) := by rw [nCS, if_neg (by show q ≠ tN τ3; omega)]; exact b3
  have c4 : tS (nC (uP τ3 q 1 (some (q + 2))) (2, 0, 200) 200) (q + 1) = (2, 0, 200) := by rw [nCS, if_neg (by show q + 1 ≠ tN τ3; omega)]; exact c3
  have d4 : tS (nC (uP τ3 q 1 (some (q + 2))) (2, 0, 200) 200) (q + 2) = (2, 0, 200) := by rw [nCS, if_neg (by show q + 2 ≠ tN τ3; omega)]; exact a3
  have e4 : tP (nC (uP τ3 q 1 (some (q + 2))) (2, 0, 200) 200) q 0 = some (q + 1) := by
    show rw2 (tP (uP τ3 q 1 (some (q + 2)))) (tN τ3) (fun _ => none) q 0 = _
    rw [rw2_oth _ _ (by omega), tP_uP, if_neg (by omega)]; exact e3
  have f4 : tP (nC (uP τ3 q 1 (some (q + 2))) (2, 0, 200) 200) q 1 = some (q + 2) := by
    show rw2 (tP (uP τ3 q 1 (some (q + 2)))) (tN τ3) (fun _ => none) q 1 = _
    rw [rw2_oth _ _ (by omega), tP_uP, if_pos ⟨rfl, rfl⟩]
  rw [show tN (uP τ3 q 1 (some (q + 2))) = q + 3 from n3]
  generalize nC (uP τ3 q 1 (some (q + 2))) (2, 0, 200) 200 = τ4 at *
  refine t152_28 (s0 := some (q + 3)) b4 (k _ (o4.q ⟨rfl, by omega⟩) (F4.q (pn 2)) n4 z4 ⟨hq, by show q + 3 < tN τ4; omega, b4, ⟨?_, ?_, ?_⟩, ⟨c4, d4, a4⟩, ?_⟩)
  · rw [tP_uP, if_neg (by omega)]; exact e4
  · rw [tP_uP, if_neg (by omega)]; exact f4
  · rw [tP_uP, if_pos ⟨rfl, rfl⟩]
  · rw [tI_uP, (o4.2.2.2 q 3 (by omega) (by omega)).1]; exact h0
/-- wrong: a fault is told -/
theorem m211 {d : Nat} {τ : T2} {Q : RS → T2 → Prop} {e : Int × Nat} (F : FX2 τ) (h6 : tI τ 225 6 = e.1) (h7 : tI τ 225 7 = (e.2 : Int)) (k : ∀ τ1, OC (fun a k => a = 220 ∧ (k = 1 ∨ k = 2 ∨ k = 3)) τ τ1 → FX2 τ1 → tN τ1 = tN τ → tZ τ1 = tZ τ → tI τ1 220 1 = 4 → tI τ1 220 2 = (e.2 : Int) → tI τ1 220 3 = e.1 → Q (.inl (some (AI 0))) τ1) : G d 211 0 [vR 220, vR 225] [] τ Q := by
  have o : OC (fun a k => a = 220 ∧ (k = 1 ∨ k = 2 ∨ k = 3)) τ (uI (uI (uI τ 220 3 (tI τ 225 6)) 220 1 4) 220 2 (tI (uI (uI τ 220 3 (tI τ 225 6)) 220 1 4) 225 7)) := OC.j (P := fun a k => a = 220 ∧ (k = 1 ∨ k = 2 ∨ k = 3)) (OC.j (P := fun a k => a = 220 ∧ (k = 1 ∨ k = 2 ∨ k = 3)) (OC.j (P := fun a k => a = 220 ∧ (k = 1 ∨ k = 2 ∨ k = 3)) OC.rf (by omega)) (by omega)) (by omega)
  refine t211_0 (s225 F) (s220 F).1 (k _ o F.j.j.j rfl rfl ?_ ?_ ?_)
  · rw [tI_uI, if_neg (by decide), tI_uI, if_pos ⟨rfl, rfl⟩]
  · rw [tI_uI, if_pos ⟨rfl, rfl⟩, tI_uI, if_neg (by decide), tI_uI, if_neg (by decide)]; exact h7
  · rw [tI_uI, if_neg (by decide), tI_uI, if_neg (by decide), tI_uI, if_pos ⟨rfl, rfl⟩]; exact h6
theorem PTn_act {q k : Nat} (h1 : 236 ≤ q) (h2 : q < 336) : PTI q k = none := PTn ((show ∀ q : Nat, q < 336 → 236 ≤ q → lk q PTFs = none from by decide +kernel) q h2 h1) k
theorem mc212 {x y : Int} : MCl 212 [vR 220, vI x, vI y, none, none] (sp_rule x y) := fun d τ S Q hd F C w k => by
  have s0 : ∀ {τ : T2}, FX2 τ → tS τ 220 = (1, 21, 0) := fun F => (s220 F).1
  have w1 := w.1 S.1 (by simp)
  refine t212_0 (by omega) (s0 F) ?_
  have k := fun τ2 h => k τ2 (EM.bef (Kp.rf.j (a := 220) (k := 0) (x := 0) (by omega) (by omega)) rfl rfl h)
  have C := C.t0 w F (x := 0)
  have F : FX2 (uI τ 220 0 0) := F.j
  generalize uI τ 220 0 0 = τ at *
  have N := F.1
  have C0 := C
  obtain ⟨R, ⟨E, L, hc⟩, T, O, h3, h4, h5⟩ := C0
  have h20 := w1.1.1
  unfold sp_rule at k
  refine m207 F R.1.1 (fun r hr e => ?_) (fun h => ?_)
  · subst e
    rw [if_pos (show 0 ≤ (r : Int) ∧ (r : Int) < (cn S.1 0 : Int) by omega)] at k
    refine t212_10 (by omega) (s0 F) (fun _ => m206 F T.1 (fun m hm e => ?_) (fun h => ?_)) (fun q => absurd q (by decide))
    · subst e
      rw [if_pos (show 0 ≤ (m : Int) ∧ (m : Int) ≤ ((sTp S).length : Int) by have : m ≤ (sTp S).length := hm; omega)] at k
      rw [Int.toNat_natCast] at k
      rw [Int.toNat_natCast] at k
      refine t212_24 (by omega) (s0 F) (fun _ => ?_) (fun q => absurd q (by decide))
      -- a new rule
      have o1 : OC (fun a k => a = 220 ∧ k = 3) τ (nC (uI τ 220 3 0) (1, 17, 0) 4) := (OC.j (P := fun a k => a = 220 ∧ k = 3) OC.rf ⟨rfl, rfl⟩).n
      have F1 : FX2 (nC (uI τ 220 3 0) (1, 17, 0) 4) := F.j.n
      have n1 : tN (nC (uI τ 220 3 0) (1, 17, 0) 4) = tN τ + 1 := rfl
      have z1 : tZ (nC (uI τ 220 3 0) (1, 17, 0) 4) = tZ τ + 4 := rfl
      have a1 : tS (nC (uI τ 220 3 0) (1, 17, 0) 4) (tN τ) = (1, 17, 0) := if_pos rfl
      have b1 : tI (nC (uI τ 220 3 0) (1, 17, 0) 4) (tN τ) 3 = 0 := by
        show rw2 (tI (uI τ 220 3 0)) (tN τ) (fun _ => 0) (tN τ) 3 = 0
        rw [rw2_row]
      have c1 : tI (nC (uI τ 220 3 0) (1, 17, 0) 4) 220 3 = 0 := by
        show rw2 (tI (uI τ 220 3 0)) (tN τ) (fun _ => 0) 220 3 = 0
        rw [rw2_oth _ _ (by omega), tI_uI, if_pos ⟨rfl, rfl⟩]
      rw [show tN (uI τ 220 3 0) = tN τ from rfl]
      generalize nC (uI τ 220 3 0) (1, 17, 0) 4 = τ1 at *
      refine t212_41 (by omega) (m152 F1 N n1 a1 b1 (by omega) (fun τ2 o2 F2 n2 z2 ro2 => ?_))
      have o02 : OC (fun a k => a = 220 ∧ k = 3) τ τ2 := o1.tn o2 (fun a k h1 h2 => by omega)
      have N2 := F2.1
      have c2 : tI τ2 220 3 = 0 := by rw [(o2.2.2.2 220 3 (by omega) (by omega)).1]; exact c1
      refine t212_45 (s0 := some (tN τ)) (by omega) (s0 F2) ?_
      refine m178 F2 (T.oc F o02 (fun a k z => by omega)) w.2.1 w.2.2.1 hm (by omega) (fun τ3 o3 F3 n3 z3 X3 K3 e15 => ?_)
      have N3 := F3.1
      have o03 : OC TXM τ τ3 := (o02.mo fun a k z => by unfold TXM; omega).tr (o3.mo fun a k z => by unfold BGM at z; unfold TXM; omega)
      obtain ⟨ro3, rw3⟩ := ro2.oc o3 (fun a k z => by unfold BGM at z; omega)
      have c3 : tI τ3 220 3 = 0 := by rw [(o3.2.2.2 220 3 (by omega) (by unfold BGM; omega)).1]; exact c2
      refine t212_51 (r3 := some (tN τ)) (by omega) (s0 F3) ?_
      have o34 : OC (fun a k => a = 220 ∧ (k = 23 ∨ k = 24)) τ3 (uI (uI τ3 220 23 0) 220 24 0) := OC.j (P := fun a k => a = 220 ∧ (k = 23 ∨ k = 24)) (OC.j (P := fun a k => a = 220 ∧ (k = 23 ∨ k = 24)) OC.rf (by omega)) (by omega)
      have F4 : FX2 (uI (uI τ3 220 23 0) 220 24 0) := F3.j.j
      have v24 : tI (uI (uI τ3 220 23 0) 220 24 0) 220 24 = 0 := by rw [tI_uI, if_pos ⟨rfl, rfl⟩]
      have v23 : tI (uI (uI τ3 220 23 0) 220 24 0) 220 23 = 0 := by rw [tI_uI, if_neg (by decide), tI_uI, if_pos ⟨rfl, rfl⟩]
      have n4 : tN (uI (uI τ3 220 23 0) 220 24 0) = tN τ + 4 := by show tN τ3 = _; omega
      have z4 : tZ (uI (uI τ3 220 23 0) 220 24 0) = tZ τ + 604 := by show tZ τ3 = _; omega
      generalize uI (uI τ3 220 23 0) 220 24 0 = τ4 at *
      have o04 : OC TXM τ τ4 := o03.tr (o34.mo fun a k z => by unfold TXM; omega)
      have N4 := F4.1
      obtain ⟨ro4, rw4⟩ := ro3.oc o34 (fun a k z => by omega)
      have sm4 : ∀ k, k ≠ 23 → k ≠ 24 → tI τ4 220 k = tI τ3 220 k := fun k h1 h2 => (o34.2.2.2 220 k (by omega) (by omega)).1
      have hb4 : PMb τ4 (byt (sTp S)) m 0 := ⟨F4, X3.oc F3 o34 (fun a k z => by omega), K3.oc F3 o34 (fun a k z => by unfold NXM; omega), Nat.zero_le _⟩
      have R4 : RM τ4 S.1 := R.oc w1 F o04 (fun a k z => by unfold TXM at z; unfold DM; omega)
      have h4s : PMs τ4 (byt (sTp S)) m (cn S.1 0) 0 0 0 (tN τ) 0 := ⟨hb4, ⟨v24, by omega⟩, v23, R4.1.1, ro4⟩
      have e154 : tI τ4 220 15 = 0 := by rw [sm4 15 (by omega) (by omega)]; exact e15
      have c4 : tI τ4 220 3 = 0 := by rw [sm4 3 (by omega) (by omega)]; exact c3
      -- what reading leaves, seen from the start
      have up : ∀ {τ5 : T2}, PKM (tN τ) τ4 τ5 → OC TXM τ τ5 ∧ tN τ5 = tN τ + 4 ∧ tZ τ5 = tZ τ + 604 ∧ tI τ5 220 15 = 0 ∧ tI τ5 220 3 = 0 := fun {τ5} p => by
        refine ⟨o04.tn p.1 (fun a k h1 h2 => by unfold PPM at h2; unfold TXM; omega), by have := p.2.1; omega, by have := p.2.2; omega, ?_, ?_⟩
        · rw [(p.1.2.2.2 220 15 (by omega) (by unfold PPM; omega)).1]; exact e154
        · rw [(p.1.2.2.2 220 3 (by omega) (by unfold PPM; omega)).1]; exact c4
      have wrg : ∀ e τ5, pRule (byt (sTp S)) m (cn S.1 0) = .inl e → PKM (tN τ) τ4 τ5 → FX2 τ5 → tI τ5 225 6 = e.1 → tI τ5 225 7 = (e.2 : Int) → G d 212 83 [vR 220, none, none, none, none] [AR 225] τ5 Q := fun e τ5 he p5 F5 x1 x2 => by
        rw [he] at k
        obtain ⟨o5, n5, z5, e155, -⟩ := up p5
        have N5 := F5.1
        refine t212_83 (s0 := some 225) (by omega) (s0 F5) (m211 F5 x1 x2 (fun τ6 o6 F6 n6 z6 y1 y2 y3 => t212_91 (by decide) (k τ6 ?_)))
        have o06 : OC TXM τ τ6 := o5.tr (o6.mo fun a k z => by unfold TXM; omega)
        exact ⟨o06.kp (fun a k z => by unfold TXM at z; omega), F6, by omega, by omega, C.fl w F o06 (by rw [(o6.2.2.2 220 15 (by omega) (by omega)).1]; exact e155) y1 y2 y3⟩
      have hand : ∀ e τ5, pRule (byt (sTp S)) m (cn S.1 0) = .inl e → PKM (tN τ) τ4 τ5 → FX2 τ5 → tI τ5 225 6 = e.1 → tI τ5 225 7 = (e.2 : Int) → KC d 212 63 66 [vR 220, vI (r : Int), none, vR (tN τ), none] [] Q (.inr 225) τ5 := fun e τ5 he p5 F5 x1 x2 => kc_hand (ci := 18) (z := 0) (h := 83) rfl rfl (s225 F5) (G_fg (lw2_k _ (lw2_f _ (lw2_k _ (lw2_f _ (lw2_k _ lw2_nil))))) (wrg e τ5 he p5 F5 x1 x2))
      have rd := mRul (f := byt (sTp S)) (n := m) (q := tN τ) h20 8 (by omega)
      refine rd (d - 1) τ4 _ 0 0 0 (by omega) h4s (by omega) (fun e τ5 he p5 F5 x1 x2 => hand e τ5 ?_ p5 F5 x1 x2) (fun g a5 c5 m5 τ5 he p5 h5s hm5 ha5 r5 pf => ?_)
      · unfold pRule
        rw [he]
      · have hpr : pRule (byt (sTp S)) m (cn S.1 0) = if tkS (byt (sTp S)) m a5 = 0 then .inr g else .inl (1, tkF (byt (sTp S)) m a5) := by
          unfold pRule
          rw [he]
        have F5 := h5s.1.1
        have N5 := F5.1
        have ke := h5s.1.2.2.1.e
        have ha3 : m ≤ 300 := h5s.1.2.1.2.1
        have han := h5s.1.2.2.2
        refine t212_66 (r3 := some (tN τ)) (by omega) (s0 F5) (fun q => ?_) (fun q => ?_)
        · rw [if_pos (ke.mp q)] at hpr
          rw [hpr] at k
          obtain ⟨o05, n5, z5, e155, c5'⟩ := up p5
          have ro5 := h5s.2.2.2.2
          have ruq : RuM τ5 (tN τ) g := ruM_of ro5 (by omega) pf
          have R5 : RM τ5 S.1 := R.oc w1 F o05 (fun a k z => by unfold TXM at z; unfold DM; omega)
          have L5 : LgM τ5 E := L.oc F o05 (fun a k z => by unfold TXM at z; omega)
          refine m170 F5 L5 (fun τ6 q6 p6 o6 F6 n6 z6 hl => ?_)
          have N6 := F6.1
          have hb := hl.b
          have R6 : RM τ6 S.1 := R5.acc w1 F5 o6
          obtain ⟨p60, p61, p62⟩ := p6
          have hl2 := (hl.p (tP τ6 (336 + 4 * r) 9)).1
          have ho := (R6.2.2.2.2 r hr).1
          have sr := shM r (by omega)
          have F7 : FX2 (uP τ6 q6 5 (tP τ6 (336 + 4 * r) 9)) := F6.q (by
            cases e : PTI q6 5 with
            | none => rfl
            | some q => exact absurd e (by rw [PTn_act hb.1 hb.2]; simp))
          refine t212_101 (r3 := some (tN τ)) (s0 := q6) (q2 := 221) (n4 := 20) (q7 := 336 + 4 * r) (q11 := 221) (n13 := 20) (q16 := 336 + 4 * r) (by omega) (s0 F6) (F6.p rfl) (F6.sh rfl (by omega) (by omega)) (by omega) (by rw [Int.toNat_natCast]; exact F6.p (ptM r (by omega)).1) (F6.sh sr.1 (by omega) (by omega)) (shq F6 hb.1 hb.2) (F7.p rfl) (F6.sh rfl (by omega) (by omega)) (by omega) (by rw [Int.toNat_natCast]; exact F7.p (ptM r (by omega)).1) (F6.sh sr.1 (by omega) (by omega)) ?_
          have o67 : OC AMP τ6 (uP τ6 q6 5 (tP τ6 (336 + 4 * r) 9)) := OC.rf.q (by unfold AMP; omega)
          have n7 : tN (uP τ6 q6 5 (tP τ6 (336 + 4 * r) 9)) = tN τ + 4 := by show tN τ6 = _; omega
          have z7 : tZ (uP τ6 q6 5 (tP τ6 (336 + 4 * r) 9)) = tZ τ + 604 := by show tZ τ6 = _; omega
          generalize hτ7 : uP τ6 q6 5 (tP τ6 (336 + 4 * r) 9) = τ7 at *
          have o57 : OC AMP τ5 τ7 := o6.tr o67
          have o07 : OC (fun a k => TXM a k ∨ AMP a k) τ τ7 := (o05.mo fun a k z => Or.inl z).tr (o57.mo fun a k z => Or.inr z)
          have fr67 : Fr τ6 τ7 := o67.fr fun a k z => by unfold AMP at z; omega
          have fr57 : Fr τ5 τ7 := o57.fr fun a k z => by unfold AMP at z; omega
          have fr07 : Fr τ τ7 := o07.fr fun a k z => by unfold TXM AMP at z; omega
          have R7 : RM τ7 S.1 := R6.acc w1 F6 o67
          have N7 := F7.1
          have o78 : OC (fun a k => a = 336 + 4 * r ∧ k = 9) τ7 (uP τ7 (336 + 4 * r) 9 (some (tN τ))) := OC.q (P := fun a k => a = 336 + 4 * r ∧ k = 9) OC.rf ⟨rfl, rfl⟩
          have fr78 : Fr τ7 (uP τ7 (336 + 4 * r) 9 (some (tN τ))) := Fr.q (by omega)
          have R8 := R7.ru (v := some g) (p := some (tN τ)) w1 hr (Or.inr ⟨tN τ, g, rfl, rfl, ruq.fr fr57⟩)
          have F8 : FX2 (uP τ7 (336 + 4 * r) 9 (some (tN τ))) := F7.q (pnR r (by omega)).2.2.2.1
          have lg8 : LgM (uP τ7 (336 + 4 * r) 9 (some (tN τ))) (((1, (r : Int), 0, 0, 0), tP τ6 (336 + 4 * r) 9, p61, p62) :: E.take 99) := hl2.lg.oc F7 o78 (fun a k z => by omega)
          have un8 : UndM (uP τ7 (336 + 4 * r) 9 (some (tN τ))) ((1, (r : Int), 0, 0, 0), tP τ6 (336 + 4 * r) 9, p61, p62) (cRu S.1 r (some g)) S.1 := und_ru_M w1 hr (ho.mo fun _ _ z => z.fr (fr67.tr fr78))
          have b15 : tI τ7 220 15 = 0 := by rw [(o57.2.2.2 220 15 (by omega) (by unfold AMP; omega)).1]; exact e155
          have b3 : tI τ7 220 3 = 0 := by rw [(o57.2.2.2 220 3 (by omega) (by unfold AMP; omega)).1]; exact c5'
          have T8 : TpM (uP τ7 (336 + 4 * r) 9 (some (tN τ))) [] := ⟨by rw [tI_uP]; exact b15, fun j hj => (by cases hj)⟩
          have O8 : OuM (uP τ7 (336 + 4 * r) 9 (some (tN τ))) (sOu S) := (O.oc F o07 (fun a k z => by unfold TXM AMP at z; omega)).oc F7 o78 (fun a k z => by omega)
          refine m166 F8 (t212_127 (by decide) (k _ ?_))
          refine ⟨((((o07.kp (fun a k z => by unfold TXM AMP at z; omega)).q (by omega) (by omega)).j (by omega) (by omega)).j (by omega) (by omega)), F8.j.j, ?_, ?_, MI.mkD F8 w1 R8 lg8 un8 hc (fr07.tr fr78) T8 O8 (by rw [tI_uP]; exact b3)⟩
          · show tN τ7 ≤ _; omega
          · show tZ τ7 ≤ _; omega
        · rw [if_neg (fun y => q (ke.mpr y))] at hpr
          refine m172' h5s.1 (fun τ6 o6 F6 n6 z6 x1 x2 => t212_79 (by omega) (s225 F6) (wrg (1, tkF (byt (sTp S)) m a5) τ6 hpr (p5.tr (PKM.th (e := (1, tkF (byt (sTp S)) m a5)) ⟨o6, F6, n6, z6, x1, x2⟩)) F6 x1 x2))
    · rw [if_neg (show ¬ (0 ≤ y ∧ y ≤ ((sTp S).length : Int)) by have h : y < 0 ∨ (((sTp S).length : Nat) : Int) < y := h; omega)] at k
      exact t212_24 (by omega) (s0 F) (fun q => absurd rfl q) (fun _ => m164 F (t212_32 (by decide) (k _ (EM.rfs F C w))))
  · rw [if_neg (show ¬ (0 ≤ x ∧ x < (cn S.1 0 : Int)) by omega)] at k
    exact t212_10 (by omega) (s0 F) (fun q => absurd rfl q) (fun _ => m164 F (t212_18 (by decide) (k _ (EM.rfs F C w))))
