/-! form of the model -/
/-- isTaken -/
theorem foM_of {R : Nat → Prop} {τ : T2} {q al D w : Nat} {g : FTr} (hq : 473 ≤ q ∧ q < tN τ) (sq : tS τ q = (1, 13, 0)) (pq : tP τ q 0 = some al) (hR : ∀ a, R a → 473 ≤ a ∧ a < tN τ) (hD : D ≤ 55) (hw : w ≤ 300) (hE : EiM R τ D al g w) : FoM τ q (frm g) := fun τ1 d Q r l hd fr F hr hp H hl k => by
  have N := F.1
  obtain ⟨q1, q2, q3⟩ := fr.2 q hq.1 hq.2
  have hN := fr.1
  obtain ⟨o1, F1, s1, g1⟩ := newS F
  refine t197_67 (r1 := some (336 + 4 * r)) ?_
  have n1 : tN (nC τ1 (2, 3, 5) 5) = tN τ1 + 1 := rfl
  have z1 : tZ (nC τ1 (2, 3, 5) 5) = tZ τ1 + 5 := rfl
  generalize nC τ1 (2, 3, 5) 5 = τa at *
  refine t197_70 (r1 := some (336 + 4 * r)) (s0 := some (tN τ1)) (by omega) ?_
  have := m193 (d := d - 1) (τ := τa) (Q := KC d 197 73 76 [vR 220, vR (336 + 4 * r), vR (tN τ1), none] [] Q) (b := tN τ1) (x := 0) (g := tI τa (tN τ1)) s1 g1 (by omega) (fun g2 G2 => ?_)
  · rw [rJ_id] at this
    exact this
  have oa : OC (fun _ _ => False) τ1 (rI τa (tN τ1) g2) := o1.rn (Nat.le_refl _)
  have Fa : FX2 (rI τa (tN τ1) g2) := F1.r
  have oc : ∀ a, a < tN τ1 → tS (rI τa (tN τ1) g2) a = tS τ1 a ∧ tI (rI τa (tN τ1) g2) a = tI τ1 a ∧ tP (rI τa (tN τ1) g2) a = tP τ1 a := fun a ha => ⟨oa.2.2.1 a ha, funext fun k => (oa.2.2.2 a k ha (fun z => z)).1, funext fun k => (oa.2.2.2 a k ha (fun z => z)).2⟩
  obtain ⟨c1, c2, c3⟩ := oc q (by omega)
  obtain ⟨e1, e2, e3⟩ := oc (336 + 4 * r) (by omega)
  have sm := shM r hr
  have na : tN (rI τa (tN τ1) g2) = tN τ1 + 1 := n1
  have za : tZ (rI τa (tN τ1) g2) = tZ τ1 + 5 := z1
  have Sa : SetM (rI τa (tN τ1) g2) (tN τ1) (fun e => decide (e = 0)) := ⟨N, by omega, s1, by rw [rJ_f]; exact G2.cg (fun e => (Bool.false_or _).symm)⟩
  generalize rI τa (tN τ1) g2 = τb at *
  refine t197_76 (q2 := q) (r2 := some (tN τ1)) (by omega) (Fa.sh sm.1 (by omega) (by omega)) (by rw [e3]; exact hp) (by rw [c1, q1]; exact sq) (Fa.sh rfl (by omega) (by omega)) ?_
  rw [c3, q3, pq]
  refine hE τb (d - 1) _ (tN τ1) l (fun e => decide (e = 0)) (by omega) (fun a ha => ?_) Fa (H.oc2 F oa (fun _ _ z => z.elim)) hl Sa (fun τ2 r2 o2 F2 n2 z2 hr2 S2 => ?_)
  · obtain ⟨y1, y2⟩ := hR a ha
    obtain ⟨f1, f2, f3⟩ := fr.2 a y1 y2
    obtain ⟨b1, b2, b3⟩ := oc a (by omega)
    exact ⟨by omega, b1.trans f1, b2.trans f2, b3.trans f3⟩
  · have H2 : HdM τ2 l := (H.oc2 F oa (fun _ _ z => z.elim)).oc2 Fa o2 (fun _ _ z => z.elim)
    refine t197_88 (s0 := some r2) (by omega) (F2.sh rfl (by omega) (by omega)) ?_
    rw [H2.1]
    refine m192 S2.2.2.1 S2.2.2.2 H2.2.1 (t197_95 ?_ (k τ2 (oa.tr o2) (by omega) (by omega)))
    cases g l (fun e => decide (e = 0)) l.length
    · exact Or.inl rfl
    · exact Or.inr rfl
def MCy (mi : Nat) (as : LO) (sp : HSx → Int × HSx) : Prop := ∀ (d : Nat) (τ : T2) (S : HSx) (Q : RS → T2 → Prop), 100 ≤ d → FX2 τ → MI τ S → WS S → tS τ 1 = (3, 101, 0) → (∀ τ1, EM τ τ1 (sp S).2 → Q (.inl (some (AI (sp S).1))) τ1) → G d mi 0 as [] τ Q
theorem PFM_X {a k : Nat} (h : PFM a k) : TXM a k := by unfold PFM at h; unfold TXM; omega
theorem mc213 {x y : Int} : MCy 213 [vR 220, vI x, vI y, none, none] (sp_form x y) := fun d τ S Q hd F C w s1 k => by
  have s0 : ∀ {τ : T2}, FX2 τ → tS τ 220 = (1, 21, 0) := fun F => (s220 F).1
  have w1 := w.1 S.1 (by simp)
  refine t213_0 (by omega) (s0 F) ?_
  have k := fun τ2 h => k τ2 (EM.bef (Kp.rf.j (a := 220) (k := 0) (x := 0) (by omega) (by omega)) rfl rfl h)
  have C := C.t0 w F (x := 0)
  have F : FX2 (uI τ 220 0 0) := F.j
  have s1 : tS (uI τ 220 0 0) 1 = (3, 101, 0) := s1
  generalize uI τ 220 0 0 = τ at *
  have N := F.1
  have C0 := C
  obtain ⟨R, ⟨E, L, hc⟩, T, O, h3, h4, h5⟩ := C0
  have h20 := w1.1.1
  unfold sp_form at k
  refine m207 F R.1.1 (fun r hr e => ?_) (fun h => ?_)
  · subst e
    rw [if_pos (show 0 ≤ (r : Int) ∧ (r : Int) < (cn S.1 0 : Int) by omega)] at k
    refine t213_10 (by omega) (s0 F) (fun _ => m206 F T.1 (fun m hm e => ?_) (fun h => ?_)) (fun q => absurd q (by decide))
    · subst e
      rw [if_pos (show 0 ≤ (m : Int) ∧ (m : Int) ≤ ((sTp S).length : Int) by have : m ≤ (sTp S).length := hm; omega)] at k
      rw [Int.toNat_natCast] at k
      rw [Int.toNat_natCast] at k
      refine t213_24 (by omega) (s0 F) (fun _ => ?_) (fun q => absurd q (by decide))
      -- a new form
      have o1 : OC (fun a k => a = 220 ∧ k = 3) τ (nC (uI τ 220 3 0) (1, 13, 0) 1) := (OC.j (P := fun a k => a = 220 ∧ k = 3) OC.rf ⟨rfl, rfl⟩).n
      have F1 : FX2 (nC (uI τ 220 3 0) (1, 13, 0) 1) := F.j.n
      have n1 : tN (nC (uI τ 220 3 0) (1, 13, 0) 1) = tN τ + 1 := rfl
      have z1 : tZ (nC (uI τ 220 3 0) (1, 13, 0) 1) = tZ τ + 1 := rfl
      have a1 : tS (nC (uI τ 220 3 0) (1, 13, 0) 1) (tN τ) = (1, 13, 0) := if_pos rfl
      have c1 : tI (nC (uI τ 220 3 0) (1, 13, 0) 1) 220 3 = 0 := by
        show rw2 (tI (uI τ 220 3 0)) (tN τ) (fun _ => 0) 220 3 = 0
        rw [rw2_oth _ _ (by omega), tI_uI, if_pos ⟨rfl, rfl⟩]
      rw [show tN (uI τ 220 3 0) = tN τ from rfl]
      generalize nC (uI τ 220 3 0) (1, 13, 0) 1 = τ1 at *
      refine t213_41 (by omega) (t148_0 (by omega) (t213_45 (s0 := some (tN τ)) (by omega) (s0 F1) ?_))
      refine m178 F1 (T.oc F o1 (fun a k z => by omega)) w.2.1 w.2.2.1 hm (by omega) (fun τ3 o3 F3 n3 z3 X3 K3 e15 => ?_)
      have N3 := F3.1
      have o03 : OC TXM τ τ3 := (o1.mo fun a k z => by unfold TXM; omega).tr (o3.mo fun a k z => by unfold BGM at z; unfold TXM; omega)
      have c3 : tI τ3 220 3 = 0 := by rw [(o3.2.2.2 220 3 (by omega) (by unfold BGM; omega)).1]; exact c1
      have a3 : tS τ3 (tN τ) = (1, 13, 0) := (o3.2.2.1 _ (by omega)).trans a1
      have hb3 : PMb τ3 (byt (sTp S)) m 0 := ⟨F3, X3, K3, Nat.zero_le _⟩
      refine t213_51 (r3 := some (tN τ)) (by omega) (s0 F3) ?_
      have o34 : OC (fun a k => a = 220 ∧ (k = 23 ∨ k = 26)) τ3 (uI (uI τ3 220 23 0) 220 26 0) := OC.j (P := fun a k => a = 220 ∧ (k = 23 ∨ k = 26)) (OC.j (P := fun a k => a = 220 ∧ (k = 23 ∨ k = 26)) OC.rf (by omega)) (by omega)
      have F4 : FX2 (uI (uI τ3 220 23 0) 220 26 0) := F3.j.j
      have v26 : tI (uI (uI τ3 220 23 0) 220 26 0) 220 26 = ((0 : Nat) : Int) := by rw [tI_uI, if_pos ⟨rfl, rfl⟩]; rfl
      have v23 : tI (uI (uI τ3 220 23 0) 220 26 0) 220 23 = ((0 : Nat) : Int) := by rw [tI_uI, if_neg (by decide), tI_uI, if_pos ⟨rfl, rfl⟩]; rfl
      have n4 : tN (uI (uI τ3 220 23 0) 220 26 0) = tN τ + 1 := by show tN τ3 = _; omega
      have z4 : tZ (uI (uI τ3 220 23 0) 220 26 0) = tZ τ + 1 := by show tZ τ3 = _; omega
      have a4 : tS (uI (uI τ3 220 23 0) 220 26 0) (tN τ) = (1, 13, 0) := a3
      generalize uI (uI τ3 220 23 0) 220 26 0 = τ4 at *
      have o04 : OC TXM τ τ4 := o03.tr (o34.mo fun a k z => by unfold TXM; omega)
      have N4 := F4.1
      have sm4 : ∀ k, k ≠ 23 → k ≠ 26 → tI τ4 220 k = tI τ3 220 k := fun k h1 h2 => (o34.2.2.2 220 k (by omega) (by omega)).1
      have hb4 : PMb τ4 (byt (sTp S)) m 0 := ⟨F4, X3.oc F3 o34 (fun a k z => by omega), K3.oc F3 o34 (fun a k z => by unfold NXM; omega), Nat.zero_le _⟩
      have hm3 : m ≤ 300 := hb4.2.1.2.1
      have h4s : PMf τ4 (byt (sTp S)) m 0 0 0 := ⟨hb4, v26, by omega, v23, (o04.2.2.1 1 (by omega)).trans s1⟩
      have e154 : tI τ4 220 15 = 0 := by rw [sm4 15 (by omega) (by omega)]; exact e15
      have c4 : tI τ4 220 3 = 0 := by rw [sm4 3 (by omega) (by omega)]; exact c3
      -- what reading leaves, seen from the start
      have up : ∀ {τ5 : T2}, OC PFM τ4 τ5 → OC TXM τ τ5 ∧ tI τ5 220 15 = 0 ∧ tI τ5 220 3 = 0 := fun {τ5} p => by
        refine ⟨o04.tr (p.mo fun _ _ z => PFM_X z), ?_, ?_⟩
        · rw [(p.2.2.2 220 15 (by omega) (by unfold PFM; omega)).1]; exact e154
        · rw [(p.2.2.2 220 3 (by omega) (by unfold PFM; omega)).1]; exact c4
      have wrg : ∀ e τ5, pForm (byt (sTp S)) m = .inl e → OC TXM τ τ5 → tI τ5 220 15 = 0 → FX2 τ5 → tN τ5 ≤ tN τ + 1170 → tZ τ5 ≤ tZ τ + 12704 → tI τ5 225 6 = e.1 → tI τ5 225 7 = (e.2 : Int) → G d 213 86 [vR 220, none, none, none, none] [AR 225] τ5 Q := fun e τ5 he o5 e155 F5 n5 z5 x1 x2 => by
        rw [he] at k
        have N5 := F5.1
        refine t213_86 (s0 := some 225) (by omega) (s0 F5) (m211 F5 x1 x2 (fun τ6 o6 F6 n6 z6 y1 y2 y3 => t213_94 (by decide) (k τ6 ?_)))
        have o06 : OC TXM τ τ6 := o5.tr (o6.mo fun a k z => by unfold TXM; omega)
        exact ⟨o06.kp (fun a k z => by unfold TXM at z; omega), F6, by omega, by omega, C.fl w F o06 (by rw [(o6.2.2.2 220 15 (by omega) (by omega)).1]; exact e155) y1 y2 y3⟩
      have rd := mFor (f := byt (sTp S)) (n := m) 8 (by omega)
      refine rd (d - 1) τ4 _ 0 0 (by omega) h4s (fun e τ5 he p5 F5 n5 z5 x1 x2 => ?_) (fun g a5 c5 τ5 al he p5 h5s ha5 hc5 n5 z5 hal1 hal2 hE => ?_)
      · have hpr : pForm (byt (sTp S)) m = .inl e := by
          unfold pForm
          rw [he]
        obtain ⟨o5, e155, -⟩ := up p5
        exact kc_hand (ci := 18) (z := 0) (h := 86) rfl rfl (s225 F5) (G_fg (lw2_k _ (lw2_f _ (lw2_k _ (lw2_f _ (lw2_k _ lw2_nil))))) (wrg e τ5 hpr o5 e155 F5 (by omega) (by omega) x1 x2))
      · have hpr : pForm (byt (sTp S)) m = if tkS (byt (sTp S)) m a5 = 0 then .inr g else .inl (1, tkF (byt (sTp S)) m a5) := by
          unfold pForm
          rw [he]
        have F5 := h5s.1.1
        have N5 := F5.1
        have han := h5s.1.2.2.2
        obtain ⟨o05, e155, c5'⟩ := up p5
        have a5s : tS τ5 (tN τ) = (1, 13, 0) := (p5.2.2.1 _ (by omega)).trans a4
        have o5q : OC (fun b _ => b = tN τ) τ5 (uP τ5 (tN τ) 0 (some al)) := OC.q (P := fun b _ => b = tN τ) OC.rf rfl
        have Fq : FX2 (uP τ5 (tN τ) 0 (some al)) := F5.q (PTI_n N)
        have hq : PMf (uP τ5 (tN τ) 0 (some al)) (byt (sTp S)) m a5 c5 0 := h5s.oc Fq o5q (fun b k z => by omega)
        have o0q : OC TXM τ (uP τ5 (tN τ) 0 (some al)) := o05.qn (Nat.le_refl _)
        have foq : FoM (uP τ5 (tN τ) 0 (some al)) (tN τ) (frm g) := foM_of (R := Rg (tN τ4) (tN τ5)) (D := 47) (w := a5) ⟨N, by show tN τ < tN τ5; omega⟩ a5s (by rw [tP_uP, if_pos ⟨rfl, rfl⟩]) (fun b hb => ⟨by have := hb.1; omega, hb.2⟩) (by omega) (by omega) (hE.mo (fun _ z => z) (KpR.rg o5q (Nat.le_refl _) (fun b k hb z => by have := hb.1; omega)) (by omega))
        have e15q : tI (uP τ5 (tN τ) 0 (some al)) 220 15 = 0 := e155
        have c5q : tI (uP τ5 (tN τ) 0 (some al)) 220 3 = 0 := c5'
        have nq : tN (uP τ5 (tN τ) 0 (some al)) = tN τ5 := rfl
        have zq : tZ (uP τ5 (tN τ) 0 (some al)) = tZ τ5 := rfl
        refine t213_66 (r3 := some (tN τ)) (s0 := some al) (s1 := tN τ) (by omega) a5s (s0 F5) (fun q => ?_) (fun q => ?_)
        · generalize uP τ5 (tN τ) 0 (some al) = τq at *
          have ke := hq.1.2.2.1.e
          have Nq := Fq.1
          rw [if_pos (ke.mp q)] at hpr
          rw [hpr] at k
          have R5 : RM τq S.1 := R.oc w1 F o0q (fun a k z => by unfold TXM at z; unfold DM; omega)
          have L5 : LgM τq E := L.oc F o0q (fun a k z => by unfold TXM at z; omega)
          refine m170 Fq L5 (fun τ6 q6 p6 o6 F6 n6 z6 hl => ?_)
          have N6 := F6.1
          have hb := hl.b
          have R6 : RM τ6 S.1 := R5.acc w1 Fq o6
          obtain ⟨p60, p61, p62⟩ := p6
          have hl2 := (hl.p (tP τ6 (336 + 4 * r) 10)).2.1
          have ho := (R6.2.2.2.2 r hr).2.1
          have sr := shM r (by omega)
          have F7 : FX2 (uP τ6 q6 6 (tP τ6 (336 + 4 * r) 10)) := F6.q (by
            cases e : PTI q6 6 with
            | none => rfl
            | some q => exact absurd e (by rw [PTn_act hb.1 hb.2]; simp))
          refine t213_104 (r3 := some (tN τ)) (s0 := q6) (q2 := 221) (n4 := 20) (q7 := 336 + 4 * r) (q11 := 221) (n13 := 20) (q16 := 336 + 4 * r) (by omega) (s0 F6) (F6.p rfl) (F6.sh rfl (by omega) (by omega)) (by omega) (by rw [Int.toNat_natCast]; exact F6.p (ptM r (by omega)).1) (F6.sh sr.1 (by omega) (by omega)) (shq F6 hb.1 hb.2) (F7.p rfl) (F6.sh rfl (by omega) (by omega)) (by omega) (by rw [Int.toNat_natCast]; exact F7.p (ptM r (by omega)).1) (F6.sh sr.1 (by omega) (by omega)) ?_
          have o67 : OC AMP τ6 (uP τ6 q6 6 (tP τ6 (336 + 4 * r) 10)) := OC.rf.q (by unfold AMP; omega)
          have n7 : tN (uP τ6 q6 6 (tP τ6 (336 + 4 * r) 10)) ≤ tN τ + 1170 := by show tN τ6 ≤ _; omega
          have z7 : tZ (uP τ6 q6 6 (tP τ6 (336 + 4 * r) 10)) ≤ tZ τ + 12704 := by show tZ τ6 ≤ _; omega
          generalize hτ7 : uP τ6 q6 6 (tP τ6 (336 + 4 * r) 10) = τ7 at *
          have o57 : OC AMP τq τ7 := o6.tr o67
          have o07 : OC (fun a k => TXM a k ∨ AMP a k) τ τ7 := (o0q.mo fun a k z => Or.inl z).tr (o57.mo fun a k z => Or.inr z)
          have fr67 : Fr τ6 τ7 := o67.fr fun a k z => by unfold AMP at z; omega
          have fr57 : Fr τq τ7 := o57.fr fun a k z => by unfold AMP at z; omega
          have fr07 : Fr τ τ7 := o07.fr fun a k z => by unfold TXM AMP at z; omega
          have R7 : RM τ7 S.1 := R6.acc w1 F6 o67
          have N7 := F7.1
          have o78 : OC (fun a k => a = 336 + 4 * r ∧ k = 10) τ7 (uP τ7 (336 + 4 * r) 10 (some (tN τ))) := OC.q (P := fun a k => a = 336 + 4 * r ∧ k = 10) OC.rf ⟨rfl, rfl⟩
          have fr78 : Fr τ7 (uP τ7 (336 + 4 * r) 10 (some (tN τ))) := Fr.q (by omega)
          have R8 := R7.fo (v := some (frm g)) (p := some (tN τ)) w1 hr (Or.inr ⟨tN τ, frm g, rfl, rfl, foq.fr fr57⟩)
          have F8 : FX2 (uP τ7 (336 + 4 * r) 10 (some (tN τ))) := F7.q (pnR r (by omega)).2.2.2.2.1
          have lg8 : LgM (uP τ7 (336 + 4 * r) 10 (some (tN τ))) (((2, (r : Int), 0, 0, 0), p60, tP τ6 (336 + 4 * r) 10, p62) :: E.take 99) := hl2.lg.oc F7 o78 (fun a k z => by omega)
          have un8 : UndM (uP τ7 (336 + 4 * r) 10 (some (tN τ))) ((2, (r : Int), 0, 0, 0), p60, tP τ6 (336 + 4 * r) 10, p62) (cFo S.1 r (some (frm g))) S.1 := und_fo_M w1 hr (ho.mo fun _ _ z => z.fr (fr67.tr fr78))
          have b15 : tI τ7 220 15 = 0 := by rw [(o57.2.2.2 220 15 (by omega) (by unfold AMP; omega)).1]; exact e15q
          have b3 : tI τ7 220 3 = 0 := by rw [(o57.2.2.2 220 3 (by omega) (by unfold AMP; omega)).1]; exact c5q
          have T8 : TpM (uP τ7 (336 + 4 * r) 10 (some (tN τ))) [] := ⟨by rw [tI_uP]; exact b15, fun j hj => (by cases hj)⟩
          have O8 : OuM (uP τ7 (336 + 4 * r) 10 (some (tN τ))) (sOu S) := (O.oc F o07 (fun a k z => by unfold TXM AMP at z; omega)).oc F7 o78 (fun a k z => by omega)
          refine m166 F8 (t213_130 (by decide) (k _ ?_))
          refine ⟨((((o07.kp (fun a k z => by unfold TXM AMP at z; omega)).q (by omega) (by omega)).j (by omega) (by omega)).j (by omega) (by omega)), F8.j.j, ?_, ?_, MI.mkD F8 w1 R8 lg8 un8 hc (fr07.tr fr78) T8 O8 (by rw [tI_uP]; exact b3)⟩
          · show tN τ7 ≤ _; omega
          · show tZ τ7 ≤ _; omega
        · generalize uP τ5 (tN τ) 0 (some al) = τq at *
          have ke := hq.1.2.2.1.e
          rw [if_neg (fun y => q (ke.mpr y))] at hpr
          have Nq := Fq.1
          refine m172' hq.1 (fun τ6 o6 F6 n6 z6 x1 x2 => t213_82 (by omega) (s225 F6) (wrg (1, tkF (byt (sTp S)) m a5) τ6 hpr (o0q.tr (o6.mo fun a k z => by unfold TXM; omega)) (by rw [(o6.2.2.2 220 15 (by omega) (by omega)).1]; exact e15q) F6 (by omega) (by omega) x1 x2))
    · rw [if_neg (show ¬ (0 ≤ y ∧ y ≤ ((sTp S).length : Int)) by have h : y < 0 ∨ (((sTp S).length : Nat) : Int) < y := h; omega)] at k
      exact t213_24 (by omega) (s0 F) (fun q => absurd rfl q) (fun _ => m164 F (t213_32 (by decide) (k _ (EM.rfs F C w))))
  · rw [if_neg (show ¬ (0 ≤ x ∧ x < (cn S.1 0 : Int)) by omega)] at k
    exact t213_10 (by omega) (s0 F) (fun q => absurd rfl q) (fun _ => m164 F (t213_18 (by decide) (k _ (EM.rfs F C w))))
