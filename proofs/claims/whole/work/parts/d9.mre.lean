/-! FORMS read by the model: readEither -/
theorem EiM.w {R : Nat → Prop} {τ : T2} {D al w w1 : Nat} {g : FTr} (h : EiM R τ D al g w) (hw : w ≤ w1) : EiM R τ D al g w1 := fun τ1 d Q fr l S hd K F H hl hS k => h τ1 d Q fr l S hd K F H hl hS (fun τ2 r o F2 n2 z2 => k τ2 r o F2 (by omega) (by omega))
/-- a list that is being made, with what it holds elsewhere -/
def LsN (τ : T2) (lo al : Nat) (L : List Nat) (RP : Nat → Prop) (s : SH) : Prop := ALs τ (Rg lo (tN τ)) al L ∧ (∀ y ∈ L, tS τ y = s) ∧ ∀ x, RP x → lo ≤ x ∧ x < tN τ ∧ x ≠ al ∧ tP τ al 1 ≠ some x
theorem LsN.pf {τ τ1 : T2} {lo al : Nat} {L : List Nat} {RP : Nat → Prop} {s : SH} {P : Nat → Nat → Prop} (h : LsN τ lo al L RP s) (h4 : 473 ≤ lo) (hL : ∀ y ∈ L, lo ≤ y ∧ y < tN τ) (o : OC P τ τ1) (hP : ∀ a k, P a k → a < lo) : LsN τ1 lo al L RP s ∧ KpR RP τ τ1 := by
  obtain ⟨h1, h2, h3⟩ := h
  have K : KpR (Rg lo (tN τ)) τ τ1 := KpR.rg o (Nat.le_refl _) (fun a k ha z => by have := hP a k z; have := ha.1; omega)
  have hN := o.1
  refine ⟨⟨h1.mo (fun a ha => ⟨ha.1, by have := ha.2; omega⟩) (fun a ha => (K a ha).2), fun y hy => ?_, fun x hx => ?_⟩, fun x hx => K x ⟨(h3 x hx).1, (h3 x hx).2.1⟩⟩
  · rw [(K y (hL y hy)).2.1]; exact h2 y hy
  · obtain ⟨a1, a2, a3, a4⟩ := h3 x hx
    refine ⟨a1, by omega, a3, ?_⟩
    rw [(K al h1.1).2.2.2]; exact a4
/-- the list grows by one that lies in a new region -/
theorem LsN.add {d : Nat} {τ τ1 : T2} {Q : RS → T2 → Prop} {lo al x : Nat} {L : List Nat} {RP : Nat → Prop} {s : SH} (h : LsN τ lo al L RP s) (hl : L.length < 40) (F1 : FX2 τ1) (s1 : tS τ1 1 = (3, 101, 0)) (h4 : 473 ≤ lo) (hL : ∀ y ∈ L, lo ≤ y ∧ y < tN τ) {P : Nat → Nat → Prop} (o : OC P τ τ1) (hP : ∀ a k, P a k → a < lo) (hs : okEs 10 s = true) (hx : tS τ1 x = s) (hx1 : tN τ ≤ x ∧ x < tN τ1) (hd : 30 ≤ d) (k : ∀ τ2, OC (fun a _ => lo ≤ a) τ1 τ2 → FX2 τ2 → tN τ2 ≤ tN τ1 + 1 → tZ τ2 + sltA L.length ≤ tZ τ1 + sltA (L.length + 1) → LsN τ2 lo al (L ++ [x]) (fun y => RP y ∨ Rg (tN τ) (tN τ1) y) s → KpR (fun y => RP y ∨ Rg (tN τ) (tN τ1) y) τ1 τ2 → tN τ1 ≤ tN τ2 → (∀ a k, a < lo → tI τ2 a k = tI τ1 a k ∧ tP τ2 a k = tP τ1 a k) → Q (.inl (some (AI 1))) τ2) : G d 257 0 [vR al, vR x] [] τ1 Q := by
  obtain ⟨⟨g1, g2, g3⟩, KP⟩ := h.pf h4 hL o hP
  have hN := o.1
  have Kr : KpR (Rg lo (tN τ)) τ τ1 := KpR.rg o (Nat.le_refl _) (fun a k ha z => by have := hP a k z; have := ha.1; omega)
  -- where its row lies
  have he : ∀ y, tP τ1 al 1 = some y → y < tN τ := fun y hy => by
    obtain ⟨a1, a2, a3, a4, a5, a6, a7⟩ := h.1
    rw [(Kr al a1).2.2.2] at hy
    by_cases z : L.length = 0
    · rw [a6 z] at hy
      have := Option.some.inj hy
      have := a1.2
      have := a1.1
      omega
    · obtain ⟨e, e1, e2, -⟩ := a7 (by omega)
      rw [e2] at hy
      have := Option.some.inj hy
      have := e1.2
      omega
  have hal : al < tN τ := h.1.1.2
  have hlo : lo ≤ al := h.1.1.1
  refine m257 F1 s1 (fun a ha => ⟨by have := ha.1; omega, ha.2⟩) g1 hl (by rw [hx]; exact hs) hx1.2 (fun y hy => by rw [g2 y hy]; exact hs) hd (fun τ2 o2 F2 n2 z2 ee A2 => ?_)
  have hN2 := o2.1
  have no : ∀ y, (RP y ∨ Rg (tN τ) (tN τ1) y) → y < tN τ1 ∧ y ≠ al ∧ tP τ1 al 1 ≠ some y := fun y hy => by
    rcases hy with hy | hy
    · obtain ⟨q1, q2, q3, q4⟩ := g3 y hy
      exact ⟨q2, q3, q4⟩
    · exact ⟨hy.2, by have := hy.1; omega, fun z => by have := he y z; have := hy.1; omega⟩
  have K2 : KpR (fun y => RP y ∨ Rg (tN τ) (tN τ1) y) τ1 τ2 := fun y hy => by
    obtain ⟨q1, q2, q3⟩ := no y hy
    have ne : ∀ k : Nat, ¬ (y = al ∨ (tP τ1 al 1 = some y ∧ Rg lo (tN τ1) y)) := fun _ z => z.elim q2 (fun w => q3 w.1)
    exact ⟨by omega, o2.2.2.1 y q1, funext fun k => (o2.2.2.2 y k q1 (ne k)).1, funext fun k => (o2.2.2.2 y k q1 (ne k)).2⟩
  refine k τ2 (o2.mo fun a _ z => z.elim (fun w => by rw [w]; exact h.1.1.1) (fun w => w.2.1)) F2 n2 z2 ⟨A2.mo (fun a ha => ha.elim (fun w => ⟨w.1, by have := w.2; omega⟩) (fun w => ⟨by omega, w.2⟩)) (fun _ _ => ⟨rfl, rfl, rfl⟩), fun y hy => ?_, fun y hy => ?_⟩ K2 hN2 (fun a k ha => ?_)
  · rcases List.mem_append.mp hy with z | z
    · rw [o2.2.2.1 y (by have := hL y z; omega)]; exact g2 y z
    · rw [List.mem_singleton.mp z, o2.2.2.1 x hx1.2]; exact hx
  · obtain ⟨q1, q2, q3⟩ := no y hy
    obtain ⟨e, e1, e2⟩ := ee
    refine ⟨?_, by omega, q2, fun z => ?_⟩
    · rcases hy with hy | hy
      · exact (g3 y hy).1
      · have := hy.1; have := h.1.1.1; omega
    · rw [e1] at z
      have z := Option.some.inj z
      rcases e2 with w | w
      · rw [z] at w; exact q3 w.1
      · omega
  · have hlt : a < tN τ1 := by have := h.1.1.1; have := h.1.1.2; omega
    refine o2.2.2.2 a k hlt (fun z => ?_)
    rcases z with z | z
    · have := h.1.1.1; omega
    · have := z.2.1; omega
section RME
variable {f : Nat → Int} {n : Nat}
/-- a row that is being read -/
def RwN (τ2 τ4 : T2) (f : Nat → Int) (n dp DE r a2 c2 : Nat) (Ps : List Nat) (RP : Nat → Prop) (g : FTr) (a4 c4 : Nat) : Prop := OC PFM τ2 τ4 ∧ PMf τ4 f n a4 c4 dp ∧ a2 ≤ a4 ∧ c2 + Ps.length ≤ c4 ∧ tS τ4 r = (1, 16, 0) ∧ tP τ4 r 0 = some (r + 1) ∧ LsN τ4 (r + 1) (r + 1) Ps RP (1, 14, 0) ∧ (∀ y ∈ Ps, r + 1 ≤ y ∧ y < tN τ4) ∧ PsM RP τ4 DE Ps g (a4 - a2) ∧ r + 1 < tN τ4 ∧ 2 * tN τ4 ≤ 2 * tN τ2 + 4 + 7 * (a4 - a2) ∧ tZ τ4 + 12 * Ps.length ≤ tZ τ2 + 4 + 24 * (a4 - a2) + sltA Ps.length
theorem m25 {p : Nat → Nat → PFR} {D DE KP dp : Nat} (H : SpP p f n D DE KP dp) {d : Nat} (hd : D + 1 ≤ d) (hd2 : 40 ≤ d) {τ2 : T2} {Q : RS → T2 → Prop} {al r a2 c2 : Nat} (N : 473 ≤ r) (hr : r = tN τ2) (sal : ∀ τ4, OC PFM τ2 τ4 → tS τ4 al = (1, 1, 0)) (kf : FlN (fRow p f n a2 c2) n a2 (KP + 4) 13 τ2 Q) (ke : ∀ τ4 Ps RP g a4 c4, RwN τ2 τ4 f n dp DE r a2 c2 Ps RP g a4 c4 → 1 ≤ Ps.length → a2 < a4 → c2 < c4 → fRow p f n a2 c2 = .inr (g, a4, c4) → G d 189 25 [vR 220, vR al, none, vR r, vI 0] [] τ4 Q) : ∀ (j : Nat) (τ4 : T2) (Ps : List Nat) (RP : Nat → Prop) (g : FTr) (a4 c4 : Nat), n ≤ j + a4 → RwN τ2 τ4 f n dp DE r a2 c2 Ps RP g a4 c4 → (∀ e, p a4 c4 = .inl e → fRow p f n a2 c2 = .inl e) → (∀ g2 a5 c5, p a4 c4 = .inr (g2, a5, c5) → fRow p f n a2 c2 = fRl p f n j (sqF g g2) a5 c5) → G d 189 25 [vR 220, vR al, none, vR r, vI 1] [] τ4 Q := by
  have fl : ∀ (τ4 : T2) (Ps : List Nat) (RP : Nat → Prop) (g : FTr) (a4 c4 : Nat), RwN τ2 τ4 f n dp DE r a2 c2 Ps RP g a4 c4 → (∀ e, p a4 c4 = .inl e → fRow p f n a2 c2 = .inl e) → FlN (p a4 c4) n a4 KP 9 τ4 (KC d 189 35 38 [vR 220, vR al, none, vR r, none] [AR (r + 1)] Q) := fun τ4 Ps RP g a4 c4 W h1 e τ5 he o5 F5 n5 z5 x1 x2 => by
    obtain ⟨w1, w2, w3, w4, w5, w6, w7, w8, w9, w10, w11, w12⟩ := W
    have han := w2.1.2.2.2
    have sb := sltA_b Ps.length
    exact kc_prop rfl rfl (kf e τ5 (h1 e he) (w1.tr o5) F5 (by omega) (by omega) x1 x2)
  intro j
  induction j with
  | zero =>
    intro τ4 Ps RP g a4 c4 hj W h1 h2
    obtain ⟨w1, w2, w3, w4, w5, w6, w7, w8, w9, w10, w11, w12⟩ := id W
    have F4 := w2.1.1
    refine t189_25 (by omega) (sal τ4 w1) w5 (F4.sh rfl (by omega) (by omega)) (fun q => absurd q (by decide)) (fun _ => ?_)
    rw [w6]
    exact H (d - 1) τ4 _ a4 c4 (by omega) w2 (fl τ4 Ps RP g a4 c4 W h1) (fun g2 a5 c5 τ5 x he o5 h5 ha5 hc5 n5 z5 hp => by have := h5.1.2.2.2; omega)
  | succ j ih =>
    intro τ4 Ps RP g a4 c4 hj W h1 h2
    obtain ⟨w1, w2, w3, w4, w5, w6, w7, w8, w9, w10, w11, w12⟩ := id W
    have F4 := w2.1.1
    refine t189_25 (by omega) (sal τ4 w1) w5 (F4.sh rfl (by omega) (by omega)) (fun q => absurd q (by decide)) (fun _ => ?_)
    rw [w6]
    refine H (d - 1) τ4 _ a4 c4 (by omega) w2 (fl τ4 Ps RP g a4 c4 W h1) (fun g2 a5 c5 τ5 x he o5 h5 ha5 hc5 n5 z5 hp => ?_)
    have F5 := h5.1.1
    have hN5 := o5.1
    have hc40 := h5.2.2.1
    have hx := hp.1
    have sar : tS τ5 (r + 1) = (1, 1, 0) := (o5.2.2.1 _ w10).trans w7.1.2.1
    refine t189_38 (r1 := some al) (r3 := some r) (s0 := some x) (s1 := r + 1) (by omega) sar ?_
    refine w7.add (d := d - 1) (by omega) F5 h5.2.2.2.2 (by omega) w8 o5 (fun a k z => by unfold PFM at z; omega) rfl hp.2.1 ⟨hx.1, hx.2⟩ (by omega) (fun τ6 o6 F6 n6 z6 L6 K6 hN6 lw6 => ?_)
    have h6 : PMf τ6 f n a5 c5 dp := h5.oc F6 o6 (fun b k z => by omega)
    have o26 : OC PFM τ2 τ6 := (w1.tr o5).tn o6 (fun a k ha z => by omega)
    have el : (Ps ++ [x]).length = Ps.length + 1 := by simp
    have Kp4 := (w7.pf (by omega) w8 o5 (fun a k z => by unfold PFM at z; omega)).2
    have W6 : RwN τ2 τ6 f n dp DE r a2 c2 (Ps ++ [x]) (fun y => RP y ∨ Rg (tN τ4) (tN τ5) y) (sqF g g2) a5 c5 := by
      refine ⟨o26, h6, by omega, by rw [el]; omega, ?_, ?_, L6, fun y hy => ?_, ?_, by omega, by omega, ?_⟩
      · rw [o6.2.2.1 r (by omega), o5.2.2.1 r (by omega)]; exact w5
      · rw [(lw6 r 0 (by omega)).2, (o5.2.2.2 r 0 (by omega) (by unfold PFM; omega)).2]; exact w6
      · rcases List.mem_append.mp hy with z | z
        · have := w8 y z; omega
        · rw [List.mem_singleton.mp z]
          have := hx.1
          have := hx.2
          omega
      · have q1 := PsM.mo (R1 := fun y => RP y ∨ Rg (tN τ4) (tN τ5) y) (τ1 := τ6) (D1 := DE) (fun y hy => Or.inl hy) (Kp4.tr K6 (fun y hy => Or.inl hy)) (Nat.le_refl _) Ps w9
        have q2 := hp.mo (R1 := fun y => RP y ∨ Rg (tN τ4) (tN τ5) y) (τ1 := τ6) (D1 := DE) (fun y hy => Or.inr hy) (fun y hy => K6 y (Or.inr hy)) (Nat.le_refl _)
        have := PsM.ap q2 Ps q1
        rw [show a4 - a2 + (a5 - a4) = a5 - a2 by omega] at this
        exact this
      · rw [el]; omega
    have so := h6.1.2.2.1.so 2 (Or.inl rfl)
    have s0 : tS τ6 220 = (1, 21, 0) := F6.sh rfl (by omega) (by omega)
    have hfr := h2 g2 a5 c5 he
    simp only [fRl] at hfr
    have nxt : fBeg f n a5 = true → G d 189 25 [vR 220, vR al, none, vR r, vI 1] [] τ6 Q := fun hb => by
      rw [if_pos hb] at hfr
      refine ih τ6 (Ps ++ [x]) _ (sqF g g2) a5 c5 (by omega) W6 (fun e he2 => ?_) (fun g3 a7 c7 he2 => ?_)
      · rw [hfr, he2]
      · rw [hfr, he2]
    refine t189_41 (r1 := some al) (r3 := some r) (by omega) s0 (fun q => nxt ?_) (fun q => m180 F6 h6.1.2.2.1 ?_)
    · unfold fBeg
      rw [decide_eq_true (so.mp q)]
      rfl
    have hn2 : ¬ tkS f n a5 = 2 := fun y => q (so.mpr y)
    cases hs : isS f n a5 40 with
    | true =>
      refine t189_56 (r1 := some al) (r3 := some r) (by omega) s0 (fun _ => nxt ?_) (fun q => absurd q (by decide))
      unfold fBeg
      rw [hs]
      simp
    | false =>
      refine t189_56 (r1 := some al) (r3 := some r) (by omega) s0 (fun q => absurd rfl q) (fun _ => m180 F6 h6.1.2.2.1 ?_)
      cases hs2 : isS f n a5 91 with
      | true =>
        refine t189_65 (r1 := some al) (r3 := some r) (fun q => absurd q (by decide)) (fun _ => nxt ?_)
        unfold fBeg
        rw [hs2]
        simp
      | false =>
        have hb : fBeg f n a5 = false := by
          unfold fBeg
          rw [hs, hs2, decide_eq_false hn2]
          rfl
        rw [if_neg (by rw [hb]; decide)] at hfr
        refine t189_65 (r1 := some al) (r3 := some r) (fun _ => ?_) (fun q => absurd rfl q)
        exact ke τ6 (Ps ++ [x]) _ (sqF g g2) a5 c5 W6 (by omega) (by omega) (by omega) hfr
/-- rows that are being read -/
def EiN (τ τ2 : T2) (f : Nat → Int) (n dp DE a c : Nat) (Rs : List Nat) (RR : Nat → Prop) (g : FTr) (w a2 c2 : Nat) : Prop := OC PFM τ τ2 ∧ PMf τ2 f n a2 c2 dp ∧ a ≤ a2 ∧ c + Rs.length ≤ c2 ∧ LsN τ2 (tN τ) (tN τ) Rs RR (1, 16, 0) ∧ (∀ y ∈ Rs, tN τ ≤ y ∧ y < tN τ2) ∧ RsM RR τ2 DE Rs g w ∧ w ≤ a2 - a ∧ tN τ < tN τ2 ∧ 2 * tN τ2 + Rs.length ≤ 2 * tN τ + 2 + 7 * (a2 - a) ∧ tZ τ2 + 20 * Rs.length ≤ tZ τ + 3 + 24 * (a2 - a) + sltA Rs.length
/-- a new row, empty -/
theorem m151 {d : Nat} {τ : T2} {Q : RS → T2 → Prop} {r : Nat} (F : FX2 τ) (hr : 473 ≤ r) (hn : tN τ = r + 1) (sr : tS τ r = (1, 16, 0)) (hd : 25 ≤ d) (k : ∀ τ1, OC (fun a _ => a = r) τ τ1 → FX2 τ1 → tN τ1 = r + 2 → tZ τ1 = tZ τ + 3 → tS τ1 r = (1, 16, 0) → tP τ1 r 0 = some (r + 1) → ALs τ1 (Rg (r + 1) (tN τ1)) (r + 1) [] → Q (.inl none) τ1) : G d 151 0 [vR r] [] τ Q := by
  refine t151_0 (by omega) ?_
  rw [hn]
  have o1 : OC (fun a _ => a = r) τ (nC τ (1, 1, 0) 3) := OC.rf.n
  have F1 : FX2 (nC τ (1, 1, 0) 3) := F.n
  have e1 : tS (nC τ (1, 1, 0) 3) r = (1, 16, 0) := by rw [nCS, if_neg (by omega)]; exact sr
  have e2 : tS (nC τ (1, 1, 0) 3) (r + 1) = (1, 1, 0) := by rw [nCS, if_pos (by omega)]
  have e3 : tI (nC τ (1, 1, 0) 3) (r + 1) 2 = 0 := by
    show rw2 (tI τ) (tN τ) (fun _ => 0) (r + 1) 2 = 0
    rw [hn, rw2_row]
  have n1 : tN (nC τ (1, 1, 0) 3) = r + 2 := by show tN τ + 1 = _; omega
  have z1 : tZ (nC τ (1, 1, 0) 3) = tZ τ + 3 := rfl
  generalize nC τ (1, 1, 0) 3 = τ1 at *
  refine t151_8 (s1 := some r) (by omega) (m253 e2 (by omega) ?_)
  have A := ALs_0 (R := Rg (r + 1) (r + 2)) e2 ⟨Nat.le_refl _, by omega⟩ e3
  refine t151_12 (s0 := some (r + 1)) (s1 := r) (show tS τ1 r = _ from e1) (k _ (((o1.jn (by omega)).qn (by omega)).q rfl) ((F1.j.q (PTI_n (by omega))).q (PTI_n hr)) n1 z1 e1 ?_ ?_)
  · rw [tP_uP, if_pos ⟨rfl, rfl⟩]
  · have hN : tN (uP (uP (uI τ1 (r + 1) 0 0) (r + 1) 1 (some 1)) r 0 (some (r + 1))) = r + 2 := n1
    rw [hN]
    refine A.mo (fun _ z => z) (fun a ha => ⟨rfl, rfl, ?_⟩)
    funext j
    rw [tP_uP, if_neg (fun z => by have := ha.1; omega)]
theorem m189l {p : Nat → Nat → PFR} {D DE KP dp : Nat} (H : SpP p f n D DE KP dp) (hDE : 30 ≤ DE) {d : Nat} (hd : D + 2 ≤ d) (hd2 : 45 ≤ d) {τ : T2} {Q : RS → T2 → Prop} {a c : Nat} (N : 473 ≤ tN τ) (kf : FlN (fEit (fRow p f n) f n a c) n a (KP + 6) 16 τ Q) (ks : ∀ g a1 c1 τ1 r, fEit (fRow p f n) f n a c = .inr (g, a1, c1) → OC PFM τ τ1 → PMf τ1 f n a1 c1 dp → a < a1 → c < c1 → 2 * tN τ1 ≤ 2 * tN τ + 7 * (a1 - a) + 8 → tZ τ1 ≤ tZ τ + 24 * (a1 - a) + 19 → tN τ ≤ r → r < tN τ1 → EiM (Rg (tN τ) (tN τ1)) τ1 (DE + 1) r g (a1 - a) → Q (.inl (some (AR r))) τ1) : ∀ (j : Nat) (τ2 : T2) (Rs : List Nat) (RR : Nat → Prop) (g : FTr) (w a2 c2 : Nat), n ≤ j + a2 → EiN τ τ2 f n dp DE a c Rs RR g w a2 c2 → (∀ e, fRow p f n a2 c2 = .inl e → fEit (fRow p f n) f n a c = .inl e) → (∀ g2 a3 c3, fRow p f n a2 c2 = .inr (g2, a3, c3) → fEit (fRow p f n) f n a c = fEl (fRow p f n) f n j (orF g g2) a3 c3) → G d 189 10 [vR 220, vR (tN τ), vI 1, none, none] [] τ2 Q := by
  -- one row: fails, or ends
  have row : ∀ (τ2 : T2) (Rs : List Nat) (RR : Nat → Prop) (g : FTr) (w a2 c2 : Nat), EiN τ τ2 f n dp DE a c Rs RR g w a2 c2 → (∀ e, fRow p f n a2 c2 = .inl e → fEit (fRow p f n) f n a c = .inl e) → (∀ g2 a3 c3 τ7 RR7 r w7, fRow p f n a2 c2 = .inr (g2, a3, c3) → a2 < a3 → c2 < c3 → OC PFM τ τ7 → PMf τ7 f n a3 c3 dp → LsN τ7 (tN τ) (tN τ) (Rs ++ [r]) RR7 (1, 16, 0) → (∀ y ∈ Rs ++ [r], tN τ ≤ y ∧ y < tN τ7) → RsM RR7 τ7 DE (Rs ++ [r]) (orF g g2) (w7 + 1) → w7 ≤ a3 - a → tN τ < tN τ7 → 2 * tN τ7 + Rs.length ≤ 2 * tN τ + 8 + 7 * (a3 - a) → tZ τ7 + 20 * Rs.length ≤ tZ τ + 7 + 24 * (a3 - a) + sltA (Rs.length + 1) → G d 189 83 [vR 220, vR (tN τ), none, none, none] [AI 1] τ7 Q) → G d 189 10 [vR 220, vR (tN τ), vI 1, none, none] [] τ2 Q := by
    intro τ2 Rs RR g w a2 c2 E h1 kk
    obtain ⟨v1, v2, v3, v4, v5, v6, v7, v8, v9, v10, v11⟩ := id E
    have F2 := v2.1.1
    have N2 := F2.1
    have han2 := v2.1.2.2.2
    refine t189_10 (r1 := some (tN τ)) (fun q => absurd q (by decide)) (fun _ => ?_)
    have o3 : OC (fun _ _ => False) τ2 (nC τ2 (1, 16, 0) 1) := OC.rf.n
    have F3 : FX2 (nC τ2 (1, 16, 0) 1) := F2.n
    have s3 : tS (nC τ2 (1, 16, 0) 1) (tN τ2) = (1, 16, 0) := if_pos rfl
    have n3 : tN (nC τ2 (1, 16, 0) 1) = tN τ2 + 1 := rfl
    have z3 : tZ (nC τ2 (1, 16, 0) 1) = tZ τ2 + 1 := rfl
    generalize nC τ2 (1, 16, 0) 1 = τ3 at *
    refine t189_17 (r1 := some (tN τ)) (by omega) (m151 F3 N2 n3 s3 (by omega) (fun τ4 o4 F4 n4 z4 s4 p4 A4 => t189_21 (r1 := some (tN τ)) (s0 := some (tN τ2)) ?_))
    have o24 : OC (fun _ _ => False) τ2 τ4 := o3.tn o4 (fun a k ha z => by omega)
    have oF : OC PFM τ2 τ4 := o24.mo fun _ _ z => z.elim
    have h4 : PMf τ4 f n a2 c2 dp := v2.oc F4 o24 (fun _ _ z => z.elim)
    have W : RwN τ2 τ4 f n dp DE (tN τ2) a2 c2 [] (fun _ => False) (fun _ S => S) a2 c2 := ⟨oF, h4, Nat.le_refl _, by simp, s4, p4, ⟨A4, fun y hy => (by cases hy), fun x hx => hx.elim⟩, fun y hy => (by cases hy), ⟨rfl, by omega⟩, by omega, by omega, by show tZ τ4 + 0 ≤ tZ τ2 + 4 + 24 * (a2 - a2) + 0; omega⟩
    have sal : ∀ τ5, OC PFM τ2 τ5 → tS τ5 (tN τ) = (1, 1, 0) := fun τ5 o5 => (o5.2.2.1 _ v9).trans v5.1.2.1
    have sb := sltA_b Rs.length
    refine m25 H (d := d) (by omega) (by omega) N2 rfl sal (fun e τ5 he o5 F5 n5 z5 x1 x2 => kf e τ5 (h1 e he) (v1.tr o5) F5 (by omega) (by omega) x1 x2) (fun τ5 Ps RP g5 a5 c5 W5 hPs ha5 hc5 he5 => ?_) 300 τ4 [] (fun _ => False) (fun _ S => S) a2 c2 (by have := v2.1.2.1.2.1; omega) W (fun e he => by unfold fRow; rw [he]) (fun g2 a5 c5 he => by unfold fRow; rw [he]; rfl)
    -- the row comes to the others
    obtain ⟨w1, w2, w3, w4, w5, w6, w7, w8, w9, w10, w11, w12⟩ := id W5
    have F5 := w2.1.1
    have hc40 := w2.2.2.1
    have hN5 := w1.1
    refine t189_25 (by omega) (sal τ5 w1) w5 (F5.sh rfl (by omega) (by omega)) (fun _ => ?_) (fun q => absurd rfl q)
    refine v5.add (d := d - 1) (by omega) F5 w2.2.2.2.2 N v6 w1 (fun b k z => by unfold PFM at z; omega) rfl w5 ⟨Nat.le_refl _, by omega⟩ (by omega) (fun τ7 o7 F7 n7 z7 L7 K7 hN7 lw7 => ?_)
    have h7 : PMf τ7 f n a5 c5 dp := w2.oc F7 o7 (fun b k z => by omega)
    have o07 : OC PFM τ τ7 := (v1.tr w1).tn o7 (fun b k hb z => by omega)
    have Kp2 := (v5.pf N v6 w1 (fun b k z => by unfold PFM at z; omega)).2
    have Kx : KpR (Rg (tN τ2) (tN τ5)) τ5 τ7 := fun y hy => K7 y (Or.inr hy)
    have hRw : RwM (Rg (tN τ2) (tN τ5)) τ5 DE (tN τ2) g5 (a5 - a2) := ⟨⟨Nat.le_refl _, by omega⟩, w5, tN τ2 + 1, Ps, w6, w7.1.mo (fun y hy => ⟨by have := hy.1; omega, hy.2⟩) (fun _ _ => ⟨rfl, rfl, rfl⟩), PsM.mo (fun y hy => ⟨by have := (w7.2.2 y hy).1; omega, (w7.2.2 y hy).2.1⟩) (fun y hy => ⟨(w7.2.2 y hy).2.1, rfl, rfl, rfl⟩) (Nat.le_refl _) Ps w9⟩
    have q1 := RsM.mo (R1 := fun y => RR y ∨ Rg (tN τ2) (tN τ5) y) (τ1 := τ7) (D1 := DE) (fun y hy => Or.inl hy) (Kp2.tr K7 (fun y hy => Or.inl hy)) (Nat.le_refl _) Rs v7
    have q2 := hRw.mo (R1 := fun y => RR y ∨ Rg (tN τ2) (tN τ5) y) (τ1 := τ7) (D1 := DE) (fun y hy => Or.inr hy) Kx (Nat.le_refl _)
    have q3 := RsM.ap q2 Rs q1
    have sbp := sltA_b Ps.length
    refine kk g5 a5 c5 τ7 _ (tN τ2) (w + (a5 - a2)) he5 ha5 hc5 o07 h7 L7 (fun y hy => ?_) q3 (by omega) (by omega) (by omega) (by omega)
    rcases List.mem_append.mp hy with z | z
    · have := v6 y z; omega
    · rw [List.mem_singleton.mp z]; omega
  intro j
  induction j with
  | zero =>
    intro τ2 Rs RR g w a2 c2 hj E h1 h2
    refine row τ2 Rs RR g w a2 c2 E h1 (fun g2 a3 c3 τ7 RR7 r w7 he ha3 hc3 o7 h7 => ?_)
    have := h7.1.2.2.2
    omega
  | succ j ih =>
    intro τ2 Rs RR g w a2 c2 hj E h1 h2
    have v3 := E.2.2.1
    have v4 := E.2.2.2.1
    refine row τ2 Rs RR g w a2 c2 E h1 (fun g2 a3 c3 τ7 RR7 r w7 he ha3 hc3 o7 h7 L7 hL7 R7 hw7 hN7 n7 z7 => ?_)
    have F7 := h7.1.1
    have s0 : tS τ7 220 = (1, 21, 0) := F7.sh rfl (by omega) (by omega)
    have hfe := h2 g2 a3 c3 he
    simp only [fEl] at hfe
    have el : (Rs ++ [r]).length = Rs.length + 1 := by simp
    refine t189_83 (r1 := some (tN τ)) (by omega) s0 (m180 F7 h7.1.2.2.1 ?_)
    cases hs : isS f n a3 47 with
    | false =>
      rw [if_neg (by rw [hs]; decide)] at hfe
      refine t189_90 (r1 := some (tN τ)) (by omega) s0 (fun _ => ?_) (fun q => absurd rfl q)
      have sb := sltA_b (Rs.length + 1)
      refine t189_10 (r1 := some (tN τ)) (fun _ => ks (orF g g2) a3 c3 τ7 (tN τ) hfe o7 h7 (by omega) (by omega) (by omega) (by omega) (Nat.le_refl _) hN7 ?_) (fun q => absurd rfl q)
      have hE := EiM_of (R := Rg (tN τ) (tN τ7)) (τ := τ7) (D := DE) (al := tN τ) (w := w7) (Rs := Rs ++ [r]) (g := orF g g2) hDE L7.1 (by omega) (RsM.mo (fun y hy => ⟨(L7.2.2 y hy).1, (L7.2.2 y hy).2.1⟩) (fun y hy => ⟨(L7.2.2 y hy).2.1, rfl, rfl, rfl⟩) (Nat.le_refl _) _ R7)
      exact hE.w (by omega)
    | true =>
      rw [if_pos hs] at hfe
      have hT := isS_t h7.1.2.2.2 hs
      refine t189_90 (r1 := some (tN τ)) (by omega) s0 (fun q => absurd q (by decide)) (fun _ => ?_)
      refine m177' h7.1 (by rw [isS_s hs]; decide) (by omega) (fun τ8 o8 F8 n8 z8 h8 => t189_99 (r1 := some (tN τ)) ?_)
      have h8' := h7.nx o8 h8
      obtain ⟨L8, K8⟩ := L7.pf N hL7 o8 (fun b k z => by unfold NXM at z; omega)
      refine ih τ8 (Rs ++ [r]) RR7 (orF g g2) (w7 + 1) (tkT f n a3) c3 (by omega) ⟨o7.tr (o8.mo fun _ _ z => NXM_F z), h8', by omega, by rw [el]; omega, L8, fun y hy => by have := hL7 y hy; omega, RsM.mo (fun _ z => z) K8 (Nat.le_refl _) _ R7, by omega, by omega, by rw [el]; omega, by rw [el]; omega⟩ (fun e he2 => ?_) (fun g3 a9 c9 he2 => ?_)
      · rw [hfe, he2]
      · rw [hfe, he2]
/-- readEither -/
theorem m189 {p : Nat → Nat → PFR} {D DE KP dp : Nat} (H : SpP p f n D DE KP dp) (hDE : 30 ≤ DE) (hD : 43 ≤ D) : SpE (fEit (fRow p f n) f n) f n (D + 2) (DE + 1) (KP + 6) dp := by
  intro d τ Q a c hd h kf ks
  have F := h.1.1
  have N := F.1
  refine t189_0 ?_
  have o1 : OC (fun _ _ => False) τ (nC τ (1, 1, 0) 3) := OC.rf.n
  have F1 : FX2 (nC τ (1, 1, 0) 3) := F.n
  have s1 : tS (nC τ (1, 1, 0) 3) (tN τ) = (1, 1, 0) := if_pos rfl
  have n1 : tN (nC τ (1, 1, 0) 3) = tN τ + 1 := rfl
  have z1 : tZ (nC τ (1, 1, 0) 3) = tZ τ + 3 := rfl
  have i1 : tI (nC τ (1, 1, 0) 3) (tN τ) 2 = 0 := by
    show rw2 (tI τ) (tN τ) (fun _ => 0) (tN τ) 2 = 0
    rw [rw2_row]
  generalize nC τ (1, 1, 0) 3 = τ1 at *
  refine t189_3 (by omega) (m253 s1 (by omega) (t189_7 (s0 := some (tN τ)) ?_))
  have A := ALs_0 (R := Rg (tN τ) (tN τ1)) s1 ⟨Nat.le_refl _, by omega⟩ i1
  have o2 : OC (fun _ _ => False) τ (uP (uI τ1 (tN τ) 0 0) (tN τ) 1 (some 1)) := (o1.jn (Nat.le_refl _)).qn (Nat.le_refl _)
  have F2 : FX2 (uP (uI τ1 (tN τ) 0 0) (tN τ) 1 (some 1)) := F1.j.q (PTI_n N)
  have n2 : tN (uP (uI τ1 (tN τ) 0 0) (tN τ) 1 (some 1)) = tN τ + 1 := n1
  have z2 : tZ (uP (uI τ1 (tN τ) 0 0) (tN τ) 1 (some 1)) = tZ τ + 3 := z1
  have A2 : ALs (uP (uI τ1 (tN τ) 0 0) (tN τ) 1 (some 1)) (Rg (tN τ) (tN (uP (uI τ1 (tN τ) 0 0) (tN τ) 1 (some 1)))) (tN τ) [] := A
  generalize uP (uI τ1 (tN τ) 0 0) (tN τ) 1 (some 1) = τ2 at *
  refine m189l H hDE (by omega) (by omega) N kf ks 300 τ2 [] (fun _ => False) nnF 0 a c (by have := h.1.2.1.2.1; omega) ⟨o2.mo fun _ _ z => z.elim, h.oc F2 o2 (fun _ _ z => z.elim), Nat.le_refl _, by simp, ⟨A2, fun y hy => (by cases hy), fun x hx => hx.elim⟩, fun y hy => (by cases hy), ⟨rfl, rfl⟩, Nat.zero_le _, by omega, by show 2 * tN τ2 + 0 ≤ _; omega, by show tZ τ2 + 0 ≤ tZ τ + 3 + 24 * (a - a) + 0; omega⟩ (fun e he => by unfold fEit; rw [he]) (fun g2 a3 c3 he => by unfold fEit; rw [he, orF_nn])
/-- all that a form nests -/
theorem mFor : ∀ k, k ≤ 8 → SpE (fFor f n k) f n (46 + 3 * k) (31 + 2 * k) (11 + 3 * k) (8 - k) := by
  intro k
  induction k with
  | zero =>
    intro _
    have H : NsN none f n 43 20 8 8 := Or.inl ⟨rfl, rfl⟩
    have := m189 (m190 (f := f) (n := n) (DE := 30) (KP := 5) H (by omega) (by omega) (by omega) (by omega) (by omega) (by omega)) (by omega) (by omega)
    exact fun d τ Q a c hd => this d τ Q a c (by omega)
  | succ k ih =>
    intro hk
    have H : NsN (some (fFor f n k)) f n (46 + 3 * k) (31 + 2 * k) (11 + 3 * k) (8 - (k + 1)) := by
      refine Or.inr ⟨fFor f n k, rfl, by omega, ?_⟩
      rw [show 8 - (k + 1) + 1 = 8 - k by omega]
      exact ih (by omega)
    have := m189 (m190 (f := f) (n := n) (DE := 32 + 2 * k) (KP := 8 + 3 * k) H (by omega) (by omega) (by omega) (by omega) (by omega) (by omega)) (by omega) (by omega)
    exact fun d τ Q a c hd h kf ks => this d τ Q a c (by omega) h (fun e τ1 he o F1 n1 z1 => kf e τ1 he o F1 (by omega) (by omega)) (fun g a1 c1 τ1 r he o h1 ha hc n1 z1 hr1 hr2 hE => ks g a1 c1 τ1 r he o h1 ha hc n1 z1 hr1 hr2 (hE.mo (fun _ z => z) (fun b hb => ⟨hb.2, rfl, rfl, rfl⟩) (by omega)))
end RME
