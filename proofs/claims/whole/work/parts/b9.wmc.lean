/-! working of the model -/
/-- so many rows of a new working are made -/
def wsz (a : Nat) : Nat := if a ≤ 3 then 12 else 144
def WB (q : Nat) (τ : T2) (i Z : Nat) (τ1 : T2) : Prop := OC (fun a k => a = q ∧ k < 5) τ τ1 ∧ FX2 τ1 ∧ tN τ1 = q + 1 + i ∧ tZ τ1 = tZ τ + Z ∧ tS τ1 q = (1, 20, 0) ∧ (∀ a, 1 ≤ a → a ≤ i → tS τ1 (q + a) = (2, 0, wsz a) ∧ ∀ k, tI τ1 (q + a) k = 0) ∧ ∀ f, f + 1 < i → tP τ1 q f = some (q + f + 1)
theorem WB.st {q i Z s : Nat} {τ τ1 : T2} (hq : 473 ≤ q) (hn : tN τ = q + 1) (h : WB q τ i Z τ1) (hi : i ≤ 4) (hs : wsz (i + 1) = s) (h1 : 1 ≤ i) : WB q τ (i + 1) (Z + s) (nC (uP τ1 q (i - 1) (some (q + i))) (2, 0, s) s) := by
  obtain ⟨o, F, n, z, sq, sh, p⟩ := h
  have nn : tN (uP τ1 q (i - 1) (some (q + i))) = q + 1 + i := n
  refine ⟨(o.q ⟨rfl, by omega⟩).n, (F.q (PTI_n hq)).n, ?_, ?_, ?_, fun a h1 h2 => ⟨?_, fun k => ?_⟩, fun f hf => ?_⟩
  · show tN τ1 + 1 = _; omega
  · show tZ τ1 + s = _; omega
  · rw [nCS, nn, if_neg (by omega)]; exact sq
  · rw [nCS, nn]
    by_cases e : a = i + 1
    · subst e
      rw [if_pos (by omega), hs]
    · rw [if_neg (by omega)]; exact (sh a h1 (by omega)).1
  · show rw2 (tI (uP τ1 q (i - 1) (some (q + i)))) (tN (uP τ1 q (i - 1) (some (q + i)))) (fun _ => 0) (q + a) k = 0
    rw [nn]
    by_cases e : a = i + 1
    · rw [show q + a = q + 1 + i by omega, rw2_row]
    · rw [rw2_oth _ _ (by omega), tI_uP]; exact (sh a h1 (by omega)).2 k
  · show rw2 (tP (uP τ1 q (i - 1) (some (q + i)))) (tN (uP τ1 q (i - 1) (some (q + i)))) (fun _ => none) q f = _
    rw [nn, rw2_oth _ _ (by omega), tP_uP]
    by_cases e : f = i - 1
    · rw [if_pos ⟨rfl, e⟩, show q + i = q + f + 1 by omega]
    · rw [if_neg (fun y => e y.2)]; exact p f (by omega)
theorem m161e {d : Nat} {τ τ5 : T2} {Q : RS → T2 → Prop} {q own : Nat} (hq : 473 ≤ q) (hn : tN τ = q + 1) (h0 : tI τ q 5 = 0) (k : ∀ τ1, OC (fun a k => a = q ∧ k < 5) τ τ1 → FX2 τ1 → tN τ1 = q + 6 → tZ τ1 = tZ τ + 324 → WkM τ1 q own 0 [] → Q (.inl none) τ1) (b5 : WB q τ 5 324 τ5) : G d 161 43 [none] [AP (some (q + 5)), AR q] τ5 Q := by
  obtain ⟨o, F5, n, z, s5, sh, p⟩ := b5
  refine t161_43 (s0 := some (q + 5)) s5 (k _ (o.q ⟨rfl, by omega⟩) (F5.q (PTI_n hq)) (by show tN τ5 = _; omega) (by show tZ τ5 = _; omega) ⟨⟨hq, by show q + 5 < tN τ5; omega, s5, ⟨?_, ?_, ?_, ?_, ?_⟩, (sh 1 (by omega) (by omega)).1, (sh 2 (by omega) (by omega)).1, (sh 3 (by omega) (by omega)).1, (sh 4 (by omega) (by omega)).1, (sh 5 (by omega) (by omega)).1⟩, ?_, Nat.zero_le _, fun k hk => absurd hk (Nat.not_lt_zero _), rfl, fun x hx => (by cases hx), fun j _ => ?_⟩)
  · rw [tP_uP, if_neg (by omega)]; exact p 0 (by omega)
  · rw [tP_uP, if_neg (by omega)]; exact p 1 (by omega)
  · rw [tP_uP, if_neg (by omega)]; exact p 2 (by omega)
  · rw [tP_uP, if_neg (by omega)]; exact p 3 (by omega)
  · rw [tP_uP, if_pos ⟨rfl, rfl⟩]
  · rw [tI_uP, (o.2.2.2 q 5 (by omega) (by omega)).1]; exact h0
  · rw [tI_uP]; exact (sh 3 (by omega) (by omega)).2 j
/-- the constructor of a working -/
theorem m161 {d : Nat} {τ : T2} {Q : RS → T2 → Prop} {q own : Nat} (F : FX2 τ) (hq : 473 ≤ q) (hn : tN τ = q + 1) (sq : tS τ q = (1, 20, 0)) (h0 : tI τ q 5 = 0) (hd : 17 ≤ d) (k : ∀ τ1, OC (fun a k => a = q ∧ k < 5) τ τ1 → FX2 τ1 → tN τ1 = q + 6 → tZ τ1 = tZ τ + 324 → WkM τ1 q own 0 [] → Q (.inl none) τ1) : G d 161 0 [vR q] [] τ Q := by
  refine t161_0 hd ?_
  have b1 : WB q τ 1 12 (nC τ (2, 0, 12) 12) := by
    refine ⟨OC.rf.n, F.n, ?_, rfl, ?_, fun a h1 h2 => ⟨?_, fun k => ?_⟩, fun f hf => absurd hf (by omega)⟩
    · show tN τ + 1 = _; omega
    · rw [nCS, if_neg (by omega)]; exact sq
    · rw [nCS, if_pos (by omega), show a = 1 by omega]; rfl
    · show rw2 (tI τ) (tN τ) (fun _ => 0) (q + a) k = 0
      rw [show tN τ = q + a by omega, rw2_row]
  rw [hn]
  generalize nC τ (2, 0, 12) 12 = τ1 at b1 ⊢
  refine t161_9 (s0 := some (q + 1)) b1.2.2.2.2.1 ?_
  have b2 := b1.st hq hn (by omega) (s := 12) rfl (by omega)
  rw [show tN (uP τ1 q 0 (some (q + 1))) = q + 2 from b1.2.2.1]
  rw [show (1 : Nat) - 1 = 0 from rfl] at b2
  generalize nC (uP τ1 q 0 (some (q + 1))) (2, 0, 12) 12 = τ2 at b2 ⊢
  refine t161_17 (s0 := some (q + 2)) b2.2.2.2.2.1 ?_
  have b3 := b2.st hq hn (by omega) (s := 12) rfl (by omega)
  rw [show tN (uP τ2 q 1 (some (q + 2))) = q + 3 from b2.2.2.1]
  rw [show (1 + 1 : Nat) - 1 = 1 from rfl, show (1 + 1 : Nat) = 2 from rfl] at b3
  generalize nC (uP τ2 q 1 (some (q + 2))) (2, 0, 12) 12 = τ3 at b3 ⊢
  refine t161_25 (s0 := some (q + 3)) b3.2.2.2.2.1 ?_
  have b4 := b3.st hq hn (by omega) (s := 144) rfl (by omega)
  rw [show tN (uP τ3 q 2 (some (q + 3))) = q + 4 from b3.2.2.1]
  rw [show (2 + 1 : Nat) - 1 = 2 from rfl, show (2 + 1 : Nat) = 3 from rfl] at b4
  generalize nC (uP τ3 q 2 (some (q + 3))) (2, 0, 144) 144 = τ4 at b4 ⊢
  refine t161_34 (s0 := some (q + 4)) b4.2.2.2.2.1 ?_
  have b5 := b4.st hq hn (by omega) (s := 144) rfl (by omega)
  rw [show tN (uP τ4 q 3 (some (q + 4))) = q + 5 from b4.2.2.1]
  rw [show (3 + 1 : Nat) - 1 = 3 from rfl, show (3 + 1 : Nat) = 4 from rfl] at b5
  generalize nC (uP τ4 q 3 (some (q + 4))) (2, 0, 144) 144 = τ5 at b5 ⊢
  exact m161e hq hn h0 k b5
theorem mc214 {x y : Int} : MCl 214 [vR 220, vI x, vI y, none, none] (sp_working x y) := fun d τ S Q hd F C w k => by
  have s0 : ∀ {τ : T2}, FX2 τ → tS τ 220 = (1, 21, 0) := fun F => (s220 F).1
  have w1 := w.1 S.1 (by simp)
  refine t214_0 (by omega) (s0 F) ?_
  have k := fun τ2 h => k τ2 (EM.bef (Kp.rf.j (a := 220) (k := 0) (x := 0) (by omega) (by omega)) rfl rfl h)
  have C := C.t0 w F (x := 0)
  have F : FX2 (uI τ 220 0 0) := F.j
  generalize uI τ 220 0 0 = τ at *
  have N := F.1
  have C0 := C
  obtain ⟨R, ⟨E, L, hc⟩, T, O, h3, h4, h5⟩ := C0
  have h20 := w1.1.1
  unfold sp_working at k
  refine m207 F R.1.1 (fun r hr e => ?_) (fun h => ?_)
  · subst e
    rw [if_pos (show 0 ≤ (r : Int) ∧ (r : Int) < (cn S.1 0 : Int) by omega)] at k
    rw [Int.toNat_natCast] at k
    have sr0 := shM r (by omega)
    have kd : tI τ (336 + 4 * r) 0 = cD S.1 1 r 0 := (R.2.1 1 r 0 (by unfold ok; omega)).2 (by omega)
    refine t214_10 (q3 := 221) (n5 := 20) (q8 := 336 + 4 * r) (by omega) (s0 F) (F.p rfl) (F.sh rfl (by omega) (by omega)) (fun _ => by omega) (fun _ => by rw [Int.toNat_natCast]; exact F.p (ptM r (by omega)).1) (F.sh sr0.1 (by omega) (by omega)) (fun _ hk => ?_) (fun _ hk => ?_) (fun q => absurd q (by decide))
    · rw [kd] at hk
      rw [if_neg hk] at k
      refine m206 F T.1 (fun m hm e => ?_) (fun h => ?_)
      · subst e
        rw [if_pos (show 0 ≤ (m : Int) ∧ (m : Int) ≤ ((sTp S).length : Int) by have : m ≤ (sTp S).length := hm; omega)] at k
        rw [Int.toNat_natCast] at k
        refine t214_43 (by omega) (s0 F) (fun _ => ?_) (fun q => absurd q (by decide))
        -- a new working
        have o1 : OC (fun a k => a = 220 ∧ k = 3) τ (nC (uI τ 220 3 0) (1, 20, 0) 6) := (OC.j (P := fun a k => a = 220 ∧ k = 3) OC.rf ⟨rfl, rfl⟩).n
        have F1 : FX2 (nC (uI τ 220 3 0) (1, 20, 0) 6) := F.j.n
        have n1 : tN (nC (uI τ 220 3 0) (1, 20, 0) 6) = tN τ + 1 := rfl
        have z1 : tZ (nC (uI τ 220 3 0) (1, 20, 0) 6) = tZ τ + 6 := rfl
        have a1 : tS (nC (uI τ 220 3 0) (1, 20, 0) 6) (tN τ) = (1, 20, 0) := if_pos rfl
        have b1 : tI (nC (uI τ 220 3 0) (1, 20, 0) 6) (tN τ) 5 = 0 := by
          show rw2 (tI (uI τ 220 3 0)) (tN τ) (fun _ => 0) (tN τ) 5 = 0
          rw [rw2_row]
        have c1 : tI (nC (uI τ 220 3 0) (1, 20, 0) 6) 220 3 = 0 := by
          show rw2 (tI (uI τ 220 3 0)) (tN τ) (fun _ => 0) 220 3 = 0
          rw [rw2_oth _ _ (by omega), tI_uI, if_pos ⟨rfl, rfl⟩]
        rw [show tN (uI τ 220 3 0) = tN τ from rfl]
        generalize nC (uI τ 220 3 0) (1, 20, 0) 6 = τ1 at *
        refine t214_60 (by omega) (m161 (own := r) F1 N n1 a1 b1 (by omega) (fun τ2 o2 F2 n2 z2 ro2 => ?_))
        have o02 : OC (fun a k => a = 220 ∧ k = 3) τ τ2 := o1.tn o2 (fun a k h1 h2 => by omega)
        have N2 := F2.1
        have c2 : tI τ2 220 3 = 0 := by rw [(o2.2.2.2 220 3 (by omega) (by omega)).1]; exact c1
        refine t214_64 (s0 := some (tN τ)) (by omega) (s0 F2) ?_
        refine m178 F2 (T.oc F o02 (fun a k z => by omega)) w.2.1 w.2.2.1 hm (by omega) (fun τ3 o3 F3 n3 z3 X3 K3 e15 => ?_)
        have N3 := F3.1
        have o03 : OC TXM τ τ3 := (o02.mo fun a k z => by unfold TXM; omega).tr (o3.mo fun a k z => by unfold BGM at z; unfold TXM; omega)
        have wo3 : WOb τ3 (tN τ) := ro2.1.oc o3 (fun a k z => by unfold BGM at z; omega)
        have wk3 : WkM τ3 (tN τ) r 0 [] := ro2.cel wo3 (wcel ro2.1 o3 (fun a k z => by unfold BGM at z; omega))
        have c3 : tI τ3 220 3 = 0 := by rw [(o3.2.2.2 220 3 (by omega) (by unfold BGM; omega)).1]; exact c2
        have hb3 : PMb τ3 (byt (sTp S)) m 0 := ⟨F3, X3, K3, Nat.zero_le _⟩
        refine t214_70 (r3 := some (tN τ)) (by omega) (s0 F3) ?_
        -- what reading leaves, seen from the start
        have up : ∀ {τ5 : T2}, PKW (tN τ) τ3 τ5 → OC TXM τ τ5 ∧ tN τ5 = tN τ + 6 ∧ tZ τ5 = tZ τ + 330 ∧ tI τ5 220 15 = 0 ∧ tI τ5 220 3 = 0 := fun {τ5} p => by
          refine ⟨o03.tn p.1 (fun a k h1 h2 => by unfold PPW at h2; unfold TXM; omega), by have := p.2.1; omega, by have := p.2.2.1; omega, ?_, ?_⟩
          · rw [(p.1.2.2.2 220 15 (by omega) (by unfold PPW; omega)).1]; exact e15
          · rw [(p.1.2.2.2 220 3 (by omega) (by unfold PPW; omega)).1]; exact c3
        have wrg : ∀ e τ5, pWork (byt (sTp S)) m r = .inl e → PKW (tN τ) τ3 τ5 → FX2 τ5 → tI τ5 225 6 = e.1 → tI τ5 225 7 = (e.2 : Int) → G d 214 93 [vR 220, none, none, none, none] [AR 225] τ5 Q := fun e τ5 he p5 F5 x1 x2 => by
          rw [he] at k
          obtain ⟨o5, n5, z5, e155, -⟩ := up p5
          have N5 := F5.1
          refine t214_93 (s0 := some 225) (by omega) (s0 F5) (m211 F5 x1 x2 (fun τ6 o6 F6 n6 z6 y1 y2 y3 => t214_101 (by decide) (k τ6 ?_)))
          have o06 : OC TXM τ τ6 := o5.tr (o6.mo fun a k z => by unfold TXM; omega)
          exact ⟨o06.kp (fun a k z => by unfold TXM at z; omega), F6, by omega, by omega, C.fl w F o06 (by rw [(o6.2.2.2 220 15 (by omega) (by omega)).1]; exact e155) y1 y2 y3⟩
        have hand : ∀ e τ5, pWork (byt (sTp S)) m r = .inl e → PKW (tN τ) τ3 τ5 → FX2 τ5 → tI τ5 225 6 = e.1 → tI τ5 225 7 = (e.2 : Int) → KC d 214 73 76 [vR 220, vI (r : Int), none, vR (tN τ), none] [] Q (.inr 225) τ5 := fun e τ5 he p5 F5 x1 x2 => kc_hand (ci := 18) (z := 0) (h := 93) rfl rfl (s225 F5) (G_fg (lw2_k _ (lw2_f _ (lw2_k _ (lw2_f _ (lw2_k _ lw2_nil))))) (wrg e τ5 he p5 F5 x1 x2))
        refine m201 (own := r) (by omega) (by omega) hb3 wk3 (fun e τ5 he p5 F5 x1 x2 => hand e τ5 he p5 F5 x1 x2) (fun g a5 mn5 τ5 hpr p5 h5s wk5 => ?_)
        · have F5 := h5s.1
          have N5 := F5.1
          have ke := h5s.2.2.1.e
          have ha3 : m ≤ 300 := h5s.2.1.2.1
          have han := h5s.2.2.2
          refine t214_76 (r3 := some (tN τ)) (by omega) (s0 F5) (fun q => ?_) (fun q => ?_)
          · rw [if_pos (ke.mp q)] at hpr
            rw [hpr] at k
            obtain ⟨o05, n5, z5, e155, c5'⟩ := up p5
            have ruq : WoM τ5 r (tN τ) (wrk g) := woM_of wk5
            have R5 : RM τ5 S.1 := R.oc w1 F o05 (fun a k z => by unfold TXM at z; unfold DM; omega)
            have L5 : LgM τ5 E := L.oc F o05 (fun a k z => by unfold TXM at z; omega)
            refine m170 F5 L5 (fun τ6 q6 p6 o6 F6 n6 z6 hl => ?_)
            have N6 := F6.1
            have hb := hl.b
            have R6 : RM τ6 S.1 := R5.acc w1 F5 o6
            obtain ⟨p60, p61, p62⟩ := p6
            have hl2 := (hl.p (tP τ6 (336 + 4 * r) 11)).2.2
            have ho := (R6.2.2.2.2 r hr).2.2
            have sr := shM r (by omega)
            have F7 : FX2 (uP τ6 q6 7 (tP τ6 (336 + 4 * r) 11)) := F6.q (by
              cases e : PTI q6 7 with
              | none => rfl
              | some q => exact absurd e (by rw [PTn_act hb.1 hb.2]; simp))
            refine t214_111 (r3 := some (tN τ)) (s0 := q6) (q2 := 221) (n4 := 20) (q7 := 336 + 4 * r) (q11 := 221) (n13 := 20) (q16 := 336 + 4 * r) (by omega) (s0 F6) (F6.p rfl) (F6.sh rfl (by omega) (by omega)) (by omega) (by rw [Int.toNat_natCast]; exact F6.p (ptM r (by omega)).1) (F6.sh sr.1 (by omega) (by omega)) (shq F6 hb.1 hb.2) (F7.p rfl) (F6.sh rfl (by omega) (by omega)) (by omega) (by rw [Int.toNat_natCast]; exact F7.p (ptM r (by omega)).1) (F6.sh sr.1 (by omega) (by omega)) ?_
            have o67 : OC AMP τ6 (uP τ6 q6 7 (tP τ6 (336 + 4 * r) 11)) := OC.rf.q (by unfold AMP; omega)
            have n7 : tN (uP τ6 q6 7 (tP τ6 (336 + 4 * r) 11)) = tN τ + 6 := by show tN τ6 = _; omega
            have z7 : tZ (uP τ6 q6 7 (tP τ6 (336 + 4 * r) 11)) = tZ τ + 330 := by show tZ τ6 = _; omega
            generalize hτ7 : uP τ6 q6 7 (tP τ6 (336 + 4 * r) 11) = τ7 at *
            have o57 : OC AMP τ5 τ7 := o6.tr o67
            have o07 : OC (fun a k => TXM a k ∨ AMP a k) τ τ7 := (o05.mo fun a k z => Or.inl z).tr (o57.mo fun a k z => Or.inr z)
            have fr67 : Fr τ6 τ7 := o67.fr fun a k z => by unfold AMP at z; omega
            have fr57 : Fr τ5 τ7 := o57.fr fun a k z => by unfold AMP at z; omega
            have fr07 : Fr τ τ7 := o07.fr fun a k z => by unfold TXM AMP at z; omega
            have R7 : RM τ7 S.1 := R6.acc w1 F6 o67
            have N7 := F7.1
            have o78 : OC (fun a k => a = 336 + 4 * r ∧ k = 11) τ7 (uP τ7 (336 + 4 * r) 11 (some (tN τ))) := OC.q (P := fun a k => a = 336 + 4 * r ∧ k = 11) OC.rf ⟨rfl, rfl⟩
            have fr78 : Fr τ7 (uP τ7 (336 + 4 * r) 11 (some (tN τ))) := Fr.q (by omega)
            have R8 := R7.wo (v := some (wrk g)) (p := some (tN τ)) w1 hr (Or.inr ⟨tN τ, wrk g, rfl, rfl, ruq.fr fr57⟩)
            have F8 : FX2 (uP τ7 (336 + 4 * r) 11 (some (tN τ))) := F7.q (pnR r (by omega)).2.2.2.2.2
            have lg8 : LgM (uP τ7 (336 + 4 * r) 11 (some (tN τ))) (((3, (r : Int), 0, 0, 0), p60, p61, tP τ6 (336 + 4 * r) 11) :: E.take 99) := hl2.lg.oc F7 o78 (fun a k z => by omega)
            have un8 : UndM (uP τ7 (336 + 4 * r) 11 (some (tN τ))) ((3, (r : Int), 0, 0, 0), p60, p61, tP τ6 (336 + 4 * r) 11) (cWo S.1 r (some (wrk g))) S.1 := und_wo_M w1 hr (ho.mo fun _ _ z => z.fr (fr67.tr fr78))
            have b15 : tI τ7 220 15 = 0 := by rw [(o57.2.2.2 220 15 (by omega) (by unfold AMP; omega)).1]; exact e155
            have b3 : tI τ7 220 3 = 0 := by rw [(o57.2.2.2 220 3 (by omega) (by unfold AMP; omega)).1]; exact c5'
            have T8 : TpM (uP τ7 (336 + 4 * r) 11 (some (tN τ))) [] := ⟨by rw [tI_uP]; exact b15, fun j hj => (by cases hj)⟩
            have O8 : OuM (uP τ7 (336 + 4 * r) 11 (some (tN τ))) (sOu S) := (O.oc F o07 (fun a k z => by unfold TXM AMP at z; omega)).oc F7 o78 (fun a k z => by omega)
            refine m166 F8 (t214_137 (by decide) (k _ ?_))
            refine ⟨((((o07.kp (fun a k z => by unfold TXM AMP at z; omega)).q (by omega) (by omega)).j (by omega) (by omega)).j (by omega) (by omega)), F8.j.j, ?_, ?_, MI.mkD F8 w1 R8 lg8 un8 hc (fr07.tr fr78) T8 O8 (by rw [tI_uP]; exact b3)⟩
            · show tN τ7 ≤ _; omega
            · show tZ τ7 ≤ _; omega
          · rw [if_neg (fun y => q (ke.mpr y))] at hpr
            refine m172' h5s (fun τ6 o6 F6 n6 z6 x1 x2 => t214_89 (by omega) (s225 F6) (wrg (1, tkF (byt (sTp S)) m a5) τ6 hpr (p5.tr (PKW.th (e := (1, tkF (byt (sTp S)) m a5)) ⟨o6, F6, n6, z6, x1, x2⟩)) F6 x1 x2))
      · rw [if_neg (show ¬ (0 ≤ y ∧ y ≤ ((sTp S).length : Int)) by have h : y < 0 ∨ (((sTp S).length : Nat) : Int) < y := h; omega)] at k
        exact t214_43 (by omega) (s0 F) (fun q => absurd rfl q) (fun _ => m164 F (t214_51 (by decide) (k _ (EM.rfs F C w))))
    · rw [kd] at hk
      rw [if_pos hk] at k
      exact m164 F (t214_37 (by decide) (k _ (EM.rfs F C w)))
  · rw [if_neg (show ¬ (0 ≤ x ∧ x < (cn S.1 0 : Int)) by omega)] at k
    exact t214_10 (q3 := 221) (n5 := 20) (q8 := 336) (by omega) (s0 F) (F.p rfl) (F.sh rfl (by omega) (by omega)) (fun q => absurd rfl q) (fun q => absurd rfl q) (F.sh rfl (by omega) (by omega)) (fun q => absurd rfl q) (fun q => absurd rfl q) (fun _ => m164 F (t214_18 (by decide) (k _ (EM.rfs F C w))))
