/-! fits, follows -/
theorem row_sh {τ : T2} {v : Nat} (F : FX2 τ) (hv : v = 80 ∨ v = 82) : tS τ v = (1, 7, 0) ∧ tS τ (v + 1) = (2, 1, 24) ∧ tP τ v 0 = some (v + 1) := by
  rcases hv with e | e
  · subst e; exact ⟨F.sh rfl (by omega) (by omega), F.sh rfl (by omega) (by omega), F.p rfl⟩
  · subst e; exact ⟨F.sh rfl (by omega) (by omega), F.sh rfl (by omega) (by omega), F.p rfl⟩
theorem c49 {d : Nat} {τ : T2} {Q : RS → T2 → Prop} {v r : Nat} {l w : List Int} (F : FX2 τ) (hv : v = 80 ∨ v = 82) (hr : r < 20) (h1 : tI τ v 1 = (l.length : Int)) (hL : Ls τ (v + 1) l) (h2 : tI τ (92 + 4 * r) 3 = (w.length : Int)) (hW : Ls τ (93 + 4 * r) w) (h12 : w.length ≤ 12) (k : Q (.inl (some (AI (bi (decide (l = w)))))) τ) : G d 49 0 [vR v, vR (92 + 4 * r), none] [] τ Q := by
  obtain ⟨sv, sw, pv⟩ := row_sh F hv
  have sr := shR r hr
  have s1 := F.sh sr.1 (by omega) (by omega)
  have s2 := F.sh sr.2.1 (by omega) (by omega)
  have p2 := F.p (ptR r hr).2.1
  have no : ¬ l = w → Q (.inl (some (AI 0))) τ := fun h => by
    rw [decide_eq_false h] at k
    exact k
  refine t49_0 sv s1 (fun c => ?_) (fun c => ?_)
  · rw [h1, h2] at c
    have lp : ∀ (j i : Nat), i + j = l.length → (∀ q, q < i → byt l q = byt w q) → G d 49 15 [vR v, vR (92 + 4 * r), vI (i : Int)] [] τ Q := by
      intro j
      induction j with
      | zero =>
        intro i hi hq
        have fin : Q (.inl (some (AI 1))) τ := by
          rw [decide_eq_true (show l = w from lst_eq (by omega) (fun q hq1 => hq q (by omega)))] at k
          exact k
        exact t49_15 (q4 := v + 1) (n6 := 24) (q10 := 93 + 4 * r) (n12 := 12) sv pv sw (fun z _ => by rw [h1] at z; omega) s1 p2 s2 (fun z _ => by rw [h1] at z; omega) (fun _ => fin) (fun _ _ => fin) (fun z _ _ => by rw [h1] at z; omega) (fun z _ _ => by rw [h1] at z; omega)
      | succ j ih =>
        intro i hi hq
        have e1 : tI τ (v + 1) i = byt l i := hL i (by omega)
        have e2 : tI τ (93 + 4 * r) i = byt w i := hW i (by omega)
        refine t49_15 (q4 := v + 1) (n6 := 24) (q10 := 93 + 4 * r) (n12 := 12) sv pv sw (fun _ _ => by omega) s1 p2 s2 (fun _ _ => by omega) (fun z => by rw [h1] at z; omega) (fun _ z => by omega) (fun _ _ z => ?_) (fun _ _ z => ?_)
        · rw [Int.toNat_natCast, e1, e2] at z
          rw [wr_nat (by omega)]
          refine ih (i + 1) (by omega) (fun q hq1 => ?_)
          by_cases e : q = i
          · rw [e]; exact z
          · exact hq q (by omega)
        · rw [Int.toNat_natCast, e1, e2] at z
          exact no (fun e => z (by rw [e]))
    exact lp l.length 0 (by omega) (fun q hq => by omega)
  · rw [h1, h2] at c
    exact no (fun e => c (by rw [e]))
theorem fit_d {c : CO} {r : Nat} {l : List Int} {f : WSm} (hf : cW c r = some f) (h : f (ltr c) 0 = some l) : decide (mak c r 0 = some (ltr c r)) = decide (l = ltr c r) := by
  have em : mak c r 0 = some l := by unfold mak; rw [hf]; exact h
  rw [em]
  by_cases e : l = ltr c r
  · rw [decide_eq_true e, decide_eq_true (by rw [e])]
  · rw [decide_eq_false e, decide_eq_false (fun z => e (Option.some.inj z))]
theorem fit_n {c : CO} {r : Nat} {f : WSm} (hf : cW c r = some f) (h : f (ltr c) 0 = none) : decide (mak c r 0 = some (ltr c r)) = false := by
  have em : mak c r 0 = none := by unfold mak; rw [hf]; exact h
  rw [em]
  exact decide_eq_false (fun z => by cases z)
theorem cc105 {x : Int} : CCl 105 [vR 64, vI x, none, none] (sp_fits x) := fun d τ S Q hd F C w k => by
  have s0 : ∀ τ : T2, FX2 τ → tS τ 64 = (1, 11, 0) := fun τ F => F.sh rfl (by omega) (by omega)
  have N := F.1
  have w1 := w.1 S.1 (by simp)
  have h20 := w1.1.1
  have R := C.1
  have C0 := C
  obtain ⟨-, -, -, ⟨a, v, o1, o2, o3, -, -⟩, -⟩ := C0
  have hv : v = 80 ∨ v = 82 := by omega
  unfold sp_fits at k
  refine t105_0 (by omega) (s0 τ F) (c129 F R.1.1 h20 (fun r hr e => ?_) (fun e => ?_))
  · subst e
    rw [if_pos (by omega), Int.toNat_natCast] at k
    have ho := (R.2.2.2 r hr).2.2
    have sr := F.sh (shR r (by omega)).1 (by omega) (by omega)
    refine t105_5 (q3 := 66) (n5 := 20) (q8 := 92 + 4 * r) (by omega) (s0 τ F) (F.p rfl) (F.sh rfl (by omega) (by omega)) (fun _ => by omega) (fun _ => by rw [Int.toNat_natCast]; exact F.p (ptR r (by omega)).1) sr (fun _ q e => ?_) (fun _ e => ?_) (fun z => absurd z (by decide))
    · obtain ⟨f, hf, wo⟩ := ho.ss e
      rw [if_pos (by rw [hf]; rfl)] at k
      have F1 : FX2 (uI τ 64 16 0) := F.j
      have R1 : RC (uI τ 64 16 0) S.1 := (C.rfs w F (why := 0) (by decide)).1
      refine t105_35 (q2 := v) (by omega) (s0 τ F) o3 sr (row_sh F hv).1 ?_
      rw [F.p (show PTI 64 2 = some 66 from rfl), e]
      have ed : ∀ τ2, OC (fun a k => (a = v ∧ k = 1) ∨ a = v + 1) (uI τ 64 16 0) τ2 → tN τ2 = tN τ → tZ τ2 = tZ τ → FX2 τ2 ∧ tP τ2 64 13 = some v ∧ EC τ τ2 (rfS S 0) := fun τ2 o n2 z2 => by
        have F2 : FX2 τ2 := FX_row F1 hv o
        have o' : OC (fun a k => a = v ∨ a = v + 1 ∨ (a = 64 ∧ k = 16)) τ τ2 := (OC.j (P := fun a k => a = v ∨ a = v + 1 ∨ (a = 64 ∧ k = 16)) OC.rf (by omega)).tr (o.mo fun a k z => by omega)
        have h16 : tI τ2 64 16 = 0 := by
          rw [(o.2.2.2 64 16 (by show 64 < tN τ; omega) (by omega)).1, tI_uI, if_pos ⟨rfl, rfl⟩]
        exact ⟨F2, by rw [(o'.2.2.2 64 13 (by omega) (by omega)).2]; exact o3, o'.kp (fun a k z => by omega), F2, by omega, by omega, C.tr w F o3 o' h16 (by decide)⟩
      refine wo.2 (uI τ 64 16 0) (d - 1) _ v (ltr S.1) 0 (by omega) (Fr.u (by omega)) F1 hv (anl w1 hr) (R1.anc w1 hr) (by unfold okI; omega) (fun τ2 o n2 z2 hfn => ?_) (fun τ2 l o n2 z2 hfs hl e1 hL => ?_)
      · obtain ⟨F2, p13, E2⟩ := ed τ2 o n2 z2
        rw [fit_n hf hfn] at k
        exact t105_56 (q3 := v) (r2 := some (92 + 4 * r)) (by omega) (s0 _ F2) p13 (row_sh F2 hv).1 (fun _ => k _ E2) (fun z => absurd rfl z)
      · obtain ⟨F2, p13, E2⟩ := ed τ2 o n2 z2
        rw [fit_d hf hfs] at k
        have R2 : RC τ2 S.1 := E2.2.2.2.2.1
        refine t105_56 (q3 := v) (r2 := some (92 + 4 * r)) (by omega) (s0 _ F2) p13 (row_sh F2 hv).1 (fun z => absurd z (by decide)) (fun _ => ?_)
        refine c49 F2 hv (by omega) e1 hL (R2.lt w1 hr).1 (R2.lt w1 hr).2 (ltr_len w1 hr).2.2 ?_
        have k2 := k _ E2
        refine t105_69 (fun z => ?_) (fun z => ?_)
        · rw [z] at k2; exact k2
        · rw [bi_1 z] at k2; exact k2
    · rw [if_neg (by rw [ho.nn e]; exact fun z => by cases z)] at k
      exact c126 F (t105_34 (k _ (EC.rfs F C w (by decide))))
  · rw [if_neg (by omega)] at k
    exact t105_5 (q3 := 66) (n5 := 20) (q8 := 92) (by omega) (s0 τ F) (F.p rfl) (F.sh rfl (by omega) (by omega)) (fun z => absurd rfl z) (fun z => absurd rfl z) (F.sh rfl (by omega) (by omega)) (fun z => absurd rfl z) (fun z => absurd rfl z) (fun _ => c126 F (t105_13 (k _ (EC.rfs F C w (by decide)))))
theorem mc224 {x : Int} : MCl 224 [vR 220, vI x, none, none, none] (sp_fits x) := fun d τ S Q hd F C w k => by
  have s0 : ∀ τ : T2, FX2 τ → tS τ 220 = (1, 21, 0) := fun τ F => F.sh rfl (by omega) (by omega)
  have w1 := w.1 S.1 (by simp)
  refine t224_0 (by omega) (s0 τ F) ?_
  have k := fun τ2 h => k τ2 (EM.bef (Kp.rf.j (a := 220) (k := 0) (x := 0) (by omega) (by omega)) rfl rfl h)
  have C := C.t0 w F (x := 0)
  have F : FX2 (uI τ 220 0 0) := F.j
  generalize uI τ 220 0 0 = τ at *
  have R := C.1
  have h20 := w1.1.1
  have N := F.1
  unfold sp_fits at k
  refine m207 F R.1.1 (fun r hr e => ?_) (fun e => ?_)
  · subst e
    rw [if_pos (by omega), Int.toNat_natCast] at k
    have ho := (R.2.2.2.2 r hr).2.2
    have sr : ∀ τ : T2, FX2 τ → tS τ (336 + 4 * r) = (1, 15, 0) := fun τ F => F.sh (shM r (by omega)).1 (by omega) (by omega)
    refine t224_10 (q3 := 221) (n5 := 20) (q8 := 336 + 4 * r) (by omega) (s0 τ F) (F.p rfl) (F.sh rfl (by omega) (by omega)) (fun _ => by omega) (fun _ => by rw [Int.toNat_natCast]; exact F.p (ptM r (by omega)).1) (sr τ F) (fun _ q e => ?_) (fun _ e => ?_) (fun z => absurd z (by decide))
    · obtain ⟨f, hf, wo⟩ := ho.ss e
      rw [if_pos (by rw [hf]; rfl)] at k
      have ed : ∀ τ2, OC MaM τ τ2 → tN τ2 = tN τ → tZ τ2 = tZ τ → FX2 τ2 ∧ RM τ2 S.1 ∧ EM τ (uI (uI τ2 220 1 0) 220 2 (-1)) (rfS S 0) := fun τ2 o n2 z2 => by
        have F2 := FX_made F o
        have C2 : MI τ2 S := C.oc w F o (fun a k z => by unfold MaM at z; unfold FM DM AMP; omega)
        exact ⟨F2, C2.1, EM.bef (o.kp (fun a k z => by unfold MaM at z; omega)) n2 z2 (EM.rfs F2 C2 w)⟩
      have fin0 : ∀ τ2 (i : Nat), OC MaM τ τ2 → tN τ2 = tN τ → tZ τ2 = tZ τ → decide (mak S.1 r 0 = some (ltr S.1 r)) = false → G d 224 72 [vR 220, none, vR (336 + 4 * r), vI 0, vI (i : Int)] [] τ2 Q := fun τ2 i o n2 z2 hb => by
        obtain ⟨F2, -, E2⟩ := ed τ2 o n2 z2
        rw [hb] at k
        have k2 : Q (.inl (some (AI 0))) (uI (uI τ2 220 1 0) 220 2 (-1)) := k _ E2
        exact t224_72 (q7 := 231) (n9 := 37) (q12 := 337 + 4 * r) (n14 := 12) (by omega) (sr _ F2) (s0 _ F2) (F2.p rfl) (F2.sh rfl (by omega) (by omega)) (fun _ z => absurd rfl z) (F2.p (ptM r (by omega)).2.1) (F2.sh (shM r (by omega)).2.1 (by omega) (by omega)) (fun _ z => absurd rfl z) (fun _ _ => m165 F2 (t224_127 k2)) (fun _ z => absurd rfl z) (fun _ _ _ => m165 F2 (t224_127 k2)) (fun _ _ z => absurd rfl z) (fun _ z => absurd rfl z) (fun _ z => absurd rfl z)
      refine t224_40 (by omega) (sr τ F) (s0 τ F) ?_
      rw [e]
      refine wo τ (d - 1) _ (ltr S.1) 0 (by omega) Fr.rf F (anl w1 hr) (R.anm w1 hr) (by unfold okI; omega) (fun τ2 o n2 z2 hfn => ?_) (fun τ2 l o n2 z2 hfs hl24 e1 hL => ?_)
      · obtain ⟨F2, -, -⟩ := ed τ2 o n2 z2
        exact t224_49 (s0 _ F2) (sr _ F2) (fun _ => fin0 τ2 0 o n2 z2 (fit_n hf hfn)) (fun z => absurd rfl z) (fun z => absurd rfl z)
      · obtain ⟨F2, R2, E2⟩ := ed τ2 o n2 z2
        obtain ⟨l2, hW⟩ := R2.lt w1 hr
        have b12 := ltr_len w1 hr
        have hfd := fit_d hf hfs
        generalize hA : ltr S.1 r = A at *
        refine t224_49 (s0 _ F2) (sr _ F2) (fun z => absurd z (by decide)) (fun _ z => ?_) (fun _ z => ?_)
        · rw [e1, l2] at z
          exact fin0 τ2 0 o n2 z2 (hfd.trans (decide_eq_false (fun e => z (by rw [e]))))
        · rw [e1, l2] at z
          have lp : ∀ (j i : Nat), i + j = A.length → (∀ q, q < i → byt l q = byt A q) → G d 224 72 [vR 220, none, vR (336 + 4 * r), vI 1, vI (i : Int)] [] τ2 Q := by
            intro j
            induction j with
            | zero =>
              intro i hi hq
              rw [hfd, decide_eq_true (show l = A from lst_eq (by omega) (fun q hq1 => hq q (by omega)))] at k
              have k2 : Q (.inl (some (AI 1))) (uI (uI τ2 220 1 0) 220 2 (-1)) := k _ E2
              exact t224_72 (q7 := 231) (n9 := 37) (q12 := 337 + 4 * r) (n14 := 12) (by omega) (sr _ F2) (s0 _ F2) (F2.p rfl) (F2.sh rfl (by omega) (by omega)) (fun z _ => by rw [l2] at z; omega) (F2.p (ptM r (by omega)).2.1) (F2.sh (shM r (by omega)).2.1 (by omega) (by omega)) (fun z _ => by rw [l2] at z; omega) (fun _ z => absurd z (by decide)) (fun _ _ => m165 F2 (t224_127 k2)) (fun _ z => absurd z (by decide)) (fun _ z => absurd z (by decide)) (fun z => by rw [l2] at z; omega) (fun z => by rw [l2] at z; omega)
            | succ j ih =>
              intro i hi hq
              have x1 : tI τ2 231 i = byt l i := hL i (by omega)
              have x2 : tI τ2 (337 + 4 * r) i = byt A i := hW i (by omega)
              refine t224_72 (q7 := 231) (n9 := 37) (q12 := 337 + 4 * r) (n14 := 12) (by omega) (sr _ F2) (s0 _ F2) (F2.p rfl) (F2.sh rfl (by omega) (by omega)) (fun _ _ => by omega) (F2.p (ptM r (by omega)).2.1) (F2.sh (shM r (by omega)).2.1 (by omega) (by omega)) (fun _ _ => by omega) (fun z => by rw [l2] at z; omega) (fun z => by rw [l2] at z; omega) (fun _ z => absurd z (by decide)) (fun _ z => absurd z (by decide)) (fun _ _ z => ?_) (fun _ _ z => ?_)
              · rw [Int.toNat_natCast, x1, x2] at z
                rw [wr_nat (by omega)]
                exact fin0 τ2 (i + 1) o n2 z2 (hfd.trans (decide_eq_false (fun e => z (by rw [e]))))
              · rw [Int.toNat_natCast, x1, x2] at z
                rw [wr_nat (by omega)]
                refine ih (i + 1) (by omega) (fun q hq1 => ?_)
                by_cases e : q = i
                · rw [e]; exact z
                · exact hq q (by omega)
          exact lp A.length 0 (by omega) (fun q hq => by omega)
    · rw [if_neg (by rw [ho.nn e]; exact fun z => by cases z)] at k
      exact m163 F (t224_39 (k _ (EM.rfs F C w)))
  · rw [if_neg (by omega)] at k
    exact t224_10 (q3 := 221) (n5 := 20) (q8 := 336) (by omega) (s0 τ F) (F.p rfl) (F.sh rfl (by omega) (by omega)) (fun z => absurd rfl z) (fun z => absurd rfl z) (F.sh rfl (by omega) (by omega)) (fun z => absurd rfl z) (fun z => absurd rfl z) (fun _ => m163 F (t224_18 (k _ (EM.rfs F C w))))
