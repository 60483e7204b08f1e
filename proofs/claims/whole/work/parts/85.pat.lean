/-! patience, hint -/
theorem shq {τ : T2} (F : FX2 τ) {q : Nat} (q1 : 236 ≤ q) (q2 : q < 336) : tS τ q = (1, 12, 0) := by
  have := F.sh (SHA (q - 236) (by omega)) (by omega) (by omega)
  rw [show 236 + (q - 236) = q by omega] at this
  exact this
def cPa (c : CO) (r : Nat) (s l : Int) : CO := cU (cU c 1 r 3 s) 1 r 4 l
def sp_patience (x s l : Int) (S : HSx) : Int × HSx := if 0 ≤ x ∧ x < (cn S.1 0 : Int) then (if (0 ≤ s ∧ s ≤ 3) ∧ 0 ≤ l ∧ l ≤ 60 then (1, acS S (cPa S.1 x.toNat s l)) else (0, rfS S 2)) else (0, rfS S 1)
theorem vd1 {r k : Nat} (hr : r < 20) (hk : k < 6) : vd 1 r k := by unfold vd; omega
theorem cPa_back {c : CO} {r : Nat} {s l : Int} : cU (cU (cPa c r s l) 1 r 3 (cD c 1 r 3)) 1 r 4 (cD c 1 r 4) = c := by
  unfold cPa
  rw [cU_cm (c := cU c 1 r 3 s) (g := 1) (i := r) (k := 4) (by omega), cU_back]
  exact cU_back
theorem und_pat_C {τ : T2} {c : CO} (w : WF c) {r : Nat} (hr : r < cn c 0) {s l : Int} : UndC τ ((5, (r : Int), cD c 1 r 3, cD c 1 r 4, 0), none) (cPa c r s l) c := by
  intro τ1 d Q hd fr F R ⟨⟨m1, m2, m3, m4, m5⟩, m6⟩ k
  have l1 : tI τ1 89 4 = 5 := m1
  have l2 : tI τ1 89 5 = (r : Int) := m2
  have l3 : tI τ1 89 6 = cD c 1 r 3 := m3
  have l4 : tI τ1 89 7 = cD c 1 r 4 := m4
  have h20 := w.1.1
  refine ⟨fun _ => ?_, fun h => absurd (show 8 ≤ (5 : Int) from h) (by decide)⟩
  have s89 : tS τ1 89 = (1, 5, 0) := F.sh rfl (by omega) (by omega)
  have s64 : tS τ1 64 = (1, 11, 0) := F.sh rfl (by omega) (by omega)
  have sr := F.sh (shR r (by omega)).1 (by omega) (by omega)
  refine t145_0 (q2 := 89) (q6 := 70) (by omega) s64 (F.p rfl) s89 (F.p rfl) (F.sh rfl (by omega) (by omega)) (fun _ => ?_) (fun h => by rw [l1] at h; exact absurd h (by decide))
  rw [l2]
  refine c129 F R.1.1 h20 (fun r1 hr1 e => ?_) (fun e => by have : cn (cPa c r s l) 0 = cn c 0 := rfl; omega)
  have e : r1 = r := by omega
  subst e
  refine t145_39 (q3 := 66) (n5 := 20) (q8 := 89) s64 (F.p rfl) (F.sh rfl (by omega) (by omega)) (fun _ => by omega) (F.p rfl) s89 (fun _ => ?_) (fun c => absurd c (by decide))
  rw [Int.toNat_natCast, F.p (ptR r1 (by omega)).1, l1]
  refine t145_57 (fun c => absurd c (by decide)) (fun c => absurd c (by decide)) (fun c => absurd c (by decide)) (fun c => absurd c (by decide)) (fun _ => ?_) (fun c => absurd c (by decide))
  refine t145_164 (q2 := 89) s64 (F.p rfl) s89 sr ?_
  rw [show tI (uI τ1 (92 + 4 * r1) 4 (tI τ1 89 6)) 89 7 = tI τ1 89 7 by rw [tI_uI, if_neg (by omega)], l3, l4]
  have R2 := RC.je (RC.je R (a := 92 + 4 * r1) (j := 4) (x := cD c 1 r1 3) (vd1 (r := r1) (k := 3) (by omega) (by omega)) (by omega) (by omega) rfl rfl) (a := 92 + 4 * r1) (j := 5) (x := cD c 1 r1 4) (vd1 (r := r1) (k := 4) (by omega) (by omega)) (by omega) (by omega) rfl rfl
  rw [cPa_back] at R2
  exact k _ ((OC.rf.j (by unfold DC; omega)).j (by unfold DC; omega)) F.j.j rfl rfl R2
theorem und_pat_M {τ : T2} {c : CO} (w : WF c) {r : Nat} (hr : r < cn c 0) {s l : Int} {p : Option Nat × Option Nat × Option Nat} : UndM τ ((4, (r : Int), cD c 1 r 3, cD c 1 r 4, 0), p) (cPa c r s l) c := by
  intro τ1 d Q q hd fr F R q1 q2 ⟨⟨m1, m2, m3, m4, m5⟩, _⟩ k
  have l1 : tI τ1 q 0 = 4 := m1
  have l2 : tI τ1 q 1 = (r : Int) := m2
  have l3 : tI τ1 q 2 = cD c 1 r 3 := m3
  have l4 : tI τ1 q 3 = cD c 1 r 4 := m4
  have h20 := w.1.1
  have sq := shq F q1 q2
  have sr := F.sh (shM r (by omega)).1 (by omega) (by omega)
  show G d 171 38 [vR 220, vR q, none] [AI 4] τ1 Q
  refine t171_38 (fun c => absurd c (by decide)) (fun c => absurd c (by decide)) (fun c => absurd c (by decide)) (fun c => absurd c (by decide)) (fun _ => ?_) (fun c => absurd c (by decide)) (fun c => absurd c (by decide)) (fun c => absurd c (by decide)) (fun c => absurd c (by decide)) (fun c => absurd c (by decide)) (fun c => absurd c (by decide))
  have g : ∀ j x, tI (uI τ1 (336 + 4 * r) 3 x) q j = tI τ1 q j := fun j x => by rw [tI_uI, if_neg (by omega)]
  refine t171_162 (q2 := 221) (n5 := 20) (q8 := 336 + 4 * r) (q12 := 336 + 4 * r) (F.sh rfl (by omega) (by omega)) (F.p rfl) sq (F.sh rfl (by omega) (by omega)) (by rw [l2]; omega) (by rw [l2, Int.toNat_natCast]; exact F.p (ptM r (by omega)).1) sr (by rw [g, l2]; omega) (by rw [g, l2, Int.toNat_natCast]; exact F.p (ptM r (by omega)).1) sr ?_
  rw [g, l3, l4]
  have R2 := RM.je (RM.je R (a := 336 + 4 * r) (j := 3) (x := cD c 1 r 3) (vd1 (r := r) (k := 3) (by omega) (by omega)) (by omega) (by omega) rfl rfl) (a := 336 + 4 * r) (j := 4) (x := cD c 1 r 4) (vd1 (r := r) (k := 4) (by omega) (by omega)) (by omega) (by omega) rfl rfl
  rw [cPa_back] at R2
  exact k _ ((OC.rf.j (by unfold DM; omega)).j (by unfold DM; omega)) F.j.j rfl rfl R2
theorem cPa_D {c : CO} {r : Nat} {s l : Int} {g i k : Nat} : cD (cPa c r s l) g i k = if g = 1 ∧ i = r ∧ k = 4 then l else if g = 1 ∧ i = r ∧ k = 3 then s else cD c g i k := rfl
theorem wf_pat {c : CO} (w : WF c) {r : Nat} {s l : Int} (hs : 0 ≤ s ∧ s ≤ 3) (hl : 0 ≤ l ∧ l ≤ 60) : WF (cPa c r s l) := by
  obtain ⟨w1, w2, w3, w4, w5⟩ := w
  have e : ∀ g i k, g ≠ 1 → cD (cPa c r s l) g i k = cD c g i k := fun g i k h => by rw [cPa_D, if_neg (by omega), if_neg (by omega)]
  have eg : ∀ g i, g ≠ 1 → cD (cPa c r s l) g i = cD c g i := fun g i h => funext fun k => e g i k h
  have eh : ∀ g, g ≠ 1 → cD (cPa c r s l) g = cD c g := fun g h => funext fun i => eg g i h
  have ek : ∀ i k, k ≠ 3 → k ≠ 4 → cD (cPa c r s l) 1 i k = cD c 1 i k := fun i k h1 h2 => by rw [cPa_D, if_neg (by omega), if_neg (by omega)]
  refine ⟨⟨w1.1, w1.2.1, w1.2.2.1, by rw [e _ _ _ (by decide)]; exact w1.2.2.2.1, by rw [e _ _ _ (by decide)]; exact w1.2.2.2.2⟩, fun i hi => ?_, fun t ht => ?_, fun u hu => ?_, fun t ht => ?_⟩
  · obtain ⟨a1, a2, a3, a4, a5, a6, a7, a8⟩ := w2 i hi
    rw [ek i 0 (by decide) (by decide), ek i 1 (by decide) (by decide), ek i 2 (by decide) (by decide), ek i 5 (by decide) (by decide), eg 2 i (by decide), eg 3 i (by decide), eg 4 i (by decide)]
    refine ⟨a1, a2, a3, ?_, ?_, a6, a7, a8⟩
    · rw [cPa_D, if_neg (by omega)]
      split
      · exact hs
      · exact a4
    · rw [cPa_D]
      split
      · exact hl
      · rw [if_neg (by omega)]; exact a5
  · obtain ⟨a1, a2, a3⟩ := w3 t ht
    rw [eg 5 t (by decide), eg 6 t (by decide), eg 7 t (by decide), eg 8 t (by decide), eg 9 t (by decide), eg 0 0 (by decide)]
    refine ⟨a1, a2, fun i hi => ?_⟩
    rw [ek i 5 (by decide) (by decide)]
    exact a3 i hi
  · rw [eg 11 u (by decide), eg 12 u (by decide)]; exact w4 u hu
  · rw [eg 8 t (by decide), eg 10 t (by decide), eh 4 (by decide)]; exact w5 t ht
theorem ws_pat {S : HSx} (w : WS S) {x s l : Int} : WS (sp_patience x s l S).2 := by
  unfold sp_patience
  split
  · split
    · rename_i h
      exact w.act (wf_pat (w.1 _ (by simp)) h.1 h.2)
    · exact w.rfs 2
  · exact w.rfs 1
theorem cc97 {x s l : Int} : CCl 97 [vR 64, vI x, vI s, vI l, none] (sp_patience x s l) := fun d τ S Q hd F C w k => by
  have s0 : ∀ τ : T2, FX2 τ → tS τ 64 = (1, 11, 0) := fun τ F => F.sh rfl (by omega) (by omega)
  have w1 := w.1 S.1 (by simp)
  have C0 := C
  obtain ⟨R, ⟨E, L, hc⟩, T, O, h3, h4, h5⟩ := C0
  have h20 := w1.1.1
  refine t97_0 (by omega) (s0 τ F) (c129 F R.1.1 h20 (fun r hr e => ?_) (fun e => ?_))
  · subst e
    have sr := F.sh (shR r (by omega)).1 (by omega) (by omega)
    have bad : ¬ ((0 ≤ s ∧ s ≤ 3) ∧ 0 ≤ l ∧ l ≤ 60) → Q (.inl (some (AI 0))) (uI τ 64 16 2) := fun h => by
      unfold sp_patience at k
      rw [if_pos (by omega), if_neg h] at k
      exact k _ (EC.rfs F C w (by decide))
    refine t97_5 (q7 := 66) (n9 := 20) (q12 := 92 + 4 * r) (by omega) (s0 τ F) (F.p rfl) (F.sh rfl (by omega) (by omega)) (fun _ _ _ _ _ => by omega) (fun _ _ _ _ _ => by rw [Int.toNat_natCast]; exact F.p (ptR r (by omega)).1) sr (fun _ h => bad (by omega)) (fun _ _ h => bad (by omega)) (fun _ _ _ h => bad (by omega)) (fun _ a1 a2 a3 a4 => ?_) (fun _ _ _ _ h => bad (by omega)) (fun c => absurd c (by decide))
    unfold sp_patience at k
    rw [if_pos (by omega), if_pos (by omega)] at k
    rw [R.r3 hr, R.r4 hr]
    refine c127 F L (by omega) fun τ1 o F1 hn hz h0 hl => t97_66 (F1.sh (shR r (by omega)).1 (by omega) (by omega)) ?_
    have R1 := R.acc w1 F o
    obtain ⟨T1, O1, h51⟩ := acc_C F o T O h5
    have R2 := RC.je (RC.je R1 (a := 92 + 4 * r) (j := 4) (x := s) (vd1 (r := r) (k := 3) (by omega) (by omega)) (by omega) (by omega) rfl rfl) (a := 92 + 4 * r) (j := 5) (x := l) (vd1 (r := r) (k := 4) (by omega) (by omega)) (by omega) (by omega) rfl rfl
    have o2 : OC (fun a _ => a = 92 + 4 * r) τ1 (uI (uI τ1 (92 + 4 * r) 4 s) (92 + 4 * r) 5 l) := (OC.ad OC.rf).ad
    have N := F1.1
    refine k _ ⟨((ACP_kp o).j (by omega) (by omega)).j (by omega) (by omega), F1.j.j, by show tN τ1 ≤ _; omega, by show tZ τ1 ≤ _; omega, CI.mkA R2 (hl.oc F1 o2 (fun a k z => by omega)) (und_pat_C w1 hr) hc ((o.fr fun a k z => by unfold ACP LGP at z; omega).tr (o2.fr fun a k z => by omega)) (T1.oc F1 o2 (fun a k z => by omega)) (O1.oc F1 o2 (fun a k z => by omega)) ?_ ?_⟩
    · rw [(o2.2.2.2 64 16 (by omega) (by omega)).1]; exact h0
    · rw [(o2.2.2.2 64 17 (by omega) (by omega)).1]; exact h51
  · unfold sp_patience at k
    rw [if_neg (by omega)] at k
    exact t97_5 (q7 := 66) (n9 := 20) (q12 := 92) (by omega) (s0 τ F) (F.p rfl) (F.sh rfl (by omega) (by omega)) (fun c => absurd rfl c) (fun c => absurd rfl c) (F.sh rfl (by omega) (by omega)) (fun c => absurd rfl c) (fun c => absurd rfl c) (fun c => absurd rfl c) (fun c => absurd rfl c) (fun c => absurd rfl c) (fun _ => k _ (EC.rfs F C w (by decide)))
theorem mc215 {x s l : Int} : MCl 215 [vR 220, vI x, vI s, vI l, none] (sp_patience x s l) := fun d τ S Q hd F C w k => by
  have s0 : ∀ τ : T2, FX2 τ → tS τ 220 = (1, 21, 0) := fun τ F => F.sh rfl (by omega) (by omega)
  have w1 := w.1 S.1 (by simp)
  refine t215_0 (by omega) (s0 τ F) ?_
  have k := fun τ2 h => k τ2 (EM.bef (Kp.rf.j (a := 220) (k := 0) (x := 0) (by omega) (by omega)) rfl rfl h)
  have C := C.t0 w F (x := 0)
  have F : FX2 (uI τ 220 0 0) := F.j
  generalize uI τ 220 0 0 = τ at *
  have C0 := C
  obtain ⟨R, ⟨E, L, hc⟩, T, O, h3, h4, h5⟩ := C0
  have h20 := w1.1.1
  refine m207 F R.1.1 (fun r hr e => ?_) (fun e => ?_)
  · subst e
    have sr := F.sh (shM r (by omega)).1 (by omega) (by omega)
    have bad : ¬ ((0 ≤ s ∧ s ≤ 3) ∧ 0 ≤ l ∧ l ≤ 60) → G (d - 1) 164 0 [vR 220, vI 2] [] τ (KC d 215 40 43 [none, none, none, none, none] [] Q) := fun h => by
      unfold sp_patience at k
      rw [if_pos (by omega), if_neg h] at k
      exact m164 F (t215_43 (Or.inl rfl) (k _ (EM.rfs F C w)))
    refine t215_10 (by omega) (s0 τ F) (fun _ => m167 (fun a1 a2 => ?_) (fun h => ?_)) (fun c => absurd c (by decide))
    · refine t215_25 (by omega) (s0 τ F) (fun c => absurd c (by decide)) (fun _ => m167 (fun a3 a4 => ?_) (fun h => ?_))
      · refine t215_35 (q3 := 221) (n5 := 20) (q8 := 336 + 4 * r) (by omega) (s0 τ F) (F.p rfl) (F.sh rfl (by omega) (by omega)) (fun _ => by omega) (fun _ => by rw [Int.toNat_natCast]; exact F.p (ptM r (by omega)).1) sr (fun _ => ?_) (fun c => absurd c (by decide))
        unfold sp_patience at k
        rw [if_pos (by omega), if_pos (by omega)] at k
        rw [R.rr hr (by omega), R.rr hr (by omega)]
        refine m170 F L fun τ1 q p o F1 hn hz hl => t215_69 (s0 := some q) (by omega) (F1.sh (shM r (by omega)).1 (by omega) (by omega)) (s0 _ F1) ?_
        have R1 := R.acc w1 F o
        obtain ⟨T1, O1, h51⟩ := acc_M F o T O h5
        have R2 := RM.je (RM.je R1 (a := 336 + 4 * r) (j := 3) (x := s) (vd1 (r := r) (k := 3) (by omega) (by omega)) (by omega) (by omega) rfl rfl) (a := 336 + 4 * r) (j := 4) (x := l) (vd1 (r := r) (k := 4) (by omega) (by omega)) (by omega) (by omega) rfl rfl
        have o2 : OC (fun a _ => a = 336 + 4 * r) τ1 (uI (uI τ1 (336 + 4 * r) 3 s) (336 + 4 * r) 4 l) := (OC.ad OC.rf).ad
        have N := F1.1
        refine m166 F1.j.j (t215_86 (Or.inr rfl) ?_)
        refine k (dnM (uI (uI τ1 (336 + 4 * r) 3 s) (336 + 4 * r) 4 l)) ⟨((((AMP_kp o).j (by omega) (by omega)).j (by omega) (by omega)).j (by omega) (by omega)).j (by omega) (by omega), F1.j.j.j.j, by show tN τ1 ≤ _; omega, by show tZ τ1 ≤ _; omega, MI.mkD F1.j.j (wf_pat w1 ⟨a1, a2⟩ ⟨a3, a4⟩) R2 (hl.lg.oc F1 o2 (fun a k z => by omega)) (und_pat_M w1 hr) hc ((o.fr fun a k z => by unfold AMP at z; omega).tr (o2.fr fun a k z => by omega)) (T1.oc F1 o2 (fun a k z => by omega)) (O1.oc F1 o2 (fun a k z => by omega)) ?_⟩
        rw [(o2.2.2.2 220 3 (by omega) (by omega)).1]; exact h51
      · exact t215_35 (q3 := 221) (n5 := 20) (q8 := 336) (by omega) (s0 τ F) (F.p rfl) (F.sh rfl (by omega) (by omega)) (fun c => absurd rfl c) (fun c => absurd rfl c) (F.sh rfl (by omega) (by omega)) (fun c => absurd rfl c) (fun _ => bad (by omega))
    · exact t215_25 (by omega) (s0 τ F) (fun _ => bad (by omega)) (fun c => absurd rfl c)
  · unfold sp_patience at k
    rw [if_neg (by omega)] at k
    exact t215_10 (by omega) (s0 τ F) (fun c => absurd rfl c) (fun _ => m164 F (t215_18 (Or.inl rfl) (k _ (EM.rfs F C w))))
/-- hints -/
def cHi (c : CO) (r h : Nat) (m p : Int) : CO := cU (cU (cU c 3 r h m) 4 r h p) 1 r 5 ((h : Int) + 1)
def sp_hint (x m p : Int) (S : HSx) : Int × HSx := if 0 ≤ x ∧ x < (cn S.1 0 : Int) then (if (0 ≤ m ∧ m ≤ 999) ∧ 0 ≤ p ∧ p ≤ 999 then (if cD S.1 1 x.toNat 5 < 3 then (cD S.1 1 x.toNat 5 + 1, acS S (cHi S.1 x.toNat (cD S.1 1 x.toNat 5).toNat m p)) else (-1, rfS S 3)) else (-1, rfS S 2)) else (-1, rfS S 1)
theorem cHi_D {c : CO} {r h : Nat} {m p : Int} {g i k : Nat} : cD (cHi c r h m p) g i k = if g = 1 ∧ i = r ∧ k = 5 then (h : Int) + 1 else if g = 4 ∧ i = r ∧ k = h then p else if g = 3 ∧ i = r ∧ k = h then m else cD c g i k := rfl
section HI
variable {c : CO} {r h : Nat} {m p : Int}
theorem cHi_5 {i : Nat} : cD (cHi c r h m p) 1 i 5 = if i = r then (h : Int) + 1 else cD c 1 i 5 := by
  rw [cHi_D]
  by_cases e : i = r
  · rw [if_pos ⟨rfl, e, rfl⟩, if_pos e]
  · rw [if_neg (fun q => e q.2.1), if_neg (fun q => e q.2.1), if_neg (fun q => e q.2.1), if_neg e]
theorem cHi_e {g i k : Nat} (z : (g = 1 ∧ k = 2) ∨ g = 8 ∨ g = 12) : cD (cHi c r h m p) g i k = cD c g i k := by rw [cHi_D, if_neg (by omega), if_neg (by omega), if_neg (by omega)]
theorem cHi_ok (hh : cD c 1 r 5 = (h : Int)) {g i k : Nat} (z : ok (cHi c r h m p) g i k) : ok c g i k ∨ ((g = 3 ∨ g = 4) ∧ i = r ∧ k = h) := by
  refine ok_cs z (fun a b d => Or.inl (ok_i0 a b d)) (fun a b d => Or.inl (ok_i1 a b d)) (fun a b d => Or.inl (ok_i2 a b (by rw [cHi_e (by omega)] at d; exact d))) (fun a b d => ?_) (fun a b d => Or.inl (ok_i5 a b d)) (fun a b d => Or.inl (ok_i6 a b d)) (fun a b d e => Or.inl (ok_i10 a b d (by rw [cHi_e (by omega)] at e; exact e))) (fun a b d => Or.inl (ok_i11 a b (by rw [cHi_e (by omega)] at d; exact d))) (fun a b d => Or.inl (ok_i12 a b d))
  rw [cHi_5] at d
  by_cases e : i = r
  · rw [if_pos e] at d
    by_cases ek : k = h
    · exact Or.inr ⟨a, e, ek⟩
    · refine Or.inl (ok_i3 a b ?_)
      rw [e, hh]
      omega
  · rw [if_neg e] at d
    exact Or.inl (ok_i3 a b d)
theorem cHi_ok2 (hh : cD c 1 r 5 = (h : Int)) {g i k : Nat} (z : ok c g i k) : ok (cHi c r h m p) g i k ∧ ¬ ((g = 3 ∨ g = 4) ∧ i = r ∧ k = h) := by
  refine ⟨ok_map z (Nat.le_refl _) (Nat.le_refl _) (Nat.le_refl _) (fun _ => by rw [cHi_e (by omega)]; exact Int.le_refl _) (fun _ => ?_) (fun _ j => by rw [cHi_e (by omega)]; exact Int.le_refl _) (fun _ => by rw [cHi_e (by omega)]; exact Int.le_refl _), fun q => ?_⟩
  · rw [cHi_5]
    by_cases e : i = r
    · rw [if_pos e, e, hh]; omega
    · rw [if_neg e]; exact Int.le_refl _
  · refine ok_cs z (fun a b d => by omega) (fun a b d => by omega) (fun a b d => by omega) (fun a b d => ?_) (fun a b d => by omega) (fun a b d => by omega) (fun a b d e => by omega) (fun a b d => by omega) (fun a b d => by omega)
    rw [q.2.1, hh] at d
    omega
end HI
