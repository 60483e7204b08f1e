/-! team: both sides -/
section CNT
variable {τ : T2} {c c1 : CO}
theorem RC.cnt (R : RC τ c1) {a k : Nat} {x : Int} (hak : (a = 64 ∧ k = 6) ∨ (a = 70 ∧ k = 2)) (h0 : cn c 0 = cn c1 0) (h1 : tI (uI τ a k x) 64 6 = (cn c 1 : Int)) (h2 : tI (uI τ a k x) 70 2 = (cn c 2 : Int)) (hok : ∀ g i k, ok c g i k → ok c1 g i k ∧ cD c g i k = cD c1 g i k) (hr : ∀ r, r < cn c 0 → cR c r = cR c1 r ∧ cF c r = cF c1 r ∧ cW c r = cW c1 r) : RC (uI τ a k x) c := by
  obtain ⟨⟨a1, -, -⟩, hI, h5, h6⟩ := R
  have fr : Fr τ (uI τ a k x) := Fr.u (by omega)
  refine ⟨⟨by rw [tI_uI, if_neg (by omega), h0]; exact a1, h1, h2⟩, fun g i j z => ?_, fun b hb => ?_, fun r h9 => ?_⟩
  · obtain ⟨z1, z2⟩ := hok g i j z
    obtain ⟨v1, v2⟩ := hI g i j z1
    have y := plK (g := g) (i := i) (k := j)
    refine ⟨v1, ?_⟩
    rw [tI_uI, if_neg (by omega), z2]
    exact v2
  · rw [tI_uI, if_neg (by omega), rdm_cg h0 (fun r hr => (hok 1 r 1 (by unfold ok; omega)).2)]
    exact h5 b hb
  · obtain ⟨e1, e2, e3⟩ := hr r h9
    rw [e1, e2, e3, tP_uI]
    obtain ⟨b1, b2, b3⟩ := h6 r (by omega)
    exact ⟨b1.mo fun _ _ z => z.fr fr, b2.mo fun _ _ z => z.fr fr, b3.mo fun _ _ z => z.fr fr⟩
theorem RM.cnt (R : RM τ c1) {k : Nat} {x : Int} (hk : 4 ≤ k ∧ k ≤ 6) (h0 : tI (uI τ 220 k x) 220 4 = (cn c 0 : Int)) (h1 : tI (uI τ 220 k x) 220 5 = (cn c 1 : Int)) (h2 : tI (uI τ 220 k x) 220 6 = (cn c 2 : Int)) (hl : cn c 0 ≤ cn c1 0 ∧ cn c 1 ≤ cn c1 1 ∧ cn c 2 ≤ cn c1 2) (hok : ∀ g i k, ok c g i k → ok c1 g i k ∧ cD c g i k = cD c1 g i k) (hr : ∀ r, r < cn c 0 → cR c r = cR c1 r ∧ cF c r = cF c1 r ∧ cW c r = cW c1 r) (hp : ∀ t, t < cn c 1 → cP c t = cP c1 t) : RM (uI τ 220 k x) c := by
  obtain ⟨-, hI, h5, h7, h6⟩ := R
  have fr : Fr τ (uI τ 220 k x) := Fr.u (by omega)
  refine ⟨⟨h0, h1, h2⟩, fun g i j z => ?_, fun u hu => ?_, fun t ht => ?_, fun r h9 => ?_⟩
  · obtain ⟨z1, z2⟩ := hok g i j z
    obtain ⟨v1, v2⟩ := hI g i j z1
    have y := plN (g := g) (i := i) (k := j)
    refine ⟨v1, fun h9 => ?_⟩
    rw [tI_uI, if_neg (by omega), z2]
    exact v2 h9
  · rw [tI_uI, if_neg (by omega)]
    have e := (hok 12 u 0 (by unfold ok; omega)).2
    rw [wdl_cg e (fun k hk => (hok 11 u k (by unfold ok; omega)).2)]
    exact h5 u (by omega)
  · rw [hp t ht, tI_uI, if_neg (by omega), show tI (uI τ 220 k x) (421 + 7 * t) = tI τ (421 + 7 * t) from up_oth _ _ _ (by omega), show tI (uI τ 220 k x) (422 + 7 * t) = tI τ (422 + 7 * t) from up_oth _ _ _ (by omega)]
    exact h7 t (by omega)
  · obtain ⟨e1, e2, e3⟩ := hr r h9
    rw [e1, e2, e3, tP_uI]
    obtain ⟨b1, b2, b3⟩ := h6 r (by omega)
    exact ⟨b1.mo fun _ _ z => z.fr fr, b2.mo fun _ _ z => z.fr fr, b3.mo fun _ _ z => z.fr fr⟩
end CNT
theorem RC.te {τ τ1 : T2} {c : CO} {t : Nat} (R : RC τ c) (F : FX2 τ) (h8 : t < 8) (ht : cn c 1 = t) (o : OC (fun a k => (a = 172 + 6 * t ∧ k < 2) ∨ (173 + 6 * t ≤ a ∧ a ≤ 176 + 6 * t)) τ τ1) (hP : tP τ1 = tP τ) (e0 : tI τ1 (172 + 6 * t) 0 = cD c 0 0 0) (e1 : tI τ1 (172 + 6 * t) 1 = 0) (e2 : ∀ j, j < 20 → tI τ1 (173 + 6 * t) j = -1 ∧ tI τ1 (174 + 6 * t) j = 0 ∧ tI τ1 (175 + 6 * t) j = 0 ∧ tI τ1 (176 + 6 * t) j = 0) : RC (uI τ1 64 6 ((t + 1 : Nat) : Int)) (cTe c) := by
  obtain ⟨⟨a1, a2, a3⟩, hI, h5, h6⟩ := R
  have N := F.1
  have sm : ∀ a k, a < 473 → ¬ ((a = 172 + 6 * t ∧ k < 2) ∨ (173 + 6 * t ≤ a ∧ a ≤ 176 + 6 * t)) → ¬ (a = 64 ∧ k = 6) → tI (uI τ1 64 6 ((t + 1 : Nat) : Int)) a k = tI τ a k := fun a k h1 h2 h3 => by
    rw [tI_uI, if_neg h3]; exact (o.2.2.2 a k (by omega) h2).1
  have fr : Fr τ (uI τ1 64 6 ((t + 1 : Nat) : Int)) := (o.fr fun a k z => by omega).tr (Fr.u (by omega))
  refine ⟨⟨?_, ?_, ?_⟩, fun g i k z => ?_, fun a ha => ?_, fun r hr => ?_⟩
  · rw [sm 64 3 (by omega) (by omega) (by omega)]; exact a1
  · rw [tI_uI, if_pos ⟨rfl, rfl⟩, cTe_n.2.1, ht]
  · rw [sm 70 2 (by omega) (by omega) (by omega)]; exact a3
  · rcases cTe_ok z with ⟨z1, z2⟩ | ⟨z1, z2⟩
    · obtain ⟨v1, v2⟩ := hI g i k z1
      refine ⟨v1, ?_⟩
      rw [ht] at z2
      have y1 := plT (t := t) (g := g) (i := i) (by omega) h8
      have y2 := plK (g := g) (i := i) (k := k)
      have y3 := vd_20 v1
      have y4 := (vd_C v1).2
      have y5 : ¬ (172 + 6 * t ≤ aC g i ∧ aC g i ≤ 176 + 6 * t) := by
        rcases y1 with y | y
        · exact y
        · have : g = 0 := by omega
          rw [this]
          show ¬ (172 + 6 * t ≤ 64 ∧ 64 ≤ 176 + 6 * t)
          omega
      rw [cTe_o (by rw [ht]; omega), sm _ _ (by omega) (by omega) (by omega)]
      exact v2
    · rw [ht] at z1
      subst z1
      have v : vd g i k := by
        rcases z2 with ⟨z2, z3⟩ | ⟨z2, z3, z4⟩
        · exact Or.inr (Or.inr (Or.inr (Or.inr (Or.inl ⟨z2, by omega, z3⟩))))
        · exact Or.inr (Or.inr (Or.inr (Or.inr (Or.inr (Or.inl ⟨by omega, by omega, z4⟩)))))
      refine ⟨v, ?_⟩
      have wv : ∀ a k, a = aC g i → k = kC g i k → a ≠ 64 → tI (uI τ1 64 6 ((i + 1 : Nat) : Int)) (aC g i) (kC g i k) = tI τ1 a k := fun a k h1 h2 h3 => by rw [← h1, ← h2, tI_uI, if_neg (by omega)]
      rcases z2 with ⟨z2, z3⟩ | ⟨z2, z3, z4⟩
      · subst z2
        rw [wv (172 + 6 * i) k rfl rfl (by omega), ← ht, cTe_5, ht]
        by_cases hk : k = 0
        · rw [if_pos hk, hk]; exact e0
        · rw [if_neg hk, show k = 1 by omega]; exact e1
      · obtain ⟨b1, b2, b3, b4⟩ := e2 k z4
        by_cases g6 : g = 6
        · subst g6
          rw [wv (173 + 6 * i) k rfl rfl (by omega), ← ht, cTe_6, ht]; exact b1
        · by_cases g7 : g = 7
          · subst g7
            rw [wv (174 + 6 * i) k rfl rfl (by omega), ← ht, cTe_7 (by omega), ht]; exact b2
          · by_cases g8 : g = 8
            · subst g8
              rw [wv (175 + 6 * i) k rfl rfl (by omega), ← ht, cTe_7 (by omega), ht]; exact b3
            · obtain rfl : g = 9 := by omega
              rw [wv (176 + 6 * i) k rfl rfl (by omega), ← ht, cTe_7 (by omega), ht]; exact b4
  · rw [sm 67 a (by omega) (by omega) (by omega), rdm_cg (c := c) cTe_n.1 (fun r _ => cTe_o (by omega))]
    exact h5 a ha
  · rw [tP_uI, hP]
    obtain ⟨b1, b2, b3⟩ := h6 r hr
    exact ⟨b1.mo fun _ _ z => z.fr fr, b2.mo fun _ _ z => z.fr fr, b3.mo fun _ _ z => z.fr fr⟩
theorem RM.te {τ τ1 : T2} {c : CO} {t : Nat} (R : RM τ c) (F : FX2 τ) (h8 : t < 8) (ht : cn c 1 = t) (o : OC (fun a k => (a = 416 + 7 * t ∧ k < 3) ∨ (417 + 7 * t ≤ a ∧ a ≤ 420 + 7 * t)) τ τ1) (hP : tP τ1 = tP τ) (e0 : tI τ1 (416 + 7 * t) 0 = cD c 0 0 0) (e1 : tI τ1 (416 + 7 * t) 1 = 0) (e3 : tI τ1 (416 + 7 * t) 2 = 0) (e2 : ∀ j, j < 20 → tI τ1 (417 + 7 * t) j = -1 ∧ tI τ1 (418 + 7 * t) j = 0 ∧ tI τ1 (419 + 7 * t) j = 0 ∧ tI τ1 (420 + 7 * t) j = 0) : RM (uI τ1 220 5 ((t + 1 : Nat) : Int)) (cTe c) := by
  obtain ⟨⟨a1, a2, a3⟩, hI, h5, h7, h6⟩ := R
  have N := F.1
  have sm : ∀ a k, a < 473 → ¬ ((a = 416 + 7 * t ∧ k < 3) ∨ (417 + 7 * t ≤ a ∧ a ≤ 420 + 7 * t)) → ¬ (a = 220 ∧ k = 5) → tI (uI τ1 220 5 ((t + 1 : Nat) : Int)) a k = tI τ a k := fun a k h1 h2 h3 => by
    rw [tI_uI, if_neg h3]; exact (o.2.2.2 a k (by omega) h2).1
  have fr : Fr τ (uI τ1 220 5 ((t + 1 : Nat) : Int)) := (o.fr fun a k z => by omega).tr (Fr.u (by omega))
  refine ⟨⟨?_, ?_, ?_⟩, fun g i k z => ?_, fun u hu => ?_, fun t1 ht1 => ?_, fun r hr => ?_⟩
  · rw [sm 220 4 (by omega) (by omega) (by omega)]; exact a1
  · rw [tI_uI, if_pos ⟨rfl, rfl⟩, cTe_n.2.1, ht]
  · rw [sm 220 6 (by omega) (by omega) (by omega)]; exact a3
  · rcases cTe_ok z with ⟨z1, z2⟩ | ⟨z1, z2⟩
    · obtain ⟨v1, v2⟩ := hI g i k z1
      refine ⟨v1, fun h9 => ?_⟩
      rw [ht] at z2
      have y1 := plU (t := t) (g := g) (i := i) (by omega) h9
      have y2 := plN (g := g) (i := i) (k := k)
      have y3 := vd_20 v1
      have y4 := (vd_M v1 h9).2
      have y5 : ¬ (416 + 7 * t ≤ aM g i ∧ aM g i ≤ 420 + 7 * t) := by
        rcases y1 with y | y
        · exact y
        · have : g = 0 := by omega
          rw [this]
          show ¬ (416 + 7 * t ≤ 220 ∧ 220 ≤ 420 + 7 * t)
          omega
      rw [cTe_o (by rw [ht]; omega), sm _ _ (by omega) (by omega) (by omega)]
      exact v2 h9
    · rw [ht] at z1
      subst z1
      have v : vd g i k := by
        rcases z2 with ⟨z2, z3⟩ | ⟨z2, z3, z4⟩
        · exact Or.inr (Or.inr (Or.inr (Or.inr (Or.inl ⟨z2, by omega, z3⟩))))
        · exact Or.inr (Or.inr (Or.inr (Or.inr (Or.inr (Or.inl ⟨by omega, by omega, z4⟩)))))
      refine ⟨v, fun h9 => ?_⟩
      have wv : ∀ a k, a = aM g i → k = kM g k → a ≠ 220 → tI (uI τ1 220 5 ((i + 1 : Nat) : Int)) (aM g i) (kM g k) = tI τ1 a k := fun a k h1 h2 h3 => by rw [← h1, ← h2, tI_uI, if_neg (by omega)]
      rcases z2 with ⟨z2, z3⟩ | ⟨z2, z3, z4⟩
      · subst z2
        rw [wv (416 + 7 * i) k rfl rfl (by omega), ← ht, cTe_5, ht]
        by_cases hk : k = 0
        · rw [if_pos hk, hk]; exact e0
        · rw [if_neg hk, show k = 1 by omega]; exact e1
      · obtain ⟨b1, b2, b3, b4⟩ := e2 k z4
        by_cases g6 : g = 6
        · subst g6
          rw [wv (417 + 7 * i) k rfl rfl (by omega), ← ht, cTe_6, ht]; exact b1
        · by_cases g7 : g = 7
          · subst g7
            rw [wv (418 + 7 * i) k rfl rfl (by omega), ← ht, cTe_7 (by omega), ht]; exact b2
          · by_cases g8 : g = 8
            · subst g8
              rw [wv (419 + 7 * i) k rfl rfl (by omega), ← ht, cTe_7 (by omega), ht]; exact b3
            · obtain rfl : g = 9 := by omega
              rw [wv (420 + 7 * i) k rfl rfl (by omega), ← ht, cTe_7 (by omega), ht]; exact b4
  · rw [sm 223 u (by omega) (by omega) (by omega), wdl_cg (c := c) (cTe_o (by omega)) (fun k _ => cTe_o (by omega))]
    exact h5 u hu
  · by_cases e : t1 = t
    · subst e
      have ep : cP (cTe c) t1 = [] := by
        show uf (cP c) (cn c 1) [] t1 = []
        unfold uf
        rw [if_pos ht.symm]
      rw [ep]
      exact ⟨by rw [tI_uI, if_neg (by omega)]; exact e3, fun j x hj => by cases hj⟩
    · have ep : cP (cTe c) t1 = cP c t1 := by
        show uf (cP c) (cn c 1) [] t1 = _
        unfold uf
        rw [if_neg (by omega)]
      rw [cTe_n.2.1] at ht1
      rw [ep]
      obtain ⟨b1, b2⟩ := h7 t1 (by omega)
      exact ⟨by rw [sm _ _ (by omega) (by omega) (by omega)]; exact b1, fun j x hj => ⟨by rw [sm _ _ (by omega) (by omega) (by omega)]; exact (b2 j x hj).1, by rw [sm _ _ (by omega) (by omega) (by omega)]; exact (b2 j x hj).2⟩⟩
  · rw [tP_uI, hP]
    obtain ⟨b1, b2, b3⟩ := h6 r hr
    exact ⟨b1.mo fun _ _ z => z.fr fr, b2.mo fun _ _ z => z.fr fr, b3.mo fun _ _ z => z.fr fr⟩
theorem und_tea_C {τ : T2} {c : CO} {t : Nat} (h8 : t < 8) (ht : cn c 1 = t) : UndC τ ((8, (t : Int), 0, 0, 0), none) (cTe c) c := by
  intro τ1 d Q hd fr F R ⟨⟨m1, m2, m3, m4, m5⟩, m6⟩ k
  have l1 : tI τ1 89 4 = 8 := m1
  have l2 : tI τ1 89 5 = (t : Int) := m2
  refine ⟨fun h => absurd (show (8 : Int) < 8 from h) (by decide), fun _ => ?_⟩
  have s89 : tS τ1 89 = (1, 5, 0) := F.sh rfl (by omega) (by omega)
  have s64 : tS τ1 64 = (1, 11, 0) := F.sh rfl (by omega) (by omega)
  have en : tI τ1 64 6 = ((t + 1 : Nat) : Int) := by rw [R.1.2.1, cTe_n.2.1, ht]
  refine t146_0 (q2 := 89) (by omega) s64 (F.p rfl) s89 (fun _ => ?_) (fun h => by rw [l1] at h; exact absurd h (by decide))
  rw [l2]
  refine c130 F en (by omega) (fun r hr e => ?_) (fun e => by omega)
  refine t146_40 (q3 := 68) (q5 := 89) (n8 := 8) (by omega) s64 (F.p rfl) (F.p rfl) s89 (F.sh rfl (by omega) (by omega)) (fun _ => by rw [l2]; omega) (fun _ h => absurd l1 h) (fun _ _ => ?_) (fun c => absurd c (by decide))
  rw [en, show wr (((t + 1 : Nat) : Int) - 1) = (t : Int) by rw [wr_id (by unfold okI; omega)]; omega]
  refine k _ (OC.rf.j (by unfold DC; omega)) F.j rfl rfl (R.cnt (Or.inl ⟨rfl, rfl⟩) cTe_n.1.symm ?_ ?_ (fun g i k z => cTe_ok2 z) (fun r _ => ⟨rfl, rfl, rfl⟩))
  · rw [tI_uI, if_pos ⟨rfl, rfl⟩, ht]
  · rw [tI_uI, if_neg (by omega)]; exact R.1.2.2
theorem und_tea_M {τ : T2} {c : CO} {t : Nat} (h8 : t < 8) (ht : cn c 1 = t) {p : Option Nat × Option Nat × Option Nat} : UndM τ ((7, 0, 0, 0, 0), p) (cTe c) c := by
  intro τ1 d Q q hd fr F R q1 q2 ⟨⟨m1, m2, m3, m4, m5⟩, _⟩ k
  have l1 : tI τ1 q 0 = 7 := m1
  show G d 171 38 [vR 220, vR q, none] [AI 7] τ1 Q
  refine t171_38 (fun c => absurd c (by decide)) (fun c => absurd c (by decide)) (fun c => absurd c (by decide)) (fun c => absurd c (by decide)) (fun c => absurd c (by decide)) (fun c => absurd c (by decide)) (fun c => absurd c (by decide)) (fun _ => ?_) (fun c => absurd c (by decide)) (fun c => absurd c (by decide)) (fun c => absurd c (by decide))
  have en : tI τ1 220 5 = ((t + 1 : Nat) : Int) := by rw [R.1.2.1, cTe_n.2.1, ht]
  refine t171_231 (F.sh rfl (by omega) (by omega)) ?_
  rw [en, show wr (((t + 1 : Nat) : Int) - 1) = (t : Int) by rw [wr_id (by unfold okI; omega)]; omega]
  refine k _ (OC.rf.j (by unfold DM; omega)) F.j rfl rfl (R.cnt (by omega) ?_ ?_ ?_ ⟨Nat.le_of_eq cTe_n.1.symm, by rw [cTe_n.2.1]; omega, Nat.le_of_eq cTe_n.2.2.symm⟩ (fun g i k z => cTe_ok2 z) (fun r _ => ⟨rfl, rfl, rfl⟩) (fun u hu => ?_))
  · rw [tI_uI, if_neg (by omega)]; exact R.1.1
  · rw [tI_uI, if_pos ⟨rfl, rfl⟩, ht]
  · rw [tI_uI, if_neg (by omega)]; exact R.1.2.2
  · show _ = uf (cP c) (cn c 1) [] u
    unfold uf
    rw [if_neg (by omega)]
theorem cc110 : CCl 110 [vR 64, none] sp_team := fun d τ S Q hd F C w k => by
  have s0 : ∀ τ : T2, FX2 τ → tS τ 64 = (1, 11, 0) := fun τ F => F.sh rfl (by omega) (by omega)
  have w1 := w.1 S.1 (by simp)
  have C0 := C
  obtain ⟨R, ⟨E, L, hc⟩, T, O, h3, h4, h5⟩ := C0
  have h8 := w1.1.2.1
  have en := R.1.2.1
  obtain ⟨t, ht⟩ : ∃ t, cn S.1 1 = t := ⟨_, rfl⟩
  rw [ht] at en h8
  unfold sp_team at k
  by_cases h : t < 8
  · rw [if_pos (by omega), ht] at k
    have st := shT t h
    have pt := ptT t h
    refine t110_0 (q3 := 68) (n5 := 8) (q8 := 172 + 6 * t) (by omega) (s0 τ F) (F.p rfl) (F.sh rfl (by omega) (by omega)) (fun _ => by rw [en]; omega) (fun _ => by rw [en, Int.toNat_natCast]; exact F.p pt.1) (F.sh st.1 (by omega) (by omega)) (fun _ => ?_) (fun c => by rw [en] at c; omega)
    rw [R.now, en]
    refine c60 F h (by omega) (fun τ1 o F1 hn hz hP e0 e1 e2 => ?_)
    refine t110_33 (by omega) (s0 _ F1) ?_
    have N := F.1
    have e6 : tI τ1 64 6 = (t : Int) := by rw [(o.2.2.2 64 6 (by omega) (by omega)).1]; exact en
    rw [e6, wr_nat (by omega)]
    have R1 := R.te F h ht o hP e0 e1 e2
    have o1 : OC (fun a k => (172 + 6 * t ≤ a ∧ a ≤ 176 + 6 * t) ∨ (a = 64 ∧ k = 6)) τ (uI τ1 64 6 ((t + 1 : Nat) : Int)) := OC.j (P := fun a k => (172 + 6 * t ≤ a ∧ a ≤ 176 + 6 * t) ∨ (a = 64 ∧ k = 6)) (o.mo fun a k z => by omega) (Or.inr ⟨rfl, rfl⟩)
    have F2 : FX2 (uI τ1 64 6 ((t + 1 : Nat) : Int)) := F1.j
    have n2 : tN (uI τ1 64 6 ((t + 1 : Nat) : Int)) = tN τ := hn
    have z2 : tZ (uI τ1 64 6 ((t + 1 : Nat) : Int)) = tZ τ := hz
    generalize uI τ1 64 6 ((t + 1 : Nat) : Int) = τ2 at R1 o1 F2 n2 z2
    have w2 := wf_tea w1 (by omega)
    refine c127 F2 (L.oc F o1 (fun a k z => by omega)) (by omega) fun τ3 o3 F3 hn3 hz3 h0 hl => t110_53 ?_
    obtain ⟨T1, O1, h51⟩ := acc_C F2 o3 (T.oc F o1 (fun a k z => by omega)) (O.oc F o1 (fun a k z => by omega)) ((o1.2.2.2 64 17 (by omega) (by omega)).1.trans h5)
    exact k _ ⟨(o1.kp (fun a k z => by omega)).tr (ACP_kp o3), F3, by omega, by omega, CI.mkA (R1.acc w2 F2 o3) hl (und_tea_C h ht) hc ((o1.fr fun a k z => by omega).tr (o3.fr fun a k z => by unfold ACP LGP at z; omega)) T1 O1 h0 h51⟩
  · rw [if_neg (by omega)] at k
    refine t110_0 (q3 := 68) (n5 := 8) (q8 := 172) (by omega) (s0 τ F) (F.p rfl) (F.sh rfl (by omega) (by omega)) (fun c => by rw [en] at c; omega) (fun c => by rw [en] at c; omega) (F.sh rfl (by omega) (by omega)) (fun c => by rw [en] at c; omega) (fun _ => c126 F (t110_14 (k _ (EC.rfs F C w (by decide)))))
theorem mc228 : MCl 228 [vR 220] sp_team := fun d τ S Q hd F C w k => by
  have s0 : ∀ τ : T2, FX2 τ → tS τ 220 = (1, 21, 0) := fun τ F => F.sh rfl (by omega) (by omega)
  have w1 := w.1 S.1 (by simp)
  have k := fun τ2 h => k τ2 (EM.bef (Kp.rf.j (a := 220) (k := 0) (x := 0) (by omega) (by omega)) rfl rfl h)
  have C := C.t0 w F (x := 0)
  have F1 : FX2 (uI τ 220 0 0) := F.j
  have C0 := C
  obtain ⟨R, ⟨E, L, hc⟩, T, O, h3, h4, h5⟩ := C0
  have h8 := w1.1.2.1
  have en := R.1.2.1
  have em := R.now
  obtain ⟨t, ht⟩ : ∃ t, cn S.1 1 = t := ⟨_, rfl⟩
  rw [ht] at en h8
  unfold sp_team at k
  by_cases h : t < 8
  · rw [if_pos (by omega), ht] at k
    have st := shU t h
    have pt := ptU t h
    refine t228_0 (q3 := 222) (n5 := 8) (q8 := 416 + 7 * t) (by omega) (s0 τ F) (F.p rfl) (F.sh rfl (by omega) (by omega)) (fun _ => by rw [en]; omega) (fun _ => by rw [en, Int.toNat_natCast]; exact F.p pt.1) (F.sh st.1 (by omega) (by omega)) (fun _ => ?_) (fun c => by rw [en] at c; omega)
    rw [em]
    generalize uI τ 220 0 0 = τ at *
    refine m156 F1 h (fun τ1 o F2 hn hz hP e0 e1 e3 e2 => ?_)
    refine t228_36 (by omega) (s0 _ F2) ?_
    have N := F1.1
    have o1 : OC (fun a _ => 416 + 7 * t ≤ a ∧ a ≤ 420 + 7 * t) τ τ1 := o.mo fun a k z => by omega
    refine m170 F2 (L.oc F1 o1 (fun a k z => by omega)) fun τ3 q p o3 F3 hn3 hz3 hl => t228_46 (s0 := some q) (by omega) (s0 _ F3) ?_
    have N2 := F2.1
    have sm : ∀ a k, (a = 220 ∧ k = 5) ∨ (416 ≤ a ∧ a < 472) → tI τ3 a k = tI τ1 a k := fun a k z => (o3.2.2.2 a k (by omega) (by unfold AMP; omega)).1
    have e6 : tI τ3 220 5 = (t : Int) := by rw [sm _ _ (by omega), (o.2.2.2 220 5 (by omega) (by omega)).1]; exact en
    rw [e6, wr_nat (by omega)]
    obtain ⟨T1, O1, h51⟩ := acc_M F2 o3 (T.oc F1 o1 (fun a k z => by omega)) (O.oc F1 o1 (fun a k z => by omega)) ((o1.2.2.2 220 3 (by omega) (by omega)).1.trans h5)
    -- the core, as if the note had come first
    have R1 : RM (uI τ1 220 5 ((t + 1 : Nat) : Int)) (cTe S.1) := R.te F1 h ht o hP e0 e1 e3 e2
    have w2 := wf_tea w1 (by omega)
    have R2 : RM (uI τ3 220 5 ((t + 1 : Nat) : Int)) (cTe S.1) := by
      refine R1.oc w2 F2.j (P := AMP) ⟨o3.1, o3.2.1, o3.2.2.1, fun a k ha hn => ⟨?_, ?_⟩⟩ (fun a k z => by unfold AMP at z; unfold DM; omega)
      · rw [tI_uI, tI_uI]
        split
        · rfl
        · exact (o3.2.2.2 a k ha hn).1
      · exact (o3.2.2.2 a k ha hn).2
    have o2 : OC (fun a k => a = 220 ∧ k = 5) τ3 (uI τ3 220 5 ((t + 1 : Nat) : Int)) := OC.j (P := fun a k => a = 220 ∧ k = 5) OC.rf ⟨rfl, rfl⟩
    rw [show tI (uI τ3 220 5 ((t + 1 : Nat) : Int)) 220 5 = ((t + 1 : Nat) : Int) by rw [tI_uI, if_pos ⟨rfl, rfl⟩], show wr (((t + 1 : Nat) : Int) - 1) = (t : Int) by rw [wr_id (by unfold okI; omega)]; omega]
    refine m165 F3.j (t228_67 ?_)
    refine k (dnM (uI τ3 220 5 ((t + 1 : Nat) : Int))) ⟨((((o1.kp (fun a k z => by omega)).tr (AMP_kp o3)).j (by omega) (by omega)).j (by omega) (by omega)).j (by omega) (by omega), F3.j.j.j, by show tN τ3 ≤ _; omega, by show tZ τ3 ≤ _; omega, MI.mkD F3.j w2 R2 (hl.lg.oc F3 o2 (fun a k z => by omega)) (und_tea_M h ht) hc (((o1.fr fun a k z => by omega).tr (o3.fr fun a k z => by unfold AMP at z; omega)).tr (Fr.u (by omega))) (T1.oc F3 o2 (fun a k z => by omega)) (O1.oc F3 o2 (fun a k z => by omega)) ?_⟩
    rw [tI_uI, if_neg (by decide)]; exact h51
  · rw [if_neg (by omega)] at k
    refine t228_0 (q3 := 222) (n5 := 8) (q8 := 416) (by omega) (s0 τ F) (F.p rfl) (F.sh rfl (by omega) (by omega)) (fun c => by rw [en] at c; omega) (fun c => by rw [en] at c; omega) (F.sh rfl (by omega) (by omega)) (fun c => by rw [en] at c; omega) (fun _ => m163 F1 (t228_19 (k _ (EM.rfs F1 C w))))
