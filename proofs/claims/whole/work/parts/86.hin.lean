/-! hint (what is left) -/
theorem sB_cg {f g : Nat → Int} : ∀ n, (∀ i, i < n → f i = g i) → sB f n = sB g n
  | 0, _ => rfl
  | n + 1, h => by
    simp only [sB]
    rw [sB_cg n (fun i hi => h i (by omega)), h n (by omega)]
/-- a core that is alike where the other one speaks -/
theorem wf_cg {c c1 : CO} (w : WF c) (h0 : cn c1 0 = cn c 0 ∧ cn c1 1 = cn c 1 ∧ cn c1 2 = cn c 2) (hp : ∀ t, t < cn c 1 → cP c1 t = cP c t) (h : ∀ g i k, ok c g i k → cD c1 g i k = cD c g i k) : WF c1 := by
  obtain ⟨w1, w2, w3, w4, w5⟩ := w
  have e0 : cD c1 0 0 0 = cD c 0 0 0 := h 0 0 0 (by unfold ok; omega)
  have e1 : ∀ r k, r < cn c 0 → k < 6 → cD c1 1 r k = cD c 1 r k := fun r k hr hk => h 1 r k (by unfold ok; omega)
  have e5 : ∀ g t k, 6 ≤ g → g ≤ 9 → t < cn c 1 → k < 20 → cD c1 g t k = cD c g t k := fun g t k _ _ ht hk => h g t k (by unfold ok; omega)
  refine ⟨⟨by rw [h0.1]; exact w1.1, by rw [h0.2.1]; exact w1.2.1, by rw [h0.2.2]; exact w1.2.2.1, by rw [e0]; exact w1.2.2.2.1, by rw [e0]; exact w1.2.2.2.2⟩, fun r hr => ?_, fun t ht => ?_, fun u hu => ?_, fun t ht => ?_⟩
  · rw [h0.1] at hr
    obtain ⟨a1, a2, a3, a4, a5, a6, a7, a8⟩ := w2 r hr
    rw [e1 r 0 hr (by omega), e1 r 1 hr (by omega), e1 r 2 hr (by omega), e1 r 3 hr (by omega), e1 r 4 hr (by omega), e1 r 5 hr (by omega)]
    refine ⟨a1, a2, a3, a4, a5, a6, fun k hk => ?_, fun j hj => ?_⟩
    · rw [h 2 r k (by unfold ok; omega)]; exact a7 k hk
    · rw [h 3 r j (by unfold ok; omega), h 4 r j (by unfold ok; omega)]; exact a8 j hj
  · rw [h0.2.1] at ht
    obtain ⟨a1, a2, a3⟩ := w3 t ht
    rw [h 5 t 0 (by unfold ok; omega), h 5 t 1 (by unfold ok; omega), e0]
    refine ⟨a1, a2, fun r hr => ?_⟩
    obtain ⟨b1, b2, ⟨b3, b4, b5, b6⟩, b7⟩ := a3 r hr
    rw [e5 6 t r (by omega) (by omega) ht hr, e5 7 t r (by omega) (by omega) ht hr, e5 8 t r (by omega) (by omega) ht hr, e5 9 t r (by omega) (by omega) ht hr, h0.1]
    exact ⟨b1, b2, ⟨b3, b4, b5, fun q => by rw [e1 r 5 q (by omega)]; exact b6 q⟩, b7⟩
  · rw [h0.2.2] at hu
    obtain ⟨a1, a2⟩ := w4 u hu
    rw [h 12 u 0 (by unfold ok; omega)]
    exact ⟨a1, fun k hk => by rw [h 11 u k (by unfold ok; omega)]; exact a2 k hk⟩
  · rw [h0.2.1] at ht
    obtain ⟨a1, a2, a3⟩ := w5 t ht
    obtain ⟨-, -, b3⟩ := w3 t ht
    rw [hp t ht]
    refine ⟨fun m => ?_, ?_, a3⟩
    · rw [a1 m]
      refine prC_cg 20 (fun r hr => ⟨(e5 8 t r (by omega) (by omega) ht hr).symm, fun j h3 hj => ?_⟩)
      have hb := (b3 r hr).2.2.1
      have hrn : r < cn c 0 := by
        by_cases q : r < cn c 0
        · exact q
        · have := hb.2.2.1 (by omega); omega
      have := hb.2.2.2 hrn
      refine ⟨(h 10 t (3 * r + j) ?_).symm, (h 4 r j (by unfold ok; omega)).symm⟩
      unfold ok
      refine Or.inr (Or.inr (Or.inr (Or.inr (Or.inr (Or.inr (Or.inl ⟨rfl, ht, by omega, ?_⟩))))))
      rw [show (3 * r + j) / 3 = r by omega, show (3 * r + j) % 3 = j by omega]
      exact hj
    · rw [a2]
      exact sB_cg 20 (fun i hi => (e5 8 t i (by omega) (by omega) ht hi).symm)
section HI
variable {c : CO} {r h : Nat} {m p : Int}
theorem cHi_back (hh : cD c 1 r 5 = (h : Int)) {g i k : Nat} (z : ok c g i k) : cD c g i k = ud (cD (cHi c r h m p)) 1 r 5 (h : Int) g i k := by
  have hn := (cHi_ok2 (m := m) (p := p) hh z).2
  unfold ud
  by_cases e : g = 1 ∧ i = r ∧ k = 5
  · rw [if_pos e, e.1, e.2.1, e.2.2, hh]
  · rw [if_neg e, cHi_D, if_neg e, if_neg (by omega), if_neg (by omega)]
theorem und_hin_C {τ : T2} (w : WF c) (hr : r < cn c 0) (hh : cD c 1 r 5 = (h : Int)) (h3 : h < 3) : UndC τ ((6, (r : Int), 0, 0, 0), none) (cHi c r h m p) c := by
  intro τ1 d Q hd fr F R ⟨⟨m1, m2, m3, m4, m5⟩, m6⟩ k
  have l1 : tI τ1 89 4 = 6 := m1
  have l2 : tI τ1 89 5 = (r : Int) := m2
  have h20 := w.1.1
  refine ⟨fun _ => ?_, fun h => absurd (show 8 ≤ (6 : Int) from h) (by decide)⟩
  have s89 : tS τ1 89 = (1, 5, 0) := F.sh rfl (by omega) (by omega)
  have s64 : tS τ1 64 = (1, 11, 0) := F.sh rfl (by omega) (by omega)
  have sr := F.sh (shR r (by omega)).1 (by omega) (by omega)
  refine t145_0 (q2 := 89) (q6 := 70) (by omega) s64 (F.p rfl) s89 (F.p rfl) (F.sh rfl (by omega) (by omega)) (fun _ => ?_) (fun h => by rw [l1] at h; exact absurd h (by decide))
  rw [l2]
  refine c129 F R.1.1 h20 (fun r1 hr1 e => ?_) (fun e => by have : cn (cHi c r h m p) 0 = cn c 0 := rfl; omega)
  have e : r1 = r := by omega
  subst e
  refine t145_39 (q3 := 66) (n5 := 20) (q8 := 89) s64 (F.p rfl) (F.sh rfl (by omega) (by omega)) (fun _ => by omega) (F.p rfl) s89 (fun _ => ?_) (fun c => absurd c (by decide))
  rw [Int.toNat_natCast, F.p (ptR r1 (by omega)).1, l1]
  refine t145_57 (fun c => absurd c (by decide)) (fun c => absurd c (by decide)) (fun c => absurd c (by decide)) (fun c => absurd c (by decide)) (fun c => absurd c (by decide)) (fun _ => t145_189 sr ?_)
  have e6 : tI τ1 (92 + 4 * r1) 6 = (h : Int) + 1 := by rw [R.r5 hr, cHi_D, if_pos ⟨rfl, rfl, rfl⟩]
  rw [e6, show wr ((h : Int) + 1 - 1) = (h : Int) by rw [wr_id (by unfold okI; omega)]; omega]
  have hv : vd 1 r1 5 := vd1 (by omega) (by omega)
  refine k _ (OC.rf.j (by unfold DC; omega)) F.j rfl rfl (R.ic rfl (Fr.u (by omega)) (nC_C (x := (h : Int)) hv) rfl ⟨rfl, rfl, rfl⟩ (fun r2 _ => ?_) ((R.2.1.j hv (x := (h : Int))).mo fun g i k z => ⟨Or.inl (cHi_ok2 hh z).1, cHi_back hh z⟩))
  rw [cHi_D, if_neg (by omega), if_neg (by omega), if_neg (by omega)]
theorem und_hin_M {τ : T2} (w : WF c) (hr : r < cn c 0) (hh : cD c 1 r 5 = (h : Int)) (h3 : h < 3) {pp : Option Nat × Option Nat × Option Nat} : UndM τ ((5, (r : Int), 0, 0, 0), pp) (cHi c r h m p) c := by
  intro τ1 d Q q hd fr F R q1 q2 ⟨⟨m1, m2, m3, m4, m5⟩, _⟩ k
  have l1 : tI τ1 q 0 = 5 := m1
  have l2 : tI τ1 q 1 = (r : Int) := m2
  have h20 := w.1.1
  have sr := F.sh (shM r (by omega)).1 (by omega) (by omega)
  show G d 171 38 [vR 220, vR q, none] [AI 5] τ1 Q
  refine t171_38 (fun c => absurd c (by decide)) (fun c => absurd c (by decide)) (fun c => absurd c (by decide)) (fun c => absurd c (by decide)) (fun c => absurd c (by decide)) (fun _ => ?_) (fun c => absurd c (by decide)) (fun c => absurd c (by decide)) (fun c => absurd c (by decide)) (fun c => absurd c (by decide)) (fun c => absurd c (by decide))
  refine t171_197 (q2 := 221) (n5 := 20) (q8 := 336 + 4 * r) (F.sh rfl (by omega) (by omega)) (F.p rfl) (shq F q1 q2) (F.sh rfl (by omega) (by omega)) (by rw [l2]; omega) (by rw [l2, Int.toNat_natCast]; exact F.p (ptM r (by omega)).1) sr ?_
  have e6 : tI τ1 (336 + 4 * r) 5 = (h : Int) + 1 := by rw [R.rr hr (by omega), cHi_D, if_pos ⟨rfl, rfl, rfl⟩]
  rw [e6, show wr ((h : Int) + 1 - 1) = (h : Int) by rw [wr_id (by unfold okI; omega)]; omega]
  have hv : vd 1 r 5 := vd1 (by omega) (by omega)
  refine k _ (OC.rf.j (by unfold DM; omega)) F.j rfl rfl (R.ic rfl (Fr.u (by omega)) (nC_M (x := (h : Int)) hv (by omega)).1 (fun t _ => (nC_M (x := (h : Int)) hv (by omega)).2 t) rfl ⟨rfl, rfl, rfl, rfl⟩ (fun u hu => wdl_cg ?_ (fun k _ => ?_)) ((R.2.1.j hv (by omega) (x := (h : Int))).mo fun g i k z => ⟨Or.inl (cHi_ok2 hh z).1, cHi_back hh z⟩))
  · rw [cHi_D, if_neg (by omega), if_neg (by omega), if_neg (by omega)]
  · rw [cHi_D, if_neg (by omega), if_neg (by omega), if_neg (by omega)]
theorem wf_hin (w : WF c) (hr : r < cn c 0) (hh : cD c 1 r 5 = (h : Int)) (h3 : h < 3) (hm : 0 ≤ m ∧ m ≤ 999) (hp : 0 ≤ p ∧ p ≤ 999) : WF (cHi c r h m p) := by
  obtain ⟨w1, w2, w3, w4, w5⟩ := w
  have e : ∀ g i k, g ≠ 1 → g ≠ 3 → g ≠ 4 → cD (cHi c r h m p) g i k = cD c g i k := fun g i k _ _ _ => by rw [cHi_D, if_neg (by omega), if_neg (by omega), if_neg (by omega)]
  have eg : ∀ g i, g ≠ 1 → g ≠ 3 → g ≠ 4 → cD (cHi c r h m p) g i = cD c g i := fun g i h1 h2 h3 => funext fun k => e g i k h1 h2 h3
  have ek : ∀ i k, k ≠ 5 → cD (cHi c r h m p) 1 i k = cD c 1 i k := fun i k _ => by rw [cHi_D, if_neg (by omega), if_neg (by omega), if_neg (by omega)]
  have ei : ∀ g i k, i ≠ r → cD (cHi c r h m p) g i k = cD c g i k := fun g i k _ => by rw [cHi_D, if_neg (by omega), if_neg (by omega), if_neg (by omega)]
  have e5 : cD (cHi c r h m p) 1 r 5 = (h : Int) + 1 := by rw [cHi_D, if_pos ⟨rfl, rfl, rfl⟩]
  refine ⟨⟨w1.1, w1.2.1, w1.2.2.1, by rw [e _ _ _ (by decide) (by decide) (by decide)]; exact w1.2.2.2.1, by rw [e _ _ _ (by decide) (by decide) (by decide)]; exact w1.2.2.2.2⟩, fun i hi => ?_, fun t ht => ?_, fun u hu => ?_, fun t ht => ?_⟩
  · obtain ⟨a1, a2, a3, a4, a5, a6, a7, a8⟩ := w2 i hi
    rw [ek i 0 (by decide), ek i 1 (by decide), ek i 2 (by decide), ek i 3 (by decide), ek i 4 (by decide), eg 2 i (by decide) (by decide) (by decide)]
    by_cases hir : i = r
    · subst hir
      rw [e5]
      refine ⟨a1, a2, a3, a4, a5, by omega, a7, fun j hj => ?_⟩
      by_cases ej : j = h
      · subst ej
        rw [cHi_D, if_neg (by omega), if_neg (by omega), if_pos ⟨rfl, rfl, rfl⟩, cHi_D, if_neg (by omega), if_pos ⟨rfl, rfl, rfl⟩]
        exact ⟨hm, hp⟩
      · rw [cHi_D, if_neg (by omega), if_neg (by omega), if_neg (by omega), cHi_D, if_neg (by omega), if_neg (by omega), if_neg (by omega)]
        exact a8 j (by omega)
    · rw [ei 1 i 5 hir]
      refine ⟨a1, a2, a3, a4, a5, a6, a7, fun j hj => ?_⟩
      rw [ei 3 i j hir, ei 4 i j hir]
      exact a8 j hj
  · obtain ⟨a1, a2, a3⟩ := w3 t ht
    rw [eg 5 t (by decide) (by decide) (by decide), eg 6 t (by decide) (by decide) (by decide), eg 7 t (by decide) (by decide) (by decide), eg 8 t (by decide) (by decide) (by decide), eg 9 t (by decide) (by decide) (by decide), eg 0 0 (by decide) (by decide) (by decide)]
    refine ⟨a1, a2, fun i hi => ?_⟩
    obtain ⟨b1, b2, ⟨b3, b4, b5, b6⟩, b7⟩ := a3 i hi
    refine ⟨b1, b2, ⟨b3, b4, b5, fun q => ?_⟩, b7⟩
    have b6 := b6 q
    by_cases hir : i = r
    · subst hir
      rw [e5]; omega
    · rw [ei 1 i 5 hir]; exact b6
  · rw [eg 11 u (by decide) (by decide) (by decide), eg 12 u (by decide) (by decide) (by decide)]; exact w4 u hu
  · rw [eg 8 t (by decide) (by decide) (by decide), eg 10 t (by decide) (by decide) (by decide)]
    obtain ⟨a1, a2, a3⟩ := w5 t ht
    obtain ⟨-, -, b3⟩ := w3 t ht
    refine ⟨fun mm => ?_, a2, a3⟩
    have a1 := a1 mm
    rw [show cP (cHi c r h m p) t = cP c t from rfl, a1]
    refine prC_cg 20 (fun i hi => ⟨rfl, fun j h3 hj => ⟨rfl, ?_⟩⟩)
    have := (b3 i hi).2.2.1
    by_cases hir : i = r
    · subst hir
      have := this.2.2.2 hr
      rw [cHi_D, if_neg (by omega), if_neg (by omega), if_neg (by omega)]
    · rw [ei 4 i j hir]
theorem wf_h34 (w : WF c) (hr : r < cn c 0) (hh : cD c 1 r 5 = (h : Int)) : WF (cU (cU c 3 r h m) 4 r h p) := wf_cg w ⟨rfl, rfl, rfl⟩ (fun _ _ => rfl) (fun g i k z => by
  have hn := (cHi_ok2 (m := m) (p := p) hh z).2
  rw [cU_ne (by omega), cU_ne (by omega)])
end HI
theorem ws_hin {S : HSx} (w : WS S) {x m p : Int} : WS (sp_hint x m p S).2 := by
  have w1 := w.1 S.1 (by simp)
  unfold sp_hint
  split
  · rename_i h1
    split
    · rename_i h2
      split
      · rename_i h3
        have := (w1.2.1 x.toNat (by omega)).2.2.2.2.2.1
        exact w.act (wf_hin w1 (by omega) (by omega) (by omega) h2.1 h2.2)
      · exact w.rfs 3
    · exact w.rfs 2
  · exact w.rfs 1
theorem cc98 {x m p : Int} : CCl 98 [vR 64, vI x, vI m, vI p, none] (sp_hint x m p) := fun d τ S Q hd F C w k => by
  have s0 : ∀ τ : T2, FX2 τ → tS τ 64 = (1, 11, 0) := fun τ F => F.sh rfl (by omega) (by omega)
  have w1 := w.1 S.1 (by simp)
  have C0 := C
  obtain ⟨R, ⟨E, L, hc⟩, T, O, h3, h4, h5⟩ := C0
  have h20 := w1.1.1
  refine t98_0 (by omega) (s0 τ F) (c129 F R.1.1 h20 (fun r hr e => ?_) (fun e => ?_))
  · subst e
    have sr := shR r (by omega)
    have pr := ptR r (by omega)
    have hb := (w1.2.1 r hr).2.2.2.2.2.1
    obtain ⟨h, hh⟩ : ∃ h : Nat, cD S.1 1 r 5 = (h : Int) := ⟨(cD S.1 1 r 5).toNat, by omega⟩
    have e6 : tI τ (92 + 4 * r) 6 = (h : Int) := by rw [R.r5 hr, hh]
    have bad : ¬ ((0 ≤ m ∧ m ≤ 999) ∧ 0 ≤ p ∧ p ≤ 999) → G (d - 1) 126 0 [vR 64, vI 2] [] τ (KC d 98 38 41 [none, none, none, none, none] [] Q) := fun q => by
      unfold sp_hint at k
      rw [if_pos (by omega), if_neg q] at k
      exact c126 F (t98_41 (k _ (EC.rfs F C w (by decide))))
    have g6 : ∀ (j : Nat) (y : Int), tI (uI τ (94 + 4 * r) j y) (92 + 4 * r) 6 = (h : Int) := fun j y => by rw [tI_uI, if_neg (by omega)]; exact e6
    have g7 : ∀ (j i : Nat) (y z : Int), tI (uI (uI τ (94 + 4 * r) j y) (95 + 4 * r) i z) (92 + 4 * r) 6 = (h : Int) := fun j i y z => by rw [tI_uI, if_neg (by omega)]; exact g6 j y
    refine t98_5 (q7 := 66) (n9 := 20) (q12 := 92 + 4 * r) (q16 := 94 + 4 * r) (n18 := 3) (q21 := 95 + 4 * r) (n23 := 3) (by omega) (s0 τ F) (F.p rfl) (F.sh rfl (by omega) (by omega)) (fun _ _ _ _ _ => by omega) (fun _ _ _ _ _ => by rw [Int.toNat_natCast]; exact F.p pr.1) (F.sh sr.1 (by omega) (by omega)) (F.p pr.2.2.1) (F.sh sr.2.2.1 (by omega) (by omega)) (fun _ _ _ _ _ _ => by omega) (F.p pr.2.2.2) (F.sh sr.2.2.2 (by omega) (by omega)) (fun _ _ _ _ _ _ => by rw [g6]; omega) (fun _ q => bad (by omega)) (fun _ _ q => bad (by omega)) (fun _ _ _ q => bad (by omega)) (fun _ a1 a2 a3 a4 a5 => ?_) (fun _ a1 a2 a3 a4 a5 => ?_) (fun _ _ _ _ q => bad (by omega)) (fun c => absurd c (by decide))
    · rw [g7, g6, e6, Int.toNat_natCast, wr_id (x := (h : Int) + 1) (by unfold okI; omega)]
      unfold sp_hint at k
      rw [if_pos (by omega), if_pos (by omega), Int.toNat_natCast, hh, Int.toNat_natCast, if_pos (by omega)] at k
      have v3 : vd 3 r h := by unfold vd; omega
      have v4 : vd 4 r h := by unfold vd; omega
      have v5 : vd 1 r 5 := vd1 (by omega) (by omega)
      have R0 : RC (uI (uI (uI τ (94 + 4 * r) h m) (95 + 4 * r) h p) (92 + 4 * r) 6 ((h : Int) + 1)) (cHi S.1 r h m p) := by
        refine R.ic rfl (((Fr.u (by omega)).tr (Fr.u (by omega))).tr (Fr.u (by omega))) ⟨?_, ?_, ?_, ?_⟩ rfl ⟨rfl, rfl, rfl⟩ (fun r2 _ => ?_) ((((R.2.1.j v3 (x := m)).j v4 (x := p)).j v5 (x := (h : Int) + 1)).mo fun g i k z => ⟨?_, rfl⟩)
        · rw [tI_uI, if_neg (by omega), tI_uI, if_neg (by omega), tI_uI, if_neg (by omega)]
        · rw [tI_uI, if_neg (by omega), tI_uI, if_neg (by omega), tI_uI, if_neg (by omega)]
        · rw [tI_uI, if_neg (by omega), tI_uI, if_neg (by omega), tI_uI, if_neg (by omega)]
        · funext j
          rw [tI_uI, if_neg (by omega), tI_uI, if_neg (by omega), tI_uI, if_neg (by omega)]
        · rw [cHi_D, if_neg (by omega), if_neg (by omega), if_neg (by omega)]
        · rcases cHi_ok hh z with z | ⟨z1 | z1, z2, z3⟩
          · exact Or.inl (Or.inl (Or.inl z))
          · exact Or.inl (Or.inl (Or.inr ⟨z1, z2, z3⟩))
          · exact Or.inl (Or.inr ⟨z1, z2, z3⟩)
      have o0 : OC (fun a _ => 92 + 4 * r ≤ a ∧ a ≤ 95 + 4 * r) τ (uI (uI (uI τ (94 + 4 * r) h m) (95 + 4 * r) h p) (92 + 4 * r) 6 ((h : Int) + 1)) := OC.j (P := fun a _ => 92 + 4 * r ≤ a ∧ a ≤ 95 + 4 * r) (OC.j (P := fun a _ => 92 + 4 * r ≤ a ∧ a ≤ 95 + 4 * r) (OC.j (P := fun a _ => 92 + 4 * r ≤ a ∧ a ≤ 95 + 4 * r) OC.rf (by omega)) (by omega)) (by omega)
      have F0 : FX2 (uI (uI (uI τ (94 + 4 * r) h m) (95 + 4 * r) h p) (92 + 4 * r) 6 ((h : Int) + 1)) := F.j.j.j
      have n0 : tN (uI (uI (uI τ (94 + 4 * r) h m) (95 + 4 * r) h p) (92 + 4 * r) 6 ((h : Int) + 1)) = tN τ := rfl
      have z0 : tZ (uI (uI (uI τ (94 + 4 * r) h m) (95 + 4 * r) h p) (92 + 4 * r) 6 ((h : Int) + 1)) = tZ τ := rfl
      generalize (uI (uI (uI τ (94 + 4 * r) h m) (95 + 4 * r) h p) (92 + 4 * r) 6 ((h : Int) + 1)) = τ0 at R0 o0 F0 n0 z0
      have N := F.1
      have w2 := wf_hin w1 hr hh (by omega) ⟨a1, a2⟩ ⟨a3, a4⟩
      refine c127 F0 (L.oc F o0 (fun a k z => by omega)) (by omega) fun τ1 o F1 hn hz h0 hl => t98_110 (F1.sh sr.1 (by omega) (by omega)) ?_
      have R1 := R0.acc w2 F0 o
      obtain ⟨T1, O1, h51⟩ := acc_C F0 o (T.oc F o0 (fun a k z => by omega)) (O.oc F o0 (fun a k z => by omega)) ((o0.2.2.2 64 17 (by omega) (by omega)).1.trans h5)
      rw [R1.r5 hr, cHi_D, if_pos ⟨rfl, rfl, rfl⟩]
      refine k _ ⟨(o0.kp (fun a k z => by omega)).tr (ACP_kp o), F1, by omega, by omega, CI.mkA R1 hl (und_hin_C w1 hr hh (by omega)) hc ((o0.fr fun a k z => by omega).tr (o.fr fun a k z => by unfold ACP LGP at z; omega)) T1 O1 h0 h51⟩
    · unfold sp_hint at k
      rw [if_pos (by omega), if_pos (by omega), Int.toNat_natCast, hh, if_neg (by omega)] at k
      exact c126 F (t98_64 (k _ (EC.rfs F C w (by decide))))
  · unfold sp_hint at k
    rw [if_neg (by omega)] at k
    exact t98_5 (q7 := 66) (n9 := 20) (q12 := 92) (q16 := 94) (n18 := 3) (q21 := 95) (n23 := 3) (by omega) (s0 τ F) (F.p rfl) (F.sh rfl (by omega) (by omega)) (fun c => absurd rfl c) (fun c => absurd rfl c) (F.sh rfl (by omega) (by omega)) (F.p rfl) (F.sh rfl (by omega) (by omega)) (fun c => absurd rfl c) (F.p rfl) (F.sh rfl (by omega) (by omega)) (fun c => absurd rfl c) (fun c => absurd rfl c) (fun c => absurd rfl c) (fun c => absurd rfl c) (fun c => absurd rfl c) (fun c => absurd rfl c) (fun c => absurd rfl c) (fun _ => c126 F (t98_13 (k _ (EC.rfs F C w (by decide)))))
theorem mc216 {x m p : Int} : MCl 216 [vR 220, vI x, vI m, vI p, none] (sp_hint x m p) := fun d τ S Q hd F C w k => by
  have s0 : ∀ τ : T2, FX2 τ → tS τ 220 = (1, 21, 0) := fun τ F => F.sh rfl (by omega) (by omega)
  have w1 := w.1 S.1 (by simp)
  refine t216_0 (by omega) (s0 τ F) ?_
  have k := fun τ2 h => k τ2 (EM.bef (Kp.rf.j (a := 220) (k := 0) (x := 0) (by omega) (by omega)) rfl rfl h)
  have C := C.t0 w F (x := 0)
  have F : FX2 (uI τ 220 0 0) := F.j
  generalize uI τ 220 0 0 = τ at *
  have C0 := C
  obtain ⟨R, ⟨E, L, hc⟩, T, O, h3, h4, h5⟩ := C0
  have h20 := w1.1.1
  refine m207 F R.1.1 (fun r hr e => ?_) (fun e => ?_)
  · subst e
    have sr := shM r (by omega)
    have pr := ptM r (by omega)
    have hb := (w1.2.1 r hr).2.2.2.2.2.1
    obtain ⟨h, hh⟩ : ∃ h : Nat, cD S.1 1 r 5 = (h : Int) := ⟨(cD S.1 1 r 5).toNat, by omega⟩
    have e6 : tI τ (336 + 4 * r) 5 = (h : Int) := by rw [R.rr hr (by omega), hh]
    have bad : ¬ ((0 ≤ m ∧ m ≤ 999) ∧ 0 ≤ p ∧ p ≤ 999) → G (d - 1) 163 0 [vR 220, vI 2] [] τ (KC d 216 43 46 [none, none, none, none, none] [] Q) := fun q => by
      unfold sp_hint at k
      rw [if_pos (by omega), if_neg q] at k
      exact m163 F (t216_46 (k _ (EM.rfs F C w)))
    have g6 : ∀ (j : Nat) (y : Int), tI (uI τ (338 + 4 * r) j y) (336 + 4 * r) 5 = (h : Int) := fun j y => by rw [tI_uI, if_neg (by omega)]; exact e6
    refine t216_10 (by omega) (s0 τ F) (fun _ => m167 (fun a1 a2 => ?_) (fun q => ?_)) (fun c => absurd c (by decide))
    · refine t216_27 (by omega) (s0 τ F) (fun c => absurd c (by decide)) (fun _ => m167 (fun a3 a4 => ?_) (fun q => ?_))
      · refine t216_38 (q3 := 221) (n5 := 20) (q8 := 336 + 4 * r) (q12 := 338 + 4 * r) (n14 := 3) (q17 := 339 + 4 * r) (n19 := 3) (by omega) (s0 τ F) (F.p rfl) (F.sh rfl (by omega) (by omega)) (fun _ => by omega) (fun _ => by rw [Int.toNat_natCast]; exact F.p pr.1) (F.sh sr.1 (by omega) (by omega)) (F.p pr.2.2.1) (F.sh sr.2.2.1 (by omega) (by omega)) (fun _ _ => by omega) (F.p pr.2.2.2) (F.sh sr.2.2.2 (by omega) (by omega)) (fun _ _ => by rw [g6]; omega) (fun _ a5 => ?_) (fun _ a5 => ?_) (fun c => absurd c (by decide))
        · rw [g6, e6, Int.toNat_natCast]
          unfold sp_hint at k
          rw [if_pos (by omega), if_pos (by omega), Int.toNat_natCast, hh, Int.toNat_natCast, if_pos (by omega)] at k
          have v3 : vd 3 r h := by unfold vd; omega
          have v4 : vd 4 r h := by unfold vd; omega
          have v5 : vd 1 r 5 := vd1 (by omega) (by omega)
          have o0 : OC (fun a _ => 338 + 4 * r ≤ a ∧ a ≤ 339 + 4 * r) τ (uI (uI τ (338 + 4 * r) h m) (339 + 4 * r) h p) := OC.j (P := fun a _ => 338 + 4 * r ≤ a ∧ a ≤ 339 + 4 * r) (OC.j (P := fun a _ => 338 + 4 * r ≤ a ∧ a ≤ 339 + 4 * r) OC.rf (by omega)) (by omega)
          have R0 : RM (uI (uI τ (338 + 4 * r) h m) (339 + 4 * r) h p) (cU (cU S.1 3 r h m) 4 r h p) := RM.je (RM.je R (a := 338 + 4 * r) (j := h) (x := m) v3 (by omega) (by omega) rfl rfl) (a := 339 + 4 * r) (j := h) (x := p) v4 (by omega) (by omega) rfl rfl
          have I0 := (R.2.1.j v3 (by omega) (x := m)).j v4 (by omega) (x := p)
          have F0 : FX2 (uI (uI τ (338 + 4 * r) h m) (339 + 4 * r) h p) := F.j.j
          have n0 : tN (uI (uI τ (338 + 4 * r) h m) (339 + 4 * r) h p) = tN τ := rfl
          have z0 : tZ (uI (uI τ (338 + 4 * r) h m) (339 + 4 * r) h p) = tZ τ := rfl
          have eA : uI (uI τ (aM 3 r) (kM 3 h) m) (aM 4 r) (kM 4 h) p = uI (uI τ (338 + 4 * r) h m) (339 + 4 * r) h p := rfl
          rw [eA] at I0
          generalize (uI (uI τ (338 + 4 * r) h m) (339 + 4 * r) h p) = τ0 at R0 I0 o0 F0 n0 z0
          have N := F.1
          have w2 := wf_hin w1 hr hh (by omega) ⟨a1, a2⟩ ⟨a3, a4⟩
          have w0 : WF (cU (cU S.1 3 r h m) 4 r h p) := wf_h34 w1 hr hh
          refine m170 F0 (L.oc F o0 (fun a k z => by omega)) fun τ1 q pp o F1 hn hz hl => t216_103 (s0 := some q) (by omega) (F1.sh sr.1 (by omega) (by omega)) (s0 _ F1) ?_
          have R1 := R0.acc w0 F0 o
          have I1 := I0.oc F0.1 o (fun a k z => by unfold AMP at z; unfold DM; omega)
          obtain ⟨T1, O1, h51⟩ := acc_M F0 o (T.oc F o0 (fun a k z => by omega)) (O.oc F o0 (fun a k z => by omega)) ((o0.2.2.2 220 3 (by omega) (by omega)).1.trans h5)
          have e7 : tI τ1 (336 + 4 * r) 5 = (h : Int) := by rw [R1.rr hr (by omega), cU_ne (by omega), cU_ne (by omega), hh]
          rw [e7, wr_id (x := (h : Int) + 1) (by unfold okI; omega), show tI (uI τ1 (336 + 4 * r) 5 ((h : Int) + 1)) (336 + 4 * r) 5 = (h : Int) + 1 by rw [tI_uI, if_pos ⟨rfl, rfl⟩]]
          have R2 : RM (uI τ1 (336 + 4 * r) 5 ((h : Int) + 1)) (cHi S.1 r h m p) := by
            refine R1.ic rfl (Fr.u (by omega)) (nC_M (x := (h : Int) + 1) v5 (by omega)).1 (fun t _ => (nC_M (x := (h : Int) + 1) v5 (by omega)).2 t) rfl ⟨rfl, rfl, rfl, rfl⟩ (fun u hu => wdl_cg (cU_ne (by omega)) (fun k _ => cU_ne (by omega))) ((I1.j v5 (by omega) (x := (h : Int) + 1)).mo fun g i k z => ⟨?_, rfl⟩)
            rcases cHi_ok hh z with z | ⟨z1 | z1, z2, z3⟩
            · exact Or.inl (Or.inl (Or.inl z))
            · exact Or.inl (Or.inl (Or.inr ⟨z1, z2, z3⟩))
            · exact Or.inl (Or.inr ⟨z1, z2, z3⟩)
          have o2 : OC (fun a _ => a = 336 + 4 * r) τ1 (uI τ1 (336 + 4 * r) 5 ((h : Int) + 1)) := OC.ad OC.rf
          refine m165 F1.j (t216_124 ?_)
          refine k (dnM (uI τ1 (336 + 4 * r) 5 ((h : Int) + 1))) ⟨((((o0.kp (fun a k z => by omega)).tr (AMP_kp o)).j (by omega) (by omega)).j (by omega) (by omega)).j (by omega) (by omega), F1.j.j.j, by show tN τ1 ≤ _; omega, by show tZ τ1 ≤ _; omega, MI.mkD F1.j w2 R2 (hl.lg.oc F1 o2 (fun a k z => by omega)) (und_hin_M w1 hr hh (by omega)) hc (((o0.fr fun a k z => by omega).tr (o.fr fun a k z => by unfold AMP at z; omega)).tr (o2.fr fun a k z => by omega)) (T1.oc F1 o2 (fun a k z => by omega)) (O1.oc F1 o2 (fun a k z => by omega)) ?_⟩
          rw [(o2.2.2.2 220 3 (by have := F1.1; omega) (by omega)).1]; exact h51
        · unfold sp_hint at k
          rw [if_pos (by omega), if_pos (by omega), Int.toNat_natCast, hh, if_neg (by omega)] at k
          exact m163 F (t216_69 (k _ (EM.rfs F C w)))
      · exact t216_38 (q3 := 221) (n5 := 20) (q8 := 336) (q12 := 338) (n14 := 3) (q17 := 339) (n19 := 3) (by omega) (s0 τ F) (F.p rfl) (F.sh rfl (by omega) (by omega)) (fun c => absurd rfl c) (fun c => absurd rfl c) (F.sh rfl (by omega) (by omega)) (F.p rfl) (F.sh rfl (by omega) (by omega)) (fun c => absurd rfl c) (F.p rfl) (F.sh rfl (by omega) (by omega)) (fun c => absurd rfl c) (fun c => absurd rfl c) (fun c => absurd rfl c) (fun _ => bad (by omega))
    · exact t216_27 (by omega) (s0 τ F) (fun _ => bad (by omega)) (fun c => absurd rfl c)
  · unfold sp_hint at k
    rw [if_neg (by omega)] at k
    exact t216_10 (by omega) (s0 τ F) (fun c => absurd rfl c) (fun _ => m163 F (t216_18 (k _ (EM.rfs F C w))))
