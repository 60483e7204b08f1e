/-! book -/
def cBo (c : CO) (w : List Int) : CO := (uf (cn c) 2 (cn c 2 + 1), (fun g i k => if i = cn c 2 ∧ g = 11 then w.getD k 0 else if i = cn c 2 ∧ g = 12 then (w.length : Int) else cD c g i k), cR c, cF c, cW c, cP c)
def sp_book (n : Int) (S : HSx) : Int × HSx := if 0 ≤ n ∧ n ≤ ((sTp S).length : Int) then (if oneW (byt (sTp S)) n.toNat = true then (if cn S.1 2 < 40 then (((cn S.1 2 + 1 : Nat) : Int), acS (clS S) (cBo S.1 (tkW (byt (sTp S)) n.toNat 0))) else (-1, rfS (clS S) 3)) else (-1, rfS (clS S) 2)) else (-1, rfS S 2)
section BO
variable {c : CO} {w : List Int}
theorem cBo_n : cn (cBo c w) 0 = cn c 0 ∧ cn (cBo c w) 1 = cn c 1 ∧ cn (cBo c w) 2 = cn c 2 + 1 := ⟨rfl, rfl, rfl⟩
theorem cBo_o {g i k : Nat} (h : ¬ (i = cn c 2 ∧ (g = 11 ∨ g = 12))) : cD (cBo c w) g i k = cD c g i k := by
  show (if i = cn c 2 ∧ g = 11 then w.getD k 0 else if i = cn c 2 ∧ g = 12 then (w.length : Int) else cD c g i k) = _
  rw [if_neg (by omega), if_neg (by omega)]
theorem cBo_1 {k : Nat} : cD (cBo c w) 11 (cn c 2) k = w.getD k 0 := by
  show (if cn c 2 = cn c 2 ∧ 11 = 11 then w.getD k 0 else _) = _
  rw [if_pos ⟨rfl, rfl⟩]
theorem cBo_2 {k : Nat} : cD (cBo c w) 12 (cn c 2) k = (w.length : Int) := by
  show (if cn c 2 = cn c 2 ∧ 12 = 11 then w.getD k 0 else if cn c 2 = cn c 2 ∧ 12 = 12 then (w.length : Int) else _) = _
  rw [if_neg (by omega), if_pos ⟨rfl, rfl⟩]
theorem cBo_ok {g i k : Nat} (z : ok (cBo c w) g i k) : (ok c g i k ∧ ¬ (i = cn c 2 ∧ 11 ≤ g ∧ g ≤ 12)) ∨ (i = cn c 2 ∧ ((g = 11 ∧ k < w.length) ∨ (g = 12 ∧ k = 0))) := by
  refine ok_cs z (fun a b d => Or.inl ⟨ok_i0 a b d, by omega⟩) (fun a b d => Or.inl ⟨ok_i1 a b d, by omega⟩) (fun a b d => Or.inl ⟨ok_i2 a b (by rw [cBo_o (by omega)] at d; exact d), by omega⟩) (fun a b d => Or.inl ⟨ok_i3 a b (by rw [cBo_o (by omega)] at d; exact d), by omega⟩) (fun a b d => Or.inl ⟨ok_i5 a b d, by omega⟩) (fun a b d => Or.inl ⟨ok_i6 a b d, by omega⟩) (fun a b d e => Or.inl ⟨ok_i10 a b d (by rw [cBo_o (by omega)] at e; exact e), by omega⟩) (fun a b d => ?_) (fun a b d => ?_)
  all_goals
    rw [cBo_n.2.2] at b
    by_cases hi : i = cn c 2
  · rw [hi, cBo_2] at d
    exact Or.inr ⟨hi, Or.inl ⟨a, by omega⟩⟩
  · exact Or.inl ⟨ok_i11 a (by omega) (by rw [cBo_o (by omega)] at d; exact d), fun q => hi q.1⟩
  · exact Or.inr ⟨hi, Or.inr ⟨a, d⟩⟩
  · exact Or.inl ⟨ok_i12 a (by omega) d, fun q => hi q.1⟩
theorem cBo_ok2 {g i k : Nat} (z : ok c g i k) : ok (cBo c w) g i k ∧ cD c g i k = cD (cBo c w) g i k := by
  have hn : ¬ (i = cn c 2 ∧ 11 ≤ g ∧ g ≤ 12) := by
    unfold ok at z
    omega
  exact ⟨ok_map z (Nat.le_refl _) (Nat.le_refl _) (by rw [cBo_n.2.2]; omega) (fun _ => by rw [cBo_o (by omega)]; exact Int.le_refl _) (fun _ => by rw [cBo_o (by omega)]; exact Int.le_refl _) (fun q j => by rw [cBo_o (by omega)]; exact Int.le_refl _) (fun q => by rw [cBo_o (by omega)]; exact Int.le_refl _), (cBo_o (by omega)).symm⟩
theorem wf_boo (h : WF c) (h40 : cn c 2 < 40) (hw : 1 ≤ w.length ∧ w.length ≤ 12) (hl : ∀ x ∈ w, 97 ≤ x ∧ x ≤ 122) : WF (cBo c w) := by
  obtain ⟨w1, w2, w3, w4, w5⟩ := h
  have e1 : ∀ g i, g ≠ 11 → g ≠ 12 → cD (cBo c w) g i = cD c g i := fun g i _ _ => funext fun k => cBo_o (by omega)
  have ei : ∀ g i, i ≠ cn c 2 → cD (cBo c w) g i = cD c g i := fun g i h => funext fun k => cBo_o (by omega)
  have e0 : cD (cBo c w) 0 0 0 = cD c 0 0 0 := cBo_o (by omega)
  refine ⟨⟨w1.1, w1.2.1, by rw [cBo_n.2.2]; omega, by rw [e0]; exact w1.2.2.2.1, by rw [e0]; exact w1.2.2.2.2⟩, fun r hr => ?_, fun t ht => ?_, fun u hu => ?_, fun t ht => ?_⟩
  · rw [e1 1 r (by decide) (by decide), e1 2 r (by decide) (by decide), e1 3 r (by decide) (by decide), e1 4 r (by decide) (by decide)]; exact w2 r hr
  · rw [e0, e1 5 t (by decide) (by decide), e1 6 t (by decide) (by decide), e1 7 t (by decide) (by decide), e1 8 t (by decide) (by decide), e1 9 t (by decide) (by decide)]
    obtain ⟨a1, a2, a3⟩ := w3 t ht
    exact ⟨a1, a2, fun r hr => by rw [e1 1 r (by decide) (by decide)]; exact a3 r hr⟩
  · by_cases hi : u = cn c 2
    · subst hi
      rw [cBo_2]
      refine ⟨by omega, fun k hk => ?_⟩
      rw [cBo_1, List.getD_eq_getElem?_getD, List.getElem?_eq_getElem (show k < w.length by omega)]
      exact hl _ (List.getElem_mem _)
    · rw [cBo_n.2.2] at hu
      rw [ei 11 u hi, ei 12 u hi]
      exact w4 u (by omega)
  · have e4 : cD (cBo c w) 4 = cD c 4 := funext fun i => e1 4 i (by decide) (by decide)
    rw [e4, e1 8 t (by decide) (by decide), e1 10 t (by decide) (by decide)]
    exact w5 t ht
theorem cBo_w : wdl (cBo c w) (cn c 2) = w := by
  unfold wdl
  rw [cBo_2, Int.toNat_natCast]
  apply List.ext_getElem?
  intro i
  rw [List.getElem?_map]
  by_cases h : i < w.length
  · rw [List.getElem?_range h, List.getElem?_eq_getElem h]
    show some (cD (cBo c w) 11 (cn c 2) i) = _
    rw [cBo_1, List.getD_eq_getElem?_getD, List.getElem?_eq_getElem h]
    rfl
  · rw [List.getElem?_eq_none (by simpa using h), List.getElem?_eq_none (by omega)]
    rfl
end BO
theorem ws_boo {S : HSx} (w : WS S) {n : Int} : WS (sp_book n S).2 := by
  unfold sp_book
  split
  · split
    · rename_i h1
      split
      · rename_i h2
        obtain ⟨a1, a2, a3, a4, -⟩ := oneW_w h1
        exact w.cl.act (wf_boo (w.1 _ (by simp)) h2 ⟨a2, a3⟩ a4)
      · exact w.cl.rfs 3
    · exact w.cl.rfs 2
  · exact w.rfs 2
def BOP (u a k : Nat) : Prop := (a = 71 ∧ 12 * u ≤ k ∧ k < 12 * u + 12) ∨ (a = 72 ∧ k = u) ∨ (a = 70 ∧ k = 2)
/-- Book.add -/
theorem c1 {d : Nat} {τ : T2} {Q : RS → T2 → Prop} {u p : Nat} {w : List Int} (F : FX2 τ) (hu : u < 40) (eu : tI τ 70 2 = (u : Int)) (hw : w.length ≤ 12) (hp : p + w.length ≤ 300) (ht : ∀ j, j < w.length → tI τ 65 (p + j) = w.getD j 0) (hl : ∀ x ∈ w, 97 ≤ x ∧ x ≤ 122) (k : ∀ τ1, OC (BOP u) τ τ1 → FX2 τ1 → tN τ1 = tN τ → tZ τ1 = tZ τ → tP τ1 = tP τ → tI τ1 70 2 = ((u + 1 : Nat) : Int) → tI τ1 72 u = (w.length : Int) → (∀ j, j < w.length → tI τ1 71 (12 * u + j) = w.getD j 0) → Q (.inl none) τ1) : G d 1 0 [vR 70, vR 65, vI (p : Int), vI ((p + w.length : Nat) : Int), none, none] [] τ Q := by
  have s70 : ∀ τ : T2, FX2 τ → tS τ 70 = (1, 2, 0) := fun τ F => F.sh rfl (by omega) (by omega)
  have lp : ∀ (j i : Nat) (τ1 : T2), i + j = w.length → OC (BOP u) τ τ1 → FX2 τ1 → tN τ1 = tN τ → tZ τ1 = tZ τ → tP τ1 = tP τ → tI τ1 70 2 = (u : Int) → (∀ j, j < i → tI τ1 71 (12 * u + j) = w.getD j 0) → G d 1 23 [vR 70, vR 65, none, vI ((p + w.length : Nat) : Int), vI (i : Int), vI ((p + i : Nat) : Int)] [] τ1 Q := by
    intro j
    induction j with
    | zero =>
      intro i τ1 hi o F1 n1 z1 P1 e2 e9
      refine t1_23 (q3 := 72) (n5 := 40) (n10 := 300) (q16 := 71) (n19 := 480) (s70 _ F1) (F1.p rfl) (F1.sh rfl (by omega) (by omega)) (fun c => by omega) (fun _ _ => by rw [e2]; omega) (F1.sh rfl (by omega) (by omega)) (fun _ c => by omega) (fun _ c => by omega) (F1.p rfl) (fun _ c => by omega) (F1.sh rfl (by omega) (by omega)) (fun _ c => by omega) (fun c => by omega) (fun _ _ => ?_) (fun _ c => by omega) (fun _ c => by omega) (fun _ c => by omega)
      rw [e2, Int.toNat_natCast, show tI (uI τ1 72 u (i : Int)) 70 2 = (u : Int) by rw [tI_uI, if_neg (by omega)]; exact e2, wr_nat (by omega)]
      refine k _ ((o.j (Or.inr (Or.inl ⟨rfl, rfl⟩))).j (Or.inr (Or.inr ⟨rfl, rfl⟩))) F1.j.j n1 z1 P1 (by rw [tI_uI, if_pos ⟨rfl, rfl⟩]) (by rw [tI_uI, if_neg (by omega), tI_uI, if_pos ⟨rfl, rfl⟩, show i = w.length by omega]) (fun q hq => ?_)
      rw [tI_uI, if_neg (by omega), tI_uI, if_neg (by omega)]
      exact e9 q (by omega)
    | succ j ih =>
      intro i τ1 hi o F1 n1 z1 P1 e2 e9
      have ex : wr (wr (tI τ1 70 2 * 12) + (i : Int)) = ((12 * u + i : Nat) : Int) := by
        rw [e2, wr_id (x := (u : Int) * 12) (by unfold okI; omega), wr_id (by unfold okI; omega)]
        omega
      refine t1_23 (q3 := 72) (n5 := 40) (n10 := 300) (q16 := 71) (n19 := 480) (s70 _ F1) (F1.p rfl) (F1.sh rfl (by omega) (by omega)) (fun c => by omega) (fun _ c => by omega) (F1.sh rfl (by omega) (by omega)) (fun _ _ c => by omega) (fun _ _ _ c => by omega) (F1.p rfl) (fun _ _ _ _ => by omega) (F1.sh rfl (by omega) (by omega)) (fun _ _ _ _ => by rw [ex]; omega) (fun c => by omega) (fun _ c => by omega) (fun _ _ c => by omega) (fun _ _ _ c => by omega) (fun _ _ _ _ => ?_)
      have N := F.1
      have eb : tI τ1 65 (p + i) = w.getD i 0 := by rw [(o.2.2.2 65 (p + i) (by omega) (by unfold BOP; omega)).1]; exact ht i (by omega)
      have bl : 97 ≤ w.getD i 0 ∧ w.getD i 0 ≤ 122 := by
        rw [List.getD_eq_getElem?_getD, List.getElem?_eq_getElem (show i < w.length by omega)]
        exact hl _ (List.getElem_mem _)
      rw [ex, Int.toNat_natCast, Int.toNat_natCast, eb, zbyt_id (by omega) (by omega), wr_nat (by omega), wr_nat (by omega)]
      refine ih (i + 1) _ (by omega) (o.j (Or.inl ⟨rfl, by omega, by omega⟩)) F1.j n1 z1 P1 (by rw [tI_uI, if_neg (by omega)]; exact e2) (fun q hq => ?_)
      rw [tI_uI]
      by_cases e : q = i
      · rw [if_pos ⟨rfl, by omega⟩, e]
      · rw [if_neg (by omega)]
        exact e9 q (by omega)
  refine t1_0 (r1 := some 65) (s70 τ F) (fun c => by rw [eu] at c; omega) (fun _ _ => ?_) (fun _ c => by rw [eu] at c; omega)
  exact lp w.length 0 τ (by omega) OC.rf F rfl rfl rfl eu (fun j hj => by omega)
theorem plB {u g i k : Nat} (v : vd g i k) (h : ¬ (i = u ∧ 11 ≤ g ∧ g ≤ 12)) : ¬ BOP u (aC g i) (kC g i k) := by
  have q1 := aC_c g i
  have q2 := kC_c g i k
  have y := plK (k := k) (g := g) (i := i)
  unfold BOP
  by_cases g11 : g = 11
  · have : k < 12 := by unfold vd at v; omega
    have e1 : kC g i k = 12 * i + k := by rw [g11]; rfl
    have e2 : aC g i = 71 := by rw [g11]; rfl
    clear q1 q2 y
    omega
  · by_cases g12 : g = 12
    · have e1 : kC g i k = i := by rw [g12]; rfl
      have e2 : aC g i = 72 := by rw [g12]; rfl
      clear q1 q2 y
      omega
    · have : g ≤ 10 := by unfold vd at v; omega
      clear q2
      rcases q1 with q | q | q | q | q <;> omega
theorem RC.bo2 {τ τ1 : T2} {c : CO} {u : Nat} {w : List Int} (R : RC τ c) (F : FX2 τ) (hu : cn c 2 = u) (h40 : u < 40) (hw : w.length ≤ 12) (o : OC (BOP u) τ τ1) (hP : tP τ1 = tP τ) (e0 : tI τ1 70 2 = ((u + 1 : Nat) : Int)) (e1 : tI τ1 72 u = (w.length : Int)) (e2 : ∀ j, j < w.length → tI τ1 71 (12 * u + j) = w.getD j 0) : RC τ1 (cBo c w) := by
  obtain ⟨⟨a1, a2, a3⟩, hI, h5, h6⟩ := R
  have N := F.1
  have sm : ∀ a k, a < 473 → ¬ BOP u a k → tI τ1 a k = tI τ a k := fun a k h1 h2 => (o.2.2.2 a k (by omega) h2).1
  have fr : Fr τ τ1 := o.fr fun a k z => by unfold BOP at z; omega
  refine ⟨⟨?_, ?_, ?_⟩, fun g i k z => ?_, fun a ha => ?_, fun i hi => ?_⟩
  · rw [sm 64 3 (by omega) (by unfold BOP; omega)]; exact a1
  · rw [sm 64 6 (by omega) (by unfold BOP; omega)]; exact a2
  · rw [e0, cBo_n.2.2, hu]
  · rcases cBo_ok z with ⟨z1, z2⟩ | ⟨z1, z2⟩
    · obtain ⟨v1, v2⟩ := hI g i k z1
      refine ⟨v1, ?_⟩
      rw [hu] at z2
      have y1 := plB (u := u) v1 z2
      have y4 := (vd_C v1).2
      rw [cBo_o (by rw [hu]; omega), sm _ _ (by omega) y1]
      exact v2
    · rw [hu] at z1
      subst z1
      rcases z2 with ⟨z2, z3⟩ | ⟨z2, z3⟩
      · subst z2
        refine ⟨Or.inr (Or.inr (Or.inr (Or.inr (Or.inr (Or.inr (Or.inr (Or.inl ⟨rfl, h40, Nat.lt_of_lt_of_le z3 hw⟩))))))), ?_⟩
        rw [← hu, cBo_1, hu]
        exact e2 k z3
      · subst z2 z3
        refine ⟨Or.inr (Or.inr (Or.inr (Or.inr (Or.inr (Or.inr (Or.inr (Or.inr ⟨rfl, h40, rfl⟩))))))), ?_⟩
        rw [← hu, cBo_2, hu]
        exact e1
  · rw [sm 67 a (by omega) (by unfold BOP; omega), rdm_cg (c := c) cBo_n.1 (fun r _ => cBo_o (by omega))]
    exact h5 a ha
  · rw [hP]
    obtain ⟨b1, b2, b3⟩ := h6 i hi
    exact ⟨b1.mo fun _ _ z => z.fr fr, b2.mo fun _ _ z => z.fr fr, b3.mo fun _ _ z => z.fr fr⟩
theorem RM.bo2 {τ τ1 : T2} {c : CO} {u : Nat} {w : List Int} (R : RM τ c) (F : FX2 τ) (h8 : cn c 1 ≤ 8) (hu : cn c 2 = u) (h40 : u < 40) (hw : w.length ≤ 12) (o : OC (fun a k => a = 223 ∧ k = u) τ τ1) (hP : tP τ1 = tP τ) (e1 : tI τ1 223 u = wen w) : RM (uI τ1 220 6 ((u + 1 : Nat) : Int)) (cBo c w) := by
  obtain ⟨⟨a1, a2, a3⟩, hI, h5, h7, h6⟩ := R
  have N := F.1
  have sm : ∀ a k, a < 473 → ¬ (a = 223 ∧ k = u) → ¬ (a = 220 ∧ k = 6) → tI (uI τ1 220 6 ((u + 1 : Nat) : Int)) a k = tI τ a k := fun a k h1 h2 h3 => by
    rw [tI_uI, if_neg h3]; exact (o.2.2.2 a k (by omega) h2).1
  have fr : Fr τ (uI τ1 220 6 ((u + 1 : Nat) : Int)) := (o.fr fun a k z => by omega).tr (Fr.u (by omega))
  refine ⟨⟨?_, ?_, ?_⟩, fun g i k z => ?_, fun v hv => ?_, fun t ht => ?_, fun i hi => ?_⟩
  · rw [sm 220 4 (by omega) (by omega) (by omega)]; exact a1
  · rw [sm 220 5 (by omega) (by omega) (by omega)]; exact a2
  · rw [tI_uI, if_pos ⟨rfl, rfl⟩, cBo_n.2.2, hu]
  · rcases cBo_ok z with ⟨z1, z2⟩ | ⟨z1, z2⟩
    · obtain ⟨v1, v2⟩ := hI g i k z1
      refine ⟨v1, fun h9 => ?_⟩
      have y1 := plM (r := 30) (k := k) (g := g) (i := i)
      have y4 := (vd_M v1 h9).2
      have y5 : i < 20 := by unfold vd at v1; omega
      obtain ⟨-, y2, y3⟩ := y1 (by omega)
      rw [cBo_o (by omega), sm _ _ (by omega) (by omega) (by omega)]
      exact v2 h9
    · have hi : i < 40 := by rw [z1, hu]; exact h40
      rcases z2 with ⟨z2, z3⟩ | ⟨z2, z3⟩
      · exact ⟨Or.inr (Or.inr (Or.inr (Or.inr (Or.inr (Or.inr (Or.inr (Or.inl ⟨z2, hi, Nat.lt_of_lt_of_le z3 hw⟩))))))), fun h9 => by omega⟩
      · exact ⟨Or.inr (Or.inr (Or.inr (Or.inr (Or.inr (Or.inr (Or.inr (Or.inr ⟨z2, hi, z3⟩))))))), fun h9 => by omega⟩
  · rw [cBo_n.2.2, hu] at hv
    by_cases e : v = u
    · subst e
      rw [tI_uI, if_neg (by omega), e1, ← hu, cBo_w]
    · rw [sm 223 v (by omega) (by omega) (by omega), wdl_cg (c := c) (cBo_o (by rw [hu]; omega)) (fun k _ => cBo_o (by rw [hu]; omega))]
      exact h5 v (by omega)
  · rw [cBo_n.2.1] at ht
    obtain ⟨b1, b2⟩ := h7 t ht
    refine ⟨?_, fun j x hj => ⟨?_, ?_⟩⟩
    · rw [sm _ _ (by omega) (by omega) (by omega)]; exact b1
    · rw [sm _ _ (by omega) (by omega) (by omega)]; exact (b2 j x hj).1
    · rw [sm _ _ (by omega) (by omega) (by omega)]; exact (b2 j x hj).2
  · rw [tP_uI, hP]
    obtain ⟨b1, b2, b3⟩ := h6 i hi
    exact ⟨b1.mo fun _ _ z => z.fr fr, b2.mo fun _ _ z => z.fr fr, b3.mo fun _ _ z => z.fr fr⟩
theorem und_boo_C {τ : T2} {c : CO} {u : Nat} {w : List Int} (h40 : u < 40) (hu : cn c 2 = u) : UndC τ ((7, 0, 0, 0, 0), none) (cBo c w) c := by
  intro τ1 d Q hd fr F R ⟨⟨m1, m2, m3, m4, m5⟩, m6⟩ k
  have l1 : tI τ1 89 4 = 7 := m1
  refine ⟨fun _ => ?_, fun h => absurd (show 8 ≤ (7 : Int) from h) (by decide)⟩
  have s89 : tS τ1 89 = (1, 5, 0) := F.sh rfl (by omega) (by omega)
  have en : tI τ1 70 2 = ((u + 1 : Nat) : Int) := by rw [R.1.2.2, cBo_n.2.2, hu]
  refine t145_0 (q2 := 89) (q6 := 70) (by omega) (F.sh rfl (by omega) (by omega)) (F.p rfl) s89 (F.p rfl) (F.sh rfl (by omega) (by omega)) (fun h => absurd l1 h) (fun _ => ?_)
  rw [en, show wr (((u + 1 : Nat) : Int) - 1) = (u : Int) by rw [wr_id (by unfold okI; omega)]; omega]
  refine k _ (OC.rf.j (by unfold DC; omega)) F.j rfl rfl (R.cnt (Or.inr ⟨rfl, rfl⟩) cBo_n.1.symm ?_ ?_ (fun g i k z => cBo_ok2 z) (fun r _ => ⟨rfl, rfl, rfl⟩))
  · rw [tI_uI, if_neg (by omega)]; exact R.1.2.1
  · rw [tI_uI, if_pos ⟨rfl, rfl⟩, hu]
theorem und_boo_M {τ : T2} {c : CO} {u : Nat} {w : List Int} (h40 : u < 40) (hu : cn c 2 = u) {p : Option Nat × Option Nat × Option Nat} : UndM τ ((6, 0, 0, 0, 0), p) (cBo c w) c := by
  intro τ1 d Q q hd fr F R q1 q2 ⟨⟨m1, m2, m3, m4, m5⟩, _⟩ k
  have l1 : tI τ1 q 0 = 6 := m1
  show G d 171 38 [vR 220, vR q, none] [AI 6] τ1 Q
  refine t171_38 (fun c => absurd c (by decide)) (fun c => absurd c (by decide)) (fun c => absurd c (by decide)) (fun c => absurd c (by decide)) (fun c => absurd c (by decide)) (fun c => absurd c (by decide)) (fun _ => ?_) (fun c => absurd c (by decide)) (fun c => absurd c (by decide)) (fun c => absurd c (by decide)) (fun c => absurd c (by decide))
  have en : tI τ1 220 6 = ((u + 1 : Nat) : Int) := by rw [R.1.2.2, cBo_n.2.2, hu]
  refine t171_218 (F.sh rfl (by omega) (by omega)) ?_
  rw [en, show wr (((u + 1 : Nat) : Int) - 1) = (u : Int) by rw [wr_id (by unfold okI; omega)]; omega]
  refine k _ (OC.rf.j (by unfold DM; omega)) F.j rfl rfl (R.cnt (by omega) ?_ ?_ ?_ ⟨Nat.le_of_eq cBo_n.1.symm, Nat.le_of_eq cBo_n.2.1.symm, by rw [cBo_n.2.2]; omega⟩ (fun g i k z => cBo_ok2 z) (fun r _ => ⟨rfl, rfl, rfl⟩) (fun u hu => rfl))
  · rw [tI_uI, if_neg (by omega)]; exact R.1.1
  · rw [tI_uI, if_neg (by omega)]; exact R.1.2.1
  · rw [tI_uI, if_pos ⟨rfl, rfl⟩, hu]
theorem cc109 {x : Int} : CCl 109 [vR 64, vI x] (sp_book x) := fun d τ S Q hd F C w k => by
  have s0 : ∀ τ : T2, FX2 τ → tS τ 64 = (1, 11, 0) := fun τ F => F.sh rfl (by omega) (by omega)
  have s73 : ∀ τ : T2, FX2 τ → tS τ 73 = (1, 9, 0) := fun τ F => F.sh rfl (by omega) (by omega)
  have s70 : ∀ τ : T2, FX2 τ → tS τ 70 = (1, 2, 0) := fun τ F => F.sh rfl (by omega) (by omega)
  have w1 := w.1 S.1 (by simp)
  have C0 := C
  obtain ⟨R, ⟨E, L, hc⟩, T, O, h3, h4, h5⟩ := C0
  have h300 := w.2.1
  have hTp : (sTp S).length = S.2.2.1.length := rfl
  refine t109_0 (by omega) (s0 τ F) (c132 F T.1 h300 (fun n hn e => ?_) (fun c => ?_))
  · subst e
    unfold sp_book at k
    rw [if_pos (by omega), Int.toNat_natCast] at k
    refine t109_5 (by omega) (s0 τ F) (fun _ => ?_) (fun c => absurd c (by decide))
    refine c138 F T h300 hn (by omega) fun τ1 o1 F1 n1 z1 X1 K1 e1 _ _ _ _ => ?_
    have N := F.1
    have N1 := F1.1
    have R1 : RC τ1 S.1 := R.oc w1 F o1 (fun a k z => by unfold BGC at z; unfold DC; omega)
    have L1 : LgC τ1 E := L.oc F o1 (fun a k z => by unfold BGC at z; omega)
    have O1 : OuC τ1 (sOu S) := O.oc F o1 (fun a k z => by unfold BGC at z; omega)
    have q17 : tI τ1 64 17 = sFa S := by rw [(o1.2.2.2 64 17 (by omega) (by unfold BGC; omega)).1]; exact h5
    refine t109_19 (q2 := 73) (by omega) (s0 _ F1) (F1.p rfl) (s73 _ F1) (c71 F1 X1 K1 (fun hw => ?_) (fun hw => ?_))
    · rw [if_pos hw] at k
      obtain ⟨u, hu⟩ : ∃ u, cn S.1 2 = u := ⟨_, rfl⟩
      have en : tI τ1 70 2 = (u : Int) := by rw [R1.1.2.2, hu]
      obtain ⟨g1, g2, g3, g4, g5, g6, g7, g8⟩ := oneW_w hw
      have kf := K1.1
      have kt := K1.2.1
      have p65 : tP τ1 64 0 = some 65 := F1.p rfl
      refine t109_26 (q3 := 70) (q7 := 73) (by omega) (s0 _ F1) (F1.p rfl) (s70 _ F1) (F1.p rfl) (s73 _ F1) (fun _ c => ?_) (fun _ c => ?_) (fun c => absurd c (by decide))
      · rw [en] at c
        have hu40 : u < 40 := by omega
        rw [hu, if_pos hu40] at k
        rw [p65, kf, kt, ← g5]
        refine c1 F1 hu40 en g3 (by omega) (fun j hj => ?_) g4 fun τ2 o2 F2 n2 z2 P2 e20 e21 e22 => ?_
        · rw [X1.2.2.2 _ (by omega), g7 j hj]
        · have R2 := R1.bo2 F1 hu hu40 g3 o2 P2 e20 e21 e22
          have w2 := wf_boo w1 (by omega) ⟨g2, g3⟩ g4
          have T1 : TpC τ1 [] := ⟨e1, fun j hj => by cases hj⟩
          refine t109_78 (by omega) (s0 _ F2) (c127 F2 (L1.oc F1 o2 (fun a k z => by unfold BOP at z; omega)) (by omega) fun τ4 o4 F4 n4 z4 h0 hl4 => ?_)
          refine t109_88 (q2 := 70) (s0 _ F4) (F4.p rfl) (s70 _ F4) ?_
          obtain ⟨T4, O4, h54⟩ := acc_C F2 o4 (T1.oc F1 o2 (fun a k z => by unfold BOP at z; omega)) (O1.oc F1 o2 (fun a k z => by unfold BOP at z; omega)) ((o2.2.2.2 64 17 (by omega) (by unfold BOP; omega)).1.trans q17)
          have R4 := R2.acc w2 F2 o4
          rw [R4.1.2.2, cBo_n.2.2, hu]
          exact k _ ⟨((BGC_kp o1).tr (o2.kp (fun a k z => by unfold BOP at z; omega))).tr (ACP_kp o4), F4, by omega, by omega, CI.mkA R4 hl4 (und_boo_C hu40 hu) hc (((o1.fr fun a k z => by unfold BGC at z; omega).tr (o2.fr fun a k z => by unfold BOP at z; omega)).tr (o4.fr fun a k z => by unfold ACP LGP at z; omega)) T4 O4 h0 h54⟩
      · rw [en] at c
        rw [hu, if_neg (by omega)] at k
        exact c126 F1 (t109_52 (k _ (EC.bgr C w F F1 o1 n1 z1 e1 (by decide))))
    · rw [if_neg (by rw [hw]; decide)] at k
      exact t109_26 (q3 := 70) (q7 := 73) (by omega) (s0 _ F1) (F1.p rfl) (s70 _ F1) (F1.p rfl) (s73 _ F1) (fun c => absurd rfl c) (fun c => absurd rfl c) (fun _ => c126 F1 (t109_34 (k _ (EC.bgr C w F F1 o1 n1 z1 e1 (by decide)))))
  · unfold sp_book at k
    rw [if_neg (by omega)] at k
    exact t109_5 (by omega) (s0 τ F) (fun c => absurd rfl c) (fun _ => c126 F (t109_13 (k _ (EC.rfs F C w (by decide)))))
theorem mc227 {x : Int} : MCl 227 [vR 220, vI x] (sp_book x) := fun d τ S Q hd F C w k => by
  have s0 : ∀ τ : T2, FX2 τ → tS τ 220 = (1, 21, 0) := fun τ F => F.sh rfl (by omega) (by omega)
  have w1 := w.1 S.1 (by simp)
  refine t227_0 (by omega) (s0 τ F) ?_
  have k := fun τ2 h => k τ2 (EM.bef (Kp.rf.j (a := 220) (k := 0) (x := 0) (by omega) (by omega)) rfl rfl h)
  have C := C.t0 w F (x := 0)
  have F : FX2 (uI τ 220 0 0) := F.j
  generalize uI τ 220 0 0 = τ at *
  have C0 := C
  obtain ⟨R, ⟨E, L, hc⟩, T, O, h3, h4, h5⟩ := C0
  have h300 := w.2.1
  have hTp : (sTp S).length = S.2.2.1.length := rfl
  have hbyte := w.2.2.1
  refine m206 F T.1 (fun n hn e => ?_) (fun c => ?_)
  · subst e
    unfold sp_book at k
    rw [if_pos (by omega), Int.toNat_natCast] at k
    refine t227_10 (by omega) (s0 τ F) (fun _ => ?_) (fun c => absurd c (by decide))
    have s223 : ∀ τ : T2, FX2 τ → tS τ 223 = (2, 3, 40) := fun τ F => F.sh rfl (by omega) (by omega)
    refine m208 F T h300 hbyte hn (by omega) (fun τ1 o1 F1 n1 z1 e1 hw ew => ?_) (fun τ1 o1 F1 n1 z1 e1 hw => ?_)
    · rw [if_pos hw] at k
      have N := F.1
      have N1 := F1.1
      have R1 : RM τ1 S.1 := R.oc w1 F o1 (fun a k z => by unfold BGM at z; unfold DM; omega)
      have L1 : LgM τ1 E := L.oc F o1 (fun a k z => by unfold BGM at z; omega)
      have O1 : OuM τ1 (sOu S) := O.oc F o1 (fun a k z => by unfold BGM at z; omega)
      have q17 : tI τ1 220 3 = sFa S := by rw [(o1.2.2.2 220 3 (by omega) (by unfold BGM; omega)).1]; exact h5
      obtain ⟨u, hu⟩ : ∃ u, cn S.1 2 = u := ⟨_, rfl⟩
      have en : tI τ1 220 6 = (u : Int) := by rw [R1.1.2.2, hu]
      have h40 := w1.1.2.2.1
      rw [hu] at h40
      obtain ⟨g1, g2, g3, g4, g5, g6, g7, g8⟩ := oneW_w hw
      refine t227_24 (q4 := 223) (n6 := 40) (by omega) (s0 _ F1) (F1.p rfl) (s223 _ F1) (fun _ c => by rw [en] at c ⊢; omega) (fun _ c => ?_) (fun _ c => ?_) (fun c => absurd c (by decide))
      · rw [en] at c
        have hu40 : u < 40 := by omega
        rw [hu, if_pos hu40] at k
        rw [en, Int.toNat_natCast, ew]
        have o2 : OC (fun a k => a = 223 ∧ k = u) τ1 (uI τ1 223 u (wen (tkW (byt (sTp S)) n 0))) := OC.j (P := fun a k => a = 223 ∧ k = u) OC.rf ⟨rfl, rfl⟩
        have e22 : tI (uI τ1 223 u (wen (tkW (byt (sTp S)) n 0))) 223 u = wen (tkW (byt (sTp S)) n 0) := by rw [tI_uI, if_pos ⟨rfl, rfl⟩]
        have F2 : FX2 (uI τ1 223 u (wen (tkW (byt (sTp S)) n 0))) := F1.j
        have P2 : tP (uI τ1 223 u (wen (tkW (byt (sTp S)) n 0))) = tP τ1 := rfl
        have n2 : tN (uI τ1 223 u (wen (tkW (byt (sTp S)) n 0))) = tN τ1 := rfl
        have z2 : tZ (uI τ1 223 u (wen (tkW (byt (sTp S)) n 0))) = tZ τ1 := rfl
        generalize (uI τ1 223 u (wen (tkW (byt (sTp S)) n 0))) = τ2 at o2 e22 F2 P2 n2 z2
        have w2 := wf_boo w1 (by omega) ⟨g2, g3⟩ g4
        have T1 : TpM τ1 [] := ⟨e1, fun j hj => by cases hj⟩
        have N2 := F2.1
        refine m170 F2 (L1.oc F1 o2 (fun a k z => by omega)) fun τ4 q pp o4 F4 n4 z4 hl4 => t227_71 (s0 := some q) (by omega) (s0 _ F4) ?_
        have en4 : tI τ4 220 6 = (u : Int) := by rw [(o4.2.2.2 220 6 (by omega) (by unfold AMP; omega)).1, (o2.2.2.2 220 6 (by omega) (by omega)).1]; exact en
        rw [en4, wr_nat (by omega), show tI (uI τ4 220 6 ((u + 1 : Nat) : Int)) 220 6 = ((u + 1 : Nat) : Int) by rw [tI_uI, if_pos ⟨rfl, rfl⟩]]
        obtain ⟨T4, O4, h54⟩ := acc_M F2 o4 (T1.oc F1 o2 (fun a k z => by omega)) (O1.oc F1 o2 (fun a k z => by omega)) ((o2.2.2.2 220 3 (by omega) (by omega)).1.trans q17)
        have R3 : RM (uI τ2 220 6 ((u + 1 : Nat) : Int)) (cBo S.1 (tkW (byt (sTp S)) n 0)) := R1.bo2 F1 w1.1.2.1 hu hu40 g3 o2 P2 e22
        have R4 : RM (uI τ4 220 6 ((u + 1 : Nat) : Int)) (cBo S.1 (tkW (byt (sTp S)) n 0)) := by
          refine R3.oc w2 F2.j (P := AMP) ⟨o4.1, o4.2.1, o4.2.2.1, fun a k ha hn => ⟨?_, ?_⟩⟩ (fun a k z => by unfold AMP at z; unfold DM; omega)
          · rw [tI_uI, tI_uI]
            split
            · rfl
            · exact (o4.2.2.2 a k ha hn).1
          · exact (o4.2.2.2 a k ha hn).2
        have o5 : OC (fun a k => a = 220 ∧ k = 6) τ4 (uI τ4 220 6 ((u + 1 : Nat) : Int)) := OC.j (P := fun a k => a = 220 ∧ k = 6) OC.rf ⟨rfl, rfl⟩
        refine m165 F4.j (t227_90 ?_)
        refine k (dnM (uI τ4 220 6 ((u + 1 : Nat) : Int))) ⟨(((((BGM_kp o1).tr (o2.kp (fun a k z => by omega))).tr (AMP_kp o4)).j (by omega) (by omega)).j (by omega) (by omega)).j (by omega) (by omega), F4.j.j.j, by show tN τ4 ≤ _; omega, by show tZ τ4 ≤ _; omega, MI.mkD F4.j w2 R4 (hl4.lg.oc F4 o5 (fun a k z => by omega)) (und_boo_M hu40 hu) hc ((((o1.fr fun a k z => by unfold BGM at z; omega).tr (o2.fr fun a k z => by omega)).tr (o4.fr fun a k z => by unfold AMP at z; omega)).tr (Fr.u (by omega))) (T4.oc F4 o5 (fun a k z => by omega)) (O4.oc F4 o5 (fun a k z => by omega)) ?_⟩
        rw [tI_uI, if_neg (by decide)]; exact h54
      · rw [en] at c
        rw [hu, if_neg (by omega)] at k
        exact m163 F1 (t227_47 (k _ (EM.bgr C w F F1 o1 n1 z1 e1)))
    · rw [if_neg (by rw [hw]; decide)] at k
      exact t227_24 (q4 := 223) (n6 := 40) (by omega) (s0 _ F1) (F1.p rfl) (s223 _ F1) (fun c => absurd rfl c) (fun c => absurd rfl c) (fun c => absurd rfl c) (fun _ => m163 F1 (t227_32 (k _ (EM.bgr C w F F1 o1 n1 z1 e1))))
  · unfold sp_book at k
    rw [if_neg (by omega)] at k
    exact t227_10 (by omega) (s0 τ F) (fun c => absurd rfl c) (fun _ => m163 F (t227_18 (k _ (EM.rfs F C w))))
