/-! riddle: the core -/
def cRi (c : CO) (kd rd : Int) (w : List Int) : CO := (uf (cn c) 0 (cn c 0 + 1), (fun g i k => if i = cn c 0 ∧ g = 1 then (if k = 0 then kd else if k = 1 then rd else if k = 2 then (w.length : Int) else 0) else if i = cn c 0 ∧ g = 2 then w.getD k 0 else cD c g i k), uf (cR c) (cn c 0) none, uf (cF c) (cn c 0) none, uf (cW c) (cn c 0) none, cP c)
section RI
variable {c : CO} {kd rd : Int} {w : List Int}
theorem cRi_n : cn (cRi c kd rd w) 0 = cn c 0 + 1 ∧ cn (cRi c kd rd w) 1 = cn c 1 ∧ cn (cRi c kd rd w) 2 = cn c 2 := ⟨rfl, rfl, rfl⟩
theorem cRi_o {g i k : Nat} (h : ¬ (i = cn c 0 ∧ (g = 1 ∨ g = 2))) : cD (cRi c kd rd w) g i k = cD c g i k := by
  show (if i = cn c 0 ∧ g = 1 then (if k = 0 then kd else if k = 1 then rd else if k = 2 then (w.length : Int) else 0) else if i = cn c 0 ∧ g = 2 then w.getD k 0 else cD c g i k) = _
  rw [if_neg (by omega), if_neg (by omega)]
theorem cRi_1 {k : Nat} : cD (cRi c kd rd w) 1 (cn c 0) k = if k = 0 then kd else if k = 1 then rd else if k = 2 then (w.length : Int) else 0 := by
  show (if cn c 0 = cn c 0 ∧ 1 = 1 then (if k = 0 then kd else if k = 1 then rd else if k = 2 then (w.length : Int) else 0) else _) = _
  rw [if_pos ⟨rfl, rfl⟩]
theorem cRi_k : cD (cRi c kd rd w) 1 (cn c 0) 0 = kd ∧ cD (cRi c kd rd w) 1 (cn c 0) 1 = rd ∧ cD (cRi c kd rd w) 1 (cn c 0) 2 = (w.length : Int) ∧ cD (cRi c kd rd w) 1 (cn c 0) 3 = 0 ∧ cD (cRi c kd rd w) 1 (cn c 0) 4 = 0 ∧ cD (cRi c kd rd w) 1 (cn c 0) 5 = 0 := by
  refine ⟨?_, ?_, ?_, ?_, ?_, ?_⟩
  · rw [cRi_1, if_pos rfl]
  · rw [cRi_1, if_neg (by decide), if_pos rfl]
  · rw [cRi_1, if_neg (by decide), if_neg (by decide), if_pos rfl]
  · rw [cRi_1, if_neg (by decide), if_neg (by decide), if_neg (by decide)]
  · rw [cRi_1, if_neg (by decide), if_neg (by decide), if_neg (by decide)]
  · rw [cRi_1, if_neg (by decide), if_neg (by decide), if_neg (by decide)]
theorem cRi_2 {k : Nat} : cD (cRi c kd rd w) 2 (cn c 0) k = w.getD k 0 := by
  show (if cn c 0 = cn c 0 ∧ 2 = 1 then (if k = 0 then kd else if k = 1 then rd else if k = 2 then (w.length : Int) else 0) else if cn c 0 = cn c 0 ∧ 2 = 2 then w.getD k 0 else _) = _
  rw [if_neg (by omega), if_pos ⟨rfl, rfl⟩]
theorem cRi_ok {g i k : Nat} (z : ok (cRi c kd rd w) g i k) : (ok c g i k ∧ ¬ (i = cn c 0 ∧ 1 ≤ g ∧ g ≤ 4)) ∨ (i = cn c 0 ∧ ((g = 1 ∧ k < 6) ∨ (g = 2 ∧ k < w.length))) := by
  refine ok_cs z (fun a b d => Or.inl ⟨ok_i0 a b d, by omega⟩) (fun a b d => ?_) (fun a b d => ?_) (fun a b d => ?_) (fun a b d => Or.inl ⟨ok_i5 a b d, by omega⟩) (fun a b d => Or.inl ⟨ok_i6 a b d, by omega⟩) (fun a b d e => Or.inl ⟨ok_i10 a b d (by rw [cRi_o (by omega)] at e; exact e), by omega⟩) (fun a b d => Or.inl ⟨ok_i11 a b (by rw [cRi_o (by omega)] at d; exact d), by omega⟩) (fun a b d => Or.inl ⟨ok_i12 a b d, by omega⟩)
  all_goals
    rw [cRi_n.1] at b
    by_cases hi : i = cn c 0
  · exact Or.inr ⟨hi, Or.inl ⟨a, d⟩⟩
  · exact Or.inl ⟨ok_i1 a (by omega) d, fun q => hi q.1⟩
  · rw [hi, cRi_1, if_neg (show ¬ 2 = 0 by decide), if_neg (show ¬ 2 = 1 by decide), if_pos rfl] at d
    exact Or.inr ⟨hi, Or.inr ⟨a, by omega⟩⟩
  · exact Or.inl ⟨ok_i2 a (by omega) (by rw [cRi_o (by omega)] at d; exact d), fun q => hi q.1⟩
  · rw [hi, cRi_1, if_neg (show ¬ 5 = 0 by decide), if_neg (show ¬ 5 = 1 by decide), if_neg (show ¬ 5 = 2 by decide)] at d
    omega
  · exact Or.inl ⟨ok_i3 a (by omega) (by rw [cRi_o (by omega)] at d; exact d), fun q => hi q.1⟩
theorem cRi_ok2 {g i k : Nat} (z : ok c g i k) : ok (cRi c kd rd w) g i k ∧ cD c g i k = cD (cRi c kd rd w) g i k := by
  have hn : ¬ (i = cn c 0 ∧ 1 ≤ g ∧ g ≤ 4) := by
    unfold ok at z
    omega
  exact ⟨ok_map z (by rw [cRi_n.1]; omega) (Nat.le_refl _) (Nat.le_refl _) (fun _ => by rw [cRi_o (by omega)]; exact Int.le_refl _) (fun _ => by rw [cRi_o (by omega)]; exact Int.le_refl _) (fun q j => by rw [cRi_o (by omega)]; exact Int.le_refl _) (fun _ => by rw [cRi_o (by omega)]; exact Int.le_refl _), (cRi_o (by omega)).symm⟩
theorem wf_rid (h : WF c) (h20 : cn c 0 < 20) (hk : 0 ≤ kd ∧ kd ≤ 2) (hr : 0 ≤ rd ∧ rd ≤ 5) (hw : 1 ≤ w.length ∧ w.length ≤ 12) (hl : ∀ x ∈ w, 97 ≤ x ∧ x ≤ 122) : WF (cRi c kd rd w) := by
  obtain ⟨w1, w2, w3, w4, w5⟩ := h
  have e0 : cD (cRi c kd rd w) 0 0 0 = cD c 0 0 0 := cRi_o (by omega)
  have e1 : ∀ g i, g ≠ 1 → g ≠ 2 → cD (cRi c kd rd w) g i = cD c g i := fun g i _ _ => funext fun k => cRi_o (by omega)
  have ei : ∀ g i, i ≠ cn c 0 → cD (cRi c kd rd w) g i = cD c g i := fun g i h => funext fun k => cRi_o (by omega)
  refine ⟨⟨by rw [cRi_n.1]; omega, w1.2.1, w1.2.2.1, by rw [e0]; exact w1.2.2.2.1, by rw [e0]; exact w1.2.2.2.2⟩, fun r hr1 => ?_, fun t ht => ?_, fun u hu => ?_, fun t ht => ?_⟩
  · by_cases hi : r = cn c 0
    · subst hi
      rw [cRi_k.1, cRi_k.2.1, cRi_k.2.2.1, cRi_k.2.2.2.1, cRi_k.2.2.2.2.1, cRi_k.2.2.2.2.2]
      refine ⟨hk, hr, by omega, by omega, by omega, by omega, fun k hk1 => ?_, fun j hj => by omega⟩
      rw [cRi_2, List.getD_eq_getElem?_getD, List.getElem?_eq_getElem (show k < w.length by omega)]
      exact hl _ (List.getElem_mem _)
    · rw [cRi_n.1] at hr1
      rw [ei 1 r hi, ei 2 r hi, ei 3 r hi, ei 4 r hi]
      exact w2 r (by omega)
  · rw [e0, e1 5 t (by decide) (by decide), e1 6 t (by decide) (by decide), e1 7 t (by decide) (by decide), e1 8 t (by decide) (by decide), e1 9 t (by decide) (by decide)]
    obtain ⟨a1, a2, a3⟩ := w3 t ht
    refine ⟨a1, a2, fun r hr1 => ?_⟩
    obtain ⟨b1, b2, ⟨b3, b4, b5, b6⟩, b7⟩ := a3 r hr1
    refine ⟨b1, b2, ⟨b3, b4, fun q => b5 (by rw [cRi_n.1] at q; omega), fun q => ?_⟩, b7⟩
    by_cases hi : r = cn c 0
    · subst hi
      rw [cRi_k.2.2.2.2.2, b5 (Nat.le_refl _)]
      exact Int.le_refl _
    · rw [cRi_n.1] at q
      rw [ei 1 r hi]
      exact b6 (by omega)
  · rw [e1 11 u (by decide) (by decide), e1 12 u (by decide) (by decide)]; exact w4 u hu
  · have e4 : cD (cRi c kd rd w) 4 = cD c 4 := funext fun i => e1 4 i (by decide) (by decide)
    rw [e4, e1 8 t (by decide) (by decide), e1 10 t (by decide) (by decide)]
    exact w5 t ht
theorem cRi_rd {a : Nat} : rdm (cRi c kd rd w) a = if rd = (a : Int) then ins (rdm c a) (cn c 0) else rdm c a := by
  funext k
  by_cases hk : k = cn c 0
  · subst hk
    have e0 : rdm c a (cn c 0) = false := decide_eq_false (by omega)
    have e1 : rdm (cRi c kd rd w) a (cn c 0) = decide (rd = (a : Int)) := by
      unfold rdm
      rw [cRi_1, cRi_n.1, if_neg (show ¬ 1 = 0 by decide), if_pos (show 1 = 1 from rfl)]
      rw [decide_eq_decide]
      omega
    rw [e1]
    by_cases h : rd = (a : Int)
    · rw [if_pos h, decide_eq_true h]
      unfold ins
      rw [Nat.beq_refl, Bool.or_true]
    · rw [if_neg h, decide_eq_false h, e0]
  · have e1 : rdm (cRi c kd rd w) a k = rdm c a k := by
      unfold rdm
      rw [cRi_o (by omega), cRi_n.1, decide_eq_decide]
      omega
    rw [e1]
    split
    · unfold ins
      rw [beq_ne hk, Bool.or_false]
    · rfl
end RI
theorem ptR9 (r : Nat) (h : r < 20) : PTI (92 + 4 * r) 9 = none ∧ PTI (92 + 4 * r) 10 = none ∧ PTI (92 + 4 * r) 11 = none ∧ PTI (336 + 4 * r) 9 = none ∧ PTI (336 + 4 * r) 10 = none ∧ PTI (336 + 4 * r) 11 = none := (show ∀ r : Nat, r < 20 → (PTI (92 + 4 * r) 9 = none ∧ PTI (92 + 4 * r) 10 = none ∧ PTI (92 + 4 * r) 11 = none ∧ PTI (336 + 4 * r) 9 = none ∧ PTI (336 + 4 * r) 10 = none ∧ PTI (336 + 4 * r) 11 = none) by decide +kernel) r h
/-- Riddle.begin -/
theorem c32 {d : Nat} {τ : T2} {Q : RS → T2 → Prop} {r p : Nat} {x1 x2 : Int} {w : List Int} (F : FX2 τ) (hr : r < 20) (hw : w.length ≤ 12) (hp : p + w.length ≤ 300) (ht : ∀ j, j < w.length → tI τ 65 (p + j) = w.getD j 0) (hl : ∀ x ∈ w, 97 ≤ x ∧ x ≤ 122) (k : ∀ τ1, OC (fun a k => (a = 92 + 4 * r ∧ ((k ≤ 6 ∧ k ≠ 2) ∨ (9 ≤ k ∧ k ≤ 11))) ∨ a = 93 + 4 * r) τ τ1 → FX2 τ1 → tN τ1 = tN τ → tZ τ1 = tZ τ → (∀ a, a ≠ 92 + 4 * r → tP τ1 a = tP τ a) → tI τ1 (92 + 4 * r) 0 = x1 → tI τ1 (92 + 4 * r) 1 = x2 → tI τ1 (92 + 4 * r) 3 = (w.length : Int) → tI τ1 (92 + 4 * r) 4 = 0 → tI τ1 (92 + 4 * r) 5 = 0 → tI τ1 (92 + 4 * r) 6 = 0 → tP τ1 (92 + 4 * r) 9 = none → tP τ1 (92 + 4 * r) 10 = none → tP τ1 (92 + 4 * r) 11 = none → Ls τ1 (93 + 4 * r) w → Q (.inl none) τ1) : G d 32 0 [vR (92 + 4 * r), vI x1, vI x2, vR 65, vI (p : Int), vI ((p + w.length : Nat) : Int), none] [] τ Q := by
  have sr := shR r hr
  have pr := ptR r hr
  have p9 := ptR9 r hr
  have s1 : ∀ τ : T2, FX2 τ → tS τ (92 + 4 * r) = (1, 6, 0) := fun τ F => F.sh sr.1 (by omega) (by omega)
  have lp : ∀ (j i : Nat) (τ1 : T2), i + j = w.length → OC (fun a k => (a = 92 + 4 * r ∧ ((k ≤ 6 ∧ k ≠ 2) ∨ (9 ≤ k ∧ k ≤ 11))) ∨ a = 93 + 4 * r) τ τ1 → FX2 τ1 → tN τ1 = tN τ → tZ τ1 = tZ τ → tP τ1 = tP τ → tI τ1 (92 + 4 * r) 0 = x1 → tI τ1 (92 + 4 * r) 1 = x2 → tI τ1 (92 + 4 * r) 3 = (i : Int) → (∀ j, j < i → tI τ1 (93 + 4 * r) j = w.getD j 0) → G d 32 19 [vR (92 + 4 * r), none, none, vR 65, none, vI ((p + w.length : Nat) : Int), vI ((p + i : Nat) : Int)] [] τ1 Q := by
    intro j
    induction j with
    | zero =>
      intro i τ1 hi o F1 n1 z1 P1 e0 e1 e3 e9
      refine t32_19 (n4 := 300) (q8 := 93 + 4 * r) (n11 := 12) (s1 _ F1) (F1.sh rfl (by omega) (by omega)) (F1.p pr.2.1) (fun _ c => by omega) (F1.sh sr.2.1 (by omega) (by omega)) (fun _ c => by omega) (fun c => by omega) (fun _ _ => ?_) (fun _ c => by omega) (fun _ c => by omega) (fun _ c => by omega)
      have g : ∀ i, i < 4 → tI (uP (uP (uP (uI (uI (uI τ1 (92 + 4 * r) 4 0) (92 + 4 * r) 5 0) (92 + 4 * r) 6 0) (92 + 4 * r) 9 none) (92 + 4 * r) 10 none) (92 + 4 * r) 11 none) (92 + 4 * r) i = tI τ1 (92 + 4 * r) i := fun i hi => by
        rw [tI_uP, tI_uP, tI_uP, tI_uI, if_neg (by omega), tI_uI, if_neg (by omega), tI_uI, if_neg (by omega)]
      have g3 : tI (uP (uP (uP (uI (uI (uI τ1 (92 + 4 * r) 4 0) (92 + 4 * r) 5 0) (92 + 4 * r) 6 0) (92 + 4 * r) 9 none) (92 + 4 * r) 10 none) (92 + 4 * r) 11 none) (93 + 4 * r) = tI τ1 (93 + 4 * r) := by
        funext i
        rw [tI_uP, tI_uP, tI_uP, tI_uI, if_neg (by omega), tI_uI, if_neg (by omega), tI_uI, if_neg (by omega)]
      refine k _ (((((((o.j (by omega)).j (by omega)).j (by omega)).q (by omega)).q (by omega)).q (by omega))) ((((F1.j.j.j).q p9.1).q p9.2.1).q p9.2.2.1) n1 z1 (fun a ha => ?_) (by rw [g 0 (by omega)]; exact e0) (by rw [g 1 (by omega)]; exact e1) (by rw [g 3 (by omega), e3, show i = w.length by omega]) ?_ ?_ ?_ ?_ ?_ ?_ (fun j hj => ?_)
      · funext i
        rw [tP_uP, if_neg (by omega), tP_uP, if_neg (by omega), tP_uP, if_neg (by omega), tP_uI, tP_uI, tP_uI, P1]
      · rw [tI_uP, tI_uP, tI_uP, tI_uI, if_neg (by omega), tI_uI, if_neg (by omega), tI_uI, if_pos ⟨rfl, rfl⟩]
      · rw [tI_uP, tI_uP, tI_uP, tI_uI, if_neg (by omega), tI_uI, if_pos ⟨rfl, rfl⟩]
      · rw [tI_uP, tI_uP, tI_uP, tI_uI, if_pos ⟨rfl, rfl⟩]
      · rw [tP_uP, if_neg (by omega), tP_uP, if_neg (by omega), tP_uP, if_pos ⟨rfl, rfl⟩]
      · rw [tP_uP, if_neg (by omega), tP_uP, if_pos ⟨rfl, rfl⟩]
      · rw [tP_uP, if_pos ⟨rfl, rfl⟩]
      · rw [g3]; exact e9 j (by omega)
    | succ j ih =>
      intro i τ1 hi o F1 n1 z1 P1 e0 e1 e3 e9
      refine t32_19 (n4 := 300) (q8 := 93 + 4 * r) (n11 := 12) (s1 _ F1) (F1.sh rfl (by omega) (by omega)) (F1.p pr.2.1) (fun _ _ _ _ => by omega) (F1.sh sr.2.1 (by omega) (by omega)) (fun _ _ _ _ => by rw [e3]; omega) (fun c => by omega) (fun _ c => by omega) (fun _ _ c => by omega) (fun _ _ _ c => by rw [e3] at c; omega) (fun _ _ _ _ => ?_)
      have N := F.1
      have eb : tI τ1 65 (p + i) = w.getD i 0 := by rw [(o.2.2.2 65 (p + i) (by omega) (by omega)).1]; exact ht i (by omega)
      have bl : 97 ≤ w.getD i 0 ∧ w.getD i 0 ≤ 122 := by
        rw [List.getD_eq_getElem?_getD, List.getElem?_eq_getElem (show i < w.length by omega)]
        exact hl _ (List.getElem_mem _)
      rw [e3, Int.toNat_natCast, Int.toNat_natCast, eb, zbyt_id (by omega) (by omega), show tI (uI τ1 (93 + 4 * r) i (w.getD i 0)) (92 + 4 * r) 3 = (i : Int) by rw [tI_uI, if_neg (by omega)]; exact e3, wr_nat (by omega), wr_nat (by omega)]
      have g : ∀ a k, a ≠ 93 + 4 * r → ¬ (a = 92 + 4 * r ∧ k = 3) → tI (uI (uI τ1 (93 + 4 * r) i (w.getD i 0)) (92 + 4 * r) 3 ((i + 1 : Nat) : Int)) a k = tI τ1 a k := fun a k h1 h2 => by rw [tI_uI, if_neg h2, tI_uI, if_neg (by omega)]
      refine ih (i + 1) _ (by omega) ((o.j (by omega)).j (by omega)) F1.j.j n1 z1 P1 (by rw [g _ _ (by omega) (by omega)]; exact e0) (by rw [g _ _ (by omega) (by omega)]; exact e1) (by rw [tI_uI, if_pos ⟨rfl, rfl⟩]) (fun q hq => ?_)
      rw [tI_uI, if_neg (by omega), tI_uI]
      by_cases e : q = i
      · rw [if_pos ⟨rfl, e⟩, e]
      · rw [if_neg (fun z => e z.2)]
        exact e9 q (by omega)
  refine t32_0 (r3 := some 65) (s1 τ F) ?_
  have := lp w.length 0 (uI (uI (uI τ (92 + 4 * r) 0 x1) (92 + 4 * r) 1 x2) (92 + 4 * r) 3 0) (by omega) (((OC.rf.j (by omega)).j (by omega)).j (by omega)) F.j.j.j rfl rfl rfl (by rw [tI_uI, if_neg (by omega), tI_uI, if_neg (by omega), tI_uI, if_pos ⟨rfl, rfl⟩]) (by rw [tI_uI, if_neg (by omega), tI_uI, if_pos ⟨rfl, rfl⟩]) (by rw [tI_uI, if_pos ⟨rfl, rfl⟩]; rfl) (fun j hj => by omega)
  exact this
