/-! guess -/
theorem co_ext {c c1 : CO} (h0 : c1.1 = c.1) (h1 : ∀ g i k, cD c1 g i k = cD c g i k) (h2 : c1.2.2 = c.2.2) : c1 = c := by
  have e : c1.2.1 = c.2.1 := funext fun g => funext fun i => funext fun k => h1 g i k
  show (c1.1, c1.2.1, c1.2.2) = (c.1, c.2.1, c.2.2)
  rw [h0, e, h2]
theorem wr_pm {x : Int} (h : okI x) : wr (wr (x + 1) - 1) = x := by
  unfold okI at h
  unfold wr
  omega
def cGr (c : CO) (t r : Nat) : CO := cU (cU c 7 t r (wr (cD c 7 t r + 1))) 6 t r (cD c 0 0 0)
def cGw (c : CO) (t r : Nat) : CO := cU (cU (cU c 7 t r (wr (cD c 7 t r + 1))) 5 t 1 (wr (cD c 5 t 1 + 1))) 9 t r (cD c 0 0 0 + cD c 1 r 4)
def cGu (c : CO) (t r : Nat) (v : Int) : CO := if v = 1 then cGr c t r else cGw c t r
section GU
variable {c : CO} {t r : Nat} {v : Int}
theorem cGr_D {g i k : Nat} : cD (cGr c t r) g i k = if g = 6 ∧ i = t ∧ k = r then cD c 0 0 0 else if g = 7 ∧ i = t ∧ k = r then wr (cD c 7 t r + 1) else cD c g i k := rfl
theorem cGw_D {g i k : Nat} : cD (cGw c t r) g i k = if g = 9 ∧ i = t ∧ k = r then cD c 0 0 0 + cD c 1 r 4 else if g = 5 ∧ i = t ∧ k = 1 then wr (cD c 5 t 1 + 1) else if g = 7 ∧ i = t ∧ k = r then wr (cD c 7 t r + 1) else cD c g i k := rfl
theorem cGu_n : cn (cGu c t r v) = cn c := by unfold cGu; split <;> rfl
theorem cGu_P : cP (cGu c t r v) = cP c := by unfold cGu; split <;> rfl
theorem cGu_o {g i k : Nat} (h : g < 5 ∨ g = 8 ∨ 9 < g) : cD (cGu c t r v) g i k = cD c g i k := by
  unfold cGu
  split
  · rw [cGr_D, if_neg (by omega), if_neg (by omega)]
  · rw [cGw_D, if_neg (by omega), if_neg (by omega), if_neg (by omega)]
theorem wf_gue (w : WF c) (ht : t < cn c 1) (hr : r < cn c 0) : WF (cGu c t r v) := by
  obtain ⟨w1, w2, w3, w4, w5⟩ := w
  have eg : ∀ g i, (g < 5 ∨ g = 8 ∨ 9 < g) → cD (cGu c t r v) g i = cD c g i := fun g i h => funext fun k => cGu_o h
  have e0 : cD (cGu c t r v) 0 0 0 = cD c 0 0 0 := cGu_o (by omega)
  have hb := w1.2.2.2
  have hlk := (w2 r hr).2.2.2.2.1
  refine ⟨⟨by rw [cGu_n]; exact w1.1, by rw [cGu_n]; exact w1.2.1, by rw [cGu_n]; exact w1.2.2.1, by rw [e0]; exact hb.1, by rw [e0]; exact hb.2⟩, fun i hi => ?_, fun i hi => ?_, fun u hu => ?_, fun i hi => ?_⟩
  · rw [cGu_n] at hi
    rw [eg 1 i (by omega), eg 2 i (by omega), eg 3 i (by omega), eg 4 i (by omega)]; exact w2 i hi
  · rw [cGu_n] at hi
    obtain ⟨a1, a2, a3⟩ := w3 i hi
    rw [e0, eg 8 i (by omega), cGu_n]
    have q50 : cD (cGu c t r v) 5 i 0 = cD c 5 i 0 := by
      unfold cGu
      split
      · rw [cGr_D, if_neg (by omega), if_neg (by omega)]
      · rw [cGw_D, if_neg (by omega), if_neg (by omega), if_neg (by omega)]
    rw [q50]
    refine ⟨a1, ?_, fun k hk => ?_⟩
    · unfold cGu
      split
      · rw [cGr_D, if_neg (by omega), if_neg (by omega)]; exact a2
      · rw [cGw_D, if_neg (by omega)]
        split
        · exact okI_wr _
        · rw [if_neg (by omega)]; exact a2
    · obtain ⟨b1, b2, b3, b4⟩ := a3 k hk
      rw [eg 1 k (by omega)]
      refine ⟨?_, ?_, b3, ?_⟩
      · unfold cGu
        split
        · rw [cGr_D]
          split
          · rename_i h; rw [h.2.1] at a1 ⊢; omega
          · rw [if_neg (by omega)]; exact b1
        · rw [cGw_D, if_neg (by omega), if_neg (by omega), if_neg (by omega)]; exact b1
      · unfold cGu
        split
        · rw [cGr_D, if_neg (by omega)]
          split
          · exact okI_wr _
          · exact b2
        · rw [cGw_D, if_neg (by omega), if_neg (by omega)]
          split
          · exact okI_wr _
          · exact b2
      · unfold cGu
        split
        · rw [cGr_D, if_neg (by omega), if_neg (by omega)]; exact b4
        · rw [cGw_D]
          split
          · unfold okI; omega
          · rw [if_neg (by omega), if_neg (by omega)]; exact b4
  · rw [cGu_n] at hu
    rw [eg 11 u (by omega), eg 12 u (by omega)]; exact w4 u hu
  · rw [cGu_n] at hi
    have e4 : cD (cGu c t r v) 4 = cD c 4 := funext fun i => eg 4 i (by omega)
    rw [e4, eg 8 i (by omega), eg 10 i (by omega), cGu_P]
    exact w5 i hi
theorem vd57 (ht : t < 8) (hr : r < 20) : vd 7 t r ∧ vd 6 t r ∧ vd 9 t r ∧ vd 5 t 1 := by
  exact ⟨Or.inr (Or.inr (Or.inr (Or.inr (Or.inr (Or.inl ⟨by decide, ht, hr⟩))))), Or.inr (Or.inr (Or.inr (Or.inr (Or.inr (Or.inl ⟨by decide, ht, hr⟩))))), Or.inr (Or.inr (Or.inr (Or.inr (Or.inr (Or.inl ⟨by decide, ht, hr⟩))))), Or.inr (Or.inr (Or.inr (Or.inr (Or.inl ⟨rfl, ht, by omega⟩))))⟩
/-- back: what class and model write -/
theorem cGr_back (h6 : cD c 6 t r = -1) : cU (cU (cGr c t r) 7 t r (cD c 7 t r)) 6 t r (-1) = c := by
  refine co_ext rfl (fun g i k => ?_) rfl
  by_cases a6 : g = 6 ∧ i = t ∧ k = r
  · obtain ⟨x1, x2, x3⟩ := a6
    subst x1 x2 x3
    rw [cU_at, h6]
  · rw [cU_ne a6]
    by_cases a7 : g = 7 ∧ i = t ∧ k = r
    · obtain ⟨x1, x2, x3⟩ := a7
      subst x1 x2 x3
      rw [cU_at]
    · rw [cU_ne a7, cGr_D, if_neg a6, if_neg a7]
theorem cGr_backM (h6 : cD c 6 t r = -1) : cU (cU (cU (cGr c t r) 7 t r (cD c 7 t r)) 9 t r (cD c 9 t r)) 6 t r (-1) = c := by
  refine co_ext rfl (fun g i k => ?_) rfl
  by_cases a6 : g = 6 ∧ i = t ∧ k = r
  · obtain ⟨x1, x2, x3⟩ := a6
    subst x1 x2 x3
    rw [cU_at, h6]
  · rw [cU_ne a6]
    by_cases a9 : g = 9 ∧ i = t ∧ k = r
    · obtain ⟨x1, x2, x3⟩ := a9
      subst x1 x2 x3
      rw [cU_at]
    · rw [cU_ne a9]
      by_cases a7 : g = 7 ∧ i = t ∧ k = r
      · obtain ⟨x1, x2, x3⟩ := a7
        subst x1 x2 x3
        rw [cU_at]
      · rw [cU_ne a7, cGr_D, if_neg a6, if_neg a7]
theorem cGw_back : cU (cU (cU (cGw c t r) 7 t r (cD c 7 t r)) 5 t 1 (cD c 5 t 1)) 9 t r (cD c 9 t r) = c := by
  refine co_ext rfl (fun g i k => ?_) rfl
  by_cases a9 : g = 9 ∧ i = t ∧ k = r
  · obtain ⟨x1, x2, x3⟩ := a9
    subst x1 x2 x3
    rw [cU_at]
  · rw [cU_ne a9]
    by_cases a5 : g = 5 ∧ i = t ∧ k = 1
    · obtain ⟨x1, x2, x3⟩ := a5
      subst x1 x2 x3
      rw [cU_at]
    · rw [cU_ne a5]
      by_cases a7 : g = 7 ∧ i = t ∧ k = r
      · obtain ⟨x1, x2, x3⟩ := a7
        subst x1 x2 x3
        rw [cU_at]
      · rw [cU_ne a7, cGw_D, if_neg a9, if_neg a5, if_neg a7]
theorem cGw_backM : cU (cU (cU (cGw c t r) 7 t r (cD c 7 t r)) 9 t r (cD c 9 t r)) 5 t 1 (cD c 5 t 1) = c := by
  rw [cU_cm (c := cU (cGw c t r) 7 t r (cD c 7 t r)) (g := 9) (by omega)]
  exact cGw_back
theorem und_gue_C {τ : T2} (w : WF c) (ht : t < cn c 1) (hr : r < cn c 0) (h6 : cD c 6 t r = -1) : UndC τ ((10, (t : Int), (r : Int), v, cD c 9 t r), none) (cGu c t r v) c := by
  intro τ1 d Q hd fr F R ⟨⟨m1, m2, m3, m4, m5⟩, m6⟩ k
  have l1 : tI τ1 89 4 = 10 := m1
  have l2 : tI τ1 89 5 = (t : Int) := m2
  have l3 : tI τ1 89 6 = (r : Int) := m3
  have l4 : tI τ1 89 7 = v := m4
  have l5 : tI τ1 89 8 = cD c 9 t r := m5
  clear m1 m2 m3 m4 m5
  have h20 := w.1.1
  have h8 := w.1.2.1
  obtain ⟨w31, w32, w33⟩ := w.2.2.1 t ht
  have o7 := (w33 r (by omega)).2.1
  obtain ⟨v7, v6, v9, v5⟩ := vd57 (t := t) (r := r) (by omega) (by omega)
  refine ⟨fun h => absurd (show (10 : Int) < 8 from h) (by decide), fun _ => ?_⟩
  have s89 : tS τ1 89 = (1, 5, 0) := F.sh rfl (by omega) (by omega)
  have s64 : tS τ1 64 = (1, 11, 0) := F.sh rfl (by omega) (by omega)
  have st := shT t (by omega)
  have pt := ptT t (by omega)
  have s1 := F.sh st.1 (by omega) (by omega)
  have en1 : tI τ1 64 6 = (cn c 1 : Int) := by rw [R.1.2.1, cGu_n]
  have en0 : tI τ1 64 3 = (cn c 0 : Int) := by rw [R.1.1, cGu_n]
  have gn : t < cn (cGu c t r v) 1 := by rw [cGu_n]; exact ht
  refine t146_0 (q2 := 89) (by omega) s64 (F.p rfl) s89 (fun _ => ?_) (fun h => by rw [l1] at h; exact absurd h (by decide))
  rw [l2]
  refine c130 F en1 h8 (fun t1 ht1 e => ?_) (fun e => by omega)
  refine t146_40 (q3 := 68) (q5 := 89) (n8 := 8) (by omega) s64 (F.p rfl) (F.p rfl) s89 (F.sh rfl (by omega) (by omega)) (fun _ => by rw [l2]; omega) (fun _ _ => ?_) (fun _ h => by rw [l1] at h; exact absurd h (by decide)) (fun z => absurd z (by decide))
  rw [l2, l3, Int.toNat_natCast, F.p pt.1]
  refine c129 F en0 h20 (fun r1 hr1 e1 => ?_) (fun e1 => by omega)
  refine t146_95 (q3 := 89) (q8 := 175 + 6 * t) (n10 := 20) (by omega) s64 (F.p rfl) s89 s1 (F.p pt.2.2.2.1) (F.sh st.2.2.2.1 (by omega) (by omega)) (fun _ h => by rw [l1] at h; exact absurd h (by decide)) (fun z => absurd z (by decide)) (fun _ _ => ?_) (fun _ h => by rw [l1] at h; exact absurd h (by decide))
  refine c129 F en0 h20 (fun r2 hr2 e2 => ?_) (fun e2 => by omega)
  have tb : ∀ z : Int, (z = 0 ∨ z = 1) → (z = 1 ↔ v = 1) → G (d - 1) 65 0 [vR (172 + 6 * t), vI (r : Int), vI z, vI (tI τ1 89 8)] [] τ1 (KC d 146 156 159 [none, none, none] [] Q) := fun z hz hzv => by
    rw [l5]
    refine t65_0 (q4 := 174 + 6 * t) (n6 := 20) (q10 := 176 + 6 * t) (n12 := 20) (q15 := 173 + 6 * t) (n17 := 20) s1 (F.p pt.2.2.1) (F.sh st.2.2.1 (by omega) (by omega)) (fun _ _ => by omega) (F.p pt.2.2.2.2.1) (F.sh st.2.2.2.2.1 (by omega) (by omega)) (fun _ _ _ => by omega) (F.p pt.2.1) (F.sh st.2.1 (by omega) (by omega)) (fun _ _ _ => by omega) (fun y => by omega) (fun _ _ y => ?_) (fun _ _ y => ?_) (fun _ y => by omega)
    · have hv : ¬ v = 1 := by omega
      have eR : cGu c t r v = cGw c t r := by unfold cGu; rw [if_neg hv]
      rw [eR] at R
      rw [Int.toNat_natCast]
      have e7 : wr (tI τ1 (174 + 6 * t) r - 1) = cD c 7 t r := by
        rw [R.gu ht (by omega), cGw_D, if_neg (by omega), if_neg (by omega), if_pos ⟨rfl, rfl, rfl⟩]
        exact wr_pm o7
      rw [e7]
      have e5 : wr (tI (uI τ1 (174 + 6 * t) r (cD c 7 t r)) (172 + 6 * t) 1 - 1) = cD c 5 t 1 := by
        rw [tI_uI, if_neg (by omega), R.t1 ht, cGw_D, if_neg (by omega), if_pos ⟨rfl, rfl, rfl⟩]
        exact wr_pm w32
      rw [e5]
      have R2 := RC.je (RC.je (RC.je R (a := 174 + 6 * t) (j := r) (x := cD c 7 t r) v7 (by omega) (by omega) rfl rfl) (a := 172 + 6 * t) (j := 1) (x := cD c 5 t 1) v5 (by omega) (by omega) rfl rfl) (a := 176 + 6 * t) (j := r) (x := cD c 9 t r) v9 (by omega) (by omega) rfl rfl
      rw [cGw_back] at R2
      exact t146_159 (k _ (((OC.rf.j (by unfold DC; omega)).j (by unfold DC; omega)).j (by unfold DC; omega)) F.j.j.j rfl rfl R2)
    · have hv : v = 1 := by omega
      have eR : cGu c t r v = cGr c t r := by unfold cGu; rw [if_pos hv]
      rw [eR] at R
      rw [Int.toNat_natCast]
      have e7 : wr (tI τ1 (174 + 6 * t) r - 1) = cD c 7 t r := by
        rw [R.gu ht (by omega), cGr_D, if_neg (by omega), if_pos ⟨rfl, rfl, rfl⟩]
        exact wr_pm o7
      rw [e7]
      have R2 := RC.je (RC.je R (a := 174 + 6 * t) (j := r) (x := cD c 7 t r) v7 (by omega) (by omega) rfl rfl) (a := 173 + 6 * t) (j := r) (x := -1) v6 (by omega) (by omega) rfl rfl
      rw [cGr_back h6] at R2
      exact t146_159 (k _ ((OC.rf.j (by unfold DC; omega)).j (by unfold DC; omega)) F.j.j rfl rfl R2)
  refine t146_128 (q3 := 89) (by omega) s64 (F.p rfl) s89 s1 (fun z => absurd z (by decide)) (fun _ y => ?_) (fun _ y => ?_)
  · rw [l4] at y
    exact tb 0 (Or.inl rfl) (by omega)
  · rw [l4] at y
    exact tb 1 (Or.inr rfl) (by omega)
theorem und_gue_M {τ : T2} (w : WF c) (ht : t < cn c 1) (hr : r < cn c 0) (h6 : cD c 6 t r = -1) {p : Option Nat × Option Nat × Option Nat} : UndM τ ((9, (t : Int), (r : Int), v, cD c 9 t r), p) (cGu c t r v) c := by
  intro τ1 d Q q hd fr F R q1 q2 ⟨⟨m1, m2, m3, m4, m5⟩, _⟩ k
  have l2 : tI τ1 q 1 = (t : Int) := m2
  have l3 : tI τ1 q 2 = (r : Int) := m3
  have l4 : tI τ1 q 3 = v := m4
  have l5 : tI τ1 q 4 = cD c 9 t r := m5
  clear m1 m2 m3 m4 m5
  have h20 := w.1.1
  have h8 := w.1.2.1
  obtain ⟨w31, w32, w33⟩ := w.2.2.1 t ht
  have o7 := (w33 r (by omega)).2.1
  obtain ⟨v7, v6, v9, v5⟩ := vd57 (t := t) (r := r) (by omega) (by omega)
  have st := shU t (by omega)
  have pt := ptU t (by omega)
  show G d 171 38 [vR 220, vR q, none] [AI 9] τ1 Q
  refine t171_38 (fun z => absurd z (by decide)) (fun z => absurd z (by decide)) (fun z => absurd z (by decide)) (fun z => absurd z (by decide)) (fun z => absurd z (by decide)) (fun z => absurd z (by decide)) (fun z => absurd z (by decide)) (fun z => absurd z (by decide)) (fun z => absurd z (by decide)) (fun _ => ?_) (fun z => absurd z (by decide))
  have g1 : ∀ j x, tI (uI τ1 (418 + 7 * t) r x) q j = tI τ1 q j := fun j x => by rw [tI_uI, if_neg (by omega)]
  have g2 : ∀ j x y, tI (uI (uI τ1 (418 + 7 * t) r x) (420 + 7 * t) r y) q j = tI τ1 q j := fun j x y => by rw [tI_uI, if_neg (by omega)]; exact g1 j x
  have tt : (tI τ1 q 2).toNat = r := by rw [l3]; exact Int.toNat_natCast r
  refine t171_255 (q2 := 222) (n5 := 8) (q8 := 416 + 7 * t) (q11 := 418 + 7 * t) (n13 := 20) (q16 := 420 + 7 * t) (n18 := 20) (q24 := 417 + 7 * t) (n26 := 20) (F.sh rfl (by omega) (by omega)) (F.p rfl) (shq F q1 q2) (F.sh rfl (by omega) (by omega)) (by rw [l2]; omega) (by rw [l2, Int.toNat_natCast]; exact F.p pt.1) (F.sh st.1 (by omega) (by omega)) (F.p pt.2.2.1) (F.sh st.2.2.1 (by omega) (by omega)) (by rw [l3]; omega) (F.p pt.2.2.2.2.1) (F.sh st.2.2.2.2.1 (by omega) (by omega)) (by rw [tt, g1, l3]; omega) (F.p pt.2.1) (F.sh st.2.1 (by omega) (by omega)) (fun _ => by rw [tt, g1, tt, g2, l3]; omega) (fun y => ?_) (fun y => ?_)
  all_goals
    rw [tt, g1, tt, g2] at y
    rw [l4] at y
    rw [tt, g1, tt, g1, l5]
    intro τ9 e9
  · have eR : cGu c t r v = cGw c t r := by unfold cGu; rw [if_neg y]
    rw [eR] at R
    have e7 : wr (tI τ1 (418 + 7 * t) r - 1) = cD c 7 t r := by
      rw [R.gu ht (by omega), cGw_D, if_neg (by omega), if_neg (by omega), if_pos ⟨rfl, rfl, rfl⟩]
      exact wr_pm o7
    rw [e7] at e9
    have e5 : wr (tI (uI (uI τ1 (418 + 7 * t) r (cD c 7 t r)) (420 + 7 * t) r (cD c 9 t r)) (416 + 7 * t) 1 - 1) = cD c 5 t 1 := by
      rw [tI_uI, if_neg (by omega), tI_uI, if_neg (by omega), R.tt ht (by omega), cGw_D, if_neg (by omega), if_pos ⟨rfl, rfl, rfl⟩]
      exact wr_pm w32
    rw [e5] at e9
    have R2 := RM.je (RM.je (RM.je R (a := 418 + 7 * t) (j := r) (x := cD c 7 t r) v7 (by omega) (by omega) rfl rfl) (a := 420 + 7 * t) (j := r) (x := cD c 9 t r) v9 (by omega) (by omega) rfl rfl) (a := 416 + 7 * t) (j := 1) (x := cD c 5 t 1) v5 (by omega) (by omega) rfl rfl
    rw [cGw_backM] at R2
    rw [← e9]
    exact k _ (((OC.rf.j (by unfold DM; omega)).j (by unfold DM; omega)).j (by unfold DM; omega)) F.j.j.j rfl rfl R2
  · have eR : cGu c t r v = cGr c t r := by unfold cGu; rw [if_pos y]
    rw [eR] at R
    have e7 : wr (tI τ1 (418 + 7 * t) r - 1) = cD c 7 t r := by
      rw [R.gu ht (by omega), cGr_D, if_neg (by omega), if_pos ⟨rfl, rfl, rfl⟩]
      exact wr_pm o7
    rw [e7, g2, tt] at e9
    have R2 := RM.je (RM.je (RM.je R (a := 418 + 7 * t) (j := r) (x := cD c 7 t r) v7 (by omega) (by omega) rfl rfl) (a := 420 + 7 * t) (j := r) (x := cD c 9 t r) v9 (by omega) (by omega) rfl rfl) (a := 417 + 7 * t) (j := r) (x := -1) v6 (by omega) (by omega) rfl rfl
    rw [cGr_backM h6] at R2
    rw [← e9]
    exact k _ (((OC.rf.j (by unfold DM; omega)).j (by unfold DM; omega)).j (by unfold DM; omega)) F.j.j.j rfl rfl R2
end GU
