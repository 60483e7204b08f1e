/-! buy: both sides -/
theorem vd810 {t r h : Nat} (ht : t < 8) (hr : r < 20) (h3 : h < 3) : vd 8 t r ∧ vd 10 t (3 * r + h) := by
  exact ⟨Or.inr (Or.inr (Or.inr (Or.inr (Or.inr (Or.inl ⟨by decide, ht, hr⟩))))), Or.inr (Or.inr (Or.inr (Or.inr (Or.inr (Or.inr (Or.inl ⟨rfl, ht, by omega⟩))))))⟩
section BUC
variable {c : CO} {t r h : Nat}
theorem RC.bu {τ : T2} (R : RC τ c) (h8 : t < 8) (h20 : r < 20) (hh : cD c 8 t r = (h : Int)) (h3 : h < 3) : RC (uI (uI τ (177 + 6 * t) (3 * r + h) (cD c 0 0 0)) (175 + 6 * t) r ((h : Int) + 1)) (cBu c t r h) := by
  obtain ⟨v8, v10⟩ := vd810 (t := t) (r := r) (h := h) h8 h20 h3
  refine R.ic rfl ((Fr.u (by omega)).tr (Fr.u (by omega))) ⟨?_, ?_, ?_, ?_⟩ rfl ⟨rfl, rfl, rfl⟩ (fun r2 _ => cBu_o (by decide) (by decide)) (((R.2.1.j v10 (x := cD c 0 0 0)).j v8 (x := (h : Int) + 1)).mo fun g i k z => ⟨?_, rfl⟩)
  · rw [tI_uI, if_neg (by omega), tI_uI, if_neg (by omega)]
  · rw [tI_uI, if_neg (by omega), tI_uI, if_neg (by omega)]
  · rw [tI_uI, if_neg (by omega), tI_uI, if_neg (by omega)]
  · funext j
    rw [tI_uI, if_neg (by omega), tI_uI, if_neg (by omega)]
  · rcases cBu_ok hh h3 z with z | z
    · exact Or.inl (Or.inl z)
    · exact Or.inl (Or.inr z)
theorem und_buy_C {τ : T2} (w : WF c) (ht : t < cn c 1) (hr : r < cn c 0) (hh : cD c 8 t r = (h : Int)) (h3 : h < 3) : UndC τ ((11, (t : Int), (r : Int), 0, 0), none) (cBu c t r h) c := by
  intro τ1 d Q hd fr F R ⟨⟨m1, m2, m3, m4, m5⟩, m6⟩ k
  have l1 : tI τ1 89 4 = 11 := m1
  have l2 : tI τ1 89 5 = (t : Int) := m2
  have l3 : tI τ1 89 6 = (r : Int) := m3
  clear m1 m2 m3 m4 m5
  have h20 := w.1.1
  have h8 := w.1.2.1
  obtain ⟨v8, v10⟩ := vd810 (t := t) (r := r) (h := h) (by omega) (by omega) h3
  refine ⟨fun h => absurd (show (11 : Int) < 8 from h) (by decide), fun _ => ?_⟩
  have s89 : tS τ1 89 = (1, 5, 0) := F.sh rfl (by omega) (by omega)
  have s64 : tS τ1 64 = (1, 11, 0) := F.sh rfl (by omega) (by omega)
  have st := shT t (by omega)
  have pt := ptT t (by omega)
  have s1 := F.sh st.1 (by omega) (by omega)
  have en1 : tI τ1 64 6 = (cn c 1 : Int) := R.1.2.1
  have en0 : tI τ1 64 3 = (cn c 0 : Int) := R.1.1
  refine t146_0 (q2 := 89) (by omega) s64 (F.p rfl) s89 (fun _ => ?_) (fun h => by rw [l1] at h; exact absurd h (by decide))
  rw [l2]
  refine c130 F en1 h8 (fun t1 ht1 e => ?_) (fun e => by omega)
  refine t146_40 (q3 := 68) (q5 := 89) (n8 := 8) (by omega) s64 (F.p rfl) (F.p rfl) s89 (F.sh rfl (by omega) (by omega)) (fun _ => by rw [l2]; omega) (fun _ _ => ?_) (fun _ h => by rw [l1] at h; exact absurd h (by decide)) (fun z => absurd z (by decide))
  rw [l2, l3, Int.toNat_natCast, F.p pt.1]
  refine c129 F en0 h20 (fun r1 hr1 e1 => ?_) (fun e1 => by omega)
  refine t146_95 (q3 := 89) (q8 := 175 + 6 * t) (n10 := 20) (by omega) s64 (F.p rfl) s89 s1 (F.p pt.2.2.2.1) (F.sh st.2.2.2.1 (by omega) (by omega)) (fun _ _ => by omega) (fun z => absurd z (by decide)) (fun _ z => absurd l1 z) (fun _ _ => ?_)
  rw [Int.toNat_natCast]
  have e8 : wr (tI τ1 (175 + 6 * t) r - 1) = (h : Int) := by
    rw [R.bo ht (by omega), cBu_8, if_pos ⟨rfl, rfl⟩, wr_id (by unfold okI; omega)]
    omega
  rw [e8]
  exact k _ (OC.rf.j (by unfold DC; omega)) F.j rfl rfl (R.ic rfl (Fr.u (by omega)) (nC_C (x := (h : Int)) v8) rfl ⟨rfl, rfl, rfl⟩ (fun r2 _ => (cBu_o (by decide) (by decide)).symm) ((R.2.1.j v8 (x := (h : Int))).mo fun g i k z => ⟨Or.inl (cBu_ok2 hh h3 z).1, (cBu_ok2 hh h3 z).2⟩))
theorem und_buy_M {τ : T2} (w : WF c) (ht : t < cn c 1) (hr : r < cn c 0) (hh : cD c 8 t r = (h : Int)) (h3 : h < 3) {p : Option Nat × Option Nat × Option Nat} : UndM τ ((10, (t : Int), (r : Int), 0, 0), p) (cBu c t r h) c := by
  intro τ1 d Q q hd fr F R q1 q2 ⟨⟨m1, m2, m3, m4, m5⟩, _⟩ k
  have l2 : tI τ1 q 1 = (t : Int) := m2
  have l3 : tI τ1 q 2 = (r : Int) := m3
  clear m1 m2 m3 m4 m5
  have h20 := w.1.1
  have h8 := w.1.2.1
  obtain ⟨v8, v10⟩ := vd810 (t := t) (r := r) (h := h) (by omega) (by omega) h3
  have h60 := cP60 w ht
  have st := shU t (by omega)
  have pt := ptU t (by omega)
  show G d 171 38 [vR 220, vR q, none] [AI 10] τ1 Q
  refine t171_38 (fun z => absurd z (by decide)) (fun z => absurd z (by decide)) (fun z => absurd z (by decide)) (fun z => absurd z (by decide)) (fun z => absurd z (by decide)) (fun z => absurd z (by decide)) (fun z => absurd z (by decide)) (fun z => absurd z (by decide)) (fun z => absurd z (by decide)) (fun z => absurd z (by decide)) (fun _ => ?_)
  have tt : (tI τ1 q 2).toNat = r := by rw [l3]; exact Int.toNat_natCast r
  have e8 : wr (tI τ1 (419 + 7 * t) r - 1) = (h : Int) := by
    rw [R.bo ht (by omega), cBu_8, if_pos ⟨rfl, rfl⟩, wr_id (by unfold okI; omega)]
    omega
  have g1 : ∀ j x, tI (uI τ1 (419 + 7 * t) r x) q j = tI τ1 q j := fun j x => by rw [tI_uI, if_neg (by omega)]
  have ep : cP (cBu c t r h) t = cP c t ++ [(cD c 0 0 0, cD c 4 r h)] := by
    show uf (cP c) t _ t = _
    unfold uf
    rw [if_pos rfl]
  have e2 : tI τ1 (416 + 7 * t) 2 = (((cP c t).length + 1 : Nat) : Int) := by
    rw [(R.2.2.2.1 t ht).1, ep, List.length_append]
    rfl
  refine t171_325 (q2 := 222) (n5 := 8) (q8 := 416 + 7 * t) (q11 := 419 + 7 * t) (n13 := 20) (q17 := 416 + 7 * t) (F.sh rfl (by omega) (by omega)) (F.p rfl) (shq F q1 q2) (F.sh rfl (by omega) (by omega)) (by rw [l2]; omega) (by rw [l2, Int.toNat_natCast]; exact F.p pt.1) (F.sh st.1 (by omega) (by omega)) (F.p pt.2.2.2.1) (F.sh st.2.2.2.1 (by omega) (by omega)) (by rw [l3]; omega) (by rw [tt, g1, l2]; omega) (by rw [tt, g1, l2, Int.toNat_natCast]; exact F.p pt.1) (F.sh st.1 (by omega) (by omega)) ?_
  rw [tt, e8]
  have e3 : wr (tI (uI τ1 (419 + 7 * t) r (h : Int)) (416 + 7 * t) 2 - 1) = ((cP c t).length : Int) := by
    rw [tI_uI, if_neg (by omega), e2, wr_id (by unfold okI; omega)]
    omega
  rw [e3]
  refine k _ ((OC.rf.j (by unfold DM; omega)).j (by unfold DM; omega)) F.j.j rfl rfl ?_
  obtain ⟨⟨a1, a2, a3⟩, hI, b5, b7, b6⟩ := R
  have fr2 : Fr τ1 (uI (uI τ1 (419 + 7 * t) r (h : Int)) (416 + 7 * t) 2 ((cP c t).length : Int)) := (Fr.u (by omega)).tr (Fr.u (by omega))
  have hJ := (hI.j v8 (by omega) (x := (h : Int))).mo (R1 := ok c) (D1 := cD c) fun g i k z => ⟨Or.inl (cBu_ok2 hh h3 z).1, (cBu_ok2 hh h3 z).2⟩
  refine ⟨⟨?_, ?_, ?_⟩, fun g i j z => ?_, fun u hu => ?_, fun t1 ht1 => ?_, fun i hi => ?_⟩
  · rw [tI_uI, if_neg (by omega), tI_uI, if_neg (by omega)]; exact a1
  · rw [tI_uI, if_neg (by omega), tI_uI, if_neg (by omega)]; exact a2
  · rw [tI_uI, if_neg (by omega), tI_uI, if_neg (by omega)]; exact a3
  · obtain ⟨y1, y2⟩ := hJ g i j z
    refine ⟨y1, fun h9 => ?_⟩
    have y3 := y2 h9
    have y3 : tI (uI τ1 (419 + 7 * t) r (h : Int)) (aM g i) (kM g j) = cD c g i j := y3
    have hne : ¬ (aM g i = 416 + 7 * t ∧ kM g j = 2) := fun e => by
      have q := aM_c g i
      have i20 : i < 20 := by clear q; unfold vd at y1; omega
      have e5 : g = 5 := by rcases q with q | q | q <;> omega
      have ek : kM g j = j := by rw [e5]; rfl
      have hj : j < 2 := by unfold vd at y1; omega
      omega
    rw [tI_uI, if_neg hne]
    exact y3
  · rw [tI_uI, if_neg (by omega), tI_uI, if_neg (by omega), ← wdl_cg (c := c) (c1 := cBu c t r h) (cBu_o (by decide) (by decide)) (fun k _ => cBu_o (by decide) (by decide))]
    exact b5 u hu
  · have s1 : ∀ a k, (a = 421 + 7 * t1 ∨ a = 422 + 7 * t1) → tI (uI (uI τ1 (419 + 7 * t) r (h : Int)) (416 + 7 * t) 2 ((cP c t).length : Int)) a k = tI τ1 a k := fun a k z => by rw [tI_uI, if_neg (by omega), tI_uI, if_neg (by omega)]
    obtain ⟨d1, d2⟩ := b7 t1 ht1
    by_cases e : t1 = t
    · subst e
      rw [ep] at d2
      refine ⟨by rw [tI_uI, if_pos ⟨rfl, rfl⟩], fun j x hj => ?_⟩
      rw [s1 _ _ (by omega), s1 _ _ (by omega)]
      have hl : j < (cP c t1).length := (List.getElem?_eq_some_iff.mp hj).1
      exact d2 j x (by rw [List.getElem?_append_left hl]; exact hj)
    · have ep2 : cP (cBu c t r h) t1 = cP c t1 := by
        show uf (cP c) t _ t1 = _
        unfold uf
        rw [if_neg e]
      rw [ep2] at d1 d2
      refine ⟨by rw [tI_uI, if_neg (by omega), tI_uI, if_neg (by omega)]; exact d1, fun j x hj => ?_⟩
      rw [s1 _ _ (by omega), s1 _ _ (by omega)]
      exact d2 j x hj
  · rw [tP_uI, tP_uI]
    obtain ⟨y1, y2, y3⟩ := b6 i hi
    exact ⟨y1.mo fun _ _ z => z.fr fr2, y2.mo fun _ _ z => z.fr fr2, y3.mo fun _ _ z => z.fr fr2⟩
/-- the model holds what was bought -/
theorem RM.bu {τ τ1 : T2} (R : RM τ c) (F : FX2 τ) (w : WF c) (ht : t < cn c 1) (hr : r < cn c 0) (hh : cD c 8 t r = (h : Int)) (h3 : h < 3) (o : OC (fun a k => (a = 421 + 7 * t ∧ k = (cP c t).length) ∨ (a = 422 + 7 * t ∧ k = (cP c t).length) ∨ (a = 416 + 7 * t ∧ k = 2) ∨ (a = 419 + 7 * t ∧ k = r)) τ τ1) (hP : tP τ1 = tP τ) (e1 : tI τ1 (421 + 7 * t) (cP c t).length = cD c 0 0 0) (e2 : tI τ1 (422 + 7 * t) (cP c t).length = cD c 4 r h) (e3 : tI τ1 (416 + 7 * t) 2 = (((cP c t).length + 1 : Nat) : Int)) (e4 : tI τ1 (419 + 7 * t) r = (h : Int) + 1) : RM τ1 (cBu c t r h) := by
  obtain ⟨⟨a1, a2, a3⟩, hI, b5, b7, b6⟩ := R
  have N := F.1
  have h8 := w.1.2.1
  have h20 := w.1.1
  obtain ⟨v8, v10⟩ := vd810 (t := t) (r := r) (h := h) (by omega) (by omega) h3
  have fr : Fr τ τ1 := o.fr fun a k z => by omega
  have sm : ∀ a k, a < 473 → ¬ ((a = 421 + 7 * t ∧ k = (cP c t).length) ∨ (a = 422 + 7 * t ∧ k = (cP c t).length) ∨ (a = 416 + 7 * t ∧ k = 2) ∨ (a = 419 + 7 * t ∧ k = r)) → tI τ1 a k = tI τ a k := fun a k h1 h2 => (o.2.2.2 a k (by omega) h2).1
  have ep : cP (cBu c t r h) t = cP c t ++ [(cD c 0 0 0, cD c 4 r h)] := by
    show uf (cP c) t _ t = _
    unfold uf
    rw [if_pos rfl]
  refine ⟨⟨?_, ?_, ?_⟩, fun g i j z => ?_, fun u hu => ?_, fun t1 ht1 => ?_, fun i hi => ?_⟩
  · rw [sm _ _ (by omega) (by omega)]; exact a1
  · rw [sm _ _ (by omega) (by omega)]; exact a2
  · rw [sm _ _ (by omega) (by omega)]; exact a3
  · rcases cBu_ok hh h3 z with z1 | z1
    · obtain ⟨y1, y2⟩ := hI g i j z1
      refine ⟨y1, fun h9 => ?_⟩
      by_cases e : g = 8 ∧ i = t ∧ j = r
      · obtain ⟨x1, x2, x3⟩ := e
        subst x1 x2 x3
        rw [cBu_8, if_pos ⟨rfl, rfl⟩]
        exact e4
      · rw [cBu_D, if_neg e, if_neg (by omega), ← y2 h9]
        refine sm _ _ (by have := (vd_M y1 h9).2; omega) (fun z2 => ?_)
        have i20 : i < 20 := by clear z2; unfold vd at y1; omega
        have q := aM_c g i
        rcases z2 with z2 | z2 | z2 | z2
        · rcases q with q | q | q <;> omega
        · rcases q with q | q | q <;> omega
        · have e5 : g = 5 := by rcases q with q | q | q <;> omega
          have ek : kM g j = j := by rw [e5]; rfl
          have hj : j < 2 := by unfold vd at y1; omega
          omega
        · have e5 : g = 8 ∧ i = t := by rcases q with q | q | q <;> omega
          have ek : kM g j = j := by rw [e5.1]; rfl
          exact e ⟨e5.1, e5.2, by omega⟩
    · obtain ⟨x1, x2, x3⟩ := z1
      subst x1 x2 x3
      exact ⟨v10, fun h9 => by omega⟩
  · rw [sm _ _ (by omega) (by omega), wdl_cg (c := c) (c1 := cBu c t r h) (cBu_o (by decide) (by decide)) (fun k _ => cBu_o (by decide) (by decide))]
    exact b5 u hu
  · have ht1' : t1 < cn c 1 := ht1
    obtain ⟨d1, d2⟩ := b7 t1 ht1
    by_cases e : t1 = t
    · subst e
      rw [ep]
      refine ⟨by rw [e3, List.length_append]; rfl, fun j x hj => ?_⟩
      by_cases hl : j < (cP c t1).length
      · rw [List.getElem?_append_left hl] at hj
        rw [sm _ _ (by omega) (by omega), sm _ _ (by omega) (by omega)]
        exact d2 j x hj
      · rw [List.getElem?_append_right (by omega)] at hj
        have hj0 : j - (cP c t1).length = 0 := by
          have := (List.getElem?_eq_some_iff.mp hj).1
          simp only [List.length_cons, List.length_nil] at this
          omega
        rw [hj0] at hj
        obtain rfl := Option.some.inj hj
        rw [show j = (cP c t1).length by omega]
        exact ⟨e1, e2⟩
    · have ep2 : cP (cBu c t r h) t1 = cP c t1 := by
        show uf (cP c) t _ t1 = _
        unfold uf
        rw [if_neg e]
      rw [ep2]
      refine ⟨by rw [sm _ _ (by omega) (by omega)]; exact d1, fun j x hj => ?_⟩
      rw [sm _ _ (by omega) (by omega), sm _ _ (by omega) (by omega)]
      exact d2 j x hj
  · rw [hP]
    obtain ⟨y1, y2, y3⟩ := b6 i hi
    exact ⟨y1.mo fun _ _ z => z.fr fr, y2.mo fun _ _ z => z.fr fr, y3.mo fun _ _ z => z.fr fr⟩
end BUC
