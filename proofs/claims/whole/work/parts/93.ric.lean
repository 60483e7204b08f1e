/-! riddle: both sides -/
def clS (S : HSx) : HSx := (S.1, S.2.1, [], S.2.2.2)
theorem WS.cl {S : HSx} (w : WS S) : WS (clS S) := ⟨w.1, Nat.zero_le _, fun x hx => (by cases hx), w.2.2.2.1, w.2.2.2.2⟩
def sp_riddle (kd rd n : Int) (S : HSx) : Int × HSx := if (0 ≤ n ∧ n ≤ ((sTp S).length : Int)) ∧ (0 ≤ kd ∧ kd ≤ 2) ∧ 0 ≤ rd ∧ rd ≤ 5 then (if oneW (byt (sTp S)) n.toNat = true then (if kd = 2 ∧ ¬ lasR S.1 = -1 then (-1, rfS (clS S) 9) else if cn S.1 0 < 20 then ((cn S.1 0 : Int), acS (clS S) (cRi S.1 kd rd (tkW (byt (sTp S)) n.toNat 0))) else (-1, rfS (clS S) 3)) else (-1, rfS (clS S) 2)) else (-1, rfS S 2)
theorem oneW_w {f : Nat → Int} {n : Nat} (h : oneW f n = true) : (tkW f n 0).length = tkT f n 0 - tkF f n 0 ∧ 1 ≤ (tkW f n 0).length ∧ (tkW f n 0).length ≤ 12 ∧ (∀ x ∈ tkW f n 0, 97 ≤ x ∧ x ≤ 122) ∧ tkF f n 0 + (tkW f n 0).length = tkT f n 0 ∧ tkT f n 0 ≤ n ∧ (∀ j, j < (tkW f n 0).length → (tkW f n 0).getD j 0 = f (tkF f n 0 + j)) ∧ ∀ j, j < (tkW f n 0).length → isL (f (tkF f n 0 + j)) = true := by
  have hs := (of_decide_eq_true h).1
  have len : (tkW f n 0).length = tkT f n 0 - tkF f n 0 := by unfold tkW; simp
  have lt : tkF f n 0 < n := by
    by_cases q : tkF f n 0 < n
    · exact q
    · have := (tkT_E q).2; omega
  have hl : isL (f (tkF f n 0)) = true := by
    cases e : isL (f (tkF f n 0)) with
    | true => rfl
    | false =>
      cases e1 : isD (f (tkF f n 0)) with
      | true => have := (tkT_D lt e e1).2.2.2.1; omega
      | false =>
        have := (tkT_G lt e e1).2
        split at this <;> omega
  obtain ⟨T1, T2, T3, T4, T5⟩ := tkT_L lt hl
  have T6 := T5.mp hs
  have ge : ∀ j, j < (tkW f n 0).length → (tkW f n 0).getD j 0 = f (tkF f n 0 + j) := fun j hj => by
    unfold tkW
    exact rm_get (fun j => f (tkF f n 0 + j)) (by omega)
  have li : ∀ j, j < (tkW f n 0).length → isL (f (tkF f n 0 + j)) = true := fun j hj => spp_in (p := isL) (n := n) (k := tkF f n 0) (by omega) (by rw [← T1]; omega)
  refine ⟨len, by omega, by omega, fun x hx => ?_, by omega, T3, ge, li⟩
  obtain ⟨j, hj, e⟩ := List.getElem_of_mem hx
  have h1 := ge j hj
  rw [List.getD_eq_getElem?_getD, List.getElem?_eq_getElem hj, e] at h1
  have h1 : x = f (tkF f n 0 + j) := h1
  rw [h1]
  exact isL_i (li j hj)
theorem ws_rid {S : HSx} (w : WS S) {kd rd n : Int} : WS (sp_riddle kd rd n S).2 := by
  unfold sp_riddle
  split
  · rename_i h
    split
    · rename_i h1
      split
      · exact w.cl.rfs 9
      · split
        · rename_i h2
          obtain ⟨a1, a2, a3, a4, -⟩ := oneW_w h1
          exact w.cl.act (wf_rid (w.1 _ (by simp)) h2 h.2.1 h.2.2 ⟨a2, a3⟩ a4)
        · exact w.cl.rfs 3
    · exact w.cl.rfs 2
  · exact w.rfs 2
theorem plR {r g i k : Nat} (h : ¬ (i = r ∧ 1 ≤ g ∧ g ≤ 4)) : (r < 20 → aC g i ≠ 92 + 4 * r ∧ aC g i ≠ 93 + 4 * r) ∧ aC g i ≠ 67 ∧ (aC g i = 64 → kC g i k = 9) := by
  have q1 := aC_c g i
  have q2 := plK (k := k) (g := g) (i := i)
  refine ⟨fun hr => ?_, q2.1, q2.2.2⟩
  clear q2
  rcases q1 with q | q | q | q | q <;> omega
/-- the class holds a riddle more -/
theorem RC.ri {τ τ1 : T2} {c : CO} {r : Nat} {kd rd : Int} {w : List Int} (R : RC τ c) (wf : WF c) (F : FX2 τ) (hr : cn c 0 = r) (h20 : r < 20) (hrd : 0 ≤ rd ∧ rd ≤ 5) (hw : w.length ≤ 12) (o : OC (fun a k => (a = 92 + 4 * r ∧ ((k ≤ 6 ∧ k ≠ 2) ∨ (9 ≤ k ∧ k ≤ 11))) ∨ a = 93 + 4 * r) τ τ1) (hP : ∀ a, a ≠ 92 + 4 * r → tP τ1 a = tP τ a) (e0 : tI τ1 (92 + 4 * r) 0 = kd) (e1 : tI τ1 (92 + 4 * r) 1 = rd) (e3 : tI τ1 (92 + 4 * r) 3 = (w.length : Int)) (e4 : tI τ1 (92 + 4 * r) 4 = 0) (e5 : tI τ1 (92 + 4 * r) 5 = 0) (e6 : tI τ1 (92 + 4 * r) 6 = 0) (p9 : tP τ1 (92 + 4 * r) 9 = none) (p10 : tP τ1 (92 + 4 * r) 10 = none) (p11 : tP τ1 (92 + 4 * r) 11 = none) (hl : Ls τ1 (93 + 4 * r) w) : RC (uI (uI τ1 64 3 ((r + 1 : Nat) : Int)) 67 rd.toNat ((enc (ins (rdm c rd.toNat) r) 20 : Nat) : Int)) (cRi c kd rd w) := by
  obtain ⟨⟨a1, a2, a3⟩, hI, h5, h6⟩ := R
  have N := F.1
  have sm : ∀ a k, a < 473 → ¬ ((a = 92 + 4 * r ∧ ((k ≤ 6 ∧ k ≠ 2) ∨ (9 ≤ k ∧ k ≤ 11))) ∨ a = 93 + 4 * r) → ¬ (a = 64 ∧ k = 3) → ¬ (a = 67 ∧ k = rd.toNat) → tI (uI (uI τ1 64 3 ((r + 1 : Nat) : Int)) 67 rd.toNat ((enc (ins (rdm c rd.toNat) r) 20 : Nat) : Int)) a k = tI τ a k := fun a k h1 h2 h3 h4 => by
    rw [tI_uI, if_neg h4, tI_uI, if_neg h3]; exact (o.2.2.2 a k (by omega) h2).1
  have fr : Fr τ (uI (uI τ1 64 3 ((r + 1 : Nat) : Int)) 67 rd.toNat ((enc (ins (rdm c rd.toNat) r) 20 : Nat) : Int)) := ((o.fr fun a k z => by omega).tr (Fr.u (by omega))).tr (Fr.u (by omega))
  refine ⟨⟨?_, ?_, ?_⟩, fun g i k z => ?_, fun a ha => ?_, fun i hi => ?_⟩
  · rw [tI_uI, if_neg (by omega), tI_uI, if_pos ⟨rfl, rfl⟩, cRi_n.1, hr]
  · rw [sm 64 6 (by omega) (by omega) (by omega) (by omega)]; exact a2
  · rw [sm 70 2 (by omega) (by omega) (by omega) (by omega)]; exact a3
  · rcases cRi_ok z with ⟨z1, z2⟩ | ⟨z1, z2⟩
    · obtain ⟨v1, v2⟩ := hI g i k z1
      refine ⟨v1, ?_⟩
      rw [hr] at z2
      obtain ⟨y1, y2, y3⟩ := plR (r := r) (k := k) (g := g) (i := i) (fun q => z2 q)
      have y4 := (vd_C v1).2
      rw [cRi_o (by rw [hr]; omega), sm _ _ (by omega) (by omega) (by omega) (by omega)]
      exact v2
    · rw [hr] at z1
      subst z1
      have v : vd g i k := by
        rcases z2 with ⟨z2, z3⟩ | ⟨z2, z3⟩
        · exact Or.inr (Or.inl ⟨z2, by omega, z3⟩)
        · exact Or.inr (Or.inr (Or.inl ⟨z2, by omega, by omega⟩))
      refine ⟨v, ?_⟩
      have wv : ∀ a k1, a = aC g i → k1 = kC g i k → a ≠ 64 → a ≠ 67 → tI (uI (uI τ1 64 3 ((i + 1 : Nat) : Int)) 67 rd.toNat ((enc (ins (rdm c rd.toNat) i) 20 : Nat) : Int)) (aC g i) (kC g i k) = tI τ1 a k1 := fun a k1 h1 h2 h3 h4 => by rw [← h1, ← h2, tI_uI, if_neg (by omega), tI_uI, if_neg (by omega)]
      rcases z2 with ⟨z2, z3⟩ | ⟨z2, z3⟩
      · subst z2
        rw [← hr, cRi_1, hr]
        by_cases k0 : k = 0
        · subst k0
          rw [wv (92 + 4 * i) 0 rfl rfl (by omega) (by omega), if_pos rfl]; exact e0
        · by_cases k1 : k = 1
          · subst k1
            rw [wv (92 + 4 * i) 1 rfl rfl (by omega) (by omega), if_neg k0, if_pos rfl]; exact e1
          · by_cases k2 : k = 2
            · subst k2
              rw [wv (92 + 4 * i) 3 rfl rfl (by omega) (by omega), if_neg k0, if_neg k1, if_pos rfl]; exact e3
            · rw [if_neg k0, if_neg k1, if_neg k2]
              by_cases k3 : k = 3
              · subst k3
                rw [wv (92 + 4 * i) 4 rfl rfl (by omega) (by omega)]; exact e4
              · by_cases k4 : k = 4
                · subst k4
                  rw [wv (92 + 4 * i) 5 rfl rfl (by omega) (by omega)]; exact e5
                · obtain rfl : k = 5 := by omega
                  rw [wv (92 + 4 * i) 6 rfl rfl (by omega) (by omega)]; exact e6
      · subst z2
        rw [← hr, cRi_2, hr, wv (93 + 4 * i) k rfl rfl (by omega) (by omega)]
        exact hl k z3
  · rw [cRi_rd, hr]
    by_cases e : rd = (a : Int)
    · have ea : rd.toNat = a := by omega
      rw [if_pos e, ea, tI_uI, if_pos ⟨rfl, rfl⟩]
    · rw [if_neg e, sm 67 a (by omega) (by omega) (by omega) (by omega)]
      exact h5 a ha
  · rw [tP_uI, tP_uI]
    rw [cRi_n.1, hr] at hi
    by_cases e : i = r
    · subst e
      have u : ∀ {α : Type} (f : Nat → Option α), uf f (cn c 0) none i = none := fun f => by unfold uf; rw [if_pos hr.symm]
      rw [p9, p10, p11, show cR (cRi c kd rd w) i = none from u (cR c), show cF (cRi c kd rd w) i = none from u (cF c), show cW (cRi c kd rd w) i = none from u (cW c)]
      exact ⟨Or.inl ⟨rfl, rfl⟩, Or.inl ⟨rfl, rfl⟩, Or.inl ⟨rfl, rfl⟩⟩
    · have u : ∀ {α : Type} (f : Nat → Option α), uf f (cn c 0) none i = f i := fun f => by unfold uf; rw [if_neg (by omega)]
      rw [hP _ (by omega), show cR (cRi c kd rd w) i = cR c i from u (cR c), show cF (cRi c kd rd w) i = cF c i from u (cF c), show cW (cRi c kd rd w) i = cW c i from u (cW c)]
      obtain ⟨b1, b2, b3⟩ := h6 i (by omega)
      exact ⟨b1.mo fun _ _ z => z.fr fr, b2.mo fun _ _ z => z.fr fr, b3.mo fun _ _ z => z.fr fr⟩
theorem del_ins {p : Nat → Bool} {r : Nat} (h : p r = false) : del (ins p r) r = p := by
  funext i
  by_cases e : i = r
  · rw [e, del_at, h]
  · rw [del_ne _ e]
    unfold ins
    rw [beq_ne e, Bool.or_false]
theorem uf_none {α : Type} {f : Nat → Option α} {n i : Nat} (h : i < n) : f i = uf f n none i := by
  unfold uf
  rw [if_neg (by omega)]
theorem und_rid_C {τ : T2} {c : CO} {r : Nat} {kd rd : Int} {w : List Int} (h20 : r < 20) (hr : cn c 0 = r) (hrd : 0 ≤ rd ∧ rd ≤ 5) : UndC τ ((1, (r : Int), 0, 0, 0), none) (cRi c kd rd w) c := by
  intro τ1 d Q hd fr F R ⟨⟨m1, m2, m3, m4, m5⟩, m6⟩ k
  have l1 : tI τ1 89 4 = 1 := m1
  have l2 : tI τ1 89 5 = (r : Int) := m2
  refine ⟨fun _ => ?_, fun h => absurd (show 8 ≤ (1 : Int) from h) (by decide)⟩
  have s89 : tS τ1 89 = (1, 5, 0) := F.sh rfl (by omega) (by omega)
  have s64 : tS τ1 64 = (1, 11, 0) := F.sh rfl (by omega) (by omega)
  have sr := F.sh (shR r h20).1 (by omega) (by omega)
  have en : tI τ1 64 3 = ((r + 1 : Nat) : Int) := by rw [R.1.1, cRi_n.1, hr]
  refine t145_0 (q2 := 89) (q6 := 70) (by omega) s64 (F.p rfl) s89 (F.p rfl) (F.sh rfl (by omega) (by omega)) (fun _ => ?_) (fun h => by rw [l1] at h; exact absurd h (by decide))
  rw [l2]
  refine c129 F en (by omega) (fun r1 hr1 e => ?_) (fun e => by omega)
  refine t145_39 (q3 := 66) (n5 := 20) (q8 := 89) s64 (F.p rfl) (F.sh rfl (by omega) (by omega)) (fun _ => by omega) (F.p rfl) s89 (fun _ => ?_) (fun c => absurd c (by decide))
  rw [Int.toNat_natCast, F.p (ptR r h20).1, l1]
  refine t145_57 (fun _ => ?_) (fun c => absurd c (by decide)) (fun c => absurd c (by decide)) (fun c => absurd c (by decide)) (fun c => absurd c (by decide)) (fun c => absurd c (by decide))
  have erd : tI (uI τ1 64 3 (r : Int)) (92 + 4 * r) 1 = rd := by
    rw [tI_uI, if_neg (by omega), R.r1 (r := r) (by rw [cRi_n.1, hr]; omega), ← hr, cRi_1]
    rfl
  have hm : wr (tI τ1 64 3 - 1) = (r : Int) := by rw [en, wr_id (by unfold okI; omega)]; omega
  refine t145_92 (q2 := 67) (n5 := 6) s64 (F.p rfl) sr (F.sh rfl (by omega) (by omega)) (by rw [hm, erd]; omega) ?_
  rw [hm, erd]
  have e67 : tI (uI τ1 64 3 (r : Int)) 67 rd.toNat = ((enc (ins (rdm c rd.toNat) r) 20 : Nat) : Int) := by
    rw [tI_uI, if_neg (by omega), R.2.2.1 rd.toNat (by omega), cRi_rd, if_pos (by omega), hr]
  rw [e67, zdl_enc _ h20, del_ins (decide_eq_false (by omega))]
  refine k _ ((OC.rf.j (by unfold DC; omega)).j (by unfold DC; omega)) F.j.j rfl rfl ?_
  obtain ⟨⟨a1, a2, a3⟩, hI, h5, h6⟩ := R
  have fr2 : Fr τ1 (uI (uI τ1 64 3 (r : Int)) 67 rd.toNat ((enc (rdm c rd.toNat) 20 : Nat) : Int)) := (Fr.u (by omega)).tr (Fr.u (by omega))
  refine ⟨⟨?_, ?_, ?_⟩, fun g i k z => ?_, fun a ha => ?_, fun i hi => ?_⟩
  · rw [tI_uI, if_neg (by omega), tI_uI, if_pos ⟨rfl, rfl⟩, hr]
  · rw [tI_uI, if_neg (by omega), tI_uI, if_neg (by omega)]; exact a2
  · rw [tI_uI, if_neg (by omega), tI_uI, if_neg (by omega)]; exact a3
  · obtain ⟨z1, z2⟩ := cRi_ok2 (kd := kd) (rd := rd) (w := w) z
    obtain ⟨v1, v2⟩ := hI g i k z1
    refine ⟨v1, ?_⟩
    have y := plK (k := k) (g := g) (i := i)
    rw [tI_uI, if_neg (by omega), tI_uI, if_neg (by omega), z2]
    exact v2
  · rw [tI_uI]
    by_cases e : a = rd.toNat
    · rw [if_pos ⟨rfl, e⟩, e]
    · rw [if_neg (fun z => e z.2), tI_uI, if_neg (by omega), h5 a ha, cRi_rd, if_neg (by omega)]
  · rw [tP_uI, tP_uI]
    obtain ⟨b1, b2, b3⟩ := h6 i (by rw [cRi_n.1]; omega)
    rw [show cR (cRi c kd rd w) i = cR c i from (uf_none hi).symm] at b1
    rw [show cF (cRi c kd rd w) i = cF c i from (uf_none hi).symm] at b2
    rw [show cW (cRi c kd rd w) i = cW c i from (uf_none hi).symm] at b3
    exact ⟨b1.mo fun _ _ z => z.fr fr2, b2.mo fun _ _ z => z.fr fr2, b3.mo fun _ _ z => z.fr fr2⟩
theorem und_rid_M {τ : T2} {c : CO} {r : Nat} {kd rd : Int} {w : List Int} (h20 : r < 20) (hr : cn c 0 = r) {p : Option Nat × Option Nat × Option Nat} : UndM τ ((0, 0, 0, 0, 0), p) (cRi c kd rd w) c := by
  intro τ1 d Q q hd fr F R q1 q2 ⟨⟨m1, m2, m3, m4, m5⟩, _⟩ k
  have l1 : tI τ1 q 0 = 0 := m1
  show G d 171 38 [vR 220, vR q, none] [AI 0] τ1 Q
  refine t171_38 (fun _ => ?_) (fun c => absurd c (by decide)) (fun c => absurd c (by decide)) (fun c => absurd c (by decide)) (fun c => absurd c (by decide)) (fun c => absurd c (by decide)) (fun c => absurd c (by decide)) (fun c => absurd c (by decide)) (fun c => absurd c (by decide)) (fun c => absurd c (by decide)) (fun c => absurd c (by decide))
  have en : tI τ1 220 4 = ((r + 1 : Nat) : Int) := by rw [R.1.1, cRi_n.1, hr]
  refine t171_92 (F.sh rfl (by omega) (by omega)) ?_
  rw [en, show wr (((r + 1 : Nat) : Int) - 1) = (r : Int) by rw [wr_id (by unfold okI; omega)]; omega]
  refine k _ (OC.rf.j (by unfold DM; omega)) F.j rfl rfl (R.cnt (by omega) ?_ ?_ ?_ ⟨by rw [cRi_n.1]; omega, Nat.le_of_eq cRi_n.2.1.symm, Nat.le_of_eq cRi_n.2.2.symm⟩ (fun g i k z => cRi_ok2 z) (fun i hi => ⟨uf_none hi, uf_none hi, uf_none hi⟩) (fun u hu => rfl))
  · rw [tI_uI, if_pos ⟨rfl, rfl⟩, hr]
  · rw [tI_uI, if_neg (by omega)]; exact R.1.2.1
  · rw [tI_uI, if_neg (by omega)]; exact R.1.2.2
/-- refused, or done, when a text has been begun -/
theorem CI.bgr {τ τ1 : T2} {S : HSx} (C : CI τ S) (w : WS S) (F : FX2 τ) (F1 : FX2 τ1) (o : OC BGC τ τ1) (h1 : tI τ1 64 1 = 0) {why : Int} (h4 : why ≠ 4) : CI (uI τ1 64 16 why) (rfS (clS S) why) := by
  have N := F.1
  have C0 := C
  obtain ⟨-, -, T, O, h3, -, h5⟩ := C0
  have o2 : OC (fun a k => BGC a k ∨ (a = 64 ∧ k = 16)) τ (uI τ1 64 16 why) := OC.j (P := fun a k => BGC a k ∨ (a = 64 ∧ k = 16)) (o.mo fun a k z => Or.inl z) (Or.inr ⟨rfl, rfl⟩)
  exact C.up w F o2 (fun a k z => by unfold BGC at z; unfold FC DC LGP; omega) ⟨by rw [tI_uI, if_neg (by decide)]; exact h1, fun j hj => by cases hj⟩ (O.oc F o2 (fun a k z => by unfold BGC at z; omega)) (by rw [tI_uI, if_pos ⟨rfl, rfl⟩]) (fun z => absurd z h4) (by rw [(o2.2.2.2 64 17 (by omega) (by unfold BGC; omega)).1]; exact h5)
theorem MI.bgr {τ τ1 : T2} {S : HSx} (C : MI τ S) (w : WS S) (F : FX2 τ) (F1 : FX2 τ1) (o : OC BGM τ τ1) (h1 : tI τ1 220 15 = 0) {why : Int} : MI (uI (uI τ1 220 1 why) 220 2 (-1)) (rfS (clS S) why) := by
  have N := F.1
  have C0 := C
  obtain ⟨-, -, T, O, h3, -, h5⟩ := C0
  have o2 : OC (fun a k => BGM a k ∨ (a = 220 ∧ (k = 1 ∨ k = 2))) τ (uI (uI τ1 220 1 why) 220 2 (-1)) := OC.j (P := fun a k => BGM a k ∨ (a = 220 ∧ (k = 1 ∨ k = 2))) (OC.j (P := fun a k => BGM a k ∨ (a = 220 ∧ (k = 1 ∨ k = 2))) (o.mo fun a k z => Or.inl z) (Or.inr ⟨rfl, Or.inl rfl⟩)) (Or.inr ⟨rfl, Or.inr rfl⟩)
  exact C.up w F o2 (fun a k z => by unfold BGM at z; unfold FM DM AMP; omega) ⟨by rw [tI_uI, if_neg (by decide), tI_uI, if_neg (by decide)]; exact h1, fun j hj => by cases hj⟩ (O.oc F o2 (fun a k z => by unfold BGM at z; omega)) (by rw [tI_uI, if_neg (by decide), tI_uI, if_pos ⟨rfl, rfl⟩]) (by rw [tI_uI, if_pos ⟨rfl, rfl⟩]) (by rw [(o2.2.2.2 220 3 (by omega) (by unfold BGM; omega)).1]; exact h5)
theorem BGC_kp {τ τ1 : T2} (o : OC BGC τ τ1) : Kp 64 220 τ τ1 := o.kp (fun a k z => by unfold BGC at z; omega)
theorem BGM_kp {τ τ1 : T2} (o : OC BGM τ τ1) : Kp 220 472 τ τ1 := o.kp (fun a k z => by unfold BGM at z; omega)
theorem EC.bgr {τ τ1 : T2} {S : HSx} (C : CI τ S) (w : WS S) (F : FX2 τ) (F1 : FX2 τ1) (o : OC BGC τ τ1) (hn : tN τ1 = tN τ) (hz : tZ τ1 = tZ τ) (h1 : tI τ1 64 1 = 0) {why : Int} (h4 : why ≠ 4) : EC τ (uI τ1 64 16 why) (rfS (clS S) why) := ⟨(BGC_kp o).j (by omega) (by omega), F1.j, by show tN τ1 ≤ _; omega, by show tZ τ1 ≤ _; omega, C.bgr w F F1 o h1 h4⟩
theorem EM.bgr {τ τ1 : T2} {S : HSx} (C : MI τ S) (w : WS S) (F : FX2 τ) (F1 : FX2 τ1) (o : OC BGM τ τ1) (hn : tN τ1 = tN τ) (hz : tZ τ1 = tZ τ) (h1 : tI τ1 220 15 = 0) {why : Int} : EM τ (uI (uI τ1 220 1 why) 220 2 (-1)) (rfS (clS S) why) := ⟨((BGM_kp o).j (by omega) (by omega)).j (by omega) (by omega), F1.j.j, by show tN τ1 ≤ _; omega, by show tZ τ1 ≤ _; omega, C.bgr w F F1 o h1⟩
theorem cc93 {kd rd x : Int} : CCl 93 [vR 64, vI kd, vI rd, vI x, none, none] (sp_riddle kd rd x) := fun d τ S Q hd F C w k => by
  have s0 : ∀ τ : T2, FX2 τ → tS τ 64 = (1, 11, 0) := fun τ F => F.sh rfl (by omega) (by omega)
  have s73 : ∀ τ : T2, FX2 τ → tS τ 73 = (1, 9, 0) := fun τ F => F.sh rfl (by omega) (by omega)
  have w1 := w.1 S.1 (by simp)
  have C0 := C
  obtain ⟨R, ⟨E, L, hc⟩, T, O, h3, h4, h5⟩ := C0
  have h300 := w.2.1
  have hTp : (sTp S).length = S.2.2.1.length := rfl
  have bad : ¬ ((0 ≤ x ∧ x ≤ ((sTp S).length : Int)) ∧ (0 ≤ kd ∧ kd ≤ 2) ∧ 0 ≤ rd ∧ rd ≤ 5) → G (d - 1) 126 0 [vR 64, vI 2] [] τ (KC d 93 41 44 [none, none, none, none, none, none] [] Q) := fun h => by
    unfold sp_riddle at k
    rw [if_neg h] at k
    exact c126 F (t93_44 (k _ (EC.rfs F C w (by decide))))
  refine t93_0 (by omega) (s0 τ F) (fun c _ => bad (by omega)) (fun _ c => absurd rfl c) (fun _ c _ => bad (by omega)) (fun _ _ c => absurd rfl c) (fun _ _ c _ => bad (by omega)) (fun _ _ _ c => absurd rfl c) (fun _ _ _ c _ => bad (by omega)) (fun _ _ _ _ c => absurd rfl c) (fun _ _ _ _ c => absurd c (by decide)) (fun a1 a2 a3 a4 _ => ?_)
  refine c132 F T.1 h300 (fun n hn e => ?_) (fun c => t93_36 (by omega) (s0 τ F) (fun c => absurd rfl c) (fun _ => bad (by omega)))
  subst e
  unfold sp_riddle at k
  rw [if_pos (by omega), Int.toNat_natCast] at k
  refine t93_36 (by omega) (s0 τ F) (fun _ => ?_) (fun c => absurd c (by decide))
  refine c138 F T h300 hn (by omega) fun τ1 o1 F1 n1 z1 X1 K1 e1 _ _ _ _ => ?_
  have N := F.1
  have N1 := F1.1
  have R1 : RC τ1 S.1 := R.oc w1 F o1 (fun a k z => by unfold BGC at z; unfold DC; omega)
  have L1 : LgC τ1 E := L.oc F o1 (fun a k z => by unfold BGC at z; omega)
  have O1 : OuC τ1 (sOu S) := O.oc F o1 (fun a k z => by unfold BGC at z; omega)
  have q17 : tI τ1 64 17 = sFa S := by rw [(o1.2.2.2 64 17 (by omega) (by unfold BGC; omega)).1]; exact h5
  refine t93_50 (q2 := 73) (by omega) (s0 _ F1) (F1.p rfl) (s73 _ F1) (c71 F1 X1 K1 (fun hw => ?_) (fun hw => ?_))
  · rw [if_pos hw] at k
    obtain ⟨r, hr⟩ : ∃ r, cn S.1 0 = r := ⟨_, rfl⟩
    have en : tI τ1 64 3 = (r : Int) := by rw [R1.1.1, hr]
    have h20 := w1.1.1
    rw [hr] at h20
    obtain ⟨g1, g2, g3, g4, g5, g6, g7, g8⟩ := oneW_w hw
    have kf := K1.1
    have kt := K1.2.1
    have p65 : tP τ1 64 0 = some 65 := F1.p rfl
    have mk : ¬ (kd = 2 ∧ ¬ lasR S.1 = -1) → r < 20 → G (d - 1) 32 0 [vR (92 + 4 * r), vI kd, vI rd, vQ (tP τ1 64 0), vI (tI τ1 73 4), vI (tI τ1 73 5), none] [] τ1 (KC d 93 134 137 [vR 64, none, vI rd, none, none, vI (tI τ1 64 3)] [] Q) := fun hl hr20 => by
      rw [if_neg hl, hr, if_pos hr20] at k
      rw [p65, kf, kt, ← g5, en]
      refine c32 F1 hr20 g3 (by omega) (fun j hj => ?_) g4 fun τ2 o2 F2 n2 z2 P2 e0 e1' e3 e4 e5 e6 p9 p10 p11 hl2 => ?_
      · rw [X1.2.2.2 _ (by omega), g7 j hj]
      · have en2 : tI τ2 64 3 = (r : Int) := by rw [(o2.2.2.2 64 3 (by omega) (by omega)).1]; exact en
        have q67 : tI (uI τ2 64 3 ((r + 1 : Nat) : Int)) 67 rd.toNat = ((enc (rdm S.1 rd.toNat) 20 : Nat) : Int) := by
          rw [tI_uI, if_neg (by omega), (o2.2.2.2 67 rd.toNat (by omega) (by omega)).1]
          exact R1.2.2.1 _ (by omega)
        refine t93_137 (q2 := 67) (n4 := 6) (by omega) (s0 _ F2) (F2.p rfl) (F2.sh rfl (by omega) (by omega)) (by omega) ?_
        rw [en2, wr_nat (by omega), q67, zor_enc _ hr20]
        have R2 := RC.ri (kd := kd) (rd := rd) R1 w1 F1 hr hr20 ⟨a3, by omega⟩ g3 o2 P2 e0 e1' e3 e4 e5 e6 p9 p10 p11 hl2
        have o3 : OC (fun a k => (92 + 4 * r ≤ a ∧ a ≤ 93 + 4 * r) ∨ (a = 64 ∧ k = 3) ∨ a = 67) τ1 (uI (uI τ2 64 3 ((r + 1 : Nat) : Int)) 67 rd.toNat ((enc (ins (rdm S.1 rd.toNat) r) 20 : Nat) : Int)) := OC.j (P := fun a k => (92 + 4 * r ≤ a ∧ a ≤ 93 + 4 * r) ∨ (a = 64 ∧ k = 3) ∨ a = 67) (OC.j (P := fun a k => (92 + 4 * r ≤ a ∧ a ≤ 93 + 4 * r) ∨ (a = 64 ∧ k = 3) ∨ a = 67) (o2.mo fun a k z => by omega) (by omega)) (by omega)
        have F3 : FX2 (uI (uI τ2 64 3 ((r + 1 : Nat) : Int)) 67 rd.toNat ((enc (ins (rdm S.1 rd.toNat) r) 20 : Nat) : Int)) := F2.j.j
        have n3 : tN (uI (uI τ2 64 3 ((r + 1 : Nat) : Int)) 67 rd.toNat ((enc (ins (rdm S.1 rd.toNat) r) 20 : Nat) : Int)) = tN τ1 := n2
        have z3 : tZ (uI (uI τ2 64 3 ((r + 1 : Nat) : Int)) 67 rd.toNat ((enc (ins (rdm S.1 rd.toNat) r) 20 : Nat) : Int)) = tZ τ1 := z2
        generalize (uI (uI τ2 64 3 ((r + 1 : Nat) : Int)) 67 rd.toNat ((enc (ins (rdm S.1 rd.toNat) r) 20 : Nat) : Int)) = τ3 at R2 o3 F3 n3 z3
        have w2 := wf_rid w1 (by omega) ⟨a1, a2⟩ ⟨a3, by omega⟩ ⟨g2, g3⟩ g4 (kd := kd) (rd := rd)
        have T1 : TpC τ1 [] := ⟨e1, fun j hj => by cases hj⟩
        refine c127 F3 (L1.oc F1 o3 (fun a k z => by omega)) (by omega) fun τ4 o4 F4 n4 z4 h0 hl4 => t93_170 ?_
        obtain ⟨T4, O4, h54⟩ := acc_C F3 o4 (T1.oc F1 o3 (fun a k z => by omega)) (O1.oc F1 o3 (fun a k z => by omega)) ((o3.2.2.2 64 17 (by omega) (by omega)).1.trans q17)
        exact k _ ⟨((BGC_kp o1).tr (o3.kp (fun a k z => by omega))).tr (ACP_kp o4), F4, by omega, by omega, CI.mkA (R2.acc w2 F3 o4) hl4 (und_rid_C hr20 hr ⟨a3, by omega⟩) hc (((o1.fr fun a k z => by unfold BGC at z; omega).tr (o3.fr fun a k z => by omega)).tr (o4.fr fun a k z => by unfold ACP LGP at z; omega)) T4 O4 h0 h54⟩
    have full : ¬ (kd = 2 ∧ ¬ lasR S.1 = -1) → 20 ≤ r → G (d - 1) 126 0 [vR 64, vI 3] [] τ1 (KC d 93 97 100 [none, none, none, none, none, none] [] Q) := fun hl hr20 => by
      rw [if_neg hl, hr, if_neg (by omega)] at k
      exact c126 F1 (t93_100 (k _ (EC.bgr C w F F1 o1 n1 z1 e1 (by decide))))
    have sq : ∀ q, (r < 20 → q = 92 + 4 * r) → (20 ≤ r → q = 92) → tS τ1 q = (1, 6, 0) ∧ (r < 20 → tP τ1 66 r = some q) := fun q h1 h2 => by
      by_cases h : r < 20
      · rw [h1 h]; exact ⟨F1.sh (shR r h).1 (by omega) (by omega), fun _ => F1.p (ptR r h).1⟩
      · rw [h2 (by omega)]; exact ⟨F1.sh rfl (by omega) (by omega), fun c => absurd c h⟩
    obtain ⟨q, hq1, hq2⟩ : ∃ q, (r < 20 → q = 92 + 4 * r) ∧ (20 ≤ r → q = 92) := by
      by_cases h : r < 20
      · exact ⟨92 + 4 * r, fun _ => rfl, fun c => by omega⟩
      · exact ⟨92, fun c => absurd c h, fun _ => rfl⟩
    obtain ⟨sq1, sq2⟩ := sq q hq1 hq2
    refine t93_57 (q5 := 66) (n7 := 20) (q10 := q) (q12 := 73) (by omega) (s0 _ F1) (F1.p rfl) (F1.sh rfl (by omega) (by omega)) (fun _ _ c => by rw [en] at c ⊢; omega) (fun _ _ c => by rw [en] at c ⊢; rw [Int.toNat_natCast]; exact sq2 (by omega)) (F1.p rfl) (s73 _ F1) sq1 (fun _ c1 c2 => ?_) (fun _ c1 c2 => ?_) (fun _ c1 => ?_) (fun c => absurd c (by decide))
    · rw [en] at c2
      rw [hq1 (by omega)]
      exact mk (fun z => c1 z.1) (by omega)
    · rw [en] at c2
      exact full (fun z => c1 z.1) (by omega)
    · refine c134 F1 R1 w1 ?_
      refine t93_75 (q4 := 66) (n6 := 20) (q9 := q) (q11 := 73) (by omega) (s0 _ F1) (F1.p rfl) (F1.sh rfl (by omega) (by omega)) (fun _ c => by rw [en] at c ⊢; omega) (fun _ c => by rw [en] at c ⊢; rw [Int.toNat_natCast]; exact sq2 (by omega)) (F1.p rfl) (s73 _ F1) sq1 (fun c2 c3 => ?_) (fun c2 c3 => ?_) (fun c2 => ?_)
      · rw [en] at c3
        rw [hq1 (by omega)]
        exact mk (fun z => z.2 c2) (by omega)
      · rw [en] at c3
        exact full (fun z => z.2 c2) (by omega)
      · rw [if_pos ⟨c1, c2⟩] at k
        exact c126 F1 (t93_85 (k _ (EC.bgr C w F F1 o1 n1 z1 e1 (by decide))))
  · rw [if_neg (by rw [hw]; decide)] at k
    exact t93_57 (q5 := 66) (n7 := 20) (q10 := 92) (q12 := 73) (by omega) (s0 _ F1) (F1.p rfl) (F1.sh rfl (by omega) (by omega)) (fun c => absurd rfl c) (fun c => absurd rfl c) (F1.p rfl) (s73 _ F1) (F1.sh rfl (by omega) (by omega)) (fun c => absurd rfl c) (fun c => absurd rfl c) (fun c => absurd rfl c) (fun _ => c126 F1 (t93_65 (k _ (EC.bgr C w F F1 o1 n1 z1 e1 (by decide)))))
