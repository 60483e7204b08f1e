/-! buy of the model -/
theorem mc233 {x y : Int} : MCl 233 [vR 220, vI x, vI y, none, none, none] (sp_buy x y) := fun d τ S Q hd F C w k => by
  have s0 : ∀ τ : T2, FX2 τ → tS τ 220 = (1, 21, 0) := fun τ F => F.sh rfl (by omega) (by omega)
  have w1 := w.1 S.1 (by simp)
  refine t233_0 (by omega) (s0 τ F) ?_
  have k := fun τ2 h => k τ2 (EM.bef (Kp.rf.j (a := 220) (k := 0) (x := 0) (by omega) (by omega)) rfl rfl h)
  have C := C.t0 w F (x := 0)
  have F : FX2 (uI τ 220 0 0) := F.j
  generalize uI τ 220 0 0 = τ at *
  have h8 := w1.1.2.1
  have h20 := w1.1.1
  have R := C.1
  have bad : ¬ ((0 ≤ x ∧ x < (cn S.1 1 : Int)) ∧ 0 ≤ y ∧ y < (cn S.1 0 : Int)) → G (d - 1) 163 0 [vR 220, vI 1] [] τ (KC d 233 23 26 [none, none, none, none, none, none] [] Q) := fun h => by
    unfold sp_buy at k
    rw [if_neg h] at k
    exact m163 F (t233_26 (k _ (EM.rfs F C w)))
  refine m230 F R.1.2.1 (fun t ht e => ?_) (fun e => t233_10 (by omega) (s0 τ F) (fun _ => bad (by omega)) (fun q => absurd rfl q))
  subst e
  refine t233_10 (by omega) (s0 τ F) (fun q => absurd q (by decide)) (fun _ => m207 F R.1.1 (fun r hr e => ?_) (fun e => t233_18 (q3 := 222) (n5 := 8) (q8 := 416) (by omega) (s0 τ F) (F.p rfl) (F.sh rfl (by omega) (by omega)) (fun q => absurd rfl q) (fun q => absurd rfl q) (F.sh rfl (by omega) (by omega)) (fun q => absurd rfl q) (fun _ => bad (by omega))))
  subst e
  unfold sp_buy at k
  rw [if_pos (by omega), Int.toNat_natCast, Int.toNat_natCast] at k
  have N := F.1
  have st := shU t (by omega)
  have pt := ptU t (by omega)
  have sr := shM r (by omega)
  have pr := ptM r (by omega)
  have s1 : ∀ τ : T2, FX2 τ → tS τ (416 + 7 * t) = (1, 19, 0) := fun τ F => F.sh st.1 (by omega) (by omega)
  have hb := ((w1.2.2.1 t ht).2.2 r (by omega)).2.2.1
  have h5b := (w1.2.1 r hr).2.2.2.2.2.1
  obtain ⟨h, hh⟩ : ∃ h : Nat, cD S.1 8 t r = (h : Int) := ⟨(cD S.1 8 t r).toNat, by omega⟩
  rw [hh, Int.toNat_natCast] at k
  refine t233_18 (q3 := 222) (n5 := 8) (q8 := 416 + 7 * t) (by omega) (s0 τ F) (F.p rfl) (F.sh rfl (by omega) (by omega)) (fun _ => by omega) (fun _ => by rw [Int.toNat_natCast]; exact F.p pt.1) (s1 _ F) (fun _ => ?_) (fun q => absurd q (by decide))
  rw [R.now]
  refine m157' F R w1 ht (t233_44 (r3 := some (416 + 7 * t)) (by omega) (s0 _ F) (s0 _ F) ?_)
  rw [R.now]
  refine m187 F R w1 hr (by omega) fun τ2 o2 F2 n2 z2 => ?_
  have k := fun τ3 h => k τ3 (EM.bef (o2.kp (fun a k z => by omega)) n2 z2 h)
  have C2 : MI τ2 S := C.oc w F o2 (fun a k z => ⟨by unfold FM DM AMP; omega, by omega, by omega, by omega⟩)
  have C0 := C2
  obtain ⟨R2, ⟨E, L, hc⟩, T, O, h3, h4, h5⟩ := C0
  have N2 := F2.1
  have e6 : tI τ2 (417 + 7 * t) r = cD S.1 6 t r := R2.sv ht (by omega)
  have e8 : tI τ2 (419 + 7 * t) r = (h : Int) := by rw [R2.bo ht (by omega), hh]
  have eh : tI τ2 (336 + 4 * r) 5 = cD S.1 1 r 5 := R2.rr hr (by omega)
  have rf : ∀ why : Int, EM τ2 (uI (uI τ2 220 1 why) 220 2 (-1)) (rfS S why) := fun why => EM.rfs F2 C2 w
  refine t233_51 (q3 := 417 + 7 * t) (n5 := 20) (q10 := 221) (n12 := 20) (q15 := 336 + 4 * r) (q17 := 419 + 7 * t) (n19 := 20) (by omega) (s1 _ F2) (F2.p pt.2.1) (F2.sh st.2.1 (by omega) (by omega)) (fun _ => by omega) (s0 _ F2) (F2.p rfl) (F2.sh rfl (by omega) (by omega)) (fun _ _ => by omega) (fun _ _ => by rw [Int.toNat_natCast]; exact F2.p pr.1) (F2.p pt.2.2.2.1) (F2.sh st.2.2.2.1 (by omega) (by omega)) (fun _ _ => by omega) (F2.sh sr.1 (by omega) (by omega)) (fun a1 a2 a3 => ?_) (fun a1 a2 a3 => ?_) (fun a1 a2 => ?_) (fun a1 => ?_)
  · rw [Int.toNat_natCast, e6] at a2
    rw [Int.toNat_natCast, e8, eh] at a3
    rw [if_pos (bi_1 a1), if_pos a2, if_neg (by omega)] at k
    exact m163 F2 (t233_133 (k _ (rf 8)))
  · rw [Int.toNat_natCast, e6] at a2
    rw [Int.toNat_natCast, e8, eh] at a3
    rw [if_pos (bi_1 a1), if_pos a2] at k
    rw [R2.now, Int.toNat_natCast, e8]
    refine m158' F2 R2 w1 (by omega) ht ?_
    have em : tI τ2 (338 + 4 * r) h = cD S.1 3 r h := R2.hm hr (by omega)
    have h60 := cP60 w1 ht
    have wg := wf_buy w1 ht hr hh (by omega)
    have h60b : (cP S.1 t).length < 60 := by
      have := cP60 wg (t := t) ht
      have ep : cP (cBu S.1 t r h) t = cP S.1 t ++ [(cD S.1 0 0 0, cD S.1 4 r h)] := by
        show uf (cP S.1) t _ t = _
        unfold uf
        rw [if_pos rfl]
      rw [ep, List.length_append] at this
      simp only [List.length_cons, List.length_nil] at this
      omega
    have el : tI τ2 (416 + 7 * t) 2 = ((cP S.1 t).length : Int) := (R2.2.2.2.1 t ht).1
    have g1 : ∀ j x, tI (uI τ2 (421 + 7 * t) j x) (416 + 7 * t) 2 = ((cP S.1 t).length : Int) := fun j x => by rw [tI_uI, if_neg (by omega)]; exact el
    have g2 : ∀ j x j1 x1, tI (uI (uI τ2 (421 + 7 * t) j x) (422 + 7 * t) j1 x1) (416 + 7 * t) 2 = ((cP S.1 t).length : Int) := fun j x j1 x1 => by rw [tI_uI, if_neg (by omega)]; exact g1 j x
    have g3 : ∀ j x, tI (uI τ2 (421 + 7 * t) j x) (339 + 4 * r) h = cD S.1 4 r h := fun j x => by rw [tI_uI, if_neg (by omega)]; exact R2.hp hr (by omega)
    refine t233_115 (q2 := 338 + 4 * r) (n4 := 3) (q9 := 421 + 7 * t) (n12 := 60) (q15 := 422 + 7 * t) (q17 := 339 + 4 * r) (n19 := 3) (n22 := 60) (q27 := 419 + 7 * t) (n29 := 20) (by omega) (F2.sh sr.1 (by omega) (by omega)) (F2.p pr.2.2.1) (F2.sh sr.2.2.1 (by omega) (by omega)) (by omega) (s1 _ F2) (F2.p pt.2.2.2.2.2.1) (s0 _ F2) (F2.sh st.2.2.2.2.2.1 (by omega) (by omega)) (fun z => by clear z; rw [el]; omega) (F2.p pt.2.2.2.2.2.2) (F2.p pr.2.2.2) (F2.sh sr.2.2.2 (by omega) (by omega)) (fun z => by clear z; omega) (F2.sh st.2.2.2.2.2.2 (by omega) (by omega)) (fun z => by clear z; rw [g1]; omega) (F2.p pt.2.2.2.1) (F2.sh st.2.2.2.1 (by omega) (by omega)) (fun z _ _ => by clear z; omega) (fun a5 τ9 e9 => ?_) (fun a5 => ?_)
    · rw [Int.toNat_natCast, em] at a5
      rw [if_pos ⟨a3, a5⟩] at k
      clear a5
      rw [el, R2.now, Int.toNat_natCast, g1, Int.toNat_natCast, Int.toNat_natCast, g3, g2, wr_nat (by omega)] at e9
      rw [Int.toNat_natCast]
      have g4 : tI τ9 (419 + 7 * t) r = (h : Int) := by
        rw [← e9, tI_uI, if_neg (by omega), tI_uI, if_neg (by omega), tI_uI, if_neg (by omega)]; exact e8
      rw [g4, wr_id (by unfold okI; omega)]
      have o3 : OC (fun a k => (a = 421 + 7 * t ∧ k = (cP S.1 t).length) ∨ (a = 422 + 7 * t ∧ k = (cP S.1 t).length) ∨ (a = 416 + 7 * t ∧ k = 2) ∨ (a = 419 + 7 * t ∧ k = r)) τ2 (uI τ9 (419 + 7 * t) r ((h : Int) + 1)) := by
        rw [← e9]
        exact OC.j (P := fun a k => (a = 421 + 7 * t ∧ k = (cP S.1 t).length) ∨ (a = 422 + 7 * t ∧ k = (cP S.1 t).length) ∨ (a = 416 + 7 * t ∧ k = 2) ∨ (a = 419 + 7 * t ∧ k = r)) (OC.j (P := fun a k => (a = 421 + 7 * t ∧ k = (cP S.1 t).length) ∨ (a = 422 + 7 * t ∧ k = (cP S.1 t).length) ∨ (a = 416 + 7 * t ∧ k = 2) ∨ (a = 419 + 7 * t ∧ k = r)) (OC.j (P := fun a k => (a = 421 + 7 * t ∧ k = (cP S.1 t).length) ∨ (a = 422 + 7 * t ∧ k = (cP S.1 t).length) ∨ (a = 416 + 7 * t ∧ k = 2) ∨ (a = 419 + 7 * t ∧ k = r)) (OC.j (P := fun a k => (a = 421 + 7 * t ∧ k = (cP S.1 t).length) ∨ (a = 422 + 7 * t ∧ k = (cP S.1 t).length) ∨ (a = 416 + 7 * t ∧ k = 2) ∨ (a = 419 + 7 * t ∧ k = r)) OC.rf (Or.inl ⟨rfl, rfl⟩)) (Or.inr (Or.inl ⟨rfl, rfl⟩))) (Or.inr (Or.inr (Or.inl ⟨rfl, rfl⟩)))) (Or.inr (Or.inr (Or.inr ⟨rfl, rfl⟩)))
      have F3 : FX2 (uI τ9 (419 + 7 * t) r ((h : Int) + 1)) := by
        rw [← e9]
        exact F2.j.j.j.j
      have P3 : tP (uI τ9 (419 + 7 * t) r ((h : Int) + 1)) = tP τ2 := by rw [← e9]; rfl
      have n3 : tN (uI τ9 (419 + 7 * t) r ((h : Int) + 1)) = tN τ2 := by rw [← e9]; rfl
      have z3 : tZ (uI τ9 (419 + 7 * t) r ((h : Int) + 1)) = tZ τ2 := by rw [← e9]; rfl
      have q1 : tI (uI τ9 (419 + 7 * t) r ((h : Int) + 1)) (421 + 7 * t) (cP S.1 t).length = cD S.1 0 0 0 := by rw [← e9, tI_uI, if_neg (by omega), tI_uI, if_neg (by omega), tI_uI, if_neg (by omega), tI_uI, if_pos ⟨rfl, rfl⟩]
      have q2 : tI (uI τ9 (419 + 7 * t) r ((h : Int) + 1)) (422 + 7 * t) (cP S.1 t).length = cD S.1 4 r h := by rw [← e9, tI_uI, if_neg (by omega), tI_uI, if_neg (by omega), tI_uI, if_pos ⟨rfl, rfl⟩]
      have q3 : tI (uI τ9 (419 + 7 * t) r ((h : Int) + 1)) (416 + 7 * t) 2 = (((cP S.1 t).length + 1 : Nat) : Int) := by rw [← e9, tI_uI, if_neg (by omega), tI_uI, if_pos ⟨rfl, rfl⟩]
      have q4 : tI (uI τ9 (419 + 7 * t) r ((h : Int) + 1)) (419 + 7 * t) r = (h : Int) + 1 := by rw [tI_uI, if_pos ⟨rfl, rfl⟩]
      have R3 := R2.bu F2 w1 ht hr hh (by omega) o3 P3 q1 q2 q3 q4
      have o3' : OC (fun a _ => 416 + 7 * t ≤ a ∧ a ≤ 422 + 7 * t) τ2 (uI τ9 (419 + 7 * t) r ((h : Int) + 1)) := o3.mo fun a k z => by omega
      generalize (uI τ9 (419 + 7 * t) r ((h : Int) + 1)) = τ3 at o3' F3 P3 n3 z3 R3
      refine m170 F3 (L.oc F2 o3' (fun a k z => by omega)) fun τ4 q pp o4 F4 n4 z4 hl => t233_194 (s0 := some q) (by omega) (s0 _ F4) (m165 F4 (t233_201 ?_))
      have N3 := F3.1
      obtain ⟨T4, O4, h54⟩ := acc_M F3 o4 (T.oc F2 o3' (fun a k z => by omega)) (O.oc F2 o3' (fun a k z => by omega)) ((o3'.2.2.2 220 3 (by omega) (by omega)).1.trans h5)
      exact k (dnM τ4) ⟨(((o3'.kp (fun a k z => by omega)).tr (AMP_kp o4)).j (by omega) (by omega)).j (by omega) (by omega), F4.j.j, by show tN τ4 ≤ _; omega, by show tZ τ4 ≤ _; omega, MI.mkD F4 wg (R3.acc wg F3 o4) hl.lg (und_buy_M w1 ht hr hh (by omega)) hc ((o3'.fr fun a k z => by omega).tr (o4.fr fun a k z => by unfold AMP at z; omega)) T4 O4 h54⟩
    · rw [Int.toNat_natCast, em] at a5
      rw [if_neg (fun z => absurd z.2 (Int.not_le.mpr a5))] at k
      exact m163 F2 (t233_133 (k _ (rf 8)))
  · rw [Int.toNat_natCast, e6] at a2
    rw [if_pos (bi_1 a1), if_neg a2] at k
    exact m163 F2 (t233_76 (k _ (rf 6)))
  · rw [if_neg (by rw [bi_0 a1]; decide)] at k
    exact m163 F2 (t233_59 (k _ (rf 5)))
