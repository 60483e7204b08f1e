/-! guess: both sides -/
def sp_guess (x y n : Int) (S : HSx) : Int × HSx := if (0 ≤ x ∧ x < (cn S.1 1 : Int)) ∧ 0 ≤ y ∧ y < (cn S.1 0 : Int) then (if 0 ≤ n ∧ n ≤ ((sTp S).length : Int) then (if opn S.1 y.toNat (slT S.1 x.toNat (cD S.1 0 0 0)) (cD S.1 0 0 0) = true then (if cD S.1 6 x.toNat y.toNat = -1 then (if cD S.1 9 x.toNat y.toNat ≤ cD S.1 0 0 0 then (vrd S.1 y.toNat (hrd (byt (sTp S)) n.toNat), acS (clS S) (cGu S.1 x.toNat y.toNat (vrd S.1 y.toNat (hrd (byt (sTp S)) n.toNat)))) else (-1, rfS (clS S) 7)) else (-1, rfS (clS S) 6)) else (-1, rfS (clS S) 5)) else (-1, rfS S 2)) else (-1, rfS S 1)
theorem ws_guess {S : HSx} (w : WS S) {x y n : Int} : WS (sp_guess x y n S).2 := by
  have w1 := w.1 S.1 (by simp)
  unfold sp_guess
  split
  · rename_i h
    split
    · split
      · split
        · split
          · exact w.cl.act (wf_gue w1 (by omega) (by omega))
          · exact w.cl.rfs 7
        · exact w.cl.rfs 6
      · exact w.cl.rfs 5
    · exact w.rfs 2
  · exact w.rfs 1
theorem cc113 {x y z : Int} : CCl 113 [vR 64, vI x, vI y, vI z, none, none] (sp_guess x y z) := fun d τ S Q hd F C w k => by
  have s0 : ∀ τ : T2, FX2 τ → tS τ 64 = (1, 11, 0) := fun τ F => F.sh rfl (by omega) (by omega)
  have s76 : ∀ τ : T2, FX2 τ → tS τ 76 = (1, 4, 0) := fun τ F => F.sh rfl (by omega) (by omega)
  have w1 := w.1 S.1 (by simp)
  have h8 := w1.1.2.1
  have h20 := w1.1.1
  have C0 := C
  obtain ⟨R, ⟨E, L, hc⟩, T, O, h3, h4, h5⟩ := C0
  have bad : ¬ ((0 ≤ x ∧ x < (cn S.1 1 : Int)) ∧ 0 ≤ y ∧ y < (cn S.1 0 : Int)) → G (d - 1) 126 0 [vR 64, vI 1] [] τ (KC d 113 18 21 [none, none, none, none, none, none] [] Q) := fun h => by
    unfold sp_guess at k
    rw [if_neg h] at k
    exact c126 F (t113_21 (k _ (EC.rfs F C w (by decide))))
  refine t113_0 (by omega) (s0 τ F) (c130 F R.1.2.1 h8 (fun t ht e => ?_) (fun e => t113_5 (by omega) (s0 τ F) (fun _ => bad (by omega)) (fun q => absurd rfl q)))
  subst e
  refine t113_5 (by omega) (s0 τ F) (fun q => absurd q (by decide)) (fun _ => c129 F R.1.1 h20 (fun r hr e => ?_) (fun e => t113_13 (by omega) (s0 τ F) (fun q => absurd rfl q) (fun _ => bad (by omega))))
  subst e
  unfold sp_guess at k
  rw [if_pos (by omega), Int.toNat_natCast, Int.toNat_natCast] at k
  refine t113_13 (by omega) (s0 τ F) (fun _ => c132 F T.1 w.2.1 (fun n hn e => ?_) (fun e => ?_)) (fun q => absurd q (by decide))
  · subst e
    rw [if_pos (show 0 ≤ (n : Int) ∧ (n : Int) ≤ ((sTp S).length : Int) from ⟨by omega, by show (n : Int) ≤ (S.2.2.1.length : Int); omega⟩), Int.toNat_natCast] at k
    refine t113_27 (by omega) (s0 τ F) (fun _ => c135 F T w.2.1 w.2.2.1 hn (by omega) fun τ1 o1 F1 n1 z1 H h1 => ?_) (fun q => absurd q (by decide))
    have N := F.1
    have N1 := F1.1
    have R1 : RC τ1 S.1 := R.oc w1 F o1 (fun a k z => by unfold HRC at z; unfold DC; omega)
    have st := shT t (by omega)
    have pt := ptT t (by omega)
    have s1 : ∀ τ : T2, FX2 τ → tS τ (172 + 6 * t) = (1, 8, 0) := fun τ F => F.sh st.1 (by omega) (by omega)
    have rf : ∀ why : Int, why ≠ 4 → EC τ (uI τ1 64 16 why) (rfS (clS S) why) := fun why hw => by
      have o2 : OC (fun a k => HRC a k ∨ a = 78 ∨ a = 79 ∨ (a = 64 ∧ k = 16)) τ (uI τ1 64 16 why) := OC.j (P := fun a k => HRC a k ∨ a = 78 ∨ a = 79 ∨ (a = 64 ∧ k = 16)) (o1.mo fun a k z => Or.inl z) (Or.inr (Or.inr (Or.inr ⟨rfl, rfl⟩)))
      exact ⟨HRC_kp o2, F1.j, by show tN τ1 ≤ _; omega, by show tZ τ1 ≤ _; omega, C.her w F o2 (by rw [tI_uI, if_neg (by decide)]; exact h1) (by rw [tI_uI, if_pos ⟨rfl, rfl⟩]) hw⟩
    refine t113_41 (q2 := 68) (n4 := 8) (by omega) (s0 _ F1) (F1.p rfl) (F1.sh rfl (by omega) (by omega)) (by omega) ?_
    rw [Int.toNat_natCast, F1.p pt.1]
    refine c141 F1 R1 w1 ht hr (by omega) ?_
    have e6 : tI τ1 (173 + 6 * t) r = cD S.1 6 t r := R1.sv ht (by omega)
    have e9 : tI τ1 (176 + 6 * t) r = cD S.1 9 t r := R1.wa ht (by omega)
    refine t113_56 (q3 := 173 + 6 * t) (n5 := 20) (q10 := 176 + 6 * t) (n12 := 20) (q16 := 76) (q18 := 66) (n20 := 20) (by omega) (s1 _ F1) (F1.p pt.2.1) (F1.sh st.2.1 (by omega) (by omega)) (fun _ => by omega) (s0 _ F1) (F1.p pt.2.2.2.2.1) (F1.sh st.2.2.2.2.1 (by omega) (by omega)) (fun _ _ => by omega) (F1.p rfl) (F1.p rfl) (F1.sh rfl (by omega) (by omega)) (fun _ _ _ => by omega) (s76 _ F1) (fun a1 a2 a3 => ?_) (fun a1 a2 a3 => ?_) (fun a1 a2 => ?_) (fun a1 => ?_)
    · rw [Int.toNat_natCast, e6] at a2
      rw [Int.toNat_natCast, e9, R1.now] at a3
      rw [if_pos (bi_1 a1), if_pos a2, if_pos a3] at k
      rw [Int.toNat_natCast, F1.p (ptR r (by omega)).1]
      refine c15 F1 R1 w1 hr H (by omega) fun τ2 o2 F2 n2 z2 => ?_
      have N2 := F2.1
      have o12 : OC (fun a k => HRC a k ∨ a = 78 ∨ a = 79) τ τ2 := (o1.mo fun a k z => Or.inl z).tr (o2.mo fun a k z => Or.inr z)
      have R2 : RC τ2 S.1 := R.oc w1 F o12 (fun a k z => by unfold HRC at z; unfold DC; omega)
      have L2 : LgC τ2 E := L.oc F o12 (fun a k z => by unfold HRC at z; omega)
      have Tq : TpC τ2 [] := ⟨by rw [(o2.2.2.2 64 1 (by omega) (by omega)).1]; exact h1, fun j hj => by cases hj⟩
      have O2 : OuC τ2 (sOu S) := O.oc F o12 (fun a k z => by unfold HRC at z; omega)
      have q17 : tI τ2 64 17 = sFa S := by rw [(o12.2.2.2 64 17 (by omega) (by unfold HRC; omega)).1]; exact h5
      generalize vrd S.1 r (hrd (byt (sTp S)) n) = v at *
      refine t113_117 (q2 := 176 + 6 * t) (n4 := 20) (by omega) (s1 _ F2) (F2.p pt.2.2.2.2.1) (F2.sh st.2.2.2.2.1 (by omega) (by omega)) (by omega) (s0 _ F2) ?_
      rw [Int.toNat_natCast, R2.wa ht (by omega)]
      refine c127 F2 L2 (by omega) fun τ3 o3 F3 n3 z3 h0 hl => ?_
      have R3 := R2.acc w1 F2 o3
      obtain ⟨T3, O3, h53⟩ := acc_C F2 o3 Tq O2 q17
      have N3 := F3.1
      obtain ⟨v7, v6, v9, v5⟩ := vd57 (t := t) (r := r) (by omega) (by omega)
      have wg := wf_gue (v := v) w1 ht hr
      have hb := w1.1.2.2.2
      have hlk := (w1.2.1 r hr).2.2.2.2.1
      -- the end, whatever was written
      have fin : ∀ τ4 : T2, OC (fun a _ => 172 + 6 * t ≤ a ∧ a ≤ 176 + 6 * t) τ3 τ4 → FX2 τ4 → tN τ4 = tN τ3 → tZ τ4 = tZ τ3 → RC τ4 (cGu S.1 t r v) → Q (.inl (some (AI v))) τ4 := fun τ4 o4 F4 n4 z4 R4 => by
        refine k τ4 ⟨((o12.kp (fun a k z => by unfold HRC at z; omega)).tr (ACP_kp o3)).tr (o4.kp (fun a k z => by omega)), F4, by omega, by omega, CI.mkA R4 (hl.oc F3 o4 (fun a k z => by omega)) (und_gue_C w1 ht hr a2) hc (((o12.fr fun a k z => by unfold HRC at z; omega).tr (o3.fr fun a k z => by unfold ACP LGP at z; omega)).tr (o4.fr fun a k z => by omega)) (T3.oc F3 o4 (fun a k z => by omega)) (O3.oc F3 o4 (fun a k z => by omega)) ?_ ?_⟩
        · rw [(o4.2.2.2 64 16 (by omega) (by omega)).1]; exact h0
        · rw [(o4.2.2.2 64 17 (by omega) (by omega)).1]; exact h53
      have e7 : tI τ3 (174 + 6 * t) r = cD S.1 7 t r := R3.gu ht (by omega)
      refine t113_136 (q2 := 174 + 6 * t) (n4 := 20) (q8 := 176 + 6 * t) (q11 := 66) (n13 := 20) (q16 := 92 + 4 * r) (n19 := 20) (q24 := 173 + 6 * t) (n26 := 20) (s1 _ F3) (F3.p pt.2.2.1) (F3.sh st.2.2.1 (by omega) (by omega)) (by omega) (F3.p pt.2.2.2.2.1) (s0 _ F3) (F3.p rfl) (F3.sh rfl (by omega) (by omega)) (fun _ => by omega) (fun _ => by rw [Int.toNat_natCast]; exact F3.p (ptR r (by omega)).1) (F3.sh (shR r (by omega)).1 (by omega) (by omega)) (F3.sh st.2.2.2.2.1 (by omega) (by omega)) (fun _ => by omega) (F3.p pt.2.1) (F3.sh st.2.1 (by omega) (by omega)) (fun _ => by omega) (fun y => ?_) (fun y => ?_)
      · rw [Int.toNat_natCast, e7]
        intro τ9 e9'
        have g5 : tI (uI τ3 (174 + 6 * t) r (wr (cD S.1 7 t r + 1))) (172 + 6 * t) 1 = cD S.1 5 t 1 := by rw [tI_uI, if_neg (by omega)]; exact R3.t1 ht
        rw [g5] at e9'
        have g9 : ∀ a k, a ≠ 174 + 6 * t → a ≠ 172 + 6 * t → tI (uI (uI τ3 (174 + 6 * t) r (wr (cD S.1 7 t r + 1))) (172 + 6 * t) 1 (wr (cD S.1 5 t 1 + 1))) a k = tI τ3 a k := fun a k h1 h2 => by rw [tI_uI, if_neg (by omega), tI_uI, if_neg (by omega)]
        rw [g9 64 9 (by omega) (by omega), g9 (92 + 4 * r) 5 (by omega) (by omega), R3.now, R3.r4 hr, wr_id (x := cD S.1 0 0 0 + cD S.1 1 r 4) (by unfold okI; omega)] at e9'
        have R4 := RC.je (RC.je (RC.je R3 (a := 174 + 6 * t) (j := r) (x := wr (cD S.1 7 t r + 1)) v7 (by omega) (by omega) rfl rfl) (a := 172 + 6 * t) (j := 1) (x := wr (cD S.1 5 t 1 + 1)) v5 (by omega) (by omega) rfl rfl) (a := 176 + 6 * t) (j := r) (x := cD S.1 0 0 0 + cD S.1 1 r 4) v9 (by omega) (by omega) rfl rfl
        have eg : cGu S.1 t r v = cGw S.1 t r := by unfold cGu; rw [if_neg y]
        rw [← e9']
        refine fin _ (((OC.j (P := fun a _ => 172 + 6 * t ≤ a ∧ a ≤ 176 + 6 * t) (OC.j (P := fun a _ => 172 + 6 * t ≤ a ∧ a ≤ 176 + 6 * t) (OC.j (P := fun a _ => 172 + 6 * t ≤ a ∧ a ≤ 176 + 6 * t) OC.rf (by omega)) (by omega)) (by omega)))) F3.j.j.j rfl rfl ?_
        rw [eg]
        exact R4
      · rw [Int.toNat_natCast, e7, show tI (uI τ3 (174 + 6 * t) r (wr (cD S.1 7 t r + 1))) 64 9 = cD S.1 0 0 0 by rw [tI_uI, if_neg (by omega)]; exact R3.now]
        have R4 := RC.je (RC.je R3 (a := 174 + 6 * t) (j := r) (x := wr (cD S.1 7 t r + 1)) v7 (by omega) (by omega) rfl rfl) (a := 173 + 6 * t) (j := r) (x := cD S.1 0 0 0) v6 (by omega) (by omega) rfl rfl
        have eg : cGu S.1 t r v = cGr S.1 t r := by unfold cGu; rw [if_pos y]
        refine fin _ (OC.j (P := fun a _ => 172 + 6 * t ≤ a ∧ a ≤ 176 + 6 * t) (OC.j (P := fun a _ => 172 + 6 * t ≤ a ∧ a ≤ 176 + 6 * t) OC.rf (by omega)) (by omega)) F3.j.j rfl rfl ?_
        rw [eg]
        exact R4
    · rw [Int.toNat_natCast, e6] at a2
      rw [Int.toNat_natCast, e9, R1.now] at a3
      rw [if_pos (bi_1 a1), if_pos a2, if_neg (by omega)] at k
      exact c126 F1 (t113_103 (k _ (rf 7 (by decide))))
    · rw [Int.toNat_natCast, e6] at a2
      rw [if_pos (bi_1 a1), if_neg a2] at k
      exact c126 F1 (t113_82 (k _ (rf 6 (by decide))))
    · rw [if_neg (by rw [bi_0 a1]; decide)] at k
      exact c126 F1 (t113_64 (k _ (rf 5 (by decide))))
  · rw [if_neg (show ¬ (0 ≤ z ∧ z ≤ ((sTp S).length : Int)) from fun q => by have : z ≤ (S.2.2.1.length : Int) := q.2; omega)] at k
    exact t113_27 (by omega) (s0 τ F) (fun q => absurd rfl q) (fun _ => c126 F (t113_35 (k _ (EC.rfs F C w (by decide)))))
theorem mc232 {x y z : Int} : MCl 232 [vR 220, vI x, vI y, vI z, none, none] (sp_guess x y z) := fun d τ S Q hd F C w k => by
  have s0 : ∀ τ : T2, FX2 τ → tS τ 220 = (1, 21, 0) := fun τ F => F.sh rfl (by omega) (by omega)
  have w1 := w.1 S.1 (by simp)
  refine t232_0 (by omega) (s0 τ F) ?_
  have k := fun τ2 h => k τ2 (EM.bef (Kp.rf.j (a := 220) (k := 0) (x := 0) (by omega) (by omega)) rfl rfl h)
  have C := C.t0 w F (x := 0)
  have F : FX2 (uI τ 220 0 0) := F.j
  generalize uI τ 220 0 0 = τ at *
  have h8 := w1.1.2.1
  have h20 := w1.1.1
  have C0 := C
  obtain ⟨R, ⟨E, L, hc⟩, T, O, h3, h4, h5⟩ := C0
  have bad : ¬ ((0 ≤ x ∧ x < (cn S.1 1 : Int)) ∧ 0 ≤ y ∧ y < (cn S.1 0 : Int)) → G (d - 1) 163 0 [vR 220, vI 1] [] τ (KC d 232 23 26 [none, none, none, none, none, none] [] Q) := fun h => by
    unfold sp_guess at k
    rw [if_neg h] at k
    exact m163 F (t232_26 (k _ (EM.rfs F C w)))
  refine m230 F R.1.2.1 (fun t ht e => ?_) (fun e => t232_10 (by omega) (s0 τ F) (fun _ => bad (by omega)) (fun q => absurd rfl q))
  subst e
  refine t232_10 (by omega) (s0 τ F) (fun q => absurd q (by decide)) (fun _ => m207 F R.1.1 (fun r hr e => ?_) (fun e => t232_18 (by omega) (s0 τ F) (fun q => absurd rfl q) (fun _ => bad (by omega))))
  subst e
  unfold sp_guess at k
  rw [if_pos (by omega), Int.toNat_natCast, Int.toNat_natCast] at k
  refine t232_18 (by omega) (s0 τ F) (fun _ => m206 F T.1 (fun n hn e => ?_) (fun e => ?_)) (fun q => absurd q (by decide))
  · subst e
    rw [if_pos (show 0 ≤ (n : Int) ∧ (n : Int) ≤ ((sTp S).length : Int) from ⟨by omega, by show (n : Int) ≤ (S.2.2.1.length : Int); omega⟩), Int.toNat_natCast] at k
    refine t232_32 (by omega) (s0 τ F) (fun _ => m198 F T w.2.1 w.2.2.1 hn (by omega) fun τ1 o1 F1 n1 z1 H h1 => ?_) (fun q => absurd q (by decide))
    have N := F.1
    have N1 := F1.1
    have R1 : RM τ1 S.1 := R.oc w1 F o1 (fun a k z => by unfold HRM at z; unfold DM; omega)
    have st := shU t (by omega)
    have pt := ptU t (by omega)
    have s1 : ∀ τ : T2, FX2 τ → tS τ (416 + 7 * t) = (1, 19, 0) := fun τ F => F.sh st.1 (by omega) (by omega)
    refine t232_46 (q2 := 222) (n4 := 8) (q7 := 416 + 7 * t) (by omega) (s0 _ F1) (F1.p rfl) (F1.sh rfl (by omega) (by omega)) (by omega) (by rw [Int.toNat_natCast]; exact F1.p pt.1) (s1 _ F1) ?_
    rw [R1.now]
    refine m157' F1 R1 w1 ht (t232_65 (r4 := some (416 + 7 * t)) (by omega) (s0 _ F1) (s0 _ F1) ?_)
    rw [R1.now]
    refine m187 F1 R1 w1 hr (by omega) fun τ2 o2 F2 n2 z2 => ?_
    have N2 := F2.1
    have o12 : OC (fun a k => HRM a k ∨ a = 227 ∨ a = 229 ∨ a = 230 ∨ (a = 220 ∧ (k = 1 ∨ k = 2))) τ τ2 := (o1.mo fun a k z => Or.inl z).tr (o2.mo fun a k z => by omega)
    have R2 : RM τ2 S.1 := R1.oc w1 F1 o2 (fun a k z => by unfold DM; omega)
    have H2 : HdM τ2 (hrd (byt S.2.2.1) n) := H.oc F1 o2 (fun a k z => by omega)
    have h12 : tI τ2 220 15 = 0 := by rw [(o2.2.2.2 220 15 (by omega) (by omega)).1]; exact h1
    have rf : ∀ why : Int, EM τ (uI (uI τ2 220 1 why) 220 2 (-1)) (rfS (clS S) why) := fun why => EM.her C w F F2 o12 (by omega) (by omega) h12
    have e6 : tI τ2 (417 + 7 * t) r = cD S.1 6 t r := R2.sv ht (by omega)
    have e9 : tI τ2 (420 + 7 * t) r = cD S.1 9 t r := R2.wa ht (by omega)
    refine t232_72 (q3 := 417 + 7 * t) (n5 := 20) (q10 := 420 + 7 * t) (n12 := 20) (q16 := 221) (n18 := 20) (by omega) (s1 _ F2) (F2.p pt.2.1) (F2.sh st.2.1 (by omega) (by omega)) (fun _ => by omega) (s0 _ F2) (F2.p pt.2.2.2.2.1) (F2.sh st.2.2.2.2.1 (by omega) (by omega)) (fun _ _ => by omega) (F2.p rfl) (F2.sh rfl (by omega) (by omega)) (fun _ _ _ => by omega) (fun a1 a2 a3 => ?_) (fun a1 a2 a3 => ?_) (fun a1 a2 => ?_) (fun a1 => ?_)
    · rw [Int.toNat_natCast, e6] at a2
      rw [Int.toNat_natCast, e9, R2.now] at a3
      rw [if_pos (bi_1 a1), if_pos a2, if_pos a3] at k
      rw [Int.toNat_natCast, F2.p (ptM r (by omega)).1]
      refine m200 F2 R2 w1 hr H2 (hrd_b _).2 (by omega) fun τ3 o3 F3 n3 z3 => ?_
      have N3 := F3.1
      have o13 : OC (fun a k => HRM a k ∨ a = 227 ∨ a = 229 ∨ a = 230) τ τ3 := ((o1.mo fun a k z => Or.inl z).tr (o2.mo fun a k z => by omega)).tr (o3.mo fun a k z => by omega)
      have R3 : RM τ3 S.1 := R.oc w1 F o13 (fun a k z => by unfold HRM at z; unfold DM; omega)
      have L3 : LgM τ3 E := L.oc F o13 (fun a k z => by unfold HRM at z; omega)
      have T3 : TpM τ3 [] := ⟨by rw [(o3.2.2.2 220 15 (by omega) (by omega)).1]; exact h12, fun j hj => by cases hj⟩
      have O3 : OuM τ3 (sOu S) := O.oc F o13 (fun a k z => by unfold HRM at z; omega)
      have q17 : tI τ3 220 3 = sFa S := by rw [(o13.2.2.2 220 3 (by omega) (by unfold HRM; omega)).1]; exact h5
      generalize vrd S.1 r (hrd (byt S.2.2.1) n) = v at *
      refine t232_130 (q2 := 420 + 7 * t) (n4 := 20) (by omega) (s1 _ F3) (F3.p pt.2.2.2.2.1) (F3.sh st.2.2.2.2.1 (by omega) (by omega)) (by omega) (s0 _ F3) ?_
      rw [Int.toNat_natCast, R3.wa ht (by omega)]
      refine m170 F3 L3 fun τ4 q p o4 F4 n4 z4 hl => ?_
      have R4 := R3.acc w1 F3 o4
      obtain ⟨T4, O4, h54⟩ := acc_M F3 o4 T3 O3 q17
      have N4 := F4.1
      obtain ⟨v7, v6, v9, v5⟩ := vd57 (t := t) (r := r) (by omega) (by omega)
      have wg := wf_gue (v := v) w1 ht hr
      have hb := w1.1.2.2.2
      have hlk := (w1.2.1 r hr).2.2.2.2.1
      have fin : ∀ τ5 : T2, OC (fun a _ => 416 + 7 * t ≤ a ∧ a ≤ 420 + 7 * t) τ4 τ5 → FX2 τ5 → tN τ5 = tN τ4 → tZ τ5 = tZ τ4 → RM τ5 (cGu S.1 t r v) → G (d - 1) 165 0 [vR 220, vI v] [] τ5 (KC d 232 216 219 [none, none, none, none, none, none] [] Q) := fun τ5 o5 F5 n5 z5 R5 => by
        refine m165 F5 (t232_219 ?_)
        refine k (dnM τ5) ⟨((((o13.kp (fun a k z => by unfold HRM at z; omega)).tr (AMP_kp o4)).tr (o5.kp (fun a k z => by omega))).j (by omega) (by omega)).j (by omega) (by omega), F5.j.j, by show tN τ5 ≤ _; omega, by show tZ τ5 ≤ _; omega, MI.mkD F5 wg R5 (hl.lg.oc F4 o5 (fun a k z => by omega)) (und_gue_M w1 ht hr a2) hc (((o13.fr fun a k z => by unfold HRM at z; omega).tr (o4.fr fun a k z => by unfold AMP at z; omega)).tr (o5.fr fun a k z => by omega)) (T4.oc F4 o5 (fun a k z => by omega)) (O4.oc F4 o5 (fun a k z => by omega)) ?_⟩
        rw [(o5.2.2.2 220 3 (by omega) (by omega)).1]; exact h54
      have e7 : tI τ4 (418 + 7 * t) r = cD S.1 7 t r := R4.gu ht (by omega)
      refine t232_149 (s0 := some q) (q2 := 418 + 7 * t) (n4 := 20) (q8 := 420 + 7 * t) (q11 := 221) (n13 := 20) (q16 := 336 + 4 * r) (n19 := 20) (q24 := 417 + 7 * t) (n26 := 20) (by omega) (s1 _ F4) (F4.p pt.2.2.1) (F4.sh st.2.2.1 (by omega) (by omega)) (by omega) (F4.p pt.2.2.2.2.1) (s0 _ F4) (F4.p rfl) (F4.sh rfl (by omega) (by omega)) (fun _ => by omega) (fun _ => by rw [Int.toNat_natCast]; exact F4.p (ptM r (by omega)).1) (F4.sh (shM r (by omega)).1 (by omega) (by omega)) (F4.sh st.2.2.2.2.1 (by omega) (by omega)) (fun _ => by omega) (F4.p pt.2.1) (F4.sh st.2.1 (by omega) (by omega)) (fun _ => by omega) (fun y => ?_) (fun y => ?_)
      · rw [Int.toNat_natCast, e7]
        intro τ9 e9'
        have g5 : tI (uI τ4 (418 + 7 * t) r (wr (cD S.1 7 t r + 1))) (416 + 7 * t) 1 = cD S.1 5 t 1 := by rw [tI_uI, if_neg (by omega)]; exact R4.tt ht (by omega)
        rw [g5] at e9'
        have g9 : ∀ a k, a ≠ 418 + 7 * t → a ≠ 416 + 7 * t → tI (uI (uI τ4 (418 + 7 * t) r (wr (cD S.1 7 t r + 1))) (416 + 7 * t) 1 (wr (cD S.1 5 t 1 + 1))) a k = tI τ4 a k := fun a k h1 h2 => by rw [tI_uI, if_neg (by omega), tI_uI, if_neg (by omega)]
        rw [g9 220 7 (by omega) (by omega), g9 (336 + 4 * r) 4 (by omega) (by omega), R4.now, R4.rr hr (by omega), wr_id (x := cD S.1 0 0 0 + cD S.1 1 r 4) (by unfold okI; omega)] at e9'
        have R5 := RM.je (RM.je (RM.je R4 (a := 418 + 7 * t) (j := r) (x := wr (cD S.1 7 t r + 1)) v7 (by omega) (by omega) rfl rfl) (a := 416 + 7 * t) (j := 1) (x := wr (cD S.1 5 t 1 + 1)) v5 (by omega) (by omega) rfl rfl) (a := 420 + 7 * t) (j := r) (x := cD S.1 0 0 0 + cD S.1 1 r 4) v9 (by omega) (by omega) rfl rfl
        have eg : cGu S.1 t r v = cGw S.1 t r := by unfold cGu; rw [if_neg y]
        rw [← e9']
        refine fin _ (OC.j (P := fun a _ => 416 + 7 * t ≤ a ∧ a ≤ 420 + 7 * t) (OC.j (P := fun a _ => 416 + 7 * t ≤ a ∧ a ≤ 420 + 7 * t) (OC.j (P := fun a _ => 416 + 7 * t ≤ a ∧ a ≤ 420 + 7 * t) OC.rf (by omega)) (by omega)) (by omega)) F4.j.j.j rfl rfl ?_
        rw [eg]
        exact R5
      · rw [Int.toNat_natCast, e7, show tI (uI τ4 (418 + 7 * t) r (wr (cD S.1 7 t r + 1))) 220 7 = cD S.1 0 0 0 by rw [tI_uI, if_neg (by omega)]; exact R4.now]
        have R5 := RM.je (RM.je R4 (a := 418 + 7 * t) (j := r) (x := wr (cD S.1 7 t r + 1)) v7 (by omega) (by omega) rfl rfl) (a := 417 + 7 * t) (j := r) (x := cD S.1 0 0 0) v6 (by omega) (by omega) rfl rfl
        have eg : cGu S.1 t r v = cGr S.1 t r := by unfold cGu; rw [if_pos y]
        refine fin _ (OC.j (P := fun a _ => 416 + 7 * t ≤ a ∧ a ≤ 420 + 7 * t) (OC.j (P := fun a _ => 416 + 7 * t ≤ a ∧ a ≤ 420 + 7 * t) OC.rf (by omega)) (by omega)) F4.j.j rfl rfl ?_
        rw [eg]
        exact R5
    · rw [Int.toNat_natCast, e6] at a2
      rw [Int.toNat_natCast, e9, R2.now] at a3
      rw [if_pos (bi_1 a1), if_pos a2, if_neg (by omega)] at k
      exact m163 F2 (t232_119 (k _ (rf 7)))
    · rw [Int.toNat_natCast, e6] at a2
      rw [if_pos (bi_1 a1), if_neg a2] at k
      exact m163 F2 (t232_98 (k _ (rf 6)))
    · rw [if_neg (by rw [bi_0 a1]; decide)] at k
      exact m163 F2 (t232_80 (k _ (rf 5)))
  · rw [if_neg (show ¬ (0 ≤ z ∧ z ≤ ((sTp S).length : Int)) from fun q => by have : z ≤ (S.2.2.1.length : Int) := q.2; omega)] at k
    exact t232_32 (by omega) (s0 τ F) (fun q => absurd rfl q) (fun _ => m163 F (t232_40 (k _ (EM.rfs F C w))))
