/-! buy: the calls -/
def sp_buy (x y : Int) (S : HSx) : Int × HSx := if (0 ≤ x ∧ x < (cn S.1 1 : Int)) ∧ 0 ≤ y ∧ y < (cn S.1 0 : Int) then (if opn S.1 y.toNat (slT S.1 x.toNat (cD S.1 0 0 0)) (cD S.1 0 0 0) = true then (if cD S.1 6 x.toNat y.toNat = -1 then (if cD S.1 8 x.toNat y.toNat < cD S.1 1 y.toNat 5 ∧ cD S.1 3 y.toNat (cD S.1 8 x.toNat y.toNat).toNat ≤ wr (cD S.1 0 0 0 - laT S.1 x.toNat (cD S.1 0 0 0)) then (cD S.1 8 x.toNat y.toNat, acS S (cBu S.1 x.toNat y.toNat (cD S.1 8 x.toNat y.toNat).toNat)) else (-1, rfS S 8)) else (-1, rfS S 6)) else (-1, rfS S 5)) else (-1, rfS S 1)
theorem ws_buy {S : HSx} (w : WS S) {x y : Int} : WS (sp_buy x y S).2 := by
  have w1 := w.1 S.1 (by simp)
  unfold sp_buy
  split
  · rename_i h
    split
    · split
      · split
        · rename_i h1
          have h20 := w1.1.1
          have hb := ((w1.2.2.1 x.toNat (by omega)).2.2 y.toNat (by omega)).2.2.1
          exact w.act (wf_buy w1 (by omega) (by omega) (by omega) (by omega))
        · exact w.rfs 8
      · exact w.rfs 6
    · exact w.rfs 5
  · exact w.rfs 1
theorem ex3 {r h : Nat} (hr : r < 20) (h3 : h < 3) : wr (wr ((r : Int) * 3) + (h : Int)) = ((3 * r + h : Nat) : Int) := by
  rw [wr_id (x := (r : Int) * 3) (by unfold okI; omega), wr_id (by unfold okI; omega)]
  omega
theorem cc114 {x y : Int} : CCl 114 [vR 64, vI x, vI y, none, none, none] (sp_buy x y) := fun d τ S Q hd F C w k => by
  have s0 : ∀ τ : T2, FX2 τ → tS τ 64 = (1, 11, 0) := fun τ F => F.sh rfl (by omega) (by omega)
  have w1 := w.1 S.1 (by simp)
  have h8 := w1.1.2.1
  have h20 := w1.1.1
  have C0 := C
  obtain ⟨R, ⟨E, L, hc⟩, T, O, h3, h4, h5⟩ := C0
  have bad : ¬ ((0 ≤ x ∧ x < (cn S.1 1 : Int)) ∧ 0 ≤ y ∧ y < (cn S.1 0 : Int)) → G (d - 1) 126 0 [vR 64, vI 1] [] τ (KC d 114 18 21 [none, none, none, none, none, none] [] Q) := fun h => by
    unfold sp_buy at k
    rw [if_neg h] at k
    exact c126 F (t114_21 (k _ (EC.rfs F C w (by decide))))
  refine t114_0 (by omega) (s0 τ F) (c130 F R.1.2.1 h8 (fun t ht e => ?_) (fun e => t114_5 (by omega) (s0 τ F) (fun _ => bad (by omega)) (fun q => absurd rfl q)))
  subst e
  refine t114_5 (by omega) (s0 τ F) (fun q => absurd q (by decide)) (fun _ => c129 F R.1.1 h20 (fun r hr e => ?_) (fun e => t114_13 (q3 := 68) (n5 := 8) (by omega) (s0 τ F) (F.p rfl) (F.sh rfl (by omega) (by omega)) (fun q => absurd rfl q) (fun q => absurd rfl q) (fun _ => bad (by omega))))
  subst e
  unfold sp_buy at k
  rw [if_pos (by omega), Int.toNat_natCast, Int.toNat_natCast] at k
  have N := F.1
  have st := shT t (by omega)
  have pt := ptT t (by omega)
  have sr := shR r (by omega)
  have pr := ptR r (by omega)
  have s1 : ∀ τ : T2, FX2 τ → tS τ (172 + 6 * t) = (1, 8, 0) := fun τ F => F.sh st.1 (by omega) (by omega)
  have hb := ((w1.2.2.1 t ht).2.2 r (by omega)).2.2.1
  have h5b := (w1.2.1 r hr).2.2.2.2.2.1
  obtain ⟨h, hh⟩ : ∃ h : Nat, cD S.1 8 t r = (h : Int) := ⟨(cD S.1 8 t r).toNat, by omega⟩
  rw [hh, Int.toNat_natCast] at k
  have rf : ∀ why : Int, why ≠ 4 → EC τ (uI τ 64 16 why) (rfS S why) := fun why hw => EC.rfs F C w hw
  refine t114_13 (q3 := 68) (n5 := 8) (by omega) (s0 τ F) (F.p rfl) (F.sh rfl (by omega) (by omega)) (fun _ => by omega) (fun _ => ?_) (fun q => absurd q (by decide))
  rw [Int.toNat_natCast, F.p pt.1]
  refine c141 F R w1 ht hr (by omega) ?_
  have e6 : tI τ (173 + 6 * t) r = cD S.1 6 t r := R.sv ht (by omega)
  have e8 : tI τ (175 + 6 * t) r = (h : Int) := by rw [R.bo ht (by omega), hh]
  have eh : tI τ (92 + 4 * r) 6 = cD S.1 1 r 5 := R.r5 hr
  refine t114_35 (q3 := 173 + 6 * t) (n5 := 20) (q10 := 66) (n12 := 20) (q15 := 92 + 4 * r) (q17 := 175 + 6 * t) (n19 := 20) (by omega) (s1 _ F) (F.p pt.2.1) (F.sh st.2.1 (by omega) (by omega)) (fun _ => by omega) (s0 _ F) (F.p rfl) (F.sh rfl (by omega) (by omega)) (fun _ _ => by omega) (fun _ _ => by rw [Int.toNat_natCast]; exact F.p pr.1) (F.p pt.2.2.2.1) (F.sh st.2.2.2.1 (by omega) (by omega)) (fun _ _ => by omega) (F.sh sr.1 (by omega) (by omega)) (fun a1 a2 a3 => ?_) (fun a1 a2 a3 a4 => ?_) (fun a1 a2 a3 a4 => ?_) (fun a1 a2 => ?_) (fun a1 => ?_)
  · rw [Int.toNat_natCast, e6] at a2
    rw [Int.toNat_natCast, e8, eh] at a3
    rw [if_pos (bi_1 a1), if_pos a2, if_neg (by omega)] at k
    exact c126 F (t114_99 (k _ (rf 8 (by decide))))
  · rw [Int.toNat_natCast, e6] at a2
    rw [Int.toNat_natCast, e8, eh] at a3
    rw [Int.toNat_natCast, e8] at a4
    rw [if_pos (bi_1 a1), if_pos a2] at k
    rw [R.now, Int.toNat_natCast, e8]
    refine c62' F R w1 ht ?_
    have em : tI τ (94 + 4 * r) h = cD S.1 3 r h := R.hm hr (by omega)
    refine t114_112 (r3 := some (172 + 6 * t)) (q2 := 94 + 4 * r) (n4 := 3) (by omega) (F.sh sr.1 (by omega) (by omega)) (F.p pr.2.2.1) (F.sh sr.2.2.1 (by omega) (by omega)) (by omega) (s0 _ F) (fun a5 => ?_) (fun a5 => ?_)
    · rw [Int.toNat_natCast, em] at a5
      rw [if_pos ⟨a3, a5⟩] at k
      clear a5 em
      refine c127 F L (by omega) fun τ3 o3 F3 n3 z3 h0 hl => ?_
      have R3 := R.acc w1 F o3
      obtain ⟨T3, O3, h53⟩ := acc_C F o3 T O h5
      have N3 := F3.1
      have wg := wf_buy w1 ht hr hh a3
      have r20 : r < 20 := by omega
      have h33 : h < 3 := by omega
      clear a1 a2 a4 e6 e8 eh
      refine t114_141 (q2 := 177 + 6 * t) (n5 := 60) (q8 := 175 + 6 * t) (n10 := 20) (s1 _ F3) (F3.p pt.2.2.2.2.2) (s0 _ F3) (F3.sh st.2.2.2.2.2 (by omega) (by omega)) (by rw [ex3 r20 h33]; omega) (F3.p pt.2.2.2.1) (F3.sh st.2.2.2.1 (by omega) (by omega)) (by omega) ?_
      rw [ex3 r20 h33, Int.toNat_natCast, Int.toNat_natCast, R3.now, show tI (uI τ3 (177 + 6 * t) (3 * r + h) (cD S.1 0 0 0)) (175 + 6 * t) r = (h : Int) by rw [tI_uI, if_neg (by omega), R3.bo ht (by omega), hh], wr_id (by unfold okI; omega)]
      have R4 := R3.bu (t := t) (r := r) (h := h) (by omega) (by omega) hh (by omega)
      have o4 : OC (fun a _ => 172 + 6 * t ≤ a ∧ a ≤ 177 + 6 * t) τ3 (uI (uI τ3 (177 + 6 * t) (3 * r + h) (cD S.1 0 0 0)) (175 + 6 * t) r ((h : Int) + 1)) := OC.j (P := fun a _ => 172 + 6 * t ≤ a ∧ a ≤ 177 + 6 * t) (OC.j (P := fun a _ => 172 + 6 * t ≤ a ∧ a ≤ 177 + 6 * t) OC.rf (by omega)) (by omega)
      refine k _ ⟨(ACP_kp o3).tr (o4.kp (fun a k z => by omega)), F3.j.j, by show tN τ3 ≤ _; omega, by show tZ τ3 ≤ _; omega, CI.mkA R4 (hl.oc F3 o4 (fun a k z => by omega)) (und_buy_C w1 ht hr hh (by omega)) hc ((o3.fr fun a k z => by unfold ACP LGP at z; omega).tr (o4.fr fun a k z => by omega)) (T3.oc F3 o4 (fun a k z => by omega)) (O3.oc F3 o4 (fun a k z => by omega)) ?_ ?_⟩
      · rw [(o4.2.2.2 64 16 (by omega) (by omega)).1]; exact h0
      · rw [(o4.2.2.2 64 17 (by omega) (by omega)).1]; exact h53
    · rw [Int.toNat_natCast, em] at a5
      rw [if_neg (fun z => absurd z.2 (Int.not_le.mpr a5))] at k
      exact c126 F (t114_130 (k _ (rf 8 (by decide))))
  · rw [Int.toNat_natCast, e8, eh] at a3
    rw [Int.toNat_natCast, e8] at a4
    omega
  · rw [Int.toNat_natCast, e6] at a2
    rw [if_pos (bi_1 a1), if_neg a2] at k
    exact c126 F (t114_60 (k _ (rf 6 (by decide))))
  · rw [if_neg (by rw [bi_0 a1]; decide)] at k
    exact c126 F (t114_43 (k _ (rf 5 (by decide))))
