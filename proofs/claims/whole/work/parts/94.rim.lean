/-! riddle of the model -/
theorem wvl_d {f : Nat → Int} {a : Nat} (j : Nat) : ∀ i, (∀ q, q < j + i → isL (f (a + q)) = true) → wvl f a (j + i) / 2 ^ (5 * i) = wvl f a j
  | 0, _ => by
    rw [Nat.mul_zero, Nat.add_zero]
    show wvl f a j / 1 = _
    rw [Int.ediv_one]
  | i + 1, h => by
    have ih := wvl_d j i (fun q hq => h q (by omega))
    have hl := isL_i (h (j + i) (by omega))
    have e1 : wvl f a (j + (i + 1)) = 32 * wvl f a (j + i) + (f (a + (j + i)) - 96) := rfl
    have e2 : (2 : Int) ^ (5 * (i + 1)) = 32 * 2 ^ (5 * i) := by
      rw [Nat.mul_succ, Int.pow_add, Int.mul_comm]
      rfl
    rw [e2, ← Int.ediv_ediv_of_nonneg (by decide), e1]
    rw [show (32 * wvl f a (j + i) + (f (a + (j + i)) - 96)) / 32 = wvl f a (j + i) by omega]
    exact ih
theorem wvl_60 {f : Nat → Int} {a j : Nat} (hj : j ≤ 12) (h : ∀ q, q < j → isL (f (a + q)) = true) : 0 ≤ wvl f a j ∧ wvl f a j < 1152921504606846976 := by
  have h1 := wvl_b j h
  have h2 : (32 : Int) ^ j ≤ 32 ^ 12 := p32 hj
  have h3 : (32 : Int) ^ 12 = 1152921504606846976 := by decide
  omega
theorem plM {r g i k : Nat} (h : ¬ (i = r ∧ 1 ≤ g ∧ g ≤ 4)) : (r < 20 → aM g i ≠ 336 + 4 * r ∧ aM g i ≠ 337 + 4 * r) ∧ aM g i ≠ 223 ∧ (aM g i = 220 → kM g k = 7) := by
  have q1 := aM_c g i
  refine ⟨fun hr => ?_, ?_, fun e => ?_⟩
  · rcases q1 with q | q | q <;> omega
  · rcases q1 with q | q | q <;> omega
  · have : g = 0 := by rcases q1 with q | q | q <;> omega
    rw [this]
    rfl
theorem RM.ri {τ τ1 : T2} {c : CO} {r : Nat} {kd rd : Int} {w : List Int} (R : RM τ c) (F : FX2 τ) (h8 : cn c 1 ≤ 8) (hr : cn c 0 = r) (h20 : r < 20) (hw : w.length ≤ 12) (o : OC (fun a k => (a = 336 + 4 * r ∧ (k ≤ 5 ∨ (9 ≤ k ∧ k ≤ 11))) ∨ a = 337 + 4 * r) τ τ1) (hP : ∀ a, a ≠ 336 + 4 * r → tP τ1 a = tP τ a) (e0 : tI τ1 (336 + 4 * r) 0 = kd) (e1 : tI τ1 (336 + 4 * r) 1 = rd) (e3 : tI τ1 (336 + 4 * r) 2 = (w.length : Int)) (e4 : tI τ1 (336 + 4 * r) 3 = 0) (e5 : tI τ1 (336 + 4 * r) 4 = 0) (e6 : tI τ1 (336 + 4 * r) 5 = 0) (p9 : tP τ1 (336 + 4 * r) 9 = none) (p10 : tP τ1 (336 + 4 * r) 10 = none) (p11 : tP τ1 (336 + 4 * r) 11 = none) (hl : Ls τ1 (337 + 4 * r) w) : RM (uI τ1 220 4 ((r + 1 : Nat) : Int)) (cRi c kd rd w) := by
  obtain ⟨⟨a1, a2, a3⟩, hI, h5, h7, h6⟩ := R
  have N := F.1
  have sm : ∀ a k, a < 473 → ¬ ((a = 336 + 4 * r ∧ (k ≤ 5 ∨ (9 ≤ k ∧ k ≤ 11))) ∨ a = 337 + 4 * r) → ¬ (a = 220 ∧ k = 4) → tI (uI τ1 220 4 ((r + 1 : Nat) : Int)) a k = tI τ a k := fun a k h1 h2 h3 => by
    rw [tI_uI, if_neg h3]; exact (o.2.2.2 a k (by omega) h2).1
  have fr : Fr τ (uI τ1 220 4 ((r + 1 : Nat) : Int)) := (o.fr fun a k z => by omega).tr (Fr.u (by omega))
  refine ⟨⟨?_, ?_, ?_⟩, fun g i k z => ?_, fun u hu => ?_, fun t ht => ?_, fun i hi => ?_⟩
  · rw [tI_uI, if_pos ⟨rfl, rfl⟩, cRi_n.1, hr]
  · rw [sm 220 5 (by omega) (by omega) (by omega)]; exact a2
  · rw [sm 220 6 (by omega) (by omega) (by omega)]; exact a3
  · rcases cRi_ok z with ⟨z1, z2⟩ | ⟨z1, z2⟩
    · obtain ⟨v1, v2⟩ := hI g i k z1
      refine ⟨v1, fun h9 => ?_⟩
      rw [hr] at z2
      have y1 := plM (r := r) (k := k) (g := g) (i := i) (fun q => z2 q)
      have y4 := (vd_M v1 h9).2
      rw [cRi_o (by rw [hr]; omega), sm _ _ (by omega) (by omega) (by omega)]
      exact v2 h9
    · rw [hr] at z1
      subst z1
      have v : vd g i k := by
        rcases z2 with ⟨z2, z3⟩ | ⟨z2, z3⟩
        · exact Or.inr (Or.inl ⟨z2, by omega, z3⟩)
        · exact Or.inr (Or.inr (Or.inl ⟨z2, by omega, by omega⟩))
      refine ⟨v, fun h9 => ?_⟩
      have wv : ∀ a k1, a = aM g i → k1 = kM g k → a ≠ 220 → tI (uI τ1 220 4 ((i + 1 : Nat) : Int)) (aM g i) (kM g k) = tI τ1 a k1 := fun a k1 h1 h2 h3 => by rw [← h1, ← h2, tI_uI, if_neg (by omega)]
      rcases z2 with ⟨z2, z3⟩ | ⟨z2, z3⟩
      · subst z2
        rw [← hr, cRi_1, hr, wv (336 + 4 * i) k rfl rfl (by omega)]
        by_cases k0 : k = 0
        · subst k0
          rw [if_pos rfl]; exact e0
        · by_cases k1 : k = 1
          · subst k1
            rw [if_neg k0, if_pos rfl]; exact e1
          · by_cases k2 : k = 2
            · subst k2
              rw [if_neg k0, if_neg k1, if_pos rfl]; exact e3
            · rw [if_neg k0, if_neg k1, if_neg k2]
              by_cases k3 : k = 3
              · subst k3
                exact e4
              · by_cases k4 : k = 4
                · subst k4
                  exact e5
                · obtain rfl : k = 5 := by omega
                  exact e6
      · subst z2
        rw [← hr, cRi_2, hr, wv (337 + 4 * i) k rfl rfl (by omega)]
        exact hl k z3
  · rw [sm 223 u (by omega) (by omega) (by omega), wdl_cg (c := c) (cRi_o (by omega)) (fun k _ => cRi_o (by omega))]
    exact h5 u hu
  · rw [cRi_n.2.1] at ht
    obtain ⟨b1, b2⟩ := h7 t ht
    refine ⟨?_, fun j x hj => ⟨?_, ?_⟩⟩
    · rw [sm _ _ (by omega) (by omega) (by omega)]; exact b1
    · rw [sm _ _ (by omega) (by omega) (by omega)]; exact (b2 j x hj).1
    · rw [sm _ _ (by omega) (by omega) (by omega)]; exact (b2 j x hj).2
  · rw [tP_uI]
    rw [cRi_n.1, hr] at hi
    by_cases e : i = r
    · subst e
      have u : ∀ {α : Type} (f : Nat → Option α), uf f (cn c 0) none i = none := fun f => by unfold uf; rw [if_pos hr.symm]
      rw [p9, p10, p11, show cR (cRi c kd rd w) i = none from u (cR c), show cF (cRi c kd rd w) i = none from u (cF c), show cW (cRi c kd rd w) i = none from u (cW c)]
      exact ⟨Or.inl ⟨rfl, rfl⟩, Or.inl ⟨rfl, rfl⟩, Or.inl ⟨rfl, rfl⟩⟩
    · have u : ∀ {α : Type} (f : Nat → Option α), uf f (cn c 0) none i = f i := fun f => by unfold uf; rw [if_neg (by omega)]
      rw [hP _ (by omega), show cR (cRi c kd rd w) i = cR c i from u (cR c), show cF (cRi c kd rd w) i = cF c i from u (cF c), show cW (cRi c kd rd w) i = cW c i from u (cW c)]
      obtain ⟨b1, b2, b3⟩ := h6 i (by omega)
      exact ⟨b1.mo fun _ _ z => z.fr fr, b2.mo fun _ _ z => z.fr fr, b3.mo fun _ _ z => z.fr fr⟩
/-- the letters out of a word's number -/
theorem wlt {f : Nat → Int} {p n k : Nat} (hn : n ≤ 12) (h : ∀ q, q < n → isL (f (p + q)) = true) (hk : k < n) : zbyt (zbyt (wr (wl ((wl ((land (lshr (wvl f p n) (wr (5 * (wr ((wr ((n : Int) - 1)) - (k : Int)))))) 31) + 97)) - 1)))) = f (p + k) := by
  have hw := wvl_60 (f := f) (a := p) hn h
  rw [wr_id (x := (n : Int) - 1) (by unfold okI; omega), wr_id (x := (n : Int) - 1 - (k : Int)) (by unfold okI; omega), wr_id (x := 5 * ((n : Int) - 1 - (k : Int))) (by unfold okI; omega)]
  rw [show 5 * ((n : Int) - 1 - (k : Int)) = ((5 * (n - 1 - k) : Nat) : Int) by omega]
  rw [lshr_eq (by unfold okJ; omega) (by omega)]
  have hd := wvl_d (f := f) (a := p) (k + 1) (n - 1 - k) (fun q hq => h q (by omega))
  rw [show k + 1 + (n - 1 - k) = n by omega] at hd
  rw [hd]
  have hb := wvl_60 (f := f) (a := p) (j := k + 1) (by omega) (fun q hq => h q (by omega))
  have hl := isL_i (h k hk)
  have e1 : wvl f p (k + 1) = 32 * wvl f p k + (f (p + k) - 96) := rfl
  obtain ⟨v, hv⟩ : ∃ v : Nat, wvl f p (k + 1) = (v : Int) := ⟨(wvl f p (k + 1)).toNat, by omega⟩
  have el : land (wvl f p (k + 1)) 31 = f (p + k) - 96 := by
    rw [hv]
    have := land_nat (x := v) (y := 31) (by omega) (by decide)
    have this : land (v : Int) 31 = ((v &&& 31 : Nat) : Int) := this
    have h31 : v &&& 31 = v % 32 := Nat.and_two_pow_sub_one_eq_mod v 5
    rw [this, h31]
    omega
  rw [el, wl_id (x := f (p + k) - 96 + 97) (by unfold okJ; omega), wl_id (by unfold okJ; omega), wr_id (by unfold okI; omega), zbyt_id (x := f (p + k) - 96 + 97 - 1) (by omega) (by omega), zbyt_id (by omega) (by omega)]
  omega
theorem lcm_p {x : Int} (h : 0 < x) : lcm x 0 = 1 := by
  unfold lcm
  rw [if_neg (by omega), if_neg (by omega)]
theorem mc210 {kd rd x : Int} : MCl 210 [vR 220, vI kd, vI rd, vI x, none, none, none] (sp_riddle kd rd x) := fun d τ S Q hd F C w k => by
  have s0 : ∀ τ : T2, FX2 τ → tS τ 220 = (1, 21, 0) := fun τ F => F.sh rfl (by omega) (by omega)
  have w1 := w.1 S.1 (by simp)
  refine t210_0 (by omega) (s0 τ F) ?_
  have k := fun τ2 h => k τ2 (EM.bef (Kp.rf.j (a := 220) (k := 0) (x := 0) (by omega) (by omega)) rfl rfl h)
  have C := C.t0 w F (x := 0)
  have F : FX2 (uI τ 220 0 0) := F.j
  generalize uI τ 220 0 0 = τ at *
  have C0 := C
  obtain ⟨R, ⟨E, L, hc⟩, T, O, h3, h4, h5⟩ := C0
  have h300 := w.2.1
  have hTp : (sTp S).length = S.2.2.1.length := rfl
  have hbyte := w.2.2.1
  have bad : ¬ ((0 ≤ x ∧ x ≤ ((sTp S).length : Int)) ∧ (0 ≤ kd ∧ kd ≤ 2) ∧ 0 ≤ rd ∧ rd ≤ 5) → G (d - 1) 163 0 [vR 220, vI 2] [] τ (KC d 210 33 36 [none, none, none, none, none, none, none] [] Q) := fun h => by
    unfold sp_riddle at k
    rw [if_neg h] at k
    exact m163 F (t210_36 (k _ (EM.rfs F C w)))
  refine m206 F T.1 (fun n hn e => ?_) (fun c => t210_10 (by omega) (s0 τ F) (fun _ => bad (by omega)) (fun c => absurd rfl c))
  subst e
  refine t210_10 (by omega) (s0 τ F) (fun c => absurd c (by decide)) (fun _ => m167 (fun a1 a2 => ?_) (fun c => t210_19 (by omega) (s0 τ F) (fun _ => bad (by omega)) (fun c => absurd rfl c)))
  refine t210_19 (by omega) (s0 τ F) (fun c => absurd c (by decide)) (fun _ => m167 (fun a3 a4 => ?_) (fun c => t210_28 (by omega) (s0 τ F) (fun c => absurd rfl c) (fun _ => bad (by omega))))
  unfold sp_riddle at k
  rw [if_pos (by omega), Int.toNat_natCast] at k
  refine t210_28 (by omega) (s0 τ F) (fun _ => ?_) (fun c => absurd c (by decide))
  refine m208 F T h300 hbyte hn (by omega) (fun τ1 o1 F1 n1 z1 e1 hw ew => ?_) (fun τ1 o1 F1 n1 z1 e1 hw => ?_)
  · rw [if_pos hw] at k
    have N := F.1
    have N1 := F1.1
    have R1 : RM τ1 S.1 := R.oc w1 F o1 (fun a k z => by unfold BGM at z; unfold DM; omega)
    have L1 : LgM τ1 E := L.oc F o1 (fun a k z => by unfold BGM at z; omega)
    have O1 : OuM τ1 (sOu S) := O.oc F o1 (fun a k z => by unfold BGM at z; omega)
    have q17 : tI τ1 220 3 = sFa S := by rw [(o1.2.2.2 220 3 (by omega) (by unfold BGM; omega)).1]; exact h5
    obtain ⟨r, hr⟩ : ∃ r, cn S.1 0 = r := ⟨_, rfl⟩
    have en : tI τ1 220 4 = (r : Int) := by rw [R1.1.1, hr]
    have h20 := w1.1.1
    rw [hr] at h20
    obtain ⟨g1, g2, g3', g4, g5, g6, g7, g8⟩ := oneW_w hw
    have ew2 : tI τ1 220 22 = wvl (byt (sTp S)) (tkF (byt (sTp S)) n 0) (tkW (byt (sTp S)) n 0).length := by
      rw [ew, g1]
      exact wen_wvl _
    generalize hW : tkW (byt (sTp S)) n 0 = W at *
    generalize tkF (byt (sTp S)) n 0 = p at *
    generalize byt (sTp S) = f at *
    have mk : ¬ (kd = 2 ∧ ¬ lasR S.1 = -1) → r < 20 → G d 210 121 [vR 220, none, none, none, vR (336 + 4 * r), vJ (tI (uI (uI (uI τ1 (336 + 4 * r) 0 kd) (336 + 4 * r) 1 rd) (336 + 4 * r) 2 0) 220 22), none] [] (uI (uI (uI τ1 (336 + 4 * r) 0 kd) (336 + 4 * r) 1 rd) (336 + 4 * r) 2 0) Q := fun hl hr20 => by
      rw [if_neg hl, hr, if_pos hr20] at k
      have sr := shM r hr20
      have pr := ptM r hr20
      have p9 := ptR9 r hr20
      have s1 : ∀ τ : T2, FX2 τ → tS τ (336 + 4 * r) = (1, 15, 0) := fun τ F => F.sh sr.1 (by omega) (by omega)
      -- behind both loops
      have fin : ∀ τ2 : T2, OC (fun a k => (a = 336 + 4 * r ∧ (k ≤ 5 ∨ (9 ≤ k ∧ k ≤ 11))) ∨ a = 337 + 4 * r) τ1 τ2 → FX2 τ2 → tN τ2 = tN τ1 → tZ τ2 = tZ τ1 → tP τ2 = tP τ1 → tI τ2 (336 + 4 * r) 0 = kd → tI τ2 (336 + 4 * r) 1 = rd → tI τ2 (336 + 4 * r) 2 = (W.length : Int) → Ls τ2 (337 + 4 * r) W → G d 210 151 [vR 220, none, none, none, vR (336 + 4 * r), vI (W.length : Int), none] [] τ2 Q := by
        intro τ2 o2 F2 n2 z2 P2 e0 e1' e3 hl2
        refine t210_151 (q4 := 337 + 4 * r) (n6 := 12) (by omega) (s1 _ F2) (s0 _ F2) (F2.p pr.2.1) (F2.sh sr.2.1 (by omega) (by omega)) (fun c => by rw [e3] at c; omega) (fun _ => ?_) (fun c => by rw [e3] at c; omega)
        have g : ∀ i, i < 3 → tI (uP (uP (uP (uI (uI (uI τ2 (336 + 4 * r) 3 0) (336 + 4 * r) 4 0) (336 + 4 * r) 5 0) (336 + 4 * r) 9 none) (336 + 4 * r) 10 none) (336 + 4 * r) 11 none) (336 + 4 * r) i = tI τ2 (336 + 4 * r) i := fun i hi => by
          rw [tI_uP, tI_uP, tI_uP, tI_uI, if_neg (by omega), tI_uI, if_neg (by omega), tI_uI, if_neg (by omega)]
        have g3 : tI (uP (uP (uP (uI (uI (uI τ2 (336 + 4 * r) 3 0) (336 + 4 * r) 4 0) (336 + 4 * r) 5 0) (336 + 4 * r) 9 none) (336 + 4 * r) 10 none) (336 + 4 * r) 11 none) (337 + 4 * r) = tI τ2 (337 + 4 * r) := by
          funext i
          rw [tI_uP, tI_uP, tI_uP, tI_uI, if_neg (by omega), tI_uI, if_neg (by omega), tI_uI, if_neg (by omega)]
        have q3 : tI (uP (uP (uP (uI (uI (uI τ2 (336 + 4 * r) 3 0) (336 + 4 * r) 4 0) (336 + 4 * r) 5 0) (336 + 4 * r) 9 none) (336 + 4 * r) 10 none) (336 + 4 * r) 11 none) (336 + 4 * r) 3 = 0 := by rw [tI_uP, tI_uP, tI_uP, tI_uI, if_neg (by omega), tI_uI, if_neg (by omega), tI_uI, if_pos ⟨rfl, rfl⟩]
        have q4 : tI (uP (uP (uP (uI (uI (uI τ2 (336 + 4 * r) 3 0) (336 + 4 * r) 4 0) (336 + 4 * r) 5 0) (336 + 4 * r) 9 none) (336 + 4 * r) 10 none) (336 + 4 * r) 11 none) (336 + 4 * r) 4 = 0 := by rw [tI_uP, tI_uP, tI_uP, tI_uI, if_neg (by omega), tI_uI, if_pos ⟨rfl, rfl⟩]
        have q5 : tI (uP (uP (uP (uI (uI (uI τ2 (336 + 4 * r) 3 0) (336 + 4 * r) 4 0) (336 + 4 * r) 5 0) (336 + 4 * r) 9 none) (336 + 4 * r) 10 none) (336 + 4 * r) 11 none) (336 + 4 * r) 5 = 0 := by rw [tI_uP, tI_uP, tI_uP, tI_uI, if_pos ⟨rfl, rfl⟩]
        have q9 : tP (uP (uP (uP (uI (uI (uI τ2 (336 + 4 * r) 3 0) (336 + 4 * r) 4 0) (336 + 4 * r) 5 0) (336 + 4 * r) 9 none) (336 + 4 * r) 10 none) (336 + 4 * r) 11 none) (336 + 4 * r) 9 = none := by rw [tP_uP, if_neg (by omega), tP_uP, if_neg (by omega), tP_uP, if_pos ⟨rfl, rfl⟩]
        have q10 : tP (uP (uP (uP (uI (uI (uI τ2 (336 + 4 * r) 3 0) (336 + 4 * r) 4 0) (336 + 4 * r) 5 0) (336 + 4 * r) 9 none) (336 + 4 * r) 10 none) (336 + 4 * r) 11 none) (336 + 4 * r) 10 = none := by rw [tP_uP, if_neg (by omega), tP_uP, if_pos ⟨rfl, rfl⟩]
        have q11 : tP (uP (uP (uP (uI (uI (uI τ2 (336 + 4 * r) 3 0) (336 + 4 * r) 4 0) (336 + 4 * r) 5 0) (336 + 4 * r) 9 none) (336 + 4 * r) 10 none) (336 + 4 * r) 11 none) (336 + 4 * r) 11 = none := by rw [tP_uP, if_pos ⟨rfl, rfl⟩]
        have hP : ∀ a, a ≠ 336 + 4 * r → tP (uP (uP (uP (uI (uI (uI τ2 (336 + 4 * r) 3 0) (336 + 4 * r) 4 0) (336 + 4 * r) 5 0) (336 + 4 * r) 9 none) (336 + 4 * r) 10 none) (336 + 4 * r) 11 none) a = tP τ1 a := fun a ha => by
          funext i
          rw [tP_uP, if_neg (by omega), tP_uP, if_neg (by omega), tP_uP, if_neg (by omega), tP_uI, tP_uI, tP_uI, P2]
        have o3 : OC (fun a k => (a = 336 + 4 * r ∧ (k ≤ 5 ∨ (9 ≤ k ∧ k ≤ 11))) ∨ a = 337 + 4 * r) τ1 (uP (uP (uP (uI (uI (uI τ2 (336 + 4 * r) 3 0) (336 + 4 * r) 4 0) (336 + 4 * r) 5 0) (336 + 4 * r) 9 none) (336 + 4 * r) 10 none) (336 + 4 * r) 11 none) := (((((o2.j (by omega)).j (by omega)).j (by omega)).q (by omega)).q (by omega)).q (by omega)
        have F3 : FX2 (uP (uP (uP (uI (uI (uI τ2 (336 + 4 * r) 3 0) (336 + 4 * r) 4 0) (336 + 4 * r) 5 0) (336 + 4 * r) 9 none) (336 + 4 * r) 10 none) (336 + 4 * r) 11 none) := ((F2.j.j.j.q p9.2.2.2.1).q p9.2.2.2.2.1).q p9.2.2.2.2.2
        have n3 : tN (uP (uP (uP (uI (uI (uI τ2 (336 + 4 * r) 3 0) (336 + 4 * r) 4 0) (336 + 4 * r) 5 0) (336 + 4 * r) 9 none) (336 + 4 * r) 10 none) (336 + 4 * r) 11 none) = tN τ1 := n2
        have z3 : tZ (uP (uP (uP (uI (uI (uI τ2 (336 + 4 * r) 3 0) (336 + 4 * r) 4 0) (336 + 4 * r) 5 0) (336 + 4 * r) 9 none) (336 + 4 * r) 10 none) (336 + 4 * r) 11 none) = tZ τ1 := z2
        have e0 := (g 0 (by omega)).trans e0
        have e1' := (g 1 (by omega)).trans e1'
        have e3 := (g 2 (by omega)).trans e3
        have hl2 : Ls (uP (uP (uP (uI (uI (uI τ2 (336 + 4 * r) 3 0) (336 + 4 * r) 4 0) (336 + 4 * r) 5 0) (336 + 4 * r) 9 none) (336 + 4 * r) 10 none) (336 + 4 * r) 11 none) (337 + 4 * r) W := fun j hj => by rw [g3]; exact hl2 j hj
        generalize (uP (uP (uP (uI (uI (uI τ2 (336 + 4 * r) 3 0) (336 + 4 * r) 4 0) (336 + 4 * r) 5 0) (336 + 4 * r) 9 none) (336 + 4 * r) 10 none) (336 + 4 * r) 11 none) = τ3 at q3 q4 q5 q9 q10 q11 hP o3 F3 n3 z3 e0 e1' e3 hl2
        have o3' : OC (fun a _ => 336 + 4 * r ≤ a ∧ a ≤ 337 + 4 * r) τ1 τ3 := o3.mo fun a k z => by omega
        have w2 := wf_rid w1 (by omega) ⟨a1, a2⟩ ⟨a3, a4⟩ ⟨g2, g3'⟩ g4 (kd := kd) (rd := rd)
        have T1 : TpM τ1 [] := ⟨e1, fun j hj => by cases hj⟩
        refine m170 F3 (L1.oc F1 o3' (fun a k z => by omega)) fun τ4 q pp o4 F4 n4 z4 hl4 => t210_249 (s0 := some q) (by omega) (s0 _ F4) ?_
        have N3 := F3.1
        have en4 : tI τ4 220 4 = (r : Int) := by rw [(o4.2.2.2 220 4 (by omega) (by unfold AMP; omega)).1, (o3'.2.2.2 220 4 (by omega) (by omega)).1]; exact en
        rw [en4, wr_nat (by omega), show tI (uI τ4 220 4 ((r + 1 : Nat) : Int)) 220 4 = ((r + 1 : Nat) : Int) by rw [tI_uI, if_pos ⟨rfl, rfl⟩], show wr (((r + 1 : Nat) : Int) - 1) = (r : Int) by rw [wr_id (by unfold okI; omega)]; omega]
        obtain ⟨T4, O4, h54⟩ := acc_M F3 o4 (T1.oc F1 o3' (fun a k z => by omega)) (O1.oc F1 o3' (fun a k z => by omega)) ((o3'.2.2.2 220 3 (by omega) (by omega)).1.trans q17)
        have R3 : RM (uI τ3 220 4 ((r + 1 : Nat) : Int)) (cRi S.1 kd rd W) := RM.ri R1 F1 w1.1.2.1 hr hr20 g3' o3 hP e0 e1' e3 q3 q4 q5 q9 q10 q11 hl2
        have R4 : RM (uI τ4 220 4 ((r + 1 : Nat) : Int)) (cRi S.1 kd rd W) := by
          refine R3.oc w2 F3.j (P := AMP) ⟨o4.1, o4.2.1, o4.2.2.1, fun a k ha hn => ⟨?_, ?_⟩⟩ (fun a k z => by unfold AMP at z; unfold DM; omega)
          · rw [tI_uI, tI_uI]
            split
            · rfl
            · exact (o4.2.2.2 a k ha hn).1
          · exact (o4.2.2.2 a k ha hn).2
        have o5 : OC (fun a k => a = 220 ∧ k = 4) τ4 (uI τ4 220 4 ((r + 1 : Nat) : Int)) := OC.j (P := fun a k => a = 220 ∧ k = 4) OC.rf ⟨rfl, rfl⟩
        refine m165 F4.j (t210_270 ?_)
        refine k (dnM (uI τ4 220 4 ((r + 1 : Nat) : Int))) ⟨(((((BGM_kp o1).tr (o3'.kp (fun a k z => by omega))).tr (AMP_kp o4)).j (by omega) (by omega)).j (by omega) (by omega)).j (by omega) (by omega), F4.j.j.j, by show tN τ4 ≤ _; omega, by show tZ τ4 ≤ _; omega, MI.mkD F4.j w2 R4 (hl4.lg.oc F4 o5 (fun a k z => by omega)) (und_rid_M hr20 hr) hc ((((o1.fr fun a k z => by unfold BGM at z; omega).tr (o3'.fr fun a k z => by omega)).tr (o4.fr fun a k z => by unfold AMP at z; omega)).tr (Fr.u (by omega))) (T4.oc F4 o5 (fun a k z => by omega)) (O4.oc F4 o5 (fun a k z => by omega)) ?_⟩
        rw [tI_uI, if_neg (by decide)]; exact h54
      -- the letters
      have lp2 : ∀ (j i : Nat) (τ2 : T2), i + j = W.length → OC (fun a k => (a = 336 + 4 * r ∧ (k ≤ 5 ∨ (9 ≤ k ∧ k ≤ 11))) ∨ a = 337 + 4 * r) τ1 τ2 → FX2 τ2 → tN τ2 = tN τ1 → tZ τ2 = tZ τ1 → tP τ2 = tP τ1 → tI τ2 (336 + 4 * r) 0 = kd → tI τ2 (336 + 4 * r) 1 = rd → tI τ2 (336 + 4 * r) 2 = (W.length : Int) → (∀ q, q < i → tI τ2 (337 + 4 * r) q = W.getD q 0) → G d 210 151 [vR 220, none, none, none, vR (336 + 4 * r), vI (i : Int), none] [] τ2 Q := by
        intro j
        induction j with
        | zero =>
          intro i τ2 hi o2 F2 n2 z2 P2 e0 e1' e3 e9
          have e : i = W.length := by omega
          subst e
          exact fin τ2 o2 F2 n2 z2 P2 e0 e1' e3 e9
        | succ j ih =>
          intro i τ2 hi o2 F2 n2 z2 P2 e0 e1' e3 e9
          refine t210_151 (q4 := 337 + 4 * r) (n6 := 12) (by omega) (s1 _ F2) (s0 _ F2) (F2.p pr.2.1) (F2.sh sr.2.1 (by omega) (by omega)) (fun _ => by omega) (fun c => by rw [e3] at c; omega) (fun _ => ?_)
          have e22 : tI τ2 220 22 = wvl f p W.length := by rw [(o2.2.2.2 220 22 (by omega) (by omega)).1]; exact ew2
          rw [e3, e22, wlt g3' g8 (by omega), ← g7 i (by omega), wr_nat (by omega), Int.toNat_natCast]
          have g : ∀ k, tI (uI τ2 (337 + 4 * r) i (W.getD i 0)) (336 + 4 * r) k = tI τ2 (336 + 4 * r) k := fun k => by rw [tI_uI, if_neg (by omega)]
          refine ih (i + 1) _ (by omega) (o2.j (by omega)) F2.j n2 z2 P2 (by rw [g]; exact e0) (by rw [g]; exact e1') (by rw [g]; exact e3) (fun q hq => ?_)
          rw [tI_uI]
          by_cases e : q = i
          · rw [if_pos ⟨rfl, e⟩, e]
          · rw [if_neg (fun z => e z.2)]
            exact e9 q (by omega)
      -- how many
      have lp1 : ∀ (j i : Nat) (τ2 : T2), i + j = W.length → OC (fun a k => (a = 336 + 4 * r ∧ (k ≤ 5 ∨ (9 ≤ k ∧ k ≤ 11))) ∨ a = 337 + 4 * r) τ1 τ2 → FX2 τ2 → tN τ2 = tN τ1 → tZ τ2 = tZ τ1 → tP τ2 = tP τ1 → tI τ2 (336 + 4 * r) 0 = kd → tI τ2 (336 + 4 * r) 1 = rd → tI τ2 (336 + 4 * r) 2 = (i : Int) → G d 210 121 [vR 220, none, none, none, vR (336 + 4 * r), vJ (wvl f p j), none] [] τ2 Q := by
        intro j
        induction j with
        | zero =>
          intro i τ2 hi o2 F2 n2 z2 P2 e0 e1' e3
          refine t210_121 (s1 _ F2) (fun _ => ?_) (fun c => absurd (show 0 < lcm 0 0 from c) (by decide))
          refine lp2 W.length 0 τ2 (by omega) o2 F2 n2 z2 P2 e0 e1' (by rw [e3, show i = W.length by omega]) (fun q hq => by omega)
        | succ j ih =>
          intro i τ2 hi o2 F2 n2 z2 P2 e0 e1' e3
          have hb := wvl_60 (f := f) (a := p) (j := j) (by omega) (fun q hq => g8 q (by omega))
          have hb1 := wvl_60 (f := f) (a := p) (j := j + 1) (by omega) (fun q hq => g8 q (by omega))
          have hl := isL_i (g8 j (by omega))
          have e5 : wvl f p (j + 1) = 32 * wvl f p j + (f (p + j) - 96) := rfl
          refine t210_121 (s1 _ F2) (fun c => by rw [lcm_p (by omega)] at c; omega) (fun _ => ?_)
          have el : lshr (wvl f p (j + 1)) 5 = wvl f p j := by
            have := lshr_eq (x := wvl f p (j + 1)) (k := 5) (by unfold okJ; omega) (by decide)
            have this : lshr (wvl f p (j + 1)) 5 = wvl f p (j + 1) / 2 ^ 5 := this
            rw [this, e5]
            omega
          rw [el, e3, wr_nat (by omega)]
          have g : ∀ k, k ≠ 2 → tI (uI τ2 (336 + 4 * r) 2 ((i + 1 : Nat) : Int)) (336 + 4 * r) k = tI τ2 (336 + 4 * r) k := fun k hk => by rw [tI_uI, if_neg (by omega)]
          exact ih (i + 1) _ (by omega) (o2.j (by omega)) F2.j n2 z2 P2 (by rw [g 0 (by decide)]; exact e0) (by rw [g 1 (by decide)]; exact e1') (by rw [tI_uI, if_pos ⟨rfl, rfl⟩])
      have e22 : tI (uI (uI (uI τ1 (336 + 4 * r) 0 kd) (336 + 4 * r) 1 rd) (336 + 4 * r) 2 0) 220 22 = wvl f p W.length := by rw [tI_uI, if_neg (by omega), tI_uI, if_neg (by omega), tI_uI, if_neg (by omega)]; exact ew2
      rw [e22]
      exact lp1 W.length 0 _ (by omega) (((OC.rf.j (by omega)).j (by omega)).j (by omega)) F1.j.j.j rfl rfl rfl (by rw [tI_uI, if_neg (by omega), tI_uI, if_neg (by omega), tI_uI, if_pos ⟨rfl, rfl⟩]) (by rw [tI_uI, if_neg (by omega), tI_uI, if_pos ⟨rfl, rfl⟩]) (by rw [tI_uI, if_pos ⟨rfl, rfl⟩]; rfl)
    have full : ¬ (kd = 2 ∧ ¬ lasR S.1 = -1) → r = 20 → G (d - 1) 163 0 [vR 220, vI 3] [] τ1 (KC d 210 82 85 [none, none, none, none, none, none, none] [] Q) := fun hl hr20 => by
      rw [if_neg hl, hr, if_neg (by omega)] at k
      exact m163 F1 (t210_85 (k _ (EM.bgr C w F F1 o1 n1 z1 e1)))
    obtain ⟨q, hq1, hq2⟩ : ∃ q, (r < 20 → q = 336 + 4 * r) ∧ (20 ≤ r → q = 336) := by
      by_cases h : r < 20
      · exact ⟨336 + 4 * r, fun _ => rfl, fun c => by omega⟩
      · exact ⟨336, fun c => absurd c h, fun _ => rfl⟩
    have sq : tS τ1 q = (1, 15, 0) ∧ (r < 20 → tP τ1 221 r = some q) := by
      by_cases h : r < 20
      · rw [hq1 h]; exact ⟨F1.sh (shM r h).1 (by omega) (by omega), fun _ => F1.p (ptM r h).1⟩
      · rw [hq2 (by omega)]; exact ⟨F1.sh rfl (by omega) (by omega), fun c => absurd c h⟩
    obtain ⟨sq1, sq2⟩ := sq
    refine t210_42 (q5 := 221) (n7 := 20) (q10 := q) (by omega) (s0 _ F1) (F1.p rfl) (F1.sh rfl (by omega) (by omega)) (fun _ _ c => by rw [en] at c ⊢; omega) (fun _ _ c => by rw [en] at c ⊢; rw [Int.toNat_natCast]; exact sq2 (by omega)) sq1 (fun _ c1 c2 => ?_) (fun _ c1 c2 => ?_) (fun _ c1 => ?_) (fun c => absurd c (by decide))
    · rw [en] at c2
      rw [hq1 (by omega)]
      exact mk (fun z => c1 z.1) (by omega)
    · rw [en] at c2
      exact full (fun z => c1 z.1) (by omega)
    · refine m209 F1 R1 w1 ?_
      refine t210_60 (q4 := 221) (n6 := 20) (q9 := q) (by omega) (s0 _ F1) (F1.p rfl) (F1.sh rfl (by omega) (by omega)) (fun _ c => by rw [en] at c ⊢; omega) (fun _ c => by rw [en] at c ⊢; rw [Int.toNat_natCast]; exact sq2 (by omega)) sq1 (fun c2 c3 => ?_) (fun c2 c3 => ?_) (fun c2 => ?_)
      · rw [en] at c3
        rw [hq1 (by omega)]
        exact mk (fun z => z.2 c2) (by omega)
      · rw [en] at c3
        exact full (fun z => z.2 c2) (by omega)
      · rw [if_pos ⟨c1, c2⟩] at k
        exact m163 F1 (t210_70 (k _ (EM.bgr C w F F1 o1 n1 z1 e1)))
  · rw [if_neg (by rw [hw]; decide)] at k
    exact t210_42 (q5 := 221) (n7 := 20) (q10 := 336) (by omega) (s0 _ F1) (F1.p rfl) (F1.sh rfl (by omega) (by omega)) (fun c => absurd rfl c) (fun c => absurd rfl c) (F1.sh rfl (by omega) (by omega)) (fun c => absurd rfl c) (fun c => absurd rfl c) (fun c => absurd rfl c) (fun _ => m163 F1 (t210_50 (k _ (EM.bgr C w F F1 o1 n1 z1 e1))))
