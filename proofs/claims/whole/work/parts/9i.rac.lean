/-! rank of the class -/
theorem lcm_l {x y : Int} : lcm x y < 0 ↔ x < y := by
  unfold lcm
  by_cases h : x < y
  · rw [if_pos h]; exact ⟨fun _ => h, fun _ => by decide⟩
  · rw [if_neg h]
    refine ⟨fun z => ?_, fun z => absurd z h⟩
    by_cases e : x = y
    · rw [if_pos e] at z; exact absurd z (by decide)
    · rw [if_neg e] at z; exact absurd z (by decide)
theorem fnd_n {c : CO} {t : Nat} {m : Int} (e : lasR c = -1) : fnd c t m = false := by
  unfold fnd
  rw [decide_eq_false (fun z => z e)]
  rfl
theorem fnd_s {c : CO} {t r : Nat} {m : Int} (e : lasR c = (r : Int)) : fnd c t m = slT c t m r := by
  unfold fnd
  rw [decide_eq_true (show lasR c ≠ -1 by omega), e, Int.toNat_natCast]
  rfl
section RAC
variable {d : Nat} {τ : T2} {Q : RS → T2 → Prop} {c : CO} {t : Nat} {m : Int}
theorem c142 (F : FX2 τ) (R : RC τ c) (w : WF c) (ht : t < cn c 1) (hd : 3 ≤ d) (h : Q (.inl (some (AL (key c m t)))) τ) : G d 142 0 [vR 64, vI (t : Int), vI (lasR c), vI m, none, none, none] [] τ Q := by
  have s0 : tS τ 64 = (1, 11, 0) := F.sh rfl (by omega) (by omega)
  have h8 := w.1.2.1
  have h20 := w.1.1
  have pt := ptT t (by omega)
  have s1 := F.sh (shT t (by omega)).1 (by omega) (by omega)
  have go : ∀ (b : Nat), b ≤ 1 → ((b : Int) = if fnd c t m = true then 0 else 1) → G (d - 1) 246 0 [vI ((enc (slT c t m) 20 : Nat) : Int)] [] τ (KC d 142 44 47 [vR 64, vI (t : Int), none, vI m, none, none, none] [AL (wl (lshl (b : Int) 5 + 20))] Q) := fun b hb eb => by
    refine c246 (enc_lt _ 20) ?_
    rw [bcn_enc]
    refine t142_47 (q2 := 68) (n4 := 8) (q7 := 172 + 6 * t) (by omega) s0 (F.p rfl) (F.sh rfl (by omega) (by omega)) (by omega) (by rw [Int.toNat_natCast]; exact F.p pt.1) s1 ?_
    rw [F.p (show PTI 64 2 = some 66 from rfl)]
    refine c64 F R w ht (by omega) (t142_70 ?_)
    rw [mrk_w w ht m]
    have hb2 := mrk_b w ht m
    obtain ⟨mk, hmk⟩ : ∃ mk : Nat, mrk c t m = (mk : Int) := ⟨(mrk c t m).toNat, by omega⟩
    have cb := cnt_le (slT c t m) 20
    unfold key at h
    rw [← eb, hmk] at h
    rw [hmk] at hb2
    rw [hmk, key_l hb cb (by omega) (by omega)]
    exact h
  refine t142_0 (q2 := 68) (n4 := 8) (q7 := 172 + 6 * t) (by omega) s0 (F.p rfl) (F.sh rfl (by omega) (by omega)) (by omega) (by rw [Int.toNat_natCast]; exact F.p pt.1) s1 (c61' F R w ht ?_)
  refine t142_10 (by omega) (fun e => go 1 (by omega) ?_) (fun e1 e2 => ?_) (fun e1 e2 => ?_)
  · rw [fnd_n e]; rfl
  · rcases las_c c with e | ⟨r, hr, e⟩
    · exact absurd e e1
    · rw [e, bit_enc _ (show r < 20 by omega)] at e2
      refine go 1 (by omega) ?_
      rw [fnd_s e]
      cases hs : slT c t m r with
      | false => rfl
      | true => rw [hs] at e2; exact absurd rfl e2
  · rcases las_c c with e | ⟨r, hr, e⟩
    · exact absurd e e1
    · rw [e, bit_enc _ (show r < 20 by omega)] at e2
      refine go 0 (by omega) ?_
      rw [fnd_s e]
      cases hs : slT c t m r with
      | true => rfl
      | false => rw [hs] at e2; exact absurd e2 (by decide)
theorem c143 (F : FX2 τ) (R : RC τ c) (w : WF c) (ht : t < cn c 1) (hk : ∀ u, u < cn c 1 → tI τ 69 u = key c m u) (h : Q (.inl (some (AI ((cnt (ahd c m t) (cn c 1) : Nat) : Int)))) τ) : G d 143 0 [vR 64, vI (t : Int), vI m, none, none] [] τ Q := by
  have s0 : tS τ 64 = (1, 11, 0) := F.sh rfl (by omega) (by omega)
  have h8 := w.1.2.1
  have en : tI τ 64 6 = (cn c 1 : Int) := R.1.2.1
  have lp : ∀ (j u : Nat), u + j = cn c 1 → G d 143 5 [vR 64, vI (t : Int), vI m, vI ((cnt (ahd c m t) u : Nat) : Int), vI (u : Int)] [] τ Q := by
    intro j
    induction j with
    | zero =>
      intro u hu
      have e : u = cn c 1 := by omega
      rw [e]
      exact t143_5 (q4 := 68) (n6 := 8) (q9 := 172) (q13 := 69) (n15 := 8) s0 (F.p rfl) (F.sh rfl (by omega) (by omega)) (fun z => by rw [en] at z; omega) (fun z => by rw [en] at z; omega) (F.sh rfl (by omega) (by omega)) (F.p rfl) (F.sh rfl (by omega) (by omega)) (fun z => by rw [en] at z; omega) (fun z => by rw [en] at z; omega) (fun _ => h) (fun z => by rw [en] at z; omega) (fun z => by rw [en] at z; omega) (fun z => by rw [en] at z; omega) (fun z => by rw [en] at z; omega)
    | succ j ih =>
      intro u hu
      have hu2 : u < cn c 1 := by omega
      have b := cnt_le (ahd c m t) u
      have e0 : tI τ (172 + 6 * u) 0 = cD c 5 u 0 := R.t0 hu2
      have n0 : ahd c m t u = false → G d 143 5 [vR 64, vI (t : Int), vI m, vI ((cnt (ahd c m t) u : Nat) : Int), vI (wr ((u : Int) + 1))] [] τ Q := fun z => by
        rw [wr_nat (by omega), ← cnt_f z]
        exact ih (u + 1) (by omega)
      refine t143_5 (q4 := 68) (n6 := 8) (q9 := 172 + 6 * u) (q13 := 69) (n15 := 8) s0 (F.p rfl) (F.sh rfl (by omega) (by omega)) (fun _ _ => by omega) (fun _ _ => by rw [Int.toNat_natCast]; exact F.p (ptT u (by omega)).1) (F.sh (shT u (by omega)).1 (by omega) (by omega)) (F.p rfl) (F.sh rfl (by omega) (by omega)) (fun _ _ _ => by omega) (fun _ _ _ => by omega) (fun z => by rw [en] at z; omega) (fun _ z => by omega) (fun _ _ z => ?_) (fun _ _ y z => ?_) (fun _ _ y z => ?_)
      · rw [e0] at z
        exact n0 (decide_eq_false (fun q => absurd q.1 (Int.not_le.mpr z)))
      · rw [Int.toNat_natCast, Int.toNat_natCast, hk u hu2, hk t ht] at z
        exact n0 (decide_eq_false (fun q => absurd (lcm_l.mpr q.2) (Int.not_lt.mpr z)))
      · rw [e0] at y
        rw [Int.toNat_natCast, Int.toNat_natCast, hk u hu2, hk t ht] at z
        have ha : ahd c m t u = true := decide_eq_true ⟨y, lcm_l.mp z⟩
        rw [wr_nat (by omega), wr_nat (by omega), ← cnt_t ha]
        exact ih (u + 1) (by omega)
  exact t143_0 (lp (cn c 1) 0 (by omega))
end RAC
theorem cc117 {x m : Int} : CCl 117 [vR 64, vI x, vI m, none, none] (sp_rank x m) := fun d τ S Q hd F C w k => by
  have s0 : ∀ τ : T2, FX2 τ → tS τ 64 = (1, 11, 0) := fun τ F => F.sh rfl (by omega) (by omega)
  have N := F.1
  have w1 := w.1 S.1 (by simp)
  have h8 := w1.1.2.1
  have R := C.1
  have now := R.now
  unfold sp_rank at k
  have bad : ¬ (0 ≤ x ∧ 0 ≤ m ∧ m ≤ cD S.1 0 0 0) → Q (.inl (some (AI (-1)))) τ := fun h => by
    rw [if_neg h] at k
    exact k τ (EC.rf F C)
  refine t117_0 (by omega) (s0 τ F) (fun z => bad (by omega)) (fun _ z => bad (by omega)) (fun z1 z2 z3 => ?_) (fun _ _ z => bad (by rw [now] at z; omega))
  rw [now] at z3
  rw [if_pos ⟨z1, z2, z3⟩] at k
  refine c134 F R w1 (t117_22 ?_)
  -- the second loop
  have snd : ∀ τ1, OC (fun a _ => a = 69) τ τ1 → FX2 τ1 → tN τ1 = tN τ → tZ τ1 = tZ τ → (∀ u, u < cn S.1 1 → tI τ1 69 u = key S.1 m u) → G d 117 66 [vR 64, vI x, vI m, none, vI 0] [] τ1 Q := fun τ1 o F1 n1 e1 hk => by
    have C1 : CI τ1 S := C.oc w F o (fun a k z => by unfold FC DC LGP; omega)
    have R1 := C1.1
    have en : tI τ1 64 6 = (cn S.1 1 : Int) := R1.1.2.1
    have E1 : EC τ τ1 S := ⟨o.kp (fun a k z => by omega), F1, by omega, by omega, C1⟩
    have k1 := k τ1 E1
    have lp : ∀ (j u : Nat), u + j = cn S.1 1 → Q (.inl (some (AI (rnk S.1 x m j u)))) τ1 → G d 117 66 [vR 64, vI x, vI m, none, vI (u : Int)] [] τ1 Q := by
      intro j
      induction j with
      | zero =>
        intro u hu hq
        exact t117_66 (q4 := 68) (n6 := 8) (q9 := 172) (by omega) (s0 _ F1) (F1.p rfl) (F1.sh rfl (by omega) (by omega)) (fun z => by rw [en] at z; omega) (fun z => by rw [en] at z; omega) (F1.sh rfl (by omega) (by omega)) (fun _ => hq) (fun z => by rw [en] at z; omega) (fun z => by rw [en] at z; omega) (fun z => by rw [en] at z; omega)
      | succ j ih =>
        intro u hu hq
        have hu2 : u < cn S.1 1 := by omega
        have e0 : tI τ1 (172 + 6 * u) 0 = cD S.1 5 u 0 := R1.t0 hu2
        simp only [rnk] at hq
        refine t117_66 (q4 := 68) (n6 := 8) (q9 := 172 + 6 * u) (by omega) (s0 _ F1) (F1.p rfl) (F1.sh rfl (by omega) (by omega)) (fun _ _ => by omega) (fun _ _ => by rw [Int.toNat_natCast]; exact F1.p (ptT u (by omega)).1) (F1.sh (shT u (by omega)).1 (by omega) (by omega)) (fun z => by rw [en] at z; omega) (fun _ z => by omega) (fun _ _ z => ?_) (fun _ _ z => ?_)
        · rw [e0] at z
          rw [if_neg (fun q => absurd q.1 (Int.not_le.mpr z))] at hq
          rw [wr_nat (by omega)]
          exact ih (u + 1) (by omega) hq
        · rw [e0] at z
          refine c143 F1 R1 w1 hu2 hk (t117_103 (fun y => ?_) (fun y => ?_))
          · rw [if_neg (fun q => y q.2)] at hq
            rw [wr_nat (by omega)]
            exact ih (u + 1) (by omega) hq
          · rw [if_pos ⟨z, y⟩] at hq
            exact hq
    exact lp (cn S.1 1) 0 (by omega) k1
  have fst : ∀ (j u : Nat) (τ1 : T2), u + j = cn S.1 1 → OC (fun a _ => a = 69) τ τ1 → FX2 τ1 → tN τ1 = tN τ → tZ τ1 = tZ τ → (∀ q, q < u → tI τ1 69 q = key S.1 m q) → G d 117 26 [vR 64, vI x, vI m, vI (lasR S.1), vI (u : Int)] [] τ1 Q := by
    intro j
    induction j with
    | zero =>
      intro u τ1 hu o F1 n1 e1 hk
      have C1 : CI τ1 S := C.oc w F o (fun a k z => by unfold FC DC LGP; omega)
      have en : tI τ1 64 6 = (cn S.1 1 : Int) := C1.1.1.2.1
      exact t117_26 (by omega) (s0 _ F1) (fun _ => snd τ1 o F1 n1 e1 (fun q hq => hk q (by omega))) (fun z => by rw [en] at z; omega) (fun z => by rw [en] at z; omega)
    | succ j ih =>
      intro u τ1 hu o F1 n1 e1 hk
      have C1 : CI τ1 S := C.oc w F o (fun a k z => by unfold FC DC LGP; omega)
      have en : tI τ1 64 6 = (cn S.1 1 : Int) := C1.1.1.2.1
      refine t117_26 (by omega) (s0 _ F1) (fun z => by rw [en] at z; omega) (fun _ z => by omega) (fun _ _ => ?_)
      rw [F1.p (show PTI 64 7 = some 69 from rfl)]
      refine c142 F1 C1.1 w1 (by omega) (by omega) (t117_56 (s2 := 69) (n1 := 8) (F1.sh rfl (by omega) (by omega)) (by omega) ?_)
      rw [wr_nat (by omega), Int.toNat_natCast]
      refine ih (u + 1) _ (by omega) o.ad F1.j n1 e1 (fun q hq => ?_)
      rw [tI_uI]
      by_cases e : q = u
      · rw [if_pos ⟨rfl, e⟩, e]
      · rw [if_neg (fun z => e z.2)]
        exact hk q (by omega)
  exact fst (cn S.1 1) 0 τ (by omega) OC.rf F rfl rfl (fun q hq => by omega)
