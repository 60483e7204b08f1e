/-! rank of the model -/
section RAM
variable {d : Nat} {τ : T2} {Q : RS → T2 → Prop} {c : CO} {t u : Nat} {m : Int}
def bfl (b : Bool) : Int := if b = true then 0 else 1
theorem bfl_c (b : Bool) : bfl b = 0 ∨ bfl b = 1 := by cases b <;> simp [bfl]
theorem m236 (F : FX2 τ) (R : RM τ c) (w : WF c) (hu : u < cn c 1) (ht : t < cn c 1) (hd : 20 ≤ d) (h : Q (.inl (some (AI (bi (decide (key c m u < key c m t)))))) τ) : G d 236 0 [vR 220, vI (u : Int), vI (t : Int), vI m, vI (lasR c), none, none, none, none, none, none] [] τ Q := by
  have s0 : tS τ 220 = (1, 21, 0) := F.sh rfl (by omega) (by omega)
  have h8 := w.1.2.1
  have h20 := w.1.1
  have K : key c m u < key c m t ↔ (bfl (fnd c u m) < bfl (fnd c t m) ∨ (bfl (fnd c u m) = bfl (fnd c t m) ∧ (((cnt (slT c t m) 20 : Nat) : Int) < ((cnt (slT c u m) 20 : Nat) : Int) ∨ (((cnt (slT c t m) 20 : Nat) : Int) = ((cnt (slT c u m) 20 : Nat) : Int) ∧ (mrk c u m < mrk c t m ∨ (mrk c u m = mrk c t m ∧ (u : Int) < (t : Int))))))) := by
    have b1 := cnt_le (slT c t m) 20
    have b2 := cnt_le (slT c u m) 20
    have b3 := mrk_b w ht m
    have b4 := mrk_b w hu m
    exact rky_lt (bfl_c _) (bfl_c _) (by omega) (by omega) (by omega) (by omega) (by omega) (by omega)
  have yes : (bfl (fnd c u m) < bfl (fnd c t m) ∨ (bfl (fnd c u m) = bfl (fnd c t m) ∧ (((cnt (slT c t m) 20 : Nat) : Int) < ((cnt (slT c u m) 20 : Nat) : Int) ∨ (((cnt (slT c t m) 20 : Nat) : Int) = ((cnt (slT c u m) 20 : Nat) : Int) ∧ (mrk c u m < mrk c t m ∨ (mrk c u m = mrk c t m ∧ (u : Int) < (t : Int))))))) → Q (.inl (some (AI 1))) τ := fun z => by
    rw [decide_eq_true (K.mpr z)] at h; exact h
  have no : ¬ (bfl (fnd c u m) < bfl (fnd c t m) ∨ (bfl (fnd c u m) = bfl (fnd c t m) ∧ (((cnt (slT c t m) 20 : Nat) : Int) < ((cnt (slT c u m) 20 : Nat) : Int) ∨ (((cnt (slT c t m) 20 : Nat) : Int) = ((cnt (slT c u m) 20 : Nat) : Int) ∧ (mrk c u m < mrk c t m ∨ (mrk c u m = mrk c t m ∧ (u : Int) < (t : Int))))))) → Q (.inl (some (AI 0))) τ := fun z => by
    rw [decide_eq_false (fun y => z (K.mp y))] at h; exact h
  have tm : ∀ v, v < cn c 1 → tS τ (416 + 7 * v) = (1, 19, 0) ∧ tP τ 222 ((v : Int)).toNat = some (416 + 7 * v) := fun v hv => ⟨F.sh (shU v (by omega)).1 (by omega) (by omega), by rw [Int.toNat_natCast]; exact F.p (ptU v (by omega)).1⟩
  have fl : ∀ {v : Nat}, ¬ zand (zshr ((enc (slT c v m) 20 : Nat) : Int) (lasR c)) 1 = 1 → ¬ lasR c = -1 → fnd c v m = false := fun {v} f e => by
    rcases las_c c with e2 | ⟨r, hr, e2⟩
    · exact absurd e2 e
    · rw [e2, bit_enc _ (show r < 20 by omega)] at f
      rw [fnd_s e2]
      cases hs : slT c v m r with
      | false => rfl
      | true => rw [hs] at f; exact absurd rfl f
  have tr : ∀ {v : Nat}, zand (zshr ((enc (slT c v m) 20 : Nat) : Int) (lasR c)) 1 = 1 → ¬ lasR c = -1 → fnd c v m = true := fun {v} f e => by
    rcases las_c c with e2 | ⟨r, hr, e2⟩
    · exact absurd e2 e
    · rw [e2, bit_enc _ (show r < 20 by omega)] at f
      rw [fnd_s e2]
      cases hs : slT c v m r with
      | true => rfl
      | false => rw [hs] at f; exact absurd f (by decide)
  have eqf : fnd c u m = fnd c t m → G (d - 1) 168 0 [vI ((enc (slT c u m) 20 : Nat) : Int), none, none] [] τ (KC d 236 94 97 [vR 220, vI (u : Int), vI (t : Int), vI m, none, vI ((enc (slT c u m) 20 : Nat) : Int), vI ((enc (slT c t m) 20 : Nat) : Int), none, none, none, none] [] Q) := fun ef => by
    refine m168 (t236_97 (by omega) (m168 ?_))
    refine t236_102 (q3 := 222) (n5 := 8) (q8 := 416 + 7 * u) (by omega) s0 (F.p rfl) (F.sh rfl (by omega) (by omega)) (fun _ => by omega) (fun _ => (tm u hu).2) (tm u hu).1 (fun e => ?_) (fun e => ?_)
    · refine m160 F R w hu (by omega) (t236_134 (q2 := 222) (n4 := 8) (q7 := 416 + 7 * t) (by omega) s0 (F.p rfl) (F.sh rfl (by omega) (by omega)) (by omega) (tm t ht).2 (tm t ht).1 ?_)
      refine m160 F R w ht (by omega) ?_
      rw [mrk_w w hu m, mrk_w w ht m]
      refine t236_146 (fun e1 e2 => no ?_) (fun e1 e2 => yes ?_) (fun e1 e2 => no ?_) (fun e1 e2 => yes ?_)
      · rw [ef]
        intro q
        rcases q with q | ⟨-, q | ⟨-, q | q⟩⟩
        · exact absurd q (Int.lt_irrefl _)
        · rw [e] at q; exact absurd q (Int.lt_irrefl _)
        · rw [e1] at q; exact absurd q (Int.lt_irrefl _)
        · exact absurd q.2 (Int.not_lt.mpr e2)
      · exact Or.inr ⟨by rw [ef], Or.inr ⟨e.symm, Or.inr ⟨e1, e2⟩⟩⟩
      · rw [ef]
        intro q
        rcases q with q | ⟨-, q | ⟨-, q | q⟩⟩
        · exact absurd q (Int.lt_irrefl _)
        · rw [e] at q; exact absurd q (Int.lt_irrefl _)
        · exact absurd q (Int.not_lt.mpr e2)
        · exact absurd q.1 e1
      · exact Or.inr ⟨by rw [ef], Or.inr ⟨e.symm, Or.inl e2⟩⟩
    · refine m168 (t236_110 (by omega) (m168 ?_))
      refine t236_115 (fun e2 => no ?_) (fun e2 => yes (Or.inr ⟨by rw [ef], Or.inl e2⟩))
      rw [ef]
      intro q
      rcases q with q | ⟨-, q | ⟨q, -⟩⟩
      · exact absurd q (Int.lt_irrefl _)
      · exact absurd q (Int.not_lt.mpr e2)
      · exact absurd q.symm e
  refine t236_0 (q2 := 222) (n4 := 8) (q7 := 416 + 7 * u) (by omega) s0 (F.p rfl) (F.sh rfl (by omega) (by omega)) (by omega) (tm u hu).2 (tm u hu).1 (m157' F R w hu ?_)
  refine t236_10 (q2 := 222) (n4 := 8) (q7 := 416 + 7 * t) (by omega) s0 (F.p rfl) (F.sh rfl (by omega) (by omega)) (by omega) (tm t ht).2 (tm t ht).1 (m157' F R w ht ?_)
  exact t236_22 (by omega) (fun e _ _ => eqf (by rw [fnd_n e, fnd_n e])) (fun _ _ z => absurd rfl z) (fun _ _ z => absurd rfl z) (fun e z => absurd e z) (fun e z => absurd e z) (fun e z => absurd e z) (fun e z => absurd e z) (fun e z => absurd e z) (fun e z => absurd e z) (fun z _ e => absurd e z) (fun z _ e => absurd e z) (fun z _ e => absurd e z) (fun e f1 _ f2 _ => eqf (by rw [fl f1 e, fl f2 e])) (fun _ _ _ _ z => absurd rfl z) (fun _ _ _ _ z => absurd rfl z) (fun _ _ _ _ z => absurd z (by decide)) (fun e f1 _ f2 _ _ => no (by rw [fl f1 e, tr f2 e]; intro q; rcases q with q | q; exact absurd q (by decide); exact absurd q.1 (by decide))) (fun _ _ _ _ _ z => absurd z (by decide)) (fun z _ e => absurd e z) (fun z _ e => absurd e z) (fun z _ e => absurd e z) (fun _ _ _ _ z => absurd z (by decide)) (fun _ _ _ _ _ z => absurd z (by decide)) (fun e f1 _ f2 _ _ => yes (by rw [tr f1 e, fl f2 e]; exact Or.inl (by decide))) (fun e f1 _ f2 _ => eqf (by rw [tr f1 e, tr f2 e])) (fun _ _ _ _ z => absurd rfl z) (fun _ _ _ _ z => absurd rfl z)
end RAM
theorem mc237 {x m : Int} : MCl 237 [vR 220, vI x, vI m, none, none, none, none] (sp_rank x m) := fun d τ S Q hd F C w k => by
  have s0 : ∀ τ : T2, FX2 τ → tS τ 220 = (1, 21, 0) := fun τ F => F.sh rfl (by omega) (by omega)
  have w1 := w.1 S.1 (by simp)
  have h8 := w1.1.2.1
  have k1 := k _ (EM.t0 C w F (x := 0))
  have C1 := C.t0 w F (x := 0)
  have F1 : FX2 (uI τ 220 0 0) := F.j
  have R := C1.1
  have now : tI (uI τ 220 0 0) 220 7 = cD S.1 0 0 0 := R.now
  have en : tI (uI τ 220 0 0) 220 5 = (cn S.1 1 : Int) := R.1.2.1
  unfold sp_rank at k1
  have bad : ¬ (0 ≤ x ∧ 0 ≤ m ∧ m ≤ cD S.1 0 0 0) → Q (.inl (some (AI (-1)))) (uI τ 220 0 0) := fun h => by
    rw [if_neg h] at k1
    exact k1
  refine t237_0 (by omega) (s0 τ F) (fun z => bad (by omega)) (fun z2 z3 => ?_) (fun _ z => bad (by rw [now] at z; omega))
  rw [now] at z3
  generalize uI τ 220 0 0 = τ1 at *
  have res : Q (.inl (some (AI (rnk S.1 x m (cn S.1 1) 0)))) τ1 := by
    by_cases hx : 0 ≤ x
    · rw [if_pos ⟨hx, z2, z3⟩] at k1; exact k1
    · rw [if_neg (fun z => hx z.1)] at k1
      have ng : ∀ j t, rnk S.1 x m j t = -1 := by
        intro j
        induction j with
        | zero => intro t; rfl
        | succ j ih =>
          intro t
          simp only [rnk]
          rw [if_neg (fun z => hx (by rw [← z.2]; omega))]
          exact ih (t + 1)
      rw [ng]; exact k1
  have tm : ∀ v, v < cn S.1 1 → tS τ1 (416 + 7 * v) = (1, 19, 0) ∧ tP τ1 222 ((v : Int)).toNat = some (416 + 7 * v) ∧ tI τ1 (416 + 7 * v) 0 = cD S.1 5 v 0 := fun v hv => ⟨F1.sh (shU v (by omega)).1 (by omega) (by omega), by rw [Int.toNat_natCast]; exact F1.p (ptU v (by omega)).1, R.tt hv (by omega)⟩
  refine m209 F1 R w1 (t237_23 ?_)
  have lp : ∀ (j t : Nat), t + j = cn S.1 1 → Q (.inl (some (AI (rnk S.1 x m j t)))) τ1 → G d 237 27 [vR 220, vI x, vI m, vI (lasR S.1), vI (t : Int), none, none] [] τ1 Q := by
    intro j
    induction j with
    | zero =>
      intro t hj hq
      exact t237_27 (q3 := 222) (n5 := 8) (q8 := 416) (s0 _ F1) (F1.p rfl) (F1.sh rfl (by omega) (by omega)) (fun z => by rw [en] at z; omega) (fun z => by rw [en] at z; omega) (F1.sh rfl (by omega) (by omega)) (fun _ => hq) (fun z => by rw [en] at z; omega) (fun z => by rw [en] at z; omega)
    | succ j ih =>
      intro t hj hq
      have ht : t < cn S.1 1 := by omega
      obtain ⟨g1, g2, g3⟩ := tm t ht
      simp only [rnk] at hq
      refine t237_27 (q3 := 222) (n5 := 8) (q8 := 416 + 7 * t) (s0 _ F1) (F1.p rfl) (F1.sh rfl (by omega) (by omega)) (fun _ => by omega) (fun _ => g2) g1 (fun z => by rw [en] at z; omega) (fun _ z => ?_) (fun _ z => ?_)
      · rw [g3] at z
        have lq : ∀ (i u : Nat), u + i = cn S.1 1 → G d 237 59 [vR 220, vI x, vI m, vI (lasR S.1), vI (t : Int), vI ((cnt (ahd S.1 m t) u : Nat) : Int), vI (u : Int)] [] τ1 Q := by
          intro i
          induction i with
          | zero =>
            intro u hu
            have e : u = cn S.1 1 := by omega
            rw [e]
            refine t237_59 (q5 := 222) (n7 := 8) (q10 := 416) (by omega) (s0 _ F1) (F1.p rfl) (F1.sh rfl (by omega) (by omega)) (fun z => by rw [en] at z; omega) (fun z => by rw [en] at z; omega) (F1.sh rfl (by omega) (by omega)) (fun _ y => ?_) (fun _ y => ?_) (fun z => by rw [en] at z; omega) (fun z => by rw [en] at z; omega) (fun z => by rw [en] at z; omega)
            · rw [if_neg (fun q => y q.2)] at hq
              rw [wr_nat (by omega)]
              exact ih (t + 1) (by omega) hq
            · rw [if_pos ⟨z, y⟩] at hq
              exact hq
          | succ i ihq =>
            intro u hu
            have hu2 : u < cn S.1 1 := by omega
            obtain ⟨f1, f2, f3⟩ := tm u hu2
            have b := cnt_le (ahd S.1 m t) u
            have n0 : ahd S.1 m t u = false → G d 237 59 [vR 220, vI x, vI m, vI (lasR S.1), vI (t : Int), vI (wr (((cnt (ahd S.1 m t) u : Nat) : Int) + 0)), vI (wr ((u : Int) + 1))] [] τ1 Q := fun hb => by
              rw [wr_nat (by omega), Int.add_zero, wr_id (by unfold okI; omega), ← cnt_f hb]
              exact ihq (u + 1) (by omega)
            refine t237_59 (q5 := 222) (n7 := 8) (q10 := 416 + 7 * u) (by omega) (s0 _ F1) (F1.p rfl) (F1.sh rfl (by omega) (by omega)) (fun _ _ => by omega) (fun _ _ => f2) f1 (fun z => by rw [en] at z; omega) (fun z => by rw [en] at z; omega) (fun _ y => ?_) (fun _ _ y => ?_) (fun _ _ y => ?_)
            · have e : u = t := by omega
              subst e
              exact n0 (decide_eq_false (fun q => absurd q.2 (Int.lt_irrefl _)))
            · rw [f3] at y
              exact n0 (decide_eq_false (fun q => absurd q.1 (Int.not_le.mpr y)))
            · rw [f3] at y
              refine m236 F1 R w1 hu2 ht (by omega) (t237_101 (fun v => n0 ?_) (fun v => ?_))
              · exact decide_eq_false (fun q => by rw [decide_eq_true q.2] at v; exact absurd v (by decide))
              · have hb : ahd S.1 m t u = true := decide_eq_true ⟨y, of_decide_eq_true (bi_1 v)⟩
                rw [wr_nat (by omega), wr_nat (by omega), ← cnt_t hb]
                exact ihq (u + 1) (by omega)
        exact lq (cn S.1 1) 0 (by omega)
      · rw [g3] at z
        rw [if_neg (fun q => absurd q.1 (Int.not_le.mpr z))] at hq
        rw [wr_nat (by omega)]
        exact ih (t + 1) (by omega) hq
  exact lp (cn S.1 1) 0 (by omega) res
