/-! follows -/
theorem wdl_len {c : CO} {i : Nat} (w : WF c) (hi : i < cn c 2) : ((wdl c i).length : Int) = cD c 12 i 0 ∧ 1 ≤ (wdl c i).length ∧ (wdl c i).length ≤ 12 := by
  have := (w.2.2.2.1 i hi).1
  unfold wdl
  rw [rm_len]
  omega
theorem wdl_get {c : CO} {i k : Nat} (h : k < (wdl c i).length) : byt (wdl c i) k = cD c 11 i k := by
  unfold byt wdl at *
  rw [rm_len] at h
  exact rm_get _ h
theorem RC.wd {τ : T2} {c : CO} {i : Nat} (R : RC τ c) (w : WF c) (hi : i < cn c 2) : tI τ 72 i = ((wdl c i).length : Int) ∧ ∀ j, j < (wdl c i).length → tI τ 71 (12 * i + j) = byt (wdl c i) j := by
  have h1 := (wdl_len w hi).1
  refine ⟨?_, fun j hj => ?_⟩
  · rw [h1]
    exact R.g (g := 12) (i := i) (k := 0) (by unfold ok; omega)
  · rw [wdl_get hj]
    exact R.g (g := 11) (i := i) (k := j) (by unfold ok; omega)
theorem alk_t {w l : List Int} (h : w.length = l.length) (h1 : ∀ q, q < l.length → byt l q = 63 ∨ byt l q = byt w q) : alk w l = true := decide_eq_true ⟨h, h1⟩
theorem alk_f {w l : List Int} (h : ¬ (w.length = l.length ∧ ∀ q, q < l.length → byt l q = 63 ∨ byt l q = byt w q)) : alk w l = false := decide_eq_false h
theorem ex12 {i q : Nat} (hi : i < 40) (hq : q < 12) : wr (wr ((i : Int) * 12) + (q : Int)) = ((12 * i + q : Nat) : Int) := by
  rw [wr_id (x := (i : Int) * 12) (by unfold okI; omega), wr_id (by unfold okI; omega)]
  omega
theorem c3 {d : Nat} {τ : T2} {Q : RS → T2 → Prop} {v i : Nat} {l w : List Int} (F : FX2 τ) (hv : v = 80 ∨ v = 82) (hi : i < 40) (h1 : tI τ v 1 = (l.length : Int)) (hL : Ls τ (v + 1) l) (h2 : tI τ 72 i = (w.length : Int)) (hW : ∀ j, j < w.length → tI τ 71 (12 * i + j) = byt w j) (h12 : w.length ≤ 12) (k : Q (.inl (some (AI (bi (alk w l))))) τ) : G d 3 0 [vR 70, vI (i : Int), vR v, none] [] τ Q := by
  obtain ⟨sv, sw, pv⟩ := row_sh F hv
  have s70 : tS τ 70 = (1, 2, 0) := F.sh rfl (by omega) (by omega)
  refine t3_0 (q2 := 72) (n4 := 40) s70 (F.p rfl) (F.sh rfl (by omega) (by omega)) (by omega) sv (fun c => ?_) (fun c => ?_)
  · rw [Int.toNat_natCast, h1, h2] at c
    have lp : ∀ (j q : Nat), q + j = l.length → (∀ p, p < q → byt l p = 63 ∨ byt l p = byt w p) → G d 3 17 [vR 70, vI (i : Int), vR v, vI (q : Int)] [] τ Q := by
      intro j
      induction j with
      | zero =>
        intro q hq hp
        have fin : Q (.inl (some (AI 1))) τ := by
          rw [alk_t (by omega) (fun p hp1 => hp p (by omega))] at k
          exact k
        exact t3_17 (q4 := v + 1) (n6 := 24) (q11 := 71) (n13 := 480) sv pv sw (fun z _ => by rw [h1] at z; omega) s70 (F.p rfl) (F.sh rfl (by omega) (by omega)) (fun z _ _ => by rw [h1] at z; omega) (fun _ => fin) (fun _ _ => fin) (fun z _ _ => by rw [h1] at z; omega) (fun z _ _ _ => by rw [h1] at z; omega) (fun z _ _ _ => by rw [h1] at z; omega)
      | succ j ih =>
        intro q hq hp
        have e1 : tI τ (v + 1) q = byt l q := hL q (by omega)
        have e2 := hW q (by omega)
        have q12 : q < 12 := by omega
        have nx : (byt l q = 63 ∨ byt l q = byt w q) → G d 3 17 [vR 70, vI (i : Int), vR v, vI (wr ((q : Int) + 1))] [] τ Q := fun z => by
          rw [wr_nat (by omega)]
          refine ih (q + 1) (by omega) (fun p hp1 => ?_)
          by_cases e : p = q
          · rw [e]; exact z
          · exact hp p (by omega)
        refine t3_17 (q4 := v + 1) (n6 := 24) (q11 := 71) (n13 := 480) sv pv sw (fun _ _ => by omega) s70 (F.p rfl) (F.sh rfl (by omega) (by omega)) (fun _ _ _ => by rw [ex12 hi q12]; omega) (fun z => by rw [h1] at z; omega) (fun _ z => by omega) (fun _ _ z => ?_) (fun _ _ _ z => ?_) (fun _ _ y z => ?_)
        · rw [Int.toNat_natCast, e1] at z
          exact nx (Or.inl z)
        · rw [ex12 hi q12, Int.toNat_natCast, Int.toNat_natCast, e1, e2] at z
          exact nx (Or.inr z)
        · rw [Int.toNat_natCast, e1] at y
          rw [ex12 hi q12, Int.toNat_natCast, Int.toNat_natCast, e1, e2] at z
          rw [alk_f (fun h => (h.2 q (by omega)).elim y z)] at k
          exact k
    exact lp l.length 0 (by omega) (fun q hq => by omega)
  · rw [Int.toNat_natCast, h1, h2] at c
    rw [alk_f (fun h => c (by rw [h.1]))] at k
    exact k
theorem cnt_le (p : Nat → Bool) : ∀ n, cnt p n ≤ n
  | 0 => Nat.le_refl _
  | n + 1 => by
    have := cnt_le p n
    show cnt p n + bv (p n) ≤ n + 1
    cases p n with
    | false => show cnt p n + 0 ≤ _; omega
    | true => show cnt p n + 1 ≤ _; omega
theorem cnt_f {p : Nat → Bool} {n : Nat} (h : p n = false) : cnt p (n + 1) = cnt p n := by
  show cnt p n + bv (p n) = _
  rw [h]; rfl
theorem cnt_t {p : Nat → Bool} {n : Nat} (h : p n = true) : cnt p (n + 1) = cnt p n + 1 := by
  show cnt p n + bv (p n) = _
  rw [h]; rfl
theorem c2 {d : Nat} {τ : T2} {Q : RS → T2 → Prop} {v : Nat} {c : CO} {l : List Int} (F : FX2 τ) (R : RC τ c) (w : WF c) (hd : 1 ≤ d) (hv : v = 80 ∨ v = 82) (h1 : tI τ v 1 = (l.length : Int)) (hL : Ls τ (v + 1) l) (k : Q (.inl (some (AI ((cnt (fun i => alk (wdl c i) l) (cn c 2) : Nat) : Int)))) τ) : G d 2 0 [vR 70, vR v, none, none] [] τ Q := by
  have s70 : tS τ 70 = (1, 2, 0) := F.sh rfl (by omega) (by omega)
  have h40 := w.1.2.2.1
  have en := R.1.2.2
  have lp : ∀ (j i : Nat), i + j = cn c 2 → G d 2 4 [vR 70, vR v, vI ((cnt (fun i => alk (wdl c i) l) i : Nat) : Int), vI (i : Int)] [] τ Q := by
    intro j
    induction j with
    | zero =>
      intro i hi
      have e : i = cn c 2 := by omega
      rw [e]
      exact t2_4 (r1 := some v) hd s70 (fun _ => k) (fun z => by rw [en] at z; omega) (fun z => by rw [en] at z; omega)
    | succ j ih =>
      intro i hi
      refine t2_4 (r1 := some v) hd s70 (fun z => by rw [en] at z; omega) (fun _ z => by omega) (fun _ _ => ?_)
      have hi2 : i < cn c 2 := by omega
      have b := cnt_le (fun i => alk (wdl c i) l) i
      obtain ⟨x1, x2⟩ := R.wd w hi2
      refine c3 F hv (by omega) h1 hL x1 x2 (wdl_len w hi2).2.2 (t2_24 (r1 := some v) (fun z => ?_) (fun z => ?_))
      · rw [wr_nat (by omega), ← cnt_f (p := fun i => alk (wdl c i) l) (n := i) (by cases hb : alk (wdl c i) l with
          | false => rfl
          | true => rw [hb] at z; exact absurd z (by decide))]
        exact ih (i + 1) (by omega)
      · rw [wr_nat (by omega), wr_nat (by omega), ← cnt_t (p := fun i => alk (wdl c i) l) (n := i) (by cases hb : alk (wdl c i) l with
          | true => rfl
          | false => rw [hb] at z; exact absurd rfl z)]
        exact ih (i + 1) (by omega)
  exact t2_0 (r1 := some v) (lp (cn c 2) 0 (by omega))
theorem cc107 {x u : Int} (hu : okI u) : CCl 107 [vR 64, vI x, vI u] (sp_follows x u) := fun d τ S Q hd F C w k => by
  have s0 : ∀ τ : T2, FX2 τ → tS τ 64 = (1, 11, 0) := fun τ F => F.sh rfl (by omega) (by omega)
  have N := F.1
  have w1 := w.1 S.1 (by simp)
  unfold sp_follows at k
  have no : ∀ τ1 : T2, FX2 τ1 → Q (.inl (some (AI (-1)))) τ1 → G d 107 6 [vR 64, none, none] [AI 0] τ1 Q := fun τ1 F1 h => t107_6 (q3 := 70) (by omega) (s0 _ F1) (F1.p rfl) (F1.sh rfl (by omega) (by omega)) (fun z => absurd rfl z) (fun _ => h)
  refine t107_0 (by omega) (s0 τ F) (c140 F C w hu (by omega) (fun r v l τ1 hr e hv pv hm o F1 n1 z1 h16 hl hL => ?_) (fun e => ?_) (fun r τ1 hr e hm E1 => ?_))
  · subst e
    rw [if_pos (by omega), Int.toNat_natCast, hm] at k
    have E1 : EC τ τ1 (rfS S 0) := ⟨o.kp (fun a k z => by omega), F1, by omega, by omega, C.tr w F pv o h16 (by decide)⟩
    have R1 : RC τ1 S.1 := E1.2.2.2.2.1
    refine t107_6 (q3 := 70) (by omega) (s0 _ F1) (F1.p rfl) (F1.sh rfl (by omega) (by omega)) (fun _ => ?_) (fun z => absurd z (by decide))
    rw [(o.2.2.2 64 13 (by omega) (by omega)).2, pv]
    exact c2 F1 R1 w1 (by omega) hv hl hL (t107_22 (k _ E1))
  · rw [if_neg (by omega)] at k
    exact no _ F.j (k _ (EC.rfs F C w (why := 1) (by decide)))
  · subst e
    rw [if_pos (by omega), Int.toNat_natCast, hm] at k
    exact no _ E1.2.1 (k _ E1)
