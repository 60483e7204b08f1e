/-! WHAT CALLS ASK FIRST; CALLS THAT ONLY READ -/
section ASK
variable {d : Nat} {τ : T2} {Q : RS → T2 → Prop} {x : Int} {n : Nat}
theorem c129 (F : FX2 τ) (hn : tI τ 64 3 = (n : Int)) (h20 : n ≤ 20) (k1 : ∀ r : Nat, r < n → x = (r : Int) → Q (.inl (some (AI 1))) τ) (k0 : (x < 0 ∨ (n : Int) ≤ x) → Q (.inl (some (AI 0))) τ) : G d 129 0 [vR 64, vI x] [] τ Q := by
  refine t129_0 (F.sh rfl (by omega) (by omega)) (fun c => k0 (Or.inl c)) (fun _ c => k0 (Or.inr (by rw [hn] at c; exact c))) (fun c1 c2 c3 => by rw [hn] at c2; omega) (fun c1 c2 _ => k1 x.toNat (by rw [hn] at c2; omega) (by omega))
theorem c130 (F : FX2 τ) (hn : tI τ 64 6 = (n : Int)) (h8 : n ≤ 8) (k1 : ∀ r : Nat, r < n → x = (r : Int) → Q (.inl (some (AI 1))) τ) (k0 : (x < 0 ∨ (n : Int) ≤ x) → Q (.inl (some (AI 0))) τ) : G d 130 0 [vR 64, vI x] [] τ Q := by
  refine t130_0 (F.sh rfl (by omega) (by omega)) (fun c => k0 (Or.inl c)) (fun _ c => k0 (Or.inr (by rw [hn] at c; exact c))) (fun c1 c2 c3 => by rw [hn] at c2; omega) (fun c1 c2 _ => k1 x.toNat (by rw [hn] at c2; omega) (by omega))
theorem c132 (F : FX2 τ) (hn : tI τ 64 1 = (n : Int)) (h300 : n ≤ 300) (k1 : ∀ r : Nat, r ≤ n → x = (r : Int) → Q (.inl (some (AI 1))) τ) (k0 : (x < 0 ∨ (n : Int) < x) → Q (.inl (some (AI 0))) τ) : G d 132 0 [vR 64, vI x] [] τ Q := by
  refine t132_0 (F.sh rfl (by omega) (by omega)) (fun c => k0 (Or.inl c)) (fun _ c => k0 (Or.inr (by rw [hn] at c; exact c))) (fun c1 c2 c3 => by rw [hn] at c2; omega) (fun c1 c2 _ => k1 x.toNat (by rw [hn] at c2; omega) (by omega))
theorem m207 (F : FX2 τ) (hn : tI τ 220 4 = (n : Int)) (k1 : ∀ r : Nat, r < n → x = (r : Int) → Q (.inl (some (AI 1))) τ) (k0 : (x < 0 ∨ (n : Int) ≤ x) → Q (.inl (some (AI 0))) τ) : G d 207 0 [vR 220, vI x] [] τ Q := by
  refine t207_0 (F.sh rfl (by omega) (by omega)) (fun c => k0 (Or.inl c)) (fun _ c => k0 (Or.inr (by rw [hn] at c; exact c))) (fun c1 c2 => k1 x.toNat (by rw [hn] at c2; omega) (by omega))
theorem m230 (F : FX2 τ) (hn : tI τ 220 5 = (n : Int)) (k1 : ∀ r : Nat, r < n → x = (r : Int) → Q (.inl (some (AI 1))) τ) (k0 : (x < 0 ∨ (n : Int) ≤ x) → Q (.inl (some (AI 0))) τ) : G d 230 0 [vR 220, vI x] [] τ Q := by
  refine t230_0 (F.sh rfl (by omega) (by omega)) (fun c => k0 (Or.inl c)) (fun _ c => k0 (Or.inr (by rw [hn] at c; exact c))) (fun c1 c2 => k1 x.toNat (by rw [hn] at c2; omega) (by omega))
theorem m206 (F : FX2 τ) (hn : tI τ 220 15 = (n : Int)) (k1 : ∀ r : Nat, r ≤ n → x = (r : Int) → Q (.inl (some (AI 1))) τ) (k0 : (x < 0 ∨ (n : Int) < x) → Q (.inl (some (AI 0))) τ) : G d 206 0 [vR 220, vI x] [] τ Q := by
  refine t206_0 (F.sh rfl (by omega) (by omega)) (fun c => k0 (Or.inl c)) (fun _ c => k0 (Or.inr (by rw [hn] at c; exact c))) (fun c1 c2 => k1 x.toNat (by rw [hn] at c2; omega) (by omega))
theorem m167 {lo hi : Int} (k1 : lo ≤ x → x ≤ hi → Q (.inl (some (AI 1))) τ) (k0 : (x < lo ∨ hi < x) → Q (.inl (some (AI 0))) τ) : G d 167 0 [vI x, vI lo, vI hi] [] τ Q := t167_0 (fun c => k0 (Or.inl c)) (fun _ c => k0 (Or.inr c)) k1
end ASK
section ACC
variable {τ : T2} {c : CO} {r t k : Nat}
theorem RC.g (R : RC τ c) {g i k : Nat} (h : ok c g i k) : tI τ (aC g i) (kC g i k) = cD c g i k := (R.2.1 g i k h).2
theorem RM.g (R : RM τ c) {g i k : Nat} (h : ok c g i k) (h9 : g ≤ 9) : tI τ (aM g i) (kM g k) = cD c g i k := (R.2.1 g i k h).2 h9
theorem RC.now (R : RC τ c) : tI τ 64 9 = cD c 0 0 0 := R.g (g := 0) (i := 0) (k := 0) (by unfold ok; omega)
theorem RM.now (R : RM τ c) : tI τ 220 7 = cD c 0 0 0 := R.g (g := 0) (i := 0) (k := 0) (by unfold ok; omega) (by omega)
theorem RC.r0 (R : RC τ c) (h : r < cn c 0) : tI τ (92 + 4 * r) 0 = cD c 1 r 0 := R.g (g := 1) (i := r) (k := 0) (by unfold ok; omega)
theorem RC.r1 (R : RC τ c) (h : r < cn c 0) : tI τ (92 + 4 * r) 1 = cD c 1 r 1 := R.g (g := 1) (i := r) (k := 1) (by unfold ok; omega)
theorem RC.r2 (R : RC τ c) (h : r < cn c 0) : tI τ (92 + 4 * r) 3 = cD c 1 r 2 := R.g (g := 1) (i := r) (k := 2) (by unfold ok; omega)
theorem RC.r3 (R : RC τ c) (h : r < cn c 0) : tI τ (92 + 4 * r) 4 = cD c 1 r 3 := R.g (g := 1) (i := r) (k := 3) (by unfold ok; omega)
theorem RC.r4 (R : RC τ c) (h : r < cn c 0) : tI τ (92 + 4 * r) 5 = cD c 1 r 4 := R.g (g := 1) (i := r) (k := 4) (by unfold ok; omega)
theorem RC.r5 (R : RC τ c) (h : r < cn c 0) : tI τ (92 + 4 * r) 6 = cD c 1 r 5 := R.g (g := 1) (i := r) (k := 5) (by unfold ok; omega)
theorem RM.rr (R : RM τ c) (h : r < cn c 0) (hk : k < 6) : tI τ (336 + 4 * r) k = cD c 1 r k := R.g (g := 1) (i := r) (k := k) (by unfold ok; omega) (by omega)
theorem RC.t0 (R : RC τ c) (h : t < cn c 1) : tI τ (172 + 6 * t) 0 = cD c 5 t 0 := R.g (g := 5) (i := t) (k := 0) (by unfold ok; omega)
theorem RC.t1 (R : RC τ c) (h : t < cn c 1) : tI τ (172 + 6 * t) 1 = cD c 5 t 1 := R.g (g := 5) (i := t) (k := 1) (by unfold ok; omega)
theorem RM.tt (R : RM τ c) (h : t < cn c 1) (hk : k < 2) : tI τ (416 + 7 * t) k = cD c 5 t k := R.g (g := 5) (i := t) (k := k) (by unfold ok; omega) (by omega)
theorem RC.sv (R : RC τ c) (h : t < cn c 1) (hk : k < 20) : tI τ (173 + 6 * t) k = cD c 6 t k := R.g (g := 6) (i := t) (k := k) (by unfold ok; omega)
theorem RC.gu (R : RC τ c) (h : t < cn c 1) (hk : k < 20) : tI τ (174 + 6 * t) k = cD c 7 t k := R.g (g := 7) (i := t) (k := k) (by unfold ok; omega)
theorem RC.bo (R : RC τ c) (h : t < cn c 1) (hk : k < 20) : tI τ (175 + 6 * t) k = cD c 8 t k := R.g (g := 8) (i := t) (k := k) (by unfold ok; omega)
theorem RC.wa (R : RC τ c) (h : t < cn c 1) (hk : k < 20) : tI τ (176 + 6 * t) k = cD c 9 t k := R.g (g := 9) (i := t) (k := k) (by unfold ok; omega)
theorem RM.sv (R : RM τ c) (h : t < cn c 1) (hk : k < 20) : tI τ (417 + 7 * t) k = cD c 6 t k := R.g (g := 6) (i := t) (k := k) (by unfold ok; omega) (by omega)
theorem RM.gu (R : RM τ c) (h : t < cn c 1) (hk : k < 20) : tI τ (418 + 7 * t) k = cD c 7 t k := R.g (g := 7) (i := t) (k := k) (by unfold ok; omega) (by omega)
theorem RM.bo (R : RM τ c) (h : t < cn c 1) (hk : k < 20) : tI τ (419 + 7 * t) k = cD c 8 t k := R.g (g := 8) (i := t) (k := k) (by unfold ok; omega) (by omega)
theorem RM.wa (R : RM τ c) (h : t < cn c 1) (hk : k < 20) : tI τ (420 + 7 * t) k = cD c 9 t k := R.g (g := 9) (i := t) (k := k) (by unfold ok; omega) (by omega)
theorem RC.an (R : RC τ c) (h : r < cn c 0) (hk : (k : Int) < cD c 1 r 2) : tI τ (93 + 4 * r) k = cD c 2 r k := R.g (g := 2) (i := r) (k := k) (by unfold ok; omega)
theorem RM.an (R : RM τ c) (h : r < cn c 0) (hk : (k : Int) < cD c 1 r 2) : tI τ (337 + 4 * r) k = cD c 2 r k := R.g (g := 2) (i := r) (k := k) (by unfold ok; omega) (by omega)
theorem RC.hm (R : RC τ c) (h : r < cn c 0) (hk : (k : Int) < cD c 1 r 5) : tI τ (94 + 4 * r) k = cD c 3 r k := R.g (g := 3) (i := r) (k := k) (by unfold ok; omega)
theorem RC.hp (R : RC τ c) (h : r < cn c 0) (hk : (k : Int) < cD c 1 r 5) : tI τ (95 + 4 * r) k = cD c 4 r k := R.g (g := 4) (i := r) (k := k) (by unfold ok; omega)
theorem RM.hm (R : RM τ c) (h : r < cn c 0) (hk : (k : Int) < cD c 1 r 5) : tI τ (338 + 4 * r) k = cD c 3 r k := R.g (g := 3) (i := r) (k := k) (by unfold ok; omega) (by omega)
theorem RM.hp (R : RM τ c) (h : r < cn c 0) (hk : (k : Int) < cD c 1 r 5) : tI τ (339 + 4 * r) k = cD c 4 r k := R.g (g := 4) (i := r) (k := k) (by unfold ok; omega) (by omega)
theorem RC.ba (R : RC τ c) (h : t < cn c 1) (hr : r < 20) {j : Nat} (hj : (j : Int) < cD c 8 t r) (h3 : j < 3) : tI τ (177 + 6 * t) (3 * r + j) = cD c 10 t (3 * r + j) := R.g (g := 10) (i := t) (k := 3 * r + j) (by
  unfold ok
  refine Or.inr (Or.inr (Or.inr (Or.inr (Or.inr (Or.inr (Or.inl ⟨rfl, h, by omega, ?_⟩))))))
  rw [show (3 * r + j) / 3 = r by omega, show (3 * r + j) % 3 = j by omega]
  exact hj)
end ACC
section CG
theorem enc_cg {p q : Nat → Bool} : ∀ n, (∀ i, i < n → p i = q i) → enc p n = enc q n ∧ cnt p n = cnt q n
  | 0, _ => ⟨rfl, rfl⟩
  | n + 1, h => by
    obtain ⟨h1, h2⟩ := enc_cg n (fun i hi => h i (by omega))
    show enc p n + 2 ^ n * bv (p n) = enc q n + 2 ^ n * bv (q n) ∧ cnt p n + bv (p n) = cnt q n + bv (q n)
    rw [h1, h2, h n (by omega)]
    exact ⟨rfl, rfl⟩
theorem latC_cg {f g : Nat → Int} {m s : Int} : ∀ n, (∀ i, i < n → f i = g i) → latC f m s n = latC g m s n
  | 0, _ => rfl
  | n + 1, h => by
    simp only [latC]
    rw [latC_cg n (fun i hi => h i (by omega)), h n (by omega)]
theorem latM_cg {f g : Nat → Int} {m : Int} : ∀ n, (∀ i, i < n → f i = g i) → latM f m n = latM g m n
  | 0, _ => rfl
  | n + 1, h => by
    simp only [latM]
    rw [latM_cg n (fun i hi => h i (by omega)), h n (by omega)]
theorem prI_cg {b : Int} {f g p q : Nat → Int} {m : Int} {r : Nat} : ∀ n, (∀ h : Nat, h < n → (h : Int) < b → f (3 * r + h) = g (3 * r + h) ∧ p h = q h) → prI b f p m r n = prI b g q m r n
  | 0, _ => rfl
  | n + 1, h => by
    simp only [prI]
    rw [prI_cg n (fun i hi hb => h i (by omega) hb)]
    by_cases hb : (n : Int) < b
    · rw [(h n (by omega) hb).1, (h n (by omega) hb).2]
    · rw [if_neg (by omega), if_neg (by omega)]
theorem prC_cg {bo bo1 f g : Nat → Int} {p q : Nat → Nat → Int} {m : Int} : ∀ n, (∀ r, r < n → bo r = bo1 r ∧ ∀ h : Nat, h < 3 → (h : Int) < bo r → f (3 * r + h) = g (3 * r + h) ∧ p r h = q r h) → prC bo f p m n = prC bo1 g q m n
  | 0, _ => rfl
  | n + 1, h => by
    simp only [prC]
    obtain ⟨h1, h2⟩ := h n (by omega)
    rw [prC_cg n (fun i hi => h i (by omega)), ← h1, prI_cg 3 h2]
theorem paM_L {m : Int} {l : List (Int × Int)} {f g : Nat → Int} (h : ∀ j x, l[j]? = some x → f j = x.1 ∧ g j = x.2) : ∀ n, n ≤ l.length → paM f g m n = paL m (l.take n)
  | 0, _ => by simp [paM, paL]
  | n + 1, hn => by
    have ap : ∀ (a : List (Int × Int)) (y : Int × Int), paL m (a ++ [y]) = paL m a + (if y.1 ≤ m then y.2 else 0) := by
      intro a y
      induction a with
      | nil => simp [paL]
      | cons z a ih => simp only [List.cons_append, paL, ih]; omega
    have hx : l[n]? = some l[n] := List.getElem?_eq_getElem (by omega)
    obtain ⟨e1, e2⟩ := h n _ hx
    simp only [paM]
    rw [paM_L h n (by omega), List.take_succ, hx, e1, e2]
    show _ = paL m (l.take n ++ [l[n]])
    rw [ap]
end CG
/-- what a team has: the latest minute, prices -/
def laT (c : CO) (t : Nat) (m : Int) : Int := latC (cD c 6 t) m (cD c 5 t 0) 20
def prT (c : CO) (t : Nat) (m : Int) : Int := prC (cD c 8 t) (cD c 10 t) (cD c 4) m 20
def slT (c : CO) (t : Nat) (m : Int) : Nat → Bool := slv (cD c 6 t) m
section TM2
variable {d : Nat} {τ : T2} {Q : RS → T2 → Prop} {c : CO} {t : Nat} {m : Int}
theorem c61' (F : FX2 τ) (R : RC τ c) (w : WF c) (ht : t < cn c 1) (h : Q (.inl (some (AI (enc (slT c t m) 20 : Nat)))) τ) : G d 61 0 [vR (172 + 6 * t), vI m, none, none] [] τ Q := by
  have h8 := w.1.2.1
  refine c61 F (by omega) ?_
  rw [(enc_cg (p := slv (tI τ (173 + 6 * t)) m) (q := slT c t m) 20 (fun i hi => by unfold slT slv; rw [R.sv ht hi])).1]
  exact h
theorem m157' (F : FX2 τ) (R : RM τ c) (w : WF c) (ht : t < cn c 1) (h : Q (.inl (some (AI (enc (slT c t m) 20 : Nat)))) τ) : G d 157 0 [vR (416 + 7 * t), vI m, none, none] [] τ Q := by
  have h8 := w.1.2.1
  refine m157 F (by omega) ?_
  rw [(enc_cg (p := slv (tI τ (417 + 7 * t)) m) (q := slT c t m) 20 (fun i hi => by unfold slT slv; rw [R.sv ht hi])).1]
  exact h
theorem c62' (F : FX2 τ) (R : RC τ c) (w : WF c) (ht : t < cn c 1) (h : Q (.inl (some (AI (laT c t m)))) τ) : G d 62 0 [vR (172 + 6 * t), vI m, none, none] [] τ Q := by
  have h8 := w.1.2.1
  refine c62 F (by omega) ?_
  rw [latC_cg (g := cD c 6 t) 20 (fun i hi => R.sv ht hi), R.t0 ht]
  exact h
theorem m158' (F : FX2 τ) (R : RM τ c) (w : WF c) (hd : 17 ≤ d) (ht : t < cn c 1) (h : Q (.inl (some (AI (laT c t m)))) τ) : G d 158 0 [vR (416 + 7 * t), vI m, none, none] [] τ Q := by
  have h8 := w.1.2.1
  obtain ⟨w1, -, w2⟩ := w.2.2.1 t ht
  refine m158 F (by omega) hd ?_
  unfold laT at h
  rw [lat_eq w1.1 (fun r hr => by have := (w2 r hr).1; omega)] at h
  unfold latN at h ⊢
  rw [latM_cg (g := cD c 6 t) 20 (fun i hi => R.sv ht hi), R.tt ht (by omega)]
  exact h
theorem c63' (F : FX2 τ) (R : RC τ c) (w : WF c) (ht : t < cn c 1) (h : Q (.inl (some (AI (prT c t m)))) τ) : G d 63 0 [vR (172 + 6 * t), vI m, vR 66, none, none, none] [] τ Q := by
  have h8 := w.1.2.1
  obtain ⟨w1, -, w2⟩ := w.2.2.1 t ht
  have bd : ∀ r h : Nat, r < 20 → (h : Int) < cD c 8 t r → r < cn c 0 ∧ (h : Int) < cD c 1 r 5 := fun r h hr hh => by
    have := (w2 r hr).2.2.1
    by_cases e : r < cn c 0
    · have := this.2.2.2 e; omega
    · have := this.2.2.1 (by omega); omega
  refine c63 F (by omega) (fun r h hr h3 hh => ?_) ?_
  · rw [R.bo ht hr] at hh
    obtain ⟨b1, b2⟩ := bd r h hr hh
    rw [R.hp b1 b2]
    exact ((w.2.1 r b1).2.2.2.2.2.2.2 h b2).2
  · rw [prC_cg (bo1 := cD c 8 t) (g := cD c 10 t) (q := cD c 4) 20 (fun r hr => ⟨R.bo ht hr, fun h h3 hh => ?_⟩)]
    · exact h
    · rw [R.bo ht hr] at hh
      obtain ⟨b1, b2⟩ := bd r h hr hh
      exact ⟨R.ba ht hr hh h3, R.hp b1 b2⟩
theorem sB_le {f : Nat → Int} : ∀ n, (∀ i, i < n → 0 ≤ f i ∧ f i ≤ 3) → 0 ≤ sB f n ∧ sB f n ≤ 3 * (n : Int)
  | 0, _ => ⟨Int.le_refl _, by simp [sB]⟩
  | n + 1, h => by
    have h1 := sB_le n (fun i hi => h i (by omega))
    have h2 := h n (by omega)
    simp only [sB]
    omega
theorem cP60 (w : WF c) (ht : t < cn c 1) : (cP c t).length ≤ 60 := by
  have h1 := (w.2.2.2.2 t ht).2.1
  obtain ⟨-, -, w2⟩ := w.2.2.1 t ht
  have := sB_le (f := cD c 8 t) 20 (fun i hi => by have := (w2 i hi).2.2.1; omega)
  omega
theorem m159' (F : FX2 τ) (R : RM τ c) (w : WF c) (ht : t < cn c 1) (h : Q (.inl (some (AI (prT c t m)))) τ) : G d 159 0 [vR (416 + 7 * t), vI m, none, none] [] τ Q := by
  have h8 := w.1.2.1
  obtain ⟨p1, p2, p3⟩ := w.2.2.2.2 t ht
  have h60 := cP60 w ht
  obtain ⟨r1, r2⟩ := R.2.2.2.1 t ht
  refine m159 F (by omega) r1 h60 (fun k hk => ?_) ?_
  · have hx : (cP c t)[k]? = some (cP c t)[k] := List.getElem?_eq_getElem hk
    rw [(r2 k _ hx).2]
    exact p3 _ (List.getElem_mem hk)
  · rw [paM_L r2 _ (Nat.le_refl _), List.take_length, p1]
    exact h
theorem c64 (F : FX2 τ) (R : RC τ c) (w : WF c) (ht : t < cn c 1) (hd : 1 ≤ d) (h : Q (.inl (some (AI (wr (laT c t m + prT c t m))))) τ) : G d 64 0 [vR (172 + 6 * t), vI m, vR 66] [] τ Q := by
  have h8 := w.1.2.1
  have s0 := F.sh (shT t (by omega)).1 (by omega) (by omega)
  exact t64_0 (r2 := some 66) hd s0 (c62' F R w ht (t64_5 hd s0 (c63' F R w ht (t64_11 h))))
theorem m160 (F : FX2 τ) (R : RM τ c) (w : WF c) (ht : t < cn c 1) (hd : 18 ≤ d) (h : Q (.inl (some (AI (wr (laT c t m + prT c t m))))) τ) : G d 160 0 [vR (416 + 7 * t), vI m] [] τ Q := by
  have h8 := w.1.2.1
  have s0 := F.sh (shU t (by omega)).1 (by omega) (by omega)
  exact t160_0 (by omega) s0 (m158' F R w (by omega) ht (t160_5 (by omega) s0 (m159' F R w ht (t160_10 h))))
end TM2
