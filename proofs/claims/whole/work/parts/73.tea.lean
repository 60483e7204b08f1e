/-! THE MODEL's bits(); which teams are ahead by minutes and prices -/
/-- from n down to 0 -/
theorem dn {P : Nat → Prop} (n : Nat) (h0 : P n) (hs : ∀ k, k < n → P (k + 1) → P k) : P 0 := by
  have key : ∀ j k, k + j = n → P k := by
    intro j
    induction j with
    | zero => intro k hk; have e : k = n := by omega
              rw [e]; exact h0
    | succ j ih => intro k hk; exact hs k (by omega) (ih (k + 1) (by omega))
  exact key n 0 (by omega)
def del (p : Nat → Bool) (r : Nat) : Nat → Bool := fun i => p i && !(Nat.beq i r)
theorem beq_ne {i r : Nat} (h : i ≠ r) : Nat.beq i r = false := Bool.eq_false_iff.mpr fun z => h (Nat.eq_of_beq_eq_true z)
theorem del_at (p : Nat → Bool) (r : Nat) : del p r r = false := by
  unfold del
  rw [Nat.beq_refl]
  simp
theorem del_ne (p : Nat → Bool) {i r : Nat} (h : i ≠ r) : del p r i = p i := by
  unfold del
  rw [beq_ne h]
  simp
theorem enc_del (p : Nat → Bool) (r : Nat) (hp : p r = true) : ∀ n, (n ≤ r → enc (del p r) n = enc p n ∧ cnt (del p r) n = cnt p n) ∧ (r < n → enc p n = enc (del p r) n + 2 ^ r ∧ cnt p n = cnt (del p r) n + 1)
  | 0 => ⟨fun _ => ⟨rfl, rfl⟩, fun h => absurd h (by omega)⟩
  | n + 1 => by
    obtain ⟨h1, h2⟩ := enc_del p r hp n
    refine ⟨fun h => ?_, fun h => ?_⟩
    · obtain ⟨a1, a2⟩ := h1 (by omega)
      show enc (del p r) n + 2 ^ n * bv (del p r n) = enc p n + 2 ^ n * bv (p n) ∧ cnt (del p r) n + bv (del p r n) = cnt p n + bv (p n)
      rw [del_ne p (by omega), a1, a2]
      exact ⟨rfl, rfl⟩
    · show enc p n + 2 ^ n * bv (p n) = enc (del p r) n + 2 ^ n * bv (del p r n) + 2 ^ r ∧ cnt p n + bv (p n) = cnt (del p r) n + bv (del p r n) + 1
      by_cases e : n = r
      · subst e
        obtain ⟨a1, a2⟩ := h1 (Nat.le_refl _)
        rw [del_at, hp, a1, a2]
        show enc p n + 2 ^ n * 1 = enc p n + 2 ^ n * 0 + 2 ^ n ∧ cnt p n + 1 = cnt p n + 0 + 1
        omega
      · obtain ⟨a1, a2⟩ := h2 (by omega)
        rw [del_ne p e, a1, a2]
        omega
theorem enc_z (p : Nat → Bool) : ∀ n, (∀ i, i < n → p i = false) → enc p n = 0 ∧ cnt p n = 0
  | 0, _ => ⟨rfl, rfl⟩
  | n + 1, h => by
    obtain ⟨a1, a2⟩ := enc_z p n (fun i hi => h i (by omega))
    show enc p n + 2 ^ n * bv (p n) = 0 ∧ cnt p n + bv (p n) = 0
    rw [h n (by omega), a1, a2]
    exact ⟨rfl, rfl⟩
theorem enc_low (p : Nat → Bool) : ∀ n, enc p n ≠ 0 → ∃ r, r < n ∧ p r = true ∧ ∀ i, i < r → p i = false
  | 0, h => absurd rfl h
  | n + 1, h => by
    by_cases e : enc p n = 0
    · refine ⟨n, by omega, ?_, fun i hi => ?_⟩
      · cases hp : p n with
        | true => rfl
        | false =>
          exfalso
          apply h
          show enc p n + 2 ^ n * bv (p n) = 0
          rw [e, hp]
          rfl
      · cases hp : p i with
        | false => rfl
        | true =>
          have := ((enc_del p i hp n).2 hi).1
          have h2 : 0 < 2 ^ i := Nat.two_pow_pos i
          omega
    · obtain ⟨r, h1, h2, h3⟩ := enc_low p n e
      exact ⟨r, by omega, h2, h3⟩
theorem enc_up (p : Nat → Bool) (r : Nat) (hp : p r = true) (hz : ∀ i, i < r → p i = false) : ∀ j, ∃ q, enc p (r + 1 + j) = 2 ^ (r + 1) * q + 2 ^ r
  | 0 => ⟨0, by
    show enc p r + 2 ^ r * bv (p r) = _
    rw [(enc_z p r hz).1, hp]
    show 0 + 2 ^ r * 1 = _
    omega⟩
  | j + 1 => by
    obtain ⟨q, hq⟩ := enc_up p r hp hz j
    refine ⟨q + 2 ^ j * bv (p (r + 1 + j)), ?_⟩
    show enc p (r + 1 + j) + 2 ^ (r + 1 + j) * bv (p (r + 1 + j)) = _
    rw [hq, Nat.pow_add 2 (r + 1) j, Nat.mul_add, Nat.mul_assoc]
    omega
/-- the lowest bit is taken out -/
theorem low_off (p : Nat → Bool) {n : Nat} (h : enc p n ≠ 0) : ∃ r, r < n ∧ p r = true ∧ (enc p n &&& (enc p n - 1)) = enc (del p r) n ∧ cnt p n = cnt (del p r) n + 1 := by
  obtain ⟨r, h1, h2, h3⟩ := enc_low p n h
  obtain ⟨a1, a2⟩ := (enc_del p r h2 n).2 h1
  refine ⟨r, h1, h2, ?_, a2⟩
  obtain ⟨q, hq⟩ := enc_up p r h2 h3 (n - (r + 1))
  rw [show r + 1 + (n - (r + 1)) = n by omega] at hq
  have hp : 0 < 2 ^ r := Nat.two_pow_pos r
  have e2 : 2 ^ (r + 1) = 2 ^ r + 2 ^ r := by rw [Nat.pow_succ]; omega
  have h5 : enc p n - 1 = 2 ^ (r + 1) * q + (2 ^ r - 1) := by omega
  rw [h5, hq, and_pow (r + 1) q q (by omega) (by omega), Nat.and_self, Nat.and_two_pow_sub_one_eq_mod, Nat.mod_self]
  omega
theorem m168 {d : Nat} {τ : T2} {Q : RS → T2 → Prop} {p : Nat → Bool} (h : Q (.inl (some (AI (cnt p 20 : Nat)))) τ) : G d 168 0 [vI (enc p 20 : Nat), none, none] [] τ Q := by
  have cl : ∀ p : Nat → Bool, cnt p 20 ≤ 20 := fun p => by
    have key : ∀ n, cnt p n ≤ n := by
      intro n
      induction n with
      | zero => exact Nat.le_refl _
      | succ n ih => show cnt p n + bv (p n) ≤ n + 1; have := bv_le (p n); omega
    exact key 20
  have lp : ∀ (c : Nat) (p : Nat → Bool) (a : Nat), cnt p 20 = c → a + c ≤ 20 → Q (.inl (some (AI ((a + c : Nat) : Int)))) τ → G d 168 4 [none, vI (a : Int), vI (enc p 20 : Nat)] [] τ Q := by
    intro c
    induction c with
    | zero =>
      intro p a hc ha hq
      refine t168_4 (fun _ => hq) (fun c => ?_)
      have hne : enc p 20 ≠ 0 := fun e => c (by rw [e]; rfl)
      obtain ⟨r, -, -, -, h4⟩ := low_off p hne
      omega
    | succ c ih =>
      intro p a hc ha hq
      refine t168_4 (fun e => ?_) (fun z => ?_)
      · have e : enc p 20 = 0 := by omega
        exfalso
        have : ∀ i, i < 20 → p i = false := fun i hi => by
          cases hp : p i with
          | false => rfl
          | true =>
            have := ((enc_del p i hp 20).2 hi).1
            have h2 : 0 < 2 ^ i := Nat.two_pow_pos i
            omega
        rw [(enc_z p 20 this).2] at hc
        omega
      · have hne : enc p 20 ≠ 0 := fun e => z (by rw [e]; rfl)
        obtain ⟨r, -, -, h3, h4⟩ := low_off p hne
        have hlt := enc_30 p (n := 20) (by decide)
        rw [show (1 : Int) = ((1 : Nat) : Int) from rfl, add_n (by omega), sub_n (by omega) hlt, zand_nat hlt (by omega), h3]
        exact ih (del p r) (a + 1) (by omega) (by omega) (by rw [show a + 1 + c = a + (c + 1) by omega]; exact hq)
  refine t168_0 ?_
  have := lp (cnt p 20) p 0 rfl (by have := cl p; omega) (by rw [Nat.zero_add]; exact h)
  exact this
