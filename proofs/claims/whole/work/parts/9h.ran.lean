/-! rank: what it is -/
def mrk (c : CO) (t : Nat) (m : Int) : Int := laT c t m + prT c t m
def fnd (c : CO) (t : Nat) (m : Int) : Bool := decide (lasR c ≠ -1) && slT c t m (lasR c).toNat
/-- before: the last one solved, more solved, a smaller mark, a smaller number -/
def rky (b n m t : Int) : Int := ((b * 32 + 20 - n) * 1048576 + m) * 8 + t
theorem rky_lt {b n m t b1 n1 m1 t1 : Int} (hb : b = 0 ∨ b = 1) (hb1 : b1 = 0 ∨ b1 = 1) (hn : 0 ≤ n ∧ n ≤ 20) (hn1 : 0 ≤ n1 ∧ n1 ≤ 20) (hm : 0 ≤ m ∧ m < 1048576) (hm1 : 0 ≤ m1 ∧ m1 < 1048576) (ht : 0 ≤ t ∧ t < 8) (ht1 : 0 ≤ t1 ∧ t1 < 8) : rky b1 n1 m1 t1 < rky b n m t ↔ (b1 < b ∨ (b1 = b ∧ (n < n1 ∨ (n = n1 ∧ (m1 < m ∨ (m1 = m ∧ t1 < t)))))) := by
  unfold rky
  rcases Int.lt_trichotomy b1 b with h | h | h
  · exact ⟨fun _ => Or.inl h, fun _ => by omega⟩
  · subst h
    rcases Int.lt_trichotomy n1 n with h | h | h
    · exact ⟨fun z => by omega, fun z => by omega⟩
    · subst h
      rcases Int.lt_trichotomy m1 m with h | h | h
      · exact ⟨fun _ => Or.inr ⟨rfl, Or.inr ⟨rfl, Or.inl h⟩⟩, fun _ => by omega⟩
      · subst h
        exact ⟨fun z => Or.inr ⟨rfl, Or.inr ⟨rfl, Or.inr ⟨rfl, by omega⟩⟩⟩, fun z => by omega⟩
      · exact ⟨fun z => by omega, fun z => by omega⟩
    · exact ⟨fun _ => Or.inr ⟨rfl, Or.inl h⟩, fun _ => by omega⟩
  · exact ⟨fun z => by omega, fun z => by omega⟩
def key (c : CO) (m : Int) (t : Nat) : Int := rky (if fnd c t m = true then 0 else 1) ((cnt (slT c t m) 20 : Nat) : Int) (mrk c t m) (t : Int)
def ahd (c : CO) (m : Int) (t u : Nat) : Bool := decide (cD c 5 u 0 ≤ m ∧ key c m u < key c m t)
def rnk (c : CO) (x m : Int) : Nat → Nat → Int
  | 0, _ => -1
  | j + 1, t => if cD c 5 t 0 ≤ m ∧ ((cnt (ahd c m t) (cn c 1) : Nat) : Int) = x then (t : Int) else rnk c x m j (t + 1)
def sp_rank (x m : Int) (S : HSx) : Int × HSx := (if 0 ≤ x ∧ 0 ≤ m ∧ m ≤ cD S.1 0 0 0 then rnk S.1 x m (cn S.1 1) 0 else -1, S)
theorem lst_c (f : Nat → Int) : ∀ j k, lstR f j k = -1 ∨ ∃ r, k ≤ r ∧ r < k + j ∧ lstR f j k = (r : Int)
  | 0, _ => Or.inl rfl
  | j + 1, k => by
    simp only [lstR]
    by_cases e : f k = 2
    · rw [if_pos e]; exact Or.inr ⟨k, Nat.le_refl _, by omega, rfl⟩
    · rw [if_neg e]
      rcases lst_c f j (k + 1) with h | ⟨r, h1, h2, h3⟩
      · exact Or.inl h
      · exact Or.inr ⟨r, by omega, by omega, h3⟩
theorem las_c (c : CO) : lasR c = -1 ∨ ∃ r, r < cn c 0 ∧ lasR c = (r : Int) := by
  rcases lst_c (fun r => cD c 1 r 0) (cn c 0) 0 with h | ⟨r, -, h2, h3⟩
  · exact Or.inl h
  · exact Or.inr ⟨r, by omega, h3⟩
theorem latC_b {f : Nat → Int} {m s : Int} (hs : 0 ≤ s ∧ s ≤ 9999) : ∀ n, (∀ r, r < n → f r ≤ 9999) → 0 ≤ latC f m s n ∧ latC f m s n ≤ 9999
  | 0, _ => hs
  | n + 1, h => by
    have h1 := latC_b (m := m) hs n (fun r hr => h r (by omega))
    have h2 := h n (by omega)
    simp only [latC]
    split
    · omega
    · exact h1
theorem mrk_b {c : CO} (w : WF c) {t : Nat} (ht : t < cn c 1) (m : Int) : 0 ≤ mrk c t m ∧ mrk c t m ≤ 69939 := by
  have hn := w.1.2.2.2
  obtain ⟨w1, -, w2⟩ := w.2.2.1 t ht
  have h1 : 0 ≤ laT c t m ∧ laT c t m ≤ 9999 := latC_b (by omega) 20 (fun r hr => by have := (w2 r hr).1; omega)
  have h2 : 0 ≤ prT c t m ∧ prT c t m ≤ 2997 * ((20 : Nat) : Int) := prC_b (fun r h hr h3 hh => by
    have := (w2 r hr).2.2.1
    by_cases e : r < cn c 0
    · have := this.2.2.2 e
      exact ((w.2.1 r e).2.2.2.2.2.2.2 h (by omega)).2
    · have := this.2.2.1 (by omega)
      omega) 20 (Nat.le_refl _)
  unfold mrk
  generalize laT c t m = a at *
  generalize prT c t m = b at *
  omega
theorem mrk_w {c : CO} (w : WF c) {t : Nat} (ht : t < cn c 1) (m : Int) : wr (laT c t m + prT c t m) = mrk c t m := by
  have h := mrk_b w ht m
  unfold mrk at *
  generalize laT c t m + prT c t m = a at *
  exact wr_id (by unfold okI; omega)
/-- the key in a long -/
theorem key_l {b n m t : Nat} (hb : b ≤ 1) (hn : n ≤ 20) (hm : m ≤ 69939) (ht : t < 8) : wl (lshl (wl (lshl (wl (wl (lshl (b : Int) 5 + 20) - (n : Int))) 20 + (m : Int))) 3 + (t : Int)) = rky (b : Int) (n : Int) (m : Int) (t : Int) := by
  have e1 : lshl (b : Int) 5 = ((b * 2 ^ 5 : Nat) : Int) := lshl_nat (x := b) (k := 5) (by omega) (by omega)
  rw [e1, wl_id (x := ((b * 2 ^ 5 : Nat) : Int) + 20) (by unfold okJ; omega), wl_id (x := ((b * 2 ^ 5 : Nat) : Int) + 20 - (n : Int)) (by unfold okJ; omega)]
  have e2 : ((b * 2 ^ 5 : Nat) : Int) + 20 - (n : Int) = ((b * 32 + 20 - n : Nat) : Int) := by omega
  rw [e2]
  have e3 : lshl ((b * 32 + 20 - n : Nat) : Int) 20 = (((b * 32 + 20 - n) * 2 ^ 20 : Nat) : Int) := lshl_nat (x := b * 32 + 20 - n) (k := 20) (by omega) (by omega)
  rw [e3, wl_id (x := (((b * 32 + 20 - n) * 2 ^ 20 : Nat) : Int) + (m : Int)) (by unfold okJ; omega)]
  have e4 : (((b * 32 + 20 - n) * 2 ^ 20 : Nat) : Int) + (m : Int) = (((b * 32 + 20 - n) * 1048576 + m : Nat) : Int) := by omega
  rw [e4]
  have e5 : lshl (((b * 32 + 20 - n) * 1048576 + m : Nat) : Int) 3 = ((((b * 32 + 20 - n) * 1048576 + m) * 2 ^ 3 : Nat) : Int) := lshl_nat (x := (b * 32 + 20 - n) * 1048576 + m) (k := 3) (by omega) (by omega)
  rw [e5, wl_id (by unfold okJ; omega)]
  unfold rky
  omega
