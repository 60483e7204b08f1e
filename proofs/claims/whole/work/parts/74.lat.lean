/-! LATEST MINUTES, PRICES, MARKS -/
def latC (f : Nat → Int) (m s : Int) : Nat → Int
  | 0 => s
  | n + 1 => if f n ≤ m ∧ latC f m s n < f n then f n else latC f m s n
def latM (f : Nat → Int) (m : Int) : Nat → Int
  | 0 => -1
  | n + 1 => if f n ≤ m then (if latM f m n < f n then f n else latM f m n) else latM f m n
def latN (f : Nat → Int) (m s : Int) : Int := if latM f m 20 = -1 then s else latM f m 20
theorem lat_eq {f : Nat → Int} {m s : Int} (hs : 0 ≤ s) (hf : ∀ r, r < 20 → f r = -1 ∨ s ≤ f r) : latC f m s 20 = latN f m s := by
  have key : ∀ n, n ≤ 20 → (latM f m n = -1 ∧ latC f m s n = s) ∨ (s ≤ latM f m n ∧ latC f m s n = latM f m n) := by
    intro n
    induction n with
    | zero => intro _; exact Or.inl ⟨rfl, rfl⟩
    | succ n ih =>
      intro hn
      have h1 := hf n (by omega)
      simp only [latM, latC]
      rcases ih (by omega) with ⟨a, b⟩ | ⟨a, b⟩
      · rw [a, b]
        rcases h1 with h1 | h1
        · rw [h1]
          refine Or.inl ⟨?_, ?_⟩
          · split <;> simp
          · rw [if_neg (by omega)]
        · by_cases hm : f n ≤ m
          · rw [if_pos hm, if_pos (by omega)]
            refine Or.inr ⟨h1, ?_⟩
            by_cases h2 : s < f n
            · rw [if_pos ⟨hm, h2⟩]
            · rw [if_neg (by omega)]; omega
          · rw [if_neg hm, if_neg (by omega)]
            exact Or.inl ⟨rfl, rfl⟩
      · rw [b]
        rcases h1 with h1 | h1
        · rw [h1]
          refine Or.inr ⟨?_, ?_⟩
          · split
            · rw [if_neg (by omega)]; exact a
            · exact a
          · rw [if_neg (by omega)]
            split
            · rw [if_neg (by omega)]
            · rfl
        · by_cases hm : f n ≤ m
          · rw [if_pos hm]
            by_cases h2 : latM f m n < f n
            · rw [if_pos h2, if_pos ⟨hm, h2⟩]
              exact Or.inr ⟨h1, rfl⟩
            · rw [if_neg h2, if_neg (by omega)]
              exact Or.inr ⟨a, rfl⟩
          · rw [if_neg hm, if_neg (by omega)]
            exact Or.inr ⟨a, rfl⟩
  unfold latN
  rcases key 20 (Nat.le_refl _) with ⟨a, b⟩ | ⟨a, b⟩
  · rw [if_pos a, b]
  · rw [if_neg (by omega), b]
/-- prices: of the hints that were bought, by riddles and hints; by the list of what was bought -/
def prI (b : Int) (at_ pr : Nat → Int) (m : Int) (r : Nat) : Nat → Int
  | 0 => 0
  | h + 1 => prI b at_ pr m r h + (if (h : Int) < b ∧ at_ (3 * r + h) ≤ m then pr h else 0)
def prC (bo at_ : Nat → Int) (pr : Nat → Nat → Int) (m : Int) : Nat → Int
  | 0 => 0
  | r + 1 => prC bo at_ pr m r + prI (bo r) at_ (pr r) m r 3
def paM (mi pr : Nat → Int) (m : Int) : Nat → Int
  | 0 => 0
  | k + 1 => paM mi pr m k + (if mi k ≤ m then pr k else 0)
section TL
variable {d : Nat} {τ : T2} {Q : RS → T2 → Prop}
theorem c62 (F : FX2 τ) {t : Nat} (ht : t < 8) {m : Int} (h : Q (.inl (some (AI (latC (tI τ (173 + 6 * t)) m (tI τ (172 + 6 * t) 0) 20)))) τ) : G d 62 0 [vR (172 + 6 * t), vI m, none, none] [] τ Q := by
  have s0 := F.sh (shT t ht).1 (by omega) (by omega)
  have s1 := F.sh (shT t ht).2.1 (by omega) (by omega)
  have p1 := F.p (ptT t ht).2.1
  refine t62_0 s0 (dn (P := fun k => G d 62 7 [vR (172 + 6 * t), vI m, vI (latC (tI τ (173 + 6 * t)) m (tI τ (172 + 6 * t) 0) k), vI (k : Int)] [] τ Q) 20 ?_ fun k hk ih => ?_)
  · exact t62_7 (n5 := 20) s0 p1 s1 (fun _ => by omega) (fun _ => h) (fun c => by omega) (fun c => by omega) (fun c => by omega)
  · refine t62_7 (n5 := 20) s0 p1 s1 (fun _ => by omega) (fun c => by omega) (fun _ c => ?_) (fun _ c1 c2 => ?_) (fun _ c1 c2 => ?_)
    · rw [wr_nat (by omega)]
      simp only [Int.toNat_natCast] at c
      simp only [latC] at ih
      rw [if_neg (by omega)] at ih
      exact ih
    · rw [wr_nat (by omega)]
      simp only [Int.toNat_natCast] at c1 c2
      simp only [latC] at ih
      rw [if_neg (by omega)] at ih
      exact ih
    · rw [wr_nat (by omega)]
      simp only [Int.toNat_natCast] at c1 c2 ⊢
      simp only [latC] at ih
      rw [if_pos ⟨c1, c2⟩] at ih
      exact ih
theorem m158 (F : FX2 τ) {t : Nat} (ht : t < 8) {m : Int} (hd : 17 ≤ d) (h : Q (.inl (some (AI (latN (tI τ (417 + 7 * t)) m (tI τ (416 + 7 * t) 0))))) τ) : G d 158 0 [vR (416 + 7 * t), vI m, none, none] [] τ Q := by
  have s0 := F.sh (shU t ht).1 (by omega) (by omega)
  have s1 := F.sh (shU t ht).2.1 (by omega) (by omega)
  have p1 := F.p (ptU t ht).2.1
  refine t158_0 (dn (P := fun k => G d 158 4 [vR (416 + 7 * t), vI m, vI (latM (tI τ (417 + 7 * t)) m k), vI (k : Int)] [] τ Q) 20 ?_ fun k hk ih => ?_)
  · unfold latN at h
    refine t158_4 (n6 := 20) hd s0 p1 s1 (fun _ => by omega) (fun _ c => ?_) (fun _ c => ?_) (fun c => by omega) (fun c => by omega)
    · rw [if_neg c] at h; exact h
    · rw [if_pos c] at h; exact h
  · refine t158_4 (n6 := 20) hd s0 p1 s1 (fun _ => by omega) (fun c => by omega) (fun c => by omega) (fun _ c => ?_) (fun _ c => ?_)
    · rw [wr_nat (by omega)]
      simp only [Int.toNat_natCast] at c
      simp only [latM] at ih
      rw [if_neg (by omega)] at ih
      exact ih
    · rw [wr_nat (by omega)]
      simp only [Int.toNat_natCast] at c ⊢
      simp only [latM] at ih
      rw [if_pos c] at ih
      exact ih
theorem prI_b {b : Int} {at_ pr : Nat → Int} {m : Int} {r : Nat} (hp : ∀ h : Nat, h < 3 → (h : Int) < b → 0 ≤ pr h ∧ pr h ≤ 999) : ∀ h, h ≤ 3 → 0 ≤ prI b at_ pr m r h ∧ prI b at_ pr m r h ≤ 999 * (h : Int) := by
  intro h
  induction h with
  | zero => intro _; exact ⟨Int.le_refl _, by simp [prI]⟩
  | succ h ih =>
    intro hh
    have h1 := ih (by omega)
    simp only [prI]
    split
    · rename_i q
      have h2 := hp h (by omega) q.1
      omega
    · omega
theorem prC_b {bo at_ : Nat → Int} {pr : Nat → Nat → Int} {m : Int} (hp : ∀ r h : Nat, r < 20 → h < 3 → (h : Int) < bo r → 0 ≤ pr r h ∧ pr r h ≤ 999) : ∀ r, r ≤ 20 → 0 ≤ prC bo at_ pr m r ∧ prC bo at_ pr m r ≤ 2997 * (r : Int) := by
  intro r
  induction r with
  | zero => intro _; exact ⟨Int.le_refl _, by simp [prC]⟩
  | succ r ih =>
    intro hr
    have h1 := ih (by omega)
    have h2 := prI_b (b := bo r) (at_ := at_) (m := m) (r := r) (pr := pr r) (fun h hh => hp r h (by omega) hh) 3 (by omega)
    simp only [prC]
    omega
theorem c63 (F : FX2 τ) {t : Nat} (ht : t < 8) {m : Int} (hp : ∀ r h : Nat, r < 20 → h < 3 → (h : Int) < tI τ (175 + 6 * t) r → 0 ≤ tI τ (95 + 4 * r) h ∧ tI τ (95 + 4 * r) h ≤ 999) (h : Q (.inl (some (AI (prC (tI τ (175 + 6 * t)) (tI τ (177 + 6 * t)) (fun r => tI τ (95 + 4 * r)) m 20)))) τ) : G d 63 0 [vR (172 + 6 * t), vI m, vR 66, none, none, none] [] τ Q := by
  have s0 := F.sh (shT t ht).1 (by omega) (by omega)
  have s2 := F.sh (shT t ht).2.2.2.1 (by omega) (by omega)
  have s4 := F.sh (shT t ht).2.2.2.2.2 (by omega) (by omega)
  have p2 := F.p (ptT t ht).2.2.2.1
  have p4 := F.p (ptT t ht).2.2.2.2.2
  have s66 : tS τ 66 = (3, 4, 20) := F.sh rfl (by omega) (by omega)
  refine t63_0 (r2 := some 66) (dn (P := fun k => G d 63 5 [vR (172 + 6 * t), vI m, vR 66, vI (prC (tI τ (175 + 6 * t)) (tI τ (177 + 6 * t)) (fun r => tI τ (95 + 4 * r)) m k), vI (k : Int), none] [] τ Q) 20 ?_ fun r hr ih => ?_)
  · exact t63_5 (n2 := 20) s66 (fun _ => h) (fun c => by omega) (fun c => by omega)
  · refine t63_5 (n2 := 20) s66 (fun c => by omega) (fun _ c => by omega) (fun _ _ => ?_)
    have sr := F.sh (shR r hr).1 (by omega) (by omega)
    have sr4 := F.sh (shR r hr).2.2.2 (by omega) (by omega)
    have b1 := prC_b (bo := tI τ (175 + 6 * t)) (at_ := tI τ (177 + 6 * t)) (m := m) hp r (by omega)
    have ex : ∀ k : Nat, k < 3 → (wr ((wr ((r : Int) * 3)) + (k : Int))) = ((3 * r + k : Nat) : Int) := fun k hk => by
      rw [wr_id (x := (r : Int) * 3) (by unfold okI; omega), wr_id (by unfold okI; omega)]
      omega
    have fin : ∀ z : Int, z = prI (tI τ (175 + 6 * t) r) (tI τ (177 + 6 * t)) (tI τ (95 + 4 * r)) m r 3 → G d 63 5 [vR (172 + 6 * t), vI m, vR 66, vI (prC (tI τ (175 + 6 * t)) (tI τ (177 + 6 * t)) (fun r => tI τ (95 + 4 * r)) m r + z), vI (wr ((r : Int) + 1)), none] [] τ Q := fun z hz => by
      rw [wr_nat (by omega), hz]
      exact ih
    have stop : ∀ h : Nat, h ≤ 3 → tI τ (175 + 6 * t) r ≤ h → prI (tI τ (175 + 6 * t) r) (tI τ (177 + 6 * t)) (tI τ (95 + 4 * r)) m r h = prI (tI τ (175 + 6 * t) r) (tI τ (177 + 6 * t)) (tI τ (95 + 4 * r)) m r 3 := fun h hh hb => by
      have e3 : ∀ j, h ≤ j → j ≤ 3 → prI (tI τ (175 + 6 * t) r) (tI τ (177 + 6 * t)) (tI τ (95 + 4 * r)) m r j = prI (tI τ (175 + 6 * t) r) (tI τ (177 + 6 * t)) (tI τ (95 + 4 * r)) m r h := by
        intro j
        induction j with
        | zero => intro h1 _; rw [show h = 0 by omega]
        | succ j ihj =>
          intro h1 h2
          by_cases e : h = j + 1
          · rw [e]
          · simp only [prI]
            rw [if_neg (by omega), ihj (by omega) (by omega)]
            omega
      exact (e3 3 hh (Nat.le_refl _)).symm
    have s0' : G d 63 22 [vR (172 + 6 * t), vI m, vR 66, vI (prC (tI τ (175 + 6 * t)) (tI τ (177 + 6 * t)) (fun r => tI τ (95 + 4 * r)) m r + prI (tI τ (175 + 6 * t) r) (tI τ (177 + 6 * t)) (tI τ (95 + 4 * r)) m r 0), vI (r : Int), vI ((0 : Nat) : Int)] [] τ Q := by
      refine dn (P := fun k => G d 63 22 [vR (172 + 6 * t), vI m, vR 66, vI (prC (tI τ (175 + 6 * t)) (tI τ (177 + 6 * t)) (fun r => tI τ (95 + 4 * r)) m r + prI (tI τ (175 + 6 * t) r) (tI τ (177 + 6 * t)) (tI τ (95 + 4 * r)) m r k), vI (r : Int), vI (k : Int)] [] τ Q) 3 ?_ fun k hk ihk => ?_
      · refine t63_22 (q2 := 175 + 6 * t) (n4 := 20) (q9 := 177 + 6 * t) (n11 := 60) (n15 := 20) (q18 := 92 + 4 * r) (q21 := 95 + 4 * r) (n23 := 3) s0 p2 s2 ⟨by omega, by omega⟩ p4 s4 (fun _ c => by omega) s66 (fun _ c => by omega) (fun _ c => by omega) sr (F.p (ptR r hr).2.2.2) sr4 (fun _ c => by omega) (fun c => ?_) (fun _ _ => ?_) (fun _ c => by omega) (fun _ c => by omega)
        · exact fin _ rfl
        · exact fin _ rfl
      · have b2 := prI_b (b := tI τ (175 + 6 * t) r) (at_ := tI τ (177 + 6 * t)) (m := m) (r := r) (pr := tI τ (95 + 4 * r)) (fun h hh => hp r h hr hh) k (by omega)
        have b3 := hp r k hr hk
        simp only [prI] at ihk
        refine t63_22 (q2 := 175 + 6 * t) (n4 := 20) (q9 := 177 + 6 * t) (n11 := 60) (n15 := 20) (q18 := 92 + 4 * r) (q21 := 95 + 4 * r) (n23 := 3) s0 p2 s2 ⟨by omega, by omega⟩ p4 s4 (fun _ _ => by rw [ex k hk]; omega) s66 (fun _ _ _ => ⟨by omega, by omega⟩) (fun _ _ _ => by rw [Int.toNat_natCast]; exact F.p (ptR r hr).1) sr (F.p (ptR r hr).2.2.2) sr4 (fun _ _ _ => ⟨by omega, by omega⟩) (fun c => ?_) (fun _ c => by omega) (fun c _ c2 => ?_) (fun c _ c2 => ?_)
        · rw [Int.toNat_natCast] at c
          exact fin _ (stop k (by omega) c)
        · rw [ex k hk, Int.toNat_natCast] at c2
          rw [Int.toNat_natCast] at c
          rw [if_neg (by omega), Int.add_zero] at ihk
          rw [wr_nat (by omega)]
          exact ihk
        · rw [ex k hk, Int.toNat_natCast] at c2
          rw [Int.toNat_natCast] at c
          have b3 := b3 c
          rw [if_pos ⟨c, c2⟩] at ihk
          rw [wr_nat (by omega), Int.toNat_natCast, wr_id (by unfold okI; omega), Int.add_assoc]
          exact ihk
    simp only [prI, Int.add_zero] at s0'
    exact s0'
theorem m159 (F : FX2 τ) {t : Nat} (ht : t < 8) {m : Int} {n : Nat} (hn : tI τ (416 + 7 * t) 2 = (n : Int)) (h60 : n ≤ 60) (hp : ∀ k, k < n → 0 ≤ tI τ (422 + 7 * t) k ∧ tI τ (422 + 7 * t) k ≤ 999) (h : Q (.inl (some (AI (paM (tI τ (421 + 7 * t)) (tI τ (422 + 7 * t)) m n)))) τ) : G d 159 0 [vR (416 + 7 * t), vI m, none, none] [] τ Q := by
  have s0 := F.sh (shU t ht).1 (by omega) (by omega)
  have s7 := F.sh (shU t ht).2.2.2.2.2.1 (by omega) (by omega)
  have s8 := F.sh (shU t ht).2.2.2.2.2.2 (by omega) (by omega)
  have p7 := F.p (ptU t ht).2.2.2.2.2.1
  have p8 := F.p (ptU t ht).2.2.2.2.2.2
  have bd : ∀ k, k ≤ n → 0 ≤ paM (tI τ (421 + 7 * t)) (tI τ (422 + 7 * t)) m k ∧ paM (tI τ (421 + 7 * t)) (tI τ (422 + 7 * t)) m k ≤ 999 * (k : Int) := by
    intro k
    induction k with
    | zero => intro _; exact ⟨Int.le_refl _, by simp [paM]⟩
    | succ k ih =>
      intro hk
      have h1 := ih (by omega)
      have h2 := hp k (by omega)
      simp only [paM]
      split <;> omega
  refine t159_0 (dn (P := fun k => G d 159 4 [vR (416 + 7 * t), vI m, vI (paM (tI τ (421 + 7 * t)) (tI τ (422 + 7 * t)) m k), vI (k : Int)] [] τ Q) n ?_ fun k hk ih => ?_)
  · exact t159_4 (n5 := 60) (n11 := 60) s0 p7 s7 (fun c => by omega) p8 s8 (fun c => by omega) (fun _ => h) (fun c => by omega) (fun c => by omega)
  · have b1 := bd k (by omega)
    have b2 := hp k hk
    refine t159_4 (n5 := 60) (n11 := 60) s0 p7 s7 (fun c => by omega) p8 s8 (fun c _ => by omega) (fun c => by omega) (fun _ c => ?_) (fun _ c => ?_)
    · rw [Int.toNat_natCast] at c
      simp only [paM] at ih
      rw [if_neg (by omega), Int.add_zero] at ih
      rw [wr_nat (by omega), Int.add_zero, wr_id (by unfold okI; omega)]
      exact ih
    · rw [Int.toNat_natCast] at c
      simp only [paM] at ih
      rw [if_pos c] at ih
      rw [wr_nat (by omega), Int.toNat_natCast, wr_id (by unfold okI; omega)]
      exact ih
end TL
