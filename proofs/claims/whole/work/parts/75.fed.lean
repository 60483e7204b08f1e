/-! BYTES THAT ARE WRITTEN ONE BEHIND ANOTHER; feed -/
theorem zbyt_eq (x : Int) : zbyt x = ((i3 x).toInt + 128) % 256 - 128 := by
  unfold zbyt
  rw [Int8.toInt_toInt32, Int32.toInt_toInt8, Int.bmod_def]
  have e1 : ((2 ^ 8 : Nat) : Int) = 256 := by decide
  rw [e1]
  split <;> omega
theorem zbyt_r (x : Int) : -128 ≤ zbyt x ∧ zbyt x ≤ 127 := by
  rw [zbyt_eq]
  omega
theorem zbyt_2 (x : Int) : zbyt (zbyt x) = zbyt x := zbyt_id (zbyt_r x).1 (zbyt_r x).2
/-- a list is written into the array a, behind what the count in the field k of b says -/
def ap (a b k : Nat) (τ : T2) : List Int → T2
  | [] => τ
  | x :: r => ap a b k (uI (uI τ a (tI τ b k).toNat x) b k (tI τ b k + 1)) r
section AP
variable {a b k : Nat} {τ : T2}
theorem ap_1 (x : Int) (r : List Int) (h : b ≠ a) : ap a b k τ (x :: r) = ap a b k (uI (uI τ a (tI τ b k).toNat x) b k (tI (uI τ a (tI τ b k).toNat x) b k + 1)) r := by
  show ap a b k (uI (uI τ a (tI τ b k).toNat x) b k (tI τ b k + 1)) r = _
  rw [show tI (uI τ a (tI τ b k).toNat x) b k = tI τ b k from if_neg (fun e => h e.1)]
theorem ap_fr : ∀ (l : List Int) (τ : T2), tP (ap a b k τ l) = tP τ ∧ tS (ap a b k τ l) = tS τ ∧ tN (ap a b k τ l) = tN τ ∧ tZ (ap a b k τ l) = tZ τ
  | [], _ => ⟨rfl, rfl, rfl, rfl⟩
  | x :: r, τ => ap_fr r _
theorem ap_app : ∀ (l m : List Int) (τ : T2), ap a b k τ (l ++ m) = ap a b k (ap a b k τ l) m
  | [], _, _ => rfl
  | x :: r, m, τ => ap_app r m _
theorem ap_oth : ∀ (l : List Int) (τ : T2) {c : Nat}, c ≠ a → c ≠ b → tI (ap a b k τ l) c = tI τ c
  | [], _, _, _, _ => rfl
  | x :: r, τ, c, h1, h2 => by
    show tI (ap a b k _ r) c = _
    rw [ap_oth r _ h1 h2]
    show up (up (tI τ) a _ x) b k _ c = _
    rw [up_oth _ _ _ h2, up_oth _ _ _ h1]
theorem ap_fld : ∀ (l : List Int) (τ : T2) {j : Nat}, b ≠ a → j ≠ k → tI (ap a b k τ l) b j = tI τ b j
  | [], _, _, _, _ => rfl
  | x :: r, τ, j, h1, h2 => by
    show tI (ap a b k _ r) b j = _
    rw [ap_fld r _ h1 h2]
    show (if b = b ∧ j = k then _ else if b = a ∧ j = _ then x else tI τ b j) = _
    rw [if_neg (fun e => h2 e.2), if_neg (fun e => h1 e.1)]
theorem ap_cnt : ∀ (l : List Int) (τ : T2), b ≠ a → tI (ap a b k τ l) b k = tI τ b k + l.length
  | [], _, _ => by simp [ap]
  | x :: r, τ, h => by
    show tI (ap a b k _ r) b k = _
    rw [ap_cnt r _ h]
    have e : tI (uI (uI τ a (tI τ b k).toNat x) b k (tI τ b k + 1)) b k = tI τ b k + 1 := if_pos ⟨rfl, rfl⟩
    rw [e]
    simp only [List.length_cons]
    omega
/-- what was there, what is there now -/
theorem ap_old : ∀ (l : List Int) (τ : T2) {n j : Nat}, b ≠ a → tI τ b k = (n : Int) → (j < n ∨ n + l.length ≤ j) → tI (ap a b k τ l) a j = tI τ a j
  | [], _, _, _, _, _, _ => rfl
  | x :: r, τ, n, j, h, hn, hj => by
    show tI (ap a b k _ r) a j = _
    simp only [List.length_cons] at hj
    rw [ap_old r _ (n := n + 1) h (by show (if b = b ∧ k = k then _ else _) = _; rw [if_pos ⟨rfl, rfl⟩, hn]; rfl) (by omega)]
    show (if a = b ∧ j = k then _ else if a = a ∧ j = (tI τ b k).toNat then x else tI τ a j) = _
    rw [if_neg (fun e => h e.1.symm), hn, Int.toNat_natCast, if_neg (fun e => by omega)]
theorem ap_new : ∀ (l : List Int) (τ : T2) {n j : Nat}, b ≠ a → tI τ b k = (n : Int) → j < l.length → tI (ap a b k τ l) a (n + j) = l.getD j 0
  | [], _, _, _, _, _, hj => by simp at hj
  | x :: r, τ, n, 0, h, hn, _ => by
    show tI (ap a b k _ r) a (n + 0) = x
    rw [ap_old r _ (n := n + 1) h (by show (if b = b ∧ k = k then _ else _) = _; rw [if_pos ⟨rfl, rfl⟩, hn]; rfl) (by omega)]
    show (if a = b ∧ n + 0 = k then _ else if a = a ∧ n + 0 = (tI τ b k).toNat then x else tI τ a (n + 0)) = _
    rw [if_neg (fun e => h e.1.symm), hn, Int.toNat_natCast, if_pos ⟨rfl, rfl⟩]
  | x :: r, τ, n, j + 1, h, hn, hj => by
    show tI (ap a b k _ r) a (n + (j + 1)) = r.getD j 0
    rw [show n + (j + 1) = n + 1 + j by omega]
    exact ap_new r _ (n := n + 1) h (by show (if b = b ∧ k = k then _ else _) = _; rw [if_pos ⟨rfl, rfl⟩, hn]; rfl) (by simpa using hj)
theorem ap_kp {lo hi : Nat} (l : List Int) (τ0 τ : T2) (h : Kp lo hi τ0 τ) (h1 : lo ≤ a) (h2 : a < hi) (h3 : lo ≤ b) (h4 : b < hi) : Kp lo hi τ0 (ap a b k τ l) := by
  induction l generalizing τ with
  | nil => exact h
  | cons x r ih => exact ih _ ((h.j h1 h2).j h3 h4)
theorem ap_fx (F : FX2 τ) (l : List Int) : FX2 (ap a b k τ l) := by
  obtain ⟨h1, h2, h3, -⟩ := ap_fr (a := a) (b := b) (k := k) l τ
  refine ⟨by rw [h3]; exact F.1, fun c hc hc2 => by rw [h2]; exact F.2.1 c hc hc2, fun c j q hq => by rw [h1]; exact F.2.2 c j q hq⟩
end AP
/-- the four bytes of a number -/
def by4 (x : Int) : List Int := [zbyt (zshr x 24), zbyt (zshr x 16), zbyt (zshr x 8), zbyt (zshr x 0)]
section FD
variable {d : Nat} {τ : T2} {Q : RS → T2 → Prop}
theorem c125 (F : FX2 τ) {n : Nat} (hn : tI τ 64 1 = (n : Int)) (h300 : n + 4 ≤ 300) {x : Int} (h : Q (.inl none) (ap 65 64 1 τ (by4 x))) : G d 125 0 [vR 64, vI x, none] [] τ Q := by
  have st : ∀ (τ : T2) (n : Nat) (y : Int), FX2 τ → tI τ 64 1 = (n : Int) → n < 300 → 0 ≤ y → G d 125 3 [vR 64, vI x, vI (wr (y + -8))] [] (ap 65 64 1 τ [zbyt (zshr x y)]) Q → G d 125 3 [vR 64, vI x, vI y] [] τ Q := by
    intro τ n y F hn h3 hy kk
    have s0 : tS τ 64 = (1, 11, 0) := F.sh rfl (by omega) (by omega)
    have s1 : tS τ 65 = (2, 1, 300) := F.sh rfl (by omega) (by omega)
    refine t125_3 (q4 := 65) (n6 := 300) s0 (F.p rfl) s1 (fun _ _ => by omega) (fun c => by omega) (fun _ c => by omega) (fun _ _ => ?_)
    rw [zbyt_2]
    rw [ap_1 _ _ (by decide)] at kk
    rw [wr_id (x := _ + 1) (by
      rw [tI_uI, if_neg (fun e => absurd e.1 (by decide)), hn]
      unfold okI; omega)]
    exact kk
  refine t125_0 ?_
  refine st τ n 24 F hn (by omega) (by omega) ?_
  have c1 := ap_cnt (a := 65) (b := 64) (k := 1) [zbyt (zshr x 24)] τ (by decide)
  rw [hn] at c1
  refine st _ (n + 1) 16 (ap_fx F _) c1 (by omega) (by omega) ?_
  rw [← ap_app]
  have c2 := ap_cnt (a := 65) (b := 64) (k := 1) [zbyt (zshr x 24), zbyt (zshr x 16)] τ (by decide)
  rw [hn] at c2
  refine st _ (n + 2) 8 (ap_fx F _) c2 (by omega) (by omega) ?_
  rw [← ap_app]
  have c3 := ap_cnt (a := 65) (b := 64) (k := 1) [zbyt (zshr x 24), zbyt (zshr x 16), zbyt (zshr x 8)] τ (by decide)
  rw [hn] at c3
  refine st _ (n + 3) 0 (ap_fx F _) c3 (by omega) (by omega) ?_
  rw [← ap_app]
  have s0 : tS (ap 65 64 1 τ (by4 x)) 64 = (1, 11, 0) := (ap_fx F _).sh rfl (by omega) (by omega)
  exact t125_3 (q4 := 65) (n6 := 300) s0 ((ap_fx F _).p rfl) ((ap_fx F _).sh rfl (by omega) (by omega)) (fun c => absurd c (by decide)) (fun _ => h) (fun c => absurd c (by decide)) (fun c => absurd c (by decide))
/-- feed of the class -/
theorem c92 (F : FX2 τ) {n : Nat} (hn : tI τ 64 1 = (n : Int)) (h300 : n ≤ 300) (hd : 2 ≤ d) {a b c e g : Int} (h1 : n + 20 ≤ 300 → Q (.inl (some (AI ((n + 20 : Nat) : Int)))) (ap 65 64 1 τ (by4 a ++ by4 b ++ by4 c ++ by4 e ++ by4 g))) (h2 : 300 < n + 20 → Q (.inl (some (AI (-1)))) τ) : G d 92 0 [vR 64, vI a, vI b, vI c, vI e, vI g] [] τ Q := by
  have sh : ∀ τ : T2, FX2 τ → tS τ 64 = (1, 11, 0) := fun τ F => F.sh rfl (by omega) (by omega)
  have e0 : wr (tI τ 64 1 + 20) = ((n + 20 : Nat) : Int) := by rw [hn]; exact add_n (x := n) (y := 20) (by omega)
  refine t92_0 (by omega) (sh τ F) (fun c0 => ?_) (fun c0 => h2 (by omega))
  have hk : n + 20 ≤ 300 := by omega
  have h1 := h1 hk
  have cn : ∀ l : List Int, tI (ap 65 64 1 τ l) 64 1 = ((n + l.length : Nat) : Int) := fun l => by
    rw [ap_cnt l τ (by decide), hn]; rfl
  refine c125 F hn (by omega) ?_
  show G d 92 20 _ _ _ Q
  refine t92_20 (by omega) (sh _ (ap_fx F _)) (c125 (ap_fx F _) (cn _) (by show n + 4 + 4 ≤ 300; omega) ?_)
  show G d 92 25 _ _ _ Q
  rw [← ap_app]
  refine t92_25 (by omega) (sh _ (ap_fx F _)) (c125 (ap_fx F _) (cn _) (by show n + 8 + 4 ≤ 300; omega) ?_)
  show G d 92 30 _ _ _ Q
  rw [← ap_app]
  refine t92_30 (by omega) (sh _ (ap_fx F _)) (c125 (ap_fx F _) (cn _) (by show n + 12 + 4 ≤ 300; omega) ?_)
  show G d 92 36 _ _ _ Q
  rw [← ap_app]
  refine t92_36 (by omega) (sh _ (ap_fx F _)) (c125 (ap_fx F _) (cn _) (by show n + 16 + 4 ≤ 300; omega) ?_)
  show G d 92 42 _ _ _ Q
  rw [← ap_app]
  refine t92_42 (sh _ (ap_fx F _)) ?_
  rw [cn]
  exact h1
/-- feed of the model -/
theorem m205 (F : FX2 τ) {n : Nat} (hn : tI τ 220 15 = (n : Int)) (h300 : n ≤ 300) {a b c e g : Int} (h1 : n + 20 ≤ 300 → Q (.inl (some (AI ((n + 20 : Nat) : Int)))) (ap 226 220 15 (uI τ 220 0 0) (by4 a ++ by4 b ++ by4 c ++ by4 e ++ by4 g))) (h2 : 300 < n + 20 → Q (.inl (some (AI (-1)))) (uI τ 220 0 0)) : G d 205 0 [vR 220, vI a, vI b, vI c, vI e, vI g, none, none] [] τ Q := by
  have sh : ∀ τ : T2, FX2 τ → tS τ 220 = (1, 21, 0) := fun τ F => F.sh rfl (by omega) (by omega)
  have hn1 : tI (uI τ 220 0 0) 220 15 = (n : Int) := by rw [tI_uI, if_neg (by decide)]; exact hn
  have e0 : wr (tI (uI τ 220 0 0) 220 15 + 20) = ((n + 20 : Nat) : Int) := by rw [hn1]; exact add_n (x := n) (y := 20) (by omega)
  refine t205_0 (sh τ F) (fun c0 => ?_) (fun c0 => h2 (by omega))
  have hk : n + 20 ≤ 300 := by omega
  have h1 := h1 hk
  have F1 : FX2 (uI τ 220 0 0) := F
  generalize uI τ 220 0 0 = τ1 at hn1 h1 F1
  have cn : ∀ l : List Int, tI (ap 226 220 15 τ1 l) 220 15 = ((n + l.length : Nat) : Int) := fun l => by
    rw [ap_cnt l τ1 (by decide), hn1]; rfl
  have st : ∀ (l : List Int) (k : Nat) (y : Int), l.length = k → k < 20 → y = (if k < 4 then a else if k < 8 then b else if k < 12 then c else if k < 16 then e else g) → G d 205 23 [vR 220, vI a, vI b, vI c, vI e, vI g, vI ((k + 1 : Nat) : Int), none] [] (ap 226 220 15 τ1 (l ++ [zbyt (zshr y (24 - 8 * ((k % 4 : Nat) : Int)))])) Q → G d 205 23 [vR 220, vI a, vI b, vI c, vI e, vI g, vI (k : Int), none] [] (ap 226 220 15 τ1 l) Q := by
    intro l k y hl hk20 hy kk
    have F2 : FX2 (ap 226 220 15 τ1 l) := ap_fx F1 _
    have c1 := cn l
    rw [hl] at c1
    rw [ap_app] at kk
    generalize ap 226 220 15 τ1 l = τ2 at F2 c1 kk
    have hz : wr (24 - (wr (8 * (zrem (k : Int) 4)))) = 24 - 8 * ((k % 4 : Nat) : Int) := by
      have hq : ∀ k : Fin 20, wr (24 - (wr (8 * (zrem (k.val : Int) 4)))) = 24 - 8 * ((k.val % 4 : Nat) : Int) := by decide +kernel
      exact hq ⟨k, hk20⟩
    rw [ap_1 _ _ (by decide)] at kk
    have ho : wr ((tI (uI τ2 226 (tI τ2 220 15).toNat (zbyt (zshr y (24 - 8 * ((k % 4 : Nat) : Int))))) 220 15) + 1) = (tI (uI τ2 226 (tI τ2 220 15).toNat (zbyt (zshr y (24 - 8 * ((k % 4 : Nat) : Int))))) 220 15) + 1 := by
      rw [tI_uI, if_neg (fun e => absurd e.1 (by decide)), c1]
      exact wr_id (by unfold okI; omega)
    refine t205_23 (q7 := 226) (n9 := 300) (sh _ F2) (F2.p rfl) (F2.sh rfl (by omega) (by omega)) (fun _ _ _ _ _ => by omega) (fun _ _ _ _ _ => by omega) (fun _ _ _ _ => by omega) (fun _ _ _ => by omega) (fun _ _ => by omega) (fun c => by omega) (fun _ _ _ _ q => ?_) (fun _ _ _ q1 q2 => ?_) (fun _ _ q1 q2 => ?_) (fun _ q1 q2 => ?_) (fun _ q1 => ?_)
    all_goals rw [hz, zbyt_2, wr_nat (by omega)]
    · rw [if_neg (by omega), if_neg (by omega), if_neg (by omega), if_neg (by omega)] at hy
      rw [hy] at ho kk; rw [ho]; exact kk
    · rw [if_neg (by omega), if_neg (by omega), if_neg (by omega), if_pos (by omega)] at hy
      rw [hy] at ho kk; rw [ho]; exact kk
    · rw [if_neg (by omega), if_neg (by omega), if_pos (by omega)] at hy
      rw [hy] at ho kk; rw [ho]; exact kk
    · rw [if_neg (by omega), if_pos (by omega)] at hy
      rw [hy] at ho kk; rw [ho]; exact kk
    · rw [if_pos (by omega)] at hy
      rw [hy] at ho kk; rw [ho]; exact kk
  have s4 : ∀ (l : List Int) (k : Nat) (y : Int), l.length = k → k + 4 ≤ 20 → k % 4 = 0 → y = (if k < 4 then a else if k < 8 then b else if k < 12 then c else if k < 16 then e else g) → G d 205 23 [vR 220, vI a, vI b, vI c, vI e, vI g, vI ((k + 4 : Nat) : Int), none] [] (ap 226 220 15 τ1 (l ++ by4 y)) Q → G d 205 23 [vR 220, vI a, vI b, vI c, vI e, vI g, vI (k : Int), none] [] (ap 226 220 15 τ1 l) Q := by
    intro l k y hl hk4 hm hy kk
    have e1 : ∀ j, j < 4 → y = (if k + j < 4 then a else if k + j < 8 then b else if k + j < 12 then c else if k + j < 16 then e else g) := fun j hj => by
      rw [hy]
      by_cases q1 : k < 4
      · rw [if_pos q1, if_pos (show k + j < 4 by omega)]
      · rw [if_neg q1, if_neg (show ¬ (k + j < 4) by omega)]
        by_cases q2 : k < 8
        · rw [if_pos q2, if_pos (show k + j < 8 by omega)]
        · rw [if_neg q2, if_neg (show ¬ (k + j < 8) by omega)]
          by_cases q3 : k < 12
          · rw [if_pos q3, if_pos (show k + j < 12 by omega)]
          · rw [if_neg q3, if_neg (show ¬ (k + j < 12) by omega)]
            by_cases q4 : k < 16
            · rw [if_pos q4, if_pos (show k + j < 16 by omega)]
            · rw [if_neg q4, if_neg (show ¬ (k + j < 16) by omega)]
    refine st l k y hl (by omega) (e1 0 (by omega)) ?_
    refine st _ (k + 1) y (by rw [List.length_append, hl]; rfl) (by omega) (e1 1 (by omega)) ?_
    refine st _ (k + 2) y (by rw [List.length_append, List.length_append, hl]; rfl) (by omega) (e1 2 (by omega)) ?_
    refine st _ (k + 3) y (by rw [List.length_append, List.length_append, List.length_append, hl]; rfl) (by omega) (e1 3 (by omega)) ?_
    rw [show k % 4 = 0 from hm, show (k + 1) % 4 = 1 by omega, show (k + 2) % 4 = 2 by omega, show (k + 3) % 4 = 3 by omega]
    rw [List.append_assoc, List.append_assoc, List.append_assoc]
    exact kk
  refine s4 [] 0 a rfl (by decide) rfl rfl ?_
  refine s4 _ 4 b rfl (by decide) rfl rfl ?_
  refine s4 _ 8 c rfl (by decide) rfl rfl ?_
  refine s4 _ 12 e rfl (by decide) rfl rfl ?_
  refine s4 _ 16 g rfl (by decide) rfl rfl ?_
  have F3 : FX2 (ap 226 220 15 τ1 (by4 a ++ by4 b ++ by4 c ++ by4 e ++ by4 g)) := ap_fx F1 _
  refine t205_23 (q7 := 226) (n9 := 300) (sh _ F3) (F3.p rfl) (F3.sh rfl (by omega) (by omega)) (fun c => by omega) (fun c => by omega) (fun c => by omega) (fun c => by omega) (fun c => by omega) (fun _ => ?_) (fun c => by omega) (fun c => by omega) (fun c => by omega) (fun c => by omega) (fun c => by omega)
  show Q (.inl (some (AI (tI (ap 226 220 15 τ1 (by4 a ++ by4 b ++ by4 c ++ by4 e ++ by4 g)) 220 15)))) _
  rw [cn]
  exact h1
end FD
