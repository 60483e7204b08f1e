/-! WORKINGS: what they do, class -/
/-- a count at (a, k), a row at b -/
def wE (τ : T2) (a k b : Nat) (g : Nat → Int) (c : Int) : T2 := uI (rI τ b g) a k c
def wP (a k b : Nat) (x y : Nat) : Prop := (x = a ∧ y = k) ∨ x = b
/-- a list stands in front -/
def gL (g : Nat → Int) (l : List Int) : Prop := ∀ j, j < l.length → g j = byt l j
section WCE
variable {τ : T2} {a k b : Nat} {g : Nat → Int} {c : Int}
theorem wE_c : tI (wE τ a k b g c) a k = c := if_pos ⟨rfl, rfl⟩
theorem wE_g (h : b ≠ a) {j : Nat} : tI (wE τ a k b g c) b j = g j := by
  unfold wE
  rw [tI_uI, if_neg (fun e => h e.1)]
  exact congrFun (rw2_row (tI τ) b g) j
theorem wE_o {x y : Nat} (h : ¬ wP a k b x y) : tI (wE τ a k b g c) x y = tI τ x y := by
  unfold wE
  rw [tI_uI, if_neg (fun e => h (Or.inl e))]
  exact congrFun (rw2_oth (tI τ) g (fun e => h (Or.inr e))) y
theorem wE_uc {c1 : Int} : uI (wE τ a k b g c) a k c1 = wE τ a k b g c1 := by
  have e : up (up (rw2 (tI τ) b g) a k c) a k c1 = up (rw2 (tI τ) b g) a k c1 := by
    funext x y
    show (if x = a ∧ y = k then c1 else (if x = a ∧ y = k then c else _)) = (if x = a ∧ y = k then c1 else _)
    split <;> rfl
  show (up (up (rw2 (tI τ) b g) a k c) a k c1, _) = _
  rw [e]
  rfl
theorem wE_ug (h : b ≠ a) {j : Nat} {x : Int} : uI (wE τ a k b g c) b j x = wE τ a k b (aU g j x) c := by
  have e : up (up (rw2 (tI τ) b g) a k c) b j x = up (rw2 (tI τ) b (aU g j x)) a k c := by
    funext p q
    show (if p = b ∧ q = j then x else (if p = a ∧ q = k then c else (if p = b then g q else tI τ p q))) = (if p = a ∧ q = k then c else (if p = b then aU g j x q else tI τ p q))
    by_cases h1 : p = b
    · subst h1
      rw [if_neg (fun e : p = a ∧ q = k => h e.1), if_neg (fun e : p = a ∧ q = k => h e.1), if_pos rfl, if_pos rfl]
      unfold aU
      by_cases h2 : q = j
      · rw [if_pos ⟨rfl, h2⟩, if_pos h2]
      · rw [if_neg (fun e => h2 e.2), if_neg h2]
    · rw [if_neg (fun e => h1 e.1), if_neg h1, if_neg h1]
  show (up (up (rw2 (tI τ) b g) a k c) b j x, _) = _
  rw [e]
  rfl
theorem wE_oc : OC (wP a k b) τ (wE τ a k b g c) := OC.j (OC.r OC.rf (fun _ => Or.inr rfl)) (Or.inl ⟨rfl, rfl⟩)
theorem wE_fx (F : FX2 τ) : FX2 (wE τ a k b g c) := F
theorem wE_of (h : b ≠ a) {c1 : Int} : uI τ a k c1 = wE τ a k b (tI τ b) c1 := by
  have e : up (tI τ) a k c1 = up (rw2 (tI τ) b (tI τ b)) a k c1 := by
    funext p q
    show (if p = a ∧ q = k then c1 else tI τ p q) = (if p = a ∧ q = k then c1 else (if p = b then tI τ b q else tI τ p q))
    by_cases h1 : p = b
    · subst h1
      rw [if_pos rfl]
    · rw [if_neg h1]
  show (up (tI τ) a k c1, _) = _
  rw [e]
  rfl
theorem gL_ap {l : List Int} {x : Int} (h : gL g l) : gL (aU g l.length x) (l ++ [x]) := fun j hj => by
  simp only [List.length_append, List.length_singleton] at hj
  unfold aU
  by_cases e : j = l.length
  · subst e
    rw [if_pos rfl]
    unfold byt
    simp
  · rw [if_neg e, h j (by omega)]
    unfold byt
    rw [List.getD_eq_getElem?_getD, List.getD_eq_getElem?_getD, List.getElem?_append_left (by omega)]
theorem byt_map {l : List Int} (f : Int → Int) {j : Nat} (h : j < l.length) : byt (l.map f) j = f (byt l j) := by
  unfold byt
  rw [List.getD_eq_getElem?_getD, List.getD_eq_getElem?_getD, List.getElem?_map, List.getElem?_eq_getElem h]
  rfl
theorem byt_rng {n : Nat} (f : Nat → Int) {j : Nat} (h : j < n) : byt ((List.range n).map f) j = f j := by
  unfold byt
  rw [List.getD_eq_getElem?_getD, List.getElem?_map, List.getElem?_range h]
  rfl
theorem byt_rev {l : List Int} {j : Nat} (h : j < l.length) : byt l.reverse j = byt l (l.length - 1 - j) := by
  unfold byt
  rw [List.getD_eq_getElem?_getD, List.getD_eq_getElem?_getD, List.getElem?_reverse h]
theorem byt_take {l : List Int} {j n : Nat} (h : j < n) : byt (l.take n) j = byt l j := by
  unfold byt
  rw [List.getD_eq_getElem?_getD, List.getD_eq_getElem?_getD, List.getElem?_take, if_pos h]
theorem sIn_cg {m : Int} : ∀ (k : Nat) (g g1 : Nat → Int) (n : Nat), k < n → (∀ i, i < n → g i = g1 i) → ∀ i, i < n → sIn m k g i = sIn m k g1 i
  | 0, g, g1, n, hk, h, i, hi => by
    show aU g 0 m i = aU g1 0 m i
    unfold aU
    split
    · rfl
    · exact h i hi
  | k + 1, g, g1, n, hk, h, i, hi => by
    simp only [sIn]
    rw [h k (by omega)]
    split
    · refine sIn_cg k _ _ n (by omega) (fun j hj => ?_) i hi
      unfold aU
      split
      · rfl
      · exact h j hj
    · unfold aU
      split
      · rfl
      · exact h i hi
theorem sOut_cg : ∀ (j i : Nat) (g g1 : Nat → Int) (n : Nat), i + j ≤ n → (∀ k, k < n → g k = g1 k) → ∀ k, k < n → sOut j i g k = sOut j i g1 k
  | 0, _, _, _, _, _, h, k, hk => h k hk
  | j + 1, i, g, g1, n, hi, h, k, hk => by
    simp only [sOut]
    rw [h i (by omega)]
    exact sOut_cg j (i + 1) _ _ n (by omega) (fun q hq => sIn_cg i g g1 n (by omega) h q hq) k hk
theorem zrem26 {x : Int} (h : 0 ≤ x) (h1 : x ≤ 50) : zrem x 26 = x % 26 := by
  have : ∀ m : Fin 51, zrem ((m.val : Nat) : Int) 26 = ((m.val : Nat) : Int) % 26 := by decide
  have e := this ⟨x.toNat, by omega⟩
  rw [show (((⟨x.toNat, by omega⟩ : Fin 51).val : Nat) : Int) = x from Int.toNat_of_nonneg h] at e
  exact e
theorem lbyt {x : Int} (h : x = 63 ∨ (97 ≤ x ∧ x ≤ 122)) : zbyt x = x := zbyt_id (by omega) (by omega)
theorem gL_ok {l : List Int} (h : gL g l) (hl : okL l) {j : Nat} (hj : j < l.length) : g j = 63 ∨ (97 ≤ g j ∧ g j ≤ 122) := by rw [h j hj]; exact okL_g hl hj
/-- shift -/
theorem sh_in {x n : Int} (h : 97 ≤ x ∧ x ≤ 122) (hn : 0 ≤ n ∧ n ≤ 25) : zbyt (zbyt (wr (97 + zrem (wr (wr (x - 97) + n)) 26))) = sh1 n x ∧ zbyt (zbyt (wr (zrem (wr (wr (x - 97) + n)) 26 + 97))) = sh1 n x := by
  have e : sh1 n x = (x - 97 + n) % 26 + 97 := by unfold sh1; rw [if_neg (by omega)]
  have e1 : wr (wr (x - 97) + n) = x - 97 + n := by rw [wr_id (x := x - 97) (by unfold okI; omega), wr_id (by unfold okI; omega)]
  rw [e1, zrem26 (by omega) (by omega)]
  clear e1
  have e2 : wr (97 + (x - 97 + n) % 26) = (x - 97 + n) % 26 + 97 := by rw [wr_id (by unfold okI; omega)]; omega
  have e3 : wr ((x - 97 + n) % 26 + 97) = (x - 97 + n) % 26 + 97 := wr_id (by unfold okI; omega)
  rw [e2, e3]
  clear e2 e3
  rw [zbyt_id (x := (x - 97 + n) % 26 + 97) (by omega) (by omega), zbyt_id (x := (x - 97 + n) % 26 + 97) (by omega) (by omega), e]
  exact ⟨rfl, rfl⟩
end WCE
section WCF
variable {d : Nat} {τ : T2} {Q : RS → T2 → Prop} {w : Nat}
theorem wsh (F : FX2 τ) (hw : w = 80 ∨ w = 82) (g : Nat → Int) (c : Int) : tS (wE τ w 1 (w + 1) g c) w = (1, 7, 0) ∧ tS (wE τ w 1 (w + 1) g c) (w + 1) = (2, 1, 24) ∧ tP (wE τ w 1 (w + 1) g c) w 0 = some (w + 1) := row_sh (τ := wE τ w 1 (w + 1) g c) F hw
theorem wne : w + 1 ≠ w := by omega
/-- shift of the class -/
theorem c44 (F : FX2 τ) (hw : w = 80 ∨ w = 82) {n : Int} (hn : 0 ≤ n ∧ n ≤ 25) {l : List Int} (hl : okL l) (h : ∀ g, gL g (l.map (sh1 n)) → Q (.inl none) (wE τ w 1 (w + 1) g (l.length : Int))) : ∀ (j i : Nat) (g : Nat → Int), i + j = l.length → (∀ k, k < l.length → g k = if k < i then sh1 n (byt l k) else byt l k) → G d 44 2 [vR w, vI n, vI (i : Int)] [] (wE τ w 1 (w + 1) g (l.length : Int)) Q := by
  intro j
  induction j with
  | zero =>
    intro i g hi hg
    obtain ⟨s1, s2, s3⟩ := wsh F hw g (l.length : Int)
    refine t44_2 (n5 := 24) s1 s3 s2 (fun q => by rw [wE_c] at q; omega) (fun _ => h g ?_) (fun q => by rw [wE_c] at q; omega) (fun q => by rw [wE_c] at q; omega)
    intro k hk
    rw [List.length_map] at hk
    rw [byt_map _ hk, hg k hk, if_pos (by omega)]
  | succ j ih =>
    intro i g hi hg
    obtain ⟨s1, s2, s3⟩ := wsh F hw g (l.length : Int)
    have gi := hg i (by omega)
    rw [if_neg (Nat.lt_irrefl i)] at gi
    have ov := okL_g hl (show i < l.length by omega)
    have l24 := hl.1
    have nx : wr ((i : Int) + 1) = ((i + 1 : Nat) : Int) := wr_nat (by omega)
    refine t44_2 (n5 := 24) s1 s3 s2 (fun q => by clear nx; omega) (fun q => by rw [wE_c] at q; omega) (fun _ q => ?_) (fun _ q => ?_)
    · rw [Int.toNat_natCast, wE_g wne, gi] at q
      rw [nx]
      refine ih (i + 1) g (by omega) (fun k hk => ?_)
      rw [hg k hk]
      by_cases e : k = i
      · subst e
        rw [if_neg (by omega), if_pos (by omega), q]
        rfl
      · by_cases e1 : k < i
        · rw [if_pos e1, if_pos (by omega)]
        · rw [if_neg e1, if_neg (by omega)]
    · rw [Int.toNat_natCast, wE_g wne, gi] at q
      rw [nx, Int.toNat_natCast, wE_g wne, gi, (sh_in (by omega) hn).1, wE_ug wne]
      refine ih (i + 1) _ (by omega) (fun k hk => ?_)
      unfold aU
      by_cases e : k = i
      · subst e
        rw [if_pos rfl, if_pos (by omega)]
      · rw [if_neg e, hg k hk]
        by_cases e1 : k < i
        · rw [if_pos e1, if_pos (by omega)]
        · rw [if_neg e1, if_neg (by omega)]
/-- turn of the class -/
theorem c45 (F : FX2 τ) (hw : w = 80 ∨ w = 82) {l : List Int} (hl : okL l) (h : ∀ g, gL g l.reverse → Q (.inl none) (wE τ w 1 (w + 1) g (l.length : Int))) : ∀ (j i : Nat) (g : Nat → Int), i + j = l.length → i ≤ l.length - i → (∀ k, k < l.length → g k = if k < i ∨ l.length ≤ k + i then byt l (l.length - 1 - k) else byt l k) → G d 45 9 [vR w, vI (i : Int), vI ((l.length : Int) - 1 - i), none] [] (wE τ w 1 (w + 1) g (l.length : Int)) Q := by
  intro j
  induction j with
  | zero =>
    intro i g hi h2 hg
    obtain ⟨s1, s2, s3⟩ := wsh F hw g (l.length : Int)
    refine t45_9 (n5 := 24) s1 s3 s2 (fun q => by omega) (fun q => by omega) (fun _ => h g ?_) (fun q => by omega)
    intro k hk
    rw [List.length_reverse] at hk
    omega
  | succ j ih =>
    intro i g hi h2 hg
    have l24 := hl.1
    obtain ⟨s1, s2, s3⟩ := wsh F hw g (l.length : Int)
    refine t45_9 (n5 := 24) s1 s3 s2 (fun q => by omega) (fun q => by omega) (fun q => h g ?_) (fun q => ?_)
    · intro k hk
      rw [List.length_reverse] at hk
      rw [byt_rev hk, hg k hk]
      split
      · rfl
      · rw [show l.length - 1 - k = k by omega]
    · have g1 := hg i (by omega)
      have g2 := hg (l.length - 1 - i) (by omega)
      rw [if_neg (by omega)] at g1 g2
      have e2 : ((l.length : Int) - 1 - i).toNat = l.length - 1 - i := by omega
      rw [e2, Int.toNat_natCast, wE_g wne, wE_g wne, g1, g2, lbyt (okL_g hl (by omega)), lbyt (okL_g hl (by omega)), wE_ug wne, wE_ug wne, wr_nat (by omega), wr_id (show okI ((l.length : Int) - 1 - i + -1) by unfold okI; omega), show (l.length : Int) - 1 - i + -1 = (l.length : Int) - 1 - ((i + 1 : Nat) : Int) by omega]
      refine ih (i + 1) _ (by omega) (by omega) (fun k hk => ?_)
      unfold aU
      by_cases e : k = l.length - 1 - i
      · rw [if_pos e, if_pos (by omega), e, show l.length - 1 - (l.length - 1 - i) = i by omega]
      · rw [if_neg e]
        by_cases e1 : k = i
        · rw [if_pos e1, if_pos (by omega), e1]
        · rw [if_neg e1, hg k hk]
          by_cases e3 : k < i ∨ l.length ≤ k + i
          · rw [if_pos e3, if_pos (by omega)]
          · rw [if_neg e3, if_neg (by omega)]
/-- is a letter unknown -/
theorem c47 (F : FX2 τ) (hw : w = 80 ∨ w = 82) {l : List Int} (hl : okL l) {g : Nat → Int} (hg : gL g l) (h : Q (.inl (some (AI (bi (decide (63 ∈ l)))))) (wE τ w 1 (w + 1) g (l.length : Int))) : ∀ (j i : Nat), i + j = l.length → (∀ k, k < i → byt l k ≠ 63) → G d 47 2 [vR w, vI (i : Int)] [] (wE τ w 1 (w + 1) g (l.length : Int)) Q := by
  obtain ⟨s1, s2, s3⟩ := wsh F hw g (l.length : Int)
  have l24 := hl.1
  have mem : ∀ k, k < l.length → byt l k ∈ l := fun k hk => by
    unfold byt
    rw [List.getD_eq_getElem?_getD, List.getElem?_eq_getElem hk]
    exact List.getElem_mem hk
  intro j
  induction j with
  | zero =>
    intro i hi hn
    refine t47_2 (n5 := 24) s1 s3 s2 (fun q => by rw [wE_c] at q; omega) (fun _ => ?_) (fun q => by rw [wE_c] at q; omega) (fun q => by rw [wE_c] at q; omega)
    rw [decide_eq_false (fun z => by
      obtain ⟨k, hk, e⟩ := List.getElem_of_mem z
      refine hn k (by omega) ?_
      unfold byt
      rw [List.getD_eq_getElem?_getD, List.getElem?_eq_getElem hk]
      exact e)] at h
    exact h
  | succ j ih =>
    intro i hi hn
    refine t47_2 (n5 := 24) s1 s3 s2 (fun q => by omega) (fun q => by rw [wE_c] at q; omega) (fun _ q => ?_) (fun _ q => ?_)
    · rw [Int.toNat_natCast, wE_g wne, hg i (by omega)] at q
      rw [wr_nat (by omega)]
      refine ih (i + 1) (by omega) (fun k hk => ?_)
      by_cases e : k = i
      · rw [e]; exact q
      · exact hn k (by omega)
    · rw [Int.toNat_natCast, wE_g wne, hg i (by omega)] at q
      rw [decide_eq_true (by have := mem i (by omega); rw [q] at this; exact this)] at h
      exact h
/-- a letter finds its place -/
theorem c46i (F : FX2 τ) (hw : w = 80 ∨ w = 82) {m : Int} (hm : m = 63 ∨ (97 ≤ m ∧ m ≤ 122)) {i L : Nat} (hL : L ≤ 24) (hi : i < L) : ∀ (k : Nat) (g : Nat → Int), k ≤ i → (∀ j, j < L → g j = 63 ∨ (97 ≤ g j ∧ g j ≤ 122)) → G d 46 19 [vR w, vI ((i + 1 : Nat) : Int), none, none] [] (wE τ w 1 (w + 1) (sIn m k g) (L : Int)) Q → G d 46 36 [vR w, vI (i : Int), vI m, vI (k : Int)] [] (wE τ w 1 (w + 1) g (L : Int)) Q := by
  intro k
  induction k with
  | zero =>
    intro g hk ho h
    obtain ⟨s1, s2, s3⟩ := wsh F hw g (L : Int)
    refine t46_36 (n5 := 24) s1 s3 s2 (fun q => by omega) (fun q => by omega) (fun q => by omega) (fun q => by omega) (fun _ => ?_) (fun q => by omega) (fun q => by omega)
    rw [lbyt hm, wE_ug wne, wr_nat (by omega)]
    exact h
  | succ k ih =>
    intro g hk ho h
    obtain ⟨s1, s2, s3⟩ := wsh F hw g (L : Int)
    have e1 : (wr (((k + 1 : Nat) : Int) - 1)).toNat = k := by rw [wr_id (by unfold okI; omega)]; omega
    have e2 : (0 : Int) ≤ wr (((k + 1 : Nat) : Int) - 1) ∧ wr (((k + 1 : Nat) : Int) - 1) < ((24 : Nat) : Int) := by rw [wr_id (by unfold okI; omega)]; omega
    have e3 : wr (((k + 1 : Nat) : Int) + -1) = (k : Int) := by rw [wr_id (by unfold okI; omega)]; omega
    have bd : (0 : Int) ≤ ((k + 1 : Nat) : Int) ∧ ((k + 1 : Nat) : Int) < ((24 : Nat) : Int) := by clear e1 e2 e3; omega
    have po : 0 < ((k + 1 : Nat) : Int) := by clear e1 e2 e3; omega
    have ni : wr ((i : Int) + 1) = ((i + 1 : Nat) : Int) := wr_nat (by clear e1 e2 e3; omega)
    simp only [sIn] at h
    refine t46_36 (n5 := 24) s1 s3 s2 (fun q => bd) (fun _ => e2) (fun _ _ => bd) (fun _ _ => bd) (fun q => absurd po (Int.not_lt.mpr q)) (fun _ q => ?_) (fun _ q => ?_)
    · rw [e1, wE_g wne] at q
      rw [if_neg (Int.not_lt.mpr q)] at h
      rw [lbyt hm, wE_ug wne, ni, Int.toNat_natCast]
      exact h
    · rw [e1, wE_g wne] at q
      rw [if_pos q] at h
      have hkL : k < L := by clear e1 e2 e3 ni; omega
      rw [e1, wE_g wne, lbyt (ho k hkL), wE_ug wne, e3, Int.toNat_natCast]
      refine ih _ (by clear e1 e2 e3 ni; omega) (fun j hj => ?_) h
      unfold aU
      split
      · exact ho k hkL
      · exact ho j hj
theorem c46o (F : FX2 τ) (hw : w = 80 ∨ w = 82) {L : Nat} (hL : L ≤ 24) : ∀ (j i : Nat) (g : Nat → Int), i + j = L ∨ (j = 0 ∧ L ≤ i) → (∀ k, k < L → g k = 63 ∨ (97 ≤ g k ∧ g k ≤ 122)) → Q (.inl none) (wE τ w 1 (w + 1) (sOut j i g) (L : Int)) → G d 46 19 [vR w, vI (i : Int), none, none] [] (wE τ w 1 (w + 1) g (L : Int)) Q := by
  intro j
  induction j with
  | zero =>
    intro i g hi ho h
    obtain ⟨s1, s2, s3⟩ := wsh F hw g (L : Int)
    exact t46_19 (n5 := 24) s1 s3 s2 (fun q => by rw [wE_c] at q; omega) (fun _ => h) (fun q => by rw [wE_c] at q; omega)
  | succ j ih =>
    intro i g hi ho h
    obtain ⟨s1, s2, s3⟩ := wsh F hw g (L : Int)
    refine t46_19 (n5 := 24) s1 s3 s2 (fun q => by omega) (fun q => by rw [wE_c] at q; omega) (fun _ => ?_)
    rw [Int.toNat_natCast, wE_g wne]
    refine c46i F hw (ho i (by omega)) hL (by omega) i g (Nat.le_refl _) ho ?_
    refine ih (i + 1) _ (by omega) (fun k hk => sIn_o (P := fun x => x = 63 ∨ (97 ≤ x ∧ x ≤ 122)) (ho i (by omega)) i g L (by omega) ho k hk) h
/-- every place is filled -/
theorem c262 (F : FX2 τ) (hw : w = 80 ∨ w = 82) {c : Int} (h : ∀ g, (∀ k, k < 24 → g k = 63) → Q (.inl none) (wE τ w 1 (w + 1) g c)) : ∀ (j i : Nat) (g : Nat → Int), i + j = 24 → (∀ k, k < i → g k = 63) → G d 262 5 [vR (w + 1), vI 63, vI (i : Int), vI ((24 : Nat) : Int)] [] (wE τ w 1 (w + 1) g c) Q := by
  intro j
  induction j with
  | zero =>
    intro i g hi hg
    obtain ⟨s1, s2, s3⟩ := wsh F hw g c
    exact t262_5 (n2 := 24) s2 (fun q => by omega) (fun _ => h g (fun k hk => hg k (by omega))) (fun q => by omega)
  | succ j ih =>
    intro i g hi hg
    obtain ⟨s1, s2, s3⟩ := wsh F hw g c
    refine t262_5 (n2 := 24) s2 (fun q => by omega) (fun q => by omega) (fun _ => ?_)
    rw [zbyt_id (x := 63) (by omega) (by omega), wE_ug wne, wr_nat (by omega), Int.toNat_natCast]
    refine ih (i + 1) _ (by omega) (fun k hk => ?_)
    unfold aU
    split
    · rfl
    · exact hg k (by omega)
theorem c46 (F : FX2 τ) (hw : w = 80 ∨ w = 82) (hd : 2 ≤ d) {l : List Int} (hl : okL l) {g : Nat → Int} (hg : gL g l) (h : ∀ g, gL g (srL l) → Q (.inl none) (wE τ w 1 (w + 1) g (l.length : Int))) : G d 46 0 [vR w, none, none, none] [] (wE τ w 1 (w + 1) g (l.length : Int)) Q := by
  obtain ⟨s1, s2, s3⟩ := wsh F hw g (l.length : Int)
  have l24 := hl.1
  refine t46_0 (by omega) s1 (t47_0 (c47 F hw hl hg ?_ l.length 0 (by omega) (fun k hk => by omega)))
  by_cases hm : 63 ∈ l
  · rw [decide_eq_true hm]
    refine t46_4 (by omega) s1 (fun q => absurd q (by decide)) (fun _ => ?_)
    rw [s3]
    refine t262_0 (n1 := 24) s2 (c262 F hw (fun g1 h1 => t46_16 (h g1 ?_)) 24 0 g rfl (fun k hk => by omega))
    unfold srL
    rw [if_pos hm]
    intro k hk
    rw [List.length_map] at hk
    rw [byt_map _ hk, h1 k (by omega)]
  · rw [decide_eq_false hm]
    refine t46_4 (by omega) s1 (fun _ => ?_) (fun q => absurd rfl q)
    refine c46o F hw l24 (l.length - 1) 1 g (by omega) (fun k hk => gL_ok hg hl hk) (h _ ?_)
    unfold srL
    rw [if_neg hm]
    intro k hk
    rw [List.length_map, List.length_range] at hk
    rw [byt_rng _ hk]
    by_cases h0 : l.length = 0
    · omega
    · exact sOut_cg (l.length - 1) 1 g (byt l) l.length (by omega) hg k hk
/-- each n-th -/
theorem c48 (F : FX2 τ) (hw : w = 80 ∨ w = 82) {n : Nat} (hn : 1 ≤ n ∧ n ≤ 24) {l : List Int} (hl : okL l) (h : ∀ g, gL g (eaL l n) → Q (.inl none) (wE τ w 1 (w + 1) g ((eaL l n).length : Int))) : ∀ (j i e : Nat) (g : Nat → Int), i + j = 25 → n * (i + 1) = e + 1 → n * i ≤ l.length → (∀ k, k < i → g k = byt l (n * (k + 1) - 1)) → (∀ k, i ≤ k → k < l.length → g k = byt l k) → G d 48 6 [vR w, vI (n : Int), vI (i : Int), vI (e : Int)] [] (wE τ w 1 (w + 1) g (l.length : Int)) Q := by
  have l24 := hl.1
  have el : (eaL l n).length = l.length / n := by unfold eaL; simp
  intro j
  induction j with
  | zero =>
    intro i e g hi he h2 _ _
    have : 1 * i ≤ n * i := Nat.mul_le_mul_right i hn.1
    omega
  | succ j ih =>
    intro i e g hi he h2 hg1 hg2
    obtain ⟨s1, s2, s3⟩ := wsh F hw g (l.length : Int)
    have hs : n * (i + 1) = n * i + n := Nat.mul_succ n i
    have hi1 : 1 * i ≤ n * i := Nat.mul_le_mul_right i hn.1
    refine t48_6 (n6 := 24) s1 s3 s2 (fun _ q => by rw [wE_c] at q; omega) (fun _ q => by rw [wE_c] at q; omega) (fun q => by omega) (fun _ q => ?_) (fun _ q => ?_)
    · rw [wE_c] at q
      have eq : l.length / n = i := by
        apply Nat.div_eq_of_lt_le
        · rw [Nat.mul_comm]; exact h2
        · rw [Nat.mul_comm]; omega
      rw [wE_uc]
      have := h g (fun k hk => by
        rw [el, eq] at hk
        unfold eaL
        rw [byt_rng _ (by rw [eq]; exact hk)]
        exact hg1 k hk)
      rw [el, eq] at this
      exact this
    · rw [wE_c] at q
      have ge := hg2 e (by omega) (by omega)
      have e3 : wr ((e : Int) + (n : Int)) = ((e + n : Nat) : Int) := by rw [wr_id (by unfold okI; omega)]; omega
      rw [Int.toNat_natCast, Int.toNat_natCast, wE_g wne, ge, lbyt (okL_g hl (by omega)), wE_ug wne, wr_nat (by omega), e3]
      clear e3
      have hs2 : n * (i + 1 + 1) = n * (i + 1) + n := Nat.mul_succ n (i + 1)
      refine ih (i + 1) (e + n) _ (by omega) (by omega) (by omega) (fun k hk => ?_) (fun k h1 h3 => ?_)
      · unfold aU
        by_cases ek : k = i
        · rw [if_pos ek, ek, he]
          rfl
        · rw [if_neg ek]
          exact hg1 k (by omega)
      · unfold aU
        rw [if_neg (by omega)]
        exact hg2 k (by omega) h3
end WCF
