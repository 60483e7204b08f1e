/-! WORKINGS, purely -/
abbrev WOP : Type := Int × Int × Int
def wdTak : List Nat := [116, 97, 107, 101]
def wdAll : List Nat := [97, 108, 108]
def wdShi : List Nat := [115, 104, 105, 102, 116]
def wdBac : List Nat := [98, 97, 99, 107]
def wdSor : List Nat := [115, 111, 114, 116]
def wdCut : List Nat := [99, 117, 116]
def wdEac : List Nat := [101, 97, 99, 104]
def wdOf : List Nat := [111, 102]
def skd (f : Nat → Int) (n a : Nat) : Nat := if isW f n a wdTak = true then 1 else if isW f n a wdAll = true then 2 else if isW f n a wdShi = true then 3 else if isW f n a wdBac = true then 4 else if isW f n a wdSor = true then 5 else if isW f n a wdCut = true then 6 else if isW f n a wdEac = true then 7 else 0
/-- what is taken: so many more may come -/
def pTk (f : Nat → Int) (n own : Nat) : Nat → Nat → (Int × Nat) ⊕ (List WOP × Nat)
  | 0, a => match pNum f n a 1 12 3 with
    | .inl e => .inl e
    | .inr _ => .inl (4, tkF f n a)
  | j + 1, a => match pNum f n a 1 12 3 with
    | .inl e => .inl e
    | .inr (p, a1) => if isW f n a1 wdOf = true then (match pNum f n (tkT f n a1) 0 ((own : Int) - 1) 2 with
      | .inl e => .inl e
      | .inr (v, a2) => if isS f n a2 44 = true then (match pTk f n own j (tkT f n a2) with
        | .inl e => .inl e
        | .inr (l, a3) => .inr ((1, v, p) :: l, a3)) else .inr ([(1, v, p)], a2)) else .inl (1, tkF f n a1)
def pStp (f : Nat → Int) (n own a c : Nat) : (Int × Nat) ⊕ (List WOP × Nat) := if skd f n a = 0 then .inl (1, tkF f n a) else if c < 12 then (if skd f n a = 1 then pTk f n own 12 (tkT f n a) else if skd f n a = 4 ∨ skd f n a = 5 then .inr ([((skd f n a : Int), 0, 0)], tkT f n a) else (match pNum f n (tkT f n a) (if skd f n a = 2 ∨ skd f n a = 3 then 0 else 1) (if skd f n a = 2 then (own : Int) - 1 else if skd f n a = 3 then 25 else 24) (if skd f n a = 2 then 2 else 3) with
  | .inl e => .inl e
  | .inr (v, a1) => .inr ([((skd f n a : Int), v, 0)], a1))) else .inl (4, tkF f n a)
def pWl (f : Nat → Int) (n own : Nat) : Nat → List WOP → Nat → Nat → (Int × Nat) ⊕ (List WOP × Nat)
  | 0, W, a, _ => .inr (W, a)
  | j + 1, W, a, c => if isS f n a 59 = true then (match pStp f n own (tkT f n a) c with
    | .inl e => .inl e
    | .inr (V, a1) => pWl f n own j (W ++ V) a1 (c + 1)) else .inr (W, a)
def pWork (f : Nat → Int) (n own : Nat) : (Int × Nat) ⊕ List WOP := match pStp f n own 0 0 with
  | .inl e => .inl e
  | .inr (V, a) => match pWl f n own 300 V a 1 with
    | .inl e => .inl e
    | .inr (W, a1) => if tkS f n a1 = 0 then .inr W else .inl (1, tkF f n a1)
def okW (own : Nat) (x : WOP) : Prop := (1 ≤ x.1 ∧ x.1 ≤ 7) ∧ (x.1 = 1 → (0 ≤ x.2.1 ∧ x.2.1 < own) ∧ 1 ≤ x.2.2 ∧ x.2.2 ≤ 12) ∧ (x.1 = 2 → 0 ≤ x.2.1 ∧ x.2.1 < own) ∧ (x.1 = 3 → 0 ≤ x.2.1 ∧ x.2.1 ≤ 25) ∧ (x.1 = 6 ∨ x.1 = 7 → 1 ≤ x.2.1 ∧ x.2.1 ≤ 24)
/-- code: three numbers each -/
def OpW (o : Nat → Int) : Nat → List WOP → Prop
  | _, [] => True
  | z, x :: W => o z = x.1 ∧ o (z + 1) = x.2.1 ∧ o (z + 2) = x.2.2 ∧ OpW o (z + 3) W
theorem OpW.fr {o o1 : Nat → Int} : ∀ (W : List WOP) {z : Nat}, OpW o z W → (∀ i, z ≤ i → i < z + 3 * W.length → o1 i = o i) → OpW o1 z W
  | [], _, _, _ => trivial
  | x :: W, z, h, he => by
    simp only [List.length_cons] at he
    exact ⟨by rw [he z (by omega) (by omega)]; exact h.1, by rw [he (z + 1) (by omega) (by omega)]; exact h.2.1, by rw [he (z + 2) (by omega) (by omega)]; exact h.2.2.1, OpW.fr W h.2.2.2 (fun i h1 h2 => he i (by omega) (by omega))⟩
theorem OpW.ap {o : Nat → Int} : ∀ (W V : List WOP) {z : Nat}, OpW o z W → OpW o (z + 3 * W.length) V → OpW o z (W ++ V)
  | [], _, z, _, h => by simpa using h
  | x :: W, V, z, h, h2 => ⟨h.1, h.2.1, h.2.2.1, OpW.ap W V h.2.2.2 (by
    simp only [List.length_cons] at h2
    rw [show z + 3 + 3 * W.length = z + 3 * (W.length + 1) by omega]
    exact h2)⟩
/-- letters of an answer, or 63 -/
def lt1 (A : Nat → List Int) (u : Int) (a p : Nat) : Int := if zand (zshr u (a : Int)) 1 = 0 then (A a).getD p 0 else 63
def sh1 (n x : Int) : Int := if x = 63 then 63 else (x - 97 + n) % 26 + 97
/-- letters are put in order -/
def sIn (m : Int) : Nat → (Nat → Int) → (Nat → Int)
  | 0, g => aU g 0 m
  | k + 1, g => if m < g k then sIn m k (aU g (k + 1) (g k)) else aU g (k + 1) m
def sOut : Nat → Nat → (Nat → Int) → (Nat → Int)
  | 0, _, g => g
  | j + 1, i, g => sOut j (i + 1) (sIn (g i) i g)
def srL (l : List Int) : List Int := if 63 ∈ l then l.map (fun _ => 63) else (List.range l.length).map (sOut (l.length - 1) 1 (byt l))
def eaL (l : List Int) (n : Nat) : List Int := (List.range (l.length / n)).map fun j => byt l (n * (j + 1) - 1)
def eWk (A : Nat → List Int) (u : Int) (l : List Int) (x : WOP) : Option (List Int) := if x.1 = 1 then (if x.2.2 ≤ ((A x.2.1.toNat).length : Int) ∧ l.length < 24 then some (l ++ [lt1 A u x.2.1.toNat (x.2.2.toNat - 1)]) else none) else if x.1 = 2 then (if l.length + (A x.2.1.toNat).length ≤ 24 then some (l ++ (List.range (A x.2.1.toNat).length).map (lt1 A u x.2.1.toNat)) else none) else if x.1 = 3 then some (l.map (sh1 x.2.1)) else if x.1 = 4 then some l.reverse else if x.1 = 5 then some (srL l) else if x.1 = 6 then some (l.take x.2.1.toNat) else some (eaL l x.2.1.toNat)
def wrL (A : Nat → List Int) (u : Int) : List WOP → List Int → Option (List Int)
  | [], l => some l
  | x :: W, l => match eWk A u l x with
    | none => none
    | some l1 => wrL A u W l1
def wrk (W : List WOP) : WSm := fun A u => wrL A u W []
theorem wrL_ap {A : Nat → List Int} {u : Int} : ∀ (W V : List WOP) (l : List Int), wrL A u (W ++ V) l = match wrL A u W l with | none => none | some l1 => wrL A u V l1
  | [], _, _ => rfl
  | x :: W, V, l => by
    simp only [List.cons_append, wrL]
    cases eWk A u l x with
    | none => rfl
    | some l1 => exact wrL_ap W V l1
def okL (l : List Int) : Prop := l.length ≤ 24 ∧ ∀ x ∈ l, x = 63 ∨ (97 ≤ x ∧ x ≤ 122)
theorem okL_g {l : List Int} (h : okL l) {k : Nat} (hk : k < l.length) : byt l k = 63 ∨ (97 ≤ byt l k ∧ byt l k ≤ 122) := by
  unfold byt
  rw [List.getD_eq_getElem?_getD, List.getElem?_eq_getElem hk]
  exact h.2 _ (List.getElem_mem hk)
theorem an_g {A : Nat → List Int} {n : Nat} (h : AnL A n) {a p : Nat} (ha : a < n) (hp : p < (A a).length) : 97 ≤ (A a).getD p 0 ∧ (A a).getD p 0 ≤ 122 := by
  rw [List.getD_eq_getElem?_getD, List.getElem?_eq_getElem hp]
  exact (h.2 a ha).2.2 _ (List.getElem_mem hp)
theorem lt1_o {A : Nat → List Int} {n : Nat} (h : AnL A n) {u : Int} {a p : Nat} (ha : a < n) (hp : p < (A a).length) : lt1 A u a p = 63 ∨ (97 ≤ lt1 A u a p ∧ lt1 A u a p ≤ 122) := by
  unfold lt1
  split
  · exact Or.inr (an_g h ha hp)
  · exact Or.inl rfl
theorem sIn_o {P : Int → Prop} {m : Int} (hm : P m) : ∀ (k : Nat) (g : Nat → Int) (n : Nat), k < n → (∀ i, i < n → P (g i)) → ∀ i, i < n → P (sIn m k g i)
  | 0, g, n, hk, h, i, hi => by
    show P (aU g 0 m i)
    unfold aU
    split
    · exact hm
    · exact h i hi
  | k + 1, g, n, hk, h, i, hi => by
    simp only [sIn]
    split
    · refine sIn_o hm k _ n (by omega) (fun j hj => ?_) i hi
      unfold aU
      split
      · exact h k (by omega)
      · exact h j hj
    · unfold aU
      split
      · exact hm
      · exact h i hi
theorem sOut_o {P : Int → Prop} : ∀ (j i : Nat) (g : Nat → Int) (n : Nat), i + j ≤ n → (∀ k, k < n → P (g k)) → ∀ k, k < n → P (sOut j i g k)
  | 0, _, _, _, _, h, k, hk => h k hk
  | j + 1, i, g, n, hi, h, k, hk => sOut_o j (i + 1) _ n (by omega) (fun q hq => sIn_o (h i (by omega)) i g n (by omega) h q hq) k hk
theorem eWk_o {A : Nat → List Int} {n : Nat} (hA : AnL A n) {u : Int} {l l1 : List Int} {x : WOP} (hl : okL l) (hx : okW n x) (h : eWk A u l x = some l1) : okL l1 := by
  obtain ⟨⟨k1, k7⟩, x1, x2, x3, x6⟩ := hx
  unfold eWk at h
  by_cases e1 : x.1 = 1
  · rw [if_pos e1] at h
    obtain ⟨⟨y1, y2⟩, y3, y4⟩ := x1 e1
    split at h
    · rename_i hc
      obtain rfl := Option.some.inj h
      refine ⟨by simp; omega, fun y hy => ?_⟩
      rcases List.mem_append.mp hy with q | q
      · exact hl.2 y q
      · rw [List.mem_singleton.mp q]
        exact lt1_o hA (by omega) (by omega)
    · cases h
  rw [if_neg e1] at h
  by_cases e2 : x.1 = 2
  · rw [if_pos e2] at h
    obtain ⟨y1, y2⟩ := x2 e2
    split at h
    · rename_i hc
      obtain rfl := Option.some.inj h
      refine ⟨by simp; omega, fun y hy => ?_⟩
      rcases List.mem_append.mp hy with q | q
      · exact hl.2 y q
      · obtain ⟨p, hp, e⟩ := List.mem_map.mp q
        rw [← e]
        exact lt1_o hA (by omega) (List.mem_range.mp hp)
    · cases h
  rw [if_neg e2] at h
  by_cases e3 : x.1 = 3
  · rw [if_pos e3] at h
    obtain rfl := Option.some.inj h
    refine ⟨by simpa using hl.1, fun y hy => ?_⟩
    obtain ⟨p, hp, e⟩ := List.mem_map.mp hy
    rw [← e]
    unfold sh1
    split
    · exact Or.inl rfl
    · exact Or.inr (by omega)
  rw [if_neg e3] at h
  by_cases e4 : x.1 = 4
  · rw [if_pos e4] at h
    obtain rfl := Option.some.inj h
    exact ⟨by simpa using hl.1, fun y hy => hl.2 y (List.mem_reverse.mp hy)⟩
  rw [if_neg e4] at h
  by_cases e5 : x.1 = 5
  · rw [if_pos e5] at h
    obtain rfl := Option.some.inj h
    unfold srL
    split
    · refine ⟨by simpa using hl.1, fun y hy => ?_⟩
      obtain ⟨p, hp, e⟩ := List.mem_map.mp hy
      exact Or.inl e.symm
    · refine ⟨by simpa using hl.1, fun y hy => ?_⟩
      obtain ⟨p, hp, e⟩ := List.mem_map.mp hy
      have hp := List.mem_range.mp hp
      rw [← e]
      exact sOut_o (P := fun x => x = 63 ∨ (97 ≤ x ∧ x ≤ 122)) (l.length - 1) 1 (byt l) l.length (by omega) (fun k hk => okL_g hl hk) p hp
  rw [if_neg e5] at h
  by_cases e6 : x.1 = 6
  · rw [if_pos e6] at h
    obtain rfl := Option.some.inj h
    refine ⟨by simp; have := hl.1; omega, fun y hy => hl.2 y (List.mem_of_mem_take hy)⟩
  rw [if_neg e6] at h
  obtain rfl := Option.some.inj h
  have x6 := x6 (by omega)
  unfold eaL
  have hn : 1 ≤ x.2.1.toNat := by omega
  have hd : l.length / x.2.1.toNat ≤ l.length := Nat.div_le_self _ _
  refine ⟨by simp; have := hl.1; omega, fun y hy => ?_⟩
  obtain ⟨p, hp, e⟩ := List.mem_map.mp hy
  have hp := List.mem_range.mp hp
  rw [← e]
  refine okL_g hl ?_
  have h1 : x.2.1.toNat * (p + 1) ≤ x.2.1.toNat * (l.length / x.2.1.toNat) := Nat.mul_le_mul_left _ (by omega)
  have h2 : x.2.1.toNat * (l.length / x.2.1.toNat) ≤ l.length := Nat.mul_div_le _ _
  have h3 : 1 ≤ x.2.1.toNat * (p + 1) := Nat.mul_pos hn (by omega)
  omega
theorem wrL_o {A : Nat → List Int} {n : Nat} (hA : AnL A n) {u : Int} : ∀ (W : List WOP) (l l1 : List Int), okL l → (∀ x ∈ W, okW n x) → wrL A u W l = some l1 → okL l1
  | [], l, l1, hl, _, h => by
    obtain rfl := Option.some.inj h
    exact hl
  | x :: W, l, l1, hl, hW, h => by
    simp only [wrL] at h
    cases he : eWk A u l x with
    | none => rw [he] at h; cases h
    | some l2 =>
      rw [he] at h
      exact wrL_o hA W l2 l1 (eWk_o hA hl (hW x (by simp)) he) (fun y hy => hW y (List.mem_cons_of_mem _ hy)) h
/-- one bit -/
theorem zand1 (y : Int) : zand y 1 = 0 ∨ zand y 1 = 1 := by
  have e : (i3 y &&& i3 1).toBitVec = BitVec.ofNat 32 ((i3 y).toBitVec.toNat % 2) := by
    apply BitVec.eq_of_toNat_eq
    rw [Int32.toBitVec_and, BitVec.toNat_and, BitVec.toNat_ofNat]
    have e1 : (i3 1).toBitVec.toNat = 1 := by decide
    rw [e1, Nat.and_one_is_mod]
    omega
  have h : zand y 1 = (((i3 y).toBitVec.toNat % 2 : Nat) : Int) := by
    show (i3 y &&& i3 1).toBitVec.toInt = _
    rw [e, bv_int (by omega)]
  rw [h]
  omega
