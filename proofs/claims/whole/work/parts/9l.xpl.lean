/-! STATES, purely -/
def opx (c : CO) (m : Int) (x r : Nat) : Bool := opn c r (fun i => x.testBit i) m
def gx (L : List Nat) (i : Nat) : Nat := L.getD i 0
theorem gx_l {L : List Nat} {y i : Nat} (h : i < L.length) : gx (L ++ [y]) i = gx L i := by
  unfold gx
  rw [List.getD_eq_getElem?_getD, List.getD_eq_getElem?_getD, List.getElem?_append_left h]
theorem gx_r {L : List Nat} {y : Nat} : gx (L ++ [y]) L.length = y := by
  unfold gx
  rw [List.getD_eq_getElem?_getD, List.getElem?_append_right (Nat.le_refl _), Nat.sub_self]
  rfl
theorem gx_len {L : List Nat} {y : Nat} : (L ++ [y]).length = L.length + 1 := by simp
theorem gx_m {L : List Nat} {y : Nat} : y ∈ L ↔ ∃ i, i < L.length ∧ gx L i = y := by
  refine ⟨fun h => ?_, fun ⟨i, h1, h2⟩ => ?_⟩
  · obtain ⟨i, hi, e⟩ := List.getElem_of_mem h
    refine ⟨i, hi, ?_⟩
    unfold gx
    rw [List.getD_eq_getElem?_getD, List.getElem?_eq_getElem hi, e]
    rfl
  · rw [← h2]
    unfold gx
    rw [List.getD_eq_getElem?_getD, List.getElem?_eq_getElem h1]
    exact List.getElem_mem h1
theorem gx_i {L : List Nat} {i : Nat} (h : i < L.length) : gx L i ∈ L := gx_m.mpr ⟨i, h, rfl⟩
/-- one state's riddles; all states -/
def exr (op : Nat → Nat → Bool) (x : Nat) : Nat → Nat → List Nat → Option (List Nat)
  | 0, _, L => some L
  | j + 1, r, L => if op x r = true then (if x ||| 2 ^ r ∈ L then exr op x j (r + 1) L else if L.length < 1000 then exr op x j (r + 1) (L ++ [x ||| 2 ^ r]) else none) else exr op x j (r + 1) L
def exS (op : Nat → Nat → Bool) (n : Nat) : Nat → Nat → List Nat → Option (List Nat)
  | 0, _, L => some L
  | j + 1, s, L => if s < L.length then (match exr op (gx L s) n 0 L with
    | none => none
    | some L1 => exS op n j (s + 1) L1) else some L
def pc (x : Nat) : Nat := cnt (fun i => x.testBit i) 20
theorem cnt_cg {p q : Nat → Bool} (n : Nat) (h : ∀ i, i < n → p i = q i) : cnt p n = cnt q n := (enc_cg n h).2
theorem tb_put (x r i : Nat) : (x ||| 2 ^ r).testBit i = (x.testBit i || Nat.beq i r) := by rw [Nat.testBit_or, tb_pow]
theorem put_in {x r : Nat} (h : x.testBit r = true) : x ||| 2 ^ r = x := by
  apply Nat.eq_of_testBit_eq
  intro i
  rw [tb_put]
  by_cases e : i = r
  · rw [e, h]; rfl
  · rw [beq_ne e]; simp
theorem pc_put {x r : Nat} (h : x.testBit r = false) (hr : r < 20) : pc (x ||| 2 ^ r) = pc x + 1 := by
  unfold pc
  have h1 : (x ||| 2 ^ r).testBit r = true := by rw [tb_put, Nat.beq_refl]; simp
  rw [((enc_del (fun i => (x ||| 2 ^ r).testBit i) r h1 20).2 hr).2]
  congr 1
  apply cnt_cg
  intro i _
  by_cases e : i = r
  · rw [e, del_at]; exact h.symm
  · rw [del_ne _ e]
    show (x ||| 2 ^ r).testBit i = x.testBit i
    rw [tb_put, beq_ne e]; simp
theorem lt_put {x r : Nat} (h : x < 2 ^ 20) (hr : r < 20) : x ||| 2 ^ r < 2 ^ 20 := Nat.or_lt_two_pow h (Nat.pow_lt_pow_right (by decide) hr)
theorem enc_tx {x : Nat} (h : x < 2 ^ 20) : enc (fun i => x.testBit i) 20 = x := by
  refine (enc_eq fun i => ?_).symm
  by_cases hi : i < 20
  · rw [decide_eq_true hi]; simp
  · rw [decide_eq_false hi, Nat.testBit_lt_two_pow (Nat.lt_of_lt_of_le h (Nat.pow_le_pow_right (by decide) (by omega)))]; rfl
/-- what is known of the states met when those below s are done -/
def XV (op : Nat → Nat → Bool) (n s : Nat) (L : List Nat) : Prop := (0 < L.length ∧ L.length ≤ 1000 ∧ gx L 0 = 0) ∧ (∀ i, i < L.length → gx L i < 2 ^ 20) ∧ (∀ i j, i < j → j < L.length → gx L i ≠ gx L j) ∧ (∀ i, 0 < i → i < L.length → ∃ p r, p < i ∧ r < n ∧ op (gx L p) r = true ∧ gx L i = gx L p ||| 2 ^ r) ∧ (∀ p, p < s → p < L.length → ∀ r, r < n → op (gx L p) r = true → (gx L p ||| 2 ^ r) ∈ L) ∧ (∀ i j, i < j → j < L.length → pc (gx L i) ≤ pc (gx L j)) ∧ (s < L.length → ∀ i, i < L.length → pc (gx L i) ≤ pc (gx L s) + 1)
theorem XV_ap {op : Nat → Nat → Bool} {n s r : Nat} {L : List Nat} (v : XV op n s L) (hs : s < L.length) (hn : n ≤ 20) (hr : r < n) (ho : op (gx L s) r = true) (hm : gx L s ||| 2 ^ r ∉ L) (h1 : L.length < 1000) : XV op n s (L ++ [gx L s ||| 2 ^ r]) := by
  obtain ⟨⟨a1, a2, a3⟩, b, c, e, f, g, k⟩ := v
  have hb : (gx L s).testBit r = false := by
    cases hb : (gx L s).testBit r with
    | false => rfl
    | true => exact absurd (by rw [put_in hb]; exact gx_i hs) hm
  have hp := pc_put hb (show r < 20 by omega)
  have hl := lt_put (b s hs) (show r < 20 by omega)
  generalize hy : gx L s ||| 2 ^ r = y at *
  have en : ∀ i, i < L.length + 1 → ¬ i < L.length → i = L.length := fun i h1 h2 => by omega
  refine ⟨⟨by rw [gx_len]; omega, by rw [gx_len]; omega, by rw [gx_l a1]; exact a3⟩, fun i hi => ?_, fun i j hij hj => ?_, fun i h0 hi => ?_, fun p hp1 hp2 q hq hoq => ?_, fun i j hij hj => ?_, fun _ i hi => ?_⟩
  · rw [gx_len] at hi
    by_cases h : i < L.length
    · rw [gx_l h]; exact b i h
    · rw [en i hi h, gx_r]; exact hl
  · rw [gx_len] at hj
    by_cases h : j < L.length
    · rw [gx_l h, gx_l (show i < L.length by omega)]; exact c i j hij h
    · have ej := en j hj h
      subst ej
      rw [gx_r, gx_l hij]
      exact fun z => hm (by rw [← z]; exact gx_i hij)
  · rw [gx_len] at hi
    by_cases h : i < L.length
    · obtain ⟨p, q, h2, h3, h4, h5⟩ := e i h0 h
      refine ⟨p, q, h2, h3, ?_, ?_⟩
      · rw [gx_l (show p < L.length by omega)]; exact h4
      · rw [gx_l (show p < L.length by omega), gx_l h]; exact h5
    · have ei := en i hi h
      subst ei
      refine ⟨s, r, hs, hr, ?_, ?_⟩
      · rw [gx_l hs]; exact ho
      · rw [gx_r, gx_l hs, hy]
  · have hp3 : p < L.length := by omega
    rw [gx_l hp3] at hoq ⊢
    exact List.mem_append_left _ (f p hp1 hp3 q hq hoq)
  · rw [gx_len] at hj
    by_cases h : j < L.length
    · rw [gx_l h, gx_l (show i < L.length by omega)]; exact g i j hij h
    · have ej := en j hj h
      subst ej
      rw [gx_r, gx_l hij, hp]
      exact k hs i hij
  · rw [gx_len] at hi
    rw [gx_l hs]
    by_cases h : i < L.length
    · rw [gx_l h]; exact k hs i h
    · rw [en i hi h, gx_r, hp]
      exact Nat.le_refl _
theorem exr_v {op : Nat → Nat → Bool} {n s : Nat} (hn : n ≤ 20) : ∀ (j r : Nat) (L L1 : List Nat), r + j = n → XV op n s L → s < L.length → (∀ q, q < r → op (gx L s) q = true → gx L s ||| 2 ^ q ∈ L) → exr op (gx L s) j r L = some L1 → XV op n s L1 ∧ L.length ≤ L1.length ∧ (∀ i, i < L.length → gx L1 i = gx L i) ∧ ∀ q, q < n → op (gx L s) q = true → gx L s ||| 2 ^ q ∈ L1 := by
  intro j
  induction j with
  | zero =>
    intro r L L1 hj v hs hq he
    have e : L = L1 := Option.some.inj he
    subst e
    exact ⟨v, Nat.le_refl _, fun _ _ => rfl, fun q h => hq q (by omega)⟩
  | succ j ih =>
    intro r L L1 hj v hs hq he
    simp only [exr] at he
    have nx : ∀ L2 : List Nat, (∀ q, q < r → op (gx L s) q = true → gx L s ||| 2 ^ q ∈ L2) → (op (gx L s) r = true → gx L s ||| 2 ^ r ∈ L2) → ∀ q, q < r + 1 → op (gx L s) q = true → gx L s ||| 2 ^ q ∈ L2 := fun L2 h1 h2 q hq ho => by
      by_cases e : q = r
      · rw [e]; rw [e] at ho; exact h2 ho
      · exact h1 q (by omega) ho
    by_cases ho : op (gx L s) r = true
    · rw [if_pos ho] at he
      by_cases hm : gx L s ||| 2 ^ r ∈ L
      · rw [if_pos hm] at he
        exact ih (r + 1) L L1 (by omega) v hs (nx L hq (fun _ => hm)) he
      · rw [if_neg hm] at he
        by_cases hl : L.length < 1000
        · rw [if_pos hl] at he
          have v2 := XV_ap v hs hn (show r < n by omega) ho hm hl
          have gs : gx (L ++ [gx L s ||| 2 ^ r]) s = gx L s := gx_l hs
          have := ih (r + 1) (L ++ [gx L s ||| 2 ^ r]) L1 (by omega) v2 (by rw [gx_len]; omega) (by rw [gs]; exact nx _ (fun q h1 h2 => List.mem_append_left _ (hq q h1 h2)) (fun _ => by simp)) (by rw [gs]; exact he)
          rw [gs] at this
          obtain ⟨w1, w2, w3, w4⟩ := this
          rw [gx_len] at w2 w3
          exact ⟨w1, by omega, fun i hi => by rw [w3 i (by omega), gx_l hi], w4⟩
        · rw [if_neg hl] at he
          cases he
    · rw [if_neg ho] at he
      exact ih (r + 1) L L1 (by omega) v hs (nx L hq (fun z => absurd z ho)) he
theorem exS_v {op : Nat → Nat → Bool} {n : Nat} (hn : n ≤ 20) : ∀ (j s : Nat) (L L1 : List Nat), 1000 < s + j → s ≤ L.length → XV op n s L → exS op n j s L = some L1 → XV op n L1.length L1 := by
  intro j
  induction j with
  | zero =>
    intro s L L1 hj hs v he
    have := v.1.2.1
    omega
  | succ j ih =>
    intro s L L1 hj hs v he
    simp only [exS] at he
    by_cases h : s < L.length
    · rw [if_pos h] at he
      cases hr : exr op (gx L s) n 0 L with
      | none => rw [hr] at he; cases he
      | some L2 =>
        rw [hr] at he
        have he : exS op n j (s + 1) L2 = some L1 := he
        obtain ⟨w1, w2, w3, w4⟩ := exr_v hn n 0 L L2 (by omega) v h (fun q hq => by omega) hr
        refine ih (s + 1) L2 L1 (by omega) (by omega) ?_ he
        obtain ⟨a, b, c, e, f, g, k⟩ := w1
        refine ⟨a, b, c, e, fun p hp1 hp2 q hq ho => ?_, g, fun hs2 i hi => ?_⟩
        · by_cases ep : p = s
          · subst ep
            rw [w3 p h] at ho ⊢
            exact w4 q hq ho
          · exact f p (by omega) hp2 q hq ho
        · have h1 := k (by omega) i hi
          have h2 := g s (s + 1) (by omega) hs2
          omega
    · rw [if_neg h] at he
      have e : L = L1 := Option.some.inj he
      subst e
      have es : s = L.length := by omega
      rw [← es]
      exact v
theorem XV_0 (op : Nat → Nat → Bool) (n : Nat) : XV op n 0 [0] := by
  have z : ∀ i, i < ([0] : List Nat).length → i = 0 := fun i h => by simp at h; exact h
  refine ⟨⟨by decide, by decide, rfl⟩, fun i hi => ?_, fun i j h1 h2 => ?_, fun i h1 h2 => ?_, fun p h => absurd h (by omega), fun i j h1 h2 => ?_, fun _ i hi => ?_⟩
  · rw [z i hi]; decide
  · have := z j h2; omega
  · have := z i h2; omega
  · have := z j h2; omega
  · rw [z i hi]; omega
def xpl (c : CO) (m : Int) : Option (List Nat) := exS (opx c m) (cn c 0) 1001 0 [0]
theorem xpl_v {c : CO} (w : WF c) {m : Int} {L : List Nat} (h : xpl c m = some L) : XV (opx c m) (cn c 0) L.length L := exS_v w.1.1 1001 0 [0] L (by omega) (by simp) (XV_0 _ _) h
section XVS
variable {op : Nat → Nat → Bool} {n : Nat} {L : List Nat}
/-- what a state leads to stands behind it -/
theorem XV_to (v : XV op n L.length L) (hn : n ≤ 20) {s r : Nat} (hs : s < L.length) (hr : r < n) (ho : op (gx L s) r = true) (hb : (gx L s).testBit r = false) : ∃ i, s < i ∧ i < L.length ∧ gx L i = gx L s ||| 2 ^ r := by
  obtain ⟨-, -, -, -, f, g, -⟩ := v
  obtain ⟨i, h1, h2⟩ := gx_m.mp (f s hs hs r hr ho)
  refine ⟨i, ?_, h1, h2⟩
  have hp := pc_put hb (show r < 20 by omega)
  rw [← h2] at hp
  by_cases e : i = s
  · rw [e] at hp; omega
  · by_cases e2 : i < s
    · have := g i s e2 hs; omega
    · omega
/-- a state with a riddle solved stands behind one where it is open -/
theorem XV_bf (v : XV op n L.length L) {q : Nat} : ∀ (j s : Nat), s ≤ j → s < L.length → (gx L s).testBit q = true → ∃ p, p < s ∧ op (gx L p) q = true := by
  obtain ⟨⟨-, -, a3⟩, -, -, e, -, -, -⟩ := v
  intro j
  induction j with
  | zero =>
    intro s hj hs hb
    have : s = 0 := by omega
    subst this
    rw [a3, Nat.zero_testBit] at hb
    cases hb
  | succ j ih =>
    intro s hj hs hb
    by_cases h0 : s = 0
    · subst h0
      rw [a3, Nat.zero_testBit] at hb
      cases hb
    · obtain ⟨p, r, h1, h2, h3, h4⟩ := e s (by omega) hs
      rw [h4, tb_put] at hb
      cases hp : (gx L p).testBit q with
      | true =>
        obtain ⟨p2, x1, x2⟩ := ih p (by omega) (by omega) hp
        exact ⟨p2, by omega, x2⟩
      | false =>
        rw [hp, Bool.false_or] at hb
        have := Nat.eq_of_beq_eq_true hb
        rw [this]
        exact ⟨p, h1, h3⟩
end XVS
/-- whether one of so many is such -/
def exb (p : Nat → Bool) : Nat → Bool
  | 0 => false
  | n + 1 => exb p n || p n
theorem exb_i {p : Nat → Bool} : ∀ n, exb p n = true ↔ ∃ r, r < n ∧ p r = true
  | 0 => ⟨fun h => (by cases h), fun ⟨r, h, _⟩ => absurd h (by omega)⟩
  | n + 1 => by
    show (exb p n || p n) = true ↔ _
    rw [Bool.or_eq_true, exb_i n]
    refine ⟨fun h => ?_, fun ⟨r, h1, h2⟩ => ?_⟩
    · rcases h with ⟨r, h1, h2⟩ | h
      · exact ⟨r, by omega, h2⟩
      · exact ⟨n, by omega, h⟩
    · by_cases e : r = n
      · rw [e] at h2; exact Or.inr h2
      · exact Or.inl ⟨r, by omega, h2⟩
/-- those that are open, up to how many there are -/
def mk0 (op : Nat → Nat → Bool) (n x r : Nat) : Bool := decide (r < n) && op x r
def thr (op : Nat → Nat → Bool) (n q x : Nat) : Bool := x.testBit q || mk0 op n x q
def gdv (op : Nat → Nat → Bool) (n q : Nat) (L : List Nat) : Nat → Nat → Bool
  | 0, _ => false
  | j + 1, y => if y = gx L (L.length - 1 - j) then (thr op n q y || exb (fun r => mk0 op n y r && !(y.testBit r) && gdv op n q L j (y ||| 2 ^ r)) 20) else gdv op n q L j y
def gd (op : Nat → Nat → Bool) (n q : Nat) (L : List Nat) : Nat → Bool := gdv op n q L L.length
theorem gdv_st {op : Nat → Nat → Bool} {n q : Nat} {L : List Nat} (v : XV op n L.length L) {i : Nat} (hi : i < L.length) : ∀ j, L.length - i ≤ j → j ≤ L.length → gdv op n q L j (gx L i) = gdv op n q L (L.length - i) (gx L i) := by
  intro j
  induction j with
  | zero => intro h1 h2; omega
  | succ j ih =>
    intro h1 h2
    by_cases e : L.length - i = j + 1
    · rw [e]
    · rw [← ih (by omega) (by omega)]
      simp only [gdv]
      rw [if_neg]
      have := v.2.2.1 (L.length - 1 - j) i (by omega) hi
      exact fun z => this z.symm
theorem gd_eq {op : Nat → Nat → Bool} {n q : Nat} {L : List Nat} (v : XV op n L.length L) (hn : n ≤ 20) {s : Nat} (hs : s < L.length) : gd op n q L (gx L s) = (thr op n q (gx L s) || exb (fun r => mk0 op n (gx L s) r && !((gx L s).testBit r) && gd op n q L (gx L s ||| 2 ^ r)) 20) := by
  unfold gd
  rw [gdv_st v hs L.length (by omega) (Nat.le_refl _)]
  obtain ⟨j, hj⟩ : ∃ j, L.length - s = j + 1 := ⟨L.length - s - 1, by omega⟩
  rw [hj]
  simp only [gdv]
  rw [if_pos (by rw [show L.length - 1 - j = s by omega])]
  congr 1
  have ex : ∀ (p p1 : Nat → Bool) (k : Nat), (∀ r, r < k → p r = p1 r) → exb p k = exb p1 k := by
    intro p p1 k
    induction k with
    | zero => intro _; rfl
    | succ k ih => intro h; simp only [exb]; rw [ih (fun r hr => h r (by omega)), h k (by omega)]
  apply ex
  intro r hr
  cases hm : mk0 op n (gx L s) r with
  | false => rfl
  | true =>
    cases hb : (gx L s).testBit r with
    | true => rfl
    | false =>
      have hm2 := hm
      unfold mk0 at hm2
      rw [Bool.and_eq_true, decide_eq_true_eq] at hm2
      obtain ⟨i, h1, h2, h3⟩ := XV_to v hn hs hm2.1 hm2.2 hb
      rw [← h3, gdv_st v h2 L.length (by omega) (Nat.le_refl _), gdv_st v h2 j (by omega) (by omega)]
/-- the first that is shut; the least ahead of the last; those that are ever open -/
def shu (g : Nat → Bool) (L : List Nat) : Nat → Nat → Int
  | 0, _ => -2
  | j + 1, s => if g (gx L s) = true then shu g L j (s + 1) else ((gx L s : Nat) : Int)
def sho (op : Nat → Nat → Bool) (q : Nat) (L : List Nat) : Nat → Nat → Int
  | 0, _ => -2
  | j + 1, s => if op (gx L s) q = true then ((pc (gx L s) : Nat) : Int) else sho op q L j (s + 1)
def shm (op : Nat → Nat → Bool) (q : Nat) (L : List Nat) : Nat → Nat → Int
  | 0, _ => -2
  | j + 1, s => if (gx L s).testBit q = false ∧ op (gx L s) q = true then ((pc (gx L s) : Nat) : Int) else shm op q L j (s + 1)
theorem sho_m {op : Nat → Nat → Bool} {n q : Nat} {L : List Nat} (v : XV op n L.length L) : ∀ (j s : Nat), s + j = L.length → (∀ p, p < s → op (gx L p) q = false) → sho op q L j s = shm op q L j s := by
  intro j
  induction j with
  | zero => intro s _ _; rfl
  | succ j ih =>
    intro s hs hp
    simp only [sho, shm]
    by_cases ho : op (gx L s) q = true
    · have hb : (gx L s).testBit q = false := by
        cases hb : (gx L s).testBit q with
        | false => rfl
        | true =>
          obtain ⟨p, h1, h2⟩ := XV_bf v s s (Nat.le_refl _) (by omega) hb
          rw [hp p h1] at h2
          cases h2
      rw [if_pos ho, if_pos ⟨hb, ho⟩]
    · rw [if_neg ho, if_neg (fun z => ho z.2)]
      refine ih (s + 1) (by omega) (fun p h => ?_)
      by_cases e : p = s
      · rw [e]; exact Bool.eq_false_iff.mpr ho
      · exact hp p (by omega)
def orx (op : Nat → Nat → Bool) (n : Nat) (L : List Nat) : Nat → Int
  | 0 => 0
  | j + 1 => zor (orx op n L j) ((enc (op (gx L j)) n : Nat) : Int)
def sp_states (x : Int) (S : HSx) : Int × HSx := if 0 ≤ x ∧ x ≤ 9999 then (match xpl S.1 x with
  | none => (-1, rfS S 10)
  | some L => ((L.length : Int), rfS S 0)) else (-1, rfS S 2)
def sp_dead (x : Int) (S : HSx) : Int × HSx := if 0 ≤ x ∧ x ≤ 9999 then (match xpl S.1 x with
  | none => (-1, rfS S 10)
  | some L => (zand (wr ((zshl 1 (cn S.1 0 : Int)) - 1)) (zxor (orx (opx S.1 x) (cn S.1 0) L L.length) (-1)), rfS S 0)) else (-1, rfS S 2)
def sp_shortest (x : Int) (S : HSx) : Int × HSx := if 0 ≤ x ∧ x ≤ 9999 then (if lasR S.1 = -1 then (-1, rfS S 9) else (match xpl S.1 x with
  | none => (-1, rfS S 10)
  | some L => (sho (opx S.1 x) (lasR S.1).toNat L L.length 0, rfS S 0))) else (-1, rfS S 2)
def sp_shut (x : Int) (S : HSx) : Int × HSx := if 0 ≤ x ∧ x ≤ 9999 then (if lasR S.1 = -1 then (-1, rfS S 9) else (match xpl S.1 x with
  | none => (-1, rfS S 10)
  | some L => (shu (gd (opx S.1 x) (cn S.1 0) (lasR S.1).toNat L) L L.length 0, rfS S 0))) else (-1, rfS S 2)
theorem ws_states {S : HSx} (w : WS S) {x : Int} : WS (sp_states x S).2 ∧ WS (sp_dead x S).2 ∧ WS (sp_shortest x S).2 ∧ WS (sp_shut x S).2 := by
  unfold sp_states sp_dead sp_shortest sp_shut
  refine ⟨?_, ?_, ?_, ?_⟩
  all_goals
    split
    · first
      | split
        · exact w.rfs _
        · exact w.rfs _
      | split
        · exact w.rfs _
        · split
          · exact w.rfs _
          · exact w.rfs _
    · exact w.rfs _
/-- numbers as sets: two of them -/
theorem enc_20 {p : Nat → Bool} {n : Nat} (hn : n ≤ 20) : enc p n = enc (fun r => decide (r < n) && p r) 20 := by
  apply enc_eq
  intro i
  rw [enc_tb]
  by_cases h : i < n
  · rw [decide_eq_true h, decide_eq_true (show i < 20 by omega)]; rfl
  · rw [decide_eq_false h]; simp
theorem zor_2 (p q : Nat → Bool) : zor (enc p 20 : Int) (enc q 20 : Int) = ((enc (fun i => p i || q i) 20 : Nat) : Int) := by
  rw [zor_nat (enc_30 p (by omega)) (enc_30 q (by omega))]
  congr 1
  apply enc_eq
  intro i
  rw [Nat.testBit_or, enc_tb, enc_tb]
  cases decide (i < 20) <;> cases p i <;> cases q i <;> rfl
theorem zan_2 (p q : Nat → Bool) : zand (enc p 20 : Int) (zxor (enc q 20 : Int) (-1)) = ((enc (fun i => p i && !(q i)) 20 : Nat) : Int) := by
  have e0 : i3 (zxor ((enc q 20 : Nat) : Int) (-1)) = i3 ((enc q 20 : Nat) : Int) ^^^ i3 (-1) := i3_of _
  show (i3 (enc p 20 : Int) &&& i3 (zxor ((enc q 20 : Nat) : Int) (-1))).toBitVec.toInt = _
  rw [e0, Int32.toBitVec_and, Int32.toBitVec_xor, i3_bv, i3_bv, ← bv_int (enc_30 (fun i => p i && !(q i)) (n := 20) (by omega))]
  congr 1
  have e1 : (i3 (-1)).toBitVec = BitVec.allOnes 32 := by decide
  rw [e1]
  apply BitVec.eq_of_getLsbD_eq
  intro i hi
  rw [BitVec.getLsbD_and, BitVec.getLsbD_xor, BitVec.getLsbD_ofNat, BitVec.getLsbD_ofNat, BitVec.getLsbD_ofNat, BitVec.getLsbD_allOnes, enc_tb, enc_tb, enc_tb, decide_eq_true hi]
  cases decide (i < 20) <;> cases p i <;> cases q i <;> rfl
