/-! FORMS: what they do, class: the walk -/
theorem sbW_cg {t t1 : Nat → Int} {n : Nat} {x y : Int} (h : ∀ i, i < n → t1 i = t i) (hy : y ≤ (n : Int)) : sbW t1 x y = sbW t x y := by
  unfold sbW
  apply List.map_congr_left
  intro j hj
  have hj := List.mem_range.mp hj
  exact h _ (by omega)
theorem stF_ft {o t t1 : Nat → Int} {n r : Nat} {l : List Int} {M : MSt} (h : ∀ i, i < n → t1 i = t i) (hk : okFm o n r) : stF o t1 l r M = stF o t l r M := by
  rcases hk with ⟨y, z⟩ | ⟨y, z⟩ | ⟨y, z1, z2⟩
  · have e := sbW_cg (x := o (3 * r + 1)) h z.2.2
    unfold stF
    rw [e]
    rcases y with y | y
    · rw [if_pos y, if_pos y]
    · rw [if_neg (by omega), if_pos y, if_neg (by omega), if_pos y]
  · unfold stF
    rcases y with y | y
    · rw [if_neg (by omega), if_neg (by omega), if_pos y, if_neg (by omega), if_neg (by omega), if_pos y]
    · rw [if_neg (by omega), if_neg (by omega), if_neg (by omega), if_pos y, if_neg (by omega), if_neg (by omega), if_neg (by omega), if_pos y]
  · have e : bgF (bgC o t1 r) (o (3 * r + 1)).toNat = bgF (bgC o t r) (o (3 * r + 1)).toNat := bgF_cg (fun i hi => sbW_cg h (z2 i hi).2.2)
    unfold stF
    rw [if_neg (by omega), if_neg (by omega), if_neg (by omega), if_neg (by omega), if_neg (by omega), if_neg (by omega), if_neg (by omega), if_neg (by omega), e]
theorem FRc.ft {o t t1 : Nat → Int} {n : Nat} {l : List Int} (h : ∀ i, i < n → t1 i = t i) : ∀ (k : Nat) {r b : Nat} {M M1 : MSt}, FRc o t n l k r M b M1 → FRc o t1 n l k r M b M1
  | 0, _, _, _, _, x => x
  | k + 1, r, b, M, M1, x => by
    obtain ⟨x1, x2, x3⟩ := x
    have e := stF_ft (l := l) (M := M) h x1
    exact ⟨x1, by rw [e]; exact x2, by rw [e]; exact FRc.ft h k x3⟩
theorem SgF.ft {o t t1 : Nat → Int} {n a b : Nat} {g : FTr} (hg : SgF o t n a b g) (h : ∀ i, i < n → t1 i = t i) : SgF o t1 n a b g := ⟨hg.1, fun l M hM => by
  obtain ⟨k, M1, x, y⟩ := hg.2 l M hM
  exact ⟨k, M1, FRc.ft h k x, y⟩⟩
/-- rows up to 400, sets of choices behind them -/
def BG (M E : MSt) : MSt := fun r => if r ≤ 400 then M r else E (r - 401)
theorem bgb : ∀ s : Fin 16, ∀ i : Fin 4, (zand (zshr (s.val : Int) (i.val : Int)) 1 = 0 ↔ s.val / 2 ^ i.val % 2 = 0) ∧ (s.val / 2 ^ i.val % 2 = 0 → zor (s.val : Int) (zshl 1 (i.val : Int)) = ((s.val + 2 ^ i.val : Nat) : Int) ∧ s.val + 2 ^ i.val < 16) := by decide +kernel
theorem bgk : ∀ k : Fin 5, wr (zshl 1 (k.val : Int) - 1) = ((2 ^ k.val - 1 : Nat) : Int) ∧ 2 ^ k.val - 1 < 16 := by decide +kernel
theorem zdiv3 {x : Nat} (h : x ≤ 1200) : zdiv (x : Int) 3 = ((x / 3 : Nat) : Int) := (show ∀ x : Fin 1201, zdiv (x.val : Int) 3 = ((x.val / 3 : Nat) : Int) from by decide +kernel) ⟨x, by omega⟩
theorem idx3 {r c : Nat} (hr : r ≤ 400) (hc : c ≤ 2) : wr (wr ((r : Int) * 3) + (c : Int)) = ((3 * r + c : Nat) : Int) := by
  rw [wr_id (x := (r : Int) * 3) (by unfold okI; omega), wr_id (by unfold okI; omega)]
  omega
theorem idx30 {r : Nat} (hr : r ≤ 400) : wr ((r : Int) * 3) = ((3 * r : Nat) : Int) := by
  rw [wr_id (by unfold okI; omega)]
  omega
theorem wr_a {r : Nat} (k : Nat) (h : r + k < 100000) : wr ((r : Int) + (k : Int)) = ((r + k : Nat) : Int) := add_n (by omega)
/-- what the class holds of a form -/
def FCd (τ : T2) (q qo qt m nt : Nat) : Prop := tS τ q = (1, 3, 0) ∧ tP τ q 0 = some qo ∧ tP τ q 1 = some qt ∧ tS τ qo = (2, 0, 3 * m) ∧ tS τ qt = (2, 1, nt) ∧ (qo ≠ 78 ∧ qt ≠ 78) ∧ m ≤ 349 ∧ nt ≤ 300
section FCW
variable {d : Nat} {τ : T2} {Q : RS → T2 → Prop} {g : Nat → Int} {M : MSt} {l : List Int} {q qo qt m nt : Nat}
theorem c22' (F : FX2 τ) (H : HdC τ l) (K : FCd τ q qo qt m nt) {x y : Int} (h0 : 0 ≤ x) (hxy : x ≤ y) (hy : y ≤ (nt : Int)) (S : SRg g M) {a b : Nat} (ha : a < 417) (hb : b < 417) (hab : a ≠ b) (hd : 2 ≤ d) (k : ∀ g1, SRg g1 (jnM M b (wS (sbW (tI τ qt) x y) l (M a))) → Q (.inl none) (rI τ 78 g1)) : G d 22 0 [vR 76, vI (a : Int), vI (b : Int), vR qt, vI x, vI y, none] [] (rI τ 78 g) Q := by
  obtain ⟨x', ex⟩ : ∃ x' : Nat, x = (x' : Int) := ⟨x.toNat, by omega⟩
  obtain ⟨y', ey⟩ : ∃ y' : Nat, y = (y' : Int) := ⟨y.toNat, by omega⟩
  subst ex ey
  exact c22 F H K.2.2.2.2.1 (by have := K.2.2.2.2.2.2.2; omega) K.2.2.2.2.2.1.2 (by omega) (by omega) S ha hb hab hd k
/-- walkBag -/
theorem c21 (F : FX2 τ) (H : HdC τ l) (K : FCd τ q qo qt m nt) (S : SRg g M) {r k : Nat} (hk : 1 ≤ k ∧ k ≤ 4) (hrm : r + 1 + k ≤ m) (hx : ∀ i, i < k → okX (tI τ qo) nt (r + 1 + i)) (hd : 5 ≤ d) (kk : ∀ g1 M1, SRg g1 M1 → (∀ i, i ≤ 400 → ∀ e, M1 i e = jnM M (r + 1 + k) (bgF (bgC (tI τ qo) (tI τ qt) r) k l (M r)) i e) → Q (.inl none) (rI τ 78 g1)) : G d 21 0 [vR 76, vI (r : Int), vI (k : Int), vR q, none, none, none, none, none] [] (rI τ 78 g) Q := by
  obtain ⟨K1, K2, K3, K4, K5, K6, K7, K8⟩ := id K
  obtain ⟨ek, ek2⟩ := bgk ⟨k, by omega⟩
  simp only at ek ek2
  have hp2 : 0 < 2 ^ k := Nat.two_pow_pos k
  have inn : ∀ (s : Nat), s < 2 ^ k - 1 → (∀ g1 E1, SRg g1 (BG M E1) → G d 21 60 [vR 76, vI (r : Int), vI (k : Int), vR q, vI ((2 ^ k - 1 : Nat) : Int), vI ((s + 1 : Nat) : Int), none, none, none] [] (rI τ 78 g1) Q) → True := fun _ _ _ => trivial
  clear inn
  have lpi : ∀ (s : Nat), s < 2 ^ k - 1 → ∀ (j i : Nat) (g1 : Nat → Int) (E : MSt), i + j = k → SRg g1 (BG M E) → (∀ g2, SRg g2 (BG M (bgI (bgC (tI τ qo) (tI τ qt) r) l s j i E)) → G d 21 60 [vR 76, vI (r : Int), vI (k : Int), vR q, vI ((2 ^ k - 1 : Nat) : Int), vI ((s + 1 : Nat) : Int), none, none, none] [] (rI τ 78 g2) Q) → G d 21 70 [vR 76, vI (r : Int), vI (k : Int), vR q, vI ((2 ^ k - 1 : Nat) : Int), vI (s : Int), vI (i : Int), none, none] [] (rI τ 78 g1) Q := by
    intro s hs j
    induction j with
    | zero =>
      intro i g1 E hi S1 h
      obtain ⟨s1, s2, s3⟩ := rsh F g1
      refine t21_70 (q4 := qo) (n6 := 3 * m) (by omega) (show tS τ q = _ from K1) (show tP τ q 0 = _ from K2) (show tS τ qo = _ from K4) (fun z => by omega) (fun z => by omega) s1 (fun _ => ?_) (fun z => by omega) (fun z => by omega)
      rw [wr_nat (by omega)]
      exact h g1 S1
    | succ j ih =>
      intro i g1 E hi S1 h
      obtain ⟨s1, s2, s3⟩ := rsh F g1
      obtain ⟨b1, b2⟩ := bgb ⟨s, by omega⟩ ⟨i, by omega⟩
      simp only at b1 b2
      have ei : wr (wr (wr ((r : Int) + 1) + (i : Int)) * 3) = ((3 * (r + 1 + i) : Nat) : Int) := by rw [wr_nat (by omega), wr_a i (by omega), idx30 (by omega)]
      have e1 : wr (wr (wr (wr ((r : Int) + 1) + (i : Int)) * 3) + 1) = ((3 * (r + 1 + i) + 1 : Nat) : Int) := by rw [ei]; exact wr_a 1 (by clear ei; omega)
      have e2 : wr (wr (wr (wr ((r : Int) + 1) + (i : Int)) * 3) + 2) = ((3 * (r + 1 + i) + 2 : Nat) : Int) := by rw [ei]; exact wr_a 2 (by clear ei e1; omega)
      clear ei
      have nx : wr ((i : Int) + 1) = ((i + 1 : Nat) : Int) := wr_nat (by clear e1 e2; omega)
      have c1 : (0 : Int) ≤ ((3 * (r + 1 + i) + 1 : Nat) : Int) ∧ ((3 * (r + 1 + i) + 1 : Nat) : Int) < ((3 * m : Nat) : Int) := by clear e1 e2 nx; omega
      have c2 : (0 : Int) ≤ ((3 * (r + 1 + i) + 2 : Nat) : Int) ∧ ((3 * (r + 1 + i) + 2 : Nat) : Int) < ((3 * m : Nat) : Int) := by clear e1 e2 nx; omega
      have hik : i < k := by clear e1 e2 nx; omega
      simp only [bgI] at h
      refine t21_70 (q4 := qo) (n6 := 3 * m) (by clear e1 e2 nx; omega) (show tS τ q = _ from K1) (show tP τ q 0 = _ from K2) (show tS τ qo = _ from K4) (fun _ _ => by rw [e1]; exact c1) (fun _ _ => by rw [e2]; exact c2) s1 (fun z => by clear e1 e2 nx; omega) (fun _ z => ?_) (fun _ z => ?_)
      · rw [b1] at z
        rw [if_neg z] at h
        rw [nx]
        exact ih (i + 1) g1 E (by clear e1 e2 nx; omega) S1 h
      · have z2 := b1.mp z
        obtain ⟨y1, y2⟩ := b2 z2
        rw [if_pos z2] at h
        have w1 : wr (401 + (s : Int)) = ((401 + s : Nat) : Int) := wr_a (r := 401) s (by clear e1 e2 nx; omega)
        have w2 : wr (401 + ((s + 2 ^ i : Nat) : Int)) = ((401 + (s + 2 ^ i) : Nat) : Int) := wr_a (r := 401) (s + 2 ^ i) (by clear e1 e2 nx w1; omega)
        rw [e1, e2, y1, w1, w2, Int.toNat_natCast, Int.toNat_natCast, rI_o K6.1, rI_o K6.1, show tP (rI τ 78 g1) q 1 = some qt from K3]
        obtain ⟨x0, x1, x2⟩ := hx i hik
        have hp : 0 < 2 ^ i := Nat.two_pow_pos i
        clear e1 e2 y1 w1 w2
        refine c22' F H K x0 x1 x2 S1 (by omega) (by omega) (by omega) (by omega) (fun g2 S2 => t21_143 (r3 := some q) ?_)
        rw [nx]
        clear nx
        refine ih (i + 1) g2 (jnM E (s + 2 ^ i) (wS (bgC (tI τ qo) (tI τ qt) r i) l (E s))) (by omega) (S2.cg (fun p hp e => ?_)) h
        have es : BG M E (401 + s) = E s := by
          unfold BG
          rw [if_neg (by omega), show 401 + s - 401 = s by omega]
        by_cases y : p = 401 + (s + 2 ^ i)
        · rw [y, jnM_a, es]
          unfold BG
          rw [if_neg (by omega), if_neg (by omega), show 401 + (s + 2 ^ i) - 401 = s + 2 ^ i by omega, jnM_a]
          rfl
        · rw [jnM_o y]
          unfold BG
          by_cases y2 : p ≤ 400
          · rw [if_pos y2, if_pos y2]
          · rw [if_neg y2, if_neg y2, jnM_o (by omega)]
  have lpo : ∀ (j s : Nat) (g1 : Nat → Int) (E : MSt), s + j = 2 ^ k - 1 → SRg g1 (BG M E) → bgO (bgC (tI τ qo) (tI τ qt) r) l k j s E (2 ^ k - 1) = bgF (bgC (tI τ qo) (tI τ qt) r) k l (M r) → G d 21 60 [vR 76, vI (r : Int), vI (k : Int), vR q, vI ((2 ^ k - 1 : Nat) : Int), vI (s : Int), none, none, none] [] (rI τ 78 g1) Q := by
    intro j
    induction j with
    | zero =>
      intro s g1 E hs S1 he
      obtain ⟨s1, s2, s3⟩ := rsh F g1
      refine t21_60 (r3 := some q) (by omega) s1 (fun _ => ?_) (fun z => by omega)
      have w1 : wr (401 + ((2 ^ k - 1 : Nat) : Int)) = ((401 + (2 ^ k - 1) : Nat) : Int) := wr_a (r := 401) (2 ^ k - 1) (by omega)
      have w2 : wr (wr ((r : Int) + 1) + (k : Int)) = ((r + 1 + k : Nat) : Int) := by rw [wr_nat (by clear w1; omega)]; exact wr_a k (by clear w1; omega)
      rw [w1, w2]
      clear w1 w2
      refine c26 F S1 (by omega) (by omega) (by omega) (fun g2 S2 => t21_170 (kk g2 _ S2 (fun i hi e => ?_)))
      have es : BG M E (401 + (2 ^ k - 1)) = E (2 ^ k - 1) := by
        unfold BG
        rw [if_neg (by omega), show 401 + (2 ^ k - 1) - 401 = 2 ^ k - 1 by omega]
      have he2 : E (2 ^ k - 1) = bgF (bgC (tI τ qo) (tI τ qt) r) k l (M r) := he
      by_cases y : i = r + 1 + k
      · rw [y, jnM_a, jnM_a, es, he2]
        unfold BG
        rw [if_pos (by omega)]
      · rw [jnM_o y, jnM_o y]
        unfold BG
        rw [if_pos hi]
    | succ j ih =>
      intro s g1 E hs S1 he
      obtain ⟨s1, s2, s3⟩ := rsh F g1
      refine t21_60 (r3 := some q) (by omega) s1 (fun z => by omega) (fun _ => ?_)
      refine lpi s (by omega) k 0 g1 E (Nat.zero_add _) S1 (fun g2 S2 => ih (s + 1) g2 _ (by omega) S2 he)
  obtain ⟨s1, s2, s3⟩ := rsh F g
  have e3 : wr (wr (wr ((r : Int) + 1) + (k : Int)) * 3) = ((3 * (r + 1 + k) : Nat) : Int) := by rw [wr_nat (by omega), wr_a k (by omega), idx30 (by omega)]
  refine t21_0 (q4 := qo) (n6 := 3 * m) (by clear e3 ek; omega) (show tS τ q = _ from K1) (show tP τ q 0 = _ from K2) (show tS τ qo = _ from K4) s1 (fun z => by rw [ek] at z; clear e3 ek; omega) (fun _ z => by rw [ek] at z; clear e3 ek; omega) (fun _ _ _ => ?_) (fun _ _ z => by rw [e3] at z; clear e3 ek; omega)
  rw [ek, s2]
  clear ek e3
  refine c260 (a := 2005) (b := 2085) F (by omega) (by omega) (by omega) (fun g1 h1 => t21_49 (r3 := some q) (by omega) (rsh F g1).1 ?_)
  have S1 : SRg g1 (BG M (fun _ _ => false)) := ⟨fun p hp e => by
    unfold BG sB5
    by_cases y : p ≤ 400
    · rw [if_pos y, S.1 p hp e]
      unfold sB5
      by_cases h3 : e < 320
      · rw [h1 (5 * p + e / 64), if_neg (by omega)]
      · rw [decide_eq_false h3]
        rfl
    · rw [if_neg y]
      by_cases h3 : e < 320
      · rw [h1 (5 * p + e / 64), if_pos (by omega), lb_0, Bool.and_false]
      · rw [decide_eq_false h3]
        rfl, trivial⟩
  refine c26 (b := 401) F S1 (by omega) (by omega) (by omega) (fun g2 S2 => t21_57 (r3 := some q) ?_)
  refine lpo (2 ^ k - 1) 0 g2 (bg0 (M r)) (Nat.zero_add _) (S2.cg (fun p hp e => ?_)) rfl
  by_cases y : p = 401
  · rw [y, jnM_a]
    unfold BG
    rw [if_neg (by omega), if_neg (by omega), if_pos (by omega)]
    unfold bg0
    rw [if_pos (by omega), Bool.false_or]
  · rw [jnM_o y]
    unfold BG
    by_cases y2 : p ≤ 400
    · rw [if_pos y2, if_pos y2]
    · rw [if_neg y2, if_neg y2]
      unfold bg0
      rw [if_neg (by omega)]
/-- walkFrom -/
theorem c20 (F : FX2 τ) (H : HdC τ l) (K : FCd τ q qo qt m nt) (S : SRg g M) {r : Nat} (hr : r < m) (hk : okFm (tI τ qo) nt r) (hb : (stF (tI τ qo) (tI τ qt) l r M).1 ≤ m) (hd : 7 ≤ d) (kk : ∀ g1 M1, SRg g1 M1 → (∀ i, i ≤ 400 → ∀ e, M1 i e = (stF (tI τ qo) (tI τ qt) l r M).2 i e) → Q (.inl (some (AI (((stF (tI τ qo) (tI τ qt) l r M).1 : Nat) : Int)))) (rI τ 78 g1)) : G d 20 0 [vR 76, vI (r : Int), vR q, none, none] [] (rI τ 78 g) Q := by
  obtain ⟨K1, K2, K3, K4, K5, K6, K7, K8⟩ := id K
  obtain ⟨s1, s2, s3⟩ := rsh F g
  have e0 : wr ((r : Int) * 3) = ((3 * r : Nat) : Int) := idx30 (by omega)
  have e1 : wr (wr ((r : Int) * 3) + 1) = ((3 * r + 1 : Nat) : Int) := idx3 (c := 1) (by clear e0; omega) (by omega)
  have e2 : wr (wr ((r : Int) * 3) + 2) = ((3 * r + 2 : Nat) : Int) := idx3 (c := 2) (by clear e0 e1; omega) (by omega)
  have c0 : (0 : Int) ≤ ((3 * r : Nat) : Int) ∧ ((3 * r : Nat) : Int) < ((3 * m : Nat) : Int) := by clear e0 e1 e2; omega
  have c1 : (0 : Int) ≤ ((3 * r + 1 : Nat) : Int) ∧ ((3 * r + 1 : Nat) : Int) < ((3 * m : Nat) : Int) := by clear e0 e1 e2; omega
  have c2 : (0 : Int) ≤ ((3 * r + 2 : Nat) : Int) ∧ ((3 * r + 2 : Nat) : Int) < ((3 * m : Nat) : Int) := by clear e0 e1 e2; omega
  refine t20_0 (q2 := qo) (n4 := 3 * m) (show tS τ q = _ from K1) (show tP τ q 0 = _ from K2) (show tS τ qo = _ from K4) (by rw [e1]; exact c1) (by rw [e2]; exact c2) (by rw [e0]; exact c0) ?_
  rw [e1, e2, e0, Int.toNat_natCast, Int.toNat_natCast, Int.toNat_natCast, rI_o K6.1, rI_o K6.1, rI_o K6.1]
  clear e0 e1 e2
  have nx : wr ((r : Int) + 1) = ((r + 1 : Nat) : Int) := wr_nat (by omega)
  have jr : ∀ S : BSet, jnM M (r + 1) S r = M r := fun S => jnM_o (by clear nx; omega)
  have tp : ∀ g1 : Nat → Int, tP (rI τ 78 g1) q 1 = some qt := fun _ => K3
  rcases hk with ⟨y, x0, x1, x2⟩ | ⟨y, x0, x1⟩ | ⟨y, ⟨x0, x1⟩, hx⟩
  · rcases y with y | y
    · have es : stF (tI τ qo) (tI τ qt) l r M = (r + 1, jnM M (r + 1) (wS (sbW (tI τ qt) (tI τ qo (3 * r + 1)) (tI τ qo (3 * r + 2))) l (M r))) := by unfold stF; rw [if_pos y]
      rw [es] at kk
      refine t20_31 (r2 := some q) (fun _ => t20_64 (by clear nx; omega) (show tS τ q = _ from K1) s1 ?_) (fun z => by clear nx; omega) (fun z => by clear nx; omega) (fun z => by clear nx; omega) (fun z => by clear nx; omega) (fun z => by clear nx; omega)
      rw [nx, tp]
      refine c22' F H K x0 x1 x2 S (by clear nx; omega) (by clear nx; omega) (by clear nx; omega) (by clear nx; omega) (fun g1 S1 => t20_79 ?_)
      rw [nx]
      exact kk g1 _ S1 (fun _ _ _ => rfl)
    · have es : stF (tI τ qo) (tI τ qt) l r M = (r + 1, jnM (jnM M (r + 1) (wS (sbW (tI τ qt) (tI τ qo (3 * r + 1)) (tI τ qo (3 * r + 2))) l (M r))) (r + 1) (M r)) := by unfold stF; rw [if_neg (by clear nx; omega), if_pos y]
      rw [es] at kk
      refine t20_31 (r2 := some q) (fun z => by clear nx; omega) (fun _ => t20_83 (by clear nx; omega) (show tS τ q = _ from K1) s1 ?_) (fun z => by clear nx; omega) (fun z => by clear nx; omega) (fun z => by clear nx; omega) (fun z => by clear nx; omega)
      rw [nx, tp]
      refine c22' F H K x0 x1 x2 S (by clear nx; omega) (by clear nx; omega) (by clear nx; omega) (by clear nx; omega) (fun g1 S1 => t20_98 (by clear nx; omega) (rsh F g1).1 ?_)
      rw [nx]
      refine c26 F S1 (by clear nx; omega) (by clear nx; omega) (by clear nx; omega) (fun g2 S2 => t20_106 ?_)
      rw [nx]
      rw [jr] at S2
      exact kk g2 _ S2 (fun _ _ _ => rfl)
  · obtain ⟨b, eb⟩ : ∃ b : Nat, tI τ qo (3 * r + 1) = (b : Int) := ⟨(tI τ qo (3 * r + 1)).toNat, by clear nx; omega⟩
    rw [eb] at x0 x1
    have ed : zdiv (b : Int) 3 = ((b / 3 : Nat) : Int) := zdiv3 (by clear nx; omega)
    rcases y with y | y
    · have es : stF (tI τ qo) (tI τ qt) l r M = (r + 1, jnM (jnM M (r + 1) (M r)) (b / 3) (M r)) := by unfold stF; rw [if_neg (by clear nx ed; omega), if_neg (by clear nx ed; omega), if_pos y, eb, Int.toNat_natCast]
      rw [es] at kk
      refine t20_31 (r2 := some q) (fun z => by clear nx ed; omega) (fun z => by clear nx ed; omega) (fun z => by clear nx ed; omega) (fun _ => t20_110 (by clear nx ed; omega) s1 ?_) (fun z => by clear nx ed; omega) (fun z => by clear nx ed; omega)
      rw [nx]
      refine c26 F S (by clear nx ed; omega) (by clear nx ed; omega) (by clear nx ed; omega) (fun g1 S1 => t20_118 (by clear nx ed; omega) (rsh F g1).1 ?_)
      rw [eb, ed]
      refine c26 F S1 (by clear nx ed; omega) (by clear nx ed; omega) (by clear nx ed; omega) (fun g2 S2 => t20_126 ?_)
      rw [nx]
      rw [jr] at S2
      exact kk g2 _ S2 (fun _ _ _ => rfl)
    · have es : stF (tI τ qo) (tI τ qt) l r M = (r + 1, jnM M (b / 3) (M r)) := by unfold stF; rw [if_neg (by clear nx ed; omega), if_neg (by clear nx ed; omega), if_neg (by clear nx ed; omega), if_pos y, eb, Int.toNat_natCast]
      rw [es] at kk
      refine t20_31 (r2 := some q) (fun z => by clear nx ed; omega) (fun z => by clear nx ed; omega) (fun z => by clear nx ed; omega) (fun z => by clear nx ed; omega) (fun _ => t20_130 (by clear nx ed; omega) s1 ?_) (fun z => by clear nx ed; omega)
      rw [eb, ed]
      refine c26 F S (by clear nx ed; omega) (by clear nx ed; omega) (by clear nx ed; omega) (fun g1 S1 => t20_138 ?_)
      rw [nx]
      exact kk g1 _ S1 (fun _ _ _ => rfl)
  · obtain ⟨k, ek⟩ : ∃ k : Nat, tI τ qo (3 * r + 1) = (k : Int) := ⟨(tI τ qo (3 * r + 1)).toNat, by clear nx; omega⟩
    rw [ek, Int.toNat_natCast] at hx
    rw [ek] at x0 x1
    have es : stF (tI τ qo) (tI τ qt) l r M = (r + 1 + k, jnM M (r + 1 + k) (bgF (bgC (tI τ qo) (tI τ qt) r) k l (M r))) := by unfold stF; rw [if_neg (by clear nx; omega), if_neg (by clear nx; omega), if_neg (by clear nx; omega), if_neg (by clear nx; omega), ek, Int.toNat_natCast]
    rw [es] at kk hb
    have hb : r + 1 + k ≤ m := hb
    have go : G d 20 142 [vR 76, vI (r : Int), vR q, vI (tI τ qo (3 * r + 1)), none] [] (rI τ 78 g) Q := by
      refine t20_142 (r2 := some q) (by clear nx; omega) s1 ?_
      rw [ek]
      refine c21 F H K S ⟨by clear nx; omega, by clear nx; omega⟩ hb hx (by clear nx; omega) (fun g1 M1 S1 h1 => t20_149 ?_)
      rw [nx, wr_a k (by clear nx; omega)]
      exact kk g1 M1 S1 h1
    exact t20_31 (r2 := some q) (fun z => by clear nx; omega) (fun z => by clear nx; omega) (fun _ => go) (fun z => by clear nx; omega) (fun z => by clear nx; omega) (fun _ => go)
/-- what is asked of rows up to 400 alone -/
theorem stF_cg {o t : Nat → Int} {r : Nat} {M M1 : MSt} (hr : r ≤ 400) (h : ∀ i, i ≤ 400 → ∀ e, M1 i e = M i e) : (stF o t l r M1).1 = (stF o t l r M).1 ∧ ∀ i, i ≤ 400 → ∀ e, (stF o t l r M1).2 i e = (stF o t l r M).2 i e := by
  have er : M1 r = M r := funext (h r hr)
  have j1 : ∀ (A B : MSt) (b : Nat) (S : BSet), (∀ i, i ≤ 400 → ∀ e, A i e = B i e) → ∀ i, i ≤ 400 → ∀ e, jnM A b S i e = jnM B b S i e := fun A B b S hAB i hi e => by
    by_cases y : i = b
    · rw [y, jnM_a, jnM_a, hAB b (by omega) e]
    · rw [jnM_o y, jnM_o y, hAB i hi e]
  unfold stF
  rw [er]
  split
  · exact ⟨rfl, j1 _ _ _ _ h⟩
  · split
    · exact ⟨rfl, j1 _ _ _ _ (j1 _ _ _ _ h)⟩
    · split
      · exact ⟨rfl, j1 _ _ _ _ (j1 _ _ _ _ h)⟩
      · split
        · exact ⟨rfl, j1 _ _ _ _ h⟩
        · exact ⟨rfl, j1 _ _ _ _ h⟩
theorem c19l (F : FX2 τ) (H : HdC τ l) (K : FCd τ q qo qt m nt) (hd : 10 ≤ d) {Mf : MSt} (kk : ∀ g1, Q (.inl (some (AI (bi (Mf m l.length))))) (rI τ 78 g1)) : ∀ (k r lf : Nat) (M M1 : MSt) (g : Nat → Int), FRc (tI τ qo) (tI τ qt) nt l k r M m Mf → k ≤ lf → lf ≤ 400 → SRg g M1 → (∀ i, i ≤ 400 → ∀ e, M1 i e = M i e) → G d 19 45 [vR 76, vR q, vI (m : Int), vI (r : Int), vI (lf : Int)] [] (rI τ 78 g) Q := by
  have hm := K.2.2.2.2.2.2.1
  have hl := H.2.1
  intro k
  induction k with
  | zero =>
    intro r lf M M1 g hf hk h4 S hM
    obtain ⟨s1, s2, s3⟩ := rsh F g
    obtain ⟨er, eM⟩ := hf
    have fin : G (d - 1) 24 0 [vR 76, vI (m : Int), vI (tI (rI τ 78 g) 76 1)] [] (rI τ 78 g) (KC d 19 74 77 [none, none, none, none, none] [] Q) := by
      rw [rI_o (by omega), H.1]
      refine c24 F S (by omega) hl (t19_77 ?_ ?_)
      · cases M1 m l.length
        · exact Or.inl rfl
        · exact Or.inr rfl
      · rw [hM m (by omega) l.length, eM]
        exact kk g
    exact t19_45 (r1 := some q) (by omega) s1 (fun _ => fin) (fun _ _ => fin) (fun _ z => by omega)
  | succ k ih =>
    intro r lf M M1 g hf hk h4 S hM
    obtain ⟨s1, s2, s3⟩ := rsh F g
    have hle := FRc.le (k + 1) hf
    obtain ⟨x1, x2, x3⟩ := hf
    obtain ⟨y1, y2⟩ := stF_cg (l := l) (o := tI τ qo) (t := tI τ qt) (r := r) (by omega) hM
    refine t19_45 (r1 := some q) (by omega) s1 (fun z => by omega) (fun _ z => by omega) (fun _ _ => ?_)
    refine c20 F H K S (by omega) x1 (by rw [y1]; exact x2) (by omega) (fun g1 M2 S2 h2 => t19_61 (r1 := some q) ?_)
    rw [wr_id (show okI ((lf : Int) + -1) by unfold okI; omega), show (lf : Int) + -1 = ((lf - 1 : Nat) : Int) by omega, y1]
    exact ih _ (lf - 1) _ M2 g1 x3 (by omega) (by omega) S2 (fun i hi e => (h2 i hi e).trans (y2 i hi e))
/-- isTakenBy -/
theorem foC_of {g : FTr} (hq : CoA τ q) (h0 : tP τ q 0 = some qo) (h1 : tP τ q 1 = some qt) (b0 : 473 ≤ qo ∧ qo < tN τ) (b1 : 473 ≤ qt ∧ qt < tN τ) (so : tS τ qo = (2, 0, 3 * m)) (st : tS τ qt = (2, 1, nt)) (hm : m ≤ 349) (hn : nt ≤ 300) (sg : SgF (tI τ qo) (tI τ qt) nt 0 m g) : FoC τ q (frm g) := ⟨hq, fun τ1 d Q l hd e F H k => by
  obtain ⟨q1, q2, q3⟩ := hq
  have f1 := e.2 q q1 q2
  have f2 := e.2 qo b0.1 b0.2
  have f3 := e.2 qt b1.1 b1.2
  have K : FCd τ1 q qo qt m nt := ⟨f1.1.trans q3, by rw [f1.2.2]; exact h0, by rw [f1.2.2]; exact h1, f2.1.trans so, f3.1.trans st, ⟨by omega, by omega⟩, hm, hn⟩
  rw [← f2.2.1, ← f3.2.1] at sg
  have hm0 := sg.1
  have ez : zdiv ((3 * m : Nat) : Int) 3 = (m : Int) := by rw [zdiv3 (by omega), Nat.mul_div_cancel_left m (by decide)]
  obtain ⟨s1, s2, s3⟩ := rsh F (tI τ1 78)
  rw [rI_of] at s1 s2 s3
  have w5 : wr (wr ((m : Int) + 1) * 5) = ((5 * (m + 1) : Nat) : Int) := by
    rw [wr_nat (by omega), wr_id (by unfold okI; clear ez; omega)]
    clear ez
    omega
  refine t19_0 (q2 := qo) (n4 := 3 * m) (by clear ez w5; omega) K.1 K.2.1 K.2.2.2.1 s1 (fun _ => ?_) (fun z => by rw [ez] at z; clear ez w5; omega)
  rw [ez, w5, s2]
  clear ez w5
  have c := c260 (τ := τ1) (g := tI τ1 78) (d := d - 1) (a := 0) (b := 5 * (m + 1)) (Q := KC d 19 28 31 [vR 76, vR q, vI (m : Int), none, none] [] Q) F (by omega) (by omega) (by omega) (fun g1 hg => ?_)
  · rw [rI_of] at c
    exact c
  obtain ⟨t1, t2, t3⟩ := rsh F g1
  refine t19_31 (r1 := some q) (q2 := 78) (n4 := 2085) t1 t2 t3 (by omega) ?_
  rw [rI_u]
  have zr : ∀ i, i < 5 * (m + 1) → g1 i = 0 := fun i hi => by rw [hg i, if_pos ⟨Nat.zero_le _, hi⟩]
  have row : ∀ r, 0 < r → r ≤ m → ∀ e, sB5 (aU g1 0 1) (5 * r) e = false := fun r h1 h2 e => by
    unfold sB5 aU
    by_cases h3 : e < 320
    · rw [if_neg (by omega), zr _ (by omega), lb_0, Bool.and_false]
    · rw [decide_eq_false h3]
      rfl
  have row0 : (fun e => sB5 (aU g1 0 1) (5 * 0) e) = fun e => decide (e = 0) := funext fun e => by
    unfold sB5 aU
    by_cases h3 : e < 320
    · rw [decide_eq_true h3, Bool.true_and]
      by_cases h4 : e / 64 = 0
      · rw [if_pos (by omega), lb_1]
        by_cases h5 : e = 0
        · rw [decide_eq_true h5, decide_eq_true (show e % 64 = 0 by omega)]
        · rw [decide_eq_false h5, decide_eq_false (show ¬ e % 64 = 0 by omega)]
      · rw [if_neg (by omega), zr _ (by omega), lb_0, decide_eq_false (show ¬ e = 0 by omega)]
    · rw [decide_eq_false h3, decide_eq_false (show ¬ e = 0 by omega)]
      rfl
  obtain ⟨kf, M1, hf, v, w⟩ := sg.2 l (fun r e => sB5 (aU g1 0 1) (5 * r) e) (fun r h1 h2 e => row r h1 (by omega) e)
  have hle := FRc.le kf hf
  refine c19l F H K (by omega) (Mf := M1) (fun g2 => ?_) kf 0 400 _ _ (aU g1 0 1) hf (by omega) (by omega) ⟨fun r hr e => rfl, trivial⟩ (fun i hi e => rfl)
  have ev : M1 m l.length = frm g l := by
    rw [v l.length, row m hm0 (Nat.le_refl _), Bool.false_or]
    show g l (fun e => sB5 (aU g1 0 1) (5 * 0) e) l.length = _
    rw [row0]
    rfl
  rw [ev]
  exact k (rI τ1 78 g2) (OC.r (P := fun a _ => a = 78) OC.rf (fun _ => rfl)) rfl rfl⟩
end FCW
