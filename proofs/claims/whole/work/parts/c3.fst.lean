/-! FORMS: what they do, class: sets of places -/
def SRg (g : Nat → Int) (M : MSt) : Prop := (∀ r, r < 417 → ∀ e, M r e = sB5 g (5 * r) e) ∧ True
theorem SRg.cg {g : Nat → Int} {M M1 : MSt} (S : SRg g M) (h : ∀ r, r < 417 → ∀ e, M1 r e = M r e) : SRg g M1 := ⟨fun r hr e => (h r hr e).trans (S.1 r hr e), S.2⟩
section FST
variable {d : Nat} {τ : T2} {Q : RS → T2 → Prop} {g : Nat → Int} {M : MSt} {l : List Int}
theorem rI_r {j : Nat} : tI (rI τ 78 g) 78 j = g j := congrFun (rw2_row (tI τ) 78 g) j
theorem rI_o {a j : Nat} (h : a ≠ 78) : tI (rI τ 78 g) a j = tI τ a j := congrFun (rw2_oth (tI τ) g h) j
theorem rI_u {j : Nat} {x : Int} : uI (rI τ 78 g) 78 j x = rI τ 78 (aU g j x) := by
  have e : up (rw2 (tI τ) 78 g) 78 j x = rw2 (tI τ) 78 (aU g j x) := by
    funext p q
    show (if p = 78 ∧ q = j then x else (if p = 78 then g q else tI τ p q)) = (if p = 78 then aU g j x q else tI τ p q)
    unfold aU
    by_cases h1 : p = 78
    · rw [if_pos h1, if_pos h1]
      by_cases h2 : q = j
      · rw [if_pos ⟨h1, h2⟩, if_pos h2]
      · rw [if_neg (fun z => h2 z.2), if_neg h2]
    · rw [if_neg (fun z => h1 z.1), if_neg h1, if_neg h1]
  show (up (rw2 (tI τ) 78 g) 78 j x, _) = _
  rw [e]
  rfl
theorem rI_of : rI τ 78 (tI τ 78) = τ := by
  have e : rw2 (tI τ) 78 (tI τ 78) = tI τ := by
    funext p q
    show (if p = 78 then tI τ 78 q else tI τ p q) = _
    by_cases h1 : p = 78
    · rw [if_pos h1, h1]
    · rw [if_neg h1]
  show (rw2 (tI τ) 78 (tI τ 78), _) = _
  rw [e]
  rfl
theorem rI_hd (H : HdC τ l) : HdC (rI τ 78 g) l := ⟨by rw [rI_o (by omega)]; exact H.1, H.2.1, fun j hj => by rw [rI_o (by omega)]; exact H.2.2 j hj⟩
theorem rsh (F : FX2 τ) (g : Nat → Int) : tS (rI τ 78 g) 76 = (1, 4, 0) ∧ tP (rI τ 78 g) 76 2 = some 78 ∧ tS (rI τ 78 g) 78 = (2, 3, 2085) := ⟨F.sh rfl (by omega) (by omega), F.p rfl, F.sh rfl (by omega) (by omega)⟩
theorem idx5 {r k : Nat} (hr : r < 417) (hk : k < 5) : wr (wr ((r : Int) * 5) + (k : Int)) = ((5 * r + k : Nat) : Int) := by
  rw [wr_id (x := (r : Int) * 5) (by unfold okI; omega), wr_id (by unfold okI; omega)]
  omega
theorem SRg_v (S : SRg g M) {r x : Nat} (hr : r < 417) (hx : x < 320) : M r x = lb (g (5 * r + x / 64)) (x % 64) := by
  rw [S.1 r hr x]
  unfold sB5
  rw [decide_eq_true hx, Bool.true_and]
/-- has -/
theorem c24 (F : FX2 τ) (S : SRg g M) {r x : Nat} (hr : r < 417) (hx : x ≤ 300) (k : Q (.inl (some (AI (bi (M r x))))) (rI τ 78 g)) : G d 24 0 [vR 76, vI (r : Int), vI (x : Int)] [] (rI τ 78 g) Q := by
  obtain ⟨s1, s2, s3⟩ := rsh F g
  have ei : wr (wr ((r : Int) * 5) + zshr (x : Int) 6) = ((5 * r + x / 64 : Nat) : Int) := by rw [zshr6 (by omega), idx5 hr (by omega)]
  have bt := bit_u (v := g (5 * r + x / 64)) (k := x % 64) (by omega)
  rw [SRg_v S hr (by omega)] at k
  refine t24_0 (q6 := 78) (n8 := 2085) s1 s2 s3 (fun _ _ _ _ => by rw [ei]; clear ei; omega) (fun q => by clear ei; omega) (fun _ q => by clear ei; omega) (fun _ _ q => by clear ei; omega) (fun _ _ _ _ q => ?_) (fun _ _ _ _ q => ?_) (fun _ _ _ q => by clear ei; omega)
  · rw [ei, Int.toNat_natCast, rI_r, zand63 (by clear ei; omega), bt] at q
    rw [show lb (g (5 * r + x / 64)) (x % 64) = false from Bool.eq_false_iff.mpr q] at k
    exact k
  · rw [ei, Int.toNat_natCast, rI_r, zand63 (by clear ei; omega), bt] at q
    rw [q] at k
    exact k
/-- put -/
theorem c25 (F : FX2 τ) (S : SRg g M) {r x : Nat} (hr : r < 417) (hx : x ≤ 300) (k : ∀ g1, SRg g1 (jnM M r (fun e => decide (e = x))) → Q (.inl none) (rI τ 78 g1)) : G d 25 0 [vR 76, vI (r : Int), vI (x : Int)] [] (rI τ 78 g) Q := by
  obtain ⟨s1, s2, s3⟩ := rsh F g
  have ei : wr (wr ((r : Int) * 5) + zshr (x : Int) 6) = ((5 * r + x / 64 : Nat) : Int) := by rw [zshr6 (by omega), idx5 hr (by omega)]
  refine t25_0 (q6 := 78) (n8 := 2085) s1 s2 s3 (fun _ _ _ _ => by rw [ei]; clear ei; omega) (fun q => by clear ei; omega) (fun _ q => by clear ei; omega) (fun _ _ q => by clear ei; omega) (fun _ _ _ q => by clear ei; omega) (fun _ _ _ _ => ?_)
  rw [ei, Int.toNat_natCast, rI_r, zand63 (by clear ei; omega), rI_u]
  clear ei
  refine k _ ⟨fun q hq e => ?_, trivial⟩
  · by_cases h : q = r
    · subst h
      rw [jnM_a, sB5_put (by omega), S.1 q hq e]
    · rw [jnM_o h, S.1 q hq e]
      unfold sB5
      by_cases h3 : e < 320
      · unfold aU
        rw [if_neg (by omega)]
      · rw [decide_eq_false h3, Bool.false_and, Bool.false_and]
/-- join -/
theorem c26 (F : FX2 τ) (S : SRg g M) {a b : Nat} (ha : a < 417) (hb : b < 417) (hab : a ≠ b) (k : ∀ g1, SRg g1 (jnM M b (M a)) → Q (.inl none) (rI τ 78 g1)) : G d 26 0 [vR 76, vI (a : Int), vI (b : Int), none] [] (rI τ 78 g) Q := by
  have lp : ∀ (j i : Nat) (g1 : Nat → Int), i + j = 5 → (∀ x, g1 x = if 5 * b ≤ x ∧ x < 5 * b + i then lor (g x) (g (5 * a + (x - 5 * b))) else g x) → G d 26 25 [vR 76, vI (a : Int), vI (b : Int), vI (i : Int)] [] (rI τ 78 g1) Q := by
    intro j
    induction j with
    | zero =>
      intro i g1 hi hg
      obtain ⟨s1, s2, s3⟩ := rsh F g1
      refine t26_25 (q3 := 78) (n5 := 2085) s1 s2 s3 (fun q => by omega) (fun q => by omega) (fun _ => k g1 ⟨fun q hq e => ?_, trivial⟩) (fun q => by omega)
      · by_cases h : q = b
        · subst h
          rw [jnM_a, S.1 q hq e, S.1 a ha e]
          unfold sB5
          by_cases h3 : e < 320
          · rw [hg (5 * q + e / 64), if_pos (by omega), lb_or, decide_eq_true h3, show 5 * q + e / 64 - 5 * q = e / 64 by omega]
            rfl
          · rw [decide_eq_false h3]
            rfl
        · rw [jnM_o h, S.1 q hq e]
          unfold sB5
          by_cases h3 : e < 320
          · rw [hg (5 * q + e / 64), if_neg (by omega)]
          · rw [decide_eq_false h3]
            rfl
    | succ j ih =>
      intro i g1 hi hg
      obtain ⟨s1, s2, s3⟩ := rsh F g1
      have ea : wr (wr ((a : Int) * 5) + (i : Int)) = ((5 * a + i : Nat) : Int) := idx5 ha (by omega)
      have eb : wr (wr ((b : Int) * 5) + (i : Int)) = ((5 * b + i : Nat) : Int) := idx5 hb (by omega)
      refine t26_25 (q3 := 78) (n5 := 2085) s1 s2 s3 (fun _ => by rw [eb]; clear ea eb; omega) (fun _ => by rw [ea]; clear ea eb; omega) (fun q => by clear ea eb; omega) (fun _ => ?_)
      rw [ea, eb, Int.toNat_natCast, Int.toNat_natCast, rI_r, rI_r, rI_u]
      clear ea eb
      rw [wr_nat (by omega)]
      refine ih (i + 1) _ (by omega) (fun x => ?_)
      unfold aU
      by_cases h : x = 5 * b + i
      · rw [if_pos h, if_pos (by omega), hg (5 * b + i), if_neg (by omega), hg (5 * a + i), if_neg (by omega), h, show 5 * b + i - 5 * b = i by omega]
      · rw [if_neg h, hg x]
        by_cases h2 : 5 * b ≤ x ∧ x < 5 * b + i
        · rw [if_pos h2, if_pos (by omega)]
        · rw [if_neg h2, if_neg (by omega)]
  refine t26_0 (fun q => by omega) (fun _ q => by omega) (fun _ _ q => by omega) (fun _ _ _ _ => ?_) (fun _ _ _ q => by omega)
  exact lp 5 0 g (by omega) (fun x => by rw [if_neg (by omega)])
/-- isEmpty -/
theorem c23 (F : FX2 τ) (S : SRg g M) {r : Nat} (hr : r < 417) (k1 : (∀ e, M r e = false) → Q (.inl (some (AI 1))) (rI τ 78 g)) (k0 : Q (.inl (some (AI 0))) (rI τ 78 g)) : G d 23 0 [vR 76, vI (r : Int), none] [] (rI τ 78 g) Q := by
  obtain ⟨s1, s2, s3⟩ := rsh F g
  have lp : ∀ (j i : Nat), i + j = 5 → (∀ x, x < i → g (5 * r + x) = 0) → G d 23 2 [vR 76, vI (r : Int), vI (i : Int)] [] (rI τ 78 g) Q := by
    intro j
    induction j with
    | zero =>
      intro i hi hz
      refine t23_2 (q5 := 78) (n7 := 2085) s1 s2 s3 (fun q => by omega) (fun _ => k1 (fun e => ?_)) (fun q => by omega) (fun q => by omega) (fun q => by omega) (fun q => by omega)
      rw [S.1 r hr e]
      unfold sB5
      by_cases h3 : e < 320
      · rw [hz (e / 64) (by omega), lb_0, Bool.and_false]
      · rw [decide_eq_false h3]
        rfl
    | succ j ih =>
      intro i hi hz
      have ea : wr (wr ((r : Int) * 5) + (i : Int)) = ((5 * r + i : Nat) : Int) := idx5 hr (by omega)
      refine t23_2 (q5 := 78) (n7 := 2085) s1 s2 s3 (fun _ _ _ => by rw [ea]; clear ea; omega) (fun q => by clear ea; omega) (fun _ q => by clear ea; omega) (fun _ _ q => by clear ea; omega) (fun _ _ _ q => ?_) (fun _ _ _ _ => k0)
      rw [ea, Int.toNat_natCast, rI_r, lcm_0] at q
      clear ea
      rw [wr_nat (by omega)]
      refine ih (i + 1) (by omega) (fun x hx => ?_)
      by_cases h : x = i
      · rw [h]; exact q
      · exact hz x (by omega)
  exact t23_0 (lp 5 0 (by omega) (fun x hx => absurd hx (Nat.not_lt_zero _)))
/-- fill -/
theorem c260 (F : FX2 τ) {a b : Nat} (hab : a ≤ b) (hb : b ≤ 2085) (hd : 1 ≤ d) (k : ∀ g1, (∀ x, g1 x = if a ≤ x ∧ x < b then 0 else g x) → Q (.inl none) (rI τ 78 g1)) : G d 260 0 [vR 78, vI (a : Int), vI (b : Int), vJ 0, none, none] [] (rI τ 78 g) Q := by
  have lp : ∀ (j i : Nat) (g1 : Nat → Int), i + j = b → a ≤ i → (∀ x, g1 x = if a ≤ x ∧ x < i then 0 else g x) → G d 260 10 [vR 78, none, vI (b : Int), vJ 0, none, vI (i : Int)] [] (rI τ 78 g1) Q := by
    intro j
    induction j with
    | zero =>
      intro i g1 hi ha hg
      obtain ⟨s1, s2, s3⟩ := rsh F g1
      have hi : i = b := hi
      refine t260_10 (n2 := 2085) s3 (fun q => by omega) (fun _ => k g1 ?_) (fun q => by omega)
      rw [← hi]; exact hg
    | succ j ih =>
      intro i g1 hi ha hg
      obtain ⟨s1, s2, s3⟩ := rsh F g1
      refine t260_10 (n2 := 2085) s3 (fun _ => by omega) (fun q => by omega) (fun _ => ?_)
      rw [Int.toNat_natCast, rI_u, wr_nat (by omega)]
      refine ih (i + 1) _ (by omega) (by omega) (fun x => ?_)
      unfold aU
      by_cases h : x = i
      · rw [if_pos h, if_pos (by omega)]
      · rw [if_neg h, hg x]
        by_cases h2 : a ≤ x ∧ x < i
        · rw [if_pos h2, if_pos (by omega)]
        · rw [if_neg h2, if_neg (by omega)]
  obtain ⟨s1, s2, s3⟩ := rsh F g
  refine t260_0 (n1 := 2085) hd s3 (t259_0 (fun _ _ _ => t260_7 (r0 := some 78) ?_) (fun _ _ q => by omega) (fun _ q => by omega) (fun q => by omega))
  exact lp (b - a) a g (by omega) (Nat.le_refl _) (fun x => by rw [if_neg (by omega)])
/-- a set that nothing is put into -/
theorem SRg_nil (S : SRg g M) {b : Nat} {Z : BSet} (h : ∀ e, Z e = false) : SRg g (jnM M b Z) := S.cg (fun r _ e => by
  by_cases y : r = b
  · rw [y, jnM_a, h e, Bool.or_false]
  · rw [jnM_o y])
/-- walkWord -/
theorem c22 (F : FX2 τ) (H : HdC τ l) {q nt : Nat} (sq : tS τ q = (2, 1, nt)) (hnt : nt ≤ 1000) (hq : q ≠ 78) {x y : Nat} (hxy : x ≤ y) (hy : y ≤ nt) (S : SRg g M) {a b : Nat} (ha : a < 417) (hb : b < 417) (hab : a ≠ b) (hd : 2 ≤ d) (k : ∀ g1, SRg g1 (jnM M b (wS (sbW (tI τ q) (x : Int) (y : Int)) l (M a))) → Q (.inl none) (rI τ 78 g1)) : G d 22 0 [vR 76, vI (a : Int), vI (b : Int), vR q, vI (x : Int), vI (y : Int), none] [] (rI τ 78 g) Q := by
  have lw : (sbW (tI τ q) (x : Int) (y : Int)).length = y - x := by unfold sbW; simp
  have gw : ∀ i, i < y - x → byt (sbW (tI τ q) (x : Int) (y : Int)) i = tI τ q (x + i) := fun i hi => by
    unfold sbW
    rw [Int.toNat_natCast, Int.toNat_natCast, byt_rng _ hi]
  have h300 := H.2.1
  have wv : ∀ p S, wS (sbW (tI τ q) (x : Int) (y : Int)) l S (p + (y - x)) = (decide (p + (y - x) ≤ l.length ∧ ∀ i, i < y - x → byt l (p + i) = tI τ q (x + i)) && S p) := fun p S => by
    unfold wS
    rw [lw, Nat.add_sub_cancel]
    congr 1
    rw [decide_eq_decide]
    constructor
    · intro z
      exact ⟨z.2.1, fun i hi => by rw [z.2.2 i hi, gw i hi]⟩
    · intro z
      exact ⟨by omega, z.1, fun i hi => by rw [z.2 i hi, gw i hi]⟩
  have wl1 : ∀ S e, e < y - x → wS (sbW (tI τ q) (x : Int) (y : Int)) l S e = false := fun S e he => by
    unfold wS
    rw [decide_eq_false (by rw [lw]; omega)]
    rfl
  have wl2 : ∀ S e, l.length < e → wS (sbW (tI τ q) (x : Int) (y : Int)) l S e = false := fun S e he => by
    unfold wS
    rw [decide_eq_false (by omega)]
    rfl
  generalize sbW (tI τ q) (x : Int) (y : Int) = w at *
  have lp : ∀ (j p : Nat) (g1 : Nat → Int), (p + (y - x) + j = l.length + 1 ∨ (j = 0 ∧ l.length < p + (y - x))) → p ≤ 300 + 1 → SRg g1 (jnM M b (fun e => decide (e < p + (y - x)) && wS w l (M a) e)) → G d 22 12 [vR 76, vI (a : Int), vI (b : Int), vR q, vI (x : Int), vI (y : Int), vI (p : Int)] [] (rI τ 78 g1) Q := by
    intro j
    induction j with
    | zero =>
      intro p g1 hj hp S1
      obtain ⟨s1, s2, s3⟩ := rsh F g1
      have e0 : wr (wr ((p : Int) + (y : Int)) - (x : Int)) = ((p + (y - x) : Nat) : Int) := by
        rw [wr_id (x := (p : Int) + (y : Int)) (by unfold okI; omega), wr_id (by unfold okI; omega)]
        omega
      refine t22_12 (r3 := some q) (by omega) s1 (fun _ => k g1 (S1.cg (fun r hr e => ?_))) (fun z => ?_)
      · by_cases h : r = b
        · rw [h, jnM_a, jnM_a]
          by_cases h2 : e < p + (y - x)
          · rw [decide_eq_true h2, Bool.true_and]
          · rw [wl2 (M a) e (by clear e0; omega), Bool.and_false]
        · rw [jnM_o h, jnM_o h]
      · rw [e0, rI_o (by omega), H.1] at z
        clear e0
        omega
    | succ j ih =>
      intro p g1 hj hp S1
      obtain ⟨s1, s2, s3⟩ := rsh F g1
      have e0 : wr (wr ((p : Int) + (y : Int)) - (x : Int)) = ((p + (y - x) : Nat) : Int) := by
        rw [wr_id (x := (p : Int) + (y : Int)) (by unfold okI; omega), wr_id (by unfold okI; omega)]
        omega
      have hps : p + (y - x) ≤ l.length := by clear e0; omega
      have nx : wr ((p : Int) + 1) = ((p + 1 : Nat) : Int) := wr_nat (by clear e0; omega)
      -- nothing comes at this place
      have no : wS w l (M a) (p + (y - x)) = false → G d 22 12 [vR 76, vI (a : Int), vI (b : Int), vR q, vI (x : Int), vI (y : Int), vI (wr ((p : Int) + 1))] [] (rI τ 78 g1) Q := fun hz => by
        rw [nx]
        clear nx e0
        refine ih (p + 1) g1 (by omega) (by omega) (S1.cg (fun r hr e => ?_))
        by_cases h : r = b
        · rw [h, jnM_a, jnM_a]
          by_cases h2 : e = p + (y - x)
          · rw [h2, hz, Bool.and_false, Bool.and_false]
          · by_cases h3 : e < p + (y - x)
            · rw [decide_eq_true h3, decide_eq_true (show e < p + 1 + (y - x) by omega)]
            · rw [decide_eq_false h3, decide_eq_false (show ¬ e < p + 1 + (y - x) by omega)]
        · rw [jnM_o h, jnM_o h]
      refine t22_12 (r3 := some q) (by clear e0 nx; omega) s1 (fun z => ?_) (fun _ => c24 F S1 ha (by clear e0 nx; omega) ?_)
      · rw [e0, rI_o (by omega), H.1] at z
        clear e0 nx
        omega
      rw [jnM_o hab]
      cases hm : M a p with
      | false =>
        refine t22_34 (r3 := some q) (by clear e0 nx; omega) s1 (fun _ => no ?_) (fun z => absurd rfl z)
        rw [wv p (M a), hm, Bool.and_false]
      | true =>
        refine t22_34 (r3 := some q) (by clear e0 nx; omega) s1 (fun z => absurd z (by decide)) (fun _ => ?_)
        refine c17 (F.r) (rI_hd H) (show tS (rI τ 78 g1) q = _ from sq) hxy hy hnt (by clear e0 nx; omega) (fun z1 z2 => ?_) (fun z => ?_)
        · refine t22_48 (r3 := some q) (by clear e0 nx; omega) s1 (fun z => absurd z (by decide)) (fun _ => ?_)
          rw [e0]
          refine c25 F S1 hb (by clear e0 nx; omega) (fun g2 S2 => t22_64 (r3 := some q) ?_)
          have hz : wS w l (M a) (p + (y - x)) = true := by
            rw [wv p (M a), hm, Bool.and_true, decide_eq_true ⟨z1, fun i hi => by rw [z2 i hi, rI_o hq]⟩]
          rw [nx]
          clear nx e0
          refine ih (p + 1) g2 (by omega) (by omega) (S2.cg (fun r hr e => ?_))
          by_cases h : r = b
          · rw [h, jnM_a, jnM_a, jnM_a]
            by_cases h2 : e = p + (y - x)
            · rw [h2, hz, decide_eq_true (show p + (y - x) < p + 1 + (y - x) by omega), decide_eq_true rfl]
              simp
            · rw [decide_eq_false h2, Bool.or_false]
              by_cases h3 : e < p + (y - x)
              · rw [decide_eq_true h3, decide_eq_true (show e < p + 1 + (y - x) by omega)]
              · rw [decide_eq_false h3, decide_eq_false (show ¬ e < p + 1 + (y - x) by omega)]
          · rw [jnM_o h, jnM_o h, jnM_o h]
        · refine t22_48 (r3 := some q) (by clear e0 nx; omega) s1 (fun _ => no ?_) (fun z => absurd rfl z)
          rw [wv p (M a), decide_eq_false (fun z3 => z ⟨z3.1, fun i hi => by rw [z3.2 i hi, rI_o hq]⟩)]
          rfl
  obtain ⟨s1, s2, s3⟩ := rsh F g
  refine t22_0 (r3 := some q) (by omega) s1 (c23 F S ha (fun he => ?_) ?_)
  · refine t22_5 (r3 := some q) (fun z => absurd z (by decide)) (fun _ => k g (SRg_nil S (fun e => ?_)))
    show wS w l (M a) e = false
    unfold wS
    rw [he, Bool.and_false]
  · refine t22_5 (r3 := some q) (fun _ => ?_) (fun z => absurd rfl z)
    refine lp (l.length + 1 - (y - x)) 0 g (by omega) (by omega) (SRg_nil S (fun e => ?_))
    by_cases h : e < y - x
    · rw [wl1 (M a) e h, Bool.and_false]
    · rw [decide_eq_false (show ¬ e < 0 + (y - x) by omega), Bool.false_and]
end FST
