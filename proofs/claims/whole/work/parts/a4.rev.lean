/-! RULES: what was read, done -/
theorem zan_1 (p q : Nat → Bool) : zand (enc p 20 : Int) (enc q 20 : Int) = ((enc (fun i => p i && q i) 20 : Nat) : Int) := by
  rw [zand_nat (enc_30 p (by omega)) (enc_30 q (by omega))]
  congr 1
  apply enc_eq
  intro i
  rw [Nat.testBit_and, enc_tb, enc_tb]
  cases decide (i < 20) <;> cases p i <;> cases q i <;> rfl
theorem bi_d {p : Prop} [Decidable p] : (p → bi (decide p) = 1) ∧ (¬ p → bi (decide p) = 0) := ⟨fun h => by rw [decide_eq_true h]; rfl, fun h => by rw [decide_eq_false h]; rfl⟩
section REV
variable {d : Nat} {τ : T2} {Q : RS → T2 → Prop}
/-- holds of the class -/
theorem c57 (F : FX2 τ) {qo z : Nat} (so : tS τ qo = (2, 0, z)) (hz : z ≤ 1200) {s : Nat → Bool} {m : Int} {rd : Nat → Nat → Bool} (hr : ∀ a, a < 6 → tI τ 67 a = ((enc (rd a) 20 : Nat) : Int)) {u : Bool} (hd : 2 ≤ d) (h : Q (.inl (some (AI (bi u)))) τ) : ∀ (k a l : Nat) (t : Bool), RcR (tI τ qo) s m rd k a t z u → k ≤ l → l ≤ 400 → G d 57 17 [none, vI ((enc s 20 : Nat) : Int), vI m, vR 67, vR qo, vI (bi t), vI (a : Int), vI (l : Int), none, none, none, none] [] τ Q := by
  intro k
  induction k with
  | zero =>
    intro a l t hk hl h4
    obtain ⟨e1, e2⟩ := hk
    subst e1 e2
    have ew : wr ((a : Int) + 3) = ((a + 3 : Nat) : Int) := by rw [wr_id (by unfold okI; omega)]; omega
    have no : ¬ wr ((a : Int) + 3) ≤ ((a : Nat) : Int) := by rw [ew]; clear ew; omega
    exact t57_17 (r3 := some 67) (n5 := a) (by omega) (fun _ => bi_01 t) (fun _ _ => bi_01 t) so (fun _ _ _ => bi_01 t) (fun _ _ q => absurd q no) (fun _ _ q => absurd q no) (fun _ _ q => absurd q no) (fun _ => h) (fun _ _ => h) (fun _ _ _ => h) (fun _ _ q => absurd q no) (fun _ _ q => absurd q no) (fun _ _ q => absurd q no) (fun _ _ q => absurd q no) (fun _ _ q => absurd q no) (fun _ _ q => absurd q no) (fun _ _ q => absurd q no) (fun _ _ q => absurd q no) (fun _ _ q => absurd q no) (fun _ _ q => absurd q no) (fun _ _ q => absurd q no) (fun _ _ q => absurd q no)
  | succ k ih =>
    intro a l t hk hl h4
    obtain ⟨h1, h2, ⟨h3, h3'⟩, h5⟩ := hk
    have e3 : wr ((a : Int) + 3) = ((a + 3 : Nat) : Int) := by rw [wr_id (by unfold okI; omega)]; omega
    have e1 : wr ((a : Int) + 1) = ((a + 1 : Nat) : Int) := by rw [wr_id (by unfold okI; omega)]; omega
    have e2 : wr ((a : Int) + 2) = ((a + 2 : Nat) : Int) := by rw [wr_id (by unfold okI; omega)]; omega
    have el : wr ((l : Int) + (-1)) = ((l - 1 : Nat) : Int) := by rw [wr_id (by unfold okI; omega)]; omega
    -- on by one instruction, by a jump
    have on : ∀ b : Bool, nxR (tI τ qo) s m rd a t = (a + 3, b) → G d 57 17 [none, vI ((enc s 20 : Nat) : Int), vI m, vR 67, vR qo, vI (bi b), vI (wr ((a : Int) + 3)), vI (wr ((l : Int) + (-1))), none, none, none, none] [] τ Q := fun b e => by
      rw [e] at h5
      rw [e3, el]
      clear e1 e2 e3 el
      exact ih (a + 3) (l - 1) b h5 (by omega) (by omega)
    have jm : nxR (tI τ qo) s m rd a t = ((tI τ qo (a + 1)).toNat, t) → G d 57 17 [none, vI ((enc s 20 : Nat) : Int), vI m, vR 67, vR qo, vI (bi t), vI (tI τ qo (a + 1)), vI (wr ((l : Int) + (-1))), none, none, none, none] [] τ Q := fun e => by
      rw [e] at h5 h2
      have e9 : tI τ qo (a + 1) = (((tI τ qo (a + 1)).toNat : Nat) : Int) := by clear e1 e2 e3 el; omega
      rw [el]
      clear e1 e2 e3 el
      have := ih (tI τ qo (a + 1)).toNat (l - 1) t h5 (by omega) (by omega)
      rw [← e9] at this
      exact this
    have ov : (wr ((a : Int) + 1)).toNat = a + 1 := by rw [e1]; exact Int.toNat_natCast _
    have ow : (wr ((a : Int) + 2)).toNat = a + 2 := by rw [e2]; exact Int.toNat_natCast _
    have le : wr ((a : Int) + 3) ≤ (z : Int) := by rw [e3]; clear e1 e2 e3 el ov ow; omega
    have at0 : ((a : Int)).toNat = a := Int.toNat_natCast _
    have b1 : (0 : Int) ≤ wr ((a : Int) + 1) ∧ wr ((a : Int) + 1) < (z : Int) := by rw [e1]; clear e1 e2 e3 el ov ow le; omega
    have b2 : (0 : Int) ≤ wr ((a : Int) + 2) ∧ wr ((a : Int) + 2) < (z : Int) := by rw [e2]; clear e1 e2 e3 el ov ow le b1; omega
    have l0 : 0 < (l : Int) := by clear e1 e2 e3 el ov ow le b1 b2; omega
    have a0 : (0 : Int) ≤ (a : Int) ∧ (a : Int) < (z : Int) := by clear e1 e2 e3 el ov ow le b1 b2; omega
    clear e1 e2 e3 el
    have nf : ¬ tI τ qo a = 5 → ¬ tI τ qo a = 6 → ¬ tI τ qo a = 7 → nxR (tI τ qo) s m rd a t = (a + 3, fct (tI τ qo a) (tI τ qo (a + 1)) (tI τ qo (a + 2)) s m rd) := fun q1 q2 q3 => by
      unfold nxR
      rw [if_neg q1, if_neg q2, if_neg q3]
    refine t57_17 (r3 := some 67) (n5 := z) (by omega) (fun _ => bi_01 t) (fun _ _ => bi_01 t) so (fun _ _ _ => bi_01 t) (fun _ _ _ => a0) (fun _ _ _ => b1) (fun _ _ _ _ _ _ _ _ _ => b2) (fun q => absurd l0 (Int.not_lt.mpr q)) (fun _ q => absurd q (Int.not_lt.mpr a0.1)) (fun _ _ q => absurd le (Int.not_le.mpr q)) (fun _ _ _ q5 q6 q7 q4 q2 q3 => ?_) (fun _ _ _ q5 q6 q7 q4 q2 q3 => ?_) (fun _ _ _ q5 q6 q7 q4 q2 q => ?_) (fun _ _ _ q5 q6 q7 q4 q2 q => ?_) (fun _ _ _ q5 q6 q7 q4 q => ?_) (fun _ _ _ q5 q6 q7 q4 q => ?_) (fun _ _ _ q5 q6 q7 q => ?_) (fun _ _ _ q5 q6 q7 q => ?_) (fun _ _ _ q5 q6 q => ?_) (fun _ _ _ q5 q6 q => ?_) (fun _ _ _ q5 q => ?_) (fun _ _ _ q5 q => ?_)
    all_goals rw [at0] at q5
    · rw [at0] at q6 q7 q4 q2 q3
      have en := nf q5 q6 q7
      unfold fct at en
      rw [if_neg q2, if_neg q3, if_neg q4] at en
      rw [ov]
      refine c246 (enc_lt s 20) ?_
      rw [bcn_enc]
      refine t57_206 (r3 := some 67) (r4 := some qo) (fun q => ?_) (fun q => ?_)
      · rw [decide_eq_false (Int.not_le.mpr q)] at en; exact on false en
      · rw [decide_eq_true q] at en; exact on true en
    · rw [at0] at q6 q7 q4 q2 q3
      have en := nf q5 q6 q7
      unfold fct at en
      rw [if_neg q2, if_pos q3] at en
      obtain ⟨g0, g6⟩ := h3' q3
      rw [ov, ow]
      refine t58_0 (n2 := 6) (F.sh rfl (by omega) (by omega)) (fun x y => ⟨x, y⟩) (fun x => absurd x (Int.not_lt.mpr g0)) (fun _ x => absurd g6 (Int.not_lt.mpr x)) (fun _ _ => ?_)
      rw [hr _ (by omega)]
      refine t57_194 (r3 := some 67) (r4 := some qo) (by omega) ?_
      rw [zan_1]
      refine c246 (enc_lt _ 20) ?_
      rw [bcn_enc]
      refine t57_206 (r3 := some 67) (r4 := some qo) (fun q => ?_) (fun q => ?_)
      · rw [decide_eq_false (Int.not_le.mpr q)] at en; exact on false en
      · rw [decide_eq_true q] at en; exact on true en
    · rw [at0] at q6 q7 q4 q2
      have en := nf q5 q6 q7
      unfold fct at en
      rw [if_pos q2] at en
      obtain ⟨g0, g6⟩ := h3 q2
      have ez : tI τ qo (a + 1) = (((tI τ qo (a + 1)).toNat : Nat) : Int) := by omega
      rw [ov, ez, bit_enc _ (by omega)] at q
      rw [show s (tI τ qo (a + 1)).toNat = false from Bool.eq_false_iff.mpr (fun y => q (bi_t.mpr y))] at en
      exact on false en
    · rw [at0] at q6 q7 q4 q2
      have en := nf q5 q6 q7
      unfold fct at en
      rw [if_pos q2] at en
      obtain ⟨g0, g6⟩ := h3 q2
      have ez : tI τ qo (a + 1) = (((tI τ qo (a + 1)).toNat : Nat) : Int) := by omega
      rw [ov, ez, bit_enc _ (by omega)] at q
      rw [bi_t.mp q] at en
      exact on true en
    · rw [at0] at q6 q7 q4
      have en := nf q5 q6 q7
      unfold fct at en
      rw [if_neg (by rw [q4]; decide), if_neg (by rw [q4]; decide), if_pos q4] at en
      rw [ov] at q
      rw [decide_eq_false (Int.not_le.mpr q)] at en
      exact on false en
    · rw [at0] at q6 q7 q4
      have en := nf q5 q6 q7
      unfold fct at en
      rw [if_neg (by rw [q4]; decide), if_neg (by rw [q4]; decide), if_pos q4] at en
      rw [ov] at q
      rw [decide_eq_true q] at en
      exact on true en
    · rw [at0] at q6 q7
      have ht := bi_0 q
      rw [ov]
      refine jm ?_
      unfold nxR
      rw [if_neg q5, if_neg q6, if_pos q7, if_neg (by rw [ht]; decide)]
    · rw [at0] at q6 q7
      have ht := bi_1 q
      refine on t ?_
      unfold nxR
      rw [if_neg q5, if_neg q6, if_pos q7, if_pos ht]
    · rw [at0] at q6
      have ht := bi_0 q
      refine on t ?_
      unfold nxR
      rw [if_neg q5, if_pos q6, if_neg (by rw [ht]; decide)]
    · rw [at0] at q6
      have ht := bi_1 q
      rw [ov]
      refine jm ?_
      unfold nxR
      rw [if_neg q5, if_pos q6, if_pos ht]
    · have ht := bi_1 q
      refine on false ?_
      unfold nxR
      rw [if_pos q5, ht]
      rfl
    · have ht := bi_0 q
      refine on true ?_
      unfold nxR
      rw [if_pos q5, ht]
      rfl
theorem ruC_of {q qo z : Nat} {g : RSm} (hq : CoA τ q) (hp : tP τ q 0 = some qo) (h1 : 473 ≤ qo) (h2 : qo < tN τ) (so : tS τ qo = (2, 0, z)) (hz : z ≤ 1200) (sg : SgR (tI τ qo) 0 z g) : RuC τ q g := by
  refine ⟨hq, fun τ1 d Q s m rd hd fr F hr h => ?_⟩
  obtain ⟨a1, a2, a3⟩ := fr.2 q hq.1 hq.2.1
  obtain ⟨b1, b2, b3⟩ := fr.2 qo h1 h2
  obtain ⟨k, hk⟩ := sg.2 s m rd false
  rw [← b2] at hk
  have hl := RcR.le k hk
  refine t57_0 (r3 := some 67) (by rw [a1]; exact hq.2.2) ?_
  rw [a3, hp]
  exact c57 F (by rw [b1]; exact so) hz hr (by omega) h k 0 400 false hk (by omega) (Nat.le_refl _)
/-- holds of the model -/
theorem m188 (F : FX2 τ) {n : Nat} (h4 : tI τ 220 4 = (n : Int)) (hn : n ≤ 20) {s : Nat → Bool} {m : Int} {rd : Nat → Nat → Bool} (hr : ∀ a k, rd a k = decide (k < n ∧ tI τ (336 + 4 * k) 1 = (a : Int))) {w : RWS} {k : Nat} (ok : okM w k) (hk : w.1 k < 4) (hd : 1 ≤ d) (h : Q (.inl (some (AI (bi (if w.1 k = 2 then fct 3 (w.2.2 k) (w.2.1 k) s m rd else fct (w.1 k + 1) (w.2.1 k) 0 s m rd))))) τ) : G d 188 0 [vR 220, vI (w.1 k), vI (w.2.1 k), vI (w.2.2 k), vI ((enc s 20 : Nat) : Int), vI m, none, none] [] τ Q := by
  obtain ⟨o1, o2, o3, o4⟩ := ok
  refine t188_0 hd (fun q0 q1 q3 => ?_) (fun q0 q1 q3 q => ?_) (fun q0 q1 q3 q => ?_) (fun q0 q1 q => ?_) (fun q0 q1 q => ?_) (fun q0 => ?_)
  · have e2 : w.1 k = 2 := by omega
    obtain ⟨g0, g6⟩ := o4 e2
    rw [if_pos e2] at h
    generalize w.2.1 k = gg at *
    generalize w.2.2 k = vv at *
    have eg : gg = ((gg.toNat : Nat) : Int) := by omega
    have lp : ∀ (j i : Nat), i + j = n → G d 188 63 [vR 220, none, vI gg, vI vv, vI ((enc s 20 : Nat) : Int), none, vI ((cnt (fun i => s i && rd gg.toNat i) i : Nat) : Int), vI (i : Int)] [] τ Q := by
      intro j
      induction j with
      | zero =>
        intro i hi
        have ei : i = n := by omega
        have ec : cnt (fun i => s i && rd gg.toNat i) 20 = cnt (fun i => s i && rd gg.toNat i) i := by
          have key : ∀ j, cnt (fun i => s i && rd gg.toNat i) (n + j) = cnt (fun i => s i && rd gg.toNat i) n := by
            intro j
            induction j with
            | zero => rfl
            | succ j ih =>
              rw [← Nat.add_assoc, cnt_f, ih]
              show (s (n + j) && rd gg.toNat (n + j)) = false
              rw [hr, decide_eq_false (by omega)]
              simp
          rw [ei, ← key (20 - n), show n + (20 - n) = 20 by omega]
        unfold fct at h
        rw [if_neg (by decide), if_pos rfl, ec] at h
        refine t188_63 (n7 := 20) (q10 := 336) (s220 F).1 (F.p rfl) (F.sh rfl (by omega) (by omega)) (fun q => by rw [h4] at q; omega) (fun q => by rw [h4] at q; omega) (F.sh rfl (by omega) (by omega)) (fun _ q => ?_) (fun _ q => ?_) (fun q => by rw [h4] at q; omega) (fun q => by rw [h4] at q; omega) (fun q => by rw [h4] at q; omega)
        · rw [decide_eq_false (Int.not_le.mpr q)] at h; exact h
        · rw [decide_eq_true q] at h; exact h
      | succ j ih =>
        intro i hi
        have cb := cnt_le (fun i => s i && rd gg.toNat i) i
        have eb := bit_enc s (show i < 20 by omega)
        have sr := shM i (by omega)
        have nx0 : (s i && rd gg.toNat i) = false → G d 188 63 [vR 220, none, vI gg, vI vv, vI ((enc s 20 : Nat) : Int), none, vI (wr (((cnt (fun i => s i && rd gg.toNat i) i : Nat) : Int) + 0)), vI (wr ((i : Int) + 1))] [] τ Q := fun z => by
          rw [wr_nat (by omega), Int.add_zero, wr_id (by unfold okI; omega), ← cnt_f (p := fun i => s i && rd gg.toNat i) z]
          exact ih (i + 1) (by omega)
        refine t188_63 (n7 := 20) (q10 := 336 + 4 * i) (s220 F).1 (F.p rfl) (F.sh rfl (by omega) (by omega)) (fun _ _ => by clear eb; omega) (fun _ _ => by rw [Int.toNat_natCast]; exact F.p (ptM i (by clear eb; omega)).1) (F.sh sr.1 (by omega) (by clear eb; omega)) (fun q => by rw [h4] at q; clear eb; omega) (fun q => by rw [h4] at q; clear eb; omega) (fun _ q => ?_) (fun _ q q2 => ?_) (fun _ q q2 => ?_)
        · rw [eb] at q
          exact nx0 (by rw [show s i = false from Bool.eq_false_iff.mpr (fun y => q (bi_t.mpr y))]; rfl)
        · refine nx0 ?_
          rw [hr, decide_eq_false (fun y => q2 (by rw [y.2]; exact eg.symm))]
          simp
        · rw [eb] at q
          have hp : (s i && rd gg.toNat i) = true := by
            rw [bi_t.mp q, hr, decide_eq_true ⟨by clear eb; omega, q2.trans eg⟩]
            rfl
          rw [wr_nat (by clear eb; omega), wr_nat (by clear eb; omega), ← cnt_t (p := fun i => s i && rd gg.toNat i) hp]
          exact ih (i + 1) (by clear eb; omega)
    exact lp n 0 (by omega)
  · rw [if_neg (by omega), q3] at h
    unfold fct at h
    rw [if_neg (by decide), if_neg (by decide), if_pos (by decide), decide_eq_false (Int.not_le.mpr q)] at h
    exact h
  · rw [if_neg (by omega), q3] at h
    unfold fct at h
    rw [if_neg (by decide), if_neg (by decide), if_pos (by decide), decide_eq_true q] at h
    exact h
  · rw [if_neg (by omega), q1] at h
    obtain ⟨g0, g6⟩ := o3 q1
    have ez : w.2.1 k = (((w.2.1 k).toNat : Nat) : Int) := by omega
    rw [ez, bit_enc _ (by omega)] at q
    unfold fct at h
    rw [if_pos (by decide), show s (w.2.1 k).toNat = false from Bool.eq_false_iff.mpr (fun y => q (bi_t.mpr y))] at h
    exact h
  · rw [if_neg (by omega), q1] at h
    obtain ⟨g0, g6⟩ := o3 q1
    have ez : w.2.1 k = (((w.2.1 k).toNat : Nat) : Int) := by omega
    rw [ez, bit_enc _ (by omega)] at q
    unfold fct at h
    rw [if_pos (by decide), bi_t.mp q] at h
    exact h
  · rw [if_neg (by omega), q0] at h
    unfold fct at h
    rw [if_neg (by decide), if_neg (by decide), if_neg (by decide)] at h
    refine m168 (t188_9 (fun q => ?_) (fun q => ?_))
    · rw [decide_eq_false (Int.not_le.mpr q)] at h; exact h
    · rw [decide_eq_true q] at h; exact h
/-- the pile: the latest first -/
def PLe (τ : T2) : List Bool → Prop
  | [] => True
  | b :: r => tI τ 227 r.length = bi b ∧ PLe τ r
theorem PLe.u {τ : T2} {x : Int} : ∀ (l : List Bool) {i : Nat}, PLe τ l → l.length ≤ i → PLe (uI τ 227 i x) l
  | [], _, _, _ => trivial
  | b :: r, i, h, hi => ⟨by
    simp only [List.length_cons] at hi
    rw [tI_uI, if_neg (by omega)]; exact h.1, PLe.u r h.2 (by simp only [List.length_cons] at hi; omega)⟩
theorem stR_4 {w : RWS} {s : Nat → Bool} {m : Int} {rd : Nat → Nat → Bool} {k : Nat} (e : w.1 k = 4) : stR w s m rd k [] = none ∧ ∀ b r, stR w s m rd k (b :: r) = some ((!b) :: r) := by
  refine ⟨?_, fun b r => ?_⟩
  · unfold stR; rw [if_pos e]
  · unfold stR; rw [if_pos e]
theorem stR_5 {w : RWS} {s : Nat → Bool} {m : Int} {rd : Nat → Nat → Bool} {k : Nat} (e : w.1 k = 5) : stR w s m rd k [] = none ∧ (∀ b, stR w s m rd k [b] = none) ∧ ∀ b c r, stR w s m rd k (b :: c :: r) = some ((c && b) :: r) := by
  refine ⟨?_, fun b => ?_, fun b c r => ?_⟩
  · unfold stR; rw [if_neg (by omega), if_pos e]
  · unfold stR; rw [if_neg (by omega), if_pos e]
  · unfold stR; rw [if_neg (by omega), if_pos e]
theorem stR_6 {w : RWS} {s : Nat → Bool} {m : Int} {rd : Nat → Nat → Bool} {k : Nat} (e : w.1 k = 6) : stR w s m rd k [] = none ∧ (∀ b, stR w s m rd k [b] = none) ∧ ∀ b c r, stR w s m rd k (b :: c :: r) = some ((c || b) :: r) := by
  refine ⟨?_, fun b => ?_, fun b c r => ?_⟩
  · unfold stR; rw [if_neg (by omega), if_neg (by omega), if_pos e]
  · unfold stR; rw [if_neg (by omega), if_neg (by omega), if_pos e]
  · unfold stR; rw [if_neg (by omega), if_neg (by omega), if_pos e]
theorem ruM_of {q mn : Nat} {g : RSm} (ro : RO τ q mn) (hm : mn ≤ 199) (pf : PfM (rws τ q) 0 mn g) : RuM τ q g := by
  intro τ1 d Q s m n rd hd fr F h4 hn hr k
  obtain ⟨r1, r2, r3, ⟨r4, r5, r6⟩, ⟨r7, r8, r9⟩, r10⟩ := ro
  have N1 := F.1
  have fN := fr.1
  -- the rule's cells
  have cel : ∀ a, q ≤ a → a ≤ q + 3 → tS τ1 a = tS τ a ∧ tI τ1 a = tI τ a ∧ tP τ1 a = tP τ a := fun a h1 h2 => fr.2 a (by omega) (by omega)
  obtain ⟨-, okk, hst⟩ := pf
  have hst := hst s m rd []
  rw [Nat.sub_zero] at hst
  generalize hw : rws τ q = w at *
  have w1 : ∀ i, tI τ (q + 1) i = w.1 i := fun i => by rw [← hw]; rfl
  have w2 : ∀ i, tI τ (q + 2) i = w.2.1 i := fun i => by rw [← hw]; rfl
  have w3 : ∀ i, tI τ (q + 3) i = w.2.2 i := fun i => by rw [← hw]; rfl
  have lp : ∀ (j i : Nat) (l : List Bool) (τ2 : T2), i + j = mn → stN w s m rd j i l = some [g s m rd] → l.length ≤ i → PLe τ2 l → OC (fun a _ => a = 227) τ1 τ2 → FX2 τ2 → tN τ2 = tN τ1 → tZ τ2 = tZ τ1 → G d 187 24 [vR 220, none, vI ((enc s 20 : Nat) : Int), vI m, vR q, vI (l.length : Int), vI (i : Int)] [] τ2 Q := by
    intro j
    induction j with
    | zero =>
      intro i l τ2 hi hs hl hp o F2 n2 z2
      have el : l = [g s m rd] := Option.some.inj hs
      subst el
      have sm : ∀ a b, a < tN τ1 → a ≠ 227 → tI τ2 a b = tI τ1 a b ∧ tP τ2 a b = tP τ1 a b := fun a b h1 h2 => o.2.2.2 a b h1 h2
      have e10 : tI τ2 q 3 = (mn : Int) := by rw [(sm q 3 (by omega) (by omega)).1, (cel q (by omega) (by omega)).2.1]; exact r10
      have e0 : tI τ2 227 0 = bi (g s m rd) := hp.1
      refine t187_24 (q4 := 227) (n6 := 200) (q10 := q + 1) (n12 := 200) ?_ (s220 F2).1 (F2.p rfl) (F2.sh rfl (by omega) (by omega)) (by omega) (fun _ => by rw [e0]; exact bi_01 _) ?_ ?_ (fun z => by rw [e10] at z; omega) (fun _ => ?_) (fun z => by rw [e10] at z; omega)
      · rw [o.2.2.1 q (by omega), (cel q (by omega) (by omega)).1]; exact r3
      · rw [(sm q 0 (by omega) (by omega)).2, (cel q (by omega) (by omega)).2.2]; exact r4
      · rw [o.2.2.1 (q + 1) (by omega), (cel (q + 1) (by omega) (by omega)).1]; exact r7
      · rw [e0]; exact k τ2 o n2 z2
    | succ j ih =>
      intro i l τ2 hi hs hl hp o F2 n2 z2
      have N2 := F2.1
      have sm : ∀ a b, a < tN τ1 → a ≠ 227 → tI τ2 a b = tI τ1 a b ∧ tP τ2 a b = tP τ1 a b := fun a b h1 h2 => o.2.2.2 a b h1 h2
      have e10 : tI τ2 q 3 = (mn : Int) := by rw [(sm q 3 (by omega) (by omega)).1, (cel q (by omega) (by omega)).2.1]; exact r10
      have sq : tS τ2 q = (1, 17, 0) := by rw [o.2.2.1 q (by omega), (cel q (by omega) (by omega)).1]; exact r3
      have s1 : tS τ2 (q + 1) = (2, 0, 200) := by rw [o.2.2.1 (q + 1) (by omega), (cel (q + 1) (by omega) (by omega)).1]; exact r7
      have s2 : tS τ2 (q + 2) = (2, 0, 200) := by rw [o.2.2.1 (q + 2) (by omega), (cel (q + 2) (by omega) (by omega)).1]; exact r8
      have s3 : tS τ2 (q + 3) = (2, 0, 200) := by rw [o.2.2.1 (q + 3) (by omega), (cel (q + 3) (by omega) (by omega)).1]; exact r9
      have p0 : tP τ2 q 0 = some (q + 1) := by rw [(sm q 0 (by omega) (by omega)).2, (cel q (by omega) (by omega)).2.2]; exact r4
      have p1 : tP τ2 q 1 = some (q + 2) := by rw [(sm q 1 (by omega) (by omega)).2, (cel q (by omega) (by omega)).2.2]; exact r5
      have p2 : tP τ2 q 2 = some (q + 3) := by rw [(sm q 2 (by omega) (by omega)).2, (cel q (by omega) (by omega)).2.2]; exact r6
      have v1 : tI τ2 (q + 1) i = w.1 i := by rw [(sm (q + 1) i (by omega) (by omega)).1, (cel (q + 1) (by omega) (by omega)).2.1]; exact w1 i
      have v2 : tI τ2 (q + 2) i = w.2.1 i := by rw [(sm (q + 2) i (by omega) (by omega)).1, (cel (q + 2) (by omega) (by omega)).2.1]; exact w2 i
      have v3 : tI τ2 (q + 3) i = w.2.2 i := by rw [(sm (q + 3) i (by omega) (by omega)).1, (cel (q + 3) (by omega) (by omega)).2.1]; exact w3 i
      have s27 : tS τ2 227 = (2, 2, 200) := F2.sh rfl (by omega) (by omega)
      have p25 : tP τ2 220 25 = some 227 := F2.p rfl
      have s0 := (s220 F2).1
      refine t187_24 (q4 := 227) (n6 := 200) (q10 := q + 1) (n12 := 200) sq s0 p25 s27 (by omega) (fun z => by rw [e10] at z; omega) p0 s1 (fun _ => by omega) (fun z => by rw [e10] at z; omega) (fun _ => ?_)
      rw [Int.toNat_natCast, v1]
      have okk1 := okk i (by omega) (by omega)
      simp only [stN] at hs
      have go : ∀ (l1 : List Bool) (τ3 : T2), stR w s m rd i l = some l1 → l1.length ≤ i + 1 → PLe τ3 l1 → OC (fun a _ => a = 227) τ2 τ3 → FX2 τ3 → tN τ3 = tN τ2 → tZ τ3 = tZ τ2 → G d 187 24 [vR 220, none, vI ((enc s 20 : Nat) : Int), vI m, vR q, vI (l1.length : Int), vI (wr ((i : Int) + 1))] [] τ3 Q := fun l1 τ3 he h1 h2 o3 F3 n3 z3 => by
        rw [he] at hs
        rw [wr_nat (by omega)]
        exact ih (i + 1) l1 τ3 (by omega) hs h1 h2 (o.tr o3) F3 (n3.trans n2) (z3.trans z2)
      refine t187_42 (r4 := some q) (fun e => ?_) (fun e => ?_) (fun e => ?_) (fun e => ?_)
      · have hs4 := stR_4 (s := s) (m := m) (rd := rd) e
        match l, hl, hp, hs, go with
        | [], _, _, hs, _ => rw [hs4.1] at hs; cases hs
        | b :: r, hl, hp, hs, go =>
          have hst := hs4.2 b r
          simp only [List.length_cons] at hl go ⊢
          have eb : wr (((r.length + 1 : Nat) : Int) - 1) = ((r.length : Nat) : Int) := by rw [wr_id (by unfold okI; omega)]; omega
          have vb : tI τ2 227 r.length = bi b := hp.1
          refine t187_68 (r4 := some q) (q2 := 227) (n4 := 200) s0 p25 s27 (by rw [eb]; clear eb; omega) (fun z => ?_) (fun z => ?_)
          · rw [eb, Int.toNat_natCast, vb] at z
            rw [eb, Int.toNat_natCast]
            refine go ((!b) :: r) _ hst (by simp only [List.length_cons]; clear eb; omega) ⟨?_, PLe.u r hp.2 (Nat.le_refl _)⟩ (OC.ad OC.rf) F2.j rfl rfl
            rw [tI_uI, if_pos ⟨rfl, rfl⟩, bi_1 z]; rfl
          · rw [eb, Int.toNat_natCast, vb] at z
            rw [eb, Int.toNat_natCast]
            refine go ((!b) :: r) _ hst (by simp only [List.length_cons]; clear eb; omega) ⟨?_, PLe.u r hp.2 (Nat.le_refl _)⟩ (OC.ad OC.rf) F2.j rfl rfl
            rw [tI_uI, if_pos ⟨rfl, rfl⟩, bi_0 z]; rfl
      · have hs4 := stR_5 (s := s) (m := m) (rd := rd) e
        match l, hl, hp, hs, go with
        | [], _, _, hs, _ => rw [hs4.1] at hs; cases hs
        | [b], _, _, hs, _ => rw [hs4.2.1 b] at hs; cases hs
        | b :: c :: r, hl, hp, hs, go =>
          have hst := hs4.2.2 b c r
          simp only [List.length_cons] at hl go ⊢
          have ea : wr (((r.length + 1 + 1 : Nat) : Int) + (-1)) = ((r.length + 1 : Nat) : Int) := by rw [wr_id (by unfold okI; omega)]; omega
          have eb : wr (((r.length + 1 : Nat) : Int) - 1) = ((r.length : Nat) : Int) := by rw [wr_id (by unfold okI; omega)]; omega
          have vb : tI τ2 227 (r.length + 1) = bi b := hp.1
          have vc : tI τ2 227 r.length = bi c := hp.2.1
          have fin : ∀ x : Int, x = bi (c && b) → G d 187 24 [vR 220, none, vI ((enc s 20 : Nat) : Int), vI m, vR q, vI (wr (((r.length + 1 + 1 : Nat) : Int) + (-1))), vI (wr ((i : Int) + 1))] [] (uI τ2 227 r.length x) Q := fun x hx => by
            rw [ea]
            refine go ((c && b) :: r) _ hst (by simp only [List.length_cons]; clear ea eb; omega) ⟨?_, PLe.u r hp.2.2 (Nat.le_refl _)⟩ (OC.ad OC.rf) F2.j rfl rfl
            rw [tI_uI, if_pos ⟨rfl, rfl⟩, hx]
          refine t187_97 (r4 := some q) (q2 := 227) (n4 := 200) s0 p25 s27 (by rw [ea, eb]; clear ea eb; omega) (fun _ => by rw [ea]; clear ea eb; omega) (fun z => ?_) (fun z y => ?_) (fun z y => ?_)
          · rw [ea, eb, Int.toNat_natCast, vc] at z
            rw [ea, eb, Int.toNat_natCast, ← ea]
            exact fin 0 (by rw [bi_0 z]; rfl)
          · rw [ea, Int.toNat_natCast, vb] at y
            rw [ea, eb, Int.toNat_natCast, ← ea]
            exact fin 0 (by rw [bi_0 y]; simp [bi])
          · rw [ea, Int.toNat_natCast, vb] at y
            rw [ea, eb, Int.toNat_natCast, vc] at z
            rw [ea, eb, Int.toNat_natCast, ← ea]
            exact fin 1 (by rw [bi_1 y, bi_1 z]; rfl)
      · have hs4 := stR_6 (s := s) (m := m) (rd := rd) e
        match l, hl, hp, hs, go with
        | [], _, _, hs, _ => rw [hs4.1] at hs; cases hs
        | [b], _, _, hs, _ => rw [hs4.2.1 b] at hs; cases hs
        | b :: c :: r, hl, hp, hs, go =>
          have hst := hs4.2.2 b c r
          simp only [List.length_cons] at hl go ⊢
          have ea : wr (((r.length + 1 + 1 : Nat) : Int) + (-1)) = ((r.length + 1 : Nat) : Int) := by rw [wr_id (by unfold okI; omega)]; omega
          have eb : wr (((r.length + 1 : Nat) : Int) - 1) = ((r.length : Nat) : Int) := by rw [wr_id (by unfold okI; omega)]; omega
          have vb : tI τ2 227 (r.length + 1) = bi b := hp.1
          have vc : tI τ2 227 r.length = bi c := hp.2.1
          have fin : ∀ x : Int, x = bi (c || b) → G d 187 24 [vR 220, none, vI ((enc s 20 : Nat) : Int), vI m, vR q, vI (wr (((r.length + 1 + 1 : Nat) : Int) + (-1))), vI (wr ((i : Int) + 1))] [] (uI τ2 227 r.length x) Q := fun x hx => by
            rw [ea]
            refine go ((c || b) :: r) _ hst (by simp only [List.length_cons]; clear ea eb; omega) ⟨?_, PLe.u r hp.2.2 (Nat.le_refl _)⟩ (OC.ad OC.rf) F2.j rfl rfl
            rw [tI_uI, if_pos ⟨rfl, rfl⟩, hx]
          refine t187_139 (r4 := some q) (q2 := 227) (n4 := 200) s0 p25 s27 (by rw [ea, eb]; clear ea eb; omega) (fun _ => by rw [ea]; clear ea eb; omega) (fun z => ?_) (fun z y => ?_) (fun z y => ?_)
          · rw [ea, eb, Int.toNat_natCast, vc] at z
            rw [ea, eb, Int.toNat_natCast, ← ea]
            exact fin 1 (by rw [bi_1 z]; rfl)
          · rw [ea, Int.toNat_natCast, vb] at y
            rw [ea, eb, Int.toNat_natCast, vc] at z
            rw [ea, eb, Int.toNat_natCast, ← ea]
            exact fin 0 (by rw [bi_0 y, bi_0 z]; rfl)
          · rw [ea, Int.toNat_natCast, vb] at y
            rw [ea, eb, Int.toNat_natCast, ← ea]
            exact fin 1 (by rw [bi_1 y]; simp [bi])
      · have h4k : w.1 i < 4 := by have := okk1.2.1; omega
        have hst : stR w s m rd i l = some ((if w.1 i = 2 then fct 3 (w.2.2 i) (w.2.1 i) s m rd else fct (w.1 i + 1) (w.2.1 i) 0 s m rd) :: l) := by
          unfold stR
          rw [if_neg (by omega), if_neg (by omega), if_neg (by omega)]
        refine t187_181 (q3 := q + 1) (n5 := 200) (q8 := q + 2) (n10 := 200) (q13 := q + 3) (n15 := 200) (by omega) s0 sq p0 s1 (by omega) p1 s2 (by omega) p2 s3 (by omega) ?_
        rw [Int.toNat_natCast, v1, v2, v3, p25]
        refine m188 (rd := rd) F2 (by rw [(sm 220 4 (by omega) (by omega)).1]; exact h4) hn (fun a b => ?_) okk1 h4k (by omega) ?_
        · rw [hr a b]
          by_cases hb : b < n
          · rw [(sm (336 + 4 * b) 1 (by omega) (by omega)).1]
          · rw [decide_eq_false (fun z => hb z.1), decide_eq_false (fun z => hb z.1)]
        · generalize (if w.1 i = 2 then fct 3 (w.2.2 i) (w.2.1 i) s m rd else fct (w.1 i + 1) (w.2.1 i) 0 s m rd) = b at *
          refine t187_217 (r4 := some q) (s2 := 227) (n1 := 200) s27 (by omega) (bi_01 b) ?_
          rw [Int.toNat_natCast, wr_nat (by omega)]
          refine go (b :: l) _ hst (by simp only [List.length_cons]; omega) ⟨?_, PLe.u l hp (Nat.le_refl _)⟩ (OC.ad OC.rf) F2.j rfl rfl
          rw [tI_uI, if_pos ⟨rfl, rfl⟩]
  exact t187_18 (r4 := some q) (lp mn 0 [] τ1 (by omega) hst (by simp) trivial OC.rf F rfl rfl)
end REV
