/-! THE FIRST STATE -/
def c00 : CO := (fun _ => 0, fun _ _ _ => 0, fun _ => none, fun _ => none, fun _ => none, fun _ => [])
def S00 : HSx := (c00, [], [], [], 0, -1, 0)
theorem enc_zz {p : Nat → Bool} (h : ∀ k, p k = false) : ∀ n, enc p n = 0
  | 0 => rfl
  | n + 1 => by
    show enc p n + 2 ^ n * bv (p n) = 0
    rw [enc_zz h n, h n]
    rfl
theorem rdm_z (a k : Nat) : rdm c00 a k = false := by
  unfold rdm
  exact decide_eq_false (fun h => absurd h.1 (Nat.not_lt_zero k))
theorem ok_z {g i k : Nat} (h : ok c00 g i k) : g = 0 ∧ i = 0 ∧ k = 0 := by
  have n0 : ∀ x, cn c00 x = 0 := fun _ => rfl
  unfold ok at h
  rw [n0, n0, n0] at h
  omega
section FI
variable {L : Nat} {f : Nat → Int} {τ : T2}
theorem ci_0 (B : BLDY L f 473 [] τ) : CI τ S00 := by
  have z : ∀ a k, 64 ≤ a → a < 220 → tI τ a k = 0 := fun a k h1 h2 => by
    rcases B.2.1.2.2.2.2.1 a k h1 (by omega) with h | h
    · omega
    · exact h
  have p := B.2.1.2.2.2.2.2.1
  refine ⟨⟨⟨z _ _ (by omega) (by omega), z _ _ (by omega) (by omega), z _ _ (by omega) (by omega)⟩, fun g i k h => ?_, fun a ha => ?_, fun r hr => absurd hr (Nat.not_lt_zero r)⟩, ⟨[], ⟨0, by omega, z _ _ (by omega) (by omega), z _ _ (by omega) (by omega), by simp, fun i e h => by simp at h⟩, trivial⟩, ⟨z _ _ (by omega) (by omega), fun j hj => absurd hj (Nat.not_lt_zero j)⟩, ⟨80, 82, Or.inl ⟨rfl, rfl⟩, p 64 12 80 rfl (by omega) (by simp), p 64 13 82 rfl (by omega) (by simp), z _ _ (by omega) (by omega), fun j hj => absurd hj (Nat.not_lt_zero j)⟩, z _ _ (by omega) (by omega), fun h => absurd h (by decide), z _ _ (by omega) (by omega)⟩
  · obtain ⟨rfl, rfl, rfl⟩ := ok_z h
    exact ⟨Or.inl ⟨rfl, rfl, rfl⟩, z 64 9 (by omega) (by omega)⟩
  · rw [z _ _ (by omega) (by omega)]
    show (0 : Int) = ((enc (rdm c00 a) 20 : Nat) : Int)
    rw [enc_zz (rdm_z a)]
    rfl
theorem mi_0 (B : BLDY L f 473 [] τ) : MI τ S00 := by
  have z : ∀ a k, 64 ≤ a → a < 473 → ¬ (a = 220 ∧ k = 2) → tI τ a k = 0 := fun a k h1 h2 h3 => by
    rcases B.2.1.2.2.2.2.1 a k h1 (by omega) with h | h
    · exact absurd h h3
    · exact h
  have p := B.2.1.2.2.2.2.2.1
  refine ⟨⟨⟨z _ _ (by omega) (by omega) (by omega), z _ _ (by omega) (by omega) (by omega), z _ _ (by omega) (by omega) (by omega)⟩, fun g i k h => ?_, fun a ha => absurd ha (Nat.not_lt_zero a), fun t ht => absurd ht (Nat.not_lt_zero t), fun r hr => absurd hr (Nat.not_lt_zero r)⟩, ⟨[], ⟨fun k => k, fun k hk => ⟨hk, ?_⟩, fun j k _ _ e => e, z _ _ (by omega) (by omega) (by omega), by simp, fun i e h => by simp at h⟩, trivial⟩, ⟨z _ _ (by omega) (by omega) (by omega), fun j hj => absurd hj (Nat.not_lt_zero j)⟩, ⟨z _ _ (by omega) (by omega) (by omega), fun j hj => absurd hj (Nat.not_lt_zero j)⟩, z _ _ (by omega) (by omega) (by omega), B.2.2, z _ _ (by omega) (by omega) (by omega)⟩
  · obtain ⟨rfl, rfl, rfl⟩ := ok_z h
    exact ⟨Or.inl ⟨rfl, rfl, rfl⟩, fun _ => z 220 7 (by omega) (by omega) (by omega)⟩
  · have h9 := (pf_a k hk).1
    rw [Nat.one_mul] at h9
    exact p 224 k (236 + k) h9 (by omega) (by simp)
theorem ws_0 : WS S00 := by
  refine ⟨fun c hc => ?_, by simp [S00], fun x hx => by simp [S00] at hx, by simp [S00], fun _ => rfl⟩
  have e : c = c00 := by simpa [S00] using hc
  subst e
  exact ⟨⟨Nat.zero_le _, Nat.zero_le _, Nat.zero_le _, by decide, by decide⟩, fun r hr => absurd hr (Nat.not_lt_zero r), fun r hr => absurd hr (Nat.not_lt_zero r), fun r hr => absurd hr (Nat.not_lt_zero r), fun r hr => absurd hr (Nat.not_lt_zero r)⟩
theorem wx_0 : WX S00 := by
  intro c hc r hr
  have e : c = c00 := by simpa [S00] using hc
  subst e
  exact absurd hr (Nat.not_lt_zero r)
end FI
/-! WORKINGS stay what they are -/
theorem pNum_b {f : Nat → Int} {n a : Nat} {lo hi fb v : Int} {a1 : Nat} (h : pNum f n a lo hi fb = .inr (v, a1)) : lo ≤ v ∧ v ≤ hi := by
  unfold pNum at h
  split at h
  · split at h
    · rename_i hc
      cases h
      exact hc
    · cases h
  · cases h
theorem pTk_o {f : Nat → Int} {n own : Nat} : ∀ (j a : Nat) (V : List WOP) (a1 : Nat), pTk f n own j a = .inr (V, a1) → ∀ x ∈ V, okW own x
  | 0, a, V, a1, h => by
    simp only [pTk] at h
    split at h <;> cases h
  | j + 1, a, V, a1, h => by
    simp only [pTk] at h
    split at h
    · cases h
    · rename_i p a2 hp
      have b := pNum_b hp
      split at h
      · split at h
        · cases h
        · rename_i v a3 hv
          have b2 := pNum_b hv
          have o1 : okW own (1, v, p) := ⟨by dsimp only; omega, fun _ => by dsimp only; omega, fun e => by dsimp only at e; omega, fun e => by dsimp only at e; omega, fun e => by dsimp only at e; omega⟩
          split at h
          · split at h
            · cases h
            · rename_i l a4 hl
              cases h
              intro x hx
              rcases List.mem_cons.mp hx with e | e
              · rw [e]; exact o1
              · exact pTk_o j _ _ _ hl x e
          · cases h
            intro x hx
            rw [List.mem_singleton.mp hx]; exact o1
      · cases h
theorem skd_7 (f : Nat → Int) (n a : Nat) : skd f n a ≤ 7 := by
  unfold skd
  repeat' split
  all_goals omega
theorem pStp_o {f : Nat → Int} {n own a c : Nat} {V : List WOP} {a1 : Nat} (h : pStp f n own a c = .inr (V, a1)) : ∀ x ∈ V, okW own x := by
  unfold pStp at h
  have k7 := skd_7 f n a
  generalize skd f n a = s at h k7
  split at h
  · cases h
  rename_i h0
  split at h
  · split at h
    · exact pTk_o _ _ _ _ h
    · rename_i h1
      split at h
      · rename_i h4
        cases h
        intro x hx
        rw [List.mem_singleton.mp hx]
        exact ⟨by dsimp only; omega, fun e => by dsimp only at e; omega, fun e => by dsimp only at e; omega, fun e => by dsimp only at e; omega, fun e => by dsimp only at e; omega⟩
      · rename_i h4
        split at h
        · cases h
        · rename_i v a2 hp
          have b := pNum_b hp
          clear hp
          cases h
          intro x hx
          rw [List.mem_singleton.mp hx]
          refine ⟨by dsimp only; omega, fun e => by dsimp only at e; omega, fun e => ?_, fun e => ?_, fun e => ?_⟩
          · have e : s = 2 := by dsimp only at e; omega
            subst e
            have b : (0 : Int) ≤ v ∧ v ≤ (own : Int) - 1 := b
            dsimp only; omega
          · have e : s = 3 := by dsimp only at e; omega
            subst e
            exact b
          · have e : s = 6 ∨ s = 7 := by dsimp only at e; omega
            rcases e with e | e
            · subst e; exact b
            · subst e; exact b
  · cases h
theorem pWl_o {f : Nat → Int} {n own : Nat} : ∀ (j : Nat) (W : List WOP) (a c : Nat) (V : List WOP) (a1 : Nat), (∀ x ∈ W, okW own x) → pWl f n own j W a c = .inr (V, a1) → ∀ x ∈ V, okW own x
  | 0, W, a, c, V, a1, hW, h => by
    simp only [pWl] at h
    cases h
    exact hW
  | j + 1, W, a, c, V, a1, hW, h => by
    simp only [pWl] at h
    split at h
    · split at h
      · cases h
      · rename_i U a2 hU
        refine pWl_o j _ _ _ _ _ (fun x hx => ?_) h
        rcases List.mem_append.mp hx with q | q
        · exact hW x q
        · exact pStp_o hU x q
    · cases h
      exact hW
theorem pWork_o {f : Nat → Int} {n own : Nat} {W : List WOP} (h : pWork f n own = .inr W) : ∀ x ∈ W, okW own x := by
  unfold pWork at h
  split at h
  · cases h
  · rename_i V a hV
    split at h
    · cases h
    · rename_i W2 a1 hW
      split at h
      · cases h
        exact pWl_o _ _ _ _ _ _ (pStp_o hV) hW
      · cases h
def WXc (c : CO) : Prop := ∀ r, r < cn c 0 → ∀ f, cW c r = some f → ∀ A u l, AnL A r → f A u = some l → l.length ≤ 24 ∧ ∀ x ∈ l, x = 63 ∨ (97 ≤ x ∧ x ≤ 122)
section WXS
variable {S : HSx}
theorem wx_ac (h : WX S) {c1 : CO} (h1 : WXc c1) {r : List Int × List Int × Int × Int × Int} : WX (c1, S.1 :: S.2.1.take 99, r) := by
  intro c hc
  rcases List.mem_cons.mp hc with e | e
  · rw [e]; exact h1
  · rcases List.mem_cons.mp e with e | e
    · rw [e]; exact h S.1 (by simp)
    · exact h c (List.mem_cons_of_mem _ (List.mem_of_mem_take e))
theorem WX.c (h : WX S) : WXc S.1 := h S.1 (by simp)
theorem wx_ri (h : WXc S.1) {kd rd : Int} {w : List Int} : WXc (cRi S.1 kd rd w) := by
  intro r hr f hf
  replace hf : (if r = cn S.1 0 then none else cW S.1 r) = some f := hf
  replace hr : r < cn S.1 0 + 1 := hr
  by_cases e : r = cn S.1 0
  · rw [if_pos e] at hf; cases hf
  · rw [if_neg e] at hf
    exact h r (by omega) f hf
theorem wx_wo (h : WXc S.1) {r : Nat} {W : List WOP} (hW : ∀ x ∈ W, okW r x) : WXc (cWo S.1 r (some (wrk W))) := by
  intro r1 hr f hf
  replace hf : (if r1 = r then some (wrk W) else cW S.1 r1) = some f := hf
  by_cases e : r1 = r
  · rw [if_pos e] at hf
    subst e
    obtain rfl := Option.some.inj hf
    intro A u l hA hl
    exact wrL_o hA W [] l ⟨by simp, fun x hx => by simp at hx⟩ hW hl
  · rw [if_neg e] at hf
    exact h r1 hr f hf
theorem wx_working (h : WX S) {x y : Int} : WX (sp_working x y S).2 := by
  unfold sp_working
  split
  · split
    · exact h
    split
    · split
      · exact h
      · rename_i g hg
        exact wx_ac h (wx_wo h.c (pWork_o hg))
    · exact h
  · exact h
theorem wx_riddle (h : WX S) {x y z : Int} : WX (sp_riddle x y z S).2 := by
  unfold sp_riddle
  repeat' split
  all_goals first | exact h | (refine wx_ac h ?_; exact wx_ri h.c)
theorem wx_undo (h : WX S) : WX (sp_undo S).2 := by
  obtain ⟨c, cs, r⟩ := S
  cases cs with
  | nil => exact h
  | cons c1 cs => exact fun x hx => h x (List.mem_cons_of_mem _ hx)
end WXS
section WXT
variable {S : HSx}
theorem wx_feed (h : WX S) {a b c e g : Int} : WX (sp_feed a b c e g S).2 := by
  unfold sp_feed
  repeat' split
  all_goals first | exact h | (refine wx_ac h ?_; exact h.c)
theorem wx_rule (h : WX S) {x y : Int} : WX (sp_rule x y S).2 := by
  unfold sp_rule
  repeat' split
  all_goals first | exact h | (refine wx_ac h ?_; exact h.c)
theorem wx_form (h : WX S) {x y : Int} : WX (sp_form x y S).2 := by
  unfold sp_form
  repeat' split
  all_goals first | exact h | (refine wx_ac h ?_; exact h.c)
theorem wx_patience (h : WX S) {x y z : Int} : WX (sp_patience x y z S).2 := by
  unfold sp_patience
  repeat' split
  all_goals first | exact h | (refine wx_ac h ?_; exact h.c)
theorem wx_hint (h : WX S) {x y z : Int} : WX (sp_hint x y z S).2 := by
  unfold sp_hint
  repeat' split
  all_goals first | exact h | (refine wx_ac h ?_; exact h.c)
theorem wx_fault (h : WX S) : WX (sp_fault  S).2 := by
  unfold sp_fault
  repeat' split
  all_goals first | exact h | (refine wx_ac h ?_; exact h.c)
theorem wx_where (h : WX S) : WX (sp_where  S).2 := by
  unfold sp_where
  repeat' split
  all_goals first | exact h | (refine wx_ac h ?_; exact h.c)
theorem wx_about (h : WX S) {x y : Int} : WX (sp_about x y S).2 := by
  unfold sp_about
  repeat' split
  all_goals first | exact h | (refine wx_ac h ?_; exact h.c)
theorem wx_takes (h : WX S) {x y : Int} : WX (sp_takes x y S).2 := by
  unfold sp_takes
  repeat' split
  all_goals first | exact h | (refine wx_ac h ?_; exact h.c)
theorem wx_steps (h : WX S) {x y : Int} : WX (sp_steps x y S).2 := by
  unfold sp_steps
  repeat' split
  all_goals first | exact h | (refine wx_ac h ?_; exact h.c)
theorem wx_make (h : WX S) {x : Int} : WX (sp_make x S).2 := by
  unfold sp_make sp_without
  repeat' split
  all_goals first | exact h | (refine wx_ac h ?_; exact h.c)
theorem wx_fits (h : WX S) {x : Int} : WX (sp_fits x S).2 := by
  unfold sp_fits
  repeat' split
  all_goals first | exact h | (refine wx_ac h ?_; exact h.c)
theorem wx_without (h : WX S) {x y : Int} : WX (sp_without x y S).2 := by
  unfold sp_without
  repeat' split
  all_goals first | exact h | (refine wx_ac h ?_; exact h.c)
theorem wx_follows (h : WX S) {x y : Int} : WX (sp_follows x y S).2 := by
  unfold sp_follows
  repeat' split
  all_goals first | exact h | (refine wx_ac h ?_; exact h.c)
theorem wx_book (h : WX S) {x : Int} : WX (sp_book x S).2 := by
  unfold sp_book
  repeat' split
  all_goals first | exact h | (refine wx_ac h ?_; exact h.c)
theorem wx_team (h : WX S) : WX (sp_team  S).2 := by
  unfold sp_team
  repeat' split
  all_goals first | exact h | (refine wx_ac h ?_; exact h.c)
theorem wx_pass (h : WX S) {x : Int} : WX (sp_pass x S).2 := by
  unfold sp_pass
  repeat' split
  all_goals first | exact h | (refine wx_ac h ?_; exact h.c)
theorem wx_open (h : WX S) {x y : Int} : WX (sp_open x y S).2 := by
  unfold sp_open
  repeat' split
  all_goals first | exact h | (refine wx_ac h ?_; exact h.c)
theorem wx_guess (h : WX S) {x y z : Int} : WX (sp_guess x y z S).2 := by
  unfold sp_guess
  repeat' split
  all_goals first | exact h | (refine wx_ac h ?_; unfold cGu; split <;> exact h.c)
theorem wx_buy (h : WX S) {x y : Int} : WX (sp_buy x y S).2 := by
  unfold sp_buy
  repeat' split
  all_goals first | exact h | (refine wx_ac h ?_; exact h.c)
theorem wx_teamOf (h : WX S) {x y : Int} : WX (sp_teamOf x y S).2 := by
  unfold sp_teamOf
  repeat' split
  all_goals first | exact h | (refine wx_ac h ?_; exact h.c)
theorem wx_told (h : WX S) {x y z : Int} : WX (sp_told x y z S).2 := by
  unfold sp_told
  repeat' split
  all_goals first | exact h | (refine wx_ac h ?_; exact h.c)
theorem wx_rank (h : WX S) {x y : Int} : WX (sp_rank x y S).2 := by
  unfold sp_rank
  repeat' split
  all_goals first | exact h | (refine wx_ac h ?_; exact h.c)
theorem wx_states (h : WX S) {x : Int} : WX (sp_states x S).2 := by
  unfold sp_states
  repeat' split
  all_goals first | exact h | (refine wx_ac h ?_; exact h.c)
theorem wx_shut (h : WX S) {x : Int} : WX (sp_shut x S).2 := by
  unfold sp_shut
  repeat' split
  all_goals first | exact h | (refine wx_ac h ?_; exact h.c)
theorem wx_shortest (h : WX S) {x : Int} : WX (sp_shortest x S).2 := by
  unfold sp_shortest
  repeat' split
  all_goals first | exact h | (refine wx_ac h ?_; exact h.c)
theorem wx_dead (h : WX S) {x : Int} : WX (sp_dead x S).2 := by
  unfold sp_dead
  repeat' split
  all_goals first | exact h | (refine wx_ac h ?_; exact h.c)
theorem wx_count (h : WX S) {x : Int} : WX (sp_count x S).2 := by
  unfold sp_count
  repeat' split
  all_goals first | exact h | (refine wx_ac h ?_; exact h.c)
theorem wx_trouble (h : WX S) : WX (sp_trouble  S).2 := by
  unfold sp_trouble
  repeat' split
  all_goals first | exact h | (refine wx_ac h ?_; exact h.c)
end WXT
