/-! THE LAW'S LOOP -/
def SCR (L : Nat) (f : Nat → Int) (τ : T2) : Prop := tS τ 0 = (2, 100, L) ∧ tI τ 0 = f ∧ tS τ 1 = (3, 101, 0)
/-- so many calls are done -/
def LI (L : Nat) (f : Nat → Int) (τ : T2) (S : HSx) (i : Nat) : Prop := FX2 τ ∧ CI τ S ∧ MI τ S ∧ WS S ∧ WX S ∧ SCR L f τ ∧ tN τ ≤ 473 + 1173 * i ∧ tZ τ ≤ 19162 + 14206 * i
/-- the class has answered, the model hasn't -/
def LH (L : Nat) (f : Nat → Int) (τ : T2) (S S1 : HSx) (i : Nat) : Prop := FX2 τ ∧ CI τ S1 ∧ MI τ S ∧ WS S ∧ WX S ∧ SCR L f τ ∧ tN τ ≤ 473 + 1173 * i + 3 ∧ tZ τ ≤ 19162 + 14206 * i + 1502
theorem ad_le {a b c p q r m : Nat} (h1 : a ≤ b + p) (h2 : b ≤ c + m + q) (h3 : q + p = r) : a ≤ c + (m + r) := by omega
section LO
variable {L i : Nat} {f : Nat → Int} {τ τ1 : T2} {S S1 : HSx} {Q : RS → T2 → Prop} {X : Int}
theorem SCR.kp {lo hi : Nat} (h : SCR L f τ) (o : Kp lo hi τ τ1) (hl : 64 ≤ lo) (hN : 473 ≤ tN τ) : SCR L f τ1 := by
  obtain ⟨h1, h2, h3⟩ := h
  exact ⟨(o.2.2.1 0 (by omega)).trans h1, (o.2.2.2 0 (by omega) (by omega)).1.trans h2, (o.2.2.1 1 (by omega)).trans h3⟩
theorem LI.c (h : LI L f τ S i) (e : EC τ τ1 S1) : LH L f τ1 S S1 i := by
  obtain ⟨F, C, M, w, x, s, n, z⟩ := h
  obtain ⟨e1, e2, e3, e4, e5⟩ := e
  exact ⟨e2, e5, M.kp w F e1, w, x, s.kp e1 (by omega) F.1, by omega, by omega⟩
theorem LH.m (h : LH L f τ S S1 i) (e : EM τ τ1 S1) (w1 : WS S1) (x1 : WX S1) : LI L f τ1 S1 (i + 1) := by
  obtain ⟨F, C, M, w, x, s, n, z⟩ := h
  obtain ⟨e1, e2, e3, e4, e5⟩ := e
  refine ⟨e2, C.kp w1 F e1, e5, w1, x1, s.kp e1 (by omega) F.1, ?_, ?_⟩
  · rw [Nat.mul_succ]
    exact ad_le e3 n rfl
  · rw [Nat.mul_succ]
    exact ad_le e4 z rfl
def HB (L : Nat) (X : Int) : Prop := ∀ k : Int, 1 ≤ k → k ≤ 5 → 0 ≤ wr (X + k) ∧ wr (X + k) < (L : Int)
def NX (L : Nat) (f : Nat → Int) (i : Nat) (X : Int) (Q : RS → T2 → Prop) : Prop := ∀ τ2 S2, LI L f τ2 S2 (i + 1) → G 2048 268 23 [vR 0, vR 64, vR 220, vR 472, vI (wr (X + 6)), none, none] [] τ2 Q
theorem st_feed (hb : HB L X) (I : LI L f τ S i) (nx : NX L f i X Q) : G 2048 268 188 [vR 0, vR 64, vR 220, vR 472, vI X, none, none] [] τ Q := by
  have I0 := I
  obtain ⟨F, C, M, w, x, s, -, -⟩ := I0
  refine t268_188 (r2 := some 220) (r3 := some 472) (by decide) s.1 (hb 1 (by decide) (by decide)) (hb 2 (by decide) (by decide)) (hb 3 (by decide) (by decide)) (hb 4 (by decide) (by decide)) (hb 5 (by decide) (by decide)) (F.sh rfl (by decide) (by decide)) ?_
  rw [s.2.1]
  refine cc92 _ _ S _ (by decide) F C w fun τ1 e => ?_
  have H := I.c e
  show G 2048 268 222 [vR 0, vR 64, vR 220, vR 472, vI X, none, none] [AI (sp_feed (f (wr (X + 1)).toNat) (f (wr (X + 2)).toNat) (f (wr (X + 3)).toNat) (f (wr (X + 4)).toNat) (f (wr (X + 5)).toNat) S).1] τ1 Q
  have H0 := H
  clear I F C M s e
  obtain ⟨F, C, M, w, x, s, -, -⟩ := H0
  refine t268_222 (r1 := some 64) (r3 := some 472) (by decide) s.1 (hb 1 (by decide) (by decide)) (hb 2 (by decide) (by decide)) (hb 3 (by decide) (by decide)) (hb 4 (by decide) (by decide)) (hb 5 (by decide) (by decide)) (F.sh rfl (by decide) (by decide)) ?_
  rw [s.2.1]
  refine mc205 _ _ S _ (by decide) F M w fun τ2 e2 => ?_
  show G 2048 268 256 [vR 0, vR 64, vR 220, vR 472, vI X, none, none] [AI (sp_feed (f (wr (X + 1)).toNat) (f (wr (X + 2)).toNat) (f (wr (X + 3)).toNat) (f (wr (X + 4)).toNat) (f (wr (X + 5)).toNat) S).1, AI (sp_feed (f (wr (X + 1)).toNat) (f (wr (X + 2)).toNat) (f (wr (X + 3)).toNat) (f (wr (X + 4)).toNat) (f (wr (X + 5)).toNat) S).1] τ2 Q
  exact t268_256 (r0 := some 0) (r1 := some 64) (r2 := some 220) (r3 := some 472) (fun _ => nx _ _ (H.m e2 (ws_feed w) (wx_feed x))) (fun c => absurd rfl c)
theorem st_riddle (hb : HB L X) (I : LI L f τ S i) (nx : NX L f i X Q) : G 2048 268 261 [vR 0, vR 64, vR 220, vR 472, vI X, none, none] [] τ Q := by
  have I0 := I
  obtain ⟨F, C, M, w, x, s, -, -⟩ := I0
  refine t268_261 (r2 := some 220) (r3 := some 472) (by decide) s.1 (hb 1 (by decide) (by decide)) (hb 2 (by decide) (by decide)) (hb 3 (by decide) (by decide)) (F.sh rfl (by decide) (by decide)) ?_
  rw [s.2.1]
  refine cc93 _ _ S _ (by decide) F C w fun τ1 e => ?_
  have H := I.c e
  show G 2048 268 283 [vR 0, vR 64, vR 220, vR 472, vI X, none, none] [AI (sp_riddle (f (wr (X + 1)).toNat) (f (wr (X + 2)).toNat) (f (wr (X + 3)).toNat) S).1] τ1 Q
  have H0 := H
  clear I F C M s e
  obtain ⟨F, C, M, w, x, s, -, -⟩ := H0
  refine t268_283 (r1 := some 64) (r3 := some 472) (by decide) s.1 (hb 1 (by decide) (by decide)) (hb 2 (by decide) (by decide)) (hb 3 (by decide) (by decide)) (F.sh rfl (by decide) (by decide)) ?_
  rw [s.2.1]
  refine mc210 _ _ S _ (by decide) F M w fun τ2 e2 => ?_
  show G 2048 268 305 [vR 0, vR 64, vR 220, vR 472, vI X, none, none] [AI (sp_riddle (f (wr (X + 1)).toNat) (f (wr (X + 2)).toNat) (f (wr (X + 3)).toNat) S).1, AI (sp_riddle (f (wr (X + 1)).toNat) (f (wr (X + 2)).toNat) (f (wr (X + 3)).toNat) S).1] τ2 Q
  exact t268_305 (r0 := some 0) (r1 := some 64) (r2 := some 220) (r3 := some 472) (fun _ => nx _ _ (H.m e2 (ws_rid w) (wx_riddle x))) (fun c => absurd rfl c)
theorem st_rule (hb : HB L X) (I : LI L f τ S i) (nx : NX L f i X Q) : G 2048 268 310 [vR 0, vR 64, vR 220, vR 472, vI X, none, none] [] τ Q := by
  have I0 := I
  obtain ⟨F, C, M, w, x, s, -, -⟩ := I0
  refine t268_310 (r2 := some 220) (r3 := some 472) (by decide) s.1 (hb 1 (by decide) (by decide)) (hb 2 (by decide) (by decide)) (F.sh rfl (by decide) (by decide)) ?_
  rw [s.2.1]
  refine cc94 _ _ S _ (by decide) F C w fun τ1 e => ?_
  have H := I.c e
  show G 2048 268 326 [vR 0, vR 64, vR 220, vR 472, vI X, none, none] [AI (sp_rule (f (wr (X + 1)).toNat) (f (wr (X + 2)).toNat) S).1] τ1 Q
  have H0 := H
  clear I F C M s e
  obtain ⟨F, C, M, w, x, s, -, -⟩ := H0
  refine t268_326 (r1 := some 64) (r3 := some 472) (by decide) s.1 (hb 1 (by decide) (by decide)) (hb 2 (by decide) (by decide)) (F.sh rfl (by decide) (by decide)) ?_
  rw [s.2.1]
  refine mc212 _ _ S _ (by decide) F M w fun τ2 e2 => ?_
  show G 2048 268 342 [vR 0, vR 64, vR 220, vR 472, vI X, none, none] [AI (sp_rule (f (wr (X + 1)).toNat) (f (wr (X + 2)).toNat) S).1, AI (sp_rule (f (wr (X + 1)).toNat) (f (wr (X + 2)).toNat) S).1] τ2 Q
  exact t268_342 (r0 := some 0) (r1 := some 64) (r2 := some 220) (r3 := some 472) (fun _ => nx _ _ (H.m e2 (ws_rule w) (wx_rule x))) (fun c => absurd rfl c)
theorem st_form (hb : HB L X) (I : LI L f τ S i) (nx : NX L f i X Q) : G 2048 268 347 [vR 0, vR 64, vR 220, vR 472, vI X, none, none] [] τ Q := by
  have I0 := I
  obtain ⟨F, C, M, w, x, s, -, -⟩ := I0
  refine t268_347 (r2 := some 220) (r3 := some 472) (by decide) s.1 (hb 1 (by decide) (by decide)) (hb 2 (by decide) (by decide)) (F.sh rfl (by decide) (by decide)) ?_
  rw [s.2.1]
  refine cc95 _ _ S _ (by decide) F C w fun τ1 e => ?_
  have H := I.c e
  show G 2048 268 363 [vR 0, vR 64, vR 220, vR 472, vI X, none, none] [AI (sp_form (f (wr (X + 1)).toNat) (f (wr (X + 2)).toNat) S).1] τ1 Q
  have H0 := H
  clear I F C M s e
  obtain ⟨F, C, M, w, x, s, -, -⟩ := H0
  refine t268_363 (r1 := some 64) (r3 := some 472) (by decide) s.1 (hb 1 (by decide) (by decide)) (hb 2 (by decide) (by decide)) (F.sh rfl (by decide) (by decide)) ?_
  rw [s.2.1]
  refine mc213 _ _ S _ (by decide) F M w s.2.2 fun τ2 e2 => ?_
  show G 2048 268 379 [vR 0, vR 64, vR 220, vR 472, vI X, none, none] [AI (sp_form (f (wr (X + 1)).toNat) (f (wr (X + 2)).toNat) S).1, AI (sp_form (f (wr (X + 1)).toNat) (f (wr (X + 2)).toNat) S).1] τ2 Q
  exact t268_379 (r0 := some 0) (r1 := some 64) (r2 := some 220) (r3 := some 472) (fun _ => nx _ _ (H.m e2 (ws_form w) (wx_form x))) (fun c => absurd rfl c)
theorem st_working (hb : HB L X) (I : LI L f τ S i) (nx : NX L f i X Q) : G 2048 268 384 [vR 0, vR 64, vR 220, vR 472, vI X, none, none] [] τ Q := by
  have I0 := I
  obtain ⟨F, C, M, w, x, s, -, -⟩ := I0
  refine t268_384 (r2 := some 220) (r3 := some 472) (by decide) s.1 (hb 1 (by decide) (by decide)) (hb 2 (by decide) (by decide)) (F.sh rfl (by decide) (by decide)) ?_
  rw [s.2.1]
  refine cc96 _ _ S _ (by decide) F C w fun τ1 e => ?_
  have H := I.c e
  show G 2048 268 400 [vR 0, vR 64, vR 220, vR 472, vI X, none, none] [AI (sp_working (f (wr (X + 1)).toNat) (f (wr (X + 2)).toNat) S).1] τ1 Q
  have H0 := H
  clear I F C M s e
  obtain ⟨F, C, M, w, x, s, -, -⟩ := H0
  refine t268_400 (r1 := some 64) (r3 := some 472) (by decide) s.1 (hb 1 (by decide) (by decide)) (hb 2 (by decide) (by decide)) (F.sh rfl (by decide) (by decide)) ?_
  rw [s.2.1]
  refine mc214 _ _ S _ (by decide) F M w fun τ2 e2 => ?_
  show G 2048 268 416 [vR 0, vR 64, vR 220, vR 472, vI X, none, none] [AI (sp_working (f (wr (X + 1)).toNat) (f (wr (X + 2)).toNat) S).1, AI (sp_working (f (wr (X + 1)).toNat) (f (wr (X + 2)).toNat) S).1] τ2 Q
  exact t268_416 (r0 := some 0) (r1 := some 64) (r2 := some 220) (r3 := some 472) (fun _ => nx _ _ (H.m e2 (ws_working w) (wx_working x))) (fun c => absurd rfl c)
theorem st_patience (hb : HB L X) (I : LI L f τ S i) (nx : NX L f i X Q) : G 2048 268 421 [vR 0, vR 64, vR 220, vR 472, vI X, none, none] [] τ Q := by
  have I0 := I
  obtain ⟨F, C, M, w, x, s, -, -⟩ := I0
  refine t268_421 (r2 := some 220) (r3 := some 472) (by decide) s.1 (hb 1 (by decide) (by decide)) (hb 2 (by decide) (by decide)) (hb 3 (by decide) (by decide)) (F.sh rfl (by decide) (by decide)) ?_
  rw [s.2.1]
  refine cc97 _ _ S _ (by decide) F C w fun τ1 e => ?_
  have H := I.c e
  show G 2048 268 443 [vR 0, vR 64, vR 220, vR 472, vI X, none, none] [AI (sp_patience (f (wr (X + 1)).toNat) (f (wr (X + 2)).toNat) (f (wr (X + 3)).toNat) S).1] τ1 Q
  have H0 := H
  clear I F C M s e
  obtain ⟨F, C, M, w, x, s, -, -⟩ := H0
  refine t268_443 (r1 := some 64) (r3 := some 472) (by decide) s.1 (hb 1 (by decide) (by decide)) (hb 2 (by decide) (by decide)) (hb 3 (by decide) (by decide)) (F.sh rfl (by decide) (by decide)) ?_
  rw [s.2.1]
  refine mc215 _ _ S _ (by decide) F M w fun τ2 e2 => ?_
  show G 2048 268 465 [vR 0, vR 64, vR 220, vR 472, vI X, none, none] [AI (sp_patience (f (wr (X + 1)).toNat) (f (wr (X + 2)).toNat) (f (wr (X + 3)).toNat) S).1, AI (sp_patience (f (wr (X + 1)).toNat) (f (wr (X + 2)).toNat) (f (wr (X + 3)).toNat) S).1] τ2 Q
  exact t268_465 (r0 := some 0) (r1 := some 64) (r2 := some 220) (r3 := some 472) (fun _ => nx _ _ (H.m e2 (ws_pat w) (wx_patience x))) (fun c => absurd rfl c)
theorem st_hint (hb : HB L X) (I : LI L f τ S i) (nx : NX L f i X Q) : G 2048 268 470 [vR 0, vR 64, vR 220, vR 472, vI X, none, none] [] τ Q := by
  have I0 := I
  obtain ⟨F, C, M, w, x, s, -, -⟩ := I0
  refine t268_470 (r2 := some 220) (r3 := some 472) (by decide) s.1 (hb 1 (by decide) (by decide)) (hb 2 (by decide) (by decide)) (hb 3 (by decide) (by decide)) (F.sh rfl (by decide) (by decide)) ?_
  rw [s.2.1]
  refine cc98 _ _ S _ (by decide) F C w fun τ1 e => ?_
  have H := I.c e
  show G 2048 268 492 [vR 0, vR 64, vR 220, vR 472, vI X, none, none] [AI (sp_hint (f (wr (X + 1)).toNat) (f (wr (X + 2)).toNat) (f (wr (X + 3)).toNat) S).1] τ1 Q
  have H0 := H
  clear I F C M s e
  obtain ⟨F, C, M, w, x, s, -, -⟩ := H0
  refine t268_492 (r1 := some 64) (r3 := some 472) (by decide) s.1 (hb 1 (by decide) (by decide)) (hb 2 (by decide) (by decide)) (hb 3 (by decide) (by decide)) (F.sh rfl (by decide) (by decide)) ?_
  rw [s.2.1]
  refine mc216 _ _ S _ (by decide) F M w fun τ2 e2 => ?_
  show G 2048 268 514 [vR 0, vR 64, vR 220, vR 472, vI X, none, none] [AI (sp_hint (f (wr (X + 1)).toNat) (f (wr (X + 2)).toNat) (f (wr (X + 3)).toNat) S).1, AI (sp_hint (f (wr (X + 1)).toNat) (f (wr (X + 2)).toNat) (f (wr (X + 3)).toNat) S).1] τ2 Q
  exact t268_514 (r0 := some 0) (r1 := some 64) (r2 := some 220) (r3 := some 472) (fun _ => nx _ _ (H.m e2 (ws_hin w) (wx_hint x))) (fun c => absurd rfl c)
theorem st_fault (hb : HB L X) (I : LI L f τ S i) (nx : NX L f i X Q) : G 2048 268 519 [vR 0, vR 64, vR 220, vR 472, vI X, none, none] [] τ Q := by
  have I0 := I
  obtain ⟨F, C, M, w, x, s, -, -⟩ := I0
  refine t268_519 (r0 := some 0) (r2 := some 220) (r3 := some 472) (by decide) (F.sh rfl (by decide) (by decide)) ?_
  refine cc99 _ _ S _ (by decide) F C w fun τ1 e => ?_
  have H := I.c e
  show G 2048 268 523 [vR 0, vR 64, vR 220, vR 472, vI X, none, none] [AI (sp_fault S).1] τ1 Q
  have H0 := H
  clear I F C M s e
  obtain ⟨F, C, M, w, x, s, -, -⟩ := H0
  refine t268_523 (r0 := some 0) (r1 := some 64) (r3 := some 472) (by decide) (F.sh rfl (by decide) (by decide)) ?_
  refine mc217 _ _ S _ (by decide) F M w fun τ2 e2 => ?_
  show G 2048 268 527 [vR 0, vR 64, vR 220, vR 472, vI X, none, none] [AI (sp_fault S).1, AI (sp_fault S).1] τ2 Q
  exact t268_527 (r0 := some 0) (r1 := some 64) (r2 := some 220) (r3 := some 472) (fun _ => nx _ _ (H.m e2 (w) (wx_fault x))) (fun c => absurd rfl c)
theorem st_where (hb : HB L X) (I : LI L f τ S i) (nx : NX L f i X Q) : G 2048 268 532 [vR 0, vR 64, vR 220, vR 472, vI X, none, none] [] τ Q := by
  have I0 := I
  obtain ⟨F, C, M, w, x, s, -, -⟩ := I0
  refine t268_532 (r0 := some 0) (r2 := some 220) (r3 := some 472) (by decide) (F.sh rfl (by decide) (by decide)) ?_
  refine cc100 _ _ S _ (by decide) F C w fun τ1 e => ?_
  have H := I.c e
  show G 2048 268 536 [vR 0, vR 64, vR 220, vR 472, vI X, none, none] [AI (sp_where S).1] τ1 Q
  have H0 := H
  clear I F C M s e
  obtain ⟨F, C, M, w, x, s, -, -⟩ := H0
  refine t268_536 (r0 := some 0) (r1 := some 64) (r3 := some 472) (by decide) (F.sh rfl (by decide) (by decide)) ?_
  refine mc218 _ _ S _ (by decide) F M w fun τ2 e2 => ?_
  show G 2048 268 540 [vR 0, vR 64, vR 220, vR 472, vI X, none, none] [AI (sp_where S).1, AI (sp_where S).1] τ2 Q
  exact t268_540 (r0 := some 0) (r1 := some 64) (r2 := some 220) (r3 := some 472) (fun _ => nx _ _ (H.m e2 (w) (wx_where x))) (fun c => absurd rfl c)
theorem st_about (hb : HB L X) (I : LI L f τ S i) (nx : NX L f i X Q) : G 2048 268 545 [vR 0, vR 64, vR 220, vR 472, vI X, none, none] [] τ Q := by
  have I0 := I
  obtain ⟨F, C, M, w, x, s, -, -⟩ := I0
  refine t268_545 (r2 := some 220) (r3 := some 472) (by decide) s.1 (hb 1 (by decide) (by decide)) (hb 2 (by decide) (by decide)) (F.sh rfl (by decide) (by decide)) ?_
  rw [s.2.1]
  refine cc101 _ _ S _ (by decide) F C w fun τ1 e => ?_
  have H := I.c e
  show G 2048 268 561 [vR 0, vR 64, vR 220, vR 472, vI X, none, none] [AI (sp_about (f (wr (X + 1)).toNat) (f (wr (X + 2)).toNat) S).1] τ1 Q
  have H0 := H
  clear I F C M s e
  obtain ⟨F, C, M, w, x, s, -, -⟩ := H0
  refine t268_561 (r1 := some 64) (r3 := some 472) (by decide) s.1 (hb 1 (by decide) (by decide)) (hb 2 (by decide) (by decide)) (F.sh rfl (by decide) (by decide)) ?_
  rw [s.2.1]
  refine mc219 _ _ S _ (by decide) F M w fun τ2 e2 => ?_
  show G 2048 268 577 [vR 0, vR 64, vR 220, vR 472, vI X, none, none] [AI (sp_about (f (wr (X + 1)).toNat) (f (wr (X + 2)).toNat) S).1, AI (sp_about (f (wr (X + 1)).toNat) (f (wr (X + 2)).toNat) S).1] τ2 Q
  exact t268_577 (r0 := some 0) (r1 := some 64) (r2 := some 220) (r3 := some 472) (fun _ => nx _ _ (H.m e2 (w) (wx_about x))) (fun c => absurd rfl c)
theorem st_takes (hb : HB L X) (I : LI L f τ S i) (nx : NX L f i X Q) : G 2048 268 582 [vR 0, vR 64, vR 220, vR 472, vI X, none, none] [] τ Q := by
  have I0 := I
  obtain ⟨F, C, M, w, x, s, -, -⟩ := I0
  refine t268_582 (r2 := some 220) (r3 := some 472) (by decide) s.1 (hb 1 (by decide) (by decide)) (hb 2 (by decide) (by decide)) (F.sh rfl (by decide) (by decide)) ?_
  rw [s.2.1]
  refine cc102 _ _ S _ (by decide) F C w fun τ1 e => ?_
  have H := I.c e
  show G 2048 268 598 [vR 0, vR 64, vR 220, vR 472, vI X, none, none] [AI (sp_takes (f (wr (X + 1)).toNat) (f (wr (X + 2)).toNat) S).1] τ1 Q
  have H0 := H
  clear I F C M s e
  obtain ⟨F, C, M, w, x, s, -, -⟩ := H0
  refine t268_598 (r1 := some 64) (r3 := some 472) (by decide) s.1 (hb 1 (by decide) (by decide)) (hb 2 (by decide) (by decide)) (F.sh rfl (by decide) (by decide)) ?_
  rw [s.2.1]
  refine mc220 _ _ S _ (by decide) F M w fun τ2 e2 => ?_
  show G 2048 268 614 [vR 0, vR 64, vR 220, vR 472, vI X, none, none] [AI (sp_takes (f (wr (X + 1)).toNat) (f (wr (X + 2)).toNat) S).1, AI (sp_takes (f (wr (X + 1)).toNat) (f (wr (X + 2)).toNat) S).1] τ2 Q
  exact t268_614 (r0 := some 0) (r1 := some 64) (r2 := some 220) (r3 := some 472) (fun _ => nx _ _ (H.m e2 (ws_takes w) (wx_takes x))) (fun c => absurd rfl c)
theorem st_steps (hb : HB L X) (I : LI L f τ S i) (nx : NX L f i X Q) : G 2048 268 619 [vR 0, vR 64, vR 220, vR 472, vI X, none, none] [] τ Q := by
  have I0 := I
  obtain ⟨F, C, M, w, x, s, -, -⟩ := I0
  refine t268_619 (r2 := some 220) (r3 := some 472) (by decide) s.1 (hb 1 (by decide) (by decide)) (hb 2 (by decide) (by decide)) (F.sh rfl (by decide) (by decide)) ?_
  rw [s.2.1]
  refine cc103 _ _ S _ (by decide) F C w fun τ1 e => ?_
  have H := I.c e
  show G 2048 268 635 [vR 0, vR 64, vR 220, vR 472, vI X, none, none] [AI (sp_steps (f (wr (X + 1)).toNat) (f (wr (X + 2)).toNat) S).1] τ1 Q
  have H0 := H
  clear I F C M s e
  obtain ⟨F, C, M, w, x, s, -, -⟩ := H0
  refine t268_635 (r1 := some 64) (r3 := some 472) (by decide) s.1 (hb 1 (by decide) (by decide)) (hb 2 (by decide) (by decide)) (F.sh rfl (by decide) (by decide)) ?_
  rw [s.2.1]
  refine mc221 _ _ S _ (by decide) F M w fun τ2 e2 => ?_
  show G 2048 268 651 [vR 0, vR 64, vR 220, vR 472, vI X, none, none] [AI (sp_steps (f (wr (X + 1)).toNat) (f (wr (X + 2)).toNat) S).1, AI (sp_steps (f (wr (X + 1)).toNat) (f (wr (X + 2)).toNat) S).1] τ2 Q
  exact t268_651 (r0 := some 0) (r1 := some 64) (r2 := some 220) (r3 := some 472) (fun _ => nx _ _ (H.m e2 (ws_steps w) (wx_steps x))) (fun c => absurd rfl c)
theorem st_make (hb : HB L X) (I : LI L f τ S i) (nx : NX L f i X Q) : G 2048 268 656 [vR 0, vR 64, vR 220, vR 472, vI X, none, none] [] τ Q := by
  have I0 := I
  obtain ⟨F, C, M, w, x, s, -, -⟩ := I0
  refine t268_656 (r2 := some 220) (r3 := some 472) (by decide) s.1 (hb 1 (by decide) (by decide)) (F.sh rfl (by decide) (by decide)) ?_
  rw [s.2.1]
  refine cc104 _ _ S _ (by decide) F C w fun τ1 e => ?_
  have H := I.c e
  show G 2048 268 666 [vR 0, vR 64, vR 220, vR 472, vI X, none, none] [AI (sp_make (f (wr (X + 1)).toNat) S).1] τ1 Q
  have H0 := H
  clear I F C M s e
  obtain ⟨F, C, M, w, x, s, -, -⟩ := H0
  refine t268_666 (r1 := some 64) (r3 := some 472) (by decide) s.1 (hb 1 (by decide) (by decide)) (F.sh rfl (by decide) (by decide)) ?_
  rw [s.2.1]
  refine mc223 _ _ S _ (by decide) F M w x fun τ2 e2 => ?_
  show G 2048 268 676 [vR 0, vR 64, vR 220, vR 472, vI X, none, none] [AI (sp_make (f (wr (X + 1)).toNat) S).1, AI (sp_make (f (wr (X + 1)).toNat) S).1] τ2 Q
  exact t268_676 (r0 := some 0) (r1 := some 64) (r2 := some 220) (r3 := some 472) (fun _ => nx _ _ (H.m e2 (ws_without w x) (wx_make x))) (fun c => absurd rfl c)
theorem st_fits (hb : HB L X) (I : LI L f τ S i) (nx : NX L f i X Q) : G 2048 268 681 [vR 0, vR 64, vR 220, vR 472, vI X, none, none] [] τ Q := by
  have I0 := I
  obtain ⟨F, C, M, w, x, s, -, -⟩ := I0
  refine t268_681 (r2 := some 220) (r3 := some 472) (by decide) s.1 (hb 1 (by decide) (by decide)) (F.sh rfl (by decide) (by decide)) ?_
  rw [s.2.1]
  refine cc105 _ _ S _ (by decide) F C w fun τ1 e => ?_
  have H := I.c e
  show G 2048 268 691 [vR 0, vR 64, vR 220, vR 472, vI X, none, none] [AI (sp_fits (f (wr (X + 1)).toNat) S).1] τ1 Q
  have H0 := H
  clear I F C M s e
  obtain ⟨F, C, M, w, x, s, -, -⟩ := H0
  refine t268_691 (r1 := some 64) (r3 := some 472) (by decide) s.1 (hb 1 (by decide) (by decide)) (F.sh rfl (by decide) (by decide)) ?_
  rw [s.2.1]
  refine mc224 _ _ S _ (by decide) F M w fun τ2 e2 => ?_
  show G 2048 268 701 [vR 0, vR 64, vR 220, vR 472, vI X, none, none] [AI (sp_fits (f (wr (X + 1)).toNat) S).1, AI (sp_fits (f (wr (X + 1)).toNat) S).1] τ2 Q
  exact t268_701 (r0 := some 0) (r1 := some 64) (r2 := some 220) (r3 := some 472) (fun _ => nx _ _ (H.m e2 (ws_fits w) (wx_fits x))) (fun c => absurd rfl c)
theorem st_without (hf : ∀ j, okI (f j)) (hb : HB L X) (I : LI L f τ S i) (nx : NX L f i X Q) : G 2048 268 706 [vR 0, vR 64, vR 220, vR 472, vI X, none, none] [] τ Q := by
  have I0 := I
  obtain ⟨F, C, M, w, x, s, -, -⟩ := I0
  refine t268_706 (r2 := some 220) (r3 := some 472) (by decide) s.1 (hb 1 (by decide) (by decide)) (hb 2 (by decide) (by decide)) (F.sh rfl (by decide) (by decide)) ?_
  rw [s.2.1]
  refine cc106 (hf _) _ _ S _ (by decide) F C w fun τ1 e => ?_
  have H := I.c e
  show G 2048 268 722 [vR 0, vR 64, vR 220, vR 472, vI X, none, none] [AI (sp_without (f (wr (X + 1)).toNat) (f (wr (X + 2)).toNat) S).1] τ1 Q
  have H0 := H
  clear I F C M s e
  obtain ⟨F, C, M, w, x, s, -, -⟩ := H0
  refine t268_722 (r1 := some 64) (r3 := some 472) (by decide) s.1 (hb 1 (by decide) (by decide)) (hb 2 (by decide) (by decide)) (F.sh rfl (by decide) (by decide)) ?_
  rw [s.2.1]
  refine mc222 (hf _) _ _ S _ (by decide) F M w x fun τ2 e2 => ?_
  show G 2048 268 738 [vR 0, vR 64, vR 220, vR 472, vI X, none, none] [AI (sp_without (f (wr (X + 1)).toNat) (f (wr (X + 2)).toNat) S).1, AI (sp_without (f (wr (X + 1)).toNat) (f (wr (X + 2)).toNat) S).1] τ2 Q
  exact t268_738 (r0 := some 0) (r1 := some 64) (r2 := some 220) (r3 := some 472) (fun _ => nx _ _ (H.m e2 (ws_without w x) (wx_without x))) (fun c => absurd rfl c)
theorem st_follows (hf : ∀ j, okI (f j)) (hb : HB L X) (I : LI L f τ S i) (nx : NX L f i X Q) : G 2048 268 743 [vR 0, vR 64, vR 220, vR 472, vI X, none, none] [] τ Q := by
  have I0 := I
  obtain ⟨F, C, M, w, x, s, -, -⟩ := I0
  refine t268_743 (r2 := some 220) (r3 := some 472) (by decide) s.1 (hb 1 (by decide) (by decide)) (hb 2 (by decide) (by decide)) (F.sh rfl (by decide) (by decide)) ?_
  rw [s.2.1]
  refine cc107 (hf _) _ _ S _ (by decide) F C w fun τ1 e => ?_
  have H := I.c e
  show G 2048 268 759 [vR 0, vR 64, vR 220, vR 472, vI X, none, none] [AI (sp_follows (f (wr (X + 1)).toNat) (f (wr (X + 2)).toNat) S).1] τ1 Q
  have H0 := H
  clear I F C M s e
  obtain ⟨F, C, M, w, x, s, -, -⟩ := H0
  refine t268_759 (r1 := some 64) (r3 := some 472) (by decide) s.1 (hb 1 (by decide) (by decide)) (hb 2 (by decide) (by decide)) (F.sh rfl (by decide) (by decide)) ?_
  rw [s.2.1]
  refine mc225 (hf _) _ _ S _ (by decide) F M w x fun τ2 e2 => ?_
  show G 2048 268 775 [vR 0, vR 64, vR 220, vR 472, vI X, none, none] [AI (sp_follows (f (wr (X + 1)).toNat) (f (wr (X + 2)).toNat) S).1, AI (sp_follows (f (wr (X + 1)).toNat) (f (wr (X + 2)).toNat) S).1] τ2 Q
  exact t268_775 (r0 := some 0) (r1 := some 64) (r2 := some 220) (r3 := some 472) (fun _ => nx _ _ (H.m e2 (ws_follows w) (wx_follows x))) (fun c => absurd rfl c)
theorem st_book (hb : HB L X) (I : LI L f τ S i) (nx : NX L f i X Q) : G 2048 268 836 [vR 0, vR 64, vR 220, vR 472, vI X, none, none] [] τ Q := by
  have I0 := I
  obtain ⟨F, C, M, w, x, s, -, -⟩ := I0
  refine t268_836 (r2 := some 220) (r3 := some 472) (by decide) s.1 (hb 1 (by decide) (by decide)) (F.sh rfl (by decide) (by decide)) ?_
  rw [s.2.1]
  refine cc109 _ _ S _ (by decide) F C w fun τ1 e => ?_
  have H := I.c e
  show G 2048 268 846 [vR 0, vR 64, vR 220, vR 472, vI X, none, none] [AI (sp_book (f (wr (X + 1)).toNat) S).1] τ1 Q
  have H0 := H
  clear I F C M s e
  obtain ⟨F, C, M, w, x, s, -, -⟩ := H0
  refine t268_846 (r1 := some 64) (r3 := some 472) (by decide) s.1 (hb 1 (by decide) (by decide)) (F.sh rfl (by decide) (by decide)) ?_
  rw [s.2.1]
  refine mc227 _ _ S _ (by decide) F M w fun τ2 e2 => ?_
  show G 2048 268 856 [vR 0, vR 64, vR 220, vR 472, vI X, none, none] [AI (sp_book (f (wr (X + 1)).toNat) S).1, AI (sp_book (f (wr (X + 1)).toNat) S).1] τ2 Q
  exact t268_856 (r0 := some 0) (r1 := some 64) (r2 := some 220) (r3 := some 472) (fun _ => nx _ _ (H.m e2 (ws_boo w) (wx_book x))) (fun c => absurd rfl c)
theorem st_team (hb : HB L X) (I : LI L f τ S i) (nx : NX L f i X Q) : G 2048 268 861 [vR 0, vR 64, vR 220, vR 472, vI X, none, none] [] τ Q := by
  have I0 := I
  obtain ⟨F, C, M, w, x, s, -, -⟩ := I0
  refine t268_861 (r0 := some 0) (r2 := some 220) (r3 := some 472) (by decide) (F.sh rfl (by decide) (by decide)) ?_
  refine cc110 _ _ S _ (by decide) F C w fun τ1 e => ?_
  have H := I.c e
  show G 2048 268 865 [vR 0, vR 64, vR 220, vR 472, vI X, none, none] [AI (sp_team S).1] τ1 Q
  have H0 := H
  clear I F C M s e
  obtain ⟨F, C, M, w, x, s, -, -⟩ := H0
  refine t268_865 (r0 := some 0) (r1 := some 64) (r3 := some 472) (by decide) (F.sh rfl (by decide) (by decide)) ?_
  refine mc228 _ _ S _ (by decide) F M w fun τ2 e2 => ?_
  show G 2048 268 869 [vR 0, vR 64, vR 220, vR 472, vI X, none, none] [AI (sp_team S).1, AI (sp_team S).1] τ2 Q
  exact t268_869 (r0 := some 0) (r1 := some 64) (r2 := some 220) (r3 := some 472) (fun _ => nx _ _ (H.m e2 (ws_tea w) (wx_team x))) (fun c => absurd rfl c)
theorem st_pass (hb : HB L X) (I : LI L f τ S i) (nx : NX L f i X Q) : G 2048 268 874 [vR 0, vR 64, vR 220, vR 472, vI X, none, none] [] τ Q := by
  have I0 := I
  obtain ⟨F, C, M, w, x, s, -, -⟩ := I0
  refine t268_874 (r2 := some 220) (r3 := some 472) (by decide) s.1 (hb 1 (by decide) (by decide)) (F.sh rfl (by decide) (by decide)) ?_
  rw [s.2.1]
  refine cc111 _ _ S _ (by decide) F C w fun τ1 e => ?_
  have H := I.c e
  show G 2048 268 884 [vR 0, vR 64, vR 220, vR 472, vI X, none, none] [AI (sp_pass (f (wr (X + 1)).toNat) S).1] τ1 Q
  have H0 := H
  clear I F C M s e
  obtain ⟨F, C, M, w, x, s, -, -⟩ := H0
  refine t268_884 (r1 := some 64) (r3 := some 472) (by decide) s.1 (hb 1 (by decide) (by decide)) (F.sh rfl (by decide) (by decide)) ?_
  rw [s.2.1]
  refine mc229 _ _ S _ (by decide) F M w fun τ2 e2 => ?_
  show G 2048 268 894 [vR 0, vR 64, vR 220, vR 472, vI X, none, none] [AI (sp_pass (f (wr (X + 1)).toNat) S).1, AI (sp_pass (f (wr (X + 1)).toNat) S).1] τ2 Q
  exact t268_894 (r0 := some 0) (r1 := some 64) (r2 := some 220) (r3 := some 472) (fun _ => nx _ _ (H.m e2 (ws_pass w) (wx_pass x))) (fun c => absurd rfl c)
theorem st_open (hb : HB L X) (I : LI L f τ S i) (nx : NX L f i X Q) : G 2048 268 899 [vR 0, vR 64, vR 220, vR 472, vI X, none, none] [] τ Q := by
  have I0 := I
  obtain ⟨F, C, M, w, x, s, -, -⟩ := I0
  refine t268_899 (r2 := some 220) (r3 := some 472) (by decide) s.1 (hb 1 (by decide) (by decide)) (hb 2 (by decide) (by decide)) (F.sh rfl (by decide) (by decide)) ?_
  rw [s.2.1]
  refine cc112 _ _ S _ (by decide) F C w fun τ1 e => ?_
  have H := I.c e
  show G 2048 268 915 [vR 0, vR 64, vR 220, vR 472, vI X, none, none] [AI (sp_open (f (wr (X + 1)).toNat) (f (wr (X + 2)).toNat) S).1] τ1 Q
  have H0 := H
  clear I F C M s e
  obtain ⟨F, C, M, w, x, s, -, -⟩ := H0
  refine t268_915 (r1 := some 64) (r3 := some 472) (by decide) s.1 (hb 1 (by decide) (by decide)) (hb 2 (by decide) (by decide)) (F.sh rfl (by decide) (by decide)) ?_
  rw [s.2.1]
  refine mc231 _ _ S _ (by decide) F M w fun τ2 e2 => ?_
  show G 2048 268 931 [vR 0, vR 64, vR 220, vR 472, vI X, none, none] [AI (sp_open (f (wr (X + 1)).toNat) (f (wr (X + 2)).toNat) S).1, AI (sp_open (f (wr (X + 1)).toNat) (f (wr (X + 2)).toNat) S).1] τ2 Q
  exact t268_931 (r0 := some 0) (r1 := some 64) (r2 := some 220) (r3 := some 472) (fun _ => nx _ _ (H.m e2 (ws_open w) (wx_open x))) (fun c => absurd rfl c)
theorem st_guess (hb : HB L X) (I : LI L f τ S i) (nx : NX L f i X Q) : G 2048 268 936 [vR 0, vR 64, vR 220, vR 472, vI X, none, none] [] τ Q := by
  have I0 := I
  obtain ⟨F, C, M, w, x, s, -, -⟩ := I0
  refine t268_936 (r2 := some 220) (r3 := some 472) (by decide) s.1 (hb 1 (by decide) (by decide)) (hb 2 (by decide) (by decide)) (hb 3 (by decide) (by decide)) (F.sh rfl (by decide) (by decide)) ?_
  rw [s.2.1]
  refine cc113 _ _ S _ (by decide) F C w fun τ1 e => ?_
  have H := I.c e
  show G 2048 268 958 [vR 0, vR 64, vR 220, vR 472, vI X, none, none] [AI (sp_guess (f (wr (X + 1)).toNat) (f (wr (X + 2)).toNat) (f (wr (X + 3)).toNat) S).1] τ1 Q
  have H0 := H
  clear I F C M s e
  obtain ⟨F, C, M, w, x, s, -, -⟩ := H0
  refine t268_958 (r1 := some 64) (r3 := some 472) (by decide) s.1 (hb 1 (by decide) (by decide)) (hb 2 (by decide) (by decide)) (hb 3 (by decide) (by decide)) (F.sh rfl (by decide) (by decide)) ?_
  rw [s.2.1]
  refine mc232 _ _ S _ (by decide) F M w fun τ2 e2 => ?_
  show G 2048 268 980 [vR 0, vR 64, vR 220, vR 472, vI X, none, none] [AI (sp_guess (f (wr (X + 1)).toNat) (f (wr (X + 2)).toNat) (f (wr (X + 3)).toNat) S).1, AI (sp_guess (f (wr (X + 1)).toNat) (f (wr (X + 2)).toNat) (f (wr (X + 3)).toNat) S).1] τ2 Q
  exact t268_980 (r0 := some 0) (r1 := some 64) (r2 := some 220) (r3 := some 472) (fun _ => nx _ _ (H.m e2 (ws_guess w) (wx_guess x))) (fun c => absurd rfl c)
theorem st_buy (hb : HB L X) (I : LI L f τ S i) (nx : NX L f i X Q) : G 2048 268 985 [vR 0, vR 64, vR 220, vR 472, vI X, none, none] [] τ Q := by
  have I0 := I
  obtain ⟨F, C, M, w, x, s, -, -⟩ := I0
  refine t268_985 (r2 := some 220) (r3 := some 472) (by decide) s.1 (hb 1 (by decide) (by decide)) (hb 2 (by decide) (by decide)) (F.sh rfl (by decide) (by decide)) ?_
  rw [s.2.1]
  refine cc114 _ _ S _ (by decide) F C w fun τ1 e => ?_
  have H := I.c e
  show G 2048 268 1001 [vR 0, vR 64, vR 220, vR 472, vI X, none, none] [AI (sp_buy (f (wr (X + 1)).toNat) (f (wr (X + 2)).toNat) S).1] τ1 Q
  have H0 := H
  clear I F C M s e
  obtain ⟨F, C, M, w, x, s, -, -⟩ := H0
  refine t268_1001 (r1 := some 64) (r3 := some 472) (by decide) s.1 (hb 1 (by decide) (by decide)) (hb 2 (by decide) (by decide)) (F.sh rfl (by decide) (by decide)) ?_
  rw [s.2.1]
  refine mc233 _ _ S _ (by decide) F M w fun τ2 e2 => ?_
  show G 2048 268 1017 [vR 0, vR 64, vR 220, vR 472, vI X, none, none] [AI (sp_buy (f (wr (X + 1)).toNat) (f (wr (X + 2)).toNat) S).1, AI (sp_buy (f (wr (X + 1)).toNat) (f (wr (X + 2)).toNat) S).1] τ2 Q
  exact t268_1017 (r0 := some 0) (r1 := some 64) (r2 := some 220) (r3 := some 472) (fun _ => nx _ _ (H.m e2 (ws_buy w) (wx_buy x))) (fun c => absurd rfl c)
theorem st_teamOf (hb : HB L X) (I : LI L f τ S i) (nx : NX L f i X Q) : G 2048 268 1022 [vR 0, vR 64, vR 220, vR 472, vI X, none, none] [] τ Q := by
  have I0 := I
  obtain ⟨F, C, M, w, x, s, -, -⟩ := I0
  refine t268_1022 (r2 := some 220) (r3 := some 472) (by decide) s.1 (hb 1 (by decide) (by decide)) (hb 2 (by decide) (by decide)) (F.sh rfl (by decide) (by decide)) ?_
  rw [s.2.1]
  refine cc115 _ _ S _ (by decide) F C w fun τ1 e => ?_
  have H := I.c e
  show G 2048 268 1038 [vR 0, vR 64, vR 220, vR 472, vI X, none, none] [AI (sp_teamOf (f (wr (X + 1)).toNat) (f (wr (X + 2)).toNat) S).1] τ1 Q
  have H0 := H
  clear I F C M s e
  obtain ⟨F, C, M, w, x, s, -, -⟩ := H0
  refine t268_1038 (r1 := some 64) (r3 := some 472) (by decide) s.1 (hb 1 (by decide) (by decide)) (hb 2 (by decide) (by decide)) (F.sh rfl (by decide) (by decide)) ?_
  rw [s.2.1]
  refine mc234 _ _ S _ (by decide) F M w fun τ2 e2 => ?_
  show G 2048 268 1054 [vR 0, vR 64, vR 220, vR 472, vI X, none, none] [AI (sp_teamOf (f (wr (X + 1)).toNat) (f (wr (X + 2)).toNat) S).1, AI (sp_teamOf (f (wr (X + 1)).toNat) (f (wr (X + 2)).toNat) S).1] τ2 Q
  exact t268_1054 (r0 := some 0) (r1 := some 64) (r2 := some 220) (r3 := some 472) (fun _ => nx _ _ (H.m e2 (w) (wx_teamOf x))) (fun c => absurd rfl c)
theorem st_told (hb : HB L X) (I : LI L f τ S i) (nx : NX L f i X Q) : G 2048 268 1059 [vR 0, vR 64, vR 220, vR 472, vI X, none, none] [] τ Q := by
  have I0 := I
  obtain ⟨F, C, M, w, x, s, -, -⟩ := I0
  refine t268_1059 (r2 := some 220) (r3 := some 472) (by decide) s.1 (hb 1 (by decide) (by decide)) (hb 2 (by decide) (by decide)) (hb 3 (by decide) (by decide)) (F.sh rfl (by decide) (by decide)) ?_
  rw [s.2.1]
  refine cc116 _ _ S _ (by decide) F C w fun τ1 e => ?_
  have H := I.c e
  show G 2048 268 1081 [vR 0, vR 64, vR 220, vR 472, vI X, none, none] [AI (sp_told (f (wr (X + 1)).toNat) (f (wr (X + 2)).toNat) (f (wr (X + 3)).toNat) S).1] τ1 Q
  have H0 := H
  clear I F C M s e
  obtain ⟨F, C, M, w, x, s, -, -⟩ := H0
  refine t268_1081 (r1 := some 64) (r3 := some 472) (by decide) s.1 (hb 1 (by decide) (by decide)) (hb 2 (by decide) (by decide)) (hb 3 (by decide) (by decide)) (F.sh rfl (by decide) (by decide)) ?_
  rw [s.2.1]
  refine mc235 _ _ S _ (by decide) F M w fun τ2 e2 => ?_
  show G 2048 268 1103 [vR 0, vR 64, vR 220, vR 472, vI X, none, none] [AI (sp_told (f (wr (X + 1)).toNat) (f (wr (X + 2)).toNat) (f (wr (X + 3)).toNat) S).1, AI (sp_told (f (wr (X + 1)).toNat) (f (wr (X + 2)).toNat) (f (wr (X + 3)).toNat) S).1] τ2 Q
  exact t268_1103 (r0 := some 0) (r1 := some 64) (r2 := some 220) (r3 := some 472) (fun _ => nx _ _ (H.m e2 (w) (wx_told x))) (fun c => absurd rfl c)
theorem st_rank (hb : HB L X) (I : LI L f τ S i) (nx : NX L f i X Q) : G 2048 268 1108 [vR 0, vR 64, vR 220, vR 472, vI X, none, none] [] τ Q := by
  have I0 := I
  obtain ⟨F, C, M, w, x, s, -, -⟩ := I0
  refine t268_1108 (r2 := some 220) (r3 := some 472) (by decide) s.1 (hb 1 (by decide) (by decide)) (hb 2 (by decide) (by decide)) (F.sh rfl (by decide) (by decide)) ?_
  rw [s.2.1]
  refine cc117 _ _ S _ (by decide) F C w fun τ1 e => ?_
  have H := I.c e
  show G 2048 268 1124 [vR 0, vR 64, vR 220, vR 472, vI X, none, none] [AI (sp_rank (f (wr (X + 1)).toNat) (f (wr (X + 2)).toNat) S).1] τ1 Q
  have H0 := H
  clear I F C M s e
  obtain ⟨F, C, M, w, x, s, -, -⟩ := H0
  refine t268_1124 (r1 := some 64) (r3 := some 472) (by decide) s.1 (hb 1 (by decide) (by decide)) (hb 2 (by decide) (by decide)) (F.sh rfl (by decide) (by decide)) ?_
  rw [s.2.1]
  refine mc237 _ _ S _ (by decide) F M w fun τ2 e2 => ?_
  show G 2048 268 1140 [vR 0, vR 64, vR 220, vR 472, vI X, none, none] [AI (sp_rank (f (wr (X + 1)).toNat) (f (wr (X + 2)).toNat) S).1, AI (sp_rank (f (wr (X + 1)).toNat) (f (wr (X + 2)).toNat) S).1] τ2 Q
  exact t268_1140 (r0 := some 0) (r1 := some 64) (r2 := some 220) (r3 := some 472) (fun _ => nx _ _ (H.m e2 (w) (wx_rank x))) (fun c => absurd rfl c)
theorem st_states (hb : HB L X) (I : LI L f τ S i) (nx : NX L f i X Q) : G 2048 268 1145 [vR 0, vR 64, vR 220, vR 472, vI X, none, none] [] τ Q := by
  have I0 := I
  obtain ⟨F, C, M, w, x, s, -, -⟩ := I0
  refine t268_1145 (r2 := some 220) (r3 := some 472) (by decide) s.1 (hb 1 (by decide) (by decide)) (F.sh rfl (by decide) (by decide)) ?_
  rw [s.2.1]
  refine cc118 _ _ S _ (by decide) F C w fun τ1 e => ?_
  have H := I.c e
  show G 2048 268 1155 [vR 0, vR 64, vR 220, vR 472, vI X, none, none] [AI (sp_states (f (wr (X + 1)).toNat) S).1] τ1 Q
  have H0 := H
  clear I F C M s e
  obtain ⟨F, C, M, w, x, s, -, -⟩ := H0
  refine t268_1155 (r1 := some 64) (r3 := some 472) (by decide) s.1 (hb 1 (by decide) (by decide)) (F.sh rfl (by decide) (by decide)) ?_
  rw [s.2.1]
  refine mc240 _ _ S _ (by decide) F M w fun τ2 e2 => ?_
  show G 2048 268 1165 [vR 0, vR 64, vR 220, vR 472, vI X, none, none] [AI (sp_states (f (wr (X + 1)).toNat) S).1, AI (sp_states (f (wr (X + 1)).toNat) S).1] τ2 Q
  exact t268_1165 (r0 := some 0) (r1 := some 64) (r2 := some 220) (r3 := some 472) (fun _ => nx _ _ (H.m e2 ((ws_states w).1) (wx_states x))) (fun c => absurd rfl c)
theorem st_shut (hb : HB L X) (I : LI L f τ S i) (nx : NX L f i X Q) : G 2048 268 1170 [vR 0, vR 64, vR 220, vR 472, vI X, none, none] [] τ Q := by
  have I0 := I
  obtain ⟨F, C, M, w, x, s, -, -⟩ := I0
  refine t268_1170 (r2 := some 220) (r3 := some 472) (by decide) s.1 (hb 1 (by decide) (by decide)) (F.sh rfl (by decide) (by decide)) ?_
  rw [s.2.1]
  refine cc119 _ _ S _ (by decide) F C w fun τ1 e => ?_
  have H := I.c e
  show G 2048 268 1180 [vR 0, vR 64, vR 220, vR 472, vI X, none, none] [AI (sp_shut (f (wr (X + 1)).toNat) S).1] τ1 Q
  have H0 := H
  clear I F C M s e
  obtain ⟨F, C, M, w, x, s, -, -⟩ := H0
  refine t268_1180 (r1 := some 64) (r3 := some 472) (by decide) s.1 (hb 1 (by decide) (by decide)) (F.sh rfl (by decide) (by decide)) ?_
  rw [s.2.1]
  refine mc241 _ _ S _ (by decide) F M w fun τ2 e2 => ?_
  show G 2048 268 1190 [vR 0, vR 64, vR 220, vR 472, vI X, none, none] [AI (sp_shut (f (wr (X + 1)).toNat) S).1, AI (sp_shut (f (wr (X + 1)).toNat) S).1] τ2 Q
  exact t268_1190 (r0 := some 0) (r1 := some 64) (r2 := some 220) (r3 := some 472) (fun _ => nx _ _ (H.m e2 ((ws_states w).2.2.2) (wx_shut x))) (fun c => absurd rfl c)
theorem st_shortest (hb : HB L X) (I : LI L f τ S i) (nx : NX L f i X Q) : G 2048 268 1195 [vR 0, vR 64, vR 220, vR 472, vI X, none, none] [] τ Q := by
  have I0 := I
  obtain ⟨F, C, M, w, x, s, -, -⟩ := I0
  refine t268_1195 (r2 := some 220) (r3 := some 472) (by decide) s.1 (hb 1 (by decide) (by decide)) (F.sh rfl (by decide) (by decide)) ?_
  rw [s.2.1]
  refine cc120 _ _ S _ (by decide) F C w fun τ1 e => ?_
  have H := I.c e
  show G 2048 268 1205 [vR 0, vR 64, vR 220, vR 472, vI X, none, none] [AI (sp_shortest (f (wr (X + 1)).toNat) S).1] τ1 Q
  have H0 := H
  clear I F C M s e
  obtain ⟨F, C, M, w, x, s, -, -⟩ := H0
  refine t268_1205 (r1 := some 64) (r3 := some 472) (by decide) s.1 (hb 1 (by decide) (by decide)) (F.sh rfl (by decide) (by decide)) ?_
  rw [s.2.1]
  refine mc242 _ _ S _ (by decide) F M w fun τ2 e2 => ?_
  show G 2048 268 1215 [vR 0, vR 64, vR 220, vR 472, vI X, none, none] [AI (sp_shortest (f (wr (X + 1)).toNat) S).1, AI (sp_shortest (f (wr (X + 1)).toNat) S).1] τ2 Q
  exact t268_1215 (r0 := some 0) (r1 := some 64) (r2 := some 220) (r3 := some 472) (fun _ => nx _ _ (H.m e2 ((ws_states w).2.2.1) (wx_shortest x))) (fun c => absurd rfl c)
theorem st_dead (hb : HB L X) (I : LI L f τ S i) (nx : NX L f i X Q) : G 2048 268 1220 [vR 0, vR 64, vR 220, vR 472, vI X, none, none] [] τ Q := by
  have I0 := I
  obtain ⟨F, C, M, w, x, s, -, -⟩ := I0
  refine t268_1220 (r2 := some 220) (r3 := some 472) (by decide) s.1 (hb 1 (by decide) (by decide)) (F.sh rfl (by decide) (by decide)) ?_
  rw [s.2.1]
  refine cc121 _ _ S _ (by decide) F C w fun τ1 e => ?_
  have H := I.c e
  show G 2048 268 1230 [vR 0, vR 64, vR 220, vR 472, vI X, none, none] [AI (sp_dead (f (wr (X + 1)).toNat) S).1] τ1 Q
  have H0 := H
  clear I F C M s e
  obtain ⟨F, C, M, w, x, s, -, -⟩ := H0
  refine t268_1230 (r1 := some 64) (r3 := some 472) (by decide) s.1 (hb 1 (by decide) (by decide)) (F.sh rfl (by decide) (by decide)) ?_
  rw [s.2.1]
  refine mc243 _ _ S _ (by decide) F M w fun τ2 e2 => ?_
  show G 2048 268 1240 [vR 0, vR 64, vR 220, vR 472, vI X, none, none] [AI (sp_dead (f (wr (X + 1)).toNat) S).1, AI (sp_dead (f (wr (X + 1)).toNat) S).1] τ2 Q
  exact t268_1240 (r0 := some 0) (r1 := some 64) (r2 := some 220) (r3 := some 472) (fun _ => nx _ _ (H.m e2 ((ws_states w).2.1) (wx_dead x))) (fun c => absurd rfl c)
theorem st_undo (hb : HB L X) (I : LI L f τ S i) (nx : NX L f i X Q) : G 2048 268 1245 [vR 0, vR 64, vR 220, vR 472, vI X, none, none] [] τ Q := by
  have I0 := I
  obtain ⟨F, C, M, w, x, s, -, -⟩ := I0
  refine t268_1245 (r0 := some 0) (r2 := some 220) (r3 := some 472) (by decide) (F.sh rfl (by decide) (by decide)) ?_
  refine cc122 _ _ S _ (by decide) F C w fun τ1 e => ?_
  have H := I.c e
  show G 2048 268 1249 [vR 0, vR 64, vR 220, vR 472, vI X, none, none] [AI (sp_undo S).1] τ1 Q
  have H0 := H
  clear I F C M s e
  obtain ⟨F, C, M, w, x, s, -, -⟩ := H0
  refine t268_1249 (r0 := some 0) (r1 := some 64) (r3 := some 472) (by decide) (F.sh rfl (by decide) (by decide)) ?_
  refine mc171 _ _ S _ (by decide) F M w fun τ2 e2 => ?_
  show G 2048 268 1253 [vR 0, vR 64, vR 220, vR 472, vI X, none, none] [AI (sp_undo S).1, AI (sp_undo S).1] τ2 Q
  exact t268_1253 (r0 := some 0) (r1 := some 64) (r2 := some 220) (r3 := some 472) (fun _ => nx _ _ (H.m e2 (ws_undo w) (wx_undo x))) (fun c => absurd rfl c)
theorem st_count (hb : HB L X) (I : LI L f τ S i) (nx : NX L f i X Q) : G 2048 268 1258 [vR 0, vR 64, vR 220, vR 472, vI X, none, none] [] τ Q := by
  have I0 := I
  obtain ⟨F, C, M, w, x, s, -, -⟩ := I0
  refine t268_1258 (r2 := some 220) (r3 := some 472) (by decide) s.1 (hb 1 (by decide) (by decide)) (F.sh rfl (by decide) (by decide)) ?_
  rw [s.2.1]
  refine cc123 _ _ S _ (by decide) F C w fun τ1 e => ?_
  have H := I.c e
  show G 2048 268 1268 [vR 0, vR 64, vR 220, vR 472, vI X, none, none] [AI (sp_count (f (wr (X + 1)).toNat) S).1] τ1 Q
  have H0 := H
  clear I F C M s e
  obtain ⟨F, C, M, w, x, s, -, -⟩ := H0
  refine t268_1268 (r1 := some 64) (r3 := some 472) (by decide) s.1 (hb 1 (by decide) (by decide)) (F.sh rfl (by decide) (by decide)) ?_
  rw [s.2.1]
  refine mc244 _ _ S _ (by decide) F M w fun τ2 e2 => ?_
  show G 2048 268 1278 [vR 0, vR 64, vR 220, vR 472, vI X, none, none] [AI (sp_count (f (wr (X + 1)).toNat) S).1, AI (sp_count (f (wr (X + 1)).toNat) S).1] τ2 Q
  exact t268_1278 (r0 := some 0) (r1 := some 64) (r2 := some 220) (r3 := some 472) (fun _ => nx _ _ (H.m e2 (w) (wx_count x))) (fun c => absurd rfl c)
theorem st_trouble (hb : HB L X) (I : LI L f τ S i) (nx : NX L f i X Q) : G 2048 268 1283 [vR 0, vR 64, vR 220, vR 472, vI X, none, none] [] τ Q := by
  have I0 := I
  obtain ⟨F, C, M, w, x, s, -, -⟩ := I0
  refine t268_1283 (r0 := some 0) (r2 := some 220) (r3 := some 472) (by decide) (F.sh rfl (by decide) (by decide)) ?_
  refine cc124 _ _ S _ (by decide) F C w fun τ1 e => ?_
  have H := I.c e
  show G 2048 268 1287 [vR 0, vR 64, vR 220, vR 472, vI X, none, none] [AI (sp_trouble S).1] τ1 Q
  have H0 := H
  clear I F C M s e
  obtain ⟨F, C, M, w, x, s, -, -⟩ := H0
  refine t268_1287 (r0 := some 0) (r1 := some 64) (r3 := some 472) (by decide) (F.sh rfl (by decide) (by decide)) ?_
  refine mc245 _ _ S _ (by decide) F M w fun τ2 e2 => ?_
  show G 2048 268 1291 [vR 0, vR 64, vR 220, vR 472, vI X, none, none] [AI (sp_trouble S).1, AI (sp_trouble S).1] τ2 Q
  exact t268_1291 (r0 := some 0) (r1 := some 64) (r2 := some 220) (r3 := some 472) (fun _ => nx _ _ (H.m e2 (w) (wx_trouble x))) (fun c => absurd rfl c)
theorem CI.kq (h : CI τ S) (w : WS S) (F : FX2 τ) (o : OC (fun a k => a = 472 ∨ (a = 220 ∧ k = 0)) τ τ1) : CI τ1 S := by
  have N := F.1
  obtain ⟨h1, ⟨E, h2, h3⟩, ⟨h4, h5⟩, ⟨w1, v1, h6, h7, h8, h9, h10⟩, h11, h12, h13⟩ := h
  have sm : ∀ a k, a < 220 → tI τ1 a k = tI τ a k ∧ tP τ1 a k = tP τ a k := fun a k hd => o.2.2.2 a k (by omega) (by omega)
  refine ⟨h1.oc (w.1 _ (by simp)) F o (fun a k z => ⟨by unfold DC; omega, by omega⟩), ⟨E, h2.oc F o (fun a k z => by omega), h3.fr (o.fr fun a k z => by omega)⟩, ⟨by rw [(sm 64 1 (by omega)).1]; exact h4, h5.oc (by omega) o (fun k => by omega)⟩, ⟨w1, v1, h6, by rw [(sm 64 12 (by omega)).2]; exact h7, by rw [(sm 64 13 (by omega)).2]; exact h8, by rw [(sm w1 1 (by omega)).1]; exact h9, h10.oc (by omega) o (fun k => by omega)⟩, by rw [(sm 64 16 (by omega)).1]; exact h11, fun z => by rw [(sm 73 7 (by omega)).1]; exact h12 z, by rw [(sm 64 17 (by omega)).1]; exact h13⟩
theorem MI.kq (h : MI τ S) (w : WS S) (F : FX2 τ) (o : OC (fun a k => a = 472 ∨ (a = 220 ∧ k = 0)) τ τ1) : MI τ1 S := by
  have N := F.1
  obtain ⟨h1, ⟨E, h2, h3⟩, ⟨h4, h5⟩, ⟨h6, h7⟩, h11, h12, h13⟩ := h
  have sm : ∀ a k, 220 ≤ a → a < 472 → ¬ (a = 220 ∧ k = 0) → tI τ1 a k = tI τ a k ∧ tP τ1 a k = tP τ a k := fun a k hd _ _ => o.2.2.2 a k (by omega) (by omega)
  refine ⟨h1.oc (w.1 _ (by simp)) F o (fun a k z => ⟨by unfold DM; omega, by omega⟩), ⟨E, h2.oc F o (fun a k z => by omega), h3.fr (o.fr fun a k z => by omega)⟩, ⟨by rw [(sm 220 15 (by omega) (by omega) (by omega)).1]; exact h4, h5.oc (by omega) o (fun k => by omega)⟩, ⟨by rw [(sm 220 34 (by omega) (by omega) (by omega)).1]; exact h6, h7.oc (by omega) o (fun k => by omega)⟩, by rw [(sm 220 1 (by omega) (by omega) (by omega)).1]; exact h11, by rw [(sm 220 2 (by omega) (by omega) (by omega)).1]; exact h12, by rw [(sm 220 3 (by omega) (by omega) (by omega)).1]; exact h13⟩
theorem LH.q (h : LH L f τ S S i) (o : OC (fun a k => a = 472 ∨ (a = 220 ∧ k = 0)) τ τ1) (F1 : FX2 τ1) (hn : tN τ1 = tN τ) (hz : tZ τ1 = tZ τ) : LI L f τ1 S (i + 1) := by
  obtain ⟨F, C, M, w, x, s, n, z⟩ := h
  have N := F.1
  obtain ⟨s1, s2, s3⟩ := s
  refine ⟨F1, C.kq w F o, M.kq w F o, w, x, ⟨(o.2.2.1 0 (by omega)).trans s1, ?_, (o.2.2.1 1 (by omega)).trans s3⟩, by omega, by omega⟩
  rw [← s2]
  funext k
  exact (o.2.2.2 0 k (by omega) (by omega)).1
theorem LI.h (h : LI L f τ S i) : LH L f τ S S i := by
  obtain ⟨F, C, M, w, x, s, n, z⟩ := h
  exact ⟨F, C, M, w, x, s, by omega, by omega⟩
theorem st_out (hb : HB L X) (I : LI L f τ S i) (nx : NX L f i X Q) : G 2048 268 780 [vR 0, vR 64, vR 220, vR 472, vI X, none, none] [] τ Q := by
  have I0 := I
  obtain ⟨F, C, M, w, x, s, -, -⟩ := I0
  refine t268_780 (r1 := some 64) (r2 := some 220) (r3 := some 472) (by decide) s.1 (hb 1 (by decide) (by decide)) ?_
  rw [s.2.1]
  generalize hy : f (wr (X + 1)).toNat = y
  refine c267 (S := S) (by decide) F C w (fun c1 c2 => ?_) (fun c τ1 e => ?_)
  · show G 2048 268 791 [vR 0, vR 64, vR 220, vR 472, vI X, none, none] [AI 0] (uI τ 472 0 ((sOu S).getD y.toNat 0)) Q
    have o1 : OC (fun a k => a = 472 ∨ (a = 220 ∧ k = 0)) τ (uI τ 472 0 ((sOu S).getD y.toNat 0)) := OC.rf.j (Or.inl rfl)
    refine t268_791 (r1 := some 64) (r3 := some 472) (by decide) s.1 (hb 1 (by decide) (by decide)) (F.sh rfl (by decide) (by decide)) ?_
    rw [show tI (uI τ 472 0 ((sOu S).getD y.toNat 0)) 0 = f from (up_oth (tI τ) 0 ((sOu S).getD y.toNat 0) (show (0 : Nat) ≠ 472 by decide)).trans s.2.1, hy]
    refine m226 (S := S) F.j (M.kq w F o1) w (fun _ _ => ?_) (fun c => absurd ⟨c1, c2⟩ c)
    show G 2048 268 803 [vR 0, vR 64, vR 220, vR 472, vI X, vI 0, none] [AI ((sOu S).getD y.toNat 0)] (uI (uI τ 472 0 ((sOu S).getD y.toNat 0)) 220 0 0) Q
    refine t268_803 (r0 := some 0) (r1 := some 64) (r3 := some 472) (by decide) (F.sh rfl (by decide) (by decide)) (t162_0 (F.sh rfl (by decide) (by decide)) ?_)
    have e0 : tI (uI (uI τ 472 0 ((sOu S).getD y.toNat 0)) 220 0 0) 220 0 = 0 := by rw [tI_uI, if_pos ⟨rfl, rfl⟩]
    have e1 : tI (uI (uI τ 472 0 ((sOu S).getD y.toNat 0)) 220 0 0) 472 0 = (sOu S).getD y.toNat 0 := by rw [tI_uI, if_neg (by decide), tI_uI, if_pos ⟨rfl, rfl⟩]
    rw [e0]
    show G 2048 268 809 [vR 0, vR 64, vR 220, vR 472, vI X, vI 0, vI ((sOu S).getD y.toNat 0)] [AI 0] _ Q
    refine t268_809 (r0 := some 0) (r1 := some 64) (r2 := some 220) (n3 := 1) (F.sh (by decide +kernel) (by decide) (by decide)) (by decide) (fun _ c => absurd rfl c) (fun _ _ _ => ?_) (fun _ _ c => absurd (by rw [e1]; exact lcm_0.mpr rfl) c) (fun c => absurd rfl c)
    exact nx _ S (I.h.q (o1.j (Or.inr ⟨rfl, rfl⟩)) F.j.j rfl rfl)
  · have H := I.c e
    show G 2048 268 791 [vR 0, vR 64, vR 220, vR 472, vI X, none, none] [AI 1] τ1 Q
    have H0 := H
    clear F C M s e
    obtain ⟨F, C, M, w, x, s, -, -⟩ := H0
    refine t268_791 (r1 := some 64) (r3 := some 472) (by decide) s.1 (hb 1 (by decide) (by decide)) (F.sh rfl (by decide) (by decide)) ?_
    rw [s.2.1, hy]
    refine m226 (S := S) F M w (fun c1 c2 => absurd ⟨c1, c2⟩ c) (fun _ => ?_)
    show G 2048 268 803 [vR 0, vR 64, vR 220, vR 472, vI X, vI 1, none] [AI 0] (uI τ1 220 0 1) Q
    refine t268_803 (r0 := some 0) (r1 := some 64) (r3 := some 472) (by decide) (F.sh rfl (by decide) (by decide)) (t162_0 (F.sh rfl (by decide) (by decide)) ?_)
    have e0 : tI (uI τ1 220 0 1) 220 0 = 1 := by rw [tI_uI, if_pos ⟨rfl, rfl⟩]
    rw [e0]
    show G 2048 268 809 [vR 0, vR 64, vR 220, vR 472, vI X, vI 1, vI 0] [AI 1] _ Q
    refine t268_809 (r0 := some 0) (r1 := some 64) (r2 := some 220) (n3 := 1) (F.sh (by decide +kernel) (by decide) (by decide)) (by decide) (fun _ _ => ?_) (fun _ c => absurd c (by decide)) (fun _ c => absurd c (by decide)) (fun c => absurd rfl c)
    exact nx _ S (H.q (OC.rf.j (Or.inr ⟨rfl, rfl⟩)) F.j rfl rfl)
theorem LI.no (h : LI L f τ S i) : LI L f τ S (i + 1) := by
  obtain ⟨F, C, M, w, x, s, n, z⟩ := h
  exact ⟨F, C, M, w, x, s, by omega, by omega⟩
theorem st_all (hf : ∀ j, okI (f j)) (hb : HB L X) (I : LI L f τ S i) (nx : NX L f i X Q) {y : Int} : G 2048 268 40 [vR 0, vR 64, vR 220, vR 472, vI X, none, none] [AI y] τ Q := by
  refine t268_40 (r0 := some 0) (r1 := some 64) (r2 := some 220) (r3 := some 472) (fun _ => st_feed hb I nx) (fun _ => st_riddle hb I nx) (fun _ => st_rule hb I nx) (fun _ => st_form hb I nx) (fun _ => st_working hb I nx) (fun _ => st_patience hb I nx) (fun _ => st_hint hb I nx) (fun _ => st_fault hb I nx) (fun _ => st_where hb I nx) (fun _ => st_about hb I nx) (fun _ => st_takes hb I nx) (fun _ => st_steps hb I nx) (fun _ => st_make hb I nx) (fun _ => st_fits hb I nx) (fun _ => st_without hf hb I nx) (fun _ => st_follows hf hb I nx) (fun _ => st_out hb I nx) (fun _ => st_book hb I nx) (fun _ => st_team hb I nx) (fun _ => st_pass hb I nx) (fun _ => st_open hb I nx) (fun _ => st_guess hb I nx) (fun _ => st_buy hb I nx) (fun _ => st_teamOf hb I nx) (fun _ => st_told hb I nx) (fun _ => st_rank hb I nx) (fun _ => st_states hb I nx) (fun _ => st_shut hb I nx) (fun _ => st_shortest hb I nx) (fun _ => st_dead hb I nx) (fun _ => st_undo hb I nx) (fun _ => st_count hb I nx) (fun _ => st_trouble hb I nx) ?_
  all_goals (intros; exact t268_1296 (r0 := some 0) (r1 := some 64) (r2 := some 220) (r3 := some 472) (nx _ S I.no))
theorem law_lp (hL : L ≤ 3072) (hf : ∀ j, okI (f j)) : ∀ (k i : Nat) (τ : T2) (S : HSx), i + k = 512 → LI L f τ S i → G 2048 268 23 [vR 0, vR 64, vR 220, vR 472, vI ((6 * i : Nat) : Int), none, none] [] τ (fun r τ1 => r = .inl (some (AI 1)) ∧ tN τ1 ≤ 601088 ∧ tZ τ1 ≤ 7293034)
  | 0, i, τ, S, hk, I => by
    have w6 : wr ((L : Int) - 6) = (L : Int) - 6 := wr_id (by unfold okI; omega)
    refine t268_23 (r1 := some 64) (r2 := some 220) (r3 := some 472) I.2.2.2.2.2.1.1 (fun c => ?_) (fun _ => ⟨rfl, ?_, ?_⟩) (fun c => ?_)
    · rw [w6] at c; omega
    · have := I.2.2.2.2.2.2.1; omega
    · have := I.2.2.2.2.2.2.2; omega
    · rw [w6] at c; omega
  | k + 1, i, τ, S, hk, I => by
    have w6 : wr ((L : Int) - 6) = (L : Int) - 6 := wr_id (by unfold okI; omega)
    refine t268_23 (r1 := some 64) (r2 := some 220) (r3 := some 472) I.2.2.2.2.2.1.1 (fun c => ?_) (fun _ => ⟨rfl, ?_, ?_⟩) (fun c => ?_)
    · rw [w6] at c; omega
    · have := I.2.2.2.2.2.2.1; omega
    · have := I.2.2.2.2.2.2.2; omega
    · rw [w6] at c
      refine st_all hf (fun j h1 h2 => ?_) I (fun τ2 S2 I2 => ?_)
      · rw [wr_id (by unfold okI; omega)]; omega
      · have h9 := law_lp hL hf k (i + 1) τ2 S2 (by omega) I2
        rw [wr_id (by unfold okI; omega)]
        rw [show ((6 * (i + 1) : Nat) : Int) = ((6 * i : Nat) : Int) + 6 by omega] at h9
        exact h9
end LO
