/-! ACTS: how the core changes; how both sides hold it then -/
def cU (c : CO) (g i k : Nat) (x : Int) : CO := (c.1, ud (cD c) g i k x, c.2.2)
theorem Fr.u {τ : T2} {a k : Nat} {x : Int} (h : a < 473) : Fr τ (uI τ a k x) := ⟨Nat.le_refl _, fun b h1 _ => ⟨rfl, up_oth _ _ _ (by omega), rfl⟩⟩
theorem Fr.v {τ : T2} {a k : Nat} {x : Option Nat} (h : a < 473) : Fr τ (uP τ a k x) := ⟨Nat.le_refl _, fun b h1 _ => ⟨rfl, rfl, up_oth _ _ _ (by omega)⟩⟩
theorem ok_U {c : CO} {g i k : Nat} {x : Int} (h : ¬ ((g = 1 ∧ (k = 2 ∨ k = 5)) ∨ g = 8 ∨ g = 12)) : ok (cU c g i k x) = ok c := by
  funext g1 i1 k1
  have e : ∀ g2 i2 k2, ((g2 = 1 ∧ (k2 = 2 ∨ k2 = 5)) ∨ g2 = 8 ∨ g2 = 12) → cD (cU c g i k x) g2 i2 k2 = cD c g2 i2 k2 := fun g2 i2 k2 z => by
    show ud (cD c) g i k x g2 i2 k2 = _
    unfold ud
    rw [if_neg (by omega)]
  unfold ok
  rw [e 1 i1 2 (by omega), e 1 i1 5 (by omega), e 8 i1 (k1 / 3) (by omega), e 12 i1 0 (by omega)]
  rfl
theorem cU_at {c : CO} {g i k : Nat} {x : Int} : cD (cU c g i k x) g i k = x := by
  show ud (cD c) g i k x g i k = x
  unfold ud
  rw [if_pos ⟨rfl, rfl, rfl⟩]
theorem cU_ne {c : CO} {g i k g1 i1 k1 : Nat} {x : Int} (h : ¬ (g1 = g ∧ i1 = i ∧ k1 = k)) : cD (cU c g i k x) g1 i1 k1 = cD c g1 i1 k1 := by
  show ud (cD c) g i k x g1 i1 k1 = _
  unfold ud
  rw [if_neg h]
theorem rdm_cg {c c1 : CO} (h0 : cn c1 0 = cn c 0) (h : ∀ r, r < cn c 0 → cD c1 1 r 1 = cD c 1 r 1) (a : Nat) : rdm c1 a = rdm c a := by
  funext k
  unfold rdm
  rw [h0]
  by_cases e : k < cn c 0
  · rw [h k e]
  · rw [decide_eq_false (fun z => e z.1), decide_eq_false (fun z => e z.1)]
theorem wdl_cg {c c1 : CO} {w : Nat} (h0 : cD c1 12 w 0 = cD c 12 w 0) (h : ∀ k : Nat, (k : Int) < cD c 12 w 0 → cD c1 11 w k = cD c 11 w k) : wdl c1 w = wdl c w := by
  unfold wdl
  rw [h0]
  apply List.map_congr_left
  intro k hk
  have := List.mem_range.mp hk
  exact h k (by omega)
section ACT
variable {τ τ1 : T2} {c c1 : CO}
theorem RC.ic (R : RC τ c) (hP : tP τ1 = tP τ) (fr : Fr τ τ1) (hc : tI τ1 64 3 = tI τ 64 3 ∧ tI τ1 64 6 = tI τ 64 6 ∧ tI τ1 70 2 = tI τ 70 2 ∧ tI τ1 67 = tI τ 67) (h0 : c1.1 = c.1) (h2 : cR c1 = cR c ∧ cF c1 = cF c ∧ cW c1 = cW c) (hrd : ∀ r, r < cn c 0 → cD c1 1 r 1 = cD c 1 r 1) (hI : IC τ1 (ok c1) (cD c1)) : RC τ1 c1 := by
  obtain ⟨⟨h1, h3, h4⟩, -, h5, h6⟩ := R
  have en : cn c1 = cn c := h0
  refine ⟨⟨by rw [hc.1, en]; exact h1, by rw [hc.2.1, en]; exact h3, by rw [hc.2.2.1, en]; exact h4⟩, hI, fun a ha => ?_, fun r hr => ?_⟩
  · rw [hc.2.2.2, rdm_cg (by rw [en]) hrd]; exact h5 a ha
  · rw [hP, h2.1, h2.2.1, h2.2.2]
    obtain ⟨a1, a2, a3⟩ := h6 r (by rw [en] at hr; exact hr)
    exact ⟨a1.mo fun _ _ z => z.fr fr, a2.mo fun _ _ z => z.fr fr, a3.mo fun _ _ z => z.fr fr⟩
theorem RM.ic (R : RM τ c) (hP : tP τ1 = tP τ) (fr : Fr τ τ1) (hc : tI τ1 220 4 = tI τ 220 4 ∧ tI τ1 220 5 = tI τ 220 5 ∧ tI τ1 220 6 = tI τ 220 6 ∧ tI τ1 223 = tI τ 223) (ht : ∀ t, t < cn c 1 → tI τ1 (416 + 7 * t) 2 = tI τ (416 + 7 * t) 2 ∧ tI τ1 (421 + 7 * t) = tI τ (421 + 7 * t) ∧ tI τ1 (422 + 7 * t) = tI τ (422 + 7 * t)) (h0 : c1.1 = c.1) (h2 : cR c1 = cR c ∧ cF c1 = cF c ∧ cW c1 = cW c ∧ cP c1 = cP c) (hw : ∀ w, w < cn c 2 → wdl c1 w = wdl c w) (hI : IM τ1 (ok c1) (cD c1)) : RM τ1 c1 := by
  obtain ⟨⟨h1, h3, h4⟩, -, h5, h7, h6⟩ := R
  have en : cn c1 = cn c := h0
  refine ⟨⟨by rw [hc.1, en]; exact h1, by rw [hc.2.1, en]; exact h3, by rw [hc.2.2.1, en]; exact h4⟩, hI, fun a ha => ?_, fun t h9 => ?_, fun r hr => ?_⟩
  · rw [en] at ha
    rw [hc.2.2.2, hw a ha]; exact h5 a ha
  · rw [en] at h9
    obtain ⟨e1, e2, e3⟩ := ht t h9
    rw [e1, e2, e3, h2.2.2.2]; exact h7 t h9
  · rw [hP, h2.1, h2.2.1, h2.2.2.1]
    obtain ⟨a1, a2, a3⟩ := h6 r (by rw [en] at hr; exact hr)
    exact ⟨a1.mo fun _ _ z => z.fr fr, a2.mo fun _ _ z => z.fr fr, a3.mo fun _ _ z => z.fr fr⟩
/-- numbers of a place that holds none of the counts -/
theorem nC_C {g i k : Nat} (hv : vd g i k) {x : Int} : tI (uI τ (aC g i) (kC g i k) x) 64 3 = tI τ 64 3 ∧ tI (uI τ (aC g i) (kC g i k) x) 64 6 = tI τ 64 6 ∧ tI (uI τ (aC g i) (kC g i k) x) 70 2 = tI τ 70 2 ∧ tI (uI τ (aC g i) (kC g i k) x) 67 = tI τ 67 := by
  have a1 := aC_c g i
  have b1 := kC_c g i k
  unfold vd at hv
  refine ⟨?_, ?_, ?_, ?_⟩
  · rw [tI_uI, if_neg (by omega)]
  · rw [tI_uI, if_neg (by omega)]
  · rw [tI_uI, if_neg (by omega)]
  · exact up_oth _ _ _ (by omega)
theorem nC_M {g i k : Nat} (hv : vd g i k) (h9 : g ≤ 9) {x : Int} : (tI (uI τ (aM g i) (kM g k) x) 220 4 = tI τ 220 4 ∧ tI (uI τ (aM g i) (kM g k) x) 220 5 = tI τ 220 5 ∧ tI (uI τ (aM g i) (kM g k) x) 220 6 = tI τ 220 6 ∧ tI (uI τ (aM g i) (kM g k) x) 223 = tI τ 223) ∧ ∀ t, tI (uI τ (aM g i) (kM g k) x) (416 + 7 * t) 2 = tI τ (416 + 7 * t) 2 ∧ tI (uI τ (aM g i) (kM g k) x) (421 + 7 * t) = tI τ (421 + 7 * t) ∧ tI (uI τ (aM g i) (kM g k) x) (422 + 7 * t) = tI τ (422 + 7 * t) := by
  have a1 := aM_c g i
  have b1 := kM_c g k
  unfold vd at hv
  refine ⟨⟨?_, ?_, ?_, ?_⟩, fun t => ⟨?_, ?_, ?_⟩⟩
  · rw [tI_uI, if_neg (by omega)]
  · rw [tI_uI, if_neg (by omega)]
  · rw [tI_uI, if_neg (by omega)]
  · exact up_oth _ _ _ (by omega)
  · rw [tI_uI, if_neg (by omega)]
  · exact up_oth _ _ _ (by omega)
  · exact up_oth _ _ _ (by omega)
theorem RC.j (R : RC τ c) {g i k : Nat} (hv : vd g i k) (hr : ¬ (g = 1 ∧ k = 1)) {x : Int} (hok : ∀ g1 i1 k1, ok (cU c g i k x) g1 i1 k1 → ok c g1 i1 k1 ∨ (g1 = g ∧ i1 = i ∧ k1 = k)) : RC (uI τ (aC g i) (kC g i k) x) (cU c g i k x) := by
  have h9 := (vd_C hv).2
  exact R.ic rfl (Fr.u (by omega)) (nC_C hv) rfl ⟨rfl, rfl, rfl⟩ (fun r _ => cU_ne (by omega)) ((R.2.1.j hv).mo fun g1 i1 k1 z => ⟨hok g1 i1 k1 z, rfl⟩)
theorem RM.j (R : RM τ c) {g i k : Nat} (hv : vd g i k) (h9 : g ≤ 9) {x : Int} (hok : ∀ g1 i1 k1, ok (cU c g i k x) g1 i1 k1 → ok c g1 i1 k1 ∨ (g1 = g ∧ i1 = i ∧ k1 = k)) : RM (uI τ (aM g i) (kM g k) x) (cU c g i k x) := by
  have h8 := (vd_M hv h9).2
  exact R.ic rfl (Fr.u (by omega)) (nC_M hv h9).1 (fun t _ => (nC_M hv h9).2 t) rfl ⟨rfl, rfl, rfl, rfl⟩ (fun w _ => wdl_cg (cU_ne (by omega)) (fun k1 _ => cU_ne (by omega))) ((R.2.1.j hv h9).mo fun g1 i1 k1 z => ⟨hok g1 i1 k1 z, rfl⟩)
theorem RC.je (R : RC τ c) {g i k a j : Nat} (hv : vd g i k) (hr : ¬ (g = 1 ∧ k = 1)) (h : ¬ ((g = 1 ∧ (k = 2 ∨ k = 5)) ∨ g = 8 ∨ g = 12)) {x : Int} (ea : a = aC g i) (ej : j = kC g i k) : RC (uI τ a j x) (cU c g i k x) := by
  rw [ea, ej]
  exact R.j hv hr fun g1 i1 k1 z => Or.inl (by rw [ok_U h] at z; exact z)
theorem RM.je (R : RM τ c) {g i k a j : Nat} (hv : vd g i k) (h9 : g ≤ 9) (h : ¬ ((g = 1 ∧ (k = 2 ∨ k = 5)) ∨ g = 8 ∨ g = 12)) {x : Int} (ea : a = aM g i) (ej : j = kM g k) : RM (uI τ a j x) (cU c g i k x) := by
  rw [ea, ej]
  exact R.j hv h9 fun g1 i1 k1 z => Or.inl (by rw [ok_U h] at z; exact z)
/-- another core that is alike where it speaks -/
theorem RC.cg (R : RC τ c) (h0 : cn c1 0 = cn c 0 ∧ cn c1 1 = cn c 1 ∧ cn c1 2 = cn c 2) (hok : ∀ g i k, ok c1 g i k → ok c g i k ∧ cD c1 g i k = cD c g i k) (hr : ∀ r, r < cn c 0 → cR c1 r = cR c r ∧ cF c1 r = cF c r ∧ cW c1 r = cW c r) : RC τ c1 := by
  obtain ⟨⟨h1, h3, h4⟩, hI, h5, h6⟩ := R
  refine ⟨⟨by rw [h0.1]; exact h1, by rw [h0.2.1]; exact h3, by rw [h0.2.2]; exact h4⟩, hI.mo hok, fun a ha => ?_, fun r h9 => ?_⟩
  · rw [rdm_cg h0.1 (fun r hr => (hok 1 r 1 (by unfold ok; rw [h0.1]; omega)).2)]; exact h5 a ha
  · rw [h0.1] at h9
    obtain ⟨e1, e2, e3⟩ := hr r h9
    rw [e1, e2, e3]; exact h6 r h9
theorem RM.cg (R : RM τ c) (h0 : cn c1 0 = cn c 0 ∧ cn c1 1 = cn c 1 ∧ cn c1 2 = cn c 2) (hok : ∀ g i k, ok c1 g i k → ok c g i k ∧ cD c1 g i k = cD c g i k) (hr : ∀ r, r < cn c 0 → cR c1 r = cR c r ∧ cF c1 r = cF c r ∧ cW c1 r = cW c r) (hp : ∀ t, t < cn c 1 → cP c1 t = cP c t) : RM τ c1 := by
  obtain ⟨⟨h1, h3, h4⟩, hI, h5, h7, h6⟩ := R
  refine ⟨⟨by rw [h0.1]; exact h1, by rw [h0.2.1]; exact h3, by rw [h0.2.2]; exact h4⟩, hI.mo hok, fun w hw => ?_, fun t ht => ?_, fun r h9 => ?_⟩
  · rw [h0.2.2] at hw
    have e := (hok 12 w 0 (by unfold ok; rw [h0.2.2]; omega)).2
    rw [wdl_cg e (fun k hk => (hok 11 w k (by unfold ok; rw [h0.2.2, e]; omega)).2)]; exact h5 w hw
  · rw [h0.2.1] at ht
    rw [hp t ht]; exact h7 t ht
  · rw [h0.1] at h9
    obtain ⟨e1, e2, e3⟩ := hr r h9
    rw [e1, e2, e3]; exact h6 r h9
end ACT
/-- an accepted act -/
def acS (S : HSx) (c1 : CO) : HSx := (c1, S.1 :: S.2.1.take 99, S.2.2.1, S.2.2.2.1, 0, -1, S.2.2.2.2.2.2)
section MKA
variable {τ τ2 : T2} {c c1 : CO} {cs : List CO} {tp ou : List Int} {fa : Int}
theorem CI.mkA {E : List ENT} {e : ENT} (R : RC τ2 c1) (L : LgC τ2 (e :: E.take 99)) (U : UndC τ2 e c1 c) (hc : ChC τ c cs E) (fr : Fr τ τ2) (T : TpC τ2 tp) (O : OuC τ2 ou) (h16 : tI τ2 64 16 = 0) (h17 : tI τ2 64 17 = fa) : CI τ2 (c1, c :: cs.take 99, tp, ou, 0, -1, fa) := ⟨R, ⟨_, L, U, (ChC.tk 99 _ _ _ hc).fr fr⟩, T, O, h16, fun z => absurd z (show ¬ (0 : Int) = 4 by decide), h17⟩
theorem MI.mkA {E : List ENM} {e : ENM} (R : RM τ2 c1) (L : LgM τ2 (e :: E.take 99)) (U : UndM τ2 e c1 c) (hc : ChM τ c cs E) (fr : Fr τ τ2) (T : TpM τ2 tp) (O : OuM τ2 ou) (h1 : tI τ2 220 1 = 0) (h2 : tI τ2 220 2 = -1) (h3 : tI τ2 220 3 = fa) : MI τ2 (c1, c :: cs.take 99, tp, ou, 0, -1, fa) := ⟨R, ⟨_, L, U, (ChM.tk 99 _ _ _ hc).fr fr⟩, T, O, h1, h2, h3⟩
theorem WS.act {S : HSx} (w : WS S) (h : WF c1) : WS (acS S c1) := by
  refine ⟨fun c hc => ?_, w.2.1, w.2.2.1, w.2.2.2.1, fun _ => rfl⟩
  rcases List.mem_cons.mp hc with hc | hc
  · rw [hc]; exact h
  · rcases List.mem_cons.mp hc with hc | hc
    · rw [hc]; exact w.1 _ (by simp)
    · exact w.1 _ (List.mem_cons_of_mem _ (List.mem_of_mem_take hc))
/-- refusals of the class and of the model within a call -/
theorem c126 {d : Nat} {Q : RS → T2 → Prop} (F : FX2 τ) {why : Int} (h : Q (.inl (some (AI (-1)))) (uI τ 64 16 why)) : G d 126 0 [vR 64, vI why] [] τ Q := t126_0 (F.sh rfl (by omega) (by omega)) h
theorem m163 {d : Nat} {Q : RS → T2 → Prop} (F : FX2 τ) {why : Int} (h : Q (.inl (some (AI (-1)))) (uI (uI τ 220 1 why) 220 2 (-1))) : G d 163 0 [vR 220, vI why] [] τ Q := t163_0 (F.sh rfl (by omega) (by omega)) h
theorem m164 {d : Nat} {Q : RS → T2 → Prop} (F : FX2 τ) {why : Int} (h : Q (.inl (some (AI 0))) (uI (uI τ 220 1 why) 220 2 (-1))) : G d 164 0 [vR 220, vI why] [] τ Q := t164_0 (F.sh rfl (by omega) (by omega)) h
theorem m165 {d : Nat} {Q : RS → T2 → Prop} (F : FX2 τ) {v : Int} (h : Q (.inl (some (AI v))) (uI (uI τ 220 1 0) 220 2 (-1))) : G d 165 0 [vR 220, vI v] [] τ Q := t165_0 (F.sh rfl (by omega) (by omega)) h
theorem m166 {d : Nat} {Q : RS → T2 → Prop} (F : FX2 τ) (h : Q (.inl (some (AI 1))) (uI (uI τ 220 1 0) 220 2 (-1))) : G d 166 0 [vR 220] [] τ Q := t166_0 (F.sh rfl (by omega) (by omega)) h
end MKA
