/-! CALLS -/
theorem LN_set (L : LO) (k : Nat) (v : AV) : (setL L k v).length = L.length := setL_len L k v
abbrev LNp (L : LO) (so : SO) : Prop := ∀ (fr : FR) (σ1 : ST), so = .inl (fr, σ1) → fr.2.1.length = L.length
def wsM (r : MTY) : List Cond := [cdW r]
def rmM (d mc ms : Nat) : Room := { frames := d, cells := mc, slots := ms, locals := 40 * d }
def PcM (s0 : State) (E : EP) (as : List AV) (σ : ST) : Array Value → State → Prop := fun a U => a = (as.map (rel E)).toArray ∧ s0.WarmedH U.vm ∧ HS E σ U.heap
theorem PcM_blind {s0 : State} {E : EP} {as : List AV} {σ : ST} : FrameBlind (PcM s0 E as σ) := fun _ _ _ _ h => h
/-- a method by its run -/
def METP (l : Launch) (s0 : State) (E : EP) (d cm : Nat) (as : List AV) (σ : ST) (x : RS × ST) : Prop := ∀ r, MTB[cm]? = some r → vx_Met l r.1 (wsM r) (rmM d (x.2.2.1 - σ.2.1) (x.2.2.2 - σ.2.2)) (PcM s0 E as σ) (QcM E x) (XcM E x) (x.2.2.1 - σ.2.1) (x.2.2.2 - σ.2.2) (AE E)
/-- a method that returns -/
theorem METP.ret {l : Launch} {s0 : State} {E : EP} {d cm : Nat} {as : List AV} {σ σ1 : ST} {v : Option AV} (h : METP l s0 E d cm as σ (.inl v, σ1)) {r : MTY} (hr : MTB[cm]? = some r) : Met l r.1 (wsM r) (rmM d (σ1.2.1 - σ.2.1) (σ1.2.2 - σ.2.2)) (PcM s0 E as σ) (QcM E (.inl v, σ1)) (σ1.2.1 - σ.2.1) (σ1.2.2 - σ.2.2) (AE E) := by
  intro p e ha hc hk s m args below hf happ hP hK
  obtain ⟨n, o, h1, h2, h3, h4⟩ := h r hr p e ha hc hk s m args below hf happ hP hK
  refine ⟨n, o, h1, h2, h3, ?_⟩
  rcases h4 with h4 | ⟨q, -, E9, ce, L, hx, -⟩
  · exact h4
  · exact hx.elim
section CAL
variable {p : Program} {l : Launch} {e : Env} {R : Room} {s s0 : State} {m : MethodId} {args a0 : Array Value} {below : List Frame} {meth : Method} {c : Code} {H : Heap} {locs : List Loc} {cells slots : Nat} {Q : State → Prop}
variable {b : ByteArray} {pc mi : Nat} {ls : Array Slot} {rest st0 : List Value} {E : EP} {L : LO} {st st1 : List AV} {σ σ1 : ST} {fr : FR} {mc ms : Nat}
theorem locs_app {L2 : List Loc} (h1 : ∀ q ∈ locs, AE E q.base) (h2 : ∀ q ∈ L2, AE E q.base) : ∀ q ∈ locs ++ L2, AE E q.base := fun q hq => (List.mem_append.mp hq).elim (h1 q) (h2 q)
/-- behind a call that may throw -/
theorem vx_go {x : RS × ST} {a : Array Value} (hr : vx_Run p l e R s m args below meth c H locs cells slots mc ms (F0 m pc ls st0) rest (QcM E x a) (XcM E x) (AE E)) (hl : ∀ q ∈ locs, AE E q.base)
    (kr : ∀ (v : Option AV) (H1 : Heap) (locs1 : List Loc), x.1 = .inl v → HS E x.2 H1 → okS v.toList → (∀ q ∈ locs1, AE E q.base) → W p l e R s m args below meth c H1 locs1 (cells + mc) (slots + ms) Q (F0 m (pc + 3) ls ((v.map (rel E)).toList ++ rest)))
    (kt : ∀ (q : Nat) (H1 : Heap) (locs1 : List Loc), x.1 = .inr q → HS E x.2 H1 → (exOf x.2 q = 18 ∨ exOf x.2 q = 99) → (∀ q ∈ locs1, AE E q.base) → vx_W p l e R s m args below meth c H1 locs1 (cells + mc) (slots + ms) Q (F0 m pc ls rest) (adr E q)) : W p l e R s m args below meth c H locs cells slots Q (F0 m pc ls st0) := by
  intro T hT X
  rcases hr T hT X with ⟨v, st₀, t, T', L2, h0, X', hL, e1, e2, hq, st⟩ | ⟨q, st₀, t, T', L2, E9, ce, h0, X', hL, e1, e2, hx, hce, hcv, hcl, st⟩
  · cases hx1 : x.1 with
    | inr q =>
      unfold QcM at hq
      rw [hx1] at hq
      exact hq.elim
    | inl v9 =>
      unfold QcM at hq
      rw [hx1] at hq
      obtain ⟨hv, hH, hov⟩ := hq
      have hv : v = v9.map (rel E) := by injection hv
      subst hv
      obtain ⟨t2, a1, b1⟩ := kr v9 T'.heap (locs ++ L2) hx1 (by rw [e1]; exact hH) hov (locs_app hl hL) T' rfl X'
      exact ⟨t2, st t2 a1, b1⟩
  · cases hx1 : x.1 with
    | inl v9 =>
      unfold XcM at hx
      rw [hx1] at hx
      exact hx.elim
    | inr a9 =>
      unfold XcM at hx
      rw [hx1] at hx
      obtain ⟨rfl, hH, hex, -⟩ := hx
      obtain ⟨t2, a1, b1⟩ := kt a9 T'.heap (locs ++ L2) hx1 (by rw [e1]; exact hH) hex (locs_app hl hL) T' rfl X'
      exact ⟨t2, st.trans a1, b1⟩
/-- behind a call that returns -/
theorem va_go {v9 : Option AV} {σ2 : ST} {a : Array Value} (hr : va_Run p l e R s m args below meth c H locs cells slots mc ms (F0 m pc ls st0) rest (QcM E (.inl v9, σ2) a) (AE E)) (hl : ∀ q ∈ locs, AE E q.base)
    (kr : ∀ (H1 : Heap) (locs1 : List Loc), HS E σ2 H1 → okS v9.toList → (∀ q ∈ locs1, AE E q.base) → W p l e R s m args below meth c H1 locs1 (cells + mc) (slots + ms) Q (F0 m (pc + 3) ls ((v9.map (rel E)).toList ++ rest))) : W p l e R s m args below meth c H locs cells slots Q (F0 m pc ls st0) := by
  intro T hT X
  obtain ⟨v, st₀, t, T', L2, h0, X', hL, e1, e2, hq, st⟩ := hr T hT X
  obtain ⟨hv, hH, hov⟩ := hq
  have hv : v = v9.map (rel E) := by injection hv
  subst hv
  obtain ⟨t2, a1, b1⟩ := kr T'.heap (locs ++ L2) (by rw [e1]; exact hH) hov (locs_app hl hL) T' rfl X'
  exact ⟨t2, st t2 a1, b1⟩
theorem va_go5 {v9 : Option AV} {σ2 : ST} {a : Array Value} (hr : va_Run5 p l e R s m args below meth c H locs cells slots mc ms (F0 m pc ls st0) rest (QcM E (.inl v9, σ2) a) (AE E)) (hl : ∀ q ∈ locs, AE E q.base)
    (kr : ∀ (H1 : Heap) (locs1 : List Loc), HS E σ2 H1 → okS v9.toList → (∀ q ∈ locs1, AE E q.base) → W p l e R s m args below meth c H1 locs1 (cells + mc) (slots + ms) Q (F0 m (pc + 5) ls ((v9.map (rel E)).toList ++ rest))) : W p l e R s m args below meth c H locs cells slots Q (F0 m pc ls st0) := by
  intro T hT X
  obtain ⟨v, st₀, t, T', L2, h0, X', hL, e1, e2, hq, st⟩ := hr T hT X
  obtain ⟨hv, hH, hov⟩ := hq
  have hv : v = v9.map (rel E) := by injection hv
  subst hv
  obtain ⟨t2, a1, b1⟩ := kr T'.heap (locs ++ L2) (by rw [e1]; exact hH) hov (locs_app hl hL) T' rfl X'
  exact ⟨t2, st t2 a1, b1⟩
theorem wt_cat (E : EP) : ∀ st : List AV, ((st.map (rel E)).map fun v => v.category).sum = wt st
  | [] => rfl
  | v :: r => by
    simp only [List.map_cons, List.sum_cons, wt]
    rw [wt_cat E r, rel_cat]
theorem CX.later (C : CX l a0 s0 E mi p s m meth c) {w : Cond} (hw : w ∈ lw_tbl) (hg : goodWord w = true) : ∀ (a' : Array Value) (U : State), s.WarmedH U.vm → w.before a' U = true := fun a' U hW => word_at (State.WarmedH.trans C.2.2.1 hW) (good_of_word hg) (C.1.1 w hw)
theorem cd_good (r : MTY) : goodWord (cdW r) = true := by
  unfold cdW
  split <;> rfl
end CAL
