/-! THE CLAIM OUT OF A RUN OF THE ABSTRACT MACHINE (the heads follow the skeleton) -/
def R_law : String := "HuntHouseLaw"
def lw_P (b : Addr) (xs : List Int32) (args : Array Value) (s : State) : Prop := args = #[.ref b] ∧ s.IntsAt b xs ∧ xs.length ≤ 3072 ∧ (Jvm.Cond.and given_1 narrow_1).before args s = true
def lw_Q (_ : Array Value) (s : State) (o : Outcome) (t : State) : Prop := o = .returned (some (.int 1)) ∧ Framed s o t [] 601024 7293034
def lw_Z (below : List Frame) (a : Array Value) (s : State) : State → Prop := fun t => ∃ o, t.status = .running ∧ Ended t below o ∧ lw_Q a s o t
/-- what holds at the law's entry: the machine, the code, the tables' words (any of lw_tbl by 'hts w (by decide +kernel)'), the script of L ints xs at the cell b, what the Statement gives of the start (any of its parts by flat_of_before) -/
def lw_At (p : Program) (s : State) (m : MethodId) (meth : Method) (c : Code) (b L : Nat) (xs : Nat → Int32) : Prop :=
  p.tables.exec = Jvm.exec ∧ c.code = code ∧ meth.sig.returnType = ret ∧ c.maxLocals = 7 ∧ s.vm.findClass R_law = some m.cls ∧ (∀ w ∈ lw_tbl, w.before #[Value.ref b] s = true) ∧ va_X b L xs s s.heap ∧ b < s.heap.size ∧ meth.locks = false ∧ (Jvm.Cond.and given_1 narrow_1).before #[Value.ref b] s = true
/-- the store at the law's entry -/
def σ0 (L : Nat) (f : Nat → Int) : ST := (fun a => if a = 0 then .inr (.inl (100, L, f)) else if a = 1 then .inr (.inr (101, 0, fun _ => none)) else DEAD, 64, 0)
/-- WHAT IS LEFT TO SHOW, of the abstract machine alone -/
def PURE : Prop := ∀ (L : Nat) (f : Nat → Int), L ≤ 3072 → (∀ j, okI (f j)) → ∃ (n : Nat) (σ : ST), run n 2048 lawI 0 (iL (MX lawI) [.inr (.inr (some 0))]) [] (σ0 L f) = some (.inl (some (.inl 1)), σ) ∧ σ.2.1 ≤ 601088 ∧ σ.2.2 ≤ 7293034
theorem law_row : MTB[lawI]? = some (x, code, 7, ret, []) := by
  unfold lawI
  rfl
theorem same_new {s t : State} {L : List Loc} {k n k1 n1 : Nat} (h : s.sameButNew t L k n) (hL : ∀ q ∈ L, s.heap.size ≤ q.base) (hk : k ≤ k1) (hn : n ≤ n1) : s.sameButNew t [] k1 n1 := by
  obtain ⟨h1, h2, h3, h4, h5, h6⟩ := h
  refine ⟨h1, h2, by omega, h4, by omega, fun a c hc => ?_⟩
  obtain ⟨c', g1, g2, g3, g4⟩ := h6 a c hc
  refine ⟨c', g1, g2, g3, fun i _ => g4 i fun hm => ?_⟩
  have := hL _ hm
  have h9 := (Array.getElem?_eq_some_iff.mp hc).1
  exact absurd h9 (Nat.not_lt.mpr this)
theorem whole_start (hp : PURE) {p : Program} {e : Env} {s : State} {m : MethodId} {below : List Frame} {meth : Method} {c : Code} {l : Launch} (hl : l.stackTraces = false) {b L : Nat} {xs : Nat → Int32} (hL : L ≤ 3072) (C0 : lw_At p s m meth c b L xs) (hnm : meth.name = x.name) (htab : c.exceptionTable.toList = []) : W p l e room_1 s m #[Value.ref b] below meth c s.heap [] 0 0 (lw_Z below #[Value.ref b] s) (entryFrame m ([Value.ref b] : List Value).toArray 7) := by
  obtain ⟨hx, hb, hr, hml, hown, hts, hX, hbl, hlk, hg⟩ := C0
  obtain ⟨E, hE, e0, eL1, eS1⟩ := ev_at hl hL hts hX hbl hg
  obtain ⟨n, σ, hrun, hc1, hc2⟩ := hp L (fun j => (xs j).toInt) hL (fun j => okI_self _)
  have hn : eN E = s.heap.size := hE.2.2.1
  have hh : eH E = s.heap := hE.2.2.2.1
  have hH : HS E (σ0 L (fun j => (xs j).toInt)) s.heap := by
    refine ⟨Nat.le_refl _, by rw [hn]; rfl, fun q hq => by rw [hh], fun a h1 h2 => ?_, fun a h1 => ?_, fun a h1 h2 => ?_, ?_, rfl⟩
    · exact absurd h2 (Nat.not_lt.mpr h1)
    · have h1 : 64 ≤ a := h1
      show (if a = 0 then _ else if a = 1 then _ else DEAD) = DEAD
      rw [if_neg (by omega), if_neg (by omega)]
    · show (if a = 0 then _ else if a = 1 then _ else DEAD) = DEAD
      rw [if_neg (by omega), if_neg (by omega)]
    · show (.inr (.inl (100, L, fun j => (xs j).toInt)) : AC) = .inr (.inl (100, eL E, eS E))
      rw [eL1, show eS E = fun j => (xs j).toInt from funext eS1]
  have C : CX l #[Value.ref b] s E lawI p s m meth c := ⟨hE, hx, State.WarmedH.refl s, ⟨by rw [hn]; exact Nat.le_refl _, fun q _ => by rw [hh]⟩, _, law_row, hb, hml, hown, hr, hlk, hnm, htab⟩
  have hok : okS [.inr (.inr (some 0))] := fun v hv => by rw [List.mem_singleton.mp hv]; trivial
  have hmx : MX lawI = 7 := rfl
  have hfit : (iA [.inr (.inr (some 0))]).length ≤ MX lawI := by decide
  have hLR := LR_entry (E := E) (mx := MX lawI) hfit hok
  have hlen : (iL (MX lawI) [.inr (.inr (some 0))]).length = MX lawI := by decide
  have ha : ([.inr (.inr (some 0))] : List AV).map (rel E) = [Value.ref b] := by
    show [Value.ref (adr E 0)] = _
    rw [show adr E 0 = eX E 0 from if_pos (by decide), e0]
  rw [ha] at hLR
  have hW := sound_all n hrun (R := room_1) (args := #[Value.ref b]) (below := below) (e := e) (locs := []) (cells := 0) (slots := 0) C hH (Nat.le_refl _) (fun q hq => nomatch hq) hLR (fun v hv => nomatch hv) hlen (by decide) (by decide) (by show 0 + (σ.2.1 - 64) ≤ 601024; omega) (by show 0 + (σ.2.2 - 0) ≤ 7293034; omega)
  rw [lg_entry_eq]
  intro T hT X
  obtain ⟨t, a1, o, b1, b2, b3⟩ := hW T hT X
  refine ⟨t, a1, o, b1, b2, ?_⟩
  rcases b3 with ⟨⟨h1, -, -⟩, L2, ⟨h2, h3, h4⟩, h5⟩ | ⟨q, -, E9, ce, L2, h6, -⟩
  · refine ⟨h1, h2, h3, same_new h4 (fun q hq => ?_) ?_ ?_⟩
    · have := h5 q hq
      rw [← hn]
      exact this
    · show 0 + (σ.2.1 - 64) ≤ 601024; omega
    · show 0 + (σ.2.2 - 0) ≤ 7293034; omega
  · exact h6.elim
