/-! THE STATE OF BOTH SIDES -/
theorem rm_len (f : Nat → Int) (n : Nat) : ((List.range n).map f).length = n := by simp
theorem rm_get (f : Nat → Int) {n k : Nat} (h : k < n) : ((List.range n).map f).getD k 0 = f k := by
  rw [List.getD_eq_getElem?_getD, List.getElem?_map, List.getElem?_range h]
  rfl
def paL (m : Int) : List (Int × Int) → Int
  | [] => 0
  | x :: l => (if x.1 ≤ m then x.2 else 0) + paL m l
def sB (f : Nat → Int) : Nat → Int
  | 0 => 0
  | n + 1 => sB f n + f n
def WFn (c : CO) : Prop := cn c 0 ≤ 20 ∧ cn c 1 ≤ 8 ∧ cn c 2 ≤ 40 ∧ 0 ≤ cD c 0 0 0 ∧ cD c 0 0 0 ≤ 9999
def WFr (c : CO) : Prop := ∀ r, r < cn c 0 → (0 ≤ cD c 1 r 0 ∧ cD c 1 r 0 ≤ 2) ∧ (0 ≤ cD c 1 r 1 ∧ cD c 1 r 1 ≤ 5) ∧ (1 ≤ cD c 1 r 2 ∧ cD c 1 r 2 ≤ 12) ∧ (0 ≤ cD c 1 r 3 ∧ cD c 1 r 3 ≤ 3) ∧ (0 ≤ cD c 1 r 4 ∧ cD c 1 r 4 ≤ 60) ∧ (0 ≤ cD c 1 r 5 ∧ cD c 1 r 5 ≤ 3) ∧ (∀ k : Nat, (k : Int) < cD c 1 r 2 → 97 ≤ cD c 2 r k ∧ cD c 2 r k ≤ 122) ∧ (∀ h : Nat, (h : Int) < cD c 1 r 5 → (0 ≤ cD c 3 r h ∧ cD c 3 r h ≤ 999) ∧ 0 ≤ cD c 4 r h ∧ cD c 4 r h ≤ 999)
def WFt (c : CO) : Prop := ∀ t, t < cn c 1 → (0 ≤ cD c 5 t 0 ∧ cD c 5 t 0 ≤ cD c 0 0 0) ∧ okI (cD c 5 t 1) ∧ ∀ r, r < 20 → (cD c 6 t r = -1 ∨ (cD c 5 t 0 ≤ cD c 6 t r ∧ cD c 6 t r ≤ cD c 0 0 0)) ∧ okI (cD c 7 t r) ∧ (0 ≤ cD c 8 t r ∧ cD c 8 t r ≤ 3 ∧ (cn c 0 ≤ r → cD c 8 t r = 0) ∧ (r < cn c 0 → cD c 8 t r ≤ cD c 1 r 5)) ∧ okI (cD c 9 t r)
def WFw (c : CO) : Prop := ∀ w, w < cn c 2 → (1 ≤ cD c 12 w 0 ∧ cD c 12 w 0 ≤ 12) ∧ ∀ k : Nat, (k : Int) < cD c 12 w 0 → 97 ≤ cD c 11 w k ∧ cD c 11 w k ≤ 122
def WFp (c : CO) : Prop := ∀ t, t < cn c 1 → (∀ m, paL m (cP c t) = prC (cD c 8 t) (cD c 10 t) (cD c 4) m 20) ∧ ((cP c t).length : Int) = sB (cD c 8 t) 20 ∧ ∀ x ∈ cP c t, 0 ≤ x.2 ∧ x.2 ≤ 999
def WF (c : CO) : Prop := WFn c ∧ WFr c ∧ WFt c ∧ WFw c ∧ WFp c
theorem ok_vd {c : CO} (w : WF c) {g i k : Nat} (h : ok c g i k) : vd g i k := by
  obtain ⟨⟨n1, n2, n3, -⟩, wr_, -, ww, -⟩ := w
  unfold ok at h
  unfold vd
  rcases h with h | h | h | h | h | h | h | h | h
  · omega
  · omega
  · have := (wr_ i h.2.1).2.2.1
    omega
  · have := (wr_ i h.2.1).2.2.2.2.2.1
    omega
  · omega
  · omega
  · omega
  · have := (ww i h.2.1).1
    omega
  · omega
/-- the class holds the core -/
def RC (τ : T2) (c : CO) : Prop := (tI τ 64 3 = (cn c 0 : Int) ∧ tI τ 64 6 = (cn c 1 : Int) ∧ tI τ 70 2 = (cn c 2 : Int)) ∧ IC τ (ok c) (cD c) ∧ (∀ a, a < 6 → tI τ 67 a = ((enc (rdm c a) 20 : Nat) : Int)) ∧ (∀ r, r < cn c 0 → OkO (tP τ (92 + 4 * r) 9) (cR c r) (RuC τ) ∧ OkO (tP τ (92 + 4 * r) 10) (cF c r) (FoC τ) ∧ OkO (tP τ (92 + 4 * r) 11) (cW c r) (WoC τ r))
/-- a word as a number -/
def wen : List Int → Int
  | l => l.foldl (fun v x => 32 * v + (x - 96)) 0
def RM (τ : T2) (c : CO) : Prop := (tI τ 220 4 = (cn c 0 : Int) ∧ tI τ 220 5 = (cn c 1 : Int) ∧ tI τ 220 6 = (cn c 2 : Int)) ∧ IM τ (ok c) (cD c) ∧ (∀ w, w < cn c 2 → tI τ 223 w = wen (wdl c w)) ∧ (∀ t, t < cn c 1 → tI τ (416 + 7 * t) 2 = ((cP c t).length : Int) ∧ (∀ j x, (cP c t)[j]? = some x → tI τ (421 + 7 * t) j = x.1 ∧ tI τ (422 + 7 * t) j = x.2)) ∧ (∀ r, r < cn c 0 → OkO (tP τ (336 + 4 * r) 9) (cR c r) (RuM τ) ∧ OkO (tP τ (336 + 4 * r) 10) (cF c r) (FoM τ) ∧ OkO (tP τ (336 + 4 * r) 11) (cW c r) (WoM τ r))
section FRM
variable {τ τ1 : T2} {c : CO} {P : Nat → Nat → Prop}
theorem RC.oc (h : RC τ c) (w : WF c) (F : FX2 τ) (o : OC P τ τ1) (hp : ∀ a k, P a k → ¬ DC a k ∧ a < 473) : RC τ1 c := by
  obtain ⟨⟨h1, h2, h3⟩, h4, h5, h6⟩ := h
  have N := F.1
  have sm : ∀ a k, DC a k → a < 473 → tI τ1 a k = tI τ a k ∧ tP τ1 a k = tP τ a k := fun a k hd ha => o.2.2.2 a k (by omega) (fun z => (hp a k z).1 hd)
  have fr : Fr τ τ1 := o.fr fun a k z => (hp a k z).2
  refine ⟨⟨?_, ?_, ?_⟩, h4.oc N o (fun a k z => (hp a k z).1), fun a ha => ?_, fun r hr => ?_⟩
  · rw [(sm 64 3 (by unfold DC; omega) (by omega)).1]; exact h1
  · rw [(sm 64 6 (by unfold DC; omega) (by omega)).1]; exact h2
  · rw [(sm 70 2 (by unfold DC; omega) (by omega)).1]; exact h3
  · rw [(sm 67 a (by unfold DC; omega) (by omega)).1]; exact h5 a ha
  · have hr20 := w.1.1
    obtain ⟨a1, a2, a3⟩ := h6 r hr
    rw [(sm (92 + 4 * r) 9 (by unfold DC; omega) (by omega)).2, (sm (92 + 4 * r) 10 (by unfold DC; omega) (by omega)).2, (sm (92 + 4 * r) 11 (by unfold DC; omega) (by omega)).2]
    exact ⟨a1.mo fun _ _ z => z.fr fr, a2.mo fun _ _ z => z.fr fr, a3.mo fun _ _ z => z.fr fr⟩
theorem RM.oc (h : RM τ c) (w : WF c) (F : FX2 τ) (o : OC P τ τ1) (hp : ∀ a k, P a k → ¬ DM a k ∧ a < 473) : RM τ1 c := by
  obtain ⟨⟨h1, h2, h3⟩, h4, h5, h7, h6⟩ := h
  have N := F.1
  have sm : ∀ a k, DM a k → a < 473 → tI τ1 a k = tI τ a k ∧ tP τ1 a k = tP τ a k := fun a k hd ha => o.2.2.2 a k (by omega) (fun z => (hp a k z).1 hd)
  have fr : Fr τ τ1 := o.fr fun a k z => (hp a k z).2
  have hr20 := w.1.1
  have hr8 := w.1.2.1
  refine ⟨⟨?_, ?_, ?_⟩, h4.oc N o (fun a k z => (hp a k z).1), fun a ha => ?_, fun t ht => ⟨?_, fun j x hj => ⟨?_, ?_⟩⟩, fun r hr => ?_⟩
  · rw [(sm 220 4 (by unfold DM; omega) (by omega)).1]; exact h1
  · rw [(sm 220 5 (by unfold DM; omega) (by omega)).1]; exact h2
  · rw [(sm 220 6 (by unfold DM; omega) (by omega)).1]; exact h3
  · rw [(sm 223 a (by unfold DM; omega) (by omega)).1]; exact h5 a ha
  · rw [(sm (416 + 7 * t) 2 (by unfold DM; omega) (by omega)).1]; exact (h7 t ht).1
  · rw [(sm (421 + 7 * t) j (by unfold DM; omega) (by omega)).1]; exact ((h7 t ht).2 j x hj).1
  · rw [(sm (422 + 7 * t) j (by unfold DM; omega) (by omega)).1]; exact ((h7 t ht).2 j x hj).2
  · obtain ⟨a1, a2, a3⟩ := h6 r hr
    rw [(sm (336 + 4 * r) 9 (by unfold DM; omega) (by omega)).2, (sm (336 + 4 * r) 10 (by unfold DM; omega) (by omega)).2, (sm (336 + 4 * r) 11 (by unfold DM; omega) (by omega)).2]
    exact ⟨a1.mo fun _ _ z => z.fr fr, a2.mo fun _ _ z => z.fr fr, a3.mo fun _ _ z => z.fr fr⟩
end FRM
/-- the log: an act's numbers, the text before -/
abbrev NT5 : Type := Int × Int × Int × Int × Int
abbrev ENT : Type := NT5 × Option Nat
abbrev ENM : Type := NT5 × Option Nat × Option Nat × Option Nat
def EnC (τ : T2) (j : Nat) (e : ENT) : Prop := (tI τ 90 (5 * j) = e.1.1 ∧ tI τ 90 (5 * j + 1) = e.1.2.1 ∧ tI τ 90 (5 * j + 2) = e.1.2.2.1 ∧ tI τ 90 (5 * j + 3) = e.1.2.2.2.1 ∧ tI τ 90 (5 * j + 4) = e.1.2.2.2.2) ∧ tP τ 91 j = e.2
def EnM (τ : T2) (a : Nat) (e : ENM) : Prop := (tI τ a 0 = e.1.1 ∧ tI τ a 1 = e.1.2.1 ∧ tI τ a 2 = e.1.2.2.1 ∧ tI τ a 3 = e.1.2.2.2.1 ∧ tI τ a 4 = e.1.2.2.2.2) ∧ tP τ a 5 = e.2.1 ∧ tP τ a 6 = e.2.2.1 ∧ tP τ a 7 = e.2.2.2
def LgC (τ : T2) (E : List ENT) : Prop := ∃ top : Nat, top < 100 ∧ tI τ 89 2 = (top : Int) ∧ tI τ 89 3 = (E.length : Int) ∧ E.length ≤ 100 ∧ ∀ i e, E[i]? = some e → EnC τ ((top + 99 - i) % 100) e
def LgM (τ : T2) (E : List ENM) : Prop := ∃ p : Nat → Nat, (∀ k, k < 100 → p k < 100 ∧ tP τ 224 k = some (236 + p k)) ∧ (∀ j k, j < 100 → k < 100 → p j = p k → j = k) ∧ tI τ 220 12 = (E.length : Int) ∧ E.length ≤ 100 ∧ ∀ i e, E[i]? = some e → EnM τ (236 + p (E.length - 1 - i)) e
/-- what taking an act back does -/
def LfC (τ : T2) (e : ENT) : Prop := (tI τ 89 4 = e.1.1 ∧ tI τ 89 5 = e.1.2.1 ∧ tI τ 89 6 = e.1.2.2.1 ∧ tI τ 89 7 = e.1.2.2.2.1 ∧ tI τ 89 8 = e.1.2.2.2.2) ∧ tP τ 89 9 = e.2
def UndC (τ : T2) (e : ENT) (c c1 : CO) : Prop := ∀ (τ1 : T2) (d : Nat) (Q : RS → T2 → Prop), 30 ≤ d → Fr τ τ1 → FX2 τ1 → RC τ1 c → LfC τ1 e → (∀ τ2, OC DC τ1 τ2 → FX2 τ2 → tN τ2 = tN τ1 → tZ τ2 = tZ τ1 → RC τ2 c1 → Q (.inl none) τ2) → (e.1.1 < 8 → G d 145 0 [vR 64, none, none] [] τ1 Q) ∧ (8 ≤ e.1.1 → G d 146 0 [vR 64, none, none] [] τ1 Q)
def UndM (τ : T2) (e : ENM) (c c1 : CO) : Prop := ∀ (τ1 : T2) (d : Nat) (Q : RS → T2 → Prop) (q : Nat), 30 ≤ d → Fr τ τ1 → FX2 τ1 → RM τ1 c → 236 ≤ q → q < 336 → EnM τ1 q e → (∀ τ2, OC DM τ1 τ2 → FX2 τ2 → tN τ2 = tN τ1 → tZ τ2 = tZ τ1 → RM τ2 c1 → Q (.inl (some (AI 1))) τ2) → G d 171 38 [vR 220, vR q, none] [AI e.1.1] τ1 Q
theorem UndC.fr {τ τ1 : T2} {e : ENT} {c c1 : CO} (h : UndC τ e c c1) (f : Fr τ τ1) : UndC τ1 e c c1 := fun τ2 d Q hd f2 => h τ2 d Q hd (f.tr f2)
theorem UndM.fr {τ τ1 : T2} {e : ENM} {c c1 : CO} (h : UndM τ e c c1) (f : Fr τ τ1) : UndM τ1 e c c1 := fun τ2 d Q q hd f2 => h τ2 d Q q hd (f.tr f2)
def ChC (τ : T2) : CO → List CO → List ENT → Prop
  | _, [], [] => True
  | c, c1 :: cs, e :: E => UndC τ e c c1 ∧ ChC τ c1 cs E
  | _, _, _ => False
def ChM (τ : T2) : CO → List CO → List ENM → Prop
  | _, [], [] => True
  | c, c1 :: cs, e :: E => UndM τ e c c1 ∧ ChM τ c1 cs E
  | _, _, _ => False
theorem ChC.fr {τ τ1 : T2} (f : Fr τ τ1) : ∀ (cs : List CO) (E : List ENT) (c : CO), ChC τ c cs E → ChC τ1 c cs E
  | [], [], _, _ => trivial
  | c1 :: cs, e :: E, c, h => ⟨h.1.fr f, ChC.fr f cs E c1 h.2⟩
  | [], _ :: _, _, h => h.elim
  | _ :: _, [], _, h => h.elim
theorem ChM.fr {τ τ1 : T2} (f : Fr τ τ1) : ∀ (cs : List CO) (E : List ENM) (c : CO), ChM τ c cs E → ChM τ1 c cs E
  | [], [], _, _ => trivial
  | c1 :: cs, e :: E, c, h => ⟨h.1.fr f, ChM.fr f cs E c1 h.2⟩
  | [], _ :: _, _, h => h.elim
  | _ :: _, [], _, h => h.elim
theorem ChC.len {τ : T2} : ∀ (cs : List CO) (E : List ENT) (c : CO), ChC τ c cs E → cs.length = E.length
  | [], [], _, _ => rfl
  | c1 :: cs, e :: E, c, h => by simp [ChC.len cs E c1 h.2]
  | [], _ :: _, _, h => h.elim
  | _ :: _, [], _, h => h.elim
theorem ChM.len {τ : T2} : ∀ (cs : List CO) (E : List ENM) (c : CO), ChM τ c cs E → cs.length = E.length
  | [], [], _, _ => rfl
  | c1 :: cs, e :: E, c, h => by simp [ChM.len cs E c1 h.2]
  | [], _ :: _, _, h => h.elim
  | _ :: _, [], _, h => h.elim
theorem ChC.tk {τ : T2} : ∀ (n : Nat) (cs : List CO) (E : List ENT) (c : CO), ChC τ c cs E → ChC τ c (cs.take n) (E.take n)
  | 0, _, _, _, _ => by simp [ChC]
  | n + 1, [], [], _, _ => by simp [ChC]
  | n + 1, c1 :: cs, e :: E, c, h => ⟨h.1, ChC.tk n cs E c1 h.2⟩
  | _ + 1, [], _ :: _, _, h => h.elim
  | _ + 1, _ :: _, [], _, h => h.elim
theorem ChM.tk {τ : T2} : ∀ (n : Nat) (cs : List CO) (E : List ENM) (c : CO), ChM τ c cs E → ChM τ c (cs.take n) (E.take n)
  | 0, _, _, _, _ => by simp [ChM]
  | n + 1, [], [], _, _ => by simp [ChM]
  | n + 1, c1 :: cs, e :: E, c, h => ⟨h.1, ChM.tk n cs E c1 h.2⟩
  | _ + 1, [], _ :: _, _, h => h.elim
  | _ + 1, _ :: _, [], _, h => h.elim
/-- all: the core, those before, tape, what is shown, trouble, where, fault -/
abbrev HSx : Type := CO × List CO × List Int × List Int × Int × Int × Int
def TpC (τ : T2) (l : List Int) : Prop := tI τ 64 1 = (l.length : Int) ∧ Ls τ 65 l
def TpM (τ : T2) (l : List Int) : Prop := tI τ 220 15 = (l.length : Int) ∧ Ls τ 226 l
def OuC (τ : T2) (l : List Int) : Prop := ∃ w v, ((w = 80 ∧ v = 82) ∨ (w = 82 ∧ v = 80)) ∧ tP τ 64 12 = some w ∧ tP τ 64 13 = some v ∧ tI τ w 1 = (l.length : Int) ∧ Ls τ (w + 1) l
def OuM (τ : T2) (l : List Int) : Prop := tI τ 220 34 = (l.length : Int) ∧ Ls τ 232 l
def CI (τ : T2) (S : HSx) : Prop := RC τ S.1 ∧ (∃ E, LgC τ E ∧ ChC τ S.1 S.2.1 E) ∧ TpC τ S.2.2.1 ∧ OuC τ S.2.2.2.1 ∧ tI τ 64 16 = S.2.2.2.2.1 ∧ (S.2.2.2.2.1 = 4 → tI τ 73 7 = S.2.2.2.2.2.1) ∧ tI τ 64 17 = S.2.2.2.2.2.2
def MI (τ : T2) (S : HSx) : Prop := RM τ S.1 ∧ (∃ E, LgM τ E ∧ ChM τ S.1 S.2.1 E) ∧ TpM τ S.2.2.1 ∧ OuM τ S.2.2.2.1 ∧ tI τ 220 1 = S.2.2.2.2.1 ∧ tI τ 220 2 = S.2.2.2.2.2.1 ∧ tI τ 220 3 = S.2.2.2.2.2.2
def WS (S : HSx) : Prop := (∀ c ∈ S.1 :: S.2.1, WF c) ∧ S.2.2.1.length ≤ 300 ∧ (∀ x ∈ S.2.2.1, -128 ≤ x ∧ x ≤ 127) ∧ S.2.2.2.1.length ≤ 24 ∧ (S.2.2.2.2.1 ≠ 4 → S.2.2.2.2.2.1 = -1)
section FR2
variable {τ τ1 : T2} {P : Nat → Nat → Prop}
theorem Ls.oc {a : Nat} {l : List Int} (h : Ls τ a l) (ha : a < tN τ) (o : OC P τ τ1) (hp : ∀ k, ¬ P a k) : Ls τ1 a l := fun j hj => by rw [(o.2.2.2 a j ha (hp j)).1]; exact h j hj
theorem LgC.oc {E : List ENT} (h : LgC τ E) (F : FX2 τ) (o : OC P τ τ1) (hp : ∀ a k, P a k → ¬ (a = 90 ∨ a = 91 ∨ (a = 89 ∧ (k = 2 ∨ k = 3)))) : LgC τ1 E := by
  obtain ⟨top, h1, h2, h3, h4, h5⟩ := h
  have N := F.1
  have sm : ∀ a k, (a = 90 ∨ a = 91 ∨ (a = 89 ∧ (k = 2 ∨ k = 3))) → tI τ1 a k = tI τ a k ∧ tP τ1 a k = tP τ a k := fun a k hd => o.2.2.2 a k (by omega) (fun z => hp a k z hd)
  refine ⟨top, h1, by rw [(sm 89 2 (by omega)).1]; exact h2, by rw [(sm 89 3 (by omega)).1]; exact h3, h4, fun i e he => ?_⟩
  obtain ⟨⟨a1, a2, a3, a4, a5⟩, a6⟩ := h5 i e he
  refine ⟨⟨?_, ?_, ?_, ?_, ?_⟩, ?_⟩
  · rw [(sm 90 _ (by omega)).1]; exact a1
  · rw [(sm 90 _ (by omega)).1]; exact a2
  · rw [(sm 90 _ (by omega)).1]; exact a3
  · rw [(sm 90 _ (by omega)).1]; exact a4
  · rw [(sm 90 _ (by omega)).1]; exact a5
  · rw [(sm 91 _ (by omega)).2]; exact a6
theorem EnM.oc {e : ENM} {q : Nat} (h : EnM τ q e) (hq : q < tN τ) (o : OC P τ τ1) (hp : ∀ k, ¬ P q k) : EnM τ1 q e := by
  obtain ⟨⟨a1, a2, a3, a4, a5⟩, a6, a7, a8⟩ := h
  have sm : ∀ k, tI τ1 q k = tI τ q k ∧ tP τ1 q k = tP τ q k := fun k => o.2.2.2 q k hq (hp k)
  unfold EnM
  rw [(sm 0).1, (sm 1).1, (sm 2).1, (sm 3).1, (sm 4).1, (sm 5).2, (sm 6).2, (sm 7).2]
  exact ⟨⟨a1, a2, a3, a4, a5⟩, a6, a7, a8⟩
theorem LgM.oc {E : List ENM} (h : LgM τ E) (F : FX2 τ) (o : OC P τ τ1) (hp : ∀ a k, P a k → ¬ (a = 224 ∨ (236 ≤ a ∧ a < 336) ∨ (a = 220 ∧ k = 12))) : LgM τ1 E := by
  obtain ⟨p, h1, h2, h3, h4, h5⟩ := h
  have N := F.1
  have sm : ∀ a k, (a = 224 ∨ (236 ≤ a ∧ a < 336) ∨ (a = 220 ∧ k = 12)) → tI τ1 a k = tI τ a k ∧ tP τ1 a k = tP τ a k := fun a k hd => o.2.2.2 a k (by omega) (fun z => hp a k z hd)
  refine ⟨p, fun k hk => ⟨(h1 k hk).1, by rw [(sm 224 k (by omega)).2]; exact (h1 k hk).2⟩, h2, by rw [(sm 220 12 (by omega)).1]; exact h3, h4, fun i e he => ?_⟩
  have hi : i < E.length := (List.getElem?_eq_some_iff.mp he).1
  have h9 := (h1 (E.length - 1 - i) (by omega)).1
  exact (h5 i e he).oc (by omega) o (fun k z => hp _ _ z (by omega))
theorem CI.kp {S : HSx} (h : CI τ S) (w : WS S) (F : FX2 τ) (o : Kp 220 472 τ τ1) : CI τ1 S := by
  have o := OC_kp o
  have N := F.1
  obtain ⟨h1, ⟨E, h2, h3⟩, ⟨h4, h5⟩, ⟨w1, v1, h6, h7, h8, h9, h10⟩, h11, h12, h13⟩ := h
  have sm : ∀ a k, a < 220 → tI τ1 a k = tI τ a k ∧ tP τ1 a k = tP τ a k := fun a k hd => o.2.2.2 a k (by omega) (by omega)
  refine ⟨h1.oc (w.1 _ (by simp)) F o (fun a k z => ⟨by unfold DC; omega, by omega⟩), ⟨E, h2.oc F o (fun a k z => by omega), h3.fr (o.fr fun a k z => by omega)⟩, ⟨by rw [(sm 64 1 (by omega)).1]; exact h4, h5.oc (by omega) o (fun k => by omega)⟩, ⟨w1, v1, h6, by rw [(sm 64 12 (by omega)).2]; exact h7, by rw [(sm 64 13 (by omega)).2]; exact h8, by rw [(sm w1 1 (by omega)).1]; exact h9, h10.oc (by omega) o (fun k => by omega)⟩, by rw [(sm 64 16 (by omega)).1]; exact h11, fun z => by rw [(sm 73 7 (by omega)).1]; exact h12 z, by rw [(sm 64 17 (by omega)).1]; exact h13⟩
theorem MI.kp {S : HSx} (h : MI τ S) (w : WS S) (F : FX2 τ) (o : Kp 64 220 τ τ1) : MI τ1 S := by
  have o := OC_kp o
  have N := F.1
  obtain ⟨h1, ⟨E, h2, h3⟩, ⟨h4, h5⟩, ⟨h6, h7⟩, h11, h12, h13⟩ := h
  have sm : ∀ a k, 220 ≤ a → a < 472 → tI τ1 a k = tI τ a k ∧ tP τ1 a k = tP τ a k := fun a k hd _ => o.2.2.2 a k (by omega) (by omega)
  refine ⟨h1.oc (w.1 _ (by simp)) F o (fun a k z => ⟨by unfold DM; omega, by omega⟩), ⟨E, h2.oc F o (fun a k z => by omega), h3.fr (o.fr fun a k z => by omega)⟩, ⟨by rw [(sm 220 15 (by omega) (by omega)).1]; exact h4, h5.oc (by omega) o (fun k => by omega)⟩, ⟨by rw [(sm 220 34 (by omega) (by omega)).1]; exact h6, h7.oc (by omega) o (fun k => by omega)⟩, by rw [(sm 220 1 (by omega) (by omega)).1]; exact h11, by rw [(sm 220 2 (by omega) (by omega)).1]; exact h12, by rw [(sm 220 3 (by omega) (by omega)).1]; exact h13⟩
end FR2
