/-! CALLS: what each side must show of one; those that only read -/
abbrev sTp (S : HSx) : List Int := S.2.2.1
abbrev sOu (S : HSx) : List Int := S.2.2.2.1
abbrev sTr (S : HSx) : Int := S.2.2.2.2.1
abbrev sWh (S : HSx) : Int := S.2.2.2.2.2.1
abbrev sFa (S : HSx) : Int := S.2.2.2.2.2.2
/-- how a call ends: what it may change, its room, the state -/
def EC (τ τ1 : T2) (S : HSx) : Prop := Kp 64 220 τ τ1 ∧ FX2 τ1 ∧ tN τ1 ≤ tN τ + 3 ∧ tZ τ1 ≤ tZ τ + 1502 ∧ CI τ1 S
def EM (τ τ1 : T2) (S : HSx) : Prop := Kp 220 472 τ τ1 ∧ FX2 τ1 ∧ tN τ1 ≤ tN τ + 1170 ∧ tZ τ1 ≤ tZ τ + 12704 ∧ MI τ1 S
def CCl (mi : Nat) (as : LO) (sp : HSx → Int × HSx) : Prop := ∀ (d : Nat) (τ : T2) (S : HSx) (Q : RS → T2 → Prop), 100 ≤ d → FX2 τ → CI τ S → WS S → (∀ τ1, EC τ τ1 (sp S).2 → Q (.inl (some (AI (sp S).1))) τ1) → G d mi 0 as [] τ Q
def MCl (mi : Nat) (as : LO) (sp : HSx → Int × HSx) : Prop := ∀ (d : Nat) (τ : T2) (S : HSx) (Q : RS → T2 → Prop), 100 ≤ d → FX2 τ → MI τ S → WS S → (∀ τ1, EM τ τ1 (sp S).2 → Q (.inl (some (AI (sp S).1))) τ1) → G d mi 0 as [] τ Q
/-- places of the class, of the model that the core and the log don't hold -/
def FC (a k : Nat) : Prop := ¬ DC a k ∧ ¬ LGP a k ∧ 64 ≤ a ∧ a < 220
def FM (a k : Nat) : Prop := ¬ DM a k ∧ ¬ AMP a k ∧ 220 ≤ a ∧ a < 472
section UPS
variable {τ τ1 : T2} {S : HSx} {P : Nat → Nat → Prop}
theorem CI.up (h : CI τ S) (w : WS S) (F : FX2 τ) (o : OC P τ τ1) (hp : ∀ a k, P a k → FC a k) {tp ou : List Int} {tr wh fa : Int} (h1 : TpC τ1 tp) (h2 : OuC τ1 ou) (h3 : tI τ1 64 16 = tr) (h4 : tr = 4 → tI τ1 73 7 = wh) (h5 : tI τ1 64 17 = fa) : CI τ1 (S.1, S.2.1, tp, ou, tr, wh, fa) := by
  obtain ⟨a1, ⟨E, a2, a3⟩, -⟩ := h
  exact ⟨a1.oc (w.1 _ (by simp)) F o (fun a k z => ⟨(hp a k z).1, by have := (hp a k z).2.2; omega⟩), ⟨E, a2.oc F o (fun a k z => (hp a k z).2.1), a3.fr (o.fr fun a k z => by have := (hp a k z).2.2; omega)⟩, h1, h2, h3, h4, h5⟩
theorem MI.up (h : MI τ S) (w : WS S) (F : FX2 τ) (o : OC P τ τ1) (hp : ∀ a k, P a k → FM a k) {tp ou : List Int} {tr wh fa : Int} (h1 : TpM τ1 tp) (h2 : OuM τ1 ou) (h3 : tI τ1 220 1 = tr) (h4 : tI τ1 220 2 = wh) (h5 : tI τ1 220 3 = fa) : MI τ1 (S.1, S.2.1, tp, ou, tr, wh, fa) := by
  obtain ⟨a1, ⟨E, a2, a3⟩, -⟩ := h
  exact ⟨a1.oc (w.1 _ (by simp)) F o (fun a k z => ⟨(hp a k z).1, by have := (hp a k z).2.2; omega⟩), ⟨E, a2.oc F o (fun a k z => (hp a k z).2.1), a3.fr (o.fr fun a k z => by have := (hp a k z).2.2; omega)⟩, h1, h2, h3, h4, h5⟩
theorem TpC.oc {l : List Int} (h : TpC τ l) (F : FX2 τ) (o : OC P τ τ1) (hp : ∀ a k, P a k → ¬ (a = 65 ∨ (a = 64 ∧ k = 1))) : TpC τ1 l := by
  have N := F.1
  exact ⟨by rw [(o.2.2.2 64 1 (by omega) (fun z => hp _ _ z (by omega))).1]; exact h.1, h.2.oc (by omega) o (fun k z => hp _ _ z (by omega))⟩
theorem TpM.oc {l : List Int} (h : TpM τ l) (F : FX2 τ) (o : OC P τ τ1) (hp : ∀ a k, P a k → ¬ (a = 226 ∨ (a = 220 ∧ k = 15))) : TpM τ1 l := by
  have N := F.1
  exact ⟨by rw [(o.2.2.2 220 15 (by omega) (fun z => hp _ _ z (by omega))).1]; exact h.1, h.2.oc (by omega) o (fun k z => hp _ _ z (by omega))⟩
theorem OuM.oc {l : List Int} (h : OuM τ l) (F : FX2 τ) (o : OC P τ τ1) (hp : ∀ a k, P a k → ¬ (a = 232 ∨ (a = 220 ∧ k = 34))) : OuM τ1 l := by
  have N := F.1
  exact ⟨by rw [(o.2.2.2 220 34 (by omega) (fun z => hp _ _ z (by omega))).1]; exact h.1, h.2.oc (by omega) o (fun k z => hp _ _ z (by omega))⟩
theorem OuC.oc {l : List Int} (h : OuC τ l) (F : FX2 τ) (o : OC P τ τ1) (hp : ∀ a k, P a k → ¬ ((80 ≤ a ∧ a ≤ 83) ∨ (a = 64 ∧ (k = 12 ∨ k = 13)))) : OuC τ1 l := by
  have N := F.1
  obtain ⟨w, v, h1, h2, h3, h4, h5⟩ := h
  have sm : ∀ a k, a < 473 → ((80 ≤ a ∧ a ≤ 83) ∨ (a = 64 ∧ (k = 12 ∨ k = 13))) → tI τ1 a k = tI τ a k ∧ tP τ1 a k = tP τ a k := fun a k hN hd => o.2.2.2 a k (by omega) (fun z => hp a k z hd)
  exact ⟨w, v, h1, by rw [(sm 64 12 (by omega) (by omega)).2]; exact h2, by rw [(sm 64 13 (by omega) (by omega)).2]; exact h3, by rw [(sm w 1 (by omega) (by omega)).1]; exact h4, h5.oc (by omega) o (fun k z => hp _ _ z (by omega))⟩
theorem EC.rf (F : FX2 τ) (h : CI τ S) : EC τ τ S := ⟨Kp.rf, F, by omega, by omega, h⟩
/-- the model's calls begin so -/
theorem MI.t0 (h : MI τ S) (w : WS S) (F : FX2 τ) {x : Int} : MI (uI τ 220 0 x) S := by
  have o : OC (fun a k => a = 220 ∧ k = 0) τ (uI τ 220 0 x) := OC.j (P := fun a k => a = 220 ∧ k = 0) OC.rf ⟨rfl, rfl⟩
  have g : ∀ k, k ≠ 0 → tI (uI τ 220 0 x) 220 k = tI τ 220 k := fun k hk => by rw [tI_uI, if_neg (fun z => hk z.2)]
  have h0 := h
  obtain ⟨-, -, h1, h2, h3, h4, h5⟩ := h0
  exact h.up w F o (fun a k z => by unfold FM DM AMP; omega) (h1.oc F o (fun a k z => by omega)) (h2.oc F o (fun a k z => by omega)) (by rw [g _ (by decide)]; exact h3) (by rw [g _ (by decide)]; exact h4) (by rw [g _ (by decide)]; exact h5)
theorem EM.t0 (h : MI τ S) (w : WS S) (F : FX2 τ) {x : Int} : EM τ (uI τ 220 0 x) S := ⟨Kp.rf.j (by omega) (by omega), F.j, Nat.le_add_right _ _, Nat.le_add_right _ _, h.t0 w F⟩
/-- refused, or done, and nothing else has changed -/
def rfS (S : HSx) (why : Int) : HSx := (S.1, S.2.1, S.2.2.1, S.2.2.2.1, why, -1, S.2.2.2.2.2.2)
theorem CI.rfs (h : CI τ S) (w : WS S) (F : FX2 τ) {why : Int} (h4 : why ≠ 4) : CI (uI τ 64 16 why) (rfS S why) := by
  have o : OC (fun a k => a = 64 ∧ k = 16) τ (uI τ 64 16 why) := OC.j (P := fun a k => a = 64 ∧ k = 16) OC.rf ⟨rfl, rfl⟩
  have h0 := h
  obtain ⟨-, -, h1, h2, h3, h5, h6⟩ := h0
  exact h.up w F o (fun a k z => by unfold FC DC LGP; omega) (h1.oc F o (fun a k z => by omega)) (h2.oc F o (fun a k z => by omega)) (by rw [tI_uI, if_pos ⟨rfl, rfl⟩]) (fun z => absurd z h4) (by rw [tI_uI, if_neg (by decide)]; exact h6)
theorem MI.rfs (h : MI τ S) (w : WS S) (F : FX2 τ) {why : Int} : MI (uI (uI τ 220 1 why) 220 2 (-1)) (rfS S why) := by
  have o : OC (fun a k => a = 220 ∧ (k = 1 ∨ k = 2)) τ (uI (uI τ 220 1 why) 220 2 (-1)) := OC.j (P := fun a k => a = 220 ∧ (k = 1 ∨ k = 2)) (OC.j (P := fun a k => a = 220 ∧ (k = 1 ∨ k = 2)) OC.rf ⟨rfl, Or.inl rfl⟩) ⟨rfl, Or.inr rfl⟩
  have h0 := h
  obtain ⟨-, -, h1, h2, h3, h5, h6⟩ := h0
  exact h.up w F o (fun a k z => by unfold FM DM AMP; omega) (h1.oc F o (fun a k z => by omega)) (h2.oc F o (fun a k z => by omega)) (by rw [tI_uI, if_neg (by decide), tI_uI, if_pos ⟨rfl, rfl⟩]) (by rw [tI_uI, if_pos ⟨rfl, rfl⟩]) (by rw [tI_uI, if_neg (by decide), tI_uI, if_neg (by decide)]; exact h6)
theorem EC.rfs (F : FX2 τ) (h : CI τ S) (w : WS S) {why : Int} (h4 : why ≠ 4) : EC τ (uI τ 64 16 why) (rfS S why) := ⟨Kp.rf.j (by omega) (by omega), F.j, Nat.le_add_right _ _, Nat.le_add_right _ _, h.rfs w F h4⟩
theorem WS.rfs (w : WS S) (why : Int) : WS (rfS S why) := ⟨w.1, w.2.1, w.2.2.1, w.2.2.2.1, fun _ => rfl⟩
/-- one after another -/
theorem EM.bef (h1 : Kp 220 472 τ τ1) (hn : tN τ1 = tN τ) (hz : tZ τ1 = tZ τ) {τ2 : T2} (h : EM τ1 τ2 S) : EM τ τ2 S := ⟨h1.tr h.1, h.2.1, by have := h.2.2.1; omega, by have := h.2.2.2.1; omega, h.2.2.2.2⟩
theorem EC.bef (h1 : Kp 64 220 τ τ1) (hn : tN τ1 = tN τ) (hz : tZ τ1 = tZ τ) {τ2 : T2} (h : EC τ1 τ2 S) : EC τ τ2 S := ⟨h1.tr h.1, h.2.1, by have := h.2.2.1; omega, by have := h.2.2.2.1; omega, h.2.2.2.2⟩
theorem EM.rfs (F : FX2 τ) (h : MI τ S) (w : WS S) {why : Int} : EM τ (uI (uI τ 220 1 why) 220 2 (-1)) (rfS S why) := ⟨(Kp.rf.j (by omega) (by omega)).j (by omega) (by omega), F.j.j, Nat.le_add_right _ _, Nat.le_add_right _ _, h.rfs w F⟩
theorem EM.t0r (F : FX2 τ) (h : MI τ S) (w : WS S) {x why : Int} : EM τ (uI (uI (uI τ 220 0 x) 220 1 why) 220 2 (-1)) (rfS S why) := EM.bef (Kp.rf.j (by omega) (by omega)) rfl rfl (EM.rfs F.j (h.t0 w F) w)
end UPS
/-- one of a list, by its number -/
def sel (x : Int) (l : List Int) : Int := if 0 ≤ x then l.getD x.toNat (-1) else -1
theorem sel_out {x : Int} {l : List Int} (h : x < 0 ∨ (l.length : Int) ≤ x) : sel x l = -1 := by
  unfold sel
  rcases h with h | h
  · rw [if_neg (by omega)]
  · split
    · rw [List.getD_eq_getElem?_getD, List.getElem?_eq_none (by omega)]; rfl
    · rfl
theorem OkO.nn {α : Type} {p : Option Nat} {o : Option α} {R : Nat → α → Prop} (h : OkO p o R) (e : p = none) : o = none := by
  rcases h with h | ⟨q, f, h1, -⟩
  · exact h.1
  · rw [e] at h1; cases h1
theorem OkO.ss {α : Type} {p : Option Nat} {o : Option α} {R : Nat → α → Prop} {q : Nat} (h : OkO p o R) (e : p = some q) : ∃ f, o = some f ∧ R q f := by
  rcases h with h | ⟨q1, f, h1, h2, h3⟩
  · rw [h.2] at e; cases e
  · rw [h1] at e; cases e; exact ⟨f, h2, h3⟩
def sp_fault (S : HSx) : Int × HSx := (sFa S, S)
def sp_where (S : HSx) : Int × HSx := (sWh S, S)
def sp_trouble (S : HSx) : Int × HSx := (sTr S, S)
def sp_count (x : Int) (S : HSx) : Int × HSx := (sel x [cn S.1 0, cn S.1 1, cn S.1 2, cD S.1 0 0 0, S.2.1.length, (sTp S).length, (sOu S).length], S)
def inR (x : Int) (n : Nat) : Prop := 0 ≤ x ∧ x < n
def sp_about (x y : Int) (S : HSx) : Int × HSx := (if 0 ≤ x ∧ x < (cn S.1 0 : Int) then sel y [cD S.1 1 x.toNat 0, cD S.1 1 x.toNat 1, cD S.1 1 x.toNat 2, cD S.1 1 x.toNat 3, cD S.1 1 x.toNat 4, cD S.1 1 x.toNat 5, bi (cR S.1 x.toNat).isSome, bi (cF S.1 x.toNat).isSome, bi (cW S.1 x.toNat).isSome] else -1, S)
def sp_teamOf (x y : Int) (S : HSx) : Int × HSx := (if 0 ≤ x ∧ x < (cn S.1 1 : Int) then sel y [cD S.1 5 x.toNat 0, (cnt (slT S.1 x.toNat (cD S.1 0 0 0)) 20 : Nat), wr (laT S.1 x.toNat (cD S.1 0 0 0) + prT S.1 x.toNat (cD S.1 0 0 0)), wr (cD S.1 0 0 0 - laT S.1 x.toNat (cD S.1 0 0 0)), prT S.1 x.toNat (cD S.1 0 0 0), cD S.1 5 x.toNat 1, (enc (slT S.1 x.toNat (cD S.1 0 0 0)) 20 : Nat)] else -1, S)
def sp_told (x y z : Int) (S : HSx) : Int × HSx := (if (0 ≤ x ∧ x < (cn S.1 1 : Int)) ∧ 0 ≤ y ∧ y < (cn S.1 0 : Int) then sel z [cD S.1 6 x.toNat y.toNat, cD S.1 7 x.toNat y.toNat, cD S.1 8 x.toNat y.toNat, cD S.1 9 x.toNat y.toNat] else -1, S)
theorem WS.wh {S : HSx} (w : WS S) (h : sTr S ≠ 4) : sWh S = -1 := w.2.2.2.2 h
section RD
variable {x y z : Int}
theorem cc99 : CCl 99 [vR 64] sp_fault := fun d τ S Q hd F C w k => by
  have := k τ (EC.rf F C)
  refine t99_0 (F.sh rfl (by omega) (by omega)) ?_
  rw [C.2.2.2.2.2.2]
  exact this
theorem mc217 : MCl 217 [vR 220] sp_fault := fun d τ S Q hd F C w k => by
  have := k _ (EM.t0 C w F (x := 0))
  refine t217_0 (F.sh rfl (by omega) (by omega)) ?_
  rw [(C.t0 w F).2.2.2.2.2.2]
  exact this
theorem cc100 : CCl 100 [vR 64] sp_where := fun d τ S Q hd F C w k => by
  have := k τ (EC.rf F C)
  refine t100_0 (q3 := 73) (F.sh rfl (by omega) (by omega)) (F.p rfl) (F.sh rfl (by omega) (by omega)) (fun c => ?_) (fun c => ?_)
  · rw [C.2.2.2.2.1] at c
    rw [← w.wh c]
    exact this
  · have e := C.2.2.2.2.1
    rw [C.2.2.2.2.2.1 (by rw [← e]; exact c)]
    exact this
theorem mc218 : MCl 218 [vR 220] sp_where := fun d τ S Q hd F C w k => by
  have := k _ (EM.t0 C w F (x := 0))
  refine t218_0 (F.sh rfl (by omega) (by omega)) ?_
  rw [(C.t0 w F).2.2.2.2.2.1]
  exact this
theorem cc124 : CCl 124 [vR 64] sp_trouble := fun d τ S Q hd F C w k => by
  have := k τ (EC.rf F C)
  refine t124_0 (F.sh rfl (by omega) (by omega)) ?_
  rw [C.2.2.2.2.1]
  exact this
theorem mc245 : MCl 245 [vR 220] sp_trouble := fun d τ S Q hd F C w k => by
  have := k _ (EM.t0 C w F (x := 0))
  refine t245_0 (F.sh rfl (by omega) (by omega)) ?_
  rw [(C.t0 w F).2.2.2.2.1]
  exact this
theorem cc123 : CCl 123 [vR 64, vI x] (sp_count x) := fun d τ S Q hd F C w k => by
  have := k τ (EC.rf F C)
  have fin : ∀ v, v = (sp_count x S).1 → Q (.inl (some (AI v))) τ := fun v hv => by rw [hv]; exact this
  have s0 : tS τ 64 = (1, 11, 0) := F.sh rfl (by omega) (by omega)
  obtain ⟨R, ⟨E, L, hE⟩, T, ⟨a, b, o1, o2, o3, o4, o5⟩, -⟩ := C
  have hl := hE.len
  have so : tS τ a = (1, 7, 0) := by
    rcases o1 with o | o
    · rw [o.1]; exact F.sh rfl (by omega) (by omega)
    · rw [o.1]; exact F.sh rfl (by omega) (by omega)
  refine t123_0 (t123_1 (fun c => ?_) (fun c => ?_) (fun c => ?_) (fun c => ?_) (fun c => ?_) (fun c => ?_) (fun c => ?_) (fun c => ?_))
  · subst c; exact t123_44 s0 (fin _ R.1.1)
  · subst c; exact t123_49 s0 (fin _ R.1.2.1)
  · subst c; exact t123_54 (q2 := 70) s0 (F.p rfl) (F.sh rfl (by omega) (by omega)) (fin _ R.1.2.2)
  · subst c; exact t123_62 s0 (fin _ R.now)
  · subst c
    obtain ⟨top, -, -, l3, -⟩ := L
    exact t123_67 (q2 := 89) s0 (F.p rfl) (F.sh rfl (by omega) (by omega)) (fin _ (by rw [l3, ← hl]; rfl))
  · subst c; exact t123_75 s0 (fin _ T.1)
  · subst c; exact t123_80 (q2 := a) s0 o2 so (fin _ o4)
  · exact t123_88 (fin _ (sel_out (by simp only [List.length_cons, List.length_nil]; omega)).symm)
theorem mc244 : MCl 244 [vR 220, vI x] (sp_count x) := fun d τ S Q hd F C w k => by
  have := k _ (EM.t0 C w F (x := 0))
  have C := C.t0 w F (x := 0)
  have s0 : tS (uI τ 220 0 0) 220 = (1, 21, 0) := F.sh rfl (by omega) (by omega)
  refine t244_0 (F.sh rfl (by omega) (by omega)) ?_
  generalize uI τ 220 0 0 = τ1 at *
  have fin : ∀ v, v = (sp_count x S).1 → Q (.inl (some (AI v))) τ1 := fun v hv => by rw [hv]; exact this
  obtain ⟨R, ⟨E, L, hE⟩, T, O, -⟩ := C
  have hl := hE.len
  refine t244_6 (fun c => ?_) (fun c => ?_) (fun c => ?_) (fun c => ?_) (fun c => ?_) (fun c => ?_) (fun c => ?_) (fun c => ?_)
  · subst c; exact t244_48 s0 (fin _ R.1.1)
  · subst c; exact t244_53 s0 (fin _ R.1.2.1)
  · subst c; exact t244_58 s0 (fin _ R.1.2.2)
  · subst c; exact t244_63 s0 (fin _ R.now)
  · subst c
    obtain ⟨p, -, -, l3, -⟩ := L
    exact t244_68 s0 (fin _ (by rw [l3, ← hl]; rfl))
  · subst c; exact t244_73 s0 (fin _ T.1)
  · subst c; exact t244_78 s0 (fin _ O.1)
  · exact t244_83 (fin _ (sel_out (by simp only [List.length_cons, List.length_nil]; omega)).symm)
theorem cc101 : CCl 101 [vR 64, vI x, vI y, none] (sp_about x y) := fun d τ S Q hd F C w k => by
  have := k τ (EC.rf F C)
  have fin : ∀ v, v = (sp_about x y S).1 → Q (.inl (some (AI v))) τ := fun v hv => by rw [hv]; exact this
  have s0 : tS τ 64 = (1, 11, 0) := F.sh rfl (by omega) (by omega)
  have R := C.1
  have w1 := w.1 S.1 (by simp)
  have h20 := w1.1.1
  refine t101_0 (by omega) s0 (c129 F R.1.1 h20 (fun r hr e => ?_) (fun e => ?_))
  · subst e
    have fin2 : ∀ v, v = sel y [cD S.1 1 r 0, cD S.1 1 r 1, cD S.1 1 r 2, cD S.1 1 r 3, cD S.1 1 r 4, cD S.1 1 r 5, bi (cR S.1 r).isSome, bi (cF S.1 r).isSome, bi (cW S.1 r).isSome] → Q (.inl (some (AI v))) τ := fun v hv => fin v (by rw [hv]; unfold sp_about; rw [if_pos (by omega)]; rfl)
    have sr := F.sh (shR r (by omega)).1 (by omega) (by omega)
    obtain ⟨a1, a2, a3⟩ := R.2.2.2 r hr
    refine t101_5 (q3 := 66) (n5 := 20) s0 (F.p rfl) (F.sh rfl (by omega) (by omega)) (fun _ => by omega) (fun _ => ?_) (fun c => absurd c (by decide))
    rw [Int.toNat_natCast, F.p (ptR r (by omega)).1]
    refine t101_18 (fun c => ?_) (fun c => ?_) (fun c => ?_) (fun c => ?_) (fun c => ?_) (fun c => ?_) (fun c => ?_) (fun c => ?_) (fun c => ?_) (fun c => ?_)
    · subst c; exact t101_68 sr (fin2 _ (R.r0 hr))
    · subst c; exact t101_73 sr (fin2 _ (R.r1 hr))
    · subst c; exact t101_78 sr (fin2 _ (R.r2 hr))
    · subst c; exact t101_83 sr (fin2 _ (R.r3 hr))
    · subst c; exact t101_88 sr (fin2 _ (R.r4 hr))
    · subst c; exact t101_93 sr (fin2 _ (R.r5 hr))
    · subst c; exact t101_98 sr (fun c => fin2 _ (by rw [a1.nn c]; rfl)) (fun q c => t101_105 (fin2 _ (by obtain ⟨f, e, -⟩ := a1.ss c; rw [e]; rfl)))
    · subst c; exact t101_111 sr (fun c => fin2 _ (by rw [a2.nn c]; rfl)) (fun q c => t101_118 (fin2 _ (by obtain ⟨f, e, -⟩ := a2.ss c; rw [e]; rfl)))
    · subst c; exact t101_124 sr (fun c => fin2 _ (by rw [a3.nn c]; rfl)) (fun q c => t101_131 (fin2 _ (by obtain ⟨f, e, -⟩ := a3.ss c; rw [e]; rfl)))
    · exact t101_137 (fin2 _ (sel_out (by simp only [List.length_cons, List.length_nil]; omega)).symm)
  · refine t101_5 (q3 := 66) (n5 := 20) s0 (F.p rfl) (F.sh rfl (by omega) (by omega)) (fun c => absurd rfl c) (fun c => absurd rfl c) (fun _ => fin _ ?_)
    unfold sp_about; rw [if_neg (by omega)]
theorem mc219 : MCl 219 [vR 220, vI x, vI y, none] (sp_about x y) := fun d τ S Q hd F C w k => by
  have := k _ (EM.t0 C w F (x := 0))
  have C := C.t0 w F (x := 0)
  have s0 : tS (uI τ 220 0 0) 220 = (1, 21, 0) := F.sh rfl (by omega) (by omega)
  refine t219_0 (by omega) (F.sh rfl (by omega) (by omega)) ?_
  have F : FX2 (uI τ 220 0 0) := F.j
  generalize uI τ 220 0 0 = τ1 at *
  have fin : ∀ v, v = (sp_about x y S).1 → Q (.inl (some (AI v))) τ1 := fun v hv => by rw [hv]; exact this
  have R := C.1
  have w1 := w.1 S.1 (by simp)
  have h20 := w1.1.1
  refine m207 F R.1.1 (fun r hr e => ?_) (fun e => ?_)
  · subst e
    have fin2 : ∀ v, v = sel y [cD S.1 1 r 0, cD S.1 1 r 1, cD S.1 1 r 2, cD S.1 1 r 3, cD S.1 1 r 4, cD S.1 1 r 5, bi (cR S.1 r).isSome, bi (cF S.1 r).isSome, bi (cW S.1 r).isSome] → Q (.inl (some (AI v))) τ1 := fun v hv => fin v (by rw [hv]; unfold sp_about; rw [if_pos (by omega)]; rfl)
    have sr := F.sh (shM r (by omega)).1 (by omega) (by omega)
    obtain ⟨a1, a2, a3⟩ := R.2.2.2.2 r hr
    refine t219_10 (q3 := 221) (n5 := 20) s0 (F.p rfl) (F.sh rfl (by omega) (by omega)) (fun _ => by omega) (fun _ => ?_) (fun c => absurd c (by decide))
    rw [Int.toNat_natCast, F.p (ptM r (by omega)).1]
    refine t219_23 (fun c => ?_) (fun c => ?_) (fun c => ?_) (fun c => ?_) (fun c => ?_) (fun c => ?_) (fun c => ?_) (fun c => ?_) (fun c => ?_) (fun c => ?_)
    · subst c; exact t219_72 sr (fin2 _ (R.rr hr (by omega)))
    · subst c; exact t219_77 sr (fin2 _ (R.rr hr (by omega)))
    · subst c; exact t219_82 sr (fin2 _ (R.rr hr (by omega)))
    · subst c; exact t219_87 sr (fin2 _ (R.rr hr (by omega)))
    · subst c; exact t219_92 sr (fin2 _ (R.rr hr (by omega)))
    · subst c; exact t219_97 sr (fin2 _ (R.rr hr (by omega)))
    · subst c; exact t219_102 sr (fun q c => t219_113 (fin2 _ (by obtain ⟨f, e, -⟩ := a1.ss c; rw [e]; rfl))) (fun c => fin2 _ (by rw [a1.nn c]; rfl))
    · subst c; exact t219_115 sr (fun q c => t219_126 (fin2 _ (by obtain ⟨f, e, -⟩ := a2.ss c; rw [e]; rfl))) (fun c => fin2 _ (by rw [a2.nn c]; rfl))
    · subst c; exact t219_128 sr (fun q c => t219_139 (fin2 _ (by obtain ⟨f, e, -⟩ := a3.ss c; rw [e]; rfl))) (fun c => fin2 _ (by rw [a3.nn c]; rfl))
    · exact t219_141 (fin2 _ (sel_out (by simp only [List.length_cons, List.length_nil]; omega)).symm)
  · refine t219_10 (q3 := 221) (n5 := 20) s0 (F.p rfl) (F.sh rfl (by omega) (by omega)) (fun c => absurd rfl c) (fun c => absurd rfl c) (fun _ => fin _ ?_)
    unfold sp_about; rw [if_neg (by omega)]
theorem cc115 : CCl 115 [vR 64, vI x, vI y, none] (sp_teamOf x y) := fun d τ S Q hd F C w k => by
  have := k τ (EC.rf F C)
  have fin : ∀ v, v = (sp_teamOf x y S).1 → Q (.inl (some (AI v))) τ := fun v hv => by rw [hv]; exact this
  have s0 : tS τ 64 = (1, 11, 0) := F.sh rfl (by omega) (by omega)
  have R := C.1
  have w1 := w.1 S.1 (by simp)
  have h8 := w1.1.2.1
  refine t115_0 (by omega) s0 (c130 F R.1.2.1 h8 (fun r hr e => ?_) (fun e => ?_))
  · subst e
    have fin2 : ∀ v, v = sel y [cD S.1 5 r 0, (cnt (slT S.1 r (cD S.1 0 0 0)) 20 : Nat), wr (laT S.1 r (cD S.1 0 0 0) + prT S.1 r (cD S.1 0 0 0)), wr (cD S.1 0 0 0 - laT S.1 r (cD S.1 0 0 0)), prT S.1 r (cD S.1 0 0 0), cD S.1 5 r 1, (enc (slT S.1 r (cD S.1 0 0 0)) 20 : Nat)] → Q (.inl (some (AI v))) τ := fun v hv => fin v (by rw [hv]; unfold sp_teamOf; rw [if_pos (by omega)]; rfl)
    have sr := F.sh (shT r (by omega)).1 (by omega) (by omega)
    have en : tI τ 64 9 = cD S.1 0 0 0 := R.now
    have p66 : tP τ 64 2 = some 66 := F.p rfl
    refine t115_5 (q3 := 68) (n5 := 8) s0 (F.p rfl) (F.sh rfl (by omega) (by omega)) (fun _ => by omega) (fun _ => ?_) (fun c => absurd c (by decide))
    rw [Int.toNat_natCast, F.p (ptT r (by omega)).1]
    refine t115_18 (fun c => ?_) (fun c => ?_) (fun c => ?_) (fun c => ?_) (fun c => ?_) (fun c => ?_) (fun c => ?_) (fun c => ?_)
    · subst c; exact t115_60 sr (fin2 _ (R.t0 hr))
    · subst c
      refine t115_65 (by omega) s0 sr ?_
      rw [en]
      refine c61' F R w1 hr (t115_73 (by omega) (c246 (enc_lt _ 20) (t115_76 (fin2 _ ?_))))
      rw [bcn_enc]; rfl
    · subst c
      refine t115_77 (by omega) s0 sr ?_
      rw [en, p66]
      exact c64 F R w1 hr (by omega) (t115_89 (fin2 _ rfl))
    · subst c
      refine t115_90 (by omega) s0 sr ?_
      rw [en]
      exact c62' F R w1 hr (t115_102 (fin2 _ rfl))
    · subst c
      refine t115_104 (by omega) s0 sr ?_
      rw [en, p66]
      exact c63' F R w1 hr (t115_116 (fin2 _ rfl))
    · subst c; exact t115_117 sr (fin2 _ (R.t1 hr))
    · subst c
      refine t115_122 (by omega) s0 sr ?_
      rw [en]
      exact c61' F R w1 hr (t115_130 (fin2 _ rfl))
    · exact t115_131 (fin2 _ (sel_out (by simp only [List.length_cons, List.length_nil]; omega)).symm)
  · refine t115_5 (q3 := 68) (n5 := 8) s0 (F.p rfl) (F.sh rfl (by omega) (by omega)) (fun c => absurd rfl c) (fun c => absurd rfl c) (fun _ => fin _ ?_)
    unfold sp_teamOf; rw [if_neg (by omega)]
theorem mc234 : MCl 234 [vR 220, vI x, vI y, none] (sp_teamOf x y) := fun d τ S Q hd F C w k => by
  have := k _ (EM.t0 C w F (x := 0))
  have C := C.t0 w F (x := 0)
  have s0 : tS (uI τ 220 0 0) 220 = (1, 21, 0) := F.sh rfl (by omega) (by omega)
  refine t234_0 (by omega) (F.sh rfl (by omega) (by omega)) ?_
  have F : FX2 (uI τ 220 0 0) := F.j
  generalize uI τ 220 0 0 = τ1 at *
  have fin : ∀ v, v = (sp_teamOf x y S).1 → Q (.inl (some (AI v))) τ1 := fun v hv => by rw [hv]; exact this
  have R := C.1
  have w1 := w.1 S.1 (by simp)
  have h8 := w1.1.2.1
  refine m230 F R.1.2.1 (fun r hr e => ?_) (fun e => ?_)
  · subst e
    have fin2 : ∀ v, v = sel y [cD S.1 5 r 0, (cnt (slT S.1 r (cD S.1 0 0 0)) 20 : Nat), wr (laT S.1 r (cD S.1 0 0 0) + prT S.1 r (cD S.1 0 0 0)), wr (cD S.1 0 0 0 - laT S.1 r (cD S.1 0 0 0)), prT S.1 r (cD S.1 0 0 0), cD S.1 5 r 1, (enc (slT S.1 r (cD S.1 0 0 0)) 20 : Nat)] → Q (.inl (some (AI v))) τ1 := fun v hv => fin v (by rw [hv]; unfold sp_teamOf; rw [if_pos (by omega)]; rfl)
    have sr := F.sh (shU r (by omega)).1 (by omega) (by omega)
    have en : tI τ1 220 7 = cD S.1 0 0 0 := R.now
    refine t234_10 (q3 := 222) (n5 := 8) s0 (F.p rfl) (F.sh rfl (by omega) (by omega)) (fun _ => by omega) (fun _ => ?_) (fun c => absurd c (by decide))
    rw [Int.toNat_natCast, F.p (ptU r (by omega)).1]
    refine t234_23 (fun c => ?_) (fun c => ?_) (fun c => ?_) (fun c => ?_) (fun c => ?_) (fun c => ?_) (fun c => ?_) (fun c => ?_)
    · subst c; exact t234_64 sr (fin2 _ (R.tt hr (by omega)))
    · subst c
      refine t234_69 (by omega) s0 sr ?_
      rw [en]
      exact m157' F R w1 hr (t234_77 (by omega) (m168 (t234_80 (fin2 _ rfl))))
    · subst c
      refine t234_81 (by omega) s0 sr ?_
      rw [en]
      exact m160 F R w1 hr (by omega) (t234_89 (fin2 _ rfl))
    · subst c
      refine t234_90 (by omega) s0 sr ?_
      rw [en]
      exact m158' F R w1 (by omega) hr (t234_102 (fin2 _ rfl))
    · subst c
      refine t234_104 (by omega) s0 sr ?_
      rw [en]
      exact m159' F R w1 hr (t234_112 (fin2 _ rfl))
    · subst c; exact t234_113 sr (fin2 _ (R.tt hr (by omega)))
    · subst c
      refine t234_118 (by omega) s0 sr ?_
      rw [en]
      exact m157' F R w1 hr (t234_126 (fin2 _ rfl))
    · exact t234_127 (fin2 _ (sel_out (by simp only [List.length_cons, List.length_nil]; omega)).symm)
  · refine t234_10 (q3 := 222) (n5 := 8) s0 (F.p rfl) (F.sh rfl (by omega) (by omega)) (fun c => absurd rfl c) (fun c => absurd rfl c) (fun _ => fin _ ?_)
    unfold sp_teamOf; rw [if_neg (by omega)]
theorem cc116 : CCl 116 [vR 64, vI x, vI y, vI z, none] (sp_told x y z) := fun d τ S Q hd F C w k => by
  have := k τ (EC.rf F C)
  have fin : ∀ v, v = (sp_told x y z S).1 → Q (.inl (some (AI v))) τ := fun v hv => by rw [hv]; exact this
  have s0 : tS τ 64 = (1, 11, 0) := F.sh rfl (by omega) (by omega)
  have R := C.1
  have w1 := w.1 S.1 (by simp)
  have h8 := w1.1.2.1
  have h20 := w1.1.1
  refine t116_0 (by omega) s0 (c130 F R.1.2.1 h8 (fun t ht e => ?_) (fun e => ?_))
  · subst e
    refine t116_5 (by omega) s0 (fun c => absurd c (by decide)) (fun _ => c129 F R.1.1 h20 (fun r hr e => ?_) (fun e => ?_))
    · subst e
      have fin2 : ∀ v, v = sel z [cD S.1 6 t r, cD S.1 7 t r, cD S.1 8 t r, cD S.1 9 t r] → Q (.inl (some (AI v))) τ := fun v hv => fin v (by rw [hv]; unfold sp_told; rw [if_pos (by omega)]; rfl)
      have st := shT t (by omega)
      have pt := ptT t (by omega)
      have s1 := F.sh st.1 (by omega) (by omega)
      refine t116_13 (q3 := 68) (n5 := 8) s0 (F.p rfl) (F.sh rfl (by omega) (by omega)) (fun _ => by omega) (fun _ => ?_) (fun c => absurd c (by decide))
      rw [Int.toNat_natCast, F.p pt.1]
      refine t116_27 (fun c => ?_) (fun c => ?_) (fun c => ?_) (fun c => ?_) (fun c => ?_)
      · subst c; exact t116_56 (n4 := 20) s1 (F.p pt.2.1) (F.sh st.2.1 (by omega) (by omega)) (by omega) (fin2 _ (R.sv ht (by omega)))
      · subst c; exact t116_64 (n4 := 20) s1 (F.p pt.2.2.1) (F.sh st.2.2.1 (by omega) (by omega)) (by omega) (fin2 _ (R.gu ht (by omega)))
      · subst c; exact t116_72 (n4 := 20) s1 (F.p pt.2.2.2.1) (F.sh st.2.2.2.1 (by omega) (by omega)) (by omega) (fin2 _ (R.bo ht (by omega)))
      · subst c; exact t116_80 (n4 := 20) s1 (F.p pt.2.2.2.2.1) (F.sh st.2.2.2.2.1 (by omega) (by omega)) (by omega) (fin2 _ (R.wa ht (by omega)))
      · exact t116_88 (fin2 _ (sel_out (by simp only [List.length_cons, List.length_nil]; omega)).symm)
    · refine t116_13 (q3 := 68) (n5 := 8) s0 (F.p rfl) (F.sh rfl (by omega) (by omega)) (fun c => absurd rfl c) (fun c => absurd rfl c) (fun _ => fin _ ?_)
      unfold sp_told; rw [if_neg (by omega)]
  · refine t116_5 (by omega) s0 (fun _ => fin _ ?_) (fun c => absurd rfl c)
    unfold sp_told; rw [if_neg (by omega)]
theorem mc235 : MCl 235 [vR 220, vI x, vI y, vI z, none] (sp_told x y z) := fun d τ S Q hd F C w k => by
  have := k _ (EM.t0 C w F (x := 0))
  have C := C.t0 w F (x := 0)
  have s0 : tS (uI τ 220 0 0) 220 = (1, 21, 0) := F.sh rfl (by omega) (by omega)
  refine t235_0 (by omega) (F.sh rfl (by omega) (by omega)) ?_
  have F : FX2 (uI τ 220 0 0) := F.j
  generalize uI τ 220 0 0 = τ1 at *
  have fin : ∀ v, v = (sp_told x y z S).1 → Q (.inl (some (AI v))) τ1 := fun v hv => by rw [hv]; exact this
  have R := C.1
  have w1 := w.1 S.1 (by simp)
  have h8 := w1.1.2.1
  have h20 := w1.1.1
  have gen : ∀ (t : Nat) (y0 : Int), t < 8 → (¬ y0 = 0 → inR x 8 ∧ x.toNat = t) → (¬ y0 = 0 → inR y 20) → (¬ y0 = 0 → ¬ z = 0 → ¬ z = 1 → ¬ z = 2 → ¬ z = 3 → Q (.inl (some (AI (-1)))) τ1) → (¬ y0 = 0 → z = 3 → Q (.inl (some (AI (tI τ1 (420 + 7 * t) y.toNat)))) τ1) → (¬ y0 = 0 → z = 2 → Q (.inl (some (AI (tI τ1 (419 + 7 * t) y.toNat)))) τ1) → (¬ y0 = 0 → z = 1 → Q (.inl (some (AI (tI τ1 (418 + 7 * t) y.toNat)))) τ1) → (¬ y0 = 0 → z = 0 → Q (.inl (some (AI (tI τ1 (417 + 7 * t) y.toNat)))) τ1) → (y0 = 0 → Q (.inl (some (AI (-1)))) τ1) → G d 235 18 [vR 220, vI x, vI y, vI z, none] [AI y0] τ1 Q := by
    intro t y0 ht hx hy g1 g2 g3 g4 g5 g6
    have st := shU t ht
    have pt := ptU t ht
    unfold inR at hx hy
    refine t235_18 (q3 := 222) (n5 := 8) (q8 := 416 + 7 * t) (n17 := 20) (n22 := 20) (n27 := 20) (n32 := 20) s0 (F.p rfl) (F.sh rfl (by omega) (by omega)) (fun c => by have := hx c; omega) (fun c => by rw [(hx c).2]; exact F.p pt.1) (F.sh st.1 (by omega) (by omega)) (F.p pt.2.2.2.2.1) (F.sh st.2.2.2.2.1 (by omega) (by omega)) (fun c _ _ _ _ => by have := hy c; omega) (F.p pt.2.2.2.1) (F.sh st.2.2.2.1 (by omega) (by omega)) (fun c _ _ _ => by have := hy c; omega) (F.p pt.2.2.1) (F.sh st.2.2.1 (by omega) (by omega)) (fun c _ _ => by have := hy c; omega) (F.p pt.2.1) (F.sh st.2.1 (by omega) (by omega)) (fun c _ => by have := hy c; omega) g1 (fun c _ _ _ z => g2 c z) (fun c _ _ z => g3 c z) (fun c _ z => g4 c z) g5 g6
  refine m230 F R.1.2.1 (fun t ht e => ?_) (fun e => ?_)
  · refine t235_10 (by omega) s0 (fun c => absurd c (by decide)) (fun _ => m207 F R.1.1 (fun r hr e1 => ?_) (fun e1 => ?_))
    · have fin2 : ∀ v, v = sel z [cD S.1 6 t r, cD S.1 7 t r, cD S.1 8 t r, cD S.1 9 t r] → Q (.inl (some (AI v))) τ1 := fun v hv => fin v (by rw [hv]; unfold sp_told; rw [if_pos (by omega), e, e1]; rfl)
      have er : y.toNat = r := by omega
      refine gen t 1 (by omega) (fun _ => by unfold inR; omega) (fun _ => by unfold inR; omega) (fun _ c0 c1 c2 c3 => fin2 _ (sel_out (by simp only [List.length_cons, List.length_nil]; omega)).symm) (fun _ c => ?_) (fun _ c => ?_) (fun _ c => ?_) (fun _ c => ?_) (fun c => absurd c (by decide))
      all_goals
        rw [er]
        subst c
      · exact fin2 _ (R.wa ht (by omega))
      · exact fin2 _ (R.bo ht (by omega))
      · exact fin2 _ (R.gu ht (by omega))
      · exact fin2 _ (R.sv ht (by omega))
    · refine gen 0 0 (by omega) (fun c => absurd rfl c) (fun c => absurd rfl c) (fun c => absurd rfl c) (fun c => absurd rfl c) (fun c => absurd rfl c) (fun c => absurd rfl c) (fun c => absurd rfl c) (fun _ => fin _ ?_)
      unfold sp_told; rw [if_neg (by omega)]
  · refine t235_10 (by omega) s0 (fun _ => fin _ ?_) (fun c => absurd rfl c)
    unfold sp_told; rw [if_neg (by omega)]
end RD
