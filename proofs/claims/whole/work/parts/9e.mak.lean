/-! make, without, fits, follows, out -/
/-- what workings make are letters or 63 -/
def WX (S : HSx) : Prop := ∀ c ∈ S.1 :: S.2.1, ∀ r, r < cn c 0 → ∀ f, cW c r = some f → ∀ A u l, AnL A r → f A u = some l → l.length ≤ 24 ∧ ∀ x ∈ l, x = 63 ∨ (97 ≤ x ∧ x ≤ 122)
def MCx (mi : Nat) (as : LO) (sp : HSx → Int × HSx) : Prop := ∀ (d : Nat) (τ : T2) (S : HSx) (Q : RS → T2 → Prop), 100 ≤ d → FX2 τ → MI τ S → WS S → WX S → (∀ τ1, EM τ τ1 (sp S).2 → Q (.inl (some (AI (sp S).1))) τ1) → G d mi 0 as [] τ Q
/-- what a working makes now -/
def mak (c : CO) (r : Nat) (u : Int) : Option (List Int) := match cW c r with
  | none => none
  | some f => f (ltr c) u
def ouS (S : HSx) (l : List Int) : HSx := (S.1, S.2.1, S.2.2.1, l, 0, -1, S.2.2.2.2.2.2)
def sp_without (x u : Int) (S : HSx) : Int × HSx := if 0 ≤ x ∧ x < (cn S.1 0 : Int) then (match mak S.1 x.toNat u with
  | none => (-1, rfS S 9)
  | some l => ((l.length : Int), ouS S l)) else (-1, rfS S 1)
def sp_make (x : Int) (S : HSx) : Int × HSx := sp_without x 0 S
def sp_fits (x : Int) (S : HSx) : Int × HSx := if 0 ≤ x ∧ x < (cn S.1 0 : Int) then (if (cW S.1 x.toNat).isSome then (bi (decide (mak S.1 x.toNat 0 = some (ltr S.1 x.toNat))), rfS S 0) else (-1, rfS S 9)) else (-1, rfS S 1)
/-- a word is alike -/
def alk (w l : List Int) : Bool := decide (w.length = l.length ∧ ∀ k, k < l.length → byt l k = 63 ∨ byt l k = byt w k)
def sp_follows (x u : Int) (S : HSx) : Int × HSx := if 0 ≤ x ∧ x < (cn S.1 0 : Int) then (match mak S.1 x.toNat u with
  | none => (-1, rfS S 9)
  | some l => (((cnt (fun i => alk (wdl S.1 i) l) (cn S.1 2) : Nat) : Int), rfS S 0)) else (-1, rfS S 1)
theorem anl {c : CO} (w : WF c) {r : Nat} (hr : r < cn c 0) : AnL (ltr c) r := ⟨by have := w.1.1; omega, fun i hi => ⟨(ltr_len w (by omega)).2.1, (ltr_len w (by omega)).2.2, ltr_l w (by omega)⟩⟩
theorem RC.anc {τ : T2} {c : CO} (R : RC τ c) (w : WF c) {r : Nat} (hr : r < cn c 0) : AnC τ (ltr c) r := fun i hi => R.lt w (by omega)
theorem RM.anm {τ : T2} {c : CO} (R : RM τ c) (w : WF c) {r : Nat} (hr : r < cn c 0) : AnM τ (ltr c) r := fun i hi => R.lt w (by omega)
theorem mak_b {S : HSx} (w : WS S) (x : WX S) {r : Nat} (hr : r < cn S.1 0) {u : Int} {l : List Int} (h : mak S.1 r u = some l) : l.length ≤ 24 ∧ ∀ y ∈ l, y = 63 ∨ (97 ≤ y ∧ y ≤ 122) := by
  have w1 := w.1 S.1 (by simp)
  unfold mak at h
  cases hf : cW S.1 r with
  | none => rw [hf] at h; cases h
  | some f =>
    rw [hf] at h
    exact x S.1 (by simp) r hr f hf (ltr S.1) u l (anl w1 hr) h
theorem ws_without {S : HSx} (w : WS S) (x : WX S) {y u : Int} : WS (sp_without y u S).2 := by
  unfold sp_without
  split
  · rename_i h
    split
    · exact w.rfs 9
    · rename_i l hl
      exact ⟨w.1, w.2.1, w.2.2.1, (mak_b w x (by omega) hl).1, fun _ => rfl⟩
  · exact w.rfs 1
theorem ws_fits {S : HSx} (w : WS S) {y : Int} : WS (sp_fits y S).2 := by
  unfold sp_fits
  split
  · split
    · exact w.rfs 0
    · exact w.rfs 9
  · exact w.rfs 1
theorem ws_follows {S : HSx} (w : WS S) {y u : Int} : WS (sp_follows y u S).2 := by
  unfold sp_follows
  split
  · split
    · exact w.rfs 9
    · exact w.rfs 0
  · exact w.rfs 1
/-- the class's state when its trial has been written, and the trouble -/
theorem CI.tr {τ τ1 : T2} {S : HSx} (C : CI τ S) (w : WS S) (F : FX2 τ) {v : Nat} (hv : tP τ 64 13 = some v) (o : OC (fun a k => a = v ∨ a = v + 1 ∨ (a = 64 ∧ k = 16)) τ τ1) {why : Int} (h16 : tI τ1 64 16 = why) (h4 : why ≠ 4) : CI τ1 (rfS S why) := by
  have N := F.1
  have C0 := C
  obtain ⟨-, -, T, ⟨a, b, o1, o2, o3, o4, o5⟩, h3, -, h5⟩ := C0
  have eb : b = v := Option.some.inj (o3.symm.trans hv)
  subst eb
  refine C.up w F o (fun a k z => by unfold FC DC LGP; omega) (T.oc F o (fun a k z => by omega)) ⟨a, b, o1, ?_, ?_, ?_, ?_⟩ h16 (fun z => absurd z h4) (by rw [(o.2.2.2 64 17 (by omega) (by omega)).1]; exact h5)
  · rw [(o.2.2.2 64 12 (by omega) (by omega)).2]; exact o2
  · rw [(o.2.2.2 64 13 (by omega) (by omega)).2]; exact o3
  · rw [(o.2.2.2 a 1 (by omega) (by omega)).1]; exact o4
  · exact o5.oc (by omega) o (fun k => by omega)
theorem FX_row {τ τ1 : T2} {v : Nat} (F : FX2 τ) (hv : v = 80 ∨ v = 82) (o : OC (fun a k => (a = v ∧ k = 1) ∨ a = v + 1) τ τ1) : FX2 τ1 := o.fx F (fun a k z => by
  rcases hv with e | e
  · subst e
    rcases z with z | z
    · rw [z.1, z.2]; rfl
    · rw [z]; exact PTn lkN.2.2.2.2.2.2.1 k
  · subst e
    rcases z with z | z
    · rw [z.1, z.2]; rfl
    · rw [z]; exact PTn lkN.2.2.2.2.2.2.2 k)
theorem FX_made {τ τ1 : T2} (F : FX2 τ) (o : OC MaM τ τ1) : FX2 τ1 := o.fx F (fun a k z => by
  rcases z with z | z
  · rw [z]; exact PTn lkN.2.2.2.2.2.1 k
  · rw [z.1, z.2]; rfl)
/-- hasWorked -/
theorem c140 {d : Nat} {τ : T2} {S : HSx} {Q : RS → T2 → Prop} {x u : Int} (F : FX2 τ) (C : CI τ S) (w : WS S) (hu : okI u) (hd : 40 ≤ d) (k1 : ∀ (r v : Nat) l τ1, r < cn S.1 0 → x = (r : Int) → (v = 80 ∨ v = 82) → tP τ 64 13 = some v → mak S.1 r u = some l → OC (fun a k => a = v ∨ a = v + 1 ∨ (a = 64 ∧ k = 16)) τ τ1 → FX2 τ1 → tN τ1 = tN τ → tZ τ1 = tZ τ → tI τ1 64 16 = 0 → tI τ1 v 1 = (l.length : Int) → Ls τ1 (v + 1) l → Q (.inl (some (AI 1))) τ1) (k2 : (x < 0 ∨ (cn S.1 0 : Int) ≤ x) → Q (.inl (some (AI 0))) (uI τ 64 16 1)) (k3 : ∀ (r : Nat) τ1, r < cn S.1 0 → x = (r : Int) → mak S.1 r u = none → EC τ τ1 (rfS S 9) → Q (.inl (some (AI 0))) τ1) : G d 140 0 [vR 64, vI x, vI u, none] [] τ Q := by
  have s0 : ∀ τ : T2, FX2 τ → tS τ 64 = (1, 11, 0) := fun τ F => F.sh rfl (by omega) (by omega)
  have w1 := w.1 S.1 (by simp)
  have h20 := w1.1.1
  have R := C.1
  have C0 := C
  obtain ⟨-, -, T, ⟨a, v, o1, o2, o3, o4, o5⟩, h3, -, h5⟩ := C0
  have hv : v = 80 ∨ v = 82 := by omega
  have sv : ∀ τ : T2, FX2 τ → tS τ v = (1, 7, 0) := fun τ F => by
    rcases hv with e | e
    · rw [e]; exact F.sh rfl (by omega) (by omega)
    · rw [e]; exact F.sh rfl (by omega) (by omega)
  refine t140_0 (by omega) (s0 τ F) (c129 F R.1.1 h20 (fun r hr e => ?_) (fun e => ?_))
  · subst e
    have ho := (R.2.2.2 r hr).2.2
    refine t140_5 (q3 := 66) (n5 := 20) (q8 := 92 + 4 * r) (s0 τ F) (F.p rfl) (F.sh rfl (by omega) (by omega)) (fun _ => by omega) (fun _ => by rw [Int.toNat_natCast]; exact F.p (ptR r (by omega)).1) (F.sh (shR r (by omega)).1 (by omega) (by omega)) (fun _ e => ?_) (fun _ q e => ?_) (fun z => absurd z (by decide))
    · have hn := ho.nn e
      exact k3 r _ hr rfl (by unfold mak; rw [hn]) (EC.rfs F C w (by decide))
    · obtain ⟨f, hf, wo⟩ := ho.ss e
      have em : mak S.1 r u = f (ltr S.1) u := by unfold mak; rw [hf]
      refine t140_29 (r3 := some q) (q2 := v) (by omega) (s0 τ F) o3 (sv τ F) ?_
      rw [F.p (show PTI 64 2 = some 66 from rfl)]
      refine wo.2 τ (d - 1) _ v (ltr S.1) u (by omega) Fr.rf F hv (anl w1 hr) (R.anc w1 hr) hu (fun τ2 o n2 z2 hfn => ?_) (fun τ2 l o n2 z2 hfs hl e1 hL => ?_)
      · have F2 : FX2 τ2 := FX_row F hv o
        refine t140_42 (s0 _ F2) (fun z => absurd rfl z) (fun _ => k3 r _ hr rfl (em.trans hfn) ?_)
        have o' : OC (fun a k => a = v ∨ a = v + 1 ∨ (a = 64 ∧ k = 16)) τ (uI τ2 64 16 9) := OC.j (P := fun a k => a = v ∨ a = v + 1 ∨ (a = 64 ∧ k = 16)) (o.mo fun a k z => by omega) (by omega)
        exact ⟨o'.kp (fun a k z => by omega), F2.j, by show tN τ2 ≤ _; omega, by show tZ τ2 ≤ _; omega, C.tr w F o3 o' (by rw [tI_uI, if_pos ⟨rfl, rfl⟩]) (by decide)⟩
      · have F2 : FX2 τ2 := FX_row F hv o
        have o' : OC (fun a k => a = v ∨ a = v + 1 ∨ (a = 64 ∧ k = 16)) τ (uI τ2 64 16 0) := OC.j (P := fun a k => a = v ∨ a = v + 1 ∨ (a = 64 ∧ k = 16)) (o.mo fun a k z => by omega) (by omega)
        refine t140_42 (s0 _ F2) (fun _ => k1 r v l _ hr rfl hv o3 (em.trans hfs) o' F2.j n2 z2 (by rw [tI_uI, if_pos ⟨rfl, rfl⟩]) (by rw [tI_uI, if_neg (by omega)]; exact e1) (hL.u (by omega))) (fun z => absurd z (by decide))
  · exact t140_5 (q3 := 66) (n5 := 20) (q8 := 92) (s0 τ F) (F.p rfl) (F.sh rfl (by omega) (by omega)) (fun z => absurd rfl z) (fun z => absurd rfl z) (F.sh rfl (by omega) (by omega)) (fun z => absurd rfl z) (fun z => absurd rfl z) (fun _ => k2 e)
theorem c106 {d : Nat} {τ : T2} {S : HSx} {Q : RS → T2 → Prop} {x u : Int} (hu : okI u) (hd : 90 ≤ d) (F : FX2 τ) (C : CI τ S) (w : WS S) (k : ∀ τ1, EC τ τ1 (sp_without x u S).2 → Q (.inl (some (AI (sp_without x u S).1))) τ1) : G d 106 0 [vR 64, vI x, vI u, none] [] τ Q := by
  have s0 : ∀ τ : T2, FX2 τ → tS τ 64 = (1, 11, 0) := fun τ F => F.sh rfl (by omega) (by omega)
  have N := F.1
  unfold sp_without at k
  have no : ∀ τ1 : T2, FX2 τ1 → (∃ q, tP τ1 64 13 = some q ∧ tS τ1 q = (1, 7, 0)) → Q (.inl (some (AI (-1)))) τ1 → G d 106 6 [vR 64, none, none, none] [AI 0] τ1 Q := fun τ1 F1 ⟨q, h1, h2⟩ h => t106_6 (q3 := q) (s0 _ F1) (by rw [tP_uP, if_pos ⟨rfl, rfl⟩]; exact h1) h2 (fun z => absurd rfl z) (fun _ => h)
  have sv : ∀ (τ1 : T2) (S1 : HSx), FX2 τ1 → CI τ1 S1 → ∃ q, tP τ1 64 13 = some q ∧ tS τ1 q = (1, 7, 0) := fun τ1 S1 F1 C1 => by
    obtain ⟨-, -, -, ⟨a, v, o1, o2, o3, -⟩, -⟩ := C1
    refine ⟨v, o3, ?_⟩
    rcases o1 with e | e
    · rw [e.2]; exact F1.sh rfl (by omega) (by omega)
    · rw [e.2]; exact F1.sh rfl (by omega) (by omega)
  refine t106_0 (by omega) (s0 τ F) (c140 F C w hu (by omega) (fun r v l τ1 hr e hv pv hm o F1 n1 z1 h16 hl hL => ?_) (fun e => ?_) (fun r τ1 hr e hm E1 => ?_))
  · subst e
    rw [if_pos (by omega), Int.toNat_natCast, hm] at k
    have C0 := C
    obtain ⟨-, -, T, ⟨a, b, o1, o2, o3, o4, o5⟩, h3, -, h5⟩ := C0
    have eb : b = v := Option.some.inj (o3.symm.trans pv)
    subst eb
    have N1 := F1.1
    have p12 : tP τ1 64 12 = some a := by rw [(o.2.2.2 64 12 (by omega) (by omega)).2]; exact o2
    have p13 : tP τ1 64 13 = some b := by rw [(o.2.2.2 64 13 (by omega) (by omega)).2]; exact o3
    have sb : tS τ1 b = (1, 7, 0) := by
      rcases hv with e | e
      · rw [e]; exact F1.sh rfl (by omega) (by omega)
      · rw [e]; exact F1.sh rfl (by omega) (by omega)
    refine t106_6 (q3 := b) (s0 _ F1) (by rw [tP_uP, if_pos ⟨rfl, rfl⟩]; exact p13) sb (fun _ => ?_) (fun z => absurd z (by decide))
    rw [tI_uP, tI_uP, hl]
    have F2 : FX2 (uP (uP τ1 64 13 (tP τ1 64 12)) 64 12 (tP τ1 64 13)) := (F1.q rfl).q rfl
    have o2' : OC (fun a k => a = b ∨ a = b + 1 ∨ (a = 64 ∧ (k = 16 ∨ k = 12 ∨ k = 13))) τ (uP (uP τ1 64 13 (tP τ1 64 12)) 64 12 (tP τ1 64 13)) := OC.q (P := fun a k => a = b ∨ a = b + 1 ∨ (a = 64 ∧ (k = 16 ∨ k = 12 ∨ k = 13))) (OC.q (P := fun a k => a = b ∨ a = b + 1 ∨ (a = 64 ∧ (k = 16 ∨ k = 12 ∨ k = 13))) (o.mo fun a k z => by omega) (by omega)) (by omega)
    refine k _ ⟨o2'.kp (fun a k z => by omega), F2, by show tN τ1 ≤ _; omega, by show tZ τ1 ≤ _; omega, ?_⟩
    refine C.up w F o2' (fun a k z => by unfold FC DC LGP; omega) (T.oc F o2' (fun a k z => by omega)) ⟨b, a, by omega, ?_, ?_, ?_, ?_⟩ ?_ (fun z => absurd z (show ¬ (0 : Int) = 4 by decide)) ?_
    · rw [tP_uP, if_pos ⟨rfl, rfl⟩]; exact p13
    · rw [tP_uP, if_neg (by decide), tP_uP, if_pos ⟨rfl, rfl⟩]; exact p12
    · rw [tI_uP, tI_uP]; exact hl
    · exact hL
    · rw [tI_uP, tI_uP]; exact h16
    · rw [(o2'.2.2.2 64 17 (by omega) (by omega)).1]; exact h5
  · rw [if_neg (by omega)] at k
    have E1 := EC.rfs F C w (why := 1) (by decide)
    exact no _ F.j (sv _ _ F.j E1.2.2.2.2) (k _ E1)
  · subst e
    rw [if_pos (by omega), Int.toNat_natCast, hm] at k
    exact no _ E1.2.1 (sv _ _ E1.2.1 E1.2.2.2.2) (k _ E1)
theorem cc106 {x u : Int} (hu : okI u) : CCl 106 [vR 64, vI x, vI u, none] (sp_without x u) := fun d τ S Q hd F C w k => c106 hu (by omega) F C w k
theorem cc104 {x : Int} : CCl 104 [vR 64, vI x] (sp_make x) := fun d τ S Q hd F C w k => by
  refine t104_0 (by omega) (F.sh rfl (by omega) (by omega)) ?_
  exact c106 (by unfold okI; omega) (by omega) F C w (fun τ1 E1 => t104_6 (k τ1 E1))
/-- the model works; out is written -/
theorem m222 {d : Nat} {τ : T2} {S : HSx} {Q : RS → T2 → Prop} {x u : Int} (F : FX2 τ) (C : MI τ S) (w : WS S) (wx : WX S) (hu : okI u) (hd : 90 ≤ d) (k : ∀ τ1, EM τ τ1 (sp_without x u S).2 → Q (.inl (some (AI (sp_without x u S).1))) τ1) : G d 222 0 [vR 220, vI x, vI u, none, none] [] τ Q := by
  have s0 : ∀ τ : T2, FX2 τ → tS τ 220 = (1, 21, 0) := fun τ F => F.sh rfl (by omega) (by omega)
  have w1 := w.1 S.1 (by simp)
  refine t222_0 (by omega) (s0 τ F) ?_
  have k := fun τ2 h => k τ2 (EM.bef (Kp.rf.j (a := 220) (k := 0) (x := 0) (by omega) (by omega)) rfl rfl h)
  have C := C.t0 w F (x := 0)
  have F : FX2 (uI τ 220 0 0) := F.j
  generalize uI τ 220 0 0 = τ at *
  have R := C.1
  have h20 := w1.1.1
  have N := F.1
  unfold sp_without at k
  refine m207 F R.1.1 (fun r hr e => ?_) (fun e => ?_)
  · subst e
    rw [if_pos (by omega), Int.toNat_natCast] at k
    have ho := (R.2.2.2.2 r hr).2.2
    refine t222_10 (q3 := 221) (n5 := 20) (q8 := 336 + 4 * r) (by omega) (s0 τ F) (F.p rfl) (F.sh rfl (by omega) (by omega)) (fun _ => by omega) (fun _ => by rw [Int.toNat_natCast]; exact F.p (ptM r (by omega)).1) (F.sh (shM r (by omega)).1 (by omega) (by omega)) (fun _ e => ?_) (fun _ q e => ?_) (fun z => absurd z (by decide))
    · have em : mak S.1 r u = none := by unfold mak; rw [ho.nn e]
      rw [em] at k
      exact m163 F (t222_48 (k _ (EM.rfs F C w)))
    · obtain ⟨f, hf, wo⟩ := ho.ss e
      have em : mak S.1 r u = f (ltr S.1) u := by unfold mak; rw [hf]
      refine t222_33 (r3 := some q) (by omega) (s0 τ F) ?_
      refine wo τ (d - 1) _ (ltr S.1) u (by omega) Fr.rf F (anl w1 hr) (R.anm w1 hr) hu (fun τ2 o n2 z2 hfn => ?_) (fun τ2 l o n2 z2 hfs hl24 e1 hL => ?_)
      · have F2 := FX_made F o
        have C2 : MI τ2 S := C.oc w F o (fun a k z => by unfold MaM at z; unfold FM DM AMP; omega)
        rw [em, hfn] at k
        refine t222_39 (by omega) (s0 _ F2) (fun z => absurd rfl z) (fun _ => m163 F2 (t222_48 (k _ (EM.bef (o.kp (fun a k z => by unfold MaM at z; omega)) n2 z2 (EM.rfs F2 C2 w)))))
      · have F2 := FX_made F o
        have C2 : MI τ2 S := C.oc w F o (fun a k z => by unfold MaM at z; unfold FM DM AMP; omega)
        rw [em, hfs] at k
        have hlb := (mak_b w wx hr (em.trans hfs)).2
        refine t222_39 (by omega) (s0 _ F2) (fun _ => ?_) (fun z => absurd z (by decide))
        have N2 := F2.1
        have lp : ∀ (j i : Nat) (τ3 : T2), i + j = l.length → OC (fun a _ => a = 232) τ2 τ3 → FX2 τ3 → tN τ3 = tN τ2 → tZ τ3 = tZ τ2 → (∀ q, q < i → tI τ3 232 q = l.getD q 0) → G d 222 52 [vR 220, none, none, none, vI (i : Int)] [] τ3 Q := by
          intro j
          induction j with
          | zero =>
            intro i τ3 hi o3 F3 n3 z3 h3
            have es : tI τ3 220 32 = (l.length : Int) := by rw [(o3.2.2.2 220 32 (by omega) (by omega)).1]; exact e1
            refine t222_52 (q3 := 232) (q5 := 231) (n7 := 37) (n10 := 24) (by omega) (s0 _ F3) (F3.p rfl) (F3.p rfl) (F3.sh rfl (by omega) (by omega)) (fun z => by rw [es] at z; omega) (F3.sh rfl (by omega) (by omega)) (fun z => by rw [es] at z; omega) (fun _ => ?_) (fun z => by rw [es] at z; omega)
            rw [es, show tI (uI τ3 220 34 (l.length : Int)) 220 34 = (l.length : Int) by rw [tI_uI, if_pos ⟨rfl, rfl⟩]]
            refine m165 F3.j (t222_97 ?_)
            have o4 : OC (fun a k => a = 232 ∨ (a = 220 ∧ (k = 34 ∨ k = 1 ∨ k = 2))) τ2 (uI (uI (uI τ3 220 34 (l.length : Int)) 220 1 0) 220 2 (-1)) := OC.j (P := fun a k => a = 232 ∨ (a = 220 ∧ (k = 34 ∨ k = 1 ∨ k = 2))) (OC.j (P := fun a k => a = 232 ∨ (a = 220 ∧ (k = 34 ∨ k = 1 ∨ k = 2))) (OC.j (P := fun a k => a = 232 ∨ (a = 220 ∧ (k = 34 ∨ k = 1 ∨ k = 2))) (o3.mo fun a k z => by omega) (by omega)) (by omega)) (by omega)
            refine k _ (EM.bef (o.kp (fun a k z => by unfold MaM at z; omega)) n2 z2 ⟨o4.kp (fun a k z => by omega), F3.j.j.j, by show tN τ3 ≤ _; omega, by show tZ τ3 ≤ _; omega, ?_⟩)
            have C0 := C2
            obtain ⟨-, -, T, O, h1, h2, h5⟩ := C0
            refine C2.up w F2 o4 (fun a k z => by unfold FM DM AMP; omega) (T.oc F2 o4 (fun a k z => by omega)) ⟨?_, fun q hq => ?_⟩ ?_ ?_ ?_
            · rw [tI_uI, if_neg (by decide), tI_uI, if_neg (by decide), tI_uI, if_pos ⟨rfl, rfl⟩]
            · rw [tI_uI, if_neg (by omega), tI_uI, if_neg (by omega), tI_uI, if_neg (by omega)]
              exact h3 q (by omega)
            · rw [tI_uI, if_neg (by decide), tI_uI, if_pos ⟨rfl, rfl⟩]
            · rw [tI_uI, if_pos ⟨rfl, rfl⟩]
            · rw [(o4.2.2.2 220 3 (by omega) (by omega)).1]; exact h5
          | succ j ih =>
            intro i τ3 hi o3 F3 n3 z3 h3
            have es : tI τ3 220 32 = (l.length : Int) := by rw [(o3.2.2.2 220 32 (by omega) (by omega)).1]; exact e1
            have eb : tI τ3 231 i = l.getD i 0 := by rw [(o3.2.2.2 231 i (by omega) (by omega)).1]; exact hL i (by omega)
            have bb : l.getD i 0 = 63 ∨ (97 ≤ l.getD i 0 ∧ l.getD i 0 ≤ 122) := by
              rw [List.getD_eq_getElem?_getD, List.getElem?_eq_getElem (show i < l.length by omega)]
              exact hlb _ (List.getElem_mem _)
            refine t222_52 (q3 := 232) (q5 := 231) (n7 := 37) (n10 := 24) (by omega) (s0 _ F3) (F3.p rfl) (F3.p rfl) (F3.sh rfl (by omega) (by omega)) (fun _ => by omega) (F3.sh rfl (by omega) (by omega)) (fun _ => by omega) (fun z => by rw [es] at z; omega) (fun _ => ?_)
            rw [wr_nat (by omega), Int.toNat_natCast, eb, zbyt_id (by omega) (by omega)]
            refine ih (i + 1) _ (by omega) o3.ad F3.j n3 z3 (fun q hq => ?_)
            rw [tI_uI]
            by_cases e : q = i
            · rw [if_pos ⟨rfl, e⟩, e]
            · rw [if_neg (fun z => e z.2)]; exact h3 q (by omega)
        exact lp l.length 0 τ2 (by omega) OC.rf F2 rfl rfl (fun q hq => by omega)
  · rw [if_neg (by omega)] at k
    exact t222_10 (q3 := 221) (n5 := 20) (q8 := 336) (by omega) (s0 τ F) (F.p rfl) (F.sh rfl (by omega) (by omega)) (fun z => absurd rfl z) (fun z => absurd rfl z) (F.sh rfl (by omega) (by omega)) (fun z => absurd rfl z) (fun z => absurd rfl z) (fun _ => m163 F (t222_18 (k _ (EM.rfs F C w))))
theorem mc222 {x u : Int} (hu : okI u) : MCx 222 [vR 220, vI x, vI u, none, none] (sp_without x u) := fun d τ S Q hd F C w wx k => m222 F C w wx hu (by omega) k
theorem mc223 {x : Int} : MCx 223 [vR 220, vI x] (sp_make x) := fun d τ S Q hd F C w wx k => by
  refine t223_0 (by omega) (F.sh rfl (by omega) (by omega)) ?_
  exact m222 F.j (C.t0 w F) w wx (by unfold okI; omega) (by omega) (fun τ1 E1 => t223_11 (k τ1 (EM.bef (Kp.rf.j (by omega) (by omega)) rfl rfl E1)))
