/-! open, takes, steps -/
section OCI
variable {τ τ1 : T2} {S : HSx} {P : Nat → Nat → Prop}
theorem CI.oc (C : CI τ S) (w : WS S) (F : FX2 τ) (o : OC P τ τ1) (hp : ∀ a k, P a k → FC a k ∧ a ≠ 65 ∧ ¬ (80 ≤ a ∧ a ≤ 83) ∧ ¬ (a = 73 ∧ k = 7) ∧ ¬ (a = 64 ∧ (k = 1 ∨ k = 12 ∨ k = 13 ∨ k = 16 ∨ k = 17))) : CI τ1 S := by
  have N := F.1
  have C0 := C
  obtain ⟨-, -, T, O, h3, h4, h5⟩ := C0
  have nu : ∀ a k, ((a = 73 ∧ k = 7) ∨ (a = 64 ∧ (k = 16 ∨ k = 17))) → ¬ P a k := fun a k z y => by have := hp a k y; omega
  exact C.up w F o (fun a k z => (hp a k z).1) (T.oc F o (fun a k z => by have := hp a k z; omega)) (O.oc F o (fun a k z => by have := hp a k z; omega)) (by rw [(o.2.2.2 64 16 (by omega) (nu _ _ (by omega))).1]; exact h3) (fun z => by rw [(o.2.2.2 73 7 (by omega) (nu _ _ (by omega))).1]; exact h4 z) (by rw [(o.2.2.2 64 17 (by omega) (nu _ _ (by omega))).1]; exact h5)
theorem MI.oc (C : MI τ S) (w : WS S) (F : FX2 τ) (o : OC P τ τ1) (hp : ∀ a k, P a k → FM a k ∧ a ≠ 226 ∧ a ≠ 232 ∧ ¬ (a = 220 ∧ (k = 1 ∨ k = 2 ∨ k = 3 ∨ k = 15 ∨ k = 34))) : MI τ1 S := by
  have N := F.1
  have C0 := C
  obtain ⟨-, -, T, O, h3, h4, h5⟩ := C0
  have nu : ∀ k, (k = 1 ∨ k = 2 ∨ k = 3) → ¬ P 220 k := fun k z y => by have := hp 220 k y; omega
  exact C.up w F o (fun a k z => (hp a k z).1) (T.oc F o (fun a k z => by have := hp a k z; omega)) (O.oc F o (fun a k z => by have := hp a k z; omega)) (by rw [(o.2.2.2 220 1 (by omega) (nu _ (by omega))).1]; exact h3) (by rw [(o.2.2.2 220 2 (by omega) (nu _ (by omega))).1]; exact h4) (by rw [(o.2.2.2 220 3 (by omega) (nu _ (by omega))).1]; exact h5)
end OCI
def sp_open (x y : Int) (S : HSx) : Int × HSx := if (0 ≤ x ∧ x < (cn S.1 1 : Int)) ∧ 0 ≤ y ∧ y < (cn S.1 0 : Int) then (bi (opn S.1 y.toNat (slT S.1 x.toNat (cD S.1 0 0 0)) (cD S.1 0 0 0)), rfS S 0) else (-1, rfS S 1)
theorem ws_open {S : HSx} (w : WS S) {x y : Int} : WS (sp_open x y S).2 := by
  unfold sp_open
  split
  · exact w.rfs 0
  · exact w.rfs 1
theorem cc112 {x y : Int} : CCl 112 [vR 64, vI x, vI y] (sp_open x y) := fun d τ S Q hd F C w k => by
  have s0 : tS τ 64 = (1, 11, 0) := F.sh rfl (by omega) (by omega)
  have w1 := w.1 S.1 (by simp)
  have R := C.1
  have h8 := w1.1.2.1
  have h20 := w1.1.1
  have bad : ¬ ((0 ≤ x ∧ x < (cn S.1 1 : Int)) ∧ 0 ≤ y ∧ y < (cn S.1 0 : Int)) → G (d - 1) 126 0 [vR 64, vI 1] [] τ (KC d 112 18 21 [none, none, none] [] Q) := fun h => by
    unfold sp_open at k
    rw [if_neg h] at k
    exact c126 F (t112_21 (k _ (EC.rfs F C w (by decide))))
  refine t112_0 (by omega) s0 (c130 F R.1.2.1 h8 (fun t ht e => ?_) (fun e => t112_5 (by omega) s0 (fun _ => bad (by omega)) (fun c => absurd rfl c)))
  subst e
  refine t112_5 (by omega) s0 (fun c => absurd c (by decide)) (fun _ => c129 F R.1.1 h20 (fun r hr e => ?_) (fun e => ?_))
  · subst e
    unfold sp_open at k
    rw [if_pos (by omega), Int.toNat_natCast, Int.toNat_natCast] at k
    have k := k _ (EC.rfs F C w (why := 0) (by decide))
    refine t112_13 (q3 := 68) (n5 := 8) (by omega) s0 (F.p rfl) (F.sh rfl (by omega) (by omega)) (fun _ => by omega) (fun _ => ?_) (fun c => absurd c (by decide))
    rw [Int.toNat_natCast, F.p (ptT t (by omega)).1]
    refine c141 (c := S.1) F.j (C.rfs w F (why := 0) (by decide)).1 w1 ht hr (by omega) ?_
    refine t112_38 (fun z => ?_) (fun z => ?_)
    · rw [bi_0 z] at k; exact k
    · rw [bi_1 z] at k; exact k
  · exact t112_13 (q3 := 68) (n5 := 8) (by omega) s0 (F.p rfl) (F.sh rfl (by omega) (by omega)) (fun c => absurd rfl c) (fun c => absurd rfl c) (fun _ => bad (by omega))
theorem mc231 {x y : Int} : MCl 231 [vR 220, vI x, vI y] (sp_open x y) := fun d τ S Q hd F C w k => by
  have s0 : ∀ τ : T2, FX2 τ → tS τ 220 = (1, 21, 0) := fun τ F => F.sh rfl (by omega) (by omega)
  have w1 := w.1 S.1 (by simp)
  refine t231_0 (by omega) (s0 τ F) ?_
  have k := fun τ2 h => k τ2 (EM.bef (Kp.rf.j (a := 220) (k := 0) (x := 0) (by omega) (by omega)) rfl rfl h)
  have C := C.t0 w F (x := 0)
  have F : FX2 (uI τ 220 0 0) := F.j
  generalize uI τ 220 0 0 = τ at *
  have R := C.1
  have h8 := w1.1.2.1
  have h20 := w1.1.1
  have bad : ¬ ((0 ≤ x ∧ x < (cn S.1 1 : Int)) ∧ 0 ≤ y ∧ y < (cn S.1 0 : Int)) → G (d - 1) 163 0 [vR 220, vI 1] [] τ (KC d 231 23 26 [none, none, none] [] Q) := fun h => by
    unfold sp_open at k
    rw [if_neg h] at k
    exact m163 F (t231_26 (k _ (EM.rfs F C w)))
  refine m230 F R.1.2.1 (fun t ht e => ?_) (fun e => t231_10 (by omega) (s0 τ F) (fun _ => bad (by omega)) (fun c => absurd rfl c))
  subst e
  refine t231_10 (by omega) (s0 τ F) (fun c => absurd c (by decide)) (fun _ => m207 F R.1.1 (fun r hr e => ?_) (fun e => ?_))
  · subst e
    unfold sp_open at k
    rw [if_pos (by omega), Int.toNat_natCast, Int.toNat_natCast] at k
    refine t231_18 (q3 := 222) (n5 := 8) (q8 := 416 + 7 * t) (by omega) (s0 τ F) (F.p rfl) (F.sh rfl (by omega) (by omega)) (fun _ => by omega) (fun _ => by rw [Int.toNat_natCast]; exact F.p (ptU t (by omega)).1) (F.sh (shU t (by omega)).1 (by omega) (by omega)) (fun _ => ?_) (fun c => absurd c (by decide))
    rw [R.now]
    refine m157' F R w1 ht (t231_43 (s3 := some 220) (by omega) (s0 τ F) (s0 τ F) ?_)
    rw [R.now]
    refine m187 F R w1 hr (by omega) fun τ1 o F1 n1 z1 => ?_
    have C1 : MI τ1 S := C.oc w F o (fun a k z => ⟨by unfold FM DM AMP; omega, by omega, by omega, by omega⟩)
    have k := k _ (EM.bef (o.kp (fun a k z => by omega)) n1 z1 (EM.rfs F1 C1 w (why := 0)))
    refine t231_50 (by omega) (s0 _ F1) (fun z => ?_) (fun z => ?_)
    · rw [bi_0 z] at k; exact m165 F1 (t231_61 k)
    · rw [bi_1 z] at k; exact m165 F1 (t231_61 k)
  · exact t231_18 (q3 := 222) (n5 := 8) (q8 := 416) (by omega) (s0 τ F) (F.p rfl) (F.sh rfl (by omega) (by omega)) (fun c => absurd rfl c) (fun c => absurd rfl c) (F.sh rfl (by omega) (by omega)) (fun c => absurd rfl c) (fun _ => bad (by omega))
/-- refused, or done, when a guess has been heard -/
theorem CI.her {τ τ1 : T2} {S : HSx} (C : CI τ S) (w : WS S) (F : FX2 τ) (o : OC (fun a k => HRC a k ∨ a = 78 ∨ a = 79 ∨ (a = 64 ∧ k = 16)) τ τ1) (h1 : tI τ1 64 1 = 0) {why : Int} (h16 : tI τ1 64 16 = why) (h4 : why ≠ 4) : CI τ1 (rfS (clS S) why) := by
  have N := F.1
  have C0 := C
  obtain ⟨-, -, T, O, h3, -, h5⟩ := C0
  exact C.up w F o (fun a k z => by unfold HRC at z; unfold FC DC LGP; omega) ⟨h1, fun j hj => by cases hj⟩ (O.oc F o (fun a k z => by unfold HRC at z; omega)) h16 (fun z => absurd z h4) (by rw [(o.2.2.2 64 17 (by omega) (by unfold HRC; omega)).1]; exact h5)
theorem MI.her {τ τ1 : T2} {S : HSx} (C : MI τ S) (w : WS S) (F : FX2 τ) (o : OC (fun a k => HRM a k ∨ a = 227 ∨ a = 229 ∨ a = 230 ∨ (a = 220 ∧ (k = 1 ∨ k = 2))) τ τ1) (h1 : tI τ1 220 15 = 0) {why : Int} (e1 : tI τ1 220 1 = why) (e2 : tI τ1 220 2 = -1) : MI τ1 (rfS (clS S) why) := by
  have N := F.1
  have C0 := C
  obtain ⟨-, -, T, O, h3, -, h5⟩ := C0
  exact C.up w F o (fun a k z => by unfold HRM at z; unfold FM DM AMP; omega) ⟨h1, fun j hj => by cases hj⟩ (O.oc F o (fun a k z => by unfold HRM at z; omega)) e1 e2 (by rw [(o.2.2.2 220 3 (by omega) (by unfold HRM; omega)).1]; exact h5)
theorem HRC_kp {τ τ1 : T2} (o : OC (fun a k => HRC a k ∨ a = 78 ∨ a = 79 ∨ (a = 64 ∧ k = 16)) τ τ1) : Kp 64 220 τ τ1 := o.kp (fun a k z => by unfold HRC at z; omega)
theorem HRM_kp {τ τ1 : T2} (o : OC (fun a k => HRM a k ∨ a = 227 ∨ a = 229 ∨ a = 230 ∨ (a = 220 ∧ (k = 1 ∨ k = 2))) τ τ1) : Kp 220 472 τ τ1 := o.kp (fun a k z => by unfold HRM at z; omega)
theorem HdC.oc {τ τ1 : T2} {l : List Int} {P : Nat → Nat → Prop} (h : HdC τ l) (F : FX2 τ) (o : OC P τ τ1) (hp : ∀ a k, P a k → ¬ (a = 77 ∨ (a = 76 ∧ k = 1))) : HdC τ1 l := by
  have N := F.1
  exact ⟨by rw [(o.2.2.2 76 1 (by omega) (fun z => hp _ _ z (by omega))).1]; exact h.1, h.2.1, h.2.2.oc (by omega) o (fun k z => hp _ _ z (by omega))⟩
theorem HdM.oc {τ τ1 : T2} {l : List Int} {P : Nat → Nat → Prop} (h : HdM τ l) (F : FX2 τ) (o : OC P τ τ1) (hp : ∀ a k, P a k → ¬ (a = 228 ∨ (a = 220 ∧ k = 28))) : HdM τ1 l := by
  have N := F.1
  exact ⟨by rw [(o.2.2.2 220 28 (by omega) (fun z => hp _ _ z (by omega))).1]; exact h.1, h.2.1, h.2.2.oc (by omega) o (fun k z => hp _ _ z (by omega))⟩
def sp_takes (x n : Int) (S : HSx) : Int × HSx := if 0 ≤ x ∧ x < (cn S.1 0 : Int) then (if 0 ≤ n ∧ n ≤ ((sTp S).length : Int) then (vrd S.1 x.toNat (hrd (byt (sTp S)) n.toNat), rfS (clS S) 0) else (-1, rfS S 2)) else (-1, rfS S 1)
def sp_steps (x n : Int) (S : HSx) : Int × HSx := if 0 ≤ x ∧ x < (cn S.1 0 : Int) then (if 0 ≤ n ∧ n ≤ ((sTp S).length : Int) then (stp S.1 x.toNat (hrd (byt (sTp S)) n.toNat), rfS (clS S) 0) else (-1, rfS S 2)) else (-1, rfS S 1)
theorem ws_takes {S : HSx} (w : WS S) {x n : Int} : WS (sp_takes x n S).2 := by
  unfold sp_takes
  split
  · split
    · exact w.cl.rfs 0
    · exact w.rfs 2
  · exact w.rfs 1
theorem ws_steps {S : HSx} (w : WS S) {x n : Int} : WS (sp_steps x n S).2 := by
  unfold sp_steps
  split
  · split
    · exact w.cl.rfs 0
    · exact w.rfs 2
  · exact w.rfs 1
/-- hasHeard -/
theorem c136 {d : Nat} {τ : T2} {S : HSx} {Q : RS → T2 → Prop} {x y : Int} (F : FX2 τ) (C : CI τ S) (w : WS S) (hd : 10 ≤ d) (k1 : ∀ (r n : Nat) τ1, r < cn S.1 0 → x = (r : Int) → n ≤ S.2.2.1.length → y = (n : Int) → OC (fun a k => HRC a k ∨ a = 78 ∨ a = 79 ∨ (a = 64 ∧ k = 16)) τ τ1 → FX2 τ1 → tN τ1 = tN τ → tZ τ1 = tZ τ → HdC τ1 (hrd (byt S.2.2.1) n) → tI τ1 64 1 = 0 → tI τ1 64 16 = 0 → Q (.inl (some (AI 1))) τ1) (k2 : (x < 0 ∨ (cn S.1 0 : Int) ≤ x) → Q (.inl (some (AI 0))) (uI τ 64 16 1)) (k3 : ∀ r : Nat, r < cn S.1 0 → x = (r : Int) → (y < 0 ∨ (S.2.2.1.length : Int) < y) → Q (.inl (some (AI 0))) (uI τ 64 16 2)) : G d 136 0 [vR 64, vI x, vI y] [] τ Q := by
  have s0 : ∀ τ : T2, FX2 τ → tS τ 64 = (1, 11, 0) := fun τ F => F.sh rfl (by omega) (by omega)
  have w1 := w.1 S.1 (by simp)
  have h20 := w1.1.1
  have T := C.2.2.1
  refine t136_0 (by omega) (s0 τ F) (c129 F C.1.1.1 h20 (fun r hr e => ?_) (fun e => t136_5 (by omega) (s0 τ F) (fun c => absurd rfl c) (fun _ => k2 e)))
  refine t136_5 (by omega) (s0 τ F) (fun _ => c132 F T.1 w.2.1 (fun n hn e2 => ?_) (fun e2 => t136_20 (by omega) (s0 τ F) (fun c => absurd rfl c) (fun _ => k3 r hr e e2))) (fun c => absurd c (by decide))
  subst e2
  refine t136_20 (by omega) (s0 τ F) (fun _ => c135 F T w.2.1 w.2.2.1 hn (by omega) fun τ1 o F1 n1 z1 H h1 => ?_) (fun c => absurd c (by decide))
  refine t136_35 (s0 _ F1) (k1 r n _ hr e hn rfl (OC.j (P := fun a k => HRC a k ∨ a = 78 ∨ a = 79 ∨ (a = 64 ∧ k = 16)) (o.mo fun a k z => Or.inl z) (Or.inr (Or.inr (Or.inr ⟨rfl, rfl⟩)))) F1.j n1 z1 ?_ ?_ ?_)
  · exact H.oc F1 (OC.j (P := fun a k => a = 64 ∧ k = 16) OC.rf ⟨rfl, rfl⟩) (fun a k z => by omega)
  · rw [tI_uI, if_neg (by decide)]; exact h1
  · rw [tI_uI, if_pos ⟨rfl, rfl⟩]
theorem cc102 {x y : Int} : CCl 102 [vR 64, vI x, vI y] (sp_takes x y) := fun d τ S Q hd F C w k => by
  have s0 : ∀ τ : T2, FX2 τ → tS τ 64 = (1, 11, 0) := fun τ F => F.sh rfl (by omega) (by omega)
  have s76 : ∀ τ : T2, FX2 τ → tS τ 76 = (1, 4, 0) := fun τ F => F.sh rfl (by omega) (by omega)
  have w1 := w.1 S.1 (by simp)
  have h20 := w1.1.1
  unfold sp_takes at k
  have no : ∀ τ1 : T2, FX2 τ1 → Q (.inl (some (AI (-1)))) τ1 → G d 102 6 [vR 64, vI x, none] [AI 0] τ1 Q := fun τ1 F1 h => t102_6 (q3 := 76) (q5 := 66) (n7 := 20) (by omega) (s0 _ F1) (F1.p rfl) (F1.p rfl) (F1.sh rfl (by omega) (by omega)) (fun c => absurd rfl c) (s76 _ F1) (fun _ => h) (fun c => absurd rfl c)
  refine t102_0 (by omega) (s0 τ F) (c136 F C w (by omega) (fun r n τ1 hr e hn e2 o F1 n1 z1 H h1 h16 => ?_) (fun e => ?_) (fun r hr e e2 => ?_))
  · subst e e2
    rw [if_pos (by omega), if_pos (show 0 ≤ (n : Int) ∧ (n : Int) ≤ ((sTp S).length : Int) from ⟨by omega, by show (n : Int) ≤ (S.2.2.1.length : Int); omega⟩), Int.toNat_natCast, Int.toNat_natCast] at k
    refine t102_6 (q3 := 76) (q5 := 66) (n7 := 20) (by omega) (s0 _ F1) (F1.p rfl) (F1.p rfl) (F1.sh rfl (by omega) (by omega)) (fun _ => by omega) (s76 _ F1) (fun c => absurd c (by decide)) (fun _ => ?_)
    rw [Int.toNat_natCast, F1.p (ptR r (by omega)).1]
    have R1 : RC τ1 S.1 := C.1.oc w1 F o (fun a k z => by unfold HRC at z; unfold DC; omega)
    refine c15 F1 R1 w1 hr H (by omega) fun τ2 o2 F2 n2 z2 => t102_22 ?_
    have N1 := F1.1
    have o3 := o.tr (o2.mo fun a k z => by omega)
    exact k τ2 ⟨HRC_kp o3, F2, by omega, by omega, C.her w F o3 (by rw [(o2.2.2.2 64 1 (by omega) (by omega)).1]; exact h1) (by rw [(o2.2.2.2 64 16 (by omega) (by omega)).1]; exact h16) (by decide)⟩
  · rw [if_neg (by omega)] at k
    exact no _ F.j (k _ (EC.rfs F C w (by decide)))
  · rw [if_pos (by omega), if_neg (show ¬ (0 ≤ y ∧ y ≤ ((sTp S).length : Int)) from fun z => by have : y ≤ (S.2.2.1.length : Int) := z.2; omega)] at k
    exact no _ F.j (k _ (EC.rfs F C w (by decide)))
theorem cc103 {x y : Int} : CCl 103 [vR 64, vI x, vI y] (sp_steps x y) := fun d τ S Q hd F C w k => by
  have s0 : ∀ τ : T2, FX2 τ → tS τ 64 = (1, 11, 0) := fun τ F => F.sh rfl (by omega) (by omega)
  have s76 : ∀ τ : T2, FX2 τ → tS τ 76 = (1, 4, 0) := fun τ F => F.sh rfl (by omega) (by omega)
  have w1 := w.1 S.1 (by simp)
  have h20 := w1.1.1
  unfold sp_steps at k
  have no : ∀ τ1 : T2, FX2 τ1 → Q (.inl (some (AI (-1)))) τ1 → G d 103 6 [vR 64, vI x, none] [AI 0] τ1 Q := fun τ1 F1 h => t103_6 (q3 := 76) (q5 := 66) (n7 := 20) (by omega) (s0 _ F1) (F1.p rfl) (F1.p rfl) (F1.sh rfl (by omega) (by omega)) (fun c => absurd rfl c) (s76 _ F1) (fun _ => h) (fun c => absurd rfl c)
  refine t103_0 (by omega) (s0 τ F) (c136 F C w (by omega) (fun r n τ1 hr e hn e2 o F1 n1 z1 H h1 h16 => ?_) (fun e => ?_) (fun r hr e e2 => ?_))
  · subst e e2
    rw [if_pos (by omega), if_pos (show 0 ≤ (n : Int) ∧ (n : Int) ≤ ((sTp S).length : Int) from ⟨by omega, by show (n : Int) ≤ (S.2.2.1.length : Int); omega⟩), Int.toNat_natCast, Int.toNat_natCast] at k
    refine t103_6 (q3 := 76) (q5 := 66) (n7 := 20) (by omega) (s0 _ F1) (F1.p rfl) (F1.p rfl) (F1.sh rfl (by omega) (by omega)) (fun _ => by omega) (s76 _ F1) (fun c => absurd c (by decide)) (fun _ => ?_)
    rw [Int.toNat_natCast, F1.p (ptR r (by omega)).1]
    have R1 : RC τ1 S.1 := C.1.oc w1 F o (fun a k z => by unfold HRC at z; unfold DC; omega)
    obtain ⟨e3, la⟩ := R1.lt w1 hr
    refine c18 F1 H (by omega) (ltr_len w1 hr).2.2 e3 la (by omega) fun τ2 o2 F2 n2 z2 => t103_22 ?_
    have N1 := F1.1
    have o3 := o.tr (o2.mo fun a k z => by omega)
    exact k τ2 ⟨HRC_kp o3, F2, by omega, by omega, C.her w F o3 (by rw [(o2.2.2.2 64 1 (by omega) (by omega)).1]; exact h1) (by rw [(o2.2.2.2 64 16 (by omega) (by omega)).1]; exact h16) (by decide)⟩
  · rw [if_neg (by omega)] at k
    exact no _ F.j (k _ (EC.rfs F C w (by decide)))
  · rw [if_pos (by omega), if_neg (show ¬ (0 ≤ y ∧ y ≤ ((sTp S).length : Int)) from fun z => by have : y ≤ (S.2.2.1.length : Int) := z.2; omega)] at k
    exact no _ F.j (k _ (EC.rfs F C w (by decide)))
theorem EM.her {τ τ1 : T2} {S : HSx} (C : MI τ S) (w : WS S) (F : FX2 τ) (F1 : FX2 τ1) (o : OC (fun a k => HRM a k ∨ a = 227 ∨ a = 229 ∨ a = 230 ∨ (a = 220 ∧ (k = 1 ∨ k = 2))) τ τ1) (hn : tN τ1 ≤ tN τ + 1160) (hz : tZ τ1 ≤ tZ τ + 12400) (h1 : tI τ1 220 15 = 0) {why : Int} : EM τ (uI (uI τ1 220 1 why) 220 2 (-1)) (rfS (clS S) why) := by
  have o2 : OC (fun a k => HRM a k ∨ a = 227 ∨ a = 229 ∨ a = 230 ∨ (a = 220 ∧ (k = 1 ∨ k = 2))) τ (uI (uI τ1 220 1 why) 220 2 (-1)) := (o.j (by omega)).j (by omega)
  exact ⟨HRM_kp o2, F1.j.j, by show tN τ1 ≤ _; omega, by show tZ τ1 ≤ _; omega, C.her w F o2 (by rw [tI_uI, if_neg (by decide), tI_uI, if_neg (by decide)]; exact h1) (by rw [tI_uI, if_neg (by decide), tI_uI, if_pos ⟨rfl, rfl⟩]) (by rw [tI_uI, if_pos ⟨rfl, rfl⟩])⟩
theorem mc220 {x y : Int} : MCl 220 [vR 220, vI x, vI y] (sp_takes x y) := fun d τ S Q hd F C w k => by
  have s0 : ∀ τ : T2, FX2 τ → tS τ 220 = (1, 21, 0) := fun τ F => F.sh rfl (by omega) (by omega)
  have w1 := w.1 S.1 (by simp)
  refine t220_0 (by omega) (s0 τ F) ?_
  have k := fun τ2 h => k τ2 (EM.bef (Kp.rf.j (a := 220) (k := 0) (x := 0) (by omega) (by omega)) rfl rfl h)
  have C := C.t0 w F (x := 0)
  have F : FX2 (uI τ 220 0 0) := F.j
  generalize uI τ 220 0 0 = τ at *
  have R := C.1
  have T := C.2.2.1
  have h20 := w1.1.1
  unfold sp_takes at k
  refine m207 F R.1.1 (fun r hr e => ?_) (fun e => ?_)
  · subst e
    rw [if_pos (by omega), Int.toNat_natCast] at k
    refine t220_10 (by omega) (s0 τ F) (fun _ => m206 F T.1 (fun n hn e => ?_) (fun e => ?_)) (fun c => absurd c (by decide))
    · subst e
      rw [if_pos (show 0 ≤ (n : Int) ∧ (n : Int) ≤ ((sTp S).length : Int) from ⟨by omega, by show (n : Int) ≤ (S.2.2.1.length : Int); omega⟩), Int.toNat_natCast] at k
      refine t220_24 (by omega) (s0 τ F) (fun _ => m198 F T w.2.1 w.2.2.1 hn (by omega) fun τ1 o F1 n1 z1 H h1 => ?_) (fun c => absurd c (by decide))
      have N1 := F1.1
      have R1 : RM τ1 S.1 := R.oc w1 F o (fun a k z => by unfold HRM at z; unfold DM; omega)
      refine t220_38 (q2 := 221) (n4 := 20) (by omega) (s0 _ F1) (F1.p rfl) (F1.sh rfl (by omega) (by omega)) (by omega) ?_
      rw [Int.toNat_natCast, F1.p (ptM r (by omega)).1]
      refine m200 F1 R1 w1 hr H (hrd_b _).2 (by omega) fun τ2 o2 F2 n2 z2 => t220_49 (by omega) (s0 _ F2) (m165 F2 (t220_52 ?_))
      have o3 : OC (fun a k => HRM a k ∨ a = 227 ∨ a = 229 ∨ a = 230 ∨ (a = 220 ∧ (k = 1 ∨ k = 2))) τ τ2 := (o.mo fun a k z => Or.inl z).tr (o2.mo fun a k z => by omega)
      exact k _ (EM.her C w F F2 o3 (by omega) (by omega) (by rw [(o2.2.2.2 220 15 (by omega) (by omega)).1]; exact h1))
    · rw [if_neg (show ¬ (0 ≤ y ∧ y ≤ ((sTp S).length : Int)) from fun z => by have : y ≤ (S.2.2.1.length : Int) := z.2; omega)] at k
      exact t220_24 (by omega) (s0 τ F) (fun c => absurd rfl c) (fun _ => m163 F (t220_32 (k _ (EM.rfs F C w))))
  · rw [if_neg (by omega)] at k
    exact t220_10 (by omega) (s0 τ F) (fun c => absurd rfl c) (fun _ => m163 F (t220_18 (k _ (EM.rfs F C w))))
theorem mc221 {x y : Int} : MCl 221 [vR 220, vI x, vI y] (sp_steps x y) := fun d τ S Q hd F C w k => by
  have s0 : ∀ τ : T2, FX2 τ → tS τ 220 = (1, 21, 0) := fun τ F => F.sh rfl (by omega) (by omega)
  have w1 := w.1 S.1 (by simp)
  refine t221_0 (by omega) (s0 τ F) ?_
  have k := fun τ2 h => k τ2 (EM.bef (Kp.rf.j (a := 220) (k := 0) (x := 0) (by omega) (by omega)) rfl rfl h)
  have C := C.t0 w F (x := 0)
  have F : FX2 (uI τ 220 0 0) := F.j
  generalize uI τ 220 0 0 = τ at *
  have R := C.1
  have T := C.2.2.1
  have h20 := w1.1.1
  unfold sp_steps at k
  refine m207 F R.1.1 (fun r hr e => ?_) (fun e => ?_)
  · subst e
    rw [if_pos (by omega), Int.toNat_natCast] at k
    refine t221_10 (by omega) (s0 τ F) (fun _ => m206 F T.1 (fun n hn e => ?_) (fun e => ?_)) (fun c => absurd c (by decide))
    · subst e
      rw [if_pos (show 0 ≤ (n : Int) ∧ (n : Int) ≤ ((sTp S).length : Int) from ⟨by omega, by show (n : Int) ≤ (S.2.2.1.length : Int); omega⟩), Int.toNat_natCast] at k
      refine t221_24 (by omega) (s0 τ F) (fun _ => m198 F T w.2.1 w.2.2.1 hn (by omega) fun τ1 o F1 n1 z1 H h1 => ?_) (fun c => absurd c (by decide))
      have N1 := F1.1
      have R1 : RM τ1 S.1 := R.oc w1 F o (fun a k z => by unfold HRM at z; unfold DM; omega)
      refine t221_38 (q2 := 221) (n4 := 20) (by omega) (s0 _ F1) (F1.p rfl) (F1.sh rfl (by omega) (by omega)) (by omega) ?_
      rw [Int.toNat_natCast, F1.p (ptM r (by omega)).1]
      obtain ⟨e3, la⟩ := R1.lt w1 hr
      refine m199 F1 H (by omega) (ltr_len w1 hr).2.2 e3 la (by omega) fun τ2 o2 F2 n2 z2 => t221_49 (by omega) (s0 _ F2) (m165 F2 (t221_52 ?_))
      have o3 : OC (fun a k => HRM a k ∨ a = 227 ∨ a = 229 ∨ a = 230 ∨ (a = 220 ∧ (k = 1 ∨ k = 2))) τ τ2 := (o.mo fun a k z => Or.inl z).tr (o2.mo fun a k z => by omega)
      exact k _ (EM.her C w F F2 o3 (by omega) (by omega) (by rw [(o2.2.2.2 220 15 (by omega) (by omega)).1]; exact h1))
    · rw [if_neg (show ¬ (0 ≤ y ∧ y ≤ ((sTp S).length : Int)) from fun z => by have : y ≤ (S.2.2.1.length : Int) := z.2; omega)] at k
      exact t221_24 (by omega) (s0 τ F) (fun c => absurd rfl c) (fun _ => m163 F (t221_32 (k _ (EM.rfs F C w))))
  · rw [if_neg (by omega)] at k
    exact t221_10 (by omega) (s0 τ F) (fun c => absurd rfl c) (fun _ => m163 F (t221_18 (k _ (EM.rfs F C w))))
