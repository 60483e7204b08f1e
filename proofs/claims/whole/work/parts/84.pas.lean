/-! feed, undo; pass, patience, hint -/
theorem cU_back {c : CO} {g i k : Nat} {x : Int} : cU (cU c g i k x) g i k (cD c g i k) = c := by
  have e : ud (ud (cD c) g i k x) g i k (cD c g i k) = cD c := by
    funext g1 i1 k1
    unfold ud
    by_cases h : g1 = g ∧ i1 = i ∧ k1 = k
    · rw [if_pos h, h.1, h.2.1, h.2.2]
    · rw [if_neg h, if_neg h]
  show (c.1, ud (ud (cD c) g i k x) g i k (cD c g i k), c.2.2) = c
  rw [e]
  rfl
theorem cU_cm {c : CO} {g i k g1 i1 k1 : Nat} {x y : Int} (h : ¬ (g1 = g ∧ i1 = i ∧ k1 = k)) : cU (cU c g i k x) g1 i1 k1 y = cU (cU c g1 i1 k1 y) g i k x := by
  have e : ud (ud (cD c) g i k x) g1 i1 k1 y = ud (ud (cD c) g1 i1 k1 y) g i k x := by
    funext g2 i2 k2
    unfold ud
    by_cases h1 : g2 = g ∧ i2 = i ∧ k2 = k
    · have h2 : ¬ (g2 = g1 ∧ i2 = i1 ∧ k2 = k1) := by omega
      simp only [if_pos h1, if_neg h2]
    · by_cases h2 : g2 = g1 ∧ i2 = i1 ∧ k2 = k1
      · simp only [if_neg h1, if_pos h2]
      · simp only [if_neg h1, if_neg h2]
  show (c.1, ud (ud (cD c) g i k x) g1 i1 k1 y, c.2.2) = (c.1, ud (ud (cD c) g1 i1 k1 y) g i k x, c.2.2)
  rw [e]
section APO
variable {a b k : Nat}
theorem ap_oc (l : List Int) (τ0 τ : T2) (h : OC (fun x j => x = a ∨ (x = b ∧ j = k)) τ0 τ) : OC (fun x j => x = a ∨ (x = b ∧ j = k)) τ0 (ap a b k τ l) := by
  induction l generalizing τ with
  | nil => exact h
  | cons x r ih => exact ih _ (OC.j (P := fun x j => x = a ∨ (x = b ∧ j = k)) (OC.j (P := fun x j => x = a ∨ (x = b ∧ j = k)) h (Or.inl rfl)) (Or.inr ⟨rfl, rfl⟩))
theorem ap_ls {τ : T2} {l l1 : List Int} (h : b ≠ a) (h1 : tI τ b k = (l.length : Int)) (h2 : Ls τ a l) : tI (ap a b k τ l1) b k = ((l ++ l1).length : Int) ∧ Ls (ap a b k τ l1) a (l ++ l1) := by
  refine ⟨?_, fun j hj => ?_⟩
  · rw [ap_cnt l1 τ h, h1, List.length_append]; rfl
  · rw [List.length_append] at hj
    by_cases e : j < l.length
    · rw [ap_old l1 τ h h1 (Or.inl e), h2 j e, List.getD_eq_getElem?_getD, List.getD_eq_getElem?_getD, List.getElem?_append_left e]
    · obtain ⟨i, rfl⟩ : ∃ i, j = l.length + i := ⟨j - l.length, by omega⟩
      rw [ap_new l1 τ h h1 (by omega), List.getD_eq_getElem?_getD, List.getD_eq_getElem?_getD, List.getElem?_append_right (by omega), Nat.add_sub_cancel_left]
end APO
def fed5 (a b c e g : Int) : List Int := by4 a ++ by4 b ++ by4 c ++ by4 e ++ by4 g
def sp_feed (a b c e g : Int) (S : HSx) : Int × HSx := if (sTp S).length + 20 ≤ 300 then ((((sTp S).length + 20 : Nat) : Int), (S.1, S.2.1, sTp S ++ fed5 a b c e g, S.2.2.2)) else (-1, S)
theorem cc92 {a b c e g : Int} : CCl 92 [vR 64, vI a, vI b, vI c, vI e, vI g] (sp_feed a b c e g) := fun d τ S Q hd F C w k => by
  have C0 := C
  obtain ⟨R, L, T, O, h3, h4, h5⟩ := C0
  unfold sp_feed at k
  refine c92 F T.1 w.2.1 (by omega) (fun h => ?_) (fun h => ?_)
  · rw [if_pos h] at k
    have o := ap_oc (a := 65) (b := 64) (k := 1) (fed5 a b c e g) τ τ OC.rf
    have kp := ap_kp (a := 65) (b := 64) (k := 1) (lo := 64) (hi := 220) (fed5 a b c e g) τ τ Kp.rf (by omega) (by omega) (by omega) (by omega)
    obtain ⟨f1, f2, f3, f4⟩ := ap_fr (a := 65) (b := 64) (k := 1) (fed5 a b c e g) τ
    have N := F.1
    refine k _ ⟨kp, ap_fx F _, by rw [show by4 a ++ by4 b ++ by4 c ++ by4 e ++ by4 g = fed5 a b c e g from rfl, f3]; omega, by rw [show by4 a ++ by4 b ++ by4 c ++ by4 e ++ by4 g = fed5 a b c e g from rfl, f4]; omega, ?_⟩
    exact C.up w F o (fun a k z => by unfold FC DC LGP; omega) (ap_ls (by decide) T.1 T.2) (O.oc F o (fun a k z => by omega)) (by rw [(o.2.2.2 64 16 (by omega) (by omega)).1]; exact h3) (fun z => by rw [(o.2.2.2 73 7 (by omega) (by omega)).1]; exact h4 z) (by rw [(o.2.2.2 64 17 (by omega) (by omega)).1]; exact h5)
  · rw [if_neg (show ¬ S.2.2.1.length + 20 ≤ 300 by omega)] at k
    exact k τ (EC.rf F C)
theorem mc205 {a b c e g : Int} : MCl 205 [vR 220, vI a, vI b, vI c, vI e, vI g, none, none] (sp_feed a b c e g) := fun d τ S Q hd F C w k => by
  have C1 := C.t0 w F (x := 0)
  have F1 : FX2 (uI τ 220 0 0) := F.j
  have C0 := C1
  obtain ⟨R, L, T, O, h3, h4, h5⟩ := C0
  unfold sp_feed at k
  refine m205 F C.2.2.1.1 w.2.1 (fun h => ?_) (fun h => ?_)
  · rw [if_pos h] at k
    have o := ap_oc (a := 226) (b := 220) (k := 15) (fed5 a b c e g) (uI τ 220 0 0) (uI τ 220 0 0) OC.rf
    have kp := ap_kp (a := 226) (b := 220) (k := 15) (lo := 220) (hi := 472) (fed5 a b c e g) τ (uI τ 220 0 0) (Kp.rf.j (by omega) (by omega)) (by omega) (by omega) (by omega) (by omega)
    obtain ⟨f1, f2, f3, f4⟩ := ap_fr (a := 226) (b := 220) (k := 15) (fed5 a b c e g) (uI τ 220 0 0)
    have N := F1.1
    have z0 : tZ (uI τ 220 0 0) = tZ τ := rfl
    have n0 : tN (uI τ 220 0 0) = tN τ := rfl
    refine k _ ⟨kp, ap_fx F1 _, by rw [show by4 a ++ by4 b ++ by4 c ++ by4 e ++ by4 g = fed5 a b c e g from rfl, f3]; omega, by rw [show by4 a ++ by4 b ++ by4 c ++ by4 e ++ by4 g = fed5 a b c e g from rfl, f4]; omega, ?_⟩
    exact C1.up w F1 o (fun a k z => by unfold FM DM AMP; omega) (ap_ls (by decide) T.1 T.2) (O.oc F1 o (fun a k z => by omega)) (by rw [(o.2.2.2 220 1 (by omega) (by omega)).1]; exact h3) (by rw [(o.2.2.2 220 2 (by omega) (by omega)).1]; exact h4) (by rw [(o.2.2.2 220 3 (by omega) (by omega)).1]; exact h5)
  · rw [if_neg (show ¬ S.2.2.1.length + 20 ≤ 300 by omega)] at k
    exact k _ (EM.t0 C w F)
theorem ws_feed {S : HSx} (w : WS S) {a b c e g : Int} : WS (sp_feed a b c e g S).2 := by
  unfold sp_feed
  split
  · rename_i h
    refine ⟨w.1, ?_, fun x hx => ?_, w.2.2.2.1, w.2.2.2.2⟩
    · show (sTp S ++ fed5 a b c e g).length ≤ 300
      rw [List.length_append]; exact h
    · rcases List.mem_append.mp hx with hx | hx
      · exact w.2.2.1 x hx
      · have q : ∀ y, x ∈ by4 y → -128 ≤ x ∧ x ≤ 127 := fun y hy => by
          unfold by4 at hy
          simp only [List.mem_cons, List.not_mem_nil, or_false] at hy
          rcases hy with h | h | h | h <;> rw [h] <;> exact zbyt_r _
        unfold fed5 at hx
        simp only [List.mem_append] at hx
        rcases hx with (((hx | hx) | hx) | hx) | hx <;> exact q _ hx
  · exact w
def sp_undo (S : HSx) : Int × HSx := match S.2.1 with
  | [] => (0, S)
  | c1 :: cs => (1, (c1, cs, S.2.2))
theorem ws_undo {S : HSx} (w : WS S) : WS (sp_undo S).2 := by
  obtain ⟨c, cs, r⟩ := S
  cases cs with
  | nil => exact w
  | cons c1 cs => exact ⟨fun x hx => w.1 x (List.mem_cons_of_mem _ hx), w.2⟩
theorem cc122 : CCl 122 [vR 64] sp_undo := fun d τ S Q hd F C w k => by
  have C0 := C
  obtain ⟨R, ⟨E, L, hc⟩, T, O, h3, h4, h5⟩ := C0
  refine c122 F R (w.1 _ (by simp)) L hc (by omega) (fun h => ?_) (fun c1 cs1 E1 τ1 h o F1 hn hz R1 L1 hc1 => ?_)
  · have e : sp_undo S = (0, S) := by unfold sp_undo; rw [h]
    rw [e] at k
    exact k τ (EC.rf F C)
  · have e : sp_undo S = (1, (c1, cs1, S.2.2)) := by unfold sp_undo; rw [h]
    rw [e] at k
    have N := F.1
    have hu : ∀ a k, UPC a k → 64 ≤ a ∧ a < 220 ∧ ¬ (a = 65 ∨ a = 73 ∨ (80 ≤ a ∧ a ≤ 83) ∨ (a = 64 ∧ (k = 1 ∨ k = 12 ∨ k = 13 ∨ k = 16 ∨ k = 17))) := fun a k z => by unfold UPC DC at z; omega
    have nu : ∀ a k, (a = 73 ∨ (a = 64 ∧ (k = 16 ∨ k = 17))) → ¬ UPC a k := fun a k z y => by have := hu a k y; omega
    refine k τ1 ⟨o.kp (fun a k z => by have := hu a k z; omega), F1, by omega, by omega, R1, ⟨E1, L1, hc1⟩, T.oc F o (fun a k z => by have := hu a k z; omega), O.oc F o (fun a k z => by have := hu a k z; omega), by rw [(o.2.2.2 64 16 (by omega) (nu _ _ (by omega))).1]; exact h3, fun z => by rw [(o.2.2.2 73 7 (by omega) (nu _ _ (by omega))).1]; exact h4 z, by rw [(o.2.2.2 64 17 (by omega) (nu _ _ (by omega))).1]; exact h5⟩
theorem mc171 : MCl 171 [vR 220, none, none] sp_undo := fun d τ S Q hd F C w k => by
  have C0 := C
  obtain ⟨R, ⟨E, L, hc⟩, T, O, h3, h4, h5⟩ := C0
  refine m171 F R (w.1 _ (by simp)) L hc (by omega) (fun h => ?_) (fun c1 cs1 E1 τ1 h o F1 hn hz R1 L1 hc1 => ?_)
  · have e : sp_undo S = (0, S) := by unfold sp_undo; rw [h]
    rw [e] at k
    exact k _ (EM.t0 C w F)
  · have e : sp_undo S = (1, (c1, cs1, S.2.2)) := by unfold sp_undo; rw [h]
    rw [e] at k
    have N := F.1
    have hu : ∀ a k, UPM a k → 220 ≤ a ∧ a < 472 ∧ ¬ (a = 226 ∨ a = 232 ∨ (a = 220 ∧ (k = 1 ∨ k = 2 ∨ k = 3 ∨ k = 15 ∨ k = 34))) := fun a k z => by unfold UPM DM at z; omega
    have nu : ∀ a k, (a = 220 ∧ (k = 1 ∨ k = 2 ∨ k = 3)) → ¬ UPM a k := fun a k z y => by have := hu a k y; omega
    refine k τ1 ⟨o.kp (fun a k z => by have := hu a k z; omega), F1, by omega, by omega, R1, ⟨E1, L1, hc1⟩, T.oc F o (fun a k z => by have := hu a k z; omega), O.oc F o (fun a k z => by have := hu a k z; omega), by rw [(o.2.2.2 220 1 (by omega) (nu _ _ (by omega))).1]; exact h3, by rw [(o.2.2.2 220 2 (by omega) (nu _ _ (by omega))).1]; exact h4, by rw [(o.2.2.2 220 3 (by omega) (nu _ _ (by omega))).1]; exact h5⟩
/-- what stays behind an accepted act's note -/
theorem acc_C {τ τ1 : T2} {tp ou : List Int} {fa : Int} (F : FX2 τ) (o : OC ACP τ τ1) (T : TpC τ tp) (O : OuC τ ou) (h : tI τ 64 17 = fa) : TpC τ1 tp ∧ OuC τ1 ou ∧ tI τ1 64 17 = fa := by
  have N := F.1
  exact ⟨T.oc F o (fun a k z => by unfold ACP LGP at z; omega), O.oc F o (fun a k z => by unfold ACP LGP at z; omega), by rw [(o.2.2.2 64 17 (by omega) (by unfold ACP LGP; omega)).1]; exact h⟩
theorem acc_M {τ τ1 : T2} {tp ou : List Int} {fa : Int} (F : FX2 τ) (o : OC AMP τ τ1) (T : TpM τ tp) (O : OuM τ ou) (h : tI τ 220 3 = fa) : TpM τ1 tp ∧ OuM τ1 ou ∧ tI τ1 220 3 = fa := by
  have N := F.1
  exact ⟨T.oc F o (fun a k z => by unfold AMP at z; omega), O.oc F o (fun a k z => by unfold AMP at z; omega), by rw [(o.2.2.2 220 3 (by omega) (by unfold AMP; omega)).1]; exact h⟩
theorem RC.acc {τ τ1 : T2} {c : CO} (R : RC τ c) (w : WF c) (F : FX2 τ) (o : OC ACP τ τ1) : RC τ1 c := R.oc w F o (fun a k z => by unfold ACP LGP at z; unfold DC; omega)
theorem RM.acc {τ τ1 : T2} {c : CO} (R : RM τ c) (w : WF c) (F : FX2 τ) (o : OC AMP τ τ1) : RM τ1 c := R.oc w F o (fun a k z => by unfold AMP at z; unfold DM; omega)
theorem ACP_kp {τ τ1 : T2} (o : OC ACP τ τ1) : Kp 64 220 τ τ1 := o.kp (fun a k z => by unfold ACP LGP at z; omega)
theorem AMP_kp {τ τ1 : T2} (o : OC AMP τ τ1) : Kp 220 472 τ τ1 := o.kp (fun a k z => by unfold AMP at z; omega)
/-- the model says that it is done -/
def dnM (τ : T2) : T2 := uI (uI τ 220 1 0) 220 2 (-1)
theorem dn_oc (τ : T2) : OC (fun a k => a = 220 ∧ (k = 1 ∨ k = 2)) τ (dnM τ) := OC.j (P := fun a k => a = 220 ∧ (k = 1 ∨ k = 2)) (OC.j (P := fun a k => a = 220 ∧ (k = 1 ∨ k = 2)) OC.rf ⟨rfl, Or.inl rfl⟩) ⟨rfl, Or.inr rfl⟩
theorem dn_v (τ : T2) : tI (dnM τ) 220 1 = 0 ∧ tI (dnM τ) 220 2 = -1 := ⟨by unfold dnM; rw [tI_uI, if_neg (by decide), tI_uI, if_pos ⟨rfl, rfl⟩], by unfold dnM; rw [tI_uI, if_pos ⟨rfl, rfl⟩]⟩
/-- the model's end of an act -/
theorem MI.mkD {τ τ2 : T2} {c c1 : CO} {cs : List CO} {tp ou : List Int} {fa : Int} {E : List ENM} {e : ENM} (F : FX2 τ2) (w : WF c1) (R : RM τ2 c1) (L : LgM τ2 (e :: E.take 99)) (U : UndM τ2 e c1 c) (hc : ChM τ c cs E) (fr : Fr τ τ2) (T : TpM τ2 tp) (O : OuM τ2 ou) (h3 : tI τ2 220 3 = fa) : MI (dnM τ2) (c1, c :: cs.take 99, tp, ou, 0, -1, fa) := by
  have o := dn_oc τ2
  have fr2 : Fr τ2 (dnM τ2) := o.fr fun a k z => by omega
  have N := F.1
  exact MI.mkA (R.oc w F o (fun a k z => ⟨by unfold DM; omega, by omega⟩)) (L.oc F o (fun a k z => by omega)) (U.fr fr2) hc (fr.tr fr2) (T.oc F o (fun a k z => by omega)) (O.oc F o (fun a k z => by omega)) (dn_v τ2).1 (dn_v τ2).2 (by rw [(o.2.2.2 220 3 (by omega) (by omega)).1]; exact h3)
def sp_pass (x : Int) (S : HSx) : Int × HSx := if 1 ≤ x ∧ x ≤ 1000 ∧ cD S.1 0 0 0 + x ≤ 9999 then (cD S.1 0 0 0 + x, acS S (cU S.1 0 0 0 (cD S.1 0 0 0 + x))) else (-1, rfS S 2)
theorem vd0 : vd 0 0 0 := by unfold vd; omega
theorem und_pass_C {τ : T2} {c : CO} {x y : Int} (h0 : okI (cD c 0 0 0)) (hy : y = cD c 0 0 0 + x) : UndC τ ((9, x, 0, 0, 0), none) (cU c 0 0 0 y) c := by
  intro τ1 d Q hd fr F R ⟨⟨l1, l2, l3, l4, l5⟩, l6⟩ k
  have l1 : tI τ1 89 4 = 9 := l1
  refine ⟨fun h => absurd (show (9 : Int) < 8 from h) (by decide), fun _ => ?_⟩
  have s89 : tS τ1 89 = (1, 5, 0) := F.sh rfl (by omega) (by omega)
  refine t146_0 (q2 := 89) (by omega) (F.sh rfl (by omega) (by omega)) (F.p rfl) s89 (fun h => absurd l1 h) (fun _ => ?_)
  have e : wr (tI τ1 64 9 - tI τ1 89 5) = cD c 0 0 0 := by
    rw [R.now, l2, cU_at, hy]
    show wr (cD c 0 0 0 + x - x) = _
    rw [show cD c 0 0 0 + x - x = cD c 0 0 0 by omega]
    exact wr_id h0
  rw [e]
  have R2 := RC.je R (a := 64) (j := 9) (x := cD c 0 0 0) vd0 (by omega) (by omega) rfl rfl
  rw [cU_back] at R2
  exact k _ (OC.rf.j (by unfold DC; omega)) F.j rfl rfl R2
theorem und_pass_M {τ : T2} {c : CO} {y : Int} {p : Option Nat × Option Nat × Option Nat} : UndM τ ((8, cD c 0 0 0, 0, 0, 0), p) (cU c 0 0 0 y) c := by
  intro τ1 d Q q hd fr F R q1 q2 ⟨⟨l1, l2, l3, l4, l5⟩, _⟩ k
  have sq : tS τ1 q = (1, 12, 0) := by
    have := F.sh (SHA (q - 236) (by omega)) (by omega) (by omega)
    rw [show 236 + (q - 236) = q by omega] at this
    exact this
  show G d 171 38 [vR 220, vR q, none] [AI 8] τ1 Q
  refine t171_38 (fun c => absurd c (by decide)) (fun c => absurd c (by decide)) (fun c => absurd c (by decide)) (fun c => absurd c (by decide)) (fun c => absurd c (by decide)) (fun c => absurd c (by decide)) (fun c => absurd c (by decide)) (fun c => absurd c (by decide)) (fun _ => ?_) (fun c => absurd c (by decide)) (fun c => absurd c (by decide))
  refine t171_244 sq (F.sh rfl (by omega) (by omega)) ?_
  rw [l2]
  have R2 := RM.je R (a := 220) (j := 7) (x := cD c 0 0 0) vd0 (by omega) (by omega) rfl rfl
  rw [cU_back] at R2
  exact k _ (OC.rf.j (by unfold DM; omega)) F.j rfl rfl R2
theorem wf_pass {c : CO} (w : WF c) {y : Int} (h1 : cD c 0 0 0 ≤ y) (h2 : y ≤ 9999) : WF (cU c 0 0 0 y) := by
  obtain ⟨w1, w2, w3, w4, w5⟩ := w
  have e0 : cD (cU c 0 0 0 y) 0 0 0 = y := cU_at
  have e : ∀ g i k, g ≠ 0 → cD (cU c 0 0 0 y) g i k = cD c g i k := fun g i k h => cU_ne (by omega)
  have eg : ∀ g i, g ≠ 0 → cD (cU c 0 0 0 y) g i = cD c g i := fun g i h => funext fun k => e g i k h
  have eh : ∀ g, g ≠ 0 → cD (cU c 0 0 0 y) g = cD c g := fun g h => funext fun i => eg g i h
  refine ⟨⟨w1.1, w1.2.1, w1.2.2.1, by rw [e0]; have := w1.2.2.2; omega, by rw [e0]; exact h2⟩, fun r hr => ?_, fun t ht => ?_, fun u hu => ?_, fun t ht => ?_⟩
  · rw [eg 1 r (by decide), eg 2 r (by decide), eg 3 r (by decide), eg 4 r (by decide)]; exact w2 r hr
  · obtain ⟨a1, a2, a3⟩ := w3 t ht
    rw [eg 5 t (by decide), eg 6 t (by decide), eg 7 t (by decide), eg 8 t (by decide), eg 9 t (by decide), e0]
    refine ⟨⟨a1.1, by omega⟩, a2, fun r hr => ?_⟩
    obtain ⟨b1, b2, b3, b4⟩ := a3 r hr
    rw [eg 1 r (by decide)]
    exact ⟨by omega, b2, b3, b4⟩
  · rw [eg 11 u (by decide), eg 12 u (by decide)]; exact w4 u hu
  · rw [eg 8 t (by decide), eg 10 t (by decide), eh 4 (by decide)]; exact w5 t ht
theorem ws_pass {S : HSx} (w : WS S) {x : Int} : WS (sp_pass x S).2 := by
  unfold sp_pass
  split
  · exact w.act (wf_pass (w.1 _ (by simp)) (by omega) (by omega))
  · exact w.rfs 2
theorem cc111 {x : Int} : CCl 111 [vR 64, vI x] (sp_pass x) := fun d τ S Q hd F C w k => by
  have s0 : ∀ τ : T2, FX2 τ → tS τ 64 = (1, 11, 0) := fun τ F => F.sh rfl (by omega) (by omega)
  have w1 := w.1 S.1 (by simp)
  have C0 := C
  obtain ⟨R, ⟨E, L, hc⟩, T, O, h3, h4, h5⟩ := C0
  have en := R.now
  have hb := w1.1.2.2.2
  have bad : (1 ≤ x ∧ x ≤ 1000 ∧ cD S.1 0 0 0 + x ≤ 9999 → False) → G (d - 1) 126 0 [vR 64, vI 2] [] τ (KC d 111 26 29 [none, none] [] Q) := fun h => by
    unfold sp_pass at k
    rw [if_neg h] at k
    exact c126 F (t111_29 (k _ (EC.rfs F C w (by decide))))
  have wrx : 1 ≤ x → x ≤ 1000 → wr (tI τ 64 9 + x) = cD S.1 0 0 0 + x := fun h1 h2 => by rw [en]; exact wr_id (by unfold okI; omega)
  refine t111_0 (by omega) (s0 τ F) (fun h => bad (by omega)) (fun _ h => bad (by omega)) (fun h1 h2 h6 => ?_) (fun h1 h2 h6 => bad (by rw [wrx h1 h2] at h6; omega))
  rw [wrx h1 h2] at h6
  unfold sp_pass at k
  rw [if_pos ⟨h1, h2, h6⟩] at k
  refine c127 F L (by omega) fun τ1 o F1 hn hz h0 hl => t111_40 (s0 _ F1) ?_
  have R1 := R.acc w1 F o
  obtain ⟨T1, O1, h51⟩ := acc_C F o T O h5
  have e : wr (tI τ1 64 9 + x) = cD S.1 0 0 0 + x := by rw [R1.now]; exact wr_id (by unfold okI; omega)
  rw [e, show tI (uI τ1 64 9 (cD S.1 0 0 0 + x)) 64 9 = cD S.1 0 0 0 + x by rw [tI_uI, if_pos ⟨rfl, rfl⟩]]
  have R2 := RC.je R1 (a := 64) (j := 9) (x := cD S.1 0 0 0 + x) vd0 (by omega) (by omega) rfl rfl
  have o2 : OC (fun a k => a = 64 ∧ k = 9) τ1 (uI τ1 64 9 (cD S.1 0 0 0 + x)) := OC.j (P := fun a k => a = 64 ∧ k = 9) OC.rf ⟨rfl, rfl⟩
  refine k _ ⟨(ACP_kp o).j (by omega) (by omega), F1.j, by rw [tN_uI]; omega, by rw [tZ_uI]; omega, CI.mkA R2 (hl.oc F1 o2 (fun a k z => by omega)) (und_pass_C (by unfold okI; omega) rfl) hc ((o.fr fun a k z => by unfold ACP LGP at z; omega).tr (Fr.u (by omega))) (T1.oc F1 o2 (fun a k z => by omega)) (O1.oc F1 o2 (fun a k z => by omega)) ?_ ?_⟩
  · rw [tI_uI, if_neg (by decide)]; exact h0
  · rw [tI_uI, if_neg (by decide)]; exact h51
theorem mc229 {x : Int} : MCl 229 [vR 220, vI x] (sp_pass x) := fun d τ S Q hd F C w k => by
  have s0 : ∀ τ : T2, FX2 τ → tS τ 220 = (1, 21, 0) := fun τ F => F.sh rfl (by omega) (by omega)
  have w1 := w.1 S.1 (by simp)
  refine t229_0 (by omega) (s0 τ F) ?_
  have k := fun τ2 h => k τ2 (EM.bef (Kp.rf.j (a := 220) (k := 0) (x := 0) (by omega) (by omega)) rfl rfl h)
  have C := C.t0 w F (x := 0)
  have F : FX2 (uI τ 220 0 0) := F.j
  generalize uI τ 220 0 0 = τ at *
  have C0 := C
  obtain ⟨R, ⟨E, L, hc⟩, T, O, h3, h4, h5⟩ := C0
  have en := R.now
  have hb := w1.1.2.2.2
  have bad : (1 ≤ x ∧ x ≤ 1000 ∧ cD S.1 0 0 0 + x ≤ 9999 → False) → G (d - 1) 163 0 [vR 220, vI 2] [] τ (KC d 229 30 33 [none, none] [] Q) := fun h => by
    unfold sp_pass at k
    rw [if_neg h] at k
    exact m163 F (t229_33 (k _ (EM.rfs F C w)))
  refine m167 (fun h1 h2 => ?_) (fun h => t229_13 (by omega) (s0 τ F) (fun _ => bad (by omega)) (fun c => absurd rfl c) (fun c => absurd rfl c))
  have wrx : wr (tI τ 220 7 + x) = cD S.1 0 0 0 + x := by rw [en]; exact wr_id (by unfold okI; omega)
  refine t229_13 (by omega) (s0 τ F) (fun c => absurd c (by decide)) (fun _ h6 => ?_) (fun _ h6 => bad (by rw [wrx] at h6; omega))
  rw [wrx] at h6
  unfold sp_pass at k
  rw [if_pos ⟨h1, h2, h6⟩] at k
  rw [en]
  refine m170 F L fun τ1 q p o F1 hn hz hl => t229_47 (s0 := some q) (by omega) (s0 _ F1) ?_
  have R1 := R.acc w1 F o
  obtain ⟨T1, O1, h51⟩ := acc_M F o T O h5
  have e : wr (tI τ1 220 7 + x) = cD S.1 0 0 0 + x := by rw [R1.now]; exact wr_id (by unfold okI; omega)
  rw [e, show tI (uI τ1 220 7 (cD S.1 0 0 0 + x)) 220 7 = cD S.1 0 0 0 + x by rw [tI_uI, if_pos ⟨rfl, rfl⟩]]
  have R2 := RM.je R1 (a := 220) (j := 7) (x := cD S.1 0 0 0 + x) vd0 (by omega) (by omega) rfl rfl
  have o2 : OC (fun a k => a = 220 ∧ k = 7) τ1 (uI τ1 220 7 (cD S.1 0 0 0 + x)) := OC.j (P := fun a k => a = 220 ∧ k = 7) OC.rf ⟨rfl, rfl⟩
  refine m165 F1.j (t229_66 ?_)
  refine k (dnM (uI τ1 220 7 (cD S.1 0 0 0 + x))) ⟨(((AMP_kp o).j (by omega) (by omega)).j (by omega) (by omega)).j (by omega) (by omega), F1.j.j.j, by show tN τ1 ≤ _; omega, by show tZ τ1 ≤ _; omega, MI.mkD F1.j (wf_pass w1 (by omega) (by omega)) R2 (hl.lg.oc F1 o2 (fun a k z => by omega)) und_pass_M hc ((o.fr fun a k z => by unfold AMP at z; omega).tr (Fr.u (by omega))) (T1.oc F1 o2 (fun a k z => by omega)) (O1.oc F1 o2 (fun a k z => by omega)) ?_⟩
  rw [tI_uI, if_neg (by decide)]; exact h51
