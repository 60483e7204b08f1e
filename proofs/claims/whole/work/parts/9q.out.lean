/-! out -/
theorem g_nse {d mi pc ix : Nat} {τ : T2} {Q : RS → T2 → Prop} {L : LO} (hc : CD mi pc = some (.new ix, 3)) (hn : NW mi ix = some 99) (hh : HD mi pc = none) (hd : 16 ≤ d) (k : Q (.inr (tN τ)) (nC τ (1, 99, 0) 6)) : G d mi pc L [] τ Q := by
  refine ⟨1, .inr (tN τ), nC τ (1, 99, 0) 6, ?_, k⟩
  have hst : step mi pc L [] (toST τ) = some (.inr (.inr (.inr (tN τ), toST (nC τ (1, 99, 0) 6)))) := by
    unfold step
    rw [hc]
    show nwo (pc + 3) L (NW mi ix) [] (toST τ) = _
    rw [hn, toST_nC]
    rfl
  simp only [run]
  rw [hst]
  have e0 : ¬ (d < 16 ∨ 8 < wt ([] : List AV)) := by
    show ¬ (d < 16 ∨ 8 < 0)
    omega
  have e1 : HX mi pc (tN τ) (toST (nC τ (1, 99, 0) 6)) = some none := by
    unfold HX
    rw [hh]
  simp only [if_neg e0, e1]
theorem c267 {x : Int} {d : Nat} {τ : T2} {S : HSx} {Q : RS → T2 → Prop} (hd : 100 ≤ d) (F : FX2 τ) (C : CI τ S) (w : WS S) (k0 : 0 ≤ x → x < ((sOu S).length : Int) → Q (.inl (some (AI 0))) (uI τ 472 0 ((sOu S).getD x.toNat 0))) (k1 : ¬ (0 ≤ x ∧ x < ((sOu S).length : Int)) → ∀ τ1, EC τ τ1 S → Q (.inl (some (AI 1))) τ1) : G d 267 0 [vR 64, vI x, vR 472, none] [] τ Q := by
  have C0 := C
  obtain ⟨-, -, -, ⟨a, v, o1, o2, o3, o4, o5⟩, -⟩ := C0
  have h24 := w.2.2.2.1
  have o4 : tI τ a 1 = ((sOu S).length : Int) := o4
  have h24 : (sOu S).length ≤ 24 := h24
  have sa : tS τ a = (1, 7, 0) ∧ tP τ a 0 = some (a + 1) ∧ tS τ (a + 1) = (2, 1, 24) := by
    rcases o1 with e | e
    · rw [e.1]; exact ⟨F.sh rfl (by omega) (by omega), F.p rfl, F.sh rfl (by omega) (by omega)⟩
    · rw [e.1]; exact ⟨F.sh rfl (by omega) (by omega), F.p rfl, F.sh rfl (by omega) (by omega)⟩
  have bad : ¬ (0 ≤ x ∧ x < ((sOu S).length : Int)) → G (d - 1) 108 27 [none, none] [] τ (KC d 267 4 7 [none, none, none, none] [AI 0, AP (some 472)] Q) := fun h => by
    refine g_nse (ix := 240) rfl rfl rfl (by omega) ?_
    have o : OC (fun _ _ => False) τ (nC τ (1, 99, 0) 6) := OC.rf.n
    have E1 : EC τ (nC τ (1, 99, 0) 6) S := ⟨Kp.rf.n, F.n, by show tN τ + 1 ≤ _; omega, by show tZ τ + 6 ≤ _; omega, C.oc w F o (fun a k z => z.elim)⟩
    refine kc_hand (ci := 99) (z := 0) (h := 12) rfl rfl ?_ (t267_12 (s0 := some (tN τ)) (k1 h _ E1))
    show (if tN τ = tN τ then ((1, 99, 0) : SH) else tS τ (tN τ)) = _
    rw [if_pos rfl]
  refine t267_0 (r2 := some 472) (by omega) (F.sh rfl (by omega) (by omega)) ?_
  refine t108_0 (q3 := a) (q7 := a + 1) (n9 := 24) (F.sh rfl (by omega) (by omega)) o2 sa.1 sa.2.1 sa.2.2 (fun h1 h2 h3 => ⟨h1, h3⟩) (fun h => bad (by omega)) (fun _ h => bad (by rw [o4] at h; omega)) (fun h1 h2 h3 => ?_) (fun _ h2 h3 => bad (by rw [o4] at h2; omega))
  rw [o4] at h2
  rw [o5 x.toNat (by show x.toNat < (sOu S).length; omega)]
  exact t267_7 (s2 := 472) (n1 := 1) (F.sh rfl (by omega) (by omega)) (by omega) (k0 h1 h2)
theorem m226 {x : Int} {d : Nat} {τ : T2} {S : HSx} {Q : RS → T2 → Prop} (F : FX2 τ) (C : MI τ S) (w : WS S) (k0 : 0 ≤ x → x < ((sOu S).length : Int) → Q (.inl (some (AI ((sOu S).getD x.toNat 0)))) (uI τ 220 0 0)) (k1 : ¬ (0 ≤ x ∧ x < ((sOu S).length : Int)) → Q (.inl (some (AI 0))) (uI τ 220 0 1)) : G d 226 0 [vR 220, vI x] [] τ Q := by
  have h24 : (sOu S).length ≤ 24 := w.2.2.2.1
  have o1 : tI τ 220 34 = ((sOu S).length : Int) := C.2.2.2.1.1
  have o2 : Ls τ 232 (sOu S) := C.2.2.2.1.2
  have e1 : tI (uI τ 220 0 1) 220 0 = 1 := by rw [tI_uI, if_pos ⟨rfl, rfl⟩]
  have e0 : tI (uI τ 220 0 0) 220 0 = 0 := by rw [tI_uI, if_pos ⟨rfl, rfl⟩]
  refine t226_0 (q4 := 232) (n6 := 24) (F.sh rfl (by omega) (by omega)) (F.p rfl) (F.sh rfl (by omega) (by omega)) (fun _ z => by rw [e1] at z; omega) (fun _ z _ => by rw [o1] at z; omega) (fun _ _ z => by rw [e1] at z; omega) (fun _ z => by rw [e1] at z; omega) (fun z _ => k1 (by omega)) (fun h1 h2 _ => ?_) (fun _ _ z => by rw [e0] at z; omega) (fun _ _ z => by rw [e1] at z; omega) (fun _ z _ => k1 (by rw [o1] at z; omega))
  rw [o1] at h2
  rw [show tI (uI τ 220 0 0) 232 x.toNat = (sOu S).getD x.toNat 0 by rw [tI_uI, if_neg (by omega)]; exact o2 _ (by omega)]
  exact k0 h1 h2
