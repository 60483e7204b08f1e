/-! THE CONSTRUCTORS again: with the model's first place of trouble -/
def BLDY (L : Nat) (f : Nat → Int) (N : Nat) (X : List Nat) (τ : T2) : Prop := tN τ = N ∧ BLDX L f N X τ ∧ tI τ 220 2 = -1
section BY
variable {L N : Nat} {f : Nat → Int} {X : List Nat} {τ : T2}
theorem bshy (B : BLDY L f N X τ) {a : Nat} {s : SH} (h : SHF a = s) (h1 : 64 ≤ a) (h2 : a < N) : tS τ a = s := bsh B.2.1 h h1 h2
theorem by_p {q : Nat} (B : BLDY L f N (q :: X) τ) {a k : Nat} (hp : PTF a k = some q) : BLDY L f N X (uP τ a k (some q)) := ⟨B.1, bx_p B.2.1 hp, B.2.2⟩
theorem by_n (B : BLDY L f N X τ) {s : SH} {k : Nat} (hs : SHF N = s) (hk : SLZ s = k) (hN : 221 ≤ N := by omega) : BLDY L f (N + 1) (N :: X) (nC τ s k) := by
  refine ⟨congrArg (· + 1) B.1, bx_n B.2.1 hs hk, ?_⟩
  show rw2 (tI τ) (tN τ) (fun _ => 0) 220 2 = -1
  rw [rw2_oth _ _ (by have := B.1; omega)]
  exact B.2.2
theorem by_d {q : Nat} (B : BLDY L f N (q :: X) τ) (h : lk q PTV = none) : BLDY L f N X τ := ⟨B.1, bx_d B.2.1 h, B.2.2⟩
end BY
theorem y147 {d L : Nat} {f : Nat → Int} {τ : T2} {Q : RS → T2 → Prop} {r : Nat} (hr : r < 100) (hd : 17 ≤ d) (B : BLDY L f (236 + 1 * r + 1) ((236 + 1 * r) :: []) τ) (h : ∀ τ1, BLDY L f (236 + 1 * r + 1) ((236 + 1 * r) :: []) τ1 → Q (.inl none) τ1) : G d 147 0 [vR (236 + 1 * r)] [] τ Q := t147_0 hd (h τ B)
theorem y150 {d L : Nat} {f : Nat → Int} {τ : T2} {Q : RS → T2 → Prop} {r : Nat} (hr : r < 20) (hd : 17 ≤ d) (B : BLDY L f (336 + 4 * r + 1) ((336 + 4 * r) :: []) τ) (h : ∀ τ1, BLDY L f (336 + 4 * r + 4) ((336 + 4 * r) :: []) τ1 → Q (.inl none) τ1) : G d 150 0 [vR (336 + 4 * r)] [] τ Q := by
  refine t150_0 hd  ?_
  rw [B.1]
  replace B := by_n B (s := (2, 1, 12)) (k := 12) (sf_m r hr).2.1 rfl
  refine t150_9 (bshy B (sf_m r hr).1 (by omega) (by omega)) ?_
  replace B := by_p B (a := 336 + 4 * r) (k := 6) (pf_m r hr).1
  rw [B.1]
  replace B := by_n B (s := (2, 0, 3)) (k := 3) (sf_m r hr).2.2.1 rfl
  refine t150_16 (bshy B (sf_m r hr).1 (by omega) (by omega)) ?_
  replace B := by_p B (a := 336 + 4 * r) (k := 7) (pf_m r hr).2.1
  rw [B.1]
  replace B := by_n B (s := (2, 0, 3)) (k := 3) (sf_m r hr).2.2.2.1 rfl
  refine t150_23 (bshy B (sf_m r hr).1 (by omega) (by omega)) ?_
  replace B := by_p B (a := 336 + 4 * r) (k := 8) (pf_m r hr).2.2.1
  exact h _ B
theorem y155 {d L : Nat} {f : Nat → Int} {τ : T2} {Q : RS → T2 → Prop} {r : Nat} (hr : r < 8) (hd : 17 ≤ d) (B : BLDY L f (416 + 7 * r + 1) ((416 + 7 * r) :: []) τ) (h : ∀ τ1, BLDY L f (416 + 7 * r + 7) ((416 + 7 * r) :: []) τ1 → Q (.inl none) τ1) : G d 155 0 [vR (416 + 7 * r)] [] τ Q := by
  refine t155_0 hd  ?_
  rw [B.1]
  replace B := by_n B (s := (2, 0, 20)) (k := 20) (sf_u r hr).2.1 rfl
  refine t155_9 (bshy B (sf_u r hr).1 (by omega) (by omega)) ?_
  replace B := by_p B (a := 416 + 7 * r) (k := 3) (pf_u r hr).1
  rw [B.1]
  replace B := by_n B (s := (2, 0, 20)) (k := 20) (sf_u r hr).2.2.1 rfl
  refine t155_17 (bshy B (sf_u r hr).1 (by omega) (by omega)) ?_
  replace B := by_p B (a := 416 + 7 * r) (k := 4) (pf_u r hr).2.1
  rw [B.1]
  replace B := by_n B (s := (2, 0, 20)) (k := 20) (sf_u r hr).2.2.2.1 rfl
  refine t155_25 (bshy B (sf_u r hr).1 (by omega) (by omega)) ?_
  replace B := by_p B (a := 416 + 7 * r) (k := 5) (pf_u r hr).2.2.1
  rw [B.1]
  replace B := by_n B (s := (2, 0, 20)) (k := 20) (sf_u r hr).2.2.2.2.1 rfl
  refine t155_33 (bshy B (sf_u r hr).1 (by omega) (by omega)) ?_
  replace B := by_p B (a := 416 + 7 * r) (k := 6) (pf_u r hr).2.2.2.1
  rw [B.1]
  replace B := by_n B (s := (2, 0, 60)) (k := 60) (sf_u r hr).2.2.2.2.2.1 rfl
  refine t155_41 (bshy B (sf_u r hr).1 (by omega) (by omega)) ?_
  replace B := by_p B (a := 416 + 7 * r) (k := 7) (pf_u r hr).2.2.2.2.1
  rw [B.1]
  replace B := by_n B (s := (2, 0, 60)) (k := 60) (sf_u r hr).2.2.2.2.2.2.1 rfl
  refine t155_49 (bshy B (sf_u r hr).1 (by omega) (by omega)) ?_
  replace B := by_p B (a := 416 + 7 * r) (k := 8) (pf_u r hr).2.2.2.2.2.1
  exact h _ B
theorem ly_a {d L : Nat} {f : Nat → Int} {Q : RS → T2 → Prop} (hd : 18 ≤ d) (h : ∀ τ1, BLDY L f 336 [] τ1 → G d 169 170 [vR 220, vI 0] [] τ1 Q) : ∀ (k r : Nat) {τ : T2}, r + k = 100 → BLDY L f (236 + 1 * r) [] τ → G d 169 143 [vR 220, vI (r : Int)] [] τ Q
  | 0, r, τ, hk, B => by
    have e : r = 100 := by omega
    subst e
    refine t169_143 (bshy B rfl (by omega) (by omega)) (fun _ => h τ B) (fun c => absurd c (by omega))
  | k + 1, r, τ, hk, B => by
    have hr : r < 100 := by omega
    refine t169_143 (bshy B rfl (by omega) (by omega)) (fun c => absurd c (by omega)) (fun _ => ?_)
    rw [B.1, B.2.1.2.2.2.2.2.1 220 11 224 rfl (by omega) (by simp)]
    replace B := by_n B (s := (1, 12, 0)) (k := 8) (sf_a r hr).1 rfl
    refine t169_157 (by omega) (y147 hr (by omega) B fun τ1 B1 => ?_)
    show G d 169 161 _ _ τ1 Q
    refine t169_161 (n1 := 100) (bshy B1 rfl (by omega) (by omega)) ⟨by omega, by omega⟩ (by rw [bshy B1 (sf_a r hr).1 (by omega) (by omega)]; rfl) ?_
    rw [wr_nat (by omega)]
    exact ly_a hd h k (r + 1) (by omega) (by_p B1 (pf_a r hr).1)
theorem ly_m {d L : Nat} {f : Nat → Int} {Q : RS → T2 → Prop} (hd : 18 ≤ d) (h : ∀ τ1, BLDY L f 416 [] τ1 → G d 169 197 [vR 220, vI 0] [] τ1 Q) : ∀ (k r : Nat) {τ : T2}, r + k = 20 → BLDY L f (336 + 4 * r) [] τ → G d 169 170 [vR 220, vI (r : Int)] [] τ Q
  | 0, r, τ, hk, B => by
    have e : r = 20 := by omega
    subst e
    refine t169_170 (bshy B rfl (by omega) (by omega)) (fun _ => h τ B) (fun c => absurd c (by omega))
  | k + 1, r, τ, hk, B => by
    have hr : r < 20 := by omega
    refine t169_170 (bshy B rfl (by omega) (by omega)) (fun c => absurd c (by omega)) (fun _ => ?_)
    rw [B.1, B.2.1.2.2.2.2.2.1 220 8 221 rfl (by omega) (by simp)]
    replace B := by_n B (s := (1, 15, 0)) (k := 12) (sf_m r hr).1 rfl
    refine t169_184 (by omega) (y150 hr (by omega) B fun τ1 B1 => ?_)
    show G d 169 188 _ _ τ1 Q
    refine t169_188 (n1 := 20) (bshy B1 rfl (by omega) (by omega)) ⟨by omega, by omega⟩ (by rw [bshy B1 (sf_m r hr).1 (by omega) (by omega)]; rfl) ?_
    rw [wr_nat (by omega)]
    exact ly_m hd h k (r + 1) (by omega) (by_p B1 (pf_m r hr).2.2.2.1)
theorem ly_u {d L : Nat} {f : Nat → Int} {Q : RS → T2 → Prop} (hd : 18 ≤ d) (h : ∀ τ1, BLDY L f 472 [] τ1 → Q (.inl none) τ1) : ∀ (k r : Nat) {τ : T2}, r + k = 8 → BLDY L f (416 + 7 * r) [] τ → G d 169 197 [vR 220, vI (r : Int)] [] τ Q
  | 0, r, τ, hk, B => by
    have e : r = 8 := by omega
    subst e
    refine t169_197 (bshy B rfl (by omega) (by omega)) (fun _ => h τ B) (fun c => absurd c (by omega))
  | k + 1, r, τ, hk, B => by
    have hr : r < 8 := by omega
    refine t169_197 (bshy B rfl (by omega) (by omega)) (fun c => absurd c (by omega)) (fun _ => ?_)
    rw [B.1, B.2.1.2.2.2.2.2.1 220 9 222 rfl (by omega) (by simp)]
    replace B := by_n B (s := (1, 19, 0)) (k := 9) (sf_u r hr).1 rfl
    refine t169_211 (by omega) (y155 hr (by omega) B fun τ1 B1 => ?_)
    show G d 169 215 _ _ τ1 Q
    refine t169_215 (n1 := 8) (bshy B1 rfl (by omega) (by omega)) ⟨by omega, by omega⟩ (by rw [bshy B1 (sf_u r hr).1 (by omega) (by omega)]; rfl) ?_
    rw [wr_nat (by omega)]
    exact ly_u hd h k (r + 1) (by omega) (by_p B1 (pf_u r hr).2.2.2.2.2.2.1)
theorem y154 {d L : Nat} {f : Nat → Int} {τ : T2} {Q : RS → T2 → Prop} (hd : 17 ≤ d) (B : BLDY L f 226 (225 :: []) τ) (h : ∀ τ1, BLDY L f 226 (225 :: []) τ1 → Q (.inl none) τ1) : G d 154 0 [vR 225] [] τ Q := by
  refine t154_0 hd (g_rte rfl rfl rfl hd (bshy B rfl (by omega) (by omega)) (fun k _ => ?_) (fun k hk => ?_) (g_vret rfl rfl (h τ B)))
  · rcases B.2.1.2.2.2.2.1 225 k (by omega) (by omega) with h9 | h9
    · exact absurd h9.1 (by decide)
    · exact h9
  · rcases B.2.1.2.2.2.2.2.2.1 225 k (by omega) (by omega) with h9 | h9
    · exact h9
    · rw [h9]
      rfl
theorem y169 {d L : Nat} {f : Nat → Int} {τ : T2} {Q : RS → T2 → Prop} (hd : 18 ≤ d) (B : BLDX L f 221 [] τ) (h : ∀ τ1, BLDY L f 472 [] τ1 → Q (.inl none) τ1) : G d 169 0 [vR 220, none] [] τ Q := by
  refine t169_0 (by omega) (bsh B rfl (by omega) (by omega)) ?_
  replace B : BLDY L f 221 [] (uI τ 220 2 (-1)) := ⟨B.1, bx_w B (-1), by rw [tI_uI]; rfl⟩
  rw [B.1]
  replace B := by_n B (s := (3, 7, 20)) (k := 20) rfl rfl
  refine t169_15 (bshy B rfl (by omega) (by omega)) ?_
  replace B := by_p B (a := 220) (k := 8) rfl
  rw [B.1]
  replace B := by_n B (s := (3, 8, 8)) (k := 8) rfl rfl
  refine t169_24 (bshy B rfl (by omega) (by omega)) ?_
  replace B := by_p B (a := 220) (k := 9) rfl
  rw [B.1]
  replace B := by_n B (s := (2, 3, 40)) (k := 40) rfl rfl
  refine t169_32 (bshy B rfl (by omega) (by omega)) ?_
  replace B := by_p B (a := 220) (k := 10) rfl
  rw [B.1]
  replace B := by_n B (s := (3, 9, 100)) (k := 100) rfl rfl
  refine t169_41 (bshy B rfl (by omega) (by omega)) ?_
  replace B := by_p B (a := 220) (k := 11) rfl
  rw [B.1]
  replace B := by_n B (s := (1, 18, 0)) (k := 8) rfl rfl
  refine t169_48 (by omega) (y154 (by omega) B fun τ1 B1 => ?_)
  show G d 169 52 _ _ τ1 Q
  replace B := B1
  refine t169_52 (bshy B rfl (by omega) (by omega)) ?_
  replace B := by_p B (a := 220) (k := 13) rfl
  rw [B.1]
  replace B := by_n B (s := (2, 1, 300)) (k := 300) rfl rfl
  refine t169_61 (bshy B rfl (by omega) (by omega)) ?_
  replace B := by_p B (a := 220) (k := 14) rfl
  rw [B.1]
  replace B := by_n B (s := (2, 2, 200)) (k := 200) rfl rfl
  refine t169_70 (bshy B rfl (by omega) (by omega)) ?_
  replace B := by_p B (a := 220) (k := 25) rfl
  rw [B.1]
  replace B := by_n B (s := (2, 1, 300)) (k := 300) rfl rfl
  refine t169_79 (bshy B rfl (by omega) (by omega)) ?_
  replace B := by_p B (a := 220) (k := 27) rfl
  rw [B.1]
  replace B := by_n B (s := (2, 0, 13)) (k := 13) rfl rfl
  refine t169_87 (bshy B rfl (by omega) (by omega)) ?_
  replace B := by_p B (a := 220) (k := 29) rfl
  rw [B.1]
  replace B := by_n B (s := (2, 0, 13)) (k := 13) rfl rfl
  refine t169_95 (bshy B rfl (by omega) (by omega)) ?_
  replace B := by_p B (a := 220) (k := 30) rfl
  rw [B.1]
  replace B := by_n B (s := (2, 1, 37)) (k := 37) rfl rfl
  refine t169_103 (bshy B rfl (by omega) (by omega)) ?_
  replace B := by_p B (a := 220) (k := 31) rfl
  rw [B.1]
  replace B := by_n B (s := (2, 1, 24)) (k := 24) rfl rfl
  refine t169_111 (bshy B rfl (by omega) (by omega)) ?_
  replace B := by_p B (a := 220) (k := 33) rfl
  rw [B.1]
  replace B := by_n B (s := (2, 0, 1000)) (k := 1000) rfl rfl
  refine t169_120 (bshy B rfl (by omega) (by omega)) ?_
  replace B := by_p B (a := 220) (k := 35) rfl
  rw [B.1]
  replace B := by_n B (s := (2, 0, 1000)) (k := 1000) rfl rfl
  refine t169_129 (bshy B rfl (by omega) (by omega)) ?_
  replace B := by_p B (a := 220) (k := 36) rfl
  rw [B.1]
  replace B := by_n B (s := (2, 2, 1000)) (k := 1000) rfl rfl
  refine t169_138 (bshy B rfl (by omega) (by omega)) ?_
  replace B := by_p B (a := 220) (k := 38) rfl
  exact ly_a hd (fun τ1 B => ly_m hd (fun τ1 B => ly_u hd h 8 0 rfl B) 20 0 rfl B) 100 0 rfl B
theorem yni_law {d L : Nat} {f : Nat → Int} {τ : T2} {Q : RS → T2 → Prop} (hd : 19 ≤ d) (B : BLDX L f 64 [] τ) (h : ∀ τ1, BLDY L f 473 [] τ1 → G d 268 23 [vR 0, vR 64, vR 220, vR 472, vI 0, none, none] [] τ1 Q) : G d 268 0 [vR 0, none, none, none, none, none, none] [] τ Q := by
  refine t268_0 (r0 := some 0) ?_
  rw [B.1]
  replace B := bx_d (bx_n B (s := (1, 11, 0)) (k := 18) rfl rfl) ptv_no.1
  refine t268_3 (by omega) (i91 (by omega) B fun τ1 B1 => ?_)
  show G d 268 7 _ _ τ1 Q
  refine t268_7 (s0 := some 64) ?_
  rw [B1.1]
  replace B1 := bx_d (bx_n B1 (s := (1, 21, 0)) (k := 39) rfl rfl) ptv_no.2.1
  refine t268_11 (by omega) (y169 (by omega) B1 fun τ2 B2 => ?_)
  show G d 268 15 _ _ τ2 Q
  refine t268_15 (s0 := some 220) ?_
  rw [B2.1]
  replace B2 := by_d (by_n B2 (s := (2, 3, 1)) (k := 1) (by decide +kernel) rfl) ptv_no.2.2
  exact t268_19 (s0 := some 472) (h _ B2)
theorem pure_oy (h : ∀ (L : Nat) (f : Nat → Int) (τ : T2), L ≤ 3072 → (∀ j, okI (f j)) → BLDY L f 473 [] τ → G 2048 268 23 [vR 0, vR 64, vR 220, vR 472, vI 0, none, none] [] τ (fun r τ1 => r = .inl (some (AI 1)) ∧ tN τ1 ≤ 601088 ∧ tZ τ1 ≤ 7293034)) : PURE := by
  intro L f hL hf
  obtain ⟨n, r, τ1, h1, h2, h3, h4⟩ := yni_law (d := 2048) (by decide) (bx_init L f) (fun τ1 B => h L f τ1 hL hf B)
  rw [toST_0] at h1
  refine ⟨n, toST τ1, ?_, h3, h4⟩
  rw [h2] at h1
  exact h1
