/-! pure: fault -/
def hdR (σ : St) (s : Nat) (τ : St) : Prop := ∀ e, e < s → τ 1 e = dg σ (e + 1) ∧ inM (hmask e) (dg σ (e + 1))
def peR (σ : St) (j : Nat) (τ : St) : Prop := τ 0 2 = nI j ∧ hdR σ 5 τ ∧ ∀ p, p < j → τ 2 (3 * p) = 10 * dg σ (6 + 5 * p + 1) + dg σ (6 + 5 * p + 2) ∧ τ 2 (3 * p + 1) = dg σ (6 + 5 * p + 3) ∧ τ 2 (3 * p + 2) = dg σ (6 + 5 * p + 4) ∧ In (10 * dg σ (6 + 5 * p + 1) + dg σ (6 + 5 * p + 2)) 1 99 ∧ In (dg σ (6 + 5 * p + 3)) 0 9 ∧ In (dg σ (6 + 5 * p + 4)) 0 3
theorem hmask_lt (s : Nat) : hmask s < 2 ^ 31 := by
  match s with
  | 0 => decide
  | 1 => decide
  | 2 => decide
  | 3 => decide
  | s + 4 => show 1023 < 2 ^ 31; decide
theorem y_hstep {σ τ0 τ : St} {len s : Nat} (hb : Bs σ τ0 len) (hs : s < 5) (hF : frR τ0 τ) (h : (gdR σ len (s + 1) τ ∧ hdR σ s τ) ∨ bdR σ τ) : ∃ v τ', f_X5_figure τ (nI (hmask s)) = some (v, τ') ∧ frR τ0 (up2 τ' 1 s v) ∧ up2 τ' 1 s v 0 2 = τ 0 2 ∧ ((gdR σ len (s + 1 + 1) (up2 τ' 1 s v) ∧ hdR σ (s + 1) (up2 τ' 1 s v)) ∨ bdR σ (up2 τ' 1 s v)) := by
  obtain ⟨v, τ', a1, a2, a3, a4, a5, a6⟩ := y_step hb (hmask_lt s) hF h (fun _ hi => y_msH hb.1 hb.2.1 hs hi) (Or.inl (by omega))
  refine ⟨v, τ', a1, ⟨fun x hx => by rw [up2_c (by omega)]; exact a2.1 x hx, a2.2⟩, a5, ?_⟩
  rcases a6 with ⟨g, q, rfl, m⟩ | b
  · refine Or.inl ⟨g, fun e he => ?_⟩
    by_cases z : e = s
    · subst z
      exact ⟨up2_s, m⟩
    · rw [up2_i z, a3]
      exact q e (by omega)
  · exact Or.inr b
theorem inM9 {m : Nat} {x : Int32} (h : inM m x) : In x 0 9 := by
  obtain ⟨d, h1, h2, -⟩ := h
  exact ⟨d, by omega, h1, h2⟩
theorem y_bad1 {σ τ : St} (h : bdR σ τ) : ∀ N, 1 ≤ N → f_X5_readText_L103 N τ = some τ := by
  obtain ⟨f, f1, f2, -⟩ := h
  intro N hN
  match N, hN with
  | N + 1, _ =>
    rw [f_X5_readText_L103, if_neg (by rw [f2]; exact y_ne9 (by omega))]
theorem y_wt {a b : Int32} (h1 : inM 1023 a) (h2 : inM (if a = 0 then 1022 else 1023) b) : In (10 * a + b) 1 99 := by
  obtain ⟨x, x1, rfl, -⟩ := h1
  have hb : ∃ y, y ≤ 9 ∧ b = nI y ∧ (x = 0 → 1 ≤ y) := by
    by_cases q : nI x = 0
    · rw [if_pos q] at h2
      obtain ⟨y, y1, y2, y3⟩ := h2
      exact ⟨y, y1, y2, fun _ => ((mk1022 y y1).mp y3).1⟩
    · rw [if_neg q] at h2
      obtain ⟨y, y1, y2, y3⟩ := h2
      refine ⟨y, y1, y2, fun z => absurd (show nI x = 0 by rw [z]; rfl) q⟩
  obtain ⟨y, y1, rfl, y3⟩ := hb
  refine ⟨10 * x + y, by omega, by omega, ?_⟩
  rw [show (10 : Int32) * nI x = nI (10 * x) from pk_mul 10 x, nI_add]
theorem y_wi {m : Nat} {b : Int32} (hm : m = 11 ∨ m = 15) (h : inM m b) : In b 0 3 := by
  obtain ⟨d, h1, h2, h3⟩ := h
  have t11 : ∀ d, d ≤ 9 → (11 : Nat).testBit d = true → d ≤ 3 := by decide
  have t15 : ∀ d, d ≤ 9 → (15 : Nat).testBit d = true → d ≤ 3 := by decide
  refine ⟨d, by omega, ?_, h2⟩
  rcases hm with rfl | rfl
  · exact t11 d h1 h3
  · exact t15 d h1 h3
theorem fr_up {τ0 τ : St} {a i : Nat} {v : Int32} (h : frR τ0 τ) (ha : a = 1 ∨ a = 2) : frR τ0 (up2 τ a i v) := by
  refine ⟨fun x hx => by rw [up2_c (by omega)]; exact h.1 x hx, fun j b c d => ?_⟩
  rw [up2_c (by omega)]
  exact h.2 j b c d
theorem fr_up0 {τ0 τ : St} {i : Nat} {v : Int32} (h : frR τ0 τ) (hi : i = 2 ∨ i = 12 ∨ i = 13) : frR τ0 (up2 τ 0 i v) :=
  ⟨fun x hx => by rw [up2_c (by omega)]; exact h.1 x hx, fun j b c d => by rw [up2_i (by omega)]; exact h.2 j b c d⟩
theorem y_pers4 {σ τ0 τ : St} {len j : Nat} (hb : Bs σ τ0 len) (hj : j < 8) (hF : frR τ0 τ) (h : gdR σ len (6 + 5 * j + 1) τ) (hP : peR σ j τ) (rec : St → Option St) : ∃ τ', ((f_X5_figure τ 1023).bind fun u13 => (if u13.1 = 0 then (f_X5_readText_J194_103 u13.2 (nI (3 * j)) (nI (3 * j)) (10 * u13.1) 1022 rec) else (f_X5_readText_J194_103 u13.2 (nI (3 * j)) (nI (3 * j)) (10 * u13.1) 1023 rec))) = rec τ' ∧ frR τ0 τ' ∧ ((gdR σ len (6 + 5 * (j + 1)) τ' ∧ peR σ (j + 1) τ') ∨ bdR σ τ') := by
  obtain ⟨p1, p2, p3⟩ := hP
  obtain ⟨v1, τ1, a1, a2, a3, a4, a5, a6⟩ := y_step (m := 1023) (Q := True) hb (by omega) hF (Or.inl ⟨h, trivial⟩) (fun _ hi => y_ms13 hb.1 hb.2.1 (Or.inl rfl) hj hi) (Or.inr (by omega))
  rw [show (1023 : Int32) = nI 1023 from rfl, show (1022 : Int32) = nI 1022 from rfl, a1, Option.bind_some]
  have key : ∀ m2 : Nat, m2 = (if v1 = 0 then 1022 else 1023) → ∃ τ', f_X5_readText_J194_103 τ1 (nI (3 * j)) (nI (3 * j)) (10 * v1) (nI m2) rec = rec τ' ∧ frR τ0 τ' ∧ ((gdR σ len (6 + 5 * (j + 1)) τ' ∧ peR σ (j + 1) τ') ∨ bdR σ τ') := by
    intro m2 hm2
    have m2l : m2 < 2 ^ 31 := by rw [hm2]; split <;> omega
    obtain ⟨v2, τ2, b1, b2, b3, b4, b5, b6⟩ := y_step (m := m2) hb m2l a2 a6 (fun q hi => y_ms2 hb.1 hb.2.1 hj hi m2 (by rw [hm2, q.2.1])) (Or.inr (by omega))
    unfold f_X5_readText_J194_103
    rw [b1, Option.bind_some, z_chk (by omega) (by omega), nI_clamp (by omega), show nI (3 * j) + 1 = nI (3 * j + 1) from nI_add _ 1, show nI (3 * j) + 2 = nI (3 * j + 2) from nI_add _ 2]
    obtain ⟨v3, τ3, c1, c2, c3, c4, c5, c6⟩ := y_step (m := 1023) (τ := up2 τ2 2 (3 * j) (10 * v1 + v2)) hb (by omega) (fr_up b2 (Or.inr rfl)) b6 (fun q hi => y_ms13 hb.1 hb.2.1 (Or.inr rfl) hj hi) (Or.inr (by omega))
    rw [show (1023 : Int32) = nI 1023 from rfl, c1, Option.bind_some, z_chk (by omega) (by omega), nI_clamp (by omega)]
    have e1 : τ3 1 = τ 1 := by rw [c3]; show τ2 1 = τ 1; rw [b3, a3]
    have key2 : ∀ m4 : Nat, m4 = (if τ3 1 0 = 2 then 11 else 15) → ∃ τ', f_X5_readText_J239_103 (up2 τ3 2 (3 * j + 1) v3) (nI (3 * j + 2)) (nI m4) rec = rec τ' ∧ frR τ0 τ' ∧ ((gdR σ len (6 + 5 * (j + 1)) τ' ∧ peR σ (j + 1) τ') ∨ bdR σ τ') := by
      intro m4 hm4
      have m4c : m4 = 11 ∨ m4 = 15 := by rw [hm4]; split <;> omega
      have m4e : m4 = if dg σ 1 = 2 then 11 else 15 := by rw [hm4, e1, (p2 0 (by omega)).1]
      obtain ⟨v4, τ4, d1, d2, d3, d4, d5, d6⟩ := y_step (m := m4) (τ := up2 τ3 2 (3 * j + 1) v3) hb (by omega) (fr_up c2 (Or.inr rfl)) c6 (fun q hi => y_ms4 hb.1 hb.2.1 hj hi m4 (p2 0 (by omega)).2 m4e) (Or.inr (by omega))
      unfold f_X5_readText_J239_103
      rw [d1, Option.bind_some, z_chk (by omega) (by omega), nI_clamp (by omega)]
      refine ⟨_, rfl, fr_up0 (fr_up d2 (Or.inr rfl)) (Or.inl rfl), ?_⟩
      rcases d6 with ⟨g, ⟨⟨⟨-, q2, q3⟩, q4, q5⟩, q6, q7⟩, q8, q9⟩ | b
      · refine Or.inl ⟨?_, ?_, fun e he => ?_, fun p hp => ?_⟩
        · rw [show 6 + 5 * (j + 1) = 6 + 5 * j + 4 + 1 by omega]
          exact g
        · rw [up2_s]
          show τ4 0 2 + 1 = _
          rw [d5]
          show τ3 0 2 + 1 = _
          rw [c5]
          show τ2 0 2 + 1 = _
          rw [b5, a5, p1, nI_1]
        · show τ4 1 e = _ ∧ _
          rw [d3]
          show τ3 1 e = _ ∧ _
          rw [e1]
          exact p2 e he
        · have s2 : ∀ i, up2 (up2 τ4 2 (3 * j + 2) v4) 0 2 (τ4 0 2 + 1) 2 i = up2 τ4 2 (3 * j + 2) v4 2 i := fun i => rfl
          have t4 : ∀ i, τ4 2 i = up2 τ3 2 (3 * j + 1) v3 2 i := fun i => by rw [d4]
          have t3 : ∀ i, τ3 2 i = up2 τ2 2 (3 * j) (10 * v1 + v2) 2 i := fun i => by rw [c4]
          rw [s2, s2, s2]
          by_cases z : p = j
          · subst z
            rw [up2_i (by omega), up2_i (by omega), up2_s, t4, t4, up2_i (by omega), up2_s, t3, up2_s, q2, q4, q6, q8]
            refine ⟨rfl, rfl, rfl, ?_, inM9 q7, y_wi m4c q9⟩
            rw [hm2, q2] at q5
            exact y_wt q3 q5
          · rw [up2_i (by omega), up2_i (by omega), up2_i (by omega), t4, t4, t4, up2_i (by omega), up2_i (by omega), up2_i (by omega), t3, t3, t3, up2_i (by omega), up2_i (by omega), up2_i (by omega), b4, a4]
            exact p3 p (by omega)
      · exact Or.inr b
    by_cases q : τ3 1 0 = 2
    · rw [if_pos q]
      exact key2 11 (by rw [if_pos q])
    · rw [if_neg q]
      exact key2 15 (by rw [if_neg q])
  by_cases q : v1 = 0
  · rw [if_pos q]
    exact key 1022 (by rw [if_pos q])
  · rw [if_neg q]
    exact key 1023 (by rw [if_neg q])
theorem y_rl {σ τ0 : St} {len : Nat} (hb : Bs σ τ0 len) : ∀ (N j : Nat) (τ : St), j ≤ 8 → 10 ≤ N + j → frR τ0 τ → ((gdR σ len (6 + 5 * j) τ ∧ peR σ j τ) ∨ bdR σ τ) → ∃ τ2, f_X5_readText_L103 N τ = some τ2 ∧ frR τ0 τ2 ∧ ((∃ j2, j2 ≤ 8 ∧ len = 6 + 5 * j2 ∧ gdR σ len (6 + 5 * j2) τ2 ∧ peR σ j2 τ2) ∨ bdR σ τ2) := by
  obtain ⟨h48, hl, hl0, h8⟩ := id hb
  intro N
  induction N with
  | zero => intro j τ h1 h2; omega
  | succ N ih =>
    intro j τ h1 h2 hF h
    rcases h with ⟨g, hP⟩ | b
    · obtain ⟨g1, g2, g3, g4⟩ := id g
      have e11 : τ 0 11 = nI len := by rw [hF.2 11 (by omega) (by omega) (by omega), hl0]
      rw [f_X5_readText_L103, if_pos g1, e11, g2]
      by_cases q : len ≤ 6 + 5 * j
      · rw [if_pos (nI_le q (by omega))]
        exact ⟨τ, rfl, hF, Or.inl ⟨j, h1, by omega, g, hP⟩⟩
      · have fx : f_X3_mayStand σ (nI (6 + 5 * j)) = some 0 → ∃ τ2, f_X5_readText_L103 N (up2 τ 0 13 (nI (6 + 5 * j))) = some τ2 ∧ frR τ0 τ2 ∧ ((∃ j2, j2 ≤ 8 ∧ len = 6 + 5 * j2 ∧ gdR σ len (6 + 5 * j2) τ2 ∧ peR σ j2 τ2) ∨ bdR σ τ2) := by
          intro hm
          have b : bdR σ (up2 τ 0 13 (nI (6 + 5 * j))) := ⟨6 + 5 * j, by omega, up2_s, y_ff h48 hl g3 g4 (Or.inl ⟨by omega, hm, rfl⟩)⟩
          exact ⟨_, y_bad1 b N (by omega), fr_up0 hF (Or.inr (Or.inr rfl)), Or.inr b⟩
        rw [if_neg (nI_ge (by omega) (by omega)), z_chk (by omega) (by omega), nI_clamp (by omega), hF.1 8 (by omega), h8 _ (by omega), hP.1]
        by_cases q8 : j = 8
        · have m0 : f_X3_mayStand σ (nI (6 + 5 * j)) = some 0 := by
            unfold f_X3_mayStand
            rw [if_neg (show ¬ nI (6 + 5 * j) < 6 from nI_nlt (b := 6) (by omega) (by omega)), if_pos (show 46 ≤ nI (6 + 5 * j) from nI_le (a := 46) (by omega) (by omega))]
          by_cases w : σ 2 (6 + 5 * j) = 80
          · rw [if_pos w, if_pos (show 8 ≤ nI j from nI_le (a := 8) (by omega) (by omega))]
            exact fx m0
          · rw [if_neg w]
            exact fx m0
        · rcases y_ms0 h48 hl (show j < 8 by omega) (by omega) with ⟨w, o⟩ | ⟨w, o⟩
          · rw [if_pos w, if_neg (show ¬ 8 ≤ nI j from nI_ge (a := j) (b := 8) (by omega) (by omega)), nI_1, y_3p (by omega)]
            obtain ⟨τ', x1, x2, x3⟩ := y_pers4 (τ := up2 τ 0 12 (nI (6 + 5 * j + 1))) hb (show j < 8 by omega) (fr_up0 hF (Or.inr (Or.inl rfl))) ⟨g1, up2_s, by omega, fun i hi => by
              by_cases z : i = 6 + 5 * j
              · subst z; exact o
              · exact g4 i (by omega)⟩ hP (f_X5_readText_L103 N)
            rw [x1]
            exact ih (j + 1) τ' (by omega) (by omega) x2 x3
          · rw [if_neg w]
            exact fx o
    · exact ⟨τ, y_bad1 b (N + 1) (by omega), hF, Or.inr b⟩
theorem y_read {σ τ : St} {len : Nat} (hb : Bs σ τ len) : ∃ v τ2, f_X5_readText τ = some (v, τ2) ∧ f_X3_firstFault σ = some v ∧ frR τ τ2 ∧ ((v = -9 ∧ ∃ j, j ≤ 8 ∧ len = 6 + 5 * j ∧ peR σ j τ2) ∨ ∃ f, f ≤ 48 ∧ v = nI f) := by
  obtain ⟨h48, hl, hl0, h8⟩ := id hb
  have f0 : frR τ (up2 (up2 (up2 τ 0 12 0) 0 13 (-9)) 0 2 0) := fr_up0 (fr_up0 (fr_up0 ⟨fun _ _ => rfl, fun _ _ _ _ => rfl⟩ (Or.inr (Or.inl rfl))) (Or.inr (Or.inr rfl))) (Or.inl rfl)
  unfold f_X5_readText
  rw [hl0]
  by_cases q : len = 0
  · subst q
    rw [if_pos (show nI 0 = 0 from rfl)]
    exact ⟨0, _, rfl, y_ff h48 hl (f := 0) (by omega) (fun j hj => absurd hj (by omega)) (Or.inr (Or.inl ⟨rfl, Or.inl (by omega), rfl⟩)), f0, Or.inr ⟨0, by omega, rfl⟩⟩
  · have n0 : ¬ nI len = 0 := by rw [show (0 : Int32) = nI 0 from rfl, z_eq (by omega) (by omega)]; exact q
    have ms0 : f_X3_mayStand σ (nI 0) = if σ 2 0 = 66 then some 1 else some 0 := by
      unfold f_X3_mayStand
      have e := y_byteX h48 hl (i := 0) (by omega)
      rw [show (nI 0 : Int32) = 0 from rfl] at e
      rw [if_pos (show nI 0 < 6 by decide), if_pos (show nI 0 = 0 from rfl), e, Option.bind_some]
    rw [if_neg n0, h8 0 (by omega)]
    by_cases w : σ 2 0 = 66
    · rw [if_pos w]
      rw [if_pos w] at ms0
      obtain ⟨v1, τ1, a1, a2, a3, a4⟩ := y_hstep (τ := up2 (up2 (up2 (up2 τ 0 12 0) 0 13 (-9)) 0 2 0) 0 12 1) hb (s := 0) (by omega) (fr_up0 f0 (Or.inr (Or.inl rfl))) (Or.inl ⟨⟨rfl, rfl, by omega, fun j hj => by
        have : j = 0 := by omega
        subst this
        exact ms0⟩, fun e he => absurd he (by omega)⟩)
      obtain ⟨v2, τ2, b1, b2, b3, b4⟩ := y_hstep hb (s := 1) (by omega) a2 a4
      obtain ⟨v3, τ3, c1, c2, c3, c4⟩ := y_hstep hb (s := 2) (by omega) b2 b4
      obtain ⟨v4, τ4, d1, d2, d3, d4⟩ := y_hstep hb (s := 3) (by omega) c2 c4
      obtain ⟨v5, τ5, e1, e2, e3, e4⟩ := y_hstep hb (s := 4) (by omega) d2 d4
      have a1 : f_X5_figure (up2 (up2 (up2 (up2 τ 0 12 0) 0 13 (-9)) 0 2 0) 0 12 1) 12 = some (v1, τ1) := a1
      have b1 : f_X5_figure (up2 τ1 1 0 v1) 14 = some (v2, τ2) := b1
      have c1 : f_X5_figure (up2 τ2 1 1 v2) 14 = some (v3, τ3) := c1
      have d1 : f_X5_figure (up2 τ3 1 2 v3) 510 = some (v4, τ4) := d1
      have e1 : f_X5_figure (up2 τ4 1 3 v4) 1023 = some (v5, τ5) := e1
      have := fuel_ge
      obtain ⟨τ', x1, x2, x3⟩ := y_rl hb fuel 0 (up2 τ5 1 4 v5) (by omega) (by omega) e2 (by
        rcases e4 with ⟨g, hd⟩ | b
        · exact Or.inl ⟨g, by rw [e3, d3, c3, b3, a3]; rfl, hd, fun p hp => absurd hp (by omega)⟩
        · exact Or.inr b)
      simp only [a1, b1, c1, d1, e1, x1, Option.bind_some]
      rcases x3 with ⟨j, j1, j2, g, hP⟩ | ⟨f, f1, f2, f3⟩
      · refine ⟨_, _, rfl, ?_, x2, Or.inl ⟨g.1, j, j1, j2, hP⟩⟩
        rw [g.1]
        exact y_ff h48 hl (f := len) (by omega) (fun i hi => g.2.2.2 i (by omega)) (Or.inr (Or.inr ⟨rfl, by omega, by omega, rfl⟩))
      · exact ⟨_, _, rfl, by rw [f2, f3], x2, Or.inr ⟨f, f1, f2⟩⟩
    · rw [if_neg w]
      rw [if_neg w] at ms0
      exact ⟨0, _, rfl, y_ff h48 hl (f := 0) (by omega) (fun j hj => absurd hj (by omega)) (Or.inl ⟨by omega, ms0, rfl⟩), f0, Or.inr ⟨0, by omega, rfl⟩⟩
theorem fr_Inv {n k : Nat} {cr : Nat → Nat} {σ τ τ2 : St} (h : InvW n k cr σ τ) (hF : frR τ τ2) : InvW n k cr σ τ2 :=
  InvW_M h (hF.2 5 (by omega) (by omega) (by omega)) (hF.2 9 (by omega) (by omega) (by omega)) (hF.2 11 (by omega) (by omega) (by omega)) (hF.2 14 (by omega) (by omega) (by omega)) (fun x h1 _ => hF.1 x h1) (fun x h1 => hF.1 x (by omega))
theorem Bs_of {n k : Nat} {cr : Nat → Nat} {σ τ : St} (h : InvW n k cr σ τ) : ∃ len, Bs σ τ len := by
  obtain ⟨len, a, b, c, d⟩ := h.1
  exact ⟨len, a, b, c, fun i hi => (d i hi).2⟩
theorem sp_fault {σ τ : St} (h : Inv σ τ) : ∃ (r : Int32) (τ2 : St), f_X4_fault σ = some r ∧ f_X5_fault τ = some (r, τ2) ∧ Inv σ τ2 := by
  obtain ⟨n, k, cr, hW⟩ := id h
  obtain ⟨len, hb⟩ := Bs_of hW
  obtain ⟨v, τ2, a1, a2, a3, -⟩ := y_read hb
  unfold f_X4_fault f_X5_fault
  rw [a1, a2]
  exact ⟨v, τ2, rfl, rfl, n, k, cr, fr_Inv hW a3⟩
