/-! pure: the reference's choices -/
def BSI (σ : St) (Wa n : Nat) (D : Nat → Prop) (τ : St) : Prop := (τ 0 17 = -9 ∧ τ 0 18 = 0 ∧ τ 0 19 = 0 ∧ ∀ c, D c → ¬ chP σ Wa c) ∨ ∃ b, D b ∧ chP σ Wa b ∧ (∀ c, D c → chP σ Wa c → keyP σ c < keyP σ b ∨ (keyP σ c = keyP σ b ∧ b ≤ c)) ∧ τ 0 17 = nI (farP σ (allE n b)) ∧ τ 0 18 = nI (pop (allE n b)) ∧ τ 0 19 = nI b
def CLI (σ : St) (Wa n : Nat) (D : Nat → Prop) (τ : St) : Prop := ∀ s, s < 256 → ((∃ c, D c ∧ chP σ Wa c ∧ allE n c = s) ∧ τ 11 s = 1) ∨ (¬ (∃ c, D c ∧ chP σ Wa c ∧ allE n c = s) ∧ τ 11 s = 0)
theorem BSI_skip {σ τ : St} {Wa n code : Nat} (h : BSI σ Wa n (fun c => c < code) τ) (hn : ¬ chP σ Wa code) : BSI σ Wa n (fun c => c < code + 1) τ := by
  have ext : ∀ c, c < code + 1 → chP σ Wa c → c < code := fun c h1 h2 => by
    by_cases z : c = code
    · subst z; exact absurd h2 hn
    · omega
  rcases h with ⟨a1, a2, a3, a4⟩ | ⟨b, b1, b2, b3, b4⟩
  · exact Or.inl ⟨a1, a2, a3, fun c hc hh => a4 c (ext c hc hh) hh⟩
  · exact Or.inr ⟨b, Nat.lt_succ_of_lt b1, b2, fun c hc hh => b3 c (ext c hc hh) hh, b4⟩
theorem BSI_to {σ τ τ' : St} {Wa n : Nat} {D : Nat → Prop} (h : BSI σ Wa n D τ) (h0 : τ' 0 = τ 0) : BSI σ Wa n D τ' := by
  unfold BSI at *
  rw [h0]
  exact h
theorem CLI_skip {σ τ : St} {Wa n code : Nat} (h : CLI σ Wa n (fun c => c < code) τ) (hn : ¬ chP σ Wa code) : CLI σ Wa n (fun c => c < code + 1) τ := by
  intro s hs
  rcases h s hs with ⟨⟨c, c1, c2⟩, e⟩ | ⟨a, e⟩
  · exact Or.inl ⟨⟨c, Nat.lt_succ_of_lt c1, c2⟩, e⟩
  · refine Or.inr ⟨?_, e⟩
    rintro ⟨c, c1, c2, c3⟩
    by_cases z : c = code
    · subst z; exact hn c2
    · exact a ⟨c, (show c < code by omega), c2, c3⟩
theorem CLI_to {σ τ τ' : St} {Wa n : Nat} {D : Nat → Prop} (h : CLI σ Wa n D τ) (h0 : τ' 11 = τ 11) : CLI σ Wa n D τ' := by
  unfold CLI at *
  rw [h0]
  exact h
theorem CLI_add {σ τ : St} {Wa n code : Nat} (h : CLI σ Wa n (fun c => c < code) τ) (hn : chP σ Wa code) : CLI σ Wa n (fun c => c < code + 1) (up2 τ 11 (allE n code) 1) := by
  intro s hs
  by_cases z : s = allE n code
  · subst z
    exact Or.inl ⟨⟨code, (show code < code + 1 by omega), hn, rfl⟩, up2_s⟩
  · rw [up2_i z]
    rcases h s hs with ⟨⟨c, c1, c2⟩, e⟩ | ⟨a, e⟩
    · exact Or.inl ⟨⟨c, Nat.lt_succ_of_lt c1, c2⟩, e⟩
    · refine Or.inr ⟨?_, e⟩
      rintro ⟨c, c1, c2, c3⟩
      by_cases w : c = code
      · subst w; exact z c3.symm
      · exact a ⟨c, (show c < code by omega), c2, c3⟩
theorem MKI_skip {σ τ : St} {Wa n code : Nat} (h : MKI σ Wa n (fun c _ => c < code) τ) (hn : ¬ okP σ Wa code) : MKI σ Wa n (fun c _ => c < code + 1) τ := by
  intro x h1 h2
  obtain ⟨m, m1, m0, m2, m3⟩ := h x h1 h2
  refine ⟨m, m1, m0, fun c e hd hg => ?_, ?_⟩
  · by_cases z : c = code
    · subst z; exact absurd hg.1 hn
    · exact m2 c e (show c < code by omega) hg
  · rcases m3 with m3 | ⟨c, e, a, b, d⟩
    · exact Or.inl m3
    · exact Or.inr ⟨c, e, Nat.lt_succ_of_lt a, b, d⟩
theorem MKI_to {σ τ τ' : St} {Wa n : Nat} {D : Nat → Nat → Prop} (h : MKI σ Wa n D τ) (h0 : τ' 12 = τ 12) : MKI σ Wa n D τ' := by
  unfold MKI at *
  rw [h0]
  exact h
theorem y_better {n k : Nat} {cr : Nat → Nat} {σ τ : St} {Wa code : Nat} (h : InvW n k cr σ τ) (hc : chP σ Wa code) (hB : BSI σ Wa n (fun c => c < code) τ) : ∃ τ', f_X5_better τ (nI (allE n code)) (nI code) = some τ' ∧ (∀ x, x ≠ 0 → τ' x = τ x) ∧ (∀ j, j ≠ 17 → j ≠ 18 → j ≠ 19 → τ' 0 j = τ 0 j) ∧ BSI σ Wa n (fun c => c < code + 1) τ' := by
  have hS := Sx_of h
  have hp28 := p28 hS.1
  have c3 := h.2.1.2.2.1
  have la := allE_lt n code
  have lp := pop_le (allE n code)
  have hf := Sx_far hS (allE n code)
  have ek : ∀ c, keyP σ c = farP σ (allE n c) * 16 + pop (allE n c) := fun c => by unfold keyP; rw [Sx_p hS]
  unfold f_X5_better f_X5_better_J37
  rw [y_faresM c3 hS.1 (by omega), far_rel h.2.1, hf.2, y_ones (by omega), Option.bind_some, Option.bind_some]
  have repl : (∀ c, c < code → chP σ Wa c → keyP σ c < keyP σ code) → ∃ τ', some (up2 (up2 (up2 τ 0 17 (nI (farP σ (allE n code)))) 0 18 (nI (pop (allE n code)))) 0 19 (nI code)) = some τ' ∧ (∀ x, x ≠ 0 → τ' x = τ x) ∧ (∀ j, j ≠ 17 → j ≠ 18 → j ≠ 19 → τ' 0 j = τ 0 j) ∧ BSI σ Wa n (fun c => c < code + 1) τ' := by
    intro hk
    refine ⟨_, rfl, fun x hx => ?_, fun j a b c => ?_, Or.inr ⟨code, (show code < code + 1 by omega), hc, fun c hd hh => ?_, ?_, ?_, up2_s⟩⟩
    · rw [up2_c hx, up2_c hx, up2_c hx]
    · rw [up2_i c, up2_i b, up2_i a]
    · by_cases z : c = code
      · subst z; exact Or.inr ⟨rfl, Nat.le_refl _⟩
      · exact Or.inl (hk c (by omega) hh)
    · rw [up2_i (by omega), up2_i (by omega), up2_s]
    · rw [up2_i (by omega), up2_s]
  rcases id hB with ⟨a1, a2, a3, a4⟩ | ⟨b, b1, b2, b3, b4, b5, b6⟩
  · have lt : (-9 : Int32) < nI (farP σ (allE n code)) := by
      rw [Int32.lt_iff_toInt_lt, nI_toInt (by omega)]
      show (-9 : Int) < _
      omega
    rw [a1, if_pos lt]
    exact repl (fun c h1 h2 => absurd h2 (a4 c h1))
  · have hfb := (Sx_far hS (allE n b)).1
    have lpb := pop_le (allE n b)
    have same : (keyP σ code < keyP σ b ∨ keyP σ code = keyP σ b) → ∃ τ', some τ = some τ' ∧ (∀ x, x ≠ 0 → τ' x = τ x) ∧ (∀ j, j ≠ 17 → j ≠ 18 → j ≠ 19 → τ' 0 j = τ 0 j) ∧ BSI σ Wa n (fun c => c < code + 1) τ' := by
      intro hk
      refine ⟨τ, rfl, fun _ _ => rfl, fun _ _ _ _ => rfl, Or.inr ⟨b, Nat.lt_succ_of_lt b1, b2, fun c hd hh => ?_, b4, b5, b6⟩⟩
      by_cases z : c = code
      · subst z
        rcases hk with hk | hk
        · exact Or.inl hk
        · exact Or.inr ⟨hk, Nat.le_of_lt b1⟩
      · exact b3 c (show c < code by omega) hh
    have beat : keyP σ b < keyP σ code → ∀ c, c < code → chP σ Wa c → keyP σ c < keyP σ code := fun hk c h1 h2 => by
      rcases b3 c h1 h2 with z | z <;> omega
    rw [ek code, ek b] at same beat
    rw [b4, b5]
    simp only [z_lt (show farP σ (allE n b) < 2 ^ 31 by omega) (show farP σ (allE n code) < 2 ^ 31 by omega), z_eq (show farP σ (allE n code) < 2 ^ 31 by omega) (show farP σ (allE n b) < 2 ^ 31 by omega), z_le (show pop (allE n code) < 2 ^ 31 by omega) (show pop (allE n b) < 2 ^ 31 by omega)]
    rw [ek code] at repl
    by_cases q : farP σ (allE n b) < farP σ (allE n code)
    · rw [if_pos q]
      exact repl (beat (by omega))
    · rw [if_neg q]
      by_cases q2 : farP σ (allE n code) = farP σ (allE n b)
      · rw [if_pos q2]
        by_cases q3 : pop (allE n code) ≤ pop (allE n b)
        · rw [if_pos q3]
          exact same (by omega)
        · rw [if_neg q3]
          exact repl (beat (by omega))
      · rw [if_neg q2]
        exact same (by omega)
theorem y_chL {n k : Nat} {cr : Nat → Nat} {σ : St} {Wa : Nat} (hWa : Wa < 2 ^ n) : ∀ (N code : Nat) (τ : St), InvW n k cr σ τ → 1 ≤ code → code ≤ 4 ^ n → 4 ^ n < N + code → BSI σ Wa n (fun c => c < code) τ → CLI σ Wa n (fun c => c < code) τ → MKI σ Wa n (fun c _ => c < code) τ → ∃ τ', f_X5_layChoices_L61 (nI Wa) N τ (nI code) = some τ' ∧ InvW n k cr σ τ' ∧ BSI σ Wa n (fun c => c < 4 ^ n) τ' ∧ CLI σ Wa n (fun c => c < 4 ^ n) τ' ∧ MKI σ Wa n (fun c _ => c < 4 ^ n) τ' := by
  intro N
  induction N with
  | zero => intro code τ h h1 h2 h3; omega
  | succ N ih =>
    intro code τ h h1 h2 h3 hB hC hM
    have hS := Sx_of h
    have h8 := hS.1
    have hp28 := p28 h8
    have h4 : 4 ^ n ≤ 4 ^ 8 := Nat.pow_le_pow_right (by omega) h8
    have c3 := h.2.1.2.2.1
    have e4 : shl 1 (2 * nI n) = nI (4 ^ n) := by
      rw [show (2 : Int32) * nI n = nI (2 * n) from pk_mul 2 n, z_shl1 (by omega), Nat.pow_mul]
    rw [f_X5_layChoices_L61, c3, e4]
    by_cases q : 4 ^ n ≤ code
    · have : code = 4 ^ n := by omega
      subst this
      rw [if_pos (nI_le q (by omega))]
      exact ⟨τ, rfl, h, hB, hC, hM⟩
    · rw [if_neg (nI_ge (by omega) (by omega)), nI_1]
      obtain ⟨v, τ1, a1, a2, a3⟩ := y_lay (code := code) h hWa (by omega) h1
      have h' : InvW n k cr σ τ1 := InvW_M h (by rw [a2 0 (by omega)]) (by rw [a2 0 (by omega)]) (by rw [a2 0 (by omega)]) (by rw [a2 0 (by omega)]) (fun x _ _ => a2 x (by omega)) (fun x _ => a2 x (by omega))
      have hB1 := BSI_to hB (a2 0 (by omega))
      have hC1 := CLI_to hC (a2 11 (by omega))
      have hM1 := MKI_to hM (a2 12 (by omega))
      have c31 := h'.2.1.2.2.1
      rw [a1, Option.bind_some]
      dsimp only
      rcases a3 with ⟨o, rfl, h10⟩ | ⟨o, rfl⟩
      · have la := allE_lt n code
        have l : ∀ e, atE n code e < 2 ^ 31 := fun e => by have := atE_lt n code e; omega
        rw [if_neg i10, h10 0 (by omega), h10 1 (by omega), h10 2 (by omega), z_or, z_or, ← allE_or]
        rcases y_levM c31 h8 (l 0) (l 1) (l 2) 0 with ⟨d1, d2⟩ | ⟨d1, d2⟩
        · have lv : levP σ code := (Sx_lev hS code).mp ((lev_rel h' _ _ _).mp d1)
          have ch : chP σ Wa code := ⟨o, lv⟩
          rw [d2, Option.bind_some, if_neg i10, z_chk (by omega) (by omega), nI_clamp (by omega)]
          have h2' : InvW n k cr σ (up2 τ1 11 (allE n code) 1) := InvW_M h' rfl rfl rfl rfl (fun x _ _ => up2_c (by omega)) (fun x _ => up2_c (by omega))
          obtain ⟨τ3, b1, b2, b3, b4⟩ := y_better h2' ch (BSI_to hB1 rfl)
          have h3' : InvW n k cr σ τ3 := InvW_M h2' (b3 5 (by omega) (by omega) (by omega)) (b3 9 (by omega) (by omega) (by omega)) (b3 11 (by omega) (by omega) (by omega)) (b3 14 (by omega) (by omega) (by omega)) (fun x _ _ => b2 x (by omega)) (fun x _ => b2 x (by omega))
          rw [b1, Option.bind_some, y_faresM h3'.2.1.2.2.1 h8 (by omega), far_rel h3'.2.1, (Sx_far hS (allE n code)).2, Option.bind_some]
          obtain ⟨τ4, d1, d2, d3⟩ := y_layMk h3' o (fun e he => by rw [b2 10 (by omega), up2_c (by omega)]; exact h10 e he) (MKI_to hM1 (by rw [b2 12 (by omega), up2_c (by omega)]))
          rw [d1, Option.bind_some]
          refine ih (code + 1) τ4 (InvW_12 h3' d2) (by omega) (by omega) (by omega) (BSI_to b4 (d2 0 (by omega))) (CLI_to (CLI_add hC1 ch) ?_) d3
          rw [d2 11 (by omega), b2 11 (by omega)]
        · have lv : ¬ levP σ code := fun z => d1 ((lev_rel h' _ _ _).mpr ((Sx_lev hS code).mpr z))
          have ch : ¬ chP σ Wa code := fun z => lv z.2
          rw [d2, Option.bind_some, if_pos rfl, y_faresM c31 h8 (by omega), far_rel h'.2.1, (Sx_far hS (allE n code)).2, Option.bind_some]
          obtain ⟨τ4, d1, d2, d3⟩ := y_layMk h' o h10 hM1
          rw [d1, Option.bind_some]
          exact ih (code + 1) τ4 (InvW_12 h' d2) (by omega) (by omega) (by omega) (BSI_to (BSI_skip hB1 ch) (d2 0 (by omega))) (CLI_to (CLI_skip hC1 ch) (d2 11 (by omega))) d3
      · have ch : ¬ chP σ Wa code := fun z => o z.1
        rw [if_pos rfl]
        exact ih (code + 1) τ1 h' (by omega) (by omega) (by omega) (BSI_skip hB1 ch) (CLI_skip hC1 ch) (MKI_skip hM1 o)
theorem y_chA : ∀ (N y : Nat) (τ : St), y ≤ 256 → 256 < N + y → (∀ i, i < y → τ 11 i = 0) → ∃ τ', f_X5_layChoices_L18 N τ (nI y) = some τ' ∧ (∀ x, x ≠ 11 → τ' x = τ x) ∧ ∀ i, i < 256 → τ' 11 i = 0 := by
  intro N
  induction N with
  | zero => intro y ρ h1 h2; omega
  | succ N ih =>
    intro y ρ h1 h2 hv
    rw [f_X5_layChoices_L18]
    by_cases q : y = 256
    · subst q
      rw [if_pos (show 256 ≤ nI 256 by decide)]
      exact ⟨ρ, rfl, fun _ _ => rfl, hv⟩
    · rw [if_neg (show ¬ 256 ≤ nI y from nI_ge (a := y) (b := 256) (by omega) (by omega)), z_chk (by omega) (by omega), nI_clamp (by omega), nI_1]
      obtain ⟨ρ2, a1, a2, a3⟩ := ih (y + 1) (up2 ρ 11 y 0) (by omega) (by omega) (fun i hi => by
        by_cases z : i = y
        · subst z; exact up2_s
        · rw [up2_i z]; exact hv i (by omega))
      exact ⟨ρ2, a1, fun x hx => by rw [a2 x hx, up2_c hx], a3⟩
theorem y_chB : ∀ (N y : Nat) (τ : St), y ≤ 100 → 100 < N + y → (∀ i, i < y → τ 12 i = 0) → ∃ τ', f_X5_layChoices_L40 N τ (nI y) = some τ' ∧ (∀ x, x ≠ 12 → τ' x = τ x) ∧ ∀ i, i < 100 → τ' 12 i = 0 := by
  intro N
  induction N with
  | zero => intro y ρ h1 h2; omega
  | succ N ih =>
    intro y ρ h1 h2 hv
    rw [f_X5_layChoices_L40]
    by_cases q : y = 100
    · subst q
      rw [if_pos (show 100 ≤ nI 100 by decide)]
      exact ⟨ρ, rfl, fun _ _ => rfl, hv⟩
    · rw [if_neg (show ¬ 100 ≤ nI y from nI_ge (a := y) (b := 100) (by omega) (by omega)), z_chk (by omega) (by omega), nI_clamp (by omega), nI_1]
      obtain ⟨ρ2, a1, a2, a3⟩ := ih (y + 1) (up2 ρ 12 y 0) (by omega) (by omega) (fun i hi => by
        by_cases z : i = y
        · subst z; exact up2_s
        · rw [up2_i z]; exact hv i (by omega))
      exact ⟨ρ2, a1, fun x hx => by rw [a2 x hx, up2_c hx], a3⟩
/-- what the reference holds when the choices are laid -/
def MR (σ : St) (Wa n : Nat) (τ : St) : Prop := ((τ 0 17 = -9 ∧ τ 0 19 = 0 ∧ ∀ c, ¬ chP σ Wa c) ∨ ∃ b, bestP σ Wa b ∧ τ 0 17 = nI (farP σ (allE n b)) ∧ τ 0 19 = nI b) ∧ (∀ s, s < 256 → (canP σ Wa s ∧ τ 11 s = 1) ∨ (¬ canP σ Wa s ∧ τ 11 s = 0)) ∧ ∀ x, 1 ≤ x → x ≤ 99 → ∃ m, m ≤ 72 ∧ makeP σ Wa x m ∧ τ 12 x = nI m
theorem y_choices {n k : Nat} {cr : Nat → Nat} {σ τ : St} {Wa : Nat} (h : InvW n k cr σ τ) (hWa : Wa < 2 ^ n) : ∃ τ', f_X5_layChoices τ (nI Wa) = some τ' ∧ InvW n k cr σ τ' ∧ MR σ Wa n τ' := by
  have := fuel_ge
  have hS := Sx_of h
  have e1 := Sx_p hS
  have h4 : 4 ^ n ≤ 4 ^ 8 := Nat.pow_le_pow_right (by omega) hS.1
  have h41 : 1 ≤ 4 ^ n := Nat.one_le_pow _ _ (by omega)
  obtain ⟨τ1, a1, a2, a3⟩ := y_chA fuel 0 (up2 (up2 (up2 τ 0 17 (-9)) 0 18 0) 0 19 0) (by omega) (by omega) (fun i hi => absurd hi (by omega))
  obtain ⟨τ2, b1, b2, b3⟩ := y_chB fuel 0 τ1 (by omega) (by omega) (fun i hi => absurd hi (by omega))
  have z0 : ∀ j, τ2 0 j = up2 (up2 (up2 τ 0 17 (-9)) 0 18 0) 0 19 0 0 j := fun j => by rw [b2 0 (by omega), a2 0 (by omega)]
  have zx : ∀ x, x ≠ 0 → x ≠ 11 → x ≠ 12 → τ2 x = τ x := fun x h0 h11 h12 => by rw [b2 x h12, a2 x h11, up2_c h0, up2_c h0, up2_c h0]
  have h' : InvW n k cr σ τ2 := InvW_M h (by rw [z0]; rfl) (by rw [z0]; rfl) (by rw [z0]; rfl) (by rw [z0]; rfl) (fun x _ _ => zx x (by omega) (by omega) (by omega)) (fun x _ => zx x (by omega) (by omega) (by omega))
  have no : ∀ c, c < 1 → ¬ okP σ Wa c := fun c hc z => by have := z.1; omega
  obtain ⟨τ3, d1, d2, d3, d4, d5⟩ := y_chL hWa fuel 1 τ2 h' (by omega) (by omega) (by omega) (Or.inl ⟨by rw [z0]; rfl, by rw [z0]; rfl, by rw [z0]; rfl, fun c hc z => no c hc z.1⟩) (fun s hs => Or.inr ⟨fun ⟨c, hc, z, _⟩ => no c hc z.1, by rw [b2 11 (by omega)]; exact a3 s hs⟩) (fun x h1 h2 => ⟨0, b3 x (by omega), by omega, fun c e hd hg => absurd hg.1 (no c hd), Or.inl rfl⟩)
  unfold f_X5_layChoices
  rw [show (nI 0 : Int32) = 0 from rfl] at a1 b1
  rw [show (nI 1 : Int32) = 1 from rfl] at d1
  rw [a1, Option.bind_some, b1, Option.bind_some, d1]
  have lt : ∀ c, okP σ Wa c → c < 4 ^ n := fun c z => by have := z.2.1; rw [e1] at this; exact this
  refine ⟨τ3, rfl, d2, ?_, fun s hs => ?_, fun x h1 h2 => ?_⟩
  · rcases d3 with ⟨x1, x2, x3, x4⟩ | ⟨b, x1, x2, x3, x4, x5, x6⟩
    · exact Or.inl ⟨x1, x3, fun c z => x4 c (lt c z.1) z⟩
    · exact Or.inr ⟨b, ⟨x2, fun c z => x3 c (lt c z.1) z⟩, x4, x6⟩
  · unfold canP
    rw [e1]
    rcases d4 s hs with ⟨⟨c, y1, y2, y3⟩, y4⟩ | ⟨y1, y4⟩
    · exact Or.inl ⟨⟨c, y2, y3⟩, y4⟩
    · exact Or.inr ⟨fun ⟨c, z1, z2⟩ => y1 ⟨c, lt c z1.1, z1, z2⟩, y4⟩
  · obtain ⟨m, m1, m0, m2, m3⟩ := d5 x h1 h2
    refine ⟨m, m0, ⟨fun c e w1 w2 w3 w4 => ?_, ?_⟩, m1⟩
    · rw [e1] at w3 ⊢
      exact m2 c e (lt c w1) ⟨w1, w2, w3, w4⟩
    · rw [e1]
      rcases m3 with m3 | ⟨c, e, a, ⟨b, b2, b3, b4⟩, d⟩
      · exact Or.inl m3
      · exact Or.inr ⟨c, e, b, b2, b3, b4, d⟩
