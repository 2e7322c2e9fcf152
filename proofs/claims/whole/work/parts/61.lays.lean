/-! pure: the reference lays a code -/
theorem y_digM {n code p : Nat} (h8 : n ≤ 8) (hp : p < n) (hc : code < 4 ^ n) : ((shr (nI code) (2 * ((nI n - 1) - nI p))) &&& 3) - 1 = nI (dig n code p) - 1 := by
  have h4 : 4 ^ n ≤ 4 ^ 8 := Nat.pow_le_pow_right (by omega) h8
  have e1 : (2 : Int32) * ((nI n - 1) - nI p) = nI (2 * (n - 1 - p)) := by
    rw [show nI n - 1 = nI (n - 1) from pk_sub (a := n) (b := 1) (by omega), pk_sub (by omega)]
    exact pk_mul 2 _
  rw [e1, z_shr (by omega) (by omega), show (3 : Int32) = nI 3 from rfl, z_and, show (3 : Nat) = 2 ^ 2 - 1 from rfl, Nat.and_two_pow_sub_one_eq_mod, Nat.pow_mul]
  rfl
theorem y_neg1 : (nI 0 : Int32) - 1 = -1 := by decide
theorem atE_bset (n code e : Nat) : atE n code e = bset (fun p => decide (dig n code p = e + 1)) n := rfl
theorem bset_s1 {P : Nat → Bool} {p : Nat} (h : P p = true) : bset P (p + 1) = bset P p ||| 2 ^ p := by rw [bset, if_pos h]
theorem bset_s0 {P : Nat → Bool} {p : Nat} (h : P p = false) : bset P (p + 1) = bset P p := by rw [bset, h]; simp
theorem will_iff {n p e : Nat} {σ τ : St} (hS : Sx n σ) (hp : p < n) (he : e < eP σ) : willP σ e p = true ↔ (σ 6 p = 3 ∨ σ 6 p = nI e) := by
  unfold willP
  rw [Bool.and_eq_true, Bool.or_eq_true, decide_eq_true_eq, decide_eq_true_eq, decide_eq_true_eq]
  exact ⟨fun h => h.2, fun h => ⟨he, h⟩⟩
theorem y_layL {n k : Nat} {cr : Nat → Nat} {σ : St} {Wa code : Nat} (hWa : Wa < 2 ^ n) (hc : code < 4 ^ n) (hc0 : 0 < code) : ∀ (N p : Nat) (τ : St), InvW n k cr σ τ → p ≤ n → n < N + p → (∀ e, e < 3 → τ 10 e = nI (bset (fun q => decide (dig n code q = e + 1)) p)) → (∀ q, q < p → dig n code q ≠ 0 → Wa.testBit q = true ∧ willP σ (dig n code q - 1) q = true) → ∃ v τ', f_X5_laySets_L23 (nI code) (nI Wa) N τ (nI p) = some (v, τ') ∧ (∀ x, x ≠ 10 → τ' x = τ x) ∧ ((okP σ Wa code ∧ v = 1 ∧ ∀ e, e < 3 → τ' 10 e = nI (atE n code e)) ∨ (¬ okP σ Wa code ∧ v = 0)) := by
  intro N
  induction N with
  | zero => intro p τ h h1 h2; omega
  | succ N ih =>
    intro p τ h h1 h2 h10 hq
    have hS := Sx_of h
    have e1 := Sx_p hS
    obtain ⟨s1, s2, s3⟩ := Sx_s hS
    obtain ⟨z1, z2, z3⟩ := Sx_e hS
    have h8 := hS.1
    have hp28 := p28 h8
    obtain ⟨hT, ⟨c1, c2, c3, c4, c5, c6, c7, c8, c9, c10⟩, hL, -⟩ := id h
    rw [f_X5_laySets_L23, c3]
    by_cases q : n ≤ p
    · have hpn : p = n := by omega
      subst hpn
      have l : ∀ e, atE p code e < 2 ^ 31 := fun e => by have := atE_lt p code e; omega
      have lp : ∀ e, pop (atE p code e) < 2 ^ 31 := fun e => by have := pop_le (atE p code e); omega
      rw [if_pos (nI_le q (by omega)), if_neg (show ¬ nI code ≤ 0 from nI_ge (a := 0) (b := code) hc0 (by have h4 : 4 ^ p ≤ 4 ^ 8 := Nat.pow_le_pow_right (by omega) h8; omega)), h10 0 (by omega), h10 1 (by omega), h10 2 (by omega), ← atE_bset, ← atE_bset, ← atE_bset, y_ones (l 0), y_ones (l 1), y_ones (l 2), c9 3 (by omega), s1]
      simp only [Option.bind_some, z_lt (show sP σ < 2 ^ 31 by omega) (lp 0), z_lt (show sP σ < 2 ^ 31 by omega) (lp 1), z_lt (show sP σ < 2 ^ 31 by omega) (lp 2)]
      have no : ∀ e, e < 3 → sP σ < pop (atE p code e) → ¬ okP σ Wa code := by
        rintro e he hlt ⟨-, -, o3, -⟩
        have := o3 e he
        rw [e1] at this
        omega
      by_cases w0 : sP σ < pop (atE p code 0)
      · rw [if_pos w0]; exact ⟨0, τ, rfl, fun _ _ => rfl, Or.inr ⟨no 0 (by omega) w0, rfl⟩⟩
      rw [if_neg w0]
      by_cases w1 : sP σ < pop (atE p code 1)
      · rw [if_pos w1]; exact ⟨0, τ, rfl, fun _ _ => rfl, Or.inr ⟨no 1 (by omega) w1, rfl⟩⟩
      rw [if_neg w1]
      by_cases w2 : sP σ < pop (atE p code 2)
      · rw [if_pos w2]; exact ⟨0, τ, rfl, fun _ _ => rfl, Or.inr ⟨no 2 (by omega) w2, rfl⟩⟩
      rw [if_neg w2]
      refine ⟨1, τ, rfl, fun _ _ => rfl, Or.inl ⟨⟨hc0, by rw [e1]; exact hc, ?_, ?_⟩, rfl, fun e he => h10 e he⟩⟩
      · rw [e1]
        intro e he
        match e, he with
        | 0, _ => omega
        | 1, _ => omega
        | 2, _ => omega
      · rw [e1]; exact hq
    · have no : dig n code p ≠ 0 → ¬ (Wa.testBit p = true ∧ willP σ (dig n code p - 1) p = true) → ¬ okP σ Wa code := by
        rintro hd hn ⟨-, -, -, o4⟩
        rw [e1] at o4
        exact hn (o4 p (by omega) hd)
      have hd4 := dig_lt n code p
      rw [if_neg (nI_ge (by omega) (by omega)), y_digM h8 (by omega) hc, nI_1]
      by_cases d0 : dig n code p = 0
      · rw [d0, y_neg1, if_pos (show (-1 : Int32) < 0 by decide)]
        refine ih (p + 1) τ h (by omega) (by omega) (fun e he => ?_) (fun q' hq' hne => ?_)
        · rw [h10 e he, bset_s0]
          rw [d0]; simp
        · by_cases z : q' = p
          · subst z; exact absurd d0 hne
          · exact hq q' (by omega) hne
      · obtain ⟨e, he⟩ : ∃ e, dig n code p = e + 1 := ⟨dig n code p - 1, by omega⟩
        have e1m : nI (dig n code p) - 1 = nI e := by rw [he]; exact pk_sub (a := e + 1) (b := 1) (by omega)
        rw [e1m, if_neg (nI_pos (by omega))]
        rw [he, Nat.add_sub_cancel] at no
        by_cases w : Wa.testBit p = true
        · rw [if_neg (by rw [z_bit0 (by omega) (by omega), w]; decide)]
          have z4 : τ 3 0 = nI (eP σ) := by rw [c9 0 (by omega), z1]
          by_cases ee : e < eP σ
          · rw [(y_isE z4 z3 (nI e)).1 ⟨e, ee, rfl⟩, Option.bind_some, if_neg i10, y_willM (by omega), Option.bind_some, (c10 p (by omega)).2.2.2.2.2]
            have wi := will_iff (τ := τ) hS (show p < n by omega) ee
            by_cases ws : σ 6 p = 3 ∨ σ 6 p = nI e
            · rw [if_pos ws, if_neg i10, z_chk (by omega) (by omega), z_chk (by omega) (by omega), nI_clamp (by omega), h10 e (by omega), z_shl1 (by omega), z_or]
              obtain ⟨v, τ', a1, a2, a3⟩ := ih (p + 1) (up2 τ 10 e (nI (bset (fun q => decide (dig n code q = e + 1)) p ||| 2 ^ p))) (InvW_10 h _ _) (by omega) (by omega) (fun e' he' => by
                by_cases z : e' = e
                · subst z
                  rw [up2_s, bset_s1]
                  rw [he]; simp
                · rw [up2_i z, h10 e' he', bset_s0]
                  rw [he]; simp; omega) (fun q' hq' hne => by
                by_cases z : q' = p
                · subst z
                  rw [he, Nat.add_sub_cancel]
                  exact ⟨w, wi.mpr ws⟩
                · exact hq q' (by omega) hne)
              exact ⟨v, τ', a1, fun x hx => by rw [a2 x hx, up2_c hx], a3⟩
            · rw [if_neg ws, if_pos rfl]
              exact ⟨0, τ, rfl, fun _ _ => rfl, Or.inr ⟨no (by omega) (fun z => ws (wi.mp z.2)), rfl⟩⟩
          · rw [(y_isE z4 z3 (nI e)).2 (Or.inr (nI_le (by omega) (by omega))), Option.bind_some, if_pos rfl]
            refine ⟨0, τ, rfl, fun _ _ => rfl, Or.inr ⟨no (by omega) (fun z => ?_), rfl⟩⟩
            have := z.2
            unfold willP at this
            simp [ee] at this
        · have w0 : Wa.testBit p = false := by simpa using w
          rw [if_pos (by rw [z_bit0 (by omega) (by omega)]; exact w0)]
          exact ⟨0, τ, rfl, fun _ _ => rfl, Or.inr ⟨no (by omega) (fun z => w z.1), rfl⟩⟩
theorem y_lay {n k : Nat} {cr : Nat → Nat} {σ τ : St} {Wa code : Nat} (h : InvW n k cr σ τ) (hWa : Wa < 2 ^ n) (hc : code < 4 ^ n) (hc0 : 0 < code) : ∃ v τ', f_X5_laySets τ (nI code) (nI Wa) = some (v, τ') ∧ (∀ x, x ≠ 10 → τ' x = τ x) ∧ ((okP σ Wa code ∧ v = 1 ∧ ∀ e, e < 3 → τ' 10 e = nI (atE n code e)) ∨ (¬ okP σ Wa code ∧ v = 0)) := by
  have := fuel_ge
  have h8 := (Sx_of h).1
  obtain ⟨v, τ', a1, a2, a3⟩ := y_layL hWa hc hc0 fuel 0 (up2 (up2 (up2 τ 10 0 0) 10 1 0) 10 2 0) (InvW_10 (InvW_10 (InvW_10 h _ _) _ _) _ _) (by omega) (by omega) (fun e he => by
    match e, he with
    | 0, _ => rfl
    | 1, _ => rfl
    | 2, _ => rfl) (fun q hq => absurd hq (by omega))
  refine ⟨v, τ', a1, fun x hx => ?_, a3⟩
  rw [a2 x hx, up2_c hx, up2_c hx, up2_c hx]
