/-! pure: back, count -/
theorem y_backI {k p : Nat} {s : Nat → Nat} (hk : k < 8) (hp : p < 8) (hs : ∀ e, e < 3 → s e < 256) : ∀ (N e : Nat) (τ : St), τ 0 14 = nI k → (∀ e, e < 3 → τ 9 (3 * k + e) = nI (s e)) → e ≤ 3 → 3 < N + e → ∃ τ2, f_X5_back_L60 (nI p) N τ (nI e) = some τ2 ∧ (∀ x, x ≠ 7 → τ2 x = τ x) ∧ (∀ i, i ≠ p → τ2 7 i = τ 7 i) ∧ ((∃ a, e ≤ a ∧ a < 3 ∧ (s a).testBit p = true ∧ τ2 7 p = nI a) ∨ ((∀ a, e ≤ a → a < 3 → (s a).testBit p = false) ∧ τ2 7 p = τ 7 p)) := by
  intro N
  induction N with
  | zero => intro e τ h0 h9 h1 h2; omega
  | succ N ih =>
    intro e τ h0 h9 h1 h2
    rw [f_X5_back_L60, h0]
    by_cases q : 3 ≤ e
    · rw [if_pos (show (3 : Int32) ≤ nI e from nI_le (a := 3) q (by omega))]
      exact ⟨τ, rfl, fun _ _ => rfl, fun _ _ => rfl, Or.inr ⟨fun a h3 h4 => absurd h4 (by omega), rfl⟩⟩
    · have hb := hs e (by omega)
      rw [if_neg (show ¬ (3 : Int32) ≤ nI e from nI_ge (a := e) (b := 3) (by omega) (by omega)), y_3p hk, nI_add, z_chk (by omega) (by omega), nI_clamp (by omega), h9 e (by omega), z_chk (by omega) (by omega), z_chk (by omega) (by omega), z_chk (by omega) (by omega), nI_clamp (by omega), nI_1]
      by_cases z : (s e).testBit p = true
      · rw [if_pos (by rw [z_bit1 (by omega) (by omega)]; exact z)]
        obtain ⟨τ2, a1, a2, a3, a4⟩ := ih (e + 1) (up2 τ 7 p (nI e)) h0 h9 (by omega) (by omega)
        refine ⟨τ2, a1, fun x hx => by rw [a2 x hx, up2_c hx], fun i hi => by rw [a3 i hi, up2_i hi], Or.inl ?_⟩
        rcases a4 with ⟨a, b1, b2, b3, b4⟩ | ⟨b1, b2⟩
        · exact ⟨a, by omega, b2, b3, b4⟩
        · exact ⟨e, by omega, by omega, z, by rw [b2, up2_s]⟩
      · have z : (s e).testBit p = false := by simpa using z
        rw [if_neg (by rw [z_bit1 (by omega) (by omega), z]; decide)]
        obtain ⟨τ2, a1, a2, a3, a4⟩ := ih (e + 1) (up2 τ 7 p (τ 7 p)) h0 h9 (by omega) (by omega)
        refine ⟨τ2, a1, fun x hx => by rw [a2 x hx, up2_c hx], fun i hi => by rw [a3 i hi, up2_i hi], ?_⟩
        rcases a4 with ⟨a, b1, b2, b3, b4⟩ | ⟨b1, b2⟩
        · exact Or.inl ⟨a, by omega, b2, b3, b4⟩
        · refine Or.inr ⟨fun a h3 h4 => ?_, by rw [b2, up2_s]⟩
          by_cases ae : a = e
          · subst ae; exact z
          · exact b1 a (by omega) h4
def backV (s : Nat → Nat) (p : Nat) (v v2 : Int32) : Prop := (∃ a, a < 3 ∧ (s a).testBit p = true ∧ v2 = nI a) ∨ ((∀ a, a < 3 → (s a).testBit p = false) ∧ v2 = if 10 ≤ v then v else 10)
theorem y_backL {n k : Nat} {s : Nat → Nat} (h8 : n ≤ 8) (hk : k < 8) (hs : ∀ e, e < 3 → s e < 256) : ∀ (N p : Nat) (τ : St), τ 0 5 = nI n → τ 0 14 = nI k → (∀ e, e < 3 → τ 9 (3 * k + e) = nI (s e)) → p ≤ n → n < N + p → ∃ τ2, f_X5_back_L22 N τ (nI p) = some τ2 ∧ (∀ x, x ≠ 7 → τ2 x = τ x) ∧ (∀ i, i < p → τ2 7 i = τ 7 i) ∧ ∀ i, p ≤ i → i < n → backV s i (τ 7 i) (τ2 7 i) := by
  intro N
  induction N with
  | zero => intro p τ h0 h3 h9 h1 h2; omega
  | succ N ih =>
    intro p τ h0 h3 h9 h1 h2
    have := fuel_ge
    rw [f_X5_back_L22, h0]
    by_cases q : n ≤ p
    · rw [if_pos (nI_le q (by omega))]
      exact ⟨τ, rfl, fun _ _ => rfl, fun _ _ => rfl, fun i h3 h4 => absurd h4 (by omega)⟩
    · rw [if_neg (nI_ge (by omega) (by omega)), z_chk (by omega) (by omega), z_chk (by omega) (by omega), nI_clamp (by omega)]
      obtain ⟨τ1, a1, a2, a3, a4⟩ := y_backI hk (show p < 8 by omega) hs fuel 0 (up2 τ 7 p (if 10 ≤ τ 7 p then τ 7 p else 10)) h3 h9 (by omega) (by omega)
      obtain ⟨τ2, b1, b2, b3, b4⟩ := ih (p + 1) τ1 (by rw [a2 0 (by omega)]; exact h0) (by rw [a2 0 (by omega)]; exact h3) (fun e he => by rw [a2 9 (by omega)]; exact h9 e he) (by omega) (by omega)
      have key : f_X5_back_J57_22 τ (nI p) (nI p) (if 10 ≤ τ 7 p then τ 7 p else 10) (f_X5_back_L22 N) = some τ2 := by
        unfold f_X5_back_J57_22
        rw [z_chk (by omega) (by omega), nI_clamp (by omega), show (0 : Int32) = nI 0 from rfl, a1, Option.bind_some, nI_1, b1]
      refine ⟨τ2, ?_, fun x hx => by rw [b2 x hx, a2 x hx, up2_c hx], fun i hi => by rw [b3 i (by omega), a3 i (by omega), up2_i (by omega)], fun i h4 h5 => ?_⟩
      · rw [← key]
        by_cases z : 10 ≤ τ 7 p
        · rw [if_pos z, if_pos z]
        · rw [if_neg z, if_neg z]
      · by_cases z : i = p
        · subst z
          rw [b3 i (by omega)]
          rcases a4 with ⟨a, d1, d2, d3, d4⟩ | ⟨d1, d2⟩
          · exact Or.inl ⟨a, d2, d3, d4⟩
          · exact Or.inr ⟨fun a ha => d1 a (by omega) ha, by rw [d2, up2_s]⟩
        · have q := b4 i (by omega) h5
          rw [a3 i z, up2_i z] at q
          exact q
theorem sp_back {σ τ : St} (h : Inv σ τ) : ∃ (r : Int32) (σ2 : St) (τ2 : St), f_X4_back σ = (r, σ2) ∧ f_X5_back τ = some (r, τ2) ∧ Inv σ2 τ2 := by
  obtain ⟨n, k, cr, hW⟩ := id h
  obtain ⟨hT, hC, hL, hK0, hK1, hP⟩ := id hW
  obtain ⟨c1, c2, c3, -⟩ := id hC
  obtain ⟨l1, l2, l3, l4, l5, l6, l7, l8, l9, l10, l11⟩ := id hL
  unfold f_X4_back f_X5_back f_X1_takeBack
  rw [l2, l3]
  by_cases k0 : k = 0
  · subst k0
    rw [if_neg (show ¬ 1 ≤ nI 0 by decide), if_pos (show nI 0 = 0 from rfl)]
    exact ⟨_, _, _, rfl, rfl, h⟩
  · obtain ⟨k, rfl⟩ : ∃ j, k = j + 1 := ⟨k - 1, by omega⟩
    have e1 : nI (k + 1) - 1 = nI k := nI_pred k
    rw [if_pos (show 1 ≤ nI (k + 1) from nI_le (a := 1) (by omega) (by omega)), if_neg (show ¬ nI (k + 1) ≤ 0 from nI_nle (by omega) (by omega)), if_neg (show ¬ nI (k + 1) = 0 from nI_ne0 (by omega) (by omega)), e1]
    have := fuel_ge
    obtain ⟨τ2, t1, t2, t3, t4⟩ := y_backL c1 (show k < 8 by omega) (s := fun e => sit (cr k) e) (fun e _ => sit_lt _ _) fuel 0 (up2 τ 0 14 (nI k)) c3 rfl (fun e he => l10 k e (by omega) he) (by omega) (by omega)
    rw [show (nI 0 : Int32) = 0 from rfl] at t1
    rw [t1, Option.bind_some]
    refine ⟨_, _, τ2, rfl, ?_, n, k, cr, ?_, ?_, ⟨by omega, rfl, by rw [t2 0 (by omega)]; rfl, l4, by rw [t2 0 (by omega)]; exact l5, ⟨fun j hj => l6.1 j (by omega), fun j e p hj => l6.2.1 j e p (by omega), fun j e j' e' p hj hj' => l6.2.2 j e j' e' p (by omega) (by omega)⟩, fun j hj => l7 j (by omega), fun p hp => ?_, fun p hp => ?_, fun j e hj he => ?_, fun p hp => ?_⟩, ?_, ?_, fun Wa hWa => PlR.forget (σ := up2 σ 7 3 (nI k)) (Wa := Wa) ?_ Wa⟩
    · rw [t2 0 (by omega)]
      rfl
    · unfold TxR at *
      rw [t2 0 (by omega), t2 8 (by omega)]
      exact hT
    · unfold CrR at *
      rw [t2 0 (by omega), t2 3 (by omega), t2 4 (by omega)]
      exact hC
    · rw [t2 5 (by omega)]; exact l8 p hp
    · rw [t2 6 (by omega)]; exact l9 p hp
    · rw [t2 9 (by omega)]; exact l10 j e (by omega) he
    · have ng : ∀ e, e < 3 → (cr k).testBit (8 * e + p) = true → ¬ goneB k cr p := by
        rintro e he hb ⟨j, hj, e', he', hb'⟩
        have := (l6.2.2 j e' k e p (by omega) (by omega) he' he (by omega) hb' hb).1
        omega
      rcases t4 p (by omega) hp with ⟨a, ha, hb, hv⟩ | ⟨hb, hv⟩
      · rw [sit_tb] at hb
        have hb : (cr k).testBit (8 * a + p) = true := by rw [Bool.and_eq_true] at hb; exact hb.2
        exact Or.inr ⟨ng a ha hb, Or.inl ⟨a, ha, hb, hv⟩⟩
      · have hb : ∀ e, e < 3 → (cr k).testBit (8 * e + p) = false := fun e he => by
          have q := hb e he
          rw [sit_tb] at q
          simpa [show p < 8 by omega] using q
        have hv : τ2 7 p = if 10 ≤ τ 7 p then τ 7 p else 10 := hv
        rcases l11 p hp with ⟨⟨j, hj, e, he, hb'⟩, w⟩ | ⟨g, w⟩
        · rw [w, if_pos (by decide)] at hv
          refine Or.inl ⟨⟨j, ?_, e, he, hb'⟩, hv⟩
          by_cases z : j = k
          · subst z; rw [hb e he] at hb'; cases hb'
          · omega
        · refine Or.inr ⟨fun ⟨j, hj, q⟩ => g ⟨j, by omega, q⟩, Or.inr ⟨hb, ?_⟩⟩
          rcases w with ⟨e, he, -, w⟩ | ⟨-, w⟩
          · rw [w, if_neg (by rw [show (10 : Int32) = nI 10 from rfl, z_le (by omega) (by omega)]; omega)] at hv
            exact hv
          · rw [w, if_pos (by decide)] at hv
            exact hv
    · rw [t2 14 (by omega), t2 15 (by omega), t2 16 (by omega), t2 17 (by omega), t2 18 (by omega), t2 19 (by omega)]
      exact hK0
    · rw [t2 14 (by omega), t2 15 (by omega), t2 16 (by omega), t2 17 (by omega), t2 18 (by omega), t2 19 (by omega)]
      exact hK1
    · have hp := hP _ (waN_is (n := n) (k := k + 1) (cr := cr) c1)
      exact ⟨hp.1, hp.2.1, hp.2.2.1⟩
/-! count -/
theorem sumI_or {f : Nat → Int32} {a b : Nat} : ∀ {n : Nat}, (∀ p, p < n → ¬ (a.testBit p = true ∧ b.testBit p = true)) → sumI f (a ||| b) n = sumI f a n + sumI f b n
  | 0, _ => rfl
  | n + 1, h => by
    rw [sumI, sumI, sumI, sumI_or (fun p hp => h p (by omega)), Nat.testBit_or]
    have hn := h n (by omega)
    cases ha : a.testBit n <;> cases hb : b.testBit n
    · simp [i32_a0]
    · simp [i32_a0, i32_aa]
    · simp only [Bool.true_or, if_true, Bool.false_eq_true, if_false, i32_a0]
      rw [i32_aa, i32_aa, Int32.add_comm (sumI f b n)]
    · rw [ha, hb] at hn; simp at hn
theorem y_countL {n k : Nat} {cr : Nat → Nat} {τ : St} (c1 : n ≤ 8) (c3 : τ 0 5 = nI n) (hk : k ≤ 8) (h3 : τ 0 14 = nI k) (hO : crOK n k cr) (h9 : ∀ j e, j < k → e < 3 → τ 9 (3 * j + e) = nI (sit (cr j) e)) : ∀ (N j : Nat), j ≤ k → k < N + j → f_X5_count_L4 τ N (sumI (fun p => τ 4 (3 * p + 1)) (goneN cr j) n) (nI j) = some (sumI (fun p => τ 4 (3 * p + 1)) (goneN cr k) n) := by
  intro N
  induction N with
  | zero => intro j h1 h2; omega
  | succ N ih =>
    intro j h1 h2
    rw [f_X5_count_L4, h3]
    by_cases q : k ≤ j
    · have : j = k := by omega
      subst this
      rw [if_pos (nI_le q (by omega))]
    · have z0 := h9 j 0 (by omega) (by omega)
      rw [Nat.add_zero] at z0
      rw [if_neg (nI_ge (by omega) (by omega)), y_3p (by omega), show nI (3 * j) + 1 = nI (3 * j + 1) from nI_add _ 1, show nI (3 * j) + 2 = nI (3 * j + 2) from nI_add _ 2, z_chk (by omega) (by omega), z_chk (by omega) (by omega), z_chk (by omega) (by omega), nI_clamp (by omega), nI_clamp (by omega), nI_clamp (by omega), z0, h9 j 1 (by omega) (by omega), h9 j 2 (by omega) (by omega), z_or, z_or, show sit (cr j) 0 ||| sit (cr j) 1 ||| sit (cr j) 2 = mem (cr j) from rfl, y_faresM c3 c1 (by have := mem_lt (cr j); omega), Option.bind_some, nI_1, ← sumI_or]
      · exact ih (j + 1) (by omega) (by omega)
      · rintro p hp ⟨a, b⟩
        obtain ⟨j', hj', e', he', hb'⟩ := (goneN_tb cr (show p < 8 by omega) j).mp a
        obtain ⟨e, he, hb⟩ := (mem_ex (show p < 8 by omega)).mp b
        have := (hO.2.2 j' e' j e p (by omega) (by omega) he' he (by omega) hb' hb).1
        omega
theorem pop_wa {n k : Nat} {cr : Nat → Nat} (c1 : n ≤ 8) (hO : crOK n k cr) : pop (waN n cr k) + pop (goneN cr k) = n := by
  have e : pop (waN n cr k ||| goneN cr k) = pop (waN n cr k) + pop (goneN cr k) := by
    refine pop_or (fun i hi => ?_)
    rintro ⟨a, b⟩
    rw [waN_tb c1, b] at a
    simp at a
  rw [← e]
  have e2 : waN n cr k ||| goneN cr k = 2 ^ n - 1 := by
    refine tb_ext (fun i => ?_)
    rw [Nat.testBit_or, waN_tb c1, Nat.testBit_two_pow_sub_one]
    by_cases hi : i < n
    · cases (goneN cr k).testBit i <;> simp [hi]
    · cases q : (goneN cr k).testBit i
      · simp [hi]
      · exact absurd (goneN_n hO q) hi
  rw [e2]
  match n, c1 with
  | 0, _ => rfl
  | 1, _ => rfl
  | 2, _ => rfl
  | 3, _ => rfl
  | 4, _ => rfl
  | 5, _ => rfl
  | 6, _ => rfl
  | 7, _ => rfl
  | 8, _ => rfl
theorem sp_count {σ τ : St} (h : Inv σ τ) (x1 : Int32) : ∃ (r : Int32), f_X4_count σ x1 = some r ∧ f_X5_count τ x1 = some r ∧ Inv σ τ := by
  obtain ⟨n, k, cr, hW⟩ := id h
  obtain ⟨hT, hC, hL, hK0, hK1, hP⟩ := id hW
  obtain ⟨c1, c2, c3, -⟩ := id hC
  obtain ⟨l1, l2, l3, l4, l5, l6, l7, l8, l9, l10, l11⟩ := id hL
  obtain ⟨len, t1, t2, t3, t4⟩ := id hT
  have := fuel_ge
  have g8 := goneN_lt cr k
  have hl := y_countL c1 c3 l1 l3 l6 l10 fuel 0 (by omega) (by omega)
  rw [show sumI (fun p => τ 4 (3 * p + 1)) (goneN cr 0) n = 0 by
    rw [goneN]
    have : ∀ m, sumI (fun p => τ 4 (3 * p + 1)) 0 m = 0 := fun m => by
      induction m with
      | zero => rfl
      | succ m ih => rw [sumI, ih, Nat.zero_testBit]; rfl
    exact this n, show (nI 0 : Int32) = 0 from rfl] at hl
  have w8 : waN n cr k < 256 := Nat.lt_of_lt_of_le (waN_lt n cr k) (Nat.pow_le_pow_right (n := 2) (by omega) c1)
  have pw := pop_wa c1 l6
  unfold f_X4_count f_X5_count
  rw [hl, Option.bind_some, y_gone l1 l2 l6.1 l7, Option.bind_some, Option.bind_some, Option.bind_some, y_laid l1 l2, Option.bind_some, l7 k (by omega), y_bc (l6.1 k (by omega)), y_bcs g8, y_faresX c2 c1 (by omega), Option.bind_some, y_waitM c3 c1 l6 l11, Option.bind_some, y_ones (by omega), Option.bind_some, y_laidM c3 c1 l6 l11, Option.bind_some, y_whoAt c3 c1, y_who_g c1 l6 l11, Option.bind_some, y_ones (by omega), Option.bind_some, far_rel hC, t2, t3, c2, c3, l2, l3, pk_sub (by omega), show n - pop (goneN cr k) = pop (waN n cr k) by omega]
  by_cases a : x1 = 0
  · exact ⟨_, if_pos a, if_pos a, h⟩
  rw [if_neg a]
  by_cases a : x1 = 1
  · exact ⟨_, if_pos a, if_pos a, h⟩
  rw [if_neg a]
  by_cases a : x1 = 2
  · exact ⟨_, if_pos a, if_pos a, h⟩
  rw [if_neg a]
  by_cases a : x1 = 3
  · exact ⟨_, if_pos a, if_pos a, h⟩
  rw [if_neg a]
  by_cases a : x1 = 4
  · exact ⟨_, if_pos a, if_pos a, h⟩
  rw [if_neg a]
  by_cases a : x1 = 5
  · exact ⟨_, if_pos a, if_pos a, h⟩
  rw [if_neg a]
  by_cases a : x1 = 6
  · exact ⟨_, if_pos a, if_pos a, h⟩
  rw [if_neg a]
  exact ⟨_, rfl, rfl, h⟩
