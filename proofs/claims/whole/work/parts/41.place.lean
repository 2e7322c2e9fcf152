/-! pure: where somebody is -/
theorem y_ne9 {j : Nat} (h : j < 2 ^ 31) : ¬ nI j = -9 := by
  intro q
  have a := nI_toInt h
  rw [q] at a
  have b : (-9 : Int32).toInt = -9 := by decide
  omega
theorem y_fuel (m : Nat) (h : m ≤ 100000) : ∃ N, fuel = N + m := ⟨fuel - m, by have := fuel_ge; omega⟩
theorem y_sit {c e : Nat} (hc : c < 2 ^ 24) (he : e < 3) : f_X4_sitters (nI c) (nI e) = nI (sit c e) := by
  unfold f_X4_sitters sit
  rw [show (8 : Int32) * nI e = nI (8 * e) from pk_mul 8 e, z_ush (by omega) (by omega), show (255 : Int32) = nI 255 from rfl, z_and]
  rw [show (255 : Nat) = 2 ^ 8 - 1 from rfl, Nat.and_two_pow_sub_one_eq_mod]
theorem y_bitOf {c e p : Nat} (hc : c < 2 ^ 24) (he : e < 3) (hp : p < 8) : ((shr (f_X4_sitters (nI c) (nI e)) (nI p)) &&& 1 = 0) = (c.testBit (8 * e + p) = false) := by
  rw [y_sit hc he, z_bit0 (by have := sit_lt c e; omega) (by omega), sit_tb]
  simp [hp]
/-- the first END of a crew at which somebody sits -/
theorem y_endOf {c p : Nat} (hc : c < 2 ^ 24) (hp : p < 8) : (∃ e, e < 3 ∧ c.testBit (8 * e + p) = true ∧ f_X4_endOf (nI c) (nI p) = some (nI e)) ∨ ((∀ e, e < 3 → c.testBit (8 * e + p) = false) ∧ f_X4_endOf (nI c) (nI p) = some (-9)) := by
  obtain ⟨N, hN⟩ := y_fuel 4 (by omega)
  unfold f_X4_endOf
  rw [hN, f_X4_endOf_L2, if_neg (by decide)]
  have b0 := y_bitOf (c := c) (e := 0) (p := p) hc (by omega) hp
  have b1 := y_bitOf (c := c) (e := 1) (p := p) hc (by omega) hp
  have b2 := y_bitOf (c := c) (e := 2) (p := p) hc (by omega) hp
  rw [show (nI 0 : Int32) = 0 from rfl] at b0
  by_cases h0 : c.testBit (8 * 0 + p) = true
  · rw [if_neg (by rw [b0, h0]; decide)]
    exact Or.inl ⟨0, by omega, h0, rfl⟩
  have h0 : c.testBit (8 * 0 + p) = false := by simpa using h0
  rw [if_pos (by rw [b0]; exact h0), f_X4_endOf_L2, show (0 : Int32) + 1 = nI 1 from rfl, if_neg (by decide)]
  by_cases h1 : c.testBit (8 * 1 + p) = true
  · rw [if_neg (by rw [b1, h1]; decide)]
    exact Or.inl ⟨1, by omega, h1, rfl⟩
  have h1 : c.testBit (8 * 1 + p) = false := by simpa using h1
  rw [if_pos (by rw [b1]; exact h1), f_X4_endOf_L2, show nI 1 + 1 = nI 2 from rfl, if_neg (by decide)]
  by_cases h2 : c.testBit (8 * 2 + p) = true
  · rw [if_neg (by rw [b2, h2]; decide)]
    exact Or.inl ⟨2, by omega, h2, rfl⟩
  have h2 : c.testBit (8 * 2 + p) = false := by simpa using h2
  rw [if_pos (by rw [b2]; exact h2), f_X4_endOf_L2, show nI 2 + 1 = nI 3 from rfl, if_pos (by decide)]
  refine Or.inr ⟨fun e he => ?_, rfl⟩
  match e, he with
  | 0, _ => exact h0
  | 1, _ => exact h1
  | 2, _ => exact h2
theorem y_crewOf {σ : St} {j : Nat} (hj : j ≤ 8) : f_X1_crewOf σ (nI j) = some (σ 8 j) := by
  unfold f_X1_crewOf
  rw [if_neg (nI_pos (by omega)), show (8 : Int32) = nI 8 from rfl, if_neg (nI_nlt (by omega) (by omega)), z_chk (by omega) (by omega), nI_clamp (by omega)]
theorem y_laid {σ : St} {k : Nat} (hk : k ≤ 8) (h : σ 7 3 = nI k) : f_X1_laid σ = some (σ 8 k) := by
  unfold f_X1_laid
  rw [h, y_crewOf hk]
  rfl
/-- the boat with which somebody is gone -/
theorem y_boatOf_L {σ : St} {k p : Nat} {cr : Nat → Nat} (hk : k ≤ 8) (h3 : σ 7 3 = nI k) (hc : ∀ j, j ≤ k → cr j < 2 ^ 24) (h8 : ∀ j, j ≤ k → σ 8 j = nI (cr j)) (hp : p < 8) : ∀ (N j : Nat), j ≤ k → k < N + j → (∀ i, i < j → ∀ e, e < 3 → (cr i).testBit (8 * e + p) = false) →
    (∃ i, i < k ∧ (∃ e, e < 3 ∧ (cr i).testBit (8 * e + p) = true) ∧ f_X1_boatOf_L2 σ (nI p) N (nI j) = some (nI i)) ∨ ((∀ i, i < k → ∀ e, e < 3 → (cr i).testBit (8 * e + p) = false) ∧ f_X1_boatOf_L2 σ (nI p) N (nI j) = some (-9)) := by
  intro N
  induction N with
  | zero => intro j h1 h2; omega
  | succ N ih =>
    intro j h1 h2 h4
    rw [f_X1_boatOf_L2, h3]
    by_cases q : k ≤ j
    · have : j = k := by omega
      subst this
      rw [if_pos (nI_le q (by omega))]
      exact Or.inr ⟨h4, rfl⟩
    · rw [if_neg (nI_ge (by omega) (by omega)), y_crewOf (by omega), Option.bind_some, h8 j (by omega)]
      rcases y_endOf (hc j (by omega)) hp with ⟨e, he, hb, hf⟩ | ⟨hb, hf⟩
      · rw [hf, Option.bind_some, if_neg (y_ne9 (by omega))]
        exact Or.inl ⟨j, by omega, ⟨e, he, hb⟩, rfl⟩
      · rw [hf, Option.bind_some, if_pos rfl, nI_1]
        refine ih (j + 1) (by omega) (by omega) (fun i hi => ?_)
        by_cases q2 : i = j
        · subst q2; exact hb
        · exact h4 i (by omega)
theorem y_boatOf {σ : St} {k p : Nat} {cr : Nat → Nat} (hk : k ≤ 8) (h3 : σ 7 3 = nI k) (hc : ∀ j, j ≤ k → cr j < 2 ^ 24) (h8 : ∀ j, j ≤ k → σ 8 j = nI (cr j)) (hp : p < 8) :
    (∃ i, i < k ∧ (∃ e, e < 3 ∧ (cr i).testBit (8 * e + p) = true) ∧ f_X1_boatOf σ (nI p) = some (nI i)) ∨ (¬ goneB k cr p ∧ f_X1_boatOf σ (nI p) = some (-9)) := by
  have := fuel_ge
  rcases y_boatOf_L hk h3 hc h8 hp fuel 0 (by omega) (by omega) (fun i hi => absurd hi (by omega)) with h | ⟨h, h2⟩
  · exact Or.inl h
  · refine Or.inr ⟨?_, h2⟩
    rintro ⟨j, hj, e, he, hb⟩
    rw [h j hj e he] at hb
    cases hb
theorem y_placeOf {σ : St} {k p : Nat} {cr : Nat → Nat} {v : Int32} (hk : k ≤ 8) (h3 : σ 7 3 = nI k) (hc : ∀ j, j ≤ k → cr j < 2 ^ 24) (h8 : ∀ j, j ≤ k → σ 8 j = nI (cr j)) (hd : ∀ e e', e < 3 → e' < 3 → (cr k).testBit (8 * e + p) = true → (cr k).testBit (8 * e' + p) = true → e = e') (hp : p < 8) (hv : plR k cr p v) : f_X1_placeOf σ (nI p) = some v := by
  unfold f_X1_placeOf
  rcases y_boatOf hk h3 hc h8 hp with ⟨i, hi, hb, hf⟩ | ⟨hg, hf⟩
  · rw [hf, Option.bind_some, if_neg (y_ne9 (by omega))]
    rcases hv with ⟨-, rfl⟩ | ⟨h, -⟩
    · rfl
    · exact absurd ⟨i, hi, hb⟩ h
  · rw [hf, Option.bind_some, if_pos rfl, y_laid hk h3, Option.bind_some, h8 k (by omega)]
    rcases hv with ⟨h, -⟩ | ⟨-, h⟩
    · exact absurd h hg
    · rcases y_endOf (hc k (by omega)) hp with ⟨e, he, hb, hf⟩ | ⟨hb, hf⟩
      · rw [hf, Option.bind_some, if_neg (y_ne9 (by omega))]
        rcases h with ⟨e', he', hb', rfl⟩ | ⟨h, -⟩
        · rw [hd e e' he he' hb hb']
        · rw [h e he] at hb; cases hb
      · rw [hf, Option.bind_some, if_pos rfl]
        rcases h with ⟨e', he', hb', rfl⟩ | ⟨-, rfl⟩
        · rw [hb e' he'] at hb'; cases hb'
        · rfl
theorem y_place {n k p : Nat} {cr : Nat → Nat} {σ : St} {pl gn cl lf : Nat → Int32} {bo mi : Int32} (hL : LgR n k cr σ 7 pl gn cl lf bo mi) (h8 : n ≤ 8) (hp : p < n) : f_X1_placeOf σ (nI p) = some (pl p) := by
  obtain ⟨l1, l2, l3, l4, l5, l6, l7, l8, l9, l10, l11⟩ := hL
  exact y_placeOf l1 l2 l6.1 l7 (fun e e' he he' h1 h2 => (l6.2.2 k e k e' p (by omega) (by omega) he he' (by omega) h1 h2).2) (by omega) (l11 p hp)
