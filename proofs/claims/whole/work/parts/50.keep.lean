/-! pure: keep, again -/
theorem LgR.to {n k : Nat} {cr : Nat → Nat} {σ σ' : St} {b b' : Nat} {pl gn cl lf pl' gn' cl' lf' : Nat → Int32} {bo mi bo' mi' : Int32} (h : LgR n k cr σ b pl gn cl lf bo mi) (h3 : σ' b' 3 = σ b 3) (h4 : σ' b' 4 = σ b 4) (hc : ∀ j, j < 9 → σ' (b' + 1) j = σ (b + 1) j) (hg : ∀ p, p < n → σ' (b' + 2) p = σ (b + 2) p) (hl : ∀ p, p < n → σ' (b' + 3) p = σ (b + 3) p) (p1 : ∀ p, p < n → pl' p = pl p) (p2 : ∀ p, p < n → gn' p = gn p) (p3 : ∀ p, p < n → cl' p = cl p) (p4 : ∀ i, i < 24 → lf' i = lf i) (p5 : bo' = bo) (p6 : mi' = mi) : LgR n k cr σ' b' pl' gn' cl' lf' bo' mi' := by
  obtain ⟨l1, l2, l3, l4, l5, l6, l7, l8, l9, l10, l11⟩ := h
  refine ⟨l1, by rw [h3]; exact l2, by rw [p5]; exact l3, by rw [h4]; exact l4, by rw [p6, h4]; exact l5, l6, fun j hj => by rw [hc j (by omega)]; exact l7 j hj, fun p hp => by rw [p2 p hp, hg p hp]; exact l8 p hp, fun p hp => by rw [p3 p hp, hl p hp]; exact l9 p hp, fun j e hj he => by rw [p4 _ (by omega)]; exact l10 j e hj he, fun p hp => by rw [p1 p hp]; exact l11 p hp⟩
theorem y_copyA_11_7 : ∀ (N j : Nat) (σ : St), j ≤ 9 → 9 < N + j → ∃ σ2, f_X1_copyFrom_11_7_L18 N σ (nI j) = some σ2 ∧ (∀ x, x ≠ 12 → σ2 x = σ x) ∧ (∀ i, i < j → σ2 12 i = σ 12 i) ∧ ∀ i, j ≤ i → i < 9 → σ2 12 i = σ 8 i := by
  intro N
  induction N with
  | zero => intro j σ h1 h2; omega
  | succ N ih =>
    intro j σ h1 h2
    rw [f_X1_copyFrom_11_7_L18, show (8 : Int32) = nI 8 from rfl]
    by_cases q : 8 < j
    · rw [if_pos (nI_lt q (by omega))]
      exact ⟨σ, rfl, fun _ _ => rfl, fun _ _ => rfl, fun i h3 h4 => absurd h4 (by omega)⟩
    · rw [if_neg (nI_nlt (by omega) (by omega)), z_chk (by omega) (by omega), z_chk (by omega) (by omega), nI_clamp (by omega), nI_1]
      obtain ⟨σ2, a1, a2, a3, a4⟩ := ih (j + 1) (up2 σ 12 j (σ 8 j)) (by omega) (by omega)
      refine ⟨σ2, a1, fun x hx => by rw [a2 x hx, up2_c hx], fun i hi => by rw [a3 i (by omega), up2_i (by omega)], fun i h3 h4 => ?_⟩
      by_cases z : i = j
      · subst z
        rw [a3 i (by omega), up2_s]
      · rw [a4 i (by omega) h4, up2_c (by decide)]
theorem y_copyB_11_7 : ∀ (N j : Nat) (σ : St), j ≤ 8 → 8 < N + j → ∃ σ2, f_X1_copyFrom_11_7_L44 N σ (nI j) = some σ2 ∧ (∀ x, x ≠ 13 → x ≠ 14 → σ2 x = σ x) ∧ (∀ i, i < j → σ2 13 i = σ 13 i ∧ σ2 14 i = σ 14 i) ∧ ∀ i, j ≤ i → i < 8 → σ2 13 i = σ 9 i ∧ σ2 14 i = σ 10 i := by
  intro N
  induction N with
  | zero => intro j σ h1 h2; omega
  | succ N ih =>
    intro j σ h1 h2
    rw [f_X1_copyFrom_11_7_L44, show (8 : Int32) = nI 8 from rfl]
    by_cases q : 8 ≤ j
    · rw [if_pos (nI_le q (by omega))]
      exact ⟨σ, rfl, fun _ _ _ => rfl, fun _ _ => ⟨rfl, rfl⟩, fun i h3 h4 => absurd h4 (by omega)⟩
    · rw [if_neg (nI_ge (by omega) (by omega)), z_chk (by omega) (by omega), z_chk (by omega) (by omega), z_chk (by omega) (by omega), z_chk (by omega) (by omega), nI_clamp (by omega), nI_1]
      obtain ⟨σ2, a1, a2, a3, a4⟩ := ih (j + 1) (up2 (up2 σ 13 j (σ 9 j)) 14 j (σ 10 j)) (by omega) (by omega)
      refine ⟨σ2, a1, fun x hx hx2 => by rw [a2 x hx hx2, up2_c hx2, up2_c hx], fun i hi => ?_, fun i h3 h4 => ?_⟩
      · rw [(a3 i (by omega)).1, (a3 i (by omega)).2, up2_i (by omega), up2_c (by decide), up2_i (by omega), up2_c (by decide)]
        exact ⟨rfl, rfl⟩
      · by_cases z : i = j
        · subst z
          rw [(a3 i (by omega)).1, (a3 i (by omega)).2, up2_s, up2_c (by decide), up2_s]
          exact ⟨rfl, rfl⟩
        · rw [(a4 i (by omega) h4).1, (a4 i (by omega) h4).2, up2_c (by decide), up2_c (by decide), up2_c (by decide), up2_c (by decide)]
          exact ⟨rfl, rfl⟩
theorem y_copy_11_7 (σ : St) : ∃ σ2, f_X1_copyFrom_11_7 σ = some σ2 ∧ (∀ x, (x < 11 ∨ 14 < x) → σ2 x = σ x) ∧ σ2 11 3 = σ 7 3 ∧ σ2 11 4 = σ 7 4 ∧ σ2 11 5 = σ 11 5 ∧ (∀ j, j < 9 → σ2 12 j = σ 8 j) ∧ (∀ j, j < 8 → σ2 13 j = σ 9 j) ∧ ∀ j, j < 8 → σ2 14 j = σ 10 j := by
  have := fuel_ge
  obtain ⟨σ1, a1, a2, a3, a4⟩ := y_copyA_11_7 fuel 0 (up2 (up2 σ 11 3 (σ 7 3)) 11 4 (σ 7 4)) (by omega) (by omega)
  obtain ⟨σ2, b1, b2, b3, b4⟩ := y_copyB_11_7 fuel 0 σ1 (by omega) (by omega)
  rw [show (nI 0 : Int32) = 0 from rfl] at a1 b1
  refine ⟨σ2, ?_, fun x hx => ?_, ?_, ?_, ?_, fun j hj => ?_, fun j hj => ?_, fun j hj => ?_⟩
  · unfold f_X1_copyFrom_11_7
    rw [a1, Option.bind_some, b1]
    rfl
  · rw [b2 x (by omega) (by omega), a2 x (by omega), up2_c (by omega), up2_c (by omega)]
  · rw [b2 11 (by decide) (by decide), a2 11 (by decide)]
    rfl
  · rw [b2 11 (by decide) (by decide), a2 11 (by decide)]
    rfl
  · rw [b2 11 (by decide) (by decide), a2 11 (by decide)]
    rfl
  · rw [b2 12 (by decide) (by decide), a4 j (by omega) hj]
    rfl
  · rw [(b4 j (by omega) hj).1, a2 9 (by decide)]
    rfl
  · rw [(b4 j (by omega) hj).2, a2 10 (by decide)]
    rfl
theorem y_copyA_15_7 : ∀ (N j : Nat) (σ : St), j ≤ 9 → 9 < N + j → ∃ σ2, f_X1_copyFrom_15_7_L18 N σ (nI j) = some σ2 ∧ (∀ x, x ≠ 16 → σ2 x = σ x) ∧ (∀ i, i < j → σ2 16 i = σ 16 i) ∧ ∀ i, j ≤ i → i < 9 → σ2 16 i = σ 8 i := by
  intro N
  induction N with
  | zero => intro j σ h1 h2; omega
  | succ N ih =>
    intro j σ h1 h2
    rw [f_X1_copyFrom_15_7_L18, show (8 : Int32) = nI 8 from rfl]
    by_cases q : 8 < j
    · rw [if_pos (nI_lt q (by omega))]
      exact ⟨σ, rfl, fun _ _ => rfl, fun _ _ => rfl, fun i h3 h4 => absurd h4 (by omega)⟩
    · rw [if_neg (nI_nlt (by omega) (by omega)), z_chk (by omega) (by omega), z_chk (by omega) (by omega), nI_clamp (by omega), nI_1]
      obtain ⟨σ2, a1, a2, a3, a4⟩ := ih (j + 1) (up2 σ 16 j (σ 8 j)) (by omega) (by omega)
      refine ⟨σ2, a1, fun x hx => by rw [a2 x hx, up2_c hx], fun i hi => by rw [a3 i (by omega), up2_i (by omega)], fun i h3 h4 => ?_⟩
      by_cases z : i = j
      · subst z
        rw [a3 i (by omega), up2_s]
      · rw [a4 i (by omega) h4, up2_c (by decide)]
theorem y_copyB_15_7 : ∀ (N j : Nat) (σ : St), j ≤ 8 → 8 < N + j → ∃ σ2, f_X1_copyFrom_15_7_L44 N σ (nI j) = some σ2 ∧ (∀ x, x ≠ 17 → x ≠ 18 → σ2 x = σ x) ∧ (∀ i, i < j → σ2 17 i = σ 17 i ∧ σ2 18 i = σ 18 i) ∧ ∀ i, j ≤ i → i < 8 → σ2 17 i = σ 9 i ∧ σ2 18 i = σ 10 i := by
  intro N
  induction N with
  | zero => intro j σ h1 h2; omega
  | succ N ih =>
    intro j σ h1 h2
    rw [f_X1_copyFrom_15_7_L44, show (8 : Int32) = nI 8 from rfl]
    by_cases q : 8 ≤ j
    · rw [if_pos (nI_le q (by omega))]
      exact ⟨σ, rfl, fun _ _ _ => rfl, fun _ _ => ⟨rfl, rfl⟩, fun i h3 h4 => absurd h4 (by omega)⟩
    · rw [if_neg (nI_ge (by omega) (by omega)), z_chk (by omega) (by omega), z_chk (by omega) (by omega), z_chk (by omega) (by omega), z_chk (by omega) (by omega), nI_clamp (by omega), nI_1]
      obtain ⟨σ2, a1, a2, a3, a4⟩ := ih (j + 1) (up2 (up2 σ 17 j (σ 9 j)) 18 j (σ 10 j)) (by omega) (by omega)
      refine ⟨σ2, a1, fun x hx hx2 => by rw [a2 x hx hx2, up2_c hx2, up2_c hx], fun i hi => ?_, fun i h3 h4 => ?_⟩
      · rw [(a3 i (by omega)).1, (a3 i (by omega)).2, up2_i (by omega), up2_c (by decide), up2_i (by omega), up2_c (by decide)]
        exact ⟨rfl, rfl⟩
      · by_cases z : i = j
        · subst z
          rw [(a3 i (by omega)).1, (a3 i (by omega)).2, up2_s, up2_c (by decide), up2_s]
          exact ⟨rfl, rfl⟩
        · rw [(a4 i (by omega) h4).1, (a4 i (by omega) h4).2, up2_c (by decide), up2_c (by decide), up2_c (by decide), up2_c (by decide)]
          exact ⟨rfl, rfl⟩
theorem y_copy_15_7 (σ : St) : ∃ σ2, f_X1_copyFrom_15_7 σ = some σ2 ∧ (∀ x, (x < 15 ∨ 18 < x) → σ2 x = σ x) ∧ σ2 15 3 = σ 7 3 ∧ σ2 15 4 = σ 7 4 ∧ σ2 15 5 = σ 15 5 ∧ (∀ j, j < 9 → σ2 16 j = σ 8 j) ∧ (∀ j, j < 8 → σ2 17 j = σ 9 j) ∧ ∀ j, j < 8 → σ2 18 j = σ 10 j := by
  have := fuel_ge
  obtain ⟨σ1, a1, a2, a3, a4⟩ := y_copyA_15_7 fuel 0 (up2 (up2 σ 15 3 (σ 7 3)) 15 4 (σ 7 4)) (by omega) (by omega)
  obtain ⟨σ2, b1, b2, b3, b4⟩ := y_copyB_15_7 fuel 0 σ1 (by omega) (by omega)
  rw [show (nI 0 : Int32) = 0 from rfl] at a1 b1
  refine ⟨σ2, ?_, fun x hx => ?_, ?_, ?_, ?_, fun j hj => ?_, fun j hj => ?_, fun j hj => ?_⟩
  · unfold f_X1_copyFrom_15_7
    rw [a1, Option.bind_some, b1]
    rfl
  · rw [b2 x (by omega) (by omega), a2 x (by omega), up2_c (by omega), up2_c (by omega)]
  · rw [b2 15 (by decide) (by decide), a2 15 (by decide)]
    rfl
  · rw [b2 15 (by decide) (by decide), a2 15 (by decide)]
    rfl
  · rw [b2 15 (by decide) (by decide), a2 15 (by decide)]
    rfl
  · rw [b2 16 (by decide) (by decide), a4 j (by omega) hj]
    rfl
  · rw [(b4 j (by omega) hj).1, a2 9 (by decide)]
    rfl
  · rw [(b4 j (by omega) hj).2, a2 10 (by decide)]
    rfl
theorem y_copyA_7_11 : ∀ (N j : Nat) (σ : St), j ≤ 9 → 9 < N + j → ∃ σ2, f_X1_copyFrom_7_11_L18 N σ (nI j) = some σ2 ∧ (∀ x, x ≠ 8 → σ2 x = σ x) ∧ (∀ i, i < j → σ2 8 i = σ 8 i) ∧ ∀ i, j ≤ i → i < 9 → σ2 8 i = σ 12 i := by
  intro N
  induction N with
  | zero => intro j σ h1 h2; omega
  | succ N ih =>
    intro j σ h1 h2
    rw [f_X1_copyFrom_7_11_L18, show (8 : Int32) = nI 8 from rfl]
    by_cases q : 8 < j
    · rw [if_pos (nI_lt q (by omega))]
      exact ⟨σ, rfl, fun _ _ => rfl, fun _ _ => rfl, fun i h3 h4 => absurd h4 (by omega)⟩
    · rw [if_neg (nI_nlt (by omega) (by omega)), z_chk (by omega) (by omega), z_chk (by omega) (by omega), nI_clamp (by omega), nI_1]
      obtain ⟨σ2, a1, a2, a3, a4⟩ := ih (j + 1) (up2 σ 8 j (σ 12 j)) (by omega) (by omega)
      refine ⟨σ2, a1, fun x hx => by rw [a2 x hx, up2_c hx], fun i hi => by rw [a3 i (by omega), up2_i (by omega)], fun i h3 h4 => ?_⟩
      by_cases z : i = j
      · subst z
        rw [a3 i (by omega), up2_s]
      · rw [a4 i (by omega) h4, up2_c (by decide)]
theorem y_copyB_7_11 : ∀ (N j : Nat) (σ : St), j ≤ 8 → 8 < N + j → ∃ σ2, f_X1_copyFrom_7_11_L44 N σ (nI j) = some σ2 ∧ (∀ x, x ≠ 9 → x ≠ 10 → σ2 x = σ x) ∧ (∀ i, i < j → σ2 9 i = σ 9 i ∧ σ2 10 i = σ 10 i) ∧ ∀ i, j ≤ i → i < 8 → σ2 9 i = σ 13 i ∧ σ2 10 i = σ 14 i := by
  intro N
  induction N with
  | zero => intro j σ h1 h2; omega
  | succ N ih =>
    intro j σ h1 h2
    rw [f_X1_copyFrom_7_11_L44, show (8 : Int32) = nI 8 from rfl]
    by_cases q : 8 ≤ j
    · rw [if_pos (nI_le q (by omega))]
      exact ⟨σ, rfl, fun _ _ _ => rfl, fun _ _ => ⟨rfl, rfl⟩, fun i h3 h4 => absurd h4 (by omega)⟩
    · rw [if_neg (nI_ge (by omega) (by omega)), z_chk (by omega) (by omega), z_chk (by omega) (by omega), z_chk (by omega) (by omega), z_chk (by omega) (by omega), nI_clamp (by omega), nI_1]
      obtain ⟨σ2, a1, a2, a3, a4⟩ := ih (j + 1) (up2 (up2 σ 9 j (σ 13 j)) 10 j (σ 14 j)) (by omega) (by omega)
      refine ⟨σ2, a1, fun x hx hx2 => by rw [a2 x hx hx2, up2_c hx2, up2_c hx], fun i hi => ?_, fun i h3 h4 => ?_⟩
      · rw [(a3 i (by omega)).1, (a3 i (by omega)).2, up2_i (by omega), up2_c (by decide), up2_i (by omega), up2_c (by decide)]
        exact ⟨rfl, rfl⟩
      · by_cases z : i = j
        · subst z
          rw [(a3 i (by omega)).1, (a3 i (by omega)).2, up2_s, up2_c (by decide), up2_s]
          exact ⟨rfl, rfl⟩
        · rw [(a4 i (by omega) h4).1, (a4 i (by omega) h4).2, up2_c (by decide), up2_c (by decide), up2_c (by decide), up2_c (by decide)]
          exact ⟨rfl, rfl⟩
theorem y_copy_7_11 (σ : St) : ∃ σ2, f_X1_copyFrom_7_11 σ = some σ2 ∧ (∀ x, (x < 7 ∨ 10 < x) → σ2 x = σ x) ∧ σ2 7 3 = σ 11 3 ∧ σ2 7 4 = σ 11 4 ∧ σ2 7 5 = σ 7 5 ∧ (∀ j, j < 9 → σ2 8 j = σ 12 j) ∧ (∀ j, j < 8 → σ2 9 j = σ 13 j) ∧ ∀ j, j < 8 → σ2 10 j = σ 14 j := by
  have := fuel_ge
  obtain ⟨σ1, a1, a2, a3, a4⟩ := y_copyA_7_11 fuel 0 (up2 (up2 σ 7 3 (σ 11 3)) 7 4 (σ 11 4)) (by omega) (by omega)
  obtain ⟨σ2, b1, b2, b3, b4⟩ := y_copyB_7_11 fuel 0 σ1 (by omega) (by omega)
  rw [show (nI 0 : Int32) = 0 from rfl] at a1 b1
  refine ⟨σ2, ?_, fun x hx => ?_, ?_, ?_, ?_, fun j hj => ?_, fun j hj => ?_, fun j hj => ?_⟩
  · unfold f_X1_copyFrom_7_11
    rw [a1, Option.bind_some, b1]
    rfl
  · rw [b2 x (by omega) (by omega), a2 x (by omega), up2_c (by omega), up2_c (by omega)]
  · rw [b2 7 (by decide) (by decide), a2 7 (by decide)]
    rfl
  · rw [b2 7 (by decide) (by decide), a2 7 (by decide)]
    rfl
  · rw [b2 7 (by decide) (by decide), a2 7 (by decide)]
    rfl
  · rw [b2 8 (by decide) (by decide), a4 j (by omega) hj]
    rfl
  · rw [(b4 j (by omega) hj).1, a2 13 (by decide)]
    rfl
  · rw [(b4 j (by omega) hj).2, a2 14 (by decide)]
    rfl
theorem y_copyA_7_15 : ∀ (N j : Nat) (σ : St), j ≤ 9 → 9 < N + j → ∃ σ2, f_X1_copyFrom_7_15_L18 N σ (nI j) = some σ2 ∧ (∀ x, x ≠ 8 → σ2 x = σ x) ∧ (∀ i, i < j → σ2 8 i = σ 8 i) ∧ ∀ i, j ≤ i → i < 9 → σ2 8 i = σ 16 i := by
  intro N
  induction N with
  | zero => intro j σ h1 h2; omega
  | succ N ih =>
    intro j σ h1 h2
    rw [f_X1_copyFrom_7_15_L18, show (8 : Int32) = nI 8 from rfl]
    by_cases q : 8 < j
    · rw [if_pos (nI_lt q (by omega))]
      exact ⟨σ, rfl, fun _ _ => rfl, fun _ _ => rfl, fun i h3 h4 => absurd h4 (by omega)⟩
    · rw [if_neg (nI_nlt (by omega) (by omega)), z_chk (by omega) (by omega), z_chk (by omega) (by omega), nI_clamp (by omega), nI_1]
      obtain ⟨σ2, a1, a2, a3, a4⟩ := ih (j + 1) (up2 σ 8 j (σ 16 j)) (by omega) (by omega)
      refine ⟨σ2, a1, fun x hx => by rw [a2 x hx, up2_c hx], fun i hi => by rw [a3 i (by omega), up2_i (by omega)], fun i h3 h4 => ?_⟩
      by_cases z : i = j
      · subst z
        rw [a3 i (by omega), up2_s]
      · rw [a4 i (by omega) h4, up2_c (by decide)]
theorem y_copyB_7_15 : ∀ (N j : Nat) (σ : St), j ≤ 8 → 8 < N + j → ∃ σ2, f_X1_copyFrom_7_15_L44 N σ (nI j) = some σ2 ∧ (∀ x, x ≠ 9 → x ≠ 10 → σ2 x = σ x) ∧ (∀ i, i < j → σ2 9 i = σ 9 i ∧ σ2 10 i = σ 10 i) ∧ ∀ i, j ≤ i → i < 8 → σ2 9 i = σ 17 i ∧ σ2 10 i = σ 18 i := by
  intro N
  induction N with
  | zero => intro j σ h1 h2; omega
  | succ N ih =>
    intro j σ h1 h2
    rw [f_X1_copyFrom_7_15_L44, show (8 : Int32) = nI 8 from rfl]
    by_cases q : 8 ≤ j
    · rw [if_pos (nI_le q (by omega))]
      exact ⟨σ, rfl, fun _ _ _ => rfl, fun _ _ => ⟨rfl, rfl⟩, fun i h3 h4 => absurd h4 (by omega)⟩
    · rw [if_neg (nI_ge (by omega) (by omega)), z_chk (by omega) (by omega), z_chk (by omega) (by omega), z_chk (by omega) (by omega), z_chk (by omega) (by omega), nI_clamp (by omega), nI_1]
      obtain ⟨σ2, a1, a2, a3, a4⟩ := ih (j + 1) (up2 (up2 σ 9 j (σ 17 j)) 10 j (σ 18 j)) (by omega) (by omega)
      refine ⟨σ2, a1, fun x hx hx2 => by rw [a2 x hx hx2, up2_c hx2, up2_c hx], fun i hi => ?_, fun i h3 h4 => ?_⟩
      · rw [(a3 i (by omega)).1, (a3 i (by omega)).2, up2_i (by omega), up2_c (by decide), up2_i (by omega), up2_c (by decide)]
        exact ⟨rfl, rfl⟩
      · by_cases z : i = j
        · subst z
          rw [(a3 i (by omega)).1, (a3 i (by omega)).2, up2_s, up2_c (by decide), up2_s]
          exact ⟨rfl, rfl⟩
        · rw [(a4 i (by omega) h4).1, (a4 i (by omega) h4).2, up2_c (by decide), up2_c (by decide), up2_c (by decide), up2_c (by decide)]
          exact ⟨rfl, rfl⟩
theorem y_copy_7_15 (σ : St) : ∃ σ2, f_X1_copyFrom_7_15 σ = some σ2 ∧ (∀ x, (x < 7 ∨ 10 < x) → σ2 x = σ x) ∧ σ2 7 3 = σ 15 3 ∧ σ2 7 4 = σ 15 4 ∧ σ2 7 5 = σ 7 5 ∧ (∀ j, j < 9 → σ2 8 j = σ 16 j) ∧ (∀ j, j < 8 → σ2 9 j = σ 17 j) ∧ ∀ j, j < 8 → σ2 10 j = σ 18 j := by
  have := fuel_ge
  obtain ⟨σ1, a1, a2, a3, a4⟩ := y_copyA_7_15 fuel 0 (up2 (up2 σ 7 3 (σ 15 3)) 7 4 (σ 15 4)) (by omega) (by omega)
  obtain ⟨σ2, b1, b2, b3, b4⟩ := y_copyB_7_15 fuel 0 σ1 (by omega) (by omega)
  rw [show (nI 0 : Int32) = 0 from rfl] at a1 b1
  refine ⟨σ2, ?_, fun x hx => ?_, ?_, ?_, ?_, fun j hj => ?_, fun j hj => ?_, fun j hj => ?_⟩
  · unfold f_X1_copyFrom_7_15
    rw [a1, Option.bind_some, b1]
    rfl
  · rw [b2 x (by omega) (by omega), a2 x (by omega), up2_c (by omega), up2_c (by omega)]
  · rw [b2 7 (by decide) (by decide), a2 7 (by decide)]
    rfl
  · rw [b2 7 (by decide) (by decide), a2 7 (by decide)]
    rfl
  · rw [b2 7 (by decide) (by decide), a2 7 (by decide)]
    rfl
  · rw [b2 8 (by decide) (by decide), a4 j (by omega) hj]
    rfl
  · rw [(b4 j (by omega) hj).1, a2 17 (by decide)]
    rfl
  · rw [(b4 j (by omega) hj).2, a2 18 (by decide)]
    rfl
theorem y_8s {s p : Nat} (hs : s < 2) (hp : p < 24) : (8 : Int32) * nI s + nI p = nI (8 * s + p) := by rw [show (8 : Int32) * nI s = nI (8 * s) from pk_mul 8 s, nI_add]
theorem y_24s {s p : Nat} (hs : s < 2) (hp : p < 24) : (24 : Int32) * nI s + nI p = nI (24 * s + p) := by rw [show (24 : Int32) * nI s = nI (24 * s) from pk_mul 24 s, nI_add]
theorem y_keepA {s : Nat} (hs : s < 2) : ∀ (N p : Nat) (τ : St), p ≤ 8 → 8 < N + p → ∃ τ2, f_X5_keep_L21 (nI s) N τ (nI p) = some τ2 ∧ (∀ x, x ≠ 15 → x ≠ 16 → x ≠ 17 → τ2 x = τ x) ∧ (∀ i, i < 8 * s + p ∨ 8 * s + 8 ≤ i → τ2 15 i = τ 15 i ∧ τ2 16 i = τ 16 i ∧ τ2 17 i = τ 17 i) ∧ ∀ i, p ≤ i → i < 8 → τ2 15 (8 * s + i) = τ 7 i ∧ τ2 16 (8 * s + i) = τ 5 i ∧ τ2 17 (8 * s + i) = τ 6 i := by
  intro N
  induction N with
  | zero => intro p τ h1 h2; omega
  | succ N ih =>
    intro p τ h1 h2
    rw [f_X5_keep_L21]
    by_cases q : 8 ≤ p
    · rw [if_pos (show (8 : Int32) ≤ nI p from nI_le q (by omega))]
      exact ⟨τ, rfl, fun _ _ _ _ => rfl, fun _ _ => ⟨rfl, rfl, rfl⟩, fun i h3 h4 => absurd h4 (by omega)⟩
    · rw [if_neg (show ¬ (8 : Int32) ≤ nI p from nI_ge (a := p) (b := 8) (by omega) (by omega)), y_8s hs (by omega), z_chk (by omega) (by omega), z_chk (by omega) (by omega), z_chk (by omega) (by omega), z_chk (by omega) (by omega), z_chk (by omega) (by omega), z_chk (by omega) (by omega), nI_clamp (by omega), nI_clamp (by omega), nI_1]
      obtain ⟨τ2, a1, a2, a3, a4⟩ := ih (p + 1) (up2 (up2 (up2 τ 15 (8 * s + p) (τ 7 p)) 16 (8 * s + p) (τ 5 p)) 17 (8 * s + p) (τ 6 p)) (by omega) (by omega)
      refine ⟨τ2, a1, fun x x1 x2 x3 => by rw [a2 x x1 x2 x3, up2_c x3, up2_c x2, up2_c x1], fun i hi => ?_, fun i h3 h4 => ?_⟩
      · obtain ⟨d1, d2, d3⟩ := a3 i (by omega)
        rw [d1, d2, d3, up2_c (by decide), up2_c (by decide), up2_i (by omega), up2_c (by decide), up2_i (by omega), up2_c (by decide), up2_i (by omega), up2_c (by decide), up2_c (by decide)]
        exact ⟨rfl, rfl, rfl⟩
      · by_cases z : i = p
        · subst z
          obtain ⟨d1, d2, d3⟩ := a3 (8 * s + i) (by omega)
          exact ⟨by rw [d1, up2_c (by decide), up2_c (by decide), up2_s], by rw [d2, up2_c (by decide), up2_s], by rw [d3, up2_s]⟩
        · obtain ⟨d1, d2, d3⟩ := a4 i (by omega) h4
          exact ⟨d1, d2, d3⟩
theorem y_keepB {s : Nat} (hs : s < 2) : ∀ (N p : Nat) (τ : St), p ≤ 24 → 24 < N + p → ∃ τ2, f_X5_keep_L86 (nI s) N τ (nI p) = some τ2 ∧ (∀ x, x ≠ 18 → τ2 x = τ x) ∧ (∀ i, i < 24 * s + p ∨ 24 * s + 24 ≤ i → τ2 18 i = τ 18 i) ∧ ∀ i, p ≤ i → i < 24 → τ2 18 (24 * s + i) = τ 9 i := by
  intro N
  induction N with
  | zero => intro p τ h1 h2; omega
  | succ N ih =>
    intro p τ h1 h2
    rw [f_X5_keep_L86]
    by_cases q : 24 ≤ p
    · rw [if_pos (show (24 : Int32) ≤ nI p from nI_le q (by omega))]
      exact ⟨τ, rfl, fun _ _ => rfl, fun _ _ => rfl, fun i h3 h4 => absurd h4 (by omega)⟩
    · rw [if_neg (show ¬ (24 : Int32) ≤ nI p from nI_ge (a := p) (b := 24) (by omega) (by omega)), y_24s hs (by omega), z_chk (by omega) (by omega), z_chk (by omega) (by omega), nI_clamp (by omega), nI_clamp (by omega), nI_1]
      obtain ⟨τ2, a1, a2, a3, a4⟩ := ih (p + 1) (up2 τ 18 (24 * s + p) (τ 9 p)) (by omega) (by omega)
      refine ⟨τ2, a1, fun x x1 => by rw [a2 x x1, up2_c x1], fun i hi => ?_, fun i h3 h4 => ?_⟩
      · rw [a3 i (by omega), up2_i (by omega)]
      · by_cases z : i = p
        · subst z
          rw [a3 (24 * s + i) (by omega), up2_s]
        · rw [a4 i (by omega) h4, up2_c (by decide)]
theorem y_agaA {s : Nat} (hs : s < 2) : ∀ (N p : Nat) (τ : St), p ≤ 8 → 8 < N + p → ∃ τ2, f_X5_again_L26 (nI s) N τ (nI p) = some τ2 ∧ (∀ x, x ≠ 7 → x ≠ 5 → x ≠ 6 → τ2 x = τ x) ∧ (∀ i, i < p → τ2 7 i = τ 7 i ∧ τ2 5 i = τ 5 i ∧ τ2 6 i = τ 6 i) ∧ ∀ i, p ≤ i → i < 8 → τ2 7 i = τ 15 (8 * s + i) ∧ τ2 5 i = τ 16 (8 * s + i) ∧ τ2 6 i = τ 17 (8 * s + i) := by
  intro N
  induction N with
  | zero => intro p τ h1 h2; omega
  | succ N ih =>
    intro p τ h1 h2
    rw [f_X5_again_L26]
    by_cases q : 8 ≤ p
    · rw [if_pos (show (8 : Int32) ≤ nI p from nI_le q (by omega))]
      exact ⟨τ, rfl, fun _ _ _ _ => rfl, fun _ _ => ⟨rfl, rfl, rfl⟩, fun i h3 h4 => absurd h4 (by omega)⟩
    · rw [if_neg (show ¬ (8 : Int32) ≤ nI p from nI_ge (a := p) (b := 8) (by omega) (by omega)), y_8s hs (by omega), z_chk (by omega) (by omega), z_chk (by omega) (by omega), z_chk (by omega) (by omega), z_chk (by omega) (by omega), z_chk (by omega) (by omega), z_chk (by omega) (by omega), nI_clamp (by omega), nI_clamp (by omega), nI_1]
      obtain ⟨τ2, a1, a2, a3, a4⟩ := ih (p + 1) (up2 (up2 (up2 τ 7 p (τ 15 (8 * s + p))) 5 p (τ 16 (8 * s + p))) 6 p (τ 17 (8 * s + p))) (by omega) (by omega)
      refine ⟨τ2, a1, fun x x1 x2 x3 => by rw [a2 x x1 x2 x3, up2_c x3, up2_c x2, up2_c x1], fun i hi => ?_, fun i h3 h4 => ?_⟩
      · obtain ⟨d1, d2, d3⟩ := a3 i (by omega)
        rw [d1, d2, d3, up2_c (by decide), up2_c (by decide), up2_i (by omega), up2_c (by decide), up2_i (by omega), up2_c (by decide), up2_i (by omega), up2_c (by decide), up2_c (by decide)]
        exact ⟨rfl, rfl, rfl⟩
      · by_cases z : i = p
        · subst z
          obtain ⟨d1, d2, d3⟩ := a3 i (by omega)
          exact ⟨by rw [d1, up2_c (by decide), up2_c (by decide), up2_s], by rw [d2, up2_c (by decide), up2_s], by rw [d3, up2_s]⟩
        · obtain ⟨d1, d2, d3⟩ := a4 i (by omega) h4
          exact ⟨d1, d2, d3⟩
theorem y_agaB {s : Nat} (hs : s < 2) : ∀ (N p : Nat) (τ : St), p ≤ 24 → 24 < N + p → ∃ τ2, f_X5_again_L91 (nI s) N τ (nI p) = some τ2 ∧ (∀ x, x ≠ 9 → τ2 x = τ x) ∧ (∀ i, i < p → τ2 9 i = τ 9 i) ∧ ∀ i, p ≤ i → i < 24 → τ2 9 i = τ 18 (24 * s + i) := by
  intro N
  induction N with
  | zero => intro p τ h1 h2; omega
  | succ N ih =>
    intro p τ h1 h2
    rw [f_X5_again_L91]
    by_cases q : 24 ≤ p
    · rw [if_pos (show (24 : Int32) ≤ nI p from nI_le q (by omega))]
      exact ⟨τ, rfl, fun _ _ => rfl, fun _ _ => rfl, fun i h3 h4 => absurd h4 (by omega)⟩
    · rw [if_neg (show ¬ (24 : Int32) ≤ nI p from nI_ge (a := p) (b := 24) (by omega) (by omega)), y_24s hs (by omega), z_chk (by omega) (by omega), z_chk (by omega) (by omega), nI_clamp (by omega), nI_clamp (by omega), nI_1]
      obtain ⟨τ2, a1, a2, a3, a4⟩ := ih (p + 1) (up2 τ 9 p (τ 18 (24 * s + p))) (by omega) (by omega)
      refine ⟨τ2, a1, fun x x1 => by rw [a2 x x1, up2_c x1], fun i hi => ?_, fun i h3 h4 => ?_⟩
      · rw [a3 i (by omega), up2_i (by omega)]
      · by_cases z : i = p
        · subst z
          rw [a3 i (by omega), up2_s]
        · rw [a4 i (by omega) h4, up2_c (by decide)]
theorem y_slot (x : Int32) : (x = 0 ∧ f_X4_isSlot x = 1 ∧ f_X5_in x.toInt64 0 1 = 1) ∨ (x = 1 ∧ f_X4_isSlot x = 1 ∧ f_X5_in x.toInt64 0 1 = 1) ∨ (f_X4_isSlot x = 0 ∧ f_X5_in x.toInt64 0 1 = 0) := by
  unfold f_X4_isSlot
  rcases y_rng x (lo := 0) (hi := 1) (lo' := 0) (hi' := 1) rfl rfl with ⟨q1, q2, q3⟩ | ⟨q1, q3⟩
  · obtain ⟨m, hm, rfl⟩ := nI_of2 (x := x) (M := 1) (n := 1) rfl (y_nlt.mpr q1) q2
    match m, hm with
    | 0, _ => exact Or.inl ⟨rfl, rfl, q3⟩
    | 1, _ => exact Or.inr (Or.inl ⟨rfl, rfl, q3⟩)
  · have n0 : ¬ x = 0 := fun z => q1 (by subst z; decide)
    have n1 : ¬ x = 1 := fun z => q1 (by subst z; decide)
    exact Or.inr (Or.inr ⟨by rw [if_neg n0, if_neg n1], q3⟩)
theorem y_keepM (τ : St) {s : Nat} (hs : s < 2) (h : f_X5_in (nI s).toInt64 0 1 = 1) : ∃ τ2, f_X5_keep τ (nI s) = some (τ 0 14, τ2) ∧ (∀ x, x < 14 → τ2 x = τ x) ∧ τ2 14 s = 1 ∧ (∀ i, i ≠ s → τ2 14 i = τ 14 i) ∧ (∀ i, i < 8 * s ∨ 8 * s + 8 ≤ i → τ2 15 i = τ 15 i ∧ τ2 16 i = τ 16 i ∧ τ2 17 i = τ 17 i) ∧ (∀ i, i < 8 → τ2 15 (8 * s + i) = τ 7 i ∧ τ2 16 (8 * s + i) = τ 5 i ∧ τ2 17 (8 * s + i) = τ 6 i) ∧ (∀ i, i < 24 * s ∨ 24 * s + 24 ≤ i → τ2 18 i = τ 18 i) ∧ (∀ i, i < 24 → τ2 18 (24 * s + i) = τ 9 i) ∧ τ2 19 (2 * s) = τ 0 14 ∧ τ2 19 (2 * s + 1) = τ 0 9 ∧ ∀ i, i ≠ 2 * s → i ≠ 2 * s + 1 → τ2 19 i = τ 19 i := by
  have := fuel_ge
  obtain ⟨τ1, a1, a2, a3, a4⟩ := y_keepA hs fuel 0 (up2 τ 14 s 1) (by omega) (by omega)
  obtain ⟨τ2, b1, b2, b3, b4⟩ := y_keepB hs fuel 0 τ1 (by omega) (by omega)
  rw [show (nI 0 : Int32) = 0 from rfl] at a1 b1
  have lo : ∀ x, x < 14 → τ2 x = τ x := fun x hx => by rw [b2 x (by omega), a2 x (by omega) (by omega) (by omega), up2_c (by omega)]
  refine ⟨up2 (up2 τ2 19 (2 * s) (τ2 0 14)) 19 (2 * s + 1) (τ2 0 9), ?_, fun x hx => ?_, ?_, fun i hi => ?_, fun i hi => ?_, fun i hi => ?_, fun i hi => ?_, fun i hi => ?_, ?_, ?_, fun i h1 h2 => ?_⟩
  · unfold f_X5_keep
    rw [h, if_neg i10, z_chk (by omega) (by omega), nI_clamp (by omega), a1, Option.bind_some, b1, Option.bind_some, show (2 : Int32) * nI s = nI (2 * s) from pk_mul 2 s, show nI (2 * s) + 1 = nI (2 * s + 1) from nI_add _ 1, z_chk (by omega) (by omega), z_chk (by omega) (by omega), nI_clamp (by omega), nI_clamp (by omega), lo 0 (by omega)]
  · rw [up2_c (by omega), up2_c (by omega), lo x hx]
  · rw [up2_c (by decide), up2_c (by decide), b2 14 (by omega), a2 14 (by omega) (by omega) (by omega), up2_s]
  · rw [up2_c (by decide), up2_c (by decide), b2 14 (by omega), a2 14 (by omega) (by omega) (by omega), up2_i hi]
  · rw [up2_c (by decide), up2_c (by decide), up2_c (by decide), up2_c (by decide), up2_c (by decide), up2_c (by decide), b2 15 (by omega), b2 16 (by omega), b2 17 (by omega)]
    exact a3 i (by omega)
  · rw [up2_c (by decide), up2_c (by decide), up2_c (by decide), up2_c (by decide), up2_c (by decide), up2_c (by decide), b2 15 (by omega), b2 16 (by omega), b2 17 (by omega)]
    exact a4 i (by omega) hi
  · rw [up2_c (by decide), up2_c (by decide), b3 i (by omega), a2 18 (by omega) (by omega) (by omega), up2_c (by decide)]
  · rw [up2_c (by decide), up2_c (by decide), b4 i (by omega) hi, a2 9 (by omega) (by omega) (by omega), up2_c (by decide)]
  · rw [up2_i (by omega), up2_s, lo 0 (by omega)]
  · rw [up2_s, lo 0 (by omega)]
  · rw [up2_i h2, up2_i h1, b2 19 (by omega), a2 19 (by omega) (by omega) (by omega), up2_c (by decide)]
theorem sp_keep_0 {σ τ : St} (h : Inv σ τ) : ∃ (r : Int32) (σ2 : St) (τ2 : St), f_X4_keep σ 0 = some (r, σ2) ∧ f_X5_keep τ 0 = some (r, τ2) ∧ Inv σ2 τ2 := by
  obtain ⟨n, k, cr, hT, hC, hL, hK0, hK1, hP⟩ := id h
  have c1 := hC.1
  obtain ⟨τ2, t1, t2, t3, t4, t5, t6, t7, t8, t9, t10, t11⟩ := y_keepM τ (s := 0) (by omega) (by decide +kernel)
  obtain ⟨σ1, s1, s2, s3, s4, s5, s6, s7, s8⟩ := y_copy_11_7 σ
  refine ⟨σ 7 3, up2 σ1 11 5 1, τ2, ?_, ?_, n, k, cr, ?_, ?_, ?_, ?_, ?_, fun Wa hW => ?_⟩
  · unfold f_X4_keep
    rw [show f_X4_isSlot 0 = 1 from rfl, if_neg i10, if_pos rfl, s1, Option.bind_some, s2 7 (by omega)]
  · rw [show (0 : Int32) = nI 0 from rfl, t1, hL.2.2.1, hL.2.1]
  · unfold TxR at *
    rw [t2 0 (by omega), t2 8 (by omega), up2_c (by decide), up2_c (by decide), s2 1 (by omega), s2 2 (by omega)]
    exact hT
  · unfold CrR at *
    rw [t2 0 (by omega), t2 3 (by omega), t2 4 (by omega), up2_c (by decide), up2_c (by decide), up2_c (by decide), up2_c (by decide), s2 3 (by omega), s2 4 (by omega), s2 5 (by omega), s2 6 (by omega)]
    exact hC
  · rw [t2 0 (by omega), t2 5 (by omega), t2 6 (by omega), t2 7 (by omega), t2 9 (by omega)]
    refine hL.to ?_ ?_ (fun j hj => ?_) (fun j hj => ?_) (fun j hj => ?_) (fun _ _ => rfl) (fun _ _ => rfl) (fun _ _ => rfl) (fun _ _ => rfl) rfl rfl
    · rw [up2_c (by decide), s2 7 (by omega)]
    · rw [up2_c (by decide), s2 7 (by omega)]
    · rw [up2_c (by decide), s2 (7 + 1) (by omega)]
    · rw [up2_c (by decide), s2 (7 + 2) (by omega)]
    · rw [up2_c (by decide), s2 (7 + 3) (by omega)]
  · --
    refine Or.inr ⟨up2_s, t3, k, cr, hL.to ?_ ?_ (fun j hj => ?_) (fun p hp => ?_) (fun p hp => ?_) (fun p hp => ?_) (fun p hp => ?_) (fun p hp => ?_) (fun i hi => ?_) t9 t10⟩
    · rw [up2_i (by decide)]; exact s3
    · rw [up2_i (by decide)]; exact s4
    · rw [up2_c (by decide)]; exact s6 j hj
    · rw [up2_c (by decide)]; exact s7 p (by omega)
    · rw [up2_c (by decide)]; exact s8 p (by omega)
    · have q := (t6 p (by omega)).1; simpa using q
    · have q := (t6 p (by omega)).2.1; simpa using q
    · have q := (t6 p (by omega)).2.2; simpa using q
    · have q := t8 i hi; simpa using q
  · --
    have e5 : up2 σ1 11 5 1 15 5 = σ 15 5 := by rw [up2_c (by decide), s2 15 (by omega)]
    rcases hK1 with ⟨q1, q2⟩ | ⟨q1, q2, k', cr', q3⟩
    · exact Or.inl ⟨e5.trans q1, (t4 1 (by omega)).trans q2⟩
    · refine Or.inr ⟨e5.trans q1, (t4 1 (by omega)).trans q2, k', cr', q3.to ?_ ?_ (fun j hj => ?_) (fun p hp => ?_) (fun p hp => ?_) (fun p hp => ?_) (fun p hp => ?_) (fun p hp => ?_) (fun i hi => ?_) ?_ ?_⟩
      · rw [up2_c (by decide), s2 15 (by omega)]
      · rw [up2_c (by decide), s2 15 (by omega)]
      · rw [up2_c (by decide), s2 (15 + 1) (by omega)]
      · rw [up2_c (by decide), s2 (15 + 2) (by omega)]
      · rw [up2_c (by decide), s2 (15 + 3) (by omega)]
      · exact (t5 _ (by omega)).1
      · exact (t5 _ (by omega)).2.1
      · exact (t5 _ (by omega)).2.2
      · exact t7 _ (by omega)
      · exact t11 _ (by omega) (by omega)
      · exact t11 _ (by omega) (by omega)
  · refine (hP Wa hW).congr ?_ ?_ ?_ ?_ ?_ ?_ (fun x h1 h2 => ?_)
    · rw [up2_c (by decide), s2 3 (by omega)]
    · rw [up2_c (by decide), s2 4 (by omega)]
    · rw [up2_c (by decide), s2 5 (by omega)]
    · rw [up2_c (by decide), s2 6 (by omega)]
    · rw [up2_c (by decide), s2 7 (by omega)]
    · rw [up2_c (by decide), s2 9 (by omega)]
    · rw [up2_c (by omega), s2 x (by omega)]
theorem sp_keep_1 {σ τ : St} (h : Inv σ τ) : ∃ (r : Int32) (σ2 : St) (τ2 : St), f_X4_keep σ 1 = some (r, σ2) ∧ f_X5_keep τ 1 = some (r, τ2) ∧ Inv σ2 τ2 := by
  obtain ⟨n, k, cr, hT, hC, hL, hK0, hK1, hP⟩ := id h
  have c1 := hC.1
  obtain ⟨τ2, t1, t2, t3, t4, t5, t6, t7, t8, t9, t10, t11⟩ := y_keepM τ (s := 1) (by omega) (by decide +kernel)
  obtain ⟨σ1, s1, s2, s3, s4, s5, s6, s7, s8⟩ := y_copy_15_7 σ
  refine ⟨σ 7 3, up2 σ1 15 5 1, τ2, ?_, ?_, n, k, cr, ?_, ?_, ?_, ?_, ?_, fun Wa hW => ?_⟩
  · unfold f_X4_keep
    rw [show f_X4_isSlot 1 = 1 from rfl, if_neg i10, if_neg i10, s1, Option.bind_some, s2 7 (by omega)]
  · rw [show (1 : Int32) = nI 1 from rfl, t1, hL.2.2.1, hL.2.1]
  · unfold TxR at *
    rw [t2 0 (by omega), t2 8 (by omega), up2_c (by decide), up2_c (by decide), s2 1 (by omega), s2 2 (by omega)]
    exact hT
  · unfold CrR at *
    rw [t2 0 (by omega), t2 3 (by omega), t2 4 (by omega), up2_c (by decide), up2_c (by decide), up2_c (by decide), up2_c (by decide), s2 3 (by omega), s2 4 (by omega), s2 5 (by omega), s2 6 (by omega)]
    exact hC
  · rw [t2 0 (by omega), t2 5 (by omega), t2 6 (by omega), t2 7 (by omega), t2 9 (by omega)]
    refine hL.to ?_ ?_ (fun j hj => ?_) (fun j hj => ?_) (fun j hj => ?_) (fun _ _ => rfl) (fun _ _ => rfl) (fun _ _ => rfl) (fun _ _ => rfl) rfl rfl
    · rw [up2_c (by decide), s2 7 (by omega)]
    · rw [up2_c (by decide), s2 7 (by omega)]
    · rw [up2_c (by decide), s2 (7 + 1) (by omega)]
    · rw [up2_c (by decide), s2 (7 + 2) (by omega)]
    · rw [up2_c (by decide), s2 (7 + 3) (by omega)]
  · --
    have e5 : up2 σ1 15 5 1 11 5 = σ 11 5 := by rw [up2_c (by decide), s2 11 (by omega)]
    rcases hK0 with ⟨q1, q2⟩ | ⟨q1, q2, k', cr', q3⟩
    · exact Or.inl ⟨e5.trans q1, (t4 0 (by omega)).trans q2⟩
    · refine Or.inr ⟨e5.trans q1, (t4 0 (by omega)).trans q2, k', cr', q3.to ?_ ?_ (fun j hj => ?_) (fun p hp => ?_) (fun p hp => ?_) (fun p hp => ?_) (fun p hp => ?_) (fun p hp => ?_) (fun i hi => ?_) ?_ ?_⟩
      · rw [up2_c (by decide), s2 11 (by omega)]
      · rw [up2_c (by decide), s2 11 (by omega)]
      · rw [up2_c (by decide), s2 (11 + 1) (by omega)]
      · rw [up2_c (by decide), s2 (11 + 2) (by omega)]
      · rw [up2_c (by decide), s2 (11 + 3) (by omega)]
      · exact (t5 _ (by omega)).1
      · exact (t5 _ (by omega)).2.1
      · exact (t5 _ (by omega)).2.2
      · exact t7 _ (by omega)
      · exact t11 _ (by omega) (by omega)
      · exact t11 _ (by omega) (by omega)
  · --
    refine Or.inr ⟨up2_s, t3, k, cr, hL.to ?_ ?_ (fun j hj => ?_) (fun p hp => ?_) (fun p hp => ?_) (fun p hp => ?_) (fun p hp => ?_) (fun p hp => ?_) (fun i hi => ?_) t9 t10⟩
    · rw [up2_i (by decide)]; exact s3
    · rw [up2_i (by decide)]; exact s4
    · rw [up2_c (by decide)]; exact s6 j hj
    · rw [up2_c (by decide)]; exact s7 p (by omega)
    · rw [up2_c (by decide)]; exact s8 p (by omega)
    · have q := (t6 p (by omega)).1; simpa using q
    · have q := (t6 p (by omega)).2.1; simpa using q
    · have q := (t6 p (by omega)).2.2; simpa using q
    · have q := t8 i hi; simpa using q
  · refine (hP Wa hW).congr ?_ ?_ ?_ ?_ ?_ ?_ (fun x h1 h2 => ?_)
    · rw [up2_c (by decide), s2 3 (by omega)]
    · rw [up2_c (by decide), s2 4 (by omega)]
    · rw [up2_c (by decide), s2 5 (by omega)]
    · rw [up2_c (by decide), s2 6 (by omega)]
    · rw [up2_c (by decide), s2 7 (by omega)]
    · rw [up2_c (by decide), s2 9 (by omega)]
    · rw [up2_c (by omega), s2 x (by omega)]
theorem sp_keep {σ τ : St} (h : Inv σ τ) (x1 : Int32) : ∃ (r : Int32) (σ2 : St) (τ2 : St), f_X4_keep σ x1 = some (r, σ2) ∧ f_X5_keep τ x1 = some (r, τ2) ∧ Inv σ2 τ2 := by
  rcases y_slot x1 with ⟨rfl, -⟩ | ⟨rfl, -⟩ | ⟨q1, q2⟩
  · exact sp_keep_0 h
  · exact sp_keep_1 h
  · refine ⟨-1, σ, τ, ?_, ?_, h⟩
    · unfold f_X4_keep; rw [q1, if_pos rfl]
    · unfold f_X5_keep; rw [q2, if_pos rfl]
theorem sp_again_0 {σ τ : St} (h : Inv σ τ) : ∃ (r : Int32) (σ2 : St) (τ2 : St), f_X4_again σ 0 = some (r, σ2) ∧ f_X5_again τ 0 = some (r, τ2) ∧ Inv σ2 τ2 := by
  obtain ⟨n, k, cr, hT, hC, hL, hK0, hK1, hP⟩ := id h
  have c1 := hC.1
  have hf : f_X5_in (0 : Int32).toInt64 0 1 = 1 := by decide +kernel
  unfold f_X4_again f_X5_again
  rw [show f_X4_isSlot 0 = 1 from rfl, if_neg i10, if_pos rfl, hf, if_neg i10, chk_in (i := 0) (n := 2) (by unfold vp_in; decide), show (0 : Int32).toNatClampNeg = 0 from by decide]
  rcases id hK0 with ⟨q1, q2⟩ | ⟨q1, q2, k', cr', q3⟩
  · rw [q1, q2, if_pos rfl, if_pos rfl]
    exact ⟨_, _, _, rfl, rfl, h⟩
  · rw [q1, q2, if_neg i10, if_neg i10]
    have := fuel_ge
    obtain ⟨σ1, s1, s2, s3, s4, s5, s6, s7, s8⟩ := y_copy_7_11 σ
    obtain ⟨τ1, a1, a2, a3, a4⟩ := y_agaA (s := 0) (by omega) fuel 0 τ (by omega) (by omega)
    obtain ⟨τ2, b1, b2, b3, b4⟩ := y_agaB (s := 0) (by omega) fuel 0 τ1 (by omega) (by omega)
    rw [show (nI 0 : Int32) = 0 from rfl] at a1 b1
    try rw [show (nI 0 : Int32) = 0 from rfl] at a1 b1
    have hi : ∀ x, 14 ≤ x → τ2 x = τ x := fun x hx => by rw [b2 x (by omega), a2 x (by omega) (by omega) (by omega)]
    have hz : ∀ x, x < 5 ∨ x = 8 → τ2 x = τ x := fun x hx => by rw [b2 x (by omega), a2 x (by omega) (by omega) (by omega)]
    rw [s1, Option.bind_some, a1, Option.bind_some, b1, Option.bind_some, show (2 : Int32) * 0 = 0 from by decide, chk_in (i := 0) (n := 4) (by unfold vp_in; decide), show (0 : Int32) + 1 = 1 from by decide, chk_in (i := 1) (n := 4) (by unfold vp_in; decide), show (0 : Int32).toNatClampNeg = 0 from by decide, show (1 : Int32).toNatClampNeg = 1 from by decide, hi 19 (by omega)]
    refine ⟨_, _, up2 (up2 τ2 0 14 (τ 19 0)) 0 9 (τ 19 1), rfl, ?_, n, k', cr', ?_, ?_, ?_, ?_, ?_, fun Wa hW => PlR.forget (σ := σ1) (Wa := Wa) ?_ Wa⟩
    · rw [show f_X2_forget σ1 7 3 = σ1 7 3 from rfl, s3, q3.2.1, q3.2.2.1]
    · show TxR σ1 (up2 (up2 τ2 0 14 (τ 19 0)) 0 9 (τ 19 1))
      unfold TxR at *
      rw [up2_i (by decide), up2_i (by decide), up2_c (by decide), up2_c (by decide), hz 0 (by omega), hz 8 (by omega), s2 1 (by omega), s2 2 (by omega)]
      exact hT
    · show CrR n σ1 (up2 (up2 τ2 0 14 (τ 19 0)) 0 9 (τ 19 1))
      unfold CrR at *
      rw [up2_i (by decide), up2_i (by decide), up2_c (by decide), up2_c (by decide), up2_c (by decide), up2_c (by decide), hz 0 (by omega), hz 3 (by omega), hz 4 (by omega), s2 3 (by omega), s2 4 (by omega), s2 5 (by omega), s2 6 (by omega)]
      exact hC
    · refine LgR.to (σ' := f_X2_forget σ1) (b' := 7) q3 s3 s4 (fun j hj => s6 j hj) (fun p hp => s7 p (by omega)) (fun p hp => s8 p (by omega)) (fun p hp => ?_) (fun p hp => ?_) (fun p hp => ?_) (fun i hi => ?_) ?_ ?_
      · show τ2 7 p = _; rw [b2 7 (by omega), (a4 p (by omega) (by omega)).1]; simp
      · show τ2 5 p = _; rw [b2 5 (by omega), (a4 p (by omega) (by omega)).2.1]; simp
      · show τ2 6 p = _; rw [b2 6 (by omega), (a4 p (by omega) (by omega)).2.2]; simp
      · show τ2 9 i = _; rw [b4 i (by omega) hi, a2 18 (by omega) (by omega) (by omega)]; simp
      · rfl
      · rfl
    · have e5 : f_X2_forget σ1 11 5 = σ 11 5 := by show σ1 11 5 = _; rw [s2 11 (by omega)]
      show KpR n (f_X2_forget σ1) 11 (τ2 14 0) (τ2 15) (τ2 16) (τ2 17) (τ2 18) (τ2 19 0) (τ2 19 1)
      rw [hi 14 (by omega), hi 19 (by omega)]
      rcases hK0 with ⟨q1, q2⟩ | ⟨q1, q2, k', cr', q3⟩
      · exact Or.inl ⟨e5.trans q1, q2⟩
      · refine Or.inr ⟨e5.trans q1, q2, k', cr', q3.to ?_ ?_ (fun j hj => ?_) (fun p hp => ?_) (fun p hp => ?_) (fun p hp => ?_) (fun p hp => ?_) (fun p hp => ?_) (fun i hi2 => ?_) rfl rfl⟩
        · show σ1 11 3 = _; rw [s2 11 (by omega)]
        · show σ1 11 4 = _; rw [s2 11 (by omega)]
        · show σ1 (11 + 1) j = _; rw [s2 (11 + 1) (by omega)]
        · show σ1 (11 + 2) p = _; rw [s2 (11 + 2) (by omega)]
        · show σ1 (11 + 3) p = _; rw [s2 (11 + 3) (by omega)]
        · show τ2 15 _ = _; rw [hi 15 (by omega)]
        · show τ2 16 _ = _; rw [hi 16 (by omega)]
        · show τ2 17 _ = _; rw [hi 17 (by omega)]
        · show τ2 18 _ = _; rw [hi 18 (by omega)]
    · have e5 : f_X2_forget σ1 15 5 = σ 15 5 := by show σ1 15 5 = _; rw [s2 15 (by omega)]
      show KpR n (f_X2_forget σ1) 15 (τ2 14 1) (fun p => τ2 15 (8 + p)) (fun p => τ2 16 (8 + p)) (fun p => τ2 17 (8 + p)) (fun p => τ2 18 (24 + p)) (τ2 19 2) (τ2 19 3)
      rw [hi 14 (by omega), hi 19 (by omega)]
      rcases hK1 with ⟨q1, q2⟩ | ⟨q1, q2, k', cr', q3⟩
      · exact Or.inl ⟨e5.trans q1, q2⟩
      · refine Or.inr ⟨e5.trans q1, q2, k', cr', q3.to ?_ ?_ (fun j hj => ?_) (fun p hp => ?_) (fun p hp => ?_) (fun p hp => ?_) (fun p hp => ?_) (fun p hp => ?_) (fun i hi2 => ?_) rfl rfl⟩
        · show σ1 15 3 = _; rw [s2 15 (by omega)]
        · show σ1 15 4 = _; rw [s2 15 (by omega)]
        · show σ1 (15 + 1) j = _; rw [s2 (15 + 1) (by omega)]
        · show σ1 (15 + 2) p = _; rw [s2 (15 + 2) (by omega)]
        · show σ1 (15 + 3) p = _; rw [s2 (15 + 3) (by omega)]
        · show τ2 15 _ = _; rw [hi 15 (by omega)]
        · show τ2 16 _ = _; rw [hi 16 (by omega)]
        · show τ2 17 _ = _; rw [hi 17 (by omega)]
        · show τ2 18 _ = _; rw [hi 18 (by omega)]
    · have hp := hP _ (waN_is (n := n) (k := k) (cr := cr) c1)
      rw [s2 20 (by omega), s2 21 (by omega), s2 22 (by omega)]
      exact ⟨hp.1, hp.2.1, hp.2.2.1⟩
theorem sp_again_1 {σ τ : St} (h : Inv σ τ) : ∃ (r : Int32) (σ2 : St) (τ2 : St), f_X4_again σ 1 = some (r, σ2) ∧ f_X5_again τ 1 = some (r, τ2) ∧ Inv σ2 τ2 := by
  obtain ⟨n, k, cr, hT, hC, hL, hK0, hK1, hP⟩ := id h
  have c1 := hC.1
  have hf : f_X5_in (1 : Int32).toInt64 0 1 = 1 := by decide +kernel
  unfold f_X4_again f_X5_again
  rw [show f_X4_isSlot 1 = 1 from rfl, if_neg i10, if_neg i10, hf, if_neg i10, chk_in (i := 1) (n := 2) (by unfold vp_in; decide), show (1 : Int32).toNatClampNeg = 1 from by decide]
  rcases id hK1 with ⟨q1, q2⟩ | ⟨q1, q2, k', cr', q3⟩
  · rw [q1, q2, if_pos rfl, if_pos rfl]
    exact ⟨_, _, _, rfl, rfl, h⟩
  · rw [q1, q2, if_neg i10, if_neg i10]
    have := fuel_ge
    obtain ⟨σ1, s1, s2, s3, s4, s5, s6, s7, s8⟩ := y_copy_7_15 σ
    obtain ⟨τ1, a1, a2, a3, a4⟩ := y_agaA (s := 1) (by omega) fuel 0 τ (by omega) (by omega)
    obtain ⟨τ2, b1, b2, b3, b4⟩ := y_agaB (s := 1) (by omega) fuel 0 τ1 (by omega) (by omega)
    rw [show (nI 0 : Int32) = 0 from rfl] at a1 b1
    try rw [show (nI 1 : Int32) = 1 from rfl] at a1 b1
    have hi : ∀ x, 14 ≤ x → τ2 x = τ x := fun x hx => by rw [b2 x (by omega), a2 x (by omega) (by omega) (by omega)]
    have hz : ∀ x, x < 5 ∨ x = 8 → τ2 x = τ x := fun x hx => by rw [b2 x (by omega), a2 x (by omega) (by omega) (by omega)]
    rw [s1, Option.bind_some, a1, Option.bind_some, b1, Option.bind_some, show (2 : Int32) * 1 = 2 from by decide, chk_in (i := 2) (n := 4) (by unfold vp_in; decide), show (2 : Int32) + 1 = 3 from by decide, chk_in (i := 3) (n := 4) (by unfold vp_in; decide), show (2 : Int32).toNatClampNeg = 2 from by decide, show (3 : Int32).toNatClampNeg = 3 from by decide, hi 19 (by omega)]
    refine ⟨_, _, up2 (up2 τ2 0 14 (τ 19 2)) 0 9 (τ 19 3), rfl, ?_, n, k', cr', ?_, ?_, ?_, ?_, ?_, fun Wa hW => PlR.forget (σ := σ1) (Wa := Wa) ?_ Wa⟩
    · rw [show f_X2_forget σ1 7 3 = σ1 7 3 from rfl, s3, q3.2.1, q3.2.2.1]
    · show TxR σ1 (up2 (up2 τ2 0 14 (τ 19 2)) 0 9 (τ 19 3))
      unfold TxR at *
      rw [up2_i (by decide), up2_i (by decide), up2_c (by decide), up2_c (by decide), hz 0 (by omega), hz 8 (by omega), s2 1 (by omega), s2 2 (by omega)]
      exact hT
    · show CrR n σ1 (up2 (up2 τ2 0 14 (τ 19 2)) 0 9 (τ 19 3))
      unfold CrR at *
      rw [up2_i (by decide), up2_i (by decide), up2_c (by decide), up2_c (by decide), up2_c (by decide), up2_c (by decide), hz 0 (by omega), hz 3 (by omega), hz 4 (by omega), s2 3 (by omega), s2 4 (by omega), s2 5 (by omega), s2 6 (by omega)]
      exact hC
    · refine LgR.to (σ' := f_X2_forget σ1) (b' := 7) q3 s3 s4 (fun j hj => s6 j hj) (fun p hp => s7 p (by omega)) (fun p hp => s8 p (by omega)) (fun p hp => ?_) (fun p hp => ?_) (fun p hp => ?_) (fun i hi => ?_) ?_ ?_
      · show τ2 7 p = _; rw [b2 7 (by omega), (a4 p (by omega) (by omega)).1]
      · show τ2 5 p = _; rw [b2 5 (by omega), (a4 p (by omega) (by omega)).2.1]
      · show τ2 6 p = _; rw [b2 6 (by omega), (a4 p (by omega) (by omega)).2.2]
      · show τ2 9 i = _; rw [b4 i (by omega) hi, a2 18 (by omega) (by omega) (by omega)]
      · rfl
      · rfl
    · have e5 : f_X2_forget σ1 11 5 = σ 11 5 := by show σ1 11 5 = _; rw [s2 11 (by omega)]
      show KpR n (f_X2_forget σ1) 11 (τ2 14 0) (τ2 15) (τ2 16) (τ2 17) (τ2 18) (τ2 19 0) (τ2 19 1)
      rw [hi 14 (by omega), hi 19 (by omega)]
      rcases hK0 with ⟨q1, q2⟩ | ⟨q1, q2, k', cr', q3⟩
      · exact Or.inl ⟨e5.trans q1, q2⟩
      · refine Or.inr ⟨e5.trans q1, q2, k', cr', q3.to ?_ ?_ (fun j hj => ?_) (fun p hp => ?_) (fun p hp => ?_) (fun p hp => ?_) (fun p hp => ?_) (fun p hp => ?_) (fun i hi2 => ?_) rfl rfl⟩
        · show σ1 11 3 = _; rw [s2 11 (by omega)]
        · show σ1 11 4 = _; rw [s2 11 (by omega)]
        · show σ1 (11 + 1) j = _; rw [s2 (11 + 1) (by omega)]
        · show σ1 (11 + 2) p = _; rw [s2 (11 + 2) (by omega)]
        · show σ1 (11 + 3) p = _; rw [s2 (11 + 3) (by omega)]
        · show τ2 15 _ = _; rw [hi 15 (by omega)]
        · show τ2 16 _ = _; rw [hi 16 (by omega)]
        · show τ2 17 _ = _; rw [hi 17 (by omega)]
        · show τ2 18 _ = _; rw [hi 18 (by omega)]
    · have e5 : f_X2_forget σ1 15 5 = σ 15 5 := by show σ1 15 5 = _; rw [s2 15 (by omega)]
      show KpR n (f_X2_forget σ1) 15 (τ2 14 1) (fun p => τ2 15 (8 + p)) (fun p => τ2 16 (8 + p)) (fun p => τ2 17 (8 + p)) (fun p => τ2 18 (24 + p)) (τ2 19 2) (τ2 19 3)
      rw [hi 14 (by omega), hi 19 (by omega)]
      rcases hK1 with ⟨q1, q2⟩ | ⟨q1, q2, k', cr', q3⟩
      · exact Or.inl ⟨e5.trans q1, q2⟩
      · refine Or.inr ⟨e5.trans q1, q2, k', cr', q3.to ?_ ?_ (fun j hj => ?_) (fun p hp => ?_) (fun p hp => ?_) (fun p hp => ?_) (fun p hp => ?_) (fun p hp => ?_) (fun i hi2 => ?_) rfl rfl⟩
        · show σ1 15 3 = _; rw [s2 15 (by omega)]
        · show σ1 15 4 = _; rw [s2 15 (by omega)]
        · show σ1 (15 + 1) j = _; rw [s2 (15 + 1) (by omega)]
        · show σ1 (15 + 2) p = _; rw [s2 (15 + 2) (by omega)]
        · show σ1 (15 + 3) p = _; rw [s2 (15 + 3) (by omega)]
        · show τ2 15 _ = _; rw [hi 15 (by omega)]
        · show τ2 16 _ = _; rw [hi 16 (by omega)]
        · show τ2 17 _ = _; rw [hi 17 (by omega)]
        · show τ2 18 _ = _; rw [hi 18 (by omega)]
    · have hp := hP _ (waN_is (n := n) (k := k) (cr := cr) c1)
      rw [s2 20 (by omega), s2 21 (by omega), s2 22 (by omega)]
      exact ⟨hp.1, hp.2.1, hp.2.2.1⟩
theorem sp_again {σ τ : St} (h : Inv σ τ) (x1 : Int32) : ∃ (r : Int32) (σ2 : St) (τ2 : St), f_X4_again σ x1 = some (r, σ2) ∧ f_X5_again τ x1 = some (r, τ2) ∧ Inv σ2 τ2 := by
  rcases y_slot x1 with ⟨rfl, -⟩ | ⟨rfl, -⟩ | ⟨q1, q2⟩
  · exact sp_again_0 h
  · exact sp_again_1 h
  · refine ⟨-1, σ, τ, ?_, ?_, h⟩
    · unfold f_X4_again; rw [q1, if_pos rfl]
    · unfold f_X5_again; rw [q2, if_pos rfl]
