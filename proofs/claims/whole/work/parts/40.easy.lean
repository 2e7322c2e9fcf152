/-! pure: the calls that ask for a number or set one -/
theorem y_in (x : Int32) (lo hi : Int64) : f_X5_in x.toInt64 lo hi = if lo.toInt ≤ x.toInt ∧ x.toInt ≤ hi.toInt then 1 else 0 := by
  unfold f_X5_in
  simp only [lg_cmp_lt, lg_cmp_gt, Int64.lt_iff_toInt_lt, Int32.toInt_toInt64]
  split
  · rw [if_neg]; omega
  · split
    · rw [if_neg]; omega
    · rw [if_pos]; omega
theorem y_01 {c : Prop} [Decidable c] : (if c then (1 : Int32) else 0) = 0 ∨ (if c then (1 : Int32) else 0) = 1 := by split <;> simp
theorem y_0 {c : Prop} [Decidable c] : ((if c then (1 : Int32) else 0) = 0) = ¬ c := by split <;> simp [*]
/-- a PERSON, or none -/
theorem y_pers {σ : St} {n : Nat} (hn : σ 3 5 = nI n) (h8 : n ≤ 8) (x : Int32) : (∃ p, p < n ∧ x = nI p ∧ f_X0_hasPerson σ x = 1) ∨ ((x < 0 ∨ nI n ≤ x) ∧ f_X0_hasPerson σ x = 0) := by
  unfold f_X0_hasPerson
  rw [hn]
  rcases pk_ix x (n := n) (by omega) with h | h | ⟨j, hj, rfl⟩
  · exact Or.inr ⟨Or.inl h, if_pos h⟩
  · exact Or.inr ⟨Or.inr h, by rw [if_pos h]; split <;> rfl⟩
  · refine Or.inl ⟨j, hj, rfl, ?_⟩
    rw [if_neg (nI_pos (by omega)), if_neg (nI_ge hj (by omega))]
theorem y_isP {τ : St} {n : Nat} (hn : τ 0 5 = nI n) (h8 : n ≤ 8) (x : Int32) : ((∃ p, p < n ∧ x = nI p) → f_X5_isPerson τ x = some 1) ∧ ((x < 0 ∨ nI n ≤ x) → f_X5_isPerson τ x = some 0) := by
  unfold f_X5_isPerson
  have e : ((nI n) - 1).toInt = (n : Int) - 1 := pk_sub_toInt (a := n) (b := 1) (by omega) (by omega)
  rw [chb_in (by rw [y_in]; exact y_01), y_in, hn, Int32.toInt_toInt64, e]
  refine ⟨?_, fun h => ?_⟩
  · rintro ⟨p, hp, rfl⟩
    rw [nI_toInt (by omega), if_pos]
    refine ⟨by show (0 : Int) ≤ _; omega, by omega⟩
  · rw [if_neg]
    rintro ⟨h1, h2⟩
    have h1 : (0 : Int) ≤ x.toInt := h1
    rcases h with h | h
    · rw [Int32.lt_iff_toInt_lt] at h
      have h : x.toInt < 0 := h
      omega
    · rw [Int32.le_iff_toInt_le, nI_toInt (by omega)] at h
      omega
theorem y_end {σ : St} {en : Nat} (hn : σ 3 0 = nI en) (h8 : en ≤ 3) (x : Int32) : (∃ p, p < en ∧ x = nI p ∧ f_X0_hasEnd σ x = 1) ∨ ((x < 0 ∨ nI en ≤ x) ∧ f_X0_hasEnd σ x = 0) := by
  unfold f_X0_hasEnd
  rw [hn]
  rcases pk_ix x (n := en) (by omega) with h | h | ⟨j, hj, rfl⟩
  · exact Or.inr ⟨Or.inl h, if_pos h⟩
  · exact Or.inr ⟨Or.inr h, by rw [if_pos h]; split <;> rfl⟩
  · refine Or.inl ⟨j, hj, rfl, ?_⟩
    rw [if_neg (nI_pos (by omega)), if_neg (nI_ge hj (by omega))]
theorem y_isE {τ : St} {n : Nat} (hn : τ 3 0 = nI n) (h8 : n ≤ 3) (x : Int32) : ((∃ p, p < n ∧ x = nI p) → f_X5_isEnd τ x = some 1) ∧ ((x < 0 ∨ nI n ≤ x) → f_X5_isEnd τ x = some 0) := by
  unfold f_X5_isEnd
  have e : ((nI n) - 1).toInt = (n : Int) - 1 := pk_sub_toInt (a := n) (b := 1) (by omega) (by omega)
  rw [chb_in (by rw [y_in]; exact y_01), y_in, hn, Int32.toInt_toInt64, e]
  refine ⟨?_, fun h => ?_⟩
  · rintro ⟨p, hp, rfl⟩
    rw [nI_toInt (by omega), if_pos]
    refine ⟨by show (0 : Int) ≤ _; omega, by omega⟩
  · rw [if_neg]
    rintro ⟨h1, h2⟩
    have h1 : (0 : Int) ≤ x.toInt := h1
    rcases h with h | h
    · rw [Int32.lt_iff_toInt_lt] at h
      have h : x.toInt < 0 := h
      omega
    · rw [Int32.le_iff_toInt_le, nI_toInt (by omega)] at h
      omega
/-- a number in a range, as the class and as the reference look -/
theorem y_rng (x : Int32) {lo hi : Int32} {lo' hi' : Int64} (h1 : lo'.toInt = lo.toInt) (h2 : hi'.toInt = hi.toInt) : (lo ≤ x ∧ x ≤ hi ∧ f_X5_in x.toInt64 lo' hi' = 1) ∨ (¬ (lo ≤ x ∧ x ≤ hi) ∧ f_X5_in x.toInt64 lo' hi' = 0) := by
  rw [y_in, h1, h2, Int32.le_iff_toInt_le, Int32.le_iff_toInt_le]
  by_cases q : lo.toInt ≤ x.toInt ∧ x.toInt ≤ hi.toInt
  · exact Or.inl ⟨q.1, q.2, if_pos q⟩
  · exact Or.inr ⟨q, if_neg q⟩
theorem y_nlt {a b : Int32} : (¬ a < b) ↔ b ≤ a := by rw [Int32.lt_iff_toInt_lt, Int32.le_iff_toInt_le]; omega
theorem y_nle {a b : Int32} : (¬ a ≤ b) ↔ b < a := by rw [Int32.lt_iff_toInt_lt, Int32.le_iff_toInt_le]; omega
theorem sp_wipe {σ τ : St} (h : Inv σ τ) : ∃ (r : Int32) (σ2 : St) (τ2 : St), f_X4_wipe σ = (r, σ2) ∧ f_X5_wipe τ = (r, τ2) ∧ Inv σ2 τ2 := by
  obtain ⟨n, k, cr, ⟨len, h1, h2, h3, h4⟩, hC, hL, hK0, hK1, hP⟩ := h
  refine ⟨σ 1 1, up2 σ 1 1 0, up2 τ 0 11 0, rfl, by unfold f_X5_wipe; rw [h2, h3], n, k, cr, ⟨0, by omega, rfl, rfl, fun i hi => absurd hi (by omega)⟩, hC, hL, hK0, hK1, hP⟩
theorem sp_minutes {σ τ : St} (h : Inv σ τ) (x1 : Int32) : ∃ (r : Int32) (σ2 : St) (τ2 : St), f_X4_minutes σ x1 = (r, σ2) ∧ f_X5_minutes τ x1 = (r, τ2) ∧ Inv σ2 τ2 := by
  obtain ⟨n, k, cr, hT, hC, ⟨l1, l2, l3, l4, l5, l6, l7, l8, l9, l10, l11⟩, hK0, hK1, hP⟩ := id h
  unfold f_X4_minutes f_X5_minutes f_X4_isMinute
  rcases y_rng x1 (lo := 0) (hi := 9) (lo' := 0) (hi' := 9) rfl rfl with ⟨q1, q2, q3⟩ | ⟨q1, q3⟩
  · have e1 : (if x1 < 0 then (0 : Int32) else if 9 < x1 then 0 else 1) = 1 := by rw [if_neg (y_nlt.mpr q1), if_neg (y_nlt.mpr q2)]
    obtain ⟨m, hm, rfl⟩ := nI_of2 (x := x1) (M := 9) (n := 9) rfl (y_nlt.mpr q1) q2
    refine ⟨σ 7 4, f_X2_forget (up2 σ 7 4 (nI m)), up2 τ 0 9 (nI m), by rw [e1, if_neg (by decide)], by rw [q3, if_neg (by decide), l5], n, k, cr, hT, hC, ⟨l1, l2, l3, ⟨m, by omega, hm, rfl⟩, rfl, l6, l7, l8, l9, l10, l11⟩, hK0, hK1, fun Wa hW => PlR.forget (Wa := Wa) ?_ Wa⟩
    exact ⟨(hP Wa hW).1, (hP Wa hW).2.1, (hP Wa hW).2.2.1⟩
  · have e1 : (if x1 < 0 then (0 : Int32) else if 9 < x1 then 0 else 1) = 0 := by
      by_cases q : x1 < 0
      · rw [if_pos q]
      · rw [if_neg q, if_pos]
        exact y_nle.mp (fun z => q1 ⟨y_nlt.mp q, z⟩)
    exact ⟨-2, σ, τ, by rw [e1, if_pos rfl], by rw [q3, if_pos rfl], h⟩
theorem sp_boat {σ τ : St} (h : Inv σ τ) (x1 : Int32) : ∃ (r : Int32), f_X4_boat σ x1 = r ∧ f_X5_boat τ x1 = some r ∧ Inv σ τ := by
  obtain ⟨n, k, cr, hT, ⟨c1, c2, c3, c4, c5, c6, c7, c8, c9, c10⟩, ⟨l1, l2, l3, l4, l5, l6⟩, hK0, hK1, hP⟩ := id h
  refine ⟨_, rfl, ?_, h⟩
  unfold f_X5_boat f_X4_boat
  rcases y_rng x1 (lo := 0) (hi := 4) (lo' := 0) (hi' := 4) rfl rfl with ⟨q1, q2, q3⟩ | ⟨q1, q3⟩
  · obtain ⟨m, hm, rfl⟩ := nI_of2 (x := x1) (M := 4) (n := 4) rfl (y_nlt.mpr q1) q2
    rw [q3, if_neg (by decide), z_chk (by omega) (by omega), nI_clamp (by omega), c9 m (by omega)]
    match m, hm with
    | 0, _ => rfl
    | 1, _ => rfl
    | 2, _ => rfl
    | 3, _ => rfl
    | 4, _ => rfl
  · rw [q3, if_pos rfl]
    have n0 : ¬ x1 = 0 := fun z => q1 (by subst z; decide)
    have n1 : ¬ x1 = 1 := fun z => q1 (by subst z; decide)
    have n2 : ¬ x1 = 2 := fun z => q1 (by subst z; decide)
    have n3 : ¬ x1 = 3 := fun z => q1 (by subst z; decide)
    have n4 : ¬ x1 = 4 := fun z => q1 (by subst z; decide)
    rw [if_neg n0, if_neg n1, if_neg n2, if_neg n3, if_neg n4, l5]
    split <;> rfl
