/-! pure: gain, claim, person, left -/
theorem i10 : ¬ ((1 : Int32) = 0) := by decide
theorem sp_gain {σ τ : St} (h : Inv σ τ) (x1 : Int32) (x2 : Int32) : ∃ (r : Int32) (σ2 : St) (τ2 : St), f_X4_gain σ x1 x2 = some (r, σ2) ∧ f_X5_gain τ x1 x2 = some (r, τ2) ∧ Inv σ2 τ2 := by
  obtain ⟨n, k, cr, hT, hC, ⟨l1, l2, l3, l4, l5, l6, l7, l8, l9, l10, l11⟩, hK0, hK1, hP⟩ := id h
  obtain ⟨c1, c2, c3, -⟩ := id hC
  unfold f_X4_gain f_X5_gain
  rcases y_pers c2 c1 x1 with ⟨p, hp, rfl, e1⟩ | ⟨q, e1⟩
  · rw [e1, (y_isP c3 c1 (nI p)).1 ⟨p, hp, rfl⟩, Option.bind_some, if_neg i10, if_neg i10]
    rcases y_rng x2 (lo := -3) (hi := 3) (lo' := -3) (hi' := 3) rfl rfl with ⟨q1, q2, q3⟩ | ⟨q1, q3⟩
    · refine ⟨σ 9 p + 10, f_X2_forget (up2 σ 9 p x2), up2 τ 5 p x2, ?_, ?_, n, k, cr, hT, hC, ⟨l1, l2, l3, l4, l5, l6, l7, fun p' hp' => ?_, l9, l10, l11⟩, hK0, hK1, fun Wa hW => PlR.forget (σ := up2 σ 9 p x2) (Wa := Wa) ⟨(hP Wa hW).1, (hP Wa hW).2.1, (hP Wa hW).2.2.1⟩ Wa⟩
      · rw [if_neg (y_nlt.mpr q1), if_pos q2, z_chk (by omega) (by omega), z_chk (by omega) (by omega), nI_clamp (by omega)]
      · rw [q3, if_neg i10, z_chk (by omega) (by omega), z_chk (by omega) (by omega), nI_clamp (by omega), (l8 p hp).1]
      · show up2 τ 5 p x2 5 p' = up2 σ 9 p x2 9 p' ∧ -3 ≤ (up2 σ 9 p x2 9 p').toInt ∧ (up2 σ 9 p x2 9 p').toInt ≤ 3
        by_cases z : p' = p
        · subst z
          rw [up2_s, up2_s]
          rw [Int32.le_iff_toInt_le] at q1 q2
          exact ⟨rfl, q1, q2⟩
        · rw [up2_i z, up2_i z]
          exact l8 p' hp'
    · refine ⟨-2, σ, τ, ?_, by rw [q3, if_pos rfl], h⟩
      by_cases z : x2 < -3
      · rw [if_pos z]
      · rw [if_neg z, if_neg (fun w => q1 ⟨y_nlt.mp z, w⟩)]
  · exact ⟨-1, σ, τ, by rw [e1, if_pos rfl], by rw [(y_isP c3 c1 x1).2 q, Option.bind_some, if_pos rfl], h⟩
theorem sp_claim {σ τ : St} (h : Inv σ τ) (x1 : Int32) (x2 : Int32) : ∃ (r : Int32) (σ2 : St) (τ2 : St), f_X4_claim σ x1 x2 = some (r, σ2) ∧ f_X5_claim τ x1 x2 = some (r, τ2) ∧ Inv σ2 τ2 := by
  obtain ⟨n, k, cr, hT, hC, ⟨l1, l2, l3, l4, l5, l6, l7, l8, l9, l10, l11⟩, hK0, hK1, hP⟩ := id h
  obtain ⟨c1, c2, c3, -⟩ := id hC
  unfold f_X4_claim f_X5_claim
  rcases y_pers c2 c1 x1 with ⟨p, hp, rfl, e1⟩ | ⟨q, e1⟩
  · rw [e1, (y_isP c3 c1 (nI p)).1 ⟨p, hp, rfl⟩, Option.bind_some, if_neg i10, if_neg i10]
    rcases y_rng x2 (lo := 1) (hi := 99) (lo' := 1) (hi' := 99) rfl rfl with ⟨q1, q2, q3⟩ | ⟨q1, q3⟩
    · refine ⟨σ 10 p, up2 σ 10 p x2, up2 τ 6 p x2, ?_, ?_, n, k, cr, hT, hC, ⟨l1, l2, l3, l4, l5, l6, l7, l8, fun p' hp' => ?_, l10, l11⟩, hK0, hK1, fun Wa hW => (hP Wa hW).congr rfl rfl rfl rfl rfl rfl (fun x h1 h2 => up2_c (by omega))⟩
      · rw [if_neg (y_nlt.mpr q1), if_pos q2, z_chk (by omega) (by omega), z_chk (by omega) (by omega), nI_clamp (by omega)]
      · rw [q3, if_neg i10, z_chk (by omega) (by omega), z_chk (by omega) (by omega), nI_clamp (by omega), (l9 p hp).1]
      · show up2 τ 6 p x2 6 p' = up2 σ 10 p x2 10 p' ∧ In (up2 σ 10 p x2 10 p') 1 99
        by_cases z : p' = p
        · subst z
          rw [up2_s, up2_s]
          have q0 : ¬ x2 < 0 := by rw [Int32.lt_iff_toInt_lt]; rw [Int32.le_iff_toInt_le] at q1; have : (1 : Int) ≤ x2.toInt := q1; show ¬ x2.toInt < 0; omega
          obtain ⟨m, hm, rfl⟩ := nI_of2 (x := x2) (M := 99) (n := 99) rfl q0 q2
          refine ⟨rfl, m, ?_, hm, rfl⟩
          rw [Int32.le_iff_toInt_le, nI_toInt (by omega)] at q1
          have : (1 : Int) ≤ m := q1
          omega
        · rw [up2_i z, up2_i z]
          exact l9 p' hp'
    · refine ⟨-2, σ, τ, ?_, by rw [q3, if_pos rfl], h⟩
      by_cases z : x2 < 1
      · rw [if_pos z]
      · rw [if_neg z, if_neg (fun w => q1 ⟨y_nlt.mp z, w⟩)]
  · exact ⟨-1, σ, τ, by rw [e1, if_pos rfl], by rw [(y_isP c3 c1 x1).2 q, Option.bind_some, if_pos rfl], h⟩
theorem y_3p {p : Nat} (hp : p < 8) : (3 : Int32) * nI p = nI (3 * p) := pk_mul 3 p
theorem sp_person {σ τ : St} (h : Inv σ τ) (x1 : Int32) (x2 : Int32) : ∃ (r : Int32), f_X4_person σ x1 x2 = some r ∧ f_X5_person τ x1 x2 = some r ∧ Inv σ τ := by
  obtain ⟨n, k, cr, hT, hC, hL, hK0, hK1, hP⟩ := id h
  obtain ⟨c1, c2, c3, c4, c5, c6, c7, c8, c9, c10⟩ := id hC
  unfold f_X4_person f_X5_person
  rcases y_pers c2 c1 x1 with ⟨p, hp, rfl, e1⟩ | ⟨q, e1⟩
  · have hpl := y_place hL c1 hp
    obtain ⟨l1, l2, l3, l4, l5, l6, l7, l8, l9, l10, l11⟩ := hL
    obtain ⟨d1, d2, d3, d4, d5, d6⟩ := c10 p hp
    rw [e1, (y_isP c3 c1 (nI p)).1 ⟨p, hp, rfl⟩, Option.bind_some, if_neg i10, if_neg i10, y_3p (by omega), show nI (3 * p) + 1 = nI (3 * p + 1) from nI_add _ 1, show nI (3 * p) + 2 = nI (3 * p + 2) from nI_add _ 2, hpl]
    simp only [z_chk (show p < 8 by omega) (show 8 < 2 ^ 31 by omega), z_chk (show 3 * p < 24 by omega) (show 24 < 2 ^ 31 by omega), z_chk (show 3 * p + 1 < 24 by omega) (show 24 < 2 ^ 31 by omega), z_chk (show 3 * p + 2 < 24 by omega) (show 24 < 2 ^ 31 by omega), nI_clamp (show p < 2 ^ 31 by omega), nI_clamp (show 3 * p < 2 ^ 31 by omega), nI_clamp (show 3 * p + 1 < 2 ^ 31 by omega), nI_clamp (show 3 * p + 2 < 2 ^ 31 by omega), d4, d5, d6, Option.bind_some, (l9 p hp).1, (l8 p hp).1]
    by_cases a0 : x2 = 0
    · exact ⟨_, if_pos a0, if_pos a0, h⟩
    rw [if_neg a0]
    by_cases a0 : x2 = 1
    · exact ⟨_, if_pos a0, if_pos a0, h⟩
    rw [if_neg a0]
    by_cases a0 : x2 = 2
    · exact ⟨_, if_pos a0, if_pos a0, h⟩
    rw [if_neg a0]
    by_cases a0 : x2 = 3
    · exact ⟨_, if_pos a0, if_pos a0, h⟩
    rw [if_neg a0]
    by_cases a0 : x2 = 4
    · exact ⟨_, if_pos a0, if_pos a0, h⟩
    rw [if_neg a0]
    by_cases a0 : x2 = 5
    · exact ⟨_, if_pos a0, if_pos a0, h⟩
    rw [if_neg a0]
    exact ⟨_, rfl, rfl, h⟩
  · exact ⟨-1, by rw [e1, if_pos rfl], by rw [(y_isP c3 c1 x1).2 q, Option.bind_some, if_pos rfl], h⟩
theorem sp_left {σ τ : St} (h : Inv σ τ) (x1 : Int32) (x2 : Int32) : ∃ (r : Int32), f_X4_left σ x1 x2 = some r ∧ f_X5_left τ x1 x2 = some r ∧ Inv σ τ := by
  obtain ⟨n, k, cr, hT, hC, ⟨l1, l2, l3, l4, l5, l6, l7, l8, l9, l10, l11⟩, hK0, hK1, hP⟩ := id h
  obtain ⟨c1, c2, c3, ⟨en, z1, z2, z3⟩, c5, c6, c7, c8, c9, c10⟩ := id hC
  have z4 : τ 3 0 = nI en := by rw [c9 0 (by omega), z3]
  unfold f_X4_left f_X5_left
  have e : ((nI k) - 1).toInt = (k : Int) - 1 := pk_sub_toInt (a := k) (b := 1) (by omega) (by omega)
  rw [l2, l3, y_in, Int32.toInt_toInt64, e]
  rcases pk_ix x1 (n := k) (by omega) with q | q | ⟨j, hj, rfl⟩
  · rw [if_pos q, if_neg (c := (0 : Int64).toInt ≤ x1.toInt ∧ x1.toInt ≤ (k : Int) - 1)]
    · exact ⟨_, rfl, rfl, h⟩
    · rw [Int32.lt_iff_toInt_lt] at q
      have q : x1.toInt < 0 := q
      rintro ⟨a, -⟩
      have a : 0 ≤ x1.toInt := a
      omega
  · rw [if_pos q, if_neg (c := (0 : Int64).toInt ≤ x1.toInt ∧ x1.toInt ≤ (k : Int) - 1)]
    · refine ⟨-1, ?_, rfl, h⟩
      split <;> rfl
    · rw [Int32.le_iff_toInt_le, nI_toInt (by omega)] at q
      rintro ⟨-, a⟩
      omega
  · rw [if_neg (nI_pos (by omega)), if_neg (nI_ge hj (by omega)), nI_toInt (by omega), if_pos (c := (0 : Int64).toInt ≤ (j : Int) ∧ (j : Int) ≤ (k : Int) - 1) ⟨by show (0 : Int) ≤ _; omega, by omega⟩, if_neg i10]
    rcases y_end z3 z2 x2 with ⟨e, he, rfl, e1⟩ | ⟨q, e1⟩
    · rw [e1, (y_isE z4 z2 (nI e)).1 ⟨e, he, rfl⟩, Option.bind_some, if_neg i10, if_neg i10, y_crewOf (by omega), Option.bind_some, show (7 + 1 : Nat) = 8 from rfl] at *
      refine ⟨_, rfl, ?_, h⟩
      rw [y_3p (by omega), nI_add, z_chk (by omega) (by omega), nI_clamp (by omega), l10 j e hj (by omega), l7 j (by omega), y_sit (l6.1 j (by omega)) (by omega)]
    · rw [e1, (y_isE z4 z2 x2).2 q, Option.bind_some, if_pos rfl, if_pos rfl]
      exact ⟨_, rfl, rfl, h⟩
