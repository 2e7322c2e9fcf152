/-! pure: makes, bestMakes -/
theorem y_fmA {b : Nat} : ∀ (N y : Nat) (ρ : St), f_X2_bestFares ρ = nI b → y ≤ 100 → 100 < N + y → (∀ i, i < y → ρ 24 i = nI b) → ∃ ρ', f_X2_findMakeWeights_L10 N ρ (nI y) = some ρ' ∧ (∀ x, x ≠ 24 → ρ' x = ρ x) ∧ ∀ i, i < 100 → ρ' 24 i = nI b := by
  intro N
  induction N with
  | zero => intro y ρ h0 h1 h2; omega
  | succ N ih =>
    intro y ρ h0 h1 h2 hv
    rw [f_X2_findMakeWeights_L10]
    by_cases q : y = 100
    · subst q
      rw [if_pos (show 99 < nI 100 by decide)]
      exact ⟨ρ, rfl, fun _ _ => rfl, hv⟩
    · rw [if_neg (show ¬ 99 < nI y from nI_nlt (a := 99) (b := y) (by omega) (by omega)), z_chk (by omega) (by omega), nI_clamp (by omega), nI_1, h0]
      obtain ⟨ρ2, a1, a2, a3⟩ := ih (y + 1) (up2 ρ 24 y (nI b)) h0 (by omega) (by omega) (fun i hi => by
        by_cases z : i = y
        · subst z; exact up2_s
        · rw [up2_i z]; exact hv i (by omega))
      exact ⟨ρ2, a1, fun x hx => by rw [a2 x hx, up2_c hx], a3⟩
theorem y_fmB {σ : St} {Wa n b : Nat} {ρ0 : St} (hS : Sx n σ) (hX : SPX σ Wa n ρ0) (hb : b ≤ 72) : ∀ (N last : Nat) (ρ : St), frX ρ0 ρ → last ≤ eP σ → eP σ < N + last → ρ 19 = ρ0 19 → ρ 23 = ρ0 23 → MX σ Wa n b (fun _ e => e < last) ρ → ∃ ρ', f_X2_findMakeWeights_L34 N ρ (nI last) = some ρ' ∧ frX ρ0 ρ' ∧ ρ' 19 = ρ0 19 ∧ ρ' 23 = ρ0 23 ∧ MX σ Wa n b (fun _ e => e < eP σ) ρ' := by
  obtain ⟨hz1, hz2, hz3⟩ := Sx_e hS
  intro N
  induction N with
  | zero => intro last ρ h0 h1 h2; omega
  | succ N ih =>
    intro last ρ hF h1 h2 h19 h23 hM
    rw [f_X2_findMakeWeights_L34, (hX.fr hF).1]
    by_cases q : eP σ ≤ last
    · rw [if_pos (nI_le q (by omega))]
      have : last = eP σ := by omega
      rw [this] at hM
      exact ⟨ρ, rfl, hF, h19, h23, hM⟩
    · rw [if_neg (nI_ge (by omega) (by omega)), nI_1]
      have cv : ∀ (D D' : Nat → Nat → Prop) (ρ : St), (∀ c e, D c e ↔ D' c e) → MX σ Wa n b D ρ → MX σ Wa n b D' ρ := fun D D' ρ hd h => ⟨h.1, fun x x1 x2 => by
        obtain ⟨m, m1, m2⟩ := h.2 x x1 x2
        exact ⟨m, m1, mxX_congr m2 (fun c e _ => hd c e)⟩⟩
      obtain ⟨ρ1, a1, a2, a3, a4, a5⟩ := y_search hS hX (Md1 (b := b) hS hX (show last < eP σ by omega) hb) (by omega) ρ hF ⟨h19, h23, cv _ _ _ (fun c e => ⟨Or.inl, fun z => z.elim id (fun z => z.2.elim)⟩) hM⟩
      rw [show (1 : Int32) = nI 1 from rfl, a1, Option.bind_some]
      exact ih (last + 1) ρ1 a2 (by omega) (by omega) a3 a4 (cv _ _ _ (fun c e => ⟨fun z => by rcases z with z | z <;> omega, fun z => by
        by_cases w : e = last
        · exact Or.inr ⟨w, trivial⟩
        · exact Or.inl (by omega)⟩) a5)
theorem make_u {σ : St} {Wa x m m' : Nat} (h : makeP σ Wa x m) (h' : makeP σ Wa x m') : m = m' := by
  obtain ⟨a, b⟩ := h
  obtain ⟨a', b'⟩ := h'
  rcases b with b | ⟨c, e, b1, b2, b3, b4, b5⟩ <;> rcases b' with b' | ⟨c', e', b1', b2', b3', b4', b5'⟩
  · omega
  · have := a c' e' b1' b2' b3' b4'; omega
  · have := a' c e b1 b2 b3 b4; omega
  · have := a c' e' b1' b2' b3' b4'
    have := a' c e b1 b2 b3 b4
    omega
theorem y_fm {n k : Nat} {cr : Nat → Nat} {ρ τ : St} (h : InvW n k cr ρ τ) (h1 : ρ 19 14 = 1) : ∃ ρ', f_X2_findMakeWeights ρ = some ρ' ∧ InvW n k cr ρ' τ ∧ ρ' 19 14 = 1 ∧ ρ' 19 16 = 1 := by
  have hfu := fuel_ge
  have hS := Sx_of h
  have h8 := hS.1
  obtain ⟨hz1, hz2, hz3⟩ := Sx_e hS
  obtain ⟨s1, s2, s3⟩ := Sx_s hS
  obtain ⟨o1, o2, o3, -⟩ := h.2.2.2.2.2 (waN n cr k) (waN_is h8)
  obtain ⟨g1, g2, ⟨f, g3, g4⟩, g5⟩ := Pl_get h h1
  unfold f_X2_findMakeWeights
  rcases g5 with g5 | ⟨g5, -⟩
  · rw [if_pos g5]
    obtain ⟨b, b0, b1, b2⟩ := y_bestM hS g2
    obtain ⟨ρ1, a1, a2, a3⟩ := y_fmA fuel 0 ρ b2 (by omega) (by omega) (fun i hi => absurd hi (by omega))
    rw [show (nI 0 : Int32) = 0 from rfl] at a1
    rw [a1, Option.bind_some]
    obtain ⟨p1, p2, p3, p4, p5, p6⟩ := id g1
    rw [Sx_p hS] at p3 p6
    have hX0 : SPX ρ (waN n cr k) n ρ := ⟨by rw [p1, hz1], by rw [p2, s1], p5, p6⟩
    have hX : SPX ρ (waN n cr k) n ρ1 := hX0.fr ⟨fun x _ _ c => a2 x c, fun j _ _ => by rw [a2 19 (by omega)]⟩
    obtain ⟨ρ2, c1, c2, c3, c4, c5, c6⟩ := y_fmB hS hX b0 fuel 0 ρ1 ⟨fun _ _ _ _ => rfl, fun _ _ _ => rfl⟩ (by omega) (by omega) rfl rfl ⟨a3 0 (by omega), fun x x1 x2 => ⟨b, a3 x (by omega), Nat.le_refl _, b0, fun c e hd => absurd hd (by omega), Or.inl rfl⟩⟩
    rw [show (nI 0 : Int32) = 0 from rfl] at c1
    rw [c1, Option.bind_some]
    obtain ⟨τ2, d1, d2, d3⟩ := y_choices h (waN_lt n cr k)
    have keep : ∀ x, x ≠ 19 → x ≠ 24 → up2 ρ2 19 16 1 x = ρ x := fun x a b => by
      rw [up2_c a]
      by_cases w : x = 23
      · subst w; rw [c4, a2 23 (by omega)]
      · rw [c2.1 x a w b, a2 x b]
    have k19 : ∀ j, j ≠ 16 → up2 ρ2 19 16 1 19 j = ρ 19 j := fun j hj => by rw [up2_i hj, c3, a2 19 (by omega)]
    have fe : Fe ρ (up2 ρ2 19 16 1) := Fe_of (fun x hx => keep x (by omega) (by omega))
    obtain ⟨t1, t2, t3, t4, t5, t6, t7, t8, t9, t10, t11, t12, t13⟩ := Fe_spec fe
    refine ⟨up2 ρ2 19 16 1, rfl, InvW_X h (fun x hx => keep x (by omega) (by omega)) ⟨?_, ?_, ?_, Or.inr ⟨?_, ?_, ?_, ⟨f, ?_, ?_⟩, Or.inr ⟨up2_s, ?_⟩⟩⟩, ?_, up2_s⟩
    · rw [keep 20 (by omega) (by omega)]; exact o1
    · rw [keep 21 (by omega) (by omega)]; exact o2
    · rw [keep 22 (by omega) (by omega)]; exact o3
    · rw [k19 14 (by omega)]; exact h1
    · unfold plOK
      rw [t1, t2, t3, t4, t5, t6, t8, k19 8 (by omega), k19 9 (by omega), k19 10 (by omega), k19 11 (by omega), keep 3 (by omega) (by omega), keep 20 (by omega) (by omega), keep 21 (by omega) (by omega), keep 22 (by omega) (by omega), keep 25 (by omega) (by omega), keep 26 (by omega) (by omega), keep 27 (by omega) (by omega)]
      exact g1
    · unfold plBest
      rw [t1, t7, t9, t11, k19 12 (by omega), k19 13 (by omega)]
      exact g2
    · unfold plFew
      rw [t10, keep 23 (by omega) (by omega)]
      exact g3
    · rw [t1, k19 15 (by omega)]
      exact g4
    · unfold plMake
      rw [t12, t13]
      intro x x1 x2
      obtain ⟨m', m0', m1', m2'⟩ := d3.2.2 x x1 x2
      obtain ⟨m, m1, m2, m3, m4, m5⟩ := c6 x x1 x2
      refine ⟨m', b, m1', b1, ?_⟩
      show ρ2 24 x = _
      rw [m1]
      congr 1
      obtain ⟨v1, v2⟩ := m1'
      have e1 : m' ≤ m := by
        rcases v2 with v2 | ⟨c, e, w1, w2, w3, w4, w5⟩
        · omega
        · rw [Sx_p hS] at w3 w5
          have := m4 c e w2 ⟨w1, w2, w3, w4⟩
          omega
      have e2 : m ≤ max b m' := by
        rcases m5 with m5 | ⟨c, e, w1, ⟨w2, w3, w4, w5⟩, w6⟩
        · omega
        · have := v1 c e w2 w3 (by rw [Sx_p hS]; exact w4) w5
          rw [Sx_p hS] at this
          omega
      omega
    · rw [k19 14 (by omega)]; exact h1
  · rw [g5, if_neg i10]
    exact ⟨ρ, rfl, h, h1, g5⟩
/-- both sides' numbers for the make-weights -/
theorem y_mkGet {n k : Nat} {cr : Nat → Nat} {ρ τ τ2 : St} {mb : Nat} (h : InvW n k cr ρ τ) (h1 : ρ 19 14 = 1) (h16 : ρ 19 16 = 1) (hM : MR ρ (waN n cr k) n τ2) (hb : mostP ρ (waN n cr k) mb) : f_X2_bestFares ρ = nI mb ∧ ∀ x, 1 ≤ x → x ≤ 99 → ∃ m, m ≤ 72 ∧ τ2 12 x = nI m ∧ ρ 24 x = nI (max mb m) := by
  have hS := Sx_of h
  obtain ⟨g1, g2, -, g5⟩ := Pl_get h h1
  obtain ⟨b, b0, b1, b2⟩ := y_bestM hS g2
  have e := most_u b1 hb
  subst e
  refine ⟨b2, fun x x1 x2 => ?_⟩
  rcases g5 with g5 | ⟨-, g5⟩
  · rw [h16] at g5; exact absurd g5 i10
  · obtain ⟨m, b', w1, w2, w3⟩ := g5 x x1 x2
    obtain ⟨m', v0, v1, v2⟩ := hM.2.2 x x1 x2
    rw [most_u w2 b1, make_u w1 v1] at w3
    exact ⟨m', v0, v2, w3⟩
theorem sp_makes {σ τ : St} (h : Inv σ τ) (x1 : Int32) : ∃ (r : Int32) (σ2 : St) (τ2 : St), f_X4_makes σ x1 = some (r, σ2) ∧ f_X5_makes τ x1 = some (r, τ2) ∧ Inv σ2 τ2 := by
  obtain ⟨n, k, cr, hW⟩ := id h
  unfold f_X4_makes f_X5_makes
  rcases y_rng x1 (lo := 1) (hi := 99) (lo' := 1) (hi' := 99) rfl rfl with ⟨q1, q2, q3⟩ | ⟨q1, q3⟩
  · have q0 : ¬ x1 < 0 := by rw [Int32.lt_iff_toInt_lt]; rw [Int32.le_iff_toInt_le] at q1; have : (1 : Int) ≤ x1.toInt := q1; show ¬ x1.toInt < 0; omega
    have n1 : ¬ x1 < 1 := y_nlt.mpr q1
    obtain ⟨x, hx, rfl⟩ := nI_of2 (x := x1) (M := 99) (n := 99) rfl q0 q2
    have hx1 : 1 ≤ x := by
      rw [show (1 : Int32) = nI 1 from rfl, z_le (by omega) (by omega)] at q1
      exact q1
    obtain ⟨ρ, a1, a2, a3⟩ := y_find hW
    obtain ⟨ρ', c1, c2, c3, c4⟩ := y_fm a2 a3
    obtain ⟨mb, τ2, b0, b1, b2, b3, b4⟩ := y_most c2 (waN_lt n cr k)
    obtain ⟨e1, e2⟩ := y_mkGet c2 c3 c4 b3 b4
    obtain ⟨m, m0, m1, m2⟩ := e2 x hx1 hx
    unfold f_X2_madeBy
    rw [if_neg n1, if_pos q2, a1, Option.bind_some, c1, Option.bind_some, if_neg n1, if_pos q2, z_chk (by omega) (by omega), nI_clamp (by omega), m2, e1, Option.bind_some, q3, if_neg i10, y_waitW hW, Option.bind_some, b1]
    simp only [Option.bind_some, z_chk (show x < 100 by omega) (show 100 < 2 ^ 31 by omega), m1, z_le (show m < 2 ^ 31 by omega) (show mb < 2 ^ 31 by omega)]
    by_cases w : m ≤ mb
    · rw [if_pos w, Nat.max_eq_left w, Int32.sub_self]
      exact ⟨0, ρ', τ2, rfl, rfl, n, k, cr, b2⟩
    · rw [if_neg w, Nat.max_eq_right (by omega)]
      exact ⟨_, ρ', τ2, rfl, rfl, n, k, cr, b2⟩
  · refine ⟨-2, σ, τ, ?_, by rw [q3, if_pos rfl], h⟩
    by_cases z : x1 < 1
    · rw [if_pos z]
    · rw [if_neg z, if_neg (fun w => q1 ⟨y_nlt.mp z, w⟩)]
theorem y_bmL {ρ τ : St} {mb : Nat} (hb : mb ≤ 72) (e1 : f_X2_bestFares ρ = nI mb) (e2 : ∀ x, 1 ≤ x → x ≤ 99 → ∃ m, m ≤ 72 ∧ τ 12 x = nI m ∧ ρ 24 x = nI (max mb m)) : ∀ (N x v : Nat) (i : Int32), 1 ≤ x → x ≤ 100 → 100 < N + x → mb ≤ v → v ≤ 72 → ∃ r, f_X2_bestMakeWeight_L7 ρ N i (nI (v - mb)) (nI x) = some r ∧ f_X5_bestMakes_L14 τ N (nI v) i (nI x) = some r := by
  intro N
  induction N with
  | zero => intro x v i h1 h2; omega
  | succ N ih =>
    intro x v i h1 h2 h3 h4 h5
    rw [f_X2_bestMakeWeight_L7, f_X5_bestMakes_L14]
    by_cases q : x = 100
    · subst q
      rw [if_pos (show 99 < nI 100 by decide), if_pos (show 100 ≤ nI 100 by decide)]
      exact ⟨i, rfl, rfl⟩
    · obtain ⟨m, m0, m1, m2⟩ := e2 x h1 (by omega)
      have mby : f_X2_madeBy ρ (nI x) = some (nI (max mb m - mb)) := by
        unfold f_X2_madeBy
        rw [if_neg (show ¬ nI x < 1 from nI_nlt (b := 1) (by omega) (by omega)), if_pos (show nI x ≤ 99 from nI_le (b := 99) (by omega) (by omega)), z_chk (by omega) (by omega), nI_clamp (by omega), m2, e1, pk_sub (by omega)]
      unfold f_X5_bestMakes_J35_14
      rw [if_neg (show ¬ 99 < nI x from nI_nlt (a := 99) (b := x) (by omega) (by omega)), if_neg (show ¬ 100 ≤ nI x from nI_ge (a := x) (b := 100) (by omega) (by omega)), mby, Option.bind_some, Option.bind_some, z_chk (by omega) (by omega), z_chk (by omega) (by omega), z_chk (by omega) (by omega), nI_clamp (by omega), m1, nI_1]
      simp only [z_le (show max mb m - mb < 2 ^ 31 by omega) (show v - mb < 2 ^ 31 by omega), z_le (show m < 2 ^ 31 by omega) (show v < 2 ^ 31 by omega)]
      by_cases w : m ≤ v
      · rw [if_pos (show max mb m - mb ≤ v - mb by omega), if_pos w, if_pos w]
        exact ih (x + 1) v i (by omega) (by omega) (by omega) h4 h5
      · rw [if_neg (show ¬ max mb m - mb ≤ v - mb by omega), if_neg w, if_neg w, show max mb m - mb = m - mb by omega, z_chk (by omega) (by omega), z_chk (by omega) (by omega)]
        exact ih (x + 1) m (nI x) (by omega) (by omega) (by omega) (by omega) m0
theorem sp_bestMakes {σ τ : St} (h : Inv σ τ) : ∃ (r : Int32) (σ2 : St) (τ2 : St), f_X4_bestMakes σ = some (r, σ2) ∧ f_X5_bestMakes τ = some (r, τ2) ∧ Inv σ2 τ2 := by
  have hfu := fuel_ge
  obtain ⟨n, k, cr, hW⟩ := id h
  obtain ⟨ρ, a1, a2, a3⟩ := y_find hW
  obtain ⟨ρ', c1, c2, c3, c4⟩ := y_fm a2 a3
  obtain ⟨mb, τ2, b0, b1, b2, b3, b4⟩ := y_most c2 (waN_lt n cr k)
  obtain ⟨e1, e2⟩ := y_mkGet c2 c3 c4 b3 b4
  obtain ⟨r, r1, r2⟩ := y_bmL b0 e1 e2 fuel 1 mb (-9) (by omega) (by omega) (by omega) (Nat.le_refl _) b0
  rw [Nat.sub_self, show (nI 0 : Int32) = 0 from rfl, show (nI 1 : Int32) = 1 from rfl] at r1
  rw [show (nI 1 : Int32) = 1 from rfl] at r2
  unfold f_X4_bestMakes f_X5_bestMakes f_X2_bestMakeWeight
  rw [a1, Option.bind_some, c1, Option.bind_some, r1, Option.bind_some, Option.bind_some, y_waitW hW, Option.bind_some, b1, Option.bind_some]
  dsimp only
  rw [r2]
  exact ⟨r, ρ', τ2, rfl, rfl, n, k, cr, b2⟩
