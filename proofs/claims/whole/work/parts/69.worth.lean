/-! pure: sets, worth -/
theorem few_1 {σ : St} {Wa : Nat} {f : Nat → Nat} (h : plFew σ Wa f) {s : Nat} (hs : s < 256) : (σ 23 s = 1) ↔ canP σ Wa s := by
  obtain ⟨a, b, c⟩ := h.1 s hs
  rw [a, show (1 : Int32) = nI 1 from rfl, z_eq (by omega) (by omega)]
  exact c
theorem y_cntX {ρ : St} {Wa n : Nat} {f : Nat → Nat} (h8 : n ≤ 8) (h10 : ρ 19 10 = nI (2 ^ n)) (hF : plFew ρ Wa f) : ∀ (N v : Nat), v + 1 ≤ 2 ^ n → 2 ^ n < N + (v + 1) → f_X2_countSets_L4 ρ N (nI (cntP (canP ρ Wa) v)) (nI (v + 1)) = some (nI (cntP (canP ρ Wa) (2 ^ n - 1))) := by
  have hp28 := p28 h8
  intro N
  induction N with
  | zero => intro v h1 h2; omega
  | succ N ih =>
    intro v h1 h2
    rw [f_X2_countSets_L4, h10]
    by_cases q : 2 ^ n ≤ v + 1
    · rw [if_pos (nI_le q (by omega)), show v = 2 ^ n - 1 by omega]
    · rw [if_neg (nI_ge (by omega) (by omega)), z_chk (by omega) (by omega), nI_clamp (by omega), nI_1, nI_1, ← ih (v + 1) (by omega) (by omega), cntP]
      have fe := few_1 hF (show v + 1 < 256 by omega)
      by_cases w : canP ρ Wa (v + 1)
      · rw [if_pos (fe.mpr w), if_pos w]
      · rw [if_neg (fun z => w (fe.mp z)), if_neg w]
        rfl
theorem y_cntM {σ τ : St} {Wa n : Nat} (h : MR σ Wa n τ) : ∀ (N v : Nat), v ≤ 255 → 255 < N + v → f_X5_sets_L12 τ N (nI (cntP (canP σ Wa) v)) (nI (v + 1)) = some (nI (cntP (canP σ Wa) 255)) := by
  intro N
  induction N with
  | zero => intro v h1 h2; omega
  | succ N ih =>
    intro v h1 h2
    rw [f_X5_sets_L12]
    by_cases q : v = 255
    · subst q
      rw [if_pos (show 256 ≤ nI (255 + 1) by decide)]
    · rw [if_neg (show ¬ 256 ≤ nI (v + 1) from nI_ge (a := v + 1) (b := 256) (by omega) (by omega)), z_chk (by omega) (by omega), nI_clamp (by omega), nI_1, nI_1, i32_a0, ← ih (v + 1) (by omega) (by omega), cntP]
      rcases h.2.1 (v + 1) (by omega) with ⟨w, e⟩ | ⟨w, e⟩
      · rw [e, if_neg i10, if_pos w]
      · rw [e, if_pos rfl, if_neg w]
        rfl
theorem cntP_end {P : Nat → Prop} {a : Nat} (h : ∀ v, a < v → ¬ P v) : ∀ b, a ≤ b → cntP P b = cntP P a
  | 0, hb => by have : a = 0 := by omega
                subst this; rfl
  | b + 1, hb => by
    by_cases q : a = b + 1
    · subst q; rfl
    · rw [cntP, if_neg (h _ (by omega)), cntP_end h b (by omega)]
      rfl
theorem sp_sets {σ τ : St} (h : Inv σ τ) : ∃ (r : Int32) (σ2 : St) (τ2 : St), f_X4_sets σ = some (r, σ2) ∧ f_X5_sets τ = some (r, τ2) ∧ Inv σ2 τ2 := by
  have hfu := fuel_ge
  obtain ⟨n, k, cr, hW⟩ := id h
  obtain ⟨ρ, a1, a2, a3⟩ := y_find hW
  obtain ⟨g1, g2, ⟨f, g3, -⟩, -⟩ := Pl_get a2 a3
  obtain ⟨τ2, b1, b2, b3⟩ := y_choices a2 (waN_lt n cr k)
  have hS := Sx_of a2
  have hp28 := p28 hS.1
  have h10 := g1.2.2.1
  rw [Sx_p hS] at h10
  have h1 : 1 ≤ 2 ^ n := Nat.one_le_two_pow
  unfold f_X4_sets f_X5_sets f_X2_countSets
  have x := y_cntX hS.1 h10 g3 fuel 0 (by omega) (by omega)
  rw [show nI (cntP (canP ρ (waN n cr k)) 0) = 0 from rfl, show nI (0 + 1) = 1 from rfl] at x
  rw [a1, Option.bind_some, x, Option.bind_some, Option.bind_some, y_waitW hW, Option.bind_some, b1, Option.bind_some]
  have y := y_cntM b3
  obtain ⟨N, hN⟩ := y_fuel 1 (by omega)
  have yy := y N 0 (by omega) (by omega)
  rw [show nI (cntP (canP ρ (waN n cr k)) 0) = 0 from rfl, show nI (0 + 1) = 1 from rfl] at yy
  have z0 : τ2 11 0 = 0 := by
    rcases b3.2.1 0 (by omega) with ⟨w, _⟩ | ⟨_, e⟩
    · exact absurd (can_pos hS w).1 (by omega)
    · exact e
  have st : f_X5_sets_L12 τ2 fuel 0 0 = some (nI (cntP (canP ρ (waN n cr k)) 255)) := by
    rw [hN, f_X5_sets_L12, if_neg (by decide), chk_in (show vp_in 0 256 from vp_in_nI (n := 0) (N := 256) (by omega) (by omega)), if_pos (show τ2 11 ((0 : Int32).toNatClampNeg) = 0 from z0)]
    exact yy
  rw [st]
  refine ⟨_, ρ, τ2, rfl, ?_, n, k, cr, b2⟩
  rw [cntP_end (a := 2 ^ n - 1) (fun v hv z => by have := (can_pos hS z).2; omega) 255 (by omega)]
  rfl
/-! what somebody is worth -/
theorem most_u {σ : St} {Wa m m' : Nat} (h : mostP σ Wa m) (h' : mostP σ Wa m') : m = m' := by
  obtain ⟨a, b⟩ := h
  obtain ⟨a', b'⟩ := h'
  rcases b with b | ⟨c, b1, b2⟩ <;> rcases b' with b' | ⟨c', b1', b2'⟩
  · omega
  · have := a c' b1'; omega
  · have := a' c b1; omega
  · have := a c' b1'
    have := a' c b1
    omega
theorem most_b {σ : St} {n Wa b : Nat} (hS : Sx n σ) (h : bestP σ Wa b) : mostP σ Wa (farP σ (allE n b)) := by
  unfold mostP
  rw [Sx_p hS]
  have ek : ∀ c, keyP σ c = farP σ (allE n c) * 16 + pop (allE n c) := fun c => by unfold keyP; rw [Sx_p hS]
  refine ⟨fun c hc => ?_, Or.inr ⟨b, h.1, rfl⟩⟩
  have x := h.2 c hc
  rw [ek, ek] at x
  have := pop_le (allE n c)
  have := pop_le (allE n b)
  omega
theorem most_n {σ : St} {Wa : Nat} (h : ∀ c, ¬ chP σ Wa c) : mostP σ Wa 0 := ⟨fun c hc => absurd hc (h c), Or.inl rfl⟩
theorem y_bestM {ρ : St} {n Wa : Nat} (hS : Sx n ρ) (h : plBest ρ Wa) : ∃ m, m ≤ 72 ∧ mostP ρ Wa m ∧ f_X2_bestFares ρ = nI m := by
  rcases h with ⟨x1, x2, x3⟩ | ⟨b, x1, x2, x3⟩
  · exact ⟨0, by omega, most_n x3, (y_bestN x1).2⟩
  · exact ⟨_, (Sx_far hS (allE n b)).1, most_b hS x1, (y_bestF (Wa := 0) hS x2).2⟩
theorem y_most {n k : Nat} {cr : Nat → Nat} {σ τ : St} {Wa : Nat} (h : InvW n k cr σ τ) (hWa : Wa < 2 ^ n) : ∃ m τ', m ≤ 72 ∧ f_X5_mostOf τ (nI Wa) = some (nI m, τ') ∧ InvW n k cr σ τ' ∧ MR σ Wa n τ' ∧ mostP σ Wa m := by
  have hS := Sx_of h
  obtain ⟨τ2, b1, b2, b3⟩ := y_choices h hWa
  unfold f_X5_mostOf
  rw [b1, Option.bind_some]
  rcases b3.1 with ⟨y1, y2, y3⟩ | ⟨b, y1, y2, y3⟩
  · rw [y1, if_neg (by decide)]
    exact ⟨0, τ2, by omega, rfl, b2, b3, most_n y3⟩
  · have hf := (Sx_far hS (allE n b)).1
    rw [y2, if_pos (show 0 ≤ nI _ from nI_le (a := 0) (by omega) (by omega))]
    exact ⟨_, τ2, hf, rfl, b2, b3, most_b hS y1⟩
theorem ch_without {σ : St} {n Wa p c : Nat} (hS : Sx n σ) (hWa : Wa < 2 ^ n) : chP σ (dif Wa (2 ^ p)) c ↔ (chP σ Wa c ∧ (allE n c).testBit p = false) := by
  have hp28 := p28 hS.1
  unfold chP okP
  rw [Sx_p hS]
  constructor
  · rintro ⟨⟨h1, h2, h3, h4⟩, h5⟩
    refine ⟨⟨⟨h1, h2, h3, fun q hq hd => ?_⟩, h5⟩, ?_⟩
    · have := h4 q hq hd
      rw [dif_tb (by omega), Bool.and_eq_true] at this
      exact ⟨this.1.1, this.2⟩
    · cases w : (allE n c).testBit p
      · rfl
      · rw [allE_tb, Bool.and_eq_true, decide_eq_true_eq, decide_eq_true_eq] at w
        have := (h4 p w.1 w.2).1
        rw [dif_tb (by omega), tb_one] at this
        simp at this
  · rintro ⟨⟨⟨h1, h2, h3, h4⟩, h5⟩, h6⟩
    refine ⟨⟨h1, h2, h3, fun q hq hd => ?_⟩, h5⟩
    have := h4 q hq hd
    refine ⟨?_, this.2⟩
    rw [dif_tb (by omega), this.1, tb_one]
    have : q ≠ p := by
      intro z
      subst z
      rw [allE_tb] at h6
      simp [hq] at h6
      exact hd h6
    simp [this]
theorem y_wo {ρ : St} {Wa n p : Nat} {f : Nat → Nat} (hS : Sx n ρ) (hp : p < n) (hO : plOK ρ Wa) (hF : plFew ρ Wa f) : ∀ (N s m : Nat), 1 ≤ s → s ≤ 2 ^ n → 2 ^ n < N + s → m ≤ 72 → (∀ t, t < s → canP ρ Wa t → t.testBit p = false → farP ρ t ≤ m) → (m = 0 ∨ ∃ t, canP ρ Wa t ∧ t.testBit p = false ∧ farP ρ t = m) → ∃ m', m' ≤ 72 ∧ f_X2_faresWithout_L4 ρ (nI p) N (nI m) (nI s) = some (nI m') ∧ (∀ t, t < 2 ^ n → canP ρ Wa t → t.testBit p = false → farP ρ t ≤ m') ∧ (m' = 0 ∨ ∃ t, canP ρ Wa t ∧ t.testBit p = false ∧ farP ρ t = m') := by
  have h8 := hS.1
  have hp28 := p28 h8
  have h10 := hO.2.2.1
  have hw := hO.2.2.2.2.2
  rw [Sx_p hS] at h10 hw
  intro N
  induction N with
  | zero => intro s m h1 h2; omega
  | succ N ih =>
    intro s m h1 h2 h3 hm ha hb
    rw [f_X2_faresWithout_L4, h10]
    by_cases q : 2 ^ n ≤ s
    · rw [if_pos (nI_le q (by omega))]
      exact ⟨m, hm, rfl, fun t ht => ha t (by omega), hb⟩
    · rw [if_neg (nI_ge (by omega) (by omega)), z_chk (by omega) (by omega), nI_clamp (by omega), nI_1]
      have fe := few_1 hF (show s < 256 by omega)
      have skip : ¬ (canP ρ Wa s ∧ s.testBit p = false) → ∃ m', m' ≤ 72 ∧ f_X2_faresWithout_L4 ρ (nI p) N (nI m) (nI (s + 1)) = some (nI m') ∧ (∀ t, t < 2 ^ n → canP ρ Wa t → t.testBit p = false → farP ρ t ≤ m') ∧ (m' = 0 ∨ ∃ t, canP ρ Wa t ∧ t.testBit p = false ∧ farP ρ t = m') := fun hn => by
        refine ih (s + 1) m (by omega) (by omega) (by omega) hm (fun t ht k1 k2 => ?_) hb
        by_cases z : t = s
        · subst z; exact absurd ⟨k1, k2⟩ hn
        · exact ha t (by omega) k1 k2
      by_cases w : canP ρ Wa s
      · rw [if_pos (fe.mpr w)]
        cases b : s.testBit p
        · rw [if_pos (by rw [z_bit0 (by omega) (by omega)]; exact b), z_chk (by omega) (by omega), (hw s (by omega)).2.1]
          have hf := (Sx_far hS s).1
          simp only [z_lt (show m < 2 ^ 31 by omega) (show farP ρ s < 2 ^ 31 by omega)]
          by_cases v : m < farP ρ s
          · rw [if_pos v]
            refine ih (s + 1) (farP ρ s) (by omega) (by omega) (by omega) hf (fun t ht k1 k2 => ?_) (Or.inr ⟨s, w, b, rfl⟩)
            by_cases z : t = s
            · subst z; exact Nat.le_refl _
            · have := ha t (by omega) k1 k2; omega
          · rw [if_neg v]
            refine ih (s + 1) m (by omega) (by omega) (by omega) hm (fun t ht k1 k2 => ?_) hb
            by_cases z : t = s
            · subst z; omega
            · exact ha t (by omega) k1 k2
        · rw [if_neg (by rw [z_bit0 (by omega) (by omega), b]; decide)]
          exact skip (fun z => by rw [b] at z; exact absurd z.2 (by decide))
      · rw [if_neg (fun z => w (fe.mp z))]
        exact skip (fun z => w z.1)
theorem sp_worth {σ τ : St} (h : Inv σ τ) (x1 : Int32) : ∃ (r : Int32) (σ2 : St) (τ2 : St), f_X4_worth σ x1 = some (r, σ2) ∧ f_X5_worth τ x1 = some (r, τ2) ∧ Inv σ2 τ2 := by
  have hfu := fuel_ge
  obtain ⟨n, k, cr, hW⟩ := id h
  obtain ⟨c1, c2, c3, -⟩ := id hW.2.1
  unfold f_X4_worth f_X5_worth
  rcases y_pers c2 c1 x1 with ⟨p, hp, rfl, e1⟩ | ⟨q, e1⟩
  · rw [e1, (y_isP c3 c1 (nI p)).1 ⟨p, hp, rfl⟩, Option.bind_some, if_neg i10, if_neg i10, y_place hW.2.2.1 c1 hp, Option.bind_some, z_chk (by omega) (by omega), nI_clamp (by omega)]
    by_cases w : τ 7 p = 20
    · rw [if_pos w, if_pos w]
      exact ⟨-3, σ, τ, rfl, rfl, h⟩
    · rw [if_neg w, if_neg w]
      obtain ⟨ρ, a1, a2, a3⟩ := y_find hW
      obtain ⟨g1, g2, ⟨f, g3, -⟩, -⟩ := Pl_get a2 a3
      have hS := Sx_of a2
      have hp28 := p28 hS.1
      have hWa := waN_lt n cr k
      have h21 : 1 ≤ 2 ^ n := Nat.one_le_two_pow
      obtain ⟨m1, τ1, b0, b1, b2, b3, b4⟩ := y_most a2 hWa
      have dl := dif_le (waN n cr k) (2 ^ p)
      obtain ⟨m2, τ2, d0, d1, d2, d3, d4⟩ := y_most b2 (Wa := dif (waN n cr k) (2 ^ p)) (by omega)
      obtain ⟨m3, f0, f1, f2⟩ := y_bestM hS g2
      obtain ⟨m4, w0, w1, w2, w3⟩ := y_wo hS hp g1 g3 fuel 1 0 (by omega) (by omega) (by omega) (by omega) (fun t ht hc => by have := (can_pos hS hc).1; omega) (Or.inl rfl)
      unfold f_X2_faresWithout
      rw [show (nI 0 : Int32) = 0 from rfl, show (nI 1 : Int32) = 1 from rfl] at w1
      rw [a1, Option.bind_some, w1, Option.bind_some, Option.bind_some, f2, y_waitW hW, Option.bind_some, b1, Option.bind_some]
      dsimp only
      rw [y_waitW b2, Option.bind_some, z_shl1 (by omega), z_not _ (by omega), show waN n cr k &&& (2 ^ 32 - 1 - 2 ^ p % 2 ^ 32) = dif (waN n cr k) (2 ^ p) from rfl, d1, Option.bind_some]
      have e3 : m3 = m1 := most_u f1 b4
      have e4 : m4 = m2 := by
        refine most_u (σ := ρ) (Wa := dif (waN n cr k) (2 ^ p)) ⟨fun c hc => ?_, ?_⟩ d4
        · rw [ch_without hS hWa] at hc
          rw [Sx_p hS]
          exact w2 (allE n c) (allE_lt n c) ⟨c, hc.1, by rw [Sx_p hS]⟩ hc.2
        · rcases w3 with w3 | ⟨t, ⟨c, t1, t2⟩, t3, t4⟩
          · exact Or.inl w3
          · rw [Sx_p hS] at t2
            refine Or.inr ⟨c, (ch_without hS hWa).mpr ⟨t1, by rw [t2]; exact t3⟩, ?_⟩
            rw [Sx_p hS, t2, t4]
      rw [e3, e4]
      exact ⟨_, ρ, τ2, rfl, rfl, n, k, cr, d2⟩
  · exact ⟨-1, σ, τ, by rw [e1, if_pos rfl], by rw [(y_isP c3 c1 x1).2 q, Option.bind_some, if_pos rfl], h⟩
