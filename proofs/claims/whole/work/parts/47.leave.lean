/-! pure: weighs, off, who is gone, fares -/
theorem LD_rel {n k : Nat} {cr : Nat → Nat} {σ τ : St} (h : InvW n k cr σ τ) (b m : Int32) (s : Nat) : LD b (wtM τ 0) (τ 5) m s n = LD b (σ 4) (σ 9) m s n := by
  obtain ⟨hT, hC, hL, -⟩ := h
  obtain ⟨c1, c2, c3, c4, c5, c6, c7, c8, c9, c10⟩ := hC
  obtain ⟨l1, l2, l3, l4, l5, l6, l7, l8, -⟩ := hL
  refine LD_congr (fun p hp => ?_) (fun p hp => (l8 p hp).1)
  unfold wtM
  rw [if_pos rfl]
  exact (c10 p hp).2.2.2.1
theorem LD_relc {n k : Nat} {cr : Nat → Nat} {σ τ : St} (h : InvW n k cr σ τ) (b m : Int32) (s : Nat) : LD b (wtM τ 1) (τ 5) m s n = LD b (σ 10) (σ 9) m s n := by
  obtain ⟨hT, hC, hL, -⟩ := h
  obtain ⟨l1, l2, l3, l4, l5, l6, l7, l8, l9, -⟩ := hL
  refine LD_congr (fun p hp => ?_) (fun p hp => (l8 p hp).1)
  unfold wtM
  rw [if_neg i10]
  exact (l9 p hp).1
theorem off_rel {n k : Nat} {cr : Nat → Nat} {σ τ : St} (h : InvW n k cr σ τ) (m : Int32) (s0 s1 s2 : Nat) : offG (τ 3 0) (τ 3 1) (τ 3 2) (τ 3 4) (wtM τ 0) (τ 5) n m s0 s1 s2 = offG (σ 3 0) (σ 3 1) (σ 3 2) (σ 3 4) (σ 4) (σ 9) n m s0 s1 s2 := by
  obtain ⟨c1, c2, c3, c4, c5, c6, c7, c8, c9, c10⟩ := h.2.1
  unfold offG
  rw [LD_rel h, LD_rel h, LD_rel h, c9 0 (by omega), c9 1 (by omega), c9 2 (by omega), c9 4 (by omega)]
theorem off_relc {n k : Nat} {cr : Nat → Nat} {σ τ : St} (h : InvW n k cr σ τ) (m : Int32) (s0 s1 s2 : Nat) : offG (τ 3 0) (τ 3 1) (τ 3 2) (τ 3 4) (wtM τ 1) (τ 5) n m s0 s1 s2 = offG (σ 3 0) (σ 3 1) (σ 3 2) (σ 3 4) (σ 10) (σ 9) n m s0 s1 s2 := by
  obtain ⟨c1, c2, c3, c4, c5, c6, c7, c8, c9, c10⟩ := h.2.1
  unfold offG
  rw [LD_relc h, LD_relc h, LD_relc h, c9 0 (by omega), c9 1 (by omega), c9 2 (by omega), c9 4 (by omega)]
theorem lev_rel {n k : Nat} {cr : Nat → Nat} {σ τ : St} (h : InvW n k cr σ τ) (s0 s1 s2 : Nat) : levG (τ 3 0) (τ 3 1) (τ 3 2) (τ 3 4) (wtM τ 0) (τ 5) n (τ 0 9) s0 s1 s2 ↔ levG (σ 3 0) (σ 3 1) (σ 3 2) (σ 3 4) (σ 4) (σ 9) n (σ 7 4) s0 s1 s2 := by
  unfold levG
  rw [off_rel h, off_rel h, h.2.2.1.2.2.2.2.1]
theorem lev_relc {n k : Nat} {cr : Nat → Nat} {σ τ : St} (h : InvW n k cr σ τ) (s0 s1 s2 : Nat) : levG (τ 3 0) (τ 3 1) (τ 3 2) (τ 3 4) (wtM τ 1) (τ 5) n (τ 0 9) s0 s1 s2 ↔ levG (σ 3 0) (σ 3 1) (σ 3 2) (σ 3 4) (σ 10) (σ 9) n (σ 7 4) s0 s1 s2 := by
  unfold levG
  rw [off_relc h, off_relc h, h.2.2.1.2.2.2.2.1]
theorem y_min (x : Int32) : (f_X4_isMinute x = 1 ∧ f_X5_in x.toInt64 0 9 = 1) ∨ (f_X4_isMinute x = 0 ∧ f_X5_in x.toInt64 0 9 = 0) := by
  unfold f_X4_isMinute
  rcases y_rng x (lo := 0) (hi := 9) (lo' := 0) (hi' := 9) rfl rfl with ⟨q1, q2, q3⟩ | ⟨q1, q3⟩
  · exact Or.inl ⟨by rw [if_neg (y_nlt.mpr q1), if_neg (y_nlt.mpr q2)], q3⟩
  · refine Or.inr ⟨?_, q3⟩
    by_cases q : x < 0
    · rw [if_pos q]
    · rw [if_neg q, if_pos]
      exact y_nle.mp (fun z => q1 ⟨y_nlt.mp q, z⟩)
theorem sp_weighs {σ τ : St} (h : Inv σ τ) (x1 : Int32) (x2 : Int32) : ∃ (r : Int32), f_X4_weighs σ x1 x2 = some r ∧ f_X5_weighs τ x1 x2 = some r ∧ Inv σ τ := by
  obtain ⟨n, k, cr, hW⟩ := id h
  obtain ⟨hT, hC, hL, hK0, hK1, hP⟩ := id hW
  obtain ⟨c1, c2, c3, ⟨en, z1, z2, z3⟩, c5, c6, c7, c8, c9, c10⟩ := id hC
  obtain ⟨l1, l2, l3, l4, l5, l6, l7, l8, l9, l10, l11⟩ := id hL
  have z4 : τ 3 0 = nI en := by rw [c9 0 (by omega), z3]
  unfold f_X4_weighs f_X5_weighs
  rcases y_end z3 z2 x1 with ⟨e, he, rfl, e2⟩ | ⟨q, e2⟩
  · rw [e2, (y_isE z4 z2 (nI e)).1 ⟨e, he, rfl⟩, Option.bind_some, if_neg i10, if_neg i10]
    rcases y_min x2 with ⟨m1, m2⟩ | ⟨m1, m2⟩
    · rw [m1, m2, if_neg i10, if_neg i10, y_laid l1 l2, Option.bind_some, l7 k (by omega), y_load c2 c1 (l6.1 k (by omega)) (by omega), y_whoAt c3 c1, Option.bind_some, y_who_e c1 l6 l11 (by omega), Option.bind_some, y_heavy c3 c1 (by have := sit_lt (cr k) e; omega) (by omega), Option.bind_some, LD_rel hW, c9 4 (by omega)]
      exact ⟨_, rfl, rfl, h⟩
    · rw [m1, m2, if_pos rfl, if_pos rfl]
      exact ⟨_, rfl, rfl, h⟩
  · rw [e2, (y_isE z4 z2 x1).2 q, Option.bind_some, if_pos rfl, if_pos rfl]
    exact ⟨_, rfl, rfl, h⟩
theorem sp_off {σ τ : St} (h : Inv σ τ) (x1 : Int32) : ∃ (r : Int32), f_X4_off σ x1 = some r ∧ f_X5_off τ x1 = some r ∧ Inv σ τ := by
  obtain ⟨n, k, cr, hW⟩ := id h
  obtain ⟨hT, hC, hL, hK0, hK1, hP⟩ := id hW
  obtain ⟨c1, c2, c3, ⟨en, z1, z2, z3⟩, c5, c6, c7, c8, c9, c10⟩ := id hC
  obtain ⟨l1, l2, l3, l4, l5, l6, l7, l8, l9, l10, l11⟩ := id hL
  unfold f_X4_off f_X5_off
  rcases y_min x1 with ⟨m1, m2⟩ | ⟨m1, m2⟩
  · have w0 := y_who_e c1 l6 l11 (e := 0) (by omega)
    have w1 := y_who_e c1 l6 l11 (e := 1) (by omega)
    have w2 := y_who_e c1 l6 l11 (e := 2) (by omega)
    rw [show (nI 0 : Int32) = 0 from rfl] at w0
    rw [show (nI 1 : Int32) = 1 from rfl] at w1
    rw [show (nI 2 : Int32) = 2 from rfl] at w2
    have v0 := y_heavy c3 c1 (show sit (cr k) 0 < 2 ^ 31 by have := sit_lt (cr k) 0; omega) (e := 0) (by omega) x1 0
    have v1 := y_heavy c3 c1 (show sit (cr k) 1 < 2 ^ 31 by have := sit_lt (cr k) 1; omega) (e := 1) (by omega) x1 0
    have v2 := y_heavy c3 c1 (show sit (cr k) 2 < 2 ^ 31 by have := sit_lt (cr k) 2; omega) (e := 2) (by omega) x1 0
    rw [show (nI 0 : Int32) = 0 from rfl] at v0
    rw [show (nI 1 : Int32) = 1 from rfl] at v1
    rw [show (nI 2 : Int32) = 2 from rfl] at v2
    rw [m1, m2, if_neg i10, if_neg i10, y_laid l1 l2, Option.bind_some, l7 k (by omega), y_tilt c2 c1 (l6.1 k (by omega)), Option.bind_some, y_whoAt c3 c1, y_whoAt c3 c1, y_whoAt c3 c1, w0, w1, w2]
    simp only [Option.bind_some, v0, v1, v2]
    rw [y_off, Int32.add_comm 10000]
    refine ⟨_, rfl, ?_, h⟩
    have := off_rel hW x1 (sit (cr k) 0) (sit (cr k) 1) (sit (cr k) 2)
    rw [← this]
    rfl
  · rw [m1, m2, if_pos rfl, if_pos rfl]
    exact ⟨_, rfl, rfl, h⟩
/-! who is gone -/
def goneN (cr : Nat → Nat) : Nat → Nat
  | 0 => 0
  | j + 1 => goneN cr j ||| mem (cr j)
theorem goneN_tb (cr : Nat → Nat) {p : Nat} (hp : p < 8) : ∀ k, (goneN cr k).testBit p = true ↔ goneB k cr p
  | 0 => by
    rw [goneN, Nat.zero_testBit]
    exact ⟨fun h => (by cases h), fun ⟨j, hj, _⟩ => (by omega)⟩
  | k + 1 => by
    rw [goneN, Nat.testBit_or, Bool.or_eq_true, goneN_tb cr hp k, mem_ex hp]
    constructor
    · rintro (⟨j, hj, h⟩ | h)
      · exact ⟨j, by omega, h⟩
      · exact ⟨k, by omega, h⟩
    · rintro ⟨j, hj, h⟩
      by_cases z : j = k
      · subst z; exact Or.inr h
      · exact Or.inl ⟨j, by omega, h⟩
theorem goneN_lt (cr : Nat → Nat) : ∀ k, goneN cr k < 256
  | 0 => by rw [goneN]; omega
  | k + 1 => Nat.or_lt_two_pow (n := 8) (goneN_lt cr k) (mem_lt _)
theorem y_goneL {σ : St} {k : Nat} {cr : Nat → Nat} (hk : k ≤ 8) (h3 : σ 7 3 = nI k) (hc : ∀ j, j ≤ k → cr j < 2 ^ 24) (h8 : ∀ j, j ≤ k → σ 8 j = nI (cr j)) : ∀ (N j : Nat), j ≤ k → k < N + j → f_X1_gone_L4 σ N (nI (goneN cr j)) (nI j) = some (nI (goneN cr k)) := by
  intro N
  induction N with
  | zero => intro j h1 h2; omega
  | succ N ih =>
    intro j h1 h2
    rw [f_X1_gone_L4, h3]
    by_cases q : k ≤ j
    · have : j = k := by omega
      subst this
      rw [if_pos (nI_le q (by omega))]
    · rw [if_neg (nI_ge (by omega) (by omega)), y_crewOf (by omega), Option.bind_some, h8 j (by omega), y_mem (hc j (by omega)), z_or, nI_1]
      exact ih (j + 1) (by omega) (by omega)
theorem y_gone {σ : St} {k : Nat} {cr : Nat → Nat} (hk : k ≤ 8) (h3 : σ 7 3 = nI k) (hc : ∀ j, j ≤ k → cr j < 2 ^ 24) (h8 : ∀ j, j ≤ k → σ 8 j = nI (cr j)) : f_X1_gone σ = some (nI (goneN cr k)) := by
  unfold f_X1_gone
  have := fuel_ge
  have e := y_goneL hk h3 hc h8 fuel 0 (by omega) (by omega)
  rw [show nI (goneN cr 0) = 0 from rfl, show nI 0 = 0 from rfl] at e
  rw [e]
  rfl
theorem goneN_n {n k : Nat} {cr : Nat → Nat} (hO : crOK n k cr) {i : Nat} (h : (goneN cr k).testBit i = true) : i < n := by
  by_cases hi : i < 8
  · obtain ⟨j, hj, e, he, hb⟩ := (goneN_tb cr hi k).mp h
    exact hO.2.1 j e i (by omega) he hi hb
  · rw [tb_big (n := 8) (goneN_lt cr k) (by omega)] at h; cases h
theorem y_who_g {n k : Nat} {cr : Nat → Nat} {pl : Nat → Int32} (h8 : n ≤ 8) (hO : crOK n k cr) (hpl : ∀ p, p < n → plR k cr p (pl p)) : bset (fun p => decide (pl p = 20)) n = goneN cr k := by
  refine tb_ext (fun i => ?_)
  rw [bset_tb]
  by_cases hi : i < n
  · have h1 : decide (i < n) = true := by simpa using hi
    rw [h1, Bool.true_and]
    have hg := goneN_tb cr (show i < 8 by omega) k
    rcases hpl i hi with ⟨g, hv⟩ | ⟨g, ⟨e', he', hb, hv⟩ | ⟨hb, hv⟩⟩
    · rw [hv, hg.mpr g]; rfl
    · have : (goneN cr k).testBit i = false := by
        cases q : (goneN cr k).testBit i
        · rfl
        · exact absurd (hg.mp q) g
      rw [this, hv, decide_eq_false (y_20e he')]
    · have : (goneN cr k).testBit i = false := by
        cases q : (goneN cr k).testBit i
        · rfl
        · exact absurd (hg.mp q) g
      rw [this, hv]; rfl
  · have h1 : decide (i < n) = false := by simpa using hi
    rw [h1, Bool.false_and]
    cases q : (goneN cr k).testBit i
    · rfl
    · exact absurd (goneN_n hO q) hi
theorem y_shn {n : Nat} (h : n ≤ 8) : shl 1 (nI n) = nI (2 ^ n) := z_shl1 (by omega)
theorem y_waitN {n g : Nat} (h8 : n ≤ 8) (hg : g < 256) : (shl 1 (nI n) - 1) &&& (nI g ^^^ (-1)) = nI ((2 ^ n - 1) &&& (2 ^ 32 - 1 - g)) := by
  have h1 : 2 ^ n ≤ 2 ^ 8 := Nat.pow_le_pow_right (by omega) h8
  have h2 : 1 ≤ 2 ^ n := Nat.one_le_two_pow
  rw [y_shn h8, show nI (2 ^ n) - 1 = nI (2 ^ n - 1) from pk_sub (a := 2 ^ n) (b := 1) h2, z_not _ (by omega), Nat.mod_eq_of_lt (a := g) (by omega)]
theorem wait_tb {n g : Nat} (hg : g < 256) (i : Nat) : ((2 ^ n - 1) &&& (2 ^ 32 - 1 - g)).testBit i = (decide (i < n) && (decide (i < 32) && !g.testBit i)) := by
  rw [Nat.testBit_and, Nat.testBit_two_pow_sub_one, show 2 ^ 32 - 1 - g = 2 ^ 32 - (g + 1) by omega, Nat.testBit_two_pow_sub_succ (by omega)]
/-- those that wait -/
def waN (n : Nat) (cr : Nat → Nat) (k : Nat) : Nat := (2 ^ n - 1) &&& (2 ^ 32 - 1 - goneN cr k)
theorem waN_tb {n k : Nat} {cr : Nat → Nat} (h8 : n ≤ 8) (i : Nat) : (waN n cr k).testBit i = (decide (i < n) && !(goneN cr k).testBit i) := by
  unfold waN
  rw [wait_tb (goneN_lt cr k)]
  by_cases h : i < n
  · have : decide (i < 32) = true := by simp; omega
    rw [this, Bool.true_and]
  · simp [h]
theorem waN_lt (n : Nat) (cr : Nat → Nat) (k : Nat) : waN n cr k < 2 ^ n := by
  unfold waN
  have h2 : 1 ≤ 2 ^ n := Nat.one_le_two_pow
  exact Nat.lt_of_le_of_lt Nat.and_le_left (by omega)
theorem waN_is {n k : Nat} {cr : Nat → Nat} (h8 : n ≤ 8) : isWa n k cr (waN n cr k) := by
  refine ⟨waN_lt n cr k, fun p hp => ?_⟩
  rw [waN_tb h8, ← goneN_tb cr (show p < 8 by omega) k]
  simp [hp]
theorem isWa_u {n k : Nat} {cr : Nat → Nat} {Wa : Nat} (h8 : n ≤ 8) (h : isWa n k cr Wa) : Wa = waN n cr k := by
  refine tb_ext (fun i => ?_)
  by_cases hi : i < n
  · have a := h.2 i hi
    have b := (waN_is (n := n) (k := k) (cr := cr) h8).2 i hi
    cases q : Wa.testBit i <;> cases q2 : (waN n cr k).testBit i
    · rfl
    · rw [q2] at b; rw [q] at a; exact absurd (a.mpr (b.mp rfl)) (by decide)
    · rw [q2] at b; rw [q] at a; exact absurd (b.mpr (a.mp rfl)) (by decide)
    · rfl
  · rw [tb_big h.1 (by omega), tb_big (waN_lt n cr k) (by omega)]
theorem y_waitM {n k : Nat} {cr : Nat → Nat} {τ : St} (c3 : τ 0 5 = nI n) (c1 : n ≤ 8) (hO : crOK n k cr) (hpl : ∀ p, p < n → plR k cr p (τ 7 p)) : f_X5_waiting τ = some (nI (waN n cr k)) := by
  unfold f_X5_waiting
  rw [y_whoAt c3 c1, y_who_g c1 hO hpl, Option.bind_some, c3, y_waitN c1 (goneN_lt cr k)]
  rfl
/-! fares -/
theorem y_faresX_L {σ : St} {n s : Nat} (hn : σ 3 5 = nI n) (h8 : n ≤ 8) (hs : s < 2 ^ 31) : ∀ (N p : Nat), p ≤ n → n < N + p → f_X0_faresOf_L4 σ (nI s) N (sumI (σ 5) s p) (nI p) = some (sumI (σ 5) s n) := by
  intro N
  induction N with
  | zero => intro p h1 h2; omega
  | succ N ih =>
    intro p h1 h2
    rw [f_X0_faresOf_L4, hn]
    by_cases q : n ≤ p
    · have : p = n := by omega
      subst this
      rw [if_pos (nI_le q (by omega))]
    · rw [if_neg (nI_ge (by omega) (by omega)), z_chk (by omega) (by omega), nI_clamp (by omega), nI_1]
      have e := ih (p + 1) (by omega) (by omega)
      rw [sumI] at e
      by_cases z : s.testBit p = true
      · rw [if_neg (by rw [z_bit0 hs (by omega), z]; decide)]
        rw [if_pos z] at e
        exact e
      · have z : s.testBit p = false := by simpa using z
        rw [if_pos (by rw [z_bit0 hs (by omega)]; exact z)]
        rw [if_neg (by rw [z]; decide), i32_a0] at e
        exact e
theorem y_faresX {σ : St} {n s : Nat} (hn : σ 3 5 = nI n) (h8 : n ≤ 8) (hs : s < 2 ^ 31) : f_X0_faresOf σ (nI s) = some (sumI (σ 5) s n) := by
  unfold f_X0_faresOf
  have := fuel_ge
  have e := y_faresX_L hn h8 hs fuel 0 (by omega) (by omega)
  rw [show sumI (σ 5) s 0 = 0 from rfl, show nI 0 = 0 from rfl] at e
  rw [e]
  rfl
theorem y_faresM_L {τ : St} {n s : Nat} (hn : τ 0 5 = nI n) (h8 : n ≤ 8) (hs : s < 2 ^ 31) : ∀ (N p : Nat), p ≤ n → n < N + p → f_X5_fares_L4 τ (nI s) N (sumI (fun p => τ 4 (3 * p + 1)) s p) (nI p) = some (sumI (fun p => τ 4 (3 * p + 1)) s n) := by
  intro N
  induction N with
  | zero => intro p h1 h2; omega
  | succ N ih =>
    intro p h1 h2
    rw [f_X5_fares_L4, hn]
    by_cases q : n ≤ p
    · have : p = n := by omega
      subst this
      rw [if_pos (nI_le q (by omega))]
    · rw [if_neg (nI_ge (by omega) (by omega)), y_3p (by omega), show nI (3 * p) + 1 = nI (3 * p + 1) from nI_add _ 1, z_chk (by omega) (by omega), nI_clamp (by omega), nI_1]
      have e := ih (p + 1) (by omega) (by omega)
      rw [sumI] at e
      by_cases z : s.testBit p = true
      · rw [if_pos (by rw [z_bit1 hs (by omega)]; exact z)]
        rw [if_pos z] at e
        exact e
      · have z : s.testBit p = false := by simpa using z
        rw [if_neg (by rw [z_bit1 hs (by omega), z]; decide)]
        rw [if_neg (by rw [z]; decide)] at e
        exact e
theorem y_faresM {τ : St} {n s : Nat} (hn : τ 0 5 = nI n) (h8 : n ≤ 8) (hs : s < 2 ^ 31) : f_X5_fares τ (nI s) = some (sumI (fun p => τ 4 (3 * p + 1)) s n) := by
  unfold f_X5_fares
  have := fuel_ge
  have e := y_faresM_L hn h8 hs fuel 0 (by omega) (by omega)
  rw [show sumI (fun p => τ 4 (3 * p + 1)) s 0 = 0 from rfl, show nI 0 = 0 from rfl] at e
  rw [e]
  rfl
theorem far_rel {n : Nat} {σ τ : St} (h : CrR n σ τ) (s : Nat) : sumI (fun p => τ 4 (3 * p + 1)) s n = sumI (σ 5) s n := sumI_congr (fun p hp => (h.2.2.2.2.2.2.2.2.2 p hp).2.2.2.2.1) (fun _ _ => rfl)
