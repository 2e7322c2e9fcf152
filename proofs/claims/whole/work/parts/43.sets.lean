/-! pure: sets as both sides make and count them -/
theorem y_whoAt_L {τ : St} {n : Nat} (hn : τ 0 5 = nI n) (h8 : n ≤ 8) (x : Int32) : ∀ (N p : Nat), p ≤ n → n < N + p → f_X5_whoAt_L4 τ x N (nI (bset (fun p => decide (τ 7 p = x)) p)) (nI p) = some (nI (bset (fun p => decide (τ 7 p = x)) n)) := by
  intro N
  induction N with
  | zero => intro p h1 h2; omega
  | succ N ih =>
    intro p h1 h2
    rw [f_X5_whoAt_L4, hn]
    by_cases q : n ≤ p
    · have : p = n := by omega
      subst this
      rw [if_pos (nI_le q (by omega))]
    · rw [if_neg (nI_ge (by omega) (by omega)), z_chk (by omega) (by omega), nI_clamp (by omega), nI_1]
      by_cases z : τ 7 p = x
      · rw [if_pos z, show (1 : Int32) = nI 1 from rfl, z_shl (by omega) (by have : 2 ^ p ≤ 2 ^ 8 := Nat.pow_le_pow_right (by omega) (by omega); omega), z_or, Nat.one_mul]
        rw [← ih (p + 1) (by omega) (by omega)]
        rw [bset]
        simp only [z, decide_true, if_true]
      · rw [if_neg z, show (0 : Int32) = nI 0 from rfl, z_or, Nat.or_zero]
        rw [← ih (p + 1) (by omega) (by omega)]
        rw [bset]
        simp only [z, decide_false, Bool.false_eq_true, if_false, Nat.or_zero]
theorem y_whoAt {τ : St} {n : Nat} (hn : τ 0 5 = nI n) (h8 : n ≤ 8) (x : Int32) : f_X5_whoAt τ x = some (nI (bset (fun p => decide (τ 7 p = x)) n)) := by
  unfold f_X5_whoAt
  have := fuel_ge
  have e := y_whoAt_L hn h8 x fuel 0 (by omega) (by omega)
  rw [show nI (bset (fun p => decide (τ 7 p = x)) 0) = 0 from rfl, show nI 0 = 0 from rfl] at e
  rw [e]
  rfl
def popk (s : Nat) : Nat → Nat
  | 0 => 0
  | k + 1 => popk s k + s / 2 ^ k % 2
theorem popk_le (s : Nat) : ∀ k, popk s k ≤ k
  | 0 => Nat.le_refl _
  | k + 1 => by have := popk_le s k; rw [popk]; omega
theorem popk_8 (s : Nat) : popk s 8 = pop s := by
  simp only [popk, pop, Nat.reducePow, Nat.div_one, Nat.zero_add]
theorem y_ones_L {s : Nat} (hs : s < 2 ^ 31) : ∀ (N p : Nat), p ≤ 8 → 8 < N + p → f_X5_ones_L4 (nI s) N (nI (popk s p)) (nI p) = some (nI (pop s)) := by
  intro N
  induction N with
  | zero => intro p h1 h2; omega
  | succ N ih =>
    intro p h1 h2
    rw [f_X5_ones_L4, show (8 : Int32) = nI 8 from rfl]
    by_cases q : 8 ≤ p
    · have : p = 8 := by omega
      subst this
      rw [if_pos (nI_le q (by omega)), popk_8]
    · rw [if_neg (nI_ge (by omega) (by omega)), z_shr hs (by omega), z_and1, nI_add, nI_1]
      exact ih (p + 1) (by omega) (by omega)
theorem y_ones {s : Nat} (hs : s < 2 ^ 31) : f_X5_ones (nI s) = some (nI (pop s)) := by
  unfold f_X5_ones
  have := fuel_ge
  have e := y_ones_L hs fuel 0 (by omega) (by omega)
  rw [show nI (popk s 0) = 0 from rfl, show nI 0 = 0 from rfl] at e
  rw [e]
  rfl
/-! Integer.bitCount of three bytes -/
def J3 (a b c : Nat) : Nat := a + 256 * b + 65536 * c
theorem J3_tb {a b : Nat} (c : Nat) (ha : a < 256) (hb : b < 256) (i : Nat) : (J3 a b c).testBit i = if i < 8 then a.testBit i else if i < 16 then b.testBit (i - 8) else c.testBit (i - 16) := by
  have e : J3 a b c = 2 ^ 8 * (2 ^ 8 * c + b) + a := by unfold J3; omega
  rw [e, Nat.testBit_two_pow_mul_add _ (by omega)]
  split
  · rfl
  · rw [Nat.testBit_two_pow_mul_add _ (by omega)]
    by_cases h : i < 16
    · rw [if_pos (by omega), if_pos h]
    · rw [if_neg (by omega), if_neg h, Nat.sub_sub]
theorem J3_msk {a b c m k : Nat} (ha : a < 256) (hb : b < 256) (hc : c < 256) (hk : k ≤ 8) (hm : m < 2 ^ (8 - k)) : J3 a b c / 2 ^ k &&& (m + 256 * m + 65536 * m + 16777216 * m) = J3 (a / 2 ^ k &&& m) (b / 2 ^ k &&& m) (c / 2 ^ k &&& m) := by
  have hm8 : m < 256 := Nat.lt_of_lt_of_le hm (by have : 2 ^ (8 - k) ≤ 2 ^ 8 := Nat.pow_le_pow_right (by omega) (by omega); omega)
  have eM : m + 256 * m + 65536 * m + 16777216 * m = J3 m m (2 ^ 8 * m + m) := by unfold J3; omega
  have lt : ∀ x, x / 2 ^ k &&& m < 256 := fun x => Nat.lt_of_le_of_lt Nat.and_le_right hm8
  refine tb_ext (fun i => ?_)
  rw [Nat.testBit_and, Nat.testBit_div_two_pow, eM, J3_tb _ ha hb, J3_tb _ hm8 hm8, J3_tb _ (lt a) (lt b)]
  have big : ∀ j, 8 ≤ j + k → m.testBit j = false := fun j hj => tb_big hm (by omega)
  have cb : ∀ j, 8 ≤ j → c.testBit j = false := fun j hj => tb_big (n := 8) (by omega) hj
  by_cases h1 : i < 8
  · rw [if_pos h1, if_pos h1, Nat.testBit_and, Nat.testBit_div_two_pow]
    by_cases h2 : i + k < 8
    · rw [if_pos h2]
    · rw [big i (by omega)]; simp
  · rw [if_neg h1, if_neg h1, if_neg (show ¬ i + k < 8 by omega)]
    by_cases h3 : i < 16
    · rw [if_pos h3, if_pos h3, Nat.testBit_and, Nat.testBit_div_two_pow]
      by_cases h2 : i + k < 16
      · rw [if_pos h2, show i + k - 8 = i - 8 + k by omega]
      · rw [big (i - 8) (by omega)]; simp
    · rw [if_neg h3, if_neg h3, if_neg (show ¬ i + k < 16 by omega), Nat.testBit_and, Nat.testBit_div_two_pow, show i + k - 16 = i - 16 + k by omega, Nat.testBit_two_pow_mul_add _ hm8]
      by_cases h4 : i - 16 < 8
      · rw [if_pos h4]
      · rw [cb (i - 16 + k) (by omega)]; simp
def bc1 (a : Nat) : Nat := a - (a / 2 &&& 85)
def bc2 (a : Nat) : Nat := (bc1 a &&& 51) + (bc1 a / 4 &&& 51)
theorem bc_ok : ∀ a, a < 256 → (a / 2 &&& 85) ≤ a ∧ bc2 a ≤ 68 ∧ bc2 a % 16 ≤ 4 ∧ (bc2 a + bc2 a / 16) % 16 = pop a := by decide +kernel
theorem J3_q {a b c : Nat} (ha : a ≤ 16) (hb : b ≤ 16) : J3 a b c / 2 ^ 16 = c := by
  unfold J3
  omega
theorem J3_m {a b c : Nat} (ha : a ≤ 16) (hc : c ≤ 8) : (J3 a b c + c) % 64 = a + c := by
  unfold J3
  omega
theorem y_bc3 {a b c : Nat} (ha : a < 256) (hb : b < 256) (hc : c < 256) : f_J6_bitCount_0f7a4 (nI (J3 a b c)) = nI (pop a + pop b + pop c) := by
  obtain ⟨a1, a2, a3, a4⟩ := bc_ok a ha
  obtain ⟨b1, b2, b3, b4⟩ := bc_ok b hb
  obtain ⟨c1, c2, c3, c4⟩ := bc_ok c hc
  have pa := pop_le a
  have pb := pop_le b
  have pc := pop_le c
  have s1 : nI (J3 a b c) - (ush (nI (J3 a b c)) 1 &&& 1431655765) = nI (J3 (bc1 a) (bc1 b) (bc1 c)) := by
    have lt : J3 a b c < 2 ^ 24 := by unfold J3; omega
    rw [show (1 : Int32) = nI 1 from rfl, z_ush (by omega) (by omega), show (1431655765 : Int32) = nI (85 + 256 * 85 + 65536 * 85 + 16777216 * 85) from rfl, z_and, J3_msk ha hb hc (by omega) (by decide)]
    simp only [Nat.pow_one]
    rw [pk_sub (by unfold J3; omega)]
    unfold J3 bc1
    congr 1
    omega
  have l1 : bc1 a < 256 ∧ bc1 b < 256 ∧ bc1 c < 256 := by unfold bc1; omega
  have s2 : (nI (J3 (bc1 a) (bc1 b) (bc1 c)) &&& 858993459) + (ush (nI (J3 (bc1 a) (bc1 b) (bc1 c))) 2 &&& 858993459) = nI (J3 (bc2 a) (bc2 b) (bc2 c)) := by
    have lt : J3 (bc1 a) (bc1 b) (bc1 c) < 2 ^ 24 := by unfold J3; omega
    have h0 := J3_msk (k := 0) (m := 51) l1.1 l1.2.1 l1.2.2 (by omega) (by decide)
    simp only [Nat.pow_zero, Nat.div_one] at h0
    rw [show (2 : Int32) = nI 2 from rfl, z_ush (by omega) (by omega), show (858993459 : Int32) = nI (51 + 256 * 51 + 65536 * 51 + 16777216 * 51) from rfl, z_and, z_and, h0, J3_msk l1.1 l1.2.1 l1.2.2 (by omega) (by decide), nI_add]
    unfold J3 bc2
    congr 1
    rw [show (2 : Nat) ^ 2 = 4 from rfl]
    omega
  have s3 : (nI (J3 (bc2 a) (bc2 b) (bc2 c)) + ush (nI (J3 (bc2 a) (bc2 b) (bc2 c))) 4) &&& 252645135 = nI (J3 (pop a) (pop b) (pop c)) := by
    have lt : J3 (bc2 a) (bc2 b) (bc2 c) < 2 ^ 24 := by unfold J3; omega
    have e : J3 (bc2 a) (bc2 b) (bc2 c) + J3 (bc2 a) (bc2 b) (bc2 c) / 2 ^ 4 = J3 (bc2 a + bc2 a / 16 + 16 * (bc2 b % 16)) (bc2 b + bc2 b / 16 + 16 * (bc2 c % 16)) (bc2 c + bc2 c / 16) := by
      unfold J3
      omega
    have h0 := J3_msk (k := 0) (m := 15) (a := bc2 a + bc2 a / 16 + 16 * (bc2 b % 16)) (b := bc2 b + bc2 b / 16 + 16 * (bc2 c % 16)) (c := bc2 c + bc2 c / 16) (by omega) (by omega) (by omega) (by omega) (by decide)
    simp only [Nat.pow_zero, Nat.div_one] at h0
    have m15 : ∀ x, x &&& 15 = x % 16 := fun x => Nat.and_two_pow_sub_one_eq_mod x 4
    rw [show (4 : Int32) = nI 4 from rfl, z_ush (by omega) (by omega), nI_add, e, show (252645135 : Int32) = nI (15 + 256 * 15 + 65536 * 15 + 16777216 * 15) from rfl, z_and, h0, m15, m15, m15]
    congr 2 <;> omega
  have lt : J3 (pop a) (pop b) (pop c) < 2 ^ 24 := by unfold J3; omega
  have s4 : nI (J3 (pop a) (pop b) (pop c)) + ush (nI (J3 (pop a) (pop b) (pop c))) 8 = nI (J3 (pop a + pop b) (pop b + pop c) (pop c)) := by
    rw [show (8 : Int32) = nI 8 from rfl, z_ush (by omega) (by omega), nI_add]
    congr 1
    unfold J3
    omega
  have lt2 : J3 (pop a + pop b) (pop b + pop c) (pop c) < 2 ^ 24 := by unfold J3; omega
  have s5 : (nI (J3 (pop a + pop b) (pop b + pop c) (pop c)) + ush (nI (J3 (pop a + pop b) (pop b + pop c) (pop c))) 16) &&& 63 = nI (pop a + pop b + pop c) := by
    have m63 : ∀ x, x &&& 63 = x % 64 := fun x => Nat.and_two_pow_sub_one_eq_mod x 6
    rw [show (16 : Int32) = nI 16 from rfl, z_ush (by omega) (by omega), nI_add, show (63 : Int32) = nI 63 from rfl, z_and, m63]
    rw [J3_q (by omega) (by omega), J3_m (by omega) (by omega)]
  unfold f_J6_bitCount_0f7a4
  rw [s1, s2, s3, s4, s5]
theorem sit3 {c : Nat} (hc : c < 2 ^ 24) : c = J3 (sit c 0) (sit c 1) (sit c 2) := by
  unfold J3 sit
  simp only [Nat.mul_zero, Nat.pow_zero, Nat.div_one, Nat.mul_one, Nat.reducePow, Nat.reduceMul]
  omega
/-- bitCount of a crew -/
theorem y_bc {c : Nat} (hc : c < 2 ^ 24) : f_J6_bitCount_0f7a4 (nI c) = nI (pop (sit c 0) + pop (sit c 1) + pop (sit c 2)) := by
  have h := y_bc3 (sit_lt c 0) (sit_lt c 1) (sit_lt c 2)
  rw [← sit3 hc] at h
  exact h
theorem y_bcs {s : Nat} (hs : s < 256) : f_J6_bitCount_0f7a4 (nI s) = nI (pop s) := by
  have h := y_bc3 (a := s) (b := 0) (c := 0) hs (by omega) (by omega)
  rw [show J3 s 0 0 = s by unfold J3; omega] at h
  rw [h]
  rfl
