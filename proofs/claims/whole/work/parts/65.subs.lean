/-! pure: all subsets of a set; who is ahead -/
theorem sub_step : ∀ (k : Nat) {o y s : Nat}, y < 2 ^ k → y &&& o = y → s &&& o = s → s < y → s ≤ (y - 1) &&& o
  | 0, o, y, s, hk, _, _, hlt => by simp at hk; omega
  | k + 1, o, y, s, hk, hy, hs, hlt => by
    have d : ∀ a b : Nat, a &&& b = 2 * (a / 2 &&& b / 2) + (a % 2 &&& b % 2) := fun a b => by
      have h1 := Nat.and_div_two_pow (a := a) (b := b) (n := 1)
      have h2 := Nat.and_mod_two_pow (a := a) (b := b) (n := 1)
      simp only [Nat.pow_one] at h1 h2
      omega
    have m2 : ∀ a b : Nat, a < 2 → b < 2 → a &&& b ≤ b ∧ a &&& b ≤ a ∧ (a = 1 → b = 1 → a &&& b = 1) := by
      intro a b ha hb
      have : a = 0 ∨ a = 1 := by omega
      have : b = 0 ∨ b = 1 := by omega
      rcases ‹a = 0 ∨ a = 1› with rfl | rfl <;> rcases ‹b = 0 ∨ b = 1› with rfl | rfl <;> decide
    have dy := d y o
    have ds := d s o
    have dn := d (y - 1) o
    have my := m2 (y % 2) (o % 2) (by omega) (by omega)
    have ms := m2 (s % 2) (o % 2) (by omega) (by omega)
    have mn := m2 ((y - 1) % 2) (o % 2) (by omega) (by omega)
    have ly : y / 2 &&& o / 2 ≤ y / 2 := Nat.and_le_left
    have ls : s / 2 &&& o / 2 ≤ s / 2 := Nat.and_le_left
    rw [Nat.pow_succ] at hk
    by_cases q : y % 2 = 1
    · have e : (y - 1) / 2 = y / 2 := by omega
      rw [e] at dn
      omega
    · have e : (y - 1) / 2 = y / 2 - 1 := by omega
      have ih := sub_step k (o := o / 2) (y := y / 2) (s := s / 2) (by omega) (by omega) (by omega) (by omega)
      rw [e] at dn
      have : (y - 1) % 2 = 1 := by omega
      have := mn.2.2
      omega
theorem and_sub {a b i : Nat} (h : a &&& b = a) (ha : a.testBit i = true) : b.testBit i = true := by
  rw [← h, Nat.testBit_and, Bool.and_eq_true] at ha
  exact ha.2
theorem and_of {a b : Nat} (h : ∀ i, a.testBit i = true → b.testBit i = true) : a &&& b = a := by
  refine tb_ext (fun i => ?_)
  rw [Nat.testBit_and]
  cases q : a.testBit i
  · rfl
  · rw [h i q]; rfl
theorem and_idem (a o : Nat) : (a &&& o) &&& o = a &&& o := by rw [Nat.and_assoc, Nat.and_self]
theorem sub_loopN {α : Type} (L : Nat → α → Int32 → Option α) (o : Nat) (I : (Nat → Prop) → α → Prop) (hend : ∀ N a, L (N + 1) a (-1) = some a)
    (hstep : ∀ N D y a, y &&& o = y → I D a → ∃ a', L (N + 1) a (nI y) = (if y = 0 then L N a' (-1) else L N a' (nI ((y - 1) &&& o))) ∧ I (fun s => D s ∨ s = y) a') : ∀ (N y : Nat) (a : α), y + 1 < N → y &&& o = y → I (fun s => s &&& o = s ∧ y < s) a → ∃ a', L N a (nI y) = some a' ∧ I (fun s => s &&& o = s) a' := by
  intro N
  induction N with
  | zero => intro y a h; omega
  | succ N ih =>
    intro y a h1 h2 h3
    obtain ⟨a', e1, e2⟩ := hstep N _ y a h2 h3
    rw [e1]
    by_cases q : y = 0
    · subst q
      rw [if_pos rfl]
      have : (fun s => (s &&& o = s ∧ 0 < s) ∨ s = 0) = (fun s => s &&& o = s) := by
        funext s
        refine propext ⟨?_, fun z => ?_⟩
        · rintro (z | z)
          · exact z.1
          · subst z; exact Nat.zero_and o
        · by_cases w : s = 0
          · exact Or.inr w
          · exact Or.inl ⟨z, by omega⟩
      rw [this] at e2
      obtain ⟨M, hM⟩ : ∃ M, N = M + 1 := ⟨N - 1, by omega⟩
      subst hM
      exact ⟨a', hend M a', e2⟩
    · rw [if_neg q]
      have le : (y - 1) &&& o ≤ y - 1 := Nat.and_le_left
      refine ih _ a' (by omega) (and_idem _ _) ?_
      have : (fun s => (s &&& o = s ∧ y < s) ∨ s = y) = (fun s => s &&& o = s ∧ (y - 1) &&& o < s) := by
        funext s
        refine propext ⟨?_, fun z => ?_⟩
        · rintro (z | z)
          · exact ⟨z.1, by omega⟩
          · subst z; exact ⟨h2, by omega⟩
        · by_cases w : s = y
          · exact Or.inr w
          · refine Or.inl ⟨z.1, ?_⟩
            by_cases w2 : s < y
            · have := sub_step y (Nat.lt_two_pow_self) h2 z.1 w2
              omega
            · omega
      rw [← this]
      exact e2
theorem sub_loop {α : Type} (L : Nat → α → Int32 → Option α) (o : Nat) (I : (Nat → Prop) → α → Prop) (ho : o < 256) (hend : ∀ N a, L (N + 1) a (-1) = some a)
    (hstep : ∀ N D y a, y &&& o = y → I D a → ∃ a', L (N + 1) a (nI y) = (if y = 0 then L N a' (-1) else L N a' (nI ((y - 1) &&& o))) ∧ I (fun s => D s ∨ s = y) a') (a : α) (h : I (fun _ => False) a) : ∃ a', L fuel a (nI o) = some a' ∧ I (fun s => s &&& o = s) a' := by
  have := fuel_ge
  refine sub_loopN L o I hend hstep fuel o a (by omega) (Nat.and_self o) ?_
  have : (fun s => s &&& o = s ∧ o < s) = (fun _ => False) := by
    funext s
    refine propext ⟨fun z => ?_, False.elim⟩
    have : s &&& o ≤ o := Nat.and_le_right
    omega
  rw [this]
  exact h
/-- the lowest bit -/
theorem low_bit {U p k : Nat} (hU : U < 2 ^ k) (hp : U.testBit p = true) (hq : ∀ q, q < p → U.testBit q = false) : U &&& (2 ^ k - U) = 2 ^ p := by
  have m0 : U % 2 ^ p = 0 := by
    refine tb_ext (fun i => ?_)
    rw [Nat.testBit_mod_two_pow, Nat.zero_testBit]
    by_cases h : i < p
    · rw [hq i h]; simp
    · simp [h]
  have d1 : U / 2 ^ p % 2 = 1 := by rw [z_tb, if_pos hp]
  have hd := Nat.div_add_mod U (2 ^ p)
  obtain ⟨r, hr⟩ : ∃ r, U / 2 ^ p = 2 * r + 1 := ⟨U / 2 ^ p / 2, by omega⟩
  have hpp : 1 ≤ 2 ^ p := Nat.one_le_two_pow
  have eU : U = 2 ^ p * (2 * r + 1) + 0 := by rw [← hr]; omega
  have eV : U - 1 = 2 ^ p * (2 * r) + (2 ^ p - 1) := by
    rw [Nat.mul_add, Nat.mul_one] at eU
    omega
  have hU1 : 1 ≤ U := by rw [eU]; exact Nat.le_trans hpp (by rw [Nat.mul_add, Nat.mul_one]; omega)
  refine tb_ext (fun i => ?_)
  rw [Nat.testBit_and, show 2 ^ k - U = 2 ^ k - ((U - 1) + 1) by omega, Nat.testBit_two_pow_sub_succ (by omega), tb_one, eV, Nat.testBit_two_pow_mul_add _ (by omega)]
  by_cases h : i < p
  · rw [hq i h]
    simp; omega
  · rw [if_neg h]
    have hb : U.testBit i = (2 * r + 1).testBit (i - p) := by
      rw [eU, Nat.testBit_two_pow_mul_add _ (by omega), if_neg h]
    rw [hb]
    by_cases h2 : i = p
    · subst h2
      have hik : i < k := by
        by_cases w : i < k
        · exact w
        · rw [tb_big hU (by omega)] at hp; cases hp
      rw [Nat.sub_self]
      simp [hik]
    · have : i - p = (i - p - 1) + 1 := by omega
      rw [this, Nat.testBit_succ, Nat.testBit_succ, show (2 * r + 1) / 2 = r by omega, show 2 * r / 2 = r by omega]
      cases r.testBit (i - p - 1) <;> simp [h2]
theorem z_low {U : Nat} (h : U < 2 ^ 31) : nI U &&& (-nI U) = nI (U &&& (2 ^ 32 - U)) := by
  refine Int32.toBitVec_inj.mp ?_
  show BitVec.ofNat 32 U &&& -(BitVec.ofNat 32 U) = BitVec.ofNat 32 (U &&& (2 ^ 32 - U))
  rw [BitVec.ofNat_and]
  congr 1
  refine BitVec.eq_of_toNat_eq ?_
  rw [BitVec.toNat_neg, BitVec.toNat_ofNat, BitVec.toNat_ofNat, Nat.mod_eq_of_lt (a := U) (by omega)]
theorem crewC_J (n c : Nat) : crewC n c = J3 (atE n c 0) (atE n c 1) (atE n c 2) := rfl
theorem crewC_lt {n : Nat} (h8 : n ≤ 8) (c : Nat) : crewC n c < 2 ^ 24 := by
  have h := p28 h8
  have a := atE_lt n c 0
  have b := atE_lt n c 1
  have d := atE_lt n c 2
  unfold crewC
  omega
theorem crewC_tb {n : Nat} (h8 : n ≤ 8) (c e p : Nat) (he : e < 3) (hp : p < 8) : (crewC n c).testBit (8 * e + p) = (atE n c e).testBit p := by
  have h := p28 h8
  have a := atE_lt n c 0
  have b := atE_lt n c 1
  rw [crewC_J, J3_tb _ (by omega) (by omega)]
  match e, he with
  | 0, _ => rw [if_pos (by omega)]; simp
  | 1, _ => rw [if_neg (by omega), if_pos (by omega)]; congr 1; omega
  | 2, _ => rw [if_neg (by omega), if_neg (by omega)]; congr 1; omega
theorem crewC_sit {n : Nat} (h8 : n ≤ 8) (c e : Nat) (he : e < 3) : sit (crewC n c) e = atE n c e := by
  refine tb_ext (fun i => ?_)
  rw [sit_tb]
  by_cases hi : i < 8
  · rw [crewC_tb h8 c e i he hi]; simp [hi]
  · rw [tb_big (atE_lt n c e) (by omega)]; simp [hi]
def valD (d p : Nat) : Nat := if d = 0 then 0 else 2 ^ (8 * (d - 1) + p)
theorem crew_msk {n : Nat} (h8 : n ≤ 8) {c p : Nat} (hp : p < n) : crewC n c &&& (2 ^ p * 65793) = valD (dig n c p) p := by
  have e : 2 ^ p * 65793 = J3 (2 ^ p) (2 ^ p) (2 ^ p) := by unfold J3; omega
  have hpp : 2 ^ p < 2 ^ 8 := Nat.pow_lt_pow_right (by omega) (by omega)
  have hd := dig_lt n c p
  have ba : ∀ e, e < 3 → (crewC n c).testBit (8 * e + p) = decide (dig n c p = e + 1) := fun e he => by
    rw [crewC_tb h8 c e p he (by omega), atE_tb]; simp [hp]
  have b0 := ba 0 (by omega)
  have b1 := ba 1 (by omega)
  have b2 := ba 2 (by omega)
  refine tb_ext (fun i => ?_)
  rw [Nat.testBit_and, e, J3_tb _ hpp hpp, tb_one, tb_one, tb_one]
  have hv : (valD (dig n c p) p).testBit i = (decide (dig n c p ≠ 0) && decide (i = 8 * (dig n c p - 1) + p)) := by
    unfold valD
    by_cases z : dig n c p = 0
    · simp [z]
    · rw [if_neg z, tb_one]; simp [z]
  rw [hv]
  by_cases i0 : i = 8 * 0 + p
  · rw [i0, b0, if_pos (by omega)]
    by_cases d : dig n c p = 1
    · simp [d]
    · have : ¬ (8 * 0 + p = 8 * (dig n c p - 1) + p ∧ dig n c p ≠ 0) := by omega
      by_cases d0 : dig n c p = 0
      · simp [d0]
      · have n1 : decide (8 * 0 + p = 8 * (dig n c p - 1) + p) = false := by simp; omega
        rw [n1]; simp [d]
  by_cases i1 : i = 8 * 1 + p
  · rw [i1, b1, if_neg (by omega), if_pos (by omega)]
    by_cases d : dig n c p = 2
    · simp [d]
    · by_cases d0 : dig n c p = 0
      · simp [d0]
      · have n1 : decide (8 * 1 + p = 8 * (dig n c p - 1) + p) = false := by simp; omega
        rw [n1]; simp [d]
  by_cases i2 : i = 8 * 2 + p
  · rw [i2, b2, if_neg (by omega), if_neg (by omega)]
    by_cases d : dig n c p = 3
    · simp [d]
    · by_cases d0 : dig n c p = 0
      · simp [d0]
      · have n1 : decide (8 * 2 + p = 8 * (dig n c p - 1) + p) = false := by simp; omega
        rw [n1]; simp [d]
  · have l : (if i < 8 then decide (i = p) else if i < 16 then decide (i - 8 = p) else decide (i - 16 = p)) = false := by
      split
      · simp; omega
      · split
        · simp; omega
        · simp; omega
    rw [l, Bool.and_false]
    by_cases d0 : dig n c p = 0
    · simp [d0]
    · have n1 : decide (i = 8 * (dig n c p - 1) + p) = false := by simp; omega
      rw [n1, Bool.and_false]
theorem valD_le {d d' p : Nat} (hd : d < 4) (hd' : d' < 4) : valD d' p ≤ valD d p ↔ d' ≤ d := by
  unfold valD
  by_cases z' : d' = 0
  · rw [if_pos z']; omega
  · rw [if_neg z']
    have h1 : 1 ≤ 2 ^ (8 * (d' - 1) + p) := Nat.one_le_two_pow
    by_cases z : d = 0
    · rw [if_pos z]; omega
    · rw [if_neg z, Nat.pow_le_pow_iff_right (by omega)]
      omega
theorem dig_first : ∀ (m : Nat) {n c c' : Nat}, m ≤ n → (∀ p, p < m → dig n c p = dig n c' p) ∨ ∃ p, p < m ∧ (∀ q, q < p → dig n c q = dig n c' q) ∧ dig n c p ≠ dig n c' p
  | 0, n, c, c', _ => Or.inl (fun p hp => absurd hp (by omega))
  | m + 1, n, c, c', hm => by
    rcases dig_first m (n := n) (c := c) (c' := c') (by omega) with h | ⟨p, p1, p2, p3⟩
    · by_cases q : dig n c m = dig n c' m
      · refine Or.inl (fun p hp => ?_)
        by_cases z : p = m
        · subst z; exact q
        · exact h p (by omega)
      · exact Or.inr ⟨m, by omega, h, q⟩
    · exact Or.inr ⟨p, by omega, p2, p3⟩
theorem y_ahead {n : Nat} (h8 : n ≤ 8) {c c' : Nat} (hc : c < 4 ^ n) (hc' : c' < 4 ^ n) : f_X2_isAhead (nI (crewC n c)) (nI (crewC n c')) = if c < c' then 1 else 0 := by
  unfold f_X2_isAhead
  by_cases hne : c = c'
  · subst hne
    rw [if_pos (Int32.le_refl _), if_neg (by omega)]
  have l1 := crewC_lt h8 c
  have l2 := crewC_lt h8 c'
  have lx : crewC n c ^^^ crewC n c' < 2 ^ 24 := Nat.xor_lt_two_pow l1 l2
  rcases dig_first n (c := c) (c' := c') (Nat.le_refl n) with h | ⟨p, p1, p2, p3⟩
  · exact absurd (dig_ext n hc hc' h) hne
  have d1 := dig_lt n c p
  have d2 := dig_lt n c' p
  rw [z_xor, show (8 : Int32) = nI 8 from rfl, show (16 : Int32) = nI 16 from rfl, z_ush (by omega) (by omega), z_ush (by omega) (by omega), z_or, z_or]
  have xb : ∀ e q, e < 3 → q < 8 → (crewC n c ^^^ crewC n c').testBit (8 * e + q) = (decide (q < n) && (decide (dig n c q = e + 1) ^^ decide (dig n c' q = e + 1))) := fun e q he hq => by
    rw [Nat.testBit_xor, crewC_tb h8 c e q he hq, crewC_tb h8 c' e q he hq, atE_tb, atE_tb]
    by_cases w : q < n <;> simp [w]
  have ub : ∀ q, q < 8 → ((crewC n c ^^^ crewC n c') ||| (crewC n c ^^^ crewC n c') / 2 ^ 8 ||| (crewC n c ^^^ crewC n c') / 2 ^ 16).testBit q = ((crewC n c ^^^ crewC n c').testBit (8 * 0 + q) || (crewC n c ^^^ crewC n c').testBit (8 * 1 + q) || (crewC n c ^^^ crewC n c').testBit (8 * 2 + q)) := fun q hq => by
    rw [Nat.testBit_or, Nat.testBit_or, Nat.testBit_div_two_pow, Nat.testBit_div_two_pow, Nat.add_comm q 8, Nat.add_comm q 16]
    simp
  have uL : ((crewC n c ^^^ crewC n c') ||| (crewC n c ^^^ crewC n c') / 2 ^ 8 ||| (crewC n c ^^^ crewC n c') / 2 ^ 16) < 2 ^ 24 := by
    refine Nat.or_lt_two_pow (Nat.or_lt_two_pow lx ?_) ?_
    · exact Nat.lt_of_le_of_lt (Nat.div_le_self _ _) lx
    · exact Nat.lt_of_le_of_lt (Nat.div_le_self _ _) lx
  have low := low_bit (k := 32) (p := p) (U := ((crewC n c ^^^ crewC n c') ||| (crewC n c ^^^ crewC n c') / 2 ^ 8 ||| (crewC n c ^^^ crewC n c') / 2 ^ 16)) (by omega) (by
    rw [ub p (by omega), xb 0 p (by omega) (by omega), xb 1 p (by omega) (by omega), xb 2 p (by omega) (by omega)]
    have hp : decide (p < n) = true := by simpa using p1
    rw [hp]
    have e1 : dig n c p = 0 ∨ dig n c p = 1 ∨ dig n c p = 2 ∨ dig n c p = 3 := by omega
    have e2 : dig n c' p = 0 ∨ dig n c' p = 1 ∨ dig n c' p = 2 ∨ dig n c' p = 3 := by omega
    rcases e1 with e1 | e1 | e1 | e1 <;> rcases e2 with e2 | e2 | e2 | e2 <;> rw [e1, e2] <;> first | rfl | (rw [e1, e2] at p3; exact absurd rfl p3)) (fun q hq => by
    rw [ub q (by omega), xb 0 q (by omega) (by omega), xb 1 q (by omega) (by omega), xb 2 q (by omega) (by omega), p2 q hq]
    simp)
  rw [z_low (by omega), low, show nI (2 ^ p) * 65793 = nI (2 ^ p * 65793) from pk_mul _ 65793, z_and, z_and, crew_msk h8 p1, crew_msk h8 p1]
  have v1 : valD (dig n c p) p < 2 ^ 31 := by
    unfold valD
    split
    · omega
    · exact Nat.pow_lt_pow_right (by omega) (by omega)
  have v2 : valD (dig n c' p) p < 2 ^ 31 := by
    unfold valD
    split
    · omega
    · exact Nat.pow_lt_pow_right (by omega) (by omega)
  simp only [z_le v2 v1, valD_le d1 d2]
  by_cases q : dig n c' p ≤ dig n c p
  · rw [if_pos q, if_neg]
    have := dig_ord n hc' hc p1 (fun q' hq' => (p2 q' hq').symm) (by omega)
    omega
  · rw [if_neg q, if_pos]
    exact dig_ord n hc hc' p1 p2 (by omega)
