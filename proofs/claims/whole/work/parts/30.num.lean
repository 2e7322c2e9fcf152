/-! pure: numbers and bits -/
abbrev St : Type := Nat → Nat → Int32
theorem z_lit (n : Nat) : (OfNat.ofNat n : Int32) = nI n := rfl
theorem z_chk {α : Type} {i n : Nat} {k : Option α} (h : i < n) (hn : n < 2 ^ 31) : chk (nI i) n k = k := chk_in (vp_in_nI h hn)
theorem z_le {a b : Nat} (ha : a < 2 ^ 31) (hb : b < 2 ^ 31) : (nI a ≤ nI b) = (a ≤ b) := propext (nI_leI ha hb)
theorem z_lt {a b : Nat} (ha : a < 2 ^ 31) (hb : b < 2 ^ 31) : (nI a < nI b) = (a < b) := propext (nI_ltI ha hb)
theorem z_eq {a b : Nat} (ha : a < 2 ^ 31) (hb : b < 2 ^ 31) : (nI a = nI b) = (a = b) := propext (nI_eq ha hb)
theorem z_toInt (x : Int32) : -2147483648 ≤ x.toInt ∧ x.toInt < 2147483648 := ⟨by have := Int32.le_toInt x; simpa using this, by have := Int32.toInt_lt x; simpa using this⟩
theorem z_of {x : Int32} {k : Nat} (h : x.toInt = (k : Int)) : x = nI k := by
  have h1 := (z_toInt x).2
  refine Int32.toInt_inj.mp ?_
  rw [h, nI_toInt (by omega)]
theorem z_ofL {x : Int32} (h : 0 ≤ x.toInt) : ∃ k : Nat, x = nI k ∧ (k : Int) = x.toInt := ⟨x.toInt.toNat, z_of (by omega), by omega⟩
theorem z_and (a b : Nat) : nI a &&& nI b = nI (a &&& b) := by
  refine Int32.toBitVec_inj.mp ?_
  show (BitVec.ofNat 32 a &&& BitVec.ofNat 32 b) = BitVec.ofNat 32 (a &&& b)
  exact (BitVec.ofNat_and ..).symm
theorem z_or (a b : Nat) : nI a ||| nI b = nI (a ||| b) := by
  refine Int32.toBitVec_inj.mp ?_
  show (BitVec.ofNat 32 a ||| BitVec.ofNat 32 b) = BitVec.ofNat 32 (a ||| b)
  exact (BitVec.ofNat_or ..).symm
theorem z_xor (a b : Nat) : nI a ^^^ nI b = nI (a ^^^ b) := by
  refine Int32.toBitVec_inj.mp ?_
  show (BitVec.ofNat 32 a ^^^ BitVec.ofNat 32 b) = BitVec.ofNat 32 (a ^^^ b)
  exact (BitVec.ofNat_xor ..).symm
theorem z_shc : ∀ p, p < 32 → ((nI p &&& 31).toBitVec.smod 32).toNat = p := by decide +kernel
theorem z_shu : ∀ p, p < 32 → (((nI p).toUInt32 &&& Int32.toUInt32 31).toBitVec % 32).toNat = p := by decide +kernel
theorem z_shl {a p : Nat} (hp : p < 32) (h : a * 2 ^ p < 2 ^ 32) : shl (nI a) (nI p) = nI (a * 2 ^ p) := pk_shlN _ p (z_shc p hp) h
theorem z_shr {a p : Nat} (ha : a < 2 ^ 31) (hp : p < 32) : shr (nI a) (nI p) = nI (a / 2 ^ p) := pk_shrN ha _ p (z_shc p hp)
theorem z_ush {a p : Nat} (ha : a < 2 ^ 32) (hp : p < 32) : ush (nI a) (nI p) = nI (a / 2 ^ p) := pk_ushrN ha _ p (z_shu p hp)
theorem z_tb (a p : Nat) : a / 2 ^ p % 2 = if a.testBit p then 1 else 0 := by
  rw [Nat.testBit_eq_decide_div_mod_eq]
  have h := Nat.mod_lt (a / 2 ^ p) (show 0 < 2 by omega)
  by_cases q : a / 2 ^ p % 2 = 1
  · simp [q]
  · have : a / 2 ^ p % 2 = 0 := by omega
    simp [this]
theorem z_and1 (a : Nat) : nI a &&& 1 = nI (a % 2) := by
  rw [show (1 : Int32) = nI 1 from rfl, z_and, Nat.and_one_is_mod]
/-- the bit of a set, as both sides ask for it -/
theorem z_bit {a p : Nat} (ha : a < 2 ^ 31) (hp : p < 32) : (shr (nI a) (nI p)) &&& 1 = nI (if a.testBit p then 1 else 0) := by
  rw [z_shr ha hp, z_and1, z_tb]
theorem z_bit0 {a p : Nat} (ha : a < 2 ^ 31) (hp : p < 32) : ((shr (nI a) (nI p)) &&& 1 = 0) = (a.testBit p = false) := by
  rw [z_bit ha hp]
  cases a.testBit p <;> simp <;> decide
theorem z_bit1 {a p : Nat} (ha : a < 2 ^ 31) (hp : p < 32) : ((shr (nI a) (nI p)) &&& 1 = 1) = (a.testBit p = true) := by
  rw [z_bit ha hp]
  cases a.testBit p <;> simp <;> decide
theorem z_not {a : Nat} (b : Nat) (ha : a < 2 ^ 31) : nI a &&& (nI b ^^^ (-1)) = nI (a &&& (2 ^ 32 - 1 - b % 2 ^ 32)) := by
  refine Int32.toBitVec_inj.mp ?_
  show BitVec.ofNat 32 a &&& (BitVec.ofNat 32 b ^^^ BitVec.allOnes 32) = BitVec.ofNat 32 (a &&& (2 ^ 32 - 1 - b % 2 ^ 32))
  rw [BitVec.xor_allOnes, BitVec.ofNat_and]
  congr 1
  refine BitVec.eq_of_toNat_eq ?_
  rw [BitVec.toNat_not, BitVec.toNat_ofNat, BitVec.toNat_ofNat, Nat.mod_eq_of_lt (a := 2 ^ 32 - 1 - b % 2 ^ 32) (by omega)]
/-- the set of those below n that P names -/
def bset (P : Nat → Bool) : Nat → Nat
  | 0 => 0
  | n + 1 => bset P n ||| (if P n then 2 ^ n else 0)
theorem bset_tb (P : Nat → Bool) : ∀ n i, (bset P n).testBit i = (decide (i < n) && P i)
  | 0, i => by simp [bset]
  | n + 1, i => by
    rw [bset, Nat.testBit_or, bset_tb P n i]
    by_cases h : i = n
    · subst h
      by_cases q : P i = true
      · simp [q, Nat.testBit_two_pow_self]
      · simp [q]
    · have : (if P n = true then 2 ^ n else 0).testBit i = false := by
        split
        · exact Nat.testBit_two_pow_of_ne (by omega)
        · exact Nat.zero_testBit i
      rw [this, Bool.or_false]
      have : decide (i < n + 1) = decide (i < n) := by
        by_cases q : i < n
        · simp [q]; omega
        · simp [q]; omega
      rw [this]
theorem bset_lt (P : Nat → Bool) (n : Nat) : bset P n < 2 ^ n := by
  refine Nat.lt_pow_two_of_testBit _ (fun i hi => ?_)
  rw [bset_tb]
  simp
  omega
theorem tb_ext {a b : Nat} (h : ∀ i, a.testBit i = b.testBit i) : a = b := Nat.eq_of_testBit_eq h
theorem tb_big {a n i : Nat} (h : a < 2 ^ n) (hi : n ≤ i) : a.testBit i = false := Nat.testBit_lt_two_pow (Nat.lt_of_lt_of_le h (Nat.pow_le_pow_right (by omega) hi))
/-- how many of the low eight bits -/
def pop (s : Nat) : Nat := s % 2 + s / 2 % 2 + s / 4 % 2 + s / 8 % 2 + s / 16 % 2 + s / 32 % 2 + s / 64 % 2 + s / 128 % 2
theorem pop_le (s : Nat) : pop s ≤ 8 := by unfold pop; omega
