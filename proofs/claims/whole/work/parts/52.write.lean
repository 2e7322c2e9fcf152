/-! pure: write -/
-- some rows of kit/laws/BITS
theorem wb_tb (n : Nat) : (lN n).toBitVec = BitVec.ofNat 64 n := rfl
theorem wb_inj {a b : Int64} (h : a.toBitVec = b.toBitVec) : a = b := Int64.toBitVec_inj.mp h
theorem wb_tn {n : Nat} (h : n < 2 ^ 64) : (lN n).toBitVec.toNat = n := by rw [wb_tb, BitVec.toNat_ofNat, Nat.mod_eq_of_lt h]
theorem wb_of (x : Int64) : ∃ n, n < 2 ^ 64 ∧ x = lN n := ⟨x.toBitVec.toNat, x.toBitVec.isLt, wb_inj (by rw [wb_tb]; simp)⟩
theorem wb_c : ∀ k, k < 64 → ((nI k).toInt64 &&& 63) = lN k := by decide +kernel
theorem wb_cu : ∀ k, k < 64 → ((nI k).toInt64.toUInt64 &&& Int64.toUInt64 63) = UInt64.ofNat k := by decide +kernel
theorem wb_sm : ∀ k, k < 64 → (BitVec.ofNat 64 k).smod 64 = BitVec.ofNat 64 k := by decide +kernel
theorem wb_pw {a b : Nat} (h : a ≤ b) : 2 ^ b = 2 ^ a * 2 ^ (b - a) := by rw [← Nat.pow_add]; congr 1; omega
theorem wb_lt2 {a b : Nat} (h : a < b) : 2 ^ a < 2 ^ b := Nat.pow_lt_pow_right (by decide) h
theorem wb_mod (n : Nat) : lN n = lN (n % 2 ^ 64) := wb_inj (by rw [wb_tb, wb_tb]; apply BitVec.eq_of_toNat_eq; rw [BitVec.toNat_ofNat, BitVec.toNat_ofNat, Nat.mod_mod])
theorem wb_shr {n k : Nat} (hn : n < 2 ^ 64) (hk : k < 64) : ((lN n).toUInt64 >>> ((nI k).toInt64.toUInt64 &&& Int64.toUInt64 63)).toInt64 = lN (n / 2 ^ k) := by
  rw [wb_cu k hk]
  apply wb_inj
  apply BitVec.eq_of_toNat_eq
  show ((lN n).toUInt64 >>> UInt64.ofNat k).toNat = (BitVec.ofNat 64 _).toNat
  have h1 : (UInt64.ofNat k).toNat = k := by
    show (BitVec.ofNat 64 k).toNat = k
    rw [BitVec.toNat_ofNat, Nat.mod_eq_of_lt (by omega)]
  have h2 : (lN n).toUInt64.toNat = n := wb_tn hn
  rw [UInt64.toNat_shiftRight, h1, h2, Nat.mod_eq_of_lt hk, Nat.shiftRight_eq_div_pow, BitVec.toNat_ofNat, Nat.mod_eq_of_lt (Nat.lt_of_le_of_lt (Nat.div_le_self _ _) hn)]
theorem y_8y {y : Nat} (hy : y < 8) : (8 : Int32) * nI y = nI (8 * y) := pk_mul 8 y
theorem y_sar {m k : Nat} (hm : m < 2 ^ 64) (hk : k + 8 ≤ 64) : ((lN m >>> ((nI k).toInt64 &&& 63)) &&& (255 : Int64)).toInt32 = nI (m / 2 ^ k % 256) := by
  rw [wb_c k (by omega)]
  refine Int32.toBitVec_inj.mp ?_
  have e : (((lN m >>> lN k) &&& (255 : Int64)).toInt32).toBitVec = ((BitVec.ofNat 64 m).sshiftRight k &&& 255#64).setWidth 32 := by
    rw [Int64.toBitVec_toInt32, Int64.toBitVec_and, Int64.toBitVec_shiftRight, wb_tb, wb_tb, wb_sm k (by omega), BitVec.sshiftRight_eq', BitVec.toNat_ofNat, Nat.mod_eq_of_lt (a := k) (by omega), BitVec.signExtend_eq_setWidth_of_le _ (by omega)]
    rfl
  rw [e]
  refine BitVec.eq_of_getLsbD_eq (fun i hi => ?_)
  show _ = (BitVec.ofNat 32 (m / 2 ^ k % 256)).getLsbD i
  rw [BitVec.getLsbD_ofNat, BitVec.getLsbD_setWidth, BitVec.getLsbD_and, BitVec.getLsbD_sshiftRight, BitVec.getLsbD_ofNat, BitVec.getLsbD_ofNat, show (256 : Nat) = 2 ^ 8 from rfl, Nat.testBit_mod_two_pow, Nat.testBit_div_two_pow]
  rw [show (255 : Nat) = 2 ^ 8 - 1 from rfl, Nat.testBit_two_pow_sub_one]
  by_cases h8 : i < 8
  · have a1 : ¬ 64 ≤ i := by omega
    have a2 : k + i < 64 := by omega
    have a3 : i < 64 := by omega
    simp [h8, a1, a2, a3, hi, Nat.add_comm]
  · simp [h8]
theorem y_byte (v : Int64) {y : Nat} (hy : y < 8) : ∃ b, b < 256 ∧ (ushL v (8 * nI y)).toInt32 &&& 255 = nI b ∧ ((v >>> ((8 * nI y).toInt64 &&& 63)) &&& (255 : Int64)).toInt32 = nI b := by
  obtain ⟨m, hm, rfl⟩ := wb_of v
  refine ⟨m / 2 ^ (8 * y) % 256, Nat.mod_lt _ (by omega), ?_, ?_⟩
  · rw [y_8y hy]
    unfold ushL
    rw [wb_shr hm (by omega), lN_i, show (255 : Int32) = nI 255 from rfl, z_and, show (255 : Nat) = 2 ^ 8 - 1 from rfl, Nat.and_two_pow_sub_one_eq_mod]
  · rw [y_8y hy, y_sar hm (by omega)]
/-- the text's bytes agree up to a length -/
def TxL (len : Nat) (σ τ : St) : Prop := σ 1 1 = nI len ∧ τ 0 11 = nI len ∧ ∀ i, i < len → In (σ 2 i) 0 255 ∧ τ 8 i = σ 2 i
theorem y_writeL (v : Int64) : ∀ (m len : Nat) (σ τ : St) (N N' : Nat), m ≤ 8 → len + m ≤ 48 → m < N → m < N' → TxL len σ τ → ∃ σ2 τ2, f_X3_append_L5 v N σ (nI m - 1) = some σ2 ∧ f_X5_write_L34 v N' τ (nI m - 1) = some τ2 ∧ TxL (len + m) σ2 τ2 ∧ (∀ x, x ≠ 1 → x ≠ 2 → σ2 x = σ x) ∧ (∀ x, x ≠ 0 → x ≠ 8 → τ2 x = τ x) ∧ ∀ j, j ≠ 11 → τ2 0 j = τ 0 j := by
  intro m
  induction m with
  | zero =>
    intro len σ τ N N' h1 h2 h3 h4 hT
    obtain ⟨N, rfl⟩ : ∃ j, N = j + 1 := ⟨N - 1, by omega⟩
    obtain ⟨N', rfl⟩ : ∃ j, N' = j + 1 := ⟨N' - 1, by omega⟩
    refine ⟨σ, τ, ?_, ?_, hT, fun _ _ _ => rfl, fun _ _ _ => rfl, fun _ _ => rfl⟩
    · rw [f_X3_append_L5, if_pos (show nI 0 - 1 < 0 by decide)]
    · rw [f_X5_write_L34, if_pos (show nI 0 - 1 < 0 by decide)]
  | succ m ih =>
    intro len σ τ N N' h1 h2 h3 h4 hT
    obtain ⟨N, rfl⟩ : ∃ j, N = j + 1 := ⟨N - 1, by omega⟩
    obtain ⟨N', rfl⟩ : ∃ j, N' = j + 1 := ⟨N' - 1, by omega⟩
    obtain ⟨t1, t2, t3⟩ := hT
    obtain ⟨b, hb, e1, e2⟩ := y_byte v (y := m) (by omega)
    have c1 : ¬ (48 : Int32) ≤ nI len := nI_ge (a := len) (b := 48) (by omega) (by omega)
    rw [f_X3_append_L5, f_X5_write_L34, nI_pred, if_neg (nI_pos (by omega)), if_neg (nI_pos (by omega)), t1, t2, if_neg c1, z_chk (by omega) (by omega), z_chk (by omega) (by omega), nI_clamp (by omega), e1, e2, nI_1]
    obtain ⟨σ2, τ2, a1, a2, a3, a4, a5, a6⟩ := ih (len + 1) (up2 (up2 σ 2 len (nI b)) 1 1 (nI (len + 1))) (up2 (up2 τ 8 len (nI b)) 0 11 (nI (len + 1))) N N' (by omega) (by omega) (by omega) (by omega) ⟨rfl, rfl, fun i hi => by
      show In (up2 σ 2 len (nI b) 2 i) 0 255 ∧ up2 τ 8 len (nI b) 8 i = up2 σ 2 len (nI b) 2 i
      by_cases z : i = len
      · subst z
        rw [up2_s, up2_s]
        exact ⟨⟨b, by omega, by omega, rfl⟩, rfl⟩
      · rw [up2_i z, up2_i z]
        exact t3 i (by omega)⟩
    have em : nI m + (-1) = nI m - 1 := (Int32.sub_eq_add_neg _ _).symm
    refine ⟨σ2, τ2, by rw [em]; exact a1, by rw [em]; exact a2, by rw [show len + (m + 1) = len + 1 + m by omega]; exact a3, fun x x1 x2 => by rw [a4 x x1 x2, up2_c x1, up2_c x2], fun x x1 x2 => by rw [a5 x x1 x2, up2_c x1, up2_c x2], fun j hj => by rw [a6 j hj, up2_i hj, up2_c (by decide)]⟩
theorem sp_write {σ τ : St} (h : Inv σ τ) (x1 : Int32) (x2 : Int64) : ∃ (r : Int32) (σ2 : St) (τ2 : St), f_X4_write σ x1 x2 = some (r, σ2) ∧ f_X5_write τ x1 x2 = some (r, τ2) ∧ Inv σ2 τ2 := by
  obtain ⟨n, k, cr, ⟨len, t1, t2, t3, t4⟩, hC, hL, hK0, hK1, hP⟩ := id h
  unfold f_X4_write f_X5_write f_X3_append
  rcases y_rng x1 (lo := 1) (hi := 8) (lo' := 1) (hi' := 8) rfl rfl with ⟨q1, q2, q3⟩ | ⟨q1, q3⟩
  · have q0 : ¬ x1 < 0 := by rw [Int32.lt_iff_toInt_lt]; rw [Int32.le_iff_toInt_le] at q1; have : (1 : Int) ≤ x1.toInt := q1; show ¬ x1.toInt < 0; omega
    obtain ⟨m, hm, rfl⟩ := nI_of2 (x := x1) (M := 8) (n := 8) rfl q0 q2
    rw [if_neg (y_nlt.mpr q1), if_pos q2, q3, if_neg i10, t2, t3, nI_add]
    by_cases z : len + m ≤ 48
    · have := fuel_ge
      obtain ⟨σ2, τ2, a1, a2, a3, a4, a5, a6⟩ := y_writeL x2 m len σ τ fuel fuel hm z (by omega) (by omega) ⟨t2, t3, t4⟩
      rw [if_pos (show nI (len + m) ≤ 48 from nI_le (b := 48) z (by omega)), if_pos (show nI (len + m) ≤ 48 from nI_le (b := 48) z (by omega)), a1, a2]
      simp only [Option.bind_some]
      refine ⟨σ2 1 1, σ2, τ2, rfl, by rw [a3.1, a3.2.1], n, k, cr, ⟨len + m, z, a3⟩, ?_, ?_, ?_, ?_, fun Wa hW => ?_⟩
      · unfold CrR at *
        rw [a6 5 (by omega), a5 3 (by omega) (by omega), a5 4 (by omega) (by omega), a4 3 (by omega) (by omega), a4 4 (by omega) (by omega), a4 5 (by omega) (by omega), a4 6 (by omega) (by omega)]
        exact hC
      · refine hL.to ?_ ?_ (fun j hj => ?_) (fun j hj => ?_) (fun j hj => ?_) (fun p hp => ?_) (fun p hp => ?_) (fun p hp => ?_) (fun p hp => ?_) ?_ ?_
        · rw [a4 7 (by omega) (by omega)]
        · rw [a4 7 (by omega) (by omega)]
        · rw [a4 (7 + 1) (by omega) (by omega)]
        · rw [a4 (7 + 2) (by omega) (by omega)]
        · rw [a4 (7 + 3) (by omega) (by omega)]
        · rw [a5 7 (by omega) (by omega)]
        · rw [a5 5 (by omega) (by omega)]
        · rw [a5 6 (by omega) (by omega)]
        · rw [a5 9 (by omega) (by omega)]
        · rw [a6 14 (by omega)]
        · rw [a6 9 (by omega)]
      · unfold KpR at *
        rw [a4 11 (by omega) (by omega), a5 14 (by omega) (by omega), a5 15 (by omega) (by omega), a5 16 (by omega) (by omega), a5 17 (by omega) (by omega), a5 18 (by omega) (by omega), a5 19 (by omega) (by omega)]
        rcases hK0 with q | ⟨q, q', k', cr', q3⟩
        · exact Or.inl q
        · exact Or.inr ⟨q, q', k', cr', q3.to (by rw [a4 11 (by omega) (by omega)]) (by rw [a4 11 (by omega) (by omega)]) (fun j hj => by rw [a4 (11 + 1) (by omega) (by omega)]) (fun j hj => by rw [a4 (11 + 2) (by omega) (by omega)]) (fun j hj => by rw [a4 (11 + 3) (by omega) (by omega)]) (fun _ _ => rfl) (fun _ _ => rfl) (fun _ _ => rfl) (fun _ _ => rfl) rfl rfl⟩
      · unfold KpR at *
        rw [a4 15 (by omega) (by omega), a5 14 (by omega) (by omega), a5 15 (by omega) (by omega), a5 16 (by omega) (by omega), a5 17 (by omega) (by omega), a5 18 (by omega) (by omega), a5 19 (by omega) (by omega)]
        rcases hK1 with q | ⟨q, q', k', cr', q3⟩
        · exact Or.inl q
        · exact Or.inr ⟨q, q', k', cr', q3.to (by rw [a4 15 (by omega) (by omega)]) (by rw [a4 15 (by omega) (by omega)]) (fun j hj => by rw [a4 (15 + 1) (by omega) (by omega)]) (fun j hj => by rw [a4 (15 + 2) (by omega) (by omega)]) (fun j hj => by rw [a4 (15 + 3) (by omega) (by omega)]) (fun _ _ => rfl) (fun _ _ => rfl) (fun _ _ => rfl) (fun _ _ => rfl) rfl rfl⟩
      · exact (hP Wa hW).congr (a4 3 (by omega) (by omega)) (a4 4 (by omega) (by omega)) (a4 5 (by omega) (by omega)) (a4 6 (by omega) (by omega)) (by rw [a4 7 (by omega) (by omega)]) (a4 9 (by omega) (by omega)) (fun x x1 x2 => a4 x (by omega) (by omega))
    · have c : ¬ nI (len + m) ≤ 48 := nI_ge (a := 48) (b := len + m) (by omega) (by omega)
      rw [if_neg c, if_neg c]
      exact ⟨_, _, _, rfl, rfl, h⟩
  · refine ⟨-2, σ, τ, ?_, by rw [q3, if_pos rfl], h⟩
    by_cases z : x1 < 1
    · rw [if_pos z]
    · rw [if_neg z, if_neg (fun w => q1 ⟨y_nlt.mp z, w⟩)]
