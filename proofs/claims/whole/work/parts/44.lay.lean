/-! pure: lay, unlay -/
theorem upS {α : Type} {f : Nat → α} {k : Nat} {v : α} : va_up f k v k = v := if_pos rfl
theorem upN {α : Type} {f : Nat → α} {k j : Nat} {v : α} (h : ¬ j = k) : va_up f k v j = f j := if_neg h
def bN (s i : Nat) : Nat := if s.testBit i then 1 else 0
theorem pop_bN (s : Nat) : pop s = bN s 0 + bN s 1 + bN s 2 + bN s 3 + bN s 4 + bN s 5 + bN s 6 + bN s 7 := by
  unfold pop bN
  rw [← z_tb, ← z_tb, ← z_tb, ← z_tb, ← z_tb, ← z_tb, ← z_tb, ← z_tb]
  simp only [Nat.reducePow, Nat.pow_zero, Nat.div_one, Nat.pow_one]
theorem bN_or {a b i : Nat} (h : ¬ (a.testBit i = true ∧ b.testBit i = true)) : bN (a ||| b) i = bN a i + bN b i := by
  unfold bN
  rw [Nat.testBit_or]
  cases ha : a.testBit i <;> cases hb : b.testBit i <;> simp [ha, hb] at h ⊢
theorem pop_or {a b : Nat} (h : ∀ i, i < 8 → ¬ (a.testBit i = true ∧ b.testBit i = true)) : pop (a ||| b) = pop a + pop b := by
  rw [pop_bN, pop_bN, pop_bN, bN_or (h 0 (by omega)), bN_or (h 1 (by omega)), bN_or (h 2 (by omega)), bN_or (h 3 (by omega)), bN_or (h 4 (by omega)), bN_or (h 5 (by omega)), bN_or (h 6 (by omega)), bN_or (h 7 (by omega))]
  omega
theorem pop_congr {a b : Nat} (h : ∀ i, i < 8 → a.testBit i = b.testBit i) : pop a = pop b := by
  rw [pop_bN, pop_bN]
  unfold bN
  rw [h 0 (by omega), h 1 (by omega), h 2 (by omega), h 3 (by omega), h 4 (by omega), h 5 (by omega), h 6 (by omega), h 7 (by omega)]
theorem pop_0 : pop 0 = 0 := rfl
theorem pop_pos {s : Nat} (h : s < 256) : pop s = 0 ↔ s = 0 := by
  refine ⟨fun q => ?_, fun q => by rw [q]; rfl⟩
  rw [pop_bN] at q
  refine tb_ext (fun i => ?_)
  rw [Nat.zero_testBit]
  by_cases hi : i < 8
  · have : bN s i = 0 := by
      match i, hi with
      | 0, _ => omega
      | 1, _ => omega
      | 2, _ => omega
      | 3, _ => omega
      | 4, _ => omega
      | 5, _ => omega
      | 6, _ => omega
      | 7, _ => omega
    unfold bN at this
    cases hb : s.testBit i
    · rfl
    · rw [hb] at this; simp at this
  · exact tb_big (n := 8) (by omega) (by omega)
/-- all of a crew -/
def mem (c : Nat) : Nat := sit c 0 ||| sit c 1 ||| sit c 2
theorem mem_tb (c p : Nat) : (mem c).testBit p = (decide (p < 8) && (c.testBit p || c.testBit (8 + p) || c.testBit (16 + p))) := by
  unfold mem
  rw [Nat.testBit_or, Nat.testBit_or, sit_tb, sit_tb, sit_tb]
  simp only [Nat.mul_zero, Nat.zero_add, Nat.mul_one, Nat.reduceMul]
  cases decide (p < 8) <;> simp
theorem mem_lt (c : Nat) : mem c < 256 := by
  refine Nat.lt_pow_two_of_testBit (n := 8) _ (fun i hi => ?_)
  rw [mem_tb]
  simp
  omega
theorem y_mem {c : Nat} (hc : c < 2 ^ 24) : f_X4_members (nI c) = nI (mem c) := by
  unfold f_X4_members
  rw [show (8 : Int32) = nI 8 from rfl, show (16 : Int32) = nI 16 from rfl, show (255 : Int32) = nI 255 from rfl, z_ush (by omega) (by omega), z_ush (by omega) (by omega), z_or, z_or, z_and]
  congr 1
  refine tb_ext (fun i => ?_)
  rw [mem_tb, Nat.testBit_and, Nat.testBit_or, Nat.testBit_or, Nat.testBit_div_two_pow, Nat.testBit_div_two_pow, show (255 : Nat) = 2 ^ 8 - 1 from rfl, Nat.testBit_two_pow_sub_one, Nat.add_comm i 8, Nat.add_comm i 16, Bool.and_comm]
theorem mem_ex {c p : Nat} (hp : p < 8) : (mem c).testBit p = true ↔ ∃ e, e < 3 ∧ c.testBit (8 * e + p) = true := by
  rw [mem_tb]
  simp only [hp, decide_true, Bool.true_and, Bool.or_eq_true]
  constructor
  · rintro ((h | h) | h)
    · exact ⟨0, by omega, by simpa using h⟩
    · exact ⟨1, by omega, h⟩
    · exact ⟨2, by omega, h⟩
  · rintro ⟨e, he, h⟩
    match e, he with
    | 0, _ => exact Or.inl (Or.inl (by simpa using h))
    | 1, _ => exact Or.inl (Or.inr h)
    | 2, _ => exact Or.inr h
/-- those that the reference finds at an END -/
theorem y_who_e {n k : Nat} {cr : Nat → Nat} {pl : Nat → Int32} (h8 : n ≤ 8) (hO : crOK n k cr) (hpl : ∀ p, p < n → plR k cr p (pl p)) {e : Nat} (he : e < 3) : bset (fun p => decide (pl p = nI e)) n = sit (cr k) e := by
  refine tb_ext (fun i => ?_)
  rw [bset_tb, sit_tb]
  by_cases hi : i < n
  · have h1 : decide (i < n) = true := by simpa using hi
    have h2 : decide (i < 8) = true := by simp; omega
    rw [h1, h2, Bool.true_and, Bool.true_and]
    rcases hpl i hi with ⟨⟨j, hj, e', he', hb⟩, hv⟩ | ⟨-, ⟨e', he', hb, hv⟩ | ⟨hb, hv⟩⟩
    · rw [hv, show (20 : Int32) = nI 20 from rfl]
      have : (cr k).testBit (8 * e + i) = false := by
        cases q : (cr k).testBit (8 * e + i)
        · rfl
        · have := (hO.2.2 j e' k e i (by omega) (by omega) he' he (by omega) hb q).1
          omega
      rw [this, decide_eq_false]
      rw [z_eq (by omega) (by omega)]
      omega
    · rw [hv]
      by_cases z : e' = e
      · subst z
        rw [hb]
        simp
      · have : (cr k).testBit (8 * e + i) = false := by
          cases q : (cr k).testBit (8 * e + i)
          · rfl
          · exact absurd (hO.2.2 k e' k e i (by omega) (by omega) he' he (by omega) hb q).2 z
        rw [this, decide_eq_false]
        rw [z_eq (by omega) (by omega)]
        exact z
    · rw [hv, hb e he, show (10 : Int32) = nI 10 from rfl, decide_eq_false]
      rw [z_eq (by omega) (by omega)]
      omega
  · have h1 : decide (i < n) = false := by simpa using hi
    rw [h1, Bool.false_and]
    by_cases h2 : i < 8
    · cases q : (cr k).testBit (8 * e + i)
      · simp
      · exact absurd (hO.2.1 k e i (by omega) he h2 q) hi
    · simp [h2]
theorem y_willX {σ : St} {n en p e : Nat} (c2 : σ 3 5 = nI n) (c1 : n ≤ 8) (z3 : σ 3 0 = nI en) (z2 : en ≤ 3) (hp : p < n) (he : e < en) : f_X0_willSit σ (nI p) (nI e) = some (if σ 6 p = 3 ∨ σ 6 p = nI e then 1 else 0) := by
  unfold f_X0_willSit
  have e1 : f_X0_hasEnd σ (nI e) = 1 := by
    rcases y_end z3 z2 (nI e) with ⟨_, _, _, h⟩ | ⟨h | h, _⟩
    · exact h
    · exact absurd h (nI_pos (by omega))
    · exact absurd h (nI_ge he (by omega))
  have e2 : f_X0_hasPerson σ (nI p) = 1 := by
    rcases y_pers c2 c1 (nI p) with ⟨_, _, _, h⟩ | ⟨h | h, _⟩
    · exact h
    · exact absurd h (nI_pos (by omega))
    · exact absurd h (nI_ge hp (by omega))
  rw [e1, e2, if_neg i10, if_neg i10, z_chk (by omega) (by omega), nI_clamp (by omega)]
  by_cases a : σ 6 p = 3
  · rw [if_pos a, if_pos (Or.inl a)]
  · rw [if_neg a, z_chk (by omega) (by omega)]
    by_cases b : σ 6 p = nI e
    · rw [if_pos b, if_pos (Or.inr b)]
    · rw [if_neg b, if_neg (by rintro (h | h) <;> contradiction)]
theorem y_willM {τ : St} {p e : Nat} (hp : p < 8) : f_X5_willSit τ (nI p) (nI e) = some (if τ 4 (3 * p + 2) = 3 ∨ τ 4 (3 * p + 2) = nI e then 1 else 0) := by
  unfold f_X5_willSit
  rw [y_3p hp, show nI (3 * p) + 2 = nI (3 * p + 2) from nI_add _ 2, z_chk (by omega) (by omega), nI_clamp (by omega), z_chk (by omega) (by omega)]
  by_cases a : τ 4 (3 * p + 2) = 3
  · rw [if_pos a, if_pos (Or.inl a)]
  · rw [if_neg a]
    by_cases b : τ 4 (3 * p + 2) = nI e
    · rw [if_pos b, if_pos (Or.inr b)]
    · rw [if_neg b, if_neg (by rintro (h | h) <;> contradiction)]
theorem y_seat {c p e : Nat} (hp : p < 8) (he : e < 3) : f_X4_seat (nI c) (nI p) (nI e) = nI (c ||| 2 ^ (8 * e + p)) := by
  unfold f_X4_seat
  rw [show (8 : Int32) * nI e = nI (8 * e) from pk_mul 8 e, nI_add, show (1 : Int32) = nI 1 from rfl, z_shl (by omega) (by have : 2 ^ (8 * e + p) ≤ 2 ^ 23 := Nat.pow_le_pow_right (by omega) (by omega); omega), z_or, Nat.one_mul]
theorem y_setLaid {σ : St} {k : Nat} (hk : k ≤ 8) (h : σ 7 3 = nI k) (x : Int32) : f_X1_setLaid σ x = some (up2 σ 8 k x) := by
  unfold f_X1_setLaid
  rw [h, if_neg (nI_pos (by omega)), show (8 : Int32) = nI 8 from rfl, if_neg (nI_nlt (by omega) (by omega)), z_chk (by omega) (by omega), nI_clamp (by omega)]
/-- another crew is laid -/
theorem Lg_laid {n k : Nat} {cr : Nat → Nat} {σ : St} {pl gn cl lf pl' : Nat → Int32} {bo mi : Int32} (hL : LgR n k cr σ 7 pl gn cl lf bo mi) (c' : Nat) (hO : crOK n k (va_up cr k c')) (hpl : ∀ p, p < n → plR k (va_up cr k c') p (pl' p)) : LgR n k (va_up cr k c') (up2 σ 8 k (nI c')) 7 pl' gn cl lf bo mi := by
  obtain ⟨l1, l2, l3, l4, l5, l6, l7, l8, l9, l10, l11⟩ := hL
  refine ⟨l1, l2, l3, l4, l5, hO, fun j hj => ?_, l8, l9, fun j e hj he => ?_, hpl⟩
  · show up2 σ 8 k (nI c') 8 j = _
    by_cases z : j = k
    · subst z
      rw [up2_s, upS]
    · rw [up2_i z, upN z]
      exact l7 j hj
  · rw [l10 j e hj he, upN (by omega)]
theorem gone_laid {k p : Nat} {cr : Nat → Nat} (c' : Nat) : goneB k (va_up cr k c') p ↔ goneB k cr p := by
  constructor
  · rintro ⟨j, hj, e, he, hb⟩
    rw [upN (by omega)] at hb
    exact ⟨j, hj, e, he, hb⟩
  · rintro ⟨j, hj, e, he, hb⟩
    exact ⟨j, hj, e, he, by rw [upN (by omega)]; exact hb⟩
/-- the whole relation, when another crew is laid -/
theorem Inv_laid {n k : Nat} {cr : Nat → Nat} {σ τ : St} (h : InvW n k cr σ τ) (c' : Nat) (pl' : Nat → Int32) (hO : crOK n k (va_up cr k c')) (hpl : ∀ p, p < n → plR k (va_up cr k c') p (pl' p)) (τ' : St) (h7 : ∀ p, p < n → τ' 7 p = pl' p) (hr : ∀ x, x ≠ 7 → τ' x = τ x) : Inv (up2 σ 8 k (nI c')) τ' := by
  obtain ⟨hT, hC, hL, hK0, hK1, hP⟩ := h
  refine ⟨n, k, va_up cr k c', ?_, ?_, ?_, ?_, ?_, fun Wa hW => ?_⟩
  · unfold TxR at *
    rw [hr 0 (by omega), hr 8 (by omega)]
    exact hT
  · unfold CrR at *
    rw [hr 0 (by omega), hr 3 (by omega), hr 4 (by omega)]
    exact hC
  · rw [hr 5 (by omega), hr 6 (by omega), hr 9 (by omega), hr 0 (by omega)]
    exact Lg_laid hL c' hO (fun p hp => by rw [h7 p hp]; exact hpl p hp)
  · rw [hr 14 (by omega), hr 15 (by omega), hr 16 (by omega), hr 17 (by omega), hr 18 (by omega), hr 19 (by omega)]
    exact hK0
  · rw [hr 14 (by omega), hr 15 (by omega), hr 16 (by omega), hr 17 (by omega), hr 18 (by omega), hr 19 (by omega)]
    exact hK1
  · refine (hP Wa ⟨hW.1, fun p hp => ?_⟩).congr rfl rfl rfl rfl rfl rfl (fun x h1 h2 => up2_c (by omega))
    rw [hW.2 p hp, gone_laid]
