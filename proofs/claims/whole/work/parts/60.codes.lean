/-! pure: codes, their digits; the numbers of the ferry -/
theorem dig_s (n c p : Nat) (hp : p < n + 1) : dig (n + 1) c p = if p = n then c % 4 else dig n (c / 4) p := by
  unfold dig
  by_cases h : p = n
  · subst h
    rw [if_pos rfl, show p + 1 - 1 - p = 0 by omega, Nat.pow_zero, Nat.div_one]
  · rw [if_neg h, show n + 1 - 1 - p = (n - 1 - p) + 1 by omega, Nat.pow_succ, Nat.mul_comm, Nat.div_div_eq_div_mul]
theorem dig_lt (n c p : Nat) : dig n c p < 4 := Nat.mod_lt _ (by omega)
theorem dig_ext : ∀ (n : Nat) {c c' : Nat}, c < 4 ^ n → c' < 4 ^ n → (∀ p, p < n → dig n c p = dig n c' p) → c = c'
  | 0, c, c', h1, h2, _ => by simp at h1 h2; omega
  | n + 1, c, c', h1, h2, h => by
    have a := h n (by omega)
    rw [dig_s _ _ _ (by omega), dig_s _ _ _ (by omega), if_pos rfl, if_pos rfl] at a
    rw [Nat.pow_succ] at h1 h2
    have b := dig_ext n (c := c / 4) (c' := c' / 4) (by omega) (by omega) (fun p hp => by
      have := h p (by omega)
      rw [dig_s _ _ _ (by omega), dig_s _ _ _ (by omega), if_neg (by omega), if_neg (by omega)] at this
      exact this)
    omega
theorem dig_ord : ∀ (n : Nat) {c c' p : Nat}, c < 4 ^ n → c' < 4 ^ n → p < n → (∀ q, q < p → dig n c q = dig n c' q) → dig n c p < dig n c' p → c < c'
  | 0, c, c', p, h1, h2, hp, _, _ => by omega
  | n + 1, c, c', p, h1, h2, hp, h, h3 => by
    rw [Nat.pow_succ] at h1 h2
    rw [dig_s _ _ _ (by omega), dig_s _ _ _ (by omega)] at h3
    by_cases q : p = n
    · rw [if_pos q, if_pos q] at h3
      have b := dig_ext n (c := c / 4) (c' := c' / 4) (by omega) (by omega) (fun p' hp' => by
        have := h p' (by omega)
        rw [dig_s _ _ _ (by omega), dig_s _ _ _ (by omega), if_neg (by omega), if_neg (by omega)] at this
        exact this)
      omega
    · rw [if_neg q, if_neg q] at h3
      have b := dig_ord n (c := c / 4) (c' := c' / 4) (p := p) (by omega) (by omega) (by omega) (fun p' hp' => by
        have := h p' hp'
        rw [dig_s _ _ _ (by omega), dig_s _ _ _ (by omega), if_neg (by omega), if_neg (by omega)] at this
        exact this) h3
      omega
def mkC (d : Nat → Nat) : Nat → Nat
  | 0 => 0
  | n + 1 => mkC d n * 4 + d n
theorem mkC_lt {d : Nat → Nat} (hd : ∀ p, d p < 4) : ∀ n, mkC d n < 4 ^ n
  | 0 => by simp [mkC]
  | n + 1 => by
    have := mkC_lt hd n
    have := hd n
    rw [mkC, Nat.pow_succ]
    omega
theorem mkC_dig {d : Nat → Nat} (hd : ∀ p, d p < 4) : ∀ n p, p < n → dig n (mkC d n) p = d p
  | 0, p, h => by omega
  | n + 1, p, h => by
    have h4 := hd n
    rw [dig_s _ _ _ h, mkC]
    by_cases q : p = n
    · subst q
      rw [if_pos rfl]; omega
    · rw [if_neg q, show (mkC d n * 4 + d n) / 4 = mkC d n by omega]
      exact mkC_dig hd n p (by omega)
theorem atE_tb (n c e i : Nat) : (atE n c e).testBit i = (decide (i < n) && decide (dig n c i = e + 1)) := bset_tb _ _ _
theorem allE_tb (n c i : Nat) : (allE n c).testBit i = (decide (i < n) && decide (dig n c i ≠ 0)) := bset_tb _ _ _
theorem atE_lt (n c e : Nat) : atE n c e < 2 ^ n := bset_lt _ _
theorem allE_lt (n c : Nat) : allE n c < 2 ^ n := bset_lt _ _
theorem p28 {n : Nat} (h : n ≤ 8) : 2 ^ n ≤ 256 := (show 2 ^ n ≤ 2 ^ 8 from Nat.pow_le_pow_right (by omega) h)
theorem allE_or (n c : Nat) : allE n c = atE n c 0 ||| atE n c 1 ||| atE n c 2 := by
  refine tb_ext (fun i => ?_)
  rw [Nat.testBit_or, Nat.testBit_or, atE_tb, atE_tb, atE_tb, allE_tb]
  have h := dig_lt n c i
  by_cases hi : i < n
  · by_cases h0 : dig n c i = 0
    · simp [h0]
    · by_cases h1 : dig n c i = 1
      · simp [h1]
      · by_cases h2 : dig n c i = 2
        · simp [h2]
        · have h3 : dig n c i = 3 := by omega
          simp [h3]
  · simp [hi]
theorem atE_dj {n c e e' i : Nat} (h : (atE n c e).testBit i = true) (h' : (atE n c e').testBit i = true) : e = e' := by
  rw [atE_tb, Bool.and_eq_true, decide_eq_true_eq, decide_eq_true_eq] at h h'
  omega
theorem code_ext {n c c' : Nat} (h1 : c < 4 ^ n) (h2 : c' < 4 ^ n) (h : ∀ e, e < 3 → atE n c e = atE n c' e) : c = c' := by
  refine dig_ext n h1 h2 (fun p hp => ?_)
  have hd := dig_lt n c p
  have hd' := dig_lt n c' p
  have t : ∀ e, e < 3 → (dig n c p = e + 1 ↔ dig n c' p = e + 1) := by
    intro e he
    have a : (atE n c e).testBit p = (atE n c' e).testBit p := by rw [h e he]
    rw [atE_tb, atE_tb] at a
    simpa [hp] using a
  have t0 := t 0 (by omega)
  have t1 := t 1 (by omega)
  have t2 := t 2 (by omega)
  omega
/-- three sets apart from each other are a code's -/
theorem code_ex {n a b c : Nat} (ha : a < 2 ^ n) (hb : b < 2 ^ n) (hc : c < 2 ^ n) (hab : a &&& b = 0) (hac : a &&& c = 0) (hbc : b &&& c = 0) : ∃ code, code < 4 ^ n ∧ atE n code 0 = a ∧ atE n code 1 = b ∧ atE n code 2 = c := by
  have dj : ∀ {x y : Nat} (i : Nat), x &&& y = 0 → x.testBit i = true → y.testBit i = true → False := by
    intro x y i h h1 h2
    have : (x &&& y).testBit i = true := by rw [Nat.testBit_and, h1, h2]; rfl
    rw [h, Nat.zero_testBit] at this
    cases this
  have hd : ∀ p, (if a.testBit p then 1 else if b.testBit p then 2 else if c.testBit p then 3 else 0) < 4 := by
    intro p
    split
    · omega
    · split
      · omega
      · split <;> omega
  refine ⟨mkC (fun p => if a.testBit p then 1 else if b.testBit p then 2 else if c.testBit p then 3 else 0) n, mkC_lt hd n, ?_, ?_, ?_⟩
  all_goals
    refine tb_ext (fun i => ?_)
    rw [atE_tb]
    by_cases hi : i < n
    · rw [mkC_dig hd n i hi]
      have x1 := dj (x := a) (y := b) i hab
      have x2 := dj (x := a) (y := c) i hac
      have x3 := dj (x := b) (y := c) i hbc
      cases qa : a.testBit i <;> cases qb : b.testBit i <;> cases qc : c.testBit i <;> simp_all
    · first
      | rw [tb_big ha (by omega)]; simp [hi]
      | rw [tb_big hb (by omega)]; simp [hi]
      | rw [tb_big hc (by omega)]; simp [hi]
/-! the numbers -/
def Sx (n : Nat) (σ : St) : Prop := n ≤ 8 ∧ σ 3 5 = nI n ∧ In (σ 3 0) 2 3 ∧ In (σ 3 1) 1 3 ∧ In (σ 3 2) 1 3 ∧ In (σ 3 3) 1 8 ∧ In (σ 3 4) 0 9 ∧ In (σ 7 4) 0 9 ∧ ∀ p, p < n → In (σ 4 p) 1 99 ∧ In (σ 5 p) 0 9 ∧ In (σ 6 p) 0 3 ∧ -3 ≤ (σ 9 p).toInt ∧ (σ 9 p).toInt ≤ 3
theorem Sx_of {n k : Nat} {cr : Nat → Nat} {σ τ : St} (h : InvW n k cr σ τ) : Sx n σ := by
  obtain ⟨hT, ⟨c1, c2, c3, c4, c5, c6, c7, c8, c9, c10⟩, ⟨l1, l2, l3, l4, l5, l6, l7, l8, -⟩, -⟩ := h
  exact ⟨c1, c2, c4, c5, c6, c7, c8, l4, fun p hp => ⟨(c10 p hp).1, (c10 p hp).2.1, (c10 p hp).2.2.1, (l8 p hp).2.1, (l8 p hp).2.2⟩⟩
theorem Sx_p {n : Nat} {σ : St} (h : Sx n σ) : pP σ = n := by unfold pP; rw [h.2.1, nN_nI (by have := h.1; omega)]
theorem Sx_e {n : Nat} {σ : St} (h : Sx n σ) : σ 3 0 = nI (eP σ) ∧ 2 ≤ eP σ ∧ eP σ ≤ 3 := h.2.2.1.nN (by omega)
theorem Sx_s {n : Nat} {σ : St} (h : Sx n σ) : σ 3 3 = nI (sP σ) ∧ 1 ≤ sP σ ∧ sP σ ≤ 8 := h.2.2.2.2.2.1.nN (by omega)
theorem Sx_arm {n : Nat} {σ : St} (h : Sx n σ) (e : Nat) : 1 ≤ armP σ e ∧ armP σ e ≤ 3 := by
  have a := h.2.2.2.1.nN (by omega)
  have b := h.2.2.2.2.1.nN (by omega)
  unfold armP
  split
  · split <;> omega
  · omega
theorem Sx_li {n : Nat} {σ : St} (h : Sx n σ) (e : Nat) : liI e (σ 3 4) = nI (liP σ e) ∧ liP σ e ≤ 9 := by
  have a := h.2.2.2.2.2.2.1.nN (by omega)
  unfold liI liP
  split
  · exact ⟨a.1, a.2.2⟩
  · exact ⟨rfl, by omega⟩
theorem pa_0 {x g : Int32} {k : Nat} (hx : x = nI k) (hk : k < 2 ^ 31) : f_X4_poundsAfter x g 0 = nI k := by
  unfold f_X4_poundsAfter
  rw [Int32.mul_zero, Int32.add_zero, hx, if_pos]
  rw [show (0 : Int32) = nI 0 from rfl, z_le (by omega) hk]
  omega
theorem pa_1 {x g m : Int32} (hx : In x 1 99) (h1 : -3 ≤ g.toInt) (h2 : g.toInt ≤ 3) (hm : In m 0 9) : ∃ k, k ≤ 126 ∧ f_X4_poundsAfter x g m = nI k := by
  obtain ⟨a, a1, a2, rfl⟩ := hx
  obtain ⟨b, b1, b2, rfl⟩ := hm
  unfold f_X4_poundsAfter
  have e1 : (g * nI b).toInt = g.toInt * (b : Int) := by
    rw [Int32.toInt_mul, nI_toInt (by omega)]
    have l1 : -27 ≤ g.toInt * (b : Int) := by
      have : g.toInt = -3 ∨ g.toInt = -2 ∨ g.toInt = -1 ∨ g.toInt = 0 ∨ g.toInt = 1 ∨ g.toInt = 2 ∨ g.toInt = 3 := by omega
      rcases this with q | q | q | q | q | q | q <;> rw [q] <;> omega
    have l2 : g.toInt * (b : Int) ≤ 27 := by
      have : g.toInt = -3 ∨ g.toInt = -2 ∨ g.toInt = -1 ∨ g.toInt = 0 ∨ g.toInt = 1 ∨ g.toInt = 2 ∨ g.toInt = 3 := by omega
      rcases this with q | q | q | q | q | q | q <;> rw [q] <;> omega
    rw [Int.bmod_def]
    omega
  have l : -27 ≤ g.toInt * (b : Int) ∧ g.toInt * (b : Int) ≤ 27 := by
    have : g.toInt = -3 ∨ g.toInt = -2 ∨ g.toInt = -1 ∨ g.toInt = 0 ∨ g.toInt = 1 ∨ g.toInt = 2 ∨ g.toInt = 3 := by omega
    rcases this with q | q | q | q | q | q | q <;> rw [q] <;> omega
  have e2 : (nI a + g * nI b).toInt = (a : Int) + g.toInt * (b : Int) := by
    rw [Int32.toInt_add, nI_toInt (by omega), e1, Int.bmod_def]
    omega
  by_cases q : 0 ≤ nI a + g * nI b
  · rw [if_pos q]
    rw [Int32.le_iff_toInt_le] at q
    have q : 0 ≤ (nI a + g * nI b).toInt := q
    obtain ⟨k, k1, k2⟩ := z_ofL q
    exact ⟨k, by omega, k1⟩
  · rw [if_neg q]
    exact ⟨0, by omega, rfl⟩
noncomputable def wtP (σ : St) (t : Nat) : Nat → Nat := if t = 0 then w0P σ else w1P σ
def miP (σ : St) (t : Nat) : Int32 := if t = 0 then 0 else σ 7 4
theorem Sx_w {n : Nat} {σ : St} (h : Sx n σ) (t : Nat) {p : Nat} (hp : p < n) : f_X4_poundsAfter (σ 4 p) (σ 9 p) (miP σ t) = nI (wtP σ t p) ∧ wtP σ t p ≤ 126 := by
  obtain ⟨a1, a2, a3, a4, a5⟩ := h.2.2.2.2.2.2.2.2 p hp
  unfold miP wtP
  by_cases q : t = 0
  · rw [if_pos q, if_pos q]
    have := a1.nN (by omega)
    unfold w0P
    exact ⟨pa_0 this.1 (by omega), by omega⟩
  · rw [if_neg q, if_neg q]
    obtain ⟨k, k1, k2⟩ := pa_1 a1 a4 a5 h.2.2.2.2.2.2.2.1
    unfold w1P
    rw [k2, nN_nI (by omega)]
    exact ⟨rfl, k1⟩
theorem Sx_f {n : Nat} {σ : St} (h : Sx n σ) {p : Nat} (hp : p < n) : σ 5 p = nI (frP σ p) ∧ frP σ p ≤ 9 := by
  have := (h.2.2.2.2.2.2.2.2 p hp).2.1.nN (by omega)
  exact ⟨this.1, this.2.2⟩
theorem sumN_le {f : Nat → Nat} {s B : Nat} : ∀ {n : Nat}, (∀ p, p < n → f p ≤ B) → sumN f s n ≤ n * B
  | 0, _ => by simp [sumN]
  | n + 1, h => by
    have a := sumN_le (f := f) (s := s) (B := B) (n := n) (fun p hp => h p (by omega))
    have b := h n (by omega)
    rw [sumN, Nat.succ_mul]
    split <;> omega
theorem sumI_N {F : Nat → Int32} {f : Nat → Nat} {s : Nat} : ∀ {n : Nat}, (∀ p, p < n → F p = nI (f p)) → sumI F s n = nI (sumN f s n)
  | 0, _ => rfl
  | n + 1, h => by
    rw [sumI, sumN, sumI_N (fun p hp => h p (by omega)), h n (by omega)]
    split
    · rw [nI_add]
    · rw [i32_a0, Nat.add_zero]
noncomputable def ldP (σ : St) (n t e s : Nat) : Nat := liP σ e + sumN (wtP σ t) s n
theorem pull_ld (σ : St) (t e s : Nat) : pullP σ t e s = armP σ e * ldP σ (pP σ) t e s := rfl
theorem Sx_ldle {n : Nat} {σ : St} (h : Sx n σ) (t e s : Nat) : ldP σ n t e s ≤ 1017 := by
  unfold ldP
  have a := (Sx_li h e).2
  have b := sumN_le (s := s) (fun p hp => (Sx_w h t (p := p) hp).2)
  have := h.1
  have : n * 126 ≤ 8 * 126 := Nat.mul_le_mul_right _ this
  omega
theorem Sx_ld {n : Nat} {σ : St} (h : Sx n σ) (t e s : Nat) : LD (liI e (σ 3 4)) (σ 4) (σ 9) (miP σ t) s n = nI (ldP σ n t e s) := by
  unfold LD ldP
  rw [sumI_N (fun p hp => (Sx_w h t hp).1), (Sx_li h e).1, nI_add]
theorem Sx_pull {n : Nat} {σ : St} (h : Sx n σ) (t e s : Nat) : pullP σ t e s ≤ 3051 := by
  rw [pull_ld, Sx_p h]
  have a := Sx_ldle h t e s
  have b := (Sx_arm h e).2
  calc armP σ e * ldP σ n t e s ≤ 3 * 1017 := Nat.mul_le_mul b a
    _ = 3051 := rfl
theorem Sx_far {n : Nat} {σ : St} (h : Sx n σ) (s : Nat) : farP σ s ≤ 72 ∧ sumI (σ 5) s n = nI (farP σ s) := by
  unfold farP
  rw [Sx_p h]
  have b := sumN_le (s := s) (fun p hp => (Sx_f h (p := p) hp).2)
  have := h.1
  exact ⟨by omega, sumI_N (fun p hp => (Sx_f h hp).1)⟩
/-- an END's set -/
def s3 (a b c e : Nat) : Nat := if e = 0 then a else if e = 1 then b else c
theorem Sx_off {n : Nat} {σ : St} (h : Sx n σ) (t a b c : Nat) : (offG (σ 3 0) (σ 3 1) (σ 3 2) (σ 3 4) (σ 4) (σ 9) n (miP σ t) a b c = 0) ↔ ∀ e, e < eP σ → pullP σ t e (s3 a b c e) = pullP σ t 0 a := by
  have e0 := Sx_ld h t 0 a
  have e1 := Sx_ld h t 1 b
  have e2 := Sx_ld h t 2 c
  have l0 := Sx_ldle h t 0 a
  have l1 := Sx_ldle h t 1 b
  have l2 := Sx_ldle h t 2 c
  have e0 : LD (σ 3 4) (σ 4) (σ 9) (miP σ t) a n = _ := e0
  have e1 : LD 0 (σ 4) (σ 9) (miP σ t) b n = _ := e1
  have e2 : LD 0 (σ 4) (σ 9) (miP σ t) c n = _ := e2
  obtain ⟨z1, z2, z3⟩ := Sx_e h
  unfold offG offI
  rw [e0, e1, e2, z1]
  have pl : ∀ e s, pullP σ t e s = armP σ e * ldP σ n t e s := fun e s => by rw [pull_ld, Sx_p h]
  by_cases q : eP σ = 2
  · have q2 : nI (eP σ) = 2 := by rw [q]; rfl
    have a1 := h.2.2.2.1.nN (by omega)
    have a2 := h.2.2.2.2.1.nN (by omega)
    have m0 : armP σ 0 = nN (σ 3 1) := by unfold armP; rw [if_pos q, if_pos rfl]
    have m1 : armP σ 1 = nN (σ 3 2) := by unfold armP; rw [if_pos q, if_neg (by omega)]
    rw [if_pos q2, a1.1, a2.1, pk_mul, pk_mul, ← m0, ← m1]
    have b0 : armP σ 0 * ldP σ n t 0 a ≤ 3051 := by rw [← pl]; exact Sx_pull h t 0 a
    have b1 : armP σ 1 * ldP σ n t 1 b ≤ 3051 := by rw [← pl]; exact Sx_pull h t 1 b
    rw [Int32.sub_eq_iff_eq_add, Int32.zero_add, z_eq (by omega) (by omega), q]
    constructor
    · intro z e he
      have : e = 0 ∨ e = 1 := by omega
      rcases this with rfl | rfl
      · rfl
      · show pullP σ t 1 b = _
        rw [pl, pl, z]
    · intro z
      have := z 1 (by omega)
      have : pullP σ t 1 b = _ := this
      rw [pl, pl] at this
      omega
  · have q3 : eP σ = 3 := by omega
    have q2 : ¬ nI (eP σ) = 2 := by rw [q3]; decide
    have m : ∀ e, armP σ e = 1 := fun e => by unfold armP; rw [if_neg q]
    rw [if_neg q2, Int32.sub_eq_iff_eq_add, Int32.zero_add, q3]
    simp only [z_lt (show ldP σ n t 1 b < 2 ^ 31 by omega) (show ldP σ n t 2 c < 2 ^ 31 by omega), z_lt (show ldP σ n t 2 c < 2 ^ 31 by omega) (show ldP σ n t 1 b < 2 ^ 31 by omega)]
    have key : (∀ e, e < 3 → pullP σ t e (s3 a b c e) = pullP σ t 0 a) ↔ (ldP σ n t 1 b = ldP σ n t 0 a ∧ ldP σ n t 2 c = ldP σ n t 0 a) := by
      constructor
      · intro z
        have x1 := z 1 (by omega)
        have x2 := z 2 (by omega)
        rw [pl, pl, m, m, Nat.one_mul, Nat.one_mul] at x1 x2
        exact ⟨x1, x2⟩
      · intro z e he
        rw [pl, pl, m, m, Nat.one_mul, Nat.one_mul]
        match e, he with
        | 0, _ => rfl
        | 1, _ => exact z.1
        | 2, _ => exact z.2
    rw [key]
    by_cases y1 : ldP σ n t 1 b < ldP σ n t 2 c
    · have y2 : ¬ ldP σ n t 2 c < ldP σ n t 1 b := by omega
      simp only [if_pos y1, if_neg y2, z_lt (show ldP σ n t 0 a < 2 ^ 31 by omega) (show ldP σ n t 2 c < 2 ^ 31 by omega), z_lt (show ldP σ n t 1 b < 2 ^ 31 by omega) (show ldP σ n t 0 a < 2 ^ 31 by omega)]
      split <;> split <;> rw [z_eq (by omega) (by omega)] <;> omega
    · by_cases y2 : ldP σ n t 2 c < ldP σ n t 1 b
      · simp only [if_neg y1, if_pos y2, z_lt (show ldP σ n t 0 a < 2 ^ 31 by omega) (show ldP σ n t 1 b < 2 ^ 31 by omega), z_lt (show ldP σ n t 2 c < 2 ^ 31 by omega) (show ldP σ n t 0 a < 2 ^ 31 by omega)]
        split <;> split <;> rw [z_eq (by omega) (by omega)] <;> omega
      · simp only [if_neg y1, if_neg y2, z_lt (show ldP σ n t 0 a < 2 ^ 31 by omega) (show ldP σ n t 1 b < 2 ^ 31 by omega), z_lt (show ldP σ n t 1 b < 2 ^ 31 by omega) (show ldP σ n t 0 a < 2 ^ 31 by omega)]
        split <;> split <;> rw [z_eq (by omega) (by omega)] <;> omega
theorem s3_at (n code e : Nat) (he : e < 3) : s3 (atE n code 0) (atE n code 1) (atE n code 2) e = atE n code e := by
  match e, he with
  | 0, _ => rfl
  | 1, _ => rfl
  | 2, _ => rfl
theorem Sx_lev {n : Nat} {σ : St} (h : Sx n σ) (code : Nat) : levG (σ 3 0) (σ 3 1) (σ 3 2) (σ 3 4) (σ 4) (σ 9) n (σ 7 4) (atE n code 0) (atE n code 1) (atE n code 2) ↔ levP σ code := by
  unfold levG levP
  have z := Sx_e h
  rw [Sx_p h]
  have a := Sx_off h 0 (atE n code 0) (atE n code 1) (atE n code 2)
  have b := Sx_off h 1 (atE n code 0) (atE n code 1) (atE n code 2)
  have a : (offG (σ 3 0) (σ 3 1) (σ 3 2) (σ 3 4) (σ 4) (σ 9) n 0 (atE n code 0) (atE n code 1) (atE n code 2) = 0) ↔ _ := a
  have b : (offG (σ 3 0) (σ 3 1) (σ 3 2) (σ 3 4) (σ 4) (σ 9) n (σ 7 4) (atE n code 0) (atE n code 1) (atE n code 2) = 0) ↔ _ := b
  rw [a, b]
  constructor
  · rintro ⟨x, y⟩ t ht e he
    have : t = 0 ∨ t = 1 := by omega
    rcases this with rfl | rfl
    · rw [← x e he, s3_at _ _ _ (by omega)]
    · rw [← y e he, s3_at _ _ _ (by omega)]
  · intro x
    refine ⟨fun e he => ?_, fun e he => ?_⟩
    · rw [s3_at _ _ _ (by omega)]; exact x 0 (by omega) e he
    · rw [s3_at _ _ _ (by omega)]; exact x 1 (by omega) e he
