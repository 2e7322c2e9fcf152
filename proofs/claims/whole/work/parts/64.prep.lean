/-! pure: the class prepares its search -/
theorem y_willX2 {σ : St} {n p e : Nat} (hS : Sx n σ) (hp : p < n) (he : e < 3) : f_X0_willSit σ (nI p) (nI e) = some (if willP σ e p = true then 1 else 0) := by
  obtain ⟨z1, z2, z3⟩ := Sx_e hS
  by_cases q : e < eP σ
  · rw [y_willX hS.2.1 hS.1 z1 z3 hp q]
    have wi := will_iff (τ := σ) hS hp q
    by_cases w : σ 6 p = 3 ∨ σ 6 p = nI e
    · rw [if_pos w, if_pos (wi.mpr w)]
    · rw [if_neg w, if_neg (fun z => w (wi.mp z))]
  · have e0 : f_X0_hasEnd σ (nI e) = 0 := by
      rcases y_end z1 z3 (nI e) with ⟨e', he', h2, _⟩ | ⟨_, h⟩
      · rw [z_eq (by omega) (by omega)] at h2
        omega
      · exact h
    have w : ¬ willP σ e p = true := by unfold willP; simp [q]
    have e2 : f_X0_hasPerson σ (nI p) = 1 := by
      rcases y_pers hS.2.1 hS.1 (nI p) with ⟨_, _, _, h⟩ | ⟨h | h, _⟩
      · exact h
      · exact absurd h (nI_pos (by have := hS.1; omega))
      · exact absurd h (nI_ge hp (by have := hS.1; omega))
    unfold f_X0_willSit
    rw [e0, e2, if_neg w]
    simp only [if_pos, if_neg i10]
theorem Sx_to {σ ρ : St} {n : Nat} (h : Sx n σ) (h3 : ρ 3 = σ 3) (h4 : ρ 4 = σ 4) (h5 : ρ 5 = σ 5) (h6 : ρ 6 = σ 6) (h7 : ρ 7 4 = σ 7 4) (h9 : ρ 9 = σ 9) : Sx n ρ := by
  unfold Sx at *
  rw [h3, h4, h5, h6, h7, h9]
  exact h
/-- the same ferry -/
def Fe (σ ρ : St) : Prop := ρ 3 = σ 3 ∧ ρ 4 = σ 4 ∧ ρ 5 = σ 5 ∧ ρ 6 = σ 6 ∧ ρ 7 4 = σ 7 4 ∧ ρ 9 = σ 9
theorem Fe.Sx {σ ρ : St} {n : Nat} (f : Fe σ ρ) (h : Sx n σ) : Sx n ρ := Sx_to h f.1 f.2.1 f.2.2.1 f.2.2.2.1 f.2.2.2.2.1 f.2.2.2.2.2
theorem Fe_of {σ ρ : St} (h : ∀ x, x < 19 → ρ x = σ x) : Fe σ ρ := ⟨h 3 (by omega), h 4 (by omega), h 5 (by omega), h 6 (by omega), by rw [h 7 (by omega)], h 9 (by omega)⟩
theorem Fe.will {σ ρ : St} (f : Fe σ ρ) : willP ρ = willP σ := by
  funext e p
  unfold willP eP
  rw [f.1, f.2.2.2.1]
theorem y_prL {σ : St} {n e Wa : Nat} (hS : Sx n σ) (he : e < 3) (hWa : Wa < 2 ^ n) : ∀ (N p : Nat) (ρ : St), Fe σ ρ → p ≤ n → n < N + p → ρ 19 11 = nI Wa → ρ 25 e = nI (bset (fun p => Wa.testBit p && willP σ e p) p) → ∃ ρ', f_X2_prepare_L99 (nI e) N ρ (nI p) = some ρ' ∧ (∀ x, x ≠ 25 → ρ' x = ρ x) ∧ (∀ i, i ≠ e → ρ' 25 i = ρ 25 i) ∧ ρ' 25 e = nI (bset (fun p => Wa.testBit p && willP σ e p) n) := by
  have h8 := hS.1
  have hp28 := p28 h8
  intro N
  induction N with
  | zero => intro p ρ h h1 h2; omega
  | succ N ih =>
    intro p ρ hF h1 h2 h11 h25
    have hS' := hF.Sx hS
    rw [f_X2_prepare_L99, hS'.2.1]
    by_cases q : n ≤ p
    · have : p = n := by omega
      subst this
      rw [if_pos (nI_le q (by omega))]
      exact ⟨ρ, rfl, fun _ _ => rfl, fun _ _ => rfl, h25⟩
    · rw [if_neg (nI_ge (by omega) (by omega)), y_willX2 hS' (by omega) he, Option.bind_some, hF.will, nI_1]
      by_cases w : willP σ e p = true
      · rw [if_pos w, if_neg i10, z_chk (by omega) (by omega), z_chk (by omega) (by omega), nI_clamp (by omega), h25, h11, z_shl1 (by omega), z_and, z_or]
        have e2 : bset (fun p => Wa.testBit p && willP σ e p) p ||| (Wa &&& 2 ^ p) = bset (fun p => Wa.testBit p && willP σ e p) (p + 1) := by
          rw [bset]
          congr 1
          rw [w, Bool.and_true]
          refine tb_ext (fun i => ?_)
          rw [Nat.testBit_and, tb_one]
          by_cases z : i = p
          · subst z
            cases b : Wa.testBit i
            · simp
            · simp [tb_one]
          · cases b : Wa.testBit p
            · simp [z]
            · simp [z, tb_one]
        rw [e2]
        obtain ⟨ρ', a1, a2, a3, a4⟩ := ih (p + 1) (up2 ρ 25 e (nI (bset (fun p => Wa.testBit p && willP σ e p) (p + 1)))) ⟨hF.1, hF.2.1, hF.2.2.1, hF.2.2.2.1, hF.2.2.2.2.1, hF.2.2.2.2.2⟩ (by omega) (by omega) h11 up2_s
        exact ⟨ρ', a1, fun x hx => by rw [a2 x hx, up2_c hx], fun i hi => by rw [a3 i hi, up2_i hi], a4⟩
      · rw [if_neg w, if_pos rfl]
        refine ih (p + 1) ρ hF (by omega) (by omega) h11 ?_
        rw [h25, bset_s0]
        have w0 : willP σ e p = false := by simpa using w
        rw [w0, Bool.and_false]
theorem y_armP {σ : St} {n e : Nat} (hS : Sx n σ) (he : e < 3) : f_X0_armOf σ (nI e) = nI (armP σ e) := by
  obtain ⟨z1, z2, z3⟩ := Sx_e hS
  have a1 := hS.2.2.2.1.nN (by omega)
  have a2 := hS.2.2.2.2.1.nN (by omega)
  unfold f_X0_armOf armP
  rw [z1]
  by_cases q : eP σ = 2
  · rw [if_pos (show nI (eP σ) = 2 by rw [q]; rfl), if_pos q]
    by_cases w : e = 0
    · subst w
      rw [if_pos (show nI 0 = 0 from rfl), if_pos rfl]
      exact a1.1
    · rw [if_neg (show ¬ nI e = 0 by rw [show (0 : Int32) = nI 0 from rfl, z_eq (by omega) (by omega)]; exact w), if_neg w]
      exact a2.1
  · have q3 : eP σ = 3 := by omega
    rw [if_neg (show ¬ nI (eP σ) = 2 by rw [q3]; decide), if_neg q]
    rfl
def hdX (σ : St) (Wa e : Nat) (ρ : St) : Prop := ρ 25 e = nI (openP σ Wa e) ∧ ρ 26 e = nI (armP σ e) ∧ ρ 27 e = nI (armP σ e * liP σ e * 65537)
theorem y_prM {σ : St} {n Wa : Nat} (hS : Sx n σ) (hWa : Wa < 2 ^ n) : ∀ (N e : Nat) (ρ : St), Fe σ ρ → e ≤ 3 → 3 < N + e → ρ 19 11 = nI Wa → (∀ i, i < e → hdX σ Wa i ρ) → ∃ ρ', f_X2_prepare_L45 N ρ (nI e) = some ρ' ∧ (∀ x, x ≠ 25 → x ≠ 26 → x ≠ 27 → ρ' x = ρ x) ∧ ∀ i, i < 3 → hdX σ Wa i ρ' := by
  have hfu := fuel_ge
  have h8 := hS.1
  intro N
  induction N with
  | zero => intro p ρ h h1 h2; omega
  | succ N ih =>
    intro e ρ hF h1 h2 h11 hd
    have hS' := hF.Sx hS
    rw [f_X2_prepare_L45]
    by_cases q : e = 3
    · subst q
      rw [if_pos (show 3 ≤ nI 3 by decide)]
      exact ⟨ρ, rfl, fun _ _ _ _ => rfl, hd⟩
    · have arm : f_X0_armOf ρ (nI e) = nI (armP σ e) := by
        rw [y_armP hS' (by omega)]
        unfold armP eP
        rw [hF.1]
      have key : ∀ v : Int32, v = nI (armP σ e * liP σ e * 65537) → ∃ ρ', f_X2_prepare_J88_45 (up2 ρ 26 e (nI (armP σ e))) (nI e) (nI e) v (f_X2_prepare_L45 N) = some ρ' ∧ (∀ x, x ≠ 25 → x ≠ 26 → x ≠ 27 → ρ' x = ρ x) ∧ ∀ i, i < 3 → hdX σ Wa i ρ' := by
        intro v hv
        unfold f_X2_prepare_J88_45
        rw [z_chk (by omega) (by omega), z_chk (by omega) (by omega), nI_clamp (by omega), nI_1]
        obtain ⟨ρ1, a1, a2, a3, a4⟩ := y_prL hS (show e < 3 by omega) hWa fuel 0 (up2 (up2 (up2 ρ 26 e (nI (armP σ e))) 27 e v) 25 e 0) ⟨hF.1, hF.2.1, hF.2.2.1, hF.2.2.2.1, hF.2.2.2.2.1, hF.2.2.2.2.2⟩ (by omega) (by omega) h11 up2_s
        rw [show (nI 0 : Int32) = 0 from rfl] at a1
        rw [a1, Option.bind_some]
        have o26 : ∀ i, ρ1 26 i = up2 ρ 26 e (nI (armP σ e)) 26 i := fun i => by rw [a2 26 (by omega)]; rfl
        have o27 : ∀ i, ρ1 27 i = up2 ρ 27 e v 27 i := fun i => by rw [a2 27 (by omega)]; rfl
        have o25 : ∀ i, i ≠ e → ρ1 25 i = ρ 25 i := fun i hi => by rw [a3 i hi, up2_i hi]; rfl
        have ox : ∀ x, x ≠ 25 → x ≠ 26 → x ≠ 27 → ρ1 x = ρ x := fun x b c d => by rw [a2 x b, up2_c b, up2_c d, up2_c c]
        obtain ⟨ρ2, b1, b2, b3⟩ := ih (e + 1) ρ1 ⟨by rw [ox 3 (by omega) (by omega) (by omega)]; exact hF.1, by rw [ox 4 (by omega) (by omega) (by omega)]; exact hF.2.1, by rw [ox 5 (by omega) (by omega) (by omega)]; exact hF.2.2.1, by rw [ox 6 (by omega) (by omega) (by omega)]; exact hF.2.2.2.1, by rw [ox 7 (by omega) (by omega) (by omega)]; exact hF.2.2.2.2.1, by rw [ox 9 (by omega) (by omega) (by omega)]; exact hF.2.2.2.2.2⟩ (by omega) (by omega) (by rw [ox 19 (by omega) (by omega) (by omega)]; exact h11) (fun i hi => by
          unfold hdX
          rw [o26, o27]
          by_cases z : i = e
          · subst z
            rw [up2_s, up2_s, a4]
            refine ⟨?_, rfl, hv⟩
            unfold openP
            rw [Sx_p hS]
          · rw [up2_i z, up2_i z, o25 i z]
            exact hd i (by omega))
        exact ⟨ρ2, b1, fun x b c d => by rw [b2 x b c d, ox x b c d], b3⟩
      rw [if_neg (show ¬ 3 ≤ nI e from nI_ge (a := e) (b := 3) (by omega) (by omega)), z_chk (by omega) (by omega), nI_clamp (by omega), arm]
      have li := Sx_li hS e
      by_cases w : e = 0
      · rw [if_pos (show nI e = 0 by rw [w]; rfl), z_chk (by omega) (by omega)]
        refine key _ ?_
        have l1 : σ 3 4 = nI (liP σ e) := by
          have := li.1
          unfold liI at this
          rw [if_pos w] at this
          exact this
        rw [hF.1, l1, pk_mul]
        exact pk_mul _ 65537
      · rw [if_neg (show ¬ nI e = 0 by rw [show (0 : Int32) = nI 0 from rfl, z_eq (by omega) (by omega)]; exact w)]
        refine key _ ?_
        unfold liP
        rw [if_neg w, Nat.mul_zero, Nat.zero_mul]
        rfl
theorem y_prep {n k : Nat} {cr : Nat → Nat} {σ τ : St} (h : InvW n k cr σ τ) : ∃ ρ, f_X2_prepare σ = some ρ ∧ (∀ x, x ≠ 19 → x ≠ 25 → x ≠ 26 → x ≠ 27 → ρ x = σ x) ∧ ρ 19 8 = σ 3 0 ∧ ρ 19 9 = σ 3 3 ∧ ρ 19 10 = nI (2 ^ n) ∧ ρ 19 11 = nI (waN n cr k) ∧ (∀ j, 12 ≤ j → ρ 19 j = σ 19 j) ∧ ∀ i, i < 3 → hdX σ (waN n cr k) i ρ := by
  have hfu := fuel_ge
  have hS := Sx_of h
  have h8 := hS.1
  obtain ⟨hT, hC, ⟨l1, l2, l3, l4, l5, l6, l7, -⟩, -⟩ := id h
  unfold f_X2_prepare
  rw [y_gone (σ := up2 (up2 (up2 σ 19 8 (σ 3 0)) 19 9 (σ 3 3)) 19 10 (shl 1 (σ 3 5))) l1 l2 l6.1 l7, Option.bind_some, hS.2.1, y_waitN h8 (goneN_lt cr k), y_shn h8]
  obtain ⟨ρ, a1, a2, a3⟩ := y_prM (Wa := waN n cr k) hS (waN_lt n cr k) fuel 0 (up2 (up2 (up2 (up2 σ 19 8 (σ 3 0)) 19 9 (σ 3 3)) 19 10 (nI (2 ^ n))) 19 11 (nI (waN n cr k))) ⟨rfl, rfl, rfl, rfl, rfl, rfl⟩ (by omega) (by omega) up2_s (fun i hi => absurd hi (by omega))
  rw [show (nI 0 : Int32) = 0 from rfl] at a1
  have a1' : f_X2_prepare_L45 fuel (up2 (up2 (up2 (up2 σ 19 8 (σ 3 0)) 19 9 (σ 3 3)) 19 10 (nI (2 ^ n))) 19 11 (nI ((2 ^ n - 1) &&& (2 ^ 32 - 1 - goneN cr k)))) 0 = some ρ := a1
  rw [a1']
  have o19 : ∀ j, ρ 19 j = up2 (up2 (up2 (up2 σ 19 8 (σ 3 0)) 19 9 (σ 3 3)) 19 10 (nI (2 ^ n))) 19 11 (nI (waN n cr k)) 19 j := fun j => by rw [a2 19 (by omega) (by omega) (by omega)]
  refine ⟨ρ, rfl, fun x b c d e => ?_, by rw [o19]; rfl, by rw [o19]; rfl, by rw [o19]; rfl, by rw [o19]; rfl, fun j hj => ?_, a3⟩
  · rw [a2 x c d e, up2_c b, up2_c b, up2_c b, up2_c b]
  · rw [o19, up2_i (by omega), up2_i (by omega), up2_i (by omega), up2_i (by omega)]
/-! the sets are weighed -/
theorem y_weA : ∀ (N y : Nat) (ρ : St), y ≤ 256 → 256 < N + y → (∀ i, i < y → ρ 23 i = 99) → ∃ ρ', f_X2_weighSets_L2 N ρ (nI y) = some ρ' ∧ (∀ x, x ≠ 23 → ρ' x = ρ x) ∧ ∀ i, i < 256 → ρ' 23 i = 99 := by
  intro N
  induction N with
  | zero => intro y ρ h1 h2; omega
  | succ N ih =>
    intro y ρ h1 h2 hv
    rw [f_X2_weighSets_L2]
    by_cases q : y = 256
    · subst q
      rw [if_pos (show 256 ≤ nI 256 by decide)]
      exact ⟨ρ, rfl, fun _ _ => rfl, hv⟩
    · rw [if_neg (show ¬ 256 ≤ nI y from nI_ge (a := y) (b := 256) (by omega) (by omega)), z_chk (by omega) (by omega), nI_clamp (by omega), nI_1]
      obtain ⟨ρ2, a1, a2, a3⟩ := ih (y + 1) (up2 ρ 23 y 99) (by omega) (by omega) (fun i hi => by
        by_cases z : i = y
        · subst z; exact up2_s
        · rw [up2_i z]; exact hv i (by omega))
      exact ⟨ρ2, a1, fun x hx => by rw [a2 x hx, up2_c hx], a3⟩
theorem sumN_add1 {f : Nat → Nat} {a p : Nat} (ha : a.testBit p = false) : ∀ n, sumN f (a ||| 2 ^ p) n = sumN f a n + (if p < n then f p else 0)
  | 0 => rfl
  | n + 1 => by
    rw [sumN, sumN, sumN_add1 ha n, Nat.testBit_or, tb_one]
    by_cases q : n = p
    · subst q
      rw [ha]
      simp
    · have d : decide (n = p) = false := by simpa using q
      rw [d, Bool.or_false]
      by_cases w : p < n
      · rw [if_pos w, if_pos (show p < n + 1 by omega)]; omega
      · rw [if_neg w, if_neg (show ¬ p < n + 1 by omega)]; omega
theorem pop_add1 {a p : Nat} (ha : a.testBit p = false) (hp : p < 8) : pop (a ||| 2 ^ p) = pop a + 1 := by
  rw [pop_or (fun i _ z => by
    rw [tb_one, decide_eq_true_eq] at z
    rw [z.2, ha] at z
    exact absurd z.1 (by decide))]
  have : ∀ p, p < 8 → pop (2 ^ p) = 1 := by decide
  rw [this p hp]
def wvX (σ : St) (n : Nat) (ρ : St) (s : Nat) : Prop := ρ 20 s = nI (sumN (w0P σ) s n + 65536 * sumN (w1P σ) s n) ∧ ρ 21 s = nI (farP σ s) ∧ ρ 22 s = nI (pop s)
theorem or_pw {y p : Nat} (h : y < 2 ^ p) : y ||| 2 ^ p = 2 ^ p + y := by
  have := Nat.two_pow_add_eq_or_of_lt h 1
  rw [Nat.mul_one] at this
  rw [Nat.or_comm]
  exact this.symm
theorem y_weB {σ : St} {n p : Nat} (hS : Sx n σ) (hp : p < n) : ∀ (N y : Nat) (ρ : St), ρ 5 = σ 5 → y ≤ 2 ^ p → 2 ^ p < N + y → (∀ s, s < 2 ^ p → wvX σ n ρ s) → (∀ s, s < y → wvX σ n ρ (2 ^ p + s)) → ∃ ρ', f_X2_weighSets_L73 (nI p) (nI (w0P σ p)) (nI (w1P σ p)) (nI (2 ^ p)) N ρ (nI y) = some ρ' ∧ (∀ x, x ≠ 20 → x ≠ 21 → x ≠ 22 → ρ' x = ρ x) ∧ ∀ s, s < 2 ^ (p + 1) → wvX σ n ρ' s := by
  have h8 := hS.1
  have hpp : 2 ^ p ≤ 2 ^ 7 := Nat.pow_le_pow_right (by omega) (by omega)
  intro N
  induction N with
  | zero => intro y ρ h5 h1 h2; omega
  | succ N ih =>
    intro y ρ h5 h1 h2 hv hw
    rw [f_X2_weighSets_L73]
    by_cases q : 2 ^ p ≤ y
    · have : y = 2 ^ p := by omega
      subst this
      rw [if_pos (nI_le q (by omega))]
      refine ⟨ρ, rfl, fun _ _ _ _ => rfl, fun s hs => ?_⟩
      rw [Nat.pow_succ] at hs
      by_cases z : s < 2 ^ p
      · exact hv s z
      · have := hw (s - 2 ^ p) (by omega)
        rw [show 2 ^ p + (s - 2 ^ p) = s by omega] at this
        exact this
    · rw [if_neg (nI_ge (by omega) (by omega)), z_or, or_pw (by omega), if_neg (show ¬ 256 ≤ nI (2 ^ p + y) from nI_ge (a := 2 ^ p + y) (b := 256) (by omega) (by omega))]
      rw [z_chk (by omega) (by omega), z_chk (by omega) (by omega), z_chk (by omega) (by omega), z_chk (by omega) (by omega), z_chk (by omega) (by omega), z_chk (by omega) (by omega), z_chk (by omega) (by omega), nI_clamp (by omega), nI_clamp (by omega), nI_clamp (by omega), nI_1]
      obtain ⟨v1, v2, v3⟩ := hv y (by omega)
      have tbf : y.testBit p = false := tb_big (show y < 2 ^ p by omega) (Nat.le_refl _)
      have e1 : ρ 20 y + nI (w0P σ p) + nI (w1P σ p) * 65536 = nI (sumN (w0P σ) (2 ^ p + y) n + 65536 * sumN (w1P σ) (2 ^ p + y) n) := by
        rw [v1, show nI (w1P σ p) * 65536 = nI (w1P σ p * 65536) from pk_mul _ 65536, nI_add, nI_add, ← or_pw (by omega), sumN_add1 tbf, sumN_add1 tbf, if_pos hp, if_pos hp]
        congr 1
        omega
      have e2 : ρ 21 y + ρ 5 p = nI (farP σ (2 ^ p + y)) := by
        rw [v2, h5, (Sx_f hS hp).1, nI_add]
        unfold farP
        rw [Sx_p hS, ← or_pw (by omega), sumN_add1 tbf, if_pos hp]
      have e3 : ρ 22 y + 1 = nI (pop (2 ^ p + y)) := by
        rw [v3, nI_1, ← or_pw (by omega), pop_add1 tbf (by omega)]
      rw [e1, e2, e3]
      have s20 : ∀ i, up2 (up2 (up2 ρ 20 (2 ^ p + y) (nI (sumN (w0P σ) (2 ^ p + y) n + 65536 * sumN (w1P σ) (2 ^ p + y) n))) 21 (2 ^ p + y) (nI (farP σ (2 ^ p + y)))) 22 (2 ^ p + y) (nI (pop (2 ^ p + y))) 20 i = up2 ρ 20 (2 ^ p + y) (nI (sumN (w0P σ) (2 ^ p + y) n + 65536 * sumN (w1P σ) (2 ^ p + y) n)) 20 i := fun _ => rfl
      have s21 : ∀ i, up2 (up2 (up2 ρ 20 (2 ^ p + y) (nI (sumN (w0P σ) (2 ^ p + y) n + 65536 * sumN (w1P σ) (2 ^ p + y) n))) 21 (2 ^ p + y) (nI (farP σ (2 ^ p + y)))) 22 (2 ^ p + y) (nI (pop (2 ^ p + y))) 21 i = up2 ρ 21 (2 ^ p + y) (nI (farP σ (2 ^ p + y))) 21 i := fun _ => rfl
      have s22 : ∀ i, up2 (up2 (up2 ρ 20 (2 ^ p + y) (nI (sumN (w0P σ) (2 ^ p + y) n + 65536 * sumN (w1P σ) (2 ^ p + y) n))) 21 (2 ^ p + y) (nI (farP σ (2 ^ p + y)))) 22 (2 ^ p + y) (nI (pop (2 ^ p + y))) 22 i = up2 ρ 22 (2 ^ p + y) (nI (pop (2 ^ p + y))) 22 i := fun _ => rfl
      obtain ⟨ρ', a1, a2, a3⟩ := ih (y + 1) (up2 (up2 (up2 ρ 20 (2 ^ p + y) (nI (sumN (w0P σ) (2 ^ p + y) n + 65536 * sumN (w1P σ) (2 ^ p + y) n))) 21 (2 ^ p + y) (nI (farP σ (2 ^ p + y)))) 22 (2 ^ p + y) (nI (pop (2 ^ p + y)))) h5 (by omega) (by omega) (fun s hs => by
        unfold wvX
        rw [s20, s21, s22, up2_i (by omega), up2_i (by omega), up2_i (by omega)]
        exact hv s hs) (fun s hs => by
        unfold wvX
        rw [s20, s21, s22]
        by_cases z : s = y
        · subst z
          rw [up2_s, up2_s, up2_s]
          exact ⟨rfl, rfl, rfl⟩
        · rw [up2_i (by omega), up2_i (by omega), up2_i (by omega)]
          exact hw s (by omega))
      exact ⟨ρ', a1, fun x b c d => by rw [a2 x b c d, up2_c d, up2_c c, up2_c b], a3⟩
theorem y_weC {σ : St} {n : Nat} (hS : Sx n σ) : ∀ (N p : Nat) (ρ : St), Fe σ ρ → p ≤ n → n < N + p → (∀ s, s < 2 ^ p → wvX σ n ρ s) → ∃ ρ', f_X2_weighSets_L32 N ρ (nI p) = some ρ' ∧ (∀ x, x ≠ 20 → x ≠ 21 → x ≠ 22 → ρ' x = ρ x) ∧ ∀ s, s < 2 ^ n → wvX σ n ρ' s := by
  have hfu := fuel_ge
  have h8 := hS.1
  intro N
  induction N with
  | zero => intro y ρ h5 h1 h2; omega
  | succ N ih =>
    intro p ρ hF h1 h2 hv
    have hpp : 2 ^ p ≤ 2 ^ 8 := Nat.pow_le_pow_right (by omega) (by omega)
    rw [f_X2_weighSets_L32, hF.1, hS.2.1]
    by_cases q : n ≤ p
    · have : p = n := by omega
      subst this
      rw [if_pos (nI_le q (by omega))]
      exact ⟨ρ, rfl, fun _ _ _ _ => rfl, hv⟩
    · have w0 := Sx_w hS 0 (show p < n by omega)
      have w1 := Sx_w hS 1 (show p < n by omega)
      have e0 : σ 4 p = nI (w0P σ p) := ((hS.2.2.2.2.2.2.2.2 p (by omega)).1.nN (by omega)).1
      have e1 : f_X4_poundsAfter (σ 4 p) (σ 9 p) (σ 7 4) = nI (w1P σ p) := w1.1
      rw [if_neg (nI_ge (by omega) (by omega)), z_chk (by omega) (by omega), z_chk (by omega) (by omega), nI_clamp (by omega), hF.2.1, hF.2.2.2.2.1, hF.2.2.2.2.2, e1, e0, z_shl1 (by omega), nI_1]
      obtain ⟨ρ1, a1, a2, a3⟩ := y_weB hS (show p < n by omega) fuel 0 ρ hF.2.2.1 (Nat.zero_le _) (by omega) hv (fun s hs => absurd hs (by omega))
      rw [show (nI 0 : Int32) = 0 from rfl] at a1
      rw [a1, Option.bind_some]
      obtain ⟨ρ2, b1, b2, b3⟩ := ih (p + 1) ρ1 ⟨by rw [a2 3 (by omega) (by omega) (by omega)]; exact hF.1, by rw [a2 4 (by omega) (by omega) (by omega)]; exact hF.2.1, by rw [a2 5 (by omega) (by omega) (by omega)]; exact hF.2.2.1, by rw [a2 6 (by omega) (by omega) (by omega)]; exact hF.2.2.2.1, by rw [a2 7 (by omega) (by omega) (by omega)]; exact hF.2.2.2.2.1, by rw [a2 9 (by omega) (by omega) (by omega)]; exact hF.2.2.2.2.2⟩ (by omega) (by omega) a3
      exact ⟨ρ2, b1, fun x b c d => by rw [b2 x b c d, a2 x b c d], b3⟩
theorem y_weigh {σ ρ : St} {n : Nat} (hS : Sx n σ) (hF : Fe σ ρ) (h0 : ρ 20 0 = 0 ∧ ρ 21 0 = 0 ∧ ρ 22 0 = 0) : ∃ ρ', f_X2_weighSets ρ = some ρ' ∧ (∀ x, x ≠ 20 → x ≠ 21 → x ≠ 22 → x ≠ 23 → ρ' x = ρ x) ∧ (∀ s, s < 2 ^ n → wvX σ n ρ' s) ∧ ∀ s, s < 256 → ρ' 23 s = if s = 0 then 0 else 99 := by
  have hfu := fuel_ge
  have h8 := hS.1
  unfold f_X2_weighSets
  obtain ⟨ρ1, a1, a2, a3⟩ := y_weA fuel 0 ρ (by omega) (by omega) (fun i hi => absurd hi (by omega))
  rw [show (nI 0 : Int32) = 0 from rfl] at a1
  rw [a1, Option.bind_some]
  have s0 : ∀ f : Nat → Nat, ∀ m, sumN f 0 m = 0 := fun f m => by
    induction m with
    | zero => rfl
    | succ m ih => rw [sumN, ih, Nat.zero_testBit]; rfl
  obtain ⟨ρ2, b1, b2, b3⟩ := y_weC hS fuel 0 (up2 ρ1 23 0 0) ⟨(a2 3 (by omega)).trans hF.1, (a2 4 (by omega)).trans hF.2.1, (a2 5 (by omega)).trans hF.2.2.1, (a2 6 (by omega)).trans hF.2.2.2.1, (congrFun (a2 7 (by omega)) 4).trans hF.2.2.2.2.1, (a2 9 (by omega)).trans hF.2.2.2.2.2⟩ (by omega) (by omega) (fun s hs => by
    have : s = 0 := by omega
    subst this
    unfold wvX farP
    rw [s0, s0, s0]
    show ρ1 20 0 = _ ∧ ρ1 21 0 = _ ∧ ρ1 22 0 = _
    rw [a2 20 (by omega), a2 21 (by omega), a2 22 (by omega)]
    exact h0)
  rw [show (nI 0 : Int32) = 0 from rfl] at b1
  rw [b1]
  refine ⟨ρ2, rfl, fun x b c d e => by rw [b2 x b c d, up2_c e, a2 x e], b3, fun s hs => ?_⟩
  rw [b2 23 (by omega) (by omega) (by omega)]
  by_cases z : s = 0
  · subst z
    rw [up2_s, if_pos rfl]
  · rw [up2_i z, if_neg z]
    exact a3 s hs
