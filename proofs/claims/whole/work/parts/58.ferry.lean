/-! pure: ferry -/
theorem y_figs {σ σ' : St} (h1 : σ' 1 = σ 1) (h2 : σ' 2 = σ 2) (x : Int32) : f_X3_figure σ' x = f_X3_figure σ x := by
  unfold f_X3_figure f_X3_byteAt
  rw [h1, h2]
def vaX (σ ρ : St) (p : Nat) : Prop := ρ 4 p = 10 * dg σ (6 + 5 * p + 1) + dg σ (6 + 5 * p + 2) ∧ ρ 5 p = dg σ (6 + 5 * p + 3) ∧ ρ 6 p = dg σ (6 + 5 * p + 4)
theorem y_rfL {σ : St} {len j : Nat} (h48 : len ≤ 48) (hl : σ 1 1 = nI len) (hj : len = 6 + 5 * j) (hj8 : j ≤ 8) : ∀ (N p : Nat) (ρ : St), p ≤ j → j < N + p → ρ 3 5 = nI j → ρ 1 = σ 1 → ρ 2 = σ 2 → (∀ i, i < p → vaX σ ρ i) → ∃ ρ2, f_X0_readFrom_L65 N ρ (nI p) = some ρ2 ∧ (∀ x, x ≠ 4 → x ≠ 5 → x ≠ 6 → ρ2 x = ρ x) ∧ ∀ i, i < j → vaX σ ρ2 i := by
  intro N
  induction N with
  | zero => intro p ρ h1 h2; omega
  | succ N ih =>
    intro p ρ h1 h2 h3 r1 r2 hv
    rw [f_X0_readFrom_L65, h3]
    by_cases q : j ≤ p
    · rw [if_pos (nI_le q (by omega))]
      exact ⟨ρ, rfl, fun _ _ _ _ => rfl, fun i hi => hv i (by omega)⟩
    have e5 : (6 : Int32) + nI p * 5 = nI (6 + 5 * p) := by
      rw [show nI p * 5 = nI (p * 5) from pk_mul p 5, Nat.mul_comm p 5]
      exact nI_add 6 _
    rw [if_neg (nI_ge (by omega) (by omega)), e5, show nI (6 + 5 * p) + 1 = nI (6 + 5 * p + 1) from nI_add _ 1, show nI (6 + 5 * p) + 2 = nI (6 + 5 * p + 2) from nI_add _ 2, show nI (6 + 5 * p) + 3 = nI (6 + 5 * p + 3) from nI_add _ 3, show nI (6 + 5 * p) + 4 = nI (6 + 5 * p + 4) from nI_add _ 4, y_figs r1 r2, y_figs r1 r2, y_fig h48 hl (by omega), y_fig h48 hl (by omega), Option.bind_some, Option.bind_some, z_chk (by omega) (by omega), nI_clamp (by omega)]
    rw [y_figs (σ := σ) (σ' := up2 ρ 4 p (10 * dg σ (6 + 5 * p + 1) + dg σ (6 + 5 * p + 2))) r1 r2, y_fig h48 hl (by omega), Option.bind_some, z_chk (by omega) (by omega)]
    rw [y_figs (σ := σ) (σ' := up2 (up2 ρ 4 p (10 * dg σ (6 + 5 * p + 1) + dg σ (6 + 5 * p + 2))) 5 p (dg σ (6 + 5 * p + 3))) r1 r2, y_fig h48 hl (by omega), Option.bind_some, z_chk (by omega) (by omega), nI_1]
    obtain ⟨ρ2, a1, a2, a3⟩ := ih (p + 1) (up2 (up2 (up2 ρ 4 p (10 * dg σ (6 + 5 * p + 1) + dg σ (6 + 5 * p + 2))) 5 p (dg σ (6 + 5 * p + 3))) 6 p (dg σ (6 + 5 * p + 4))) (by omega) (by omega) h3 r1 r2 (fun i hi => by
      have s4 : ∀ i, up2 (up2 (up2 ρ 4 p (10 * dg σ (6 + 5 * p + 1) + dg σ (6 + 5 * p + 2))) 5 p (dg σ (6 + 5 * p + 3))) 6 p (dg σ (6 + 5 * p + 4)) 4 i = up2 ρ 4 p (10 * dg σ (6 + 5 * p + 1) + dg σ (6 + 5 * p + 2)) 4 i := fun _ => rfl
      have s5 : ∀ i, up2 (up2 (up2 ρ 4 p (10 * dg σ (6 + 5 * p + 1) + dg σ (6 + 5 * p + 2))) 5 p (dg σ (6 + 5 * p + 3))) 6 p (dg σ (6 + 5 * p + 4)) 5 i = up2 ρ 5 p (dg σ (6 + 5 * p + 3)) 5 i := fun _ => rfl
      have s6 : ∀ i, up2 (up2 (up2 ρ 4 p (10 * dg σ (6 + 5 * p + 1) + dg σ (6 + 5 * p + 2))) 5 p (dg σ (6 + 5 * p + 3))) 6 p (dg σ (6 + 5 * p + 4)) 6 i = up2 ρ 6 p (dg σ (6 + 5 * p + 4)) 6 i := fun _ => rfl
      unfold vaX
      rw [s4, s5, s6]
      by_cases z : i = p
      · subst z
        rw [up2_s, up2_s, up2_s]
        exact ⟨rfl, rfl, rfl⟩
      · rw [up2_i z, up2_i z, up2_i z]
        exact hv i (by omega))
    refine ⟨ρ2, a1, fun x b c d => ?_, a3⟩
    rw [a2 x b c d, up2_c d, up2_c c, up2_c b]
theorem y_rf {σ : St} {len j : Nat} (h48 : len ≤ 48) (hl : σ 1 1 = nI len) (hj : len = 6 + 5 * j) (hj8 : j ≤ 8) : ∃ ρ2, f_X0_readFrom σ = some ρ2 ∧ (∀ x, x ≠ 3 → x ≠ 4 → x ≠ 5 → x ≠ 6 → ρ2 x = σ x) ∧ (∀ e, e < 5 → ρ2 3 e = dg σ (e + 1)) ∧ ρ2 3 5 = nI j ∧ ∀ i, i < j → vaX σ ρ2 i := by
  have := fuel_ge
  have f1 := y_fig h48 hl (i := 1) (by omega)
  have f2 := y_fig h48 hl (i := 2) (by omega)
  have f3 := y_fig h48 hl (i := 3) (by omega)
  have f4 := y_fig h48 hl (i := 4) (by omega)
  have f5 := y_fig h48 hl (i := 5) (by omega)
  unfold f_X0_readFrom
  rw [show f_X3_figure σ 1 = some (dg σ 1) from f1, Option.bind_some]
  rw [show f_X3_figure (up2 σ 3 0 (dg σ 1)) 2 = some (dg σ 2) from f2, Option.bind_some]
  rw [show f_X3_figure (up2 (up2 σ 3 0 (dg σ 1)) 3 1 (dg σ 2)) 3 = some (dg σ 3) from f3, Option.bind_some]
  rw [show f_X3_figure (up2 (up2 (up2 σ 3 0 (dg σ 1)) 3 1 (dg σ 2)) 3 2 (dg σ 3)) 4 = some (dg σ 4) from f4, Option.bind_some]
  rw [show f_X3_figure (up2 (up2 (up2 (up2 σ 3 0 (dg σ 1)) 3 1 (dg σ 2)) 3 2 (dg σ 3)) 3 3 (dg σ 4)) 5 = some (dg σ 5) from f5, Option.bind_some]
  have e6 : (σ 1 1 - 6) / 5 = nI j := by
    rw [hl, show nI len - 6 = nI (len - 6) from pk_sub (a := len) (b := 6) (by omega)]
    have := pk_div (a := len - 6) (d := 5) (by omega) (by omega) (by omega)
    rw [show (len - 6) / 5 = j by omega] at this
    exact this
  have e7 : (if (σ 1 1 - 6) / 5 < 8 then (σ 1 1 - 6) / 5 else 8) = nI j := by
    rw [e6]
    by_cases q : j = 8
    · subst q
      rw [if_neg (show ¬ nI 8 < 8 by decide)]
      rfl
    · rw [if_pos (show nI j < 8 from nI_lt (b := 8) (by omega) (by omega))]
  rw [e7]
  obtain ⟨ρ2, a1, a2, a3⟩ := y_rfL h48 hl hj hj8 fuel 0 (up2 (up2 (up2 (up2 (up2 (up2 σ 3 0 (dg σ 1)) 3 1 (dg σ 2)) 3 2 (dg σ 3)) 3 3 (dg σ 4)) 3 4 (dg σ 5)) 3 5 (nI j)) (by omega) (by omega) up2_s rfl rfl (fun i hi => absurd hi (by omega))
  rw [show (nI 0 : Int32) = 0 from rfl] at a1
  rw [a1, Option.bind_some]
  refine ⟨ρ2, rfl, fun x b c d e => ?_, fun e he => ?_, ?_, a3⟩
  · rw [a2 x c d e, up2_c b, up2_c b, up2_c b, up2_c b, up2_c b, up2_c b]
  · rw [a2 3 (by omega) (by omega) (by omega)]
    match e, he with
    | 0, _ => rfl
    | 1, _ => rfl
    | 2, _ => rfl
    | 3, _ => rfl
    | 4, _ => rfl
  · rw [a2 3 (by omega) (by omega) (by omega)]
    rfl
theorem y_saA : ∀ (N y : Nat) (ρ : St), y ≤ 9 → 9 < N + y → (∀ i, i < y → ρ 8 i = 0) → ∃ ρ2, f_X1_startAnew_L12 N ρ (nI y) = some ρ2 ∧ (∀ x, x ≠ 8 → ρ2 x = ρ x) ∧ ∀ i, i < 9 → ρ2 8 i = 0 := by
  intro N
  induction N with
  | zero => intro y ρ h1 h2; omega
  | succ N ih =>
    intro y ρ h1 h2 hv
    rw [f_X1_startAnew_L12]
    by_cases q : y = 9
    · subst q
      rw [if_pos (show 8 < nI 9 by decide)]
      exact ⟨ρ, rfl, fun _ _ => rfl, hv⟩
    · rw [if_neg (show ¬ 8 < nI y from nI_nlt (a := 8) (b := y) (by omega) (by omega)), z_chk (by omega) (by omega), nI_clamp (by omega), nI_1]
      obtain ⟨ρ2, a1, a2, a3⟩ := ih (y + 1) (up2 ρ 8 y 0) (by omega) (by omega) (fun i hi => by
        by_cases z : i = y
        · subst z; exact up2_s
        · rw [up2_i z]; exact hv i (by omega))
      exact ⟨ρ2, a1, fun x hx => by rw [a2 x hx, up2_c hx], a3⟩
theorem y_saB : ∀ (N y : Nat) (ρ : St), y ≤ 8 → 8 < N + y → (∀ i, i < y → ρ 9 i = 0 ∧ ρ 10 i = ρ 4 i) → ∃ ρ2, f_X1_startAnew_L33 N ρ (nI y) = some ρ2 ∧ (∀ x, x ≠ 9 → x ≠ 10 → ρ2 x = ρ x) ∧ ∀ i, i < 8 → ρ2 9 i = 0 ∧ ρ2 10 i = ρ 4 i := by
  intro N
  induction N with
  | zero => intro y ρ h1 h2; omega
  | succ N ih =>
    intro y ρ h1 h2 hv
    rw [f_X1_startAnew_L33]
    by_cases q : y = 8
    · subst q
      rw [if_pos (show 8 ≤ nI 8 by decide)]
      exact ⟨ρ, rfl, fun _ _ _ => rfl, hv⟩
    · rw [if_neg (show ¬ 8 ≤ nI y from nI_ge (a := y) (b := 8) (by omega) (by omega)), z_chk (by omega) (by omega), z_chk (by omega) (by omega), z_chk (by omega) (by omega), nI_clamp (by omega), nI_1]
      obtain ⟨ρ2, a1, a2, a3⟩ := ih (y + 1) (up2 (up2 ρ 9 y 0) 10 y (ρ 4 y)) (by omega) (by omega) (fun i hi => by
        have s9 : ∀ i, up2 (up2 ρ 9 y 0) 10 y (ρ 4 y) 9 i = up2 ρ 9 y 0 9 i := fun _ => rfl
        have s10 : ∀ i, up2 (up2 ρ 9 y 0) 10 y (ρ 4 y) 10 i = up2 ρ 10 y (ρ 4 y) 10 i := fun _ => rfl
        rw [s9, s10]
        show _ ∧ _ = ρ 4 i
        by_cases z : i = y
        · subst z; exact ⟨up2_s, up2_s⟩
        · rw [up2_i z, up2_i z]; exact hv i (by omega))
      exact ⟨ρ2, a1, fun x hx hy => by rw [a2 x hx hy, up2_c hy, up2_c hx], a3⟩
theorem y_sa {ρ : St} : ∃ ρ2, f_X1_startAnew ρ = some ρ2 ∧ (∀ x, x ≠ 7 → x ≠ 8 → x ≠ 9 → x ≠ 10 → ρ2 x = ρ x) ∧ ρ2 7 3 = 0 ∧ ρ2 7 4 = 0 ∧ (∀ i, i < 9 → ρ2 8 i = 0) ∧ ∀ i, i < 8 → ρ2 9 i = 0 ∧ ρ2 10 i = ρ 4 i := by
  have := fuel_ge
  unfold f_X1_startAnew
  obtain ⟨ρ1, a1, a2, a3⟩ := y_saA fuel 0 (up2 (up2 ρ 7 3 0) 7 4 0) (by omega) (by omega) (fun i hi => absurd hi (by omega))
  obtain ⟨ρ2, b1, b2, b3⟩ := y_saB fuel 0 ρ1 (by omega) (by omega) (fun i hi => absurd hi (by omega))
  rw [show (nI 0 : Int32) = 0 from rfl] at a1 b1
  rw [a1, Option.bind_some, b1]
  refine ⟨ρ2, rfl, fun x c d e f => ?_, ?_, ?_, fun i hi => ?_, fun i hi => ?_⟩
  · rw [b2 x e f, a2 x d, up2_c c, up2_c c]
  · rw [b2 7 (by omega) (by omega), a2 7 (by omega)]; rfl
  · rw [b2 7 (by omega) (by omega), a2 7 (by omega)]; rfl
  · rw [b2 8 (by omega) (by omega)]; exact a3 i hi
  · obtain ⟨c1, c2⟩ := b3 i hi
    refine ⟨c1, ?_⟩
    rw [c2, a2 4 (by omega)]
    rfl
theorem y_feA : ∀ (N y : Nat) (ρ : St), y ≤ 5 → 5 < N + y → (∀ i, i < y → ρ 3 i = ρ 1 i) → ∃ ρ2, f_X5_ferry_L14 N ρ (nI y) = some ρ2 ∧ (∀ x, x ≠ 3 → ρ2 x = ρ x) ∧ ∀ i, i < 5 → ρ2 3 i = ρ 1 i := by
  intro N
  induction N with
  | zero => intro y ρ h1 h2; omega
  | succ N ih =>
    intro y ρ h1 h2 hv
    rw [f_X5_ferry_L14]
    by_cases q : y = 5
    · subst q
      rw [if_pos (show 5 ≤ nI 5 by decide)]
      exact ⟨ρ, rfl, fun _ _ => rfl, hv⟩
    · rw [if_neg (show ¬ 5 ≤ nI y from nI_ge (a := y) (b := 5) (by omega) (by omega)), z_chk (by omega) (by omega), z_chk (by omega) (by omega), nI_clamp (by omega), nI_1]
      obtain ⟨ρ2, a1, a2, a3⟩ := ih (y + 1) (up2 ρ 3 y (ρ 1 y)) (by omega) (by omega) (fun i hi => by
        show _ = ρ 1 i
        by_cases z : i = y
        · subst z; exact up2_s
        · rw [up2_i z]; exact hv i (by omega))
      exact ⟨ρ2, a1, fun x hx => by rw [a2 x hx, up2_c hx], a3⟩
def vaM (ρ0 ρ : St) (p : Nat) : Prop := ρ 4 (3 * p) = ρ0 2 (3 * p) ∧ ρ 4 (3 * p + 1) = ρ0 2 (3 * p + 1) ∧ ρ 4 (3 * p + 2) = ρ0 2 (3 * p + 2) ∧ ρ 5 p = 0 ∧ ρ 6 p = ρ0 2 (3 * p) ∧ ρ 7 p = 10
theorem y_feB {ρ0 : St} {j : Nat} (hj : j ≤ 8) : ∀ (N p : Nat) (ρ : St), p ≤ j → j < N + p → ρ 0 5 = nI j → ρ 2 = ρ0 2 → (∀ i, i < p → vaM ρ0 ρ i) → ∃ ρ2, f_X5_ferry_L47 N ρ (nI p) = some ρ2 ∧ (∀ x, x ≠ 4 → x ≠ 5 → x ≠ 6 → x ≠ 7 → ρ2 x = ρ x) ∧ ∀ i, i < j → vaM ρ0 ρ2 i := by
  intro N
  induction N with
  | zero => intro y ρ h1 h2; omega
  | succ N ih =>
    intro p ρ h1 h2 h5 r2 hv
    rw [f_X5_ferry_L47, h5]
    by_cases q : j ≤ p
    · rw [if_pos (nI_le q (by omega))]
      exact ⟨ρ, rfl, fun _ _ _ _ _ => rfl, fun i hi => hv i (by omega)⟩
    rw [if_neg (nI_ge (by omega) (by omega)), y_3p (by omega), show nI (3 * p) + 1 = nI (3 * p + 1) from nI_add _ 1, show nI (3 * p) + 2 = nI (3 * p + 2) from nI_add _ 2]
    rw [z_chk (by omega) (by omega), z_chk (by omega) (by omega), z_chk (by omega) (by omega), z_chk (by omega) (by omega), z_chk (by omega) (by omega), z_chk (by omega) (by omega), z_chk (by omega) (by omega), z_chk (by omega) (by omega), z_chk (by omega) (by omega), z_chk (by omega) (by omega), nI_clamp (by omega), nI_clamp (by omega), nI_clamp (by omega), nI_clamp (by omega), nI_1, r2]
    have e4 : up2 (up2 (up2 ρ 4 (3 * p) (ρ0 2 (3 * p))) 4 (3 * p + 1) (ρ0 2 (3 * p + 1))) 4 (3 * p + 2) (ρ0 2 (3 * p + 2)) 4 (3 * p) = ρ0 2 (3 * p) := by
      rw [up2_i (by omega), up2_i (by omega), up2_s]
    rw [e4]
    obtain ⟨ρ2, a1, a2, a3⟩ := ih (p + 1) (up2 (up2 (up2 (up2 (up2 (up2 ρ 4 (3 * p) (ρ0 2 (3 * p))) 4 (3 * p + 1) (ρ0 2 (3 * p + 1))) 4 (3 * p + 2) (ρ0 2 (3 * p + 2))) 5 p 0) 6 p (ρ0 2 (3 * p))) 7 p 10) (by omega) (by omega) h5 r2 (fun i hi => by
      have s4 : ∀ i, up2 (up2 (up2 (up2 (up2 (up2 ρ 4 (3 * p) (ρ0 2 (3 * p))) 4 (3 * p + 1) (ρ0 2 (3 * p + 1))) 4 (3 * p + 2) (ρ0 2 (3 * p + 2))) 5 p 0) 6 p (ρ0 2 (3 * p))) 7 p 10 4 i = up2 (up2 (up2 ρ 4 (3 * p) (ρ0 2 (3 * p))) 4 (3 * p + 1) (ρ0 2 (3 * p + 1))) 4 (3 * p + 2) (ρ0 2 (3 * p + 2)) 4 i := fun _ => rfl
      have s5 : ∀ i, up2 (up2 (up2 (up2 (up2 (up2 ρ 4 (3 * p) (ρ0 2 (3 * p))) 4 (3 * p + 1) (ρ0 2 (3 * p + 1))) 4 (3 * p + 2) (ρ0 2 (3 * p + 2))) 5 p 0) 6 p (ρ0 2 (3 * p))) 7 p 10 5 i = up2 ρ 5 p 0 5 i := fun _ => rfl
      have s6 : ∀ i, up2 (up2 (up2 (up2 (up2 (up2 ρ 4 (3 * p) (ρ0 2 (3 * p))) 4 (3 * p + 1) (ρ0 2 (3 * p + 1))) 4 (3 * p + 2) (ρ0 2 (3 * p + 2))) 5 p 0) 6 p (ρ0 2 (3 * p))) 7 p 10 6 i = up2 ρ 6 p (ρ0 2 (3 * p)) 6 i := fun _ => rfl
      have s7 : ∀ i, up2 (up2 (up2 (up2 (up2 (up2 ρ 4 (3 * p) (ρ0 2 (3 * p))) 4 (3 * p + 1) (ρ0 2 (3 * p + 1))) 4 (3 * p + 2) (ρ0 2 (3 * p + 2))) 5 p 0) 6 p (ρ0 2 (3 * p))) 7 p 10 7 i = up2 ρ 7 p 10 7 i := fun _ => rfl
      unfold vaM
      rw [s4, s4, s4, s5, s6, s7]
      by_cases z : i = p
      · subst z
        rw [e4, up2_i (by omega), up2_s, up2_s, up2_s, up2_s, up2_s]
        exact ⟨rfl, rfl, rfl, rfl, rfl, rfl⟩
      · rw [up2_i (by omega), up2_i (by omega), up2_i (by omega), up2_i (by omega), up2_i (by omega), up2_i (by omega), up2_i (by omega), up2_i (by omega), up2_i (by omega), up2_i z, up2_i z, up2_i z]
        exact hv i (by omega))
    refine ⟨ρ2, a1, fun x b c d e => ?_, a3⟩
    rw [a2 x b c d e, up2_c e, up2_c d, up2_c c, up2_c b, up2_c b, up2_c b]
theorem inM_In {m lo hi : Nat} {x : Int32} (hm : ∀ d, d ≤ 9 → (m.testBit d = true ↔ lo ≤ d ∧ d ≤ hi)) (h : inM m x) : In x lo hi := by
  obtain ⟨d, h1, h2, h3⟩ := h
  have := (hm d h1).mp h3
  exact ⟨d, this.1, this.2, h2⟩
theorem sp_ferry {σ τ : St} (h : Inv σ τ) : ∃ (r : Int32) (σ2 : St) (τ2 : St), f_X4_ferry σ = some (r, σ2) ∧ f_X5_ferry τ = some (r, τ2) ∧ Inv σ2 τ2 := by
  obtain ⟨n, k, cr, hW⟩ := id h
  obtain ⟨len, hb⟩ := Bs_of hW
  obtain ⟨v, τ1, a1, a2, a3, a4⟩ := y_read hb
  have := fuel_ge
  unfold f_X4_ferry f_X5_ferry
  rw [a1, a2, Option.bind_some, Option.bind_some]
  rcases a4 with ⟨rfl, j, j8, hj, p1, p2, p3⟩ | ⟨f, f1, rfl⟩
  · obtain ⟨h48, hl, hl0, h8⟩ := id hb
    obtain ⟨ρ1, b1, b2, b3, b4, b5⟩ := y_rf h48 hl hj j8
    obtain ⟨ρ2, c1, c2, c3, c4, c5, c6⟩ := y_sa (ρ := ρ1)
    obtain ⟨τ3, d1, d2, d3⟩ := y_feA fuel 0 τ1 (by omega) (by omega) (fun i hi => absurd hi (by omega))
    rw [show (nI 0 : Int32) = 0 from rfl] at d1
    have e2 : τ3 0 2 = nI j := by rw [d2 0 (by omega)]; exact p1
    obtain ⟨τ4, g1, g2, g3⟩ := y_feB (ρ0 := τ1) j8 fuel 0 (up2 τ3 0 5 (nI j)) (by omega) (by omega) up2_s (show τ3 2 = τ1 2 from d2 2 (by omega)) (fun i hi => absurd hi (by omega))
    rw [show (nI 0 : Int32) = 0 from rfl] at g1
    rw [if_pos rfl, if_pos rfl, b1, Option.bind_some, c1, Option.bind_some, d1, Option.bind_some, e2, g1, Option.bind_some]
    have w3 : ρ2 3 = ρ1 3 := c2 3 (by omega) (by omega) (by omega) (by omega)
    have w4 : ρ2 4 = ρ1 4 := c2 4 (by omega) (by omega) (by omega) (by omega)
    have w5 : ρ2 5 = ρ1 5 := c2 5 (by omega) (by omega) (by omega) (by omega)
    have w6 : ρ2 6 = ρ1 6 := c2 6 (by omega) (by omega) (by omega) (by omega)
    have wx : ∀ x, x ≠ 3 → x ≠ 4 → x ≠ 5 → x ≠ 6 → x ≠ 7 → x ≠ 8 → x ≠ 9 → x ≠ 10 → ρ2 x = σ x := fun x q3 q4 q5 q6 q7 q8 q9 q10 => by rw [c2 x q7 q8 q9 q10, b2 x q3 q4 q5 q6]
    have v05 : τ4 0 5 = nI j := by rw [g2 0 (by omega) (by omega) (by omega) (by omega)]; exact up2_s
    have v3 : ∀ e, e < 5 → τ4 3 e = dg σ (e + 1) := fun e he => by
      rw [g2 3 (by omega) (by omega) (by omega) (by omega)]
      show τ3 3 e = _
      rw [d3 e he]
      exact (p2 e he).1
    refine ⟨nI j, f_X2_forget (up2 (up2 ρ2 11 5 0) 15 5 0), up2 (up2 (up2 (up2 τ4 0 9 0) 0 14 0) 14 0 0) 14 1 0, ?_, by rw [v05], j, 0, fun _ => 0, ?_, ?_, ?_, Or.inl ⟨rfl, rfl⟩, Or.inl ⟨rfl, rfl⟩, fun Wa _ => PlR.forget (σ := up2 (up2 ρ2 11 5 0) 15 5 0) (Wa := Wa) ?_ Wa⟩
    · have : f_X2_forget (up2 (up2 ρ2 11 5 0) 15 5 0) 3 5 = nI j := by
        show ρ2 3 5 = _
        rw [w3, b4]
      rw [this]
    · obtain ⟨len', t1, t2, t3, t4⟩ := hW.1
      refine ⟨len', t1, ?_, ?_, fun i hi => ?_⟩
      · show ρ2 1 1 = _
        rw [wx 1 (by omega) (by omega) (by omega) (by omega) (by omega) (by omega) (by omega) (by omega)]
        exact t2
      · show τ4 0 11 = _
        rw [g2 0 (by omega) (by omega) (by omega) (by omega)]
        show τ3 0 11 = _
        rw [d2 0 (by omega), a3.2 11 (by omega) (by omega) (by omega)]
        exact t3
      · show In (ρ2 2 i) 0 255 ∧ τ4 8 i = ρ2 2 i
        rw [wx 2 (by omega) (by omega) (by omega) (by omega) (by omega) (by omega) (by omega) (by omega), g2 8 (by omega) (by omega) (by omega) (by omega)]
        show _ ∧ τ3 8 i = _
        rw [d2 8 (by omega), a3.1 8 (by omega)]
        exact t4 i hi
    · refine ⟨j8, ?_, v05, ?_, ?_, ?_, ?_, ?_, fun e he => ?_, fun p hp => ?_⟩
      · show ρ2 3 5 = _
        rw [w3, b4]
      · show In (ρ2 3 0) 2 3
        rw [w3, b3 0 (by omega)]
        exact inM_In mk12 (p2 0 (by omega)).2
      · show In (ρ2 3 1) 1 3
        rw [w3, b3 1 (by omega)]
        exact inM_In mk14 (p2 1 (by omega)).2
      · show In (ρ2 3 2) 1 3
        rw [w3, b3 2 (by omega)]
        exact inM_In mk14 (p2 2 (by omega)).2
      · show In (ρ2 3 3) 1 8
        rw [w3, b3 3 (by omega)]
        exact inM_In mk510 (p2 3 (by omega)).2
      · show In (ρ2 3 4) 0 9
        rw [w3, b3 4 (by omega)]
        exact inM_In mk1023 (p2 4 (by omega)).2
      · show τ4 3 e = ρ2 3 e
        rw [w3, b3 e he, v3 e he]
      · show In (ρ2 4 p) 1 99 ∧ In (ρ2 5 p) 0 9 ∧ In (ρ2 6 p) 0 3 ∧ τ4 4 (3 * p) = ρ2 4 p ∧ τ4 4 (3 * p + 1) = ρ2 5 p ∧ τ4 4 (3 * p + 2) = ρ2 6 p
        obtain ⟨x1, x2, x3⟩ := b5 p hp
        obtain ⟨y1, y2, y3, y4, y5, y6⟩ := g3 p hp
        obtain ⟨z1, z2, z3, z4, z5, z6⟩ := p3 p hp
        rw [w4, w5, w6, x1, x2, x3, y1, y2, y3]
        exact ⟨z4, z5, z6, z1, z2, z3⟩
    · refine ⟨by omega, ?_, rfl, ?_, ?_, ⟨fun j _ => (show 0 < 2 ^ 24 by decide), fun j e p _ _ _ h => ?_, fun j e j' e' p _ _ _ _ _ h => ?_⟩, fun i hi => ?_, fun p hp => ?_, fun p hp => ?_, fun j e hj => absurd hj (by omega), fun p hp => ?_⟩
      · show ρ2 7 3 = _
        rw [c3]; rfl
      · show In (ρ2 7 4) 0 9
        rw [c4]
        exact ⟨0, by omega, by omega, rfl⟩
      · show 0 = ρ2 7 4
        rw [c4]
      · simp at h
      · simp at h
      · show ρ2 8 i = _
        rw [c5 i (by omega)]; rfl
      · show τ4 5 p = ρ2 9 p ∧ -3 ≤ (ρ2 9 p).toInt ∧ (ρ2 9 p).toInt ≤ 3
        rw [(g3 p hp).2.2.2.1, (c6 p (by omega)).1]
        exact ⟨rfl, by decide, by decide⟩
      · show τ4 6 p = ρ2 10 p ∧ In (ρ2 10 p) 1 99
        rw [(g3 p hp).2.2.2.2.1, (c6 p (by omega)).2, (b5 p hp).1, (p3 p hp).1]
        exact ⟨rfl, (p3 p hp).2.2.2.1⟩
      · refine Or.inr ⟨?_, Or.inr ⟨fun e he => by simp, (g3 p hp).2.2.2.2.2⟩⟩
        rintro ⟨i, hi, _⟩
        omega
    · have hw := hW.2.2.2.2.2 (waN n cr k) (waN_is hW.2.1.1)
      show ρ2 20 0 = 0 ∧ ρ2 21 0 = 0 ∧ ρ2 22 0 = 0
      rw [wx 20 (by omega) (by omega) (by omega) (by omega) (by omega) (by omega) (by omega) (by omega), wx 21 (by omega) (by omega) (by omega) (by omega) (by omega) (by omega) (by omega) (by omega), wx 22 (by omega) (by omega) (by omega) (by omega) (by omega) (by omega) (by omega) (by omega)]
      exact ⟨hw.1, hw.2.1, hw.2.2.1⟩
  · rw [if_neg (y_ne9 (by omega)), if_neg (y_ne9 (by omega))]
    exact ⟨-3, σ, τ1, rfl, rfl, n, k, cr, fr_Inv hW a3⟩
