/-! pure: how a state of the class and one of the reference belong together -/
/-- the text -/
def TxR (σ τ : St) : Prop := ∃ len : Nat, len ≤ 48 ∧ σ 1 1 = nI len ∧ τ 0 11 = nI len ∧ ∀ i, i < len → In (σ 2 i) 0 255 ∧ τ 8 i = σ 2 i
/-- the ferry as told -/
def CrR (n : Nat) (σ τ : St) : Prop := n ≤ 8 ∧ σ 3 5 = nI n ∧ τ 0 5 = nI n ∧ In (σ 3 0) 2 3 ∧ In (σ 3 1) 1 3 ∧ In (σ 3 2) 1 3 ∧ In (σ 3 3) 1 8 ∧ In (σ 3 4) 0 9 ∧ (∀ j, j < 5 → τ 3 j = σ 3 j) ∧
  ∀ p, p < n → In (σ 4 p) 1 99 ∧ In (σ 5 p) 0 9 ∧ In (σ 6 p) 0 3 ∧ τ 4 (3 * p) = σ 4 p ∧ τ 4 (3 * p + 1) = σ 5 p ∧ τ 4 (3 * p + 2) = σ 6 p
/-- those at an END of a crew -/
def sit (c e : Nat) : Nat := c / 2 ^ (8 * e) % 256
/-- gone with one of the first k boats -/
def goneB (k : Nat) (cr : Nat → Nat) (p : Nat) : Prop := ∃ j, j < k ∧ ∃ e, e < 3 ∧ (cr j).testBit (8 * e + p) = true
def crOK (n k : Nat) (cr : Nat → Nat) : Prop := (∀ j, j ≤ k → cr j < 2 ^ 24) ∧ (∀ j e p, j ≤ k → e < 3 → p < 8 → (cr j).testBit (8 * e + p) = true → p < n) ∧
  ∀ j e j' e' p, j ≤ k → j' ≤ k → e < 3 → e' < 3 → p < 8 → (cr j).testBit (8 * e + p) = true → (cr j').testBit (8 * e' + p) = true → j = j' ∧ e = e'
/-- where somebody is -/
def plR (k : Nat) (cr : Nat → Nat) (p : Nat) (v : Int32) : Prop := (goneB k cr p ∧ v = 20) ∨ (¬ goneB k cr p ∧ ((∃ e, e < 3 ∧ (cr k).testBit (8 * e + p) = true ∧ v = nI e) ∨ ((∀ e, e < 3 → (cr k).testBit (8 * e + p) = false) ∧ v = 10)))
/-- a log, by the reference's rows -/
def LgR (n k : Nat) (cr : Nat → Nat) (σ : St) (b : Nat) (pl gn cl lf : Nat → Int32) (bo mi : Int32) : Prop :=
  k ≤ 8 ∧ σ b 3 = nI k ∧ bo = nI k ∧ In (σ b 4) 0 9 ∧ mi = σ b 4 ∧ crOK n k cr ∧ (∀ j, j ≤ k → σ (b + 1) j = nI (cr j)) ∧
  (∀ p, p < n → gn p = σ (b + 2) p ∧ -3 ≤ (σ (b + 2) p).toInt ∧ (σ (b + 2) p).toInt ≤ 3) ∧ (∀ p, p < n → cl p = σ (b + 3) p ∧ In (σ (b + 3) p) 1 99) ∧
  (∀ j e, j < k → e < 3 → lf (3 * j + e) = nI (sit (cr j) e)) ∧ ∀ p, p < n → plR k cr p (pl p)
def KpR (n : Nat) (σ : St) (b : Nat) (f : Int32) (pl gn cl lf : Nat → Int32) (bo mi : Int32) : Prop := (σ b 5 = 0 ∧ f = 0) ∨ (σ b 5 = 1 ∧ f = 1 ∧ ∃ k cr, LgR n k cr σ b pl gn cl lf bo mi)
/-- who waits -/
def isWa (n k : Nat) (cr : Nat → Nat) (Wa : Nat) : Prop := Wa < 2 ^ n ∧ ∀ p, p < n → (Wa.testBit p = true ↔ ¬ goneB k cr p)
def InvW (n k : Nat) (cr : Nat → Nat) (σ τ : St) : Prop := TxR σ τ ∧ CrR n σ τ ∧ LgR n k cr σ 7 (τ 7) (τ 5) (τ 6) (τ 9) (τ 0 14) (τ 0 9) ∧
  KpR n σ 11 (τ 14 0) (τ 15) (τ 16) (τ 17) (τ 18) (τ 19 0) (τ 19 1) ∧ KpR n σ 15 (τ 14 1) (fun p => τ 15 (8 + p)) (fun p => τ 16 (8 + p)) (fun p => τ 17 (8 + p)) (fun p => τ 18 (24 + p)) (τ 19 2) (τ 19 3) ∧
  ∀ Wa, isWa n k cr Wa → PlR σ Wa
def Inv (σ τ : St) : Prop := ∃ n k cr, InvW n k cr σ τ
theorem sit_tb (c e p : Nat) : (sit c e).testBit p = (decide (p < 8) && c.testBit (8 * e + p)) := by
  unfold sit
  rw [show (256 : Nat) = 2 ^ 8 from rfl, Nat.testBit_mod_two_pow, Nat.testBit_div_two_pow, Nat.add_comm p]
theorem sit_lt (c e : Nat) : sit c e < 256 := Nat.mod_lt _ (by omega)
theorem inv0 : Inv initX initM := by
  refine ⟨0, 0, fun _ => 0, ⟨0, by omega, rfl, rfl, fun i hi => absurd hi (by omega)⟩, ?_, ?_, Or.inl ⟨rfl, rfl⟩, Or.inl ⟨rfl, rfl⟩, fun Wa _ => ⟨rfl, rfl, rfl, Or.inl ⟨rfl, rfl, rfl⟩⟩⟩
  · refine ⟨by omega, rfl, rfl, ⟨2, by omega, by omega, rfl⟩, ⟨1, by omega, by omega, rfl⟩, ⟨1, by omega, by omega, rfl⟩, ⟨8, by omega, by omega, rfl⟩, ⟨0, by omega, by omega, rfl⟩, fun j hj => ?_, fun p hp => absurd hp (by omega)⟩
    match j, hj with
    | 0, _ => rfl
    | 1, _ => rfl
    | 2, _ => rfl
    | 3, _ => rfl
    | 4, _ => rfl
  · refine ⟨by omega, rfl, rfl, ⟨0, by omega, by omega, rfl⟩, rfl, ⟨fun j _ => (show 0 < 2 ^ 24 by decide), fun j e p _ _ _ h => ?_, fun j e j' e' p _ _ _ _ _ h => ?_⟩, fun j _ => rfl, fun p hp => absurd hp (by omega), fun p hp => absurd hp (by omega), fun j e hj => absurd hj (by omega), fun p hp => absurd hp (by omega)⟩
    · simp at h
    · simp at h
