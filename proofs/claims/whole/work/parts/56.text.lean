/-! pure: the text and its first fault -/
def dg (σ : St) (i : Nat) : Int32 := σ 2 i - 48
def inM (m : Nat) (x : Int32) : Prop := ∃ d, d ≤ 9 ∧ x = nI d ∧ m.testBit d = true
def okX (σ : St) (i : Nat) : Prop := f_X3_mayStand σ (nI i) = some 1
def Bs (σ τ : St) (len : Nat) : Prop := len ≤ 48 ∧ σ 1 1 = nI len ∧ τ 0 11 = nI len ∧ ∀ i, i < len → τ 8 i = σ 2 i
theorem y_byteX {σ : St} {len i : Nat} (h48 : len ≤ 48) (hl : σ 1 1 = nI len) (hi : i < len) : f_X3_byteAt σ (nI i) = some (σ 2 i) := by
  unfold f_X3_byteAt
  have n48 : ¬ (48 : Int32) ≤ nI i := nI_ge (a := i) (b := 48) (by omega) (by omega)
  rw [if_neg (nI_pos (by omega)), hl, if_neg (nI_ge hi (by omega)), if_neg n48, z_chk (by omega) (by omega), nI_clamp (by omega)]
theorem y_fig {σ : St} {len i : Nat} (h48 : len ≤ 48) (hl : σ 1 1 = nI len) (hi : i < len) : f_X3_figure σ (nI i) = some (dg σ i) := by
  unfold f_X3_figure
  rw [y_byteX h48 hl hi]
  rfl
theorem y_isF {σ : St} {len i : Nat} (lo hi m : Nat) (h48 : len ≤ 48) (hl : σ 1 1 = nI len) (hi1 : i < len) (h9 : hi ≤ 9) (hm : ∀ d, d ≤ 9 → (m.testBit d = true ↔ lo ≤ d ∧ d ≤ hi)) (hlo : lo ≤ 9) : (inM m (dg σ i) ∧ f_X3_isFigure σ (nI i) (nI lo) (nI hi) = some 1) ∨ (¬ inM m (dg σ i) ∧ f_X3_isFigure σ (nI i) (nI lo) (nI hi) = some 0) := by
  unfold f_X3_isFigure
  rw [y_fig h48 hl hi1, Option.bind_some, Option.bind_some]
  by_cases a : dg σ i < nI lo
  · refine Or.inr ⟨?_, if_pos a⟩
    rintro ⟨d, h1, h2, h3⟩
    rw [h2, z_lt (by omega) (by omega)] at a
    have := (hm d h1).mp h3
    omega
  · rw [if_neg a]
    by_cases b : nI hi < dg σ i
    · refine Or.inr ⟨?_, if_pos b⟩
      rintro ⟨d, h1, h2, h3⟩
      rw [h2, z_lt (by omega) (by omega)] at b
      have := (hm d h1).mp h3
      omega
    · refine Or.inl ⟨?_, if_neg b⟩
      rw [y_nlt, Int32.le_iff_toInt_le, nI_toInt (by omega)] at a b
      obtain ⟨d, e1, e2⟩ := z_ofL (x := dg σ i) (by omega)
      exact ⟨d, by omega, e1, (hm d (by omega)).mpr (by omega)⟩
def hmask : Nat → Nat
  | 0 => 12
  | 1 => 14
  | 2 => 14
  | 3 => 510
  | _ => 1023
theorem mk12 : ∀ d, d ≤ 9 → ((12 : Nat).testBit d = true ↔ 2 ≤ d ∧ d ≤ 3) := by decide
theorem mk14 : ∀ d, d ≤ 9 → ((14 : Nat).testBit d = true ↔ 1 ≤ d ∧ d ≤ 3) := by decide
theorem mk510 : ∀ d, d ≤ 9 → ((510 : Nat).testBit d = true ↔ 1 ≤ d ∧ d ≤ 8) := by decide
theorem mk1023 : ∀ d, d ≤ 9 → ((1023 : Nat).testBit d = true ↔ 0 ≤ d ∧ d ≤ 9) := by decide
theorem mk1022 : ∀ d, d ≤ 9 → ((1022 : Nat).testBit d = true ↔ 1 ≤ d ∧ d ≤ 9) := by decide
theorem mk3 : ∀ d, d ≤ 9 → ((3 : Nat).testBit d = true ↔ 0 ≤ d ∧ d ≤ 1) := by decide
theorem mk7 : ∀ d, d ≤ 9 → ((7 : Nat).testBit d = true ↔ 0 ≤ d ∧ d ≤ 2) := by decide
theorem y_msH {σ : St} {len s : Nat} (h48 : len ≤ 48) (hl : σ 1 1 = nI len) (hs : s < 5) (hi : s + 1 < len) : (inM (hmask s) (dg σ (s + 1)) ∧ okX σ (s + 1)) ∨ (¬ inM (hmask s) (dg σ (s + 1)) ∧ f_X3_mayStand σ (nI (s + 1)) = some 0) := by
  unfold okX f_X3_mayStand
  match s, hs with
  | 0, _ =>
    rw [if_pos (show nI (0 + 1) < 6 by decide), if_neg (show ¬ nI (0 + 1) = 0 by decide), if_pos (show nI (0 + 1) = 1 from rfl)]
    rcases y_isF 2 3 12 h48 hl hi (by omega) mk12 (by omega) with ⟨a, b⟩ | ⟨a, b⟩
    · exact Or.inl ⟨a, by rw [show f_X3_isFigure σ (nI (0 + 1)) 2 3 = some 1 from b]; rfl⟩
    · exact Or.inr ⟨a, by rw [show f_X3_isFigure σ (nI (0 + 1)) 2 3 = some 0 from b]; rfl⟩
  | 1, _ =>
    rw [if_pos (show nI (1 + 1) < 6 by decide), if_neg (show ¬ nI (1 + 1) = 0 by decide), if_neg (show ¬ nI (1 + 1) = 1 by decide), if_pos (show nI (1 + 1) = 2 from rfl)]
    rcases y_isF 1 3 14 h48 hl hi (by omega) mk14 (by omega) with ⟨a, b⟩ | ⟨a, b⟩
    · exact Or.inl ⟨a, by rw [show f_X3_isFigure σ (nI (1 + 1)) 1 3 = some 1 from b]; rfl⟩
    · exact Or.inr ⟨a, by rw [show f_X3_isFigure σ (nI (1 + 1)) 1 3 = some 0 from b]; rfl⟩
  | 2, _ =>
    rw [if_pos (show nI (2 + 1) < 6 by decide), if_neg (show ¬ nI (2 + 1) = 0 by decide), if_neg (show ¬ nI (2 + 1) = 1 by decide), if_neg (show ¬ nI (2 + 1) = 2 by decide), if_pos (show nI (2 + 1) = 3 from rfl)]
    rcases y_isF 1 3 14 h48 hl hi (by omega) mk14 (by omega) with ⟨a, b⟩ | ⟨a, b⟩
    · exact Or.inl ⟨a, by rw [show f_X3_isFigure σ (nI (2 + 1)) 1 3 = some 1 from b]; rfl⟩
    · exact Or.inr ⟨a, by rw [show f_X3_isFigure σ (nI (2 + 1)) 1 3 = some 0 from b]; rfl⟩
  | 3, _ =>
    rw [if_pos (show nI (3 + 1) < 6 by decide), if_neg (show ¬ nI (3 + 1) = 0 by decide), if_neg (show ¬ nI (3 + 1) = 1 by decide), if_neg (show ¬ nI (3 + 1) = 2 by decide), if_neg (show ¬ nI (3 + 1) = 3 by decide), if_pos (show nI (3 + 1) = 4 from rfl)]
    rcases y_isF 1 8 510 h48 hl hi (by omega) mk510 (by omega) with ⟨a, b⟩ | ⟨a, b⟩
    · exact Or.inl ⟨a, by rw [show f_X3_isFigure σ (nI (3 + 1)) 1 8 = some 1 from b]; rfl⟩
    · exact Or.inr ⟨a, by rw [show f_X3_isFigure σ (nI (3 + 1)) 1 8 = some 0 from b]; rfl⟩
  | 4, _ =>
    rw [if_pos (show nI (4 + 1) < 6 by decide), if_neg (show ¬ nI (4 + 1) = 0 by decide), if_neg (show ¬ nI (4 + 1) = 1 by decide), if_neg (show ¬ nI (4 + 1) = 2 by decide), if_neg (show ¬ nI (4 + 1) = 3 by decide), if_neg (show ¬ nI (4 + 1) = 4 by decide)]
    rcases y_isF 0 9 1023 h48 hl hi (by omega) mk1023 (by omega) with ⟨a, b⟩ | ⟨a, b⟩
    · exact Or.inl ⟨a, by rw [show f_X3_isFigure σ (nI (4 + 1)) 0 9 = some 1 from b]; rfl⟩
    · exact Or.inr ⟨a, by rw [show f_X3_isFigure σ (nI (4 + 1)) 0 9 = some 0 from b]; rfl⟩
theorem y_rem6 {j r : Nat} (hr : r < 5) (hj : j ≤ 9) : rem (nI (6 + 5 * j + r) - 6) 5 = nI r := by
  rw [show nI (6 + 5 * j + r) - 6 = nI (6 + 5 * j + r - 6) from pk_sub (a := 6 + 5 * j + r) (b := 6) (by omega)]
  have := pk_rem (a := 6 + 5 * j + r - 6) (d := 5) (by omega) (by omega) (by omega)
  rw [show (6 + 5 * j + r - 6) % 5 = r by omega] at this
  exact this
theorem y_msP {σ : St} {i : Nat} (h6 : 6 ≤ i) (h46 : i < 46) : f_X3_mayStand σ (nI i) = ((f_X3_mayStandInPerson σ (nI i)).bind fun u20 => (if u20 = 0 then (some 0) else (some 1))) := by
  unfold f_X3_mayStand
  have a : ¬ nI i < 6 := nI_nlt (a := i) (b := 6) (by omega) (by omega)
  have b : ¬ 46 ≤ nI i := nI_ge (a := i) (b := 46) (by omega) (by omega)
  rw [if_neg a, if_neg b]
theorem y_ms0 {σ : St} {len j : Nat} (h48 : len ≤ 48) (hl : σ 1 1 = nI len) (hj : j < 8) (hi : 6 + 5 * j < len) : (σ 2 (6 + 5 * j) = 80 ∧ okX σ (6 + 5 * j)) ∨ (¬ σ 2 (6 + 5 * j) = 80 ∧ f_X3_mayStand σ (nI (6 + 5 * j)) = some 0) := by
  unfold okX
  rw [y_msP (by omega) (by omega)]
  unfold f_X3_mayStandInPerson
  have e := y_rem6 (j := j) (r := 0) (by omega) (by omega)
  rw [Nat.add_zero] at e
  rw [e, if_pos (show nI 0 = 0 from rfl), y_byteX h48 hl hi, Option.bind_some]
  by_cases q : σ 2 (6 + 5 * j) = 80
  · rw [if_pos q]; exact Or.inl ⟨q, rfl⟩
  · rw [if_neg q]; exact Or.inr ⟨q, rfl⟩
theorem y_ms13 {σ : St} {len j r : Nat} (h48 : len ≤ 48) (hl : σ 1 1 = nI len) (hr : r = 1 ∨ r = 3) (hj : j < 8) (hi : 6 + 5 * j + r < len) : (inM 1023 (dg σ (6 + 5 * j + r)) ∧ okX σ (6 + 5 * j + r)) ∨ (¬ inM 1023 (dg σ (6 + 5 * j + r)) ∧ f_X3_mayStand σ (nI (6 + 5 * j + r)) = some 0) := by
  unfold okX
  rw [y_msP (by omega) (by omega)]
  unfold f_X3_mayStandInPerson
  rw [y_rem6 (by omega) (by omega)]
  have n0 : ¬ nI r = 0 := by rcases hr with rfl | rfl <;> decide
  have n2 : ¬ nI r = 2 := by rcases hr with rfl | rfl <;> decide
  have n4 : ¬ nI r = 4 := by rcases hr with rfl | rfl <;> decide
  rw [if_neg n0, if_neg n2, if_neg n4]
  rcases y_isF 0 9 1023 h48 hl hi (by omega) mk1023 (by omega) with ⟨a, b⟩ | ⟨a, b⟩
  · exact Or.inl ⟨a, by rw [show f_X3_isFigure σ (nI (6 + 5 * j + r)) 0 9 = some 1 from b]; rfl⟩
  · exact Or.inr ⟨a, by rw [show f_X3_isFigure σ (nI (6 + 5 * j + r)) 0 9 = some 0 from b]; rfl⟩
theorem y_ms2 {σ : St} {len j : Nat} (h48 : len ≤ 48) (hl : σ 1 1 = nI len) (hj : j < 8) (hi : 6 + 5 * j + 2 < len) (m : Nat) (hm : m = if dg σ (6 + 5 * j + 1) = 0 then 1022 else 1023) : (inM m (dg σ (6 + 5 * j + 2)) ∧ okX σ (6 + 5 * j + 2)) ∨ (¬ inM m (dg σ (6 + 5 * j + 2)) ∧ f_X3_mayStand σ (nI (6 + 5 * j + 2)) = some 0) := by
  unfold okX
  rw [y_msP (by omega) (by omega)]
  unfold f_X3_mayStandInPerson
  rw [y_rem6 (by omega) (by omega), if_neg (show ¬ nI 2 = 0 by decide), if_pos (show nI 2 = 2 from rfl), show nI (6 + 5 * j + 2) - 1 = nI (6 + 5 * j + 1) from pk_sub (a := 6 + 5 * j + 2) (b := 1) (by omega), y_fig h48 hl (by omega), Option.bind_some]
  by_cases q : dg σ (6 + 5 * j + 1) = 0
  · rw [if_pos q] at hm
    rw [if_pos q, hm]
    rcases y_isF 1 9 1022 h48 hl hi (by omega) mk1022 (by omega) with ⟨a, b⟩ | ⟨a, b⟩
    · exact Or.inl ⟨a, by rw [show f_X3_isFigure σ (nI (6 + 5 * j + 2)) 1 9 = some 1 from b]; rfl⟩
    · exact Or.inr ⟨a, by rw [show f_X3_isFigure σ (nI (6 + 5 * j + 2)) 1 9 = some 0 from b]; rfl⟩
  · rw [if_neg q] at hm
    rw [if_neg q, hm]
    rcases y_isF 0 9 1023 h48 hl hi (by omega) mk1023 (by omega) with ⟨a, b⟩ | ⟨a, b⟩
    · exact Or.inl ⟨a, by rw [show f_X3_isFigure σ (nI (6 + 5 * j + 2)) 0 9 = some 1 from b]; rfl⟩
    · exact Or.inr ⟨a, by rw [show f_X3_isFigure σ (nI (6 + 5 * j + 2)) 0 9 = some 0 from b]; rfl⟩
theorem inM_or {m m' : Nat} {x : Int32} (h : ∀ d, d ≤ 9 → (m.testBit d = true ↔ m'.testBit d = true ∨ d = 3)) : inM m x ↔ (inM m' x ∨ x = 3) := by
  constructor
  · rintro ⟨d, h1, h2, h3⟩
    rcases (h d h1).mp h3 with q | q
    · exact Or.inl ⟨d, h1, h2, q⟩
    · subst q; exact Or.inr h2
  · rintro (⟨d, h1, h2, h3⟩ | q)
    · exact ⟨d, h1, h2, (h d h1).mpr (Or.inl h3)⟩
    · exact ⟨3, by omega, q, (h 3 (by omega)).mpr (Or.inr rfl)⟩
theorem mk11 : ∀ d, d ≤ 9 → ((11 : Nat).testBit d = true ↔ (3 : Nat).testBit d = true ∨ d = 3) := by decide
theorem mk15 : ∀ d, d ≤ 9 → ((15 : Nat).testBit d = true ↔ (7 : Nat).testBit d = true ∨ d = 3) := by decide
theorem y_ms4 {σ : St} {len j : Nat} (h48 : len ≤ 48) (hl : σ 1 1 = nI len) (hj : j < 8) (hi : 6 + 5 * j + 4 < len) (m : Nat) (he : inM 12 (dg σ 1)) (hm : m = if dg σ 1 = 2 then 11 else 15) : (inM m (dg σ (6 + 5 * j + 4)) ∧ okX σ (6 + 5 * j + 4)) ∨ (¬ inM m (dg σ (6 + 5 * j + 4)) ∧ f_X3_mayStand σ (nI (6 + 5 * j + 4)) = some 0) := by
  obtain ⟨en, h1, h2, h3⟩ := he
  have h3 := (mk12 en h1).mp h3
  unfold okX
  rw [y_msP (by omega) (by omega)]
  unfold f_X3_mayStandInPerson
  have f1 := y_fig h48 hl (i := 1) (by omega)
  rw [show (nI 1 : Int32) = 1 from rfl] at f1
  rw [y_rem6 (by omega) (by omega), if_neg (show ¬ nI 4 = 0 by decide), if_neg (show ¬ nI 4 = 2 by decide), if_pos (show nI 4 = 4 from rfl), y_fig h48 hl hi, Option.bind_some, f1, Option.bind_some, h2]
  rw [h2] at hm
  have hen : (en = 2 ∧ m = 11) ∨ (en = 3 ∧ m = 15) := by
    by_cases q : en = 2
    · subst q
      rw [if_pos (show nI 2 = 2 from rfl)] at hm
      exact Or.inl ⟨rfl, hm⟩
    · have : en = 3 := by omega
      subst this
      rw [if_neg (by decide)] at hm
      exact Or.inr ⟨rfl, hm⟩
  by_cases q : dg σ (6 + 5 * j + 4) = 3
  · rw [if_pos q]
    refine Or.inl ⟨?_, rfl⟩
    rcases hen with ⟨-, rfl⟩ | ⟨-, rfl⟩
    · exact (inM_or mk11).mpr (Or.inr q)
    · exact (inM_or mk15).mpr (Or.inr q)
  · rw [if_neg q]
    rcases hen with ⟨rfl, rfl⟩ | ⟨rfl, rfl⟩
    · rw [inM_or mk11]
      rcases y_isF 0 1 3 h48 hl hi (by omega) mk3 (by omega) with ⟨a, b⟩ | ⟨a, b⟩
      · exact Or.inl ⟨Or.inl a, by rw [show f_X3_isFigure σ (nI (6 + 5 * j + 4)) 0 (nI 2 - 1) = some 1 from b]; rfl⟩
      · exact Or.inr ⟨fun z => z.elim a q, by rw [show f_X3_isFigure σ (nI (6 + 5 * j + 4)) 0 (nI 2 - 1) = some 0 from b]; rfl⟩
    · rw [inM_or mk15]
      rcases y_isF 0 2 7 h48 hl hi (by omega) mk7 (by omega) with ⟨a, b⟩ | ⟨a, b⟩
      · exact Or.inl ⟨Or.inl a, by rw [show f_X3_isFigure σ (nI (6 + 5 * j + 4)) 0 (nI 3 - 1) = some 1 from b]; rfl⟩
      · exact Or.inr ⟨fun z => z.elim a q, by rw [show f_X3_isFigure σ (nI (6 + 5 * j + 4)) 0 (nI 3 - 1) = some 0 from b]; rfl⟩
/-- where the class ends -/
def tailF (σ : St) (len f : Nat) (v : Int32) : Prop := (f < len ∧ f_X3_mayStand σ (nI f) = some 0 ∧ v = nI f) ∨ (f = len ∧ (len < 6 ∨ (len - 6) % 5 ≠ 0) ∧ v = nI f) ∨ (f = len ∧ 6 ≤ len ∧ (len - 6) % 5 = 0 ∧ v = -9)
theorem y_ffL {σ : St} {len f : Nat} {v : Int32} (h48 : len ≤ 48) (hl : σ 1 1 = nI len) (hf : f ≤ len) (ht : tailF σ len f v) : ∀ (N p : Nat), p ≤ f → len < N + p → (∀ j, p ≤ j → j < f → okX σ j) → f_X3_firstFault_L2 σ N (nI p) = some v := by
  intro N
  induction N with
  | zero => intro p h1 h2; omega
  | succ N ih =>
    intro p h1 h2 h3
    rw [f_X3_firstFault_L2, hl]
    by_cases q : len ≤ p
    · rw [if_pos (nI_le q (by omega))]
      rcases ht with ⟨t1, -⟩ | ⟨t1, t2, rfl⟩ | ⟨t1, t2, t3, rfl⟩
      · omega
      · subst t1
        by_cases q6 : f < 6
        · rw [if_pos (show nI f < 6 from nI_lt (b := 6) q6 (by omega))]
          rfl
        · rw [if_neg (show ¬ nI f < 6 from nI_nlt (b := 6) (by omega) (by omega))]
          have e := pk_rem (a := f - 6) (d := 5) (by omega) (by omega) (by omega)
          have n0 : ¬ rem (nI f - 6) 5 = 0 := by
            rw [show nI f - 6 = nI (f - 6) from pk_sub (a := f) (b := 6) (by omega)]
            intro z
            have z2 : nI ((f - 6) % 5) = nI 0 := e.symm.trans z
            rw [z_eq (by omega) (by omega)] at z2
            omega
          rw [if_neg n0]
          rfl
      · subst t1
        rw [if_neg (show ¬ nI f < 6 from nI_nlt (b := 6) (by omega) (by omega))]
        have e := pk_rem (a := f - 6) (d := 5) (by omega) (by omega) (by omega)
        have n0 : rem (nI f - 6) 5 = 0 := by
          rw [show nI f - 6 = nI (f - 6) from pk_sub (a := f) (b := 6) (by omega)]
          exact e.trans (by rw [t3]; rfl)
        rw [if_pos n0]
        rfl
    · rw [if_neg (nI_ge (by omega) (by omega)), nI_1]
      by_cases q2 : p = f
      · subst q2
        rcases ht with ⟨t1, t2, rfl⟩ | ⟨t1, t2, rfl⟩ | ⟨t1, t2, t3, rfl⟩
        · rw [t2]; rfl
        · omega
        · omega
      · have h4 : f_X3_mayStand σ (nI p) = some 1 := h3 p (by omega) (by omega)
        rw [h4, Option.bind_some, if_neg i10]
        exact ih (p + 1) (by omega) (by omega) (fun j a b => h3 j (by omega) b)
theorem y_ff {σ : St} {len f : Nat} {v : Int32} (h48 : len ≤ 48) (hl : σ 1 1 = nI len) (hf : f ≤ len) (h3 : ∀ j, j < f → okX σ j) (ht : tailF σ len f v) : f_X3_firstFault σ = some v := by
  have := fuel_ge
  exact y_ffL h48 hl hf ht fuel 0 (by omega) (by omega) (fun j _ h => h3 j h)
/-! the reference reads -/
def gdR (σ : St) (len i : Nat) (τ : St) : Prop := τ 0 13 = -9 ∧ τ 0 12 = nI i ∧ i ≤ len ∧ ∀ j, j < i → okX σ j
def bdR (σ : St) (τ : St) : Prop := ∃ f, f ≤ 48 ∧ τ 0 13 = nI f ∧ f_X3_firstFault σ = some (nI f)
def frR (τ0 τ : St) : Prop := (∀ x, 3 ≤ x → τ x = τ0 x) ∧ ∀ j, j ≠ 2 → j ≠ 12 → j ≠ 13 → τ 0 j = τ0 0 j
theorem y_inN (m : Nat) (hm : m < 2 ^ 31) (x : Int32) (τ : St) (u : Int32) : (inM m x ∧ f_X5_figure_J36 τ (nI m) x = some (x, up2 τ 0 12 (τ 0 12 + 1))) ∨ (¬ inM m x ∧ f_X5_figure_J36 τ (nI m) x = f_X5_figure_J57 τ) := by
  unfold f_X5_figure_J36
  rcases y_rng x (lo := 0) (hi := 9) (lo' := 0) (hi' := 9) rfl rfl with ⟨q1, q2, q3⟩ | ⟨q1, q3⟩
  · obtain ⟨d, hd, rfl⟩ := nI_of2 (x := x) (M := 9) (n := 9) rfl (y_nlt.mpr q1) q2
    rw [q3, if_neg i10]
    by_cases b : m.testBit d = true
    · rw [if_neg (by rw [z_bit0 hm (by omega), b]; decide)]
      exact Or.inl ⟨⟨d, hd, rfl, b⟩, rfl⟩
    · have b0 : m.testBit d = false := by simpa using b
      rw [if_pos (by rw [z_bit0 hm (by omega)]; exact b0)]
      refine Or.inr ⟨?_, rfl⟩
      rintro ⟨d', h1, h2, h3⟩
      rw [z_eq (by omega) (by omega)] at h2
      subst h2
      exact b h3
  · rw [q3, if_pos rfl]
    refine Or.inr ⟨?_, rfl⟩
    rintro ⟨d, h1, rfl, h3⟩
    refine q1 ⟨?_, ?_⟩
    · rw [show (0 : Int32) = nI 0 from rfl, z_le (by omega) (by omega)]; omega
    · rw [show (9 : Int32) = nI 9 from rfl, z_le (by omega) (by omega)]; omega
theorem y_m1 (m : Nat) : ¬ inM m (-1) := by
  rintro ⟨d, h1, h2, h3⟩
  have a := nI_toInt (n := d) (by omega)
  rw [← h2] at a
  have b : (-1 : Int32).toInt = -1 := by decide
  omega
theorem y_step {σ τ0 τ : St} {len i m : Nat} {Q : Prop} (hb : Bs σ τ0 len) (hm31 : m < 2 ^ 31) (hF : frR τ0 τ) (h : (gdR σ len i τ ∧ Q) ∨ bdR σ τ) (hm : Q → i < len → (inM m (dg σ i) ∧ okX σ i) ∨ (¬ inM m (dg σ i) ∧ f_X3_mayStand σ (nI i) = some 0)) (hin : i < 6 ∨ (i - 6) % 5 ≠ 0) : ∃ v τ', f_X5_figure τ (nI m) = some (v, τ') ∧ frR τ0 τ' ∧ τ' 1 = τ 1 ∧ τ' 2 = τ 2 ∧ τ' 0 2 = τ 0 2 ∧ ((gdR σ len (i + 1) τ' ∧ Q ∧ v = dg σ i ∧ inM m (dg σ i)) ∨ bdR σ τ') := by
  obtain ⟨h48, hl, hl0, h8⟩ := hb
  unfold f_X5_figure f_X5_figure_J35
  rcases h with ⟨⟨g1, g2, g3, g4⟩, hQ⟩ | ⟨f, f1, f2, f3⟩
  · have fx : ∀ t : Int32, τ 0 12 = nI i → tailF σ len i (nI i) → ∃ v τ', f_X5_figure_J57 τ = some (v, τ') ∧ frR τ0 τ' ∧ τ' 1 = τ 1 ∧ τ' 2 = τ 2 ∧ τ' 0 2 = τ 0 2 ∧ ((gdR σ len (i + 1) τ' ∧ Q ∧ v = dg σ i ∧ inM m (dg σ i)) ∨ bdR σ τ') := by
      intro _ _ ht
      unfold f_X5_figure_J57
      rw [if_pos g1, g2]
      refine ⟨0, up2 τ 0 13 (nI i), rfl, ⟨fun x hx => by rw [up2_c (by omega)]; exact hF.1 x hx, fun j a b c => by rw [up2_i c]; exact hF.2 j a b c⟩, rfl, rfl, rfl, Or.inr ⟨i, by omega, up2_s, y_ff h48 hl g3 g4 ht⟩⟩
    have e11 : τ 0 11 = nI len := by rw [hF.2 11 (by omega) (by omega) (by omega), hl0]
    rw [if_pos g1, e11, g2]
    by_cases q : len ≤ i
    · have hil : i = len := by omega
      rw [if_pos (nI_le q (by omega))]
      rcases y_inN m hm31 (-1) τ 0 with ⟨a, b⟩ | ⟨a, b⟩
      · exact absurd a (y_m1 m)
      · rw [b]
        exact fx 0 g2 (Or.inr (Or.inl ⟨hil, by rw [← hil]; exact hin, rfl⟩))
    · rw [if_neg (nI_ge (by omega) (by omega)), z_chk (by omega) (by omega), nI_clamp (by omega), hF.1 8 (by omega), h8 i (by omega), show σ 2 i - 48 = dg σ i from rfl]
      rcases hm hQ (by omega) with ⟨m1, m2⟩ | ⟨m1, m2⟩
      · rcases y_inN m hm31 (dg σ i) τ 0 with ⟨a, b⟩ | ⟨a, b⟩
        · rw [b, g2, nI_1]
          refine ⟨dg σ i, up2 τ 0 12 (nI (i + 1)), rfl, ⟨fun x hx => by rw [up2_c (by omega)]; exact hF.1 x hx, fun j a b c => by rw [up2_i b]; exact hF.2 j a b c⟩, rfl, rfl, rfl, Or.inl ⟨⟨g1, up2_s, by omega, fun j hj => ?_⟩, hQ, rfl, m1⟩⟩
          by_cases z : j = i
          · subst z; exact m2
          · exact g4 j (by omega)
        · exact absurd m1 a
      · rcases y_inN m hm31 (dg σ i) τ 0 with ⟨a, b⟩ | ⟨a, b⟩
        · exact absurd a m1
        · rw [b]
          exact fx 0 g2 (Or.inl ⟨by omega, m2, rfl⟩)
  · rw [if_neg (by rw [f2]; exact y_ne9 (by omega))]
    rcases y_inN m hm31 (-1) τ 0 with ⟨a, b⟩ | ⟨a, b⟩
    · exact absurd a (y_m1 m)
    · rw [b]
      unfold f_X5_figure_J57
      rw [if_neg (by rw [f2]; exact y_ne9 (by omega)), up2_self]
      exact ⟨0, τ, rfl, hF, rfl, rfl, rfl, Or.inr ⟨f, f1, f2, f3⟩⟩
