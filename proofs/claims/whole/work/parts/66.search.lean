/-! pure: the class's search -/
def frX (ρ0 ρ : St) : Prop := (∀ x, x ≠ 19 → x ≠ 23 → x ≠ 24 → ρ x = ρ0 x) ∧ ∀ j, j ≠ 12 → j ≠ 13 → ρ 19 j = ρ0 19 j
def SPX (σ : St) (Wa n : Nat) (ρ : St) : Prop := ρ 19 8 = nI (eP σ) ∧ ρ 19 9 = nI (sP σ) ∧ (∀ e, e < 3 → hdX σ Wa e ρ) ∧ ∀ s, s < 2 ^ n → wvX σ n ρ s
theorem SPX.fr {σ ρ0 ρ : St} {Wa n : Nat} (h : SPX σ Wa n ρ0) (f : frX ρ0 ρ) : SPX σ Wa n ρ := by
  obtain ⟨h1, h2, h3, h4⟩ := h
  refine ⟨by rw [f.2 8 (by omega) (by omega)]; exact h1, by rw [f.2 9 (by omega) (by omega)]; exact h2, fun e he => ?_, fun s hs => ?_⟩
  · unfold hdX
    rw [f.1 25 (by omega) (by omega) (by omega), f.1 26 (by omega) (by omega) (by omega), f.1 27 (by omega) (by omega) (by omega)]
    exact h3 e he
  · unfold wvX
    rw [f.1 20 (by omega) (by omega) (by omega), f.1 21 (by omega) (by omega) (by omega), f.1 22 (by omega) (by omega) (by omega)]
    exact h4 s hs
noncomputable def pkX (σ : St) (e s : Nat) : Nat := pullP σ 0 e s + 65536 * pullP σ 1 e s
theorem pkX_lt {σ : St} {n : Nat} (hS : Sx n σ) (e s : Nat) : pkX σ e s < 2 ^ 28 := by
  have a := Sx_pull hS 0 e s
  have b := Sx_pull hS 1 e s
  unfold pkX
  omega
theorem pkX_eq {σ : St} {n : Nat} (hS : Sx n σ) {e s e' s' : Nat} : pkX σ e s = pkX σ e' s' ↔ (pullP σ 0 e s = pullP σ 0 e' s' ∧ pullP σ 1 e s = pullP σ 1 e' s') := by
  have a := Sx_pull hS 0 e s
  have b := Sx_pull hS 1 e s
  have a' := Sx_pull hS 0 e' s'
  have b' := Sx_pull hS 1 e' s'
  unfold pkX
  omega
theorem y_pullOf {σ ρ : St} {Wa n : Nat} (hS : Sx n σ) (hX : SPX σ Wa n ρ) {e s : Nat} (he : e < 3) (hs : s < 2 ^ n) : f_X2_pullOf ρ (nI e) (nI s) = some (nI (pkX σ e s)) := by
  have hp28 := p28 hS.1
  obtain ⟨h1, h2, h3, h4⟩ := hX
  obtain ⟨a1, a2, a3⟩ := h3 e he
  obtain ⟨b1, b2, b3⟩ := h4 s hs
  unfold f_X2_pullOf
  rw [z_chk (by omega) (by omega), z_chk (by omega) (by omega), z_chk (by omega) (by omega), nI_clamp (by omega), nI_clamp (by omega), a2, a3, b1, pk_mul, nI_add]
  unfold pkX pullP
  rw [Sx_p hS, if_pos rfl, if_neg (show ¬ (1 : Nat) = 0 by omega), Nat.mul_add, Nat.mul_add, Nat.mul_add, Nat.mul_left_comm (armP σ e) 65536]
  congr 2
  omega
/-- a without b -/
def dif (a b : Nat) : Nat := a &&& (2 ^ 32 - 1 - b % 2 ^ 32)
theorem dif_tb {a b : Nat} (ha : a < 2 ^ 32) (i : Nat) : (dif a b).testBit i = (a.testBit i && !b.testBit i) := by
  unfold dif
  rw [Nat.testBit_and, show 2 ^ 32 - 1 - b % 2 ^ 32 = 2 ^ 32 - (b % 2 ^ 32 + 1) by omega, Nat.testBit_two_pow_sub_succ (Nat.mod_lt _ (by omega)), Nat.testBit_mod_two_pow]
  by_cases hi : i < 32
  · simp [hi]
  · rw [tb_big ha (by omega)]; simp
theorem dif_le (a b : Nat) : dif a b ≤ a := Nat.and_le_left
theorem open_tb {σ : St} {n : Nat} (hS : Sx n σ) (Wa e p : Nat) : (openP σ Wa e).testBit p = (decide (p < n) && (Wa.testBit p && willP σ e p)) := by
  unfold openP
  rw [bset_tb, Sx_p hS]
theorem open_lt {σ : St} {n : Nat} (hS : Sx n σ) (Wa e : Nat) : openP σ Wa e < 2 ^ n := by
  unfold openP
  rw [Sx_p hS]
  exact bset_lt _ _
theorem sub_lt {a b k : Nat} (h : a &&& b = a) (hb : b < k) : a < k := by
  have : a &&& b ≤ b := Nat.and_le_right
  omega
theorem ok_iff {σ : St} {n Wa code : Nat} (hS : Sx n σ) (hc : code < 4 ^ n) : okP σ Wa code ↔ (0 < code ∧ (∀ e, e < 3 → pop (atE n code e) ≤ sP σ) ∧ ∀ e, e < 3 → atE n code e &&& openP σ Wa e = atE n code e) := by
  unfold okP
  rw [Sx_p hS]
  constructor
  · rintro ⟨h1, h2, h3, h4⟩
    refine ⟨h1, h3, fun e he => and_of (fun i hi => ?_)⟩
    rw [atE_tb, Bool.and_eq_true, decide_eq_true_eq, decide_eq_true_eq] at hi
    have := h4 i hi.1 (by omega)
    rw [hi.2, Nat.add_sub_cancel] at this
    rw [open_tb hS]
    simp [hi.1, this.1, this.2]
  · rintro ⟨h1, h3, h4⟩
    refine ⟨h1, hc, h3, fun p hp hd => ?_⟩
    have hd4 := dig_lt n code p
    have : (atE n code (dig n code p - 1)).testBit p = true := by
      rw [atE_tb]
      simp [hp]
      omega
    have := and_sub (h4 (dig n code p - 1) (by omega)) this
    rw [open_tb hS] at this
    simpa [hp] using this
theorem sit_sh {cw y e e' : Nat} (hy : y < 256) (he : e < 3) (he' : e' < 3) : sit (cw ||| y * 2 ^ (8 * e)) e' = if e' = e then sit cw e ||| y else sit cw e' := by
  have tb : ∀ i, (y * 2 ^ (8 * e)).testBit i = if i < 8 * e then false else y.testBit (i - 8 * e) := fun i => by
    rw [Nat.mul_comm, show 2 ^ (8 * e) * y = 2 ^ (8 * e) * y + 0 from rfl, Nat.testBit_two_pow_mul_add _ (Nat.two_pow_pos _)]
    simp
  have yb : ∀ i, 8 ≤ i → y.testBit i = false := fun i hi => tb_big (n := 8) (by omega) hi
  refine tb_ext (fun i => ?_)
  rw [sit_tb, Nat.testBit_or, tb]
  by_cases hi : i < 8
  · by_cases z : e' = e
    · subst z
      rw [if_pos rfl, Nat.testBit_or, sit_tb, if_neg (by omega), show 8 * e' + i - 8 * e' = i by omega]
      simp [hi]
    · rw [if_neg z, sit_tb]
      have : (if 8 * e' + i < 8 * e then false else y.testBit (8 * e' + i - 8 * e)) = false := by
        by_cases w : 8 * e' + i < 8 * e
        · rw [if_pos w]
        · rw [if_neg w]; exact yb _ (by omega)
      rw [this, Bool.or_false]
  · have d : decide (i < 8) = false := by simpa using hi
    rw [d, Bool.false_and]
    by_cases z : e' = e
    · rw [if_pos z, Nat.testBit_or, sit_tb, d, yb i (by omega)]; rfl
    · rw [if_neg z, sit_tb, d]; rfl
theorem sh_lt {cw y e : Nat} (hc : cw < 2 ^ 24) (hy : y < 256) (he : e < 3) : cw ||| y * 2 ^ (8 * e) < 2 ^ 24 := by
  refine Nat.or_lt_two_pow hc ?_
  match e, he with
  | 0, _ => simp; omega
  | 1, _ => simp; omega
  | 2, _ => simp; omega
theorem z_sh {y e : Nat} (hy : y < 256) (he : e < 3) : shl (nI y) (8 * nI e) = nI (y * 2 ^ (8 * e)) := by
  rw [show (8 : Int32) * nI e = nI (8 * e) from pk_mul 8 e, z_shl (by omega)]
  match e, he with
  | 0, _ => simp; omega
  | 1, _ => simp; omega
  | 2, _ => simp; omega
theorem crew_code {n cw : Nat} (h8 : n ≤ 8) (hc : cw < 2 ^ 24) (hl : ∀ e, e < 3 → sit cw e < 2 ^ n) (hd : ∀ e e', e < 3 → e' < 3 → e ≠ e' → sit cw e &&& sit cw e' = 0) : ∃ code, code < 4 ^ n ∧ (∀ e, e < 3 → atE n code e = sit cw e) ∧ crewC n code = cw := by
  obtain ⟨code, a1, a2, a3, a4⟩ := code_ex (hl 0 (by omega)) (hl 1 (by omega)) (hl 2 (by omega)) (hd 0 1 (by omega) (by omega) (by omega)) (hd 0 2 (by omega) (by omega) (by omega)) (hd 1 2 (by omega) (by omega) (by omega))
  refine ⟨code, a1, fun e he => ?_, ?_⟩
  · match e, he with
    | 0, _ => exact a2
    | 1, _ => exact a3
    | 2, _ => exact a4
  · rw [crewC_J, a2, a3, a4]
    exact (sit3 hc).symm
def PC (σ : St) (Wa cw : Nat) : Prop := cw < 2 ^ 24 ∧ (∀ e, e < 3 → sit cw e &&& openP σ Wa e = sit cw e) ∧ ∀ e e', e < 3 → e' < 3 → e ≠ e' → sit cw e &&& sit cw e' = 0
theorem PC_add {σ : St} {n Wa cw y e : Nat} (hS : Sx n σ) (h : PC σ Wa cw) (he : e < 3) (h0 : sit cw e = 0) (hy : y &&& dif (openP σ Wa e) (mem cw) = y) : PC σ Wa (cw ||| y * 2 ^ (8 * e)) ∧ (∀ e', e' < 3 → sit (cw ||| y * 2 ^ (8 * e)) e' = if e' = e then y else sit cw e') ∧ y < 2 ^ n := by
  have hp28 := p28 hS.1
  have ol := open_lt hS Wa e
  have dl := dif_le (openP σ Wa e) (mem cw)
  have yl : y < 2 ^ n := sub_lt hy (by omega)
  obtain ⟨h1, h2, h3⟩ := h
  have si : ∀ e', e' < 3 → sit (cw ||| y * 2 ^ (8 * e)) e' = if e' = e then y else sit cw e' := fun e' he' => by
    rw [sit_sh (by omega) he he']
    by_cases z : e' = e
    · rw [if_pos z, if_pos z, h0, Nat.zero_or]
    · rw [if_neg z, if_neg z]
  have yb : ∀ i, y.testBit i = true → (openP σ Wa e).testBit i = true ∧ (mem cw).testBit i = false := fun i hi => by
    have := and_sub hy hi
    rw [dif_tb (by omega)] at this
    simpa using this
  have ym : ∀ e', e' < 3 → y &&& sit cw e' = 0 := fun e' he' => by
    refine tb_ext (fun i => ?_)
    rw [Nat.testBit_and, Nat.zero_testBit]
    cases q : y.testBit i
    · rfl
    · have := (yb i q).2
      have hi : i < 8 := by
        by_cases w : i < 8
        · exact w
        · rw [tb_big (n := 8) (show y < 2 ^ 8 by omega) (by omega)] at q; cases q
      cases q2 : (sit cw e').testBit i
      · rfl
      · rw [sit_tb] at q2
        have : (mem cw).testBit i = true := (mem_ex hi).mpr ⟨e', he', by simpa [hi] using q2⟩
        rw [(yb i q).2] at this
        cases this
  refine ⟨⟨sh_lt h1 (by omega) he, fun e' he' => ?_, fun a b ha hb hab => ?_⟩, si, yl⟩
  · rw [si e' he']
    by_cases z : e' = e
    · subst z
      rw [if_pos rfl]
      exact and_of (fun i hi => (yb i hi).1)
    · rw [if_neg z]
      exact h2 e' he'
  · rw [si a ha, si b hb]
    by_cases z : a = e
    · have : ¬ b = e := by omega
      rw [if_pos z, if_neg this]
      exact ym b hb
    · rw [if_neg z]
      by_cases z2 : b = e
      · rw [if_pos z2, Nat.and_comm]
        exact ym a ha
      · rw [if_neg z2]
        exact h3 a b ha hb hab
/-- what a search of one kind, with its last END, keeps true -/
def Md (σ : St) (Wa n last m : Nat) (ρ0 : St) (V : Nat → Prop) (J : (Nat → Prop) → St → Prop) : Prop :=
  (∀ c, V c → okP σ Wa c ∧ ∀ e e', e < eP σ → e' < eP σ → e ≠ last → e' ≠ last → pkX σ e (atE n c e) = pkX σ e' (atE n c e')) ∧
  (∀ D D' ρ, J D ρ → (∀ c, V c → (D c ↔ D' c)) → J D' ρ) ∧
  ∀ (D : Nat → Prop) (ρ : St) (code cw pull y o : Nat), frX ρ0 ρ → J D ρ → code < 4 ^ n → (∀ e, e < 3 → atE n code e &&& openP σ Wa e = atE n code e) → cw < 2 ^ 24 → sit cw last = 0 → (∀ e, e < 3 → e ≠ last → atE n code e = sit cw e) → atE n code last = y → crewC n code = cw ||| y * 2 ^ (8 * last) → (∀ e, e < eP σ → e ≠ last → pull = pkX σ e (atE n code e)) → (∀ e, e < 3 → e ≠ last → pop (atE n code e) ≤ sP σ) →
    ∃ ρ', (∀ N, f_X2_tryLast_L23 (nI last) (nI cw) (nI pull) (nI m) (nI (mem cw)) (nI o) (N + 1) ρ (nI y) = f_X2_tryLast_J120_23 ρ' (nI o) (nI y) (f_X2_tryLast_L23 (nI last) (nI cw) (nI pull) (nI m) (nI (mem cw)) (nI o) N)) ∧ frX ρ0 ρ' ∧ J (fun c => D c ∨ c = code) ρ'
theorem y_next {y o : Nat} (hy : y < 2 ^ 31) {α : Type} {a b : α} {r : Int32 → α} (ha : r (-1) = a) (hb : y ≠ 0 → r (nI ((y - 1) &&& o)) = b) : (if nI y = 0 then r (-1) else r ((nI y - 1) &&& nI o)) = if y = 0 then a else b := by
  by_cases q : y = 0
  · subst q
    rw [if_pos (show nI 0 = 0 from rfl), if_pos rfl, ha]
  · rw [if_neg (show ¬ nI y = 0 by rw [show (0 : Int32) = nI 0 from rfl, z_eq hy (by omega)]; exact q), if_neg q, show nI y - 1 = nI (y - 1) from pk_sub (a := y) (b := 1) (by omega), z_and, hb q]
theorem y_tryLast {σ : St} {Wa n last m : Nat} {ρ0 : St} {V : Nat → Prop} {J : (Nat → Prop) → St → Prop} (hS : Sx n σ) (hX : SPX σ Wa n ρ0) (M : Md σ Wa n last m ρ0 V J) (hl : last < 3) {cw pull : Nat} (hpc : PC σ Wa cw) (h0 : sit cw last = 0) (hpull : ∀ e, e < eP σ → e ≠ last → pull = pkX σ e (sit cw e)) (hpop : ∀ e, e < 3 → e ≠ last → pop (sit cw e) ≤ sP σ) (D : Nat → Prop) (ρ : St) (hF : frX ρ0 ρ) (hJ : J D ρ) : ∃ ρ', f_X2_tryLast ρ (nI last) (nI cw) (nI pull) (nI m) = some ρ' ∧ frX ρ0 ρ' ∧ J (fun c => D c ∨ ∀ e, e < 3 → e ≠ last → atE n c e = sit cw e) ρ' := by
  have hp28 := p28 hS.1
  obtain ⟨hz1, hz2, hz3⟩ := Sx_e hS
  have ol := open_lt hS Wa last
  have dl := dif_le (openP σ Wa last) (mem cw)
  obtain ⟨M1, M2, M3⟩ := M
  unfold f_X2_tryLast
  rw [z_chk (by omega) (by omega), nI_clamp (by omega), ((hX.fr hF).2.2.1 last hl).1, y_mem hpc.1, z_not _ (by omega)]
  rw [show openP σ Wa last &&& (2 ^ 32 - 1 - mem cw % 2 ^ 32) = dif (openP σ Wa last) (mem cw) from rfl]
  obtain ⟨ρ', a1, a2, a3⟩ := sub_loop (f_X2_tryLast_L23 (nI last) (nI cw) (nI pull) (nI m) (nI (mem cw)) (nI (dif (openP σ Wa last) (mem cw)))) (dif (openP σ Wa last) (mem cw)) (fun D3 ρ => frX ρ0 ρ ∧ J (fun c => D c ∨ ((∀ e, e < 3 → e ≠ last → atE n c e = sit cw e) ∧ D3 (atE n c last))) ρ) (by omega) (fun N a => by rw [f_X2_tryLast_L23, if_pos (by decide)]) (fun N D3 y a hy hI => by
    obtain ⟨p1, p2, p3⟩ := PC_add hS hpc hl h0 hy
    have sl : ∀ e, e < 3 → sit (cw ||| y * 2 ^ (8 * last)) e < 2 ^ n := fun e he => sub_lt (p1.2.1 e he) (open_lt hS Wa e)
    obtain ⟨code, c1, c2, c3⟩ := crew_code hS.1 p1.1 sl p1.2.2
    have co : ∀ e, e < 3 → e ≠ last → atE n code e = sit cw e := fun e he hne => by rw [c2 e he, p2 e he, if_neg hne]
    have cl : atE n code last = y := by rw [c2 last hl, p2 last hl, if_pos rfl]
    obtain ⟨a', b1, b2, b3⟩ := M3 _ a code cw pull y (dif (openP σ Wa last) (mem cw)) hI.1 hI.2 c1 (fun e he => by rw [c2 e he]; exact p1.2.1 e he) hpc.1 h0 co cl c3 (fun e he hne => by rw [co e (by omega) hne]; exact hpull e he hne) (fun e he hne => by rw [co e he hne]; exact hpop e he hne)
    refine ⟨a', ?_, b2, M2 _ _ _ b3 (fun c hV => ?_)⟩
    · rw [b1 N]
      unfold f_X2_tryLast_J120_23
      exact y_next (by omega) rfl (fun _ => rfl)
    · have hc4 := (M1 c hV).1.2.1
      rw [Sx_p hS] at hc4
      constructor
      · rintro ((z | ⟨z1, z2⟩) | z)
        · exact Or.inl z
        · exact Or.inr ⟨z1, Or.inl z2⟩
        · subst z; exact Or.inr ⟨co, Or.inr cl⟩
      · rintro (z | ⟨z1, z2 | z2⟩)
        · exact Or.inl (Or.inl z)
        · exact Or.inl (Or.inr ⟨z1, z2⟩)
        · refine Or.inr (code_ext hc4 c1 (fun e he => ?_))
          by_cases w : e = last
          · subst w; rw [z2, cl]
          · rw [z1 e he w, co e he w]) ρ ⟨hF, M2 _ _ _ hJ (fun c _ => ⟨Or.inl, fun z => z.elim id (fun z => z.2.elim)⟩)⟩
  rw [a1]
  refine ⟨ρ', rfl, a2, M2 _ _ _ a3 (fun c hV => ?_)⟩
  have hc4 := (M1 c hV).1.2.1
  rw [Sx_p hS] at hc4
  have ok := (ok_iff hS hc4).mp (M1 c hV).1
  constructor
  · rintro (z | z)
    · exact Or.inl z
    · exact Or.inr z.1
  · rintro (z | z)
    · exact Or.inl z
    · refine Or.inr ⟨z, and_of (fun i hi => ?_)⟩
      rw [dif_tb (by omega), and_sub (ok.2.2 last hl) hi, Bool.true_and]
      cases q : (mem cw).testBit i
      · rfl
      · have hi8 : i < 8 := by
          by_cases w : i < 8
          · exact w
          · rw [tb_big (n := 8) (mem_lt cw) (by omega)] at q; cases q
        obtain ⟨e, he, hb⟩ := (mem_ex hi8).mp q
        have sb : (sit cw e).testBit i = true := by rw [sit_tb]; simp [hi8, hb]
        by_cases w : e = last
        · subst w; rw [h0, Nat.zero_testBit] at sb; cases sb
        · rw [← z e he w] at sb
          exact absurd (atE_dj sb hi) w
theorem V_pop {σ : St} {Wa n last m : Nat} {ρ0 : St} {V : Nat → Prop} {J : (Nat → Prop) → St → Prop} (hS : Sx n σ) (M : Md σ Wa n last m ρ0 V J) {c : Nat} (hV : V c) : c < 4 ^ n ∧ (∀ e, e < 3 → pop (atE n c e) ≤ sP σ) ∧ ∀ e, e < 3 → atE n c e &&& openP σ Wa e = atE n c e := by
  have hc4 := (M.1 c hV).1.2.1
  rw [Sx_p hS] at hc4
  exact ⟨hc4, ((ok_iff hS hc4).mp (M.1 c hV).1).2⟩
theorem y_second {σ : St} {Wa n last m f g : Nat} {ρ0 : St} {V : Nat → Prop} {J : (Nat → Prop) → St → Prop} (hS : Sx n σ) (hX : SPX σ Wa n ρ0) (M : Md σ Wa n last m ρ0 V J) (h3 : eP σ = 3) (hl : last < 3) (hf : f < 3) (hg : g < 3) (n1 : f ≠ g) (n2 : f ≠ last) (n3 : g ≠ last) {cw pull : Nat} (hpc : PC σ Wa cw) (h0 : ∀ e, e < 3 → e ≠ f → sit cw e = 0) (hpull : pull = pkX σ f (sit cw f)) (hpop : pop (sit cw f) ≤ sP σ) (D : Nat → Prop) (ρ : St) (hF : frX ρ0 ρ) (hJ : J D ρ) : ∃ ρ', f_X2_trySecond_J10 ρ (nI last) (nI cw) (nI pull) (nI m) (nI g) = some ρ' ∧ frX ρ0 ρ' ∧ J (fun c => D c ∨ atE n c f = sit cw f) ρ' := by
  have hp28 := p28 hS.1
  have ol := open_lt hS Wa g
  have dl := dif_le (openP σ Wa g) (mem cw)
  obtain ⟨s1, s2, s3⟩ := Sx_s hS
  have M2 := M.2.1
  have all3 : ∀ e, e < 3 → e = f ∨ e = g ∨ e = last := fun e he => by omega
  unfold f_X2_trySecond_J10
  rw [z_chk (by omega) (by omega), nI_clamp (by omega), ((hX.fr hF).2.2.1 g hg).1, y_mem hpc.1, z_not _ (by omega)]
  rw [show openP σ Wa g &&& (2 ^ 32 - 1 - mem cw % 2 ^ 32) = dif (openP σ Wa g) (mem cw) from rfl]
  obtain ⟨ρ', a1, a2, a3⟩ := sub_loop (f_X2_trySecond_L32 (nI last) (nI cw) (nI pull) (nI m) (nI g) (nI (dif (openP σ Wa g) (mem cw)))) (dif (openP σ Wa g) (mem cw)) (fun D2 ρ => frX ρ0 ρ ∧ J (fun c => D c ∨ (atE n c f = sit cw f ∧ D2 (atE n c g))) ρ) (by omega) (fun N a => by rw [f_X2_trySecond_L32, if_pos (by decide)]) (fun N D2 y a hy hI => by
    obtain ⟨p1, p2, p3⟩ := PC_add hS hpc hg (h0 g hg (Ne.symm n1)) hy
    have lp := pop_le y
    have hXa := hX.fr hI.1
    have skip : (∀ c, V c → atE n c f = sit cw f → atE n c g = y → False) → ∃ a', f_X2_trySecond_J81_32 a (nI (dif (openP σ Wa g) (mem cw))) (nI y) (f_X2_trySecond_L32 (nI last) (nI cw) (nI pull) (nI m) (nI g) (nI (dif (openP σ Wa g) (mem cw))) N) = (if y = 0 then f_X2_trySecond_L32 (nI last) (nI cw) (nI pull) (nI m) (nI g) (nI (dif (openP σ Wa g) (mem cw))) N a' (-1) else f_X2_trySecond_L32 (nI last) (nI cw) (nI pull) (nI m) (nI g) (nI (dif (openP σ Wa g) (mem cw))) N a' (nI ((y - 1) &&& dif (openP σ Wa g) (mem cw)))) ∧ frX ρ0 a' ∧ J (fun c => D c ∨ (atE n c f = sit cw f ∧ (D2 (atE n c g) ∨ atE n c g = y))) a' := by
      intro hno
      refine ⟨a, ?_, hI.1, M2 _ _ _ hI.2 (fun c hV => ?_)⟩
      · unfold f_X2_trySecond_J81_32
        exact y_next (by omega) rfl (fun _ => rfl)
      · constructor
        · rintro (z | ⟨z1, z2⟩)
          · exact Or.inl z
          · exact Or.inr ⟨z1, Or.inl z2⟩
        · rintro (z | ⟨z1, z2 | z2⟩)
          · exact Or.inl z
          · exact Or.inr ⟨z1, z2⟩
          · exact (hno c hV z1 z2).elim
    rw [f_X2_trySecond_L32, if_neg (nI_pos (by omega)), z_chk (by omega) (by omega), nI_clamp (by omega), hXa.2.1, (hXa.2.2.2 y p3).2.2, y_pullOf hS hXa hg p3, Option.bind_some, z_sh (by omega) hg, z_or]
    have lk := pkX_lt hS g y
    have lk2 := pkX_lt hS f (sit cw f)
    simp only [z_lt (show sP σ < 2 ^ 31 by omega) (show pop y < 2 ^ 31 by omega), z_eq (show pkX σ g y < 2 ^ 31 by omega) (show pull < 2 ^ 31 by omega)]
    by_cases q : sP σ < pop y
    · rw [if_pos q]
      refine skip (fun c hV _ z => ?_)
      have := (V_pop hS M hV).2.1 g hg
      rw [z] at this
      omega
    · rw [if_neg q]
      by_cases q2 : pkX σ g y = pull
      · rw [if_pos q2]
        obtain ⟨a', b1, b2, b3⟩ := y_tryLast hS hX M hl (cw := cw ||| y * 2 ^ (8 * g)) (pull := pull) p1 (by rw [p2 last hl, if_neg (Ne.symm n3)]; exact h0 last hl (Ne.symm n2)) (fun e he hne => by
          rw [p2 e (by omega)]
          rcases all3 e (by omega) with rfl | rfl | rfl
          · rw [if_neg n1]; exact hpull
          · rw [if_pos rfl]; exact q2.symm
          · exact absurd rfl hne) (fun e he hne => by
          rw [p2 e he]
          rcases all3 e he with rfl | rfl | rfl
          · rw [if_neg n1]; exact hpop
          · rw [if_pos rfl]; omega
          · exact absurd rfl hne) _ a hI.1 hI.2
        rw [b1, Option.bind_some]
        refine ⟨a', ?_, b2, M2 _ _ _ b3 (fun c hV => ?_)⟩
        · unfold f_X2_trySecond_J81_32
          exact y_next (by omega) rfl (fun _ => rfl)
        · have eqv : (∀ e, e < 3 → e ≠ last → atE n c e = sit (cw ||| y * 2 ^ (8 * g)) e) ↔ (atE n c f = sit cw f ∧ atE n c g = y) := by
            constructor
            · intro z
              have z1 := z f hf n2
              have z2 := z g hg n3
              rw [p2 f hf, if_neg n1] at z1
              rw [p2 g hg, if_pos rfl] at z2
              exact ⟨z1, z2⟩
            · rintro ⟨z1, z2⟩ e he hne
              rw [p2 e he]
              rcases all3 e he with rfl | rfl | rfl
              · rw [if_neg n1]; exact z1
              · rw [if_pos rfl]; exact z2
              · exact absurd rfl hne
          rw [eqv]
          constructor
          · rintro ((z | ⟨z1, z2⟩) | ⟨z1, z2⟩)
            · exact Or.inl z
            · exact Or.inr ⟨z1, Or.inl z2⟩
            · exact Or.inr ⟨z1, Or.inr z2⟩
          · rintro (z | ⟨z1, z2 | z2⟩)
            · exact Or.inl (Or.inl z)
            · exact Or.inl (Or.inr ⟨z1, z2⟩)
            · exact Or.inr ⟨z1, z2⟩
      · rw [if_neg q2]
        refine skip (fun c hV z1 z2 => q2 ?_)
        have := (M.1 c hV).2 g f (by omega) (by omega) n3 n2
        rw [z1, z2] at this
        rw [this, hpull]) ρ ⟨hF, M2 _ _ _ hJ (fun c _ => ⟨Or.inl, fun z => z.elim id (fun z => z.2.elim)⟩)⟩
  rw [a1]
  refine ⟨ρ', rfl, a2, M2 _ _ _ a3 (fun c hV => ?_)⟩
  have ok := V_pop hS M hV
  constructor
  · rintro (z | z)
    · exact Or.inl z
    · exact Or.inr z.1
  · rintro (z | z)
    · exact Or.inl z
    · refine Or.inr ⟨z, and_of (fun i hi => ?_)⟩
      rw [dif_tb (by omega), and_sub (ok.2.2 g hg) hi, Bool.true_and]
      cases q : (mem cw).testBit i
      · rfl
      · have hi8 : i < 8 := by
          by_cases w : i < 8
          · exact w
          · rw [tb_big (n := 8) (mem_lt cw) (by omega)] at q; cases q
        obtain ⟨e, he, hb⟩ := (mem_ex hi8).mp q
        have sb : (sit cw e).testBit i = true := by rw [sit_tb]; simp [hi8, hb]
        by_cases w : e = f
        · subst w
          rw [← z] at sb
          exact absurd (atE_dj sb hi) n1
        · rw [h0 e he w, Nat.zero_testBit] at sb; cases sb
