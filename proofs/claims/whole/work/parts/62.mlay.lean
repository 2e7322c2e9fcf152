/-! pure: what the reference finds over all codes -/
theorem y_J107 {A B a : Nat} (hA : A ≤ 3051) (hB : B ≤ 3051) (h1 : 1 ≤ a) (h3 : a ≤ 3) : ∃ v, v ≤ 3051 ∧ f_X5_lacks_J107 (nI a) (nI A - nI B) = some (nI v) ∧ ∀ x, 1 ≤ x → (v = x ↔ A = B + a * x) := by
  unfold f_X5_lacks_J107
  have na : ¬ nI a = 0 := by rw [show (0 : Int32) = nI 0 from rfl, z_eq (by omega) (by omega)]; omega
  by_cases q : A ≤ B
  · have le : nI A - nI B ≤ 0 := by
      rw [Int32.le_iff_toInt_le, pk_sub_toInt (by omega) (by omega)]
      show (A : Int) - B ≤ 0
      omega
    rw [if_pos le]
    refine ⟨0, by omega, rfl, fun x hx => ⟨fun z => by omega, fun z => ?_⟩⟩
    have : 1 ≤ a * x := Nat.mul_pos h1 hx
    omega
  · have e : nI A - nI B = nI (A - B) := pk_sub (by omega)
    have le : ¬ nI (A - B) ≤ 0 := nI_ge (a := 0) (b := A - B) (by omega) (by omega)
    rw [e, if_neg le, chz_ne na, chz_ne na]
    have r : rem (nI (A - B)) (nI a) = nI ((A - B) % a) := pk_rem (by omega) (by omega) (by omega)
    have d : nI (A - B) / nI a = nI ((A - B) / a) := pk_div (by omega) (by omega) (by omega)
    have hm : (A - B) % a < a := Nat.mod_lt _ (by omega)
    have hda := Nat.div_add_mod (A - B) a
    rw [r, d]
    by_cases w : (A - B) % a = 0
    · rw [w, if_pos (show nI 0 = 0 from rfl)]
      refine ⟨(A - B) / a, Nat.le_trans (Nat.div_le_self _ _) (by omega), rfl, fun x hx => ⟨fun z => ?_, fun z => ?_⟩⟩
      · rw [← z]; omega
      · have : A - B = a * x := by omega
        rw [this]
        exact Nat.mul_div_cancel_left x (by omega)
    · have nw : ¬ nI ((A - B) % a) = 0 := by rw [show (0 : Int32) = nI 0 from rfl, z_eq (by omega) (by omega)]; exact w
      rw [if_neg nw]
      refine ⟨0, by omega, rfl, fun x hx => ⟨fun z => by omega, fun z => ?_⟩⟩
      have : A - B = a * x := by omega
      rw [this, Nat.mul_mod_right] at w
      exact absurd rfl w
theorem y_J178 {A B C : Nat} (hA : A ≤ 3051) (hB : B ≤ 3051) (hC : C ≤ 3051) : ∃ v, v ≤ 3051 ∧ f_X5_lacks_J178 (nI B) (nI A) (nI C) = some (nI v) ∧ ∀ x, 1 ≤ x → (v = x ↔ A = B + 1 * x ∧ C = B + 1 * x) := by
  unfold f_X5_lacks_J178
  simp only [z_eq (show A < 2 ^ 31 by omega) (show C < 2 ^ 31 by omega), z_le (show A < 2 ^ 31 by omega) (show B < 2 ^ 31 by omega)]
  by_cases q : A = C
  · rw [if_pos q]
    by_cases w : A ≤ B
    · rw [if_pos w]
      exact ⟨0, by omega, rfl, fun x hx => by omega⟩
    · rw [if_neg w, pk_sub (by omega)]
      exact ⟨A - B, by omega, rfl, fun x hx => by omega⟩
  · rw [if_neg q]
    exact ⟨0, by omega, rfl, fun x hx => by omega⟩
def mkT (σ : St) (n t code e x : Nat) : Prop := ∀ e', e' < eP σ → (if e' = e then armP σ e * x else 0) + pullP σ t e' (atE n code e') = (if 0 = e then armP σ e * x else 0) + pullP σ t 0 (atE n code 0)
theorem mk_T {n : Nat} {σ : St} (hS : Sx n σ) (code e x : Nat) : mkP σ code e x ↔ (mkT σ n 0 code e x ∧ mkT σ n 1 code e x) := by
  unfold mkP mkT
  rw [Sx_p hS]
  constructor
  · exact fun h => ⟨h 0 (by omega), h 1 (by omega)⟩
  · intro h t ht
    have : t = 0 ∨ t = 1 := by omega
    rcases this with rfl | rfl
    · exact h.1
    · exact h.2
theorem y_lacks {n k : Nat} {cr : Nat → Nat} {σ τ : St} {code e t : Nat} (h : InvW n k cr σ τ) (h10 : ∀ e, e < 3 → τ 10 e = nI (atE n code e)) (he : e < eP σ) (m : Int32) (hm : m = miP σ t) : ∃ v, v ≤ 3051 ∧ f_X5_lacks τ (nI e) m = some (nI v) ∧ ∀ x, 1 ≤ x → (v = x ↔ mkT σ n t code e x) := by
  have hS := Sx_of h
  obtain ⟨z1, z2, z3⟩ := Sx_e hS
  have hp28 := p28 hS.1
  obtain ⟨hT, ⟨c1, c2, c3, c4, c5, c6, c7, c8, c9, c10⟩, hL, -⟩ := id h
  have l : ∀ e, atE n code e < 2 ^ 31 := fun e => by have := atE_lt n code e; omega
  have v0 := y_heavy c3 c1 (l 0) (e := 0) (by omega) m 0
  have v1 := y_heavy c3 c1 (l 1) (e := 1) (by omega) m 0
  have v2 := y_heavy c3 c1 (l 2) (e := 2) (by omega) m 0
  rw [LD_rel h, c9 4 (by omega), hm, Sx_ld hS] at v0 v1 v2
  rw [show (nI 0 : Int32) = 0 from rfl] at v0
  rw [show (nI 1 : Int32) = 1 from rfl] at v1
  rw [show (nI 2 : Int32) = 2 from rfl] at v2
  have l0 := Sx_ldle hS t 0 (atE n code 0)
  have l1 := Sx_ldle hS t 1 (atE n code 1)
  have l2 := Sx_ldle hS t 2 (atE n code 2)
  have pl : ∀ e s, pullP σ t e s = armP σ e * ldP σ n t e s := fun e s => by rw [pull_ld, Sx_p hS]
  have a1 := hS.2.2.2.1.nN (by omega)
  have a2 := hS.2.2.2.2.1.nN (by omega)
  unfold f_X5_lacks
  rw [hm, h10 0 (by omega), h10 1 (by omega), h10 2 (by omega), v0, v1, v2]
  simp only [Option.bind_some]
  rw [c9 0 (by omega), c9 1 (by omega), c9 2 (by omega), z1]
  by_cases q : eP σ = 2
  · have q2 : nI (eP σ) = 2 := by rw [q]; rfl
    have m0 : armP σ 0 = nN (σ 3 1) := by unfold armP; rw [if_pos q, if_pos rfl]
    have m1 : armP σ 1 = nN (σ 3 2) := by unfold armP; rw [if_pos q, if_neg (by omega)]
    have b0 : armP σ 0 * ldP σ n t 0 (atE n code 0) ≤ 3051 := by rw [← pl]; exact Sx_pull hS t 0 _
    have b1 : armP σ 1 * ldP σ n t 1 (atE n code 1) ≤ 3051 := by rw [← pl]; exact Sx_pull hS t 1 _
    rw [if_pos q2, show (1 : Int32) + nI e = nI (1 + e) from nI_add 1 e, z_chk (by omega) (by omega), nI_clamp (by omega), a1.1, a2.1, pk_mul, pk_mul, ← m0, ← m1]
    have : e = 0 ∨ e = 1 := by omega
    rcases this with rfl | rfl
    · rw [if_pos (show nI 0 = 0 from rfl), c9 (1 + 0) (by omega), show σ 3 (1 + 0) = nI (armP σ 0) by rw [m0]; exact a1.1]
      obtain ⟨v, w1, w2, w3⟩ := y_J107 (A := armP σ 1 * ldP σ n t 1 (atE n code 1)) (B := armP σ 0 * ldP σ n t 0 (atE n code 0)) (a := armP σ 0) b1 b0 (by omega) (by omega)
      refine ⟨v, w1, w2, fun x hx => (w3 x hx).trans ?_⟩
      unfold mkT
      rw [q, pl]
      constructor
      · intro z e' he'
        have : e' = 0 ∨ e' = 1 := by omega
        rcases this with rfl | rfl
        · rw [pl]
        · rw [if_neg (by omega), if_pos rfl, pl, z]; omega
      · intro z
        have := z 1 (by omega)
        rw [if_neg (by omega), if_pos rfl, pl] at this
        omega
    · rw [if_neg (show ¬ nI 1 = 0 by decide), c9 (1 + 1) (by omega), show σ 3 (1 + 1) = nI (armP σ 1) by rw [m1]; exact a2.1]
      obtain ⟨v, w1, w2, w3⟩ := y_J107 (A := armP σ 0 * ldP σ n t 0 (atE n code 0)) (B := armP σ 1 * ldP σ n t 1 (atE n code 1)) (a := armP σ 1) b0 b1 (by omega) (by omega)
      refine ⟨v, w1, w2, fun x hx => (w3 x hx).trans ?_⟩
      unfold mkT
      rw [q, pl]
      constructor
      · intro z e' he'
        have : e' = 0 ∨ e' = 1 := by omega
        rcases this with rfl | rfl
        · rw [pl]
        · rw [if_pos rfl, if_neg (by omega), pl, z]; omega
      · intro z
        have := z 1 (by omega)
        rw [if_pos rfl, if_neg (by omega), pl] at this
        omega
  · have q3 : eP σ = 3 := by omega
    have q2 : ¬ nI (eP σ) = 2 := by rw [q3]; decide
    have am : ∀ e, armP σ e = 1 := fun e => by unfold armP; rw [if_neg q]
    rw [if_neg q2]
    unfold f_X5_lacks_J152 f_X5_lacks_J164
    have pl1 : ∀ e s, pullP σ t e s = ldP σ n t e s := fun e s => by rw [pl, am, Nat.one_mul]
    unfold mkT
    rw [q3, am]
    have fin : ∀ P : Nat → Prop, (∀ e', e' < 3 → P e') ↔ (P 0 ∧ P 1 ∧ P 2) := fun P => ⟨fun z => ⟨z 0 (by omega), z 1 (by omega), z 2 (by omega)⟩, fun z e' he' => by
      match e', he' with
      | 0, _ => exact z.1
      | 1, _ => exact z.2.1
      | 2, _ => exact z.2.2⟩
    have : e = 0 ∨ e = 1 ∨ e = 2 := by omega
    rcases this with rfl | rfl | rfl
    · simp only [if_pos (show nI 0 = 0 from rfl), if_neg (show ¬ nI 0 = 2 by decide)]
      obtain ⟨v, w1, w2, w3⟩ := y_J178 (A := ldP σ n t 1 (atE n code 1)) (B := ldP σ n t 0 (atE n code 0)) (C := ldP σ n t 2 (atE n code 2)) (by omega) (by omega) (by omega)
      refine ⟨v, w1, w2, fun x hx => (w3 x hx).trans ?_⟩
      rw [fin, pl1, pl1, pl1]
      have r0 : (if (0 : Nat) = 0 then 1 * x else 0) = 1 * x := if_pos rfl
      have r1 : (if (1 : Nat) = 0 then 1 * x else 0) = 0 := if_neg (by omega)
      have r2 : (if (2 : Nat) = 0 then 1 * x else 0) = 0 := if_neg (by omega)
      have r3 : (if True then 1 * x else 0) = 1 * x := if_pos trivial
      rw [r1, r2]
      first
      | rw [r0, r3]; omega
      | rw [r3, r0]; omega
      | rw [r3]; omega
    · simp only [if_neg (show ¬ nI 1 = 0 by decide), if_pos (show nI 1 = 1 from rfl), if_neg (show ¬ nI 1 = 2 by decide)]
      obtain ⟨v, w1, w2, w3⟩ := y_J178 (A := ldP σ n t 0 (atE n code 0)) (B := ldP σ n t 1 (atE n code 1)) (C := ldP σ n t 2 (atE n code 2)) (by omega) (by omega) (by omega)
      refine ⟨v, w1, w2, fun x hx => (w3 x hx).trans ?_⟩
      rw [fin, pl1, pl1, pl1, if_neg (by omega), if_pos rfl, if_neg (by omega)]
      omega
    · simp only [if_neg (show ¬ nI 2 = 0 by decide), if_neg (show ¬ nI 2 = 1 by decide), if_pos (show nI 2 = 2 from rfl)]
      obtain ⟨v, w1, w2, w3⟩ := y_J178 (A := ldP σ n t 0 (atE n code 0)) (B := ldP σ n t 2 (atE n code 2)) (C := ldP σ n t 1 (atE n code 1)) (by omega) (by omega) (by omega)
      refine ⟨v, w1, w2, fun x hx => (w3 x hx).trans ?_⟩
      rw [fin, pl1, pl1, pl1, if_neg (by omega), if_neg (by omega), if_pos rfl]
      omega
/-- what makes it level, of those done -/
def gdM (σ : St) (Wa n x c e : Nat) : Prop := okP σ Wa c ∧ e < eP σ ∧ pop (atE n c e) < sP σ ∧ mkP σ c e x
def mxM (σ : St) (Wa n : Nat) (D : Nat → Nat → Prop) (x m : Nat) : Prop := m ≤ 72 ∧ (∀ c e, D c e → gdM σ Wa n x c e → farP σ (allE n c) ≤ m) ∧ (m = 0 ∨ ∃ c e, D c e ∧ gdM σ Wa n x c e ∧ farP σ (allE n c) = m)
def MKI (σ : St) (Wa n : Nat) (D : Nat → Nat → Prop) (τ : St) : Prop := ∀ x, 1 ≤ x → x ≤ 99 → ∃ m, τ 12 x = nI m ∧ mxM σ Wa n D x m
theorem mxM_skip {σ : St} {Wa n x m code e0 : Nat} {D : Nat → Nat → Prop} (h : mxM σ Wa n D x m) (hn : ¬ gdM σ Wa n x code e0) : mxM σ Wa n (fun c e => D c e ∨ (c = code ∧ e = e0)) x m := by
  obtain ⟨h0, h1, h2⟩ := h
  refine ⟨h0, fun c e hd hg => ?_, ?_⟩
  · rcases hd with hd | ⟨rfl, rfl⟩
    · exact h1 c e hd hg
    · exact absurd hg hn
  · rcases h2 with h2 | ⟨c, e, a, b, d⟩
    · exact Or.inl h2
    · exact Or.inr ⟨c, e, Or.inl a, b, d⟩
theorem mxM_add {σ : St} {Wa n x m code e0 : Nat} {D : Nat → Nat → Prop} (hS : Sx n σ) (h : mxM σ Wa n D x m) (hg : gdM σ Wa n x code e0) : mxM σ Wa n (fun c e => D c e ∨ (c = code ∧ e = e0)) x (max m (farP σ (allE n code))) := by
  obtain ⟨h0, h1, h2⟩ := h
  have hf := (Sx_far hS (allE n code)).1
  refine ⟨by omega, fun c e hd hg => ?_, ?_⟩
  · rcases hd with hd | ⟨rfl, rfl⟩
    · have := h1 c e hd hg; omega
    · omega
  · by_cases q : m ≤ farP σ (allE n code)
    · exact Or.inr ⟨code, e0, Or.inr ⟨rfl, rfl⟩, hg, by omega⟩
    · rcases h2 with h2 | ⟨c, e, a, b, d⟩
      · omega
      · exact Or.inr ⟨c, e, Or.inl a, b, by omega⟩
theorem y_J40 {n k : Nat} {cr : Nat → Nat} {σ τ : St} {code e Wa v0 : Nat} {D : Nat → Nat → Prop} (h : InvW n k cr σ τ) (hO : okP σ Wa code) (h10 : ∀ e, e < 3 → τ 10 e = nI (atE n code e)) (he : e < eP σ) (hv : v0 ≤ 3051) (hv0 : ∀ x, 1 ≤ x → x ≤ 99 → (v0 = x ↔ (pop (atE n code e) < sP σ ∧ mkT σ n 0 code e x))) (hM : MKI σ Wa n D τ) (rec : St → Int32 → Option St) : ∃ τ', f_X5_layMakes_J40_2 τ (nI (farP σ (allE n code))) (nI e) (nI v0) rec = rec τ' (nI (e + 1)) ∧ (∀ x, x ≠ 12 → τ' x = τ x) ∧ MKI σ Wa n (fun c e' => D c e' ∨ (c = code ∧ e' = e)) τ' := by
  have hS := Sx_of h
  obtain ⟨hT, hC, hL, -⟩ := id h
  have l5 := hL.2.2.2.2.1
  have hf := (Sx_far hS (allE n code)).1
  unfold f_X5_layMakes_J40_2
  have skip : (∀ x, 1 ≤ x → x ≤ 99 → ¬ gdM σ Wa n x code e) → MKI σ Wa n (fun c e' => D c e' ∨ (c = code ∧ e' = e)) τ := fun hn x h1 h2 => by
    obtain ⟨m, m1, m2⟩ := hM x h1 h2
    exact ⟨m, m1, mxM_skip m2 (hn x h1 h2)⟩
  rw [nI_1]
  rcases y_rng (nI v0) (lo := 1) (hi := 99) (lo' := 1) (hi' := 99) rfl rfl with ⟨q1, q2, q3⟩ | ⟨q1, q3⟩
  · rw [show (1 : Int32) = nI 1 from rfl, z_le (by omega) (by omega)] at q1
    rw [show (99 : Int32) = nI 99 from rfl, z_le (by omega) (by omega)] at q2
    obtain ⟨v1, w1, w2, w3⟩ := y_lacks (t := 1) h h10 he (τ 0 9) (by rw [l5]; rfl)
    rw [q3, if_neg i10, w2, Option.bind_some]
    simp only [z_eq (show v0 < 2 ^ 31 by omega) (show v1 < 2 ^ 31 by omega)]
    have hg : ∀ x, 1 ≤ x → x ≤ 99 → (gdM σ Wa n x code e ↔ (v0 = x ∧ v1 = x)) := fun x h1 h2 => by
      unfold gdM
      rw [mk_T hS, hv0 x h1 h2, w3 x h1]
      exact ⟨fun z => ⟨⟨z.2.2.1, z.2.2.2.1⟩, z.2.2.2.2⟩, fun z => ⟨hO, he, z.1.1, z.1.2, z.2⟩⟩
    by_cases q : v0 = v1
    · subst q
      rw [if_pos rfl, z_chk (by omega) (by omega), nI_clamp (by omega), z_chk (by omega) (by omega), z_chk (by omega) (by omega), z_chk (by omega) (by omega), up2_self]
      obtain ⟨m, m1, m2⟩ := hM v0 q1 q2
      have hm72 := m2.1
      have add := mxM_add hS m2 ((hg v0 q1 q2).mpr ⟨rfl, rfl⟩)
      rw [m1]
      simp only [z_le (show farP σ (allE n code) < 2 ^ 31 by omega) (show m < 2 ^ 31 by omega)]
      by_cases w : farP σ (allE n code) ≤ m
      · rw [if_pos w]
        refine ⟨τ, rfl, fun _ _ => rfl, fun x h1 h2 => ?_⟩
        by_cases z : x = v0
        · subst z
          rw [Nat.max_eq_left w] at add
          exact ⟨m, m1, add⟩
        · obtain ⟨m', a1, a2⟩ := hM x h1 h2
          exact ⟨m', a1, mxM_skip a2 (fun g => z ((hg x h1 h2).mp g).1.symm)⟩
      · rw [if_neg w]
        refine ⟨up2 τ 12 v0 (nI (farP σ (allE n code))), rfl, fun x hx => up2_c hx, fun x h1 h2 => ?_⟩
        by_cases z : x = v0
        · subst z
          rw [Nat.max_eq_right (by omega)] at add
          exact ⟨_, up2_s, add⟩
        · obtain ⟨m', a1, a2⟩ := hM x h1 h2
          exact ⟨m', by rw [up2_i z]; exact a1, mxM_skip a2 (fun g => z ((hg x h1 h2).mp g).1.symm)⟩
    · rw [if_neg q]
      exact ⟨τ, rfl, fun _ _ => rfl, skip (fun x h1 h2 g => by have := (hg x h1 h2).mp g; omega)⟩
  · rw [q3, if_pos rfl]
    refine ⟨τ, rfl, fun _ _ => rfl, skip (fun x h1 h2 g => q1 ?_)⟩
    have : v0 = x := (hv0 x h1 h2).mpr ⟨g.2.2.1, ((mk_T hS code e x).mp g.2.2.2).1⟩
    rw [show (1 : Int32) = nI 1 from rfl, show (99 : Int32) = nI 99 from rfl, z_le (by omega) (by omega), z_le (by omega) (by omega)]
    omega
theorem InvW_12 {n k : Nat} {cr : Nat → Nat} {σ τ τ' : St} (h : InvW n k cr σ τ) (h' : ∀ x, x ≠ 12 → τ' x = τ x) : InvW n k cr σ τ' :=
  InvW_M h (by rw [h' 0 (by omega)]) (by rw [h' 0 (by omega)]) (by rw [h' 0 (by omega)]) (by rw [h' 0 (by omega)]) (fun x _ _ => h' x (by omega)) (fun x _ => h' x (by omega))
theorem y_layMkL {n k : Nat} {cr : Nat → Nat} {σ : St} {code Wa : Nat} {D : Nat → Nat → Prop} (hO : okP σ Wa code) : ∀ (N e : Nat) (τ : St), InvW n k cr σ τ → (∀ e, e < 3 → τ 10 e = nI (atE n code e)) → e ≤ eP σ → eP σ < N + e → MKI σ Wa n (fun c e' => D c e' ∨ (c = code ∧ e' < e)) τ → ∃ τ', f_X5_layMakes_L2 (nI (farP σ (allE n code))) N τ (nI e) = some τ' ∧ (∀ x, x ≠ 12 → τ' x = τ x) ∧ MKI σ Wa n (fun c e' => D c e' ∨ (c = code ∧ e' < eP σ)) τ' := by
  intro N
  induction N with
  | zero => intro e τ h h10 h1 h2; omega
  | succ N ih =>
    intro e τ h h10 h1 h2 hM
    have hS := Sx_of h
    obtain ⟨z1, z2, z3⟩ := Sx_e hS
    obtain ⟨s1, s2, s3⟩ := Sx_s hS
    have hp28 := p28 hS.1
    have c9 := h.2.1.2.2.2.2.2.2.2.2.1
    rw [f_X5_layMakes_L2, c9 0 (by omega), z1]
    by_cases q : eP σ ≤ e
    · have : e = eP σ := by omega
      rw [if_pos (nI_le q (by omega))]
      rw [this] at hM
      exact ⟨τ, rfl, fun _ _ => rfl, hM⟩
    · have la := atE_lt n code e
      have lp := pop_le (atE n code e)
      rw [if_neg (nI_ge (by omega) (by omega)), z_chk (by omega) (by omega), nI_clamp (by omega), h10 e (by omega), y_ones (by omega), Option.bind_some, c9 3 (by omega), s1]
      simp only [z_le (show sP σ < 2 ^ 31 by omega) (show pop (atE n code e) < 2 ^ 31 by omega)]
      have fin : ∀ v0, v0 ≤ 3051 → (∀ x, 1 ≤ x → x ≤ 99 → (v0 = x ↔ (pop (atE n code e) < sP σ ∧ mkT σ n 0 code e x))) → ∃ τ', f_X5_layMakes_J40_2 τ (nI (farP σ (allE n code))) (nI e) (nI v0) (f_X5_layMakes_L2 (nI (farP σ (allE n code))) N) = some τ' ∧ (∀ x, x ≠ 12 → τ' x = τ x) ∧ MKI σ Wa n (fun c e' => D c e' ∨ (c = code ∧ e' < eP σ)) τ' := by
        intro v0 hv hv0
        obtain ⟨τ1, a1, a2, a3⟩ := y_J40 h hO h10 (show e < eP σ by omega) hv hv0 hM (f_X5_layMakes_L2 (nI (farP σ (allE n code))) N)
        rw [a1]
        obtain ⟨τ2, b1, b2, b3⟩ := ih (e + 1) τ1 (InvW_12 h a2) (fun e' he' => by rw [a2 10 (by omega)]; exact h10 e' he') (by omega) (by omega) (by
          have : (fun c e' => (D c e' ∨ (c = code ∧ e' < e)) ∨ (c = code ∧ e' = e)) = (fun c e' => D c e' ∨ (c = code ∧ e' < e + 1)) := by
            funext c e'
            refine propext ⟨?_, ?_⟩
            · rintro ((z | z) | z)
              · exact Or.inl z
              · exact Or.inr ⟨z.1, by omega⟩
              · exact Or.inr ⟨z.1, by omega⟩
            · rintro (z | z)
              · exact Or.inl (Or.inl z)
              · by_cases w : e' = e
                · exact Or.inr ⟨z.1, w⟩
                · exact Or.inl (Or.inr ⟨z.1, by omega⟩)
          rw [← this]
          exact a3)
        exact ⟨τ2, b1, fun x hx => by rw [b2 x hx, a2 x hx], b3⟩
      by_cases w : sP σ ≤ pop (atE n code e)
      · rw [if_pos w]
        exact fin 0 (by omega) (fun x h1 h2 => ⟨fun z => by omega, fun z => by omega⟩)
      · rw [if_neg w]
        obtain ⟨v, w1, w2, w3⟩ := y_lacks (t := 0) h h10 (show e < eP σ by omega) 0 rfl
        rw [w2, Option.bind_some]
        refine fin v w1 (fun x h1 h2 => ?_)
        rw [w3 x h1]
        exact ⟨fun z => ⟨by omega, z⟩, fun z => z.2⟩
theorem y_layMk {n k : Nat} {cr : Nat → Nat} {σ τ : St} {code Wa : Nat} (h : InvW n k cr σ τ) (hO : okP σ Wa code) (h10 : ∀ e, e < 3 → τ 10 e = nI (atE n code e)) (hM : MKI σ Wa n (fun c _ => c < code) τ) : ∃ τ', f_X5_layMakes τ (nI (farP σ (allE n code))) = some τ' ∧ (∀ x, x ≠ 12 → τ' x = τ x) ∧ MKI σ Wa n (fun c _ => c < code + 1) τ' := by
  have := fuel_ge
  have hS := Sx_of h
  obtain ⟨z1, z2, z3⟩ := Sx_e hS
  unfold f_X5_layMakes
  obtain ⟨τ', a1, a2, a3⟩ := y_layMkL (D := fun c _ => c < code) hO fuel 0 τ h h10 (by omega) (by omega) (by
    have : (fun c e' => (c < code) ∨ (c = code ∧ e' < 0)) = (fun (c : Nat) (_ : Nat) => c < code) := by
      funext c e'
      exact propext ⟨fun z => z.elim id (fun z => by omega), Or.inl⟩
    rw [this]
    exact hM)
  rw [show (nI 0 : Int32) = 0 from rfl] at a1
  rw [a1]
  refine ⟨τ', rfl, a2, fun x h1 h2 => ?_⟩
  obtain ⟨m, m1, m0, m2, m3⟩ := a3 x h1 h2
  refine ⟨m, m1, m0, fun c e hd hg => ?_, ?_⟩
  · by_cases z : c = code
    · exact m2 c e (Or.inr ⟨z, hg.2.1⟩) hg
    · exact m2 c e (Or.inl (by omega)) hg
  · rcases m3 with m3 | ⟨c, e, a, b, d⟩
    · exact Or.inl m3
    · refine Or.inr ⟨c, e, ?_, b, d⟩
      rcases a with a | a <;> omega
