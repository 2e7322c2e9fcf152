/-! pure: fits, liars, mayWeigh -/
noncomputable def cntP (P : Nat → Prop) : Nat → Nat
  | 0 => 0
  | v + 1 => cntP P v + @ite Nat (P (v + 1)) (Classical.propDecidable _) 1 0
theorem cntP_le (P : Nat → Prop) : ∀ v, cntP P v ≤ v
  | 0 => Nat.le_refl _
  | v + 1 => by
    have := cntP_le P v
    rw [cntP]
    by_cases h : P (v + 1)
    · rw [if_pos h]; omega
    · rw [if_neg h]; omega
theorem cntP_all {P : Nat → Prop} (h : ∀ v, P v) : ∀ v, cntP P v = v
  | 0 => rfl
  | v + 1 => by rw [cntP, cntP_all h v, if_pos (h _)]
theorem cntP_none {P : Nat → Prop} (h : ∀ v, ¬ P v) : ∀ v, cntP P v = 0
  | 0 => rfl
  | v + 1 => by rw [cntP, cntP_none h v, if_neg (h _)]
theorem cntP_congr {P P' : Nat → Prop} (h : ∀ v, P v ↔ P' v) : cntP P = cntP P' := by
  have : P = P' := funext (fun v => propext (h v))
  rw [this]
/-- a boat was level by the claims -/
def Lc (σ : St) (n : Nat) (cr : Nat → Nat) (j : Nat) : Prop := levG (σ 3 0) (σ 3 1) (σ 3 2) (σ 3 4) (σ 10) (σ 9) n (σ 7 4) (sit (cr j) 0) (sit (cr j) 1) (sit (cr j) 2)
theorem up2_up2 {σ : St} {a i : Nat} {u v : Int32} : up2 (up2 σ a i u) a i v = up2 σ a i v := by
  funext x
  by_cases h : x = a
  · subst h
    funext j
    by_cases z : j = i
    · subst z; rw [up2_s, up2_s]
    · rw [up2_i z, up2_i z, up2_i z]
  · rw [up2_c h, up2_c h, up2_c h]
theorem up2_self {σ : St} {a i : Nat} : up2 σ a i (σ a i) = σ := by
  funext x
  by_cases h : x = a
  · subst h
    funext j
    by_cases z : j = i
    · subst z; rw [up2_s]
    · rw [up2_i z]
  · rw [up2_c h]
theorem sumI_on {f g : Nat → Int32} {s : Nat} : ∀ {n : Nat}, (∀ p, p < n → s.testBit p = true → f p = g p) → sumI f s n = sumI g s n
  | 0, _ => rfl
  | n + 1, h => by
    rw [sumI, sumI, sumI_on (fun p hp => h p (by omega))]
    by_cases z : s.testBit n = true
    · rw [if_pos z, if_pos z, h n (by omega) z]
    · rw [if_neg z, if_neg z]
theorem Lc_indep {σ : St} {n p j : Nat} {cr : Nat → Nat} (hp : p < 8) (hb : ∀ e, e < 3 → (cr j).testBit (8 * e + p) = false) (u : Int32) : Lc (up2 σ 10 p u) n cr j ↔ Lc σ n cr j := by
  have e : ∀ (b m : Int32) (a : Nat), a < 3 → LD b (up2 σ 10 p u 10) (σ 9) m (sit (cr j) a) n = LD b (σ 10) (σ 9) m (sit (cr j) a) n := by
    intro b m a ha
    unfold LD
    rw [sumI_on (fun q hq hb' => ?_)]
    have : q ≠ p := by
      rintro rfl
      rw [sit_tb, hb a ha] at hb'
      simp at hb'
    show f_X4_poundsAfter (up2 σ 10 p u 10 q) _ _ = _
    rw [up2_i this]
  show levG (σ 3 0) (σ 3 1) (σ 3 2) (σ 3 4) (up2 σ 10 p u 10) (σ 9) n (σ 7 4) _ _ _ ↔ _
  unfold Lc levG offG
  rw [e _ _ 0 (by omega), e _ _ 1 (by omega), e _ _ 2 (by omega), e _ _ 0 (by omega), e _ _ 1 (by omega), e _ _ 2 (by omega)]
theorem InvW_claim {n k p v : Nat} {cr : Nat → Nat} {σ τ : St} (h : InvW n k cr σ τ) (hp : p < n) (h1 : 1 ≤ v) (h2 : v ≤ 99) : InvW n k cr (up2 σ 10 p (nI v)) (up2 τ 6 p (nI v)) := by
  obtain ⟨hT, hC, ⟨l1, l2, l3, l4, l5, l6, l7, l8, l9, l10, l11⟩, hK0, hK1, hP⟩ := h
  refine ⟨hT, hC, ⟨l1, l2, l3, l4, l5, l6, l7, l8, fun p' hp' => ?_, l10, l11⟩, hK0, hK1, fun Wa hW => (hP Wa hW).congr rfl rfl rfl rfl rfl rfl (fun x h1 h2 => up2_c (by omega))⟩
  show up2 τ 6 p (nI v) 6 p' = up2 σ 10 p (nI v) 10 p' ∧ In (up2 σ 10 p (nI v) 10 p') 1 99
  by_cases z : p' = p
  · subst z
    rw [up2_s, up2_s]
    exact ⟨rfl, v, h1, h2, rfl⟩
  · rw [up2_i z, up2_i z]
    exact l9 p' hp'
theorem y_allFitL {n k : Nat} {cr : Nat → Nat} {σ τ : St} (h : InvW n k cr σ τ) : ∀ (N j : Nat) (y : Int32), j ≤ k → k < N + j → (y = 1 ∨ y = 0) → ((y = 1 ∧ ∀ i, j ≤ i → i < k → Lc σ n cr i) ∧ f_X5_allFit_L4 τ N y (nI j) = some 1) ∨ (¬ (y = 1 ∧ ∀ i, j ≤ i → i < k → Lc σ n cr i) ∧ f_X5_allFit_L4 τ N y (nI j) = some 0) := by
  obtain ⟨hT, hC, ⟨l1, l2, l3, l4, l5, l6, l7, l8, l9, l10, l11⟩, -⟩ := id h
  obtain ⟨c1, c2, c3, -⟩ := hC
  intro N
  induction N with
  | zero => intro j y h1 h2; omega
  | succ N ih =>
    intro j y h1 h2 hy
    rw [f_X5_allFit_L4, l3]
    by_cases q : k ≤ j
    · rw [if_pos (nI_le q (by omega))]
      rcases hy with rfl | rfl
      · exact Or.inl ⟨⟨rfl, fun i h3 h4 => absurd h4 (by omega)⟩, rfl⟩
      · exact Or.inr ⟨fun z => absurd z.1 (by decide), rfl⟩
    · rw [if_neg (nI_ge (by omega) (by omega)), nI_1]
      rcases hy with rfl | rfl
      · have z0 := l10 j 0 (by omega) (by omega)
        rw [Nat.add_zero] at z0
        have b0 := sit_lt (cr j) 0
        have b1 := sit_lt (cr j) 1
        have b2 := sit_lt (cr j) 2
        rw [if_neg i10, y_3p (by omega), show nI (3 * j) + 1 = nI (3 * j + 1) from nI_add _ 1, show nI (3 * j) + 2 = nI (3 * j + 2) from nI_add _ 2, z_chk (by omega) (by omega), z_chk (by omega) (by omega), z_chk (by omega) (by omega), nI_clamp (by omega), nI_clamp (by omega), nI_clamp (by omega), z0, l10 j 1 (by omega) (by omega), l10 j 2 (by omega) (by omega)]
        rcases y_levM c3 c1 (s0 := sit (cr j) 0) (s1 := sit (cr j) 1) (s2 := sit (cr j) 2) (by omega) (by omega) (by omega) 1 with ⟨e1, e2⟩ | ⟨e1, e2⟩
        · rw [e2, Option.bind_some, if_neg i10]
          rcases ih (j + 1) 1 (by omega) (by omega) (Or.inl rfl) with ⟨d1, d2⟩ | ⟨d1, d2⟩
          · refine Or.inl ⟨⟨rfl, fun i h3 h4 => ?_⟩, d2⟩
            by_cases z : i = j
            · subst z; exact (lev_relc h _ _ _).mp e1
            · exact d1.2 i (by omega) h4
          · exact Or.inr ⟨fun z => d1 ⟨rfl, fun i h3 h4 => z.2 i (by omega) h4⟩, d2⟩
        · rw [e2, Option.bind_some, if_pos rfl]
          rcases ih (j + 1) 0 (by omega) (by omega) (Or.inr rfl) with ⟨d1, d2⟩ | ⟨d1, d2⟩
          · exact absurd d1.1 (by decide)
          · exact Or.inr ⟨fun z => e1 ((lev_relc h _ _ _).mpr (z.2 j (by omega) (by omega))), d2⟩
      · rw [if_pos rfl]
        rcases ih (j + 1) 0 (by omega) (by omega) (Or.inr rfl) with ⟨d1, d2⟩ | ⟨d1, d2⟩
        · exact absurd d1.1 (by decide)
        · exact Or.inr ⟨fun z => absurd z.1 (by decide), d2⟩
theorem y_allFit {n k : Nat} {cr : Nat → Nat} {σ τ : St} (h : InvW n k cr σ τ) : ((∀ i, i < k → Lc σ n cr i) ∧ f_X5_allFit τ = some 1) ∨ (¬ (∀ i, i < k → Lc σ n cr i) ∧ f_X5_allFit τ = some 0) := by
  have := fuel_ge
  have hk := h.2.2.1.1
  unfold f_X5_allFit
  rcases y_allFitL h fuel 0 1 (by omega) (by omega) (Or.inl rfl) with ⟨d1, d2⟩ | ⟨d1, d2⟩
  · rw [show (0 : Int32) = nI 0 from rfl, d2]
    exact Or.inl ⟨fun i hi => d1.2 i (by omega) hi, rfl⟩
  · rw [show (0 : Int32) = nI 0 from rfl, d2]
    exact Or.inr ⟨fun z => d1 ⟨rfl, fun i _ hi => z i hi⟩, rfl⟩
theorem y_fitL {n k : Nat} {cr : Nat → Nat} {σ τ : St} (h : InvW n k cr σ τ) (x : Int32) : ∀ (N j : Nat), j ≤ k → k < N + j → ((∀ i, j ≤ i → i < k → ¬ nI i = x → Lc σ n cr i) ∧ f_X4_boatsFitBut_L2 σ x N (nI j) = some 1) ∨ (¬ (∀ i, j ≤ i → i < k → ¬ nI i = x → Lc σ n cr i) ∧ f_X4_boatsFitBut_L2 σ x N (nI j) = some 0) := by
  obtain ⟨hT, hC, ⟨l1, l2, l3, l4, l5, l6, l7, l8, l9, l10, l11⟩, -⟩ := id h
  obtain ⟨c1, c2, c3, -⟩ := hC
  intro N
  induction N with
  | zero => intro j h1 h2; omega
  | succ N ih =>
    intro j h1 h2
    rw [f_X4_boatsFitBut_L2, l2]
    by_cases q : k ≤ j
    · rw [if_pos (nI_le q (by omega))]
      exact Or.inl ⟨fun i h3 h4 => absurd h4 (by omega), rfl⟩
    · rw [if_neg (nI_ge (by omega) (by omega)), nI_1]
      by_cases w : nI j = x
      · rw [if_pos w]
        rcases ih (j + 1) (by omega) (by omega) with ⟨d1, d2⟩ | ⟨d1, d2⟩
        · refine Or.inl ⟨fun i h3 h4 h5 => ?_, d2⟩
          by_cases z : i = j
          · subst z; exact absurd w h5
          · exact d1 i (by omega) h4 h5
        · exact Or.inr ⟨fun z => d1 (fun i h3 h4 h5 => z i (by omega) h4 h5), d2⟩
      · rw [if_neg w, y_crewOf (by omega), Option.bind_some, l7 j (by omega)]
        rcases y_levc c2 c1 (l6.1 j (by omega)) with ⟨e1, e2⟩ | ⟨e1, e2⟩
        · rw [e2, Option.bind_some, if_neg i10]
          rcases ih (j + 1) (by omega) (by omega) with ⟨d1, d2⟩ | ⟨d1, d2⟩
          · refine Or.inl ⟨fun i h3 h4 h5 => ?_, d2⟩
            by_cases z : i = j
            · subst z; exact e1
            · exact d1 i (by omega) h4 h5
          · exact Or.inr ⟨fun z => d1 (fun i h3 h4 h5 => z i (by omega) h4 h5), d2⟩
        · rw [e2, Option.bind_some, if_pos rfl]
          exact Or.inr ⟨fun z => e1 (z j (by omega) (by omega) w), rfl⟩
theorem y_fit {n k : Nat} {cr : Nat → Nat} {σ τ : St} (h : InvW n k cr σ τ) (x : Int32) : ((∀ i, i < k → ¬ nI i = x → Lc σ n cr i) ∧ f_X4_boatsFitBut σ x = some 1) ∨ (¬ (∀ i, i < k → ¬ nI i = x → Lc σ n cr i) ∧ f_X4_boatsFitBut σ x = some 0) := by
  have := fuel_ge
  have hk := h.2.2.1.1
  unfold f_X4_boatsFitBut
  rcases y_fitL h x fuel 0 (by omega) (by omega) with ⟨d1, d2⟩ | ⟨d1, d2⟩
  · exact Or.inl ⟨fun i hi => d1 i (by omega) hi, d2⟩
  · exact Or.inr ⟨fun z => d1 (fun i _ hi => z i hi), d2⟩
theorem y_fit9 {n k : Nat} {cr : Nat → Nat} {σ τ : St} (h : InvW n k cr σ τ) : ((∀ i, i < k → Lc σ n cr i) ∧ f_X4_boatsFitBut σ (-9) = some 1) ∨ (¬ (∀ i, i < k → Lc σ n cr i) ∧ f_X4_boatsFitBut σ (-9) = some 0) := by
  have hk := h.2.2.1.1
  rcases y_fit h (-9) with ⟨d1, d2⟩ | ⟨d1, d2⟩
  · exact Or.inl ⟨fun i hi => d1 i hi (y_ne9 (by omega)), d2⟩
  · exact Or.inr ⟨fun z => d1 (fun i hi _ => z i hi), d2⟩
theorem sp_fits {σ τ : St} (h : Inv σ τ) : ∃ (r : Int32), f_X4_fits σ = some r ∧ f_X5_fits τ = some r ∧ Inv σ τ := by
  obtain ⟨n, k, cr, hW⟩ := id h
  unfold f_X4_fits f_X5_fits
  rcases y_fit9 hW with ⟨d1, d2⟩ | ⟨d1, d2⟩ <;> rcases y_allFit hW with ⟨e1, e2⟩ | ⟨e1, e2⟩
  · rw [d2, e2]; exact ⟨_, rfl, rfl, h⟩
  · exact absurd d1 e1
  · exact absurd e1 d1
  · rw [d2, e2]; exact ⟨_, rfl, rfl, h⟩
/-- by which claims of somebody all fit -/
def mayP (σ : St) (n k : Nat) (cr : Nat → Nat) (p v : Nat) : Prop := ∀ i, i < k → Lc (up2 σ 10 p (nI v)) n cr i
theorem y_mayL {n k p : Nat} {cr : Nat → Nat} {σ τ : St} (h : InvW n k cr σ τ) (hp : p < n) : ∀ (N v : Nat) (τ' : St), (∀ u, up2 τ' 6 p u = up2 τ 6 p u) → v ≤ 99 → 99 < N + v → ∃ τ2, f_X5_mayOf_L12 (nI p) N τ' (nI (cntP (mayP σ n k cr p) v)) (nI (v + 1)) = some (nI (cntP (mayP σ n k cr p) 99), τ2) ∧ ∀ u, up2 τ2 6 p u = up2 τ 6 p u := by
  have c1 := h.2.1.1
  intro N
  induction N with
  | zero => intro v τ' h0 h1 h2; omega
  | succ N ih =>
    intro v τ' h0 h1 h2
    rw [f_X5_mayOf_L12, show (100 : Int32) = nI 100 from rfl]
    by_cases q : v = 99
    · subst q
      rw [if_pos (nI_le (by omega) (by omega))]
      exact ⟨τ', rfl, h0⟩
    · rw [if_neg (nI_ge (by omega) (by omega)), z_chk (by omega) (by omega), nI_clamp (by omega), h0, nI_1]
      have hv := InvW_claim h hp (show 1 ≤ v + 1 by omega) (show v + 1 ≤ 99 by omega)
      obtain ⟨τ2, a1, a2⟩ := ih (v + 1) (up2 τ 6 p (nI (v + 1))) (fun u => up2_up2) (by omega) (by omega)
      refine ⟨τ2, ?_, a2⟩
      rw [← a1, cntP]
      rcases y_allFit hv with ⟨e1, e2⟩ | ⟨e1, e2⟩
      · rw [e2, Option.bind_some, if_neg i10, if_pos (show mayP σ n k cr p (v + 1) from e1), nI_1]
      · rw [e2, Option.bind_some, if_pos rfl, if_neg (show ¬ mayP σ n k cr p (v + 1) from e1), i32_a0]
        rfl
theorem y_may {n k p : Nat} {cr : Nat → Nat} {σ τ : St} (h : InvW n k cr σ τ) (hp : p < n) : f_X5_mayOf τ (nI p) = some (nI (cntP (mayP σ n k cr p) 99), τ) := by
  have := fuel_ge
  have c1 := h.2.1.1
  obtain ⟨τ2, a1, a2⟩ := y_mayL h hp fuel 0 τ (fun _ => rfl) (by omega) (by omega)
  rw [show nI (cntP (mayP σ n k cr p) 0) = 0 from rfl, show nI (0 + 1) = 1 from rfl] at a1
  unfold f_X5_mayOf
  rw [z_chk (by omega) (by omega), a1, Option.bind_some, z_chk (by omega) (by omega), nI_clamp (by omega), a2, up2_self]
theorem y_clL {n k p i : Nat} {cr : Nat → Nat} {σ τ : St} (h : InvW n k cr σ τ) (hp : p < n) (hi : i < k) : ∀ (N v : Nat) (σ' : St), (∀ u, up2 σ' 10 p u = up2 σ 10 p u) → v ≤ 99 → 99 < N + v → ∃ σ2, f_X4_claimsThatFit_L44 (nI p) (nI i) N σ' (nI (cntP (fun v => Lc (up2 σ 10 p (nI v)) n cr i) v)) (nI (v + 1)) = some (nI (cntP (fun v => Lc (up2 σ 10 p (nI v)) n cr i) 99), σ2) ∧ ∀ u, up2 σ2 10 p u = up2 σ 10 p u := by
  obtain ⟨hT, hC, ⟨l1, l2, l3, l4, l5, l6, l7, l8, l9, l10, l11⟩, -⟩ := id h
  obtain ⟨c1, c2, c3, -⟩ := hC
  intro N
  induction N with
  | zero => intro v τ' h0 h1 h2; omega
  | succ N ih =>
    intro v σ' h0 h1 h2
    rw [f_X4_claimsThatFit_L44, show (99 : Int32) = nI 99 from rfl]
    by_cases q : v = 99
    · subst q
      rw [if_pos (nI_lt (by omega) (by omega))]
      exact ⟨σ', rfl, h0⟩
    · rw [if_neg (nI_nlt (by omega) (by omega)), z_chk (by omega) (by omega), nI_clamp (by omega), h0, y_crewOf (by omega), Option.bind_some, show up2 σ 10 p (nI (v + 1)) 8 i = σ 8 i from rfl, l7 i (by omega)]
      obtain ⟨σ2, a1, a2⟩ := ih (v + 1) (up2 σ 10 p (nI (v + 1))) (fun u => up2_up2) (by omega) (by omega)
      refine ⟨σ2, ?_, a2⟩
      rw [← a1, cntP]
      rcases y_levc (σ := up2 σ 10 p (nI (v + 1))) (n := n) c2 c1 (l6.1 i (by omega)) with ⟨e1, e2⟩ | ⟨e1, e2⟩
      · rw [e2, Option.bind_some, if_neg i10, if_pos (show Lc (up2 σ 10 p (nI (v + 1))) n cr i from e1), nI_1, nI_1]
      · rw [e2, Option.bind_some, if_pos rfl, if_neg (show ¬ Lc (up2 σ 10 p (nI (v + 1))) n cr i from e1), nI_1]
        rfl
theorem y_cl {n k p : Nat} {cr : Nat → Nat} {σ τ : St} (h : InvW n k cr σ τ) (hp : p < n) : f_X4_claimsThatFit σ (nI p) = some (nI (cntP (mayP σ n k cr p) 99), σ) := by
  have := fuel_ge
  obtain ⟨hT, hC, ⟨l1, l2, l3, l4, l5, l6, l7, l8, l9, l10, l11⟩, -⟩ := id h
  obtain ⟨c1, c2, c3, -⟩ := hC
  unfold f_X4_claimsThatFit
  rcases y_boatOf l1 l2 l6.1 l7 (show p < 8 by omega) with ⟨i, hi, ⟨e0, he0, hb⟩, hf⟩ | ⟨g, hf⟩
  · have ind : ∀ j, j < k → j ≠ i → ∀ u, Lc (up2 σ 10 p u) n cr j ↔ Lc σ n cr j := by
      intro j hj hji u
      refine Lc_indep (by omega) (fun e he => ?_) u
      cases q : (cr j).testBit (8 * e + p)
      · rfl
      · exact absurd (l6.2.2 j e i e0 p (by omega) (by omega) he he0 (by omega) q hb).1 hji
    rw [hf, Option.bind_some]
    rcases y_fit h (nI i) with ⟨d1, d2⟩ | ⟨d1, d2⟩
    · obtain ⟨σ2, a1, a2⟩ := y_clL h hp hi fuel 0 σ (fun _ => rfl) (by omega) (by omega)
      rw [show nI (cntP (fun v => Lc (up2 σ 10 p (nI v)) n cr i) 0) = 0 from rfl, show nI (0 + 1) = 1 from rfl] at a1
      rw [d2, Option.bind_some, if_neg i10, if_neg (y_ne9 (by omega)), z_chk (by omega) (by omega), a1, Option.bind_some, z_chk (by omega) (by omega), nI_clamp (by omega), a2, up2_self]
      rw [cntP_congr (P := mayP σ n k cr p) (P' := fun v => Lc (up2 σ 10 p (nI v)) n cr i)]
      intro v
      refine ⟨fun z => z i hi, fun z j hj => ?_⟩
      by_cases q : j = i
      · subst q; exact z
      · exact (ind j hj q _).mpr (d1 j hj (by rw [z_eq (by omega) (by omega)]; exact q))
    · rw [d2, Option.bind_some, if_pos rfl, cntP_none]
      · rfl
      · intro v z
        refine d1 (fun j hj q => ?_)
        rw [z_eq (by omega) (by omega)] at q
        exact (ind j hj q _).mp (z j hj)
  · have ind : ∀ j, j < k → ∀ u, Lc (up2 σ 10 p u) n cr j ↔ Lc σ n cr j := by
      intro j hj u
      refine Lc_indep (by omega) (fun e he => ?_) u
      cases q : (cr j).testBit (8 * e + p)
      · rfl
      · exact absurd ⟨j, hj, e, he, q⟩ g
    rw [hf, Option.bind_some]
    rcases y_fit9 h with ⟨d1, d2⟩ | ⟨d1, d2⟩
    · rw [d2, Option.bind_some, if_neg i10, if_pos rfl, cntP_all]
      · rfl
      · exact fun v j hj => (ind j hj _).mpr (d1 j hj)
    · rw [d2, Option.bind_some, if_pos rfl, cntP_none]
      · rfl
      · exact fun v z => d1 (fun j hj => (ind j hj _).mp (z j hj))
theorem sp_mayWeigh {σ τ : St} (h : Inv σ τ) (x1 : Int32) : ∃ (r : Int32) (σ2 : St) (τ2 : St), f_X4_mayWeigh σ x1 = some (r, σ2) ∧ f_X5_mayWeigh τ x1 = some (r, τ2) ∧ Inv σ2 τ2 := by
  obtain ⟨n, k, cr, hW⟩ := id h
  obtain ⟨c1, c2, c3, -⟩ := id hW.2.1
  unfold f_X4_mayWeigh f_X5_mayWeigh
  rcases y_pers c2 c1 x1 with ⟨p, hp, rfl, e1⟩ | ⟨q, e1⟩
  · rw [e1, (y_isP c3 c1 (nI p)).1 ⟨p, hp, rfl⟩, Option.bind_some, if_neg i10, if_neg i10, y_cl hW hp, y_may hW hp]
    exact ⟨_, σ, τ, rfl, rfl, h⟩
  · exact ⟨-1, σ, τ, by rw [e1, if_pos rfl], by rw [(y_isP c3 c1 x1).2 q, Option.bind_some, if_pos rfl], h⟩
noncomputable def liarB (σ : St) (n k : Nat) (cr : Nat → Nat) (p : Nat) : Bool := decide (0 < cntP (mayP σ n k cr p) 99)
theorem y_bset1 {P : Nat → Bool} {p : Nat} (hp : p < 31) : (P p = true → nI (bset P p) ||| shl 1 (nI p) = nI (bset P (p + 1))) ∧ (P p = false → nI (bset P p) = nI (bset P (p + 1))) := by
  constructor
  · intro h
    rw [z_shl1 hp, z_or, bset, if_pos h]
  · intro h
    rw [bset, if_neg (by rw [h]; decide), Nat.or_zero]
theorem y_liarsX {n k : Nat} {cr : Nat → Nat} {σ τ : St} (h : InvW n k cr σ τ) : ∀ (N p : Nat), p ≤ n → n < N + p → f_X4_liars_L15 N σ (nI (bset (liarB σ n k cr) p)) (nI p) = some (nI (bset (liarB σ n k cr) n), σ) := by
  obtain ⟨c1, c2, c3, -⟩ := id h.2.1
  intro N
  induction N with
  | zero => intro p h1 h2; omega
  | succ N ih =>
    intro p h1 h2
    rw [f_X4_liars_L15, c2]
    by_cases q : n ≤ p
    · have : p = n := by omega
      subst this
      rw [if_pos (nI_le q (by omega))]
    · have hc := cntP_le (mayP σ n k cr p) 99
      rw [if_neg (nI_ge (by omega) (by omega)), y_cl h (by omega), Option.bind_some, nI_1, ← ih (p + 1) (by omega) (by omega)]
      show (if nI (cntP (mayP σ n k cr p) 99) ≤ 0 then _ else _) = _
      by_cases z : 0 < cntP (mayP σ n k cr p) 99
      · rw [if_neg (nI_nle z (by omega)), (y_bset1 (P := liarB σ n k cr) (p := p) (by omega)).1 (by unfold liarB; simpa using z)]
      · rw [if_pos (show nI _ ≤ 0 from nI_le (b := 0) (by omega) (by omega)), (y_bset1 (P := liarB σ n k cr) (p := p) (by omega)).2 (by unfold liarB; simpa using z)]
theorem y_liarsM {n k : Nat} {cr : Nat → Nat} {σ τ : St} (h : InvW n k cr σ τ) (hf : f_X5_allFit τ = some 0) : ∀ (N p : Nat), p ≤ n → n < N + p → f_X5_liars_L4 N τ (nI (bset (liarB σ n k cr) p)) (nI p) = some (nI (bset (liarB σ n k cr) n), τ) := by
  obtain ⟨c1, c2, c3, -⟩ := id h.2.1
  intro N
  induction N with
  | zero => intro p h1 h2; omega
  | succ N ih =>
    intro p h1 h2
    rw [f_X5_liars_L4, c3]
    by_cases q : n ≤ p
    · have : p = n := by omega
      subst this
      rw [if_pos (nI_le q (by omega))]
    · have hc := cntP_le (mayP σ n k cr p) 99
      rw [if_neg (nI_ge (by omega) (by omega)), hf, Option.bind_some, if_pos rfl, y_may h (by omega), Option.bind_some, nI_1, ← ih (p + 1) (by omega) (by omega)]
      show (if nI (cntP (mayP σ n k cr p) 99) ≤ 0 then _ else _) = _
      by_cases z : 0 < cntP (mayP σ n k cr p) 99
      · rw [if_neg (nI_nle z (by omega)), (y_bset1 (P := liarB σ n k cr) (p := p) (by omega)).1 (by unfold liarB; simpa using z)]
      · rw [if_pos (show nI _ ≤ 0 from nI_le (b := 0) (by omega) (by omega)), show (0 : Int32) = nI 0 from rfl, z_or, Nat.or_zero, (y_bset1 (P := liarB σ n k cr) (p := p) (by omega)).2 (by unfold liarB; simpa using z)]
theorem sp_liars {σ τ : St} (h : Inv σ τ) : ∃ (r : Int32) (σ2 : St) (τ2 : St), f_X4_liars σ = some (r, σ2) ∧ f_X5_liars τ = some (r, τ2) ∧ Inv σ2 τ2 := by
  obtain ⟨n, k, cr, hW⟩ := id h
  obtain ⟨c1, c2, c3, -⟩ := id hW.2.1
  have := fuel_ge
  unfold f_X4_liars f_X5_liars
  rcases y_fit9 hW with ⟨d1, d2⟩ | ⟨d1, d2⟩ <;> rcases y_allFit hW with ⟨e1, e2⟩ | ⟨e1, e2⟩
  · rw [d2, Option.bind_some, if_neg i10]
    refine ⟨0, σ, τ, rfl, ?_, h⟩
    obtain ⟨N, hN⟩ := y_fuel 1 (by omega)
    rw [hN, f_X5_liars_L4, c3]
    by_cases q : nI n ≤ 0
    · rw [if_pos q]; rfl
    · rw [if_neg q, e2, Option.bind_some, if_neg i10]; rfl
  · exact absurd d1 e1
  · exact absurd e1 d1
  · have a := y_liarsX hW fuel 0 (by omega) (by omega)
    have b := y_liarsM hW e2 fuel 0 (by omega) (by omega)
    rw [show nI (bset (liarB σ n k cr) 0) = 0 from rfl, show nI 0 = 0 from rfl] at a b
    rw [d2, Option.bind_some, if_pos rfl, a, b]
    exact ⟨_, σ, τ, rfl, rfl, h⟩
