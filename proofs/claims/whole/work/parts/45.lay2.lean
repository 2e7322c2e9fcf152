/-! pure: lay and unlay -/
theorem tb_one (a i : Nat) : (2 ^ a).testBit i = decide (i = a) := by
  rw [Nat.testBit_two_pow]
  by_cases h : i = a
  · subst h; simp
  · have : a ≠ i := fun z => h z.symm
    simp [h, this]
theorem crOK_set {n k : Nat} {cr : Nat → Nat} {c' : Nat} (hO : crOK n k cr) (h1 : c' < 2 ^ 24) (h2 : ∀ e p, e < 3 → p < 8 → c'.testBit (8 * e + p) = true → p < n) (h3 : ∀ e e' p, e < 3 → e' < 3 → p < 8 → c'.testBit (8 * e + p) = true → c'.testBit (8 * e' + p) = true → e = e') (h4 : ∀ j e e' p, j < k → e < 3 → e' < 3 → p < 8 → (cr j).testBit (8 * e + p) = true → c'.testBit (8 * e' + p) = true → False) : crOK n k (va_up cr k c') := by
  refine ⟨fun j hj => ?_, fun j e p hj he hp hb => ?_, fun j e j' e' p hj hj' he he' hp hb hb' => ?_⟩
  · by_cases z : j = k
    · subst z; rw [upS]; exact h1
    · rw [upN z]; exact hO.1 j hj
  · by_cases z : j = k
    · subst z; rw [upS] at hb; exact h2 e p he hp hb
    · rw [upN z] at hb; exact hO.2.1 j e p hj he hp hb
  · by_cases z : j = k
    · subst z
      rw [upS] at hb
      by_cases z' : j' = j
      · subst z'
        rw [upS] at hb'
        exact ⟨rfl, h3 e e' p he he' hp hb hb'⟩
      · rw [upN z'] at hb'
        exact (h4 j' e' e p (by omega) he' he hp hb' hb).elim
    · rw [upN z] at hb
      by_cases z' : j' = k
      · subst z'
        rw [upS] at hb'
        exact (h4 j e e' p (by omega) he he' hp hb hb').elim
      · rw [upN z'] at hb'
        exact hO.2.2 j e j' e' p hj hj' he he' hp hb hb'
theorem y_10e {e : Nat} (he : e < 3) : ¬ nI e = 10 := by
  rw [show (10 : Int32) = nI 10 from rfl, z_eq (by omega) (by omega)]
  omega
theorem y_20e {e : Nat} (he : e < 3) : ¬ nI e = 20 := by
  rw [show (20 : Int32) = nI 20 from rfl, z_eq (by omega) (by omega)]
  omega
theorem pl_waits {k p : Nat} {cr : Nat → Nat} (h : plR k cr p 10) : ¬ goneB k cr p ∧ ∀ e, e < 3 → (cr k).testBit (8 * e + p) = false := by
  rcases h with ⟨-, h⟩ | ⟨h, ⟨e, he, -, h2⟩ | ⟨h2, -⟩⟩
  · exact absurd h (by decide)
  · exact absurd h2.symm (y_10e he)
  · exact ⟨h, h2⟩
theorem sp_lay {σ τ : St} (h : Inv σ τ) (x1 : Int32) (x2 : Int32) : ∃ (r : Int32) (σ2 : St) (τ2 : St), f_X4_lay σ x1 x2 = some (r, σ2) ∧ f_X5_lay τ x1 x2 = some (r, τ2) ∧ Inv σ2 τ2 := by
  obtain ⟨n, k, cr, hW⟩ := id h
  obtain ⟨hT, hC, hL, hK0, hK1, hP⟩ := id hW
  obtain ⟨c1, c2, c3, ⟨en, z1, z2, z3⟩, c5, c6, c7, c8, c9, c10⟩ := id hC
  have z4 : τ 3 0 = nI en := by rw [c9 0 (by omega), z3]
  unfold f_X4_lay f_X5_lay
  rcases y_pers c2 c1 x1 with ⟨p, hp, rfl, e1⟩ | ⟨q, e1⟩
  · rw [e1, (y_isP c3 c1 (nI p)).1 ⟨p, hp, rfl⟩, Option.bind_some, if_neg i10, if_neg i10]
    rcases y_end z3 z2 x2 with ⟨e, he, rfl, e2⟩ | ⟨q, e2⟩
    · rw [e2, (y_isE z4 z2 (nI e)).1 ⟨e, he, rfl⟩, Option.bind_some, if_neg i10, if_neg i10, y_place hL c1 hp, Option.bind_some, z_chk (by omega) (by omega), nI_clamp (by omega)]
      obtain ⟨l1, l2, l3, l4, l5, l6, l7, l8, l9, l10, l11⟩ := id hL
      by_cases w : τ 7 p = 10
      · rw [if_pos w, if_pos w, y_willX c2 c1 z3 z2 hp he, y_willM (by omega), Option.bind_some, Option.bind_some, (c10 p hp).2.2.2.2.2]
        by_cases ws : σ 6 p = 3 ∨ σ 6 p = nI e
        · rw [if_pos ws, if_neg i10, if_neg i10, y_laid l1 l2, Option.bind_some, l7 k (by omega), y_sit (l6.1 k (by omega)) (by omega), y_bcs (sit_lt _ _), y_whoAt c3 c1, y_who_e c1 l6 l11 (by omega)]
          simp only [Option.bind_some]
          rw [y_ones (by have := sit_lt (cr k) e; omega), Option.bind_some, c9 3 (by omega)]
          by_cases ss : nI (pop (sit (cr k) e)) < σ 3 3
          · rw [if_pos ss, if_pos ss, y_seat (by omega) (by omega), y_setLaid l1 l2, Option.bind_some, z_chk (by omega) (by omega)]
            refine ⟨_, _, _, rfl, rfl, ?_⟩
            obtain ⟨g1, g2⟩ := pl_waits (w ▸ l11 p hp)
            have tb : ∀ i, (cr k ||| 2 ^ (8 * e + p)).testBit i = ((cr k).testBit i || decide (i = 8 * e + p)) := fun i => by rw [Nat.testBit_or, tb_one]
            have hlt : cr k ||| 2 ^ (8 * e + p) < 2 ^ 24 := Nat.or_lt_two_pow (l6.1 k (by omega)) (Nat.pow_lt_pow_right (by omega) (by omega))
            have tbT : ∀ e' p', e' < 3 → p' < 8 → (cr k ||| 2 ^ (8 * e + p)).testBit (8 * e' + p') = true → (cr k).testBit (8 * e' + p') = true ∨ (e' = e ∧ p' = p) := by
              intro e' p' he' hp' hb
              rw [tb, Bool.or_eq_true, decide_eq_true_eq] at hb
              rcases hb with hb | hb
              · exact Or.inl hb
              · exact Or.inr (by omega)
            refine Inv_laid hW _ (fun p' => up2 τ 7 p (nI e) 7 p') ?_ ?_ _ (fun _ _ => rfl) (fun x hx => up2_c hx)
            · refine crOK_set l6 hlt (fun e' p' he' hp' hb => ?_) (fun a b p' ha hb hp' h1 h2 => ?_) (fun j a b p' hj ha hb hp' h1 h2 => ?_)
              · rcases tbT e' p' he' hp' hb with q | ⟨-, rfl⟩
                · exact l6.2.1 k e' p' (by omega) he' hp' q
                · exact hp
              · rcases tbT a p' ha hp' h1 with q | ⟨rfl, rfl⟩ <;> rcases tbT b p' hb hp' h2 with q2 | ⟨rfl, q2⟩
                · exact (l6.2.2 k a k b p' (by omega) (by omega) ha hb hp' q q2).2
                · subst q2; rw [g2 a ha] at q; cases q
                · rw [g2 b hb] at q2; cases q2
                · rfl
              · rcases tbT b p' hb hp' h2 with q | ⟨rfl, rfl⟩
                · have := (l6.2.2 j a k b p' (by omega) (by omega) ha hb hp' h1 q).1
                  omega
                · exact g1 ⟨j, hj, a, ha, h1⟩
            · intro p' hp'
              by_cases z : p' = p
              · subst z
                show plR k _ p' (up2 τ 7 p' (nI e) 7 p')
                rw [up2_s]
                exact Or.inr ⟨fun q => g1 ((gone_laid _).mp q), Or.inl ⟨e, by omega, by rw [upS, tb]; simp, rfl⟩⟩
              · show plR k _ p' (up2 τ 7 p (nI e) 7 p')
                rw [up2_i z]
                have tbE : ∀ e', (cr k ||| 2 ^ (8 * e + p)).testBit (8 * e' + p') = (cr k).testBit (8 * e' + p') := fun e' => by
                  rw [tb, decide_eq_false (by omega), Bool.or_false]
                rcases l11 p' hp' with ⟨q1, q2⟩ | ⟨q1, ⟨e', he', hb, hv⟩ | ⟨hb, hv⟩⟩
                · exact Or.inl ⟨(gone_laid _).mpr q1, q2⟩
                · exact Or.inr ⟨fun q => q1 ((gone_laid _).mp q), Or.inl ⟨e', he', by rw [upS, tbE]; exact hb, hv⟩⟩
                · exact Or.inr ⟨fun q => q1 ((gone_laid _).mp q), Or.inr ⟨fun e' he' => by rw [upS, tbE]; exact hb e' he', hv⟩⟩
          · rw [if_neg ss, if_neg ss]
            exact ⟨_, _, _, rfl, rfl, h⟩
        · rw [if_neg ws, if_pos rfl, if_pos rfl]
          exact ⟨_, _, _, rfl, rfl, h⟩
      · rw [if_neg w, if_neg w]
        exact ⟨_, _, _, rfl, rfl, h⟩
    · rw [e2, (y_isE z4 z2 x2).2 q, Option.bind_some, if_pos rfl, if_pos rfl]
      exact ⟨_, _, _, rfl, rfl, h⟩
  · exact ⟨-1, σ, τ, by rw [e1, if_pos rfl], by rw [(y_isP c3 c1 x1).2 q, Option.bind_some, if_pos rfl], h⟩
theorem z_shl1 {p : Nat} (hp : p < 31) : shl 1 (nI p) = nI (2 ^ p) := by
  rw [show (1 : Int32) = nI 1 from rfl, z_shl (by omega) (by have : 2 ^ p ≤ 2 ^ 30 := Nat.pow_le_pow_right (by omega) (by omega); omega), Nat.one_mul]
theorem y_unseat {c p e : Nat} (hc : c < 2 ^ 24) (hp : p < 8) (he : e < 3) : ∃ c', f_X4_unseat (nI c) (nI p) (nI e) = nI c' ∧ c' < 2 ^ 24 ∧ ∀ i, c'.testBit i = (c.testBit i && decide (i ≠ 8 * e + p)) := by
  have l1 : 2 ^ (8 * e + p) ≤ 2 ^ 23 := Nat.pow_le_pow_right (by omega) (by omega)
  refine ⟨c &&& (2 ^ 32 - 1 - 2 ^ (8 * e + p)), ?_, Nat.lt_of_le_of_lt Nat.and_le_left hc, fun i => ?_⟩
  · unfold f_X4_unseat
    rw [show (8 : Int32) * nI e = nI (8 * e) from pk_mul 8 e, nI_add, z_shl1 (by omega), z_not _ (by omega), Nat.mod_eq_of_lt (a := 2 ^ (8 * e + p)) (by omega)]
  · rw [Nat.testBit_and, show 2 ^ 32 - 1 - 2 ^ (8 * e + p) = 2 ^ 32 - (2 ^ (8 * e + p) + 1) by omega, Nat.testBit_two_pow_sub_succ (by omega), tb_one]
    by_cases hi : i < 32
    · simp [hi]
    · rw [tb_big (n := 24) hc (by omega)]
      simp
theorem y_or3 {n k : Nat} {cr : Nat → Nat} (hO : crOK n k cr) : pop (mem (cr k)) = pop (sit (cr k) 0) + pop (sit (cr k) 1) + pop (sit (cr k) 2) := by
  unfold mem
  have ap : ∀ a b, a < 3 → b < 3 → a ≠ b → ∀ i, i < 8 → ¬ ((sit (cr k) a).testBit i = true ∧ (sit (cr k) b).testBit i = true) := by
    rintro a b ha hb hab i hi ⟨h1, h2⟩
    rw [sit_tb] at h1 h2
    simp only [hi, decide_true, Bool.true_and] at h1 h2
    exact hab (hO.2.2 k a k b i (by omega) (by omega) ha hb hi h1 h2).2
  rw [pop_or, pop_or (ap 0 1 (by omega) (by omega) (by omega))]
  intro i hi
  rw [Nat.testBit_or, Bool.or_eq_true]
  rintro ⟨h1 | h1, h2⟩
  · exact ap 0 2 (by omega) (by omega) (by omega) i hi ⟨h1, h2⟩
  · exact ap 1 2 (by omega) (by omega) (by omega) i hi ⟨h1, h2⟩
/-- how many are laid, as both sides count them -/
theorem y_laidM {n k : Nat} {cr : Nat → Nat} {τ : St} (c3 : τ 0 5 = nI n) (c1 : n ≤ 8) (hO : crOK n k cr) (hpl : ∀ p, p < n → plR k cr p (τ 7 p)) : f_X5_laid τ = some (nI (pop (sit (cr k) 0) + pop (sit (cr k) 1) + pop (sit (cr k) 2))) := by
  unfold f_X5_laid
  have w0 := y_who_e c1 hO hpl (e := 0) (by omega)
  have w1 := y_who_e c1 hO hpl (e := 1) (by omega)
  have w2 := y_who_e c1 hO hpl (e := 2) (by omega)
  rw [y_whoAt c3 c1, y_whoAt c3 c1, y_whoAt c3 c1, show (0 : Int32) = nI 0 from rfl, show (1 : Int32) = nI 1 from rfl, show (2 : Int32) = nI 2 from rfl, w0, w1, w2, Option.bind_some, Option.bind_some, Option.bind_some, z_or, z_or]
  have : mem (cr k) = sit (cr k) 0 ||| sit (cr k) 1 ||| sit (cr k) 2 := rfl
  rw [← this, y_ones (by have := mem_lt (cr k); omega), y_or3 hO]
  rfl
theorem sp_unlay {σ τ : St} (h : Inv σ τ) (x1 : Int32) : ∃ (r : Int32) (σ2 : St) (τ2 : St), f_X4_unlay σ x1 = some (r, σ2) ∧ f_X5_unlay τ x1 = some (r, τ2) ∧ Inv σ2 τ2 := by
  obtain ⟨n, k, cr, hW⟩ := id h
  obtain ⟨hT, hC, hL, hK0, hK1, hP⟩ := id hW
  obtain ⟨c1, c2, c3, -⟩ := id hC
  obtain ⟨l1, l2, l3, l4, l5, l6, l7, l8, l9, l10, l11⟩ := id hL
  unfold f_X4_unlay f_X5_unlay
  rcases y_pers c2 c1 x1 with ⟨p, hp, rfl, e1⟩ | ⟨q, e1⟩
  · rw [e1, (y_isP c3 c1 (nI p)).1 ⟨p, hp, rfl⟩, Option.bind_some, if_neg i10, if_neg i10, y_laid l1 l2, Option.bind_some, l7 k (by omega), z_chk (by omega) (by omega), nI_clamp (by omega)]
    rcases y_endOf (l6.1 k (by omega)) (show p < 8 by omega) with ⟨e, he, hb, hf⟩ | ⟨hb, hf⟩
    · have w : τ 7 p = nI e := by
        rcases l11 p hp with ⟨⟨j, hj, e', he', hb'⟩, -⟩ | ⟨-, ⟨e', he', hb', hv⟩ | ⟨hb', -⟩⟩
        · have := (l6.2.2 j e' k e p (by omega) (by omega) he' he (by omega) hb' hb).1
          omega
        · rw [hv, (l6.2.2 k e' k e p (by omega) (by omega) he' he (by omega) hb' hb).2]
        · rw [hb' e he] at hb; cases hb
      have gn : ¬ goneB k cr p := by
        rintro ⟨j, hj, e', he', hb'⟩
        have := (l6.2.2 j e' k e p (by omega) (by omega) he' he (by omega) hb' hb).1
        omega
      obtain ⟨c', u1, u2, u3⟩ := y_unseat (l6.1 k (by omega)) (show p < 8 by omega) he
      rw [hf, Option.bind_some, if_neg (y_ne9 (by omega)), Option.bind_some, u1, y_setLaid l1 l2, Option.bind_some, y_laid (σ := up2 σ 8 k (nI c')) l1 l2, up2_s, Option.bind_some, y_bc u2, w, if_pos (by rw [show (10 : Int32) = nI 10 from rfl, z_lt (by omega) (by omega)]; omega), z_chk (by omega) (by omega)]
      have tbT : ∀ e' p', c'.testBit (8 * e' + p') = true → (cr k).testBit (8 * e' + p') = true := fun e' p' q => by
        rw [u3, Bool.and_eq_true] at q
        exact q.1
      have hO : crOK n k (va_up cr k c') := by
        refine crOK_set l6 u2 (fun e' p' he' hp' hb => ?_) (fun a b p' ha hb hp' h1 h2 => ?_) (fun j a b p' hj ha hb hp' h1 h2 => ?_)
        · exact l6.2.1 k e' p' (by omega) he' hp' (tbT e' p' hb)
        · exact (l6.2.2 k a k b p' (by omega) (by omega) ha hb hp' (tbT a p' h1) (tbT b p' h2)).2
        · have := (l6.2.2 j a k b p' (by omega) (by omega) ha hb hp' h1 (tbT b p' h2)).1
          omega
      have hpl : ∀ p', p' < n → plR k (va_up cr k c') p' (up2 τ 7 p 10 7 p') := by
        intro p' hp'
        by_cases z : p' = p
        · subst z
          rw [up2_s]
          refine Or.inr ⟨fun q => gn ((gone_laid _).mp q), Or.inr ⟨fun e' he' => ?_, rfl⟩⟩
          rw [upS, u3]
          by_cases ze : e' = e
          · subst ze; simp
          · cases q : (cr k).testBit (8 * e' + p')
            · rfl
            · exact absurd (l6.2.2 k e' k e p' (by omega) (by omega) he' he (by omega) q hb).2 ze
        · rw [up2_i z]
          have tbE : ∀ e', c'.testBit (8 * e' + p') = (cr k).testBit (8 * e' + p') := fun e' => by
            rw [u3, decide_eq_true (by omega), Bool.and_true]
          rcases l11 p' hp' with ⟨q1, q2⟩ | ⟨q1, ⟨e', he', hb, hv⟩ | ⟨hb, hv⟩⟩
          · exact Or.inl ⟨(gone_laid _).mpr q1, q2⟩
          · exact Or.inr ⟨fun q => q1 ((gone_laid _).mp q), Or.inl ⟨e', he', by rw [upS, tbE]; exact hb, hv⟩⟩
          · exact Or.inr ⟨fun q => q1 ((gone_laid _).mp q), Or.inr ⟨fun e' he' => by rw [upS, tbE]; exact hb e' he', hv⟩⟩
      have hm := y_laidM (τ := up2 τ 7 p 10) c3 c1 hO hpl
      rw [upS] at hm
      rw [hm, Option.bind_some]
      exact ⟨_, _, _, rfl, rfl, Inv_laid hW c' _ hO hpl _ (fun _ _ => rfl) (fun x hx => up2_c hx)⟩
    · rw [hf, Option.bind_some, if_pos rfl, if_neg]
      · exact ⟨_, _, _, rfl, rfl, h⟩
      · rcases l11 p hp with ⟨-, hv⟩ | ⟨-, ⟨e', he', hb', hv⟩ | ⟨-, hv⟩⟩
        · rw [hv]; decide
        · rw [hb e' he'] at hb'; cases hb'
        · rw [hv]; decide
  · exact ⟨-1, σ, τ, by rw [e1, if_pos rfl], by rw [(y_isP c3 c1 x1).2 q, Option.bind_some, if_pos rfl], h⟩
