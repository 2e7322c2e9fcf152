/-! pure: leave, back -/
theorem pop_crew {c : Nat} (hc : c < 2 ^ 24) : pop (sit c 0) + pop (sit c 1) + pop (sit c 2) = 0 ↔ c = 0 := by
  constructor
  · intro h
    have a := (pop_pos (sit_lt c 0)).mp (by omega)
    have b := (pop_pos (sit_lt c 1)).mp (by omega)
    have d := (pop_pos (sit_lt c 2)).mp (by omega)
    rw [sit3 hc, a, b, d]
    rfl
  · rintro rfl
    rfl
theorem y_leaveL {n : Nat} (h8 : n ≤ 8) : ∀ (N p : Nat) (τ : St), τ 0 5 = nI n → p ≤ n → n < N + p → ∃ τ2, f_X5_leave_L104 N τ (nI p) = some τ2 ∧ (∀ x, x ≠ 7 → τ2 x = τ x) ∧ (∀ i, i < p → τ2 7 i = τ 7 i) ∧ ∀ i, p ≤ i → i < n → τ2 7 i = if 10 ≤ τ 7 i then τ 7 i else 20 := by
  intro N
  induction N with
  | zero => intro p τ h0 h1 h2; omega
  | succ N ih =>
    intro p τ h0 h1 h2
    rw [f_X5_leave_L104, h0]
    by_cases q : n ≤ p
    · rw [if_pos (nI_le q (by omega))]
      exact ⟨τ, rfl, fun _ _ => rfl, fun _ _ => rfl, fun i h3 h4 => absurd h4 (by omega)⟩
    · rw [if_neg (nI_ge (by omega) (by omega)), z_chk (by omega) (by omega), z_chk (by omega) (by omega), z_chk (by omega) (by omega), z_chk (by omega) (by omega), nI_clamp (by omega), nI_1]
      obtain ⟨τ2, a1, a2, a3, a4⟩ := ih (p + 1) (up2 τ 7 p (if 10 ≤ τ 7 p then τ 7 p else 20)) h0 (by omega) (by omega)
      refine ⟨τ2, ?_, fun x hx => by rw [a2 x hx, up2_c hx], fun i hi => by rw [a3 i (by omega), up2_i (by omega)], fun i h3 h4 => ?_⟩
      · rw [← a1]
        by_cases z : 10 ≤ τ 7 p
        · rw [if_pos z, if_pos z]
        · rw [if_neg z, if_neg z]
      · by_cases z : i = p
        · subst z
          rw [a3 i (by omega), up2_s]
        · rw [a4 i (by omega) h4, up2_i z]
theorem up2_at {σ : St} {a i j : Nat} {v : Int32} (h : j = i) : up2 σ a i v a j = v := by subst h; exact up2_s
theorem sp_leave {σ τ : St} (h : Inv σ τ) : ∃ (r : Int32) (σ2 : St) (τ2 : St), f_X4_leave σ = some (r, σ2) ∧ f_X5_leave τ = some (r, τ2) ∧ Inv σ2 τ2 := by
  obtain ⟨n, k, cr, hW⟩ := id h
  obtain ⟨hT, hC, hL, hK0, hK1, hP⟩ := id hW
  obtain ⟨c1, c2, c3, ⟨en, z1, z2, z3⟩, c5, c6, c7, c8, c9, c10⟩ := id hC
  obtain ⟨l1, l2, l3, l4, l5, l6, l7, l8, l9, l10, l11⟩ := id hL
  have hck := l6.1 k (by omega)
  have w0 := y_who_e c1 l6 l11 (e := 0) (by omega)
  have w1 := y_who_e c1 l6 l11 (e := 1) (by omega)
  have w2 := y_who_e c1 l6 l11 (e := 2) (by omega)
  rw [show (nI 0 : Int32) = 0 from rfl] at w0
  rw [show (nI 1 : Int32) = 1 from rfl] at w1
  rw [show (nI 2 : Int32) = 2 from rfl] at w2
  have s0 := sit_lt (cr k) 0
  have s1 := sit_lt (cr k) 1
  have s2 := sit_lt (cr k) 2
  unfold f_X4_leave f_X5_leave
  rw [y_laid l1 l2, Option.bind_some, l7 k (by omega), y_whoAt c3 c1, y_whoAt c3 c1, y_whoAt c3 c1, w0, w1, w2]
  simp only [Option.bind_some]
  rw [y_laidM c3 c1 l6 l11, Option.bind_some]
  have p0 := pop_le (sit (cr k) 0)
  have p1 := pop_le (sit (cr k) 1)
  have p2 := pop_le (sit (cr k) 2)
  by_cases e0 : cr k = 0
  · rw [if_pos (by rw [e0]; rfl), if_pos (by rw [(pop_crew hck).mpr e0]; rfl)]
    exact ⟨_, _, _, rfl, rfl, h⟩
  · have n1 : ¬ nI (cr k) = 0 := by rw [show (0 : Int32) = nI 0 from rfl, z_eq (by omega) (by omega)]; exact e0
    have n2 : ¬ nI (pop (sit (cr k) 0) + pop (sit (cr k) 1) + pop (sit (cr k) 2)) = 0 := by rw [show (0 : Int32) = nI 0 from rfl, z_eq (by omega) (by omega), pop_crew hck]; exact e0
    rw [if_neg n1, if_neg n2]
    rcases y_lev c2 c1 hck with ⟨a1, a2⟩ | ⟨a1, a2⟩
    · rcases y_levM c3 c1 (s0 := sit (cr k) 0) (s1 := sit (cr k) 1) (s2 := sit (cr k) 2) (by omega) (by omega) (by omega) 0 with ⟨b1, b2⟩ | ⟨b1, b2⟩
      · rw [a2, b2, Option.bind_some, Option.bind_some, if_neg i10, if_neg i10]
        by_cases k8 : k = 8
        · subst k8
          rw [l2, l3, if_neg (show ¬ nI 8 < 8 by decide), if_pos (show nI 8 = 8 by decide)]
          exact ⟨_, _, _, rfl, rfl, h⟩
        · have hk : k < 8 := by omega
          have n3 : nI k < 8 := by rw [show (8 : Int32) = nI 8 from rfl, z_lt (by omega) (by omega)]; exact hk
          have n4 : ¬ nI k = 8 := by rw [show (8 : Int32) = nI 8 from rfl, z_eq (by omega) (by omega)]; exact k8
          rw [l2, l3, if_pos n3, if_neg n4]
          rw [y_3p hk, show nI (3 * k) + 1 = nI (3 * k + 1) from nI_add _ 1, show nI (3 * k) + 2 = nI (3 * k + 2) from nI_add _ 2, z_chk (by omega) (by omega), z_chk (by omega) (by omega), z_chk (by omega) (by omega), nI_clamp (by omega), nI_clamp (by omega), nI_clamp (by omega), nI_1]
          have ed : f_X1_depart σ = some (up2 (up2 σ 7 3 (nI (k + 1))) 8 (k + 1) 0) := by
            unfold f_X1_depart
            rw [l2, if_neg (by rw [show (8 : Int32) = nI 8 from rfl, z_le (by omega) (by omega)]; omega), nI_1, y_setLaid (σ := up2 σ 7 3 (nI (k + 1))) (k := k + 1) (by omega) up2_s]
            rfl
          have ef : f_X0_faresOf (f_X2_forget (up2 (up2 σ 7 3 (nI (k + 1))) 8 (k + 1) 0)) (nI (mem (cr k))) = some (sumI (σ 5) (mem (cr k)) n) := y_faresX (σ := f_X2_forget (up2 (up2 σ 7 3 (nI (k + 1))) 8 (k + 1) 0)) c2 c1 (by have := mem_lt (cr k); omega)
          rw [ed, Option.bind_some, y_mem hck, ef, Option.bind_some]
          have := fuel_ge
          obtain ⟨τ2, t1, t2, t3, t4⟩ := y_leaveL c1 fuel 0 (up2 (up2 (up2 (up2 τ 9 (3 * k) (nI (sit (cr k) 0))) 9 (3 * k + 1) (nI (sit (cr k) 1))) 9 (3 * k + 2) (nI (sit (cr k) 2))) 0 14 (nI (k + 1))) c3 (by omega) (by omega)
          rw [show (nI 0 : Int32) = 0 from rfl] at t1
          rw [t1, Option.bind_some, z_or, z_or, y_faresM (τ := τ2) (by rw [t2 0 (by omega)]; exact c3) c1 (show sit (cr k) 0 ||| sit (cr k) 1 ||| sit (cr k) 2 < 2 ^ 31 by have := mem_lt (cr k); unfold mem at this; omega), Option.bind_some]
          refine ⟨_, _, τ2, rfl, ?_, ?_⟩
          · rw [t2 4 (by omega)]
            show some (sumI (fun p => τ 4 (3 * p + 1)) (mem (cr k)) n, τ2) = _
            rw [far_rel hC]
          · have u9 : ∀ i, τ2 9 i = up2 (up2 (up2 τ 9 (3 * k) (nI (sit (cr k) 0))) 9 (3 * k + 1) (nI (sit (cr k) 1))) 9 (3 * k + 2) (nI (sit (cr k) 2)) 9 i := fun i => by rw [t2 9 (by omega)]; rfl
            refine ⟨n, k + 1, va_up cr (k + 1) 0, ?_, ?_, ⟨by omega, rfl, by rw [t2 0 (by omega)]; rfl, l4, by rw [t2 0 (by omega)]; exact l5, ⟨fun j hj => ?_, fun j e p hj he hp hb => ?_, fun j e j' e' p hj hj' he he' hp hb hb' => ?_⟩, fun j hj => ?_, fun p hp => ?_, fun p hp => ?_, fun j e hj he => ?_, fun p hp => ?_⟩, ?_, ?_, fun Wa hWa => PlR.forget (σ := up2 (up2 σ 7 3 (nI (k + 1))) 8 (k + 1) 0) (Wa := Wa) ?_ Wa⟩
            · unfold TxR at *
              rw [t2 0 (by omega), t2 8 (by omega)]
              exact hT
            · unfold CrR at *
              rw [t2 0 (by omega), t2 3 (by omega), t2 4 (by omega)]
              exact hC
            · by_cases z : j = k + 1
              · subst z; rw [upS]; omega
              · rw [upN z]; exact l6.1 j (by omega)
            · by_cases z : j = k + 1
              · subst z; rw [upS, Nat.zero_testBit] at hb; cases hb
              · rw [upN z] at hb; exact l6.2.1 j e p (by omega) he hp hb
            · by_cases z : j = k + 1
              · subst z; rw [upS, Nat.zero_testBit] at hb; cases hb
              · by_cases z' : j' = k + 1
                · subst z'; rw [upS, Nat.zero_testBit] at hb'; cases hb'
                · rw [upN z] at hb; rw [upN z'] at hb'
                  exact l6.2.2 j e j' e' p (by omega) (by omega) he he' hp hb hb'
            · show up2 (up2 σ 7 3 (nI (k + 1))) 8 (k + 1) 0 8 j = _
              by_cases z : j = k + 1
              · subst z; rw [up2_s, upS]; rfl
              · rw [up2_i z, upN z]; exact l7 j (by omega)
            · rw [t2 5 (by omega)]; exact l8 p hp
            · rw [t2 6 (by omega)]; exact l9 p hp
            · rw [u9, upN (by omega)]
              by_cases z : j = k
              · subst z
                match e, he with
                | 0, _ => rw [up2_i (by omega), up2_i (by omega), up2_at (by omega)]
                | 1, _ => rw [up2_i (by omega), up2_at (by omega)]
                | 2, _ => rw [up2_at (by omega)]
              · rw [up2_i (by omega), up2_i (by omega), up2_i (by omega)]
                exact l10 j e (by omega) he
            · rw [t4 p (by omega) hp]
              show plR _ _ p (if 10 ≤ τ 7 p then τ 7 p else 20)
              rcases l11 p hp with ⟨⟨j, hj, e, he, hb⟩, hv⟩ | ⟨g, ⟨e, he, hb, hv⟩ | ⟨hb, hv⟩⟩
              · rw [hv]
                exact Or.inl ⟨⟨j, by omega, e, he, by rw [upN (by omega)]; exact hb⟩, rfl⟩
              · rw [hv, if_neg (by rw [show (10 : Int32) = nI 10 from rfl, z_le (by omega) (by omega)]; omega)]
                exact Or.inl ⟨⟨k, by omega, e, he, by rw [upN (by omega)]; exact hb⟩, rfl⟩
              · rw [hv, if_pos (by decide)]
                refine Or.inr ⟨?_, Or.inr ⟨fun e he => by rw [upS, Nat.zero_testBit], rfl⟩⟩
                rintro ⟨j, hj, e, he, hb'⟩
                rw [upN (by omega)] at hb'
                by_cases z : j = k
                · subst z; rw [hb e he] at hb'; cases hb'
                · exact g ⟨j, by omega, e, he, hb'⟩
            · rw [t2 14 (by omega), t2 15 (by omega), t2 16 (by omega), t2 17 (by omega), t2 18 (by omega), t2 19 (by omega)]
              exact hK0
            · rw [t2 14 (by omega), t2 15 (by omega), t2 16 (by omega), t2 17 (by omega), t2 18 (by omega), t2 19 (by omega)]
              exact hK1
            · have hp := hP _ (waN_is (n := n) (k := k) (cr := cr) c1)
              exact ⟨hp.1, hp.2.1, hp.2.2.1⟩
      · exact absurd ((lev_rel hW _ _ _).mpr a1) b1
    · rcases y_levM c3 c1 (s0 := sit (cr k) 0) (s1 := sit (cr k) 1) (s2 := sit (cr k) 2) (by omega) (by omega) (by omega) 0 with ⟨b1, b2⟩ | ⟨b1, b2⟩
      · exact absurd ((lev_rel hW _ _ _).mp b1) a1
      · rw [a2, b2, Option.bind_some, Option.bind_some, if_pos rfl, if_pos rfl]
        exact ⟨_, _, _, rfl, rfl, h⟩
