/-! pure: the boatman's rule -/
theorem InvW_M {n k : Nat} {cr : Nat → Nat} {σ τ τ' : St} (h : InvW n k cr σ τ) (h5 : τ' 0 5 = τ 0 5) (h9 : τ' 0 9 = τ 0 9) (h11 : τ' 0 11 = τ 0 11) (h14 : τ' 0 14 = τ 0 14) (hr : ∀ x, 3 ≤ x → x < 10 → τ' x = τ x) (hk : ∀ x, 14 ≤ x → τ' x = τ x) : InvW n k cr σ τ' := by
  obtain ⟨hT, hC, hL, hK0, hK1, hP⟩ := h
  refine ⟨?_, ?_, ?_, ?_, ?_, hP⟩
  · unfold TxR at *
    rw [h11, hr 8 (by omega) (by omega)]
    exact hT
  · unfold CrR at *
    rw [h5, hr 3 (by omega) (by omega), hr 4 (by omega) (by omega)]
    exact hC
  · rw [hr 7 (by omega) (by omega), hr 5 (by omega) (by omega), hr 6 (by omega) (by omega), hr 9 (by omega) (by omega), h14, h9]
    exact hL
  · rw [hk 14 (by omega), hk 15 (by omega), hk 16 (by omega), hk 17 (by omega), hk 18 (by omega), hk 19 (by omega)]
    exact hK0
  · rw [hk 14 (by omega), hk 15 (by omega), hk 16 (by omega), hk 17 (by omega), hk 18 (by omega), hk 19 (by omega)]
    exact hK1
theorem InvW_10 {n k : Nat} {cr : Nat → Nat} {σ τ : St} (h : InvW n k cr σ τ) (i : Nat) (v : Int32) : InvW n k cr σ (up2 τ 10 i v) :=
  InvW_M h rfl rfl rfl rfl (fun x h1 h2 => up2_c (by omega)) (fun x h1 => up2_c (by omega))
theorem sit_or {c e p e' : Nat} (he : e < 3) (he' : e' < 3) (hp : p < 8) : sit (c ||| 2 ^ (8 * e + p)) e' = if e' = e then sit c e ||| 2 ^ p else sit c e' := by
  refine tb_ext (fun i => ?_)
  rw [sit_tb, Nat.testBit_or, tb_one]
  by_cases z : e' = e
  · subst z
    rw [if_pos rfl, Nat.testBit_or, sit_tb, tb_one]
    by_cases hi : i < 8
    · have : decide (8 * e' + i = 8 * e' + p) = decide (i = p) := by
        by_cases q : i = p
        · simp [q]
        · simp [q]
      rw [this]; simp [hi]
    · have : decide (i = p) = false := by simp; omega
      rw [this]; simp [hi]
  · rw [if_neg z, sit_tb]
    by_cases hi : i < 8
    · have : decide (8 * e' + i = 8 * e + p) = false := by simp; omega
      rw [this, Bool.or_false]
    · simp [hi]
theorem y_ends {σ : St} {n : Nat} {τ : St} (hC : CrR n σ τ) : ∃ en, 2 ≤ en ∧ en ≤ 3 ∧ σ 3 0 = nI en ∧ τ 3 0 = nI en := by
  obtain ⟨c1, c2, c3, ⟨en, z1, z2, z3⟩, c5, c6, c7, c8, c9, c10⟩ := hC
  exact ⟨en, z1, z2, z3, by rw [c9 0 (by omega), z3]⟩
theorem y_armX {σ : St} {en e : Nat} (z3 : σ 3 0 = nI en) (h2 : 2 ≤ en) (h3 : en ≤ 3) (he : e < en) : f_X0_armOf σ (nI e) = if en = 3 then 1 else σ 3 (1 + e) := by
  unfold f_X0_armOf
  rw [z3]
  by_cases q : en = 3
  · subst q
    rw [if_neg (by decide), if_pos rfl]
  · have : en = 2 := by omega
    subst this
    rw [if_pos (show nI 2 = 2 from rfl), if_neg q]
    match e, he with
    | 0, _ => rfl
    | 1, _ => rfl
theorem y_light {n k : Nat} {cr : Nat → Nat} {σ τ : St} {c p en : Nat} (h : InvW n k cr σ τ) (z3 : σ 3 0 = nI en) (h2 : 2 ≤ en) (h3 : en ≤ 3) (hc : c < 2 ^ 24) (hs : ∀ e, e < 3 → τ 10 e = nI (sit c e)) (hp : p < n) (hg : ¬ τ 7 p = 20) : ∀ (N e : Nat) (y t : Int32), e ≤ en → en < N + e → (y = -9 ∨ ∃ i, i < en ∧ y = nI i) → ∃ r, (r = -9 ∨ ∃ i, i < en ∧ r = nI i) ∧ f_X4_lightestEnd_L9 σ (nI c) (nI p) N y t (nI e) = some r ∧ f_X5_layRule_L39 τ (nI p) N y t (nI e) = some r := by
  obtain ⟨hT, ⟨c1, c2, c3, c4, c5, c6, c7, c8, c9, c10⟩, hL, -⟩ := id h
  have z4 : τ 3 0 = nI en := by rw [c9 0 (by omega), z3]
  intro N
  induction N with
  | zero => intro e y t h4 h5; omega
  | succ N ih =>
    intro e y t h4 h5 hy
    rw [f_X4_lightestEnd_L9, f_X5_layRule_L39, z3, z4]
    by_cases q : en ≤ e
    · rw [if_pos (nI_le q (by omega)), if_pos (nI_le q (by omega))]
      exact ⟨y, hy, rfl, rfl⟩
    have hsl := sit_lt c e
    rw [if_neg (nI_ge (by omega) (by omega)), if_neg (nI_ge (by omega) (by omega)), z_chk (by omega) (by omega), nI_clamp (by omega), if_neg hg, z_chk (by omega) (by omega), nI_clamp (by omega), hs e (by omega), y_heavy c3 c1 (by omega) (by omega), Option.bind_some, LD_rel h, c9 4 (by omega), y_sit hc (by omega), y_bcs hsl]
    have key : ∀ a : Int32, a = f_X0_armOf σ (nI e) → ∃ r, (r = -9 ∨ ∃ i, i < en ∧ r = nI i) ∧ (if σ 3 3 ≤ nI (pop (sit c e)) then f_X4_lightestEnd_J45_9 σ (nI c) (nI p) y t (nI e) 0 (f_X4_lightestEnd_L9 σ (nI c) (nI p) N) else f_X4_lightestEnd_J45_9 σ (nI c) (nI p) y t (nI e) 1 (f_X4_lightestEnd_L9 σ (nI c) (nI p) N)) = some r ∧ f_X5_layRule_J99_39 τ (nI p) y t (nI e) (LD (liI e (σ 3 4)) (σ 4) (σ 9) 0 (sit c e) n) a (f_X5_layRule_L39 τ (nI p) N) = some r := by
      intro a ha
      unfold f_X4_lightestEnd_J45_9 f_X5_layRule_J99_39 f_X5_layRule_J147_39 f_X5_layRule_J143_39 f_X5_layRule_J148_39 f_X5_layRule_J161_39
      rw [y_willX c2 c1 z3 h3 hp (by omega), y_willM (by omega), (c10 p hp).2.2.2.2.2, y_load c2 c1 hc (by omega), z_chk (by omega) (by omega), nI_clamp (by omega), hs e (by omega), y_ones (by omega), c9 3 (by omega), ha, Int32.mul_comm (LD _ _ _ _ _ _)]
      simp only [Option.bind_some, if_pos, if_neg i10, nI_1]
      have r0 := ih (e + 1) y t (by omega) (by omega) hy
      have r1 := ih (e + 1) (nI e) (f_X0_armOf σ (nI e) * LD (liI e (σ 3 4)) (σ 4) (σ 9) 0 (sit c e) n) (by omega) (by omega) (Or.inr ⟨e, by omega, rfl⟩)
      by_cases ss : σ 3 3 ≤ nI (pop (sit c e))
      · simp only [if_pos ss]
        by_cases ws : σ 6 p = 3 ∨ σ 6 p = nI e
        · simp only [if_pos ws, if_neg i10]
          exact r0
        · simp only [if_neg ws, if_pos]
          exact r0
      · simp only [if_neg ss]
        by_cases ws : σ 6 p = 3 ∨ σ 6 p = nI e
        · simp only [if_pos ws, if_neg i10]
          by_cases y9 : y = -9
          · simp only [if_pos y9]
            exact r1
          · simp only [if_neg y9]
            by_cases tt : t ≤ f_X0_armOf σ (nI e) * LD (liI e (σ 3 4)) (σ 4) (σ 9) 0 (sit c e) n
            · simp only [if_pos tt]
              exact r0
            · simp only [if_neg tt]
              exact r1
        · simp only [if_neg ws, if_pos]
          exact r0
    have hax := y_armX z3 h2 h3 (show e < en by omega)
    by_cases q3 : en = 3
    · have n3 : nI en = 3 := by rw [q3]; rfl
      rw [if_pos n3]
      exact key 1 (by rw [hax, if_pos q3])
    · have n3 : ¬ nI en = 3 := by rw [show (3 : Int32) = nI 3 from rfl, z_eq (by omega) (by omega)]; exact q3
      rw [if_neg n3, show (1 : Int32) + nI e = nI (1 + e) from nI_add 1 e, z_chk (by omega) (by omega), nI_clamp (by omega), c9 (1 + e) (by omega)]
      exact key _ (by rw [hax, if_neg q3])
theorem y_ruleL {n k : Nat} {cr : Nat → Nat} {σ : St} : ∀ (N p c : Nat) (τ : St), InvW n k cr σ τ → c < 2 ^ 24 → (∀ e, e < 3 → τ 10 e = nI (sit c e)) → p ≤ n → n < N + p → ∃ c2 τ2, c2 < 2 ^ 24 ∧ InvW n k cr σ τ2 ∧ (∀ e, e < 3 → τ2 10 e = nI (sit c2 e)) ∧ f_X4_crewByRule_L12 σ (nI (goneN cr k)) N (nI c) (nI p) = some (nI c2) ∧ f_X5_layRule_L23 N τ (nI p) = some τ2 := by
  intro N
  induction N with
  | zero => intro p c τ h hc hs h1 h2; omega
  | succ N ih =>
    intro p c τ h hc hs h1 h2
    obtain ⟨hT, hC, hL, -⟩ := id h
    obtain ⟨en, e1, e2, z3, z4⟩ := y_ends hC
    obtain ⟨c1, c2, c3, -⟩ := hC
    obtain ⟨l1, l2, l3, l4, l5, l6, l7, l8, l9, l10, l11⟩ := hL
    have := fuel_ge
    have hgl := goneN_lt cr k
    rw [f_X4_crewByRule_L12, f_X5_layRule_L23, c2, c3]
    by_cases q : n ≤ p
    · rw [if_pos (nI_le q (by omega)), if_pos (nI_le q (by omega))]
      exact ⟨c, τ, hc, h, hs, rfl, rfl⟩
    rw [if_neg (nI_ge (by omega) (by omega)), if_neg (nI_ge (by omega) (by omega)), nI_1]
    unfold f_X5_layRule_J180_23
    have hg := goneN_tb cr (show p < 8 by omega) k
    by_cases g : (goneN cr k).testBit p = true
    · have v20 : τ 7 p = 20 := by
        rcases l11 p (by omega) with ⟨_, hv⟩ | ⟨g', _⟩
        · exact hv
        · exact absurd (hg.mp g) g'
      rw [if_neg (by rw [z_bit0 (by omega) (by omega), g]; decide)]
      obtain ⟨M, hM⟩ := y_fuel 1 (by omega)
      rw [hM, f_X5_layRule_L39, z4, if_neg (show ¬ nI en ≤ 0 from nI_ge (a := 0) (b := en) (by omega) (by omega)), z_chk (by omega) (by omega), nI_clamp (by omega), if_pos v20, Option.bind_some, if_pos rfl, nI_1]
      exact ih (p + 1) c τ h hc hs (by omega) (by omega)
    · have g0 : (goneN cr k).testBit p = false := by simpa using g
      have v20 : ¬ τ 7 p = 20 := by
        rcases l11 p (by omega) with ⟨g', hv⟩ | ⟨g', ⟨e', he', hb, hv⟩ | ⟨hb, hv⟩⟩
        · exact absurd (hg.mpr g') g
        · rw [hv]; exact y_20e he'
        · rw [hv]; decide
      rw [if_pos (by rw [z_bit0 (by omega) (by omega)]; exact g0)]
      unfold f_X4_lightestEnd
      obtain ⟨r, hr, a1, a2⟩ := y_light h z3 e1 e2 hc hs (show p < n by omega) v20 fuel 0 (-9) 0 (by omega) (by omega) (Or.inl rfl)
      rw [show (nI 0 : Int32) = 0 from rfl] at a1 a2
      rw [a1, a2]
      simp only [Option.bind_some]
      rcases hr with rfl | ⟨e, he, rfl⟩
      · rw [if_pos rfl, if_pos rfl, nI_1]
        exact ih (p + 1) c τ h hc hs (by omega) (by omega)
      · have hpw : 2 ^ (8 * e + p) < 2 ^ 24 := Nat.pow_lt_pow_right (by omega) (by omega)
        rw [if_neg (y_ne9 (by omega)), if_neg (y_ne9 (by omega)), y_seat (by omega) (by omega), z_chk (by omega) (by omega), z_chk (by omega) (by omega), nI_clamp (by omega), hs e (by omega), z_shl1 (by omega), z_or, nI_1]
        refine ih (p + 1) (c ||| 2 ^ (8 * e + p)) _ (InvW_10 h _ _) (Nat.or_lt_two_pow hc hpw) (fun e' he' => ?_) (by omega) (by omega)
        rw [sit_or (by omega) he' (by omega)]
        by_cases z : e' = e
        · subst z
          rw [up2_s, if_pos rfl]
        · rw [up2_i z, if_neg z]
          exact hs e' he'
theorem y_rule {n k : Nat} {cr : Nat → Nat} {σ τ : St} (h : InvW n k cr σ τ) : ∃ c2 τ2, c2 < 2 ^ 24 ∧ InvW n k cr σ τ2 ∧ (∀ e, e < 3 → τ2 10 e = nI (sit c2 e)) ∧ f_X4_crewByRule σ = some (nI c2) ∧ f_X5_layRule τ = some τ2 := by
  obtain ⟨hT, ⟨c1, c2, c3, -⟩, hL, -⟩ := id h
  obtain ⟨l1, l2, l3, l4, l5, l6, l7, l8, l9, l10, l11⟩ := hL
  have := fuel_ge
  unfold f_X4_crewByRule f_X5_layRule
  obtain ⟨c', τ2, a1, a2, a3, a4, a5⟩ := y_ruleL (n := n) (k := k) (cr := cr) (σ := σ) fuel 0 0 (up2 (up2 (up2 τ 10 0 0) 10 1 0) 10 2 0) (InvW_10 (InvW_10 (InvW_10 h _ _) _ _) _ _) (by omega) (fun e he => by
    have : sit 0 e = 0 := by unfold sit; simp
    rw [this]
    match e, he with
    | 0, _ => rfl
    | 1, _ => rfl
    | 2, _ => rfl) (by omega) (by omega)
  rw [show (nI 0 : Int32) = 0 from rfl] at a4 a5
  rw [y_gone l1 l2 l6.1 l7, Option.bind_some, a4, a5]
  exact ⟨c', τ2, a1, a2, a3, rfl, rfl⟩
theorem sp_rule {σ τ : St} (h : Inv σ τ) : ∃ (r : Int32) (τ2 : St), f_X4_rule σ = some r ∧ f_X5_rule τ = some (r, τ2) ∧ Inv σ τ2 := by
  obtain ⟨n, k, cr, hW⟩ := id h
  obtain ⟨c, τ2, a1, a2, a3, a4, a5⟩ := y_rule hW
  obtain ⟨hT, hC, hL, -⟩ := id a2
  obtain ⟨c1, c2, c3, -⟩ := id hC
  have hm := mem_lt c
  have s0 := sit_lt c 0
  have s1 := sit_lt c 1
  have s2 := sit_lt c 2
  unfold f_X4_rule f_X5_rule
  rw [a4, a5, Option.bind_some, Option.bind_some, a3 0 (by omega), a3 1 (by omega), a3 2 (by omega), z_or, z_or, show sit c 0 ||| sit c 1 ||| sit c 2 = mem c from rfl, y_mem a1, y_faresX c2 c1 (by omega), y_faresM c3 c1 (by omega), far_rel hC]
  rcases y_lev c2 c1 a1 with ⟨d1, d2⟩ | ⟨d1, d2⟩ <;> rcases y_levM c3 c1 (s0 := sit c 0) (s1 := sit c 1) (s2 := sit c 2) (by omega) (by omega) (by omega) 0 with ⟨e1, e2⟩ | ⟨e1, e2⟩
  · rw [d2, e2]
    simp only [Option.bind_some, if_neg i10]
    exact ⟨_, τ2, rfl, rfl, n, k, cr, a2⟩
  · exact absurd ((lev_rel a2 _ _ _).mpr d1) e1
  · exact absurd ((lev_rel a2 _ _ _).mp e1) d1
  · rw [d2, e2]
    simp only [Option.bind_some, if_pos]
    exact ⟨_, τ2, rfl, rfl, n, k, cr, a2⟩
theorem y_ruleAtL {τ : St} {c p : Nat} (hc : c < 2 ^ 24) (hp : p < 8) (hs : ∀ e, e < 3 → τ 10 e = nI (sit c e)) : ∀ (N e : Nat), e ≤ 3 → 3 < N + e → ∃ r, f_X4_endOf_L2 (nI c) (nI p) N (nI e) = some r ∧ f_X5_ruleAt_L16 τ (nI p) N (nI e) = some (r, τ) := by
  intro N
  induction N with
  | zero => intro e h1 h2; omega
  | succ N ih =>
    intro e h1 h2
    rw [f_X4_endOf_L2, f_X5_ruleAt_L16, show (3 : Int32) = nI 3 from rfl]
    by_cases q : 3 ≤ e
    · rw [if_pos (nI_le q (by omega)), if_pos (nI_le q (by omega))]
      exact ⟨_, rfl, rfl⟩
    have hsl := sit_lt c e
    rw [if_neg (nI_ge (by omega) (by omega)), if_neg (nI_ge (by omega) (by omega)), z_chk (by omega) (by omega), nI_clamp (by omega), hs e (by omega), nI_1, y_sit hc (by omega)]
    by_cases b : (sit c e).testBit p = true
    · rw [if_neg (by rw [z_bit0 (by omega) (by omega), b]; decide), if_pos (by rw [z_bit1 (by omega) (by omega)]; exact b)]
      exact ⟨_, rfl, rfl⟩
    · have b0 : (sit c e).testBit p = false := by simpa using b
      rw [if_pos (by rw [z_bit0 (by omega) (by omega)]; exact b0), if_neg (by rw [z_bit1 (by omega) (by omega)]; exact b)]
      exact ih (e + 1) (by omega) (by omega)
theorem sp_ruleAt {σ τ : St} (h : Inv σ τ) (x1 : Int32) : ∃ (r : Int32) (τ2 : St), f_X4_ruleAt σ x1 = some r ∧ f_X5_ruleAt τ x1 = some (r, τ2) ∧ Inv σ τ2 := by
  obtain ⟨n, k, cr, hW⟩ := id h
  obtain ⟨c1, c2, c3, -⟩ := id hW.2.1
  have := fuel_ge
  unfold f_X4_ruleAt f_X5_ruleAt
  rcases y_pers c2 c1 x1 with ⟨p, hp, rfl, e1⟩ | ⟨q, e1⟩
  · obtain ⟨c, τ2, a1, a2, a3, a4, a5⟩ := y_rule hW
    obtain ⟨r, b1, b2⟩ := y_ruleAtL a1 (show p < 8 by omega) a3 fuel 0 (by omega) (by omega)
    rw [show (nI 0 : Int32) = 0 from rfl] at b1 b2
    rw [e1, (y_isP c3 c1 (nI p)).1 ⟨p, hp, rfl⟩, Option.bind_some, if_neg i10, if_neg i10, a4, a5, Option.bind_some, Option.bind_some, b2]
    unfold f_X4_endOf
    rw [b1]
    exact ⟨r, τ2, rfl, rfl, n, k, cr, a2⟩
  · exact ⟨-1, τ, by rw [e1, if_pos rfl], by rw [(y_isP c3 c1 x1).2 q, Option.bind_some, if_pos rfl], h⟩
