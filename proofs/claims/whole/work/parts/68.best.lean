/-! pure: findChoices; best, bestAt -/
theorem Fe_spec {σ ρ : St} (f : Fe σ ρ) : pP ρ = pP σ ∧ armP ρ = armP σ ∧ liP ρ = liP σ ∧ w0P ρ = w0P σ ∧ w1P ρ = w1P σ ∧ farP ρ = farP σ ∧ keyP ρ = keyP σ ∧ openP ρ = openP σ ∧ chP ρ = chP σ ∧ canP ρ = canP σ ∧ bestP ρ = bestP σ ∧ mostP ρ = mostP σ ∧ makeP ρ = makeP σ := by
  obtain ⟨h3, h4, h5, h6, h7, h9⟩ := f
  have e1 : pP ρ = pP σ := by unfold pP; rw [h3]
  have e2 : eP ρ = eP σ := by unfold eP; rw [h3]
  have e3 : sP ρ = sP σ := by unfold sP; rw [h3]
  have e4 : armP ρ = armP σ := by funext e; unfold armP; rw [e2, h3]
  have e5 : willP ρ = willP σ := by funext e p; unfold willP; rw [e2, h6]
  have e6 : w0P ρ = w0P σ := by funext p; unfold w0P; rw [h4]
  have e7 : w1P ρ = w1P σ := by funext p; unfold w1P; rw [h4, h9, h7]
  have e8 : frP ρ = frP σ := by funext p; unfold frP; rw [h5]
  have e9 : liP ρ = liP σ := by funext p; unfold liP; rw [h3]
  have e10 : pullP ρ = pullP σ := by funext t e s; unfold pullP; rw [e4, e9, e6, e7, e1]
  have e11 : openP ρ = openP σ := by funext a e; unfold openP; rw [e5, e1]
  have e12 : okP ρ = okP σ := by funext a c; unfold okP; rw [e1, e3, e5]
  have e13 : levP ρ = levP σ := by funext c; unfold levP; rw [e10, e1, e2]
  have e14 : chP ρ = chP σ := by funext a c; unfold chP; rw [e12, e13]
  have e15 : canP ρ = canP σ := by funext a c; unfold canP; rw [e14, e1]
  have e16 : farP ρ = farP σ := by funext a; unfold farP; rw [e8, e1]
  have e17 : keyP ρ = keyP σ := by funext a; unfold keyP; rw [e16, e1]
  have e18 : bestP ρ = bestP σ := by funext a c; unfold bestP; rw [e14, e17]
  have e19 : mostP ρ = mostP σ := by funext a c; unfold mostP; rw [e14, e16, e1]
  have e20 : mkP ρ = mkP σ := by funext a b c; unfold mkP; rw [e2, e4, e10, e1]
  have e21 : makeP ρ = makeP σ := by funext a b c; unfold makeP; rw [e12, e2, e1, e3, e20, e16]
  exact ⟨e1, e4, e9, e6, e7, e16, e17, e11, e14, e15, e18, e19, e21⟩
theorem InvW_X {n k : Nat} {cr : Nat → Nat} {σ ρ τ : St} (h : InvW n k cr σ τ) (hx : ∀ x, x < 19 → ρ x = σ x) (hP : PlR ρ (waN n cr k)) : InvW n k cr ρ τ := by
  obtain ⟨hT, hC, hL, hK0, hK1, -⟩ := h
  refine ⟨?_, ?_, ?_, ?_, ?_, fun Wa hW => ?_⟩
  · unfold TxR at *
    rw [hx 1 (by omega), hx 2 (by omega)]
    exact hT
  · unfold CrR at *
    rw [hx 3 (by omega), hx 4 (by omega), hx 5 (by omega), hx 6 (by omega)]
    exact hC
  · unfold LgR at *
    rw [hx 7 (by omega), hx (7 + 1) (by omega), hx (7 + 2) (by omega), hx (7 + 3) (by omega)]
    exact hL
  · unfold KpR LgR at *
    rw [hx 11 (by omega), hx (11 + 1) (by omega), hx (11 + 2) (by omega), hx (11 + 3) (by omega)]
    exact hK0
  · unfold KpR LgR at *
    rw [hx 15 (by omega), hx (15 + 1) (by omega), hx (15 + 2) (by omega), hx (15 + 3) (by omega)]
    exact hK1
  · rw [isWa_u hC.1 hW]
    exact hP
theorem can_pos {σ : St} {n Wa s : Nat} (hS : Sx n σ) (h : canP σ Wa s) : 0 < s ∧ s < 2 ^ n := by
  obtain ⟨c, c1, c2⟩ := h
  rw [Sx_p hS] at c2
  have hc4 := c1.1.2.1
  rw [Sx_p hS] at hc4
  have := allE_lt n c
  refine ⟨?_, by omega⟩
  by_cases q : s = 0
  · rw [q] at c2
    have := allE_0 hc4 c2
    have := c1.1.1
    omega
  · omega
noncomputable def fNew (σ : St) (Wa s : Nat) : Nat := @ite Nat (canP σ Wa s) (Classical.propDecidable _) 1 (if s = 0 then 0 else 99)
theorem y_find {n k : Nat} {cr : Nat → Nat} {σ τ : St} (h : InvW n k cr σ τ) : ∃ ρ, f_X2_findChoices σ = some ρ ∧ InvW n k cr ρ τ ∧ ρ 19 14 = 1 := by
  have hS := Sx_of h
  have h8 := hS.1
  obtain ⟨hz1, hz2, hz3⟩ := Sx_e hS
  obtain ⟨s1, s2, s3⟩ := Sx_s hS
  have hPl := h.2.2.2.2.2 (waN n cr k) (waN_is h8)
  obtain ⟨o1, o2, o3, hPl⟩ := hPl
  unfold f_X2_findChoices
  rcases hPl with ⟨p1, p2, p3⟩ | ⟨p1, -⟩
  · rw [if_pos p1]
    obtain ⟨ρ1, a1, a2, a3, a4, a5, a6, a7, a8⟩ := y_prep h
    rw [a1, Option.bind_some]
    have fe1 : Fe σ ρ1 := Fe_of (fun x hx => a2 x (by omega) (by omega) (by omega) (by omega))
    obtain ⟨ρ2, b1, b2, b3, b4⟩ := y_weigh hS fe1 ⟨by rw [a2 20 (by omega) (by omega) (by omega) (by omega)]; exact o1, by rw [a2 21 (by omega) (by omega) (by omega) (by omega)]; exact o2, by rw [a2 22 (by omega) (by omega) (by omega) (by omega)]; exact o3⟩
    rw [b1, Option.bind_some]
    have q19 : ρ2 19 = ρ1 19 := b2 19 (by omega) (by omega) (by omega) (by omega)
    have e8 : ρ2 19 8 - 1 = nI (eP σ - 1) := by
      rw [q19, a3, hz1]
      exact pk_sub (a := eP σ) (b := 1) (by omega)
    rw [e8]
    have hX : SPX σ (waN n cr k) n (up2 (up2 ρ2 19 12 (-1)) 19 13 0) := by
      refine ⟨?_, ?_, fun e he => ?_, b3⟩
      · show ρ2 19 8 = _
        rw [q19, a3, hz1]
      · show ρ2 19 9 = _
        rw [q19, a4, s1]
      · unfold hdX
        show ρ2 25 e = _ ∧ ρ2 26 e = _ ∧ ρ2 27 e = _
        rw [b2 25 (by omega) (by omega) (by omega) (by omega), b2 26 (by omega) (by omega) (by omega) (by omega), b2 27 (by omega) (by omega) (by omega) (by omega)]
        exact a8 e he
    obtain ⟨ρ3, c1, c2, c3⟩ := y_search hS hX (Md0 hS hX) (show eP σ - 1 < eP σ by omega) (up2 (up2 ρ2 19 12 (-1)) 19 13 0) ⟨fun _ _ _ _ => rfl, fun _ _ _ => rfl⟩ ⟨Or.inl ⟨rfl, rfl, fun _ z => z.elim⟩, fun s hs => Or.inr ⟨fun ⟨_, z, _⟩ => z, b4 s hs⟩⟩
    rw [show (nI 0 : Int32) = 0 from rfl] at c1
    rw [c1, Option.bind_some]
    have lo : ∀ x, x < 19 → up2 ρ3 19 14 1 x = σ x := fun x hx => by
      rw [up2_c (by omega), c2.1 x (by omega) (by omega) (by omega), up2_c (by omega), up2_c (by omega), b2 x (by omega) (by omega) (by omega) (by omega), a2 x (by omega) (by omega) (by omega) (by omega)]
    have fe : Fe σ (up2 ρ3 19 14 1) := Fe_of lo
    have j19 : ∀ j, j ≠ 12 → j ≠ 13 → j ≠ 14 → up2 ρ3 19 14 1 19 j = ρ1 19 j := fun j x y z => by
      rw [up2_i z, c2.2 j x y, up2_i y, up2_i x, q19]
    have hX4 := hX.fr c2
    obtain ⟨t1, t2, t3, t4, t5, t6, t7, t8, t9, t10, t11, t12, t13⟩ := Fe_spec fe
    have l0 := hX4.2.2.2 0 (Nat.two_pow_pos n)
    have s0 : ∀ f : Nat → Nat, ∀ m, sumN f 0 m = 0 := fun f m => by
      induction m with
      | zero => rfl
      | succ m ih => rw [sumN, ih, Nat.zero_testBit]; rfl
    refine ⟨up2 ρ3 19 14 1, rfl, InvW_X h lo ⟨?_, ?_, ?_, Or.inr ⟨up2_s, ?_, ?_, ⟨fNew σ (waN n cr k), ⟨fun s hs => ?_, ?_⟩, Or.inl ⟨?_, fun s hs hs2 => ?_⟩⟩, Or.inl ?_⟩⟩, up2_s⟩
    · show ρ3 20 0 = 0
      rw [l0.1, s0, s0]; rfl
    · show ρ3 21 0 = 0
      rw [l0.2.1]
      unfold farP
      rw [s0]; rfl
    · show ρ3 22 0 = 0
      rw [l0.2.2]; rfl
    · unfold plOK
      rw [t1, t2, t3, t4, t5, t6, t8, Sx_p hS, j19 8 (by omega) (by omega) (by omega), j19 9 (by omega) (by omega) (by omega), j19 10 (by omega) (by omega) (by omega), j19 11 (by omega) (by omega) (by omega), lo 3 (by omega)]
      exact ⟨a3, a4, a5, a6, hX4.2.2.1, hX4.2.2.2⟩
    · unfold plBest
      rw [t1, t7, t9, t11, Sx_p hS, up2_i (by omega), up2_i (by omega)]
      rcases c3.1 with ⟨x1, x2, x3⟩ | ⟨b, x1, x2, x3, x4, x5⟩
      · exact Or.inl ⟨x1, x2, fun c => x3 c trivial⟩
      · exact Or.inr ⟨b, ⟨x2, fun c => x3 c trivial⟩, x4, x5⟩
    · rw [t10]
      show ρ3 23 s = _ ∧ _
      unfold fNew
      have cs := c3.2 s hs
      have ce : canP σ (waN n cr k) s ↔ ∃ c, True ∧ chP σ (waN n cr k) c ∧ allE n c = s := by
        unfold canP
        rw [Sx_p hS]
        exact ⟨fun ⟨c, a, b⟩ => ⟨c, trivial, a, b⟩, fun ⟨c, _, a, b⟩ => ⟨c, a, b⟩⟩
      rcases cs with ⟨x1, x2⟩ | ⟨x1, x2⟩
      · rw [if_pos (ce.mpr x1), x2]
        exact ⟨rfl, by omega, ⟨fun _ => ce.mpr x1, fun _ => rfl⟩⟩
      · have nc : ¬ canP σ (waN n cr k) s := fun z => x1 (ce.mp z)
        rw [if_neg nc, x2]
        by_cases z : s = 0
        · rw [if_pos z, if_pos z]
          exact ⟨rfl, by omega, ⟨fun w => by omega, fun w => absurd w nc⟩⟩
        · rw [if_neg z, if_neg z]
          exact ⟨rfl, by omega, ⟨fun w => by omega, fun w => absurd w nc⟩⟩
    · unfold fNew
      rw [if_neg (fun z => by have := (can_pos hS z).1; omega), if_pos rfl]
    · rw [j19 15 (by omega) (by omega) (by omega), a7 15 (by omega)]
      exact p2
    · unfold fNew
      by_cases z : canP σ (waN n cr k) s
      · rw [if_pos z]; exact Or.inl rfl
      · rw [if_neg z, if_neg (by omega)]; exact Or.inr rfl
    · rw [j19 16 (by omega) (by omega) (by omega), a7 16 (by omega)]
      exact p3
  · rw [p1, if_neg i10]
    exact ⟨σ, rfl, h, p1⟩
/-- what the planner holds, once it has searched -/
theorem Pl_get {n k : Nat} {cr : Nat → Nat} {ρ τ : St} (h : InvW n k cr ρ τ) (h1 : ρ 19 14 = 1) : plOK ρ (waN n cr k) ∧ plBest ρ (waN n cr k) ∧ (∃ f, plFew ρ (waN n cr k) f ∧ ((ρ 19 15 = 0 ∧ plNew f) ∨ (ρ 19 15 = 1 ∧ plChain (pP ρ) f))) ∧ (ρ 19 16 = 0 ∨ (ρ 19 16 = 1 ∧ plMake ρ (waN n cr k))) := by
  obtain ⟨-, -, -, hP⟩ := h.2.2.2.2.2 (waN n cr k) (waN_is h.2.1.1)
  rcases hP with ⟨a, -⟩ | ⟨-, a⟩
  · rw [h1] at a; exact absurd a i10
  · exact a
theorem best_u {σ : St} {Wa b b' : Nat} (h : bestP σ Wa b) (h' : bestP σ Wa b') : b = b' := by
  have x := h.2 b' h'.1
  have y := h'.2 b h.1
  omega
theorem y_bestF {σ : St} {n Wa : Nat} {ρ : St} (hS : Sx n σ) {b : Nat} (h : ρ 19 12 = nI (keyP σ b)) : f_X2_hasChoice ρ = 1 ∧ f_X2_bestFares ρ = nI (farP σ (allE n b)) := by
  have ek : keyP σ b = farP σ (allE n b) * 16 + pop (allE n b) := by unfold keyP; rw [Sx_p hS]
  have hf := (Sx_far hS (allE n b)).1
  have lp := pop_le (allE n b)
  have n1 : ¬ nI (keyP σ b) = -1 := by
    intro z
    have a := nI_toInt (n := keyP σ b) (by omega)
    rw [z] at a
    have c : (-1 : Int32).toInt = -1 := by decide
    omega
  have e1 : f_X2_hasChoice ρ = 1 := by
    unfold f_X2_hasChoice
    rw [h, if_neg n1]
  refine ⟨e1, ?_⟩
  unfold f_X2_bestFares
  rw [e1, if_neg i10, h]
  have := pk_div (a := keyP σ b) (d := 16) (by omega) (by omega) (by omega)
  rw [show keyP σ b / 16 = farP σ (allE n b) by omega] at this
  exact this
theorem y_bestN {ρ : St} (h : ρ 19 12 = -1) : f_X2_hasChoice ρ = 0 ∧ f_X2_bestFares ρ = 0 := by
  have e : f_X2_hasChoice ρ = 0 := by unfold f_X2_hasChoice; rw [h, if_pos rfl]
  refine ⟨e, ?_⟩
  unfold f_X2_bestFares
  rw [e, if_pos rfl]
theorem y_waitW {n k : Nat} {cr : Nat → Nat} {σ τ : St} (h : InvW n k cr σ τ) : f_X5_waiting τ = some (nI (waN n cr k)) :=
  y_waitM h.2.1.2.2.1 h.2.1.1 h.2.2.1.2.2.2.2.2.1 h.2.2.1.2.2.2.2.2.2.2.2.2.2
theorem sp_best {σ τ : St} (h : Inv σ τ) : ∃ (r : Int32) (σ2 : St) (τ2 : St), f_X4_best σ = some (r, σ2) ∧ f_X5_best τ = some (r, τ2) ∧ Inv σ2 τ2 := by
  obtain ⟨n, k, cr, hW⟩ := id h
  obtain ⟨ρ, a1, a2, a3⟩ := y_find hW
  obtain ⟨g1, g2, -⟩ := Pl_get a2 a3
  obtain ⟨τ2, b1, b2, b3⟩ := y_choices a2 (waN_lt n cr k)
  have hS := Sx_of a2
  unfold f_X4_best f_X5_best
  rw [a1, Option.bind_some, y_waitW hW, Option.bind_some, b1, Option.bind_some]
  rcases g2 with ⟨x1, x2, x3⟩ | ⟨b, x1, x2, x3⟩
  · rw [(y_bestN x1).1, if_pos rfl]
    rcases b3.1 with ⟨y1, y2, y3⟩ | ⟨b', y1, y2, y3⟩
    · rw [y1]
      exact ⟨-9, ρ, τ2, rfl, rfl, n, k, cr, b2⟩
    · exact absurd y1.1 (x3 b')
  · have hb := y_bestF (Wa := 0) (ρ := ρ) hS x2
    rw [hb.1, if_neg i10, hb.2]
    rcases b3.1 with ⟨y1, y2, y3⟩ | ⟨b', y1, y2, y3⟩
    · exact absurd x1.1 (y3 b)
    · rw [y2, best_u x1 y1]
      exact ⟨_, ρ, τ2, rfl, rfl, n, k, cr, b2⟩
theorem y_endC {n b p : Nat} (h8 : n ≤ 8) (hp : p < n) (hb : b < 4 ^ n) : f_X4_endOf (nI (crewC n b)) (nI p) = some (if 0 ≤ nI (dig n b p) - 1 then nI (dig n b p) - 1 else -9) := by
  have hd := dig_lt n b p
  have tb : ∀ e, e < 3 → (crewC n b).testBit (8 * e + p) = decide (dig n b p = e + 1) := fun e he => by
    rw [crewC_tb h8 b e p he (by omega), atE_tb]; simp [hp]
  rcases y_endOf (c := crewC n b) (p := p) (crewC_lt h8 b) (by omega) with ⟨e, he, h1, h2⟩ | ⟨h1, h2⟩
  · rw [tb e he, decide_eq_true_eq] at h1
    rw [h2, h1, show nI (e + 1) - 1 = nI e from pk_sub (a := e + 1) (b := 1) (by omega), if_pos (show 0 ≤ nI e from nI_le (a := 0) (by omega) (by omega))]
  · have d0 : dig n b p = 0 := by
      have t0 := h1 0 (by omega)
      have t1 := h1 1 (by omega)
      have t2 := h1 2 (by omega)
      rw [tb _ (by omega), decide_eq_false_iff_not] at t0 t1 t2
      omega
    rw [h2, d0, y_neg1, if_neg (by decide)]
theorem crewC_0 (n : Nat) : crewC n 0 = 0 := by
  have : ∀ e, atE n 0 e = 0 := fun e => by
    refine tb_ext (fun i => ?_)
    rw [atE_tb, Nat.zero_testBit]
    have : dig n 0 i = 0 := by unfold dig; simp
    rw [this]; simp
  unfold crewC
  rw [this, this, this]
theorem sp_bestAt {σ τ : St} (h : Inv σ τ) (x1 : Int32) : ∃ (r : Int32) (σ2 : St) (τ2 : St), f_X4_bestAt σ x1 = some (r, σ2) ∧ f_X5_bestAt τ x1 = some (r, τ2) ∧ Inv σ2 τ2 := by
  obtain ⟨n, k, cr, hW⟩ := id h
  obtain ⟨c1, c2, c3, -⟩ := id hW.2.1
  unfold f_X4_bestAt f_X5_bestAt
  rcases y_pers c2 c1 x1 with ⟨p, hp, rfl, e1⟩ | ⟨q, e1⟩
  · obtain ⟨ρ, a1, a2, a3⟩ := y_find hW
    obtain ⟨g1, g2, -⟩ := Pl_get a2 a3
    obtain ⟨τ2, b1, b2, b3⟩ := y_choices a2 (waN_lt n cr k)
    have hS := Sx_of a2
    rw [e1, (y_isP c3 c1 (nI p)).1 ⟨p, hp, rfl⟩, Option.bind_some, if_neg i10, if_neg i10, a1, Option.bind_some, y_waitW hW, Option.bind_some, b1, Option.bind_some]
    have key : ∃ b, b < 4 ^ n ∧ ρ 19 13 = nI (crewC n b) ∧ τ2 0 19 = nI b := by
      rcases g2 with ⟨x1, x2, x3⟩ | ⟨b, x1, x2, x3⟩
      · rcases b3.1 with ⟨y1, y2, y3⟩ | ⟨b', y1, y2, y3⟩
        · exact ⟨0, Nat.pow_pos (by omega), by rw [x2, crewC_0]; rfl, by rw [y2]; rfl⟩
        · exact absurd y1.1 (x3 b')
      · rcases b3.1 with ⟨y1, y2, y3⟩ | ⟨b', y1, y2, y3⟩
        · exact absurd x1.1 (y3 b)
        · have hb := x1.1.1.2.1
          rw [Sx_p hS] at hb x3
          exact ⟨b, hb, x3, by rw [y3, best_u x1 y1]⟩
    obtain ⟨b, hb, x2, x3⟩ := key
    rw [x2, x3, y_endC c1 hp hb, b2.2.1.2.2.1, y_digM c1 hp hb]
    refine ⟨_, ρ, τ2, rfl, ?_, n, k, cr, b2⟩
    split <;> rfl
  · exact ⟨-1, σ, τ, by rw [e1, if_pos rfl], by rw [(y_isP c3 c1 x1).2 q, Option.bind_some, if_pos rfl], h⟩
