/-! pure: the class's search, whole; the choices -/
theorem sit_0 (e : Nat) : sit 0 e = 0 := by unfold sit; simp
theorem mem_0 : mem 0 = 0 := by unfold mem; rw [sit_0, sit_0, sit_0]; rfl
theorem dif_0 {a : Nat} (ha : a < 2 ^ 32) : dif a 0 = a := by
  refine tb_ext (fun i => ?_)
  rw [dif_tb ha, Nat.zero_testBit]
  simp
theorem y_search {σ : St} {Wa n last m : Nat} {ρ0 : St} {V : Nat → Prop} {J : (Nat → Prop) → St → Prop} (hS : Sx n σ) (hX : SPX σ Wa n ρ0) (M : Md σ Wa n last m ρ0 V J) (hle : last < eP σ) (ρ : St) (hF : frX ρ0 ρ) (hJ : J (fun _ => False) ρ) : ∃ ρ', f_X2_searchWithLast ρ (nI last) (nI m) = some ρ' ∧ frX ρ0 ρ' ∧ J (fun _ => True) ρ' := by
  have hp28 := p28 hS.1
  obtain ⟨hz1, hz2, hz3⟩ := Sx_e hS
  obtain ⟨s1, s2, s3⟩ := Sx_s hS
  have M2 := M.2.1
  obtain ⟨f, hf⟩ : ∃ f, f = if last = 0 then 1 else 0 := ⟨_, rfl⟩
  have hf2 : f < 2 ∧ f ≠ last := by rw [hf]; split <;> omega
  have e1 : f_X2_searchWithLast ρ (nI last) (nI m) = f_X2_searchWithLast_J9 ρ (nI last) (nI m) (nI f) := by
    unfold f_X2_searchWithLast
    by_cases q : last = 0
    · rw [if_pos q] at hf
      rw [if_pos (show nI last = 0 by rw [q]; rfl), hf]
      rfl
    · rw [if_neg q] at hf
      rw [if_neg (show ¬ nI last = 0 by rw [show (0 : Int32) = nI 0 from rfl, z_eq (by omega) (by omega)]; exact q), hf]
      rfl
  have ol := open_lt hS Wa f
  rw [e1]
  unfold f_X2_searchWithLast_J9
  rw [z_chk (by omega) (by omega), nI_clamp (by omega), ((hX.fr hF).2.2.1 f (by omega)).1]
  have pc0 : PC σ Wa 0 := ⟨by omega, fun e he => by rw [sit_0]; exact Nat.zero_and _, fun e e' he he' hne => by rw [sit_0]; exact Nat.zero_and _⟩
  obtain ⟨ρ', a1, a2, a3⟩ := sub_loop (f_X2_searchWithLast_L22 (nI last) (nI m) (nI f) (nI (openP σ Wa f))) (openP σ Wa f) (fun D1 ρ => frX ρ0 ρ ∧ J (fun c => D1 (atE n c f)) ρ) (by omega) (fun N a => by rw [f_X2_searchWithLast_L22, if_pos (by decide)]) (fun N D1 y a hy hI => by
    obtain ⟨p1, p2, p3⟩ := PC_add hS pc0 (show f < 3 by omega) (sit_0 f) (y := y) (by rw [mem_0, dif_0 (by omega)]; exact hy)
    rw [Nat.zero_or] at p1 p2
    have lp := pop_le y
    have hXa := hX.fr hI.1
    have si : ∀ e, e < 3 → e ≠ f → sit (y * 2 ^ (8 * f)) e = 0 := fun e he hne => by rw [p2 e he, if_neg hne, sit_0]
    have sf : sit (y * 2 ^ (8 * f)) f = y := by rw [p2 f (by omega), if_pos rfl]
    rw [f_X2_searchWithLast_L22, if_neg (nI_pos (by omega)), z_chk (by omega) (by omega), nI_clamp (by omega), hXa.2.1, (hXa.2.2.2 y p3).2.2, y_pullOf hS hXa (show f < 3 by omega) p3, z_sh (by omega) (by omega), hXa.1]
    simp only [z_lt (show sP σ < 2 ^ 31 by omega) (show pop y < 2 ^ 31 by omega), Option.bind_some]
    by_cases q : sP σ < pop y
    · rw [if_pos q]
      refine ⟨a, ?_, hI.1, M2 _ _ _ hI.2 (fun c hV => ⟨Or.inl, fun z => z.elim id (fun z => ?_)⟩)⟩
      · unfold f_X2_searchWithLast_J91_22
        exact y_next (by omega) rfl (fun _ => rfl)
      · have := (V_pop hS M hV).2.1 f (by omega)
        rw [z] at this
        omega
    · rw [if_neg q]
      by_cases q2 : eP σ = 2
      · rw [if_pos (show nI (eP σ) = 2 by rw [q2]; rfl)]
        obtain ⟨a', b1, b2, b3⟩ := y_tryLast hS hX M (show last < 3 by omega) (cw := y * 2 ^ (8 * f)) (pull := pkX σ f y) p1 (si last (by omega) (Ne.symm hf2.2)) (fun e he hne => by
          have : e = f := by omega
          subst this
          rw [sf]) (fun e he hne => by
          by_cases w : e = f
          · rw [w, sf]; omega
          · rw [si e he w]; exact Nat.zero_le _) _ a hI.1 hI.2
        rw [b1, Option.bind_some]
        refine ⟨a', ?_, b2, M2 _ _ _ b3 (fun c hV => ?_)⟩
        · unfold f_X2_searchWithLast_J91_22
          exact y_next (by omega) rfl (fun _ => rfl)
        · have eqv : (∀ e, e < 3 → e ≠ last → atE n c e = sit (y * 2 ^ (8 * f)) e) ↔ atE n c f = y := by
            constructor
            · intro z
              rw [z f (by omega) hf2.2, sf]
            · intro z e he hne
              by_cases w : e = f
              · rw [w, z, sf]
              · rw [si e he w]
                have he2 : e = 2 := by omega
                have sub := (V_pop hS M hV).2.2 e he
                refine tb_ext (fun i => ?_)
                rw [Nat.zero_testBit]
                cases qq : (atE n c e).testBit i
                · rfl
                · have := and_sub sub qq
                  rw [open_tb hS] at this
                  unfold willP at this
                  rw [he2, q2] at this
                  simp at this
          rw [eqv]
      · have q3 : eP σ = 3 := by omega
        rw [if_neg (show ¬ nI (eP σ) = 2 by rw [q3]; decide)]
        obtain ⟨g, hg⟩ : ∃ g, g = if last = 2 then 1 else 2 := ⟨_, rfl⟩
        have hg2 : g < 3 ∧ f ≠ g ∧ g ≠ last := by
          rw [hg, hf]
          by_cases w : last = 0
          · rw [if_pos w, if_neg (by omega)]; omega
          · rw [if_neg w]
            split <;> omega
        have e2 : f_X2_trySecond a (nI last) (nI (y * 2 ^ (8 * f))) (nI (pkX σ f y)) (nI m) = f_X2_trySecond_J10 a (nI last) (nI (y * 2 ^ (8 * f))) (nI (pkX σ f y)) (nI m) (nI g) := by
          unfold f_X2_trySecond
          by_cases w : last = 2
          · rw [if_pos w] at hg
            rw [if_pos (show nI last = 2 by rw [w]; rfl), hg]
            rfl
          · rw [if_neg w] at hg
            rw [if_neg (show ¬ nI last = 2 by rw [show (2 : Int32) = nI 2 from rfl, z_eq (by omega) (by omega)]; exact w), hg]
            rfl
        obtain ⟨a', b1, b2, b3⟩ := y_second hS hX M q3 (show last < 3 by omega) (show f < 3 by omega) hg2.1 hg2.2.1 hf2.2 hg2.2.2 (cw := y * 2 ^ (8 * f)) (pull := pkX σ f y) p1 si (by rw [sf]) (by rw [sf]; omega) _ a hI.1 hI.2
        rw [e2, b1, Option.bind_some]
        refine ⟨a', ?_, b2, M2 _ _ _ b3 (fun c hV => ?_)⟩
        · unfold f_X2_searchWithLast_J91_22
          exact y_next (by omega) rfl (fun _ => rfl)
        · rw [sf]) ρ ⟨hF, hJ⟩
  rw [a1]
  exact ⟨ρ', rfl, a2, M2 _ _ _ a3 (fun c hV => ⟨fun _ => trivial, fun _ => (V_pop hS M hV).2.2 f (by omega)⟩)⟩
/-! the choices -/
def NI (σ : St) (Wa n : Nat) (D : Nat → Prop) (ρ : St) : Prop := ((ρ 19 12 = -1 ∧ ρ 19 13 = 0 ∧ ∀ c, D c → ¬ chP σ Wa c) ∨ ∃ b, D b ∧ chP σ Wa b ∧ (∀ c, D c → chP σ Wa c → keyP σ c < keyP σ b ∨ (keyP σ c = keyP σ b ∧ b ≤ c)) ∧ ρ 19 12 = nI (keyP σ b) ∧ ρ 19 13 = nI (crewC n b)) ∧
  ∀ s, s < 256 → ((∃ c, D c ∧ chP σ Wa c ∧ allE n c = s) ∧ ρ 23 s = 1) ∨ (¬ (∃ c, D c ∧ chP σ Wa c ∧ allE n c = s) ∧ ρ 23 s = if s = 0 then 0 else 99)
theorem NI_congr {σ : St} {Wa n : Nat} {D D' : Nat → Prop} {ρ : St} (h : NI σ Wa n D ρ) (hd : ∀ c, chP σ Wa c → (D c ↔ D' c)) : NI σ Wa n D' ρ := by
  obtain ⟨h1, h2⟩ := h
  have ex : ∀ s, (∃ c, D c ∧ chP σ Wa c ∧ allE n c = s) ↔ (∃ c, D' c ∧ chP σ Wa c ∧ allE n c = s) := fun s => ⟨fun ⟨c, a, b, d⟩ => ⟨c, (hd c b).mp a, b, d⟩, fun ⟨c, a, b, d⟩ => ⟨c, (hd c b).mpr a, b, d⟩⟩
  refine ⟨?_, fun s hs => ?_⟩
  · rcases h1 with ⟨a1, a2, a3⟩ | ⟨b, b1, b2, b3, b4⟩
    · exact Or.inl ⟨a1, a2, fun c hc hh => a3 c ((hd c hh).mpr hc) hh⟩
    · exact Or.inr ⟨b, (hd b b2).mp b1, b2, fun c hc hh => b3 c ((hd c hh).mpr hc) hh, b4⟩
  · rw [← ex s]
    exact h2 s hs
theorem allE_0 {n c : Nat} (hc : c < 4 ^ n) (h : allE n c = 0) : c = 0 := by
  refine dig_ext n hc (by exact Nat.pow_pos (by omega)) (fun p hp => ?_)
  have : (allE n c).testBit p = false := by rw [h, Nat.zero_testBit]
  rw [allE_tb] at this
  have e0 : dig n 0 p = 0 := by unfold dig; simp
  rw [e0]
  simpa [hp] using this
theorem y_note {σ ρ : St} {Wa n code : Nat} {D : Nat → Prop} (hS : Sx n σ) (hX : SPX σ Wa n ρ) (hN : NI σ Wa n D ρ) (hc : chP σ Wa code) : ∃ ρ', f_X2_noteChoice ρ (nI (allE n code)) (nI (crewC n code)) = some ρ' ∧ frX ρ ρ' ∧ NI σ Wa n (fun c => D c ∨ c = code) ρ' := by
  have hp28 := p28 hS.1
  have hc4 : code < 4 ^ n := by have := hc.1.2.1; rw [Sx_p hS] at this; exact this
  have la := allE_lt n code
  have lp := pop_le (allE n code)
  have hf := (Sx_far hS (allE n code)).1
  have ek : ∀ c, keyP σ c = farP σ (allE n c) * 16 + pop (allE n c) := fun c => by unfold keyP; rw [Sx_p hS]
  have kl : ∀ c, keyP σ c < 2 ^ 31 := fun c => by
    rw [ek]
    have := (Sx_far hS (allE n c)).1
    have := pop_le (allE n c)
    omega
  obtain ⟨w1, w2, w3⟩ := hX.2.2.2 (allE n code) la
  have n0 : ¬ nI (allE n code) = 0 := by
    rw [show (0 : Int32) = nI 0 from rfl, z_eq (by omega) (by omega)]
    intro z
    have := allE_0 hc4 z
    have := hc.1.1
    omega
  have ke : nI (farP σ (allE n code)) * 16 + nI (pop (allE n code)) = nI (keyP σ code) := by
    rw [show nI (farP σ (allE n code)) * 16 = nI (farP σ (allE n code) * 16) from pk_mul _ 16, nI_add, ek]
  obtain ⟨h1, h2⟩ := id hN
  have few : ∀ ρ' : St, (∀ s, ρ' 23 s = up2 ρ 23 (allE n code) 1 23 s) → ∀ s, s < 256 → ((∃ c, (D c ∨ c = code) ∧ chP σ Wa c ∧ allE n c = s) ∧ ρ' 23 s = 1) ∨ (¬ (∃ c, (D c ∨ c = code) ∧ chP σ Wa c ∧ allE n c = s) ∧ ρ' 23 s = if s = 0 then 0 else 99) := by
    intro ρ' hρ s hs
    rw [hρ]
    by_cases z : s = allE n code
    · subst z
      exact Or.inl ⟨⟨code, Or.inr rfl, hc, rfl⟩, up2_s⟩
    · rw [up2_i z]
      rcases h2 s hs with ⟨⟨c, a, b⟩, e⟩ | ⟨a, e⟩
      · exact Or.inl ⟨⟨c, Or.inl a, b⟩, e⟩
      · refine Or.inr ⟨?_, e⟩
        rintro ⟨c, c1 | c1, c2, c3⟩
        · exact a ⟨c, c1, c2, c3⟩
        · subst c1; exact z c3.symm
  unfold f_X2_noteChoice
  rw [if_neg n0, z_chk (by omega) (by omega), z_chk (by omega) (by omega), z_chk (by omega) (by omega), nI_clamp (by omega), w2, w3, ke]
  have repl : (∀ c, D c → chP σ Wa c → keyP σ c < keyP σ code ∨ (keyP σ c = keyP σ code ∧ code ≤ c)) → ∃ ρ', some (up2 (up2 (up2 ρ 23 (allE n code) 1) 19 12 (nI (keyP σ code))) 19 13 (nI (crewC n code))) = some ρ' ∧ frX ρ ρ' ∧ NI σ Wa n (fun c => D c ∨ c = code) ρ' := by
    intro hk
    refine ⟨_, rfl, ⟨fun x a b c => ?_, fun j a b => ?_⟩, Or.inr ⟨code, Or.inr rfl, hc, fun c hd hh => ?_, ?_, up2_s⟩, few _ (fun s => rfl)⟩
    · rw [up2_c a, up2_c a, up2_c b]
    · rw [up2_i b, up2_i a]
      rfl
    · rcases hd with hd | hd
      · exact hk c hd hh
      · subst hd; exact Or.inr ⟨rfl, Nat.le_refl _⟩
    · rw [up2_i (by omega), up2_s]
  rcases h1 with ⟨a1, a2, a3⟩ | ⟨b, b1, b2, b3, b4, b5⟩
  · have lt : (-1 : Int32) < nI (keyP σ code) := by
      rw [Int32.lt_iff_toInt_lt, nI_toInt (kl code)]
      show (-1 : Int) < _
      omega
    rw [a1, if_pos lt]
    exact repl (fun c h1 h2 => absurd h2 (a3 c h1))
  · have same : (keyP σ code < keyP σ b ∨ (keyP σ code = keyP σ b ∧ b ≤ code)) → ∃ ρ', some (up2 ρ 23 (allE n code) 1) = some ρ' ∧ frX ρ ρ' ∧ NI σ Wa n (fun c => D c ∨ c = code) ρ' := by
      intro hk
      refine ⟨_, rfl, ⟨fun x a b c => up2_c b, fun j a b => rfl⟩, Or.inr ⟨b, Or.inl b1, b2, fun c hd hh => ?_, b4, b5⟩, few _ (fun s => rfl)⟩
      rcases hd with hd | hd
      · exact b3 c hd hh
      · subst hd; exact hk
    have hb4 : b < 4 ^ n := by have := b2.1.2.1; rw [Sx_p hS] at this; exact this
    rw [b4, b5, y_ahead hS.1 hc4 hb4]
    simp only [z_lt (kl b) (kl code), z_eq (kl code) (kl b)]
    by_cases q : keyP σ b < keyP σ code
    · rw [if_pos q]
      refine repl (fun c h1 h2 => ?_)
      rcases b3 c h1 h2 with z | z
      · exact Or.inl (by omega)
      · exact Or.inl (by omega)
    · rw [if_neg q]
      by_cases q2 : keyP σ code = keyP σ b
      · rw [if_pos q2]
        by_cases q3 : code < b
        · rw [if_pos q3, if_neg i10]
          refine repl (fun c h1 h2 => ?_)
          rcases b3 c h1 h2 with z | z
          · exact Or.inl (by omega)
          · exact Or.inr ⟨by omega, by omega⟩
        · rw [if_neg q3, if_pos rfl]
          exact same (Or.inr ⟨q2, by omega⟩)
      · rw [if_neg q2]
        exact same (Or.inl (by omega))
theorem mem_all {n code cw last : Nat} (hl : last < 3) (h0 : sit cw last = 0) (hco : ∀ e, e < 3 → e ≠ last → atE n code e = sit cw e) : mem cw ||| atE n code last = allE n code := by
  rw [allE_or]
  unfold mem
  match last, hl with
  | 0, _ =>
    rw [h0, hco 1 (by omega) (by omega), hco 2 (by omega) (by omega), Nat.zero_or, Nat.or_comm, Nat.or_assoc]
  | 1, _ =>
    rw [h0, hco 0 (by omega) (by omega), hco 2 (by omega) (by omega), Nat.or_zero, Nat.or_assoc, Nat.or_comm (sit cw 2), Nat.or_assoc]
  | 2, _ =>
    rw [h0, hco 0 (by omega) (by omega), hco 1 (by omega) (by omega), Nat.or_zero]
theorem frX_trans {a b c : St} (h1 : frX a b) (h2 : frX b c) : frX a c :=
  ⟨fun x p q r => by rw [h2.1 x p q r, h1.1 x p q r], fun j p q => by rw [h2.2 j p q, h1.2 j p q]⟩
theorem z_sub0 {a b : Nat} (ha : a < 2 ^ 31) (hb : b < 2 ^ 31) : (nI a - nI b = 0) = (a = b) := by
  rw [← z_eq ha hb]
  refine propext ?_
  rw [Int32.sub_eq_iff_eq_add, Int32.zero_add]
theorem Md0 {σ : St} {Wa n : Nat} {ρ0 : St} (hS : Sx n σ) (hX : SPX σ Wa n ρ0) : Md σ Wa n (eP σ - 1) 0 ρ0 (chP σ Wa) (NI σ Wa n) := by
  have hp28 := p28 hS.1
  obtain ⟨hz1, hz2, hz3⟩ := Sx_e hS
  obtain ⟨s1, s2, s3⟩ := Sx_s hS
  refine ⟨fun c hc => ⟨hc.1, fun e e' he he' _ _ => ?_⟩, fun D D' ρ h hd => NI_congr h hd, ?_⟩
  · have lv := hc.2
    unfold levP at lv
    rw [Sx_p hS] at lv
    rw [pkX_eq hS, lv 0 (by omega) e he, lv 1 (by omega) e he, lv 0 (by omega) e' he', lv 1 (by omega) e' he']
    exact ⟨rfl, rfl⟩
  · intro D ρ code cw pull y o hF hN hc4 hsub hcw h0 hco hcl hcr hpull hpop
    have hXa := hX.fr hF
    have yl : y < 2 ^ n := by rw [← hcl]; exact atE_lt n code _
    have lp := pop_le y
    have hl : eP σ - 1 < 3 := by omega
    have lk := pkX_lt hS (eP σ - 1) y
    have pl : pull < 2 ^ 28 := by
      rw [hpull 0 (by omega) (by omega)]
      exact pkX_lt hS _ _
    have skip : ¬ chP σ Wa code → NI σ Wa n (fun c => D c ∨ c = code) ρ := fun hn => NI_congr hN (fun c hc => ⟨Or.inl, fun z => z.elim id (fun z => by subst z; exact absurd hc hn)⟩)
    have red : ∀ N, f_X2_tryLast_L23 (nI (eP σ - 1)) (nI cw) (nI pull) (nI 0) (nI (mem cw)) (nI o) (N + 1) ρ (nI y) = if pull = pkX σ (eP σ - 1) y then (if sP σ < pop y then f_X2_tryLast_J120_23 ρ (nI o) (nI y) (f_X2_tryLast_L23 (nI (eP σ - 1)) (nI cw) (nI pull) (nI 0) (nI (mem cw)) (nI o) N) else ((f_X2_noteChoice ρ (nI (allE n code)) (nI (crewC n code))).bind fun u9 => f_X2_tryLast_J120_23 u9 (nI o) (nI y) (f_X2_tryLast_L23 (nI (eP σ - 1)) (nI cw) (nI pull) (nI 0) (nI (mem cw)) (nI o) N))) else f_X2_tryLast_J120_23 ρ (nI o) (nI y) (f_X2_tryLast_L23 (nI (eP σ - 1)) (nI cw) (nI pull) (nI 0) (nI (mem cw)) (nI o) N) := by
      intro N
      rw [f_X2_tryLast_L23, if_neg (nI_pos (by omega)), y_pullOf hS hXa hl yl, Option.bind_some, if_pos (show nI 0 = 0 from rfl), z_chk (by omega) (by omega), nI_clamp (by omega), hXa.2.1, (hXa.2.2.2 y yl).2.2, z_sh (by omega) hl, z_or, z_or, ← hcr, ← hcl, mem_all hl h0 hco]
      have lpa := pop_le (atE n code (eP σ - 1))
      rw [hcl]
      simp only [z_lt (show sP σ < 2 ^ 31 by omega) (show pop y < 2 ^ 31 by omega), z_sub0 (show pull < 2 ^ 31 by omega) (show pkX σ (eP σ - 1) y < 2 ^ 31 by omega)]
    by_cases q : pull = pkX σ (eP σ - 1) y
    · by_cases q2 : sP σ < pop y
      · refine ⟨ρ, fun N => by rw [red N, if_pos q, if_pos q2], hF, skip (fun hc => ?_)⟩
        have := ((ok_iff hS hc4).mp hc.1).2.1 (eP σ - 1) hl
        rw [hcl] at this
        omega
      · have pk : ∀ e, e < eP σ → pull = pkX σ e (atE n code e) := fun e he => by
          by_cases w : e = eP σ - 1
          · subst w; rw [hcl]; exact q
          · exact hpull e he w
        by_cases c0 : code = 0
        · have a0 : allE n code = 0 := by
            rw [c0]
            refine tb_ext (fun i => ?_)
            rw [allE_tb, Nat.zero_testBit]
            have : dig n 0 i = 0 := by unfold dig; simp
            rw [this]; simp
          refine ⟨ρ, fun N => ?_, hF, skip (fun hc => ?_)⟩
          · rw [red N, if_pos q, if_neg q2, a0]
            unfold f_X2_noteChoice
            rw [if_pos (show nI 0 = 0 from rfl), Option.bind_some]
          · have := hc.1.1
            omega
        · have hc : chP σ Wa code := by
            refine ⟨(ok_iff hS hc4).mpr ⟨by omega, fun e he => ?_, hsub⟩, ?_⟩
            · by_cases w : e = eP σ - 1
              · subst w; rw [hcl]; omega
              · exact hpop e he w
            · unfold levP
              rw [Sx_p hS]
              intro t ht e he
              have pe := pk e he
              rw [pk 0 (by omega), pkX_eq hS] at pe
              have : t = 0 ∨ t = 1 := by omega
              rcases this with rfl | rfl
              · exact pe.1.symm
              · exact pe.2.symm
          obtain ⟨ρ', b1, b2, b3⟩ := y_note hS hXa hN hc
          exact ⟨ρ', fun N => by rw [red N, if_pos q, if_neg q2, b1, Option.bind_some], frX_trans hF b2, b3⟩
    · refine ⟨ρ, fun N => by rw [red N, if_neg q], hF, skip (fun hc => q ?_)⟩
      have lv := hc.2
      unfold levP at lv
      rw [Sx_p hS] at lv
      have l0 := lv 0 (by omega) (eP σ - 1) (by omega)
      have l1 := lv 1 (by omega) (eP σ - 1) (by omega)
      rw [hcl] at l0 l1
      rw [hpull 0 (by omega) (by omega), pkX_eq hS, l0, l1]
      exact ⟨rfl, rfl⟩
