/-! pure: chains of choices -/
theorem low_ex : ∀ (s : Nat), s ≠ 0 → ∃ p, s.testBit p = true ∧ ∀ q, q < p → s.testBit q = false := by
  intro s
  induction s using Nat.strongRecOn with
  | ind s ih =>
    intro h
    by_cases q : s % 2 = 1
    · refine ⟨0, ?_, fun q hq => absurd hq (by omega)⟩
      rw [Nat.testBit_zero]
      simp [q]
    · obtain ⟨p, p1, p2⟩ := ih (s / 2) (by omega) (by omega)
      refine ⟨p + 1, by rw [Nat.testBit_succ]; exact p1, fun q' hq' => ?_⟩
      match q' with
      | 0 =>
        rw [Nat.testBit_zero]
        simp; omega
      | q' + 1 =>
        rw [Nat.testBit_succ]
        exact p2 q' (by omega)
theorem low_clear {U p : Nat} (hp : U.testBit p = true) (hq : ∀ q, q < p → U.testBit q = false) : U &&& (U - 1) = U - 2 ^ p ∧ 2 ^ p ≤ U ∧ ∀ i, (U &&& (U - 1)).testBit i = (U.testBit i && decide (i ≠ p)) := by
  have m0 : U % 2 ^ p = 0 := by
    refine tb_ext (fun i => ?_)
    rw [Nat.testBit_mod_two_pow, Nat.zero_testBit]
    by_cases h : i < p
    · rw [hq i h]; simp
    · simp [h]
  have d1 : U / 2 ^ p % 2 = 1 := by rw [z_tb, if_pos hp]
  have hd := Nat.div_add_mod U (2 ^ p)
  obtain ⟨r, hr⟩ : ∃ r, U / 2 ^ p = 2 * r + 1 := ⟨U / 2 ^ p / 2, by omega⟩
  have hpp : 1 ≤ 2 ^ p := Nat.one_le_two_pow
  have eU : U = 2 ^ p * (2 * r + 1) + 0 := by rw [← hr]; omega
  have eV : U - 1 = 2 ^ p * (2 * r) + (2 ^ p - 1) := by
    rw [Nat.mul_add, Nat.mul_one] at eU
    omega
  have key : ∀ i, (U &&& (U - 1)).testBit i = (2 ^ p * (2 * r) + 0).testBit i ∧ (U &&& (U - 1)).testBit i = (U.testBit i && decide (i ≠ p)) := fun i => by
    rw [Nat.testBit_and, eV, Nat.testBit_two_pow_mul_add _ (by omega), Nat.testBit_two_pow_mul_add _ (by omega)]
    by_cases h : i < p
    · rw [hq i h, if_pos h]; simp; intro w; omega
    · rw [if_neg h, if_neg h]
      have hb : U.testBit i = (2 * r + 1).testBit (i - p) := by
        rw [eU, Nat.testBit_two_pow_mul_add _ (by omega), if_neg h]
      rw [hb]
      by_cases h2 : i = p
      · subst h2
        rw [Nat.sub_self]
        simp
      · have : i - p = (i - p - 1) + 1 := by omega
        rw [this, Nat.testBit_succ, Nat.testBit_succ, show (2 * r + 1) / 2 = r by omega, show 2 * r / 2 = r by omega]
        cases r.testBit (i - p - 1) <;> simp [h2]
  have e1 : U &&& (U - 1) = 2 ^ p * (2 * r) + 0 := tb_ext (fun i => (key i).1)
  rw [Nat.mul_add, Nat.mul_one] at eU
  exact ⟨by rw [e1]; omega, by omega, fun i => (key i).2⟩
def chW (f : Nat → Nat) (s : Nat) : Prop := (∀ part, part ≠ 0 → part &&& s = part → f part = 1 → f s ≤ f (dif s part) + 1) ∧ (f s = 99 ∨ ∃ part, part ≠ 0 ∧ part &&& s = part ∧ f part = 1 ∧ f s = f (dif s part) + 1)
theorem chain_W {n : Nat} {f : Nat → Nat} : plChain n f ↔ ∀ s, 0 < s → s < 2 ^ n → chW f s := Iff.rfl
/-- only parts with the lowest of all -/
def chL (f : Nat → Nat) (s : Nat) : Prop := ∀ p, s.testBit p = true → (∀ q, q < p → s.testBit q = false) → (∀ part, part &&& s = part → part.testBit p = true → f part = 1 → f s ≤ f (dif s part) + 1) ∧ (f s = 99 ∨ ∃ part, part &&& s = part ∧ part.testBit p = true ∧ f part = 1 ∧ f s = f (dif s part) + 1)
theorem tb_ne {a i : Nat} (h : a.testBit i = true) : a ≠ 0 := fun z => by rw [z, Nat.zero_testBit] at h; cases h
theorem dif_lt {s part : Nat} (hs : s < 2 ^ 32) (h0 : part ≠ 0) (hp : part &&& s = part) : dif s part < s := by
  have h1 := dif_le s part
  obtain ⟨p, p1, -⟩ := low_ex part h0
  have h2 : dif s part ≠ s := fun z => by
    have := dif_tb (b := part) hs p
    rw [z, p1, and_sub hp p1] at this
    cases this
  omega
theorem chL_W {N : Nat} {f : Nat → Nat} (hN : N ≤ 256) (h : ∀ s, 0 < s → s < N → chL f s) (h99 : ∀ s, s < N → f s ≤ 99) : ∀ s, 0 < s → s < N → chW f s := by
  intro s
  induction s using Nat.strongRecOn with
  | ind s ih =>
    intro h0 hs
    have h32 : s < 2 ^ 32 := by omega
    obtain ⟨p, p1, p2⟩ := low_ex s (by omega)
    obtain ⟨l1, l2⟩ := h s h0 hs p p1 p2
    refine ⟨fun part q0 q1 q2 => ?_, ?_⟩
    · cases b : part.testBit p
      · have hr := dif_lt h32 q0 q1
        have rb : ∀ i, (dif s part).testBit i = (s.testBit i && !part.testBit i) := dif_tb h32
        have rp : (dif s part).testBit p = true := by rw [rb, p1, b]; rfl
        have rl : ∀ q, q < p → (dif s part).testBit q = false := fun q hq => by rw [rb, p2 q hq]; rfl
        have rn := tb_ne rp
        obtain ⟨m1, m2⟩ := h (dif s part) (by omega) (by omega) p rp rl
        rcases m2 with m2 | ⟨q, t1, t2, t3, t4⟩
        · have := h99 s hs; omega
        · have qs : q &&& s = q := and_of (fun i hi => by
            have := and_sub t1 hi
            rw [rb] at this
            simp at this
            exact this.1)
          have hd := dif_lt h32 (tb_ne t2) qs
          have sb : ∀ i, (dif s q).testBit i = (s.testBit i && !q.testBit i) := dif_tb h32
          have ps : part &&& dif s q = part := and_of (fun i hi => by
            rw [sb, and_sub q1 hi]
            cases w : q.testBit i
            · rfl
            · have := and_sub t1 w
              rw [rb, hi] at this
              simp at this)
          have sn : dif s q ≠ 0 := fun z => by
            rw [z, Nat.and_zero] at ps
            exact q0 ps.symm
          have i1 := (ih (dif s q) hd (by omega) (by omega)).1 part q0 ps q2
          have e : dif (dif s q) part = dif (dif s part) q := by
            refine tb_ext (fun i => ?_)
            rw [dif_tb (a := dif s q) (by omega), dif_tb (a := dif s part) (by omega), sb, rb]
            cases s.testBit i <;> cases q.testBit i <;> cases part.testBit i <;> rfl
          have i2 := l1 q qs t2 t3
          rw [e] at i1
          omega
      · exact l1 part q1 b q2
    · rcases l2 with l2 | ⟨part, t1, t2, t3, t4⟩
      · exact Or.inl l2
      · exact Or.inr ⟨part, tb_ne t2, t1, t3, t4⟩
/-- both numbers of the chains are the same -/
theorem ch_same {N : Nat} {f g : Nat → Nat} (hN : N ≤ 256) (hf : ∀ s, 0 < s → s < N → chW f s) (hg : ∀ s, 0 < s → s < N → chW g s) (f0 : f 0 = g 0) (f9 : ∀ s, s < N → f s ≤ 99) (g9 : ∀ s, s < N → g s ≤ 99) (h1 : ∀ s, s < N → (f s = 1 ↔ g s = 1)) : ∀ s, s < N → f s = g s := by
  intro s
  induction s using Nat.strongRecOn with
  | ind s ih =>
    intro hs
    by_cases z : s = 0
    · subst z; exact f0
    · obtain ⟨a1, a2⟩ := hf s (by omega) hs
      obtain ⟨b1, b2⟩ := hg s (by omega) hs
      have x1 := f9 s hs
      have x2 := g9 s hs
      have e1 : f s ≤ g s := by
        rcases b2 with b2 | ⟨part, t0, t1, t2, t3⟩
        · omega
        · have hd := dif_lt (show s < 2 ^ 32 by omega) t0 t1
          have pl : part < N := sub_lt t1 hs
          have := a1 part t0 t1 ((h1 part pl).mpr t2)
          rw [ih (dif s part) hd (by omega)] at this
          omega
      have e2 : g s ≤ f s := by
        rcases a2 with a2 | ⟨part, t0, t1, t2, t3⟩
        · omega
        · have hd := dif_lt (show s < 2 ^ 32 by omega) t0 t1
          have pl : part < N := sub_lt t1 hs
          have := b1 part t0 t1 ((h1 part pl).mp t2)
          rw [← ih (dif s part) hd (by omega)] at this
          omega
      omega
/-! the class's chains -/
def rowX (ρ : St) (Wa : Nat) (g : Nat → Nat) (σ : St) : Prop := (∀ s, s < 256 → ρ 23 s = nI (g s) ∧ g s ≤ 99 ∧ (g s = 1 ↔ canP σ Wa s)) ∧ g 0 = 0 ∧ ∀ s, 0 < s → s < 256 → 1 ≤ g s
theorem y_few {ρ σ : St} {Wa s : Nat} {g : Nat → Nat} (hR : rowX ρ Wa g σ) (h0 : 0 < s) (hs : s < 256) : ∃ v, v ≤ 99 ∧ 1 ≤ v ∧ f_X2_fewestOf ρ (nI s) = some (nI v) ∧ ∀ p, s.testBit p = true → (∀ q, q < p → s.testBit q = false) → (∀ part, part &&& s = part → part.testBit p = true → g part = 1 → v ≤ g (dif s part) + 1) ∧ (v = 99 ∨ ∃ part, part &&& s = part ∧ part.testBit p = true ∧ g part = 1 ∧ v = g (dif s part) + 1) := by
  obtain ⟨p, p1, p2⟩ := low_ex s (by omega)
  obtain ⟨c1, c2, c3⟩ := low_clear p1 p2
  obtain ⟨r1, r2, r3⟩ := hR
  have h32 : s < 2 ^ 32 := by omega
  obtain ⟨rest, hrest⟩ : ∃ rest, rest = s &&& (s - 1) := ⟨_, rfl⟩
  have rl : rest ≤ s := by rw [hrest]; exact Nat.and_le_left
  have e1 : nI s &&& (nI s - 1) = nI rest := by
    rw [show nI s - 1 = nI (s - 1) from pk_sub (a := s) (b := 1) (by omega), z_and, hrest]
  have e2 : nI s - nI rest = nI (2 ^ p) := by
    rw [pk_sub rl]
    congr 1
    rw [hrest, c1]
    omega
  have rb : ∀ i, rest.testBit i = (s.testBit i && decide (i ≠ p)) := by rw [hrest]; exact c3
  have pb : ∀ y i, (2 ^ p ||| y).testBit i = (decide (i = p) || y.testBit i) := fun y i => by rw [Nat.testBit_or, tb_one]
  have psub : ∀ y, y &&& rest = y → (2 ^ p ||| y) &&& s = 2 ^ p ||| y := fun y hy => and_of (fun i hi => by
    rw [pb, Bool.or_eq_true, decide_eq_true_eq] at hi
    rcases hi with hi | hi
    · rw [hi]; exact p1
    · have := and_sub hy hi
      rw [rb] at this
      simp at this
      exact this.1)
  have dsub : ∀ y, y &&& rest = y → dif rest y = dif s (2 ^ p ||| y) := fun y hy => by
    refine tb_ext (fun i => ?_)
    rw [dif_tb (by omega), dif_tb h32, rb, pb]
    by_cases w : i = p
    · simp [w]
    · simp [w]
  unfold f_X2_fewestOf
  rw [e1, e2]
  obtain ⟨u, a1, m, a2, a3, a4, a5⟩ := sub_loop (f_X2_fewestOf_L17 ρ (nI rest) (nI (2 ^ p))) rest (fun D a => ∃ m, a = nI m ∧ (1 ≤ m ∧ m ≤ 99) ∧ (∀ y, D y → y &&& rest = y → g (2 ^ p ||| y) = 1 → m ≤ g (dif rest y) + 1) ∧ (m = 99 ∨ ∃ y, y &&& rest = y ∧ g (2 ^ p ||| y) = 1 ∧ m = g (dif rest y) + 1)) (by omega) (fun N a => by rw [f_X2_fewestOf_L17, if_pos (by decide)]) (fun N D y a hy hI => by
    obtain ⟨m, rfl, m1, m2, m3⟩ := hI
    have yl : y ≤ rest := by rw [← hy]; exact Nat.and_le_right
    have pl : 2 ^ p ||| y < 256 := sub_lt (psub y hy) hs
    have dl := dif_le rest y
    have dz := z_not (a := rest) y (by omega)
    rw [show rest &&& (2 ^ 32 - 1 - y % 2 ^ 32) = dif rest y from rfl] at dz
    rw [f_X2_fewestOf_L17, if_neg (nI_pos (by omega)), z_or, z_chk (by omega) (by omega), nI_clamp (by omega), dz, z_chk (by omega) (by omega), nI_clamp (by omega), (r1 _ pl).1, (r1 (dif rest y) (by omega)).1, show (1 : Int32) + nI (g (dif rest y)) = nI (1 + g (dif rest y)) from nI_add 1 _]
    have g99 := (r1 (dif rest y) (by omega)).2.1
    have gp99 := (r1 _ pl).2.1
    have one : (nI (g (2 ^ p ||| y)) = 1) ↔ g (2 ^ p ||| y) = 1 := by rw [show (1 : Int32) = nI 1 from rfl, z_eq (by omega) (by omega)]
    unfold f_X2_fewestOf_J55_17
    by_cases q : g (2 ^ p ||| y) = 1
    · rw [if_pos (one.mpr q)]
      simp only [z_lt (show 1 + g (dif rest y) < 2 ^ 31 by omega) (show m < 2 ^ 31 by omega)]
      by_cases w : 1 + g (dif rest y) < m
      · refine ⟨nI (1 + g (dif rest y)), ?_, 1 + g (dif rest y), rfl, by omega, fun y' hd hy' hg => ?_, Or.inr ⟨y, hy, q, by omega⟩⟩
        · rw [if_pos w]
          exact y_next (by omega) rfl (fun _ => rfl)
        · rcases hd with hd | hd
          · have := m2 y' hd hy' hg; omega
          · subst hd; omega
      · refine ⟨nI m, ?_, m, rfl, m1, fun y' hd hy' hg => ?_, m3⟩
        · rw [if_neg w]
          exact y_next (by omega) rfl (fun _ => rfl)
        · rcases hd with hd | hd
          · exact m2 y' hd hy' hg
          · subst hd; omega
    · rw [if_neg (fun z => q (one.mp z))]
      refine ⟨nI m, y_next (by omega) rfl (fun _ => rfl), m, rfl, m1, fun y' hd hy' hg => ?_, m3⟩
      rcases hd with hd | hd
      · exact m2 y' hd hy' hg
      · subst hd; exact absurd hg q) 99 ⟨99, rfl, by omega, fun y hd => hd.elim, Or.inl rfl⟩
  rw [a1, Option.bind_some, a2]
  refine ⟨m, by omega, by omega, ?_, fun p' q1 q2 => ?_⟩
  · rw [if_neg (show ¬ 99 < nI m from nI_nlt (a := 99) (b := m) (by omega) (by omega))]
  · have ep : p' = p := by
      by_cases w1 : p' < p
      · rw [p2 p' w1] at q1; cases q1
      · by_cases w2 : p < p'
        · rw [q2 p w2] at p1; cases p1
        · omega
    subst ep
    refine ⟨fun part t1 t2 t3 => ?_, ?_⟩
    · obtain ⟨y, hy⟩ : ∃ y, y = part &&& rest := ⟨_, rfl⟩
      have ysub : y &&& rest = y := by rw [hy]; exact and_idem _ _
      have ey : part = 2 ^ p' ||| y := by
        refine tb_ext (fun i => ?_)
        rw [pb, hy, Nat.testBit_and, rb]
        by_cases w : i = p'
        · subst w; rw [t2]; simp
        · cases b : part.testBit i
          · simp [w]
          · simp [w, and_sub t1 b]
      rw [ey] at t3 ⊢
      have := a4 y ysub ysub t3
      rw [dsub y ysub] at this
      exact this
    · rcases a5 with a5 | ⟨y, y1, y2, y3⟩
      · exact Or.inl a5
      · refine Or.inr ⟨2 ^ p' ||| y, psub y y1, by rw [pb]; simp, y2, ?_⟩
        rw [← dsub y y1]
        exact y3
