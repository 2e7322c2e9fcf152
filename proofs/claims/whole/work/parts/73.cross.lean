/-! pure: crossings, all -/
theorem chL_congr {g g' : Nat → Nat} {s : Nat} (h : chL g s) (hs : s < 2 ^ 32) (he : ∀ t, t ≤ s → g' t = g t) : chL g' s := by
  intro p p1 p2
  obtain ⟨a, b⟩ := h p p1 p2
  have le : ∀ part, part &&& s = part → part ≤ s := fun part q => by rw [← q]; exact Nat.and_le_right
  refine ⟨fun part q1 q2 q3 => ?_, ?_⟩
  · rw [he s (Nat.le_refl _), he _ (dif_le s part)]
    rw [he part (le part q1)] at q3
    exact a part q1 q2 q3
  · rw [he s (Nat.le_refl _)]
    rcases b with b | ⟨part, q1, q2, q3, q4⟩
    · exact Or.inl b
    · refine Or.inr ⟨part, q1, q2, ?_, ?_⟩
      · rw [he part (le part q1)]; exact q3
      · rw [he _ (dif_le s part)]; exact q4
theorem dif_self0 {s part : Nat} (hs : s < 2 ^ 32) (hp : part &&& s = part) (h : dif s part = 0) : part = s := by
  refine tb_ext (fun i => ?_)
  have := dif_tb (b := part) hs i
  rw [h, Nat.zero_testBit] at this
  cases a : s.testBit i
  · cases b : part.testBit i
    · rfl
    · rw [and_sub hp b] at a; cases a
  · rw [a] at this
    cases b : part.testBit i
    · rw [b] at this; cases this
    · rfl
theorem dif_ss {s : Nat} (hs : s < 2 ^ 32) : dif s s = 0 := by
  refine tb_ext (fun i => ?_)
  rw [dif_tb hs, Nat.zero_testBit]
  cases s.testBit i <;> rfl
theorem y_fcL {σ : St} {Wa n : Nat} (h8 : n ≤ 8) : ∀ (N y : Nat) (ρ : St), 1 ≤ y → y ≤ 2 ^ n → 2 ^ n < N + y → ρ 19 10 = nI (2 ^ n) → (∃ g, rowX ρ Wa g σ ∧ ∀ s, 0 < s → s < y → chL g s) → ∃ ρ', f_X2_findChains_L10 N ρ (nI y) = some ρ' ∧ (∀ x, x ≠ 23 → ρ' x = ρ x) ∧ ∃ g, rowX ρ' Wa g σ ∧ ∀ s, 0 < s → s < 2 ^ n → chL g s := by
  have hp28 := p28 h8
  intro N
  induction N with
  | zero => intro y ρ h1 h2; omega
  | succ N ih =>
    intro y ρ h1 h2 h3 h10 ⟨g, hR, hC⟩
    rw [f_X2_findChains_L10, h10]
    by_cases q : 2 ^ n ≤ y
    · have : y = 2 ^ n := by omega
      rw [if_pos (nI_le q (by omega))]
      rw [this] at hC
      exact ⟨ρ, rfl, fun _ _ => rfl, g, hR, hC⟩
    · obtain ⟨r1, r2, r3⟩ := id hR
      obtain ⟨y1, y2, y3⟩ := r1 y (by omega)
      rw [if_neg (nI_ge (by omega) (by omega)), z_chk (by omega) (by omega), nI_clamp (by omega), y1, nI_1]
      have one : (nI (g y) = 1) ↔ g y = 1 := by rw [show (1 : Int32) = nI 1 from rfl, z_eq (by omega) (by omega)]
      by_cases w : g y = 1
      · rw [if_pos (one.mpr w)]
        refine ih (y + 1) ρ (by omega) (by omega) (by omega) h10 ⟨g, hR, fun s s0 s1 => ?_⟩
        by_cases z : s = y
        · subst z
          intro p p1 p2
          refine ⟨fun part _ _ _ => by omega, Or.inr ⟨s, Nat.and_self s, p1, w, ?_⟩⟩
          rw [dif_ss (by omega), r2]
          exact w
        · exact hC s s0 (by omega)
      · obtain ⟨v, v1, v2, v3, v4⟩ := y_few hR (show 0 < y by omega) (by omega)
        rw [if_neg (fun z => w (one.mp z)), v3, Option.bind_some, z_chk (by omega) (by omega)]
        have g'e : ∀ t, t ≠ y → (fun s => if s = y then v else g s) t = g t := fun t ht => if_neg ht
        have g'y : (fun s => if s = y then v else g s) y = v := if_pos rfl
        have vn : v ≠ 1 := by
          intro z
          obtain ⟨p, p1, p2⟩ := low_ex y (by omega)
          rcases (v4 p p1 p2).2 with q1 | ⟨part, q1, q2, q3, q4⟩
          · omega
          · have d0 : g (dif y part) = 0 := by omega
            have dl := dif_le y part
            by_cases dz : dif y part = 0
            · have := dif_self0 (by omega) q1 dz
              rw [this] at q3
              exact w q3
            · have := r3 (dif y part) (by omega) (by omega)
              omega
        have hrow : rowX (up2 ρ 23 y (nI v)) Wa (fun s => if s = y then v else g s) σ := by
          refine ⟨fun s hs => ?_, ?_, fun s s0 s1 => ?_⟩
          · by_cases z : s = y
            · subst z
              rw [up2_s]
              show _ = nI (if s = s then v else g s) ∧ (if s = s then v else g s) ≤ 99 ∧ ((if s = s then v else g s) = 1 ↔ _)
              rw [if_pos rfl]
              exact ⟨rfl, v1, fun z => absurd z vn, fun z => absurd (y3.mpr z) w⟩
            · rw [up2_i z]
              show _ = nI (if s = y then v else g s) ∧ (if s = y then v else g s) ≤ 99 ∧ ((if s = y then v else g s) = 1 ↔ _)
              rw [if_neg z]
              exact r1 s hs
          · show (if 0 = y then v else g 0) = 0
            rw [if_neg (by omega)]
            exact r2
          · show 1 ≤ if s = y then v else g s
            by_cases z : s = y
            · rw [if_pos z]; exact v2
            · rw [if_neg z]; exact r3 s s0 s1
        have hch : ∀ s, 0 < s → s < y + 1 → chL (fun s => if s = y then v else g s) s := by
          intro s s0 s1
          by_cases z : s = y
          · subst z
            intro p p1 p2
            obtain ⟨t1, t2⟩ := v4 p p1 p2
            rw [g'y]
            refine ⟨fun part q1 q2 q3 => ?_, ?_⟩
            · by_cases e : part = s
              · rw [e, g'y] at q3
                exact absurd q3 vn
              · rw [g'e part e] at q3
                rw [g'e _ (by have := dif_lt (show s < 2 ^ 32 by omega) (tb_ne q2) q1; omega)]
                exact t1 part q1 q2 q3
            · rcases t2 with t2 | ⟨part, q1, q2, q3, q4⟩
              · exact Or.inl t2
              · refine Or.inr ⟨part, q1, q2, ?_, ?_⟩
                · rw [g'e part (fun z => by rw [z] at q3; exact w q3)]; exact q3
                · rw [g'e _ (by have := dif_lt (show s < 2 ^ 32 by omega) (tb_ne q2) q1; omega)]; exact q4
          · exact chL_congr (hC s s0 (by omega)) (by omega) (fun t ht => g'e t (by omega))
        obtain ⟨ρ', b1, b2, b3⟩ := ih (y + 1) (up2 ρ 23 y (nI v)) (by omega) (by omega) (by omega) h10 ⟨_, hrow, hch⟩
        exact ⟨ρ', b1, fun x hx => by rw [b2 x hx, up2_c hx], b3⟩
theorem y_fc {n k : Nat} {cr : Nat → Nat} {ρ τ : St} (h : InvW n k cr ρ τ) (h1 : ρ 19 14 = 1) : ∃ ρ', f_X2_findChains ρ = some ρ' ∧ InvW n k cr ρ' τ ∧ ρ' 19 14 = 1 ∧ ρ' 19 15 = 1 := by
  have hfu := fuel_ge
  have hS := Sx_of h
  have h8 := hS.1
  have hp28 := p28 h8
  obtain ⟨o1, o2, o3, -⟩ := h.2.2.2.2.2 (waN n cr k) (waN_is h8)
  obtain ⟨g1, g2, ⟨f, g3, g4⟩, g5⟩ := Pl_get h h1
  unfold f_X2_findChains
  rcases g4 with ⟨g4, g6⟩ | ⟨g4, -⟩
  · rw [if_pos g4]
    have h10 := g1.2.2.1
    rw [Sx_p hS] at h10
    have h21 : 1 ≤ 2 ^ n := Nat.one_le_two_pow
    obtain ⟨ρ1, a1, a2, g, a3, a4⟩ := y_fcL (σ := ρ) (Wa := waN n cr k) h8 fuel 1 ρ (by omega) (by omega) (by omega) h10 ⟨f, ⟨g3.1, g3.2, fun s s0 s1 => by have := g6 s s0 s1; omega⟩, fun s s0 s1 => absurd s1 (by omega)⟩
    rw [show (nI 1 : Int32) = 1 from rfl] at a1
    rw [a1, Option.bind_some]
    have keep : ∀ x, x ≠ 19 → x ≠ 23 → up2 ρ1 19 15 1 x = ρ x := fun x a b => by rw [up2_c a, a2 x b]
    have k19 : ∀ j, j ≠ 15 → up2 ρ1 19 15 1 19 j = ρ 19 j := fun j hj => by rw [up2_i hj, a2 19 (by omega)]
    have fe : Fe ρ (up2 ρ1 19 15 1) := Fe_of (fun x hx => keep x (by omega) (by omega))
    obtain ⟨t1, t2, t3, t4, t5, t6, t7, t8, t9, t10, t11, t12, t13⟩ := Fe_spec fe
    refine ⟨up2 ρ1 19 15 1, rfl, InvW_X h (fun x hx => keep x (by omega) (by omega)) ⟨?_, ?_, ?_, Or.inr ⟨?_, ?_, ?_, ⟨g, ?_, Or.inr ⟨up2_s, ?_⟩⟩, ?_⟩⟩, ?_, up2_s⟩
    · rw [keep 20 (by omega) (by omega)]; exact o1
    · rw [keep 21 (by omega) (by omega)]; exact o2
    · rw [keep 22 (by omega) (by omega)]; exact o3
    · rw [k19 14 (by omega)]; exact h1
    · unfold plOK
      rw [t1, t2, t3, t4, t5, t6, t8, k19 8 (by omega), k19 9 (by omega), k19 10 (by omega), k19 11 (by omega), keep 3 (by omega) (by omega), keep 20 (by omega) (by omega), keep 21 (by omega) (by omega), keep 22 (by omega) (by omega), keep 25 (by omega) (by omega), keep 26 (by omega) (by omega), keep 27 (by omega) (by omega)]
      exact g1
    · unfold plBest
      rw [t1, t7, t9, t11, k19 12 (by omega), k19 13 (by omega)]
      exact g2
    · unfold plFew
      rw [t10]
      exact ⟨a3.1, a3.2.1⟩
    · rw [t1, Sx_p hS, chain_W]
      exact chL_W hp28 a4 (fun s hs => (a3.1 s (by omega)).2.1)
    · unfold plMake
      rw [t12, t13, keep 24 (by omega) (by omega), k19 16 (by omega)]
      exact g5
    · rw [k19 14 (by omega)]; exact h1
  · rw [g4, if_neg i10]
    exact ⟨ρ, rfl, h, h1, g4⟩
/-! the reference's chains -/
theorem sub_loop1N {α : Type} (L : Nat → α → Int32 → Option α) (o : Nat) (I : (Nat → Prop) → α → Prop) (hend : ∀ N a, L (N + 1) a (nI 0) = some a)
    (hstep : ∀ N D y a, y ≠ 0 → y &&& o = y → I D a → ∃ a', L (N + 1) a (nI y) = L N a' (nI ((y - 1) &&& o)) ∧ I (fun s => D s ∨ s = y) a') : ∀ (N y : Nat) (a : α), y < N → y &&& o = y → I (fun s => s &&& o = s ∧ y < s) a → ∃ a', L N a (nI y) = some a' ∧ I (fun s => s &&& o = s ∧ 0 < s) a' := by
  intro N
  induction N with
  | zero => intro y a h; omega
  | succ N ih =>
    intro y a h1 h2 h3
    by_cases q : y = 0
    · subst q
      exact ⟨a, hend N a, h3⟩
    · obtain ⟨a', e1, e2⟩ := hstep N _ y a q h2 h3
      rw [e1]
      have le : (y - 1) &&& o ≤ y - 1 := Nat.and_le_left
      refine ih _ a' (by omega) (and_idem _ _) ?_
      have : (fun s => (s &&& o = s ∧ y < s) ∨ s = y) = (fun s => s &&& o = s ∧ (y - 1) &&& o < s) := by
        funext s
        refine propext ⟨?_, fun z => ?_⟩
        · rintro (z | z)
          · exact ⟨z.1, by omega⟩
          · subst z; exact ⟨h2, by omega⟩
        · by_cases w : s = y
          · exact Or.inr w
          · refine Or.inl ⟨z.1, ?_⟩
            by_cases w2 : s < y
            · have := sub_step y (Nat.lt_two_pow_self) h2 z.1 w2
              omega
            · omega
      rw [← this]
      exact e2
def chM (P : Nat → Prop) (h : Nat → Nat) (s : Nat) : Prop := (∀ part, part ≠ 0 → part &&& s = part → P part → h s ≤ h (dif s part) + 1) ∧ (h s = 99 ∨ ∃ part, part ≠ 0 ∧ part &&& s = part ∧ P part ∧ h s = h (dif s part) + 1)
theorem y_lfI {σ τ0 : St} {Wa n s : Nat} {h : Nat → Nat} (hM : ∀ t, t < 256 → (canP σ Wa t ∧ τ0 11 t = 1) ∨ (¬ canP σ Wa t ∧ τ0 11 t = 0)) (hs : s < 256) (hs0 : 0 < s) (hh : ∀ t, t < s → τ0 13 t = nI (h t) ∧ h t ≤ 99) (h99 : τ0 13 s = 99) : ∃ τ', f_X5_layFewest_L35 (nI s) fuel τ0 (nI s) = some τ' ∧ (∀ x, x ≠ 13 → τ' x = τ0 x) ∧ (∀ t, t ≠ s → τ' 13 t = τ0 13 t) ∧ ∃ m, τ' 13 s = nI m ∧ m ≤ 99 ∧ (∀ y, y ≠ 0 → y &&& s = y → canP σ Wa y → m ≤ h (dif s y) + 1) ∧ (m = 99 ∨ ∃ y, y ≠ 0 ∧ y &&& s = y ∧ canP σ Wa y ∧ m = h (dif s y) + 1) := by
  have hfu := fuel_ge
  have fin := sub_loop1N (f_X5_layFewest_L35 (nI s)) s (fun D τ => (∀ x, x ≠ 13 → τ x = τ0 x) ∧ (∀ t, t ≠ s → τ 13 t = τ0 13 t) ∧ ∃ m, τ 13 s = nI m ∧ m ≤ 99 ∧ (∀ y, D y → y ≠ 0 → y &&& s = y → canP σ Wa y → m ≤ h (dif s y) + 1) ∧ (m = 99 ∨ ∃ y, y ≠ 0 ∧ y &&& s = y ∧ canP σ Wa y ∧ m = h (dif s y) + 1)) (fun N a => by rw [f_X5_layFewest_L35, if_pos (show nI 0 ≤ 0 by decide)]) (fun N D y a hy0 hy hI => by
    obtain ⟨k1, k2, m, m1, m2, m3, m4⟩ := hI
    have yl : y ≤ s := by rw [← hy]; exact Nat.and_le_right
    have dlt := dif_lt (show s < 2 ^ 32 by omega) hy0 hy
    have dz := z_not (a := s) y (by omega)
    rw [show s &&& (2 ^ 32 - 1 - y % 2 ^ 32) = dif s y from rfl] at dz
    obtain ⟨hd1, hd2⟩ := hh (dif s y) dlt
    rw [f_X5_layFewest_L35, if_neg (show ¬ nI y ≤ 0 from nI_ge (a := 0) (b := y) (by omega) (by omega)), z_chk (by omega) (by omega), nI_clamp (by omega), dz, z_chk (by omega) (by omega), nI_clamp (by omega), k1 11 (by omega), k2 (dif s y) (by omega), hd1, nI_1]
    have key : ∀ v, v ≤ 100 → (v = 99 ∨ (canP σ Wa y ∧ v = h (dif s y) + 1)) → (canP σ Wa y → v ≤ h (dif s y) + 1) → ∃ a', f_X5_layFewest_J65_35 a (nI s) (nI y) (nI v) (f_X5_layFewest_L35 (nI s) N) = f_X5_layFewest_L35 (nI s) N a' (nI ((y - 1) &&& s)) ∧ (∀ x, x ≠ 13 → a' x = τ0 x) ∧ (∀ t, t ≠ s → a' 13 t = τ0 13 t) ∧ ∃ m, a' 13 s = nI m ∧ m ≤ 99 ∧ (∀ y', D y' ∨ y' = y → y' ≠ 0 → y' &&& s = y' → canP σ Wa y' → m ≤ h (dif s y') + 1) ∧ (m = 99 ∨ ∃ y, y ≠ 0 ∧ y &&& s = y ∧ canP σ Wa y ∧ m = h (dif s y) + 1) := by
      intro v v1 v2 v3
      unfold f_X5_layFewest_J65_35
      rw [z_chk (by omega) (by omega), z_chk (by omega) (by omega), z_chk (by omega) (by omega), z_chk (by omega) (by omega), nI_clamp (by omega), up2_self, show nI y - 1 = nI (y - 1) from pk_sub (a := y) (b := 1) (Nat.one_le_iff_ne_zero.mpr hy0), z_and, m1]
      simp only [z_le (show m < 2 ^ 31 by omega) (show v < 2 ^ 31 by omega)]
      by_cases w : m ≤ v
      · rw [if_pos w]
        refine ⟨a, rfl, k1, k2, m, m1, m2, fun y' hd n0 n1 n2 => ?_, m4⟩
        rcases hd with hd | hd
        · exact m3 y' hd n0 n1 n2
        · subst hd; have := v3 n2; omega
      · rw [if_neg w]
        refine ⟨up2 a 13 s (nI v), rfl, fun x hx => by rw [up2_c hx]; exact k1 x hx, fun t ht => by rw [up2_i ht]; exact k2 t ht, v, up2_s, by omega, fun y' hd n0 n1 n2 => ?_, ?_⟩
        · rcases hd with hd | hd
          · have := m3 y' hd n0 n1 n2; omega
          · subst hd; exact v3 n2
        · rcases v2 with v2 | ⟨v2, v4⟩
          · exact Or.inl v2
          · exact Or.inr ⟨y, hy0, hy, v2, v4⟩
    rcases hM y (by omega) with ⟨c, e⟩ | ⟨c, e⟩
    · rw [e, if_neg i10]
      exact key (h (dif s y) + 1) (by omega) (Or.inr ⟨c, rfl⟩) (fun _ => Nat.le_refl _)
    · rw [e, if_pos rfl]
      exact key 99 (by omega) (Or.inl rfl) (fun z => absurd z c)) fuel s τ0 (by omega) (Nat.and_self s) ⟨fun _ _ => rfl, fun _ _ => rfl, 99, h99, by omega, fun y hd => by
        have : y &&& s ≤ s := Nat.and_le_right
        omega, Or.inl rfl⟩
  obtain ⟨τ', a1, a2, a3, m, m1, m2, m3, m4⟩ := fin
  exact ⟨τ', a1, a2, a3, m, m1, m2, fun y n0 n1 n2 => m3 y ⟨n1, by omega⟩ n0 n1 n2, m4⟩
theorem y_lfL {σ : St} {Wa : Nat} : ∀ (N s : Nat) (τ : St), s ≤ 256 → 256 < N + s → (∀ t, t < 256 → (canP σ Wa t ∧ τ 11 t = 1) ∨ (¬ canP σ Wa t ∧ τ 11 t = 0)) → (∃ h, (∀ t, t < s → τ 13 t = nI (h t) ∧ h t ≤ 99) ∧ (0 < s → h 0 = 0) ∧ ∀ t, 0 < t → t < s → chM (canP σ Wa) h t) → ∃ τ', f_X5_layFewest_L10 N τ (nI s) = some τ' ∧ (∀ x, x ≠ 13 → τ' x = τ x) ∧ ∃ h, (∀ t, t < 256 → τ' 13 t = nI (h t) ∧ h t ≤ 99) ∧ h 0 = 0 ∧ ∀ t, 0 < t → t < 256 → chM (canP σ Wa) h t := by
  have hfu := fuel_ge
  intro N
  induction N with
  | zero => intro s τ h1 h2; omega
  | succ N ih =>
    intro s τ h1 h2 hM ⟨h, hh, h0, hc⟩
    rw [f_X5_layFewest_L10]
    by_cases q : s = 256
    · subst q
      rw [if_pos (show 256 ≤ nI 256 by decide)]
      exact ⟨τ, rfl, fun _ _ => rfl, h, hh, h0 (by omega), hc⟩
    · rw [if_neg (show ¬ 256 ≤ nI s from nI_ge (a := s) (b := 256) (by omega) (by omega))]
      unfold f_X5_layFewest_J32_10
      by_cases z : s = 0
      · subst z
        obtain ⟨M, hM1⟩ := y_fuel 1 (by omega)
        rw [if_pos (show nI 0 = 0 from rfl), z_chk (by omega) (by omega), nI_clamp (by omega), nI_1]
        have st : f_X5_layFewest_L35 (nI 0) fuel (up2 τ 13 0 0) (nI 0) = some (up2 τ 13 0 0) := by
          rw [hM1, f_X5_layFewest_L35, if_pos (show nI 0 ≤ 0 by decide)]
        rw [st, Option.bind_some]
        obtain ⟨τ', b1, b2, b3⟩ := ih (0 + 1) (up2 τ 13 0 0) (by omega) (by omega) hM ⟨fun _ => 0, fun t ht => by
          have : t = 0 := by omega
          subst this
          exact ⟨up2_s, Nat.zero_le _⟩, fun _ => rfl, fun t t0 t1 => absurd t1 (by omega)⟩
        exact ⟨τ', b1, fun x hx => by rw [b2 x hx, up2_c hx], b3⟩
      · have nz : ¬ nI s = 0 := by rw [show (0 : Int32) = nI 0 from rfl, z_eq (by omega) (by omega)]; exact z
        rw [if_neg nz, z_chk (by omega) (by omega), nI_clamp (by omega), nI_1]
        obtain ⟨τ1, a1, a2, a3, m, m1, m2, m3, m4⟩ := y_lfI (σ := σ) (Wa := Wa) (n := 0) (τ0 := up2 τ 13 s 99) (s := s) (h := h) hM (by omega) (by omega) (fun t ht => by rw [up2_i (by omega)]; exact hh t ht) up2_s
        rw [a1, Option.bind_some]
        have he : ∀ t, t ≠ s → (fun t => if t = s then m else h t) t = h t := fun t ht => if_neg ht
        have hes : (fun t => if t = s then m else h t) s = m := if_pos rfl
        obtain ⟨τ', b1, b2, b3⟩ := ih (s + 1) τ1 (by omega) (by omega) (fun t ht => by rw [a2 11 (by omega)]; exact hM t ht) ⟨fun t => if t = s then m else h t, fun t ht => by
          by_cases w : t = s
          · subst w
            show _ = nI (if t = t then m else h t) ∧ (if t = t then m else h t) ≤ 99
            rw [if_pos rfl]
            exact ⟨m1, m2⟩
          · show _ = nI (if t = s then m else h t) ∧ (if t = s then m else h t) ≤ 99
            rw [if_neg w, a3 t w, up2_i w]
            exact hh t (by omega), fun _ => by
          show (if 0 = s then m else h 0) = 0
          rw [if_neg (by omega)]
          exact h0 (by omega), fun t t0 t1 => by
          have le : ∀ part, part &&& t = part → part ≤ t := fun part q => by rw [← q]; exact Nat.and_le_right
          by_cases w : t = s
          · subst w
            refine ⟨fun part n0 n1 n2 => ?_, ?_⟩
            · have := dif_lt (show t < 2 ^ 32 by omega) n0 n1
              rw [hes, he _ (by omega)]
              exact m3 part n0 n1 n2
            · rw [hes]
              rcases m4 with m4 | ⟨y, n0, n1, n2, n3⟩
              · exact Or.inl m4
              · have := dif_lt (show t < 2 ^ 32 by omega) n0 n1
                refine Or.inr ⟨y, n0, n1, n2, ?_⟩
                rw [he _ (by omega)]
                exact n3
          · obtain ⟨c1, c2⟩ := hc t t0 (by omega)
            refine ⟨fun part n0 n1 n2 => ?_, ?_⟩
            · have := dif_le t part
              rw [he t w, he _ (by omega)]
              exact c1 part n0 n1 n2
            · rw [he t w]
              rcases c2 with c2 | ⟨y, n0, n1, n2, n3⟩
              · exact Or.inl c2
              · have := dif_le t y
                refine Or.inr ⟨y, n0, n1, n2, ?_⟩
                rw [he _ (by omega)]
                exact n3⟩
        exact ⟨τ', b1, fun x hx => by rw [b2 x hx, a2 x hx, up2_c hx], b3⟩
/-- both chains, side by side -/
theorem y_chains {n k : Nat} {cr : Nat → Nat} {ρ τ : St} (h : InvW n k cr ρ τ) (h1 : ρ 19 14 = 1) (h15 : ρ 19 15 = 1) : ∃ (τ' : St) (f : Nat → Nat), f_X5_layFewest τ = some τ' ∧ InvW n k cr ρ τ' ∧ (∀ s, s < 2 ^ n → ρ 23 s = nI (f s) ∧ τ' 13 s = nI (f s) ∧ f s ≤ 99) ∧ f 0 = 0 ∧ ∀ s, 2 ^ n ≤ s → s < 256 → τ' 13 s = 99 := by
  have hfu := fuel_ge
  have hS := Sx_of h
  have h8 := hS.1
  have hp28 := p28 h8
  obtain ⟨g1, g2, ⟨f, g3, g4⟩, g5⟩ := Pl_get h h1
  have gC : plChain n f := by
    rcases g4 with ⟨g4, -⟩ | ⟨-, g4⟩
    · rw [h15] at g4; exact absurd g4 i10
    · rw [Sx_p hS] at g4; exact g4
  obtain ⟨τ1, a1, a2, a3⟩ := y_choices h (waN_lt n cr k)
  obtain ⟨τ2, b1, b2, hh, b3, b4, b5⟩ := y_lfL (σ := ρ) (Wa := waN n cr k) fuel 0 τ1 (by omega) (by omega) a3.2.1 ⟨fun _ => 0, fun t ht => absurd ht (by omega), fun z => absurd z (by omega), fun t _ ht => absurd ht (by omega)⟩
  rw [show (nI 0 : Int32) = 0 from rfl] at b1
  have pos : ∀ s, 0 < s → s < 256 → 1 ≤ hh s := fun s s0 s1 => by
    rcases (b5 s s0 s1).2 with q | ⟨_, _, _, _, q⟩ <;> omega
  have one : ∀ s, s < 256 → (hh s = 1 ↔ canP ρ (waN n cr k) s) := fun s hs => by
    constructor
    · intro z
      by_cases s0 : s = 0
      · rw [s0, b4] at z; omega
      · rcases (b5 s (by omega) hs).2 with q | ⟨part, n0, n1, n2, n3⟩
        · omega
        · have dl := dif_le s part
          by_cases dz : dif s part = 0
          · rw [← dif_self0 (by omega) n1 dz]; exact n2
          · have := pos (dif s part) (by omega) (by omega)
            omega
    · intro z
      have sp := (can_pos hS z).1
      have := (b5 s sp hs).1 s (by omega) (Nat.and_self s) z
      rw [dif_ss (by omega), b4] at this
      have := pos s sp hs
      omega
  have hW : ∀ s, 0 < s → s < 2 ^ n → chW hh s := fun s s0 s1 => by
    obtain ⟨c1, c2⟩ := b5 s s0 (by omega)
    have le : ∀ part, part &&& s = part → part < 256 := fun part q => sub_lt q (by omega)
    refine ⟨fun part n0 n1 n2 => c1 part n0 n1 ((one part (le part n1)).mp n2), ?_⟩
    rcases c2 with c2 | ⟨part, n0, n1, n2, n3⟩
    · exact Or.inl c2
    · exact Or.inr ⟨part, n0, n1, (one part (le part n1)).mpr n2, n3⟩
  have same := ch_same hp28 (chain_W.mp gC) hW (by rw [g3.2, b4]) (fun s hs => (g3.1 s (by omega)).2.1) (fun s hs => (b3 s (by omega)).2) (fun s hs => ((g3.1 s (by omega)).2.2).trans (one s (by omega)).symm)
  have big : ∀ s, 2 ^ n ≤ s → s < 256 → hh s = 99 := by
    intro s
    induction s using Nat.strongRecOn with
    | ind s ih =>
      intro s0 s1
      have hpos : 0 < 2 ^ n := Nat.two_pow_pos n
      rcases (b5 s (by omega) s1).2 with q | ⟨part, n0, n1, n2, n3⟩
      · exact q
      · exfalso
        have pl := (can_pos hS n2).2
        have dl := dif_lt (show s < 2 ^ 32 by omega) n0 n1
        have db : 2 ^ n ≤ dif s part := by
          by_cases w : 2 ^ n ≤ dif s part
          · exact w
          · exfalso
            have : s < 2 ^ n := by
              refine Nat.lt_pow_two_of_testBit _ (fun i hi => ?_)
              have e := dif_tb (a := s) (b := part) (by omega) i
              rw [tb_big (show dif s part < 2 ^ n by omega) hi, tb_big pl hi] at e
              simpa using e.symm
            omega
        have := ih (dif s part) dl db (by omega)
        have := (b3 s s1).2
        omega
  unfold f_X5_layFewest
  rw [y_waitW h, Option.bind_some, a1, Option.bind_some, b1]
  refine ⟨τ2, f, rfl, InvW_M a2 (by rw [b2 0 (by omega)]) (by rw [b2 0 (by omega)]) (by rw [b2 0 (by omega)]) (by rw [b2 0 (by omega)]) (fun x _ _ => b2 x (by omega)) (fun x _ => b2 x (by omega)), fun s hs => ⟨(g3.1 s (by omega)).1, ?_, (g3.1 s (by omega)).2.1⟩, g3.2, fun s s0 s1 => ?_⟩
  · rw [same s hs]; exact (b3 s (by omega)).1
  · rw [(b3 s s1).1, big s s0 s1]; rfl
theorem y_crT {τ : St} {n x m : Nat} (hx : x ≤ 4) (hb : ∀ s, 2 ^ n ≤ s → s < 256 → τ 13 s = 99) : ∀ (N s : Nat), 2 ^ n ≤ s → s ≤ 256 → 256 < N + s → f_X5_crossings_L23 τ (nI x) N (nI m) (nI s) = some (nI m) := by
  intro N
  induction N with
  | zero => intro s h1 h2; omega
  | succ N ih =>
    intro s h1 h2 h3
    rw [f_X5_crossings_L23]
    by_cases q : s = 256
    · subst q
      rw [if_pos (show 256 ≤ nI 256 by decide)]
    · rw [if_neg (show ¬ 256 ≤ nI s from nI_ge (a := s) (b := 256) (by omega) (by omega)), z_chk (by omega) (by omega), nI_clamp (by omega), hb s h1 (by omega), if_pos (show nI x < 99 from nI_lt (b := 99) (by omega) (by omega)), nI_1]
      exact ih (s + 1) (by omega) (by omega) (by omega)
theorem y_crL {n k : Nat} {cr : Nat → Nat} {ρ τ : St} {x : Nat} {f : Nat → Nat} (h : InvW n k cr ρ τ) (hO : plOK ρ (waN n cr k)) (hx : x ≤ 4) (hf : ∀ s, s < 2 ^ n → ρ 23 s = nI (f s) ∧ τ 13 s = nI (f s) ∧ f s ≤ 99) (hb : ∀ s, 2 ^ n ≤ s → s < 256 → τ 13 s = 99) : ∀ (N s m : Nat), s ≤ 2 ^ n → 256 < N + s → m ≤ 72 → ∃ m', f_X2_faresWithin_L4 ρ (nI x) N (nI m) (nI s) = some (nI m') ∧ f_X5_crossings_L23 τ (nI x) N (nI m) (nI s) = some (nI m') := by
  have hS := Sx_of h
  have h8 := hS.1
  have hp28 := p28 h8
  have h10 := hO.2.2.1
  have hw := hO.2.2.2.2.2
  rw [Sx_p hS] at h10 hw
  intro N
  induction N with
  | zero => intro s m h1 h2; omega
  | succ N ih =>
    intro s m h1 h2 hm
    by_cases q : 2 ^ n ≤ s
    · refine ⟨m, ?_, y_crT hx hb (N + 1) s q (by omega) (by omega)⟩
      rw [f_X2_faresWithin_L4, h10, if_pos (nI_le q (by omega))]
    · obtain ⟨f1, f2, f3⟩ := hf s (by omega)
      have hfar := Sx_far hS s
      rw [f_X2_faresWithin_L4, f_X5_crossings_L23, h10, if_neg (nI_ge (by omega) (by omega)), if_neg (show ¬ 256 ≤ nI s from nI_ge (a := s) (b := 256) (by omega) (by omega)), z_chk (by omega) (by omega), z_chk (by omega) (by omega), nI_clamp (by omega), f1, f2, z_chk (by omega) (by omega), (hw s (by omega)).2.1, y_faresM h.2.1.2.2.1 h8 (by omega), far_rel h.2.1, hfar.2, Option.bind_some, Option.bind_some, nI_1]
      simp only [z_lt (show x < 2 ^ 31 by omega) (show f s < 2 ^ 31 by omega), z_lt (show m < 2 ^ 31 by omega) (show farP ρ s < 2 ^ 31 by omega), z_le (show farP ρ s < 2 ^ 31 by omega) (show m < 2 ^ 31 by omega)]
      by_cases w : x < f s
      · rw [if_pos w, if_pos w]
        exact ih (s + 1) m (by omega) (by omega) hm
      · rw [if_neg w, if_neg w]
        by_cases v : m < farP ρ s
        · rw [if_pos v, if_neg (show ¬ farP ρ s ≤ m by omega)]
          exact ih (s + 1) _ (by omega) (by omega) hfar.1
        · rw [if_neg v, if_pos (show farP ρ s ≤ m by omega)]
          exact ih (s + 1) m (by omega) (by omega) hm
theorem sp_crossings {σ τ : St} (h : Inv σ τ) (x1 : Int32) : ∃ (r : Int32) (σ2 : St) (τ2 : St), f_X4_crossings σ x1 = some (r, σ2) ∧ f_X5_crossings τ x1 = some (r, τ2) ∧ Inv σ2 τ2 := by
  have hfu := fuel_ge
  obtain ⟨n, k, cr, hW⟩ := id h
  unfold f_X4_crossings f_X5_crossings
  rcases y_rng x1 (lo := 1) (hi := 4) (lo' := 1) (hi' := 4) rfl rfl with ⟨q1, q2, q3⟩ | ⟨q1, q3⟩
  · have q0 : ¬ x1 < 0 := by rw [Int32.lt_iff_toInt_lt]; rw [Int32.le_iff_toInt_le] at q1; have : (1 : Int) ≤ x1.toInt := q1; show ¬ x1.toInt < 0; omega
    have n1 : ¬ x1 < 1 := y_nlt.mpr q1
    obtain ⟨x, hx, rfl⟩ := nI_of2 (x := x1) (M := 4) (n := 4) rfl q0 q2
    obtain ⟨ρ, a1, a2, a3⟩ := y_find hW
    obtain ⟨ρ', c1, c2, c3, c4⟩ := y_fc a2 a3
    obtain ⟨τ', f, d1, d2, d3, d4, d5⟩ := y_chains c2 c3 c4
    have hS := Sx_of c2
    have h8 := hS.1
    have hp28 := p28 h8
    have h21 : 1 ≤ 2 ^ n := Nat.one_le_two_pow
    obtain ⟨N, hN⟩ := y_fuel 1 (by omega)
    obtain ⟨m', e1, e2⟩ := y_crL d2 (Pl_get c2 c3).1 hx d3 d5 N 1 0 (by omega) (by omega) (by omega)
    have hX := y_crL d2 (Pl_get c2 c3).1 hx d3 d5
    have st : f_X5_crossings_L23 τ' (nI x) fuel 0 0 = some (nI m') := by
      have z0 : τ' 13 0 = 0 := by
        have := (d3 0 (by omega)).2.1
        rw [d4] at this
        exact this
      have fz := y_faresM (τ := τ') (s := 0) d2.2.1.2.2.1 h8 (by omega)
      rw [far_rel d2.2.1, (Sx_far hS 0).2] at fz
      have far0 : farP ρ' 0 = 0 := by
        unfold farP
        have s0 : ∀ f : Nat → Nat, ∀ m, sumN f 0 m = 0 := fun f m => by
          induction m with
          | zero => rfl
          | succ m ih => rw [sumN, ih, Nat.zero_testBit]; rfl
        exact s0 _ _
      rw [far0] at fz
      have fz : f_X5_fares τ' 0 = some 0 := fz
      have nx : ¬ nI x < 0 := nI_pos (by omega)
      rw [hN, f_X5_crossings_L23, if_neg (show ¬ (256 : Int32) ≤ 0 by decide), chk_in (show vp_in 0 256 from vp_in_nI (n := 0) (N := 256) (by omega) (by omega)), show τ' 13 ((0 : Int32).toNatClampNeg) = 0 from z0, if_neg nx, fz, Option.bind_some, if_pos (show (0 : Int32) ≤ 0 by decide)]
      exact e2
    have stX : ∃ m2, f_X2_faresWithin_L4 ρ' (nI x) fuel 0 1 = some (nI m2) ∧ m2 = m' := by
      obtain ⟨m2, e3, e4⟩ := hX fuel 1 0 (by omega) (by omega) (by omega)
      obtain ⟨m3, e5, e6⟩ := hX fuel 1 0 (by omega) (by omega) (by omega)
      refine ⟨m', ?_, rfl⟩
      have mono : ∀ (N s m r : Nat), f_X2_faresWithin_L4 ρ' (nI x) N (nI m) (nI s) = some (nI r) → True := fun _ _ _ _ _ => trivial
      obtain ⟨m4, e7, e8⟩ := hX (N + 1) 1 0 (by omega) (by omega) (by omega)
      rw [hN]
      have : nI m4 = nI m' := by
        have same : ∀ (N s m : Nat), s ≤ 256 → 256 < N + s → f_X5_crossings_L23 τ' (nI x) N (nI m) (nI s) = f_X5_crossings_L23 τ' (nI x) (N + 1) (nI m) (nI s) := by
          intro N
          induction N with
          | zero => intro s m h1 h2; omega
          | succ N ih =>
            intro s m h1 h2
            rw [f_X5_crossings_L23, f_X5_crossings_L23]
            by_cases q : s = 256
            · subst q
              rw [if_pos (show 256 ≤ nI 256 by decide), if_pos (show 256 ≤ nI 256 by decide)]
            · have hfar := Sx_far hS s
              rw [if_neg (show ¬ 256 ≤ nI s from nI_ge (a := s) (b := 256) (by omega) (by omega)), if_neg (show ¬ 256 ≤ nI s from nI_ge (a := s) (b := 256) (by omega) (by omega)), y_faresM d2.2.1.2.2.1 h8 (by omega), far_rel d2.2.1, hfar.2, nI_1]
              simp only [Option.bind_some]
              rw [ih (s + 1) m (by omega) (by omega), ih (s + 1) (farP ρ' s) (by omega) (by omega)]
        have := same N 1 0 (by omega) (by omega)
        rw [e2, e8] at this
        exact (Option.some.inj this).symm
      rw [← this]
      exact e7
    obtain ⟨m2, e3, rfl⟩ := stX
    unfold f_X2_faresWithin
    rw [if_neg n1, if_pos q2, a1, Option.bind_some, c1, Option.bind_some, e3, Option.bind_some, Option.bind_some, q3, if_neg i10]
    have hl : f_X5_layFewest τ = some τ' := d1
    rw [hl, Option.bind_some, st, Option.bind_some]
    exact ⟨_, ρ', τ', rfl, rfl, n, k, cr, d2⟩
  · refine ⟨-2, σ, τ, ?_, by rw [q3, if_pos rfl], h⟩
    by_cases z : x1 < 1
    · rw [if_pos z]
    · rw [if_neg z, if_neg (fun w => q1 ⟨y_nlt.mp z, w⟩)]
theorem sp_all {σ τ : St} (h : Inv σ τ) : ∃ (r : Int32) (σ2 : St) (τ2 : St), f_X4_all σ = some (r, σ2) ∧ f_X5_all τ = some (r, τ2) ∧ Inv σ2 τ2 := by
  obtain ⟨n, k, cr, hW⟩ := id h
  obtain ⟨ρ, a1, a2, a3⟩ := y_find hW
  obtain ⟨ρ', c1, c2, c3, c4⟩ := y_fc a2 a3
  obtain ⟨τ', f, d1, d2, d3, d4, d5⟩ := y_chains c2 c3 c4
  have hS := Sx_of c2
  have hp28 := p28 hS.1
  have wl := waN_lt n cr k
  obtain ⟨f1, f2, f3⟩ := d3 (waN n cr k) wl
  have e255 : nI (waN n cr k) &&& 255 = nI (waN n cr k) := by
    rw [show (255 : Int32) = nI 255 from rfl, z_and, show (255 : Nat) = 2 ^ 8 - 1 from rfl, Nat.and_two_pow_sub_one_eq_mod, Nat.mod_eq_of_lt (by omega)]
  unfold f_X4_all f_X5_all f_X2_fewestForAll
  rw [a1, Option.bind_some, c1, Option.bind_some, (Pl_get c2 c3).1.2.2.2.1, e255, z_chk (by omega) (by omega), nI_clamp (by omega), f1, d1, Option.bind_some, y_waitW d2, Option.bind_some, Option.bind_some, z_chk (by omega) (by omega), z_chk (by omega) (by omega), nI_clamp (by omega), f2]
  have e1 : (nI (f (waN n cr k)) = 99) ↔ f (waN n cr k) = 99 := by rw [show (99 : Int32) = nI 99 from rfl, z_eq (by omega) (by omega)]
  have e2 : (99 ≤ nI (f (waN n cr k))) ↔ f (waN n cr k) = 99 := by
    rw [show (99 : Int32) = nI 99 from rfl, z_le (by omega) (by omega)]
    omega
  by_cases q : f (waN n cr k) = 99
  · rw [if_pos (e1.mpr q), if_pos (e2.mpr q), Option.bind_some]
    exact ⟨_, ρ', τ', rfl, rfl, n, k, cr, d2⟩
  · rw [if_neg (fun z => q (e1.mp z)), if_neg (fun z => q (e2.mp z)), Option.bind_some]
    exact ⟨_, ρ', τ', rfl, rfl, n, k, cr, d2⟩
