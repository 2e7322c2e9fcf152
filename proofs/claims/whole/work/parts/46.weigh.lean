/-! pure: what an END weighs, how far it is from level -/
def sumI (f : Nat → Int32) (s : Nat) : Nat → Int32
  | 0 => 0
  | n + 1 => sumI f s n + (if s.testBit n then f n else 0)
theorem sumI_congr {f g : Nat → Int32} {s t : Nat} : ∀ {n : Nat}, (∀ p, p < n → f p = g p) → (∀ p, p < n → s.testBit p = t.testBit p) → sumI f s n = sumI g t n
  | 0, _, _ => rfl
  | n + 1, h, h2 => by rw [sumI, sumI, sumI_congr (fun p hp => h p (by omega)) (fun p hp => h2 p (by omega)), h n (by omega), h2 n (by omega)]
noncomputable def LD (base : Int32) (W G : Nat → Int32) (m : Int32) (s n : Nat) : Int32 := base + sumI (fun p => f_X4_poundsAfter (W p) (G p) m) s n
theorem LD_congr {b : Int32} {W G W' G' : Nat → Int32} {m : Int32} {s n : Nat} (h : ∀ p, p < n → W p = W' p) (h2 : ∀ p, p < n → G p = G' p) : LD b W G m s n = LD b W' G' m s n := by
  unfold LD
  rw [sumI_congr (fun p hp => by rw [h p hp, h2 p hp]) (fun _ _ => rfl)]
theorem i32_a0 (x : Int32) : x + 0 = x := Int32.add_zero x
theorem i32_aa (x y z : Int32) : x + y + z = x + (y + z) := Int32.add_assoc x y z
theorem y_loadL {σ : St} {n s : Nat} (hn : σ 3 5 = nI n) (h8 : n ≤ 8) (hs : s < 2 ^ 31) (m b : Int32) : ∀ (N p : Nat), p ≤ n → n < N + p → f_X0_loadOf_3_4_9_L24 σ m (nI s) N (LD b (σ 4) (σ 9) m s p) (nI p) = some (LD b (σ 4) (σ 9) m s n) := by
  intro N
  induction N with
  | zero => intro p h1 h2; omega
  | succ N ih =>
    intro p h1 h2
    rw [f_X0_loadOf_3_4_9_L24, hn]
    by_cases q : n ≤ p
    · have : p = n := by omega
      subst this
      rw [if_pos (nI_le q (by omega))]
    · rw [if_neg (nI_ge (by omega) (by omega)), z_chk (by omega) (by omega), z_chk (by omega) (by omega), nI_clamp (by omega), nI_1]
      have e := ih (p + 1) (by omega) (by omega)
      unfold LD at e ⊢
      rw [sumI] at e
      by_cases z : s.testBit p = true
      · rw [if_neg (by rw [z_bit0 hs (by omega), z]; decide)]
        rw [if_pos z, ← i32_aa] at e
        exact e
      · have z : s.testBit p = false := by simpa using z
        rw [if_pos (by rw [z_bit0 hs (by omega)]; exact z)]
        rw [if_neg (by rw [z]; decide), i32_a0] at e
        exact e
theorem y_loadLc {σ : St} {n s : Nat} (hn : σ 3 5 = nI n) (h8 : n ≤ 8) (hs : s < 2 ^ 31) (m b : Int32) : ∀ (N p : Nat), p ≤ n → n < N + p → f_X0_loadOf_3_10_9_L24 σ m (nI s) N (LD b (σ 10) (σ 9) m s p) (nI p) = some (LD b (σ 10) (σ 9) m s n) := by
  intro N
  induction N with
  | zero => intro p h1 h2; omega
  | succ N ih =>
    intro p h1 h2
    rw [f_X0_loadOf_3_10_9_L24, hn]
    by_cases q : n ≤ p
    · have : p = n := by omega
      subst this
      rw [if_pos (nI_le q (by omega))]
    · rw [if_neg (nI_ge (by omega) (by omega)), z_chk (by omega) (by omega), z_chk (by omega) (by omega), nI_clamp (by omega), nI_1]
      have e := ih (p + 1) (by omega) (by omega)
      unfold LD at e ⊢
      rw [sumI] at e
      by_cases z : s.testBit p = true
      · rw [if_neg (by rw [z_bit0 hs (by omega), z]; decide)]
        rw [if_pos z, ← i32_aa] at e
        exact e
      · have z : s.testBit p = false := by simpa using z
        rw [if_pos (by rw [z_bit0 hs (by omega)]; exact z)]
        rw [if_neg (by rw [z]; decide), i32_a0] at e
        exact e
theorem LD_0 (b : Int32) (W G : Nat → Int32) (m : Int32) (s : Nat) : LD b W G m s 0 = b := by unfold LD; rw [sumI, i32_a0]
def liI (e : Nat) (li : Int32) : Int32 := if e = 0 then li else 0
theorem y_load {σ : St} {n c e : Nat} (hn : σ 3 5 = nI n) (h8 : n ≤ 8) (hc : c < 2 ^ 24) (he : e < 3) (m : Int32) : f_X0_loadOf_3_4_9 σ (nI c) (nI e) m = some (LD (liI e (σ 3 4)) (σ 4) (σ 9) m (sit c e) n) := by
  have := fuel_ge
  have hs : sit c e < 2 ^ 31 := by have := sit_lt c e; omega
  unfold f_X0_loadOf_3_4_9 f_X0_loadOf_3_4_9_J19 liI
  rw [y_sit hc he, show (0 : Int32) = nI 0 from rfl]
  by_cases z : e = 0
  · subst z
    rw [if_pos rfl, if_pos rfl]
    have e := y_loadL hn h8 hs m (σ 3 4) fuel 0 (by omega) (by omega)
    rw [LD_0] at e
    rw [e]
    rfl
  · rw [if_neg (by rw [z_eq (by omega) (by omega)]; exact z), if_neg z]
    have e := y_loadL hn h8 hs m (nI 0) fuel 0 (by omega) (by omega)
    rw [LD_0] at e
    rw [e]
    rfl
theorem y_loadc {σ : St} {n c e : Nat} (hn : σ 3 5 = nI n) (h8 : n ≤ 8) (hc : c < 2 ^ 24) (he : e < 3) (m : Int32) : f_X0_loadOf_3_10_9 σ (nI c) (nI e) m = some (LD (liI e (σ 3 4)) (σ 10) (σ 9) m (sit c e) n) := by
  have := fuel_ge
  have hs : sit c e < 2 ^ 31 := by have := sit_lt c e; omega
  unfold f_X0_loadOf_3_10_9 f_X0_loadOf_3_10_9_J19 liI
  rw [y_sit hc he, show (0 : Int32) = nI 0 from rfl]
  by_cases z : e = 0
  · subst z
    rw [if_pos rfl, if_pos rfl]
    have e := y_loadLc hn h8 hs m (σ 3 4) fuel 0 (by omega) (by omega)
    rw [LD_0] at e
    rw [e]
    rfl
  · rw [if_neg (by rw [z_eq (by omega) (by omega)]; exact z), if_neg z]
    have e := y_loadLc hn h8 hs m (nI 0) fuel 0 (by omega) (by omega)
    rw [LD_0] at e
    rw [e]
    rfl
/-- whose weights the reference takes -/
def wtM (τ : St) (cl : Int32) : Nat → Int32 := fun p => if cl = 0 then τ 4 (3 * p) else τ 6 p
theorem y_weightOf {τ : St} {p : Nat} (hp : p < 8) (m cl : Int32) : f_X5_weightOf τ (nI p) m cl = some (f_X4_poundsAfter (wtM τ cl p) (τ 5 p) m) := by
  unfold f_X5_weightOf f_X5_weightOf_J21 f_X4_poundsAfter wtM
  rw [y_3p hp, z_chk (show 3 * p < 24 by omega) (by omega), z_chk (show p < 8 by omega) (by omega), z_chk (show p < 8 by omega) (by omega), z_chk (show p < 8 by omega) (by omega), nI_clamp (by omega), nI_clamp (by omega), Int32.mul_comm m]
  split <;> split <;> rfl
theorem y_heavyL {τ : St} {n s : Nat} (hn : τ 0 5 = nI n) (h8 : n ≤ 8) (hs : s < 2 ^ 31) (m cl b : Int32) : ∀ (N p : Nat), p ≤ n → n < N + p → f_X5_heavy_L19 τ (nI s) m cl N (LD b (wtM τ cl) (τ 5) m s p) (nI p) = some (LD b (wtM τ cl) (τ 5) m s n) := by
  intro N
  induction N with
  | zero => intro p h1 h2; omega
  | succ N ih =>
    intro p h1 h2
    rw [f_X5_heavy_L19, hn]
    by_cases q : n ≤ p
    · have : p = n := by omega
      subst this
      rw [if_pos (nI_le q (by omega))]
    · rw [if_neg (nI_ge (by omega) (by omega)), y_weightOf (by omega), Option.bind_some, nI_1]
      have e := ih (p + 1) (by omega) (by omega)
      unfold LD at e ⊢
      rw [sumI] at e
      by_cases z : s.testBit p = true
      · rw [if_pos (by rw [z_bit1 hs (by omega)]; exact z)]
        rw [if_pos z, ← i32_aa] at e
        exact e
      · have z : s.testBit p = false := by simpa using z
        rw [if_neg (by rw [z_bit1 hs (by omega), z]; decide)]
        rw [if_neg (by rw [z]; decide), ← i32_aa] at e
        exact e
theorem y_heavy {τ : St} {n s e : Nat} (hn : τ 0 5 = nI n) (h8 : n ≤ 8) (hs : s < 2 ^ 31) (he : e < 3) (m cl : Int32) : f_X5_heavy τ (nI s) (nI e) m cl = some (LD (liI e (τ 3 4)) (wtM τ cl) (τ 5) m s n) := by
  have := fuel_ge
  unfold f_X5_heavy f_X5_heavy_J14 liI
  rw [show (0 : Int32) = nI 0 from rfl]
  by_cases z : e = 0
  · subst z
    rw [if_pos rfl, if_pos rfl]
    have e := y_heavyL hn h8 hs m cl (τ 3 4) fuel 0 (by omega) (by omega)
    rw [LD_0] at e
    rw [e]
    rfl
  · rw [if_neg (by rw [z_eq (by omega) (by omega)]; exact z), if_neg z]
    have e := y_heavyL hn h8 hs m cl (nI 0) fuel 0 (by omega) (by omega)
    rw [LD_0] at e
    rw [e]
    rfl
/-- the class's way to say how far it is from level -/
def offI (en a b x y z : Int32) : Int32 := if en = 2 then a * x - b * y else (if x < (if y < z then z else y) then (if y < z then z else y) else x) - (if (if z < y then z else y) < x then (if z < y then z else y) else x)
theorem y_off (τ : St) (x y z : Int32) : f_X5_offOf τ x y z = offI (τ 3 0) (τ 3 1) (τ 3 2) x y z := by
  have e1 : (if x < (if y < z then z else y) then (if y < z then z else y) else x) = (if z ≤ (if x ≤ y then y else x) then (if x ≤ y then y else x) else z) := by
    refine Int32.toInt_inj.mp ?_
    simp only [Int32.lt_iff_toInt_lt, Int32.le_iff_toInt_le]
    repeat' split
    all_goals first | rfl | omega
  have e2 : (if (if z < y then z else y) < x then (if z < y then z else y) else x) = (if (if y ≤ x then y else x) ≤ z then (if y ≤ x then y else x) else z) := by
    refine Int32.toInt_inj.mp ?_
    simp only [Int32.lt_iff_toInt_lt, Int32.le_iff_toInt_le]
    repeat' split
    all_goals first | rfl | omega
  unfold f_X5_offOf offI f_X5_offOf_J38 f_X5_offOf_J50 f_X5_offOf_J64
  rw [e1, e2]
  by_cases h : τ 3 0 = 2
  · rw [if_pos h, if_pos h]
  · rw [if_neg h, if_neg h]
    by_cases h1 : x ≤ y
    · simp only [if_pos h1]
      by_cases h2 : y ≤ x
      · simp only [if_pos h2]
        by_cases h3 : z ≤ y
        · simp only [if_pos h3]
          split <;> rfl
        · simp only [if_neg h3]
          split <;> rfl
      · simp only [if_neg h2]
        by_cases h3 : z ≤ y
        · simp only [if_pos h3]
          split <;> rfl
        · simp only [if_neg h3]
          split <;> rfl
    · simp only [if_neg h1]
      by_cases h2 : y ≤ x
      · simp only [if_pos h2]
        by_cases h3 : z ≤ x
        · simp only [if_pos h3]
          split <;> rfl
        · simp only [if_neg h3]
          split <;> rfl
      · simp only [if_neg h2]
        by_cases h3 : z ≤ x
        · simp only [if_pos h3]
          split <;> rfl
        · simp only [if_neg h3]
          split <;> rfl
noncomputable def offG (en a b li : Int32) (W G : Nat → Int32) (n : Nat) (m : Int32) (s0 s1 s2 : Nat) : Int32 := offI en a b (LD li W G m s0 n) (LD 0 W G m s1 n) (LD 0 W G m s2 n)
theorem y_tilt {σ : St} {n c : Nat} (hn : σ 3 5 = nI n) (h8 : n ≤ 8) (hc : c < 2 ^ 24) (m : Int32) : f_X0_tiltOf_3_4_9 σ (nI c) m = some (offG (σ 3 0) (σ 3 1) (σ 3 2) (σ 3 4) (σ 4) (σ 9) n m (sit c 0) (sit c 1) (sit c 2)) := by
  unfold f_X0_tiltOf_3_4_9 offG offI
  have e0 := y_load hn h8 hc (e := 0) (by omega) m
  have e1 := y_load hn h8 hc (e := 1) (by omega) m
  have e2 := y_load hn h8 hc (e := 2) (by omega) m
  rw [show (nI 0 : Int32) = 0 from rfl] at e0
  rw [show (nI 1 : Int32) = 1 from rfl] at e1
  rw [show (nI 2 : Int32) = 2 from rfl] at e2
  rw [e0, e1, e2, Option.bind_some, Option.bind_some, Option.bind_some]
  show (if σ 3 0 = 2 then some _ else some _) = some _
  split <;> rfl
theorem y_tiltc {σ : St} {n c : Nat} (hn : σ 3 5 = nI n) (h8 : n ≤ 8) (hc : c < 2 ^ 24) (m : Int32) : f_X0_tiltOf_3_10_9 σ (nI c) m = some (offG (σ 3 0) (σ 3 1) (σ 3 2) (σ 3 4) (σ 10) (σ 9) n m (sit c 0) (sit c 1) (sit c 2)) := by
  unfold f_X0_tiltOf_3_10_9 offG offI
  have e0 := y_loadc hn h8 hc (e := 0) (by omega) m
  have e1 := y_loadc hn h8 hc (e := 1) (by omega) m
  have e2 := y_loadc hn h8 hc (e := 2) (by omega) m
  rw [show (nI 0 : Int32) = 0 from rfl] at e0
  rw [show (nI 1 : Int32) = 1 from rfl] at e1
  rw [show (nI 2 : Int32) = 2 from rfl] at e2
  rw [e0, e1, e2, Option.bind_some, Option.bind_some, Option.bind_some]
  show (if σ 3 0 = 2 then some _ else some _) = some _
  split <;> rfl
/-- level at leaving and when it is there -/
def levG (en a b li : Int32) (W G : Nat → Int32) (n : Nat) (mi : Int32) (s0 s1 s2 : Nat) : Prop := offG en a b li W G n 0 s0 s1 s2 = 0 ∧ offG en a b li W G n mi s0 s1 s2 = 0
theorem y_lev {σ : St} {n c : Nat} (hn : σ 3 5 = nI n) (h8 : n ≤ 8) (hc : c < 2 ^ 24) : (levG (σ 3 0) (σ 3 1) (σ 3 2) (σ 3 4) (σ 4) (σ 9) n (σ 7 4) (sit c 0) (sit c 1) (sit c 2) ∧ f_X0_isLevel_3_4_7 σ (nI c) = some 1) ∨ (¬ levG (σ 3 0) (σ 3 1) (σ 3 2) (σ 3 4) (σ 4) (σ 9) n (σ 7 4) (sit c 0) (sit c 1) (sit c 2) ∧ f_X0_isLevel_3_4_7 σ (nI c) = some 0) := by
  unfold f_X0_isLevel_3_4_7 levG
  rw [y_tilt hn h8 hc, y_tilt hn h8 hc, Option.bind_some, Option.bind_some]
  by_cases a : offG (σ 3 0) (σ 3 1) (σ 3 2) (σ 3 4) (σ 4) (σ 9) n 0 (sit c 0) (sit c 1) (sit c 2) = 0
  · by_cases b : offG (σ 3 0) (σ 3 1) (σ 3 2) (σ 3 4) (σ 4) (σ 9) n (σ 7 4) (sit c 0) (sit c 1) (sit c 2) = 0
    · exact Or.inl ⟨⟨a, b⟩, by rw [if_pos a, if_pos b]⟩
    · exact Or.inr ⟨fun h => b h.2, by rw [if_pos a, if_neg b]⟩
  · exact Or.inr ⟨fun h => a h.1, by rw [if_neg a]⟩
theorem y_levc {σ : St} {n c : Nat} (hn : σ 3 5 = nI n) (h8 : n ≤ 8) (hc : c < 2 ^ 24) : (levG (σ 3 0) (σ 3 1) (σ 3 2) (σ 3 4) (σ 10) (σ 9) n (σ 7 4) (sit c 0) (sit c 1) (sit c 2) ∧ f_X0_isLevel_3_10_7 σ (nI c) = some 1) ∨ (¬ levG (σ 3 0) (σ 3 1) (σ 3 2) (σ 3 4) (σ 10) (σ 9) n (σ 7 4) (sit c 0) (sit c 1) (sit c 2) ∧ f_X0_isLevel_3_10_7 σ (nI c) = some 0) := by
  unfold f_X0_isLevel_3_10_7 levG
  rw [y_tiltc hn h8 hc, y_tiltc hn h8 hc, Option.bind_some, Option.bind_some]
  by_cases a : offG (σ 3 0) (σ 3 1) (σ 3 2) (σ 3 4) (σ 10) (σ 9) n 0 (sit c 0) (sit c 1) (sit c 2) = 0
  · by_cases b : offG (σ 3 0) (σ 3 1) (σ 3 2) (σ 3 4) (σ 10) (σ 9) n (σ 7 4) (sit c 0) (sit c 1) (sit c 2) = 0
    · exact Or.inl ⟨⟨a, b⟩, by rw [if_pos a, if_pos b]⟩
    · exact Or.inr ⟨fun h => b h.2, by rw [if_pos a, if_neg b]⟩
  · exact Or.inr ⟨fun h => a h.1, by rw [if_neg a]⟩
theorem y_even {τ : St} {n s0 s1 s2 : Nat} (hn : τ 0 5 = nI n) (h8 : n ≤ 8) (h0 : s0 < 2 ^ 31) (h1 : s1 < 2 ^ 31) (h2 : s2 < 2 ^ 31) (m cl : Int32) : f_X5_isEven τ (nI s0) (nI s1) (nI s2) m cl = if offG (τ 3 0) (τ 3 1) (τ 3 2) (τ 3 4) (wtM τ cl) (τ 5) n m s0 s1 s2 = 0 then some 1 else some 0 := by
  unfold f_X5_isEven offG
  have e0 := y_heavy hn h8 h0 (e := 0) (by omega) m cl
  have e1 := y_heavy hn h8 h1 (e := 1) (by omega) m cl
  have e2 := y_heavy hn h8 h2 (e := 2) (by omega) m cl
  rw [show (nI 0 : Int32) = 0 from rfl] at e0
  rw [show (nI 1 : Int32) = 1 from rfl] at e1
  rw [show (nI 2 : Int32) = 2 from rfl] at e2
  rw [e0, e1, e2, Option.bind_some, Option.bind_some, Option.bind_some, y_off]
  rfl
theorem y_levM {τ : St} {n s0 s1 s2 : Nat} (hn : τ 0 5 = nI n) (h8 : n ≤ 8) (h0 : s0 < 2 ^ 31) (h1 : s1 < 2 ^ 31) (h2 : s2 < 2 ^ 31) (cl : Int32) : (levG (τ 3 0) (τ 3 1) (τ 3 2) (τ 3 4) (wtM τ cl) (τ 5) n (τ 0 9) s0 s1 s2 ∧ f_X5_isLevel τ (nI s0) (nI s1) (nI s2) cl = some 1) ∨ (¬ levG (τ 3 0) (τ 3 1) (τ 3 2) (τ 3 4) (wtM τ cl) (τ 5) n (τ 0 9) s0 s1 s2 ∧ f_X5_isLevel τ (nI s0) (nI s1) (nI s2) cl = some 0) := by
  unfold f_X5_isLevel levG
  rw [y_even hn h8 h0 h1 h2, y_even hn h8 h0 h1 h2]
  by_cases a : offG (τ 3 0) (τ 3 1) (τ 3 2) (τ 3 4) (wtM τ cl) (τ 5) n 0 s0 s1 s2 = 0
  · rw [if_pos a, Option.bind_some, if_neg i10]
    by_cases b : offG (τ 3 0) (τ 3 1) (τ 3 2) (τ 3 4) (wtM τ cl) (τ 5) n (τ 0 9) s0 s1 s2 = 0
    · exact Or.inl ⟨⟨a, b⟩, by rw [if_pos b, Option.bind_some, if_neg i10]⟩
    · exact Or.inr ⟨fun h => b h.2, by rw [if_neg b, Option.bind_some, if_pos rfl]⟩
  · exact Or.inr ⟨fun h => a h.1, by rw [if_neg a, Option.bind_some, if_pos rfl]⟩
