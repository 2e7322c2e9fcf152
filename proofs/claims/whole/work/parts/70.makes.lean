/-! pure: what a make-weight makes -/
theorem nI_inj32 {a b : Nat} (ha : a < 2 ^ 32) (hb : b < 2 ^ 32) : nI a = nI b ↔ a = b := by
  constructor
  · intro h
    have h2 : (BitVec.ofNat 32 a).toNat = (BitVec.ofNat 32 b).toNat := congrArg (fun x : Int32 => x.toBitVec.toNat) h
    rw [BitVec.toNat_ofNat, BitVec.toNat_ofNat, Nat.mod_eq_of_lt ha, Nat.mod_eq_of_lt hb] at h2
    exact h2
  · intro h; rw [h]
def mxX (σ : St) (Wa n b : Nat) (D : Nat → Nat → Prop) (x m : Nat) : Prop := b ≤ m ∧ m ≤ 72 ∧ (∀ c e, D c e → gdM σ Wa n x c e → farP σ (allE n c) ≤ m) ∧ (m = b ∨ ∃ c e, D c e ∧ gdM σ Wa n x c e ∧ farP σ (allE n c) = m)
def MX (σ : St) (Wa n b : Nat) (D : Nat → Nat → Prop) (ρ : St) : Prop := ρ 24 0 = nI b ∧ ∀ x, 1 ≤ x → x ≤ 99 → ∃ m, ρ 24 x = nI m ∧ mxX σ Wa n b D x m
theorem mxX_congr {σ : St} {Wa n b x m : Nat} {D D' : Nat → Nat → Prop} (h : mxX σ Wa n b D x m) (hd : ∀ c e, gdM σ Wa n x c e → (D c e ↔ D' c e)) : mxX σ Wa n b D' x m := by
  obtain ⟨h1, h2, h3, h4⟩ := h
  refine ⟨h1, h2, fun c e a g => h3 c e ((hd c e g).mpr a) g, ?_⟩
  rcases h4 with h4 | ⟨c, e, a, g, f⟩
  · exact Or.inl h4
  · exact Or.inr ⟨c, e, (hd c e g).mp a, g, f⟩
/-- a make-weight at last, by what the others pull -/
theorem mk_pk {σ : St} {n code last x pull : Nat} (hS : Sx n σ) (hle : last < eP σ) (hpull : ∀ e, e < eP σ → e ≠ last → pull = pkX σ e (atE n code e)) (hx : x ≤ 99) : mkP σ code last x ↔ pull = pkX σ last (atE n code last) + armP σ last * x * 65537 := by
  obtain ⟨hz1, hz2, hz3⟩ := Sx_e hS
  have ax : armP σ last * x ≤ 297 := by
    have := (Sx_arm hS last).2
    calc armP σ last * x ≤ 3 * 99 := Nat.mul_le_mul this hx
      _ = 297 := rfl
  have b := fun t e => Sx_pull hS t e (atE n code e)
  unfold mkP
  rw [Sx_p hS]
  obtain ⟨g, hg, hgl⟩ : ∃ g, g < eP σ ∧ g ≠ last := by
    by_cases q : last = 0
    · exact ⟨1, by omega, by omega⟩
    · exact ⟨0, by omega, by omega⟩
  constructor
  · intro h
    rw [hpull g hg hgl]
    unfold pkX
    have key : ∀ t, t < 2 → pullP σ t g (atE n code g) = armP σ last * x + pullP σ t last (atE n code last) := fun t ht => by
      have h1 := h t ht g hg
      have h2 := h t ht last hle
      rw [if_neg hgl] at h1
      rw [if_pos rfl] at h2
      omega
    rw [key 0 (by omega), key 1 (by omega)]
    omega
  · intro h t ht e he
    have comp : ∀ e, e < eP σ → e ≠ last → pullP σ 0 e (atE n code e) = armP σ last * x + pullP σ 0 last (atE n code last) ∧ pullP σ 1 e (atE n code e) = armP σ last * x + pullP σ 1 last (atE n code last) := fun e he hne => by
      have h1 := hpull e he hne
      rw [h] at h1
      unfold pkX at h1
      have := b 0 e
      have := b 1 e
      have := b 0 last
      have := b 1 last
      omega
    have ct : ∀ e, e < eP σ → e ≠ last → pullP σ t e (atE n code e) = armP σ last * x + pullP σ t last (atE n code last) := fun e he hne => by
      have : t = 0 ∨ t = 1 := by omega
      rcases this with rfl | rfl
      · exact (comp e he hne).1
      · exact (comp e he hne).2
    by_cases q : e = last
    · rw [if_pos q, q]
      by_cases q0 : 0 = last
      · rw [if_pos q0, ← q0]
      · rw [if_neg q0, ct 0 (by omega) q0]; omega
    · rw [if_neg q, ct e he q]
      by_cases q0 : 0 = last
      · rw [if_pos q0, ← q0]; omega
      · rw [if_neg q0, ct 0 (by omega) q0]
theorem y_nmw {ρ : St} {s d a fa b : Nat} (hs : s < 256) (h21 : ρ 21 s = nI fa) (hfa : fa ≤ 72) (h24 : ρ 24 0 = nI b) (hb : b ≤ 72) (hd : d < 2 ^ 28) (hd0 : 0 < d) (ha : 1 ≤ a) (ha3 : a ≤ 3) (h24x : ∀ x, 1 ≤ x → x ≤ 99 → ∃ m, ρ 24 x = nI m ∧ m ≤ 72) : ∃ ρ', f_X2_noteMakeWeight ρ (nI s) (nI d) (nI a) = some ρ' ∧ ((ρ' = ρ ∧ (fa ≤ b ∨ ∀ x, 1 ≤ x → x ≤ 99 → d ≠ a * x * 65537)) ∨ (b < fa ∧ ∃ q m, 1 ≤ q ∧ q ≤ 99 ∧ d = a * q * 65537 ∧ ρ 24 q = nI m ∧ m ≤ 72 ∧ ρ' = up2 ρ 24 q (nI (max m fa)))) := by
  have na : ¬ nI a = 0 := by rw [show (0 : Int32) = nI 0 from rfl, z_eq (by omega) (by omega)]; omega
  have na1 : ¬ nI a < 1 := nI_nlt (b := 1) (by omega) (by omega)
  have eu : nI d &&& 65535 = nI (d % 65536) := by
    rw [show (65535 : Int32) = nI 65535 from rfl, z_and, show (65535 : Nat) = 2 ^ 16 - 1 from rfl, Nat.and_two_pow_sub_one_eq_mod]
  have hu : d % 65536 < 65536 := Nat.mod_lt _ (by omega)
  unfold f_X2_noteMakeWeight
  rw [z_chk (by omega) (by omega), nI_clamp (by omega), h21, h24, if_neg na1, eu, show nI (d % 65536) * 65537 = nI (d % 65536 * 65537) from pk_mul _ 65537, chz_ne na, chz_ne na]
  simp only [z_le (show fa < 2 ^ 31 by omega) (show b < 2 ^ 31 by omega)]
  by_cases q : fa ≤ b
  · rw [if_pos q]
    exact ⟨ρ, rfl, Or.inl ⟨rfl, Or.inl q⟩⟩
  rw [if_neg q]
  have inj := nI_inj32 (a := d % 65536 * 65537) (b := d) (by omega) (by omega)
  by_cases w : d % 65536 * 65537 = d
  · rw [if_pos (inj.mpr w)]
    have r : rem (nI (d % 65536)) (nI a) = nI (d % 65536 % a) := pk_rem (by omega) (by omega) (by omega)
    have dv : nI (d % 65536) / nI a = nI (d % 65536 / a) := pk_div (by omega) (by omega) (by omega)
    have hm : d % 65536 % a < a := Nat.mod_lt _ (by omega)
    have hda := Nat.div_add_mod (d % 65536) a
    have dle : d % 65536 / a ≤ d % 65536 := Nat.div_le_self _ _
    rw [r, dv]
    by_cases z : d % 65536 % a = 0
    · rw [z, if_pos (show nI 0 = 0 from rfl)]
      rw [z, Nat.add_zero] at hda
      simp only [show ((nI (d % 65536 / a) < 1) = (d % 65536 / a < 1)) from z_lt (b := 1) (by omega) (by omega), show ((99 < nI (d % 65536 / a)) = (99 < d % 65536 / a)) from z_lt (a := 99) (by omega) (by omega)]
      have uq : ∀ x, 1 ≤ x → x ≤ 99 → d = a * x * 65537 → x = d % 65536 / a := fun x h1 h2 he => by
        have l : a * x ≤ 3 * 99 := Nat.mul_le_mul ha3 h2
        have : d % 65536 = a * x := by omega
        rw [this, Nat.mul_div_cancel_left x (by omega)]
      by_cases q1 : d % 65536 / a < 1
      · rw [if_pos q1]
        exact ⟨ρ, rfl, Or.inl ⟨rfl, Or.inr (fun x h1 h2 he => by have := uq x h1 h2 he; omega)⟩⟩
      rw [if_neg q1]
      by_cases q2 : 99 < d % 65536 / a
      · rw [if_pos q2]
        exact ⟨ρ, rfl, Or.inl ⟨rfl, Or.inr (fun x h1 h2 he => by have := uq x h1 h2 he; omega)⟩⟩
      rw [if_neg q2, z_chk (by omega) (by omega), z_chk (by omega) (by omega), z_chk (by omega) (by omega), nI_clamp (by omega)]
      obtain ⟨m, m1, m2⟩ := h24x (d % 65536 / a) (by omega) (by omega)
      rw [m1]
      refine ⟨_, rfl, Or.inr ⟨by omega, d % 65536 / a, m, by omega, by omega, by rw [hda]; exact w.symm, m1, m2, ?_⟩⟩
      congr 1
      simp only [z_lt (show m < 2 ^ 31 by omega) (show fa < 2 ^ 31 by omega)]
      by_cases v : m < fa
      · rw [if_pos v, Nat.max_eq_right (by omega)]
      · rw [if_neg v, Nat.max_eq_left (by omega)]
    · have nz : ¬ nI (d % 65536 % a) = 0 := by rw [show (0 : Int32) = nI 0 from rfl, z_eq (by omega) (by omega)]; exact z
      rw [if_neg nz]
      refine ⟨ρ, rfl, Or.inl ⟨rfl, Or.inr (fun x h1 h2 he => z ?_)⟩⟩
      have l : a * x ≤ 3 * 99 := Nat.mul_le_mul ha3 h2
      have : d % 65536 = a * x := by omega
      rw [this, Nat.mul_mod_right]
  · rw [if_neg (fun z => w (inj.mp z))]
    refine ⟨ρ, rfl, Or.inl ⟨rfl, Or.inr (fun x h1 h2 he => w ?_)⟩⟩
    have l : a * x ≤ 3 * 99 := Nat.mul_le_mul ha3 h2
    omega
def VM (σ : St) (Wa n last c : Nat) : Prop := okP σ Wa c ∧ ∀ e e', e < eP σ → e' < eP σ → e ≠ last → e' ≠ last → pkX σ e (atE n c e) = pkX σ e' (atE n c e')
def JM (σ : St) (Wa n b last : Nat) (ρ0 : St) (D : Nat → Prop) (ρ : St) : Prop := ρ 19 = ρ0 19 ∧ ρ 23 = ρ0 23 ∧ MX σ Wa n b (fun c e => e < last ∨ (e = last ∧ D c)) ρ
theorem gd_VM {σ : St} {Wa n last c x : Nat} (hS : Sx n σ) (h : gdM σ Wa n x c last) : VM σ Wa n last c := by
  obtain ⟨h1, h2, h3, h4⟩ := h
  refine ⟨h1, fun e e' he he' n1 n2 => ?_⟩
  unfold mkP at h4
  rw [Sx_p hS] at h4
  rw [pkX_eq hS]
  have a0 := h4 0 (by omega) e he
  have b0 := h4 0 (by omega) e' he'
  have a1 := h4 1 (by omega) e he
  have b1 := h4 1 (by omega) e' he'
  rw [if_neg n1] at a0 a1
  rw [if_neg n2] at b0 b1
  omega
theorem Md1 {σ : St} {Wa n b last : Nat} {ρ0 : St} (hS : Sx n σ) (hX : SPX σ Wa n ρ0) (hle : last < eP σ) (hb : b ≤ 72) : Md σ Wa n last 1 ρ0 (VM σ Wa n last) (JM σ Wa n b last ρ0) := by
  have hp28 := p28 hS.1
  obtain ⟨hz1, hz2, hz3⟩ := Sx_e hS
  obtain ⟨s1, s2, s3⟩ := Sx_s hS
  have hl : last < 3 := by omega
  have cong : ∀ D D' ρ, JM σ Wa n b last ρ0 D ρ → (∀ c, VM σ Wa n last c → (D c ↔ D' c)) → JM σ Wa n b last ρ0 D' ρ := by
    rintro D D' ρ ⟨h1, h2, h3, h4⟩ hd
    refine ⟨h1, h2, h3, fun x x1 x2 => ?_⟩
    obtain ⟨m, m1, m2⟩ := h4 x x1 x2
    refine ⟨m, m1, mxX_congr m2 (fun c e g => ?_)⟩
    by_cases q : e = last
    · subst q
      have := hd c (gd_VM hS g)
      exact ⟨fun z => z.elim Or.inl (fun z => Or.inr ⟨rfl, this.mp z.2⟩), fun z => z.elim Or.inl (fun z => Or.inr ⟨rfl, this.mpr z.2⟩)⟩
    · exact ⟨fun z => z.elim Or.inl (fun z => absurd z.1 q), fun z => z.elim Or.inl (fun z => absurd z.1 q)⟩
  refine ⟨fun c hc => hc, cong, ?_⟩
  intro D ρ code cw pull y o hF hN hc4 hsub hcw h0 hco hcl hcr hpull hpop
  obtain ⟨j1, j2, j3, j4⟩ := id hN
  have hXa := hX.fr hF
  have yl : y < 2 ^ n := by rw [← hcl]; exact atE_lt n code _
  have lp := pop_le y
  have lk := pkX_lt hS last y
  obtain ⟨g, hg, hgl⟩ : ∃ g, g < eP σ ∧ g ≠ last := by
    by_cases q : last = 0
    · exact ⟨1, by omega, by omega⟩
    · exact ⟨0, by omega, by omega⟩
  have pl : pull < 2 ^ 28 := by
    rw [hpull g hg hgl]
    exact pkX_lt hS _ _
  have arm := Sx_arm hS last
  have la := allE_lt n code
  have hfa := (Sx_far hS (allE n code)).1
  have mk := fun x hx => mk_pk (x := x) hS hle hpull hx
  rw [hcl] at mk
  have skip : (∀ x, 1 ≤ x → x ≤ 99 → gdM σ Wa n x code last → farP σ (allE n code) ≤ b) → JM σ Wa n b last ρ0 (fun c => D c ∨ c = code) ρ := fun hn => by
    refine ⟨j1, j2, j3, fun x x1 x2 => ?_⟩
    obtain ⟨m, m1, m2, m3, m4, m5⟩ := j4 x x1 x2
    refine ⟨m, m1, m2, m3, fun c e hd gd => ?_, ?_⟩
    · rcases hd with hd | ⟨hd1, hd2 | hd2⟩
      · exact m4 c e (Or.inl hd) gd
      · exact m4 c e (Or.inr ⟨hd1, hd2⟩) gd
      · subst hd1; subst hd2
        have := hn x x1 x2 gd
        omega
    · rcases m5 with m5 | ⟨c, e, hd, gd, f⟩
      · exact Or.inl m5
      · refine Or.inr ⟨c, e, ?_, gd, f⟩
        rcases hd with hd | hd
        · exact Or.inl hd
        · exact Or.inr ⟨hd.1, Or.inl hd.2⟩
  have red : ∀ N, f_X2_tryLast_L23 (nI last) (nI cw) (nI pull) (nI 1) (nI (mem cw)) (nI o) (N + 1) ρ (nI y) = if pull ≤ pkX σ last y then f_X2_tryLast_J120_23 ρ (nI o) (nI y) (f_X2_tryLast_L23 (nI last) (nI cw) (nI pull) (nI 1) (nI (mem cw)) (nI o) N) else (if sP σ ≤ pop y then f_X2_tryLast_J120_23 ρ (nI o) (nI y) (f_X2_tryLast_L23 (nI last) (nI cw) (nI pull) (nI 1) (nI (mem cw)) (nI o) N) else ((f_X2_noteMakeWeight ρ (nI (allE n code)) (nI (pull - pkX σ last y)) (nI (armP σ last))).bind fun u14 => f_X2_tryLast_J120_23 u14 (nI o) (nI y) (f_X2_tryLast_L23 (nI last) (nI cw) (nI pull) (nI 1) (nI (mem cw)) (nI o) N))) := by
    intro N
    rw [f_X2_tryLast_L23, if_neg (nI_pos (by omega)), y_pullOf hS hXa hl yl, Option.bind_some, if_neg (show ¬ nI 1 = 0 by decide), z_chk (by omega) (by omega), nI_clamp (by omega), hXa.2.1, (hXa.2.2.2 y yl).2.2, z_chk (by omega) (by omega), nI_clamp (by omega), (hXa.2.2.1 last hl).2.1, z_or, ← hcl, mem_all hl h0 hco]
    rw [hcl]
    simp only [z_le (show sP σ < 2 ^ 31 by omega) (show pop y < 2 ^ 31 by omega)]
    have le : (nI pull - nI (pkX σ last y) ≤ 0) ↔ pull ≤ pkX σ last y := by
      rw [Int32.le_iff_toInt_le, pk_sub_toInt (by omega) (by omega)]
      show (pull : Int) - (pkX σ last y : Int) ≤ 0 ↔ _
      omega
    by_cases q : pull ≤ pkX σ last y
    · rw [if_pos (le.mpr q), if_pos q]
    · rw [if_neg (fun z => q (le.mp z)), if_neg q, pk_sub (by omega)]
  by_cases q : pull ≤ pkX σ last y
  · refine ⟨ρ, fun N => by rw [red N, if_pos q], hF, skip (fun x x1 x2 gd => ?_)⟩
    have := (mk x x2).mp gd.2.2.2
    have : 1 ≤ armP σ last * x := Nat.mul_pos arm.1 x1
    omega
  · by_cases q2 : sP σ ≤ pop y
    · refine ⟨ρ, fun N => by rw [red N, if_neg q, if_pos q2], hF, skip (fun x x1 x2 gd => ?_)⟩
      have := gd.2.2.1
      rw [hcl] at this
      omega
    · obtain ⟨ρ', r1, r2⟩ := y_nmw (ρ := ρ) (s := allE n code) (d := pull - pkX σ last y) (a := armP σ last) (fa := farP σ (allE n code)) (b := b) (by omega) (hXa.2.2.2 _ la).2.1 hfa j3 hb (by omega) (by omega) arm.1 arm.2 (fun x x1 x2 => by
        obtain ⟨m, m1, m2, m3, -⟩ := j4 x x1 x2
        exact ⟨m, m1, m3⟩)
      have dx : ∀ x, (pull = pkX σ last y + armP σ last * x * 65537) ↔ (pull - pkX σ last y = armP σ last * x * 65537) := fun x => by omega
      refine ⟨ρ', fun N => by rw [red N, if_neg q, if_neg q2, r1, Option.bind_some], ?_⟩
      rcases r2 with ⟨rfl, r3⟩ | ⟨r3, x, m, x1, x2, x3, x4, x5, rfl⟩
      · refine ⟨hF, skip (fun x x1 x2 gd => ?_)⟩
        rcases r3 with r3 | r3
        · exact r3
        · exact absurd ((dx x).mp ((mk x x2).mp gd.2.2.2)) (r3 x x1 x2)
      · refine ⟨⟨fun z a b c => by rw [up2_c c]; exact hF.1 z a b c, fun j a b => hF.2 j a b⟩, j1, j2, ?_, fun x' h1 h2 => ?_⟩
        · rw [up2_i (by omega)]; exact j3
        · have c0 : 0 < code := by
            by_cases z : code = 0
            · exfalso
              have a0 : allE n code = 0 := by
                rw [z]
                refine tb_ext (fun i => ?_)
                rw [allE_tb, Nat.zero_testBit]
                have : dig n 0 i = 0 := by unfold dig; simp
                rw [this]; simp
              have : farP σ 0 = 0 := by
                unfold farP
                have s0 : ∀ f : Nat → Nat, ∀ m, sumN f 0 m = 0 := fun f m => by
                  induction m with
                  | zero => rfl
                  | succ m ih => rw [sumN, ih, Nat.zero_testBit]; rfl
                exact s0 _ _
              rw [a0, this] at r3
              omega
            · omega
          have gd : gdM σ Wa n x code last := ⟨(ok_iff hS hc4).mpr ⟨c0, fun e he => by
            by_cases w : e = last
            · subst w; rw [hcl]; omega
            · exact hpop e he w, hsub⟩, hle, by rw [hcl]; omega, (mk x x2).mpr ((dx x).mpr x3)⟩
          by_cases z : x' = x
          · subst z
            obtain ⟨m', m1, m2, m3, m4, m5⟩ := j4 x' h1 h2
            have em : m = m' := by
              rw [x4, z_eq (by omega) (by omega)] at m1
              exact m1
            subst em
            refine ⟨max m (farP σ (allE n code)), up2_s, by omega, by omega, fun c e hd g => ?_, ?_⟩
            · rcases hd with hd | ⟨hd1, hd2 | hd2⟩
              · have := m4 c e (Or.inl hd) g; omega
              · have := m4 c e (Or.inr ⟨hd1, hd2⟩) g; omega
              · subst hd2; omega
            · by_cases v : m ≤ farP σ (allE n code)
              · exact Or.inr ⟨code, last, Or.inr ⟨rfl, Or.inr rfl⟩, gd, by omega⟩
              · rw [Nat.max_eq_left (by omega)]
                rcases m5 with m5 | ⟨c, e, hd, g, f⟩
                · exact Or.inl m5
                · refine Or.inr ⟨c, e, ?_, g, f⟩
                  rcases hd with hd | hd
                  · exact Or.inl hd
                  · exact Or.inr ⟨hd.1, Or.inl hd.2⟩
          · obtain ⟨m', m1, m2, m3, m4, m5⟩ := j4 x' h1 h2
            refine ⟨m', by rw [up2_i z]; exact m1, m2, m3, fun c e hd g => ?_, ?_⟩
            · rcases hd with hd | ⟨hd1, hd2 | hd2⟩
              · exact m4 c e (Or.inl hd) g
              · exact m4 c e (Or.inr ⟨hd1, hd2⟩) g
              · subst hd1; subst hd2
                exfalso
                have e1 := (dx x').mp ((mk x' h2).mp g.2.2.2)
                rw [x3] at e1
                have e2 : armP σ e * x = armP σ e * x' := by omega
                exact z (Nat.eq_of_mul_eq_mul_left (by omega) e2).symm
            · rcases m5 with m5 | ⟨c, e, hd, g, f⟩
              · exact Or.inl m5
              · refine Or.inr ⟨c, e, ?_, g, f⟩
                rcases hd with hd | hd
                · exact Or.inl hd
                · exact Or.inr ⟨hd.1, Or.inl hd.2⟩
