/-! pure: what the choices are -/
def In (x : Int32) (a b : Nat) : Prop := ∃ k : Nat, a ≤ k ∧ k ≤ b ∧ x = nI k
def nN (x : Int32) : Nat := x.toNatClampNeg
theorem nN_nI {k : Nat} (h : k < 2 ^ 31) : nN (nI k) = k := nI_clamp h
theorem In.nN {x : Int32} {a b : Nat} (h : In x a b) (hb : b < 2 ^ 31) : x = nI (nN x) ∧ a ≤ nN x ∧ nN x ≤ b := by
  obtain ⟨k, h1, h2, rfl⟩ := h
  rw [nN_nI (by omega)]
  exact ⟨rfl, h1, h2⟩
/-- the sum over those of a set -/
def sumN (f : Nat → Nat) (s : Nat) : Nat → Nat
  | 0 => 0
  | n + 1 => sumN f s n + (if s.testBit n then f n else 0)
def pP (σ : St) : Nat := nN (σ 3 5)
def eP (σ : St) : Nat := nN (σ 3 0)
def sP (σ : St) : Nat := nN (σ 3 3)
def armP (σ : St) (e : Nat) : Nat := if eP σ = 2 then (if e = 0 then nN (σ 3 1) else nN (σ 3 2)) else 1
def willP (σ : St) (e p : Nat) : Bool := decide (e < eP σ) && (decide (σ 6 p = nI 3) || decide (σ 6 p = nI e))
def w0P (σ : St) (p : Nat) : Nat := nN (σ 4 p)
noncomputable def w1P (σ : St) (p : Nat) : Nat := nN (f_X4_poundsAfter (σ 4 p) (σ 9 p) (σ 7 4))
def frP (σ : St) (p : Nat) : Nat := nN (σ 5 p)
def liP (σ : St) (e : Nat) : Nat := if e = 0 then nN (σ 3 4) else 0
/-- what an END pulls, at leaving (t = 0), at arriving (t = 1) -/
noncomputable def pullP (σ : St) (t e s : Nat) : Nat := armP σ e * (liP σ e + sumN (if t = 0 then w0P σ else w1P σ) s (pP σ))
/-- the people of Wa that will sit at e -/
def openP (σ : St) (Wa e : Nat) : Nat := bset (fun p => Wa.testBit p && willP σ e p) (pP σ)
/-- who sits where, as digits: 0 not chosen, e + 1 at END e -/
def dig (n code p : Nat) : Nat := code / 4 ^ (n - 1 - p) % 4
/-- those at an END -/
def atE (n code e : Nat) : Nat := bset (fun p => decide (dig n code p = e + 1)) n
def allE (n code : Nat) : Nat := bset (fun p => decide (dig n code p ≠ 0)) n
/-- a laying that may be: each waits, will sit there; no END has too many -/
def okP (σ : St) (Wa code : Nat) : Prop := 0 < code ∧ code < 4 ^ pP σ ∧ (∀ e, e < 3 → pop (atE (pP σ) code e) ≤ sP σ) ∧ ∀ p, p < pP σ → dig (pP σ) code p ≠ 0 → Wa.testBit p = true ∧ willP σ (dig (pP σ) code p - 1) p = true
def levP (σ : St) (code : Nat) : Prop := ∀ t, t < 2 → ∀ e, e < eP σ → pullP σ t e (atE (pP σ) code e) = pullP σ t 0 (atE (pP σ) code 0)
def chP (σ : St) (Wa code : Nat) : Prop := okP σ Wa code ∧ levP σ code
def canP (σ : St) (Wa s : Nat) : Prop := ∃ code, chP σ Wa code ∧ allE (pP σ) code = s
def farP (σ : St) (s : Nat) : Nat := sumN (frP σ) s (pP σ)
/-- a choice's fares and heads, as one number -/
def keyP (σ : St) (code : Nat) : Nat := farP σ (allE (pP σ) code) * 16 + pop (allE (pP σ) code)
/-- the best choice -/
def bestP (σ : St) (Wa code : Nat) : Prop := chP σ Wa code ∧ ∀ c, chP σ Wa c → keyP σ c < keyP σ code ∨ (keyP σ c = keyP σ code ∧ code ≤ c)
/-- most fares of a choice; 0 if there is none -/
def mostP (σ : St) (Wa m : Nat) : Prop := (∀ c, chP σ Wa c → farP σ (allE (pP σ) c) ≤ m) ∧ (m = 0 ∨ ∃ c, chP σ Wa c ∧ farP σ (allE (pP σ) c) = m)
/-- a make-weight of x pounds at e makes it level -/
def mkP (σ : St) (code e x : Nat) : Prop := ∀ t, t < 2 → ∀ e', e' < eP σ → (if e' = e then armP σ e * x else 0) + pullP σ t e' (atE (pP σ) code e') = (if 0 = e then armP σ e * x else 0) + pullP σ t 0 (atE (pP σ) code 0)
def makeP (σ : St) (Wa x m : Nat) : Prop := (∀ c e, okP σ Wa c → e < eP σ → pop (atE (pP σ) c e) < sP σ → mkP σ c e x → farP σ (allE (pP σ) c) ≤ m) ∧ (m = 0 ∨ ∃ c e, okP σ Wa c ∧ e < eP σ ∧ pop (atE (pP σ) c e) < sP σ ∧ mkP σ c e x ∧ farP σ (allE (pP σ) c) = m)
/-- a crew of the class, by its code -/
def crewC (n code : Nat) : Nat := atE n code 0 + 256 * atE n code 1 + 65536 * atE n code 2
/-- what the planner holds -/
def plOK (σ : St) (Wa : Nat) : Prop :=
  σ 19 8 = σ 3 0 ∧ σ 19 9 = σ 3 3 ∧ σ 19 10 = nI (2 ^ pP σ) ∧ σ 19 11 = nI Wa ∧
  (∀ e, e < 3 → σ 25 e = nI (openP σ Wa e) ∧ σ 26 e = nI (armP σ e) ∧ σ 27 e = nI (armP σ e * liP σ e * 65537)) ∧
  (∀ s, s < 2 ^ pP σ → σ 20 s = nI (sumN (w0P σ) s (pP σ) + 65536 * sumN (w1P σ) s (pP σ)) ∧ σ 21 s = nI (farP σ s) ∧ σ 22 s = nI (pop s))
def plBest (σ : St) (Wa : Nat) : Prop := (σ 19 12 = -1 ∧ σ 19 13 = 0 ∧ ∀ c, ¬ chP σ Wa c) ∨ ∃ c, bestP σ Wa c ∧ σ 19 12 = nI (keyP σ c) ∧ σ 19 13 = nI (crewC (pP σ) c)
def plFew (σ : St) (Wa : Nat) (f : Nat → Nat) : Prop := (∀ s, s < 256 → σ 23 s = nI (f s) ∧ f s ≤ 99 ∧ (f s = 1 ↔ canP σ Wa s)) ∧ f 0 = 0
def plNew (f : Nat → Nat) : Prop := ∀ s, 0 < s → s < 256 → f s = 1 ∨ f s = 99
/-- f counts the fewest choices -/
def plChain (n : Nat) (f : Nat → Nat) : Prop := ∀ s, 0 < s → s < 2 ^ n → (∀ part, part ≠ 0 → part &&& s = part → f part = 1 → f s ≤ f (s &&& (2 ^ 32 - 1 - part % 2 ^ 32)) + 1) ∧ (f s = 99 ∨ ∃ part, part ≠ 0 ∧ part &&& s = part ∧ f part = 1 ∧ f s = f (s &&& (2 ^ 32 - 1 - part % 2 ^ 32)) + 1)
def plMake (σ : St) (Wa : Nat) : Prop := ∀ x, 1 ≤ x → x ≤ 99 → ∃ m b, makeP σ Wa x m ∧ mostP σ Wa b ∧ σ 24 x = nI (max b m)
def PlR (σ : St) (Wa : Nat) : Prop := σ 20 0 = 0 ∧ σ 21 0 = 0 ∧ σ 22 0 = 0 ∧
  ((σ 19 14 = 0 ∧ σ 19 15 = 0 ∧ σ 19 16 = 0) ∨
   (σ 19 14 = 1 ∧ plOK σ Wa ∧ plBest σ Wa ∧ (∃ f, plFew σ Wa f ∧ ((σ 19 15 = 0 ∧ plNew f) ∨ (σ 19 15 = 1 ∧ plChain (pP σ) f))) ∧ (σ 19 16 = 0 ∨ (σ 19 16 = 1 ∧ plMake σ Wa))))
/-- the planner asks the ferry, the gains, the minutes, who waits, and its own cells -/
theorem PlR.congr {σ σ' : St} {Wa : Nat} (h : PlR σ Wa) (h3 : σ' 3 = σ 3) (h4 : σ' 4 = σ 4) (h5 : σ' 5 = σ 5) (h6 : σ' 6 = σ 6) (h7 : σ' 7 4 = σ 7 4) (h9 : σ' 9 = σ 9) (hp : ∀ x, 19 ≤ x → x < 28 → σ' x = σ x) : PlR σ' Wa := by
  have e1 : pP σ' = pP σ := by unfold pP; rw [h3]
  have e2 : eP σ' = eP σ := by unfold eP; rw [h3]
  have e3 : sP σ' = sP σ := by unfold sP; rw [h3]
  have e4 : armP σ' = armP σ := by funext e; unfold armP; rw [e2, h3]
  have e5 : willP σ' = willP σ := by funext e p; unfold willP; rw [e2, h6]
  have e6 : w0P σ' = w0P σ := by funext p; unfold w0P; rw [h4]
  have e7 : w1P σ' = w1P σ := by funext p; unfold w1P; rw [h4, h9, h7]
  have e8 : frP σ' = frP σ := by funext p; unfold frP; rw [h5]
  have e9 : liP σ' = liP σ := by funext p; unfold liP; rw [h3]
  have e10 : pullP σ' = pullP σ := by funext t e s; unfold pullP; rw [e4, e9, e6, e7, e1]
  have e11 : openP σ' = openP σ := by funext a e; unfold openP; rw [e5, e1]
  have e12 : okP σ' = okP σ := by funext a c; unfold okP; rw [e1, e3, e5]
  have e13 : levP σ' = levP σ := by funext c; unfold levP; rw [e10, e1, e2]
  have e14 : chP σ' = chP σ := by funext a c; unfold chP; rw [e12, e13]
  have e15 : canP σ' = canP σ := by funext a c; unfold canP; rw [e14, e1]
  have e16 : farP σ' = farP σ := by funext a; unfold farP; rw [e8, e1]
  have e17 : keyP σ' = keyP σ := by funext a; unfold keyP; rw [e16, e1]
  have e18 : bestP σ' = bestP σ := by funext a c; unfold bestP; rw [e14, e17]
  have e19 : mostP σ' = mostP σ := by funext a c; unfold mostP; rw [e14, e16, e1]
  have e20 : mkP σ' = mkP σ := by funext a b c; unfold mkP; rw [e2, e4, e10, e1]
  have e21 : makeP σ' = makeP σ := by funext a b c; unfold makeP; rw [e12, e2, e1, e3, e20, e16]
  have q19 := hp 19 (by omega) (by omega)
  unfold PlR plOK plBest plFew plMake at *
  rw [q19, hp 20 (by omega) (by omega), hp 21 (by omega) (by omega), hp 22 (by omega) (by omega), hp 23 (by omega) (by omega), hp 24 (by omega) (by omega), hp 25 (by omega) (by omega), hp 26 (by omega) (by omega), hp 27 (by omega) (by omega), h3, e1, e4, e6, e7, e9, e11, e14, e15, e16, e17, e18, e19, e21]
  exact h
theorem PlR.forget {σ : St} {Wa : Nat} (h : σ 20 0 = 0 ∧ σ 21 0 = 0 ∧ σ 22 0 = 0) : ∀ Wb, PlR (f_X2_forget σ) Wb := fun Wb => ⟨h.1, h.2.1, h.2.2, Or.inl ⟨rfl, rfl, rfl⟩⟩
