/-- a store of one number -/
def up2 (σ : Nat → Nat → Int32) (a i : Nat) (v : Int32) : Nat → Nat → Int32 := fun x => if x = a then upd (σ x) i v else σ x
theorem up2_s {σ : Nat → Nat → Int32} {a i : Nat} {v : Int32} : up2 σ a i v a i = v := by simp [up2, upd]
theorem up2_c {σ : Nat → Nat → Int32} {a i b : Nat} {v : Int32} (h : b ≠ a) : up2 σ a i v b = σ b := by simp [up2, h]
theorem up2_i {σ : Nat → Nat → Int32} {a i j : Nat} {v : Int32} (h : j ≠ i) : up2 σ a i v a j = σ a j := by simp [up2, upd, h]
theorem up2_a {σ : Nat → Nat → Int32} {a i : Nat} {v : Int32} : up2 σ a i v a = upd (σ a) i v := by simp [up2]
/-- an index that is looked at, a divisor, a truth value: else nothing -/
def chk {α : Type} (i : Int32) (n : Nat) (k : Option α) : Option α := if 0 ≤ i.toInt ∧ i.toInt < n then k else none
theorem chk_some {α : Type} {i : Int32} {n : Nat} {k : Option α} {z : α} (h : chk i n k = some z) : vp_in i n ∧ k = some z := by
  unfold chk at h
  split at h
  · next q => exact ⟨vp_in_iff.mpr q, h⟩
  · cases h
theorem chk_in {α : Type} {i : Int32} {n : Nat} {k : Option α} (h : vp_in i n) : chk i n k = k := if_pos (vp_in_iff.mp h)
def chz {α : Type} (y : Int32) (k : Option α) : Option α := if y = 0 then none else k
theorem chz_some {α : Type} {y : Int32} {k : Option α} {z : α} (h : chz y k = some z) : ¬ y = 0 ∧ k = some z := by
  unfold chz at h
  split at h
  · cases h
  · next q => exact ⟨q, h⟩
theorem chz_ne {α : Type} {y : Int32} {k : Option α} (h : ¬ y = 0) : chz y k = k := if_neg h
def chb {α : Type} (y : Int32) (k : Option α) : Option α := if y = 0 ∨ y = 1 then k else none
theorem chb_some {α : Type} {y : Int32} {k : Option α} {z : α} (h : chb y k = some z) : narrow .boolean (.int y) = .int y ∧ k = some z := by
  unfold chb at h
  split at h
  · next q => exact ⟨by rcases q with rfl | rfl <;> rfl, h⟩
  · cases h
theorem chb_in {α : Type} {y : Int32} {k : Option α} (h : y = 0 ∨ y = 1) : chb y k = k := if_pos h
theorem bnd_some {α β : Type} {o : Option α} {k : α → Option β} {z : β} (h : o.bind k = some z) : ∃ a, o = some a ∧ k a = some z := by
  cases o with
  | none => cases h
  | some a => exact ⟨a, rfl, h⟩
/-- how many turns a loop is given -/
def fuel : Nat := 100000
-- the worlds: the 28 cells of a FerriesLevel, the 20 of a FerriesLevelModel; q: the addresses, σ: the numbers
def wX (cI : ClassId) (q : Nat → Nat) (σ : Nat → Nat → Int32) : va_W := [(q 0, .inr (4, [.ref (q 1), .ref (q 3), .ref (q 7), .ref (q 11), .ref (q 15), .ref (q 19)])), (q 1, .inr (3, [.ref (q 2), .int (σ 1 1)])), (q 2, .inl (cI, 48, .inl (σ 2))), (q 3, .inr (0, [.int (σ 3 0), .int (σ 3 1), .int (σ 3 2), .int (σ 3 3), .int (σ 3 4), .int (σ 3 5), .ref (q 4), .ref (q 5), .ref (q 6)])), (q 4, .inl (cI, 8, .inl (σ 4))), (q 5, .inl (cI, 8, .inl (σ 5))), (q 6, .inl (cI, 8, .inl (σ 6))), (q 7, .inr (1, [.ref (q 8), .ref (q 9), .ref (q 10), .int (σ 7 3), .int (σ 7 4), .int (σ 7 5)])), (q 8, .inl (cI, 9, .inl (σ 8))), (q 9, .inl (cI, 8, .inl (σ 9))), (q 10, .inl (cI, 8, .inl (σ 10))), (q 11, .inr (1, [.ref (q 12), .ref (q 13), .ref (q 14), .int (σ 11 3), .int (σ 11 4), .int (σ 11 5)])), (q 12, .inl (cI, 9, .inl (σ 12))), (q 13, .inl (cI, 8, .inl (σ 13))), (q 14, .inl (cI, 8, .inl (σ 14))), (q 15, .inr (1, [.ref (q 16), .ref (q 17), .ref (q 18), .int (σ 15 3), .int (σ 15 4), .int (σ 15 5)])), (q 16, .inl (cI, 9, .inl (σ 16))), (q 17, .inl (cI, 8, .inl (σ 17))), (q 18, .inl (cI, 8, .inl (σ 18))), (q 19, .inr (2, [.ref (q 20), .ref (q 21), .ref (q 22), .ref (q 23), .ref (q 24), .ref (q 25), .ref (q 26), .ref (q 27), .int (σ 19 8), .int (σ 19 9), .int (σ 19 10), .int (σ 19 11), .int (σ 19 12), .int (σ 19 13), .int (σ 19 14), .int (σ 19 15), .int (σ 19 16)])), (q 20, .inl (cI, 256, .inl (σ 20))), (q 21, .inl (cI, 256, .inl (σ 21))), (q 22, .inl (cI, 256, .inl (σ 22))), (q 23, .inl (cI, 256, .inl (σ 23))), (q 24, .inl (cI, 100, .inl (σ 24))), (q 25, .inl (cI, 3, .inl (σ 25))), (q 26, .inl (cI, 3, .inl (σ 26))), (q 27, .inl (cI, 3, .inl (σ 27)))]
def wM (cI cZ : ClassId) (q : Nat → Nat) (σ : Nat → Nat → Int32) : va_W := [(q 0, .inr (5, [.ref (q 1), .ref (q 2), .int (σ 0 2), .ref (q 3), .ref (q 4), .int (σ 0 5), .ref (q 5), .ref (q 6), .ref (q 7), .int (σ 0 9), .ref (q 8), .int (σ 0 11), .int (σ 0 12), .int (σ 0 13), .int (σ 0 14), .ref (q 9), .ref (q 10), .int (σ 0 17), .int (σ 0 18), .int (σ 0 19), .ref (q 11), .ref (q 12), .ref (q 13), .ref (q 14), .ref (q 15), .ref (q 16), .ref (q 17), .ref (q 18), .ref (q 19)])), (q 1, .inl (cI, 5, .inl (σ 1))), (q 2, .inl (cI, 24, .inl (σ 2))), (q 3, .inl (cI, 5, .inl (σ 3))), (q 4, .inl (cI, 24, .inl (σ 4))), (q 5, .inl (cI, 8, .inl (σ 5))), (q 6, .inl (cI, 8, .inl (σ 6))), (q 7, .inl (cI, 8, .inl (σ 7))), (q 8, .inl (cI, 48, .inl (σ 8))), (q 9, .inl (cI, 24, .inl (σ 9))), (q 10, .inl (cI, 3, .inl (σ 10))), (q 11, .inl (cZ, 256, .inl (σ 11))), (q 12, .inl (cI, 100, .inl (σ 12))), (q 13, .inl (cI, 256, .inl (σ 13))), (q 14, .inl (cZ, 2, .inl (σ 14))), (q 15, .inl (cI, 16, .inl (σ 15))), (q 16, .inl (cI, 16, .inl (σ 16))), (q 17, .inl (cI, 16, .inl (σ 17))), (q 18, .inl (cI, 48, .inl (σ 18))), (q 19, .inl (cI, 4, .inl (σ 19)))]
def nestT : List (String × Nat × MethodName) := [(RX4, 9, yX3_init), (RX4, 18, yX0_init), (RX4, 25, yX1_init), (RX4, 38, yX2_init), (RX1, 48, yX4_endOf), (RX0, 62, yX4_sitters), (RX0, 65, yX4_poundsAfter), (RX1, 45, yX4_members), (RX2, 132, yX4_poundsAfter), (RX2, 150, yX4_members)]
def nestW (t : String × Nat × MethodName) : Cond := .methodLinkNest t.1 t.2.1 t.2.2 RX4
/-- what of the tables every contract takes beside its words -/
def KK (dC : Nat → ClassId) (dI : Nat → Nat → Nat) (cI cZ : ClassId) (U : State) : Prop := va_K (dC, dI) vwCl [(cI, .int), (cZ, .boolean)] U ∧ ∀ t ∈ nestT, va_Nw (nestW t) U
theorem KK.calling {dC : Nat → ClassId} {dI : Nat → Nat → Nat} {cI cZ : ClassId} {U : State} (h : KK dC dI cI cZ U) (g : JFrame) (mk : MethodId) (a : Array Value) : KK dC dI cI cZ (U.calling g mk a) :=
  ⟨va_K.moved (u := U) (U := U.calling g mk a) (Vm.Alike.refl U.vm) h.1, fun t ht => va_Nw.same (u := U) (U := U.calling g mk a) rfl rfl (h.2 t ht)⟩
theorem KK.warm {dC : Nat → ClassId} {dI : Nat → Nat → Nat} {cI cZ : ClassId} {s U : State} (hW : s.WarmedH U.vm) (h : KK dC dI cI cZ s) : KK dC dI cI cZ U :=
  ⟨va_K.moved hW.alike h.1, fun t ht => va_Nw.warmM hW (h.2 t ht)⟩
/-- a contract's end -/
def CQ (dC : Nat → ClassId) (dI : Nat → Nat → Nat) (ov : Option Value) (w : va_W) (A : Nat → Prop) : Array Value → State → Outcome → State → Prop := fun _ st oc t => (oc = .returned ov ∧ va_P (dC, dI) vwCl w t.heap ∧ va_D A w) ∧ va_F A st t
/-- a contract: from a heap that holds w it answers ov, and the heap holds w' -/
def CT (l : Launch) (dC : Nat → ClassId) (dI : Nat → Nat → Nat) (cI cZ : ClassId) (A : Nat → Prop) (y : MethodName) (bytes : ByteArray) (maxL : Nat) (ret : Option FieldType) (rm : Room) (av : List Value) (w w' : va_W) (ov : Option Value) : Prop :=
  Met l y (.code y bytes maxL ret :: wG) rm (va_Pc av (fun U => va_P (dC, dI) vwCl w U.heap ∧ KK dC dI cI cZ U ∧ va_D A w)) (CQ dC dI ov w' A) 0 0 A
/-- the machine in a method's body -/
def EV (p : Program) (s : State) (m : MethodId) (args : Array Value) (meth : Method) (c : Code) (dC : Nat → ClassId) (dI : Nat → Nat → Nat) (cI cZ : ClassId) (cc : ByteArray) (nL : Nat) (own : String) (ret : Option FieldType) : Prop :=
  p.tables.exec = Jvm.exec ∧ c.code = cc ∧ c.maxLocals = nL ∧ s.vm.findClass own = some m.cls ∧ (∀ w ∈ wG, w.before args s = true) ∧ KK dC dI cI cZ s ∧ meth.sig.returnType = ret ∧ meth.locks = false
def GG (p : Program) (l : Launch) (e : Env) (R : Room) (s : State) (m : MethodId) (args : Array Value) (below : List Frame) (meth : Method) (c : Code) (Q : State → Prop) (A : Nat → Prop) (dC : Nat → ClassId) (dI : Nat → Nat → Nat) (nL : Nat) (w : va_W) (pc : Nat) (lv : List (Nat × Value)) (st : List Value) : Prop :=
  ∀ (ls : Array Slot) (H : Heap) (locs : List Loc), lv_has ls nL lv → va_P (dC, dI) vwCl w H → va_D A w → va_S A s.heap H locs → W p l e R s m args below meth c H locs 0 0 Q (F0 m pc ls st)
/-- the locals behind a store -/
def lset (i : Nat) (v : Value) : List (Nat × Value) → List (Nat × Value)
  | [] => [(i, v)]
  | a :: l => if a.1 = i then (i, v) :: l else a :: lset i v l
theorem lset_in {i : Nat} {v : Value} : ∀ {l : List (Nat × Value)} {q : Nat × Value}, l.all (fun a => !(a.1 + 1 == i && a.2.category == 2)) = true → va_nd (l.map (fun a => a.1)) = true → q ∈ lset i v l → q ∈ (i, v) :: l.filter (fun q => !(q.1 == i) && !(q.1 + 1 == i && q.2.category == 2))
  | [], q, _, _, h => by
    simp [lset] at h
    simp [h]
  | a :: l, q, hc, hn, h => by
    rw [List.all_cons, Bool.and_eq_true] at hc
    have hc2 := hc.1
    simp only [List.map_cons, va_nd, Bool.and_eq_true, decide_eq_true_eq] at hn
    unfold lset at h
    split at h
    · next e =>
      rcases List.mem_cons.mp h with rfl | h
      · exact List.mem_cons_self
      · refine List.mem_cons_of_mem _ (List.mem_filter.mpr ⟨List.mem_cons_of_mem _ h, ?_⟩)
        have h1 : q.1 ≠ i := fun z => hn.1 (by rw [e, ← z]; exact List.mem_map_of_mem h)
        have h2 := List.all_eq_true.mp hc.2 q h
        rw [Bool.and_eq_true]
        exact ⟨by simp [h1], h2⟩
    · next e =>
      rcases List.mem_cons.mp h with rfl | h
      · refine List.mem_cons_of_mem _ (List.mem_filter.mpr ⟨List.mem_cons_self, ?_⟩)
        rw [Bool.and_eq_true]
        exact ⟨by simp [e], hc2⟩
      · rcases List.mem_cons.mp (lset_in hc.2 hn.2 h) with rfl | h
        · exact List.mem_cons_self
        · exact List.mem_cons_of_mem _ (List.mem_filter.mpr ⟨List.mem_cons_of_mem _ (List.mem_filter.mp h).1, (List.mem_filter.mp h).2⟩)
section
variable {p : Program} {l : Launch} {e : Env} {R : Room} {s : State} {m : MethodId} {args : Array Value} {below : List Frame} {meth : Method} {c : Code} {Q : State → Prop} {A : Nat → Prop} {dC : Nat → ClassId} {dI : Nat → Nat → Nat} {cI cZ : ClassId} {cc : ByteArray} {nL : Nat} {own : String} {ret : Option FieldType} {w w' : va_W} {pc : Nat} {lv lv' : List (Nat × Value)} {rest st : List Value}
theorem s_iconst (E : EV p s m args meth c dC dI cI cZ cc nL own ret) {n : Int} {v : Int32} (d : decode cc pc = .ok (.iconst n, 1)) (hv : Int32.ofInt n = v) (k : GG p l e R s m args below meth c Q A dC dI nL w (pc + 1) lv (.int v :: rest)) : GG p l e R s m args below meth c Q A dC dI nL w (pc) lv (rest) :=
  fun ls H locs h1 h2 h3 h4 => lv_iconst E.1 E.2.1 d hv (k ls H locs h1 h2 h3 h4)
theorem s_bipush (E : EV p s m args meth c dC dI cI cZ cc nL own ret) {n : Int} {v : Int32} (d : decode cc pc = .ok (.bipush n, 2)) (hv : (Int8.ofInt n).toInt32 = v) (k : GG p l e R s m args below meth c Q A dC dI nL w (pc + 2) lv (.int v :: rest)) : GG p l e R s m args below meth c Q A dC dI nL w (pc) lv (rest) :=
  fun ls H locs h1 h2 h3 h4 => lv_bipush E.1 E.2.1 d hv (k ls H locs h1 h2 h3 h4)
theorem s_sipush (E : EV p s m args meth c dC dI cI cZ cc nL own ret) {n : Int} {v : Int32} (d : decode cc pc = .ok (.sipush n, 3)) (hv : (Int16.ofInt n).toInt32 = v) (k : GG p l e R s m args below meth c Q A dC dI nL w (pc + 3) lv (.int v :: rest)) : GG p l e R s m args below meth c Q A dC dI nL w (pc) lv (rest) :=
  fun ls H locs h1 h2 h3 h4 => lv_sipush E.1 E.2.1 d hv (k ls H locs h1 h2 h3 h4)
theorem s_lconst (E : EV p s m args meth c dC dI cI cZ cc nL own ret) {n : Fin 2} {v : Int64} (d : decode cc pc = .ok (.lconst n, 1)) (hv : Int64.ofNat (n : Nat) = v) (k : GG p l e R s m args below meth c Q A dC dI nL w (pc + 1) lv (.long v :: rest)) : GG p l e R s m args below meth c Q A dC dI nL w (pc) lv (rest) :=
  fun ls H locs h1 h2 h3 h4 => lv_lconst E.1 E.2.1 d hv (k ls H locs h1 h2 h3 h4)
theorem s_iload_n (E : EV p s m args meth c dC dI cI cZ cc nL own ret) {j : Fin 4} {i : Nat} {x : Int32} (kk : Nat) (hk : lv[kk]? = some (i, .int x)) (d : decode cc pc = .ok (.iload_n j, 1)) (hi : (j : Nat) = i) (k : GG p l e R s m args below meth c Q A dC dI nL w (pc + 1) lv (.int x :: rest)) : GG p l e R s m args below meth c Q A dC dI nL w (pc) lv (rest) :=
  fun ls H locs h1 h2 h3 h4 => lv_iload_n E.1 E.2.1 d hi (lv_at h1 kk hk) (k ls H locs h1 h2 h3 h4)
theorem s_iload (E : EV p s m args meth c dC dI cI cZ cc nL own ret) {i : Nat} {x : Int32} (kk : Nat) (hk : lv[kk]? = some (i, .int x)) (d : decode cc pc = .ok (.iload i, 2)) (k : GG p l e R s m args below meth c Q A dC dI nL w (pc + 2) lv (.int x :: rest)) : GG p l e R s m args below meth c Q A dC dI nL w (pc) lv (rest) :=
  fun ls H locs h1 h2 h3 h4 => lv_iload E.1 E.2.1 d (lv_at h1 kk hk) (k ls H locs h1 h2 h3 h4)
theorem s_lload_n (E : EV p s m args meth c dC dI cI cZ cc nL own ret) {j : Fin 4} {i : Nat} {x : Int64} (kk : Nat) (hk : lv[kk]? = some (i, .long x)) (d : decode cc pc = .ok (.lload_n j, 1)) (hi : (j : Nat) = i) (k : GG p l e R s m args below meth c Q A dC dI nL w (pc + 1) lv (.long x :: rest)) : GG p l e R s m args below meth c Q A dC dI nL w (pc) lv (rest) :=
  fun ls H locs h1 h2 h3 h4 => lv_lload_n E.1 E.2.1 d hi (lv_at h1 kk hk) (k ls H locs h1 h2 h3 h4)
theorem s_lload (E : EV p s m args meth c dC dI cI cZ cc nL own ret) {i : Nat} {x : Int64} (kk : Nat) (hk : lv[kk]? = some (i, .long x)) (d : decode cc pc = .ok (.lload i, 2)) (k : GG p l e R s m args below meth c Q A dC dI nL w (pc + 2) lv (.long x :: rest)) : GG p l e R s m args below meth c Q A dC dI nL w (pc) lv (rest) :=
  fun ls H locs h1 h2 h3 h4 => lv_lload E.1 E.2.1 d (lv_at h1 kk hk) (k ls H locs h1 h2 h3 h4)
theorem s_aload_n (E : EV p s m args meth c dC dI cI cZ cc nL own ret) {j : Fin 4} {i : Nat} {x : Nat} (kk : Nat) (hk : lv[kk]? = some (i, .ref x)) (d : decode cc pc = .ok (.aload_n j, 1)) (hi : (j : Nat) = i) (k : GG p l e R s m args below meth c Q A dC dI nL w (pc + 1) lv (.ref x :: rest)) : GG p l e R s m args below meth c Q A dC dI nL w (pc) lv (rest) :=
  fun ls H locs h1 h2 h3 h4 => lv_aload_n E.1 E.2.1 d hi (lv_at h1 kk hk) (k ls H locs h1 h2 h3 h4)
theorem s_aload (E : EV p s m args meth c dC dI cI cZ cc nL own ret) {i : Nat} {x : Nat} (kk : Nat) (hk : lv[kk]? = some (i, .ref x)) (d : decode cc pc = .ok (.aload i, 2)) (k : GG p l e R s m args below meth c Q A dC dI nL w (pc + 2) lv (.ref x :: rest)) : GG p l e R s m args below meth c Q A dC dI nL w (pc) lv (rest) :=
  fun ls H locs h1 h2 h3 h4 => lv_aload E.1 E.2.1 d (lv_at h1 kk hk) (k ls H locs h1 h2 h3 h4)
theorem s_istore_n (E : EV p s m args meth c dC dI cI cZ cc nL own ret) {j : Fin 4} {i : Nat} (d : decode cc pc = .ok (.istore_n j, 1)) (hi : (j : Nat) = i) {x : Int32} (hc : lv.all (fun a => !(a.1 + 1 == i && a.2.category == 2)) = true) (hn : va_nd (lv.map (fun a => a.1)) = true) (hl : lset i (.int x) lv = lv') (hi2 : i < nL) (k : GG p l e R s m args below meth c Q A dC dI nL w (pc + 1) lv' (rest)) : GG p l e R s m args below meth c Q A dC dI nL w (pc) lv (.int x :: rest) :=
  fun ls H locs h1 h2 h3 h4 => lv_istore_n E.1 E.2.1 d hi h1 hi2 rfl (fun ls2 h1b => k ls2 H locs ⟨h1b.1, h1b.2.1, fun q hq => h1b.2.2 q (lset_in hc hn (by rw [hl]; exact hq))⟩ h2 h3 h4)
theorem s_istore (E : EV p s m args meth c dC dI cI cZ cc nL own ret) {i : Nat} (d : decode cc pc = .ok (.istore i, 2)) {x : Int32} (hc : lv.all (fun a => !(a.1 + 1 == i && a.2.category == 2)) = true) (hn : va_nd (lv.map (fun a => a.1)) = true) (hl : lset i (.int x) lv = lv') (hi2 : i < nL) (k : GG p l e R s m args below meth c Q A dC dI nL w (pc + 2) lv' (rest)) : GG p l e R s m args below meth c Q A dC dI nL w (pc) lv (.int x :: rest) :=
  fun ls H locs h1 h2 h3 h4 => lv_istore E.1 E.2.1 d h1 hi2 rfl (fun ls2 h1b => k ls2 H locs ⟨h1b.1, h1b.2.1, fun q hq => h1b.2.2 q (lset_in hc hn (by rw [hl]; exact hq))⟩ h2 h3 h4)
theorem s_astore_n (E : EV p s m args meth c dC dI cI cZ cc nL own ret) {j : Fin 4} {i : Nat} (d : decode cc pc = .ok (.astore_n j, 1)) (hi : (j : Nat) = i) {x : Nat} (hc : lv.all (fun a => !(a.1 + 1 == i && a.2.category == 2)) = true) (hn : va_nd (lv.map (fun a => a.1)) = true) (hl : lset i (.ref x) lv = lv') (hi2 : i < nL) (k : GG p l e R s m args below meth c Q A dC dI nL w (pc + 1) lv' (rest)) : GG p l e R s m args below meth c Q A dC dI nL w (pc) lv (.ref x :: rest) :=
  fun ls H locs h1 h2 h3 h4 => lv_astore_n E.1 E.2.1 d hi h1 hi2 rfl (fun ls2 h1b => k ls2 H locs ⟨h1b.1, h1b.2.1, fun q hq => h1b.2.2 q (lset_in hc hn (by rw [hl]; exact hq))⟩ h2 h3 h4)
theorem s_astore (E : EV p s m args meth c dC dI cI cZ cc nL own ret) {i : Nat} (d : decode cc pc = .ok (.astore i, 2)) {x : Nat} (hc : lv.all (fun a => !(a.1 + 1 == i && a.2.category == 2)) = true) (hn : va_nd (lv.map (fun a => a.1)) = true) (hl : lset i (.ref x) lv = lv') (hi2 : i < nL) (k : GG p l e R s m args below meth c Q A dC dI nL w (pc + 2) lv' (rest)) : GG p l e R s m args below meth c Q A dC dI nL w (pc) lv (.ref x :: rest) :=
  fun ls H locs h1 h2 h3 h4 => lv_astore E.1 E.2.1 d h1 hi2 rfl (fun ls2 h1b => k ls2 H locs ⟨h1b.1, h1b.2.1, fun q hq => h1b.2.2 q (lset_in hc hn (by rw [hl]; exact hq))⟩ h2 h3 h4)
theorem s_iinc (E : EV p s m args meth c dC dI cI cZ cc nL own ret) {i : Nat} {n : Int} {x v : Int32} (kk : Nat) (hk : lv[kk]? = some (i, .int x)) (d : decode cc pc = .ok (.iinc i n, 3)) {kv : Int32} (hkv : Int32.ofInt n = kv) (hv : x + kv = v) (hc : lv.all (fun a => !(a.1 + 1 == i && a.2.category == 2)) = true) (hn : va_nd (lv.map (fun a => a.1)) = true) (hl : lset i (.int v) lv = lv') (hi2 : i < nL) (k : GG p l e R s m args below meth c Q A dC dI nL w (pc + 3) lv' (rest)) : GG p l e R s m args below meth c Q A dC dI nL w (pc) lv (rest) :=
  fun ls H locs h1 h2 h3 h4 => lv_iinc (v := v) E.1 E.2.1 d h1 hk (show x + Int32.ofInt n = v by rw [hkv]; exact hv) hi2 rfl (fun ls2 h1b => k ls2 H locs ⟨h1b.1, h1b.2.1, fun q hq => h1b.2.2 q (lset_in hc hn (by rw [hl]; exact hq))⟩ h2 h3 h4)
abbrev shl (x y : Int32) : Int32 := x <<< (y &&& 31)
abbrev shr (x y : Int32) : Int32 := x >>> (y &&& 31)
abbrev rem (x y : Int32) : Int32 := x - x / y * y
theorem s_iadd (E : EV p s m args meth c dC dI cI cZ cc nL own ret) {x y : Int32} (d : decode cc pc = .ok (.iadd, 1))  (k : GG p l e R s m args below meth c Q A dC dI nL w (pc + 1) lv (.int (x + y) :: rest)) : GG p l e R s m args below meth c Q A dC dI nL w (pc) lv (.int y :: .int x :: rest) :=
  fun ls H locs h1 h2 h3 h4 => lv_iadd E.1 E.2.1 d (k ls H locs h1 h2 h3 h4)
theorem s_isub (E : EV p s m args meth c dC dI cI cZ cc nL own ret) {x y : Int32} (d : decode cc pc = .ok (.isub, 1))  (k : GG p l e R s m args below meth c Q A dC dI nL w (pc + 1) lv (.int (x - y) :: rest)) : GG p l e R s m args below meth c Q A dC dI nL w (pc) lv (.int y :: .int x :: rest) :=
  fun ls H locs h1 h2 h3 h4 => lv_isub E.1 E.2.1 d (k ls H locs h1 h2 h3 h4)
theorem s_imul (E : EV p s m args meth c dC dI cI cZ cc nL own ret) {x y : Int32} (d : decode cc pc = .ok (.imul, 1))  (k : GG p l e R s m args below meth c Q A dC dI nL w (pc + 1) lv (.int (x * y) :: rest)) : GG p l e R s m args below meth c Q A dC dI nL w (pc) lv (.int y :: .int x :: rest) :=
  fun ls H locs h1 h2 h3 h4 => lv_imul E.1 E.2.1 d (k ls H locs h1 h2 h3 h4)
theorem s_iand (E : EV p s m args meth c dC dI cI cZ cc nL own ret) {x y : Int32} (d : decode cc pc = .ok (.iand, 1))  (k : GG p l e R s m args below meth c Q A dC dI nL w (pc + 1) lv (.int (x &&& y) :: rest)) : GG p l e R s m args below meth c Q A dC dI nL w (pc) lv (.int y :: .int x :: rest) :=
  fun ls H locs h1 h2 h3 h4 => lv_iand E.1 E.2.1 d (k ls H locs h1 h2 h3 h4)
theorem s_ior (E : EV p s m args meth c dC dI cI cZ cc nL own ret) {x y : Int32} (d : decode cc pc = .ok (.ior, 1))  (k : GG p l e R s m args below meth c Q A dC dI nL w (pc + 1) lv (.int (x ||| y) :: rest)) : GG p l e R s m args below meth c Q A dC dI nL w (pc) lv (.int y :: .int x :: rest) :=
  fun ls H locs h1 h2 h3 h4 => lv_ior E.1 E.2.1 d (k ls H locs h1 h2 h3 h4)
theorem s_ixor (E : EV p s m args meth c dC dI cI cZ cc nL own ret) {x y : Int32} (d : decode cc pc = .ok (.ixor, 1))  (k : GG p l e R s m args below meth c Q A dC dI nL w (pc + 1) lv (.int (x ^^^ y) :: rest)) : GG p l e R s m args below meth c Q A dC dI nL w (pc) lv (.int y :: .int x :: rest) :=
  fun ls H locs h1 h2 h3 h4 => lv_ixor E.1 E.2.1 d (k ls H locs h1 h2 h3 h4)
theorem s_ishl (E : EV p s m args meth c dC dI cI cZ cc nL own ret) {x y : Int32} (d : decode cc pc = .ok (.ishl, 1))  (k : GG p l e R s m args below meth c Q A dC dI nL w (pc + 1) lv (.int (shl x y) :: rest)) : GG p l e R s m args below meth c Q A dC dI nL w (pc) lv (.int y :: .int x :: rest) :=
  fun ls H locs h1 h2 h3 h4 => lv_ishl E.1 E.2.1 d (k ls H locs h1 h2 h3 h4)
theorem s_ishr (E : EV p s m args meth c dC dI cI cZ cc nL own ret) {x y : Int32} (d : decode cc pc = .ok (.ishr, 1))  (k : GG p l e R s m args below meth c Q A dC dI nL w (pc + 1) lv (.int (shr x y) :: rest)) : GG p l e R s m args below meth c Q A dC dI nL w (pc) lv (.int y :: .int x :: rest) :=
  fun ls H locs h1 h2 h3 h4 => lv_ishr E.1 E.2.1 d (k ls H locs h1 h2 h3 h4)
theorem s_idiv (E : EV p s m args meth c dC dI cI cZ cc nL own ret) {x y : Int32} (d : decode cc pc = .ok (.idiv, 1)) (hne : ¬ y = 0) (k : GG p l e R s m args below meth c Q A dC dI nL w (pc + 1) lv (.int (x / y) :: rest)) : GG p l e R s m args below meth c Q A dC dI nL w (pc) lv (.int y :: .int x :: rest) :=
  fun ls H locs h1 h2 h3 h4 => lv_idiv E.1 E.2.1 d hne (k ls H locs h1 h2 h3 h4)
theorem s_irem (E : EV p s m args meth c dC dI cI cZ cc nL own ret) {x y : Int32} (d : decode cc pc = .ok (.irem, 1)) (hne : ¬ y = 0) (k : GG p l e R s m args below meth c Q A dC dI nL w (pc + 1) lv (.int (rem x y) :: rest)) : GG p l e R s m args below meth c Q A dC dI nL w (pc) lv (.int y :: .int x :: rest) :=
  fun ls H locs h1 h2 h3 h4 => lv_irem E.1 E.2.1 d hne (k ls H locs h1 h2 h3 h4)
/-- the shift of a word that has no sign -/
abbrev ush (x y : Int32) : Int32 := (x.toUInt32 >>> (y.toUInt32 &&& Int32.toUInt32 31)).toInt32
abbrev ushL (x : Int64) (y : Int32) : Int64 := (x.toUInt64 >>> (y.toInt64.toUInt64 &&& Int64.toUInt64 63)).toInt64
theorem s_iushr (E : EV p s m args meth c dC dI cI cZ cc nL own ret) {x y : Int32} (d : decode cc pc = .ok (.iushr, 1))  (k : GG p l e R s m args below meth c Q A dC dI nL w (pc + 1) lv (.int (ush x y) :: rest)) : GG p l e R s m args below meth c Q A dC dI nL w (pc) lv (.int y :: .int x :: rest) :=
  fun ls H locs h1 h2 h3 h4 => lv_iushr E.1 E.2.1 d rfl (k ls H locs h1 h2 h3 h4)
theorem s_ineg (E : EV p s m args meth c dC dI cI cZ cc nL own ret) {x : Int32} (d : decode cc pc = .ok (.ineg, 1))  (k : GG p l e R s m args below meth c Q A dC dI nL w (pc + 1) lv (.int (-x) :: rest)) : GG p l e R s m args below meth c Q A dC dI nL w (pc) lv (.int x :: rest) :=
  fun ls H locs h1 h2 h3 h4 => lv_ineg E.1 E.2.1 d (k ls H locs h1 h2 h3 h4)
theorem s_lushr (E : EV p s m args meth c dC dI cI cZ cc nL own ret) {x : Int64} {y : Int32} (d : decode cc pc = .ok (.lushr, 1))  (k : GG p l e R s m args below meth c Q A dC dI nL w (pc + 1) lv (.long (ushL x y) :: rest)) : GG p l e R s m args below meth c Q A dC dI nL w (pc) lv (.int y :: .long x :: rest) :=
  fun ls H locs h1 h2 h3 h4 => lv_lushr E.1 E.2.1 d rfl (k ls H locs h1 h2 h3 h4)
theorem s_lshr (E : EV p s m args meth c dC dI cI cZ cc nL own ret) {x : Int64} {y : Int32} (d : decode cc pc = .ok (.lshr, 1))  (k : GG p l e R s m args below meth c Q A dC dI nL w (pc + 1) lv (.long (x >>> (y.toInt64 &&& 63)) :: rest)) : GG p l e R s m args below meth c Q A dC dI nL w (pc) lv (.int y :: .long x :: rest) :=
  fun ls H locs h1 h2 h3 h4 => lv_lshr E.1 E.2.1 d rfl (k ls H locs h1 h2 h3 h4)
theorem s_land (E : EV p s m args meth c dC dI cI cZ cc nL own ret) {x y : Int64} (d : decode cc pc = .ok (.land, 1))  (k : GG p l e R s m args below meth c Q A dC dI nL w (pc + 1) lv (.long (x &&& y) :: rest)) : GG p l e R s m args below meth c Q A dC dI nL w (pc) lv (.long y :: .long x :: rest) :=
  fun ls H locs h1 h2 h3 h4 => lv_land E.1 E.2.1 d (k ls H locs h1 h2 h3 h4)
theorem s_i2l (E : EV p s m args meth c dC dI cI cZ cc nL own ret) {x : Int32} (d : decode cc pc = .ok (.i2l, 1))  (k : GG p l e R s m args below meth c Q A dC dI nL w (pc + 1) lv (.long x.toInt64 :: rest)) : GG p l e R s m args below meth c Q A dC dI nL w (pc) lv (.int x :: rest) :=
  fun ls H locs h1 h2 h3 h4 => lv_i2l E.1 E.2.1 d rfl (k ls H locs h1 h2 h3 h4)
theorem s_l2i (E : EV p s m args meth c dC dI cI cZ cc nL own ret) {x : Int64} (d : decode cc pc = .ok (.l2i, 1))  (k : GG p l e R s m args below meth c Q A dC dI nL w (pc + 1) lv (.int x.toInt32 :: rest)) : GG p l e R s m args below meth c Q A dC dI nL w (pc) lv (.long x :: rest) :=
  fun ls H locs h1 h2 h3 h4 => lv_l2i E.1 E.2.1 d rfl (k ls H locs h1 h2 h3 h4)
theorem s_lcmp (E : EV p s m args meth c dC dI cI cZ cc nL own ret) {x y : Int64} (d : decode cc pc = .ok (.lcmp, 1))  (k : GG p l e R s m args below meth c Q A dC dI nL w (pc + 1) lv (.int (lg_cmp x y) :: rest)) : GG p l e R s m args below meth c Q A dC dI nL w (pc) lv (.long y :: .long x :: rest) :=
  fun ls H locs h1 h2 h3 h4 => W.lcmp E.1 E.2.1 d (k ls H locs h1 h2 h3 h4)
theorem s_dup (E : EV p s m args meth c dC dI cI cZ cc nL own ret) {v : Value} (d : decode cc pc = .ok (.dup, 1)) (hc : v.category = 1) (k : GG p l e R s m args below meth c Q A dC dI nL w (pc + 1) lv (v :: v :: rest)) : GG p l e R s m args below meth c Q A dC dI nL w (pc) lv (v :: rest) :=
  fun ls H locs h1 h2 h3 h4 => lv_dup E.1 E.2.1 d hc (k ls H locs h1 h2 h3 h4)
theorem s_dup2 (E : EV p s m args meth c dC dI cI cZ cc nL own ret) {va vb : Value} (d : decode cc pc = .ok (.dup2, 1)) (ha : va.category = 1) (hb : vb.category = 1) (k : GG p l e R s m args below meth c Q A dC dI nL w (pc + 1) lv (va :: vb :: va :: vb :: rest)) : GG p l e R s m args below meth c Q A dC dI nL w (pc) lv (va :: vb :: rest) :=
  fun ls H locs h1 h2 h3 h4 => lv_dup2_11 E.1 E.2.1 d ha hb (k ls H locs h1 h2 h3 h4)
theorem s_if_eq (E : EV p s m args meth c dC dI cI cZ cc nL own ret) {x : Int32} {off : Int} (tgt : Nat) (d : decode cc pc = .ok (.ifCond .eq off, 3)) (ht : (pc : Int) + off = (tgt : Int)) (kt : x = 0 → GG p l e R s m args below meth c Q A dC dI nL w (tgt) lv (rest)) (kf : ¬ (x = 0) → GG p l e R s m args below meth c Q A dC dI nL w (pc + 3) lv (rest)) : GG p l e R s m args below meth c Q A dC dI nL w (pc) lv (.int x :: rest) :=
  fun ls H locs h1 h2 h3 h4 => lv_if_eq E.1 E.2.1 d ht (fun q => kt q ls H locs h1 h2 h3 h4) (fun q => kf q ls H locs h1 h2 h3 h4)
theorem s_if_lt (E : EV p s m args meth c dC dI cI cZ cc nL own ret) {x : Int32} {off : Int} (tgt : Nat) (d : decode cc pc = .ok (.ifCond .lt off, 3)) (ht : (pc : Int) + off = (tgt : Int)) (kt : x < 0 → GG p l e R s m args below meth c Q A dC dI nL w (tgt) lv (rest)) (kf : ¬ (x < 0) → GG p l e R s m args below meth c Q A dC dI nL w (pc + 3) lv (rest)) : GG p l e R s m args below meth c Q A dC dI nL w (pc) lv (.int x :: rest) :=
  fun ls H locs h1 h2 h3 h4 => lv_if_lt E.1 E.2.1 d ht (fun q => kt q ls H locs h1 h2 h3 h4) (fun q => kf q ls H locs h1 h2 h3 h4)
theorem s_if_ge (E : EV p s m args meth c dC dI cI cZ cc nL own ret) {x : Int32} {off : Int} (tgt : Nat) (d : decode cc pc = .ok (.ifCond .ge off, 3)) (ht : (pc : Int) + off = (tgt : Int)) (kt : 0 ≤ x → GG p l e R s m args below meth c Q A dC dI nL w (tgt) lv (rest)) (kf : ¬ (0 ≤ x) → GG p l e R s m args below meth c Q A dC dI nL w (pc + 3) lv (rest)) : GG p l e R s m args below meth c Q A dC dI nL w (pc) lv (.int x :: rest) :=
  fun ls H locs h1 h2 h3 h4 => lv_if_ge E.1 E.2.1 d ht (fun q => kt q ls H locs h1 h2 h3 h4) (fun q => kf q ls H locs h1 h2 h3 h4)
theorem s_if_gt (E : EV p s m args meth c dC dI cI cZ cc nL own ret) {x : Int32} {off : Int} (tgt : Nat) (d : decode cc pc = .ok (.ifCond .gt off, 3)) (ht : (pc : Int) + off = (tgt : Int)) (kt : 0 < x → GG p l e R s m args below meth c Q A dC dI nL w (tgt) lv (rest)) (kf : ¬ (0 < x) → GG p l e R s m args below meth c Q A dC dI nL w (pc + 3) lv (rest)) : GG p l e R s m args below meth c Q A dC dI nL w (pc) lv (.int x :: rest) :=
  fun ls H locs h1 h2 h3 h4 => lv_if_gt E.1 E.2.1 d ht (fun q => kt q ls H locs h1 h2 h3 h4) (fun q => kf q ls H locs h1 h2 h3 h4)
theorem s_if_le (E : EV p s m args meth c dC dI cI cZ cc nL own ret) {x : Int32} {off : Int} (tgt : Nat) (d : decode cc pc = .ok (.ifCond .le off, 3)) (ht : (pc : Int) + off = (tgt : Int)) (kt : x ≤ 0 → GG p l e R s m args below meth c Q A dC dI nL w (tgt) lv (rest)) (kf : ¬ (x ≤ 0) → GG p l e R s m args below meth c Q A dC dI nL w (pc + 3) lv (rest)) : GG p l e R s m args below meth c Q A dC dI nL w (pc) lv (.int x :: rest) :=
  fun ls H locs h1 h2 h3 h4 => lv_if_le E.1 E.2.1 d ht (fun q => kt q ls H locs h1 h2 h3 h4) (fun q => kf q ls H locs h1 h2 h3 h4)
theorem s_icmp_eq (E : EV p s m args meth c dC dI cI cZ cc nL own ret) {x y : Int32} {off : Int} (tgt : Nat) (d : decode cc pc = .ok (.if_icmp .eq off, 3)) (ht : (pc : Int) + off = (tgt : Int)) (kt : x = y → GG p l e R s m args below meth c Q A dC dI nL w (tgt) lv (rest)) (kf : ¬ (x = y) → GG p l e R s m args below meth c Q A dC dI nL w (pc + 3) lv (rest)) : GG p l e R s m args below meth c Q A dC dI nL w (pc) lv (.int y :: .int x :: rest) :=
  fun ls H locs h1 h2 h3 h4 => lv_icmp_eq E.1 E.2.1 d ht (fun q => kt q ls H locs h1 h2 h3 h4) (fun q => kf q ls H locs h1 h2 h3 h4)
theorem s_icmp_lt (E : EV p s m args meth c dC dI cI cZ cc nL own ret) {x y : Int32} {off : Int} (tgt : Nat) (d : decode cc pc = .ok (.if_icmp .lt off, 3)) (ht : (pc : Int) + off = (tgt : Int)) (kt : x < y → GG p l e R s m args below meth c Q A dC dI nL w (tgt) lv (rest)) (kf : ¬ (x < y) → GG p l e R s m args below meth c Q A dC dI nL w (pc + 3) lv (rest)) : GG p l e R s m args below meth c Q A dC dI nL w (pc) lv (.int y :: .int x :: rest) :=
  fun ls H locs h1 h2 h3 h4 => lv_icmp_lt E.1 E.2.1 d ht (fun q => kt q ls H locs h1 h2 h3 h4) (fun q => kf q ls H locs h1 h2 h3 h4)
theorem s_icmp_ge (E : EV p s m args meth c dC dI cI cZ cc nL own ret) {x y : Int32} {off : Int} (tgt : Nat) (d : decode cc pc = .ok (.if_icmp .ge off, 3)) (ht : (pc : Int) + off = (tgt : Int)) (kt : y ≤ x → GG p l e R s m args below meth c Q A dC dI nL w (tgt) lv (rest)) (kf : ¬ (y ≤ x) → GG p l e R s m args below meth c Q A dC dI nL w (pc + 3) lv (rest)) : GG p l e R s m args below meth c Q A dC dI nL w (pc) lv (.int y :: .int x :: rest) :=
  fun ls H locs h1 h2 h3 h4 => lv_icmp_ge E.1 E.2.1 d ht (fun q => kt q ls H locs h1 h2 h3 h4) (fun q => kf q ls H locs h1 h2 h3 h4)
theorem s_icmp_gt (E : EV p s m args meth c dC dI cI cZ cc nL own ret) {x y : Int32} {off : Int} (tgt : Nat) (d : decode cc pc = .ok (.if_icmp .gt off, 3)) (ht : (pc : Int) + off = (tgt : Int)) (kt : y < x → GG p l e R s m args below meth c Q A dC dI nL w (tgt) lv (rest)) (kf : ¬ (y < x) → GG p l e R s m args below meth c Q A dC dI nL w (pc + 3) lv (rest)) : GG p l e R s m args below meth c Q A dC dI nL w (pc) lv (.int y :: .int x :: rest) :=
  fun ls H locs h1 h2 h3 h4 => lv_icmp_gt E.1 E.2.1 d ht (fun q => kt q ls H locs h1 h2 h3 h4) (fun q => kf q ls H locs h1 h2 h3 h4)
theorem s_icmp_le (E : EV p s m args meth c dC dI cI cZ cc nL own ret) {x y : Int32} {off : Int} (tgt : Nat) (d : decode cc pc = .ok (.if_icmp .le off, 3)) (ht : (pc : Int) + off = (tgt : Int)) (kt : x ≤ y → GG p l e R s m args below meth c Q A dC dI nL w (tgt) lv (rest)) (kf : ¬ (x ≤ y) → GG p l e R s m args below meth c Q A dC dI nL w (pc + 3) lv (rest)) : GG p l e R s m args below meth c Q A dC dI nL w (pc) lv (.int y :: .int x :: rest) :=
  fun ls H locs h1 h2 h3 h4 => lv_icmp_le E.1 E.2.1 d ht (fun q => kt q ls H locs h1 h2 h3 h4) (fun q => kf q ls H locs h1 h2 h3 h4)
theorem s_if_ne (E : EV p s m args meth c dC dI cI cZ cc nL own ret) {x : Int32} {off : Int} (tgt : Nat) (d : decode cc pc = .ok (.ifCond .ne off, 3)) (ht : (pc : Int) + off = (tgt : Int)) (kf : x = 0 → GG p l e R s m args below meth c Q A dC dI nL w (pc + 3) lv (rest)) (kt : ¬ (x = 0) → GG p l e R s m args below meth c Q A dC dI nL w (tgt) lv (rest)) : GG p l e R s m args below meth c Q A dC dI nL w (pc) lv (.int x :: rest) :=
  fun ls H locs h1 h2 h3 h4 => lv_if_ne E.1 E.2.1 d ht (fun q => kt q ls H locs h1 h2 h3 h4) (fun q => kf q ls H locs h1 h2 h3 h4)
theorem s_icmp_ne (E : EV p s m args meth c dC dI cI cZ cc nL own ret) {x y : Int32} {off : Int} (tgt : Nat) (d : decode cc pc = .ok (.if_icmp .ne off, 3)) (ht : (pc : Int) + off = (tgt : Int)) (kf : x = y → GG p l e R s m args below meth c Q A dC dI nL w (pc + 3) lv (rest)) (kt : ¬ (x = y) → GG p l e R s m args below meth c Q A dC dI nL w (tgt) lv (rest)) : GG p l e R s m args below meth c Q A dC dI nL w (pc) lv (.int y :: .int x :: rest) :=
  fun ls H locs h1 h2 h3 h4 => lv_icmp_ne E.1 E.2.1 d ht (fun q => kt q ls H locs h1 h2 h3 h4) (fun q => kf q ls H locs h1 h2 h3 h4)
theorem s_goto (E : EV p s m args meth c dC dI cI cZ cc nL own ret) {off : Int} (tgt : Nat) (d : decode cc pc = .ok (.goto off, 3)) (ht : (pc : Int) + off = (tgt : Int)) (k : GG p l e R s m args below meth c Q A dC dI nL w (tgt) lv (rest)) : GG p l e R s m args below meth c Q A dC dI nL w (pc) lv (rest) :=
  fun ls H locs h1 h2 h3 h4 => lv_goto E.1 E.2.1 d ht (k ls H locs h1 h2 h3 h4)
theorem s_ldc (E : EV p s m args meth c dC dI cI cZ cc nL own ret) {index : Nat} {v : Int32} (hm : Cond.constant own index v ∈ wG) (d : decode cc pc = .ok (.ldc index, 2)) (k : GG p l e R s m args below meth c Q A dC dI nL w (pc + 2) lv (.int v :: rest)) : GG p l e R s m args below meth c Q A dC dI nL w (pc) lv (rest) :=
  fun ls H locs h1 h2 h3 h4 => lv_ldc E.1 E.2.1 E.2.2.2.1 (E.2.2.2.2.1 _ hm) d (k ls H locs h1 h2 h3 h4)
theorem s_ldcw (E : EV p s m args meth c dC dI cI cZ cc nL own ret) {index : Nat} {v : Int32} (hm : Cond.constant own index v ∈ wG) (d : decode cc pc = .ok (.ldc_w index, 3)) (k : GG p l e R s m args below meth c Q A dC dI nL w (pc + 3) lv (.int v :: rest)) : GG p l e R s m args below meth c Q A dC dI nL w (pc) lv (rest) :=
  fun ls H locs h1 h2 h3 h4 => lv_ldcw E.1 E.2.1 E.2.2.2.1 (E.2.2.2.2.1 _ hm) d (k ls H locs h1 h2 h3 h4)
theorem s_ldc2 (E : EV p s m args meth c dC dI cI cZ cc nL own ret) {index : Nat} {v : Int64} (hm : Cond.constantLong own index v ∈ wG) (d : decode cc pc = .ok (.ldc2_w index, 3)) (k : GG p l e R s m args below meth c Q A dC dI nL w (pc + 3) lv (.long v :: rest)) : GG p l e R s m args below meth c Q A dC dI nL w (pc) lv (rest) :=
  fun ls H locs h1 h2 h3 h4 => lv_ldc2 E.1 E.2.1 E.2.2.2.1 (E.2.2.2.2.1 _ hm) d (k ls H locs h1 h2 h3 h4)
theorem s_swOut (E : EV p s m args meth c dC dI cI cZ cc nL own ret) {x : Int32} {dflt lo hi : Int} {offs : Array Int} {len : Nat} (tgt : Nat) (d : decode cc pc = .ok (.tableswitch dflt lo hi offs, len)) (h : x.toInt < lo ∨ hi < x.toInt) (ht : (pc : Int) + dflt = (tgt : Int)) (k : GG p l e R s m args below meth c Q A dC dI nL w (tgt) lv (rest)) : GG p l e R s m args below meth c Q A dC dI nL w (pc) lv (.int x :: rest) :=
  fun ls H locs h1 h2 h3 h4 => lv_tableOut E.1 E.2.1 d h ht (k ls H locs h1 h2 h3 h4)
theorem s_swIn (E : EV p s m args meth c dC dI cI cZ cc nL own ret) {x : Int32} {dflt lo hi off : Int} {offs : Array Int} {len : Nat} (tgt : Nat) (d : decode cc pc = .ok (.tableswitch dflt lo hi offs, len)) (ha : ¬ x.toInt < lo) (hb : ¬ hi < x.toInt) (ho : offs[(x.toInt - lo).toNat]? = some off) (ht : (pc : Int) + off = (tgt : Int)) (k : GG p l e R s m args below meth c Q A dC dI nL w (tgt) lv (rest)) : GG p l e R s m args below meth c Q A dC dI nL w (pc) lv (.int x :: rest) :=
  fun ls H locs h1 h2 h3 h4 => lv_tableIn E.1 E.2.1 d ha hb ho ht (k ls H locs h1 h2 h3 h4)
theorem s_sub (E : EV p s m args meth c dC dI cI cZ cc nL own ret) (ks : List Nat) (hl : lv_pick lv ks = lv') (k : GG p l e R s m args below meth c Q A dC dI nL w (pc) lv' (rest)) : GG p l e R s m args below meth c Q A dC dI nL w (pc) lv (rest) :=
  fun ls H locs h1 h2 h3 h4 => k ls H locs (lv_sub h1 ks hl) h2 h3 h4
theorem s_get (E : EV p s m args meth c dC dI cI cZ cc nL own ret) {C : String} {T : u_T} {N ci a index : Nat} {fs : List Value} {v : Value} (q0 kk : Nat) (hin : ∀ w ∈ u_ws C T N, w ∈ wG) (hc : vwCl[ci]? = some (C, T, N)) (he : w[q0]? = some (a, .inr (ci, fs))) (hkk : kk < N) (hm : Cond.fieldLink own index (T kk).1 (T kk).2.1 (T kk).2.2.1 ∈ wG) (hv : fs[kk]? = some v) (d : decode cc pc = .ok (.getfield index, 3)) (k : GG p l e R s m args below meth c Q A dC dI nL w (pc + 3) lv (v :: rest)) : GG p l e R s m args below meth c Q A dC dI nL w (pc) lv (.ref a :: rest) :=
  fun ls H locs h1 h2 h3 h4 => va_get E.1 E.2.1 E.2.2.2.2.1 hin E.2.2.2.1 E.2.2.2.2.2.1.1 h2 q0 he hc kk hkk (E.2.2.2.2.1 _ hm) (fun _ h => h) hv d (k ls H locs h1 h2 h3 h4)
theorem s_put (E : EV p s m args meth c dC dI cI cZ cc nL own ret) {C : String} {T : u_T} {N ci a index : Nat} {fs : List Value} {v : Value} {ty : FieldType} (q0 kk : Nat) (ty0 : Nat → FieldType) (hty : ∀ k, k < N → parseFieldDescriptor (T k).2.2.1 = some (ty0 k)) (hnm : ∀ a, a < N → ∀ b, b < N → a ≠ b → (T a).2.1 ≠ (T b).2.1) (hin : ∀ w ∈ u_ws C T N, w ∈ wG) (hc : vwCl[ci]? = some (C, T, N)) (he : w[q0]? = some (a, .inr (ci, fs))) (hkk : kk < N) (hm : Cond.fieldLink own index (T kk).1 (T kk).2.1 (T kk).2.2.1 ∈ wG) (hfin : (T kk).2.2.2 = false) (hd : parseFieldDescriptor (T kk).2.2.1 = some ty) (hn : narrow ty v = v) (hfit : fits ty v = true) (hl : kk < fs.length) (hw : w.set q0 (a, .inr (ci, fs.set kk v)) = w') (d : decode cc pc = .ok (.putfield index, 3)) (k : GG p l e R s m args below meth c Q A dC dI nL w' (pc + 3) lv (rest)) : GG p l e R s m args below meth c Q A dC dI nL w (pc) lv (v :: .ref a :: rest) :=
  fun ls H locs h1 h2 h3 h4 => va_put E.1 E.2.1 E.2.2.2.2.1 hin ty0 hty hnm E.2.2.2.1 E.2.2.2.2.2.1.1 h2 h3 h4 q0 he hc kk hkk (E.2.2.2.2.1 _ hm) (fun _ h => h) hfin hd hn hfit hl d (fun H1 locs1 a1 a2 a3 => k ls H1 locs1 h1 (hw ▸ a1) (hw ▸ a2) a3)
theorem s_iald (E : EV p s m args meth c dC dI cI cZ cc nL own ret) {n a : Nat} {i : Int32} {f : Nat → Int32} (q0 : Nat) (he : w[q0]? = some (a, .inl (cI, n, .inl f))) (hb : vp_in i n) {v : Int32} (hv : f i.toNatClampNeg = v) (d : decode cc pc = .ok (.iaload, 1)) (k : GG p l e R s m args below meth c Q A dC dI nL w (pc + 1) lv (.int v :: rest)) : GG p l e R s m args below meth c Q A dC dI nL w (pc) lv (.int i :: .ref a :: rest) :=
  fun ls H locs h1 h2 h3 h4 => va_iald E.1 E.2.1 E.2.2.2.2.2.1.1 h2 q0 0 he rfl hb d (hv ▸ (k ls H locs h1 h2 h3 h4))
theorem s_zald (E : EV p s m args meth c dC dI cI cZ cc nL own ret) {n a : Nat} {i : Int32} {f : Nat → Int32} (q0 : Nat) (he : w[q0]? = some (a, .inl (cZ, n, .inl f))) (hb : vp_in i n) {v : Int32} (hv : f i.toNatClampNeg = v) (d : decode cc pc = .ok (.baload, 1)) (k : GG p l e R s m args below meth c Q A dC dI nL w (pc + 1) lv (.int v :: rest)) : GG p l e R s m args below meth c Q A dC dI nL w (pc) lv (.int i :: .ref a :: rest) :=
  fun ls H locs h1 h2 h3 h4 => va_zald E.1 E.2.1 E.2.2.2.2.2.1.1 h2 q0 1 he rfl hb d (hv ▸ (k ls H locs h1 h2 h3 h4))
theorem s_iast (E : EV p s m args meth c dC dI cI cZ cc nL own ret) {n a : Nat} {i x : Int32} {f : Nat → Int32} (q0 : Nat) (he : w[q0]? = some (a, .inl (cI, n, .inl f))) (hb : vp_in i n) (hw : w.set q0 (a, .inl (cI, n, .inl (upd f i.toNatClampNeg (x)))) = w') (d : decode cc pc = .ok (.iastore, 1)) (k : GG p l e R s m args below meth c Q A dC dI nL w' (pc + 1) lv (rest)) : GG p l e R s m args below meth c Q A dC dI nL w (pc) lv (.int x :: .int i :: .ref a :: rest) :=
  fun ls H locs h1 h2 h3 h4 => va_iast E.1 E.2.1 E.2.2.2.2.2.1.1 h2 h3 h4 q0 0 he rfl hb d (fun H1 locs1 a1 a2 a3 => k ls H1 locs1 h1 (hw ▸ a1) (hw ▸ a2) a3)
theorem s_zast (E : EV p s m args meth c dC dI cI cZ cc nL own ret) {n a : Nat} {i x : Int32} {f : Nat → Int32} (q0 : Nat) (he : w[q0]? = some (a, .inl (cZ, n, .inl f))) (hb : vp_in i n) (hw : w.set q0 (a, .inl (cZ, n, .inl (upd f i.toNatClampNeg (vp_nar .boolean x)))) = w') (d : decode cc pc = .ok (.bastore, 1)) (k : GG p l e R s m args below meth c Q A dC dI nL w' (pc + 1) lv (rest)) : GG p l e R s m args below meth c Q A dC dI nL w (pc) lv (.int x :: .int i :: .ref a :: rest) :=
  fun ls H locs h1 h2 h3 h4 => va_zast E.1 E.2.1 E.2.2.2.2.2.1.1 h2 h3 h4 q0 1 he rfl hb d (fun H1 locs1 a1 a2 a3 => k ls H1 locs1 h1 (hw ▸ a1) (hw ▸ a2) a3)
theorem s_mmax (E : EV p s m args meth c dC dI cI cZ cc nL own ret) {index : Nat} {x y : Int32} (hm : Cond.methodLink own index Lib.Math.max.name ∈ wG) (hf : 1 ≤ R.frames) (hlo : (rest.map fun v => v.category).sum + 13 ≤ R.locals) (d : decode cc pc = .ok (.invokestatic index, 3)) (k : GG p l e R s m args below meth c Q A dC dI nL w (pc + 3) lv (.int (if x < y then y else x) :: rest)) : GG p l e R s m args below meth c Q A dC dI nL w (pc) lv (.int y :: .int x :: rest) :=
  fun ls H locs h1 h2 h3 h4 => va_mmax E.1 E.2.1 (E.2.2.1.trans h1.1.symm) E.2.2.2.1 (E.2.2.2.2.1 _ hm) (E.2.2.2.2.1 (.static Lib.Math.max.name) m_stat_J9_max_7cf53) (E.2.2.2.2.1 (.initialized "java/lang/Math") m_ini_J9) (E.2.2.2.2.1 (.code Lib.Math.max.name Lib.Math.max.code 2 (some .int)) m_code_J9_max_7cf53) hf hlo (Nat.zero_le _) (Nat.zero_le _) d (k ls H locs h1 h2 h3 h4)
theorem s_mmin (E : EV p s m args meth c dC dI cI cZ cc nL own ret) {index : Nat} {x y : Int32} (hm : Cond.methodLink own index Lib.Math.min.name ∈ wG) (hf : 1 ≤ R.frames) (hlo : (rest.map fun v => v.category).sum + 13 ≤ R.locals) (d : decode cc pc = .ok (.invokestatic index, 3)) (k : GG p l e R s m args below meth c Q A dC dI nL w (pc + 3) lv (.int (if y < x then y else x) :: rest)) : GG p l e R s m args below meth c Q A dC dI nL w (pc) lv (.int y :: .int x :: rest) :=
  fun ls H locs h1 h2 h3 h4 => va_mmin E.1 E.2.1 (E.2.2.1.trans h1.1.symm) E.2.2.2.1 (E.2.2.2.2.1 _ hm) (E.2.2.2.2.1 (.static Lib.Math.min.name) m_stat_J9_min_7cf53) (E.2.2.2.2.1 (.initialized "java/lang/Math") m_ini_J9) (E.2.2.2.2.1 (.code Lib.Math.min.name Lib.Math.min.code 2 (some .int)) m_code_J9_min_7cf53) hf hlo (Nat.zero_le _) (Nat.zero_le _) d (k ls H locs h1 h2 h3 h4)
end
/-- what a callee's words say of it: an instance method -/
def CV (y : MethodName) (C : String) (bytes : ByteArray) (maxL : Nat) (ret : Option FieldType) (n : Nat) : Prop := Cond.code y bytes maxL ret ∈ wG ∧ Cond.instanceMethod y ∈ wG ∧ Cond.selects C y y ∈ wG ∧ Cond.initialized C ∈ wG ∧ (y.cls = C ∧ y.cls ≠ "java/lang/invoke/MethodHandle" ∧ y.cls ≠ "java/lang/invoke/VarHandle" ∧ (parseMethodDescriptor y.desc).map (fun d => d.parameters.length) = some n)
/-- .. a static one -/
def CS (y : MethodName) (C : String) (bytes : ByteArray) (maxL : Nat) (ret : Option FieldType) (n : Nat) : Prop := Cond.code y bytes maxL ret ∈ wG ∧ Cond.static y ∈ wG ∧ Cond.initialized C ∈ wG ∧ (y.cls = C ∧ y.cls ≠ "java/lang/invoke/MethodHandle" ∧ y.cls ≠ "java/lang/invoke/VarHandle" ∧ (parseMethodDescriptor y.desc).map (fun d => d.parameters.length) = some n)
theorem b_goodIn {y : MethodName} {bytes : ByteArray} {maxL : Nat} {ret : Option FieldType} (h : Cond.code y bytes maxL ret ∈ wG) : GoodIn wG (Cond.code y bytes maxL ret :: wG) := by
  intro w hw
  rcases List.mem_cons.mp hw with rfl | hw
  · exact ⟨h, good_of_word (List.mem_filter.mp h).2⟩
  · exact ⟨hw, good_of_word (List.mem_filter.mp hw).2⟩
section
variable {p : Program} {l : Launch} {e : Env} {R : Room} {s : State} {m : MethodId} {args : Array Value} {below : List Frame} {meth : Method} {c : Code} {Q : State → Prop} {A : Nat → Prop} {dC : Nat → ClassId} {dI : Nat → Nat → Nat} {cI cZ : ClassId} {cc : ByteArray} {nL : Nat} {own : String} {ret : Option FieldType} {w w' : va_W} {pc : Nat} {lv lv' : List (Nat × Value)} {rest st : List Value}
/-- behind a call -/
theorem b_after {y : MethodName} {rm : Room} {ov : Option Value} {a : Array Value} {ls : Array Slot} {H : Heap} {locs : List Loc} {st0 : List Value} (hr : va_Run p l e R s m args below meth c H locs 0 0 0 0 (F0 m pc ls st0) rest (CQ dC dI ov w' A a) A) (h1 : lv_has ls nL lv) (h4 : va_S A s.heap H locs) (k : GG p l e R s m args below meth c Q A dC dI nL w' (pc + 3) lv (ov.toList ++ rest)) : W p l e R s m args below meth c H locs 0 0 Q (F0 m pc ls st0) := by
  intro T hT X
  obtain ⟨v, st₀, t, T', L, h0, X', hL, e1, e2, ⟨⟨hv, hP, hD⟩, hz, hk⟩, stp⟩ := hr T hT X
  cases hv
  rw [h0] at hz hk
  have hS : va_S A s.heap T'.heap (locs ++ L) := ⟨Nat.le_trans h4.1 (by rw [e1]; exact hz), fun q g1 g2 => by rw [e1, hk q (Nat.lt_of_lt_of_le g1 h4.1) g2]; exact h4.2.1 q g1 g2, fun q hq => by
      rcases List.mem_append.mp hq with h | h
      · exact h4.2.2 q h
      · exact hL q h⟩
  obtain ⟨t2, a1, b1⟩ := k ls T'.heap (locs ++ L) h1 (by rw [e1]; exact hP) hD hS T' rfl X'
  exact ⟨t2, stp t2 a1, b1⟩

theorem s_callV (E : EV p s m args meth c dC dI cI cZ cc nL own ret) {y : MethodName} {C : String} {bytes : ByteArray} {maxL n idx b ci q0 : Nat} {ret2 : Option FieldType} {rm : Room} {As fs : List Value} {ov : Option Value} {r : vw_C} (hF : CV y C bytes maxL ret2 n) (hm : Cond.methodLink own idx y ∈ wG) (hM : CT l dC dI cI cZ A y bytes maxL ret2 rm (.ref b :: As) w w' ov) (hrm : rm.cells = 0 ∧ rm.slots = 0 ∧ rm.frames + 1 ≤ R.frames ∧ 8 + (maxL + 11) + rm.locals ≤ R.locals) (hq : w[q0]? = some (b, .inr (ci, fs))) (hcl : vwCl[ci]? = some r) (hrC : r.1 = C) (hn : As.length = n) (hst : st = As.reverse ++ .ref b :: rest) (hsum : (rest.map fun v => v.category).sum ≤ 8) (d : decode cc pc = .ok (.invokevirtual idx, 3)) (k : GG p l e R s m args below meth c Q A dC dI nL w' (pc + 3) lv (ov.toList ++ rest)) : GG p l e R s m args below meth c Q A dC dI nL w pc lv st := by
  intro ls H locs h1 h2 h3 h4
  obtain ⟨f1, f2, f3, f4, f5⟩ := hF
  have hts := E.2.2.2.2.1
  subst hst
  refine b_after (y := y) (rm := rm) (va_runV (Ts := wG) (bytes := bytes) (maxL := maxL) (ret := ret2) (C := C) (n := n) (index := idx) ⟨E.1, E.2.1, E.2.2.1, E.2.2.2.1, hts⟩ hM ?_ ⟨?_, ?_, ?_⟩ rfl hn h1.1 rfl (lv_room hsum) d ⟨Nat.zero_le _, Nat.zero_le _⟩) h1 h4 k
  · obtain ⟨fC, fd⟩ := f5
    exact ⟨callB_of n hts (b_goodIn f1) rfl hrm.1 hrm.2.1 (by rw [fC]; exact hts _ f4) (hts _ hm) fd ⟨hrm.2.2.1, hrm.2.2.2⟩, hts _ f2, hts _ f3⟩
  · exact fun a U g mk q => ⟨q.1, q.2.1, q.2.2.1.calling g mk a, q.2.2.2⟩
  · rw [← hrC]
    exact va_recv E.2.2.2.2.2.1.1 h2 hcl hq
  · exact fun U hU hW => ⟨rfl, by rw [hU]; exact h2, KK.warm hW E.2.2.2.2.2.1, h3⟩
theorem s_callS (E : EV p s m args meth c dC dI cI cZ cc nL own ret) {y : MethodName} {C : String} {bytes : ByteArray} {maxL n idx : Nat} {ret2 : Option FieldType} {rm : Room} {As : List Value} {ov : Option Value} (hF : CS y C bytes maxL ret2 n) (hm : Cond.methodLink own idx y ∈ wG) (hM : CT l dC dI cI cZ A y bytes maxL ret2 rm As w w' ov) (hrm : rm.cells = 0 ∧ rm.slots = 0 ∧ rm.frames + 1 ≤ R.frames ∧ 8 + (maxL + 11) + rm.locals ≤ R.locals) (hn : As.length = n) (hst : st = As.reverse ++ rest) (hsum : (rest.map fun v => v.category).sum ≤ 8) (d : decode cc pc = .ok (.invokestatic idx, 3)) (k : GG p l e R s m args below meth c Q A dC dI nL w' (pc + 3) lv (ov.toList ++ rest)) : GG p l e R s m args below meth c Q A dC dI nL w pc lv st := by
  intro ls H locs h1 h2 h3 h4
  obtain ⟨f1, f2, f4, f5⟩ := hF
  have hts := E.2.2.2.2.1
  subst hst
  refine b_after (y := y) (rm := rm) (va_runS (Ts := wG) (bytes := bytes) (maxL := maxL) (ret := ret2) (n := n) (index := idx) ⟨E.1, E.2.1, E.2.2.1, E.2.2.2.1, hts⟩ hM ?_ ⟨?_, ?_⟩ rfl hn h1.1 rfl (lv_room hsum) d ⟨Nat.zero_le _, Nat.zero_le _⟩) h1 h4 k
  · obtain ⟨fC, fd⟩ := f5
    exact ⟨callB_of n hts (b_goodIn f1) rfl hrm.1 hrm.2.1 (by rw [fC]; exact hts _ f4) (hts _ hm) fd ⟨hrm.2.2.1, hrm.2.2.2⟩, hts _ f2⟩
  · exact fun a U g mk q => ⟨q.1, q.2.1, q.2.2.1.calling g mk a, q.2.2.2⟩
  · exact fun U hU hW => ⟨rfl, by rw [hU]; exact h2, KK.warm hW E.2.2.2.2.2.1, h3⟩
theorem s_callSN (E : EV p s m args meth c dC dI cI cZ cc nL own ret) {y : MethodName} {C : String} {bytes : ByteArray} {maxL n idx : Nat} {ret2 : Option FieldType} {rm : Room} {As : List Value} {ov : Option Value} (hF : CS y C bytes maxL ret2 n) (hm : (own, idx, y) ∈ nestT) (hM : CT l dC dI cI cZ A y bytes maxL ret2 rm As w w' ov) (hrm : rm.cells = 0 ∧ rm.slots = 0 ∧ rm.frames + 1 ≤ R.frames ∧ 8 + (maxL + 11) + rm.locals ≤ R.locals) (hn : As.length = n) (hst : st = As.reverse ++ rest) (hsum : (rest.map fun v => v.category).sum ≤ 8) (d : decode cc pc = .ok (.invokestatic idx, 3)) (k : GG p l e R s m args below meth c Q A dC dI nL w' (pc + 3) lv (ov.toList ++ rest)) : GG p l e R s m args below meth c Q A dC dI nL w pc lv st := by
  intro ls H locs h1 h2 h3 h4
  obtain ⟨f1, f2, f4, f5⟩ := hF
  have hts := E.2.2.2.2.1
  subst hst
  obtain ⟨fC, fd⟩ := f5
  refine b_after (y := y) (rm := rm) (va_runSN (Ts := wG) (bytes := bytes) (maxL := maxL) (ret := ret2) (n := n) (index := idx) (host := RX4) ⟨E.1, E.2.1, E.2.2.1, E.2.2.2.1, hts⟩ hM ⟨va_cnB n hts (b_goodIn f1) rfl hrm.1 hrm.2.1 (E.2.2.2.2.2.1.2 _ hm) (by rw [fC]; exact hts _ f4) fd ⟨hrm.2.2.1, hrm.2.2.2⟩, hts _ f2, trivial⟩ ⟨?_, ?_⟩ rfl hn h1.1 rfl (lv_room hsum) d ⟨Nat.zero_le _, Nat.zero_le _⟩) h1 h4 k
  · exact fun a U g mk q => ⟨q.1, q.2.1, q.2.2.1.calling g mk a, q.2.2.2⟩
  · exact fun U hU hW => ⟨rfl, by rw [hU]; exact h2, KK.warm hW E.2.2.2.2.2.1, h3⟩
theorem s_callVi (E : EV p s m args meth c dC dI cI cZ cc nL own ret) {y : MethodName} {C : String} {bytes : ByteArray} {maxL n idx b ci q0 : Nat} {ret2 : Option FieldType} {rm : Room} {As fs : List Value} {r : Int32} {r0 : vw_C} (hF : CV y C bytes maxL ret2 n) (hm : Cond.methodLink own idx y ∈ wG) (hM : CT l dC dI cI cZ A y bytes maxL ret2 rm (.ref b :: As) w w' (some (.int r))) (hrm : rm.cells = 0 ∧ rm.slots = 0 ∧ rm.frames + 1 ≤ R.frames ∧ 8 + (maxL + 11) + rm.locals ≤ R.locals) (hq : w[q0]? = some (b, .inr (ci, fs))) (hcl : vwCl[ci]? = some r0) (hrC : r0.1 = C) (hn : As.length = n) (hst : st = As.reverse ++ .ref b :: rest) (hsum : (rest.map fun v => v.category).sum ≤ 8) (d : decode cc pc = .ok (.invokevirtual idx, 3)) (k : GG p l e R s m args below meth c Q A dC dI nL w' (pc + 3) lv (.int r :: rest)) : GG p l e R s m args below meth c Q A dC dI nL w pc lv st := s_callV E hF hm hM hrm hq hcl hrC hn hst hsum d k
theorem s_callVv (E : EV p s m args meth c dC dI cI cZ cc nL own ret) {y : MethodName} {C : String} {bytes : ByteArray} {maxL n idx b ci q0 : Nat} {ret2 : Option FieldType} {rm : Room} {As fs : List Value}  {r0 : vw_C} (hF : CV y C bytes maxL ret2 n) (hm : Cond.methodLink own idx y ∈ wG) (hM : CT l dC dI cI cZ A y bytes maxL ret2 rm (.ref b :: As) w w' none) (hrm : rm.cells = 0 ∧ rm.slots = 0 ∧ rm.frames + 1 ≤ R.frames ∧ 8 + (maxL + 11) + rm.locals ≤ R.locals) (hq : w[q0]? = some (b, .inr (ci, fs))) (hcl : vwCl[ci]? = some r0) (hrC : r0.1 = C) (hn : As.length = n) (hst : st = As.reverse ++ .ref b :: rest) (hsum : (rest.map fun v => v.category).sum ≤ 8) (d : decode cc pc = .ok (.invokevirtual idx, 3)) (k : GG p l e R s m args below meth c Q A dC dI nL w' (pc + 3) lv (rest)) : GG p l e R s m args below meth c Q A dC dI nL w pc lv st := s_callV E hF hm hM hrm hq hcl hrC hn hst hsum d k
theorem s_callVr (E : EV p s m args meth c dC dI cI cZ cc nL own ret) {y : MethodName} {C : String} {bytes : ByteArray} {maxL n idx b ci q0 : Nat} {ret2 : Option FieldType} {rm : Room} {As fs : List Value} {r : Nat} {r0 : vw_C} (hF : CV y C bytes maxL ret2 n) (hm : Cond.methodLink own idx y ∈ wG) (hM : CT l dC dI cI cZ A y bytes maxL ret2 rm (.ref b :: As) w w' (some (.ref r))) (hrm : rm.cells = 0 ∧ rm.slots = 0 ∧ rm.frames + 1 ≤ R.frames ∧ 8 + (maxL + 11) + rm.locals ≤ R.locals) (hq : w[q0]? = some (b, .inr (ci, fs))) (hcl : vwCl[ci]? = some r0) (hrC : r0.1 = C) (hn : As.length = n) (hst : st = As.reverse ++ .ref b :: rest) (hsum : (rest.map fun v => v.category).sum ≤ 8) (d : decode cc pc = .ok (.invokevirtual idx, 3)) (k : GG p l e R s m args below meth c Q A dC dI nL w' (pc + 3) lv (.ref r :: rest)) : GG p l e R s m args below meth c Q A dC dI nL w pc lv st := s_callV E hF hm hM hrm hq hcl hrC hn hst hsum d k
theorem s_callSi (E : EV p s m args meth c dC dI cI cZ cc nL own ret) {y : MethodName} {C : String} {bytes : ByteArray} {maxL n idx : Nat} {ret2 : Option FieldType} {rm : Room} {As : List Value} {r : Int32} (hF : CS y C bytes maxL ret2 n) (hm : Cond.methodLink own idx y ∈ wG) (hM : CT l dC dI cI cZ A y bytes maxL ret2 rm As w w' (some (.int r))) (hrm : rm.cells = 0 ∧ rm.slots = 0 ∧ rm.frames + 1 ≤ R.frames ∧ 8 + (maxL + 11) + rm.locals ≤ R.locals) (hn : As.length = n) (hst : st = As.reverse ++ rest) (hsum : (rest.map fun v => v.category).sum ≤ 8) (d : decode cc pc = .ok (.invokestatic idx, 3)) (k : GG p l e R s m args below meth c Q A dC dI nL w' (pc + 3) lv (.int r :: rest)) : GG p l e R s m args below meth c Q A dC dI nL w pc lv st := s_callS E hF hm hM hrm hn hst hsum d k
theorem s_callSv (E : EV p s m args meth c dC dI cI cZ cc nL own ret) {y : MethodName} {C : String} {bytes : ByteArray} {maxL n idx : Nat} {ret2 : Option FieldType} {rm : Room} {As : List Value}  (hF : CS y C bytes maxL ret2 n) (hm : Cond.methodLink own idx y ∈ wG) (hM : CT l dC dI cI cZ A y bytes maxL ret2 rm As w w' none) (hrm : rm.cells = 0 ∧ rm.slots = 0 ∧ rm.frames + 1 ≤ R.frames ∧ 8 + (maxL + 11) + rm.locals ≤ R.locals) (hn : As.length = n) (hst : st = As.reverse ++ rest) (hsum : (rest.map fun v => v.category).sum ≤ 8) (d : decode cc pc = .ok (.invokestatic idx, 3)) (k : GG p l e R s m args below meth c Q A dC dI nL w' (pc + 3) lv (rest)) : GG p l e R s m args below meth c Q A dC dI nL w pc lv st := s_callS E hF hm hM hrm hn hst hsum d k
theorem s_callSr (E : EV p s m args meth c dC dI cI cZ cc nL own ret) {y : MethodName} {C : String} {bytes : ByteArray} {maxL n idx : Nat} {ret2 : Option FieldType} {rm : Room} {As : List Value} {r : Nat} (hF : CS y C bytes maxL ret2 n) (hm : Cond.methodLink own idx y ∈ wG) (hM : CT l dC dI cI cZ A y bytes maxL ret2 rm As w w' (some (.ref r))) (hrm : rm.cells = 0 ∧ rm.slots = 0 ∧ rm.frames + 1 ≤ R.frames ∧ 8 + (maxL + 11) + rm.locals ≤ R.locals) (hn : As.length = n) (hst : st = As.reverse ++ rest) (hsum : (rest.map fun v => v.category).sum ≤ 8) (d : decode cc pc = .ok (.invokestatic idx, 3)) (k : GG p l e R s m args below meth c Q A dC dI nL w' (pc + 3) lv (.ref r :: rest)) : GG p l e R s m args below meth c Q A dC dI nL w pc lv st := s_callS E hF hm hM hrm hn hst hsum d k
theorem s_callSNi (E : EV p s m args meth c dC dI cI cZ cc nL own ret) {y : MethodName} {C : String} {bytes : ByteArray} {maxL n idx : Nat} {ret2 : Option FieldType} {rm : Room} {As : List Value} {r : Int32} (hF : CS y C bytes maxL ret2 n) (hm : (own, idx, y) ∈ nestT) (hM : CT l dC dI cI cZ A y bytes maxL ret2 rm As w w' (some (.int r))) (hrm : rm.cells = 0 ∧ rm.slots = 0 ∧ rm.frames + 1 ≤ R.frames ∧ 8 + (maxL + 11) + rm.locals ≤ R.locals) (hn : As.length = n) (hst : st = As.reverse ++ rest) (hsum : (rest.map fun v => v.category).sum ≤ 8) (d : decode cc pc = .ok (.invokestatic idx, 3)) (k : GG p l e R s m args below meth c Q A dC dI nL w' (pc + 3) lv (.int r :: rest)) : GG p l e R s m args below meth c Q A dC dI nL w pc lv st := s_callSN E hF hm hM hrm hn hst hsum d k
theorem s_callSNv (E : EV p s m args meth c dC dI cI cZ cc nL own ret) {y : MethodName} {C : String} {bytes : ByteArray} {maxL n idx : Nat} {ret2 : Option FieldType} {rm : Room} {As : List Value}  (hF : CS y C bytes maxL ret2 n) (hm : (own, idx, y) ∈ nestT) (hM : CT l dC dI cI cZ A y bytes maxL ret2 rm As w w' none) (hrm : rm.cells = 0 ∧ rm.slots = 0 ∧ rm.frames + 1 ≤ R.frames ∧ 8 + (maxL + 11) + rm.locals ≤ R.locals) (hn : As.length = n) (hst : st = As.reverse ++ rest) (hsum : (rest.map fun v => v.category).sum ≤ 8) (d : decode cc pc = .ok (.invokestatic idx, 3)) (k : GG p l e R s m args below meth c Q A dC dI nL w' (pc + 3) lv (rest)) : GG p l e R s m args below meth c Q A dC dI nL w pc lv st := s_callSN E hF hm hM hrm hn hst hsum d k
theorem s_callSNr (E : EV p s m args meth c dC dI cI cZ cc nL own ret) {y : MethodName} {C : String} {bytes : ByteArray} {maxL n idx : Nat} {ret2 : Option FieldType} {rm : Room} {As : List Value} {r : Nat} (hF : CS y C bytes maxL ret2 n) (hm : (own, idx, y) ∈ nestT) (hM : CT l dC dI cI cZ A y bytes maxL ret2 rm As w w' (some (.ref r))) (hrm : rm.cells = 0 ∧ rm.slots = 0 ∧ rm.frames + 1 ≤ R.frames ∧ 8 + (maxL + 11) + rm.locals ≤ R.locals) (hn : As.length = n) (hst : st = As.reverse ++ rest) (hsum : (rest.map fun v => v.category).sum ≤ 8) (d : decode cc pc = .ok (.invokestatic idx, 3)) (k : GG p l e R s m args below meth c Q A dC dI nL w' (pc + 3) lv (.ref r :: rest)) : GG p l e R s m args below meth c Q A dC dI nL w pc lv st := s_callSN E hF hm hM hrm hn hst hsum d k
end
section
variable {p : Program} {l : Launch} {e : Env} {R : Room} {s : State} {m : MethodId} {args : Array Value} {below : List Frame} {meth : Method} {c : Code} {A : Nat → Prop} {dC : Nat → ClassId} {dI : Nat → Nat → Nat} {cI cZ : ClassId} {cc : ByteArray} {nL : Nat} {own : String} {ret : Option FieldType} {w w' : va_W} {pc : Nat} {lv lv' : List (Nat × Value)} {rest st : List Value}
/-- the ends -/
theorem s_iret (E : EV p s m args meth c dC dI cI cZ cc nL own (some .int)) {v r : Int32} (hv : v = r) (hw : w = w') (d : decode cc pc = .ok (.ireturn, 1)) : GG p l e R s m args below meth c (MQ below (CQ dC dI (some (.int r)) w' A) args s 0 0 A) A dC dI nL w pc lv [.int v] := by
  subst hv
  subst hw
  exact fun ls H locs h1 h2 h3 h4 => W.iret E.1 E.2.1 E.2.2.2.2.2.2.1 (fun t ht hW => ⟨⟨rfl, by rw [ht]; exact h2, h3⟩, h4.F ht⟩) h4.2.2 d E.2.2.2.2.2.2.2
theorem s_zret (E : EV p s m args meth c dC dI cI cZ cc nL own (some .boolean)) {v r : Int32} (hn : narrow .boolean (.int v) = .int v) (hv : v = r) (hw : w = w') (d : decode cc pc = .ok (.ireturn, 1)) : GG p l e R s m args below meth c (MQ below (CQ dC dI (some (.int r)) w' A) args s 0 0 A) A dC dI nL w pc lv [.int v] := by
  subst hv
  subst hw
  exact fun ls H locs h1 h2 h3 h4 => W.zret E.1 E.2.1 E.2.2.2.2.2.2.1 hn (fun t ht hW => ⟨⟨rfl, by rw [ht]; exact h2, h3⟩, h4.F ht⟩) h4.2.2 d E.2.2.2.2.2.2.2
theorem s_vret (E : EV p s m args meth c dC dI cI cZ cc nL own none) (hw : w = w') (d : decode cc pc = .ok (.return_, 1)) : GG p l e R s m args below meth c (MQ below (CQ dC dI none w' A) args s 0 0 A) A dC dI nL w pc lv [] := by
  subst hw
  exact fun ls H locs h1 h2 h3 h4 => W.vret E.1 E.2.1 E.2.2.2.2.2.2.1 (fun t ht hW => ⟨⟨rfl, by rw [ht]; exact h2, h3⟩, h4.F ht⟩) h4.2.2 d E.2.2.2.2.2.2.2
theorem s_aret {C : String} (E : EV p s m args meth c dC dI cI cZ cc nL own (some (.object C))) {v r : Nat} (hv : v = r) (hw : w = w') (d : decode cc pc = .ok (.areturn, 1)) : GG p l e R s m args below meth c (MQ below (CQ dC dI (some (.ref r)) w' A) args s 0 0 A) A dC dI nL w pc lv [.ref v] := by
  subst hv
  subst hw
  exact fun ls H locs h1 h2 h3 h4 => W.aret E.1 E.2.1 E.2.2.2.2.2.2.1 (Or.inl ⟨_, rfl⟩) (Or.inr ⟨_, rfl⟩) (fun t ht hW => ⟨⟨rfl, by rw [ht]; exact h2, h3⟩, h4.F ht⟩) h4.2.2 d E.2.2.2.2.2.2.2
end
/-- a contract out of its walk -/
theorem b_met {l : Launch} {dC : Nat → ClassId} {dI : Nat → Nat → Nat} {cI cZ : ClassId} {A : Nat → Prop} {y : MethodName} {bytes : ByteArray} {maxL : Nat} {ret : Option FieldType} {rm : Room} {av : List Value} {w w' : va_W} {ov : Option Value} (hy : plainName y.cls = true) (hlen : (lg_sl av).length ≤ maxL)
    (k : ∀ (p : Program) (e : Env) (s : State) (m : MethodId) (below : List Frame) (meth : Method) (c : Code), EV p s m av.toArray meth c dC dI cI cZ bytes maxL y.cls ret → GG p l e rm s m av.toArray below meth c (MQ below (CQ dC dI ov w' A) av.toArray s 0 0 A) A dC dI maxL w 0 (lv_args 0 av) []) :
    CT l dC dI cI cZ A y bytes maxL ret rm av w w' ov := by
  refine Met.ofW (cc := bytes) (maxL := maxL) (ret := ret) hy rfl ?_
  intro p e s m args below meth c s₁ B hml hv
  obtain ⟨rfl, hP, hK, hD⟩ := hv
  have hts := atoms_spec (ws := Cond.code y bytes maxL ret :: wG) B.pre
  have E : EV p s m av.toArray meth c dC dI cI cZ bytes maxL y.cls ret := ⟨B.exec, B.bytes, hml, findClass_of_methodNamed B.named, fun w h => hts w (List.mem_cons_of_mem _ h), hK, B.returns, B.notSynchronized⟩
  have hl := lv_entry av (n := maxL) hlen
  rw [lg_entry_eq]
  exact k p e s m below meth c E _ s.heap [] hl hP hD va_S.rf
