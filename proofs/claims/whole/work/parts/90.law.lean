def R_law : String := "FerriesLevelLaw"
def lw_P (b : Addr) (xs : List Int32) (args : Array Value) (s : State) : Prop := args = #[.ref b] ∧ s.IntsAt b xs ∧ xs.length ≤ 2048 ∧ (Jvm.Cond.and given_1 narrow_1).before args s = true
def lw_Q (_ : Array Value) (s : State) (o : Outcome) (t : State) : Prop := o = .returned (some (.int 1)) ∧ Framed s o t [] 48 2232
def lw_Z (below : List Frame) (a : Array Value) (s : State) : State → Prop := fun t => ∃ o, t.status = .running ∧ Ended t below o ∧ lw_Q a s o t
/-- the law's own end, with 1 on the stack, nothing written that was there before, its room as the claim has it -/
theorem lw_ret {p : Program} {l : Launch} {e : Env} {s : State} {m : MethodId} {below : List Frame} {meth : Method} {c : Code} {b : Nat} (hx : p.tables.exec = Jvm.exec) (hb : c.code = code) (hr : meth.sig.returnType = ret) (hlocks : meth.locks = false) {pc : Nat} {H : Heap} {ls : Array Slot} (hdg : decode code pc = .ok (.ireturn, 1)) : W p l e room_1 s m #[Value.ref b] below meth c H [] 48 2232 (lw_Z below #[Value.ref b] s) (F0 m pc ls [.int 1]) := by
  intro T hT X
  obtain ⟨fs, hret, hrun, hended, hW, hframe⟩ := X.leave (v := some (.int 1)) (hlocks := hlocks) (fun h => by rw [hr] at h; cases h)
  have hmeth' : T.vm.method? m = some meth := X.method'
  refine ⟨T.setFrames fs, ?_, .returned (some (.int 1)), hrun, hended, rfl, ⟨_, rfl⟩, hW, hframe⟩
  jvm_step X.here [X.here.top, hx, hb, hdg, hmeth', hr, ret, narrow_b1]
  (try refine ⟨rfl, ?_⟩); (try refine ⟨rfl, ?_⟩)
  first | (intro acts; rw [hret _ acts rfl rfl rfl]) | rw [hret _ _ rfl rfl rfl]
  exact Steps.refl _
/-- what holds at the law's entry: the machine, the code, the tables' words (any of lw_tbl by 'hts w (by decide +kernel)'), the script of L ints xs at the cell b, what the Statement gives of the start (any of its parts by flat_of_before) -/
def lw_At (p : Program) (s : State) (m : MethodId) (meth : Method) (c : Code) (b L : Nat) (xs : Nat → Int32) : Prop :=
  p.tables.exec = Jvm.exec ∧ c.code = code ∧ meth.sig.returnType = ret ∧ c.maxLocals = 4 ∧ s.vm.findClass R_law = some m.cls ∧ (∀ w ∈ lw_tbl, w.before #[Value.ref b] s = true) ∧ va_X b L xs s s.heap ∧ b < s.heap.size ∧ meth.locks = false ∧ (Jvm.Cond.and given_1 narrow_1).before #[Value.ref b] s = true
section
variable {p : Program} {l : Launch} {e : Env} {R : Room} {s : State} {m : MethodId} {args : Array Value} {below : List Frame} {meth : Method} {c : Code} {Q : State → Prop} {A : Nat → Prop} {dC : Nat → ClassId} {dI : Nat → Nat → Nat} {cI cZ : ClassId} {cc : ByteArray} {nL cells slots : Nat} {own : String} {ret : Option FieldType} {w w' : va_W} {pc : Nat} {lv lv' : List (Nat × Value)} {rest st : List Value}
theorem s_lshl (E : EV p s m args meth c dC dI cI cZ cc nL own ret) {x : Int64} {y : Int32} (d : decode cc pc = .ok (.lshl, 1)) (k : GGc p l e R s m args below meth c Q A dC dI cells slots nL w (pc + 1) lv (.long (x <<< (y.toInt64 &&& 63)) :: rest)) : GGc p l e R s m args below meth c Q A dC dI cells slots nL w (pc) lv (.int y :: .long x :: rest) :=
  fun ls H locs h1 h2 h3 h4 => lv_lshl E.1 E.2.1 d rfl (k ls H locs h1 h2 h3 h4)
theorem s_lor (E : EV p s m args meth c dC dI cI cZ cc nL own ret) {x y : Int64} (d : decode cc pc = .ok (.lor, 1)) (k : GGc p l e R s m args below meth c Q A dC dI cells slots nL w (pc + 1) lv (.long (x ||| y) :: rest)) : GGc p l e R s m args below meth c Q A dC dI cells slots nL w (pc) lv (.long y :: .long x :: rest) :=
  fun ls H locs h1 h2 h3 h4 => lv_lor E.1 E.2.1 d (k ls H locs h1 h2 h3 h4)
theorem s_sld (E : EV p s m args meth c dC dI cI cZ cc nL own ret) {b L : Nat} {xs : Nat → Int32} (hX : va_X b L xs s s.heap) (hbl : b < s.heap.size) (hbA : ¬ A b) {i : Int32} (hin : vp_in i L) (d : decode cc pc = .ok (.iaload, 1)) (k : GGc p l e R s m args below meth c Q A dC dI cells slots nL w (pc + 1) lv (.int (xs i.toNatClampNeg) :: rest)) : GGc p l e R s m args below meth c Q A dC dI cells slots nL w (pc) lv (.int i :: .ref b :: rest) :=
  fun ls H locs h1 h2 h3 h4 => va_sld E.1 E.2.1 hX hbl hbA h4 hin d (k ls H locs h1 h2 h3 h4)
theorem s_slen (E : EV p s m args meth c dC dI cI cZ cc nL own ret) {b L : Nat} {xs : Nat → Int32} (hX : va_X b L xs s s.heap) (hbl : b < s.heap.size) (hbA : ¬ A b) (d : decode cc pc = .ok (.arraylength, 1)) (k : GGc p l e R s m args below meth c Q A dC dI cells slots nL w (pc + 1) lv (.int (nI L) :: rest)) : GGc p l e R s m args below meth c Q A dC dI cells slots nL w (pc) lv (.ref b :: rest) :=
  fun ls H locs h1 h2 h3 h4 => va_slen E.1 E.2.1 hX hbl hbA h4 d (k ls H locs h1 h2 h3 h4)
/-- a world's own addresses -/
def inW (w : va_W) : Nat → Prop := fun q => ∃ (k : Nat) (e : va_E), w[k]? = some (q, e)
theorem l_left {D : va_G} {cl : List vw_C} {wr wc : va_W} {H : Heap} (hP : va_P D cl (wr ++ wc) H) : va_P D cl wr H := fun k q h => hP k q (by rw [List.getElem?_append_left (List.getElem?_eq_some_iff.mp h).1]; exact h)
theorem l_leftD {A : Nat → Prop} {wr wc : va_W} (hD : va_D A (wr ++ wc)) : va_D A wr := by
  have inl : ∀ (k : Nat) (q : Nat × va_E), wr[k]? = some q → (wr ++ wc)[k]? = some q := fun k q h => by rw [List.getElem?_append_left (List.getElem?_eq_some_iff.mp h).1]; exact h
  exact ⟨fun i j x y hx hy hxy => hD.1 _ _ x y (inl i x hx) (inl j y hy) hxy, fun k q hq => hD.2 _ q (inl k q hq)⟩
theorem l_swap {D : va_G} {cl : List vw_C} {a b : va_W} {H : Heap} (hP : va_P D cl (a ++ b) H) : va_P D cl (b ++ a) H := va_P.app (l_right hP) (l_left hP)
theorem l_swapD {A : Nat → Prop} {a b : va_W} (hD : va_D A (a ++ b)) : va_D A (b ++ a) := by
  refine va_D.app (l_rightD hD) (l_leftD hD) (fun i j x y hx hy hxy => ?_)
  have h1 : (a ++ b)[a.length + i]? = some x := by rw [List.getElem?_append_right (Nat.le_add_right _ _), Nat.add_sub_cancel_left]; exact hx
  have h2 : (a ++ b)[j]? = some y := by rw [List.getElem?_append_left (List.getElem?_eq_some_iff.mp hy).1]; exact hy
  have h3 := hD.1 _ _ x y h1 h2 hxy
  have h4 := (List.getElem?_eq_some_iff.mp hy).1
  omega
theorem l_own {A : Nat → Prop} {w : va_W} (hD : va_D A w) : va_D (inW w) w := ⟨hD.1, fun k q hq => ⟨k, q.2, hq⟩⟩
/-- a call on one of two worlds -/
theorem l_after {wr wc w1 : va_W} {ov : Option Value} {a : Array Value} {ls : Array Slot} {H : Heap} {locs : List Loc} {st0 : List Value} (hr : va_Run p l e R s m args below meth c H locs cells slots 0 0 (F0 m pc ls st0) rest (CQ dC dI ov w1 (inW wc) a) (inW wc)) (h1 : lv_has ls nL lv) (h2 : va_P (dC, dI) vwCl (wr ++ wc) H) (h3 : va_D A (wr ++ wc)) (h4 : va_S A s.heap H locs) (k : ∀ (H1 : Heap) (locs1 : List Loc), va_P (dC, dI) vwCl (wr ++ w1) H1 → va_D A (wr ++ w1) → va_S A s.heap H1 locs1 → W p l e R s m args below meth c H1 locs1 cells slots Q (F0 m (pc + 3) ls (ov.toList ++ rest))) : W p l e R s m args below meth c H locs cells slots Q (F0 m pc ls st0) := by
  intro T hT X
  obtain ⟨v, st₀, t, T', L, h0, X', hL, e1, e2, ⟨⟨hv, hP, hD⟩, hz, hk⟩, stp⟩ := hr T hT X
  cases hv
  rw [h0] at hz hk
  have hF : ∀ x, inW wc x → A x := by
    intro x hx
    obtain ⟨i, e, hx⟩ := hx
    exact h3.2 (wr.length + i) (x, e) (by rw [List.getElem?_append_right (Nat.le_add_right _ _), Nat.add_sub_cancel_left]; exact hx)
  obtain ⟨hP2, hD2⟩ := l_join (sz := 0) (B := inW wc) h2 h3 (fun _ h => Or.inl h) (H1 := T'.heap) (fun x g1 g2 => by rw [e1]; exact hk x g1 g2) hF (by rw [e1]; exact hP) hD
  have hS : va_S A s.heap T'.heap (locs ++ L) := ⟨Nat.le_trans h4.1 (by rw [e1]; exact hz), fun x g1 g2 => by rw [e1, hk x (Nat.lt_of_lt_of_le g1 h4.1) (fun z => g2 (hF x z))]; exact h4.2.1 x g1 g2, fun x hq => by
      rcases List.mem_append.mp hq with h | h
      · exact h4.2.2 x h
      · exact hF _ (hL x h)⟩
  obtain ⟨t2, a1, b1⟩ := k T'.heap (locs ++ L) hP2 hD2 hS T' rfl X'
  exact ⟨t2, stp t2 a1, b1⟩
theorem s_lawM (E : EV p s m args meth c dC dI cI cZ cc nL own ret) {y : MethodName} {C : String} {bytes : ByteArray} {maxL n idx b ci q0 : Nat} {ret2 : Option FieldType} {rm : Room} {As fs : List Value} {v : Int32} {r0 : vw_C} {wr wc w1 : va_W} (hF : CV y C bytes maxL ret2 n) (hm : Cond.methodLink own idx y ∈ wG) (hM : CT l dC dI cI cZ (inW wc) y bytes maxL ret2 rm (.ref b :: As) wc w1 (some (.int v))) (hrm : rm.cells = 0 ∧ rm.slots = 0 ∧ rm.frames + 1 ≤ R.frames ∧ 8 + (maxL + 11) + rm.locals ≤ R.locals) (hcs : cells ≤ R.cells ∧ slots ≤ R.slots) (hq : wc[q0]? = some (b, .inr (ci, fs))) (hcl : vwCl[ci]? = some r0) (hrC : r0.1 = C) (hn : As.length = n) (hst : st = As.reverse ++ .ref b :: rest) (hsum : (rest.map fun v => v.category).sum ≤ 8) (d : decode cc pc = .ok (.invokevirtual idx, 3)) (k : GGc p l e R s m args below meth c Q A dC dI cells slots nL (wr ++ w1) (pc + 3) lv (.int v :: rest)) : GGc p l e R s m args below meth c Q A dC dI cells slots nL (wr ++ wc) pc lv st := by
  intro ls H locs h1 h2 h3 h4
  obtain ⟨f1, f2, f3, f4, f5⟩ := hF
  have hts := E.2.2.2.2.1
  subst hst
  refine l_after (va_runV (Ts := wG) (bytes := bytes) (maxL := maxL) (ret := ret2) (C := C) (n := n) (index := idx) ⟨E.1, E.2.1, E.2.2.1, E.2.2.2.1, hts⟩ hM ?_ ⟨?_, ?_, ?_⟩ rfl hn h1.1 rfl (lv_room hsum) d hcs) h1 h2 h3 h4 (fun H1 locs1 g2 g3 g4 => k ls H1 locs1 h1 g2 g3 g4)
  · obtain ⟨fC, fd⟩ := f5
    exact ⟨callB_of n hts (b_goodIn f1) rfl hrm.1 hrm.2.1 (by rw [fC]; exact hts _ f4) (hts _ hm) fd ⟨hrm.2.2.1, hrm.2.2.2⟩, hts _ f2, hts _ f3⟩
  · exact fun a U g mk q => ⟨q.1, q.2.1, q.2.2.1.calling g mk a, q.2.2.2⟩
  · rw [← hrC]
    exact va_recv E.2.2.2.2.2.1.1 (l_right h2) hcl hq
  · exact fun U hU hW => ⟨rfl, by rw [hU]; exact l_right h2, KK.warm hW E.2.2.2.2.2.1, l_own (l_rightD h3)⟩
theorem s_lawX (E : EV p s m args meth c dC dI cI cZ cc nL own ret) {y : MethodName} {C : String} {bytes : ByteArray} {maxL n idx b ci q0 : Nat} {ret2 : Option FieldType} {rm : Room} {As fs : List Value} {v : Int32} {r0 : vw_C} {wr wc w1 : va_W} (hF : CV y C bytes maxL ret2 n) (hm : Cond.methodLink own idx y ∈ wG) (hM : CT l dC dI cI cZ (inW wc) y bytes maxL ret2 rm (.ref b :: As) wc w1 (some (.int v))) (hrm : rm.cells = 0 ∧ rm.slots = 0 ∧ rm.frames + 1 ≤ R.frames ∧ 8 + (maxL + 11) + rm.locals ≤ R.locals) (hcs : cells ≤ R.cells ∧ slots ≤ R.slots) (hq : wc[q0]? = some (b, .inr (ci, fs))) (hcl : vwCl[ci]? = some r0) (hrC : r0.1 = C) (hn : As.length = n) (hst : st = As.reverse ++ .ref b :: rest) (hsum : (rest.map fun v => v.category).sum ≤ 8) (d : decode cc pc = .ok (.invokevirtual idx, 3)) (k : GGc p l e R s m args below meth c Q A dC dI cells slots nL (w1 ++ wr) (pc + 3) lv (.int v :: rest)) : GGc p l e R s m args below meth c Q A dC dI cells slots nL (wc ++ wr) pc lv st :=
  fun ls H locs h1 h2 h3 h4 => s_lawM (wr := wr) (wc := wc) E hF hm hM hrm hcs hq hcl hrC hn hst hsum d (fun ls H locs g1 g2 g3 g4 => k ls H locs g1 (l_swap g2) (l_swapD g3) g4) ls H locs h1 (l_swap h2) (l_swapD h3) h4
end
section
variable {p : Program} {l : Launch} {e : Env} {s : State} {m : MethodId} {below : List Frame} {meth : Method} {c : Code} {dC : Nat → ClassId} {dI : Nat → Nat → Nat} {cI cZ : ClassId} {b L : Nat} {xs : Nat → Int32} {q q2 : Nat → Nat}
set_option maxRecDepth 100000 in
set_option maxHeartbeats 4000000 in
theorem law_0 (E : EV p s m #[Value.ref b] meth c dC dI cI cZ cL_law 4 RL (some .boolean)) (hX : va_X b L xs s s.heap) (hbl : b < s.heap.size) (x3 : Int32) (b1 : vp_in (x3 + 1) L) (b2 : vp_in (x3 + 2) L) (b3 : vp_in (x3 + 3) L) {σ τ : Nat → Nat → Int32} (hI : Inv σ τ) (hK : ∀ (σ τ : Nat → Nat → Int32), Inv σ τ → GGc p l e room_1 s m #[Value.ref b] below meth c (lw_Z below #[Value.ref b] s) (fun a => s.heap.size ≤ a) dC dI 48 2232 4 (wX cI q σ ++ wM cI cZ q2 τ) 892 [(0, .ref b), (1, .ref (q 0)), (2, .ref (q2 0)), (3, .int x3)] []) : GGc p l e room_1 s m #[Value.ref b] below meth c (lw_Z below #[Value.ref b] s) (fun a => s.heap.size ≤ a) dC dI 48 2232 4 (wX cI q σ ++ wM cI cZ q2 τ) 176 [(0, .ref b), (1, .ref (q 0)), (2, .ref (q2 0)), (3, .int x3)] [] := by
  have hbA : ¬ s.heap.size ≤ b := Nat.not_le.mpr hbl
  obtain ⟨r, σ2, τ2, e1, e2, hI2⟩ := sp_write hI (xs (x3 + 1).toNatClampNeg) (((xs (x3 + 2).toNatClampNeg).toInt64 <<< ((32 : Int32).toInt64 &&& 63)) ||| ((xs (x3 + 3).toNatClampNeg).toInt64 &&& (4294967295 : Int64)))
  refine s_aload_n E 1 rfl dL_law_176 rfl ?_
  refine s_aload_n E 0 rfl dL_law_177 rfl ?_
  refine s_iload_n E 3 rfl dL_law_178 rfl ?_
  refine s_iconst E (v := 1) dL_law_179 ki_1 ?_
  refine s_iadd E dL_law_180 ?_
  refine s_sld E hX hbl hbA b1 dL_law_181 ?_
  refine s_aload_n E 0 rfl dL_law_182 rfl ?_
  refine s_iload_n E 3 rfl dL_law_183 rfl ?_
  refine s_iconst E (v := 2) dL_law_184 ki_2 ?_
  refine s_iadd E dL_law_185 ?_
  refine s_sld E hX hbl hbA b2 dL_law_186 ?_
  refine s_i2l E dL_law_187 ?_
  refine s_bipush E (v := 32) dL_law_188 (by decide) ?_
  refine s_lshl E dL_law_190 ?_
  refine s_aload_n E 0 rfl dL_law_191 rfl ?_
  refine s_iload_n E 3 rfl dL_law_192 rfl ?_
  refine s_iconst E (v := 3) dL_law_193 ki_3 ?_
  refine s_iadd E dL_law_194 ?_
  refine s_sld E hX hbl hbA b3 dL_law_195 ?_
  refine s_i2l E dL_law_196 ?_
  refine s_ldc2 E m_c_L_13 dL_law_197 ?_
  refine s_land E dL_law_200 ?_
  refine s_lor E dL_law_201 ?_
  refine s_lawX E (w1 := wX cI q σ2) (v := r) kf_X4_write m_l_L_15 (c_X4_write q σ (xs (x3 + 1).toNatClampNeg) (((xs (x3 + 2).toNatClampNeg).toInt64 <<< ((32 : Int32).toInt64 &&& 63)) ||| ((xs (x3 + 3).toNatClampNeg).toInt64 &&& (4294967295 : Int64))) (r, σ2) e1) ⟨rfl, rfl, by decide, by decide⟩ ⟨by decide, by decide⟩ (q0 := 0) rfl rfl rfl rfl rfl (Nat.le_of_ble_eq_true rfl) dL_law_202 ?_
  refine s_aload_n E 2 rfl dL_law_205 rfl ?_
  refine s_aload_n E 0 rfl dL_law_206 rfl ?_
  refine s_iload_n E 3 rfl dL_law_207 rfl ?_
  refine s_iconst E (v := 1) dL_law_208 ki_1 ?_
  refine s_iadd E dL_law_209 ?_
  refine s_sld E hX hbl hbA b1 dL_law_210 ?_
  refine s_aload_n E 0 rfl dL_law_211 rfl ?_
  refine s_iload_n E 3 rfl dL_law_212 rfl ?_
  refine s_iconst E (v := 2) dL_law_213 ki_2 ?_
  refine s_iadd E dL_law_214 ?_
  refine s_sld E hX hbl hbA b2 dL_law_215 ?_
  refine s_i2l E dL_law_216 ?_
  refine s_bipush E (v := 32) dL_law_217 (by decide) ?_
  refine s_lshl E dL_law_219 ?_
  refine s_aload_n E 0 rfl dL_law_220 rfl ?_
  refine s_iload_n E 3 rfl dL_law_221 rfl ?_
  refine s_iconst E (v := 3) dL_law_222 ki_3 ?_
  refine s_iadd E dL_law_223 ?_
  refine s_sld E hX hbl hbA b3 dL_law_224 ?_
  refine s_i2l E dL_law_225 ?_
  refine s_ldc2 E m_c_L_13 dL_law_226 ?_
  refine s_land E dL_law_229 ?_
  refine s_lor E dL_law_230 ?_
  refine s_lawM E (w1 := wM cI cZ q2 τ2) (v := r) kf_X5_write m_l_L_19 (c_X5_write q2 τ (xs (x3 + 1).toNatClampNeg) (((xs (x3 + 2).toNatClampNeg).toInt64 <<< ((32 : Int32).toInt64 &&& 63)) ||| ((xs (x3 + 3).toNatClampNeg).toInt64 &&& (4294967295 : Int64))) (r, τ2) e2) ⟨rfl, rfl, by decide, by decide⟩ ⟨by decide, by decide⟩ (q0 := 0) rfl rfl rfl rfl rfl (Nat.le_of_ble_eq_true rfl) dL_law_231 ?_
  exact s_icmp_eq E 892 dL_law_234 (by decide) (fun _ => hK _ _ hI2) (fun c0 => absurd rfl c0)
set_option maxRecDepth 100000 in
set_option maxHeartbeats 4000000 in
theorem law_1 (E : EV p s m #[Value.ref b] meth c dC dI cI cZ cL_law 4 RL (some .boolean)) (hX : va_X b L xs s s.heap) (hbl : b < s.heap.size) (x3 : Int32) (b1 : vp_in (x3 + 1) L) (b2 : vp_in (x3 + 2) L) (b3 : vp_in (x3 + 3) L) {σ τ : Nat → Nat → Int32} (hI : Inv σ τ) (hK : ∀ (σ τ : Nat → Nat → Int32), Inv σ τ → GGc p l e room_1 s m #[Value.ref b] below meth c (lw_Z below #[Value.ref b] s) (fun a => s.heap.size ≤ a) dC dI 48 2232 4 (wX cI q σ ++ wM cI cZ q2 τ) 892 [(0, .ref b), (1, .ref (q 0)), (2, .ref (q2 0)), (3, .int x3)] []) : GGc p l e room_1 s m #[Value.ref b] below meth c (lw_Z below #[Value.ref b] s) (fun a => s.heap.size ≤ a) dC dI 48 2232 4 (wX cI q σ ++ wM cI cZ q2 τ) 239 [(0, .ref b), (1, .ref (q 0)), (2, .ref (q2 0)), (3, .int x3)] [] := by
  have hbA : ¬ s.heap.size ≤ b := Nat.not_le.mpr hbl
  obtain ⟨r, σ2, τ2, e1, e2, hI2⟩ := sp_wipe hI
  refine s_aload_n E 1 rfl dL_law_239 rfl ?_
  refine s_lawX E (w1 := wX cI q σ2) (v := r) kf_X4_wipe m_l_L_20 (by have hc := c_X4_wipe (l := l) (A := inW (wX cI q σ)) (dC := dC) (dI := dI) (cI := cI) (cZ := cZ) q σ; rw [e1] at hc; exact hc) ⟨rfl, rfl, by decide, by decide⟩ ⟨by decide, by decide⟩ (q0 := 0) rfl rfl rfl rfl rfl (Nat.le_of_ble_eq_true rfl) dL_law_240 ?_
  refine s_aload_n E 2 rfl dL_law_243 rfl ?_
  refine s_lawM E (w1 := wM cI cZ q2 τ2) (v := r) kf_X5_wipe m_l_L_24 (by have hc := c_X5_wipe (l := l) (A := inW (wM cI cZ q2 τ)) (dC := dC) (dI := dI) (cI := cI) (cZ := cZ) q2 τ; rw [e2] at hc; exact hc) ⟨rfl, rfl, by decide, by decide⟩ ⟨by decide, by decide⟩ (q0 := 0) rfl rfl rfl rfl rfl (Nat.le_of_ble_eq_true rfl) dL_law_244 ?_
  exact s_icmp_eq E 892 dL_law_247 (by decide) (fun _ => hK _ _ hI2) (fun c0 => absurd rfl c0)
set_option maxRecDepth 100000 in
set_option maxHeartbeats 4000000 in
theorem law_2 (E : EV p s m #[Value.ref b] meth c dC dI cI cZ cL_law 4 RL (some .boolean)) (hX : va_X b L xs s s.heap) (hbl : b < s.heap.size) (x3 : Int32) (b1 : vp_in (x3 + 1) L) (b2 : vp_in (x3 + 2) L) (b3 : vp_in (x3 + 3) L) {σ τ : Nat → Nat → Int32} (hI : Inv σ τ) (hK : ∀ (σ τ : Nat → Nat → Int32), Inv σ τ → GGc p l e room_1 s m #[Value.ref b] below meth c (lw_Z below #[Value.ref b] s) (fun a => s.heap.size ≤ a) dC dI 48 2232 4 (wX cI q σ ++ wM cI cZ q2 τ) 892 [(0, .ref b), (1, .ref (q 0)), (2, .ref (q2 0)), (3, .int x3)] []) : GGc p l e room_1 s m #[Value.ref b] below meth c (lw_Z below #[Value.ref b] s) (fun a => s.heap.size ≤ a) dC dI 48 2232 4 (wX cI q σ ++ wM cI cZ q2 τ) 252 [(0, .ref b), (1, .ref (q 0)), (2, .ref (q2 0)), (3, .int x3)] [] := by
  have hbA : ¬ s.heap.size ≤ b := Nat.not_le.mpr hbl
  obtain ⟨r, τ2, e1, e2, hI2⟩ := sp_fault hI
  refine s_aload_n E 1 rfl dL_law_252 rfl ?_
  refine s_lawX E (w1 := wX cI q σ) (v := r) kf_X4_fault m_l_L_25 (c_X4_fault q σ r e1) ⟨rfl, rfl, by decide, by decide⟩ ⟨by decide, by decide⟩ (q0 := 0) rfl rfl rfl rfl rfl (Nat.le_of_ble_eq_true rfl) dL_law_253 ?_
  refine s_aload_n E 2 rfl dL_law_256 rfl ?_
  refine s_lawM E (w1 := wM cI cZ q2 τ2) (v := r) kf_X5_fault m_l_L_28 (c_X5_fault q2 τ (r, τ2) e2) ⟨rfl, rfl, by decide, by decide⟩ ⟨by decide, by decide⟩ (q0 := 0) rfl rfl rfl rfl rfl (Nat.le_of_ble_eq_true rfl) dL_law_257 ?_
  exact s_icmp_eq E 892 dL_law_260 (by decide) (fun _ => hK _ _ hI2) (fun c0 => absurd rfl c0)
set_option maxRecDepth 100000 in
set_option maxHeartbeats 4000000 in
theorem law_3 (E : EV p s m #[Value.ref b] meth c dC dI cI cZ cL_law 4 RL (some .boolean)) (hX : va_X b L xs s s.heap) (hbl : b < s.heap.size) (x3 : Int32) (b1 : vp_in (x3 + 1) L) (b2 : vp_in (x3 + 2) L) (b3 : vp_in (x3 + 3) L) {σ τ : Nat → Nat → Int32} (hI : Inv σ τ) (hK : ∀ (σ τ : Nat → Nat → Int32), Inv σ τ → GGc p l e room_1 s m #[Value.ref b] below meth c (lw_Z below #[Value.ref b] s) (fun a => s.heap.size ≤ a) dC dI 48 2232 4 (wX cI q σ ++ wM cI cZ q2 τ) 892 [(0, .ref b), (1, .ref (q 0)), (2, .ref (q2 0)), (3, .int x3)] []) : GGc p l e room_1 s m #[Value.ref b] below meth c (lw_Z below #[Value.ref b] s) (fun a => s.heap.size ≤ a) dC dI 48 2232 4 (wX cI q σ ++ wM cI cZ q2 τ) 265 [(0, .ref b), (1, .ref (q 0)), (2, .ref (q2 0)), (3, .int x3)] [] := by
  have hbA : ¬ s.heap.size ≤ b := Nat.not_le.mpr hbl
  obtain ⟨r, σ2, τ2, e1, e2, hI2⟩ := sp_ferry hI
  refine s_aload_n E 1 rfl dL_law_265 rfl ?_
  refine s_lawX E (w1 := wX cI q σ2) (v := r) kf_X4_ferry m_l_L_29 (c_X4_ferry q σ (r, σ2) e1) ⟨rfl, rfl, by decide, by decide⟩ ⟨by decide, by decide⟩ (q0 := 0) rfl rfl rfl rfl rfl (Nat.le_of_ble_eq_true rfl) dL_law_266 ?_
  refine s_aload_n E 2 rfl dL_law_269 rfl ?_
  refine s_lawM E (w1 := wM cI cZ q2 τ2) (v := r) kf_X5_ferry m_l_L_32 (c_X5_ferry q2 τ (r, τ2) e2) ⟨rfl, rfl, by decide, by decide⟩ ⟨by decide, by decide⟩ (q0 := 0) rfl rfl rfl rfl rfl (Nat.le_of_ble_eq_true rfl) dL_law_270 ?_
  exact s_icmp_eq E 892 dL_law_273 (by decide) (fun _ => hK _ _ hI2) (fun c0 => absurd rfl c0)
set_option maxRecDepth 100000 in
set_option maxHeartbeats 4000000 in
theorem law_4 (E : EV p s m #[Value.ref b] meth c dC dI cI cZ cL_law 4 RL (some .boolean)) (hX : va_X b L xs s s.heap) (hbl : b < s.heap.size) (x3 : Int32) (b1 : vp_in (x3 + 1) L) (b2 : vp_in (x3 + 2) L) (b3 : vp_in (x3 + 3) L) {σ τ : Nat → Nat → Int32} (hI : Inv σ τ) (hK : ∀ (σ τ : Nat → Nat → Int32), Inv σ τ → GGc p l e room_1 s m #[Value.ref b] below meth c (lw_Z below #[Value.ref b] s) (fun a => s.heap.size ≤ a) dC dI 48 2232 4 (wX cI q σ ++ wM cI cZ q2 τ) 892 [(0, .ref b), (1, .ref (q 0)), (2, .ref (q2 0)), (3, .int x3)] []) : GGc p l e room_1 s m #[Value.ref b] below meth c (lw_Z below #[Value.ref b] s) (fun a => s.heap.size ≤ a) dC dI 48 2232 4 (wX cI q σ ++ wM cI cZ q2 τ) 278 [(0, .ref b), (1, .ref (q 0)), (2, .ref (q2 0)), (3, .int x3)] [] := by
  have hbA : ¬ s.heap.size ≤ b := Nat.not_le.mpr hbl
  obtain ⟨r, e1, e2, hI2⟩ := sp_boat hI (xs (x3 + 1).toNatClampNeg)
  refine s_aload_n E 1 rfl dL_law_278 rfl ?_
  refine s_aload_n E 0 rfl dL_law_279 rfl ?_
  refine s_iload_n E 3 rfl dL_law_280 rfl ?_
  refine s_iconst E (v := 1) dL_law_281 ki_1 ?_
  refine s_iadd E dL_law_282 ?_
  refine s_sld E hX hbl hbA b1 dL_law_283 ?_
  refine s_lawX E (w1 := wX cI q σ) (v := r) kf_X4_boat m_l_L_33 (by have hc := c_X4_boat (l := l) (A := inW (wX cI q σ)) (dC := dC) (dI := dI) (cI := cI) (cZ := cZ) q σ (xs (x3 + 1).toNatClampNeg); rw [e1] at hc; exact hc) ⟨rfl, rfl, by decide, by decide⟩ ⟨by decide, by decide⟩ (q0 := 0) rfl rfl rfl rfl rfl (Nat.le_of_ble_eq_true rfl) dL_law_284 ?_
  refine s_aload_n E 2 rfl dL_law_287 rfl ?_
  refine s_aload_n E 0 rfl dL_law_288 rfl ?_
  refine s_iload_n E 3 rfl dL_law_289 rfl ?_
  refine s_iconst E (v := 1) dL_law_290 ki_1 ?_
  refine s_iadd E dL_law_291 ?_
  refine s_sld E hX hbl hbA b1 dL_law_292 ?_
  refine s_lawM E (w1 := wM cI cZ q2 τ) (v := r) kf_X5_boat m_l_L_37 (c_X5_boat q2 τ (xs (x3 + 1).toNatClampNeg) r e2) ⟨rfl, rfl, by decide, by decide⟩ ⟨by decide, by decide⟩ (q0 := 0) rfl rfl rfl rfl rfl (Nat.le_of_ble_eq_true rfl) dL_law_293 ?_
  exact s_icmp_eq E 892 dL_law_296 (by decide) (fun _ => hK _ _ hI2) (fun c0 => absurd rfl c0)
set_option maxRecDepth 100000 in
set_option maxHeartbeats 4000000 in
theorem law_5 (E : EV p s m #[Value.ref b] meth c dC dI cI cZ cL_law 4 RL (some .boolean)) (hX : va_X b L xs s s.heap) (hbl : b < s.heap.size) (x3 : Int32) (b1 : vp_in (x3 + 1) L) (b2 : vp_in (x3 + 2) L) (b3 : vp_in (x3 + 3) L) {σ τ : Nat → Nat → Int32} (hI : Inv σ τ) (hK : ∀ (σ τ : Nat → Nat → Int32), Inv σ τ → GGc p l e room_1 s m #[Value.ref b] below meth c (lw_Z below #[Value.ref b] s) (fun a => s.heap.size ≤ a) dC dI 48 2232 4 (wX cI q σ ++ wM cI cZ q2 τ) 892 [(0, .ref b), (1, .ref (q 0)), (2, .ref (q2 0)), (3, .int x3)] []) : GGc p l e room_1 s m #[Value.ref b] below meth c (lw_Z below #[Value.ref b] s) (fun a => s.heap.size ≤ a) dC dI 48 2232 4 (wX cI q σ ++ wM cI cZ q2 τ) 301 [(0, .ref b), (1, .ref (q 0)), (2, .ref (q2 0)), (3, .int x3)] [] := by
  have hbA : ¬ s.heap.size ≤ b := Nat.not_le.mpr hbl
  obtain ⟨r, e1, e2, hI2⟩ := sp_person hI (xs (x3 + 1).toNatClampNeg) (xs (x3 + 2).toNatClampNeg)
  refine s_aload_n E 1 rfl dL_law_301 rfl ?_
  refine s_aload_n E 0 rfl dL_law_302 rfl ?_
  refine s_iload_n E 3 rfl dL_law_303 rfl ?_
  refine s_iconst E (v := 1) dL_law_304 ki_1 ?_
  refine s_iadd E dL_law_305 ?_
  refine s_sld E hX hbl hbA b1 dL_law_306 ?_
  refine s_aload_n E 0 rfl dL_law_307 rfl ?_
  refine s_iload_n E 3 rfl dL_law_308 rfl ?_
  refine s_iconst E (v := 2) dL_law_309 ki_2 ?_
  refine s_iadd E dL_law_310 ?_
  refine s_sld E hX hbl hbA b2 dL_law_311 ?_
  refine s_lawX E (w1 := wX cI q σ) (v := r) kf_X4_person m_l_L_38 (c_X4_person q σ (xs (x3 + 1).toNatClampNeg) (xs (x3 + 2).toNatClampNeg) r e1) ⟨rfl, rfl, by decide, by decide⟩ ⟨by decide, by decide⟩ (q0 := 0) rfl rfl rfl rfl rfl (Nat.le_of_ble_eq_true rfl) dL_law_312 ?_
  refine s_aload_n E 2 rfl dL_law_315 rfl ?_
  refine s_aload_n E 0 rfl dL_law_316 rfl ?_
  refine s_iload_n E 3 rfl dL_law_317 rfl ?_
  refine s_iconst E (v := 1) dL_law_318 ki_1 ?_
  refine s_iadd E dL_law_319 ?_
  refine s_sld E hX hbl hbA b1 dL_law_320 ?_
  refine s_aload_n E 0 rfl dL_law_321 rfl ?_
  refine s_iload_n E 3 rfl dL_law_322 rfl ?_
  refine s_iconst E (v := 2) dL_law_323 ki_2 ?_
  refine s_iadd E dL_law_324 ?_
  refine s_sld E hX hbl hbA b2 dL_law_325 ?_
  refine s_lawM E (w1 := wM cI cZ q2 τ) (v := r) kf_X5_person m_l_L_42 (c_X5_person q2 τ (xs (x3 + 1).toNatClampNeg) (xs (x3 + 2).toNatClampNeg) r e2) ⟨rfl, rfl, by decide, by decide⟩ ⟨by decide, by decide⟩ (q0 := 0) rfl rfl rfl rfl rfl (Nat.le_of_ble_eq_true rfl) dL_law_326 ?_
  exact s_icmp_eq E 892 dL_law_329 (by decide) (fun _ => hK _ _ hI2) (fun c0 => absurd rfl c0)
set_option maxRecDepth 100000 in
set_option maxHeartbeats 4000000 in
theorem law_6 (E : EV p s m #[Value.ref b] meth c dC dI cI cZ cL_law 4 RL (some .boolean)) (hX : va_X b L xs s s.heap) (hbl : b < s.heap.size) (x3 : Int32) (b1 : vp_in (x3 + 1) L) (b2 : vp_in (x3 + 2) L) (b3 : vp_in (x3 + 3) L) {σ τ : Nat → Nat → Int32} (hI : Inv σ τ) (hK : ∀ (σ τ : Nat → Nat → Int32), Inv σ τ → GGc p l e room_1 s m #[Value.ref b] below meth c (lw_Z below #[Value.ref b] s) (fun a => s.heap.size ≤ a) dC dI 48 2232 4 (wX cI q σ ++ wM cI cZ q2 τ) 892 [(0, .ref b), (1, .ref (q 0)), (2, .ref (q2 0)), (3, .int x3)] []) : GGc p l e room_1 s m #[Value.ref b] below meth c (lw_Z below #[Value.ref b] s) (fun a => s.heap.size ≤ a) dC dI 48 2232 4 (wX cI q σ ++ wM cI cZ q2 τ) 334 [(0, .ref b), (1, .ref (q 0)), (2, .ref (q2 0)), (3, .int x3)] [] := by
  have hbA : ¬ s.heap.size ≤ b := Nat.not_le.mpr hbl
  obtain ⟨r, σ2, τ2, e1, e2, hI2⟩ := sp_gain hI (xs (x3 + 1).toNatClampNeg) (xs (x3 + 2).toNatClampNeg)
  refine s_aload_n E 1 rfl dL_law_334 rfl ?_
  refine s_aload_n E 0 rfl dL_law_335 rfl ?_
  refine s_iload_n E 3 rfl dL_law_336 rfl ?_
  refine s_iconst E (v := 1) dL_law_337 ki_1 ?_
  refine s_iadd E dL_law_338 ?_
  refine s_sld E hX hbl hbA b1 dL_law_339 ?_
  refine s_aload_n E 0 rfl dL_law_340 rfl ?_
  refine s_iload_n E 3 rfl dL_law_341 rfl ?_
  refine s_iconst E (v := 2) dL_law_342 ki_2 ?_
  refine s_iadd E dL_law_343 ?_
  refine s_sld E hX hbl hbA b2 dL_law_344 ?_
  refine s_lawX E (w1 := wX cI q σ2) (v := r) kf_X4_gain m_l_L_43 (c_X4_gain q σ (xs (x3 + 1).toNatClampNeg) (xs (x3 + 2).toNatClampNeg) (r, σ2) e1) ⟨rfl, rfl, by decide, by decide⟩ ⟨by decide, by decide⟩ (q0 := 0) rfl rfl rfl rfl rfl (Nat.le_of_ble_eq_true rfl) dL_law_345 ?_
  refine s_aload_n E 2 rfl dL_law_348 rfl ?_
  refine s_aload_n E 0 rfl dL_law_349 rfl ?_
  refine s_iload_n E 3 rfl dL_law_350 rfl ?_
  refine s_iconst E (v := 1) dL_law_351 ki_1 ?_
  refine s_iadd E dL_law_352 ?_
  refine s_sld E hX hbl hbA b1 dL_law_353 ?_
  refine s_aload_n E 0 rfl dL_law_354 rfl ?_
  refine s_iload_n E 3 rfl dL_law_355 rfl ?_
  refine s_iconst E (v := 2) dL_law_356 ki_2 ?_
  refine s_iadd E dL_law_357 ?_
  refine s_sld E hX hbl hbA b2 dL_law_358 ?_
  refine s_lawM E (w1 := wM cI cZ q2 τ2) (v := r) kf_X5_gain m_l_L_46 (c_X5_gain q2 τ (xs (x3 + 1).toNatClampNeg) (xs (x3 + 2).toNatClampNeg) (r, τ2) e2) ⟨rfl, rfl, by decide, by decide⟩ ⟨by decide, by decide⟩ (q0 := 0) rfl rfl rfl rfl rfl (Nat.le_of_ble_eq_true rfl) dL_law_359 ?_
  exact s_icmp_eq E 892 dL_law_362 (by decide) (fun _ => hK _ _ hI2) (fun c0 => absurd rfl c0)
set_option maxRecDepth 100000 in
set_option maxHeartbeats 4000000 in
theorem law_7 (E : EV p s m #[Value.ref b] meth c dC dI cI cZ cL_law 4 RL (some .boolean)) (hX : va_X b L xs s s.heap) (hbl : b < s.heap.size) (x3 : Int32) (b1 : vp_in (x3 + 1) L) (b2 : vp_in (x3 + 2) L) (b3 : vp_in (x3 + 3) L) {σ τ : Nat → Nat → Int32} (hI : Inv σ τ) (hK : ∀ (σ τ : Nat → Nat → Int32), Inv σ τ → GGc p l e room_1 s m #[Value.ref b] below meth c (lw_Z below #[Value.ref b] s) (fun a => s.heap.size ≤ a) dC dI 48 2232 4 (wX cI q σ ++ wM cI cZ q2 τ) 892 [(0, .ref b), (1, .ref (q 0)), (2, .ref (q2 0)), (3, .int x3)] []) : GGc p l e room_1 s m #[Value.ref b] below meth c (lw_Z below #[Value.ref b] s) (fun a => s.heap.size ≤ a) dC dI 48 2232 4 (wX cI q σ ++ wM cI cZ q2 τ) 367 [(0, .ref b), (1, .ref (q 0)), (2, .ref (q2 0)), (3, .int x3)] [] := by
  have hbA : ¬ s.heap.size ≤ b := Nat.not_le.mpr hbl
  obtain ⟨r, σ2, τ2, e1, e2, hI2⟩ := sp_minutes hI (xs (x3 + 1).toNatClampNeg)
  refine s_aload_n E 1 rfl dL_law_367 rfl ?_
  refine s_aload_n E 0 rfl dL_law_368 rfl ?_
  refine s_iload_n E 3 rfl dL_law_369 rfl ?_
  refine s_iconst E (v := 1) dL_law_370 ki_1 ?_
  refine s_iadd E dL_law_371 ?_
  refine s_sld E hX hbl hbA b1 dL_law_372 ?_
  refine s_lawX E (w1 := wX cI q σ2) (v := r) kf_X4_minutes m_l_L_47 (by have hc := c_X4_minutes (l := l) (A := inW (wX cI q σ)) (dC := dC) (dI := dI) (cI := cI) (cZ := cZ) q σ (xs (x3 + 1).toNatClampNeg); rw [e1] at hc; exact hc) ⟨rfl, rfl, by decide, by decide⟩ ⟨by decide, by decide⟩ (q0 := 0) rfl rfl rfl rfl rfl (Nat.le_of_ble_eq_true rfl) dL_law_373 ?_
  refine s_aload_n E 2 rfl dL_law_376 rfl ?_
  refine s_aload_n E 0 rfl dL_law_377 rfl ?_
  refine s_iload_n E 3 rfl dL_law_378 rfl ?_
  refine s_iconst E (v := 1) dL_law_379 ki_1 ?_
  refine s_iadd E dL_law_380 ?_
  refine s_sld E hX hbl hbA b1 dL_law_381 ?_
  refine s_lawM E (w1 := wM cI cZ q2 τ2) (v := r) kf_X5_minutes m_l_L_50 (by have hc := c_X5_minutes (l := l) (A := inW (wM cI cZ q2 τ)) (dC := dC) (dI := dI) (cI := cI) (cZ := cZ) q2 τ (xs (x3 + 1).toNatClampNeg); rw [e2] at hc; exact hc) ⟨rfl, rfl, by decide, by decide⟩ ⟨by decide, by decide⟩ (q0 := 0) rfl rfl rfl rfl rfl (Nat.le_of_ble_eq_true rfl) dL_law_382 ?_
  exact s_icmp_eq E 892 dL_law_385 (by decide) (fun _ => hK _ _ hI2) (fun c0 => absurd rfl c0)
set_option maxRecDepth 100000 in
set_option maxHeartbeats 4000000 in
theorem law_8 (E : EV p s m #[Value.ref b] meth c dC dI cI cZ cL_law 4 RL (some .boolean)) (hX : va_X b L xs s s.heap) (hbl : b < s.heap.size) (x3 : Int32) (b1 : vp_in (x3 + 1) L) (b2 : vp_in (x3 + 2) L) (b3 : vp_in (x3 + 3) L) {σ τ : Nat → Nat → Int32} (hI : Inv σ τ) (hK : ∀ (σ τ : Nat → Nat → Int32), Inv σ τ → GGc p l e room_1 s m #[Value.ref b] below meth c (lw_Z below #[Value.ref b] s) (fun a => s.heap.size ≤ a) dC dI 48 2232 4 (wX cI q σ ++ wM cI cZ q2 τ) 892 [(0, .ref b), (1, .ref (q 0)), (2, .ref (q2 0)), (3, .int x3)] []) : GGc p l e room_1 s m #[Value.ref b] below meth c (lw_Z below #[Value.ref b] s) (fun a => s.heap.size ≤ a) dC dI 48 2232 4 (wX cI q σ ++ wM cI cZ q2 τ) 390 [(0, .ref b), (1, .ref (q 0)), (2, .ref (q2 0)), (3, .int x3)] [] := by
  have hbA : ¬ s.heap.size ≤ b := Nat.not_le.mpr hbl
  obtain ⟨r, σ2, τ2, e1, e2, hI2⟩ := sp_lay hI (xs (x3 + 1).toNatClampNeg) (xs (x3 + 2).toNatClampNeg)
  refine s_aload_n E 1 rfl dL_law_390 rfl ?_
  refine s_aload_n E 0 rfl dL_law_391 rfl ?_
  refine s_iload_n E 3 rfl dL_law_392 rfl ?_
  refine s_iconst E (v := 1) dL_law_393 ki_1 ?_
  refine s_iadd E dL_law_394 ?_
  refine s_sld E hX hbl hbA b1 dL_law_395 ?_
  refine s_aload_n E 0 rfl dL_law_396 rfl ?_
  refine s_iload_n E 3 rfl dL_law_397 rfl ?_
  refine s_iconst E (v := 2) dL_law_398 ki_2 ?_
  refine s_iadd E dL_law_399 ?_
  refine s_sld E hX hbl hbA b2 dL_law_400 ?_
  refine s_lawX E (w1 := wX cI q σ2) (v := r) kf_X4_lay m_l_L_51 (c_X4_lay q σ (xs (x3 + 1).toNatClampNeg) (xs (x3 + 2).toNatClampNeg) (r, σ2) e1) ⟨rfl, rfl, by decide, by decide⟩ ⟨by decide, by decide⟩ (q0 := 0) rfl rfl rfl rfl rfl (Nat.le_of_ble_eq_true rfl) dL_law_401 ?_
  refine s_aload_n E 2 rfl dL_law_404 rfl ?_
  refine s_aload_n E 0 rfl dL_law_405 rfl ?_
  refine s_iload_n E 3 rfl dL_law_406 rfl ?_
  refine s_iconst E (v := 1) dL_law_407 ki_1 ?_
  refine s_iadd E dL_law_408 ?_
  refine s_sld E hX hbl hbA b1 dL_law_409 ?_
  refine s_aload_n E 0 rfl dL_law_410 rfl ?_
  refine s_iload_n E 3 rfl dL_law_411 rfl ?_
  refine s_iconst E (v := 2) dL_law_412 ki_2 ?_
  refine s_iadd E dL_law_413 ?_
  refine s_sld E hX hbl hbA b2 dL_law_414 ?_
  refine s_lawM E (w1 := wM cI cZ q2 τ2) (v := r) kf_X5_lay m_l_L_54 (c_X5_lay q2 τ (xs (x3 + 1).toNatClampNeg) (xs (x3 + 2).toNatClampNeg) (r, τ2) e2) ⟨rfl, rfl, by decide, by decide⟩ ⟨by decide, by decide⟩ (q0 := 0) rfl rfl rfl rfl rfl (Nat.le_of_ble_eq_true rfl) dL_law_415 ?_
  exact s_icmp_eq E 892 dL_law_418 (by decide) (fun _ => hK _ _ hI2) (fun c0 => absurd rfl c0)
set_option maxRecDepth 100000 in
set_option maxHeartbeats 4000000 in
theorem law_9 (E : EV p s m #[Value.ref b] meth c dC dI cI cZ cL_law 4 RL (some .boolean)) (hX : va_X b L xs s s.heap) (hbl : b < s.heap.size) (x3 : Int32) (b1 : vp_in (x3 + 1) L) (b2 : vp_in (x3 + 2) L) (b3 : vp_in (x3 + 3) L) {σ τ : Nat → Nat → Int32} (hI : Inv σ τ) (hK : ∀ (σ τ : Nat → Nat → Int32), Inv σ τ → GGc p l e room_1 s m #[Value.ref b] below meth c (lw_Z below #[Value.ref b] s) (fun a => s.heap.size ≤ a) dC dI 48 2232 4 (wX cI q σ ++ wM cI cZ q2 τ) 892 [(0, .ref b), (1, .ref (q 0)), (2, .ref (q2 0)), (3, .int x3)] []) : GGc p l e room_1 s m #[Value.ref b] below meth c (lw_Z below #[Value.ref b] s) (fun a => s.heap.size ≤ a) dC dI 48 2232 4 (wX cI q σ ++ wM cI cZ q2 τ) 423 [(0, .ref b), (1, .ref (q 0)), (2, .ref (q2 0)), (3, .int x3)] [] := by
  have hbA : ¬ s.heap.size ≤ b := Nat.not_le.mpr hbl
  obtain ⟨r, σ2, τ2, e1, e2, hI2⟩ := sp_unlay hI (xs (x3 + 1).toNatClampNeg)
  refine s_aload_n E 1 rfl dL_law_423 rfl ?_
  refine s_aload_n E 0 rfl dL_law_424 rfl ?_
  refine s_iload_n E 3 rfl dL_law_425 rfl ?_
  refine s_iconst E (v := 1) dL_law_426 ki_1 ?_
  refine s_iadd E dL_law_427 ?_
  refine s_sld E hX hbl hbA b1 dL_law_428 ?_
  refine s_lawX E (w1 := wX cI q σ2) (v := r) kf_X4_unlay m_l_L_55 (c_X4_unlay q σ (xs (x3 + 1).toNatClampNeg) (r, σ2) e1) ⟨rfl, rfl, by decide, by decide⟩ ⟨by decide, by decide⟩ (q0 := 0) rfl rfl rfl rfl rfl (Nat.le_of_ble_eq_true rfl) dL_law_429 ?_
  refine s_aload_n E 2 rfl dL_law_432 rfl ?_
  refine s_aload_n E 0 rfl dL_law_433 rfl ?_
  refine s_iload_n E 3 rfl dL_law_434 rfl ?_
  refine s_iconst E (v := 1) dL_law_435 ki_1 ?_
  refine s_iadd E dL_law_436 ?_
  refine s_sld E hX hbl hbA b1 dL_law_437 ?_
  refine s_lawM E (w1 := wM cI cZ q2 τ2) (v := r) kf_X5_unlay m_l_L_58 (c_X5_unlay q2 τ (xs (x3 + 1).toNatClampNeg) (r, τ2) e2) ⟨rfl, rfl, by decide, by decide⟩ ⟨by decide, by decide⟩ (q0 := 0) rfl rfl rfl rfl rfl (Nat.le_of_ble_eq_true rfl) dL_law_438 ?_
  exact s_icmp_eq E 892 dL_law_441 (by decide) (fun _ => hK _ _ hI2) (fun c0 => absurd rfl c0)
set_option maxRecDepth 100000 in
set_option maxHeartbeats 4000000 in
theorem law_10 (E : EV p s m #[Value.ref b] meth c dC dI cI cZ cL_law 4 RL (some .boolean)) (hX : va_X b L xs s s.heap) (hbl : b < s.heap.size) (x3 : Int32) (b1 : vp_in (x3 + 1) L) (b2 : vp_in (x3 + 2) L) (b3 : vp_in (x3 + 3) L) {σ τ : Nat → Nat → Int32} (hI : Inv σ τ) (hK : ∀ (σ τ : Nat → Nat → Int32), Inv σ τ → GGc p l e room_1 s m #[Value.ref b] below meth c (lw_Z below #[Value.ref b] s) (fun a => s.heap.size ≤ a) dC dI 48 2232 4 (wX cI q σ ++ wM cI cZ q2 τ) 892 [(0, .ref b), (1, .ref (q 0)), (2, .ref (q2 0)), (3, .int x3)] []) : GGc p l e room_1 s m #[Value.ref b] below meth c (lw_Z below #[Value.ref b] s) (fun a => s.heap.size ≤ a) dC dI 48 2232 4 (wX cI q σ ++ wM cI cZ q2 τ) 446 [(0, .ref b), (1, .ref (q 0)), (2, .ref (q2 0)), (3, .int x3)] [] := by
  have hbA : ¬ s.heap.size ≤ b := Nat.not_le.mpr hbl
  obtain ⟨r, e1, e2, hI2⟩ := sp_weighs hI (xs (x3 + 1).toNatClampNeg) (xs (x3 + 2).toNatClampNeg)
  refine s_aload_n E 1 rfl dL_law_446 rfl ?_
  refine s_aload_n E 0 rfl dL_law_447 rfl ?_
  refine s_iload_n E 3 rfl dL_law_448 rfl ?_
  refine s_iconst E (v := 1) dL_law_449 ki_1 ?_
  refine s_iadd E dL_law_450 ?_
  refine s_sld E hX hbl hbA b1 dL_law_451 ?_
  refine s_aload_n E 0 rfl dL_law_452 rfl ?_
  refine s_iload_n E 3 rfl dL_law_453 rfl ?_
  refine s_iconst E (v := 2) dL_law_454 ki_2 ?_
  refine s_iadd E dL_law_455 ?_
  refine s_sld E hX hbl hbA b2 dL_law_456 ?_
  refine s_lawX E (w1 := wX cI q σ) (v := r) kf_X4_weighs m_l_L_59 (c_X4_weighs q σ (xs (x3 + 1).toNatClampNeg) (xs (x3 + 2).toNatClampNeg) r e1) ⟨rfl, rfl, by decide, by decide⟩ ⟨by decide, by decide⟩ (q0 := 0) rfl rfl rfl rfl rfl (Nat.le_of_ble_eq_true rfl) dL_law_457 ?_
  refine s_aload_n E 2 rfl dL_law_460 rfl ?_
  refine s_aload_n E 0 rfl dL_law_461 rfl ?_
  refine s_iload_n E 3 rfl dL_law_462 rfl ?_
  refine s_iconst E (v := 1) dL_law_463 ki_1 ?_
  refine s_iadd E dL_law_464 ?_
  refine s_sld E hX hbl hbA b1 dL_law_465 ?_
  refine s_aload_n E 0 rfl dL_law_466 rfl ?_
  refine s_iload_n E 3 rfl dL_law_467 rfl ?_
  refine s_iconst E (v := 2) dL_law_468 ki_2 ?_
  refine s_iadd E dL_law_469 ?_
  refine s_sld E hX hbl hbA b2 dL_law_470 ?_
  refine s_lawM E (w1 := wM cI cZ q2 τ) (v := r) kf_X5_weighs m_l_L_62 (c_X5_weighs q2 τ (xs (x3 + 1).toNatClampNeg) (xs (x3 + 2).toNatClampNeg) r e2) ⟨rfl, rfl, by decide, by decide⟩ ⟨by decide, by decide⟩ (q0 := 0) rfl rfl rfl rfl rfl (Nat.le_of_ble_eq_true rfl) dL_law_471 ?_
  exact s_icmp_eq E 892 dL_law_474 (by decide) (fun _ => hK _ _ hI2) (fun c0 => absurd rfl c0)
set_option maxRecDepth 100000 in
set_option maxHeartbeats 4000000 in
theorem law_11 (E : EV p s m #[Value.ref b] meth c dC dI cI cZ cL_law 4 RL (some .boolean)) (hX : va_X b L xs s s.heap) (hbl : b < s.heap.size) (x3 : Int32) (b1 : vp_in (x3 + 1) L) (b2 : vp_in (x3 + 2) L) (b3 : vp_in (x3 + 3) L) {σ τ : Nat → Nat → Int32} (hI : Inv σ τ) (hK : ∀ (σ τ : Nat → Nat → Int32), Inv σ τ → GGc p l e room_1 s m #[Value.ref b] below meth c (lw_Z below #[Value.ref b] s) (fun a => s.heap.size ≤ a) dC dI 48 2232 4 (wX cI q σ ++ wM cI cZ q2 τ) 892 [(0, .ref b), (1, .ref (q 0)), (2, .ref (q2 0)), (3, .int x3)] []) : GGc p l e room_1 s m #[Value.ref b] below meth c (lw_Z below #[Value.ref b] s) (fun a => s.heap.size ≤ a) dC dI 48 2232 4 (wX cI q σ ++ wM cI cZ q2 τ) 479 [(0, .ref b), (1, .ref (q 0)), (2, .ref (q2 0)), (3, .int x3)] [] := by
  have hbA : ¬ s.heap.size ≤ b := Nat.not_le.mpr hbl
  obtain ⟨r, e1, e2, hI2⟩ := sp_off hI (xs (x3 + 1).toNatClampNeg)
  refine s_aload_n E 1 rfl dL_law_479 rfl ?_
  refine s_aload_n E 0 rfl dL_law_480 rfl ?_
  refine s_iload_n E 3 rfl dL_law_481 rfl ?_
  refine s_iconst E (v := 1) dL_law_482 ki_1 ?_
  refine s_iadd E dL_law_483 ?_
  refine s_sld E hX hbl hbA b1 dL_law_484 ?_
  refine s_lawX E (w1 := wX cI q σ) (v := r) kf_X4_off m_l_L_63 (c_X4_off q σ (xs (x3 + 1).toNatClampNeg) r e1) ⟨rfl, rfl, by decide, by decide⟩ ⟨by decide, by decide⟩ (q0 := 0) rfl rfl rfl rfl rfl (Nat.le_of_ble_eq_true rfl) dL_law_485 ?_
  refine s_aload_n E 2 rfl dL_law_488 rfl ?_
  refine s_aload_n E 0 rfl dL_law_489 rfl ?_
  refine s_iload_n E 3 rfl dL_law_490 rfl ?_
  refine s_iconst E (v := 1) dL_law_491 ki_1 ?_
  refine s_iadd E dL_law_492 ?_
  refine s_sld E hX hbl hbA b1 dL_law_493 ?_
  refine s_lawM E (w1 := wM cI cZ q2 τ) (v := r) kf_X5_off m_l_L_66 (c_X5_off q2 τ (xs (x3 + 1).toNatClampNeg) r e2) ⟨rfl, rfl, by decide, by decide⟩ ⟨by decide, by decide⟩ (q0 := 0) rfl rfl rfl rfl rfl (Nat.le_of_ble_eq_true rfl) dL_law_494 ?_
  exact s_icmp_eq E 892 dL_law_497 (by decide) (fun _ => hK _ _ hI2) (fun c0 => absurd rfl c0)
set_option maxRecDepth 100000 in
set_option maxHeartbeats 4000000 in
theorem law_12 (E : EV p s m #[Value.ref b] meth c dC dI cI cZ cL_law 4 RL (some .boolean)) (hX : va_X b L xs s s.heap) (hbl : b < s.heap.size) (x3 : Int32) (b1 : vp_in (x3 + 1) L) (b2 : vp_in (x3 + 2) L) (b3 : vp_in (x3 + 3) L) {σ τ : Nat → Nat → Int32} (hI : Inv σ τ) (hK : ∀ (σ τ : Nat → Nat → Int32), Inv σ τ → GGc p l e room_1 s m #[Value.ref b] below meth c (lw_Z below #[Value.ref b] s) (fun a => s.heap.size ≤ a) dC dI 48 2232 4 (wX cI q σ ++ wM cI cZ q2 τ) 892 [(0, .ref b), (1, .ref (q 0)), (2, .ref (q2 0)), (3, .int x3)] []) : GGc p l e room_1 s m #[Value.ref b] below meth c (lw_Z below #[Value.ref b] s) (fun a => s.heap.size ≤ a) dC dI 48 2232 4 (wX cI q σ ++ wM cI cZ q2 τ) 502 [(0, .ref b), (1, .ref (q 0)), (2, .ref (q2 0)), (3, .int x3)] [] := by
  have hbA : ¬ s.heap.size ≤ b := Nat.not_le.mpr hbl
  obtain ⟨r, σ2, τ2, e1, e2, hI2⟩ := sp_leave hI
  refine s_aload_n E 1 rfl dL_law_502 rfl ?_
  refine s_lawX E (w1 := wX cI q σ2) (v := r) kf_X4_leave m_l_L_67 (c_X4_leave q σ (r, σ2) e1) ⟨rfl, rfl, by decide, by decide⟩ ⟨by decide, by decide⟩ (q0 := 0) rfl rfl rfl rfl rfl (Nat.le_of_ble_eq_true rfl) dL_law_503 ?_
  refine s_aload_n E 2 rfl dL_law_506 rfl ?_
  refine s_lawM E (w1 := wM cI cZ q2 τ2) (v := r) kf_X5_leave m_l_L_70 (c_X5_leave q2 τ (r, τ2) e2) ⟨rfl, rfl, by decide, by decide⟩ ⟨by decide, by decide⟩ (q0 := 0) rfl rfl rfl rfl rfl (Nat.le_of_ble_eq_true rfl) dL_law_507 ?_
  exact s_icmp_eq E 892 dL_law_510 (by decide) (fun _ => hK _ _ hI2) (fun c0 => absurd rfl c0)
set_option maxRecDepth 100000 in
set_option maxHeartbeats 4000000 in
theorem law_13 (E : EV p s m #[Value.ref b] meth c dC dI cI cZ cL_law 4 RL (some .boolean)) (hX : va_X b L xs s s.heap) (hbl : b < s.heap.size) (x3 : Int32) (b1 : vp_in (x3 + 1) L) (b2 : vp_in (x3 + 2) L) (b3 : vp_in (x3 + 3) L) {σ τ : Nat → Nat → Int32} (hI : Inv σ τ) (hK : ∀ (σ τ : Nat → Nat → Int32), Inv σ τ → GGc p l e room_1 s m #[Value.ref b] below meth c (lw_Z below #[Value.ref b] s) (fun a => s.heap.size ≤ a) dC dI 48 2232 4 (wX cI q σ ++ wM cI cZ q2 τ) 892 [(0, .ref b), (1, .ref (q 0)), (2, .ref (q2 0)), (3, .int x3)] []) : GGc p l e room_1 s m #[Value.ref b] below meth c (lw_Z below #[Value.ref b] s) (fun a => s.heap.size ≤ a) dC dI 48 2232 4 (wX cI q σ ++ wM cI cZ q2 τ) 515 [(0, .ref b), (1, .ref (q 0)), (2, .ref (q2 0)), (3, .int x3)] [] := by
  have hbA : ¬ s.heap.size ≤ b := Nat.not_le.mpr hbl
  obtain ⟨r, σ2, τ2, e1, e2, hI2⟩ := sp_back hI
  refine s_aload_n E 1 rfl dL_law_515 rfl ?_
  refine s_lawX E (w1 := wX cI q σ2) (v := r) kf_X4_back m_l_L_71 (by have hc := c_X4_back (l := l) (A := inW (wX cI q σ)) (dC := dC) (dI := dI) (cI := cI) (cZ := cZ) q σ; rw [e1] at hc; exact hc) ⟨rfl, rfl, by decide, by decide⟩ ⟨by decide, by decide⟩ (q0 := 0) rfl rfl rfl rfl rfl (Nat.le_of_ble_eq_true rfl) dL_law_516 ?_
  refine s_aload_n E 2 rfl dL_law_519 rfl ?_
  refine s_lawM E (w1 := wM cI cZ q2 τ2) (v := r) kf_X5_back m_l_L_74 (c_X5_back q2 τ (r, τ2) e2) ⟨rfl, rfl, by decide, by decide⟩ ⟨by decide, by decide⟩ (q0 := 0) rfl rfl rfl rfl rfl (Nat.le_of_ble_eq_true rfl) dL_law_520 ?_
  exact s_icmp_eq E 892 dL_law_523 (by decide) (fun _ => hK _ _ hI2) (fun c0 => absurd rfl c0)
set_option maxRecDepth 100000 in
set_option maxHeartbeats 4000000 in
theorem law_14 (E : EV p s m #[Value.ref b] meth c dC dI cI cZ cL_law 4 RL (some .boolean)) (hX : va_X b L xs s s.heap) (hbl : b < s.heap.size) (x3 : Int32) (b1 : vp_in (x3 + 1) L) (b2 : vp_in (x3 + 2) L) (b3 : vp_in (x3 + 3) L) {σ τ : Nat → Nat → Int32} (hI : Inv σ τ) (hK : ∀ (σ τ : Nat → Nat → Int32), Inv σ τ → GGc p l e room_1 s m #[Value.ref b] below meth c (lw_Z below #[Value.ref b] s) (fun a => s.heap.size ≤ a) dC dI 48 2232 4 (wX cI q σ ++ wM cI cZ q2 τ) 892 [(0, .ref b), (1, .ref (q 0)), (2, .ref (q2 0)), (3, .int x3)] []) : GGc p l e room_1 s m #[Value.ref b] below meth c (lw_Z below #[Value.ref b] s) (fun a => s.heap.size ≤ a) dC dI 48 2232 4 (wX cI q σ ++ wM cI cZ q2 τ) 528 [(0, .ref b), (1, .ref (q 0)), (2, .ref (q2 0)), (3, .int x3)] [] := by
  have hbA : ¬ s.heap.size ≤ b := Nat.not_le.mpr hbl
  obtain ⟨r, e1, e2, hI2⟩ := sp_left hI (xs (x3 + 1).toNatClampNeg) (xs (x3 + 2).toNatClampNeg)
  refine s_aload_n E 1 rfl dL_law_528 rfl ?_
  refine s_aload_n E 0 rfl dL_law_529 rfl ?_
  refine s_iload_n E 3 rfl dL_law_530 rfl ?_
  refine s_iconst E (v := 1) dL_law_531 ki_1 ?_
  refine s_iadd E dL_law_532 ?_
  refine s_sld E hX hbl hbA b1 dL_law_533 ?_
  refine s_aload_n E 0 rfl dL_law_534 rfl ?_
  refine s_iload_n E 3 rfl dL_law_535 rfl ?_
  refine s_iconst E (v := 2) dL_law_536 ki_2 ?_
  refine s_iadd E dL_law_537 ?_
  refine s_sld E hX hbl hbA b2 dL_law_538 ?_
  refine s_lawX E (w1 := wX cI q σ) (v := r) kf_X4_left m_l_L_75 (c_X4_left q σ (xs (x3 + 1).toNatClampNeg) (xs (x3 + 2).toNatClampNeg) r e1) ⟨rfl, rfl, by decide, by decide⟩ ⟨by decide, by decide⟩ (q0 := 0) rfl rfl rfl rfl rfl (Nat.le_of_ble_eq_true rfl) dL_law_539 ?_
  refine s_aload_n E 2 rfl dL_law_542 rfl ?_
  refine s_aload_n E 0 rfl dL_law_543 rfl ?_
  refine s_iload_n E 3 rfl dL_law_544 rfl ?_
  refine s_iconst E (v := 1) dL_law_545 ki_1 ?_
  refine s_iadd E dL_law_546 ?_
  refine s_sld E hX hbl hbA b1 dL_law_547 ?_
  refine s_aload_n E 0 rfl dL_law_548 rfl ?_
  refine s_iload_n E 3 rfl dL_law_549 rfl ?_
  refine s_iconst E (v := 2) dL_law_550 ki_2 ?_
  refine s_iadd E dL_law_551 ?_
  refine s_sld E hX hbl hbA b2 dL_law_552 ?_
  refine s_lawM E (w1 := wM cI cZ q2 τ) (v := r) kf_X5_left m_l_L_78 (c_X5_left q2 τ (xs (x3 + 1).toNatClampNeg) (xs (x3 + 2).toNatClampNeg) r e2) ⟨rfl, rfl, by decide, by decide⟩ ⟨by decide, by decide⟩ (q0 := 0) rfl rfl rfl rfl rfl (Nat.le_of_ble_eq_true rfl) dL_law_553 ?_
  exact s_icmp_eq E 892 dL_law_556 (by decide) (fun _ => hK _ _ hI2) (fun c0 => absurd rfl c0)
set_option maxRecDepth 100000 in
set_option maxHeartbeats 4000000 in
theorem law_15 (E : EV p s m #[Value.ref b] meth c dC dI cI cZ cL_law 4 RL (some .boolean)) (hX : va_X b L xs s s.heap) (hbl : b < s.heap.size) (x3 : Int32) (b1 : vp_in (x3 + 1) L) (b2 : vp_in (x3 + 2) L) (b3 : vp_in (x3 + 3) L) {σ τ : Nat → Nat → Int32} (hI : Inv σ τ) (hK : ∀ (σ τ : Nat → Nat → Int32), Inv σ τ → GGc p l e room_1 s m #[Value.ref b] below meth c (lw_Z below #[Value.ref b] s) (fun a => s.heap.size ≤ a) dC dI 48 2232 4 (wX cI q σ ++ wM cI cZ q2 τ) 892 [(0, .ref b), (1, .ref (q 0)), (2, .ref (q2 0)), (3, .int x3)] []) : GGc p l e room_1 s m #[Value.ref b] below meth c (lw_Z below #[Value.ref b] s) (fun a => s.heap.size ≤ a) dC dI 48 2232 4 (wX cI q σ ++ wM cI cZ q2 τ) 561 [(0, .ref b), (1, .ref (q 0)), (2, .ref (q2 0)), (3, .int x3)] [] := by
  have hbA : ¬ s.heap.size ≤ b := Nat.not_le.mpr hbl
  obtain ⟨r, σ2, τ2, e1, e2, hI2⟩ := sp_best hI
  refine s_aload_n E 1 rfl dL_law_561 rfl ?_
  refine s_lawX E (w1 := wX cI q σ2) (v := r) kf_X4_best m_l_L_79 (c_X4_best q σ (r, σ2) e1) ⟨rfl, rfl, by decide, by decide⟩ ⟨by decide, by decide⟩ (q0 := 0) rfl rfl rfl rfl rfl (Nat.le_of_ble_eq_true rfl) dL_law_562 ?_
  refine s_aload_n E 2 rfl dL_law_565 rfl ?_
  refine s_lawM E (w1 := wM cI cZ q2 τ2) (v := r) kf_X5_best m_l_L_82 (c_X5_best q2 τ (r, τ2) e2) ⟨rfl, rfl, by decide, by decide⟩ ⟨by decide, by decide⟩ (q0 := 0) rfl rfl rfl rfl rfl (Nat.le_of_ble_eq_true rfl) dL_law_566 ?_
  exact s_icmp_eq E 892 dL_law_569 (by decide) (fun _ => hK _ _ hI2) (fun c0 => absurd rfl c0)
set_option maxRecDepth 100000 in
set_option maxHeartbeats 4000000 in
theorem law_16 (E : EV p s m #[Value.ref b] meth c dC dI cI cZ cL_law 4 RL (some .boolean)) (hX : va_X b L xs s s.heap) (hbl : b < s.heap.size) (x3 : Int32) (b1 : vp_in (x3 + 1) L) (b2 : vp_in (x3 + 2) L) (b3 : vp_in (x3 + 3) L) {σ τ : Nat → Nat → Int32} (hI : Inv σ τ) (hK : ∀ (σ τ : Nat → Nat → Int32), Inv σ τ → GGc p l e room_1 s m #[Value.ref b] below meth c (lw_Z below #[Value.ref b] s) (fun a => s.heap.size ≤ a) dC dI 48 2232 4 (wX cI q σ ++ wM cI cZ q2 τ) 892 [(0, .ref b), (1, .ref (q 0)), (2, .ref (q2 0)), (3, .int x3)] []) : GGc p l e room_1 s m #[Value.ref b] below meth c (lw_Z below #[Value.ref b] s) (fun a => s.heap.size ≤ a) dC dI 48 2232 4 (wX cI q σ ++ wM cI cZ q2 τ) 574 [(0, .ref b), (1, .ref (q 0)), (2, .ref (q2 0)), (3, .int x3)] [] := by
  have hbA : ¬ s.heap.size ≤ b := Nat.not_le.mpr hbl
  obtain ⟨r, σ2, τ2, e1, e2, hI2⟩ := sp_bestAt hI (xs (x3 + 1).toNatClampNeg)
  refine s_aload_n E 1 rfl dL_law_574 rfl ?_
  refine s_aload_n E 0 rfl dL_law_575 rfl ?_
  refine s_iload_n E 3 rfl dL_law_576 rfl ?_
  refine s_iconst E (v := 1) dL_law_577 ki_1 ?_
  refine s_iadd E dL_law_578 ?_
  refine s_sld E hX hbl hbA b1 dL_law_579 ?_
  refine s_lawX E (w1 := wX cI q σ2) (v := r) kf_X4_bestAt m_l_L_83 (c_X4_bestAt q σ (xs (x3 + 1).toNatClampNeg) (r, σ2) e1) ⟨rfl, rfl, by decide, by decide⟩ ⟨by decide, by decide⟩ (q0 := 0) rfl rfl rfl rfl rfl (Nat.le_of_ble_eq_true rfl) dL_law_580 ?_
  refine s_aload_n E 2 rfl dL_law_583 rfl ?_
  refine s_aload_n E 0 rfl dL_law_584 rfl ?_
  refine s_iload_n E 3 rfl dL_law_585 rfl ?_
  refine s_iconst E (v := 1) dL_law_586 ki_1 ?_
  refine s_iadd E dL_law_587 ?_
  refine s_sld E hX hbl hbA b1 dL_law_588 ?_
  refine s_lawM E (w1 := wM cI cZ q2 τ2) (v := r) kf_X5_bestAt m_l_L_86 (c_X5_bestAt q2 τ (xs (x3 + 1).toNatClampNeg) (r, τ2) e2) ⟨rfl, rfl, by decide, by decide⟩ ⟨by decide, by decide⟩ (q0 := 0) rfl rfl rfl rfl rfl (Nat.le_of_ble_eq_true rfl) dL_law_589 ?_
  exact s_icmp_eq E 892 dL_law_592 (by decide) (fun _ => hK _ _ hI2) (fun c0 => absurd rfl c0)
set_option maxRecDepth 100000 in
set_option maxHeartbeats 4000000 in
theorem law_17 (E : EV p s m #[Value.ref b] meth c dC dI cI cZ cL_law 4 RL (some .boolean)) (hX : va_X b L xs s s.heap) (hbl : b < s.heap.size) (x3 : Int32) (b1 : vp_in (x3 + 1) L) (b2 : vp_in (x3 + 2) L) (b3 : vp_in (x3 + 3) L) {σ τ : Nat → Nat → Int32} (hI : Inv σ τ) (hK : ∀ (σ τ : Nat → Nat → Int32), Inv σ τ → GGc p l e room_1 s m #[Value.ref b] below meth c (lw_Z below #[Value.ref b] s) (fun a => s.heap.size ≤ a) dC dI 48 2232 4 (wX cI q σ ++ wM cI cZ q2 τ) 892 [(0, .ref b), (1, .ref (q 0)), (2, .ref (q2 0)), (3, .int x3)] []) : GGc p l e room_1 s m #[Value.ref b] below meth c (lw_Z below #[Value.ref b] s) (fun a => s.heap.size ≤ a) dC dI 48 2232 4 (wX cI q σ ++ wM cI cZ q2 τ) 597 [(0, .ref b), (1, .ref (q 0)), (2, .ref (q2 0)), (3, .int x3)] [] := by
  have hbA : ¬ s.heap.size ≤ b := Nat.not_le.mpr hbl
  obtain ⟨r, σ2, τ2, e1, e2, hI2⟩ := sp_worth hI (xs (x3 + 1).toNatClampNeg)
  refine s_aload_n E 1 rfl dL_law_597 rfl ?_
  refine s_aload_n E 0 rfl dL_law_598 rfl ?_
  refine s_iload_n E 3 rfl dL_law_599 rfl ?_
  refine s_iconst E (v := 1) dL_law_600 ki_1 ?_
  refine s_iadd E dL_law_601 ?_
  refine s_sld E hX hbl hbA b1 dL_law_602 ?_
  refine s_lawX E (w1 := wX cI q σ2) (v := r) kf_X4_worth m_l_L_87 (c_X4_worth q σ (xs (x3 + 1).toNatClampNeg) (r, σ2) e1) ⟨rfl, rfl, by decide, by decide⟩ ⟨by decide, by decide⟩ (q0 := 0) rfl rfl rfl rfl rfl (Nat.le_of_ble_eq_true rfl) dL_law_603 ?_
  refine s_aload_n E 2 rfl dL_law_606 rfl ?_
  refine s_aload_n E 0 rfl dL_law_607 rfl ?_
  refine s_iload_n E 3 rfl dL_law_608 rfl ?_
  refine s_iconst E (v := 1) dL_law_609 ki_1 ?_
  refine s_iadd E dL_law_610 ?_
  refine s_sld E hX hbl hbA b1 dL_law_611 ?_
  refine s_lawM E (w1 := wM cI cZ q2 τ2) (v := r) kf_X5_worth m_l_L_90 (c_X5_worth q2 τ (xs (x3 + 1).toNatClampNeg) (r, τ2) e2) ⟨rfl, rfl, by decide, by decide⟩ ⟨by decide, by decide⟩ (q0 := 0) rfl rfl rfl rfl rfl (Nat.le_of_ble_eq_true rfl) dL_law_612 ?_
  exact s_icmp_eq E 892 dL_law_615 (by decide) (fun _ => hK _ _ hI2) (fun c0 => absurd rfl c0)
set_option maxRecDepth 100000 in
set_option maxHeartbeats 4000000 in
theorem law_18 (E : EV p s m #[Value.ref b] meth c dC dI cI cZ cL_law 4 RL (some .boolean)) (hX : va_X b L xs s s.heap) (hbl : b < s.heap.size) (x3 : Int32) (b1 : vp_in (x3 + 1) L) (b2 : vp_in (x3 + 2) L) (b3 : vp_in (x3 + 3) L) {σ τ : Nat → Nat → Int32} (hI : Inv σ τ) (hK : ∀ (σ τ : Nat → Nat → Int32), Inv σ τ → GGc p l e room_1 s m #[Value.ref b] below meth c (lw_Z below #[Value.ref b] s) (fun a => s.heap.size ≤ a) dC dI 48 2232 4 (wX cI q σ ++ wM cI cZ q2 τ) 892 [(0, .ref b), (1, .ref (q 0)), (2, .ref (q2 0)), (3, .int x3)] []) : GGc p l e room_1 s m #[Value.ref b] below meth c (lw_Z below #[Value.ref b] s) (fun a => s.heap.size ≤ a) dC dI 48 2232 4 (wX cI q σ ++ wM cI cZ q2 τ) 620 [(0, .ref b), (1, .ref (q 0)), (2, .ref (q2 0)), (3, .int x3)] [] := by
  have hbA : ¬ s.heap.size ≤ b := Nat.not_le.mpr hbl
  obtain ⟨r, σ2, τ2, e1, e2, hI2⟩ := sp_makes hI (xs (x3 + 1).toNatClampNeg)
  refine s_aload_n E 1 rfl dL_law_620 rfl ?_
  refine s_aload_n E 0 rfl dL_law_621 rfl ?_
  refine s_iload_n E 3 rfl dL_law_622 rfl ?_
  refine s_iconst E (v := 1) dL_law_623 ki_1 ?_
  refine s_iadd E dL_law_624 ?_
  refine s_sld E hX hbl hbA b1 dL_law_625 ?_
  refine s_lawX E (w1 := wX cI q σ2) (v := r) kf_X4_makes m_l_L_91 (c_X4_makes q σ (xs (x3 + 1).toNatClampNeg) (r, σ2) e1) ⟨rfl, rfl, by decide, by decide⟩ ⟨by decide, by decide⟩ (q0 := 0) rfl rfl rfl rfl rfl (Nat.le_of_ble_eq_true rfl) dL_law_626 ?_
  refine s_aload_n E 2 rfl dL_law_629 rfl ?_
  refine s_aload_n E 0 rfl dL_law_630 rfl ?_
  refine s_iload_n E 3 rfl dL_law_631 rfl ?_
  refine s_iconst E (v := 1) dL_law_632 ki_1 ?_
  refine s_iadd E dL_law_633 ?_
  refine s_sld E hX hbl hbA b1 dL_law_634 ?_
  refine s_lawM E (w1 := wM cI cZ q2 τ2) (v := r) kf_X5_makes m_l_L_94 (c_X5_makes q2 τ (xs (x3 + 1).toNatClampNeg) (r, τ2) e2) ⟨rfl, rfl, by decide, by decide⟩ ⟨by decide, by decide⟩ (q0 := 0) rfl rfl rfl rfl rfl (Nat.le_of_ble_eq_true rfl) dL_law_635 ?_
  exact s_icmp_eq E 892 dL_law_638 (by decide) (fun _ => hK _ _ hI2) (fun c0 => absurd rfl c0)
set_option maxRecDepth 100000 in
set_option maxHeartbeats 4000000 in
theorem law_19 (E : EV p s m #[Value.ref b] meth c dC dI cI cZ cL_law 4 RL (some .boolean)) (hX : va_X b L xs s s.heap) (hbl : b < s.heap.size) (x3 : Int32) (b1 : vp_in (x3 + 1) L) (b2 : vp_in (x3 + 2) L) (b3 : vp_in (x3 + 3) L) {σ τ : Nat → Nat → Int32} (hI : Inv σ τ) (hK : ∀ (σ τ : Nat → Nat → Int32), Inv σ τ → GGc p l e room_1 s m #[Value.ref b] below meth c (lw_Z below #[Value.ref b] s) (fun a => s.heap.size ≤ a) dC dI 48 2232 4 (wX cI q σ ++ wM cI cZ q2 τ) 892 [(0, .ref b), (1, .ref (q 0)), (2, .ref (q2 0)), (3, .int x3)] []) : GGc p l e room_1 s m #[Value.ref b] below meth c (lw_Z below #[Value.ref b] s) (fun a => s.heap.size ≤ a) dC dI 48 2232 4 (wX cI q σ ++ wM cI cZ q2 τ) 643 [(0, .ref b), (1, .ref (q 0)), (2, .ref (q2 0)), (3, .int x3)] [] := by
  have hbA : ¬ s.heap.size ≤ b := Nat.not_le.mpr hbl
  obtain ⟨r, σ2, τ2, e1, e2, hI2⟩ := sp_bestMakes hI
  refine s_aload_n E 1 rfl dL_law_643 rfl ?_
  refine s_lawX E (w1 := wX cI q σ2) (v := r) kf_X4_bestMakes m_l_L_95 (c_X4_bestMakes q σ (r, σ2) e1) ⟨rfl, rfl, by decide, by decide⟩ ⟨by decide, by decide⟩ (q0 := 0) rfl rfl rfl rfl rfl (Nat.le_of_ble_eq_true rfl) dL_law_644 ?_
  refine s_aload_n E 2 rfl dL_law_647 rfl ?_
  refine s_lawM E (w1 := wM cI cZ q2 τ2) (v := r) kf_X5_bestMakes m_l_L_98 (c_X5_bestMakes q2 τ (r, τ2) e2) ⟨rfl, rfl, by decide, by decide⟩ ⟨by decide, by decide⟩ (q0 := 0) rfl rfl rfl rfl rfl (Nat.le_of_ble_eq_true rfl) dL_law_648 ?_
  exact s_icmp_eq E 892 dL_law_651 (by decide) (fun _ => hK _ _ hI2) (fun c0 => absurd rfl c0)
set_option maxRecDepth 100000 in
set_option maxHeartbeats 4000000 in
theorem law_20 (E : EV p s m #[Value.ref b] meth c dC dI cI cZ cL_law 4 RL (some .boolean)) (hX : va_X b L xs s s.heap) (hbl : b < s.heap.size) (x3 : Int32) (b1 : vp_in (x3 + 1) L) (b2 : vp_in (x3 + 2) L) (b3 : vp_in (x3 + 3) L) {σ τ : Nat → Nat → Int32} (hI : Inv σ τ) (hK : ∀ (σ τ : Nat → Nat → Int32), Inv σ τ → GGc p l e room_1 s m #[Value.ref b] below meth c (lw_Z below #[Value.ref b] s) (fun a => s.heap.size ≤ a) dC dI 48 2232 4 (wX cI q σ ++ wM cI cZ q2 τ) 892 [(0, .ref b), (1, .ref (q 0)), (2, .ref (q2 0)), (3, .int x3)] []) : GGc p l e room_1 s m #[Value.ref b] below meth c (lw_Z below #[Value.ref b] s) (fun a => s.heap.size ≤ a) dC dI 48 2232 4 (wX cI q σ ++ wM cI cZ q2 τ) 656 [(0, .ref b), (1, .ref (q 0)), (2, .ref (q2 0)), (3, .int x3)] [] := by
  have hbA : ¬ s.heap.size ≤ b := Nat.not_le.mpr hbl
  obtain ⟨r, σ2, τ2, e1, e2, hI2⟩ := sp_sets hI
  refine s_aload_n E 1 rfl dL_law_656 rfl ?_
  refine s_lawX E (w1 := wX cI q σ2) (v := r) kf_X4_sets m_l_L_99 (c_X4_sets q σ (r, σ2) e1) ⟨rfl, rfl, by decide, by decide⟩ ⟨by decide, by decide⟩ (q0 := 0) rfl rfl rfl rfl rfl (Nat.le_of_ble_eq_true rfl) dL_law_657 ?_
  refine s_aload_n E 2 rfl dL_law_660 rfl ?_
  refine s_lawM E (w1 := wM cI cZ q2 τ2) (v := r) kf_X5_sets m_l_L_102 (c_X5_sets q2 τ (r, τ2) e2) ⟨rfl, rfl, by decide, by decide⟩ ⟨by decide, by decide⟩ (q0 := 0) rfl rfl rfl rfl rfl (Nat.le_of_ble_eq_true rfl) dL_law_661 ?_
  exact s_icmp_eq E 892 dL_law_664 (by decide) (fun _ => hK _ _ hI2) (fun c0 => absurd rfl c0)
set_option maxRecDepth 100000 in
set_option maxHeartbeats 4000000 in
theorem law_21 (E : EV p s m #[Value.ref b] meth c dC dI cI cZ cL_law 4 RL (some .boolean)) (hX : va_X b L xs s s.heap) (hbl : b < s.heap.size) (x3 : Int32) (b1 : vp_in (x3 + 1) L) (b2 : vp_in (x3 + 2) L) (b3 : vp_in (x3 + 3) L) {σ τ : Nat → Nat → Int32} (hI : Inv σ τ) (hK : ∀ (σ τ : Nat → Nat → Int32), Inv σ τ → GGc p l e room_1 s m #[Value.ref b] below meth c (lw_Z below #[Value.ref b] s) (fun a => s.heap.size ≤ a) dC dI 48 2232 4 (wX cI q σ ++ wM cI cZ q2 τ) 892 [(0, .ref b), (1, .ref (q 0)), (2, .ref (q2 0)), (3, .int x3)] []) : GGc p l e room_1 s m #[Value.ref b] below meth c (lw_Z below #[Value.ref b] s) (fun a => s.heap.size ≤ a) dC dI 48 2232 4 (wX cI q σ ++ wM cI cZ q2 τ) 669 [(0, .ref b), (1, .ref (q 0)), (2, .ref (q2 0)), (3, .int x3)] [] := by
  have hbA : ¬ s.heap.size ≤ b := Nat.not_le.mpr hbl
  obtain ⟨r, σ2, τ2, e1, e2, hI2⟩ := sp_crossings hI (xs (x3 + 1).toNatClampNeg)
  refine s_aload_n E 1 rfl dL_law_669 rfl ?_
  refine s_aload_n E 0 rfl dL_law_670 rfl ?_
  refine s_iload_n E 3 rfl dL_law_671 rfl ?_
  refine s_iconst E (v := 1) dL_law_672 ki_1 ?_
  refine s_iadd E dL_law_673 ?_
  refine s_sld E hX hbl hbA b1 dL_law_674 ?_
  refine s_lawX E (w1 := wX cI q σ2) (v := r) kf_X4_crossings m_l_L_103 (c_X4_crossings q σ (xs (x3 + 1).toNatClampNeg) (r, σ2) e1) ⟨rfl, rfl, by decide, by decide⟩ ⟨by decide, by decide⟩ (q0 := 0) rfl rfl rfl rfl rfl (Nat.le_of_ble_eq_true rfl) dL_law_675 ?_
  refine s_aload_n E 2 rfl dL_law_678 rfl ?_
  refine s_aload_n E 0 rfl dL_law_679 rfl ?_
  refine s_iload_n E 3 rfl dL_law_680 rfl ?_
  refine s_iconst E (v := 1) dL_law_681 ki_1 ?_
  refine s_iadd E dL_law_682 ?_
  refine s_sld E hX hbl hbA b1 dL_law_683 ?_
  refine s_lawM E (w1 := wM cI cZ q2 τ2) (v := r) kf_X5_crossings m_l_L_106 (c_X5_crossings q2 τ (xs (x3 + 1).toNatClampNeg) (r, τ2) e2) ⟨rfl, rfl, by decide, by decide⟩ ⟨by decide, by decide⟩ (q0 := 0) rfl rfl rfl rfl rfl (Nat.le_of_ble_eq_true rfl) dL_law_684 ?_
  exact s_icmp_eq E 892 dL_law_687 (by decide) (fun _ => hK _ _ hI2) (fun c0 => absurd rfl c0)
set_option maxRecDepth 100000 in
set_option maxHeartbeats 4000000 in
theorem law_22 (E : EV p s m #[Value.ref b] meth c dC dI cI cZ cL_law 4 RL (some .boolean)) (hX : va_X b L xs s s.heap) (hbl : b < s.heap.size) (x3 : Int32) (b1 : vp_in (x3 + 1) L) (b2 : vp_in (x3 + 2) L) (b3 : vp_in (x3 + 3) L) {σ τ : Nat → Nat → Int32} (hI : Inv σ τ) (hK : ∀ (σ τ : Nat → Nat → Int32), Inv σ τ → GGc p l e room_1 s m #[Value.ref b] below meth c (lw_Z below #[Value.ref b] s) (fun a => s.heap.size ≤ a) dC dI 48 2232 4 (wX cI q σ ++ wM cI cZ q2 τ) 892 [(0, .ref b), (1, .ref (q 0)), (2, .ref (q2 0)), (3, .int x3)] []) : GGc p l e room_1 s m #[Value.ref b] below meth c (lw_Z below #[Value.ref b] s) (fun a => s.heap.size ≤ a) dC dI 48 2232 4 (wX cI q σ ++ wM cI cZ q2 τ) 692 [(0, .ref b), (1, .ref (q 0)), (2, .ref (q2 0)), (3, .int x3)] [] := by
  have hbA : ¬ s.heap.size ≤ b := Nat.not_le.mpr hbl
  obtain ⟨r, σ2, τ2, e1, e2, hI2⟩ := sp_all hI
  refine s_aload_n E 1 rfl dL_law_692 rfl ?_
  refine s_lawX E (w1 := wX cI q σ2) (v := r) kf_X4_all m_l_L_107 (c_X4_all q σ (r, σ2) e1) ⟨rfl, rfl, by decide, by decide⟩ ⟨by decide, by decide⟩ (q0 := 0) rfl rfl rfl rfl rfl (Nat.le_of_ble_eq_true rfl) dL_law_693 ?_
  refine s_aload_n E 2 rfl dL_law_696 rfl ?_
  refine s_lawM E (w1 := wM cI cZ q2 τ2) (v := r) kf_X5_all m_l_L_110 (c_X5_all q2 τ (r, τ2) e2) ⟨rfl, rfl, by decide, by decide⟩ ⟨by decide, by decide⟩ (q0 := 0) rfl rfl rfl rfl rfl (Nat.le_of_ble_eq_true rfl) dL_law_697 ?_
  exact s_icmp_eq E 892 dL_law_700 (by decide) (fun _ => hK _ _ hI2) (fun c0 => absurd rfl c0)
set_option maxRecDepth 100000 in
set_option maxHeartbeats 4000000 in
theorem law_23 (E : EV p s m #[Value.ref b] meth c dC dI cI cZ cL_law 4 RL (some .boolean)) (hX : va_X b L xs s s.heap) (hbl : b < s.heap.size) (x3 : Int32) (b1 : vp_in (x3 + 1) L) (b2 : vp_in (x3 + 2) L) (b3 : vp_in (x3 + 3) L) {σ τ : Nat → Nat → Int32} (hI : Inv σ τ) (hK : ∀ (σ τ : Nat → Nat → Int32), Inv σ τ → GGc p l e room_1 s m #[Value.ref b] below meth c (lw_Z below #[Value.ref b] s) (fun a => s.heap.size ≤ a) dC dI 48 2232 4 (wX cI q σ ++ wM cI cZ q2 τ) 892 [(0, .ref b), (1, .ref (q 0)), (2, .ref (q2 0)), (3, .int x3)] []) : GGc p l e room_1 s m #[Value.ref b] below meth c (lw_Z below #[Value.ref b] s) (fun a => s.heap.size ≤ a) dC dI 48 2232 4 (wX cI q σ ++ wM cI cZ q2 τ) 705 [(0, .ref b), (1, .ref (q 0)), (2, .ref (q2 0)), (3, .int x3)] [] := by
  have hbA : ¬ s.heap.size ≤ b := Nat.not_le.mpr hbl
  obtain ⟨r, τ2, e1, e2, hI2⟩ := sp_rule hI
  refine s_aload_n E 1 rfl dL_law_705 rfl ?_
  refine s_lawX E (w1 := wX cI q σ) (v := r) kf_X4_rule m_l_L_111 (c_X4_rule q σ r e1) ⟨rfl, rfl, by decide, by decide⟩ ⟨by decide, by decide⟩ (q0 := 0) rfl rfl rfl rfl rfl (Nat.le_of_ble_eq_true rfl) dL_law_706 ?_
  refine s_aload_n E 2 rfl dL_law_709 rfl ?_
  refine s_lawM E (w1 := wM cI cZ q2 τ2) (v := r) kf_X5_rule m_l_L_114 (c_X5_rule q2 τ (r, τ2) e2) ⟨rfl, rfl, by decide, by decide⟩ ⟨by decide, by decide⟩ (q0 := 0) rfl rfl rfl rfl rfl (Nat.le_of_ble_eq_true rfl) dL_law_710 ?_
  exact s_icmp_eq E 892 dL_law_713 (by decide) (fun _ => hK _ _ hI2) (fun c0 => absurd rfl c0)
set_option maxRecDepth 100000 in
set_option maxHeartbeats 4000000 in
theorem law_24 (E : EV p s m #[Value.ref b] meth c dC dI cI cZ cL_law 4 RL (some .boolean)) (hX : va_X b L xs s s.heap) (hbl : b < s.heap.size) (x3 : Int32) (b1 : vp_in (x3 + 1) L) (b2 : vp_in (x3 + 2) L) (b3 : vp_in (x3 + 3) L) {σ τ : Nat → Nat → Int32} (hI : Inv σ τ) (hK : ∀ (σ τ : Nat → Nat → Int32), Inv σ τ → GGc p l e room_1 s m #[Value.ref b] below meth c (lw_Z below #[Value.ref b] s) (fun a => s.heap.size ≤ a) dC dI 48 2232 4 (wX cI q σ ++ wM cI cZ q2 τ) 892 [(0, .ref b), (1, .ref (q 0)), (2, .ref (q2 0)), (3, .int x3)] []) : GGc p l e room_1 s m #[Value.ref b] below meth c (lw_Z below #[Value.ref b] s) (fun a => s.heap.size ≤ a) dC dI 48 2232 4 (wX cI q σ ++ wM cI cZ q2 τ) 718 [(0, .ref b), (1, .ref (q 0)), (2, .ref (q2 0)), (3, .int x3)] [] := by
  have hbA : ¬ s.heap.size ≤ b := Nat.not_le.mpr hbl
  obtain ⟨r, τ2, e1, e2, hI2⟩ := sp_ruleAt hI (xs (x3 + 1).toNatClampNeg)
  refine s_aload_n E 1 rfl dL_law_718 rfl ?_
  refine s_aload_n E 0 rfl dL_law_719 rfl ?_
  refine s_iload_n E 3 rfl dL_law_720 rfl ?_
  refine s_iconst E (v := 1) dL_law_721 ki_1 ?_
  refine s_iadd E dL_law_722 ?_
  refine s_sld E hX hbl hbA b1 dL_law_723 ?_
  refine s_lawX E (w1 := wX cI q σ) (v := r) kf_X4_ruleAt m_l_L_115 (c_X4_ruleAt q σ (xs (x3 + 1).toNatClampNeg) r e1) ⟨rfl, rfl, by decide, by decide⟩ ⟨by decide, by decide⟩ (q0 := 0) rfl rfl rfl rfl rfl (Nat.le_of_ble_eq_true rfl) dL_law_724 ?_
  refine s_aload_n E 2 rfl dL_law_727 rfl ?_
  refine s_aload_n E 0 rfl dL_law_728 rfl ?_
  refine s_iload_n E 3 rfl dL_law_729 rfl ?_
  refine s_iconst E (v := 1) dL_law_730 ki_1 ?_
  refine s_iadd E dL_law_731 ?_
  refine s_sld E hX hbl hbA b1 dL_law_732 ?_
  refine s_lawM E (w1 := wM cI cZ q2 τ2) (v := r) kf_X5_ruleAt m_l_L_118 (c_X5_ruleAt q2 τ (xs (x3 + 1).toNatClampNeg) (r, τ2) e2) ⟨rfl, rfl, by decide, by decide⟩ ⟨by decide, by decide⟩ (q0 := 0) rfl rfl rfl rfl rfl (Nat.le_of_ble_eq_true rfl) dL_law_733 ?_
  exact s_icmp_eq E 892 dL_law_736 (by decide) (fun _ => hK _ _ hI2) (fun c0 => absurd rfl c0)
set_option maxRecDepth 100000 in
set_option maxHeartbeats 4000000 in
theorem law_25 (E : EV p s m #[Value.ref b] meth c dC dI cI cZ cL_law 4 RL (some .boolean)) (hX : va_X b L xs s s.heap) (hbl : b < s.heap.size) (x3 : Int32) (b1 : vp_in (x3 + 1) L) (b2 : vp_in (x3 + 2) L) (b3 : vp_in (x3 + 3) L) {σ τ : Nat → Nat → Int32} (hI : Inv σ τ) (hK : ∀ (σ τ : Nat → Nat → Int32), Inv σ τ → GGc p l e room_1 s m #[Value.ref b] below meth c (lw_Z below #[Value.ref b] s) (fun a => s.heap.size ≤ a) dC dI 48 2232 4 (wX cI q σ ++ wM cI cZ q2 τ) 892 [(0, .ref b), (1, .ref (q 0)), (2, .ref (q2 0)), (3, .int x3)] []) : GGc p l e room_1 s m #[Value.ref b] below meth c (lw_Z below #[Value.ref b] s) (fun a => s.heap.size ≤ a) dC dI 48 2232 4 (wX cI q σ ++ wM cI cZ q2 τ) 741 [(0, .ref b), (1, .ref (q 0)), (2, .ref (q2 0)), (3, .int x3)] [] := by
  have hbA : ¬ s.heap.size ≤ b := Nat.not_le.mpr hbl
  obtain ⟨r, σ2, τ2, e1, e2, hI2⟩ := sp_claim hI (xs (x3 + 1).toNatClampNeg) (xs (x3 + 2).toNatClampNeg)
  refine s_aload_n E 1 rfl dL_law_741 rfl ?_
  refine s_aload_n E 0 rfl dL_law_742 rfl ?_
  refine s_iload_n E 3 rfl dL_law_743 rfl ?_
  refine s_iconst E (v := 1) dL_law_744 ki_1 ?_
  refine s_iadd E dL_law_745 ?_
  refine s_sld E hX hbl hbA b1 dL_law_746 ?_
  refine s_aload_n E 0 rfl dL_law_747 rfl ?_
  refine s_iload_n E 3 rfl dL_law_748 rfl ?_
  refine s_iconst E (v := 2) dL_law_749 ki_2 ?_
  refine s_iadd E dL_law_750 ?_
  refine s_sld E hX hbl hbA b2 dL_law_751 ?_
  refine s_lawX E (w1 := wX cI q σ2) (v := r) kf_X4_claim m_l_L_119 (c_X4_claim q σ (xs (x3 + 1).toNatClampNeg) (xs (x3 + 2).toNatClampNeg) (r, σ2) e1) ⟨rfl, rfl, by decide, by decide⟩ ⟨by decide, by decide⟩ (q0 := 0) rfl rfl rfl rfl rfl (Nat.le_of_ble_eq_true rfl) dL_law_752 ?_
  refine s_aload_n E 2 rfl dL_law_755 rfl ?_
  refine s_aload_n E 0 rfl dL_law_756 rfl ?_
  refine s_iload_n E 3 rfl dL_law_757 rfl ?_
  refine s_iconst E (v := 1) dL_law_758 ki_1 ?_
  refine s_iadd E dL_law_759 ?_
  refine s_sld E hX hbl hbA b1 dL_law_760 ?_
  refine s_aload_n E 0 rfl dL_law_761 rfl ?_
  refine s_iload_n E 3 rfl dL_law_762 rfl ?_
  refine s_iconst E (v := 2) dL_law_763 ki_2 ?_
  refine s_iadd E dL_law_764 ?_
  refine s_sld E hX hbl hbA b2 dL_law_765 ?_
  refine s_lawM E (w1 := wM cI cZ q2 τ2) (v := r) kf_X5_claim m_l_L_122 (c_X5_claim q2 τ (xs (x3 + 1).toNatClampNeg) (xs (x3 + 2).toNatClampNeg) (r, τ2) e2) ⟨rfl, rfl, by decide, by decide⟩ ⟨by decide, by decide⟩ (q0 := 0) rfl rfl rfl rfl rfl (Nat.le_of_ble_eq_true rfl) dL_law_766 ?_
  exact s_icmp_eq E 892 dL_law_769 (by decide) (fun _ => hK _ _ hI2) (fun c0 => absurd rfl c0)
set_option maxRecDepth 100000 in
set_option maxHeartbeats 4000000 in
theorem law_26 (E : EV p s m #[Value.ref b] meth c dC dI cI cZ cL_law 4 RL (some .boolean)) (hX : va_X b L xs s s.heap) (hbl : b < s.heap.size) (x3 : Int32) (b1 : vp_in (x3 + 1) L) (b2 : vp_in (x3 + 2) L) (b3 : vp_in (x3 + 3) L) {σ τ : Nat → Nat → Int32} (hI : Inv σ τ) (hK : ∀ (σ τ : Nat → Nat → Int32), Inv σ τ → GGc p l e room_1 s m #[Value.ref b] below meth c (lw_Z below #[Value.ref b] s) (fun a => s.heap.size ≤ a) dC dI 48 2232 4 (wX cI q σ ++ wM cI cZ q2 τ) 892 [(0, .ref b), (1, .ref (q 0)), (2, .ref (q2 0)), (3, .int x3)] []) : GGc p l e room_1 s m #[Value.ref b] below meth c (lw_Z below #[Value.ref b] s) (fun a => s.heap.size ≤ a) dC dI 48 2232 4 (wX cI q σ ++ wM cI cZ q2 τ) 774 [(0, .ref b), (1, .ref (q 0)), (2, .ref (q2 0)), (3, .int x3)] [] := by
  have hbA : ¬ s.heap.size ≤ b := Nat.not_le.mpr hbl
  obtain ⟨r, e1, e2, hI2⟩ := sp_fits hI
  refine s_aload_n E 1 rfl dL_law_774 rfl ?_
  refine s_lawX E (w1 := wX cI q σ) (v := r) kf_X4_fits m_l_L_123 (c_X4_fits q σ r e1) ⟨rfl, rfl, by decide, by decide⟩ ⟨by decide, by decide⟩ (q0 := 0) rfl rfl rfl rfl rfl (Nat.le_of_ble_eq_true rfl) dL_law_775 ?_
  refine s_aload_n E 2 rfl dL_law_778 rfl ?_
  refine s_lawM E (w1 := wM cI cZ q2 τ) (v := r) kf_X5_fits m_l_L_126 (c_X5_fits q2 τ r e2) ⟨rfl, rfl, by decide, by decide⟩ ⟨by decide, by decide⟩ (q0 := 0) rfl rfl rfl rfl rfl (Nat.le_of_ble_eq_true rfl) dL_law_779 ?_
  exact s_icmp_eq E 892 dL_law_782 (by decide) (fun _ => hK _ _ hI2) (fun c0 => absurd rfl c0)
set_option maxRecDepth 100000 in
set_option maxHeartbeats 4000000 in
theorem law_27 (E : EV p s m #[Value.ref b] meth c dC dI cI cZ cL_law 4 RL (some .boolean)) (hX : va_X b L xs s s.heap) (hbl : b < s.heap.size) (x3 : Int32) (b1 : vp_in (x3 + 1) L) (b2 : vp_in (x3 + 2) L) (b3 : vp_in (x3 + 3) L) {σ τ : Nat → Nat → Int32} (hI : Inv σ τ) (hK : ∀ (σ τ : Nat → Nat → Int32), Inv σ τ → GGc p l e room_1 s m #[Value.ref b] below meth c (lw_Z below #[Value.ref b] s) (fun a => s.heap.size ≤ a) dC dI 48 2232 4 (wX cI q σ ++ wM cI cZ q2 τ) 892 [(0, .ref b), (1, .ref (q 0)), (2, .ref (q2 0)), (3, .int x3)] []) : GGc p l e room_1 s m #[Value.ref b] below meth c (lw_Z below #[Value.ref b] s) (fun a => s.heap.size ≤ a) dC dI 48 2232 4 (wX cI q σ ++ wM cI cZ q2 τ) 787 [(0, .ref b), (1, .ref (q 0)), (2, .ref (q2 0)), (3, .int x3)] [] := by
  have hbA : ¬ s.heap.size ≤ b := Nat.not_le.mpr hbl
  obtain ⟨r, σ2, τ2, e1, e2, hI2⟩ := sp_liars hI
  refine s_aload_n E 1 rfl dL_law_787 rfl ?_
  refine s_lawX E (w1 := wX cI q σ2) (v := r) kf_X4_liars m_l_L_127 (c_X4_liars q σ (r, σ2) e1) ⟨rfl, rfl, by decide, by decide⟩ ⟨by decide, by decide⟩ (q0 := 0) rfl rfl rfl rfl rfl (Nat.le_of_ble_eq_true rfl) dL_law_788 ?_
  refine s_aload_n E 2 rfl dL_law_791 rfl ?_
  refine s_lawM E (w1 := wM cI cZ q2 τ2) (v := r) kf_X5_liars m_l_L_130 (c_X5_liars q2 τ (r, τ2) e2) ⟨rfl, rfl, by decide, by decide⟩ ⟨by decide, by decide⟩ (q0 := 0) rfl rfl rfl rfl rfl (Nat.le_of_ble_eq_true rfl) dL_law_792 ?_
  exact s_icmp_eq E 892 dL_law_795 (by decide) (fun _ => hK _ _ hI2) (fun c0 => absurd rfl c0)
set_option maxRecDepth 100000 in
set_option maxHeartbeats 4000000 in
theorem law_28 (E : EV p s m #[Value.ref b] meth c dC dI cI cZ cL_law 4 RL (some .boolean)) (hX : va_X b L xs s s.heap) (hbl : b < s.heap.size) (x3 : Int32) (b1 : vp_in (x3 + 1) L) (b2 : vp_in (x3 + 2) L) (b3 : vp_in (x3 + 3) L) {σ τ : Nat → Nat → Int32} (hI : Inv σ τ) (hK : ∀ (σ τ : Nat → Nat → Int32), Inv σ τ → GGc p l e room_1 s m #[Value.ref b] below meth c (lw_Z below #[Value.ref b] s) (fun a => s.heap.size ≤ a) dC dI 48 2232 4 (wX cI q σ ++ wM cI cZ q2 τ) 892 [(0, .ref b), (1, .ref (q 0)), (2, .ref (q2 0)), (3, .int x3)] []) : GGc p l e room_1 s m #[Value.ref b] below meth c (lw_Z below #[Value.ref b] s) (fun a => s.heap.size ≤ a) dC dI 48 2232 4 (wX cI q σ ++ wM cI cZ q2 τ) 800 [(0, .ref b), (1, .ref (q 0)), (2, .ref (q2 0)), (3, .int x3)] [] := by
  have hbA : ¬ s.heap.size ≤ b := Nat.not_le.mpr hbl
  obtain ⟨r, σ2, τ2, e1, e2, hI2⟩ := sp_mayWeigh hI (xs (x3 + 1).toNatClampNeg)
  refine s_aload_n E 1 rfl dL_law_800 rfl ?_
  refine s_aload_n E 0 rfl dL_law_801 rfl ?_
  refine s_iload_n E 3 rfl dL_law_802 rfl ?_
  refine s_iconst E (v := 1) dL_law_803 ki_1 ?_
  refine s_iadd E dL_law_804 ?_
  refine s_sld E hX hbl hbA b1 dL_law_805 ?_
  refine s_lawX E (w1 := wX cI q σ2) (v := r) kf_X4_mayWeigh m_l_L_131 (c_X4_mayWeigh q σ (xs (x3 + 1).toNatClampNeg) (r, σ2) e1) ⟨rfl, rfl, by decide, by decide⟩ ⟨by decide, by decide⟩ (q0 := 0) rfl rfl rfl rfl rfl (Nat.le_of_ble_eq_true rfl) dL_law_806 ?_
  refine s_aload_n E 2 rfl dL_law_809 rfl ?_
  refine s_aload_n E 0 rfl dL_law_810 rfl ?_
  refine s_iload_n E 3 rfl dL_law_811 rfl ?_
  refine s_iconst E (v := 1) dL_law_812 ki_1 ?_
  refine s_iadd E dL_law_813 ?_
  refine s_sld E hX hbl hbA b1 dL_law_814 ?_
  refine s_lawM E (w1 := wM cI cZ q2 τ2) (v := r) kf_X5_mayWeigh m_l_L_134 (c_X5_mayWeigh q2 τ (xs (x3 + 1).toNatClampNeg) (r, τ2) e2) ⟨rfl, rfl, by decide, by decide⟩ ⟨by decide, by decide⟩ (q0 := 0) rfl rfl rfl rfl rfl (Nat.le_of_ble_eq_true rfl) dL_law_815 ?_
  exact s_icmp_eq E 892 dL_law_818 (by decide) (fun _ => hK _ _ hI2) (fun c0 => absurd rfl c0)
set_option maxRecDepth 100000 in
set_option maxHeartbeats 4000000 in
theorem law_29 (E : EV p s m #[Value.ref b] meth c dC dI cI cZ cL_law 4 RL (some .boolean)) (hX : va_X b L xs s s.heap) (hbl : b < s.heap.size) (x3 : Int32) (b1 : vp_in (x3 + 1) L) (b2 : vp_in (x3 + 2) L) (b3 : vp_in (x3 + 3) L) {σ τ : Nat → Nat → Int32} (hI : Inv σ τ) (hK : ∀ (σ τ : Nat → Nat → Int32), Inv σ τ → GGc p l e room_1 s m #[Value.ref b] below meth c (lw_Z below #[Value.ref b] s) (fun a => s.heap.size ≤ a) dC dI 48 2232 4 (wX cI q σ ++ wM cI cZ q2 τ) 892 [(0, .ref b), (1, .ref (q 0)), (2, .ref (q2 0)), (3, .int x3)] []) : GGc p l e room_1 s m #[Value.ref b] below meth c (lw_Z below #[Value.ref b] s) (fun a => s.heap.size ≤ a) dC dI 48 2232 4 (wX cI q σ ++ wM cI cZ q2 τ) 823 [(0, .ref b), (1, .ref (q 0)), (2, .ref (q2 0)), (3, .int x3)] [] := by
  have hbA : ¬ s.heap.size ≤ b := Nat.not_le.mpr hbl
  obtain ⟨r, σ2, τ2, e1, e2, hI2⟩ := sp_keep hI (xs (x3 + 1).toNatClampNeg)
  refine s_aload_n E 1 rfl dL_law_823 rfl ?_
  refine s_aload_n E 0 rfl dL_law_824 rfl ?_
  refine s_iload_n E 3 rfl dL_law_825 rfl ?_
  refine s_iconst E (v := 1) dL_law_826 ki_1 ?_
  refine s_iadd E dL_law_827 ?_
  refine s_sld E hX hbl hbA b1 dL_law_828 ?_
  refine s_lawX E (w1 := wX cI q σ2) (v := r) kf_X4_keep m_l_L_135 (c_X4_keep q σ (xs (x3 + 1).toNatClampNeg) (r, σ2) e1) ⟨rfl, rfl, by decide, by decide⟩ ⟨by decide, by decide⟩ (q0 := 0) rfl rfl rfl rfl rfl (Nat.le_of_ble_eq_true rfl) dL_law_829 ?_
  refine s_aload_n E 2 rfl dL_law_832 rfl ?_
  refine s_aload_n E 0 rfl dL_law_833 rfl ?_
  refine s_iload_n E 3 rfl dL_law_834 rfl ?_
  refine s_iconst E (v := 1) dL_law_835 ki_1 ?_
  refine s_iadd E dL_law_836 ?_
  refine s_sld E hX hbl hbA b1 dL_law_837 ?_
  refine s_lawM E (w1 := wM cI cZ q2 τ2) (v := r) kf_X5_keep m_l_L_138 (c_X5_keep q2 τ (xs (x3 + 1).toNatClampNeg) (r, τ2) e2) ⟨rfl, rfl, by decide, by decide⟩ ⟨by decide, by decide⟩ (q0 := 0) rfl rfl rfl rfl rfl (Nat.le_of_ble_eq_true rfl) dL_law_838 ?_
  exact s_icmp_eq E 892 dL_law_841 (by decide) (fun _ => hK _ _ hI2) (fun c0 => absurd rfl c0)
set_option maxRecDepth 100000 in
set_option maxHeartbeats 4000000 in
theorem law_30 (E : EV p s m #[Value.ref b] meth c dC dI cI cZ cL_law 4 RL (some .boolean)) (hX : va_X b L xs s s.heap) (hbl : b < s.heap.size) (x3 : Int32) (b1 : vp_in (x3 + 1) L) (b2 : vp_in (x3 + 2) L) (b3 : vp_in (x3 + 3) L) {σ τ : Nat → Nat → Int32} (hI : Inv σ τ) (hK : ∀ (σ τ : Nat → Nat → Int32), Inv σ τ → GGc p l e room_1 s m #[Value.ref b] below meth c (lw_Z below #[Value.ref b] s) (fun a => s.heap.size ≤ a) dC dI 48 2232 4 (wX cI q σ ++ wM cI cZ q2 τ) 892 [(0, .ref b), (1, .ref (q 0)), (2, .ref (q2 0)), (3, .int x3)] []) : GGc p l e room_1 s m #[Value.ref b] below meth c (lw_Z below #[Value.ref b] s) (fun a => s.heap.size ≤ a) dC dI 48 2232 4 (wX cI q σ ++ wM cI cZ q2 τ) 846 [(0, .ref b), (1, .ref (q 0)), (2, .ref (q2 0)), (3, .int x3)] [] := by
  have hbA : ¬ s.heap.size ≤ b := Nat.not_le.mpr hbl
  obtain ⟨r, σ2, τ2, e1, e2, hI2⟩ := sp_again hI (xs (x3 + 1).toNatClampNeg)
  refine s_aload_n E 1 rfl dL_law_846 rfl ?_
  refine s_aload_n E 0 rfl dL_law_847 rfl ?_
  refine s_iload_n E 3 rfl dL_law_848 rfl ?_
  refine s_iconst E (v := 1) dL_law_849 ki_1 ?_
  refine s_iadd E dL_law_850 ?_
  refine s_sld E hX hbl hbA b1 dL_law_851 ?_
  refine s_lawX E (w1 := wX cI q σ2) (v := r) kf_X4_again m_l_L_139 (c_X4_again q σ (xs (x3 + 1).toNatClampNeg) (r, σ2) e1) ⟨rfl, rfl, by decide, by decide⟩ ⟨by decide, by decide⟩ (q0 := 0) rfl rfl rfl rfl rfl (Nat.le_of_ble_eq_true rfl) dL_law_852 ?_
  refine s_aload_n E 2 rfl dL_law_855 rfl ?_
  refine s_aload_n E 0 rfl dL_law_856 rfl ?_
  refine s_iload_n E 3 rfl dL_law_857 rfl ?_
  refine s_iconst E (v := 1) dL_law_858 ki_1 ?_
  refine s_iadd E dL_law_859 ?_
  refine s_sld E hX hbl hbA b1 dL_law_860 ?_
  refine s_lawM E (w1 := wM cI cZ q2 τ2) (v := r) kf_X5_again m_l_L_142 (c_X5_again q2 τ (xs (x3 + 1).toNatClampNeg) (r, τ2) e2) ⟨rfl, rfl, by decide, by decide⟩ ⟨by decide, by decide⟩ (q0 := 0) rfl rfl rfl rfl rfl (Nat.le_of_ble_eq_true rfl) dL_law_861 ?_
  exact s_icmp_eq E 892 dL_law_864 (by decide) (fun _ => hK _ _ hI2) (fun c0 => absurd rfl c0)
set_option maxRecDepth 100000 in
set_option maxHeartbeats 4000000 in
theorem law_31 (E : EV p s m #[Value.ref b] meth c dC dI cI cZ cL_law 4 RL (some .boolean)) (hX : va_X b L xs s s.heap) (hbl : b < s.heap.size) (x3 : Int32) (b1 : vp_in (x3 + 1) L) (b2 : vp_in (x3 + 2) L) (b3 : vp_in (x3 + 3) L) {σ τ : Nat → Nat → Int32} (hI : Inv σ τ) (hK : ∀ (σ τ : Nat → Nat → Int32), Inv σ τ → GGc p l e room_1 s m #[Value.ref b] below meth c (lw_Z below #[Value.ref b] s) (fun a => s.heap.size ≤ a) dC dI 48 2232 4 (wX cI q σ ++ wM cI cZ q2 τ) 892 [(0, .ref b), (1, .ref (q 0)), (2, .ref (q2 0)), (3, .int x3)] []) : GGc p l e room_1 s m #[Value.ref b] below meth c (lw_Z below #[Value.ref b] s) (fun a => s.heap.size ≤ a) dC dI 48 2232 4 (wX cI q σ ++ wM cI cZ q2 τ) 869 [(0, .ref b), (1, .ref (q 0)), (2, .ref (q2 0)), (3, .int x3)] [] := by
  have hbA : ¬ s.heap.size ≤ b := Nat.not_le.mpr hbl
  obtain ⟨r, e1, e2, hI2⟩ := sp_count hI (xs (x3 + 1).toNatClampNeg)
  refine s_aload_n E 1 rfl dL_law_869 rfl ?_
  refine s_aload_n E 0 rfl dL_law_870 rfl ?_
  refine s_iload_n E 3 rfl dL_law_871 rfl ?_
  refine s_iconst E (v := 1) dL_law_872 ki_1 ?_
  refine s_iadd E dL_law_873 ?_
  refine s_sld E hX hbl hbA b1 dL_law_874 ?_
  refine s_lawX E (w1 := wX cI q σ) (v := r) kf_X4_count m_l_L_143 (c_X4_count q σ (xs (x3 + 1).toNatClampNeg) r e1) ⟨rfl, rfl, by decide, by decide⟩ ⟨by decide, by decide⟩ (q0 := 0) rfl rfl rfl rfl rfl (Nat.le_of_ble_eq_true rfl) dL_law_875 ?_
  refine s_aload_n E 2 rfl dL_law_878 rfl ?_
  refine s_aload_n E 0 rfl dL_law_879 rfl ?_
  refine s_iload_n E 3 rfl dL_law_880 rfl ?_
  refine s_iconst E (v := 1) dL_law_881 ki_1 ?_
  refine s_iadd E dL_law_882 ?_
  refine s_sld E hX hbl hbA b1 dL_law_883 ?_
  refine s_lawM E (w1 := wM cI cZ q2 τ) (v := r) kf_X5_count m_l_L_146 (c_X5_count q2 τ (xs (x3 + 1).toNatClampNeg) r e2) ⟨rfl, rfl, by decide, by decide⟩ ⟨by decide, by decide⟩ (q0 := 0) rfl rfl rfl rfl rfl (Nat.le_of_ble_eq_true rfl) dL_law_884 ?_
  exact s_icmp_eq E 892 dL_law_887 (by decide) (fun _ => hK _ _ hI2) (fun c0 => absurd rfl c0)
end
theorem law_in {k L : Nat} (h1 : k ≤ 4096) (h2 : L ≤ 2048) (c : ¬ nI L - 4 < nI k) : k + 4 ≤ L := by
  rw [Int32.lt_iff_toInt_lt, show (4 : Int32) = nI 4 from rfl, pk_sub_toInt (by omega) (by omega), nI_toInt (by omega)] at c
  omega
theorem law_out {k L : Nat} (h1 : L < k) (h2 : k ≤ 4096) : nI L - 4 < nI k := by
  rw [Int32.lt_iff_toInt_lt, show (4 : Int32) = nI 4 from rfl, pk_sub_toInt (by omega) (by omega), nI_toInt (by omega)]
  omega
theorem law_nest : ∀ t ∈ nestT, nestW t ∈ lw_tbl := List.forall_mem_cons.mpr ⟨List.mem_append_right _ (List.mem_append_left _ (List.mem_of_getElem? (i := 19) rfl)), List.forall_mem_cons.mpr ⟨List.mem_append_right _ (List.mem_append_left _ (List.mem_of_getElem? (i := 35) rfl)), List.forall_mem_cons.mpr ⟨List.mem_append_right _ (List.mem_append_left _ (List.mem_of_getElem? (i := 85) rfl)), List.forall_mem_cons.mpr ⟨List.mem_append_right _ (List.mem_append_left _ (List.mem_of_getElem? (i := 119) rfl)), List.forall_mem_cons.mpr ⟨List.mem_append_right _ (List.mem_append_right _ (List.mem_append_left _ (List.mem_of_getElem? (i := 39) rfl))), List.forall_mem_cons.mpr ⟨List.mem_append_right _ (List.mem_append_right _ (List.mem_append_left _ (List.mem_of_getElem? (i := 104) rfl))), List.forall_mem_cons.mpr ⟨List.mem_append_right _ (List.mem_append_right _ (List.mem_append_left _ (List.mem_of_getElem? (i := 105) rfl))), List.forall_mem_cons.mpr ⟨List.mem_append_right _ (List.mem_append_right _ (List.mem_append_left _ (List.mem_of_getElem? (i := 170) rfl))), List.forall_mem_cons.mpr ⟨List.mem_append_right _ (List.mem_append_right _ (List.mem_append_left _ (List.mem_of_getElem? (i := 181) rfl))), List.forall_mem_cons.mpr ⟨List.mem_append_right _ (List.mem_append_right _ (List.mem_append_left _ (List.mem_of_getElem? (i := 195) rfl))), fun _ h => absurd h List.not_mem_nil⟩⟩⟩⟩⟩⟩⟩⟩⟩⟩
section
variable {p : Program} {l : Launch} {e : Env} {s : State} {m : MethodId} {below : List Frame} {meth : Method} {c : Code} {dC : Nat → ClassId} {dI : Nat → Nat → Nat} {cI cZ : ClassId} {b L : Nat} {xs : Nat → Int32} {q q2 : Nat → Nat}
set_option maxRecDepth 100000 in
set_option maxHeartbeats 4000000 in
theorem law_switch (E : EV p s m #[Value.ref b] meth c dC dI cI cZ cL_law 4 RL (some .boolean)) (hX : va_X b L xs s s.heap) (hbl : b < s.heap.size) (x3 : Int32) (b1 : vp_in (x3 + 1) L) (b2 : vp_in (x3 + 2) L) (b3 : vp_in (x3 + 3) L) {σ τ : Nat → Nat → Int32} (hI : Inv σ τ) (hK : ∀ (σ τ : Nat → Nat → Int32), Inv σ τ → GGc p l e room_1 s m #[Value.ref b] below meth c (lw_Z below #[Value.ref b] s) (fun a => s.heap.size ≤ a) dC dI 48 2232 4 (wX cI q σ ++ wM cI cZ q2 τ) 892 [(0, .ref b), (1, .ref (q 0)), (2, .ref (q2 0)), (3, .int x3)] []) (x : Int32) : GGc p l e room_1 s m #[Value.ref b] below meth c (lw_Z below #[Value.ref b] s) (fun a => s.heap.size ≤ a) dC dI 48 2232 4 (wX cI q σ ++ wM cI cZ q2 τ) 32 [(0, .ref b), (1, .ref (q 0)), (2, .ref (q2 0)), (3, .int x3)] [.int (x &&& 31)] := by
  obtain ⟨j, hj, ej⟩ := pk_andE x (m := 31) 5 (by decide)
  rw [ej]
  have hj : j < 32 := hj
  match j, hj with
  | 0, _ => exact s_swIn E 176 dL_law_32 (by decide) (by decide) (off := 144) (by decide) (by decide) (law_0 E hX hbl x3 b1 b2 b3 hI hK)
  | 1, _ => exact s_swIn E 239 dL_law_32 (by decide) (by decide) (off := 207) (by decide) (by decide) (law_1 E hX hbl x3 b1 b2 b3 hI hK)
  | 2, _ => exact s_swIn E 252 dL_law_32 (by decide) (by decide) (off := 220) (by decide) (by decide) (law_2 E hX hbl x3 b1 b2 b3 hI hK)
  | 3, _ => exact s_swIn E 265 dL_law_32 (by decide) (by decide) (off := 233) (by decide) (by decide) (law_3 E hX hbl x3 b1 b2 b3 hI hK)
  | 4, _ => exact s_swIn E 278 dL_law_32 (by decide) (by decide) (off := 246) (by decide) (by decide) (law_4 E hX hbl x3 b1 b2 b3 hI hK)
  | 5, _ => exact s_swIn E 301 dL_law_32 (by decide) (by decide) (off := 269) (by decide) (by decide) (law_5 E hX hbl x3 b1 b2 b3 hI hK)
  | 6, _ => exact s_swIn E 334 dL_law_32 (by decide) (by decide) (off := 302) (by decide) (by decide) (law_6 E hX hbl x3 b1 b2 b3 hI hK)
  | 7, _ => exact s_swIn E 367 dL_law_32 (by decide) (by decide) (off := 335) (by decide) (by decide) (law_7 E hX hbl x3 b1 b2 b3 hI hK)
  | 8, _ => exact s_swIn E 390 dL_law_32 (by decide) (by decide) (off := 358) (by decide) (by decide) (law_8 E hX hbl x3 b1 b2 b3 hI hK)
  | 9, _ => exact s_swIn E 423 dL_law_32 (by decide) (by decide) (off := 391) (by decide) (by decide) (law_9 E hX hbl x3 b1 b2 b3 hI hK)
  | 10, _ => exact s_swIn E 446 dL_law_32 (by decide) (by decide) (off := 414) (by decide) (by decide) (law_10 E hX hbl x3 b1 b2 b3 hI hK)
  | 11, _ => exact s_swIn E 479 dL_law_32 (by decide) (by decide) (off := 447) (by decide) (by decide) (law_11 E hX hbl x3 b1 b2 b3 hI hK)
  | 12, _ => exact s_swIn E 502 dL_law_32 (by decide) (by decide) (off := 470) (by decide) (by decide) (law_12 E hX hbl x3 b1 b2 b3 hI hK)
  | 13, _ => exact s_swIn E 515 dL_law_32 (by decide) (by decide) (off := 483) (by decide) (by decide) (law_13 E hX hbl x3 b1 b2 b3 hI hK)
  | 14, _ => exact s_swIn E 528 dL_law_32 (by decide) (by decide) (off := 496) (by decide) (by decide) (law_14 E hX hbl x3 b1 b2 b3 hI hK)
  | 15, _ => exact s_swIn E 561 dL_law_32 (by decide) (by decide) (off := 529) (by decide) (by decide) (law_15 E hX hbl x3 b1 b2 b3 hI hK)
  | 16, _ => exact s_swIn E 574 dL_law_32 (by decide) (by decide) (off := 542) (by decide) (by decide) (law_16 E hX hbl x3 b1 b2 b3 hI hK)
  | 17, _ => exact s_swIn E 597 dL_law_32 (by decide) (by decide) (off := 565) (by decide) (by decide) (law_17 E hX hbl x3 b1 b2 b3 hI hK)
  | 18, _ => exact s_swIn E 620 dL_law_32 (by decide) (by decide) (off := 588) (by decide) (by decide) (law_18 E hX hbl x3 b1 b2 b3 hI hK)
  | 19, _ => exact s_swIn E 643 dL_law_32 (by decide) (by decide) (off := 611) (by decide) (by decide) (law_19 E hX hbl x3 b1 b2 b3 hI hK)
  | 20, _ => exact s_swIn E 656 dL_law_32 (by decide) (by decide) (off := 624) (by decide) (by decide) (law_20 E hX hbl x3 b1 b2 b3 hI hK)
  | 21, _ => exact s_swIn E 669 dL_law_32 (by decide) (by decide) (off := 637) (by decide) (by decide) (law_21 E hX hbl x3 b1 b2 b3 hI hK)
  | 22, _ => exact s_swIn E 692 dL_law_32 (by decide) (by decide) (off := 660) (by decide) (by decide) (law_22 E hX hbl x3 b1 b2 b3 hI hK)
  | 23, _ => exact s_swIn E 705 dL_law_32 (by decide) (by decide) (off := 673) (by decide) (by decide) (law_23 E hX hbl x3 b1 b2 b3 hI hK)
  | 24, _ => exact s_swIn E 718 dL_law_32 (by decide) (by decide) (off := 686) (by decide) (by decide) (law_24 E hX hbl x3 b1 b2 b3 hI hK)
  | 25, _ => exact s_swIn E 741 dL_law_32 (by decide) (by decide) (off := 709) (by decide) (by decide) (law_25 E hX hbl x3 b1 b2 b3 hI hK)
  | 26, _ => exact s_swIn E 774 dL_law_32 (by decide) (by decide) (off := 742) (by decide) (by decide) (law_26 E hX hbl x3 b1 b2 b3 hI hK)
  | 27, _ => exact s_swIn E 787 dL_law_32 (by decide) (by decide) (off := 755) (by decide) (by decide) (law_27 E hX hbl x3 b1 b2 b3 hI hK)
  | 28, _ => exact s_swIn E 800 dL_law_32 (by decide) (by decide) (off := 768) (by decide) (by decide) (law_28 E hX hbl x3 b1 b2 b3 hI hK)
  | 29, _ => exact s_swIn E 823 dL_law_32 (by decide) (by decide) (off := 791) (by decide) (by decide) (law_29 E hX hbl x3 b1 b2 b3 hI hK)
  | 30, _ => exact s_swIn E 846 dL_law_32 (by decide) (by decide) (off := 814) (by decide) (by decide) (law_30 E hX hbl x3 b1 b2 b3 hI hK)
  | 31, _ => exact s_swIn E 869 dL_law_32 (by decide) (by decide) (off := 837) (by decide) (by decide) (law_31 E hX hbl x3 b1 b2 b3 hI hK)
  | j + 32, hj => exact absurd hj (by omega)
set_option maxRecDepth 100000 in
set_option maxHeartbeats 4000000 in
theorem law_loop (E : EV p s m #[Value.ref b] meth c dC dI cI cZ cL_law 4 RL (some .boolean)) (hX : va_X b L xs s s.heap) (hbl : b < s.heap.size) (hL : L ≤ 2048) (hr : meth.sig.returnType = Jvm.Pilot.@@N@@.ret) : ∀ (n k : Nat) (σ τ : Nat → Nat → Int32), L < k + n → k ≤ L + 4 → Inv σ τ → GGc p l e room_1 s m #[Value.ref b] below meth c (lw_Z below #[Value.ref b] s) (fun a => s.heap.size ≤ a) dC dI 48 2232 4 (wX cI q σ ++ wM cI cZ q2 τ) 18 [(0, .ref b), (1, .ref (q 0)), (2, .ref (q2 0)), (3, .int (nI k))] [] := by
  have hbA : ¬ s.heap.size ≤ b := Nat.not_le.mpr hbl
  intro n
  induction n with
  | zero =>
    intro k σ τ h1 h2 hI
    refine s_iload_n E 3 rfl dL_law_18 rfl ?_
    refine s_aload_n E 0 rfl dL_law_19 rfl ?_
    refine s_slen E hX hbl hbA dL_law_20 ?_
    refine s_iconst E (v := 4) dL_law_21 ki_4 ?_
    refine s_isub E dL_law_22 ?_
    refine s_icmp_gt E 898 dL_law_23 (by decide) (fun c1 => ?_) (fun c1 => absurd (law_out (by omega) (by omega)) c1)
    refine s_iconst E (v := 1) dL_law_898 ki_1 ?_
    exact fun ls H locs g1 g2 g3 g4 => va_forget (fun q hq => g4.2.2 q hq) (lw_ret E.1 E.2.1 hr E.2.2.2.2.2.2.2 dL_law_899)
  | succ n ih =>
    intro k σ τ h1 h2 hI
    refine s_iload_n E 3 rfl dL_law_18 rfl ?_
    refine s_aload_n E 0 rfl dL_law_19 rfl ?_
    refine s_slen E hX hbl hbA dL_law_20 ?_
    refine s_iconst E (v := 4) dL_law_21 ki_4 ?_
    refine s_isub E dL_law_22 ?_
    refine s_icmp_gt E 898 dL_law_23 (by decide) (fun c1 => ?_) (fun c1 => ?_)
    · refine s_iconst E (v := 1) dL_law_898 ki_1 ?_
      exact fun ls H locs g1 g2 g3 g4 => va_forget (fun q hq => g4.2.2 q hq) (lw_ret E.1 E.2.1 hr E.2.2.2.2.2.2.2 dL_law_899)
    · have hk : k + 4 ≤ L := law_in (by omega) (by omega) c1
      have b0 : vp_in (nI k) L := vp_in_nI (by omega) (by omega)
      have b1 : vp_in (nI k + 1) L := by rw [show nI k + 1 = nI (k + 1) from nI_add k 1]; exact vp_in_nI (by omega) (by omega)
      have b2 : vp_in (nI k + 2) L := by rw [show nI k + 2 = nI (k + 2) from nI_add k 2]; exact vp_in_nI (by omega) (by omega)
      have b3 : vp_in (nI k + 3) L := by rw [show nI k + 3 = nI (k + 3) from nI_add k 3]; exact vp_in_nI (by omega) (by omega)
      refine s_aload_n E 0 rfl dL_law_26 rfl ?_
      refine s_iload_n E 3 rfl dL_law_27 rfl ?_
      refine s_sld E hX hbl hbA b0 dL_law_28 ?_
      refine s_bipush E (v := 31) dL_law_29 (by decide) ?_
      refine s_iand E dL_law_31 ?_
      refine law_switch E hX hbl (nI k) b1 b2 b3 hI (fun σ τ hI => ?_) _
      refine s_iinc E (v := nI (k + 4)) (lv' := [(0, .ref b), (1, .ref (q 0)), (2, .ref (q2 0)), (3, .int (nI (k + 4)))]) 3 rfl dL_law_892 ki_4 (nI_add k 4) rfl rfl rfl (by decide) ?_
      refine s_goto E 18 dL_law_895 (by decide) ?_
      exact ih (k + 4) σ τ (by omega) (by omega) hI
end
theorem l_arr {args : Array Value} {s : State} {ty : FieldType} (h : (Cond.arrayClass ty).before args s = true) (hy : ty = .int ∨ ty = .boolean) : ∃ cA : ClassId, ArrOfT s cA ty ∧ va_RA s cA ty := by
  obtain ⟨cA, kA, comp, h1, h2, h3⟩ := Cond.arrayClass_spec h
  refine ⟨cA, fun n z => ⟨fun k h => (by cases h), kA, h2, comp, h3⟩, ?_⟩
  rcases hy with rfl | rfl <;> exact h1
set_option maxRecDepth 100000 in
set_option maxHeartbeats 4000000 in
theorem whole_start {p : Program} {e : Env} {s : State} {m : MethodId} {below : List Frame} {meth : Method} {c : Code} (l : Launch) {b L : Nat} {xs : Nat → Int32} (hL : L ≤ 2048) (C0 : lw_At p s m meth c b L xs) : W p l e room_1 s m #[Value.ref b] below meth c s.heap [] 0 0 (lw_Z below #[Value.ref b] s) (entryFrame m ([Value.ref b] : List Value).toArray 4) := by
  obtain ⟨hx, hb, hr, hml, hown, hts, hX, hbl, hlocks, hgv⟩ := id C0
  obtain ⟨d0, i0, hKn0⟩ := u_known (C := RX0) (T := TX0) (N := 9) (n := 9) hts (fun w h => (List.mem_filter.mp (in_X0 w h)).1) (hts _ (List.mem_filter.mp m_new_X0).1)
  obtain ⟨d1, i1, hKn1⟩ := u_known (C := RX1) (T := TX1) (N := 6) (n := 6) hts (fun w h => (List.mem_filter.mp (in_X1 w h)).1) (hts _ (List.mem_filter.mp m_new_X1).1)
  obtain ⟨d2, i2, hKn2⟩ := u_known (C := RX2) (T := TX2) (N := 17) (n := 17) hts (fun w h => (List.mem_filter.mp (in_X2 w h)).1) (hts _ (List.mem_filter.mp m_new_X2).1)
  obtain ⟨d3, i3, hKn3⟩ := u_known (C := RX3) (T := TX3) (N := 2) (n := 2) hts (fun w h => (List.mem_filter.mp (in_X3 w h)).1) (hts _ (List.mem_filter.mp m_new_X3).1)
  obtain ⟨d4, i4, hKn4⟩ := u_known (C := RX4) (T := TX4) (N := 6) (n := 6) hts (fun w h => (List.mem_filter.mp (in_X4 w h)).1) (hts _ (List.mem_filter.mp m_new_X4).1)
  obtain ⟨d5, i5, hKn5⟩ := u_known (C := RX5) (T := TX5) (N := 29) (n := 29) hts (fun w h => (List.mem_filter.mp (in_X5 w h)).1) (hts _ (List.mem_filter.mp m_new_X5).1)
  obtain ⟨cI, hI1, hI2⟩ := l_arr (hts _ (List.mem_filter.mp m_arr_int).1) (Or.inl rfl)
  obtain ⟨cZ, hZ1, hZ2⟩ := l_arr (hts _ (List.mem_filter.mp m_arr_boolean).1) (Or.inr rfl)
  obtain ⟨dC, dI, hKc⟩ : ∃ (dC : Nat → ClassId) (dI : Nat → Nat → Nat), ∀ (k : Nat) (q : vw_C), vwCl[k]? = some q → u_Kn s q.1 q.2.1 q.2.2 (dC k) (dI k) := by
    refine ⟨fun k => [d0, d1, d2, d3, d4, d5].getD k d0, fun k => [i0, i1, i2, i3, i4, i5].getD k i0, ?_⟩
    intro k q hq
    match k, hq with
    | 0, hq => cases hq; exact hKn0
    | 1, hq => cases hq; exact hKn1
    | 2, hq => cases hq; exact hKn2
    | 3, hq => cases hq; exact hKn3
    | 4, hq => cases hq; exact hKn4
    | 5, hq => cases hq; exact hKn5
    | k + 6, hq => simp [vwCl] at hq
  have hKK : KK dC dI cI cZ s := by
    refine ⟨⟨hKc, fun k q hk => ?_⟩, fun t ht => va_Nw.of rfl (hts _ ?_)⟩
    · match k, hk with
      | 0, hk => cases hk; exact ⟨hI1, hI2⟩
      | 1, hk => cases hk; exact ⟨hZ1, hZ2⟩
      | k + 2, hk => simp at hk
    · exact law_nest t ht
  have E : EV p s m #[Value.ref b] meth c dC dI cI cZ cL_law 4 RL (some .boolean) := ⟨hx, hb, hml, hown, fun w h => hts w (List.mem_filter.mp h).1, hKK, hr, hlocks⟩
  have hA : ∀ q : Nat, s.heap.size ≤ q → (fun a : Nat => s.heap.size ≤ a) q := fun _ h => h
  have hS : va_S (fun q : Nat => s.heap.size ≤ q) s.heap s.heap [] := va_S.rf
  have hP : va_P (dC, dI) vwCl [] s.heap := fun k q h => by simp at h
  have hD : va_D (fun q : Nat => s.heap.size ≤ q) [] := ⟨fun i j p q h => by simp at h, fun k q h => by simp at h⟩
  have hl := lv_entry ([.ref b]) (n := 4) (Nat.le_of_ble_eq_true rfl)
  rw [lg_entry_eq]
  suffices hG : GGc p l e room_1 s m #[Value.ref b] below meth c (lw_Z below #[Value.ref b] s) (fun a => s.heap.size ≤ a) dC dI 0 0 4 [] 0 [(0, .ref b)] [] from hG _ _ _ hl hP hD hS
  refine s_new (ci := 4) E hA tyX4 tyX4_ok in_X4 rfl m_k_L_7 m_new_X4 m_ini_X4 (fs := [.null, .null, .null, .null, .null, .null]) (by decide) (Nat.le_of_ble_eq_true rfl) (Nat.le_of_ble_eq_true rfl) dL_law_0 (fun x0 => ?_)
  refine s_dup E dL_law_3 rfl ?_
  refine s_ctor E hA (wr := []) (wc := [(x0, .inr (4, [.null, .null, .null, .null, .null, .null]))]) kn_X4 m_l_L_9 (n_X4 x0) ⟨rfl, rfl, by decide, by decide⟩ ⟨Nat.le_of_ble_eq_true rfl, Nat.le_of_ble_eq_true rfl⟩ rfl (Nat.le_of_ble_eq_true rfl) dL_law_4 (fun q => ?_)
  refine s_astore_n E (lv' := [(0, .ref b), (1, .ref x0)]) dL_law_7 rfl rfl rfl rfl (by decide) ?_
  refine s_new (ci := 5) E hA tyX5 tyX5_ok in_X5 rfl m_k_L_10 m_new_X5 m_ini_X5 (fs := [.null, .null, .int 0, .null, .null, .int 0, .null, .null, .null, .int 0, .null, .int 0, .int 0, .int 0, .int 0, .null, .null, .int 0, .int 0, .int 0, .null, .null, .null, .null, .null, .null, .null, .null, .null]) (by decide) (Nat.le_of_ble_eq_true rfl) (Nat.le_of_ble_eq_true rfl) dL_law_8 (fun y0 => ?_)
  refine s_dup E dL_law_11 rfl ?_
  refine s_ctor E hA (wr := wX cI (qq x0 q) initX) (wc := [(y0, .inr (5, [.null, .null, .int 0, .null, .null, .int 0, .null, .null, .null, .int 0, .null, .int 0, .int 0, .int 0, .int 0, .null, .null, .int 0, .int 0, .int 0, .null, .null, .null, .null, .null, .null, .null, .null, .null]))]) kn_X5 m_l_L_12 (n_X5 y0) ⟨rfl, rfl, by decide, by decide⟩ ⟨Nat.le_of_ble_eq_true rfl, Nat.le_of_ble_eq_true rfl⟩ rfl (Nat.le_of_ble_eq_true rfl) dL_law_12 (fun q2 => ?_)
  refine s_astore_n E (lv' := [(0, .ref b), (1, .ref x0), (2, .ref y0)]) dL_law_15 rfl rfl rfl rfl (by decide) ?_
  refine s_iconst E (v := 0) dL_law_16 ki_0 ?_
  refine s_istore_n E (lv' := [(0, .ref b), (1, .ref x0), (2, .ref y0), (3, .int 0)]) dL_law_17 rfl rfl rfl rfl (by decide) ?_
  exact law_loop (q := qq x0 q) (q2 := qq y0 q2) E hX hbl hL hr (L + 1) 0 initX initM (by omega) (by omega) inv0
set_option maxHeartbeats 4000000 in
theorem lw_walk (l : Launch) (b : Addr) (xs : List Int32) : MetFree l x (headSpec (Jvm.Cond.code x code maxLocals ret :: tables_1) room_1) (lw_P b xs) (fun _ _ _ _ _ => True) lw_Q := by
  refine MetFree.of_bodyS (code := code) (maxLocals := maxLocals) (ret := ret) (by decide) ?_ ?_
  · intro args s m h hn
    obtain ⟨meth, c, h1, h2, h3, h4, h5, h6, -, -⟩ := Cond.code_spec hn (atoms_spec (ws := Jvm.Cond.code x code maxLocals ret :: tables_1) h _ List.mem_cons_self)
    exact ⟨meth, c, h1, h2, h3, h4, h5, h6⟩
  · intro p e s m args below meth c s₁ B hml0 hP _
    obtain ⟨rfl, hx, hbd, hgv⟩ := hP
    obtain ⟨scr, harrAt, hlist, hof, hsmall⟩ := hx
    obtain ⟨hcb, hkn, -, -⟩ := State.arrayAt?_spec harrAt
    have hown : s.vm.findClass R_law = some m.cls := findClass_of_methodNamed B.named
    have hts0 : ∀ c ∈ (Jvm.Cond.code x code maxLocals ret :: tables_1), c.before #[Value.ref b] s = true := atoms_spec (ws := Jvm.Cond.code x code maxLocals ret :: tables_1) B.pre
    have hts : ∀ w ∈ lw_tbl, w.before #[Value.ref b] s = true := k2_hts_sels lw_privs (fun w hw => hts0 w (List.mem_cons_of_mem _ hw)) lw_privs_ok
    have hml : c.maxLocals = 4 := B.maxLocals_eq (hts0 _ List.mem_cons_self)
    have X₀ : Stand p l e room_1 s m #[Value.ref b] below meth c s₁ [] 0 0 := Stand.of_body B
    have hh0 : s₁.heap = s.heap := by rw [B.state]; rfl
    have hsz : scr.slots.size = xs.length := by rw [← Array.length_toList, hlist, List.length_map]
    have hval : ∀ j : Nat, j < xs.length → scr.slots[j]? = some (.int (xs.getD j 0)) := fun j hj => by
      rw [← Array.getElem?_toList, hlist]
      simp [hj]
    have hbl : b < s.heap.size := (Array.getElem?_eq_some_iff.mp hcb).1
    have hX : va_X b xs.length (fun j => xs.getD j 0) s s.heap := ⟨scr, hcb, hof, hkn, hsz, hval⟩
    have K : W p l e room_1 s m #[Value.ref b] below meth c s₁.heap [] 0 0 (lw_Z below #[Value.ref b] s) (entryFrame m ([Value.ref b] : List Value).toArray 4) := by
      rw [hh0]
      exact whole_start l hbd ⟨B.exec, B.bytes, B.returns, hml, hown, hts, hX, hbl, B.notSynchronized, hgv⟩
    obtain ⟨t, a1, o, b1, b2, b3⟩ := K s₁ rfl X₀
    exact ⟨t, o, a1, b1, b2, b3⟩
theorem lw_pre_spec {args : Array Value} {s : State} (h : (Jvm.Cond.and given_1 narrow_1).before args s = true) (hr : rest_1_c.before args s = true) : ∃ (b : Addr) (xs : List Int32), lw_P b xs args s := by
  have hs := flat_of_before _ h
  have hq := flat_of_before _ hr
  have hc : (Cond.count 1).before args s = true := hs _ (by decide +kernel)
  have harr : (Cond.arrayOf (.arg 0) .int).before args s = true := hs _ (by decide +kernel)
  have hle : (Cond.le (.length (.arg 0)) (.int 2048)).before args s = true := hs _ (by decide +kernel)
  have hlen : (Cond.isInt (.length (.arg 0))).before args s = true := hq _ (by decide +kernel)
  have hall : (Cond.all (.arg 0) (.isInt (.elem (.arg 0) (.index 0)))).before args s = true := hq _ (by decide +kernel)
  obtain ⟨b, xs, hb, hx⟩ := State.ints_of_pre rfl harr hlen hall
  have hsm : xs.length < 2 ^ 31 := hx.choose_spec.2.2.2
  have hev : (Term.length (.arg 0)).eval args s none [] s = some (.int xs.length.toInt32) := hx.length_eval hb
  have hv := Cond.le_ints hev (show (Term.int 2048).eval args s none [] s = some (.int 2048) from rfl)
  have hd : xs.length.toInt32 ≤ 2048 := by
    simpa [Cond.before, Cond.holds, hv] using hle
  have hN : xs.length ≤ 2048 := (Int32.ofNat_le_ofNat hsm (by decide)).mp (show Int32.ofNat xs.length ≤ Int32.ofNat 2048 from hd)
  exact ⟨b, xs, Cond.one_arg hc (show args[0]? = some (.ref b) from hb), hx, hN, h⟩
theorem lw_comes (l : Launch) : Comes l x (Jvm.Cond.code x code maxLocals ret :: tables_1) room_1 (fun tb e args s => Calls_1 tb e args s ∧ rest_1 tb e args s ∧ Pre_1 tb e args s)
    (fun _ _ args s o t => lw_Q args s o t) := by
  intro p e ha hc hk s m args below hf hfit hheap happ hpre
  obtain ⟨b, xs, hP⟩ := lw_pre_spec hpre.2.2 hpre.2.1
  obtain ⟨k, o, h1, h2, h3, hQ⟩ := lw_walk l b xs p e ha hc hk s m args below hf ((Spec.applies_iff_loose hf).mp happ).1 hP trivial
  exact ⟨k, o, h1, h2, h3, hQ⟩
theorem lw_frame {s t : State} {o : Outcome} {args : Array Value} (h : Framed s o t [] 48 2232) :
    Framed s o t (fieldLocs frame_1_writes args s ++ arrayLocs frame_1_arrays args s ++ staticLocs frame_1_statics s) 48 2232 := h
theorem lw_limb (L : Cond) (hL : ∀ (args : Array Value) (s t : State), L.after args s (.returned (some (.int 1))) t = true) :
    ArmFor flags0 classFile x code maxLocals ret World_1 tables_1 room_1 Calls_1 rest_1 Pre_1
      (fun tb e a s o t => postC L tb e a s o t ∧ Framed s o t (fieldLocs frame_1_writes a s ++ arrayLocs frame_1_arrays a s ++ staticLocs frame_1_statics s) 48 2232) := by
  intro l _ _ _ p e ha hc hk s m args below hf hfit hheap happ hpre
  obtain ⟨k, o, h1, h2, h3, rfl, hF⟩ := lw_comes l p e ha hc hk s m args below hf hfit hheap happ hpre
  exact ⟨k, _, h1, h2, h3, hL args s _, lw_frame hF⟩
theorem i_vc : Claimed_1_1 ∧ Claimed_1_2 := ⟨lw_limb limb_1_1 (fun args s t => by simp [limb_1_1, Cond.after, Cond.holds, Cond.value]), lw_limb limb_1_2 (fun args s t => Cond.after_iff.mpr (by
  first | (rw [show limb_1_2 = Cond.eq .result (.int 1) from rfl, Cond.eq_ints (x := 1) (y := 1) rfl rfl]; simp; done) | (simp [limb_1_2, Cond.value, Term.eval]; done)))⟩
