section
variable {p : Program} {l : Launch} {e : Env} {R : Room} {s : State} {m : MethodId} {args : Array Value} {below : List Frame} {meth : Method} {c : Code} {Q : State → Prop} {A : Nat → Prop} {dC : Nat → ClassId} {dI : Nat → Nat → Nat} {cI cZ : ClassId} {cc : ByteArray} {nL cells slots : Nat} {own : String} {ret : Option FieldType} {w w' : va_W} {pc : Nat} {lv lv' : List (Nat × Value)} {rest st : List Value}
theorem k_cls {U : State} {cA : ClassId} {ty : FieldType} {cB : ClassId} (h : va_RA U cA ty) (h2 : va_RA U cB ty) (hy : ty = .int ∨ ty = .boolean) : cA = cB := by
  rcases hy with rfl | rfl
  · have a : U.vm.findClass _ = some cA := h
    have b : U.vm.findClass _ = some cB := h2
    exact Option.some.inj (a.symm.trans b)
  · have a : U.vm.findClass _ = some cA := h
    have b : U.vm.findClass _ = some cB := h2
    exact Option.some.inj (a.symm.trans b)
theorem s_objInit (E : EV p s m args meth c dC dI cI cZ cc nL own ret) {idx a : Nat} (hm : Cond.methodLink own idx objectInit ∈ wG) (d : decode cc pc = .ok (.invokespecial idx, 3)) (hf : 1 ≤ R.frames) (hlo : (rest.map fun v => v.category).sum + 12 ≤ R.locals) (k : GGc p l e R s m args below meth c Q A dC dI cells slots nL w (pc + 3) lv (rest)) : GGc p l e R s m args below meth c Q A dC dI cells slots nL w (pc) lv (.ref a :: rest) :=
  fun ls H locs h1 h2 h3 h4 => W.objInit E.1 E.2.1 E.2.2.2.1 (E.2.2.2.2.1 _ hm) (E.2.2.2.2.1 _ m_inst_objectInit) (E.2.2.2.2.1 _ m_code_objectInit) rfl (h1.1.trans E.2.2.1.symm) rfl d hf (by show 2 * 0 + _ + 12 ≤ _; omega) (k ls H locs h1 h2 h3 h4)
theorem s_newi (E : EV p s m args meth c dC dI cI cZ cc nL own ret) (hA : ∀ q, s.heap.size ≤ q → A q) {n : Int32} {N : Nat} (hn : ¬ n < 0) (hN : n.toNatClampNeg = N) (hb : N * componentBytes .int ≤ 536870912) (hc : cells + 1 ≤ R.cells) (hs : slots + N ≤ R.slots) (d : decode cc pc = .ok (.newarray .int, 2)) (k : ∀ a : Nat, GGc p l e R s m args below meth c Q A dC dI (cells + 1) (slots + N) nL (w ++ [(a, .inl (cI, N, .inl (fun _ => 0)))]) (pc + 2) lv (.ref a :: rest)) : GGc p l e R s m args below meth c Q A dC dI cells slots nL w (pc) lv (.int n :: rest) := by
  intro ls H locs h1 h2 h3 h4
  refine va_newa (atype := .int) (ty := .int) (a0 := (N, .inl (fun _ => 0))) E.1 E.2.1 (E.2.2.2.2.1 _ m_arr_int) rfl E.2.2.2.2.2.1.1 h2 h3 h4 hA (fun cA => rfl) hn hN hb hc hs d (fun a cA H1 hK hP hD hS => ?_)
  have e1 : cA = cI := k_cls (hK.2 2 (cA, .int) rfl).2 (hK.2 0 (cI, .int) rfl).2 (Or.inl rfl)
  subst e1
  exact k a ls H1 locs h1 hP hD hS
theorem s_newz (E : EV p s m args meth c dC dI cI cZ cc nL own ret) (hA : ∀ q, s.heap.size ≤ q → A q) {n : Int32} {N : Nat} (hn : ¬ n < 0) (hN : n.toNatClampNeg = N) (hb : N * componentBytes .boolean ≤ 536870912) (hc : cells + 1 ≤ R.cells) (hs : slots + N ≤ R.slots) (d : decode cc pc = .ok (.newarray .boolean, 2)) (k : ∀ a : Nat, GGc p l e R s m args below meth c Q A dC dI (cells + 1) (slots + N) nL (w ++ [(a, .inl (cZ, N, .inl (fun _ => 0)))]) (pc + 2) lv (.ref a :: rest)) : GGc p l e R s m args below meth c Q A dC dI cells slots nL w (pc) lv (.int n :: rest) := by
  intro ls H locs h1 h2 h3 h4
  refine va_newa (atype := .boolean) (ty := .boolean) (a0 := (N, .inl (fun _ => 0))) E.1 E.2.1 (E.2.2.2.2.1 _ m_arr_boolean) rfl E.2.2.2.2.2.1.1 h2 h3 h4 hA (fun cA => rfl) hn hN hb hc hs d (fun a cA H1 hK hP hD hS => ?_)
  have e1 : cA = cZ := k_cls (hK.2 2 (cA, .boolean) rfl).2 (hK.2 1 (cZ, .boolean) rfl).2 (Or.inr rfl)
  subst e1
  exact k a ls H1 locs h1 hP hD hS
theorem s_new (E : EV p s m args meth c dC dI cI cZ cc nL own ret) (hA : ∀ q, s.heap.size ≤ q → A q) {C : String} {T : u_T} {N ci index : Nat} (ty0 : Nat → FieldType) (hty : ∀ k, k < N → parseFieldDescriptor (T k).2.2.1 = some (ty0 k)) (hin : ∀ w ∈ u_ws C T N, w ∈ wG) (hcl : vwCl[ci]? = some (C, T, N)) (hm : Cond.classLink own index C ∈ wG) (hi : Cond.instantiable C N ∈ wG) (hini : Cond.initialized C ∈ wG) {fs : List Value} (hfs : ∀ j, j < N → defaultValue (ty0 j) = vp_V fs j) (hc : cells + 1 ≤ R.cells) (hs : slots + N ≤ R.slots) (d : decode cc pc = .ok (.new index, 3)) (k : ∀ a : Nat, GGc p l e R s m args below meth c Q A dC dI (cells + 1) (slots + N) nL (w ++ [(a, .inr (ci, fs))]) (pc + 3) lv (.ref a :: rest)) : GGc p l e R s m args below meth c Q A dC dI cells slots nL w (pc) lv (rest) :=
  fun ls H locs h1 h2 h3 h4 => va_new E.1 E.2.1 E.2.2.2.2.1 hin ty0 hty E.2.2.2.1 (E.2.2.2.2.1 _ hm) (E.2.2.2.2.1 _ hi) (E.2.2.2.2.1 _ hini) E.2.2.2.2.2.1.1 h2 h3 h4 hA hcl hfs hc hs d (fun a H1 hP hD hS => k a ls H1 locs h1 hP hD hS)
theorem s_putF (E : EV p s m args meth c dC dI cI cZ cc nL own ret) {C : String} {T : u_T} {N ci a index : Nat} {fs : List Value} {v : Value} {ty : FieldType} (hin2 : meth.name = "<init>") (q0 kk : Nat) (ty0 : Nat → FieldType) (hty : ∀ k, k < N → parseFieldDescriptor (T k).2.2.1 = some (ty0 k)) (hnm : ∀ a, a < N → ∀ b, b < N → a ≠ b → (T a).2.1 ≠ (T b).2.1) (hin : ∀ w ∈ u_ws C T N, w ∈ wG) (he : w[q0]? = some (a, .inr (ci, fs))) (hc : vwCl[ci]? = some (C, T, N)) (hkk : kk < N) (hm : Cond.fieldLink own index (T kk).1 (T kk).2.1 (T kk).2.2.1 ∈ wG) (hfin : (T kk).2.2.2 = true) (hdc : (T kk).1 = own) (hd : parseFieldDescriptor (T kk).2.2.1 = some ty) (hn : narrow ty v = v) (hfit : fits ty v = true) (hl : kk < fs.length) (hw : w.set q0 (a, .inr (ci, fs.set kk v)) = w') (d : decode cc pc = .ok (.putfield index, 3)) (k : GGc p l e R s m args below meth c Q A dC dI cells slots nL w' (pc + 3) lv (rest)) : GGc p l e R s m args below meth c Q A dC dI cells slots nL w (pc) lv (v :: .ref a :: rest) :=
  fun ls H locs h1 h2 h3 h4 => va_putF E.1 E.2.1 E.2.2.2.2.1 hin ty0 hty hnm E.2.2.2.1 E.2.2.2.2.2.1.1 h2 h3 h4 q0 he hc kk hkk (E.2.2.2.2.1 _ hm) (fun _ h => h) hfin hin2 hdc hd hn hfit hl d (fun H1 locs1 a1 a2 a3 => k ls H1 locs1 h1 (hw ▸ a1) (hw ▸ a2) a3)
end
/-- two worlds side by side: the second's cells are changed, or new ones come -/
theorem l_join {A0 : Nat → Prop} {D : va_G} {cl : List vw_C} {wr wc w1 : va_W} {H H1 : Heap} {sz : Nat} {B : Nat → Prop} (hP : va_P D cl (wr ++ wc) H) (hD : va_D A0 (wr ++ wc)) (hB : ∀ q, B q → (∃ (k : Nat) (e : va_E), wc[k]? = some (q, e)) ∨ H.size ≤ q) (hk : ∀ q : Nat, q < H.size → ¬ B q → H1[q]? = H[q]?) (hF : ∀ q, B q → A0 q) (hP1 : va_P D cl w1 H1) (hD1 : va_D B w1) : va_P D cl (wr ++ w1) H1 ∧ va_D A0 (wr ++ w1) := by
  have inl : ∀ (k : Nat) (q : Nat × va_E), wr[k]? = some q → (wr ++ wc)[k]? = some q := fun k q h => by rw [List.getElem?_append_left (List.getElem?_eq_some_iff.mp h).1]; exact h
  have inr : ∀ (k : Nat) (q : Nat × va_E), wc[k]? = some q → (wr ++ wc)[wr.length + k]? = some q := fun k q h => by rw [List.getElem?_append_right (Nat.le_add_right _ _), Nat.add_sub_cancel_left]; exact h
  have apart : ∀ (k : Nat) (q : Nat × va_E), wr[k]? = some q → q.1 < H.size ∧ ¬ B q.1 := by
    intro k q hq
    have hl := (hP k q (inl k q hq)).lt
    refine ⟨hl, fun h => ?_⟩
    rcases hB _ h with ⟨k2, e, h⟩ | h
    · have hij := hD.1 k (wr.length + k2) q (q.1, e) (inl k q hq) (inr k2 _ h) rfl
      have := (List.getElem?_eq_some_iff.mp hq).1
      omega
    · omega
  refine ⟨va_P.app (fun k q hq => ?_) hP1, va_D.app ⟨fun i j x y hx hy hxy => hD.1 i j x y (inl i x hx) (inl j y hy) hxy, fun k q hq => hD.2 k q (inl k q hq)⟩ (hD1.weaken (fun k q _ h => hF q.1 h)) (fun i j x y hx hy hxy => ?_)⟩
  · obtain ⟨g1, g2⟩ := apart k q hq
    exact (hP k q (inl k q hq)).kept (hk q.1 g1 g2)
  · exact (apart i x hx).2 (by rw [hxy]; exact hD1.2 j y hy)
theorem l_right {D : va_G} {cl : List vw_C} {wr wc : va_W} {H : Heap} (hP : va_P D cl (wr ++ wc) H) : va_P D cl wc H := fun k q h => hP (wr.length + k) q (by rw [List.getElem?_append_right (Nat.le_add_right _ _), Nat.add_sub_cancel_left]; exact h)
theorem l_rightD {A : Nat → Prop} {wr wc : va_W} (hD : va_D A (wr ++ wc)) : va_D A wc := by
  have inr : ∀ (k : Nat) (q : Nat × va_E), wc[k]? = some q → (wr ++ wc)[wr.length + k]? = some q := fun k q h => by rw [List.getElem?_append_right (Nat.le_add_right _ _), Nat.add_sub_cancel_left]; exact h
  exact ⟨fun i j x y hx hy hxy => by have := hD.1 _ _ x y (inr i x hx) (inr j y hy) hxy; omega, fun k q hq => hD.2 _ q (inr k q hq)⟩
/-- what a world may change: its own cells and new ones -/
def inA (w : va_W) (sz : Nat) : Nat → Prop := fun q => (∃ (k : Nat) (e : va_E), w[k]? = some (q, e)) ∨ sz ≤ q
/-- a constructor's contract: the object's cell is there, blank; behind it the world is W q for some addresses q -/
def CN (l : Launch) (dC : Nat → ClassId) (dI : Nat → Nat → Nat) (cI cZ : ClassId) (y : MethodName) (bytes : ByteArray) (maxL : Nat) (rm : Room) (h0 : Nat) (w : va_W) (W' : (Nat → Nat) → va_W) (mc ms : Nat) : Prop :=
  ∀ sz : Nat, Met l y (.code y bytes maxL none :: wG) rm (va_Pc [.ref h0] (fun U => U.heap.size = sz ∧ va_P (dC, dI) vwCl w U.heap ∧ KK dC dI cI cZ U ∧ va_D (fun _ => True) w)) (fun _ st oc t => ∃ q : Nat → Nat, (oc = .returned none ∧ va_P (dC, dI) vwCl (W' q) t.heap ∧ va_D (inA w sz) (W' q)) ∧ va_F (inA w sz) st t) mc ms (inA w sz)
section
variable {p : Program} {l : Launch} {e : Env} {R : Room} {s : State} {m : MethodId} {args : Array Value} {below : List Frame} {meth : Method} {c : Code} {Q : State → Prop} {A : Nat → Prop} {dC : Nat → ClassId} {dI : Nat → Nat → Nat} {cI cZ : ClassId} {cc : ByteArray} {nL cells slots : Nat} {own : String} {ret : Option FieldType} {w w' : va_W} {pc : Nat} {lv lv' : List (Nat × Value)} {rest st : List Value}
theorem b_afterN {wr wc : va_W} {W' : (Nat → Nat) → va_W} {a : Array Value} {ls : Array Slot} {H : Heap} {locs : List Loc} {st0 : List Value} {mc ms : Nat} (hA : ∀ q, s.heap.size ≤ q → A q) (hr : va_Run p l e R s m args below meth c H locs cells slots mc ms (F0 m pc ls st0) rest ((fun _ st oc t => ∃ q : Nat → Nat, (oc = .returned none ∧ va_P (dC, dI) vwCl (W' q) t.heap ∧ va_D (inA wc H.size) (W' q)) ∧ va_F (inA wc H.size) st t : Array Value → State → Outcome → State → Prop) a) (inA wc H.size)) (h1 : lv_has ls nL lv) (h2 : va_P (dC, dI) vwCl (wr ++ wc) H) (h3 : va_D A (wr ++ wc)) (h4 : va_S A s.heap H locs) (k : ∀ q : Nat → Nat, GGc p l e R s m args below meth c Q A dC dI (cells + mc) (slots + ms) nL (wr ++ W' q) (pc + 3) lv rest) : W p l e R s m args below meth c H locs cells slots Q (F0 m pc ls st0) := by
  intro T hT X
  obtain ⟨v, st₀, t, T', L, h0, X', hL, e1, e2, ⟨q, ⟨hv, hP, hD⟩, hz, hk⟩, stp⟩ := hr T hT X
  cases hv
  rw [h0] at hz hk
  have hF : ∀ x, inA wc H.size x → A x := by
    intro x hx
    rcases hx with ⟨i, e, hx⟩ | hx
    · exact h3.2 (wr.length + i) (x, e) (by rw [List.getElem?_append_right (Nat.le_add_right _ _), Nat.add_sub_cancel_left]; exact hx)
    · exact hA x (Nat.le_trans h4.1 hx)
  obtain ⟨hP2, hD2⟩ := l_join (sz := 0) (B := inA wc H.size) h2 h3 (fun _ h => h) (H1 := T'.heap) (fun x g1 g2 => by rw [e1]; exact hk x g1 g2) hF (by rw [e1]; exact hP) hD
  have hS : va_S A s.heap T'.heap (locs ++ L) := ⟨Nat.le_trans h4.1 (by rw [e1]; exact hz), fun x g1 g2 => by rw [e1, hk x (Nat.lt_of_lt_of_le g1 h4.1) (fun z => g2 (hF x z))]; exact h4.2.1 x g1 g2, fun x hq => by
      rcases List.mem_append.mp hq with h | h
      · exact h4.2.2 x h
      · exact hF _ (hL x h)⟩
  obtain ⟨t2, a1, b1⟩ := k q ls T'.heap (locs ++ L) h1 hP2 hD2 hS T' rfl X'
  exact ⟨t2, stp t2 a1, b1⟩
/-- what a constructor's words say of it -/
def CI (y : MethodName) (C : String) (bytes : ByteArray) (maxL : Nat) : Prop := Cond.code y bytes maxL none ∈ wG ∧ Cond.instanceMethod y ∈ wG ∧ Cond.initialized C ∈ wG ∧ y.name = "<init>" ∧ y.cls = C ∧ (y.cls ≠ "java/lang/invoke/MethodHandle" ∧ y.cls ≠ "java/lang/invoke/VarHandle" ∧ (parseMethodDescriptor y.desc).map (fun d => d.parameters.length) = some 0)
theorem s_ctor (E : EV p s m args meth c dC dI cI cZ cc nL own ret) (hA : ∀ q, s.heap.size ≤ q → A q) {y : MethodName} {C : String} {bytes : ByteArray} {maxL idx b : Nat} {rm : Room} {wr wc : va_W} {W' : (Nat → Nat) → va_W} {mc ms : Nat} (hF : CI y C bytes maxL) (hm : Cond.methodLink own idx y ∈ wG) (hM : CN l dC dI cI cZ y bytes maxL rm b wc W' mc ms) (hrm : rm.cells = mc ∧ rm.slots = ms ∧ rm.frames + 1 ≤ R.frames ∧ 8 + (maxL + 11) + rm.locals ≤ R.locals) (hcs : cells + mc ≤ R.cells ∧ slots + ms ≤ R.slots) (hw : w = wr ++ wc) (hsum : (rest.map fun v => v.category).sum ≤ 8) (d : decode cc pc = .ok (.invokespecial idx, 3)) (k : ∀ q : Nat → Nat, GGc p l e R s m args below meth c Q A dC dI (cells + mc) (slots + ms) nL (wr ++ W' q) (pc + 3) lv rest) : GGc p l e R s m args below meth c Q A dC dI cells slots nL w pc lv (.ref b :: rest) := by
  intro ls H locs h1 h2 h3 h4
  obtain ⟨f1, f2, f3, f4, fC, f5⟩ := hF
  have hts := E.2.2.2.2.1
  subst hw
  refine b_afterN (a := #[Value.ref b]) (wr := wr) (wc := wc) hA (va_runI (Ts := wG) (bytes := bytes) (maxL := maxL) (n := 0) (index := idx) (As := []) ⟨E.1, E.2.1, E.2.2.1, E.2.2.2.1, hts⟩ (hM H.size) ⟨callB_of 0 hts (b_goodIn f1) rfl hrm.1 hrm.2.1 (by rw [fC]; exact hts _ f3) (hts _ hm) f5 ⟨hrm.2.2.1, hrm.2.2.2⟩, f4, hts _ f2⟩ ⟨?_, ?_⟩ rfl rfl h1.1 rfl (lv_room hsum) d hcs) h1 h2 h3 h4 k
  · exact fun a U g mk q => ⟨q.1, q.2.1, q.2.2.1, q.2.2.2.1.calling g mk a, q.2.2.2.2⟩
  · exact fun U hU hW => ⟨rfl, by rw [hU], by rw [hU]; exact l_right h2, KK.warm hW E.2.2.2.2.2.1, (l_rightD h3).weaken (fun _ _ _ _ => trivial)⟩
theorem s_ctorN (E : EV p s m args meth c dC dI cI cZ cc nL own ret) (hA : ∀ q, s.heap.size ≤ q → A q) {y : MethodName} {C : String} {bytes : ByteArray} {maxL idx b : Nat} {rm : Room} {wr wc : va_W} {W' : (Nat → Nat) → va_W} {mc ms : Nat} (hF : CI y C bytes maxL) (hm : (own, idx, y) ∈ nestT) (hM : CN l dC dI cI cZ y bytes maxL rm b wc W' mc ms) (hrm : rm.cells = mc ∧ rm.slots = ms ∧ rm.frames + 1 ≤ R.frames ∧ 8 + (maxL + 11) + rm.locals ≤ R.locals) (hcs : cells + mc ≤ R.cells ∧ slots + ms ≤ R.slots) (hw : w = wr ++ wc) (hsum : (rest.map fun v => v.category).sum ≤ 8) (d : decode cc pc = .ok (.invokespecial idx, 3)) (k : ∀ q : Nat → Nat, GGc p l e R s m args below meth c Q A dC dI (cells + mc) (slots + ms) nL (wr ++ W' q) (pc + 3) lv rest) : GGc p l e R s m args below meth c Q A dC dI cells slots nL w pc lv (.ref b :: rest) := by
  intro ls H locs h1 h2 h3 h4
  obtain ⟨f1, f2, f3, f4, fC, f5⟩ := hF
  have hts := E.2.2.2.2.1
  subst hw
  refine b_afterN (a := #[Value.ref b]) (wr := wr) (wc := wc) hA (va_runIN (Ts := wG) (bytes := bytes) (maxL := maxL) (n := 0) (index := idx) (As := []) (host := RX4) ⟨E.1, E.2.1, E.2.2.1, E.2.2.2.1, hts⟩ (hM H.size) ⟨va_cnB 0 hts (b_goodIn f1) rfl hrm.1 hrm.2.1 (E.2.2.2.2.2.1.2 _ hm) (by rw [fC]; exact hts _ f3) f5 ⟨hrm.2.2.1, hrm.2.2.2⟩, f4, hts _ f2⟩ ⟨?_, ?_⟩ rfl rfl h1.1 rfl (lv_room hsum) d hcs) h1 h2 h3 h4 k
  · exact fun a U g mk q => ⟨q.1, q.2.1, q.2.2.1, q.2.2.2.1.calling g mk a, q.2.2.2.2⟩
  · exact fun U hU hW => ⟨rfl, by rw [hU], by rw [hU]; exact l_right h2, KK.warm hW E.2.2.2.2.2.1, (l_rightD h3).weaken (fun _ _ _ _ => trivial)⟩
end
section
variable {p : Program} {l : Launch} {e : Env} {R : Room} {s : State} {m : MethodId} {args : Array Value} {below : List Frame} {meth : Method} {c : Code} {dC : Nat → ClassId} {dI : Nat → Nat → Nat} {cI cZ : ClassId} {cc : ByteArray} {nL mc ms : Nat} {own : String} {w0 : va_W} {pc : Nat} {lv : List (Nat × Value)} {W' : (Nat → Nat) → va_W} {h0 sz : Nat}
theorem s_nret {w : va_W} (E : EV p s m args meth c dC dI cI cZ cc nL own none) (q : Nat → Nat) (hw : w = W' q) (d : decode cc pc = .ok (.return_, 1)) : GGc p l e R s m args below meth c (MQ below (fun _ st oc t => ∃ q : Nat → Nat, (oc = .returned none ∧ va_P (dC, dI) vwCl (W' q) t.heap ∧ va_D (inA w0 sz) (W' q)) ∧ va_F (inA w0 sz) st t) args s mc ms (inA w0 sz)) (inA w0 sz) dC dI mc ms nL w pc lv [] := by
  subst hw
  exact fun ls H locs h1 h2 h3 h4 => W.vret E.1 E.2.1 E.2.2.2.2.2.2.1 (fun t ht hW => ⟨q, ⟨rfl, by rw [ht]; exact h2, h3⟩, h4.F ht⟩) h4.2.2 d E.2.2.2.2.2.2.2
theorem b_metN {y : MethodName} {bytes : ByteArray} {maxL : Nat} {rm : Room} (hy : plainName y.cls = true) (hlen : (lg_sl [.ref h0]).length ≤ maxL) (hyi : y.name = "<init>")
    (k : ∀ (sz : Nat) (p : Program) (e : Env) (s : State) (m : MethodId) (below : List Frame) (meth : Method) (c : Code), EV p s m [Value.ref h0].toArray meth c dC dI cI cZ bytes maxL y.cls none → meth.name = "<init>" → (∀ q, s.heap.size ≤ q → inA w0 sz q) → GGc p l e rm s m [Value.ref h0].toArray below meth c (MQ below (fun _ st oc t => ∃ q : Nat → Nat, (oc = .returned none ∧ va_P (dC, dI) vwCl (W' q) t.heap ∧ va_D (inA w0 sz) (W' q)) ∧ va_F (inA w0 sz) st t) [Value.ref h0].toArray s mc ms (inA w0 sz)) (inA w0 sz) dC dI 0 0 maxL w0 0 (lv_args 0 [.ref h0]) []) :
    CN l dC dI cI cZ y bytes maxL rm h0 w0 W' mc ms := by
  intro sz
  refine Met.ofW (cc := bytes) (maxL := maxL) (ret := none) hy rfl ?_
  intro p e s m args below meth c s₁ B hml hv
  obtain ⟨rfl, hsz, hP, hK, hD⟩ := hv
  have hts := atoms_spec (ws := Cond.code y bytes maxL none :: wG) B.pre
  have E : EV p s m [Value.ref h0].toArray meth c dC dI cI cZ bytes maxL y.cls none := ⟨B.exec, B.bytes, hml, findClass_of_methodNamed B.named, fun w h => hts w (List.mem_cons_of_mem _ h), hK, B.returns, B.notSynchronized⟩
  have hl := lv_entry [.ref h0] (n := maxL) hlen
  rw [lg_entry_eq]
  exact k sz p e s m below meth c E ((name_of_methodNamed B.named B.method).1.trans hyi) (fun q h => Or.inr (by rw [← hsz]; exact h)) _ s.heap [] hl hP ⟨hD.1, fun k q hk => Or.inl ⟨k, q.2, hk⟩⟩ va_S.rf
end
def initX : Nat → Nat → Int32 := fun x => if x = 3 then (fun k => if k = 0 then 2 else if k = 1 then 1 else if k = 2 then 1 else if k = 3 then 8 else 0) else if x = 19 then (fun k => if k = 8 then 2 else if k = 10 then 1 else if k = 12 then -1 else 0) else fun _ => 0
def initM : Nat → Nat → Int32 := fun x => if x = 3 then upd (upd (upd (upd (fun _ => 0) 0 2) 1 1) 2 1) 3 8 else fun _ => 0
def qq (h0 : Nat) (q : Nat → Nat) : Nat → Nat := fun k => if k = 0 then h0 else q k
abbrev rmN_X3 : Room := { frames := 1, cells := 1, slots := 48, locals := 12 }
theorem kn_X3 : CI yX3_init RX3 cX3_init 1 := ⟨m_code_X3_init, m_inst_X3_init, m_ini_X3, rfl, rfl, by decide, by decide, by decide +kernel⟩
set_option maxRecDepth 100000 in
set_option maxHeartbeats 4000000 in
theorem n_X3 {l : Launch} {dC : Nat → ClassId} {dI : Nat → Nat → Nat} {cI cZ : ClassId} (h0 : Nat) : CN l dC dI cI cZ yX3_init cX3_init 1 rmN_X3 h0 [(h0, .inr (3, [.null, .int 0]))] (fun q => [(h0, .inr (3, [.ref (q 1), .int 0])), ((q 1), .inl (cI, 48, .inl (fun _ => 0)))]) 1 48 := by
  refine b_metN (by decide) (Nat.le_of_ble_eq_true rfl) rfl ?_
  intro sz p e s m below meth c E hin hA
  have E : EV p s m _ meth c dC dI cI cZ cX3_init 1 RX3 none := E
  show GGc p l e rmN_X3 s m _ below meth c _ _ dC dI 0 0 1 [(h0, .inr (3, [.null, .int 0]))] 0 [(0, .ref h0)] []
  refine s_aload_n E 0 rfl dX3_init_0 rfl ?_
  refine s_objInit E m_l_X3_3 dX3_init_1 (by decide) (Nat.le_of_ble_eq_true rfl) ?_
  refine s_aload_n E 0 rfl dX3_init_4 rfl ?_
  refine s_bipush E (v := 48) dX3_init_5 kb_48 ?_
  refine s_newi E hA (N := 48) (by decide) (by decide) (by decide) (Nat.le_of_ble_eq_true rfl) (Nat.le_of_ble_eq_true rfl) dX3_init_7 (fun a1 => ?_)
  refine s_putF E (w' := [(h0, .inr (3, [.ref a1, .int 0])), (a1, .inl (cI, 48, .inl (fun _ => 0)))]) (v := .ref a1) hin 0 0 tyX3 tyX3_ok nmX3 in_X3 rfl rfl (by decide) m_f_X3_9 rfl rfl (tyX3_ok 0 (by decide)) rfl rfl (Nat.le_of_ble_eq_true rfl) rfl dX3_init_9 ?_
  refine s_aload_n E 0 rfl dX3_init_12 rfl ?_
  refine s_iconst E (v := 0) dX3_init_13 ki_0 ?_
  refine s_put E (w' := [(h0, .inr (3, [.ref a1, .int 0])), (a1, .inl (cI, 48, .inl (fun _ => 0)))]) (v := .int 0) 0 1 tyX3 tyX3_ok nmX3 in_X3 rfl rfl (by decide) m_f_X3_15 rfl (tyX3_ok 1 (by decide)) rfl rfl (Nat.le_of_ble_eq_true rfl) rfl dX3_init_14 ?_
  exact s_nret E (fun k => [h0, a1].getD k 0) rfl dX3_init_17
abbrev rmN_X0 : Room := { frames := 1, cells := 3, slots := 24, locals := 12 }
theorem kn_X0 : CI yX0_init RX0 cX0_init 1 := ⟨m_code_X0_init, m_inst_X0_init, m_ini_X0, rfl, rfl, by decide, by decide, by decide +kernel⟩
set_option maxRecDepth 100000 in
set_option maxHeartbeats 4000000 in
theorem n_X0 {l : Launch} {dC : Nat → ClassId} {dI : Nat → Nat → Nat} {cI cZ : ClassId} (h0 : Nat) : CN l dC dI cI cZ yX0_init cX0_init 1 rmN_X0 h0 [(h0, .inr (0, [.int 0, .int 0, .int 0, .int 0, .int 0, .int 0, .null, .null, .null]))] (fun q => [(h0, .inr (0, [.int 2, .int 1, .int 1, .int 8, .int 0, .int 0, .ref (q 1), .ref (q 2), .ref (q 3)])), ((q 1), .inl (cI, 8, .inl (fun _ => 0))), ((q 2), .inl (cI, 8, .inl (fun _ => 0))), ((q 3), .inl (cI, 8, .inl (fun _ => 0)))]) 3 24 := by
  refine b_metN (by decide) (Nat.le_of_ble_eq_true rfl) rfl ?_
  intro sz p e s m below meth c E hin hA
  have E : EV p s m _ meth c dC dI cI cZ cX0_init 1 RX0 none := E
  show GGc p l e rmN_X0 s m _ below meth c _ _ dC dI 0 0 1 [(h0, .inr (0, [.int 0, .int 0, .int 0, .int 0, .int 0, .int 0, .null, .null, .null]))] 0 [(0, .ref h0)] []
  refine s_aload_n E 0 rfl dX0_init_0 rfl ?_
  refine s_objInit E m_l_X0_3 dX0_init_1 (by decide) (Nat.le_of_ble_eq_true rfl) ?_
  refine s_aload_n E 0 rfl dX0_init_4 rfl ?_
  refine s_iconst E (v := 2) dX0_init_5 ki_2 ?_
  refine s_put E (w' := [(h0, .inr (0, [.int 2, .int 0, .int 0, .int 0, .int 0, .int 0, .null, .null, .null]))]) (v := .int 2) 0 0 tyX0 tyX0_ok nmX0 in_X0 rfl rfl (by decide) m_f_X0_9 rfl (tyX0_ok 0 (by decide)) rfl rfl (Nat.le_of_ble_eq_true rfl) rfl dX0_init_6 ?_
  refine s_aload_n E 0 rfl dX0_init_9 rfl ?_
  refine s_iconst E (v := 1) dX0_init_10 ki_1 ?_
  refine s_put E (w' := [(h0, .inr (0, [.int 2, .int 1, .int 0, .int 0, .int 0, .int 0, .null, .null, .null]))]) (v := .int 1) 0 1 tyX0 tyX0_ok nmX0 in_X0 rfl rfl (by decide) m_f_X0_15 rfl (tyX0_ok 1 (by decide)) rfl rfl (Nat.le_of_ble_eq_true rfl) rfl dX0_init_11 ?_
  refine s_aload_n E 0 rfl dX0_init_14 rfl ?_
  refine s_iconst E (v := 1) dX0_init_15 ki_1 ?_
  refine s_put E (w' := [(h0, .inr (0, [.int 2, .int 1, .int 1, .int 0, .int 0, .int 0, .null, .null, .null]))]) (v := .int 1) 0 2 tyX0 tyX0_ok nmX0 in_X0 rfl rfl (by decide) m_f_X0_18 rfl (tyX0_ok 2 (by decide)) rfl rfl (Nat.le_of_ble_eq_true rfl) rfl dX0_init_16 ?_
  refine s_aload_n E 0 rfl dX0_init_19 rfl ?_
  refine s_bipush E (v := 8) dX0_init_20 kb_8 ?_
  refine s_put E (w' := [(h0, .inr (0, [.int 2, .int 1, .int 1, .int 8, .int 0, .int 0, .null, .null, .null]))]) (v := .int 8) 0 3 tyX0 tyX0_ok nmX0 in_X0 rfl rfl (by decide) m_f_X0_21 rfl (tyX0_ok 3 (by decide)) rfl rfl (Nat.le_of_ble_eq_true rfl) rfl dX0_init_22 ?_
  refine s_aload_n E 0 rfl dX0_init_25 rfl ?_
  refine s_iconst E (v := 0) dX0_init_26 ki_0 ?_
  refine s_put E (w' := [(h0, .inr (0, [.int 2, .int 1, .int 1, .int 8, .int 0, .int 0, .null, .null, .null]))]) (v := .int 0) 0 4 tyX0 tyX0_ok nmX0 in_X0 rfl rfl (by decide) m_f_X0_24 rfl (tyX0_ok 4 (by decide)) rfl rfl (Nat.le_of_ble_eq_true rfl) rfl dX0_init_27 ?_
  refine s_aload_n E 0 rfl dX0_init_30 rfl ?_
  refine s_iconst E (v := 0) dX0_init_31 ki_0 ?_
  refine s_put E (w' := [(h0, .inr (0, [.int 2, .int 1, .int 1, .int 8, .int 0, .int 0, .null, .null, .null]))]) (v := .int 0) 0 5 tyX0 tyX0_ok nmX0 in_X0 rfl rfl (by decide) m_f_X0_27 rfl (tyX0_ok 5 (by decide)) rfl rfl (Nat.le_of_ble_eq_true rfl) rfl dX0_init_32 ?_
  refine s_aload_n E 0 rfl dX0_init_35 rfl ?_
  refine s_bipush E (v := 8) dX0_init_36 kb_8 ?_
  refine s_newi E hA (N := 8) (by decide) (by decide) (by decide) (Nat.le_of_ble_eq_true rfl) (Nat.le_of_ble_eq_true rfl) dX0_init_38 (fun a1 => ?_)
  refine s_putF E (w' := [(h0, .inr (0, [.int 2, .int 1, .int 1, .int 8, .int 0, .int 0, .ref a1, .null, .null])), (a1, .inl (cI, 8, .inl (fun _ => 0)))]) (v := .ref a1) hin 0 6 tyX0 tyX0_ok nmX0 in_X0 rfl rfl (by decide) m_f_X0_30 rfl rfl (tyX0_ok 6 (by decide)) rfl rfl (Nat.le_of_ble_eq_true rfl) rfl dX0_init_40 ?_
  refine s_aload_n E 0 rfl dX0_init_43 rfl ?_
  refine s_bipush E (v := 8) dX0_init_44 kb_8 ?_
  refine s_newi E hA (N := 8) (by decide) (by decide) (by decide) (Nat.le_of_ble_eq_true rfl) (Nat.le_of_ble_eq_true rfl) dX0_init_46 (fun a2 => ?_)
  refine s_putF E (w' := [(h0, .inr (0, [.int 2, .int 1, .int 1, .int 8, .int 0, .int 0, .ref a1, .ref a2, .null])), (a1, .inl (cI, 8, .inl (fun _ => 0))), (a2, .inl (cI, 8, .inl (fun _ => 0)))]) (v := .ref a2) hin 0 7 tyX0 tyX0_ok nmX0 in_X0 rfl rfl (by decide) m_f_X0_34 rfl rfl (tyX0_ok 7 (by decide)) rfl rfl (Nat.le_of_ble_eq_true rfl) rfl dX0_init_48 ?_
  refine s_aload_n E 0 rfl dX0_init_51 rfl ?_
  refine s_bipush E (v := 8) dX0_init_52 kb_8 ?_
  refine s_newi E hA (N := 8) (by decide) (by decide) (by decide) (Nat.le_of_ble_eq_true rfl) (Nat.le_of_ble_eq_true rfl) dX0_init_54 (fun a3 => ?_)
  refine s_putF E (w' := [(h0, .inr (0, [.int 2, .int 1, .int 1, .int 8, .int 0, .int 0, .ref a1, .ref a2, .ref a3])), (a1, .inl (cI, 8, .inl (fun _ => 0))), (a2, .inl (cI, 8, .inl (fun _ => 0))), (a3, .inl (cI, 8, .inl (fun _ => 0)))]) (v := .ref a3) hin 0 8 tyX0 tyX0_ok nmX0 in_X0 rfl rfl (by decide) m_f_X0_37 rfl rfl (tyX0_ok 8 (by decide)) rfl rfl (Nat.le_of_ble_eq_true rfl) rfl dX0_init_56 ?_
  exact s_nret E (fun k => [h0, a1, a2, a3].getD k 0) rfl dX0_init_59
abbrev rmN_X1 : Room := { frames := 1, cells := 3, slots := 25, locals := 12 }
theorem kn_X1 : CI yX1_init RX1 cX1_init 1 := ⟨m_code_X1_init, m_inst_X1_init, m_ini_X1, rfl, rfl, by decide, by decide, by decide +kernel⟩
set_option maxRecDepth 100000 in
set_option maxHeartbeats 4000000 in
theorem n_X1 {l : Launch} {dC : Nat → ClassId} {dI : Nat → Nat → Nat} {cI cZ : ClassId} (h0 : Nat) : CN l dC dI cI cZ yX1_init cX1_init 1 rmN_X1 h0 [(h0, .inr (1, [.null, .null, .null, .int 0, .int 0, .int 0]))] (fun q => [(h0, .inr (1, [.ref (q 1), .ref (q 2), .ref (q 3), .int 0, .int 0, .int 0])), ((q 1), .inl (cI, 9, .inl (fun _ => 0))), ((q 2), .inl (cI, 8, .inl (fun _ => 0))), ((q 3), .inl (cI, 8, .inl (fun _ => 0)))]) 3 25 := by
  refine b_metN (by decide) (Nat.le_of_ble_eq_true rfl) rfl ?_
  intro sz p e s m below meth c E hin hA
  have E : EV p s m _ meth c dC dI cI cZ cX1_init 1 RX1 none := E
  show GGc p l e rmN_X1 s m _ below meth c _ _ dC dI 0 0 1 [(h0, .inr (1, [.null, .null, .null, .int 0, .int 0, .int 0]))] 0 [(0, .ref h0)] []
  refine s_aload_n E 0 rfl dX1_init_0 rfl ?_
  refine s_objInit E m_l_X1_3 dX1_init_1 (by decide) (Nat.le_of_ble_eq_true rfl) ?_
  refine s_aload_n E 0 rfl dX1_init_4 rfl ?_
  refine s_bipush E (v := 9) dX1_init_5 kb_9 ?_
  refine s_newi E hA (N := 9) (by decide) (by decide) (by decide) (Nat.le_of_ble_eq_true rfl) (Nat.le_of_ble_eq_true rfl) dX1_init_7 (fun a1 => ?_)
  refine s_putF E (w' := [(h0, .inr (1, [.ref a1, .null, .null, .int 0, .int 0, .int 0])), (a1, .inl (cI, 9, .inl (fun _ => 0)))]) (v := .ref a1) hin 0 0 tyX1 tyX1_ok nmX1 in_X1 rfl rfl (by decide) m_f_X1_9 rfl rfl (tyX1_ok 0 (by decide)) rfl rfl (Nat.le_of_ble_eq_true rfl) rfl dX1_init_9 ?_
  refine s_aload_n E 0 rfl dX1_init_12 rfl ?_
  refine s_bipush E (v := 8) dX1_init_13 kb_8 ?_
  refine s_newi E hA (N := 8) (by decide) (by decide) (by decide) (Nat.le_of_ble_eq_true rfl) (Nat.le_of_ble_eq_true rfl) dX1_init_15 (fun a2 => ?_)
  refine s_putF E (w' := [(h0, .inr (1, [.ref a1, .ref a2, .null, .int 0, .int 0, .int 0])), (a1, .inl (cI, 9, .inl (fun _ => 0))), (a2, .inl (cI, 8, .inl (fun _ => 0)))]) (v := .ref a2) hin 0 1 tyX1 tyX1_ok nmX1 in_X1 rfl rfl (by decide) m_f_X1_15 rfl rfl (tyX1_ok 1 (by decide)) rfl rfl (Nat.le_of_ble_eq_true rfl) rfl dX1_init_17 ?_
  refine s_aload_n E 0 rfl dX1_init_20 rfl ?_
  refine s_bipush E (v := 8) dX1_init_21 kb_8 ?_
  refine s_newi E hA (N := 8) (by decide) (by decide) (by decide) (Nat.le_of_ble_eq_true rfl) (Nat.le_of_ble_eq_true rfl) dX1_init_23 (fun a3 => ?_)
  refine s_putF E (w' := [(h0, .inr (1, [.ref a1, .ref a2, .ref a3, .int 0, .int 0, .int 0])), (a1, .inl (cI, 9, .inl (fun _ => 0))), (a2, .inl (cI, 8, .inl (fun _ => 0))), (a3, .inl (cI, 8, .inl (fun _ => 0)))]) (v := .ref a3) hin 0 2 tyX1 tyX1_ok nmX1 in_X1 rfl rfl (by decide) m_f_X1_18 rfl rfl (tyX1_ok 2 (by decide)) rfl rfl (Nat.le_of_ble_eq_true rfl) rfl dX1_init_25 ?_
  refine s_aload_n E 0 rfl dX1_init_28 rfl ?_
  refine s_iconst E (v := 0) dX1_init_29 ki_0 ?_
  refine s_put E (w' := [(h0, .inr (1, [.ref a1, .ref a2, .ref a3, .int 0, .int 0, .int 0])), (a1, .inl (cI, 9, .inl (fun _ => 0))), (a2, .inl (cI, 8, .inl (fun _ => 0))), (a3, .inl (cI, 8, .inl (fun _ => 0)))]) (v := .int 0) 0 3 tyX1 tyX1_ok nmX1 in_X1 rfl rfl (by decide) m_f_X1_21 rfl (tyX1_ok 3 (by decide)) rfl rfl (Nat.le_of_ble_eq_true rfl) rfl dX1_init_30 ?_
  refine s_aload_n E 0 rfl dX1_init_33 rfl ?_
  refine s_iconst E (v := 0) dX1_init_34 ki_0 ?_
  refine s_put E (w' := [(h0, .inr (1, [.ref a1, .ref a2, .ref a3, .int 0, .int 0, .int 0])), (a1, .inl (cI, 9, .inl (fun _ => 0))), (a2, .inl (cI, 8, .inl (fun _ => 0))), (a3, .inl (cI, 8, .inl (fun _ => 0)))]) (v := .int 0) 0 4 tyX1 tyX1_ok nmX1 in_X1 rfl rfl (by decide) m_f_X1_25 rfl (tyX1_ok 4 (by decide)) rfl rfl (Nat.le_of_ble_eq_true rfl) rfl dX1_init_35 ?_
  refine s_aload_n E 0 rfl dX1_init_38 rfl ?_
  refine s_iconst E (v := 0) dX1_init_39 ki_0 ?_
  refine s_put E (w' := [(h0, .inr (1, [.ref a1, .ref a2, .ref a3, .int 0, .int 0, .int 0])), (a1, .inl (cI, 9, .inl (fun _ => 0))), (a2, .inl (cI, 8, .inl (fun _ => 0))), (a3, .inl (cI, 8, .inl (fun _ => 0)))]) (v := .int 0) 0 5 tyX1 tyX1_ok nmX1 in_X1 rfl rfl (by decide) m_f_X1_28 rfl (tyX1_ok 5 (by decide)) rfl rfl (Nat.le_of_ble_eq_true rfl) rfl dX1_init_40 ?_
  exact s_nret E (fun k => [h0, a1, a2, a3].getD k 0) rfl dX1_init_43
abbrev rmN_X2 : Room := { frames := 1, cells := 8, slots := 1133, locals := 12 }
theorem kn_X2 : CI yX2_init RX2 cX2_init 1 := ⟨m_code_X2_init, m_inst_X2_init, m_ini_X2, rfl, rfl, by decide, by decide, by decide +kernel⟩
set_option maxRecDepth 100000 in
set_option maxHeartbeats 4000000 in
theorem n_X2 {l : Launch} {dC : Nat → ClassId} {dI : Nat → Nat → Nat} {cI cZ : ClassId} (h0 : Nat) : CN l dC dI cI cZ yX2_init cX2_init 1 rmN_X2 h0 [(h0, .inr (2, [.null, .null, .null, .null, .null, .null, .null, .null, .int 0, .int 0, .int 0, .int 0, .int 0, .int 0, .int 0, .int 0, .int 0]))] (fun q => [(h0, .inr (2, [.ref (q 1), .ref (q 2), .ref (q 3), .ref (q 4), .ref (q 5), .ref (q 6), .ref (q 7), .ref (q 8), .int 2, .int 0, .int 1, .int 0, .int (-1), .int 0, .int 0, .int 0, .int 0])), ((q 1), .inl (cI, 256, .inl (fun _ => 0))), ((q 2), .inl (cI, 256, .inl (fun _ => 0))), ((q 3), .inl (cI, 256, .inl (fun _ => 0))), ((q 4), .inl (cI, 256, .inl (fun _ => 0))), ((q 5), .inl (cI, 100, .inl (fun _ => 0))), ((q 6), .inl (cI, 3, .inl (fun _ => 0))), ((q 7), .inl (cI, 3, .inl (fun _ => 0))), ((q 8), .inl (cI, 3, .inl (fun _ => 0)))]) 8 1133 := by
  refine b_metN (by decide) (Nat.le_of_ble_eq_true rfl) rfl ?_
  intro sz p e s m below meth c E hin hA
  have E : EV p s m _ meth c dC dI cI cZ cX2_init 1 RX2 none := E
  show GGc p l e rmN_X2 s m _ below meth c _ _ dC dI 0 0 1 [(h0, .inr (2, [.null, .null, .null, .null, .null, .null, .null, .null, .int 0, .int 0, .int 0, .int 0, .int 0, .int 0, .int 0, .int 0, .int 0]))] 0 [(0, .ref h0)] []
  refine s_aload_n E 0 rfl dX2_init_0 rfl ?_
  refine s_objInit E m_l_X2_3 dX2_init_1 (by decide) (Nat.le_of_ble_eq_true rfl) ?_
  refine s_aload_n E 0 rfl dX2_init_4 rfl ?_
  refine s_sipush E (v := 256) dX2_init_5 ks_256 ?_
  refine s_newi E hA (N := 256) (by decide) (by decide) (by decide) (Nat.le_of_ble_eq_true rfl) (Nat.le_of_ble_eq_true rfl) dX2_init_8 (fun a1 => ?_)
  refine s_putF E (w' := [(h0, .inr (2, [.ref a1, .null, .null, .null, .null, .null, .null, .null, .int 0, .int 0, .int 0, .int 0, .int 0, .int 0, .int 0, .int 0, .int 0])), (a1, .inl (cI, 256, .inl (fun _ => 0)))]) (v := .ref a1) hin 0 0 tyX2 tyX2_ok nmX2 in_X2 rfl rfl (by decide) m_f_X2_11 rfl rfl (tyX2_ok 0 (by decide)) rfl rfl (Nat.le_of_ble_eq_true rfl) rfl dX2_init_10 ?_
  refine s_aload_n E 0 rfl dX2_init_13 rfl ?_
  refine s_sipush E (v := 256) dX2_init_14 ks_256 ?_
  refine s_newi E hA (N := 256) (by decide) (by decide) (by decide) (Nat.le_of_ble_eq_true rfl) (Nat.le_of_ble_eq_true rfl) dX2_init_17 (fun a2 => ?_)
  refine s_putF E (w' := [(h0, .inr (2, [.ref a1, .ref a2, .null, .null, .null, .null, .null, .null, .int 0, .int 0, .int 0, .int 0, .int 0, .int 0, .int 0, .int 0, .int 0])), (a1, .inl (cI, 256, .inl (fun _ => 0))), (a2, .inl (cI, 256, .inl (fun _ => 0)))]) (v := .ref a2) hin 0 1 tyX2 tyX2_ok nmX2 in_X2 rfl rfl (by decide) m_f_X2_15 rfl rfl (tyX2_ok 1 (by decide)) rfl rfl (Nat.le_of_ble_eq_true rfl) rfl dX2_init_19 ?_
  refine s_aload_n E 0 rfl dX2_init_22 rfl ?_
  refine s_sipush E (v := 256) dX2_init_23 ks_256 ?_
  refine s_newi E hA (N := 256) (by decide) (by decide) (by decide) (Nat.le_of_ble_eq_true rfl) (Nat.le_of_ble_eq_true rfl) dX2_init_26 (fun a3 => ?_)
  refine s_putF E (w' := [(h0, .inr (2, [.ref a1, .ref a2, .ref a3, .null, .null, .null, .null, .null, .int 0, .int 0, .int 0, .int 0, .int 0, .int 0, .int 0, .int 0, .int 0])), (a1, .inl (cI, 256, .inl (fun _ => 0))), (a2, .inl (cI, 256, .inl (fun _ => 0))), (a3, .inl (cI, 256, .inl (fun _ => 0)))]) (v := .ref a3) hin 0 2 tyX2 tyX2_ok nmX2 in_X2 rfl rfl (by decide) m_f_X2_18 rfl rfl (tyX2_ok 2 (by decide)) rfl rfl (Nat.le_of_ble_eq_true rfl) rfl dX2_init_28 ?_
  refine s_aload_n E 0 rfl dX2_init_31 rfl ?_
  refine s_sipush E (v := 256) dX2_init_32 ks_256 ?_
  refine s_newi E hA (N := 256) (by decide) (by decide) (by decide) (Nat.le_of_ble_eq_true rfl) (Nat.le_of_ble_eq_true rfl) dX2_init_35 (fun a4 => ?_)
  refine s_putF E (w' := [(h0, .inr (2, [.ref a1, .ref a2, .ref a3, .ref a4, .null, .null, .null, .null, .int 0, .int 0, .int 0, .int 0, .int 0, .int 0, .int 0, .int 0, .int 0])), (a1, .inl (cI, 256, .inl (fun _ => 0))), (a2, .inl (cI, 256, .inl (fun _ => 0))), (a3, .inl (cI, 256, .inl (fun _ => 0))), (a4, .inl (cI, 256, .inl (fun _ => 0)))]) (v := .ref a4) hin 0 3 tyX2 tyX2_ok nmX2 in_X2 rfl rfl (by decide) m_f_X2_21 rfl rfl (tyX2_ok 3 (by decide)) rfl rfl (Nat.le_of_ble_eq_true rfl) rfl dX2_init_37 ?_
  refine s_aload_n E 0 rfl dX2_init_40 rfl ?_
  refine s_bipush E (v := 100) dX2_init_41 kb_100 ?_
  refine s_newi E hA (N := 100) (by decide) (by decide) (by decide) (Nat.le_of_ble_eq_true rfl) (Nat.le_of_ble_eq_true rfl) dX2_init_43 (fun a5 => ?_)
  refine s_putF E (w' := [(h0, .inr (2, [.ref a1, .ref a2, .ref a3, .ref a4, .ref a5, .null, .null, .null, .int 0, .int 0, .int 0, .int 0, .int 0, .int 0, .int 0, .int 0, .int 0])), (a1, .inl (cI, 256, .inl (fun _ => 0))), (a2, .inl (cI, 256, .inl (fun _ => 0))), (a3, .inl (cI, 256, .inl (fun _ => 0))), (a4, .inl (cI, 256, .inl (fun _ => 0))), (a5, .inl (cI, 100, .inl (fun _ => 0)))]) (v := .ref a5) hin 0 4 tyX2 tyX2_ok nmX2 in_X2 rfl rfl (by decide) m_f_X2_24 rfl rfl (tyX2_ok 4 (by decide)) rfl rfl (Nat.le_of_ble_eq_true rfl) rfl dX2_init_45 ?_
  refine s_aload_n E 0 rfl dX2_init_48 rfl ?_
  refine s_iconst E (v := 3) dX2_init_49 ki_3 ?_
  refine s_newi E hA (N := 3) (by decide) (by decide) (by decide) (Nat.le_of_ble_eq_true rfl) (Nat.le_of_ble_eq_true rfl) dX2_init_50 (fun a6 => ?_)
  refine s_putF E (w' := [(h0, .inr (2, [.ref a1, .ref a2, .ref a3, .ref a4, .ref a5, .ref a6, .null, .null, .int 0, .int 0, .int 0, .int 0, .int 0, .int 0, .int 0, .int 0, .int 0])), (a1, .inl (cI, 256, .inl (fun _ => 0))), (a2, .inl (cI, 256, .inl (fun _ => 0))), (a3, .inl (cI, 256, .inl (fun _ => 0))), (a4, .inl (cI, 256, .inl (fun _ => 0))), (a5, .inl (cI, 100, .inl (fun _ => 0))), (a6, .inl (cI, 3, .inl (fun _ => 0)))]) (v := .ref a6) hin 0 5 tyX2 tyX2_ok nmX2 in_X2 rfl rfl (by decide) m_f_X2_27 rfl rfl (tyX2_ok 5 (by decide)) rfl rfl (Nat.le_of_ble_eq_true rfl) rfl dX2_init_52 ?_
  refine s_aload_n E 0 rfl dX2_init_55 rfl ?_
  refine s_iconst E (v := 3) dX2_init_56 ki_3 ?_
  refine s_newi E hA (N := 3) (by decide) (by decide) (by decide) (Nat.le_of_ble_eq_true rfl) (Nat.le_of_ble_eq_true rfl) dX2_init_57 (fun a7 => ?_)
  refine s_putF E (w' := [(h0, .inr (2, [.ref a1, .ref a2, .ref a3, .ref a4, .ref a5, .ref a6, .ref a7, .null, .int 0, .int 0, .int 0, .int 0, .int 0, .int 0, .int 0, .int 0, .int 0])), (a1, .inl (cI, 256, .inl (fun _ => 0))), (a2, .inl (cI, 256, .inl (fun _ => 0))), (a3, .inl (cI, 256, .inl (fun _ => 0))), (a4, .inl (cI, 256, .inl (fun _ => 0))), (a5, .inl (cI, 100, .inl (fun _ => 0))), (a6, .inl (cI, 3, .inl (fun _ => 0))), (a7, .inl (cI, 3, .inl (fun _ => 0)))]) (v := .ref a7) hin 0 6 tyX2 tyX2_ok nmX2 in_X2 rfl rfl (by decide) m_f_X2_30 rfl rfl (tyX2_ok 6 (by decide)) rfl rfl (Nat.le_of_ble_eq_true rfl) rfl dX2_init_59 ?_
  refine s_aload_n E 0 rfl dX2_init_62 rfl ?_
  refine s_iconst E (v := 3) dX2_init_63 ki_3 ?_
  refine s_newi E hA (N := 3) (by decide) (by decide) (by decide) (Nat.le_of_ble_eq_true rfl) (Nat.le_of_ble_eq_true rfl) dX2_init_64 (fun a8 => ?_)
  refine s_putF E (w' := [(h0, .inr (2, [.ref a1, .ref a2, .ref a3, .ref a4, .ref a5, .ref a6, .ref a7, .ref a8, .int 0, .int 0, .int 0, .int 0, .int 0, .int 0, .int 0, .int 0, .int 0])), (a1, .inl (cI, 256, .inl (fun _ => 0))), (a2, .inl (cI, 256, .inl (fun _ => 0))), (a3, .inl (cI, 256, .inl (fun _ => 0))), (a4, .inl (cI, 256, .inl (fun _ => 0))), (a5, .inl (cI, 100, .inl (fun _ => 0))), (a6, .inl (cI, 3, .inl (fun _ => 0))), (a7, .inl (cI, 3, .inl (fun _ => 0))), (a8, .inl (cI, 3, .inl (fun _ => 0)))]) (v := .ref a8) hin 0 7 tyX2 tyX2_ok nmX2 in_X2 rfl rfl (by decide) m_f_X2_33 rfl rfl (tyX2_ok 7 (by decide)) rfl rfl (Nat.le_of_ble_eq_true rfl) rfl dX2_init_66 ?_
  refine s_aload_n E 0 rfl dX2_init_69 rfl ?_
  refine s_iconst E (v := 2) dX2_init_70 ki_2 ?_
  refine s_put E (w' := [(h0, .inr (2, [.ref a1, .ref a2, .ref a3, .ref a4, .ref a5, .ref a6, .ref a7, .ref a8, .int 2, .int 0, .int 0, .int 0, .int 0, .int 0, .int 0, .int 0, .int 0])), (a1, .inl (cI, 256, .inl (fun _ => 0))), (a2, .inl (cI, 256, .inl (fun _ => 0))), (a3, .inl (cI, 256, .inl (fun _ => 0))), (a4, .inl (cI, 256, .inl (fun _ => 0))), (a5, .inl (cI, 100, .inl (fun _ => 0))), (a6, .inl (cI, 3, .inl (fun _ => 0))), (a7, .inl (cI, 3, .inl (fun _ => 0))), (a8, .inl (cI, 3, .inl (fun _ => 0)))]) (v := .int 2) 0 8 tyX2 tyX2_ok nmX2 in_X2 rfl rfl (by decide) m_f_X2_36 rfl (tyX2_ok 8 (by decide)) rfl rfl (Nat.le_of_ble_eq_true rfl) rfl dX2_init_71 ?_
  refine s_aload_n E 0 rfl dX2_init_74 rfl ?_
  refine s_iconst E (v := 0) dX2_init_75 ki_0 ?_
  refine s_put E (w' := [(h0, .inr (2, [.ref a1, .ref a2, .ref a3, .ref a4, .ref a5, .ref a6, .ref a7, .ref a8, .int 2, .int 0, .int 0, .int 0, .int 0, .int 0, .int 0, .int 0, .int 0])), (a1, .inl (cI, 256, .inl (fun _ => 0))), (a2, .inl (cI, 256, .inl (fun _ => 0))), (a3, .inl (cI, 256, .inl (fun _ => 0))), (a4, .inl (cI, 256, .inl (fun _ => 0))), (a5, .inl (cI, 100, .inl (fun _ => 0))), (a6, .inl (cI, 3, .inl (fun _ => 0))), (a7, .inl (cI, 3, .inl (fun _ => 0))), (a8, .inl (cI, 3, .inl (fun _ => 0)))]) (v := .int 0) 0 9 tyX2 tyX2_ok nmX2 in_X2 rfl rfl (by decide) m_f_X2_40 rfl (tyX2_ok 9 (by decide)) rfl rfl (Nat.le_of_ble_eq_true rfl) rfl dX2_init_76 ?_
  refine s_aload_n E 0 rfl dX2_init_79 rfl ?_
  refine s_iconst E (v := 1) dX2_init_80 ki_1 ?_
  refine s_put E (w' := [(h0, .inr (2, [.ref a1, .ref a2, .ref a3, .ref a4, .ref a5, .ref a6, .ref a7, .ref a8, .int 2, .int 0, .int 1, .int 0, .int 0, .int 0, .int 0, .int 0, .int 0])), (a1, .inl (cI, 256, .inl (fun _ => 0))), (a2, .inl (cI, 256, .inl (fun _ => 0))), (a3, .inl (cI, 256, .inl (fun _ => 0))), (a4, .inl (cI, 256, .inl (fun _ => 0))), (a5, .inl (cI, 100, .inl (fun _ => 0))), (a6, .inl (cI, 3, .inl (fun _ => 0))), (a7, .inl (cI, 3, .inl (fun _ => 0))), (a8, .inl (cI, 3, .inl (fun _ => 0)))]) (v := .int 1) 0 10 tyX2 tyX2_ok nmX2 in_X2 rfl rfl (by decide) m_f_X2_43 rfl (tyX2_ok 10 (by decide)) rfl rfl (Nat.le_of_ble_eq_true rfl) rfl dX2_init_81 ?_
  refine s_aload_n E 0 rfl dX2_init_84 rfl ?_
  refine s_iconst E (v := 0) dX2_init_85 ki_0 ?_
  refine s_put E (w' := [(h0, .inr (2, [.ref a1, .ref a2, .ref a3, .ref a4, .ref a5, .ref a6, .ref a7, .ref a8, .int 2, .int 0, .int 1, .int 0, .int 0, .int 0, .int 0, .int 0, .int 0])), (a1, .inl (cI, 256, .inl (fun _ => 0))), (a2, .inl (cI, 256, .inl (fun _ => 0))), (a3, .inl (cI, 256, .inl (fun _ => 0))), (a4, .inl (cI, 256, .inl (fun _ => 0))), (a5, .inl (cI, 100, .inl (fun _ => 0))), (a6, .inl (cI, 3, .inl (fun _ => 0))), (a7, .inl (cI, 3, .inl (fun _ => 0))), (a8, .inl (cI, 3, .inl (fun _ => 0)))]) (v := .int 0) 0 11 tyX2 tyX2_ok nmX2 in_X2 rfl rfl (by decide) m_f_X2_46 rfl (tyX2_ok 11 (by decide)) rfl rfl (Nat.le_of_ble_eq_true rfl) rfl dX2_init_86 ?_
  refine s_aload_n E 0 rfl dX2_init_89 rfl ?_
  refine s_iconst E (v := (-1)) dX2_init_90 ki_m1 ?_
  refine s_put E (w' := [(h0, .inr (2, [.ref a1, .ref a2, .ref a3, .ref a4, .ref a5, .ref a6, .ref a7, .ref a8, .int 2, .int 0, .int 1, .int 0, .int (-1), .int 0, .int 0, .int 0, .int 0])), (a1, .inl (cI, 256, .inl (fun _ => 0))), (a2, .inl (cI, 256, .inl (fun _ => 0))), (a3, .inl (cI, 256, .inl (fun _ => 0))), (a4, .inl (cI, 256, .inl (fun _ => 0))), (a5, .inl (cI, 100, .inl (fun _ => 0))), (a6, .inl (cI, 3, .inl (fun _ => 0))), (a7, .inl (cI, 3, .inl (fun _ => 0))), (a8, .inl (cI, 3, .inl (fun _ => 0)))]) (v := .int (-1)) 0 12 tyX2 tyX2_ok nmX2 in_X2 rfl rfl (by decide) m_f_X2_49 rfl (tyX2_ok 12 (by decide)) rfl rfl (Nat.le_of_ble_eq_true rfl) rfl dX2_init_91 ?_
  refine s_aload_n E 0 rfl dX2_init_94 rfl ?_
  refine s_iconst E (v := 0) dX2_init_95 ki_0 ?_
  refine s_put E (w' := [(h0, .inr (2, [.ref a1, .ref a2, .ref a3, .ref a4, .ref a5, .ref a6, .ref a7, .ref a8, .int 2, .int 0, .int 1, .int 0, .int (-1), .int 0, .int 0, .int 0, .int 0])), (a1, .inl (cI, 256, .inl (fun _ => 0))), (a2, .inl (cI, 256, .inl (fun _ => 0))), (a3, .inl (cI, 256, .inl (fun _ => 0))), (a4, .inl (cI, 256, .inl (fun _ => 0))), (a5, .inl (cI, 100, .inl (fun _ => 0))), (a6, .inl (cI, 3, .inl (fun _ => 0))), (a7, .inl (cI, 3, .inl (fun _ => 0))), (a8, .inl (cI, 3, .inl (fun _ => 0)))]) (v := .int 0) 0 13 tyX2 tyX2_ok nmX2 in_X2 rfl rfl (by decide) m_f_X2_52 rfl (tyX2_ok 13 (by decide)) rfl rfl (Nat.le_of_ble_eq_true rfl) rfl dX2_init_96 ?_
  refine s_aload_n E 0 rfl dX2_init_99 rfl ?_
  refine s_iconst E (v := 0) dX2_init_100 ki_0 ?_
  refine s_put E (w' := [(h0, .inr (2, [.ref a1, .ref a2, .ref a3, .ref a4, .ref a5, .ref a6, .ref a7, .ref a8, .int 2, .int 0, .int 1, .int 0, .int (-1), .int 0, .int 0, .int 0, .int 0])), (a1, .inl (cI, 256, .inl (fun _ => 0))), (a2, .inl (cI, 256, .inl (fun _ => 0))), (a3, .inl (cI, 256, .inl (fun _ => 0))), (a4, .inl (cI, 256, .inl (fun _ => 0))), (a5, .inl (cI, 100, .inl (fun _ => 0))), (a6, .inl (cI, 3, .inl (fun _ => 0))), (a7, .inl (cI, 3, .inl (fun _ => 0))), (a8, .inl (cI, 3, .inl (fun _ => 0)))]) (v := .int 0) 0 14 tyX2 tyX2_ok nmX2 in_X2 rfl rfl (by decide) m_f_X2_55 rfl (tyX2_ok 14 (by decide)) rfl rfl (Nat.le_of_ble_eq_true rfl) rfl dX2_init_101 ?_
  refine s_aload_n E 0 rfl dX2_init_104 rfl ?_
  refine s_iconst E (v := 0) dX2_init_105 ki_0 ?_
  refine s_put E (w' := [(h0, .inr (2, [.ref a1, .ref a2, .ref a3, .ref a4, .ref a5, .ref a6, .ref a7, .ref a8, .int 2, .int 0, .int 1, .int 0, .int (-1), .int 0, .int 0, .int 0, .int 0])), (a1, .inl (cI, 256, .inl (fun _ => 0))), (a2, .inl (cI, 256, .inl (fun _ => 0))), (a3, .inl (cI, 256, .inl (fun _ => 0))), (a4, .inl (cI, 256, .inl (fun _ => 0))), (a5, .inl (cI, 100, .inl (fun _ => 0))), (a6, .inl (cI, 3, .inl (fun _ => 0))), (a7, .inl (cI, 3, .inl (fun _ => 0))), (a8, .inl (cI, 3, .inl (fun _ => 0)))]) (v := .int 0) 0 15 tyX2 tyX2_ok nmX2 in_X2 rfl rfl (by decide) m_f_X2_59 rfl (tyX2_ok 15 (by decide)) rfl rfl (Nat.le_of_ble_eq_true rfl) rfl dX2_init_106 ?_
  refine s_aload_n E 0 rfl dX2_init_109 rfl ?_
  refine s_iconst E (v := 0) dX2_init_110 ki_0 ?_
  refine s_put E (w' := [(h0, .inr (2, [.ref a1, .ref a2, .ref a3, .ref a4, .ref a5, .ref a6, .ref a7, .ref a8, .int 2, .int 0, .int 1, .int 0, .int (-1), .int 0, .int 0, .int 0, .int 0])), (a1, .inl (cI, 256, .inl (fun _ => 0))), (a2, .inl (cI, 256, .inl (fun _ => 0))), (a3, .inl (cI, 256, .inl (fun _ => 0))), (a4, .inl (cI, 256, .inl (fun _ => 0))), (a5, .inl (cI, 100, .inl (fun _ => 0))), (a6, .inl (cI, 3, .inl (fun _ => 0))), (a7, .inl (cI, 3, .inl (fun _ => 0))), (a8, .inl (cI, 3, .inl (fun _ => 0)))]) (v := .int 0) 0 16 tyX2 tyX2_ok nmX2 in_X2 rfl rfl (by decide) m_f_X2_62 rfl (tyX2_ok 16 (by decide)) rfl rfl (Nat.le_of_ble_eq_true rfl) rfl dX2_init_111 ?_
  exact s_nret E (fun k => [h0, a1, a2, a3, a4, a5, a6, a7, a8].getD k 0) rfl dX2_init_114
abbrev rmN_X4 : Room := { frames := 2, cells := 27, slots := 1326, locals := 32 }
theorem kn_X4 : CI yX4_init RX4 cX4_init 1 := ⟨m_code_X4_init, m_inst_X4_init, m_ini_X4, rfl, rfl, by decide, by decide, by decide +kernel⟩
set_option maxRecDepth 100000 in
set_option maxHeartbeats 4000000 in
theorem n_X4 {l : Launch} {dC : Nat → ClassId} {dI : Nat → Nat → Nat} {cI cZ : ClassId} (h0 : Nat) : CN l dC dI cI cZ yX4_init cX4_init 1 rmN_X4 h0 [(h0, .inr (4, [.null, .null, .null, .null, .null, .null]))] (fun q => wX cI (qq h0 q) initX) 27 1326 := by
  refine b_metN (by decide) (Nat.le_of_ble_eq_true rfl) rfl ?_
  intro sz p e s m below meth c E hin hA
  have E : EV p s m _ meth c dC dI cI cZ cX4_init 1 RX4 none := E
  show GGc p l e rmN_X4 s m _ below meth c _ _ dC dI 0 0 1 [(h0, .inr (4, [.null, .null, .null, .null, .null, .null]))] 0 [(0, .ref h0)] []
  refine s_aload_n E 0 rfl dX4_init_0 rfl ?_
  refine s_objInit E m_l_X4_1 dX4_init_1 (by decide) (Nat.le_of_ble_eq_true rfl) ?_
  refine s_aload_n E 0 rfl dX4_init_4 rfl ?_
  refine s_new (ci := 3) E hA tyX3 tyX3_ok in_X3 rfl m_k_X4_7 m_new_X3 m_ini_X3 (fs := [.null, .int 0]) (by decide) (Nat.le_of_ble_eq_true rfl) (Nat.le_of_ble_eq_true rfl) dX4_init_5 (fun a1 => ?_)
  refine s_dup E dX4_init_8 rfl ?_
  refine s_ctorN E hA (wr := [(h0, .inr (4, [.null, .null, .null, .null, .null, .null]))]) (wc := [(a1, .inr (3, [.null, .int 0]))]) kn_X3 nst_X4_9 (n_X3 a1) ⟨rfl, rfl, by decide, by decide⟩ ⟨Nat.le_of_ble_eq_true rfl, Nat.le_of_ble_eq_true rfl⟩ rfl (Nat.le_of_ble_eq_true rfl) dX4_init_9 (fun q2 => ?_)
  refine s_putF E (w' := [(h0, .inr (4, [.ref a1, .null, .null, .null, .null, .null])), (a1, .inr (3, [.ref (q2 1), .int 0])), ((q2 1), .inl (cI, 48, .inl (fun _ => 0)))]) (v := .ref a1) hin 0 0 tyX4 tyX4_ok nmX4 in_X4 rfl rfl (by decide) m_f_X4_10 rfl rfl (tyX4_ok 0 (by decide)) rfl rfl (Nat.le_of_ble_eq_true rfl) rfl dX4_init_12 ?_
  refine s_aload_n E 0 rfl dX4_init_15 rfl ?_
  refine s_new (ci := 0) E hA tyX0 tyX0_ok in_X0 rfl m_k_X4_16 m_new_X0 m_ini_X0 (fs := [.int 0, .int 0, .int 0, .int 0, .int 0, .int 0, .null, .null, .null]) (by decide) (Nat.le_of_ble_eq_true rfl) (Nat.le_of_ble_eq_true rfl) dX4_init_16 (fun a3 => ?_)
  refine s_dup E dX4_init_19 rfl ?_
  refine s_ctorN E hA (wr := [(h0, .inr (4, [.ref a1, .null, .null, .null, .null, .null])), (a1, .inr (3, [.ref (q2 1), .int 0])), ((q2 1), .inl (cI, 48, .inl (fun _ => 0)))]) (wc := [(a3, .inr (0, [.int 0, .int 0, .int 0, .int 0, .int 0, .int 0, .null, .null, .null]))]) kn_X0 nst_X4_18 (n_X0 a3) ⟨rfl, rfl, by decide, by decide⟩ ⟨Nat.le_of_ble_eq_true rfl, Nat.le_of_ble_eq_true rfl⟩ rfl (Nat.le_of_ble_eq_true rfl) dX4_init_20 (fun q4 => ?_)
  refine s_putF E (w' := [(h0, .inr (4, [.ref a1, .ref a3, .null, .null, .null, .null])), (a1, .inr (3, [.ref (q2 1), .int 0])), ((q2 1), .inl (cI, 48, .inl (fun _ => 0))), (a3, .inr (0, [.int 2, .int 1, .int 1, .int 8, .int 0, .int 0, .ref (q4 1), .ref (q4 2), .ref (q4 3)])), ((q4 1), .inl (cI, 8, .inl (fun _ => 0))), ((q4 2), .inl (cI, 8, .inl (fun _ => 0))), ((q4 3), .inl (cI, 8, .inl (fun _ => 0)))]) (v := .ref a3) hin 0 1 tyX4 tyX4_ok nmX4 in_X4 rfl rfl (by decide) m_f_X4_19 rfl rfl (tyX4_ok 1 (by decide)) rfl rfl (Nat.le_of_ble_eq_true rfl) rfl dX4_init_23 ?_
  refine s_aload_n E 0 rfl dX4_init_26 rfl ?_
  refine s_new (ci := 1) E hA tyX1 tyX1_ok in_X1 rfl m_k_X4_23 m_new_X1 m_ini_X1 (fs := [.null, .null, .null, .int 0, .int 0, .int 0]) (by decide) (Nat.le_of_ble_eq_true rfl) (Nat.le_of_ble_eq_true rfl) dX4_init_27 (fun a5 => ?_)
  refine s_dup E dX4_init_30 rfl ?_
  refine s_ctorN E hA (wr := [(h0, .inr (4, [.ref a1, .ref a3, .null, .null, .null, .null])), (a1, .inr (3, [.ref (q2 1), .int 0])), ((q2 1), .inl (cI, 48, .inl (fun _ => 0))), (a3, .inr (0, [.int 2, .int 1, .int 1, .int 8, .int 0, .int 0, .ref (q4 1), .ref (q4 2), .ref (q4 3)])), ((q4 1), .inl (cI, 8, .inl (fun _ => 0))), ((q4 2), .inl (cI, 8, .inl (fun _ => 0))), ((q4 3), .inl (cI, 8, .inl (fun _ => 0)))]) (wc := [(a5, .inr (1, [.null, .null, .null, .int 0, .int 0, .int 0]))]) kn_X1 nst_X4_25 (n_X1 a5) ⟨rfl, rfl, by decide, by decide⟩ ⟨Nat.le_of_ble_eq_true rfl, Nat.le_of_ble_eq_true rfl⟩ rfl (Nat.le_of_ble_eq_true rfl) dX4_init_31 (fun q6 => ?_)
  refine s_putF E (w' := [(h0, .inr (4, [.ref a1, .ref a3, .ref a5, .null, .null, .null])), (a1, .inr (3, [.ref (q2 1), .int 0])), ((q2 1), .inl (cI, 48, .inl (fun _ => 0))), (a3, .inr (0, [.int 2, .int 1, .int 1, .int 8, .int 0, .int 0, .ref (q4 1), .ref (q4 2), .ref (q4 3)])), ((q4 1), .inl (cI, 8, .inl (fun _ => 0))), ((q4 2), .inl (cI, 8, .inl (fun _ => 0))), ((q4 3), .inl (cI, 8, .inl (fun _ => 0))), (a5, .inr (1, [.ref (q6 1), .ref (q6 2), .ref (q6 3), .int 0, .int 0, .int 0])), ((q6 1), .inl (cI, 9, .inl (fun _ => 0))), ((q6 2), .inl (cI, 8, .inl (fun _ => 0))), ((q6 3), .inl (cI, 8, .inl (fun _ => 0)))]) (v := .ref a5) hin 0 2 tyX4 tyX4_ok nmX4 in_X4 rfl rfl (by decide) m_f_X4_26 rfl rfl (tyX4_ok 2 (by decide)) rfl rfl (Nat.le_of_ble_eq_true rfl) rfl dX4_init_34 ?_
  refine s_aload_n E 0 rfl dX4_init_37 rfl ?_
  refine s_new (ci := 1) E hA tyX1 tyX1_ok in_X1 rfl m_k_X4_23 m_new_X1 m_ini_X1 (fs := [.null, .null, .null, .int 0, .int 0, .int 0]) (by decide) (Nat.le_of_ble_eq_true rfl) (Nat.le_of_ble_eq_true rfl) dX4_init_38 (fun a7 => ?_)
  refine s_dup E dX4_init_41 rfl ?_
  refine s_ctorN E hA (wr := [(h0, .inr (4, [.ref a1, .ref a3, .ref a5, .null, .null, .null])), (a1, .inr (3, [.ref (q2 1), .int 0])), ((q2 1), .inl (cI, 48, .inl (fun _ => 0))), (a3, .inr (0, [.int 2, .int 1, .int 1, .int 8, .int 0, .int 0, .ref (q4 1), .ref (q4 2), .ref (q4 3)])), ((q4 1), .inl (cI, 8, .inl (fun _ => 0))), ((q4 2), .inl (cI, 8, .inl (fun _ => 0))), ((q4 3), .inl (cI, 8, .inl (fun _ => 0))), (a5, .inr (1, [.ref (q6 1), .ref (q6 2), .ref (q6 3), .int 0, .int 0, .int 0])), ((q6 1), .inl (cI, 9, .inl (fun _ => 0))), ((q6 2), .inl (cI, 8, .inl (fun _ => 0))), ((q6 3), .inl (cI, 8, .inl (fun _ => 0)))]) (wc := [(a7, .inr (1, [.null, .null, .null, .int 0, .int 0, .int 0]))]) kn_X1 nst_X4_25 (n_X1 a7) ⟨rfl, rfl, by decide, by decide⟩ ⟨Nat.le_of_ble_eq_true rfl, Nat.le_of_ble_eq_true rfl⟩ rfl (Nat.le_of_ble_eq_true rfl) dX4_init_42 (fun q8 => ?_)
  refine s_putF E (w' := [(h0, .inr (4, [.ref a1, .ref a3, .ref a5, .ref a7, .null, .null])), (a1, .inr (3, [.ref (q2 1), .int 0])), ((q2 1), .inl (cI, 48, .inl (fun _ => 0))), (a3, .inr (0, [.int 2, .int 1, .int 1, .int 8, .int 0, .int 0, .ref (q4 1), .ref (q4 2), .ref (q4 3)])), ((q4 1), .inl (cI, 8, .inl (fun _ => 0))), ((q4 2), .inl (cI, 8, .inl (fun _ => 0))), ((q4 3), .inl (cI, 8, .inl (fun _ => 0))), (a5, .inr (1, [.ref (q6 1), .ref (q6 2), .ref (q6 3), .int 0, .int 0, .int 0])), ((q6 1), .inl (cI, 9, .inl (fun _ => 0))), ((q6 2), .inl (cI, 8, .inl (fun _ => 0))), ((q6 3), .inl (cI, 8, .inl (fun _ => 0))), (a7, .inr (1, [.ref (q8 1), .ref (q8 2), .ref (q8 3), .int 0, .int 0, .int 0])), ((q8 1), .inl (cI, 9, .inl (fun _ => 0))), ((q8 2), .inl (cI, 8, .inl (fun _ => 0))), ((q8 3), .inl (cI, 8, .inl (fun _ => 0)))]) (v := .ref a7) hin 0 3 tyX4 tyX4_ok nmX4 in_X4 rfl rfl (by decide) m_f_X4_30 rfl rfl (tyX4_ok 3 (by decide)) rfl rfl (Nat.le_of_ble_eq_true rfl) rfl dX4_init_45 ?_
  refine s_aload_n E 0 rfl dX4_init_48 rfl ?_
  refine s_new (ci := 1) E hA tyX1 tyX1_ok in_X1 rfl m_k_X4_23 m_new_X1 m_ini_X1 (fs := [.null, .null, .null, .int 0, .int 0, .int 0]) (by decide) (Nat.le_of_ble_eq_true rfl) (Nat.le_of_ble_eq_true rfl) dX4_init_49 (fun a9 => ?_)
  refine s_dup E dX4_init_52 rfl ?_
  refine s_ctorN E hA (wr := [(h0, .inr (4, [.ref a1, .ref a3, .ref a5, .ref a7, .null, .null])), (a1, .inr (3, [.ref (q2 1), .int 0])), ((q2 1), .inl (cI, 48, .inl (fun _ => 0))), (a3, .inr (0, [.int 2, .int 1, .int 1, .int 8, .int 0, .int 0, .ref (q4 1), .ref (q4 2), .ref (q4 3)])), ((q4 1), .inl (cI, 8, .inl (fun _ => 0))), ((q4 2), .inl (cI, 8, .inl (fun _ => 0))), ((q4 3), .inl (cI, 8, .inl (fun _ => 0))), (a5, .inr (1, [.ref (q6 1), .ref (q6 2), .ref (q6 3), .int 0, .int 0, .int 0])), ((q6 1), .inl (cI, 9, .inl (fun _ => 0))), ((q6 2), .inl (cI, 8, .inl (fun _ => 0))), ((q6 3), .inl (cI, 8, .inl (fun _ => 0))), (a7, .inr (1, [.ref (q8 1), .ref (q8 2), .ref (q8 3), .int 0, .int 0, .int 0])), ((q8 1), .inl (cI, 9, .inl (fun _ => 0))), ((q8 2), .inl (cI, 8, .inl (fun _ => 0))), ((q8 3), .inl (cI, 8, .inl (fun _ => 0)))]) (wc := [(a9, .inr (1, [.null, .null, .null, .int 0, .int 0, .int 0]))]) kn_X1 nst_X4_25 (n_X1 a9) ⟨rfl, rfl, by decide, by decide⟩ ⟨Nat.le_of_ble_eq_true rfl, Nat.le_of_ble_eq_true rfl⟩ rfl (Nat.le_of_ble_eq_true rfl) dX4_init_53 (fun q10 => ?_)
  refine s_putF E (w' := [(h0, .inr (4, [.ref a1, .ref a3, .ref a5, .ref a7, .ref a9, .null])), (a1, .inr (3, [.ref (q2 1), .int 0])), ((q2 1), .inl (cI, 48, .inl (fun _ => 0))), (a3, .inr (0, [.int 2, .int 1, .int 1, .int 8, .int 0, .int 0, .ref (q4 1), .ref (q4 2), .ref (q4 3)])), ((q4 1), .inl (cI, 8, .inl (fun _ => 0))), ((q4 2), .inl (cI, 8, .inl (fun _ => 0))), ((q4 3), .inl (cI, 8, .inl (fun _ => 0))), (a5, .inr (1, [.ref (q6 1), .ref (q6 2), .ref (q6 3), .int 0, .int 0, .int 0])), ((q6 1), .inl (cI, 9, .inl (fun _ => 0))), ((q6 2), .inl (cI, 8, .inl (fun _ => 0))), ((q6 3), .inl (cI, 8, .inl (fun _ => 0))), (a7, .inr (1, [.ref (q8 1), .ref (q8 2), .ref (q8 3), .int 0, .int 0, .int 0])), ((q8 1), .inl (cI, 9, .inl (fun _ => 0))), ((q8 2), .inl (cI, 8, .inl (fun _ => 0))), ((q8 3), .inl (cI, 8, .inl (fun _ => 0))), (a9, .inr (1, [.ref (q10 1), .ref (q10 2), .ref (q10 3), .int 0, .int 0, .int 0])), ((q10 1), .inl (cI, 9, .inl (fun _ => 0))), ((q10 2), .inl (cI, 8, .inl (fun _ => 0))), ((q10 3), .inl (cI, 8, .inl (fun _ => 0)))]) (v := .ref a9) hin 0 4 tyX4 tyX4_ok nmX4 in_X4 rfl rfl (by decide) m_f_X4_33 rfl rfl (tyX4_ok 4 (by decide)) rfl rfl (Nat.le_of_ble_eq_true rfl) rfl dX4_init_56 ?_
  refine s_aload_n E 0 rfl dX4_init_59 rfl ?_
  refine s_new (ci := 2) E hA tyX2 tyX2_ok in_X2 rfl m_k_X4_36 m_new_X2 m_ini_X2 (fs := [.null, .null, .null, .null, .null, .null, .null, .null, .int 0, .int 0, .int 0, .int 0, .int 0, .int 0, .int 0, .int 0, .int 0]) (by decide) (Nat.le_of_ble_eq_true rfl) (Nat.le_of_ble_eq_true rfl) dX4_init_60 (fun a11 => ?_)
  refine s_dup E dX4_init_63 rfl ?_
  refine s_ctorN E hA (wr := [(h0, .inr (4, [.ref a1, .ref a3, .ref a5, .ref a7, .ref a9, .null])), (a1, .inr (3, [.ref (q2 1), .int 0])), ((q2 1), .inl (cI, 48, .inl (fun _ => 0))), (a3, .inr (0, [.int 2, .int 1, .int 1, .int 8, .int 0, .int 0, .ref (q4 1), .ref (q4 2), .ref (q4 3)])), ((q4 1), .inl (cI, 8, .inl (fun _ => 0))), ((q4 2), .inl (cI, 8, .inl (fun _ => 0))), ((q4 3), .inl (cI, 8, .inl (fun _ => 0))), (a5, .inr (1, [.ref (q6 1), .ref (q6 2), .ref (q6 3), .int 0, .int 0, .int 0])), ((q6 1), .inl (cI, 9, .inl (fun _ => 0))), ((q6 2), .inl (cI, 8, .inl (fun _ => 0))), ((q6 3), .inl (cI, 8, .inl (fun _ => 0))), (a7, .inr (1, [.ref (q8 1), .ref (q8 2), .ref (q8 3), .int 0, .int 0, .int 0])), ((q8 1), .inl (cI, 9, .inl (fun _ => 0))), ((q8 2), .inl (cI, 8, .inl (fun _ => 0))), ((q8 3), .inl (cI, 8, .inl (fun _ => 0))), (a9, .inr (1, [.ref (q10 1), .ref (q10 2), .ref (q10 3), .int 0, .int 0, .int 0])), ((q10 1), .inl (cI, 9, .inl (fun _ => 0))), ((q10 2), .inl (cI, 8, .inl (fun _ => 0))), ((q10 3), .inl (cI, 8, .inl (fun _ => 0)))]) (wc := [(a11, .inr (2, [.null, .null, .null, .null, .null, .null, .null, .null, .int 0, .int 0, .int 0, .int 0, .int 0, .int 0, .int 0, .int 0, .int 0]))]) kn_X2 nst_X4_38 (n_X2 a11) ⟨rfl, rfl, by decide, by decide⟩ ⟨Nat.le_of_ble_eq_true rfl, Nat.le_of_ble_eq_true rfl⟩ rfl (Nat.le_of_ble_eq_true rfl) dX4_init_64 (fun q12 => ?_)
  refine s_putF E (w' := [(h0, .inr (4, [.ref a1, .ref a3, .ref a5, .ref a7, .ref a9, .ref a11])), (a1, .inr (3, [.ref (q2 1), .int 0])), ((q2 1), .inl (cI, 48, .inl (fun _ => 0))), (a3, .inr (0, [.int 2, .int 1, .int 1, .int 8, .int 0, .int 0, .ref (q4 1), .ref (q4 2), .ref (q4 3)])), ((q4 1), .inl (cI, 8, .inl (fun _ => 0))), ((q4 2), .inl (cI, 8, .inl (fun _ => 0))), ((q4 3), .inl (cI, 8, .inl (fun _ => 0))), (a5, .inr (1, [.ref (q6 1), .ref (q6 2), .ref (q6 3), .int 0, .int 0, .int 0])), ((q6 1), .inl (cI, 9, .inl (fun _ => 0))), ((q6 2), .inl (cI, 8, .inl (fun _ => 0))), ((q6 3), .inl (cI, 8, .inl (fun _ => 0))), (a7, .inr (1, [.ref (q8 1), .ref (q8 2), .ref (q8 3), .int 0, .int 0, .int 0])), ((q8 1), .inl (cI, 9, .inl (fun _ => 0))), ((q8 2), .inl (cI, 8, .inl (fun _ => 0))), ((q8 3), .inl (cI, 8, .inl (fun _ => 0))), (a9, .inr (1, [.ref (q10 1), .ref (q10 2), .ref (q10 3), .int 0, .int 0, .int 0])), ((q10 1), .inl (cI, 9, .inl (fun _ => 0))), ((q10 2), .inl (cI, 8, .inl (fun _ => 0))), ((q10 3), .inl (cI, 8, .inl (fun _ => 0))), (a11, .inr (2, [.ref (q12 1), .ref (q12 2), .ref (q12 3), .ref (q12 4), .ref (q12 5), .ref (q12 6), .ref (q12 7), .ref (q12 8), .int 2, .int 0, .int 1, .int 0, .int (-1), .int 0, .int 0, .int 0, .int 0])), ((q12 1), .inl (cI, 256, .inl (fun _ => 0))), ((q12 2), .inl (cI, 256, .inl (fun _ => 0))), ((q12 3), .inl (cI, 256, .inl (fun _ => 0))), ((q12 4), .inl (cI, 256, .inl (fun _ => 0))), ((q12 5), .inl (cI, 100, .inl (fun _ => 0))), ((q12 6), .inl (cI, 3, .inl (fun _ => 0))), ((q12 7), .inl (cI, 3, .inl (fun _ => 0))), ((q12 8), .inl (cI, 3, .inl (fun _ => 0)))]) (v := .ref a11) hin 0 5 tyX4 tyX4_ok nmX4 in_X4 rfl rfl (by decide) m_f_X4_39 rfl rfl (tyX4_ok 5 (by decide)) rfl rfl (Nat.le_of_ble_eq_true rfl) rfl dX4_init_67 ?_
  exact s_nret E (fun k => [h0, a1, (q2 1), a3, (q4 1), (q4 2), (q4 3), a5, (q6 1), (q6 2), (q6 3), a7, (q8 1), (q8 2), (q8 3), a9, (q10 1), (q10 2), (q10 3), a11, (q12 1), (q12 2), (q12 3), (q12 4), (q12 5), (q12 6), (q12 7), (q12 8)].getD k 0) rfl dX4_init_70
abbrev rmN_X5 : Room := { frames := 1, cells := 19, slots := 871, locals := 12 }
theorem kn_X5 : CI yX5_init RX5 cX5_init 1 := ⟨m_code_X5_init, m_inst_X5_init, m_ini_X5, rfl, rfl, by decide, by decide, by decide +kernel⟩
set_option maxRecDepth 100000 in
set_option maxHeartbeats 4000000 in
theorem n_X5 {l : Launch} {dC : Nat → ClassId} {dI : Nat → Nat → Nat} {cI cZ : ClassId} (h0 : Nat) : CN l dC dI cI cZ yX5_init cX5_init 1 rmN_X5 h0 [(h0, .inr (5, [.null, .null, .int 0, .null, .null, .int 0, .null, .null, .null, .int 0, .null, .int 0, .int 0, .int 0, .int 0, .null, .null, .int 0, .int 0, .int 0, .null, .null, .null, .null, .null, .null, .null, .null, .null]))] (fun q => wM cI cZ (qq h0 q) initM) 19 871 := by
  refine b_metN (by decide) (Nat.le_of_ble_eq_true rfl) rfl ?_
  intro sz p e s m below meth c E hin hA
  have E : EV p s m _ meth c dC dI cI cZ cX5_init 1 RX5 none := E
  show GGc p l e rmN_X5 s m _ below meth c _ _ dC dI 0 0 1 [(h0, .inr (5, [.null, .null, .int 0, .null, .null, .int 0, .null, .null, .null, .int 0, .null, .int 0, .int 0, .int 0, .int 0, .null, .null, .int 0, .int 0, .int 0, .null, .null, .null, .null, .null, .null, .null, .null, .null]))] 0 [(0, .ref h0)] []
  refine s_aload_n E 0 rfl dX5_init_0 rfl ?_
  refine s_objInit E m_l_X5_1 dX5_init_1 (by decide) (Nat.le_of_ble_eq_true rfl) ?_
  refine s_aload_n E 0 rfl dX5_init_4 rfl ?_
  refine s_iconst E (v := 5) dX5_init_5 ki_5 ?_
  refine s_newi E hA (N := 5) (by decide) (by decide) (by decide) (Nat.le_of_ble_eq_true rfl) (Nat.le_of_ble_eq_true rfl) dX5_init_6 (fun a1 => ?_)
  refine s_putF E (w' := [(h0, .inr (5, [.ref a1, .null, .int 0, .null, .null, .int 0, .null, .null, .null, .int 0, .null, .int 0, .int 0, .int 0, .int 0, .null, .null, .int 0, .int 0, .int 0, .null, .null, .null, .null, .null, .null, .null, .null, .null])), (a1, .inl (cI, 5, .inl (fun _ => 0)))]) (v := .ref a1) hin 0 0 tyX5 tyX5_ok nmX5 in_X5 rfl rfl (by decide) m_f_X5_7 rfl rfl (tyX5_ok 0 (by decide)) rfl rfl (Nat.le_of_ble_eq_true rfl) rfl dX5_init_8 ?_
  refine s_aload_n E 0 rfl dX5_init_11 rfl ?_
  refine s_bipush E (v := 24) dX5_init_12 kb_24 ?_
  refine s_newi E hA (N := 24) (by decide) (by decide) (by decide) (Nat.le_of_ble_eq_true rfl) (Nat.le_of_ble_eq_true rfl) dX5_init_14 (fun a2 => ?_)
  refine s_putF E (w' := [(h0, .inr (5, [.ref a1, .ref a2, .int 0, .null, .null, .int 0, .null, .null, .null, .int 0, .null, .int 0, .int 0, .int 0, .int 0, .null, .null, .int 0, .int 0, .int 0, .null, .null, .null, .null, .null, .null, .null, .null, .null])), (a1, .inl (cI, 5, .inl (fun _ => 0))), (a2, .inl (cI, 24, .inl (fun _ => 0)))]) (v := .ref a2) hin 0 1 tyX5 tyX5_ok nmX5 in_X5 rfl rfl (by decide) m_f_X5_13 rfl rfl (tyX5_ok 1 (by decide)) rfl rfl (Nat.le_of_ble_eq_true rfl) rfl dX5_init_16 ?_
  refine s_aload_n E 0 rfl dX5_init_19 rfl ?_
  refine s_iconst E (v := 5) dX5_init_20 ki_5 ?_
  refine s_newi E hA (N := 5) (by decide) (by decide) (by decide) (Nat.le_of_ble_eq_true rfl) (Nat.le_of_ble_eq_true rfl) dX5_init_21 (fun a3 => ?_)
  refine s_putF E (w' := [(h0, .inr (5, [.ref a1, .ref a2, .int 0, .ref a3, .null, .int 0, .null, .null, .null, .int 0, .null, .int 0, .int 0, .int 0, .int 0, .null, .null, .int 0, .int 0, .int 0, .null, .null, .null, .null, .null, .null, .null, .null, .null])), (a1, .inl (cI, 5, .inl (fun _ => 0))), (a2, .inl (cI, 24, .inl (fun _ => 0))), (a3, .inl (cI, 5, .inl (fun _ => 0)))]) (v := .ref a3) hin 0 3 tyX5 tyX5_ok nmX5 in_X5 rfl rfl (by decide) m_f_X5_16 rfl rfl (tyX5_ok 3 (by decide)) rfl rfl (Nat.le_of_ble_eq_true rfl) rfl dX5_init_23 ?_
  refine s_aload_n E 0 rfl dX5_init_26 rfl ?_
  refine s_bipush E (v := 24) dX5_init_27 kb_24 ?_
  refine s_newi E hA (N := 24) (by decide) (by decide) (by decide) (Nat.le_of_ble_eq_true rfl) (Nat.le_of_ble_eq_true rfl) dX5_init_29 (fun a4 => ?_)
  refine s_putF E (w' := [(h0, .inr (5, [.ref a1, .ref a2, .int 0, .ref a3, .ref a4, .int 0, .null, .null, .null, .int 0, .null, .int 0, .int 0, .int 0, .int 0, .null, .null, .int 0, .int 0, .int 0, .null, .null, .null, .null, .null, .null, .null, .null, .null])), (a1, .inl (cI, 5, .inl (fun _ => 0))), (a2, .inl (cI, 24, .inl (fun _ => 0))), (a3, .inl (cI, 5, .inl (fun _ => 0))), (a4, .inl (cI, 24, .inl (fun _ => 0)))]) (v := .ref a4) hin 0 4 tyX5 tyX5_ok nmX5 in_X5 rfl rfl (by decide) m_f_X5_19 rfl rfl (tyX5_ok 4 (by decide)) rfl rfl (Nat.le_of_ble_eq_true rfl) rfl dX5_init_31 ?_
  refine s_aload_n E 0 rfl dX5_init_34 rfl ?_
  refine s_bipush E (v := 8) dX5_init_35 kb_8 ?_
  refine s_newi E hA (N := 8) (by decide) (by decide) (by decide) (Nat.le_of_ble_eq_true rfl) (Nat.le_of_ble_eq_true rfl) dX5_init_37 (fun a5 => ?_)
  refine s_putF E (w' := [(h0, .inr (5, [.ref a1, .ref a2, .int 0, .ref a3, .ref a4, .int 0, .ref a5, .null, .null, .int 0, .null, .int 0, .int 0, .int 0, .int 0, .null, .null, .int 0, .int 0, .int 0, .null, .null, .null, .null, .null, .null, .null, .null, .null])), (a1, .inl (cI, 5, .inl (fun _ => 0))), (a2, .inl (cI, 24, .inl (fun _ => 0))), (a3, .inl (cI, 5, .inl (fun _ => 0))), (a4, .inl (cI, 24, .inl (fun _ => 0))), (a5, .inl (cI, 8, .inl (fun _ => 0)))]) (v := .ref a5) hin 0 6 tyX5 tyX5_ok nmX5 in_X5 rfl rfl (by decide) m_f_X5_22 rfl rfl (tyX5_ok 6 (by decide)) rfl rfl (Nat.le_of_ble_eq_true rfl) rfl dX5_init_39 ?_
  refine s_aload_n E 0 rfl dX5_init_42 rfl ?_
  refine s_bipush E (v := 8) dX5_init_43 kb_8 ?_
  refine s_newi E hA (N := 8) (by decide) (by decide) (by decide) (Nat.le_of_ble_eq_true rfl) (Nat.le_of_ble_eq_true rfl) dX5_init_45 (fun a6 => ?_)
  refine s_putF E (w' := [(h0, .inr (5, [.ref a1, .ref a2, .int 0, .ref a3, .ref a4, .int 0, .ref a5, .ref a6, .null, .int 0, .null, .int 0, .int 0, .int 0, .int 0, .null, .null, .int 0, .int 0, .int 0, .null, .null, .null, .null, .null, .null, .null, .null, .null])), (a1, .inl (cI, 5, .inl (fun _ => 0))), (a2, .inl (cI, 24, .inl (fun _ => 0))), (a3, .inl (cI, 5, .inl (fun _ => 0))), (a4, .inl (cI, 24, .inl (fun _ => 0))), (a5, .inl (cI, 8, .inl (fun _ => 0))), (a6, .inl (cI, 8, .inl (fun _ => 0)))]) (v := .ref a6) hin 0 7 tyX5 tyX5_ok nmX5 in_X5 rfl rfl (by decide) m_f_X5_25 rfl rfl (tyX5_ok 7 (by decide)) rfl rfl (Nat.le_of_ble_eq_true rfl) rfl dX5_init_47 ?_
  refine s_aload_n E 0 rfl dX5_init_50 rfl ?_
  refine s_bipush E (v := 8) dX5_init_51 kb_8 ?_
  refine s_newi E hA (N := 8) (by decide) (by decide) (by decide) (Nat.le_of_ble_eq_true rfl) (Nat.le_of_ble_eq_true rfl) dX5_init_53 (fun a7 => ?_)
  refine s_putF E (w' := [(h0, .inr (5, [.ref a1, .ref a2, .int 0, .ref a3, .ref a4, .int 0, .ref a5, .ref a6, .ref a7, .int 0, .null, .int 0, .int 0, .int 0, .int 0, .null, .null, .int 0, .int 0, .int 0, .null, .null, .null, .null, .null, .null, .null, .null, .null])), (a1, .inl (cI, 5, .inl (fun _ => 0))), (a2, .inl (cI, 24, .inl (fun _ => 0))), (a3, .inl (cI, 5, .inl (fun _ => 0))), (a4, .inl (cI, 24, .inl (fun _ => 0))), (a5, .inl (cI, 8, .inl (fun _ => 0))), (a6, .inl (cI, 8, .inl (fun _ => 0))), (a7, .inl (cI, 8, .inl (fun _ => 0)))]) (v := .ref a7) hin 0 8 tyX5 tyX5_ok nmX5 in_X5 rfl rfl (by decide) m_f_X5_28 rfl rfl (tyX5_ok 8 (by decide)) rfl rfl (Nat.le_of_ble_eq_true rfl) rfl dX5_init_55 ?_
  refine s_aload_n E 0 rfl dX5_init_58 rfl ?_
  refine s_bipush E (v := 48) dX5_init_59 kb_48 ?_
  refine s_newi E hA (N := 48) (by decide) (by decide) (by decide) (Nat.le_of_ble_eq_true rfl) (Nat.le_of_ble_eq_true rfl) dX5_init_61 (fun a8 => ?_)
  refine s_putF E (w' := [(h0, .inr (5, [.ref a1, .ref a2, .int 0, .ref a3, .ref a4, .int 0, .ref a5, .ref a6, .ref a7, .int 0, .ref a8, .int 0, .int 0, .int 0, .int 0, .null, .null, .int 0, .int 0, .int 0, .null, .null, .null, .null, .null, .null, .null, .null, .null])), (a1, .inl (cI, 5, .inl (fun _ => 0))), (a2, .inl (cI, 24, .inl (fun _ => 0))), (a3, .inl (cI, 5, .inl (fun _ => 0))), (a4, .inl (cI, 24, .inl (fun _ => 0))), (a5, .inl (cI, 8, .inl (fun _ => 0))), (a6, .inl (cI, 8, .inl (fun _ => 0))), (a7, .inl (cI, 8, .inl (fun _ => 0))), (a8, .inl (cI, 48, .inl (fun _ => 0)))]) (v := .ref a8) hin 0 10 tyX5 tyX5_ok nmX5 in_X5 rfl rfl (by decide) m_f_X5_31 rfl rfl (tyX5_ok 10 (by decide)) rfl rfl (Nat.le_of_ble_eq_true rfl) rfl dX5_init_63 ?_
  refine s_aload_n E 0 rfl dX5_init_66 rfl ?_
  refine s_bipush E (v := 24) dX5_init_67 kb_24 ?_
  refine s_newi E hA (N := 24) (by decide) (by decide) (by decide) (Nat.le_of_ble_eq_true rfl) (Nat.le_of_ble_eq_true rfl) dX5_init_69 (fun a9 => ?_)
  refine s_putF E (w' := [(h0, .inr (5, [.ref a1, .ref a2, .int 0, .ref a3, .ref a4, .int 0, .ref a5, .ref a6, .ref a7, .int 0, .ref a8, .int 0, .int 0, .int 0, .int 0, .ref a9, .null, .int 0, .int 0, .int 0, .null, .null, .null, .null, .null, .null, .null, .null, .null])), (a1, .inl (cI, 5, .inl (fun _ => 0))), (a2, .inl (cI, 24, .inl (fun _ => 0))), (a3, .inl (cI, 5, .inl (fun _ => 0))), (a4, .inl (cI, 24, .inl (fun _ => 0))), (a5, .inl (cI, 8, .inl (fun _ => 0))), (a6, .inl (cI, 8, .inl (fun _ => 0))), (a7, .inl (cI, 8, .inl (fun _ => 0))), (a8, .inl (cI, 48, .inl (fun _ => 0))), (a9, .inl (cI, 24, .inl (fun _ => 0)))]) (v := .ref a9) hin 0 15 tyX5 tyX5_ok nmX5 in_X5 rfl rfl (by decide) m_f_X5_34 rfl rfl (tyX5_ok 15 (by decide)) rfl rfl (Nat.le_of_ble_eq_true rfl) rfl dX5_init_71 ?_
  refine s_aload_n E 0 rfl dX5_init_74 rfl ?_
  refine s_iconst E (v := 3) dX5_init_75 ki_3 ?_
  refine s_newi E hA (N := 3) (by decide) (by decide) (by decide) (Nat.le_of_ble_eq_true rfl) (Nat.le_of_ble_eq_true rfl) dX5_init_76 (fun a10 => ?_)
  refine s_putF E (w' := [(h0, .inr (5, [.ref a1, .ref a2, .int 0, .ref a3, .ref a4, .int 0, .ref a5, .ref a6, .ref a7, .int 0, .ref a8, .int 0, .int 0, .int 0, .int 0, .ref a9, .ref a10, .int 0, .int 0, .int 0, .null, .null, .null, .null, .null, .null, .null, .null, .null])), (a1, .inl (cI, 5, .inl (fun _ => 0))), (a2, .inl (cI, 24, .inl (fun _ => 0))), (a3, .inl (cI, 5, .inl (fun _ => 0))), (a4, .inl (cI, 24, .inl (fun _ => 0))), (a5, .inl (cI, 8, .inl (fun _ => 0))), (a6, .inl (cI, 8, .inl (fun _ => 0))), (a7, .inl (cI, 8, .inl (fun _ => 0))), (a8, .inl (cI, 48, .inl (fun _ => 0))), (a9, .inl (cI, 24, .inl (fun _ => 0))), (a10, .inl (cI, 3, .inl (fun _ => 0)))]) (v := .ref a10) hin 0 16 tyX5 tyX5_ok nmX5 in_X5 rfl rfl (by decide) m_f_X5_37 rfl rfl (tyX5_ok 16 (by decide)) rfl rfl (Nat.le_of_ble_eq_true rfl) rfl dX5_init_78 ?_
  refine s_aload_n E 0 rfl dX5_init_81 rfl ?_
  refine s_sipush E (v := 256) dX5_init_82 ks_256 ?_
  refine s_newz E hA (N := 256) (by decide) (by decide) (by decide) (Nat.le_of_ble_eq_true rfl) (Nat.le_of_ble_eq_true rfl) dX5_init_85 (fun a11 => ?_)
  refine s_putF E (w' := [(h0, .inr (5, [.ref a1, .ref a2, .int 0, .ref a3, .ref a4, .int 0, .ref a5, .ref a6, .ref a7, .int 0, .ref a8, .int 0, .int 0, .int 0, .int 0, .ref a9, .ref a10, .int 0, .int 0, .int 0, .ref a11, .null, .null, .null, .null, .null, .null, .null, .null])), (a1, .inl (cI, 5, .inl (fun _ => 0))), (a2, .inl (cI, 24, .inl (fun _ => 0))), (a3, .inl (cI, 5, .inl (fun _ => 0))), (a4, .inl (cI, 24, .inl (fun _ => 0))), (a5, .inl (cI, 8, .inl (fun _ => 0))), (a6, .inl (cI, 8, .inl (fun _ => 0))), (a7, .inl (cI, 8, .inl (fun _ => 0))), (a8, .inl (cI, 48, .inl (fun _ => 0))), (a9, .inl (cI, 24, .inl (fun _ => 0))), (a10, .inl (cI, 3, .inl (fun _ => 0))), (a11, .inl (cZ, 256, .inl (fun _ => 0)))]) (v := .ref a11) hin 0 20 tyX5 tyX5_ok nmX5 in_X5 rfl rfl (by decide) m_f_X5_40 rfl rfl (tyX5_ok 20 (by decide)) rfl rfl (Nat.le_of_ble_eq_true rfl) rfl dX5_init_87 ?_
  refine s_aload_n E 0 rfl dX5_init_90 rfl ?_
  refine s_bipush E (v := 100) dX5_init_91 kb_100 ?_
  refine s_newi E hA (N := 100) (by decide) (by decide) (by decide) (Nat.le_of_ble_eq_true rfl) (Nat.le_of_ble_eq_true rfl) dX5_init_93 (fun a12 => ?_)
  refine s_putF E (w' := [(h0, .inr (5, [.ref a1, .ref a2, .int 0, .ref a3, .ref a4, .int 0, .ref a5, .ref a6, .ref a7, .int 0, .ref a8, .int 0, .int 0, .int 0, .int 0, .ref a9, .ref a10, .int 0, .int 0, .int 0, .ref a11, .ref a12, .null, .null, .null, .null, .null, .null, .null])), (a1, .inl (cI, 5, .inl (fun _ => 0))), (a2, .inl (cI, 24, .inl (fun _ => 0))), (a3, .inl (cI, 5, .inl (fun _ => 0))), (a4, .inl (cI, 24, .inl (fun _ => 0))), (a5, .inl (cI, 8, .inl (fun _ => 0))), (a6, .inl (cI, 8, .inl (fun _ => 0))), (a7, .inl (cI, 8, .inl (fun _ => 0))), (a8, .inl (cI, 48, .inl (fun _ => 0))), (a9, .inl (cI, 24, .inl (fun _ => 0))), (a10, .inl (cI, 3, .inl (fun _ => 0))), (a11, .inl (cZ, 256, .inl (fun _ => 0))), (a12, .inl (cI, 100, .inl (fun _ => 0)))]) (v := .ref a12) hin 0 21 tyX5 tyX5_ok nmX5 in_X5 rfl rfl (by decide) m_f_X5_44 rfl rfl (tyX5_ok 21 (by decide)) rfl rfl (Nat.le_of_ble_eq_true rfl) rfl dX5_init_95 ?_
  refine s_aload_n E 0 rfl dX5_init_98 rfl ?_
  refine s_sipush E (v := 256) dX5_init_99 ks_256 ?_
  refine s_newi E hA (N := 256) (by decide) (by decide) (by decide) (Nat.le_of_ble_eq_true rfl) (Nat.le_of_ble_eq_true rfl) dX5_init_102 (fun a13 => ?_)
  refine s_putF E (w' := [(h0, .inr (5, [.ref a1, .ref a2, .int 0, .ref a3, .ref a4, .int 0, .ref a5, .ref a6, .ref a7, .int 0, .ref a8, .int 0, .int 0, .int 0, .int 0, .ref a9, .ref a10, .int 0, .int 0, .int 0, .ref a11, .ref a12, .ref a13, .null, .null, .null, .null, .null, .null])), (a1, .inl (cI, 5, .inl (fun _ => 0))), (a2, .inl (cI, 24, .inl (fun _ => 0))), (a3, .inl (cI, 5, .inl (fun _ => 0))), (a4, .inl (cI, 24, .inl (fun _ => 0))), (a5, .inl (cI, 8, .inl (fun _ => 0))), (a6, .inl (cI, 8, .inl (fun _ => 0))), (a7, .inl (cI, 8, .inl (fun _ => 0))), (a8, .inl (cI, 48, .inl (fun _ => 0))), (a9, .inl (cI, 24, .inl (fun _ => 0))), (a10, .inl (cI, 3, .inl (fun _ => 0))), (a11, .inl (cZ, 256, .inl (fun _ => 0))), (a12, .inl (cI, 100, .inl (fun _ => 0))), (a13, .inl (cI, 256, .inl (fun _ => 0)))]) (v := .ref a13) hin 0 22 tyX5 tyX5_ok nmX5 in_X5 rfl rfl (by decide) m_f_X5_47 rfl rfl (tyX5_ok 22 (by decide)) rfl rfl (Nat.le_of_ble_eq_true rfl) rfl dX5_init_104 ?_
  refine s_aload_n E 0 rfl dX5_init_107 rfl ?_
  refine s_iconst E (v := 2) dX5_init_108 ki_2 ?_
  refine s_newz E hA (N := 2) (by decide) (by decide) (by decide) (Nat.le_of_ble_eq_true rfl) (Nat.le_of_ble_eq_true rfl) dX5_init_109 (fun a14 => ?_)
  refine s_putF E (w' := [(h0, .inr (5, [.ref a1, .ref a2, .int 0, .ref a3, .ref a4, .int 0, .ref a5, .ref a6, .ref a7, .int 0, .ref a8, .int 0, .int 0, .int 0, .int 0, .ref a9, .ref a10, .int 0, .int 0, .int 0, .ref a11, .ref a12, .ref a13, .ref a14, .null, .null, .null, .null, .null])), (a1, .inl (cI, 5, .inl (fun _ => 0))), (a2, .inl (cI, 24, .inl (fun _ => 0))), (a3, .inl (cI, 5, .inl (fun _ => 0))), (a4, .inl (cI, 24, .inl (fun _ => 0))), (a5, .inl (cI, 8, .inl (fun _ => 0))), (a6, .inl (cI, 8, .inl (fun _ => 0))), (a7, .inl (cI, 8, .inl (fun _ => 0))), (a8, .inl (cI, 48, .inl (fun _ => 0))), (a9, .inl (cI, 24, .inl (fun _ => 0))), (a10, .inl (cI, 3, .inl (fun _ => 0))), (a11, .inl (cZ, 256, .inl (fun _ => 0))), (a12, .inl (cI, 100, .inl (fun _ => 0))), (a13, .inl (cI, 256, .inl (fun _ => 0))), (a14, .inl (cZ, 2, .inl (fun _ => 0)))]) (v := .ref a14) hin 0 23 tyX5 tyX5_ok nmX5 in_X5 rfl rfl (by decide) m_f_X5_50 rfl rfl (tyX5_ok 23 (by decide)) rfl rfl (Nat.le_of_ble_eq_true rfl) rfl dX5_init_111 ?_
  refine s_aload_n E 0 rfl dX5_init_114 rfl ?_
  refine s_bipush E (v := 16) dX5_init_115 kb_16 ?_
  refine s_newi E hA (N := 16) (by decide) (by decide) (by decide) (Nat.le_of_ble_eq_true rfl) (Nat.le_of_ble_eq_true rfl) dX5_init_117 (fun a15 => ?_)
  refine s_putF E (w' := [(h0, .inr (5, [.ref a1, .ref a2, .int 0, .ref a3, .ref a4, .int 0, .ref a5, .ref a6, .ref a7, .int 0, .ref a8, .int 0, .int 0, .int 0, .int 0, .ref a9, .ref a10, .int 0, .int 0, .int 0, .ref a11, .ref a12, .ref a13, .ref a14, .ref a15, .null, .null, .null, .null])), (a1, .inl (cI, 5, .inl (fun _ => 0))), (a2, .inl (cI, 24, .inl (fun _ => 0))), (a3, .inl (cI, 5, .inl (fun _ => 0))), (a4, .inl (cI, 24, .inl (fun _ => 0))), (a5, .inl (cI, 8, .inl (fun _ => 0))), (a6, .inl (cI, 8, .inl (fun _ => 0))), (a7, .inl (cI, 8, .inl (fun _ => 0))), (a8, .inl (cI, 48, .inl (fun _ => 0))), (a9, .inl (cI, 24, .inl (fun _ => 0))), (a10, .inl (cI, 3, .inl (fun _ => 0))), (a11, .inl (cZ, 256, .inl (fun _ => 0))), (a12, .inl (cI, 100, .inl (fun _ => 0))), (a13, .inl (cI, 256, .inl (fun _ => 0))), (a14, .inl (cZ, 2, .inl (fun _ => 0))), (a15, .inl (cI, 16, .inl (fun _ => 0)))]) (v := .ref a15) hin 0 24 tyX5 tyX5_ok nmX5 in_X5 rfl rfl (by decide) m_f_X5_53 rfl rfl (tyX5_ok 24 (by decide)) rfl rfl (Nat.le_of_ble_eq_true rfl) rfl dX5_init_119 ?_
  refine s_aload_n E 0 rfl dX5_init_122 rfl ?_
  refine s_bipush E (v := 16) dX5_init_123 kb_16 ?_
  refine s_newi E hA (N := 16) (by decide) (by decide) (by decide) (Nat.le_of_ble_eq_true rfl) (Nat.le_of_ble_eq_true rfl) dX5_init_125 (fun a16 => ?_)
  refine s_putF E (w' := [(h0, .inr (5, [.ref a1, .ref a2, .int 0, .ref a3, .ref a4, .int 0, .ref a5, .ref a6, .ref a7, .int 0, .ref a8, .int 0, .int 0, .int 0, .int 0, .ref a9, .ref a10, .int 0, .int 0, .int 0, .ref a11, .ref a12, .ref a13, .ref a14, .ref a15, .ref a16, .null, .null, .null])), (a1, .inl (cI, 5, .inl (fun _ => 0))), (a2, .inl (cI, 24, .inl (fun _ => 0))), (a3, .inl (cI, 5, .inl (fun _ => 0))), (a4, .inl (cI, 24, .inl (fun _ => 0))), (a5, .inl (cI, 8, .inl (fun _ => 0))), (a6, .inl (cI, 8, .inl (fun _ => 0))), (a7, .inl (cI, 8, .inl (fun _ => 0))), (a8, .inl (cI, 48, .inl (fun _ => 0))), (a9, .inl (cI, 24, .inl (fun _ => 0))), (a10, .inl (cI, 3, .inl (fun _ => 0))), (a11, .inl (cZ, 256, .inl (fun _ => 0))), (a12, .inl (cI, 100, .inl (fun _ => 0))), (a13, .inl (cI, 256, .inl (fun _ => 0))), (a14, .inl (cZ, 2, .inl (fun _ => 0))), (a15, .inl (cI, 16, .inl (fun _ => 0))), (a16, .inl (cI, 16, .inl (fun _ => 0)))]) (v := .ref a16) hin 0 25 tyX5 tyX5_ok nmX5 in_X5 rfl rfl (by decide) m_f_X5_56 rfl rfl (tyX5_ok 25 (by decide)) rfl rfl (Nat.le_of_ble_eq_true rfl) rfl dX5_init_127 ?_
  refine s_aload_n E 0 rfl dX5_init_130 rfl ?_
  refine s_bipush E (v := 16) dX5_init_131 kb_16 ?_
  refine s_newi E hA (N := 16) (by decide) (by decide) (by decide) (Nat.le_of_ble_eq_true rfl) (Nat.le_of_ble_eq_true rfl) dX5_init_133 (fun a17 => ?_)
  refine s_putF E (w' := [(h0, .inr (5, [.ref a1, .ref a2, .int 0, .ref a3, .ref a4, .int 0, .ref a5, .ref a6, .ref a7, .int 0, .ref a8, .int 0, .int 0, .int 0, .int 0, .ref a9, .ref a10, .int 0, .int 0, .int 0, .ref a11, .ref a12, .ref a13, .ref a14, .ref a15, .ref a16, .ref a17, .null, .null])), (a1, .inl (cI, 5, .inl (fun _ => 0))), (a2, .inl (cI, 24, .inl (fun _ => 0))), (a3, .inl (cI, 5, .inl (fun _ => 0))), (a4, .inl (cI, 24, .inl (fun _ => 0))), (a5, .inl (cI, 8, .inl (fun _ => 0))), (a6, .inl (cI, 8, .inl (fun _ => 0))), (a7, .inl (cI, 8, .inl (fun _ => 0))), (a8, .inl (cI, 48, .inl (fun _ => 0))), (a9, .inl (cI, 24, .inl (fun _ => 0))), (a10, .inl (cI, 3, .inl (fun _ => 0))), (a11, .inl (cZ, 256, .inl (fun _ => 0))), (a12, .inl (cI, 100, .inl (fun _ => 0))), (a13, .inl (cI, 256, .inl (fun _ => 0))), (a14, .inl (cZ, 2, .inl (fun _ => 0))), (a15, .inl (cI, 16, .inl (fun _ => 0))), (a16, .inl (cI, 16, .inl (fun _ => 0))), (a17, .inl (cI, 16, .inl (fun _ => 0)))]) (v := .ref a17) hin 0 26 tyX5 tyX5_ok nmX5 in_X5 rfl rfl (by decide) m_f_X5_59 rfl rfl (tyX5_ok 26 (by decide)) rfl rfl (Nat.le_of_ble_eq_true rfl) rfl dX5_init_135 ?_
  refine s_aload_n E 0 rfl dX5_init_138 rfl ?_
  refine s_bipush E (v := 48) dX5_init_139 kb_48 ?_
  refine s_newi E hA (N := 48) (by decide) (by decide) (by decide) (Nat.le_of_ble_eq_true rfl) (Nat.le_of_ble_eq_true rfl) dX5_init_141 (fun a18 => ?_)
  refine s_putF E (w' := [(h0, .inr (5, [.ref a1, .ref a2, .int 0, .ref a3, .ref a4, .int 0, .ref a5, .ref a6, .ref a7, .int 0, .ref a8, .int 0, .int 0, .int 0, .int 0, .ref a9, .ref a10, .int 0, .int 0, .int 0, .ref a11, .ref a12, .ref a13, .ref a14, .ref a15, .ref a16, .ref a17, .ref a18, .null])), (a1, .inl (cI, 5, .inl (fun _ => 0))), (a2, .inl (cI, 24, .inl (fun _ => 0))), (a3, .inl (cI, 5, .inl (fun _ => 0))), (a4, .inl (cI, 24, .inl (fun _ => 0))), (a5, .inl (cI, 8, .inl (fun _ => 0))), (a6, .inl (cI, 8, .inl (fun _ => 0))), (a7, .inl (cI, 8, .inl (fun _ => 0))), (a8, .inl (cI, 48, .inl (fun _ => 0))), (a9, .inl (cI, 24, .inl (fun _ => 0))), (a10, .inl (cI, 3, .inl (fun _ => 0))), (a11, .inl (cZ, 256, .inl (fun _ => 0))), (a12, .inl (cI, 100, .inl (fun _ => 0))), (a13, .inl (cI, 256, .inl (fun _ => 0))), (a14, .inl (cZ, 2, .inl (fun _ => 0))), (a15, .inl (cI, 16, .inl (fun _ => 0))), (a16, .inl (cI, 16, .inl (fun _ => 0))), (a17, .inl (cI, 16, .inl (fun _ => 0))), (a18, .inl (cI, 48, .inl (fun _ => 0)))]) (v := .ref a18) hin 0 27 tyX5 tyX5_ok nmX5 in_X5 rfl rfl (by decide) m_f_X5_62 rfl rfl (tyX5_ok 27 (by decide)) rfl rfl (Nat.le_of_ble_eq_true rfl) rfl dX5_init_143 ?_
  refine s_aload_n E 0 rfl dX5_init_146 rfl ?_
  refine s_iconst E (v := 4) dX5_init_147 ki_4 ?_
  refine s_newi E hA (N := 4) (by decide) (by decide) (by decide) (Nat.le_of_ble_eq_true rfl) (Nat.le_of_ble_eq_true rfl) dX5_init_148 (fun a19 => ?_)
  refine s_putF E (w' := [(h0, .inr (5, [.ref a1, .ref a2, .int 0, .ref a3, .ref a4, .int 0, .ref a5, .ref a6, .ref a7, .int 0, .ref a8, .int 0, .int 0, .int 0, .int 0, .ref a9, .ref a10, .int 0, .int 0, .int 0, .ref a11, .ref a12, .ref a13, .ref a14, .ref a15, .ref a16, .ref a17, .ref a18, .ref a19])), (a1, .inl (cI, 5, .inl (fun _ => 0))), (a2, .inl (cI, 24, .inl (fun _ => 0))), (a3, .inl (cI, 5, .inl (fun _ => 0))), (a4, .inl (cI, 24, .inl (fun _ => 0))), (a5, .inl (cI, 8, .inl (fun _ => 0))), (a6, .inl (cI, 8, .inl (fun _ => 0))), (a7, .inl (cI, 8, .inl (fun _ => 0))), (a8, .inl (cI, 48, .inl (fun _ => 0))), (a9, .inl (cI, 24, .inl (fun _ => 0))), (a10, .inl (cI, 3, .inl (fun _ => 0))), (a11, .inl (cZ, 256, .inl (fun _ => 0))), (a12, .inl (cI, 100, .inl (fun _ => 0))), (a13, .inl (cI, 256, .inl (fun _ => 0))), (a14, .inl (cZ, 2, .inl (fun _ => 0))), (a15, .inl (cI, 16, .inl (fun _ => 0))), (a16, .inl (cI, 16, .inl (fun _ => 0))), (a17, .inl (cI, 16, .inl (fun _ => 0))), (a18, .inl (cI, 48, .inl (fun _ => 0))), (a19, .inl (cI, 4, .inl (fun _ => 0)))]) (v := .ref a19) hin 0 28 tyX5 tyX5_ok nmX5 in_X5 rfl rfl (by decide) m_f_X5_65 rfl rfl (tyX5_ok 28 (by decide)) rfl rfl (Nat.le_of_ble_eq_true rfl) rfl dX5_init_150 ?_
  refine s_aload_n E 0 rfl dX5_init_153 rfl ?_
  refine s_get E (v := .ref a3) 0 3 in_X5 rfl rfl (by decide) m_f_X5_16 rfl dX5_init_154 ?_
  refine s_iconst E (v := 0) dX5_init_157 ki_0 ?_
  refine s_iconst E (v := 2) dX5_init_158 ki_2 ?_
  refine s_iast E (i := 0) (w' := [(h0, .inr (5, [.ref a1, .ref a2, .int 0, .ref a3, .ref a4, .int 0, .ref a5, .ref a6, .ref a7, .int 0, .ref a8, .int 0, .int 0, .int 0, .int 0, .ref a9, .ref a10, .int 0, .int 0, .int 0, .ref a11, .ref a12, .ref a13, .ref a14, .ref a15, .ref a16, .ref a17, .ref a18, .ref a19])), (a1, .inl (cI, 5, .inl (fun _ => 0))), (a2, .inl (cI, 24, .inl (fun _ => 0))), (a3, .inl (cI, 5, .inl (upd (fun _ => 0) 0 2))), (a4, .inl (cI, 24, .inl (fun _ => 0))), (a5, .inl (cI, 8, .inl (fun _ => 0))), (a6, .inl (cI, 8, .inl (fun _ => 0))), (a7, .inl (cI, 8, .inl (fun _ => 0))), (a8, .inl (cI, 48, .inl (fun _ => 0))), (a9, .inl (cI, 24, .inl (fun _ => 0))), (a10, .inl (cI, 3, .inl (fun _ => 0))), (a11, .inl (cZ, 256, .inl (fun _ => 0))), (a12, .inl (cI, 100, .inl (fun _ => 0))), (a13, .inl (cI, 256, .inl (fun _ => 0))), (a14, .inl (cZ, 2, .inl (fun _ => 0))), (a15, .inl (cI, 16, .inl (fun _ => 0))), (a16, .inl (cI, 16, .inl (fun _ => 0))), (a17, .inl (cI, 16, .inl (fun _ => 0))), (a18, .inl (cI, 48, .inl (fun _ => 0))), (a19, .inl (cI, 4, .inl (fun _ => 0)))]) 3 rfl vin_0_5 rfl dX5_init_159 ?_
  refine s_aload_n E 0 rfl dX5_init_160 rfl ?_
  refine s_get E (v := .ref a3) 0 3 in_X5 rfl rfl (by decide) m_f_X5_16 rfl dX5_init_161 ?_
  refine s_iconst E (v := 1) dX5_init_164 ki_1 ?_
  refine s_iconst E (v := 1) dX5_init_165 ki_1 ?_
  refine s_iast E (i := 1) (w' := [(h0, .inr (5, [.ref a1, .ref a2, .int 0, .ref a3, .ref a4, .int 0, .ref a5, .ref a6, .ref a7, .int 0, .ref a8, .int 0, .int 0, .int 0, .int 0, .ref a9, .ref a10, .int 0, .int 0, .int 0, .ref a11, .ref a12, .ref a13, .ref a14, .ref a15, .ref a16, .ref a17, .ref a18, .ref a19])), (a1, .inl (cI, 5, .inl (fun _ => 0))), (a2, .inl (cI, 24, .inl (fun _ => 0))), (a3, .inl (cI, 5, .inl (upd (upd (fun _ => 0) 0 2) 1 1))), (a4, .inl (cI, 24, .inl (fun _ => 0))), (a5, .inl (cI, 8, .inl (fun _ => 0))), (a6, .inl (cI, 8, .inl (fun _ => 0))), (a7, .inl (cI, 8, .inl (fun _ => 0))), (a8, .inl (cI, 48, .inl (fun _ => 0))), (a9, .inl (cI, 24, .inl (fun _ => 0))), (a10, .inl (cI, 3, .inl (fun _ => 0))), (a11, .inl (cZ, 256, .inl (fun _ => 0))), (a12, .inl (cI, 100, .inl (fun _ => 0))), (a13, .inl (cI, 256, .inl (fun _ => 0))), (a14, .inl (cZ, 2, .inl (fun _ => 0))), (a15, .inl (cI, 16, .inl (fun _ => 0))), (a16, .inl (cI, 16, .inl (fun _ => 0))), (a17, .inl (cI, 16, .inl (fun _ => 0))), (a18, .inl (cI, 48, .inl (fun _ => 0))), (a19, .inl (cI, 4, .inl (fun _ => 0)))]) 3 rfl vin_1_5 rfl dX5_init_166 ?_
  refine s_aload_n E 0 rfl dX5_init_167 rfl ?_
  refine s_get E (v := .ref a3) 0 3 in_X5 rfl rfl (by decide) m_f_X5_16 rfl dX5_init_168 ?_
  refine s_iconst E (v := 2) dX5_init_171 ki_2 ?_
  refine s_iconst E (v := 1) dX5_init_172 ki_1 ?_
  refine s_iast E (i := 2) (w' := [(h0, .inr (5, [.ref a1, .ref a2, .int 0, .ref a3, .ref a4, .int 0, .ref a5, .ref a6, .ref a7, .int 0, .ref a8, .int 0, .int 0, .int 0, .int 0, .ref a9, .ref a10, .int 0, .int 0, .int 0, .ref a11, .ref a12, .ref a13, .ref a14, .ref a15, .ref a16, .ref a17, .ref a18, .ref a19])), (a1, .inl (cI, 5, .inl (fun _ => 0))), (a2, .inl (cI, 24, .inl (fun _ => 0))), (a3, .inl (cI, 5, .inl (upd (upd (upd (fun _ => 0) 0 2) 1 1) 2 1))), (a4, .inl (cI, 24, .inl (fun _ => 0))), (a5, .inl (cI, 8, .inl (fun _ => 0))), (a6, .inl (cI, 8, .inl (fun _ => 0))), (a7, .inl (cI, 8, .inl (fun _ => 0))), (a8, .inl (cI, 48, .inl (fun _ => 0))), (a9, .inl (cI, 24, .inl (fun _ => 0))), (a10, .inl (cI, 3, .inl (fun _ => 0))), (a11, .inl (cZ, 256, .inl (fun _ => 0))), (a12, .inl (cI, 100, .inl (fun _ => 0))), (a13, .inl (cI, 256, .inl (fun _ => 0))), (a14, .inl (cZ, 2, .inl (fun _ => 0))), (a15, .inl (cI, 16, .inl (fun _ => 0))), (a16, .inl (cI, 16, .inl (fun _ => 0))), (a17, .inl (cI, 16, .inl (fun _ => 0))), (a18, .inl (cI, 48, .inl (fun _ => 0))), (a19, .inl (cI, 4, .inl (fun _ => 0)))]) 3 rfl vin_2_5 rfl dX5_init_173 ?_
  refine s_aload_n E 0 rfl dX5_init_174 rfl ?_
  refine s_get E (v := .ref a3) 0 3 in_X5 rfl rfl (by decide) m_f_X5_16 rfl dX5_init_175 ?_
  refine s_iconst E (v := 3) dX5_init_178 ki_3 ?_
  refine s_bipush E (v := 8) dX5_init_179 kb_8 ?_
  refine s_iast E (i := 3) (w' := [(h0, .inr (5, [.ref a1, .ref a2, .int 0, .ref a3, .ref a4, .int 0, .ref a5, .ref a6, .ref a7, .int 0, .ref a8, .int 0, .int 0, .int 0, .int 0, .ref a9, .ref a10, .int 0, .int 0, .int 0, .ref a11, .ref a12, .ref a13, .ref a14, .ref a15, .ref a16, .ref a17, .ref a18, .ref a19])), (a1, .inl (cI, 5, .inl (fun _ => 0))), (a2, .inl (cI, 24, .inl (fun _ => 0))), (a3, .inl (cI, 5, .inl (upd (upd (upd (upd (fun _ => 0) 0 2) 1 1) 2 1) 3 8))), (a4, .inl (cI, 24, .inl (fun _ => 0))), (a5, .inl (cI, 8, .inl (fun _ => 0))), (a6, .inl (cI, 8, .inl (fun _ => 0))), (a7, .inl (cI, 8, .inl (fun _ => 0))), (a8, .inl (cI, 48, .inl (fun _ => 0))), (a9, .inl (cI, 24, .inl (fun _ => 0))), (a10, .inl (cI, 3, .inl (fun _ => 0))), (a11, .inl (cZ, 256, .inl (fun _ => 0))), (a12, .inl (cI, 100, .inl (fun _ => 0))), (a13, .inl (cI, 256, .inl (fun _ => 0))), (a14, .inl (cZ, 2, .inl (fun _ => 0))), (a15, .inl (cI, 16, .inl (fun _ => 0))), (a16, .inl (cI, 16, .inl (fun _ => 0))), (a17, .inl (cI, 16, .inl (fun _ => 0))), (a18, .inl (cI, 48, .inl (fun _ => 0))), (a19, .inl (cI, 4, .inl (fun _ => 0)))]) 3 rfl vin_3_5 rfl dX5_init_181 ?_
  exact s_nret E (fun k => [h0, a1, a2, a3, a4, a5, a6, a7, a8, a9, a10, a11, a12, a13, a14, a15, a16, a17, a18, a19].getD k 0) rfl dX5_init_182
