section
variable {p : Program} {l : Launch} {e : Env} {s : State} {m : MethodId} {args : Array Value} {below : List Frame} {meth : Method} {c : Code} {Q : State → Prop} {A : Nat → Prop} {dC : Nat → ClassId} {dI : Nat → Nat → Nat} {cI cZ : ClassId}
abbrev rm_X3_append : Room := { frames := 0, cells := 0, slots := 0, locals := 0 }
section
noncomputable def f_X3_append_L5 (x2 : Int64) : Nat → (Nat → Nat → Int32) → Int32 → Option (Nat → Nat → Int32)
  | 0, _, _ => none
  | n + 1, σ, y4 =>
    (if y4 < 0 then (some σ) else (if 48 ≤ (σ 1 1) then (some σ) else (chk (σ 1 1) 48 (f_X3_append_L5 x2 n (up2 (up2 σ 2 ((σ 1 1).toNatClampNeg) ((ushL x2 (8 * y4)).toInt32 &&& 255)) 1 1 ((σ 1 1) + 1)) (y4 + (-1))))))
set_option maxRecDepth 100000 in
set_option maxHeartbeats 4000000 in
theorem w_X3_append_L5 (E : EV p s m args meth c dC dI cI cZ cX3_append 5 RX3 none) (q : Nat → Nat) (x2 : Int64) : ∀ (n : Nat) (σ : Nat → Nat → Int32) (y4 : Int32) (z : (Nat → Nat → Int32)), f_X3_append_L5 x2 n σ y4 = some z → GG p l e rm_X3_append s m args below meth c Q A dC dI 5 (wX cI q z) 56 [(0, .ref (q 1)), (2, .long x2)] [] → GG p l e rm_X3_append s m args below meth c Q A dC dI 5 (wX cI q σ) 5 [(0, .ref (q 1)), (2, .long x2), (4, .int y4)] [] := by
  intro n
  induction n with
  | zero =>
    intro σ y4 z h
    rw [f_X3_append_L5] at h
    cases h
  | succ n ih =>
    intro σ y4 z h hK
    rw [f_X3_append_L5] at h
    refine s_iload E 2 rfl dX3_append_5 ?_
    refine s_if_lt E 56 dX3_append_7 (by decide) (fun c1 => ?_) (fun c1 => ?_)
    · have h := (if_pos c1).symm.trans h
      refine s_sub E (lv' := [(0, .ref (q 1)), (2, .long x2)]) [0, 1] rfl ?_
      obtain rfl := Option.some.inj h
      exact hK
    · have h := (if_neg c1).symm.trans h
      refine s_aload_n E 0 rfl dX3_append_10 rfl ?_
      refine s_geti E (y := (σ 1 1)) 1 1 in_X3 gX_1 rfl (by decide) m_f_X3_15 rfl rfl dX3_append_11 ?_
      refine s_bipush E (v := 48) dX3_append_14 kb_48 ?_
      refine s_icmp_ge E 56 dX3_append_16 (by decide) (fun c2 => ?_) (fun c2 => ?_)
      · have h := (if_pos c2).symm.trans h
        refine s_sub E (lv' := [(0, .ref (q 1)), (2, .long x2)]) [0, 1] rfl ?_
        obtain rfl := Option.some.inj h
        exact hK
      · have h := (if_neg c2).symm.trans h
        refine s_aload_n E 0 rfl dX3_append_19 rfl ?_
        refine s_get E (v := .ref (q 2)) 1 0 in_X3 gX_1 rfl (by decide) m_f_X3_9 rfl dX3_append_20 ?_
        refine s_aload_n E 0 rfl dX3_append_23 rfl ?_
        refine s_geti E (y := (σ 1 1)) 1 1 in_X3 gX_1 rfl (by decide) m_f_X3_15 rfl rfl dX3_append_24 ?_
        refine s_lload_n E 1 rfl dX3_append_27 rfl ?_
        refine s_bipush E (v := 8) dX3_append_28 kb_8 ?_
        refine s_iload E 2 rfl dX3_append_30 ?_
        refine s_imul E dX3_append_32 ?_
        refine s_lushr E dX3_append_33 ?_
        refine s_l2i E dX3_append_34 ?_
        refine s_sipush E (v := 255) dX3_append_35 ks_255 ?_
        refine s_iand E dX3_append_38 ?_
        obtain ⟨b3, h⟩ := chk_some h
        refine s_iast E (w' := (wX cI q (up2 σ 2 ((σ 1 1).toNatClampNeg) ((ushL x2 (8 * y4)).toInt32 &&& 255)))) 2 gX_2 b3 aX_2 dX3_append_39 ?_
        refine s_aload_n E 0 rfl dX3_append_40 rfl ?_
        refine s_dup E dX3_append_41 rfl ?_
        refine s_geti E (y := (σ 1 1)) 1 1 in_X3 gX_1 rfl (by decide) m_f_X3_15 rfl (up2_n rfl) dX3_append_42 ?_
        refine s_iconst E (v := 1) dX3_append_45 ki_1 ?_
        refine s_iadd E dX3_append_46 ?_
        refine s_put E (w' := (wX cI q (up2 (up2 σ 2 ((σ 1 1).toNatClampNeg) ((ushL x2 (8 * y4)).toInt32 &&& 255)) 1 1 ((σ 1 1) + 1)))) (v := .int ((σ 1 1) + 1)) 1 1 tyX3 tyX3_ok nmX3 in_X3 gX_1 rfl (by decide) m_f_X3_15 rfl (tyX3_ok 1 (by decide)) rfl rfl (Nat.le_of_ble_eq_true rfl) fX_1_1 dX3_append_47 ?_
        refine s_iinc E (v := (y4 + (-1))) (lv' := [(0, .ref (q 1)), (2, .long x2), (4, .int (y4 + (-1)))]) 2 rfl dX3_append_50 ki_m1 rfl rfl rfl rfl (by decide) ?_
        refine s_goto E 5 dX3_append_53 (by decide) ?_
        exact ih (up2 (up2 σ 2 ((σ 1 1).toNatClampNeg) ((ushL x2 (8 * y4)).toInt32 &&& 255)) 1 1 ((σ 1 1) + 1)) (y4 + (-1)) z h hK
noncomputable def f_X3_append (σ : Nat → Nat → Int32) (x1 : Int32) (x2 : Int64) : Option (Nat → Nat → Int32) :=
  ((f_X3_append_L5 x2 fuel σ (x1 - 1)).bind fun u4 => (some u4))
set_option maxRecDepth 100000 in
set_option maxHeartbeats 4000000 in
theorem c_X3_append (q : Nat → Nat) (σ : Nat → Nat → Int32) (x1 : Int32) (x2 : Int64) (z : (Nat → Nat → Int32)) (h : f_X3_append σ x1 x2 = some z) : CT l dC dI cI cZ A yX3_append cX3_append 5 none rm_X3_append [.ref (q 1), .int x1, .long x2] (wX cI q σ) (wX cI q z) none := by
  refine b_met (by decide) (Nat.le_of_ble_eq_true rfl) ?_
  intro p e s m below meth c E
  have E : EV p s m _ meth c dC dI cI cZ cX3_append 5 RX3 none := E
  show GG p l e rm_X3_append s m _ below meth c _ A dC dI 5 (wX cI q σ) 0 [(0, .ref (q 1)), (1, .int x1), (2, .long x2)] []
  unfold f_X3_append at h
  refine s_iload_n E 1 rfl dX3_append_0 rfl ?_
  refine s_iconst E (v := 1) dX3_append_1 ki_1 ?_
  refine s_isub E dX3_append_2 ?_
  refine s_istore E (lv' := [(0, .ref (q 1)), (1, .int x1), (2, .long x2), (4, .int (x1 - 1))]) dX3_append_3 rfl rfl rfl (by decide) ?_
  refine s_sub E (lv' := [(0, .ref (q 1)), (2, .long x2), (4, .int (x1 - 1))]) [0, 2, 3] rfl ?_
  obtain ⟨u4, e4, h⟩ := bnd_some h
  refine w_X3_append_L5 E q x2 fuel σ (x1 - 1) u4 e4 ?_
  obtain rfl := Option.some.inj h
  exact s_vret E rfl dX3_append_56
end
abbrev rm_X3_byteAt : Room := { frames := 0, cells := 0, slots := 0, locals := 0 }
section
noncomputable def f_X3_byteAt (σ : Nat → Nat → Int32) (x1 : Int32) : Option Int32 :=
  (if x1 < 0 then (some 0) else (if (σ 1 1) ≤ x1 then (some 0) else (if 48 ≤ x1 then (some 0) else (chk x1 48 (some (σ 2 (x1.toNatClampNeg)))))))
set_option maxRecDepth 100000 in
set_option maxHeartbeats 4000000 in
theorem c_X3_byteAt (q : Nat → Nat) (σ : Nat → Nat → Int32) (x1 : Int32) (z : Int32) (h : f_X3_byteAt σ x1 = some z) : CT l dC dI cI cZ A yX3_byteAt cX3_byteAt 2 (some .int) rm_X3_byteAt [.ref (q 1), .int x1] (wX cI q σ) (wX cI q σ) (some (.int z)) := by
  refine b_met (by decide) (Nat.le_of_ble_eq_true rfl) ?_
  intro p e s m below meth c E
  have E : EV p s m _ meth c dC dI cI cZ cX3_byteAt 2 RX3 (some .int) := E
  show GG p l e rm_X3_byteAt s m _ below meth c _ A dC dI 2 (wX cI q σ) 0 [(0, .ref (q 1)), (1, .int x1)] []
  unfold f_X3_byteAt at h
  refine s_iload_n E 1 rfl dX3_byteAt_0 rfl ?_
  refine s_if_lt E 27 dX3_byteAt_1 (by decide) (fun c1 => ?_) (fun c1 => ?_)
  · have h := (if_pos c1).symm.trans h
    refine s_iconst E (v := 0) dX3_byteAt_27 ki_0 ?_
    obtain rfl := Option.some.inj h
    exact s_iret E rfl rfl dX3_byteAt_28
  · have h := (if_neg c1).symm.trans h
    refine s_iload_n E 1 rfl dX3_byteAt_4 rfl ?_
    refine s_aload_n E 0 rfl dX3_byteAt_5 rfl ?_
    refine s_geti E (y := (σ 1 1)) 1 1 in_X3 gX_1 rfl (by decide) m_f_X3_15 rfl rfl dX3_byteAt_6 ?_
    refine s_icmp_ge E 27 dX3_byteAt_9 (by decide) (fun c2 => ?_) (fun c2 => ?_)
    · have h := (if_pos c2).symm.trans h
      refine s_iconst E (v := 0) dX3_byteAt_27 ki_0 ?_
      obtain rfl := Option.some.inj h
      exact s_iret E rfl rfl dX3_byteAt_28
    · have h := (if_neg c2).symm.trans h
      refine s_iload_n E 1 rfl dX3_byteAt_12 rfl ?_
      refine s_bipush E (v := 48) dX3_byteAt_13 kb_48 ?_
      refine s_icmp_ge E 27 dX3_byteAt_15 (by decide) (fun c3 => ?_) (fun c3 => ?_)
      · have h := (if_pos c3).symm.trans h
        refine s_iconst E (v := 0) dX3_byteAt_27 ki_0 ?_
        obtain rfl := Option.some.inj h
        exact s_iret E rfl rfl dX3_byteAt_28
      · have h := (if_neg c3).symm.trans h
        refine s_aload_n E 0 rfl dX3_byteAt_18 rfl ?_
        refine s_get E (v := .ref (q 2)) 1 0 in_X3 gX_1 rfl (by decide) m_f_X3_9 rfl dX3_byteAt_19 ?_
        refine s_iload_n E 1 rfl dX3_byteAt_22 rfl ?_
        obtain ⟨b4, h⟩ := chk_some h
        refine s_iald E (v := (σ 2 (x1.toNatClampNeg))) 2 gX_2 b4 rfl dX3_byteAt_23 ?_
        refine s_goto E 28 dX3_byteAt_24 (by decide) ?_
        obtain rfl := Option.some.inj h
        exact s_iret E rfl rfl dX3_byteAt_28
end
abbrev rm_X3_figure : Room := { frames := 1, cells := 0, slots := 0, locals := 21 }
section
noncomputable def f_X3_figure (σ : Nat → Nat → Int32) (x1 : Int32) : Option Int32 :=
  ((f_X3_byteAt σ x1).bind fun u1 => (some (u1 - 48)))
set_option maxRecDepth 100000 in
set_option maxHeartbeats 4000000 in
theorem c_X3_figure (q : Nat → Nat) (σ : Nat → Nat → Int32) (x1 : Int32) (z : Int32) (h : f_X3_figure σ x1 = some z) : CT l dC dI cI cZ A yX3_figure cX3_figure 2 (some .int) rm_X3_figure [.ref (q 1), .int x1] (wX cI q σ) (wX cI q σ) (some (.int z)) := by
  refine b_met (by decide) (Nat.le_of_ble_eq_true rfl) ?_
  intro p e s m below meth c E
  have E : EV p s m _ meth c dC dI cI cZ cX3_figure 2 RX3 (some .int) := E
  show GG p l e rm_X3_figure s m _ below meth c _ A dC dI 2 (wX cI q σ) 0 [(0, .ref (q 1)), (1, .int x1)] []
  unfold f_X3_figure at h
  refine s_aload_n E 0 rfl dX3_figure_0 rfl ?_
  refine s_iload_n E 1 rfl dX3_figure_1 rfl ?_
  obtain ⟨u1, e1, h⟩ := bnd_some h
  refine s_callVi E kf_X3_byteAt m_l_X3_26 (c_X3_byteAt q σ x1 u1 e1) ⟨rfl, rfl, by decide, by decide⟩ (q0 := 1) rfl rfl rfl rfl rfl (Nat.le_of_ble_eq_true rfl) dX3_figure_2 ?_
  refine s_bipush E (v := 48) dX3_figure_5 kb_48 ?_
  refine s_isub E dX3_figure_7 ?_
  obtain rfl := Option.some.inj h
  exact s_iret E rfl rfl dX3_figure_8
end
abbrev rm_X3_isFigure : Room := { frames := 2, cells := 0, slots := 0, locals := 42 }
section
noncomputable def f_X3_isFigure (σ : Nat → Nat → Int32) (x1 : Int32) (x2 : Int32) (x3 : Int32) : Option Int32 :=
  ((f_X3_figure σ x1).bind fun u1 => (if u1 < x2 then (some 0) else ((f_X3_figure σ x1).bind fun u3 => (if x3 < u3 then (some 0) else (some 1)))))
set_option maxRecDepth 100000 in
set_option maxHeartbeats 4000000 in
theorem c_X3_isFigure (q : Nat → Nat) (σ : Nat → Nat → Int32) (x1 : Int32) (x2 : Int32) (x3 : Int32) (z : Int32) (h : f_X3_isFigure σ x1 x2 x3 = some z) : CT l dC dI cI cZ A yX3_isFigure cX3_isFigure 4 (some .boolean) rm_X3_isFigure [.ref (q 1), .int x1, .int x2, .int x3] (wX cI q σ) (wX cI q σ) (some (.int z)) := by
  refine b_met (by decide) (Nat.le_of_ble_eq_true rfl) ?_
  intro p e s m below meth c E
  have E : EV p s m _ meth c dC dI cI cZ cX3_isFigure 4 RX3 (some .boolean) := E
  show GG p l e rm_X3_isFigure s m _ below meth c _ A dC dI 4 (wX cI q σ) 0 [(0, .ref (q 1)), (1, .int x1), (2, .int x2), (3, .int x3)] []
  unfold f_X3_isFigure at h
  refine s_aload_n E 0 rfl dX3_isFigure_0 rfl ?_
  refine s_iload_n E 1 rfl dX3_isFigure_1 rfl ?_
  obtain ⟨u1, e1, h⟩ := bnd_some h
  refine s_callVi E kf_X3_figure m_l_X3_34 (c_X3_figure q σ x1 u1 e1) ⟨rfl, rfl, by decide, by decide⟩ (q0 := 1) rfl rfl rfl rfl rfl (Nat.le_of_ble_eq_true rfl) dX3_isFigure_2 ?_
  refine s_iload_n E 2 rfl dX3_isFigure_5 rfl ?_
  refine s_icmp_lt E 22 dX3_isFigure_6 (by decide) (fun c2 => ?_) (fun c2 => ?_)
  · have h := (if_pos c2).symm.trans h
    refine s_iconst E (v := 0) dX3_isFigure_22 ki_0 ?_
    obtain rfl := Option.some.inj h
    exact s_zret E rfl rfl rfl dX3_isFigure_23
  · have h := (if_neg c2).symm.trans h
    refine s_aload_n E 0 rfl dX3_isFigure_9 rfl ?_
    refine s_iload_n E 1 rfl dX3_isFigure_10 rfl ?_
    obtain ⟨u3, e3, h⟩ := bnd_some h
    refine s_callVi E kf_X3_figure m_l_X3_34 (c_X3_figure q σ x1 u3 e3) ⟨rfl, rfl, by decide, by decide⟩ (q0 := 1) rfl rfl rfl rfl rfl (Nat.le_of_ble_eq_true rfl) dX3_isFigure_11 ?_
    refine s_iload_n E 3 rfl dX3_isFigure_14 rfl ?_
    refine s_icmp_gt E 22 dX3_isFigure_15 (by decide) (fun c4 => ?_) (fun c4 => ?_)
    · have h := (if_pos c4).symm.trans h
      refine s_iconst E (v := 0) dX3_isFigure_22 ki_0 ?_
      obtain rfl := Option.some.inj h
      exact s_zret E rfl rfl rfl dX3_isFigure_23
    · have h := (if_neg c4).symm.trans h
      refine s_iconst E (v := 1) dX3_isFigure_18 ki_1 ?_
      refine s_goto E 23 dX3_isFigure_19 (by decide) ?_
      obtain rfl := Option.some.inj h
      exact s_zret E rfl rfl rfl dX3_isFigure_23
end
abbrev rm_X3_mayStandInPerson : Room := { frames := 3, cells := 0, slots := 0, locals := 65 }
section
noncomputable def f_X3_mayStandInPerson (σ : Nat → Nat → Int32) (x1 : Int32) : Option Int32 :=
  (if (rem (x1 - 6) 5) = 0 then ((f_X3_byteAt σ x1).bind fun u2 => (if u2 = 80 then (some 1) else (some 0))) else (if (rem (x1 - 6) 5) = 2 then ((f_X3_figure σ (x1 - 1)).bind fun u5 => (if u5 = 0 then ((f_X3_isFigure σ x1 1 9).bind fun u7 => (chb u7 (some u7))) else ((f_X3_isFigure σ x1 0 9).bind fun u9 => (chb u9 (some u9))))) else (if (rem (x1 - 6) 5) = 4 then ((f_X3_figure σ x1).bind fun u12 => (if u12 = 3 then (some 1) else ((f_X3_figure σ 1).bind fun u14 => ((f_X3_isFigure σ x1 0 (u14 - 1)).bind fun u15 => (if u15 = 0 then (some 0) else (some 1)))))) else ((f_X3_isFigure σ x1 0 9).bind fun u17 => (chb u17 (some u17))))))
set_option maxRecDepth 100000 in
set_option maxHeartbeats 4000000 in
theorem c_X3_mayStandInPerson (q : Nat → Nat) (σ : Nat → Nat → Int32) (x1 : Int32) (z : Int32) (h : f_X3_mayStandInPerson σ x1 = some z) : CT l dC dI cI cZ A yX3_mayStandInPerson cX3_mayStandInPerson 2 (some .boolean) rm_X3_mayStandInPerson [.ref (q 1), .int x1] (wX cI q σ) (wX cI q σ) (some (.int z)) := by
  refine b_met (by decide) (Nat.le_of_ble_eq_true rfl) ?_
  intro p e s m below meth c E
  have E : EV p s m _ meth c dC dI cI cZ cX3_mayStandInPerson 2 RX3 (some .boolean) := E
  show GG p l e rm_X3_mayStandInPerson s m _ below meth c _ A dC dI 2 (wX cI q σ) 0 [(0, .ref (q 1)), (1, .int x1)] []
  unfold f_X3_mayStandInPerson at h
  refine s_iload_n E 1 rfl dX3_mayStandInPerson_0 rfl ?_
  refine s_bipush E (v := 6) dX3_mayStandInPerson_1 kb_6 ?_
  refine s_isub E dX3_mayStandInPerson_3 ?_
  refine s_iconst E (v := 5) dX3_mayStandInPerson_4 ki_5 ?_
  refine s_irem E dX3_mayStandInPerson_5 nez_5 ?_
  by_cases c1 : (rem (x1 - 6) 5) = 0
  · have h := (if_pos c1).symm.trans h
    refine s_swIn E 40 dX3_mayStandInPerson_6 (by rw [c1]; decide) (by rw [c1]; decide) (off := 34) (by rw [c1]; decide) (by decide) ?_
    refine s_aload_n E 0 rfl dX3_mayStandInPerson_40 rfl ?_
    refine s_iload_n E 1 rfl dX3_mayStandInPerson_41 rfl ?_
    obtain ⟨u2, e2, h⟩ := bnd_some h
    refine s_callVi E kf_X3_byteAt m_l_X3_26 (c_X3_byteAt q σ x1 u2 e2) ⟨rfl, rfl, by decide, by decide⟩ (q0 := 1) rfl rfl rfl rfl rfl (Nat.le_of_ble_eq_true rfl) dX3_mayStandInPerson_42 ?_
    refine s_bipush E (v := 80) dX3_mayStandInPerson_45 kb_80 ?_
    refine s_icmp_ne E 54 dX3_mayStandInPerson_47 (by decide) (fun c3 => ?_) (fun c3 => ?_)
    · have h := (if_pos c3).symm.trans h
      refine s_iconst E (v := 1) dX3_mayStandInPerson_50 ki_1 ?_
      refine s_goto E 55 dX3_mayStandInPerson_51 (by decide) ?_
      obtain rfl := Option.some.inj h
      exact s_zret E rfl rfl rfl dX3_mayStandInPerson_55
    · have h := (if_neg c3).symm.trans h
      refine s_iconst E (v := 0) dX3_mayStandInPerson_54 ki_0 ?_
      obtain rfl := Option.some.inj h
      exact s_zret E rfl rfl rfl dX3_mayStandInPerson_55
  · have h := (if_neg c1).symm.trans h
    by_cases c4 : (rem (x1 - 6) 5) = 2
    · have h := (if_pos c4).symm.trans h
      refine s_swIn E 56 dX3_mayStandInPerson_6 (by rw [c4]; decide) (by rw [c4]; decide) (off := 50) (by rw [c4]; decide) (by decide) ?_
      refine s_aload_n E 0 rfl dX3_mayStandInPerson_56 rfl ?_
      refine s_iload_n E 1 rfl dX3_mayStandInPerson_57 rfl ?_
      refine s_aload_n E 0 rfl dX3_mayStandInPerson_58 rfl ?_
      refine s_iload_n E 1 rfl dX3_mayStandInPerson_59 rfl ?_
      refine s_iconst E (v := 1) dX3_mayStandInPerson_60 ki_1 ?_
      refine s_isub E dX3_mayStandInPerson_61 ?_
      obtain ⟨u5, e5, h⟩ := bnd_some h
      refine s_callVi E kf_X3_figure m_l_X3_34 (c_X3_figure q σ (x1 - 1) u5 e5) ⟨rfl, rfl, by decide, by decide⟩ (q0 := 1) rfl rfl rfl rfl rfl (Nat.le_of_ble_eq_true rfl) dX3_mayStandInPerson_62 ?_
      refine s_if_ne E 72 dX3_mayStandInPerson_65 (by decide) (fun c6 => ?_) (fun c6 => ?_)
      · have h := (if_pos c6).symm.trans h
        refine s_iconst E (v := 1) dX3_mayStandInPerson_68 ki_1 ?_
        refine s_goto E 73 dX3_mayStandInPerson_69 (by decide) ?_
        refine s_bipush E (v := 9) dX3_mayStandInPerson_73 kb_9 ?_
        obtain ⟨u7, e7, h⟩ := bnd_some h
        refine s_callVi E kf_X3_isFigure m_l_X3_30 (c_X3_isFigure q σ x1 1 9 u7 e7) ⟨rfl, rfl, by decide, by decide⟩ (q0 := 1) rfl rfl rfl rfl rfl (Nat.le_of_ble_eq_true rfl) dX3_mayStandInPerson_75 ?_
        obtain ⟨b8, h⟩ := chb_some h
        obtain rfl := Option.some.inj h
        exact s_zret E b8 rfl rfl dX3_mayStandInPerson_78
      · have h := (if_neg c6).symm.trans h
        refine s_iconst E (v := 0) dX3_mayStandInPerson_72 ki_0 ?_
        refine s_bipush E (v := 9) dX3_mayStandInPerson_73 kb_9 ?_
        obtain ⟨u9, e9, h⟩ := bnd_some h
        refine s_callVi E kf_X3_isFigure m_l_X3_30 (c_X3_isFigure q σ x1 0 9 u9 e9) ⟨rfl, rfl, by decide, by decide⟩ (q0 := 1) rfl rfl rfl rfl rfl (Nat.le_of_ble_eq_true rfl) dX3_mayStandInPerson_75 ?_
        obtain ⟨b10, h⟩ := chb_some h
        obtain rfl := Option.some.inj h
        exact s_zret E b10 rfl rfl dX3_mayStandInPerson_78
    · have h := (if_neg c4).symm.trans h
      by_cases c11 : (rem (x1 - 6) 5) = 4
      · have h := (if_pos c11).symm.trans h
        refine s_swIn E 79 dX3_mayStandInPerson_6 (by rw [c11]; decide) (by rw [c11]; decide) (off := 73) (by rw [c11]; decide) (by decide) ?_
        refine s_aload_n E 0 rfl dX3_mayStandInPerson_79 rfl ?_
        refine s_iload_n E 1 rfl dX3_mayStandInPerson_80 rfl ?_
        obtain ⟨u12, e12, h⟩ := bnd_some h
        refine s_callVi E kf_X3_figure m_l_X3_34 (c_X3_figure q σ x1 u12 e12) ⟨rfl, rfl, by decide, by decide⟩ (q0 := 1) rfl rfl rfl rfl rfl (Nat.le_of_ble_eq_true rfl) dX3_mayStandInPerson_81 ?_
        refine s_iconst E (v := 3) dX3_mayStandInPerson_84 ki_3 ?_
        refine s_icmp_eq E 104 dX3_mayStandInPerson_85 (by decide) (fun c13 => ?_) (fun c13 => ?_)
        · have h := (if_pos c13).symm.trans h
          refine s_iconst E (v := 1) dX3_mayStandInPerson_104 ki_1 ?_
          refine s_goto E 109 dX3_mayStandInPerson_105 (by decide) ?_
          obtain rfl := Option.some.inj h
          exact s_zret E rfl rfl rfl dX3_mayStandInPerson_109
        · have h := (if_neg c13).symm.trans h
          refine s_aload_n E 0 rfl dX3_mayStandInPerson_88 rfl ?_
          refine s_iload_n E 1 rfl dX3_mayStandInPerson_89 rfl ?_
          refine s_iconst E (v := 0) dX3_mayStandInPerson_90 ki_0 ?_
          refine s_aload_n E 0 rfl dX3_mayStandInPerson_91 rfl ?_
          refine s_iconst E (v := 1) dX3_mayStandInPerson_92 ki_1 ?_
          obtain ⟨u14, e14, h⟩ := bnd_some h
          refine s_callVi E kf_X3_figure m_l_X3_34 (c_X3_figure q σ 1 u14 e14) ⟨rfl, rfl, by decide, by decide⟩ (q0 := 1) rfl rfl rfl rfl rfl (Nat.le_of_ble_eq_true rfl) dX3_mayStandInPerson_93 ?_
          refine s_iconst E (v := 1) dX3_mayStandInPerson_96 ki_1 ?_
          refine s_isub E dX3_mayStandInPerson_97 ?_
          obtain ⟨u15, e15, h⟩ := bnd_some h
          refine s_callVi E kf_X3_isFigure m_l_X3_30 (c_X3_isFigure q σ x1 0 (u14 - 1) u15 e15) ⟨rfl, rfl, by decide, by decide⟩ (q0 := 1) rfl rfl rfl rfl rfl (Nat.le_of_ble_eq_true rfl) dX3_mayStandInPerson_98 ?_
          refine s_if_eq E 108 dX3_mayStandInPerson_101 (by decide) (fun c16 => ?_) (fun c16 => ?_)
          · have h := (if_pos c16).symm.trans h
            refine s_iconst E (v := 0) dX3_mayStandInPerson_108 ki_0 ?_
            obtain rfl := Option.some.inj h
            exact s_zret E rfl rfl rfl dX3_mayStandInPerson_109
          · have h := (if_neg c16).symm.trans h
            refine s_iconst E (v := 1) dX3_mayStandInPerson_104 ki_1 ?_
            refine s_goto E 109 dX3_mayStandInPerson_105 (by decide) ?_
            obtain rfl := Option.some.inj h
            exact s_zret E rfl rfl rfl dX3_mayStandInPerson_109
      · have h := (if_neg c11).symm.trans h
        have tc1 := lv_neT (a := 0) c1 (by decide)
        have tc4 := lv_neT (a := 2) c4 (by decide)
        have tc11 := lv_neT (a := 4) c11 (by decide)
        suffices hd : GG p l e rm_X3_mayStandInPerson s m _ below meth c _ A dC dI 2 (wX cI q σ) 110 [(0, .ref (q 1)), (1, .int x1)] [] by
          by_cases c19 : (rem (x1 - 6) 5) = 1
          · exact s_swIn E 110 dX3_mayStandInPerson_6 (by rw [c19]; decide) (by rw [c19]; decide) (off := 104) (by rw [c19]; decide) (by decide) hd
          have tc19 := lv_neT (a := 1) c19 (by decide)
          by_cases c20 : (rem (x1 - 6) 5) = 3
          · exact s_swIn E 110 dX3_mayStandInPerson_6 (by rw [c20]; decide) (by rw [c20]; decide) (off := 104) (by rw [c20]; decide) (by decide) hd
          have tc20 := lv_neT (a := 3) c20 (by decide)
          exact s_swOut E 110 dX3_mayStandInPerson_6 (by omega) (by decide) hd
        refine s_aload_n E 0 rfl dX3_mayStandInPerson_110 rfl ?_
        refine s_iload_n E 1 rfl dX3_mayStandInPerson_111 rfl ?_
        refine s_iconst E (v := 0) dX3_mayStandInPerson_112 ki_0 ?_
        refine s_bipush E (v := 9) dX3_mayStandInPerson_113 kb_9 ?_
        obtain ⟨u17, e17, h⟩ := bnd_some h
        refine s_callVi E kf_X3_isFigure m_l_X3_30 (c_X3_isFigure q σ x1 0 9 u17 e17) ⟨rfl, rfl, by decide, by decide⟩ (q0 := 1) rfl rfl rfl rfl rfl (Nat.le_of_ble_eq_true rfl) dX3_mayStandInPerson_115 ?_
        obtain ⟨b18, h⟩ := chb_some h
        obtain rfl := Option.some.inj h
        exact s_zret E b18 rfl rfl dX3_mayStandInPerson_118
end
abbrev rm_X3_mayStand : Room := { frames := 4, cells := 0, slots := 0, locals := 86 }
section
noncomputable def f_X3_mayStand (σ : Nat → Nat → Int32) (x1 : Int32) : Option Int32 :=
  (if x1 < 6 then (if x1 = 0 then ((f_X3_byteAt σ 0).bind fun u3 => (if u3 = 66 then (some 1) else (some 0))) else (if x1 = 1 then ((f_X3_isFigure σ x1 2 3).bind fun u6 => (chb u6 (some u6))) else (if x1 = 2 then ((f_X3_isFigure σ x1 1 3).bind fun u9 => (chb u9 (some u9))) else (if x1 = 3 then ((f_X3_isFigure σ x1 1 3).bind fun u12 => (chb u12 (some u12))) else (if x1 = 4 then ((f_X3_isFigure σ x1 1 8).bind fun u15 => (chb u15 (some u15))) else ((f_X3_isFigure σ x1 0 9).bind fun u17 => (chb u17 (some u17)))))))) else (if 46 ≤ x1 then (some 0) else ((f_X3_mayStandInPerson σ x1).bind fun u20 => (if u20 = 0 then (some 0) else (some 1)))))
set_option maxRecDepth 100000 in
set_option maxHeartbeats 4000000 in
theorem c_X3_mayStand (q : Nat → Nat) (σ : Nat → Nat → Int32) (x1 : Int32) (z : Int32) (h : f_X3_mayStand σ x1 = some z) : CT l dC dI cI cZ A yX3_mayStand cX3_mayStand 2 (some .boolean) rm_X3_mayStand [.ref (q 1), .int x1] (wX cI q σ) (wX cI q σ) (some (.int z)) := by
  refine b_met (by decide) (Nat.le_of_ble_eq_true rfl) ?_
  intro p e s m below meth c E
  have E : EV p s m _ meth c dC dI cI cZ cX3_mayStand 2 RX3 (some .boolean) := E
  show GG p l e rm_X3_mayStand s m _ below meth c _ A dC dI 2 (wX cI q σ) 0 [(0, .ref (q 1)), (1, .int x1)] []
  unfold f_X3_mayStand at h
  refine s_iload_n E 1 rfl dX3_mayStand_0 rfl ?_
  refine s_bipush E (v := 6) dX3_mayStand_1 kb_6 ?_
  refine s_icmp_lt E 26 dX3_mayStand_3 (by decide) (fun c1 => ?_) (fun c1 => ?_)
  · have h := (if_pos c1).symm.trans h
    refine s_iload_n E 1 rfl dX3_mayStand_26 rfl ?_
    by_cases c2 : x1 = 0
    · have h := (if_pos c2).symm.trans h
      refine s_swIn E 60 dX3_mayStand_27 (by rw [c2]; decide) (by rw [c2]; decide) (off := 33) (by rw [c2]; decide) (by decide) ?_
      refine s_aload_n E 0 rfl dX3_mayStand_60 rfl ?_
      refine s_iconst E (v := 0) dX3_mayStand_61 ki_0 ?_
      obtain ⟨u3, e3, h⟩ := bnd_some h
      refine s_callVi E kf_X3_byteAt m_l_X3_26 (c_X3_byteAt q σ 0 u3 e3) ⟨rfl, rfl, by decide, by decide⟩ (q0 := 1) rfl rfl rfl rfl rfl (Nat.le_of_ble_eq_true rfl) dX3_mayStand_62 ?_
      refine s_bipush E (v := 66) dX3_mayStand_65 kb_66 ?_
      refine s_icmp_ne E 74 dX3_mayStand_67 (by decide) (fun c4 => ?_) (fun c4 => ?_)
      · have h := (if_pos c4).symm.trans h
        refine s_iconst E (v := 1) dX3_mayStand_70 ki_1 ?_
        refine s_goto E 75 dX3_mayStand_71 (by decide) ?_
        obtain rfl := Option.some.inj h
        exact s_zret E rfl rfl rfl dX3_mayStand_75
      · have h := (if_neg c4).symm.trans h
        refine s_iconst E (v := 0) dX3_mayStand_74 ki_0 ?_
        obtain rfl := Option.some.inj h
        exact s_zret E rfl rfl rfl dX3_mayStand_75
    · have h := (if_neg c2).symm.trans h
      by_cases c5 : x1 = 1
      · have h := (if_pos c5).symm.trans h
        refine s_swIn E 76 dX3_mayStand_27 (by rw [c5]; decide) (by rw [c5]; decide) (off := 49) (by rw [c5]; decide) (by decide) ?_
        refine s_aload_n E 0 rfl dX3_mayStand_76 rfl ?_
        refine s_iload_n E 1 rfl dX3_mayStand_77 rfl ?_
        refine s_iconst E (v := 2) dX3_mayStand_78 ki_2 ?_
        refine s_iconst E (v := 3) dX3_mayStand_79 ki_3 ?_
        obtain ⟨u6, e6, h⟩ := bnd_some h
        refine s_callVi E kf_X3_isFigure m_l_X3_30 (c_X3_isFigure q σ x1 2 3 u6 e6) ⟨rfl, rfl, by decide, by decide⟩ (q0 := 1) rfl rfl rfl rfl rfl (Nat.le_of_ble_eq_true rfl) dX3_mayStand_80 ?_
        obtain ⟨b7, h⟩ := chb_some h
        obtain rfl := Option.some.inj h
        exact s_zret E b7 rfl rfl dX3_mayStand_83
      · have h := (if_neg c5).symm.trans h
        by_cases c8 : x1 = 2
        · have h := (if_pos c8).symm.trans h
          refine s_swIn E 84 dX3_mayStand_27 (by rw [c8]; decide) (by rw [c8]; decide) (off := 57) (by rw [c8]; decide) (by decide) ?_
          refine s_aload_n E 0 rfl dX3_mayStand_84 rfl ?_
          refine s_iload_n E 1 rfl dX3_mayStand_85 rfl ?_
          refine s_iconst E (v := 1) dX3_mayStand_86 ki_1 ?_
          refine s_iconst E (v := 3) dX3_mayStand_87 ki_3 ?_
          obtain ⟨u9, e9, h⟩ := bnd_some h
          refine s_callVi E kf_X3_isFigure m_l_X3_30 (c_X3_isFigure q σ x1 1 3 u9 e9) ⟨rfl, rfl, by decide, by decide⟩ (q0 := 1) rfl rfl rfl rfl rfl (Nat.le_of_ble_eq_true rfl) dX3_mayStand_88 ?_
          obtain ⟨b10, h⟩ := chb_some h
          obtain rfl := Option.some.inj h
          exact s_zret E b10 rfl rfl dX3_mayStand_91
        · have h := (if_neg c8).symm.trans h
          by_cases c11 : x1 = 3
          · have h := (if_pos c11).symm.trans h
            refine s_swIn E 92 dX3_mayStand_27 (by rw [c11]; decide) (by rw [c11]; decide) (off := 65) (by rw [c11]; decide) (by decide) ?_
            refine s_aload_n E 0 rfl dX3_mayStand_92 rfl ?_
            refine s_iload_n E 1 rfl dX3_mayStand_93 rfl ?_
            refine s_iconst E (v := 1) dX3_mayStand_94 ki_1 ?_
            refine s_iconst E (v := 3) dX3_mayStand_95 ki_3 ?_
            obtain ⟨u12, e12, h⟩ := bnd_some h
            refine s_callVi E kf_X3_isFigure m_l_X3_30 (c_X3_isFigure q σ x1 1 3 u12 e12) ⟨rfl, rfl, by decide, by decide⟩ (q0 := 1) rfl rfl rfl rfl rfl (Nat.le_of_ble_eq_true rfl) dX3_mayStand_96 ?_
            obtain ⟨b13, h⟩ := chb_some h
            obtain rfl := Option.some.inj h
            exact s_zret E b13 rfl rfl dX3_mayStand_99
          · have h := (if_neg c11).symm.trans h
            by_cases c14 : x1 = 4
            · have h := (if_pos c14).symm.trans h
              refine s_swIn E 100 dX3_mayStand_27 (by rw [c14]; decide) (by rw [c14]; decide) (off := 73) (by rw [c14]; decide) (by decide) ?_
              refine s_aload_n E 0 rfl dX3_mayStand_100 rfl ?_
              refine s_iload_n E 1 rfl dX3_mayStand_101 rfl ?_
              refine s_iconst E (v := 1) dX3_mayStand_102 ki_1 ?_
              refine s_bipush E (v := 8) dX3_mayStand_103 kb_8 ?_
              obtain ⟨u15, e15, h⟩ := bnd_some h
              refine s_callVi E kf_X3_isFigure m_l_X3_30 (c_X3_isFigure q σ x1 1 8 u15 e15) ⟨rfl, rfl, by decide, by decide⟩ (q0 := 1) rfl rfl rfl rfl rfl (Nat.le_of_ble_eq_true rfl) dX3_mayStand_105 ?_
              obtain ⟨b16, h⟩ := chb_some h
              obtain rfl := Option.some.inj h
              exact s_zret E b16 rfl rfl dX3_mayStand_108
            · have h := (if_neg c14).symm.trans h
              have tc2 := lv_neT (a := 0) c2 (by decide)
              have tc5 := lv_neT (a := 1) c5 (by decide)
              have tc8 := lv_neT (a := 2) c8 (by decide)
              have tc11 := lv_neT (a := 3) c11 (by decide)
              have tc14 := lv_neT (a := 4) c14 (by decide)
              refine s_swOut E 109 dX3_mayStand_27 (by omega) (by decide) ?_
              refine s_aload_n E 0 rfl dX3_mayStand_109 rfl ?_
              refine s_iload_n E 1 rfl dX3_mayStand_110 rfl ?_
              refine s_iconst E (v := 0) dX3_mayStand_111 ki_0 ?_
              refine s_bipush E (v := 9) dX3_mayStand_112 kb_9 ?_
              obtain ⟨u17, e17, h⟩ := bnd_some h
              refine s_callVi E kf_X3_isFigure m_l_X3_30 (c_X3_isFigure q σ x1 0 9 u17 e17) ⟨rfl, rfl, by decide, by decide⟩ (q0 := 1) rfl rfl rfl rfl rfl (Nat.le_of_ble_eq_true rfl) dX3_mayStand_114 ?_
              obtain ⟨b18, h⟩ := chb_some h
              obtain rfl := Option.some.inj h
              exact s_zret E b18 rfl rfl dX3_mayStand_117
  · have h := (if_neg c1).symm.trans h
    refine s_iload_n E 1 rfl dX3_mayStand_6 rfl ?_
    refine s_bipush E (v := 46) dX3_mayStand_7 kb_46 ?_
    refine s_icmp_ge E 24 dX3_mayStand_9 (by decide) (fun c19 => ?_) (fun c19 => ?_)
    · have h := (if_pos c19).symm.trans h
      refine s_iconst E (v := 0) dX3_mayStand_24 ki_0 ?_
      obtain rfl := Option.some.inj h
      exact s_zret E rfl rfl rfl dX3_mayStand_25
    · have h := (if_neg c19).symm.trans h
      refine s_aload_n E 0 rfl dX3_mayStand_12 rfl ?_
      refine s_iload_n E 1 rfl dX3_mayStand_13 rfl ?_
      obtain ⟨u20, e20, h⟩ := bnd_some h
      refine s_callVi E kf_X3_mayStandInPerson m_l_X3_23 (c_X3_mayStandInPerson q σ x1 u20 e20) ⟨rfl, rfl, by decide, by decide⟩ (q0 := 1) rfl rfl rfl rfl rfl (Nat.le_of_ble_eq_true rfl) dX3_mayStand_14 ?_
      refine s_if_eq E 24 dX3_mayStand_17 (by decide) (fun c21 => ?_) (fun c21 => ?_)
      · have h := (if_pos c21).symm.trans h
        refine s_iconst E (v := 0) dX3_mayStand_24 ki_0 ?_
        obtain rfl := Option.some.inj h
        exact s_zret E rfl rfl rfl dX3_mayStand_25
      · have h := (if_neg c21).symm.trans h
        refine s_iconst E (v := 1) dX3_mayStand_20 ki_1 ?_
        refine s_goto E 25 dX3_mayStand_21 (by decide) ?_
        obtain rfl := Option.some.inj h
        exact s_zret E rfl rfl rfl dX3_mayStand_25
end
abbrev rm_X3_firstFault : Room := { frames := 5, cells := 0, slots := 0, locals := 107 }
section
noncomputable def f_X3_firstFault_L2 (σ : Nat → Nat → Int32) : Nat → Int32 → Option Int32
  | 0, _ => none
  | n + 1, y1 =>
    (if (σ 1 1) ≤ y1 then (if (σ 1 1) < 6 then (if (0 : Int32) = 0 then (some (σ 1 1)) else (some (-9))) else (if (rem ((σ 1 1) - 6) 5) = 0 then (if (1 : Int32) = 0 then (some (σ 1 1)) else (some (-9))) else (if (0 : Int32) = 0 then (some (σ 1 1)) else (some (-9))))) else ((f_X3_mayStand σ y1).bind fun u7 => (if u7 = 0 then (some y1) else (f_X3_firstFault_L2 σ n (y1 + 1)))))
set_option maxRecDepth 100000 in
set_option maxHeartbeats 4000000 in
theorem w_X3_firstFault_L2 (E : EV p s m args meth c dC dI cI cZ cX3_firstFault 2 RX3 (some .int)) (q : Nat → Nat) (σ : Nat → Nat → Int32) : ∀ (n : Nat) (y1 : Int32) (z : Int32), f_X3_firstFault_L2 σ n y1 = some z → GG p l e rm_X3_firstFault s m args below meth c (MQ below (CQ dC dI (some (.int z)) (wX cI q σ) A) args s 0 0 A) A dC dI 2 (wX cI q σ) 2 [(0, .ref (q 1)), (1, .int y1)] [] := by
  intro n
  induction n with
  | zero =>
    intro y1 z h
    rw [f_X3_firstFault_L2] at h
    cases h
  | succ n ih =>
    intro y1 z h
    rw [f_X3_firstFault_L2] at h
    refine s_iload_n E 1 rfl dX3_firstFault_2 rfl ?_
    refine s_aload_n E 0 rfl dX3_firstFault_3 rfl ?_
    refine s_geti E (y := (σ 1 1)) 1 1 in_X3 gX_1 rfl (by decide) m_f_X3_15 rfl rfl dX3_firstFault_4 ?_
    refine s_icmp_ge E 26 dX3_firstFault_7 (by decide) (fun c1 => ?_) (fun c1 => ?_)
    · have h := (if_pos c1).symm.trans h
      refine s_aload_n E 0 rfl dX3_firstFault_26 rfl ?_
      refine s_geti E (y := (σ 1 1)) 1 1 in_X3 gX_1 rfl (by decide) m_f_X3_15 rfl rfl dX3_firstFault_27 ?_
      refine s_bipush E (v := 6) dX3_firstFault_30 kb_6 ?_
      refine s_icmp_lt E 51 dX3_firstFault_32 (by decide) (fun c2 => ?_) (fun c2 => ?_)
      · have h := (if_pos c2).symm.trans h
        refine s_iconst E (v := 0) dX3_firstFault_51 ki_0 ?_
        refine s_istore_n E (lv' := [(0, .ref (q 1)), (1, .int 0)]) dX3_firstFault_52 rfl rfl rfl rfl (by decide) ?_
        refine s_iload_n E 1 rfl dX3_firstFault_53 rfl ?_
        refine s_if_eq E 62 dX3_firstFault_54 (by decide) (fun c3 => ?_) (fun c3 => ?_)
        · have h := (if_pos c3).symm.trans h
          refine s_aload_n E 0 rfl dX3_firstFault_62 rfl ?_
          refine s_geti E (y := (σ 1 1)) 1 1 in_X3 gX_1 rfl (by decide) m_f_X3_15 rfl rfl dX3_firstFault_63 ?_
          obtain rfl := Option.some.inj h
          exact s_iret E rfl rfl dX3_firstFault_66
        · have h := (if_neg c3).symm.trans h
          refine s_bipush E (v := (-9)) dX3_firstFault_57 kb_m9 ?_
          refine s_goto E 66 dX3_firstFault_59 (by decide) ?_
          obtain rfl := Option.some.inj h
          exact s_iret E rfl rfl dX3_firstFault_66
      · have h := (if_neg c2).symm.trans h
        refine s_aload_n E 0 rfl dX3_firstFault_35 rfl ?_
        refine s_geti E (y := (σ 1 1)) 1 1 in_X3 gX_1 rfl (by decide) m_f_X3_15 rfl rfl dX3_firstFault_36 ?_
        refine s_bipush E (v := 6) dX3_firstFault_39 kb_6 ?_
        refine s_isub E dX3_firstFault_41 ?_
        refine s_iconst E (v := 5) dX3_firstFault_42 ki_5 ?_
        refine s_irem E dX3_firstFault_43 nez_5 ?_
        refine s_if_ne E 51 dX3_firstFault_44 (by decide) (fun c4 => ?_) (fun c4 => ?_)
        · have h := (if_pos c4).symm.trans h
          refine s_iconst E (v := 1) dX3_firstFault_47 ki_1 ?_
          refine s_goto E 52 dX3_firstFault_48 (by decide) ?_
          refine s_istore_n E (lv' := [(0, .ref (q 1)), (1, .int 1)]) dX3_firstFault_52 rfl rfl rfl rfl (by decide) ?_
          refine s_iload_n E 1 rfl dX3_firstFault_53 rfl ?_
          refine s_if_eq E 62 dX3_firstFault_54 (by decide) (fun c5 => ?_) (fun c5 => ?_)
          · have h := (if_pos c5).symm.trans h
            refine s_aload_n E 0 rfl dX3_firstFault_62 rfl ?_
            refine s_geti E (y := (σ 1 1)) 1 1 in_X3 gX_1 rfl (by decide) m_f_X3_15 rfl rfl dX3_firstFault_63 ?_
            obtain rfl := Option.some.inj h
            exact s_iret E rfl rfl dX3_firstFault_66
          · have h := (if_neg c5).symm.trans h
            refine s_bipush E (v := (-9)) dX3_firstFault_57 kb_m9 ?_
            refine s_goto E 66 dX3_firstFault_59 (by decide) ?_
            obtain rfl := Option.some.inj h
            exact s_iret E rfl rfl dX3_firstFault_66
        · have h := (if_neg c4).symm.trans h
          refine s_iconst E (v := 0) dX3_firstFault_51 ki_0 ?_
          refine s_istore_n E (lv' := [(0, .ref (q 1)), (1, .int 0)]) dX3_firstFault_52 rfl rfl rfl rfl (by decide) ?_
          refine s_iload_n E 1 rfl dX3_firstFault_53 rfl ?_
          refine s_if_eq E 62 dX3_firstFault_54 (by decide) (fun c6 => ?_) (fun c6 => ?_)
          · have h := (if_pos c6).symm.trans h
            refine s_aload_n E 0 rfl dX3_firstFault_62 rfl ?_
            refine s_geti E (y := (σ 1 1)) 1 1 in_X3 gX_1 rfl (by decide) m_f_X3_15 rfl rfl dX3_firstFault_63 ?_
            obtain rfl := Option.some.inj h
            exact s_iret E rfl rfl dX3_firstFault_66
          · have h := (if_neg c6).symm.trans h
            refine s_bipush E (v := (-9)) dX3_firstFault_57 kb_m9 ?_
            refine s_goto E 66 dX3_firstFault_59 (by decide) ?_
            obtain rfl := Option.some.inj h
            exact s_iret E rfl rfl dX3_firstFault_66
    · have h := (if_neg c1).symm.trans h
      refine s_aload_n E 0 rfl dX3_firstFault_10 rfl ?_
      refine s_iload_n E 1 rfl dX3_firstFault_11 rfl ?_
      obtain ⟨u7, e7, h⟩ := bnd_some h
      refine s_callVi E kf_X3_mayStand m_l_X3_19 (c_X3_mayStand q σ y1 u7 e7) ⟨rfl, rfl, by decide, by decide⟩ (q0 := 1) rfl rfl rfl rfl rfl (Nat.le_of_ble_eq_true rfl) dX3_firstFault_12 ?_
      refine s_if_ne E 20 dX3_firstFault_15 (by decide) (fun c8 => ?_) (fun c8 => ?_)
      · have h := (if_pos c8).symm.trans h
        refine s_iload_n E 1 rfl dX3_firstFault_18 rfl ?_
        obtain rfl := Option.some.inj h
        exact s_iret E rfl rfl dX3_firstFault_19
      · have h := (if_neg c8).symm.trans h
        refine s_iinc E (v := (y1 + 1)) (lv' := [(0, .ref (q 1)), (1, .int (y1 + 1))]) 1 rfl dX3_firstFault_20 ki_1 rfl rfl rfl rfl (by decide) ?_
        refine s_goto E 2 dX3_firstFault_23 (by decide) ?_
        exact ih (y1 + 1) z h
noncomputable def f_X3_firstFault (σ : Nat → Nat → Int32) : Option Int32 :=
  (f_X3_firstFault_L2 σ fuel 0)
set_option maxRecDepth 100000 in
set_option maxHeartbeats 4000000 in
theorem c_X3_firstFault (q : Nat → Nat) (σ : Nat → Nat → Int32) (z : Int32) (h : f_X3_firstFault σ = some z) : CT l dC dI cI cZ A yX3_firstFault cX3_firstFault 2 (some .int) rm_X3_firstFault [.ref (q 1)] (wX cI q σ) (wX cI q σ) (some (.int z)) := by
  refine b_met (by decide) (Nat.le_of_ble_eq_true rfl) ?_
  intro p e s m below meth c E
  have E : EV p s m _ meth c dC dI cI cZ cX3_firstFault 2 RX3 (some .int) := E
  show GG p l e rm_X3_firstFault s m _ below meth c _ A dC dI 2 (wX cI q σ) 0 [(0, .ref (q 1))] []
  unfold f_X3_firstFault at h
  refine s_iconst E (v := 0) dX3_firstFault_0 ki_0 ?_
  refine s_istore_n E (lv' := [(0, .ref (q 1)), (1, .int 0)]) dX3_firstFault_1 rfl rfl rfl rfl (by decide) ?_
  exact w_X3_firstFault_L2 E q σ fuel 0 z h
end
abbrev rm_X0_readFrom : Room := { frames := 2, cells := 0, slots := 0, locals := 42 }
section
noncomputable def f_X0_readFrom_L65 : Nat → (Nat → Nat → Int32) → Int32 → Option (Nat → Nat → Int32)
  | 0, _, _ => none
  | n + 1, σ, y2 =>
    (if (σ 3 5) ≤ y2 then (some σ) else ((f_X3_figure σ ((6 + (y2 * 5)) + 1)).bind fun u7 => ((f_X3_figure σ ((6 + (y2 * 5)) + 2)).bind fun u8 => (chk y2 8 ((f_X3_figure (up2 σ 4 (y2.toNatClampNeg) ((10 * u7) + u8)) ((6 + (y2 * 5)) + 3)).bind fun u10 => (chk y2 8 ((f_X3_figure (up2 (up2 σ 4 (y2.toNatClampNeg) ((10 * u7) + u8)) 5 (y2.toNatClampNeg) u10) ((6 + (y2 * 5)) + 4)).bind fun u12 => (chk y2 8 (f_X0_readFrom_L65 n (up2 (up2 (up2 σ 4 (y2.toNatClampNeg) ((10 * u7) + u8)) 5 (y2.toNatClampNeg) u10) 6 (y2.toNatClampNeg) u12) (y2 + 1))))))))))
set_option maxRecDepth 100000 in
set_option maxHeartbeats 4000000 in
theorem w_X0_readFrom_L65 (E : EV p s m args meth c dC dI cI cZ cX0_readFrom 4 RX0 none) (q : Nat → Nat) : ∀ (n : Nat) (σ : Nat → Nat → Int32) (y2 : Int32) (z : (Nat → Nat → Int32)), f_X0_readFrom_L65 n σ y2 = some z → GG p l e rm_X0_readFrom s m args below meth c Q A dC dI 4 (wX cI q z) 136 [(0, .ref (q 3)), (1, .ref (q 1))] [] → GG p l e rm_X0_readFrom s m args below meth c Q A dC dI 4 (wX cI q σ) 65 [(0, .ref (q 3)), (1, .ref (q 1)), (2, .int y2)] [] := by
  intro n
  induction n with
  | zero =>
    intro σ y2 z h
    rw [f_X0_readFrom_L65] at h
    cases h
  | succ n ih =>
    intro σ y2 z h hK
    rw [f_X0_readFrom_L65] at h
    refine s_iload_n E 2 rfl dX0_readFrom_65 rfl ?_
    refine s_aload_n E 0 rfl dX0_readFrom_66 rfl ?_
    refine s_geti E (y := (σ 3 5)) 3 5 in_X0 gX_3 rfl (by decide) m_f_X0_27 rfl rfl dX0_readFrom_67 ?_
    refine s_icmp_ge E 136 dX0_readFrom_70 (by decide) (fun c6 => ?_) (fun c6 => ?_)
    · have h := (if_pos c6).symm.trans h
      refine s_sub E (lv' := [(0, .ref (q 3)), (1, .ref (q 1))]) [0, 1] rfl ?_
      obtain rfl := Option.some.inj h
      exact hK
    · have h := (if_neg c6).symm.trans h
      refine s_bipush E (v := 6) dX0_readFrom_73 kb_6 ?_
      refine s_iload_n E 2 rfl dX0_readFrom_75 rfl ?_
      refine s_iconst E (v := 5) dX0_readFrom_76 ki_5 ?_
      refine s_imul E dX0_readFrom_77 ?_
      refine s_iadd E dX0_readFrom_78 ?_
      refine s_istore_n E (lv' := [(0, .ref (q 3)), (1, .ref (q 1)), (2, .int y2), (3, .int (6 + (y2 * 5)))]) dX0_readFrom_79 rfl rfl rfl rfl (by decide) ?_
      refine s_aload_n E 0 rfl dX0_readFrom_80 rfl ?_
      refine s_get E (v := .ref (q 4)) 3 6 in_X0 gX_3 rfl (by decide) m_f_X0_30 rfl dX0_readFrom_81 ?_
      refine s_iload_n E 2 rfl dX0_readFrom_84 rfl ?_
      refine s_bipush E (v := 10) dX0_readFrom_85 kb_10 ?_
      refine s_aload_n E 1 rfl dX0_readFrom_87 rfl ?_
      refine s_iload_n E 3 rfl dX0_readFrom_88 rfl ?_
      refine s_iconst E (v := 1) dX0_readFrom_89 ki_1 ?_
      refine s_iadd E dX0_readFrom_90 ?_
      obtain ⟨u7, e7, h⟩ := bnd_some h
      refine s_callVi E kf_X3_figure m_l_X0_40 (c_X3_figure q σ ((6 + (y2 * 5)) + 1) u7 e7) ⟨rfl, rfl, by decide, by decide⟩ (q0 := 1) rfl rfl rfl rfl rfl (Nat.le_of_ble_eq_true rfl) dX0_readFrom_91 ?_
      refine s_imul E dX0_readFrom_94 ?_
      refine s_aload_n E 1 rfl dX0_readFrom_95 rfl ?_
      refine s_iload_n E 3 rfl dX0_readFrom_96 rfl ?_
      refine s_iconst E (v := 2) dX0_readFrom_97 ki_2 ?_
      refine s_iadd E dX0_readFrom_98 ?_
      obtain ⟨u8, e8, h⟩ := bnd_some h
      refine s_callVi E kf_X3_figure m_l_X0_40 (c_X3_figure q σ ((6 + (y2 * 5)) + 2) u8 e8) ⟨rfl, rfl, by decide, by decide⟩ (q0 := 1) rfl rfl rfl rfl rfl (Nat.le_of_ble_eq_true rfl) dX0_readFrom_99 ?_
      refine s_iadd E dX0_readFrom_102 ?_
      obtain ⟨b9, h⟩ := chk_some h
      refine s_iast E (w' := (wX cI q (up2 σ 4 (y2.toNatClampNeg) ((10 * u7) + u8)))) 4 gX_4 b9 aX_4 dX0_readFrom_103 ?_
      refine s_aload_n E 0 rfl dX0_readFrom_104 rfl ?_
      refine s_get E (v := .ref (q 5)) 3 7 in_X0 gX_3 rfl (by decide) m_f_X0_34 rfl dX0_readFrom_105 ?_
      refine s_iload_n E 2 rfl dX0_readFrom_108 rfl ?_
      refine s_aload_n E 1 rfl dX0_readFrom_109 rfl ?_
      refine s_iload_n E 3 rfl dX0_readFrom_110 rfl ?_
      refine s_iconst E (v := 3) dX0_readFrom_111 ki_3 ?_
      refine s_iadd E dX0_readFrom_112 ?_
      obtain ⟨u10, e10, h⟩ := bnd_some h
      refine s_callVi E kf_X3_figure m_l_X0_40 (c_X3_figure q (up2 σ 4 (y2.toNatClampNeg) ((10 * u7) + u8)) ((6 + (y2 * 5)) + 3) u10 e10) ⟨rfl, rfl, by decide, by decide⟩ (q0 := 1) rfl rfl rfl rfl rfl (Nat.le_of_ble_eq_true rfl) dX0_readFrom_113 ?_
      obtain ⟨b11, h⟩ := chk_some h
      refine s_iast E (w' := (wX cI q (up2 (up2 σ 4 (y2.toNatClampNeg) ((10 * u7) + u8)) 5 (y2.toNatClampNeg) u10))) 5 gX_5 b11 aX_5 dX0_readFrom_116 ?_
      refine s_aload_n E 0 rfl dX0_readFrom_117 rfl ?_
      refine s_get E (v := .ref (q 6)) 3 8 in_X0 gX_3 rfl (by decide) m_f_X0_37 rfl dX0_readFrom_118 ?_
      refine s_iload_n E 2 rfl dX0_readFrom_121 rfl ?_
      refine s_aload_n E 1 rfl dX0_readFrom_122 rfl ?_
      refine s_iload_n E 3 rfl dX0_readFrom_123 rfl ?_
      refine s_iconst E (v := 4) dX0_readFrom_124 ki_4 ?_
      refine s_iadd E dX0_readFrom_125 ?_
      obtain ⟨u12, e12, h⟩ := bnd_some h
      refine s_callVi E kf_X3_figure m_l_X0_40 (c_X3_figure q (up2 (up2 σ 4 (y2.toNatClampNeg) ((10 * u7) + u8)) 5 (y2.toNatClampNeg) u10) ((6 + (y2 * 5)) + 4) u12 e12) ⟨rfl, rfl, by decide, by decide⟩ (q0 := 1) rfl rfl rfl rfl rfl (Nat.le_of_ble_eq_true rfl) dX0_readFrom_126 ?_
      obtain ⟨b13, h⟩ := chk_some h
      refine s_iast E (w' := (wX cI q (up2 (up2 (up2 σ 4 (y2.toNatClampNeg) ((10 * u7) + u8)) 5 (y2.toNatClampNeg) u10) 6 (y2.toNatClampNeg) u12))) 6 gX_6 b13 aX_6 dX0_readFrom_129 ?_
      refine s_iinc E (v := (y2 + 1)) (lv' := [(0, .ref (q 3)), (1, .ref (q 1)), (2, .int (y2 + 1)), (3, .int (6 + (y2 * 5)))]) 2 rfl dX0_readFrom_130 ki_1 rfl rfl rfl rfl (by decide) ?_
      refine s_goto E 65 dX0_readFrom_133 (by decide) ?_
      refine s_sub E (lv' := [(0, .ref (q 3)), (1, .ref (q 1)), (2, .int (y2 + 1))]) [0, 1, 2] rfl ?_
      exact ih (up2 (up2 (up2 σ 4 (y2.toNatClampNeg) ((10 * u7) + u8)) 5 (y2.toNatClampNeg) u10) 6 (y2.toNatClampNeg) u12) (y2 + 1) z h hK
noncomputable def f_X0_readFrom (σ : Nat → Nat → Int32) : Option (Nat → Nat → Int32) :=
  ((f_X3_figure σ 1).bind fun u1 => ((f_X3_figure (up2 σ 3 0 u1) 2).bind fun u2 => ((f_X3_figure (up2 (up2 σ 3 0 u1) 3 1 u2) 3).bind fun u3 => ((f_X3_figure (up2 (up2 (up2 σ 3 0 u1) 3 1 u2) 3 2 u3) 4).bind fun u4 => ((f_X3_figure (up2 (up2 (up2 (up2 σ 3 0 u1) 3 1 u2) 3 2 u3) 3 3 u4) 5).bind fun u5 => ((f_X0_readFrom_L65 fuel (up2 (up2 (up2 (up2 (up2 (up2 σ 3 0 u1) 3 1 u2) 3 2 u3) 3 3 u4) 3 4 u5) 3 5 (if (((σ 1 1) - 6) / 5) < 8 then (((σ 1 1) - 6) / 5) else 8)) 0).bind fun u14 => (some u14)))))))
set_option maxRecDepth 100000 in
set_option maxHeartbeats 4000000 in
theorem c_X0_readFrom (q : Nat → Nat) (σ : Nat → Nat → Int32) (z : (Nat → Nat → Int32)) (h : f_X0_readFrom σ = some z) : CT l dC dI cI cZ A yX0_readFrom cX0_readFrom 4 none rm_X0_readFrom [.ref (q 3), .ref (q 1)] (wX cI q σ) (wX cI q z) none := by
  refine b_met (by decide) (Nat.le_of_ble_eq_true rfl) ?_
  intro p e s m below meth c E
  have E : EV p s m _ meth c dC dI cI cZ cX0_readFrom 4 RX0 none := E
  show GG p l e rm_X0_readFrom s m _ below meth c _ A dC dI 4 (wX cI q σ) 0 [(0, .ref (q 3)), (1, .ref (q 1))] []
  unfold f_X0_readFrom at h
  refine s_aload_n E 0 rfl dX0_readFrom_0 rfl ?_
  refine s_aload_n E 1 rfl dX0_readFrom_1 rfl ?_
  refine s_iconst E (v := 1) dX0_readFrom_2 ki_1 ?_
  obtain ⟨u1, e1, h⟩ := bnd_some h
  refine s_callVi E kf_X3_figure m_l_X0_40 (c_X3_figure q σ 1 u1 e1) ⟨rfl, rfl, by decide, by decide⟩ (q0 := 1) rfl rfl rfl rfl rfl (Nat.le_of_ble_eq_true rfl) dX0_readFrom_3 ?_
  refine s_put E (w' := (wX cI q (up2 σ 3 0 u1))) (v := .int u1) 3 0 tyX0 tyX0_ok nmX0 in_X0 gX_3 rfl (by decide) m_f_X0_9 rfl (tyX0_ok 0 (by decide)) rfl rfl (Nat.le_of_ble_eq_true rfl) fX_3_0 dX0_readFrom_6 ?_
  refine s_aload_n E 0 rfl dX0_readFrom_9 rfl ?_
  refine s_aload_n E 1 rfl dX0_readFrom_10 rfl ?_
  refine s_iconst E (v := 2) dX0_readFrom_11 ki_2 ?_
  obtain ⟨u2, e2, h⟩ := bnd_some h
  refine s_callVi E kf_X3_figure m_l_X0_40 (c_X3_figure q (up2 σ 3 0 u1) 2 u2 e2) ⟨rfl, rfl, by decide, by decide⟩ (q0 := 1) rfl rfl rfl rfl rfl (Nat.le_of_ble_eq_true rfl) dX0_readFrom_12 ?_
  refine s_put E (w' := (wX cI q (up2 (up2 σ 3 0 u1) 3 1 u2))) (v := .int u2) 3 1 tyX0 tyX0_ok nmX0 in_X0 gX_3 rfl (by decide) m_f_X0_15 rfl (tyX0_ok 1 (by decide)) rfl rfl (Nat.le_of_ble_eq_true rfl) fX_3_1 dX0_readFrom_15 ?_
  refine s_aload_n E 0 rfl dX0_readFrom_18 rfl ?_
  refine s_aload_n E 1 rfl dX0_readFrom_19 rfl ?_
  refine s_iconst E (v := 3) dX0_readFrom_20 ki_3 ?_
  obtain ⟨u3, e3, h⟩ := bnd_some h
  refine s_callVi E kf_X3_figure m_l_X0_40 (c_X3_figure q (up2 (up2 σ 3 0 u1) 3 1 u2) 3 u3 e3) ⟨rfl, rfl, by decide, by decide⟩ (q0 := 1) rfl rfl rfl rfl rfl (Nat.le_of_ble_eq_true rfl) dX0_readFrom_21 ?_
  refine s_put E (w' := (wX cI q (up2 (up2 (up2 σ 3 0 u1) 3 1 u2) 3 2 u3))) (v := .int u3) 3 2 tyX0 tyX0_ok nmX0 in_X0 gX_3 rfl (by decide) m_f_X0_18 rfl (tyX0_ok 2 (by decide)) rfl rfl (Nat.le_of_ble_eq_true rfl) fX_3_2 dX0_readFrom_24 ?_
  refine s_aload_n E 0 rfl dX0_readFrom_27 rfl ?_
  refine s_aload_n E 1 rfl dX0_readFrom_28 rfl ?_
  refine s_iconst E (v := 4) dX0_readFrom_29 ki_4 ?_
  obtain ⟨u4, e4, h⟩ := bnd_some h
  refine s_callVi E kf_X3_figure m_l_X0_40 (c_X3_figure q (up2 (up2 (up2 σ 3 0 u1) 3 1 u2) 3 2 u3) 4 u4 e4) ⟨rfl, rfl, by decide, by decide⟩ (q0 := 1) rfl rfl rfl rfl rfl (Nat.le_of_ble_eq_true rfl) dX0_readFrom_30 ?_
  refine s_put E (w' := (wX cI q (up2 (up2 (up2 (up2 σ 3 0 u1) 3 1 u2) 3 2 u3) 3 3 u4))) (v := .int u4) 3 3 tyX0 tyX0_ok nmX0 in_X0 gX_3 rfl (by decide) m_f_X0_21 rfl (tyX0_ok 3 (by decide)) rfl rfl (Nat.le_of_ble_eq_true rfl) fX_3_3 dX0_readFrom_33 ?_
  refine s_aload_n E 0 rfl dX0_readFrom_36 rfl ?_
  refine s_aload_n E 1 rfl dX0_readFrom_37 rfl ?_
  refine s_iconst E (v := 5) dX0_readFrom_38 ki_5 ?_
  obtain ⟨u5, e5, h⟩ := bnd_some h
  refine s_callVi E kf_X3_figure m_l_X0_40 (c_X3_figure q (up2 (up2 (up2 (up2 σ 3 0 u1) 3 1 u2) 3 2 u3) 3 3 u4) 5 u5 e5) ⟨rfl, rfl, by decide, by decide⟩ (q0 := 1) rfl rfl rfl rfl rfl (Nat.le_of_ble_eq_true rfl) dX0_readFrom_39 ?_
  refine s_put E (w' := (wX cI q (up2 (up2 (up2 (up2 (up2 σ 3 0 u1) 3 1 u2) 3 2 u3) 3 3 u4) 3 4 u5))) (v := .int u5) 3 4 tyX0 tyX0_ok nmX0 in_X0 gX_3 rfl (by decide) m_f_X0_24 rfl (tyX0_ok 4 (by decide)) rfl rfl (Nat.le_of_ble_eq_true rfl) fX_3_4 dX0_readFrom_42 ?_
  refine s_aload_n E 0 rfl dX0_readFrom_45 rfl ?_
  refine s_bipush E (v := 8) dX0_readFrom_46 kb_8 ?_
  refine s_aload_n E 1 rfl dX0_readFrom_48 rfl ?_
  refine s_geti E (y := (σ 1 1)) 1 1 in_X3 gX_1 rfl (by decide) m_f_X0_46 rfl ((up2_n rfl).trans ((up2_n rfl).trans ((up2_n rfl).trans ((up2_n rfl).trans (up2_n rfl))))) dX0_readFrom_49 ?_
  refine s_bipush E (v := 6) dX0_readFrom_52 kb_6 ?_
  refine s_isub E dX0_readFrom_54 ?_
  refine s_iconst E (v := 5) dX0_readFrom_55 ki_5 ?_
  refine s_idiv E dX0_readFrom_56 nez_5 ?_
  refine s_mmin E m_l_X0_49 (by decide) (Nat.le_of_ble_eq_true rfl) dX0_readFrom_57 ?_
  refine s_put E (w' := (wX cI q (up2 (up2 (up2 (up2 (up2 (up2 σ 3 0 u1) 3 1 u2) 3 2 u3) 3 3 u4) 3 4 u5) 3 5 (if (((σ 1 1) - 6) / 5) < 8 then (((σ 1 1) - 6) / 5) else 8)))) (v := .int (if (((σ 1 1) - 6) / 5) < 8 then (((σ 1 1) - 6) / 5) else 8)) 3 5 tyX0 tyX0_ok nmX0 in_X0 gX_3 rfl (by decide) m_f_X0_27 rfl (tyX0_ok 5 (by decide)) rfl rfl (Nat.le_of_ble_eq_true rfl) fX_3_5 dX0_readFrom_60 ?_
  refine s_iconst E (v := 0) dX0_readFrom_63 ki_0 ?_
  refine s_istore_n E (lv' := [(0, .ref (q 3)), (1, .ref (q 1)), (2, .int 0)]) dX0_readFrom_64 rfl rfl rfl rfl (by decide) ?_
  obtain ⟨u14, e14, h⟩ := bnd_some h
  refine w_X0_readFrom_L65 E q fuel (up2 (up2 (up2 (up2 (up2 (up2 σ 3 0 u1) 3 1 u2) 3 2 u3) 3 3 u4) 3 4 u5) 3 5 (if (((σ 1 1) - 6) / 5) < 8 then (((σ 1 1) - 6) / 5) else 8)) 0 u14 e14 ?_
  obtain rfl := Option.some.inj h
  exact s_vret E rfl dX0_readFrom_136
end
abbrev rm_X1_startAnew : Room := { frames := 0, cells := 0, slots := 0, locals := 0 }
section
noncomputable def f_X1_startAnew_L12 : Nat → (Nat → Nat → Int32) → Int32 → Option (Nat → Nat → Int32)
  | 0, _, _ => none
  | n + 1, σ, y2 =>
    (if 8 < y2 then (some σ) else (chk y2 9 (f_X1_startAnew_L12 n (up2 σ 8 (y2.toNatClampNeg) 0) (y2 + 1))))
set_option maxRecDepth 100000 in
set_option maxHeartbeats 4000000 in
theorem w_X1_startAnew_L12 (E : EV p s m args meth c dC dI cI cZ cX1_startAnew 3 RX1 none) (q : Nat → Nat) : ∀ (n : Nat) (σ : Nat → Nat → Int32) (y2 : Int32) (z : (Nat → Nat → Int32)), f_X1_startAnew_L12 n σ y2 = some z → GG p l e rm_X1_startAnew s m args below meth c Q A dC dI 3 (wX cI q z) 31 [(0, .ref (q 7)), (1, .ref (q 3))] [] → GG p l e rm_X1_startAnew s m args below meth c Q A dC dI 3 (wX cI q σ) 12 [(0, .ref (q 7)), (1, .ref (q 3)), (2, .int y2)] [] := by
  intro n
  induction n with
  | zero =>
    intro σ y2 z h
    rw [f_X1_startAnew_L12] at h
    cases h
  | succ n ih =>
    intro σ y2 z h hK
    rw [f_X1_startAnew_L12] at h
    refine s_iload_n E 2 rfl dX1_startAnew_12 rfl ?_
    refine s_bipush E (v := 8) dX1_startAnew_13 kb_8 ?_
    refine s_icmp_gt E 31 dX1_startAnew_15 (by decide) (fun c1 => ?_) (fun c1 => ?_)
    · have h := (if_pos c1).symm.trans h
      refine s_sub E (lv' := [(0, .ref (q 7)), (1, .ref (q 3))]) [0, 1] rfl ?_
      obtain rfl := Option.some.inj h
      exact hK
    · have h := (if_neg c1).symm.trans h
      refine s_aload_n E 0 rfl dX1_startAnew_18 rfl ?_
      refine s_get E (v := .ref (q 8)) 7 0 in_X1 gX_7 rfl (by decide) m_f_X1_9 rfl dX1_startAnew_19 ?_
      refine s_iload_n E 2 rfl dX1_startAnew_22 rfl ?_
      refine s_iconst E (v := 0) dX1_startAnew_23 ki_0 ?_
      obtain ⟨b2, h⟩ := chk_some h
      refine s_iast E (w' := (wX cI q (up2 σ 8 (y2.toNatClampNeg) 0))) 8 gX_8 b2 aX_8 dX1_startAnew_24 ?_
      refine s_iinc E (v := (y2 + 1)) (lv' := [(0, .ref (q 7)), (1, .ref (q 3)), (2, .int (y2 + 1))]) 2 rfl dX1_startAnew_25 ki_1 rfl rfl rfl rfl (by decide) ?_
      refine s_goto E 12 dX1_startAnew_28 (by decide) ?_
      exact ih (up2 σ 8 (y2.toNatClampNeg) 0) (y2 + 1) z h hK
noncomputable def f_X1_startAnew_L33 : Nat → (Nat → Nat → Int32) → Int32 → Option (Nat → Nat → Int32)
  | 0, _, _ => none
  | n + 1, σ, y2 =>
    (if 8 ≤ y2 then (some σ) else (chk y2 8 (chk y2 8 (chk y2 8 (f_X1_startAnew_L33 n (up2 (up2 σ 9 (y2.toNatClampNeg) 0) 10 (y2.toNatClampNeg) (σ 4 (y2.toNatClampNeg))) (y2 + 1))))))
set_option maxRecDepth 100000 in
set_option maxHeartbeats 4000000 in
theorem w_X1_startAnew_L33 (E : EV p s m args meth c dC dI cI cZ cX1_startAnew 3 RX1 none) (q : Nat → Nat) : ∀ (n : Nat) (σ : Nat → Nat → Int32) (y2 : Int32) (z : (Nat → Nat → Int32)), f_X1_startAnew_L33 n σ y2 = some z → GG p l e rm_X1_startAnew s m args below meth c Q A dC dI 3 (wX cI q z) 64 [(0, .ref (q 7)), (1, .ref (q 3))] [] → GG p l e rm_X1_startAnew s m args below meth c Q A dC dI 3 (wX cI q σ) 33 [(0, .ref (q 7)), (1, .ref (q 3)), (2, .int y2)] [] := by
  intro n
  induction n with
  | zero =>
    intro σ y2 z h
    rw [f_X1_startAnew_L33] at h
    cases h
  | succ n ih =>
    intro σ y2 z h hK
    rw [f_X1_startAnew_L33] at h
    refine s_iload_n E 2 rfl dX1_startAnew_33 rfl ?_
    refine s_bipush E (v := 8) dX1_startAnew_34 kb_8 ?_
    refine s_icmp_ge E 64 dX1_startAnew_36 (by decide) (fun c4 => ?_) (fun c4 => ?_)
    · have h := (if_pos c4).symm.trans h
      refine s_sub E (lv' := [(0, .ref (q 7)), (1, .ref (q 3))]) [0, 1] rfl ?_
      obtain rfl := Option.some.inj h
      exact hK
    · have h := (if_neg c4).symm.trans h
      refine s_aload_n E 0 rfl dX1_startAnew_39 rfl ?_
      refine s_get E (v := .ref (q 9)) 7 1 in_X1 gX_7 rfl (by decide) m_f_X1_15 rfl dX1_startAnew_40 ?_
      refine s_iload_n E 2 rfl dX1_startAnew_43 rfl ?_
      refine s_iconst E (v := 0) dX1_startAnew_44 ki_0 ?_
      obtain ⟨b5, h⟩ := chk_some h
      refine s_iast E (w' := (wX cI q (up2 σ 9 (y2.toNatClampNeg) 0))) 9 gX_9 b5 aX_9 dX1_startAnew_45 ?_
      refine s_aload_n E 0 rfl dX1_startAnew_46 rfl ?_
      refine s_get E (v := .ref (q 10)) 7 2 in_X1 gX_7 rfl (by decide) m_f_X1_18 rfl dX1_startAnew_47 ?_
      refine s_iload_n E 2 rfl dX1_startAnew_50 rfl ?_
      refine s_aload_n E 1 rfl dX1_startAnew_51 rfl ?_
      refine s_get E (v := .ref (q 4)) 3 6 in_X0 gX_3 rfl (by decide) m_f_X1_32 rfl dX1_startAnew_52 ?_
      refine s_iload_n E 2 rfl dX1_startAnew_55 rfl ?_
      obtain ⟨b6, h⟩ := chk_some h
      refine s_iald E (v := (σ 4 (y2.toNatClampNeg))) 4 gX_4 b6 (up2_n rfl) dX1_startAnew_56 ?_
      obtain ⟨b7, h⟩ := chk_some h
      refine s_iast E (w' := (wX cI q (up2 (up2 σ 9 (y2.toNatClampNeg) 0) 10 (y2.toNatClampNeg) (σ 4 (y2.toNatClampNeg))))) 10 gX_10 b7 aX_10 dX1_startAnew_57 ?_
      refine s_iinc E (v := (y2 + 1)) (lv' := [(0, .ref (q 7)), (1, .ref (q 3)), (2, .int (y2 + 1))]) 2 rfl dX1_startAnew_58 ki_1 rfl rfl rfl rfl (by decide) ?_
      refine s_goto E 33 dX1_startAnew_61 (by decide) ?_
      exact ih (up2 (up2 σ 9 (y2.toNatClampNeg) 0) 10 (y2.toNatClampNeg) (σ 4 (y2.toNatClampNeg))) (y2 + 1) z h hK
noncomputable def f_X1_startAnew (σ : Nat → Nat → Int32) : Option (Nat → Nat → Int32) :=
  ((f_X1_startAnew_L12 fuel (up2 (up2 σ 7 3 0) 7 4 0) 0).bind fun u3 => ((f_X1_startAnew_L33 fuel u3 0).bind fun u8 => (some u8)))
set_option maxRecDepth 100000 in
set_option maxHeartbeats 4000000 in
theorem c_X1_startAnew (q : Nat → Nat) (σ : Nat → Nat → Int32) (z : (Nat → Nat → Int32)) (h : f_X1_startAnew σ = some z) : CT l dC dI cI cZ A yX1_startAnew cX1_startAnew 3 none rm_X1_startAnew [.ref (q 7), .ref (q 3)] (wX cI q σ) (wX cI q z) none := by
  refine b_met (by decide) (Nat.le_of_ble_eq_true rfl) ?_
  intro p e s m below meth c E
  have E : EV p s m _ meth c dC dI cI cZ cX1_startAnew 3 RX1 none := E
  show GG p l e rm_X1_startAnew s m _ below meth c _ A dC dI 3 (wX cI q σ) 0 [(0, .ref (q 7)), (1, .ref (q 3))] []
  unfold f_X1_startAnew at h
  refine s_aload_n E 0 rfl dX1_startAnew_0 rfl ?_
  refine s_iconst E (v := 0) dX1_startAnew_1 ki_0 ?_
  refine s_put E (w' := (wX cI q (up2 σ 7 3 0))) (v := .int 0) 7 3 tyX1 tyX1_ok nmX1 in_X1 gX_7 rfl (by decide) m_f_X1_21 rfl (tyX1_ok 3 (by decide)) rfl rfl (Nat.le_of_ble_eq_true rfl) fX_7_3 dX1_startAnew_2 ?_
  refine s_aload_n E 0 rfl dX1_startAnew_5 rfl ?_
  refine s_iconst E (v := 0) dX1_startAnew_6 ki_0 ?_
  refine s_put E (w' := (wX cI q (up2 (up2 σ 7 3 0) 7 4 0))) (v := .int 0) 7 4 tyX1 tyX1_ok nmX1 in_X1 gX_7 rfl (by decide) m_f_X1_25 rfl (tyX1_ok 4 (by decide)) rfl rfl (Nat.le_of_ble_eq_true rfl) fX_7_4 dX1_startAnew_7 ?_
  refine s_iconst E (v := 0) dX1_startAnew_10 ki_0 ?_
  refine s_istore_n E (lv' := [(0, .ref (q 7)), (1, .ref (q 3)), (2, .int 0)]) dX1_startAnew_11 rfl rfl rfl rfl (by decide) ?_
  obtain ⟨u3, e3, h⟩ := bnd_some h
  refine w_X1_startAnew_L12 E q fuel (up2 (up2 σ 7 3 0) 7 4 0) 0 u3 e3 ?_
  refine s_iconst E (v := 0) dX1_startAnew_31 ki_0 ?_
  refine s_istore_n E (lv' := [(0, .ref (q 7)), (1, .ref (q 3)), (2, .int 0)]) dX1_startAnew_32 rfl rfl rfl rfl (by decide) ?_
  obtain ⟨u8, e8, h⟩ := bnd_some h
  refine w_X1_startAnew_L33 E q fuel u3 0 u8 e8 ?_
  obtain rfl := Option.some.inj h
  exact s_vret E rfl dX1_startAnew_64
end
abbrev rm_X0_hasPerson : Room := { frames := 0, cells := 0, slots := 0, locals := 0 }
section
noncomputable def f_X0_hasPerson (σ : Nat → Nat → Int32) (x1 : Int32) : Int32 :=
  (if x1 < 0 then 0 else (if (σ 3 5) ≤ x1 then 0 else 1))
set_option maxRecDepth 100000 in
set_option maxHeartbeats 4000000 in
theorem c_X0_hasPerson (q : Nat → Nat) (σ : Nat → Nat → Int32) (x1 : Int32) : CT l dC dI cI cZ A yX0_hasPerson cX0_hasPerson 2 (some .boolean) rm_X0_hasPerson [.ref (q 3), .int x1] (wX cI q σ) (wX cI q σ) (some (.int (f_X0_hasPerson σ x1))) := by
  refine b_met (by decide) (Nat.le_of_ble_eq_true rfl) ?_
  intro p e s m below meth c E
  have E : EV p s m _ meth c dC dI cI cZ cX0_hasPerson 2 RX0 (some .boolean) := E
  generalize h : f_X0_hasPerson σ x1 = z
  show GG p l e rm_X0_hasPerson s m _ below meth c _ A dC dI 2 (wX cI q σ) 0 [(0, .ref (q 3)), (1, .int x1)] []
  unfold f_X0_hasPerson at h
  refine s_iload_n E 1 rfl dX0_hasPerson_0 rfl ?_
  refine s_if_lt E 16 dX0_hasPerson_1 (by decide) (fun c1 => ?_) (fun c1 => ?_)
  · have h := (if_pos c1).symm.trans h
    refine s_iconst E (v := 0) dX0_hasPerson_16 ki_0 ?_
    subst h
    exact s_zret E rfl rfl rfl dX0_hasPerson_17
  · have h := (if_neg c1).symm.trans h
    refine s_iload_n E 1 rfl dX0_hasPerson_4 rfl ?_
    refine s_aload_n E 0 rfl dX0_hasPerson_5 rfl ?_
    refine s_geti E (y := (σ 3 5)) 3 5 in_X0 gX_3 rfl (by decide) m_f_X0_27 rfl rfl dX0_hasPerson_6 ?_
    refine s_icmp_ge E 16 dX0_hasPerson_9 (by decide) (fun c2 => ?_) (fun c2 => ?_)
    · have h := (if_pos c2).symm.trans h
      refine s_iconst E (v := 0) dX0_hasPerson_16 ki_0 ?_
      subst h
      exact s_zret E rfl rfl rfl dX0_hasPerson_17
    · have h := (if_neg c2).symm.trans h
      refine s_iconst E (v := 1) dX0_hasPerson_12 ki_1 ?_
      refine s_goto E 17 dX0_hasPerson_13 (by decide) ?_
      subst h
      exact s_zret E rfl rfl rfl dX0_hasPerson_17
end
abbrev rm_X1_crewOf : Room := { frames := 0, cells := 0, slots := 0, locals := 0 }
section
noncomputable def f_X1_crewOf (σ : Nat → Nat → Int32) (x1 : Int32) : Option Int32 :=
  (if x1 < 0 then (some 0) else (if 8 < x1 then (some 0) else (chk x1 9 (some (σ 8 (x1.toNatClampNeg))))))
set_option maxRecDepth 100000 in
set_option maxHeartbeats 4000000 in
theorem c_X1_crewOf (q : Nat → Nat) (σ : Nat → Nat → Int32) (x1 : Int32) (z : Int32) (h : f_X1_crewOf σ x1 = some z) : CT l dC dI cI cZ A yX1_crewOf cX1_crewOf 2 (some .int) rm_X1_crewOf [.ref (q 7), .int x1] (wX cI q σ) (wX cI q σ) (some (.int z)) := by
  refine b_met (by decide) (Nat.le_of_ble_eq_true rfl) ?_
  intro p e s m below meth c E
  have E : EV p s m _ meth c dC dI cI cZ cX1_crewOf 2 RX1 (some .int) := E
  show GG p l e rm_X1_crewOf s m _ below meth c _ A dC dI 2 (wX cI q σ) 0 [(0, .ref (q 7)), (1, .int x1)] []
  unfold f_X1_crewOf at h
  refine s_iload_n E 1 rfl dX1_crewOf_0 rfl ?_
  refine s_if_lt E 19 dX1_crewOf_1 (by decide) (fun c1 => ?_) (fun c1 => ?_)
  · have h := (if_pos c1).symm.trans h
    refine s_iconst E (v := 0) dX1_crewOf_19 ki_0 ?_
    obtain rfl := Option.some.inj h
    exact s_iret E rfl rfl dX1_crewOf_20
  · have h := (if_neg c1).symm.trans h
    refine s_iload_n E 1 rfl dX1_crewOf_4 rfl ?_
    refine s_bipush E (v := 8) dX1_crewOf_5 kb_8 ?_
    refine s_icmp_gt E 19 dX1_crewOf_7 (by decide) (fun c2 => ?_) (fun c2 => ?_)
    · have h := (if_pos c2).symm.trans h
      refine s_iconst E (v := 0) dX1_crewOf_19 ki_0 ?_
      obtain rfl := Option.some.inj h
      exact s_iret E rfl rfl dX1_crewOf_20
    · have h := (if_neg c2).symm.trans h
      refine s_aload_n E 0 rfl dX1_crewOf_10 rfl ?_
      refine s_get E (v := .ref (q 8)) 7 0 in_X1 gX_7 rfl (by decide) m_f_X1_9 rfl dX1_crewOf_11 ?_
      refine s_iload_n E 1 rfl dX1_crewOf_14 rfl ?_
      obtain ⟨b3, h⟩ := chk_some h
      refine s_iald E (v := (σ 8 (x1.toNatClampNeg))) 8 gX_8 b3 rfl dX1_crewOf_15 ?_
      refine s_goto E 20 dX1_crewOf_16 (by decide) ?_
      obtain rfl := Option.some.inj h
      exact s_iret E rfl rfl dX1_crewOf_20
end
abbrev rm_X4_sitters : Room := { frames := 0, cells := 0, slots := 0, locals := 0 }
section
variable {w : va_W}
noncomputable def f_X4_sitters (x0 : Int32) (x1 : Int32) : Int32 :=
  ((ush x0 (8 * x1)) &&& 255)
set_option maxRecDepth 100000 in
set_option maxHeartbeats 4000000 in
theorem c_X4_sitters (w : va_W) (x0 : Int32) (x1 : Int32) : CT l dC dI cI cZ A yX4_sitters cX4_sitters 2 (some .int) rm_X4_sitters [.int x0, .int x1] w w (some (.int (f_X4_sitters x0 x1))) := by
  refine b_met (by decide) (Nat.le_of_ble_eq_true rfl) ?_
  intro p e s m below meth c E
  have E : EV p s m _ meth c dC dI cI cZ cX4_sitters 2 RX4 (some .int) := E
  generalize h : f_X4_sitters x0 x1 = z
  show GG p l e rm_X4_sitters s m _ below meth c _ A dC dI 2 w 0 [(0, .int x0), (1, .int x1)] []
  unfold f_X4_sitters at h
  refine s_iload_n E 0 rfl dX4_sitters_0 rfl ?_
  refine s_bipush E (v := 8) dX4_sitters_1 kb_8 ?_
  refine s_iload_n E 1 rfl dX4_sitters_3 rfl ?_
  refine s_imul E dX4_sitters_4 ?_
  refine s_iushr E dX4_sitters_5 ?_
  refine s_sipush E (v := 255) dX4_sitters_6 ks_255 ?_
  refine s_iand E dX4_sitters_9 ?_
  subst h
  exact s_iret E rfl rfl dX4_sitters_10
end
abbrev rm_X4_endOf : Room := { frames := 1, cells := 0, slots := 0, locals := 21 }
section
variable {w : va_W}
noncomputable def f_X4_endOf_L2 (x0 : Int32) (x1 : Int32) : Nat → Int32 → Option Int32
  | 0, _ => none
  | n + 1, y2 =>
    (if 3 ≤ y2 then (some (-9)) else (if ((shr (f_X4_sitters x0 y2) x1) &&& 1) = 0 then (f_X4_endOf_L2 x0 x1 n (y2 + 1)) else (some y2)))
set_option maxRecDepth 100000 in
set_option maxHeartbeats 4000000 in
theorem w_X4_endOf_L2 (E : EV p s m args meth c dC dI cI cZ cX4_endOf 3 RX4 (some .int)) (x0 : Int32) (x1 : Int32) : ∀ (n : Nat) (y2 : Int32) (z : Int32), f_X4_endOf_L2 x0 x1 n y2 = some z → GG p l e rm_X4_endOf s m args below meth c (MQ below (CQ dC dI (some (.int z)) w A) args s 0 0 A) A dC dI 3 w 2 [(0, .int x0), (1, .int x1), (2, .int y2)] [] := by
  intro n
  induction n with
  | zero =>
    intro y2 z h
    rw [f_X4_endOf_L2] at h
    cases h
  | succ n ih =>
    intro y2 z h
    rw [f_X4_endOf_L2] at h
    refine s_iload_n E 2 rfl dX4_endOf_2 rfl ?_
    refine s_iconst E (v := 3) dX4_endOf_3 ki_3 ?_
    refine s_icmp_ge E 27 dX4_endOf_4 (by decide) (fun c1 => ?_) (fun c1 => ?_)
    · have h := (if_pos c1).symm.trans h
      refine s_bipush E (v := (-9)) dX4_endOf_27 kb_m9 ?_
      obtain rfl := Option.some.inj h
      exact s_iret E rfl rfl dX4_endOf_29
    · have h := (if_neg c1).symm.trans h
      refine s_iload_n E 0 rfl dX4_endOf_7 rfl ?_
      refine s_iload_n E 2 rfl dX4_endOf_8 rfl ?_
      refine s_callSi E kf_X4_sitters m_l_X4_128 (c_X4_sitters w x0 y2) ⟨rfl, rfl, by decide, by decide⟩ rfl rfl (Nat.le_of_ble_eq_true rfl) dX4_endOf_9 ?_
      refine s_iload_n E 1 rfl dX4_endOf_12 rfl ?_
      refine s_ishr E dX4_endOf_13 ?_
      refine s_iconst E (v := 1) dX4_endOf_14 ki_1 ?_
      refine s_iand E dX4_endOf_15 ?_
      refine s_if_eq E 21 dX4_endOf_16 (by decide) (fun c2 => ?_) (fun c2 => ?_)
      · have h := (if_pos c2).symm.trans h
        refine s_iinc E (v := (y2 + 1)) (lv' := [(0, .int x0), (1, .int x1), (2, .int (y2 + 1))]) 2 rfl dX4_endOf_21 ki_1 rfl rfl rfl rfl (by decide) ?_
        refine s_goto E 2 dX4_endOf_24 (by decide) ?_
        exact ih (y2 + 1) z h
      · have h := (if_neg c2).symm.trans h
        refine s_iload_n E 2 rfl dX4_endOf_19 rfl ?_
        obtain rfl := Option.some.inj h
        exact s_iret E rfl rfl dX4_endOf_20
noncomputable def f_X4_endOf (x0 : Int32) (x1 : Int32) : Option Int32 :=
  (f_X4_endOf_L2 x0 x1 fuel 0)
set_option maxRecDepth 100000 in
set_option maxHeartbeats 4000000 in
theorem c_X4_endOf (w : va_W) (x0 : Int32) (x1 : Int32) (z : Int32) (h : f_X4_endOf x0 x1 = some z) : CT l dC dI cI cZ A yX4_endOf cX4_endOf 3 (some .int) rm_X4_endOf [.int x0, .int x1] w w (some (.int z)) := by
  refine b_met (by decide) (Nat.le_of_ble_eq_true rfl) ?_
  intro p e s m below meth c E
  have E : EV p s m _ meth c dC dI cI cZ cX4_endOf 3 RX4 (some .int) := E
  show GG p l e rm_X4_endOf s m _ below meth c _ A dC dI 3 w 0 [(0, .int x0), (1, .int x1)] []
  unfold f_X4_endOf at h
  refine s_iconst E (v := 0) dX4_endOf_0 ki_0 ?_
  refine s_istore_n E (lv' := [(0, .int x0), (1, .int x1), (2, .int 0)]) dX4_endOf_1 rfl rfl rfl rfl (by decide) ?_
  exact w_X4_endOf_L2 E  x0 x1 fuel 0 z h
end
abbrev rm_X1_boatOf : Room := { frames := 2, cells := 0, slots := 0, locals := 43 }
section
noncomputable def f_X1_boatOf_L2 (σ : Nat → Nat → Int32) (x1 : Int32) : Nat → Int32 → Option Int32
  | 0, _ => none
  | n + 1, y2 =>
    (if (σ 7 3) ≤ y2 then (some (-9)) else ((f_X1_crewOf σ y2).bind fun u2 => ((f_X4_endOf u2 x1).bind fun u3 => (if u3 = (-9) then (f_X1_boatOf_L2 σ x1 n (y2 + 1)) else (some y2)))))
set_option maxRecDepth 100000 in
set_option maxHeartbeats 4000000 in
theorem w_X1_boatOf_L2 (E : EV p s m args meth c dC dI cI cZ cX1_boatOf 3 RX1 (some .int)) (q : Nat → Nat) (σ : Nat → Nat → Int32) (x1 : Int32) : ∀ (n : Nat) (y2 : Int32) (z : Int32), f_X1_boatOf_L2 σ x1 n y2 = some z → GG p l e rm_X1_boatOf s m args below meth c (MQ below (CQ dC dI (some (.int z)) (wX cI q σ) A) args s 0 0 A) A dC dI 3 (wX cI q σ) 2 [(0, .ref (q 7)), (1, .int x1), (2, .int y2)] [] := by
  intro n
  induction n with
  | zero =>
    intro y2 z h
    rw [f_X1_boatOf_L2] at h
    cases h
  | succ n ih =>
    intro y2 z h
    rw [f_X1_boatOf_L2] at h
    refine s_iload_n E 2 rfl dX1_boatOf_2 rfl ?_
    refine s_aload_n E 0 rfl dX1_boatOf_3 rfl ?_
    refine s_geti E (y := (σ 7 3)) 7 3 in_X1 gX_7 rfl (by decide) m_f_X1_21 rfl rfl dX1_boatOf_4 ?_
    refine s_icmp_ge E 32 dX1_boatOf_7 (by decide) (fun c1 => ?_) (fun c1 => ?_)
    · have h := (if_pos c1).symm.trans h
      refine s_bipush E (v := (-9)) dX1_boatOf_32 kb_m9 ?_
      obtain rfl := Option.some.inj h
      exact s_iret E rfl rfl dX1_boatOf_34
    · have h := (if_neg c1).symm.trans h
      refine s_aload_n E 0 rfl dX1_boatOf_10 rfl ?_
      refine s_iload_n E 2 rfl dX1_boatOf_11 rfl ?_
      obtain ⟨u2, e2, h⟩ := bnd_some h
      refine s_callVi E kf_X1_crewOf m_l_X1_37 (c_X1_crewOf q σ y2 u2 e2) ⟨rfl, rfl, by decide, by decide⟩ (q0 := 7) rfl rfl rfl rfl rfl (Nat.le_of_ble_eq_true rfl) dX1_boatOf_12 ?_
      refine s_iload_n E 1 rfl dX1_boatOf_15 rfl ?_
      obtain ⟨u3, e3, h⟩ := bnd_some h
      refine s_callSNi E kf_X4_endOf nst_X1_48 (c_X4_endOf (wX cI q σ) u2 x1 u3 e3) ⟨rfl, rfl, by decide, by decide⟩ rfl rfl (Nat.le_of_ble_eq_true rfl) dX1_boatOf_16 ?_
      refine s_bipush E (v := (-9)) dX1_boatOf_19 kb_m9 ?_
      refine s_icmp_eq E 26 dX1_boatOf_21 (by decide) (fun c4 => ?_) (fun c4 => ?_)
      · have h := (if_pos c4).symm.trans h
        refine s_iinc E (v := (y2 + 1)) (lv' := [(0, .ref (q 7)), (1, .int x1), (2, .int (y2 + 1))]) 2 rfl dX1_boatOf_26 ki_1 rfl rfl rfl rfl (by decide) ?_
        refine s_goto E 2 dX1_boatOf_29 (by decide) ?_
        exact ih (y2 + 1) z h
      · have h := (if_neg c4).symm.trans h
        refine s_iload_n E 2 rfl dX1_boatOf_24 rfl ?_
        obtain rfl := Option.some.inj h
        exact s_iret E rfl rfl dX1_boatOf_25
noncomputable def f_X1_boatOf (σ : Nat → Nat → Int32) (x1 : Int32) : Option Int32 :=
  (f_X1_boatOf_L2 σ x1 fuel 0)
set_option maxRecDepth 100000 in
set_option maxHeartbeats 4000000 in
theorem c_X1_boatOf (q : Nat → Nat) (σ : Nat → Nat → Int32) (x1 : Int32) (z : Int32) (h : f_X1_boatOf σ x1 = some z) : CT l dC dI cI cZ A yX1_boatOf cX1_boatOf 3 (some .int) rm_X1_boatOf [.ref (q 7), .int x1] (wX cI q σ) (wX cI q σ) (some (.int z)) := by
  refine b_met (by decide) (Nat.le_of_ble_eq_true rfl) ?_
  intro p e s m below meth c E
  have E : EV p s m _ meth c dC dI cI cZ cX1_boatOf 3 RX1 (some .int) := E
  show GG p l e rm_X1_boatOf s m _ below meth c _ A dC dI 3 (wX cI q σ) 0 [(0, .ref (q 7)), (1, .int x1)] []
  unfold f_X1_boatOf at h
  refine s_iconst E (v := 0) dX1_boatOf_0 ki_0 ?_
  refine s_istore_n E (lv' := [(0, .ref (q 7)), (1, .int x1), (2, .int 0)]) dX1_boatOf_1 rfl rfl rfl rfl (by decide) ?_
  exact w_X1_boatOf_L2 E q σ x1 fuel 0 z h
end
abbrev rm_X1_laid : Room := { frames := 1, cells := 0, slots := 0, locals := 21 }
section
noncomputable def f_X1_laid (σ : Nat → Nat → Int32) : Option Int32 :=
  ((f_X1_crewOf σ (σ 7 3)).bind fun u1 => (some u1))
set_option maxRecDepth 100000 in
set_option maxHeartbeats 4000000 in
theorem c_X1_laid (q : Nat → Nat) (σ : Nat → Nat → Int32) (z : Int32) (h : f_X1_laid σ = some z) : CT l dC dI cI cZ A yX1_laid cX1_laid 1 (some .int) rm_X1_laid [.ref (q 7)] (wX cI q σ) (wX cI q σ) (some (.int z)) := by
  refine b_met (by decide) (Nat.le_of_ble_eq_true rfl) ?_
  intro p e s m below meth c E
  have E : EV p s m _ meth c dC dI cI cZ cX1_laid 1 RX1 (some .int) := E
  show GG p l e rm_X1_laid s m _ below meth c _ A dC dI 1 (wX cI q σ) 0 [(0, .ref (q 7))] []
  unfold f_X1_laid at h
  refine s_aload_n E 0 rfl dX1_laid_0 rfl ?_
  refine s_aload_n E 0 rfl dX1_laid_1 rfl ?_
  refine s_geti E (y := (σ 7 3)) 7 3 in_X1 gX_7 rfl (by decide) m_f_X1_21 rfl rfl dX1_laid_2 ?_
  obtain ⟨u1, e1, h⟩ := bnd_some h
  refine s_callVi E kf_X1_crewOf m_l_X1_37 (c_X1_crewOf q σ (σ 7 3) u1 e1) ⟨rfl, rfl, by decide, by decide⟩ (q0 := 7) rfl rfl rfl rfl rfl (Nat.le_of_ble_eq_true rfl) dX1_laid_5 ?_
  obtain rfl := Option.some.inj h
  exact s_iret E rfl rfl dX1_laid_8
end
abbrev rm_X1_placeOf : Room := { frames := 3, cells := 0, slots := 0, locals := 65 }
section
noncomputable def f_X1_placeOf (σ : Nat → Nat → Int32) (x1 : Int32) : Option Int32 :=
  ((f_X1_boatOf σ x1).bind fun u1 => (if u1 = (-9) then ((f_X1_laid σ).bind fun u3 => ((f_X4_endOf u3 x1).bind fun u4 => (if u4 = (-9) then (some 10) else (some u4)))) else (some 20)))
set_option maxRecDepth 100000 in
set_option maxHeartbeats 4000000 in
theorem c_X1_placeOf (q : Nat → Nat) (σ : Nat → Nat → Int32) (x1 : Int32) (z : Int32) (h : f_X1_placeOf σ x1 = some z) : CT l dC dI cI cZ A yX1_placeOf cX1_placeOf 3 (some .int) rm_X1_placeOf [.ref (q 7), .int x1] (wX cI q σ) (wX cI q σ) (some (.int z)) := by
  refine b_met (by decide) (Nat.le_of_ble_eq_true rfl) ?_
  intro p e s m below meth c E
  have E : EV p s m _ meth c dC dI cI cZ cX1_placeOf 3 RX1 (some .int) := E
  show GG p l e rm_X1_placeOf s m _ below meth c _ A dC dI 3 (wX cI q σ) 0 [(0, .ref (q 7)), (1, .int x1)] []
  unfold f_X1_placeOf at h
  refine s_aload_n E 0 rfl dX1_placeOf_0 rfl ?_
  refine s_iload_n E 1 rfl dX1_placeOf_1 rfl ?_
  obtain ⟨u1, e1, h⟩ := bnd_some h
  refine s_callVi E kf_X1_boatOf m_l_X1_52 (c_X1_boatOf q σ x1 u1 e1) ⟨rfl, rfl, by decide, by decide⟩ (q0 := 7) rfl rfl rfl rfl rfl (Nat.le_of_ble_eq_true rfl) dX1_placeOf_2 ?_
  refine s_bipush E (v := (-9)) dX1_placeOf_5 kb_m9 ?_
  refine s_icmp_eq E 13 dX1_placeOf_7 (by decide) (fun c2 => ?_) (fun c2 => ?_)
  · have h := (if_pos c2).symm.trans h
    refine s_aload_n E 0 rfl dX1_placeOf_13 rfl ?_
    obtain ⟨u3, e3, h⟩ := bnd_some h
    refine s_callVi E kf_X1_laid m_l_X1_55 (c_X1_laid q σ u3 e3) ⟨rfl, rfl, by decide, by decide⟩ (q0 := 7) rfl rfl rfl rfl rfl (Nat.le_of_ble_eq_true rfl) dX1_placeOf_14 ?_
    refine s_iload_n E 1 rfl dX1_placeOf_17 rfl ?_
    obtain ⟨u4, e4, h⟩ := bnd_some h
    refine s_callSNi E kf_X4_endOf nst_X1_48 (c_X4_endOf (wX cI q σ) u3 x1 u4 e4) ⟨rfl, rfl, by decide, by decide⟩ rfl rfl (Nat.le_of_ble_eq_true rfl) dX1_placeOf_18 ?_
    refine s_istore_n E (lv' := [(0, .ref (q 7)), (1, .int x1), (2, .int u4)]) dX1_placeOf_21 rfl rfl rfl rfl (by decide) ?_
    refine s_iload_n E 2 rfl dX1_placeOf_22 rfl ?_
    refine s_bipush E (v := (-9)) dX1_placeOf_23 kb_m9 ?_
    refine s_icmp_ne E 33 dX1_placeOf_25 (by decide) (fun c5 => ?_) (fun c5 => ?_)
    · have h := (if_pos c5).symm.trans h
      refine s_bipush E (v := 10) dX1_placeOf_28 kb_10 ?_
      refine s_goto E 34 dX1_placeOf_30 (by decide) ?_
      obtain rfl := Option.some.inj h
      exact s_iret E rfl rfl dX1_placeOf_34
    · have h := (if_neg c5).symm.trans h
      refine s_iload_n E 2 rfl dX1_placeOf_33 rfl ?_
      obtain rfl := Option.some.inj h
      exact s_iret E rfl rfl dX1_placeOf_34
  · have h := (if_neg c2).symm.trans h
    refine s_bipush E (v := 20) dX1_placeOf_10 kb_20 ?_
    obtain rfl := Option.some.inj h
    exact s_iret E rfl rfl dX1_placeOf_12
end
abbrev rm_X4_isMinute : Room := { frames := 0, cells := 0, slots := 0, locals := 0 }
section
variable {w : va_W}
noncomputable def f_X4_isMinute (x0 : Int32) : Int32 :=
  (if x0 < 0 then 0 else (if 9 < x0 then 0 else 1))
set_option maxRecDepth 100000 in
set_option maxHeartbeats 4000000 in
theorem c_X4_isMinute (w : va_W) (x0 : Int32) : CT l dC dI cI cZ A yX4_isMinute cX4_isMinute 1 (some .boolean) rm_X4_isMinute [.int x0] w w (some (.int (f_X4_isMinute x0))) := by
  refine b_met (by decide) (Nat.le_of_ble_eq_true rfl) ?_
  intro p e s m below meth c E
  have E : EV p s m _ meth c dC dI cI cZ cX4_isMinute 1 RX4 (some .boolean) := E
  generalize h : f_X4_isMinute x0 = z
  show GG p l e rm_X4_isMinute s m _ below meth c _ A dC dI 1 w 0 [(0, .int x0)] []
  unfold f_X4_isMinute at h
  refine s_iload_n E 0 rfl dX4_isMinute_0 rfl ?_
  refine s_if_lt E 14 dX4_isMinute_1 (by decide) (fun c1 => ?_) (fun c1 => ?_)
  · have h := (if_pos c1).symm.trans h
    refine s_iconst E (v := 0) dX4_isMinute_14 ki_0 ?_
    subst h
    exact s_zret E rfl rfl rfl dX4_isMinute_15
  · have h := (if_neg c1).symm.trans h
    refine s_iload_n E 0 rfl dX4_isMinute_4 rfl ?_
    refine s_bipush E (v := 9) dX4_isMinute_5 kb_9 ?_
    refine s_icmp_gt E 14 dX4_isMinute_7 (by decide) (fun c2 => ?_) (fun c2 => ?_)
    · have h := (if_pos c2).symm.trans h
      refine s_iconst E (v := 0) dX4_isMinute_14 ki_0 ?_
      subst h
      exact s_zret E rfl rfl rfl dX4_isMinute_15
    · have h := (if_neg c2).symm.trans h
      refine s_iconst E (v := 1) dX4_isMinute_10 ki_1 ?_
      refine s_goto E 15 dX4_isMinute_11 (by decide) ?_
      subst h
      exact s_zret E rfl rfl rfl dX4_isMinute_15
end
abbrev rm_X0_hasEnd : Room := { frames := 0, cells := 0, slots := 0, locals := 0 }
section
noncomputable def f_X0_hasEnd (σ : Nat → Nat → Int32) (x1 : Int32) : Int32 :=
  (if x1 < 0 then 0 else (if (σ 3 0) ≤ x1 then 0 else 1))
set_option maxRecDepth 100000 in
set_option maxHeartbeats 4000000 in
theorem c_X0_hasEnd (q : Nat → Nat) (σ : Nat → Nat → Int32) (x1 : Int32) : CT l dC dI cI cZ A yX0_hasEnd cX0_hasEnd 2 (some .boolean) rm_X0_hasEnd [.ref (q 3), .int x1] (wX cI q σ) (wX cI q σ) (some (.int (f_X0_hasEnd σ x1))) := by
  refine b_met (by decide) (Nat.le_of_ble_eq_true rfl) ?_
  intro p e s m below meth c E
  have E : EV p s m _ meth c dC dI cI cZ cX0_hasEnd 2 RX0 (some .boolean) := E
  generalize h : f_X0_hasEnd σ x1 = z
  show GG p l e rm_X0_hasEnd s m _ below meth c _ A dC dI 2 (wX cI q σ) 0 [(0, .ref (q 3)), (1, .int x1)] []
  unfold f_X0_hasEnd at h
  refine s_iload_n E 1 rfl dX0_hasEnd_0 rfl ?_
  refine s_if_lt E 16 dX0_hasEnd_1 (by decide) (fun c1 => ?_) (fun c1 => ?_)
  · have h := (if_pos c1).symm.trans h
    refine s_iconst E (v := 0) dX0_hasEnd_16 ki_0 ?_
    subst h
    exact s_zret E rfl rfl rfl dX0_hasEnd_17
  · have h := (if_neg c1).symm.trans h
    refine s_iload_n E 1 rfl dX0_hasEnd_4 rfl ?_
    refine s_aload_n E 0 rfl dX0_hasEnd_5 rfl ?_
    refine s_geti E (y := (σ 3 0)) 3 0 in_X0 gX_3 rfl (by decide) m_f_X0_9 rfl rfl dX0_hasEnd_6 ?_
    refine s_icmp_ge E 16 dX0_hasEnd_9 (by decide) (fun c2 => ?_) (fun c2 => ?_)
    · have h := (if_pos c2).symm.trans h
      refine s_iconst E (v := 0) dX0_hasEnd_16 ki_0 ?_
      subst h
      exact s_zret E rfl rfl rfl dX0_hasEnd_17
    · have h := (if_neg c2).symm.trans h
      refine s_iconst E (v := 1) dX0_hasEnd_12 ki_1 ?_
      refine s_goto E 17 dX0_hasEnd_13 (by decide) ?_
      subst h
      exact s_zret E rfl rfl rfl dX0_hasEnd_17
end
abbrev rm_X0_willSit : Room := { frames := 1, cells := 0, slots := 0, locals := 21 }
section
noncomputable def f_X0_willSit (σ : Nat → Nat → Int32) (x1 : Int32) (x2 : Int32) : Option Int32 :=
  (if (f_X0_hasEnd σ x2) = 0 then (some 0) else (if (f_X0_hasPerson σ x1) = 0 then (some 0) else (chk x1 8 (if (σ 6 (x1.toNatClampNeg)) = 3 then (some 1) else (chk x1 8 (if (σ 6 (x1.toNatClampNeg)) = x2 then (some 1) else (some 0)))))))
set_option maxRecDepth 100000 in
set_option maxHeartbeats 4000000 in
theorem c_X0_willSit (q : Nat → Nat) (σ : Nat → Nat → Int32) (x1 : Int32) (x2 : Int32) (z : Int32) (h : f_X0_willSit σ x1 x2 = some z) : CT l dC dI cI cZ A yX0_willSit cX0_willSit 3 (some .boolean) rm_X0_willSit [.ref (q 3), .int x1, .int x2] (wX cI q σ) (wX cI q σ) (some (.int z)) := by
  refine b_met (by decide) (Nat.le_of_ble_eq_true rfl) ?_
  intro p e s m below meth c E
  have E : EV p s m _ meth c dC dI cI cZ cX0_willSit 3 RX0 (some .boolean) := E
  show GG p l e rm_X0_willSit s m _ below meth c _ A dC dI 3 (wX cI q σ) 0 [(0, .ref (q 3)), (1, .int x1), (2, .int x2)] []
  unfold f_X0_willSit at h
  refine s_aload_n E 0 rfl dX0_willSit_0 rfl ?_
  refine s_iload_n E 2 rfl dX0_willSit_1 rfl ?_
  refine s_callVi E kf_X0_hasEnd m_l_X0_55 (c_X0_hasEnd q σ x2) ⟨rfl, rfl, by decide, by decide⟩ (q0 := 3) rfl rfl rfl rfl rfl (Nat.le_of_ble_eq_true rfl) dX0_willSit_2 ?_
  refine s_if_eq E 40 dX0_willSit_5 (by decide) (fun c1 => ?_) (fun c1 => ?_)
  · have h := (if_pos c1).symm.trans h
    refine s_iconst E (v := 0) dX0_willSit_40 ki_0 ?_
    obtain rfl := Option.some.inj h
    exact s_zret E rfl rfl rfl dX0_willSit_41
  · have h := (if_neg c1).symm.trans h
    refine s_aload_n E 0 rfl dX0_willSit_8 rfl ?_
    refine s_iload_n E 1 rfl dX0_willSit_9 rfl ?_
    refine s_callVi E kf_X0_hasPerson m_l_X0_59 (c_X0_hasPerson q σ x1) ⟨rfl, rfl, by decide, by decide⟩ (q0 := 3) rfl rfl rfl rfl rfl (Nat.le_of_ble_eq_true rfl) dX0_willSit_10 ?_
    refine s_if_eq E 40 dX0_willSit_13 (by decide) (fun c2 => ?_) (fun c2 => ?_)
    · have h := (if_pos c2).symm.trans h
      refine s_iconst E (v := 0) dX0_willSit_40 ki_0 ?_
      obtain rfl := Option.some.inj h
      exact s_zret E rfl rfl rfl dX0_willSit_41
    · have h := (if_neg c2).symm.trans h
      refine s_aload_n E 0 rfl dX0_willSit_16 rfl ?_
      refine s_get E (v := .ref (q 6)) 3 8 in_X0 gX_3 rfl (by decide) m_f_X0_37 rfl dX0_willSit_17 ?_
      refine s_iload_n E 1 rfl dX0_willSit_20 rfl ?_
      obtain ⟨b3, h⟩ := chk_some h
      refine s_iald E (v := (σ 6 (x1.toNatClampNeg))) 6 gX_6 b3 rfl dX0_willSit_21 ?_
      refine s_iconst E (v := 3) dX0_willSit_22 ki_3 ?_
      refine s_icmp_eq E 36 dX0_willSit_23 (by decide) (fun c4 => ?_) (fun c4 => ?_)
      · have h := (if_pos c4).symm.trans h
        refine s_iconst E (v := 1) dX0_willSit_36 ki_1 ?_
        refine s_goto E 41 dX0_willSit_37 (by decide) ?_
        obtain rfl := Option.some.inj h
        exact s_zret E rfl rfl rfl dX0_willSit_41
      · have h := (if_neg c4).symm.trans h
        refine s_aload_n E 0 rfl dX0_willSit_26 rfl ?_
        refine s_get E (v := .ref (q 6)) 3 8 in_X0 gX_3 rfl (by decide) m_f_X0_37 rfl dX0_willSit_27 ?_
        refine s_iload_n E 1 rfl dX0_willSit_30 rfl ?_
        obtain ⟨b5, h⟩ := chk_some h
        refine s_iald E (v := (σ 6 (x1.toNatClampNeg))) 6 gX_6 b5 rfl dX0_willSit_31 ?_
        refine s_iload_n E 2 rfl dX0_willSit_32 rfl ?_
        refine s_icmp_ne E 40 dX0_willSit_33 (by decide) (fun c6 => ?_) (fun c6 => ?_)
        · have h := (if_pos c6).symm.trans h
          refine s_iconst E (v := 1) dX0_willSit_36 ki_1 ?_
          refine s_goto E 41 dX0_willSit_37 (by decide) ?_
          obtain rfl := Option.some.inj h
          exact s_zret E rfl rfl rfl dX0_willSit_41
        · have h := (if_neg c6).symm.trans h
          refine s_iconst E (v := 0) dX0_willSit_40 ki_0 ?_
          obtain rfl := Option.some.inj h
          exact s_zret E rfl rfl rfl dX0_willSit_41
end
abbrev rm_J6_bitCount_0f7a4 : Room := { frames := 0, cells := 0, slots := 0, locals := 0 }
section
variable {w : va_W}
noncomputable def f_J6_bitCount_0f7a4 (x0 : Int32) : Int32 :=
  ((((((((x0 - ((ush x0 1) &&& 1431655765)) &&& 858993459) + ((ush (x0 - ((ush x0 1) &&& 1431655765)) 2) &&& 858993459)) + (ush (((x0 - ((ush x0 1) &&& 1431655765)) &&& 858993459) + ((ush (x0 - ((ush x0 1) &&& 1431655765)) 2) &&& 858993459)) 4)) &&& 252645135) + (ush (((((x0 - ((ush x0 1) &&& 1431655765)) &&& 858993459) + ((ush (x0 - ((ush x0 1) &&& 1431655765)) 2) &&& 858993459)) + (ush (((x0 - ((ush x0 1) &&& 1431655765)) &&& 858993459) + ((ush (x0 - ((ush x0 1) &&& 1431655765)) 2) &&& 858993459)) 4)) &&& 252645135) 8)) + (ush ((((((x0 - ((ush x0 1) &&& 1431655765)) &&& 858993459) + ((ush (x0 - ((ush x0 1) &&& 1431655765)) 2) &&& 858993459)) + (ush (((x0 - ((ush x0 1) &&& 1431655765)) &&& 858993459) + ((ush (x0 - ((ush x0 1) &&& 1431655765)) 2) &&& 858993459)) 4)) &&& 252645135) + (ush (((((x0 - ((ush x0 1) &&& 1431655765)) &&& 858993459) + ((ush (x0 - ((ush x0 1) &&& 1431655765)) 2) &&& 858993459)) + (ush (((x0 - ((ush x0 1) &&& 1431655765)) &&& 858993459) + ((ush (x0 - ((ush x0 1) &&& 1431655765)) 2) &&& 858993459)) 4)) &&& 252645135) 8)) 16)) &&& 63)
set_option maxRecDepth 100000 in
set_option maxHeartbeats 4000000 in
theorem c_J6_bitCount_0f7a4 (w : va_W) (x0 : Int32) : CT l dC dI cI cZ A yJ6_bitCount_0f7a4 cJ6_bitCount_0f7a4 1 (some .int) rm_J6_bitCount_0f7a4 [.int x0] w w (some (.int (f_J6_bitCount_0f7a4 x0))) := by
  refine b_met (by decide) (Nat.le_of_ble_eq_true rfl) ?_
  intro p e s m below meth c E
  have E : EV p s m _ meth c dC dI cI cZ cJ6_bitCount_0f7a4 1 RJ6 (some .int) := E
  generalize h : f_J6_bitCount_0f7a4 x0 = z
  show GG p l e rm_J6_bitCount_0f7a4 s m _ below meth c _ A dC dI 1 w 0 [(0, .int x0)] []
  unfold f_J6_bitCount_0f7a4 at h
  refine s_iload_n E 0 rfl dJ6_bitCount_0f7a4_0 rfl ?_
  refine s_iload_n E 0 rfl dJ6_bitCount_0f7a4_1 rfl ?_
  refine s_iconst E (v := 1) dJ6_bitCount_0f7a4_2 ki_1 ?_
  refine s_iushr E dJ6_bitCount_0f7a4_3 ?_
  refine s_ldcw E (v := (1431655765)) m_c_J6_265 dJ6_bitCount_0f7a4_4 ?_
  refine s_iand E dJ6_bitCount_0f7a4_7 ?_
  refine s_isub E dJ6_bitCount_0f7a4_8 ?_
  refine s_istore_n E (lv' := [(0, .int (x0 - ((ush x0 1) &&& 1431655765)))]) dJ6_bitCount_0f7a4_9 rfl rfl rfl rfl (by decide) ?_
  refine s_iload_n E 0 rfl dJ6_bitCount_0f7a4_10 rfl ?_
  refine s_ldcw E (v := (858993459)) m_c_J6_266 dJ6_bitCount_0f7a4_11 ?_
  refine s_iand E dJ6_bitCount_0f7a4_14 ?_
  refine s_iload_n E 0 rfl dJ6_bitCount_0f7a4_15 rfl ?_
  refine s_iconst E (v := 2) dJ6_bitCount_0f7a4_16 ki_2 ?_
  refine s_iushr E dJ6_bitCount_0f7a4_17 ?_
  refine s_ldcw E (v := (858993459)) m_c_J6_266 dJ6_bitCount_0f7a4_18 ?_
  refine s_iand E dJ6_bitCount_0f7a4_21 ?_
  refine s_iadd E dJ6_bitCount_0f7a4_22 ?_
  refine s_istore_n E (lv' := [(0, .int (((x0 - ((ush x0 1) &&& 1431655765)) &&& 858993459) + ((ush (x0 - ((ush x0 1) &&& 1431655765)) 2) &&& 858993459)))]) dJ6_bitCount_0f7a4_23 rfl rfl rfl rfl (by decide) ?_
  refine s_iload_n E 0 rfl dJ6_bitCount_0f7a4_24 rfl ?_
  refine s_iload_n E 0 rfl dJ6_bitCount_0f7a4_25 rfl ?_
  refine s_iconst E (v := 4) dJ6_bitCount_0f7a4_26 ki_4 ?_
  refine s_iushr E dJ6_bitCount_0f7a4_27 ?_
  refine s_iadd E dJ6_bitCount_0f7a4_28 ?_
  refine s_ldcw E (v := (252645135)) m_c_J6_267 dJ6_bitCount_0f7a4_29 ?_
  refine s_iand E dJ6_bitCount_0f7a4_32 ?_
  refine s_istore_n E (lv' := [(0, .int (((((x0 - ((ush x0 1) &&& 1431655765)) &&& 858993459) + ((ush (x0 - ((ush x0 1) &&& 1431655765)) 2) &&& 858993459)) + (ush (((x0 - ((ush x0 1) &&& 1431655765)) &&& 858993459) + ((ush (x0 - ((ush x0 1) &&& 1431655765)) 2) &&& 858993459)) 4)) &&& 252645135))]) dJ6_bitCount_0f7a4_33 rfl rfl rfl rfl (by decide) ?_
  refine s_iload_n E 0 rfl dJ6_bitCount_0f7a4_34 rfl ?_
  refine s_iload_n E 0 rfl dJ6_bitCount_0f7a4_35 rfl ?_
  refine s_bipush E (v := 8) dJ6_bitCount_0f7a4_36 kb_8 ?_
  refine s_iushr E dJ6_bitCount_0f7a4_38 ?_
  refine s_iadd E dJ6_bitCount_0f7a4_39 ?_
  refine s_istore_n E (lv' := [(0, .int ((((((x0 - ((ush x0 1) &&& 1431655765)) &&& 858993459) + ((ush (x0 - ((ush x0 1) &&& 1431655765)) 2) &&& 858993459)) + (ush (((x0 - ((ush x0 1) &&& 1431655765)) &&& 858993459) + ((ush (x0 - ((ush x0 1) &&& 1431655765)) 2) &&& 858993459)) 4)) &&& 252645135) + (ush (((((x0 - ((ush x0 1) &&& 1431655765)) &&& 858993459) + ((ush (x0 - ((ush x0 1) &&& 1431655765)) 2) &&& 858993459)) + (ush (((x0 - ((ush x0 1) &&& 1431655765)) &&& 858993459) + ((ush (x0 - ((ush x0 1) &&& 1431655765)) 2) &&& 858993459)) 4)) &&& 252645135) 8)))]) dJ6_bitCount_0f7a4_40 rfl rfl rfl rfl (by decide) ?_
  refine s_iload_n E 0 rfl dJ6_bitCount_0f7a4_41 rfl ?_
  refine s_iload_n E 0 rfl dJ6_bitCount_0f7a4_42 rfl ?_
  refine s_bipush E (v := 16) dJ6_bitCount_0f7a4_43 kb_16 ?_
  refine s_iushr E dJ6_bitCount_0f7a4_45 ?_
  refine s_iadd E dJ6_bitCount_0f7a4_46 ?_
  refine s_istore_n E (lv' := [(0, .int (((((((x0 - ((ush x0 1) &&& 1431655765)) &&& 858993459) + ((ush (x0 - ((ush x0 1) &&& 1431655765)) 2) &&& 858993459)) + (ush (((x0 - ((ush x0 1) &&& 1431655765)) &&& 858993459) + ((ush (x0 - ((ush x0 1) &&& 1431655765)) 2) &&& 858993459)) 4)) &&& 252645135) + (ush (((((x0 - ((ush x0 1) &&& 1431655765)) &&& 858993459) + ((ush (x0 - ((ush x0 1) &&& 1431655765)) 2) &&& 858993459)) + (ush (((x0 - ((ush x0 1) &&& 1431655765)) &&& 858993459) + ((ush (x0 - ((ush x0 1) &&& 1431655765)) 2) &&& 858993459)) 4)) &&& 252645135) 8)) + (ush ((((((x0 - ((ush x0 1) &&& 1431655765)) &&& 858993459) + ((ush (x0 - ((ush x0 1) &&& 1431655765)) 2) &&& 858993459)) + (ush (((x0 - ((ush x0 1) &&& 1431655765)) &&& 858993459) + ((ush (x0 - ((ush x0 1) &&& 1431655765)) 2) &&& 858993459)) 4)) &&& 252645135) + (ush (((((x0 - ((ush x0 1) &&& 1431655765)) &&& 858993459) + ((ush (x0 - ((ush x0 1) &&& 1431655765)) 2) &&& 858993459)) + (ush (((x0 - ((ush x0 1) &&& 1431655765)) &&& 858993459) + ((ush (x0 - ((ush x0 1) &&& 1431655765)) 2) &&& 858993459)) 4)) &&& 252645135) 8)) 16)))]) dJ6_bitCount_0f7a4_47 rfl rfl rfl rfl (by decide) ?_
  refine s_iload_n E 0 rfl dJ6_bitCount_0f7a4_48 rfl ?_
  refine s_bipush E (v := 63) dJ6_bitCount_0f7a4_49 kb_63 ?_
  refine s_iand E dJ6_bitCount_0f7a4_51 ?_
  subst h
  exact s_iret E rfl rfl dJ6_bitCount_0f7a4_52
end
abbrev rm_X4_seat : Room := { frames := 0, cells := 0, slots := 0, locals := 0 }
section
variable {w : va_W}
noncomputable def f_X4_seat (x0 : Int32) (x1 : Int32) (x2 : Int32) : Int32 :=
  (x0 ||| (shl 1 ((8 * x2) + x1)))
set_option maxRecDepth 100000 in
set_option maxHeartbeats 4000000 in
theorem c_X4_seat (w : va_W) (x0 : Int32) (x1 : Int32) (x2 : Int32) : CT l dC dI cI cZ A yX4_seat cX4_seat 3 (some .int) rm_X4_seat [.int x0, .int x1, .int x2] w w (some (.int (f_X4_seat x0 x1 x2))) := by
  refine b_met (by decide) (Nat.le_of_ble_eq_true rfl) ?_
  intro p e s m below meth c E
  have E : EV p s m _ meth c dC dI cI cZ cX4_seat 3 RX4 (some .int) := E
  generalize h : f_X4_seat x0 x1 x2 = z
  show GG p l e rm_X4_seat s m _ below meth c _ A dC dI 3 w 0 [(0, .int x0), (1, .int x1), (2, .int x2)] []
  unfold f_X4_seat at h
  refine s_iload_n E 0 rfl dX4_seat_0 rfl ?_
  refine s_iconst E (v := 1) dX4_seat_1 ki_1 ?_
  refine s_bipush E (v := 8) dX4_seat_2 kb_8 ?_
  refine s_iload_n E 2 rfl dX4_seat_4 rfl ?_
  refine s_imul E dX4_seat_5 ?_
  refine s_iload_n E 1 rfl dX4_seat_6 rfl ?_
  refine s_iadd E dX4_seat_7 ?_
  refine s_ishl E dX4_seat_8 ?_
  refine s_ior E dX4_seat_9 ?_
  subst h
  exact s_iret E rfl rfl dX4_seat_10
end
abbrev rm_X1_setLaid : Room := { frames := 0, cells := 0, slots := 0, locals := 0 }
section
noncomputable def f_X1_setLaid (σ : Nat → Nat → Int32) (x1 : Int32) : Option (Nat → Nat → Int32) :=
  (if (σ 7 3) < 0 then (some σ) else (if 8 < (σ 7 3) then (some σ) else (chk (σ 7 3) 9 (some (up2 σ 8 ((σ 7 3).toNatClampNeg) x1)))))
set_option maxRecDepth 100000 in
set_option maxHeartbeats 4000000 in
theorem c_X1_setLaid (q : Nat → Nat) (σ : Nat → Nat → Int32) (x1 : Int32) (z : (Nat → Nat → Int32)) (h : f_X1_setLaid σ x1 = some z) : CT l dC dI cI cZ A yX1_setLaid cX1_setLaid 2 none rm_X1_setLaid [.ref (q 7), .int x1] (wX cI q σ) (wX cI q z) none := by
  refine b_met (by decide) (Nat.le_of_ble_eq_true rfl) ?_
  intro p e s m below meth c E
  have E : EV p s m _ meth c dC dI cI cZ cX1_setLaid 2 RX1 none := E
  show GG p l e rm_X1_setLaid s m _ below meth c _ A dC dI 2 (wX cI q σ) 0 [(0, .ref (q 7)), (1, .int x1)] []
  unfold f_X1_setLaid at h
  refine s_aload_n E 0 rfl dX1_setLaid_0 rfl ?_
  refine s_geti E (y := (σ 7 3)) 7 3 in_X1 gX_7 rfl (by decide) m_f_X1_21 rfl rfl dX1_setLaid_1 ?_
  refine s_if_lt E 26 dX1_setLaid_4 (by decide) (fun c1 => ?_) (fun c1 => ?_)
  · have h := (if_pos c1).symm.trans h
    obtain rfl := Option.some.inj h
    exact s_vret E rfl dX1_setLaid_26
  · have h := (if_neg c1).symm.trans h
    refine s_aload_n E 0 rfl dX1_setLaid_7 rfl ?_
    refine s_geti E (y := (σ 7 3)) 7 3 in_X1 gX_7 rfl (by decide) m_f_X1_21 rfl rfl dX1_setLaid_8 ?_
    refine s_bipush E (v := 8) dX1_setLaid_11 kb_8 ?_
    refine s_icmp_gt E 26 dX1_setLaid_13 (by decide) (fun c2 => ?_) (fun c2 => ?_)
    · have h := (if_pos c2).symm.trans h
      obtain rfl := Option.some.inj h
      exact s_vret E rfl dX1_setLaid_26
    · have h := (if_neg c2).symm.trans h
      refine s_aload_n E 0 rfl dX1_setLaid_16 rfl ?_
      refine s_get E (v := .ref (q 8)) 7 0 in_X1 gX_7 rfl (by decide) m_f_X1_9 rfl dX1_setLaid_17 ?_
      refine s_aload_n E 0 rfl dX1_setLaid_20 rfl ?_
      refine s_geti E (y := (σ 7 3)) 7 3 in_X1 gX_7 rfl (by decide) m_f_X1_21 rfl rfl dX1_setLaid_21 ?_
      refine s_iload_n E 1 rfl dX1_setLaid_24 rfl ?_
      obtain ⟨b3, h⟩ := chk_some h
      refine s_iast E (w' := (wX cI q (up2 σ 8 ((σ 7 3).toNatClampNeg) x1))) 8 gX_8 b3 aX_8 dX1_setLaid_25 ?_
      obtain rfl := Option.some.inj h
      exact s_vret E rfl dX1_setLaid_26
end
abbrev rm_X4_unseat : Room := { frames := 0, cells := 0, slots := 0, locals := 0 }
section
variable {w : va_W}
noncomputable def f_X4_unseat (x0 : Int32) (x1 : Int32) (x2 : Int32) : Int32 :=
  (x0 &&& ((shl 1 ((8 * x2) + x1)) ^^^ (-1)))
set_option maxRecDepth 100000 in
set_option maxHeartbeats 4000000 in
theorem c_X4_unseat (w : va_W) (x0 : Int32) (x1 : Int32) (x2 : Int32) : CT l dC dI cI cZ A yX4_unseat cX4_unseat 3 (some .int) rm_X4_unseat [.int x0, .int x1, .int x2] w w (some (.int (f_X4_unseat x0 x1 x2))) := by
  refine b_met (by decide) (Nat.le_of_ble_eq_true rfl) ?_
  intro p e s m below meth c E
  have E : EV p s m _ meth c dC dI cI cZ cX4_unseat 3 RX4 (some .int) := E
  generalize h : f_X4_unseat x0 x1 x2 = z
  show GG p l e rm_X4_unseat s m _ below meth c _ A dC dI 3 w 0 [(0, .int x0), (1, .int x1), (2, .int x2)] []
  unfold f_X4_unseat at h
  refine s_iload_n E 0 rfl dX4_unseat_0 rfl ?_
  refine s_iconst E (v := 1) dX4_unseat_1 ki_1 ?_
  refine s_bipush E (v := 8) dX4_unseat_2 kb_8 ?_
  refine s_iload_n E 2 rfl dX4_unseat_4 rfl ?_
  refine s_imul E dX4_unseat_5 ?_
  refine s_iload_n E 1 rfl dX4_unseat_6 rfl ?_
  refine s_iadd E dX4_unseat_7 ?_
  refine s_ishl E dX4_unseat_8 ?_
  refine s_iconst E (v := (-1)) dX4_unseat_9 ki_m1 ?_
  refine s_ixor E dX4_unseat_10 ?_
  refine s_iand E dX4_unseat_11 ?_
  subst h
  exact s_iret E rfl rfl dX4_unseat_12
end
abbrev rm_X4_poundsAfter : Room := { frames := 0, cells := 0, slots := 0, locals := 0 }
section
variable {w : va_W}
noncomputable def f_X4_poundsAfter (x0 : Int32) (x1 : Int32) (x2 : Int32) : Int32 :=
  (if 0 ≤ (x0 + (x1 * x2)) then (x0 + (x1 * x2)) else 0)
set_option maxRecDepth 100000 in
set_option maxHeartbeats 4000000 in
theorem c_X4_poundsAfter (w : va_W) (x0 : Int32) (x1 : Int32) (x2 : Int32) : CT l dC dI cI cZ A yX4_poundsAfter cX4_poundsAfter 4 (some .int) rm_X4_poundsAfter [.int x0, .int x1, .int x2] w w (some (.int (f_X4_poundsAfter x0 x1 x2))) := by
  refine b_met (by decide) (Nat.le_of_ble_eq_true rfl) ?_
  intro p e s m below meth c E
  have E : EV p s m _ meth c dC dI cI cZ cX4_poundsAfter 4 RX4 (some .int) := E
  generalize h : f_X4_poundsAfter x0 x1 x2 = z
  show GG p l e rm_X4_poundsAfter s m _ below meth c _ A dC dI 4 w 0 [(0, .int x0), (1, .int x1), (2, .int x2)] []
  unfold f_X4_poundsAfter at h
  refine s_iload_n E 0 rfl dX4_poundsAfter_0 rfl ?_
  refine s_iload_n E 1 rfl dX4_poundsAfter_1 rfl ?_
  refine s_iload_n E 2 rfl dX4_poundsAfter_2 rfl ?_
  refine s_imul E dX4_poundsAfter_3 ?_
  refine s_iadd E dX4_poundsAfter_4 ?_
  refine s_istore_n E (lv' := [(0, .int x0), (1, .int x1), (2, .int x2), (3, .int (x0 + (x1 * x2)))]) dX4_poundsAfter_5 rfl rfl rfl rfl (by decide) ?_
  refine s_iload_n E 3 rfl dX4_poundsAfter_6 rfl ?_
  refine s_if_ge E 14 dX4_poundsAfter_7 (by decide) (fun c1 => ?_) (fun c1 => ?_)
  · have h := (if_pos c1).symm.trans h
    refine s_iload_n E 3 rfl dX4_poundsAfter_14 rfl ?_
    subst h
    exact s_iret E rfl rfl dX4_poundsAfter_15
  · have h := (if_neg c1).symm.trans h
    refine s_iconst E (v := 0) dX4_poundsAfter_10 ki_0 ?_
    refine s_goto E 15 dX4_poundsAfter_11 (by decide) ?_
    subst h
    exact s_iret E rfl rfl dX4_poundsAfter_15
end
abbrev rm_X0_loadOf_3_4_9 : Room := { frames := 1, cells := 0, slots := 0, locals := 23 }
section
noncomputable def f_X0_loadOf_3_4_9_L24 (σ : Nat → Nat → Int32) (x5 : Int32) (x6 : Int32) : Nat → Int32 → Int32 → Option Int32
  | 0, _, _ => none
  | n + 1, y7, y8 =>
    (if (σ 3 5) ≤ y8 then (some y7) else (if ((shr x6 y8) &&& 1) = 0 then (f_X0_loadOf_3_4_9_L24 σ x5 x6 n y7 (y8 + 1)) else (chk y8 8 (chk y8 8 (f_X0_loadOf_3_4_9_L24 σ x5 x6 n (y7 + (f_X4_poundsAfter (σ 4 (y8.toNatClampNeg)) (σ 9 (y8.toNatClampNeg)) x5)) (y8 + 1))))))
set_option maxRecDepth 100000 in
set_option maxHeartbeats 4000000 in
theorem w_X0_loadOf_3_4_9_L24 (E : EV p s m args meth c dC dI cI cZ cX0_loadOf 9 RX0 (some .int)) (q : Nat → Nat) (σ : Nat → Nat → Int32) (x5 : Int32) (x6 : Int32) : ∀ (n : Nat) (y7 y8 : Int32) (z : Int32), f_X0_loadOf_3_4_9_L24 σ x5 x6 n y7 y8 = some z → GG p l e rm_X0_loadOf_3_4_9 s m args below meth c Q A dC dI 9 (wX cI q σ) 68 [(0, .ref (q 3)), (3, .ref (q 4)), (4, .ref (q 9)), (5, .int x5), (6, .int x6), (7, .int z)] [] → GG p l e rm_X0_loadOf_3_4_9 s m args below meth c Q A dC dI 9 (wX cI q σ) 24 [(0, .ref (q 3)), (3, .ref (q 4)), (4, .ref (q 9)), (5, .int x5), (6, .int x6), (7, .int y7), (8, .int y8)] [] := by
  intro n
  induction n with
  | zero =>
    intro y7 y8 z h
    rw [f_X0_loadOf_3_4_9_L24] at h
    cases h
  | succ n ih =>
    intro y7 y8 z h hK
    rw [f_X0_loadOf_3_4_9_L24] at h
    refine s_iload E 6 rfl dX0_loadOf_24 ?_
    refine s_aload_n E 0 rfl dX0_loadOf_26 rfl ?_
    refine s_geti E (y := (σ 3 5)) 3 5 in_X0 gX_3 rfl (by decide) m_f_X0_27 rfl rfl dX0_loadOf_27 ?_
    refine s_icmp_ge E 68 dX0_loadOf_30 (by decide) (fun c2 => ?_) (fun c2 => ?_)
    · have h := (if_pos c2).symm.trans h
      refine s_sub E (lv' := [(0, .ref (q 3)), (3, .ref (q 4)), (4, .ref (q 9)), (5, .int x5), (6, .int x6), (7, .int y7)]) [0, 1, 2, 3, 4, 5] rfl ?_
      obtain rfl := Option.some.inj h
      exact hK
    · have h := (if_neg c2).symm.trans h
      refine s_iload E 4 rfl dX0_loadOf_33 ?_
      refine s_iload E 6 rfl dX0_loadOf_35 ?_
      refine s_ishr E dX0_loadOf_37 ?_
      refine s_iconst E (v := 1) dX0_loadOf_38 ki_1 ?_
      refine s_iand E dX0_loadOf_39 ?_
      refine s_if_eq E 62 dX0_loadOf_40 (by decide) (fun c3 => ?_) (fun c3 => ?_)
      · have h := (if_pos c3).symm.trans h
        refine s_iinc E (v := (y8 + 1)) (lv' := [(0, .ref (q 3)), (3, .ref (q 4)), (4, .ref (q 9)), (5, .int x5), (6, .int x6), (7, .int y7), (8, .int (y8 + 1))]) 6 rfl dX0_loadOf_62 ki_1 rfl rfl rfl rfl (by decide) ?_
        refine s_goto E 24 dX0_loadOf_65 (by decide) ?_
        exact ih y7 (y8 + 1) z h hK
      · have h := (if_neg c3).symm.trans h
        refine s_iload E 5 rfl dX0_loadOf_43 ?_
        refine s_aload_n E 1 rfl dX0_loadOf_45 rfl ?_
        refine s_iload E 6 rfl dX0_loadOf_46 ?_
        obtain ⟨b4, h⟩ := chk_some h
        refine s_iald E (v := (σ 4 (y8.toNatClampNeg))) 4 gX_4 b4 rfl dX0_loadOf_48 ?_
        refine s_aload E 2 rfl dX0_loadOf_49 ?_
        refine s_iload E 6 rfl dX0_loadOf_51 ?_
        obtain ⟨b5, h⟩ := chk_some h
        refine s_iald E (v := (σ 9 (y8.toNatClampNeg))) 9 gX_9 b5 rfl dX0_loadOf_53 ?_
        refine s_iload E 3 rfl dX0_loadOf_54 ?_
        refine s_callSNi E kf_X4_poundsAfter nst_X0_65 (c_X4_poundsAfter (wX cI q σ) (σ 4 (y8.toNatClampNeg)) (σ 9 (y8.toNatClampNeg)) x5) ⟨rfl, rfl, by decide, by decide⟩ rfl rfl (Nat.le_of_ble_eq_true rfl) dX0_loadOf_56 ?_
        refine s_iadd E dX0_loadOf_59 ?_
        refine s_istore E (lv' := [(0, .ref (q 3)), (3, .ref (q 4)), (4, .ref (q 9)), (5, .int x5), (6, .int x6), (7, .int (y7 + (f_X4_poundsAfter (σ 4 (y8.toNatClampNeg)) (σ 9 (y8.toNatClampNeg)) x5))), (8, .int y8)]) dX0_loadOf_60 rfl rfl rfl (by decide) ?_
        refine s_iinc E (v := (y8 + 1)) (lv' := [(0, .ref (q 3)), (3, .ref (q 4)), (4, .ref (q 9)), (5, .int x5), (6, .int x6), (7, .int (y7 + (f_X4_poundsAfter (σ 4 (y8.toNatClampNeg)) (σ 9 (y8.toNatClampNeg)) x5))), (8, .int (y8 + 1))]) 6 rfl dX0_loadOf_62 ki_1 rfl rfl rfl rfl (by decide) ?_
        refine s_goto E 24 dX0_loadOf_65 (by decide) ?_
        exact ih (y7 + (f_X4_poundsAfter (σ 4 (y8.toNatClampNeg)) (σ 9 (y8.toNatClampNeg)) x5)) (y8 + 1) z h hK
noncomputable def f_X0_loadOf_3_4_9_J19 (σ : Nat → Nat → Int32) (t5 : Int32) (t6 : Int32) (s0 : Int32) : Option Int32 :=
  ((f_X0_loadOf_3_4_9_L24 σ t5 t6 fuel s0 0).bind fun u6 => (some u6))
set_option maxRecDepth 100000 in
set_option maxHeartbeats 4000000 in
theorem w_X0_loadOf_3_4_9_J19 (E : EV p s m args meth c dC dI cI cZ cX0_loadOf 9 RX0 (some .int)) (q : Nat → Nat) (σ : Nat → Nat → Int32) (t5 : Int32) (t6 : Int32) (s0 : Int32) (z : Int32) (h : f_X0_loadOf_3_4_9_J19 σ t5 t6 s0 = some z) : GG p l e rm_X0_loadOf_3_4_9 s m args below meth c (MQ below (CQ dC dI (some (.int z)) (wX cI q σ) A) args s 0 0 A) A dC dI 9 (wX cI q σ) 19 [(0, .ref (q 3)), (3, .ref (q 4)), (4, .ref (q 9)), (5, .int t5), (6, .int t6)] [.int s0] := by
  unfold f_X0_loadOf_3_4_9_J19 at h
  refine s_istore E (lv' := [(0, .ref (q 3)), (3, .ref (q 4)), (4, .ref (q 9)), (5, .int t5), (6, .int t6), (7, .int s0)]) dX0_loadOf_19 rfl rfl rfl (by decide) ?_
  refine s_iconst E (v := 0) dX0_loadOf_21 ki_0 ?_
  refine s_istore E (lv' := [(0, .ref (q 3)), (3, .ref (q 4)), (4, .ref (q 9)), (5, .int t5), (6, .int t6), (7, .int s0), (8, .int 0)]) dX0_loadOf_22 rfl rfl rfl (by decide) ?_
  obtain ⟨u6, e6, h⟩ := bnd_some h
  refine w_X0_loadOf_3_4_9_L24 E q σ t5 t6 fuel s0 0 u6 e6 ?_
  refine s_iload E 5 rfl dX0_loadOf_68 ?_
  obtain rfl := Option.some.inj h
  exact s_iret E rfl rfl dX0_loadOf_70
noncomputable def f_X0_loadOf_3_4_9 (σ : Nat → Nat → Int32) (x1 : Int32) (x2 : Int32) (x5 : Int32) : Option Int32 :=
  (if x2 = 0 then (f_X0_loadOf_3_4_9_J19 σ x5 (f_X4_sitters x1 x2) (σ 3 4)) else (f_X0_loadOf_3_4_9_J19 σ x5 (f_X4_sitters x1 x2) 0))
set_option maxRecDepth 100000 in
set_option maxHeartbeats 4000000 in
theorem c_X0_loadOf_3_4_9 (q : Nat → Nat) (σ : Nat → Nat → Int32) (x1 : Int32) (x2 : Int32) (x5 : Int32) (z : Int32) (h : f_X0_loadOf_3_4_9 σ x1 x2 x5 = some z) : CT l dC dI cI cZ A yX0_loadOf cX0_loadOf 9 (some .int) rm_X0_loadOf_3_4_9 [.ref (q 3), .int x1, .int x2, .ref (q 4), .ref (q 9), .int x5] (wX cI q σ) (wX cI q σ) (some (.int z)) := by
  refine b_met (by decide) (Nat.le_of_ble_eq_true rfl) ?_
  intro p e s m below meth c E
  have E : EV p s m _ meth c dC dI cI cZ cX0_loadOf 9 RX0 (some .int) := E
  show GG p l e rm_X0_loadOf_3_4_9 s m _ below meth c _ A dC dI 9 (wX cI q σ) 0 [(0, .ref (q 3)), (1, .int x1), (2, .int x2), (3, .ref (q 4)), (4, .ref (q 9)), (5, .int x5)] []
  unfold f_X0_loadOf_3_4_9 at h
  refine s_iload_n E 1 rfl dX0_loadOf_0 rfl ?_
  refine s_iload_n E 2 rfl dX0_loadOf_1 rfl ?_
  refine s_callSNi E kf_X4_sitters nst_X0_62 (c_X4_sitters (wX cI q σ) x1 x2) ⟨rfl, rfl, by decide, by decide⟩ rfl rfl (Nat.le_of_ble_eq_true rfl) dX0_loadOf_2 ?_
  refine s_istore E (lv' := [(0, .ref (q 3)), (1, .int x1), (2, .int x2), (3, .ref (q 4)), (4, .ref (q 9)), (5, .int x5), (6, .int (f_X4_sitters x1 x2))]) dX0_loadOf_5 rfl rfl rfl (by decide) ?_
  refine s_iload_n E 2 rfl dX0_loadOf_7 rfl ?_
  refine s_if_ne E 18 dX0_loadOf_8 (by decide) (fun c1 => ?_) (fun c1 => ?_)
  · have h := (if_pos c1).symm.trans h
    refine s_aload_n E 0 rfl dX0_loadOf_11 rfl ?_
    refine s_geti E (y := (σ 3 4)) 3 4 in_X0 gX_3 rfl (by decide) m_f_X0_24 rfl rfl dX0_loadOf_12 ?_
    refine s_goto E 19 dX0_loadOf_15 (by decide) ?_
    refine s_sub E (lv' := [(0, .ref (q 3)), (3, .ref (q 4)), (4, .ref (q 9)), (5, .int x5), (6, .int (f_X4_sitters x1 x2))]) [0, 3, 4, 5, 6] rfl ?_
    exact w_X0_loadOf_3_4_9_J19 E q σ x5 (f_X4_sitters x1 x2) (σ 3 4) z h
  · have h := (if_neg c1).symm.trans h
    refine s_iconst E (v := 0) dX0_loadOf_18 ki_0 ?_
    refine s_sub E (lv' := [(0, .ref (q 3)), (3, .ref (q 4)), (4, .ref (q 9)), (5, .int x5), (6, .int (f_X4_sitters x1 x2))]) [0, 3, 4, 5, 6] rfl ?_
    exact w_X0_loadOf_3_4_9_J19 E q σ x5 (f_X4_sitters x1 x2) 0 z h
end
abbrev rm_X0_tiltOf_3_4_9 : Room := { frames := 2, cells := 0, slots := 0, locals := 51 }
section
noncomputable def f_X0_tiltOf_3_4_9 (σ : Nat → Nat → Int32) (x1 : Int32) (x4 : Int32) : Option Int32 :=
  ((f_X0_loadOf_3_4_9 σ x1 0 x4).bind fun u1 => ((f_X0_loadOf_3_4_9 σ x1 1 x4).bind fun u2 => (if (σ 3 0) = 2 then (some (((σ 3 1) * u1) - ((σ 3 2) * u2))) else ((f_X0_loadOf_3_4_9 σ x1 2 x4).bind fun u4 => (some ((if u1 < (if u2 < u4 then u4 else u2) then (if u2 < u4 then u4 else u2) else u1) - (if (if u4 < u2 then u4 else u2) < u1 then (if u4 < u2 then u4 else u2) else u1)))))))
set_option maxRecDepth 100000 in
set_option maxHeartbeats 4000000 in
theorem c_X0_tiltOf_3_4_9 (q : Nat → Nat) (σ : Nat → Nat → Int32) (x1 : Int32) (x4 : Int32) (z : Int32) (h : f_X0_tiltOf_3_4_9 σ x1 x4 = some z) : CT l dC dI cI cZ A yX0_tiltOf cX0_tiltOf 10 (some .int) rm_X0_tiltOf_3_4_9 [.ref (q 3), .int x1, .ref (q 4), .ref (q 9), .int x4] (wX cI q σ) (wX cI q σ) (some (.int z)) := by
  refine b_met (by decide) (Nat.le_of_ble_eq_true rfl) ?_
  intro p e s m below meth c E
  have E : EV p s m _ meth c dC dI cI cZ cX0_tiltOf 10 RX0 (some .int) := E
  show GG p l e rm_X0_tiltOf_3_4_9 s m _ below meth c _ A dC dI 10 (wX cI q σ) 0 [(0, .ref (q 3)), (1, .int x1), (2, .ref (q 4)), (3, .ref (q 9)), (4, .int x4)] []
  unfold f_X0_tiltOf_3_4_9 at h
  refine s_aload_n E 0 rfl dX0_tiltOf_0 rfl ?_
  refine s_iload_n E 1 rfl dX0_tiltOf_1 rfl ?_
  refine s_iconst E (v := 0) dX0_tiltOf_2 ki_0 ?_
  refine s_aload_n E 2 rfl dX0_tiltOf_3 rfl ?_
  refine s_aload_n E 3 rfl dX0_tiltOf_4 rfl ?_
  refine s_iload E 4 rfl dX0_tiltOf_5 ?_
  obtain ⟨u1, e1, h⟩ := bnd_some h
  refine s_callVi E kf_X0_loadOf m_l_X0_69 (c_X0_loadOf_3_4_9 q σ x1 0 x4 u1 e1) ⟨rfl, rfl, by decide, by decide⟩ (q0 := 3) rfl rfl rfl rfl rfl (Nat.le_of_ble_eq_true rfl) dX0_tiltOf_7 ?_
  refine s_istore E (lv' := [(0, .ref (q 3)), (1, .int x1), (2, .ref (q 4)), (3, .ref (q 9)), (4, .int x4), (5, .int u1)]) dX0_tiltOf_10 rfl rfl rfl (by decide) ?_
  refine s_aload_n E 0 rfl dX0_tiltOf_12 rfl ?_
  refine s_iload_n E 1 rfl dX0_tiltOf_13 rfl ?_
  refine s_iconst E (v := 1) dX0_tiltOf_14 ki_1 ?_
  refine s_aload_n E 2 rfl dX0_tiltOf_15 rfl ?_
  refine s_aload_n E 3 rfl dX0_tiltOf_16 rfl ?_
  refine s_iload E 4 rfl dX0_tiltOf_17 ?_
  obtain ⟨u2, e2, h⟩ := bnd_some h
  refine s_callVi E kf_X0_loadOf m_l_X0_69 (c_X0_loadOf_3_4_9 q σ x1 1 x4 u2 e2) ⟨rfl, rfl, by decide, by decide⟩ (q0 := 3) rfl rfl rfl rfl rfl (Nat.le_of_ble_eq_true rfl) dX0_tiltOf_19 ?_
  refine s_istore E (lv' := [(0, .ref (q 3)), (1, .int x1), (2, .ref (q 4)), (3, .ref (q 9)), (4, .int x4), (5, .int u1), (6, .int u2)]) dX0_tiltOf_22 rfl rfl rfl (by decide) ?_
  refine s_aload_n E 0 rfl dX0_tiltOf_24 rfl ?_
  refine s_geti E (y := (σ 3 0)) 3 0 in_X0 gX_3 rfl (by decide) m_f_X0_9 rfl rfl dX0_tiltOf_25 ?_
  refine s_iconst E (v := 2) dX0_tiltOf_28 ki_2 ?_
  refine s_icmp_ne E 48 dX0_tiltOf_29 (by decide) (fun c3 => ?_) (fun c3 => ?_)
  · have h := (if_pos c3).symm.trans h
    refine s_aload_n E 0 rfl dX0_tiltOf_32 rfl ?_
    refine s_geti E (y := (σ 3 1)) 3 1 in_X0 gX_3 rfl (by decide) m_f_X0_15 rfl rfl dX0_tiltOf_33 ?_
    refine s_iload E 5 rfl dX0_tiltOf_36 ?_
    refine s_imul E dX0_tiltOf_38 ?_
    refine s_aload_n E 0 rfl dX0_tiltOf_39 rfl ?_
    refine s_geti E (y := (σ 3 2)) 3 2 in_X0 gX_3 rfl (by decide) m_f_X0_18 rfl rfl dX0_tiltOf_40 ?_
    refine s_iload E 6 rfl dX0_tiltOf_43 ?_
    refine s_imul E dX0_tiltOf_45 ?_
    refine s_isub E dX0_tiltOf_46 ?_
    obtain rfl := Option.some.inj h
    exact s_iret E rfl rfl dX0_tiltOf_47
  · have h := (if_neg c3).symm.trans h
    refine s_aload_n E 0 rfl dX0_tiltOf_48 rfl ?_
    refine s_iload_n E 1 rfl dX0_tiltOf_49 rfl ?_
    refine s_iconst E (v := 2) dX0_tiltOf_50 ki_2 ?_
    refine s_aload_n E 2 rfl dX0_tiltOf_51 rfl ?_
    refine s_aload_n E 3 rfl dX0_tiltOf_52 rfl ?_
    refine s_iload E 4 rfl dX0_tiltOf_53 ?_
    obtain ⟨u4, e4, h⟩ := bnd_some h
    refine s_callVi E kf_X0_loadOf m_l_X0_69 (c_X0_loadOf_3_4_9 q σ x1 2 x4 u4 e4) ⟨rfl, rfl, by decide, by decide⟩ (q0 := 3) rfl rfl rfl rfl rfl (Nat.le_of_ble_eq_true rfl) dX0_tiltOf_55 ?_
    refine s_istore E (lv' := [(0, .ref (q 3)), (1, .int x1), (2, .ref (q 4)), (3, .ref (q 9)), (4, .int x4), (5, .int u1), (6, .int u2), (7, .int u4)]) dX0_tiltOf_58 rfl rfl rfl (by decide) ?_
    refine s_iload E 5 rfl dX0_tiltOf_60 ?_
    refine s_iload E 6 rfl dX0_tiltOf_62 ?_
    refine s_iload E 7 rfl dX0_tiltOf_64 ?_
    refine s_mmax E m_l_X0_73 (by decide) (Nat.le_of_ble_eq_true rfl) dX0_tiltOf_66 ?_
    refine s_mmax E m_l_X0_73 (by decide) (Nat.le_of_ble_eq_true rfl) dX0_tiltOf_69 ?_
    refine s_istore E (lv' := [(0, .ref (q 3)), (1, .int x1), (2, .ref (q 4)), (3, .ref (q 9)), (4, .int x4), (5, .int u1), (6, .int u2), (7, .int u4), (8, .int (if u1 < (if u2 < u4 then u4 else u2) then (if u2 < u4 then u4 else u2) else u1))]) dX0_tiltOf_72 rfl rfl rfl (by decide) ?_
    refine s_iload E 5 rfl dX0_tiltOf_74 ?_
    refine s_iload E 6 rfl dX0_tiltOf_76 ?_
    refine s_iload E 7 rfl dX0_tiltOf_78 ?_
    refine s_mmin E m_l_X0_49 (by decide) (Nat.le_of_ble_eq_true rfl) dX0_tiltOf_80 ?_
    refine s_mmin E m_l_X0_49 (by decide) (Nat.le_of_ble_eq_true rfl) dX0_tiltOf_83 ?_
    refine s_istore E (lv' := [(0, .ref (q 3)), (1, .int x1), (2, .ref (q 4)), (3, .ref (q 9)), (4, .int x4), (5, .int u1), (6, .int u2), (7, .int u4), (8, .int (if u1 < (if u2 < u4 then u4 else u2) then (if u2 < u4 then u4 else u2) else u1)), (9, .int (if (if u4 < u2 then u4 else u2) < u1 then (if u4 < u2 then u4 else u2) else u1))]) dX0_tiltOf_86 rfl rfl rfl (by decide) ?_
    refine s_iload E 8 rfl dX0_tiltOf_88 ?_
    refine s_iload E 9 rfl dX0_tiltOf_90 ?_
    refine s_isub E dX0_tiltOf_92 ?_
    obtain rfl := Option.some.inj h
    exact s_iret E rfl rfl dX0_tiltOf_93
end
abbrev rm_X0_isLevel_3_4_7 : Room := { frames := 3, cells := 0, slots := 0, locals := 80 }
section
noncomputable def f_X0_isLevel_3_4_7 (σ : Nat → Nat → Int32) (x1 : Int32) : Option Int32 :=
  ((f_X0_tiltOf_3_4_9 σ x1 0).bind fun u1 => (if u1 = 0 then ((f_X0_tiltOf_3_4_9 σ x1 (σ 7 4)).bind fun u3 => (if u3 = 0 then (some 1) else (some 0))) else (some 0)))
set_option maxRecDepth 100000 in
set_option maxHeartbeats 4000000 in
theorem c_X0_isLevel_3_4_7 (q : Nat → Nat) (σ : Nat → Nat → Int32) (x1 : Int32) (z : Int32) (h : f_X0_isLevel_3_4_7 σ x1 = some z) : CT l dC dI cI cZ A yX0_isLevel cX0_isLevel 4 (some .boolean) rm_X0_isLevel_3_4_7 [.ref (q 3), .int x1, .ref (q 4), .ref (q 7)] (wX cI q σ) (wX cI q σ) (some (.int z)) := by
  refine b_met (by decide) (Nat.le_of_ble_eq_true rfl) ?_
  intro p e s m below meth c E
  have E : EV p s m _ meth c dC dI cI cZ cX0_isLevel 4 RX0 (some .boolean) := E
  show GG p l e rm_X0_isLevel_3_4_7 s m _ below meth c _ A dC dI 4 (wX cI q σ) 0 [(0, .ref (q 3)), (1, .int x1), (2, .ref (q 4)), (3, .ref (q 7))] []
  unfold f_X0_isLevel_3_4_7 at h
  refine s_aload_n E 0 rfl dX0_isLevel_0 rfl ?_
  refine s_iload_n E 1 rfl dX0_isLevel_1 rfl ?_
  refine s_aload_n E 2 rfl dX0_isLevel_2 rfl ?_
  refine s_aload_n E 3 rfl dX0_isLevel_3 rfl ?_
  refine s_get E (v := .ref (q 9)) 7 1 in_X1 gX_7 rfl (by decide) m_f_X0_76 rfl dX0_isLevel_4 ?_
  refine s_iconst E (v := 0) dX0_isLevel_7 ki_0 ?_
  obtain ⟨u1, e1, h⟩ := bnd_some h
  refine s_callVi E kf_X0_tiltOf m_l_X0_81 (c_X0_tiltOf_3_4_9 q σ x1 0 u1 e1) ⟨rfl, rfl, by decide, by decide⟩ (q0 := 3) rfl rfl rfl rfl rfl (Nat.le_of_ble_eq_true rfl) dX0_isLevel_8 ?_
  refine s_if_ne E 35 dX0_isLevel_11 (by decide) (fun c2 => ?_) (fun c2 => ?_)
  · have h := (if_pos c2).symm.trans h
    refine s_aload_n E 0 rfl dX0_isLevel_14 rfl ?_
    refine s_iload_n E 1 rfl dX0_isLevel_15 rfl ?_
    refine s_aload_n E 2 rfl dX0_isLevel_16 rfl ?_
    refine s_aload_n E 3 rfl dX0_isLevel_17 rfl ?_
    refine s_get E (v := .ref (q 9)) 7 1 in_X1 gX_7 rfl (by decide) m_f_X0_76 rfl dX0_isLevel_18 ?_
    refine s_aload_n E 3 rfl dX0_isLevel_21 rfl ?_
    refine s_geti E (y := (σ 7 4)) 7 4 in_X1 gX_7 rfl (by decide) m_f_X0_85 rfl rfl dX0_isLevel_22 ?_
    obtain ⟨u3, e3, h⟩ := bnd_some h
    refine s_callVi E kf_X0_tiltOf m_l_X0_81 (c_X0_tiltOf_3_4_9 q σ x1 (σ 7 4) u3 e3) ⟨rfl, rfl, by decide, by decide⟩ (q0 := 3) rfl rfl rfl rfl rfl (Nat.le_of_ble_eq_true rfl) dX0_isLevel_25 ?_
    refine s_if_ne E 35 dX0_isLevel_28 (by decide) (fun c4 => ?_) (fun c4 => ?_)
    · have h := (if_pos c4).symm.trans h
      refine s_iconst E (v := 1) dX0_isLevel_31 ki_1 ?_
      refine s_goto E 36 dX0_isLevel_32 (by decide) ?_
      obtain rfl := Option.some.inj h
      exact s_zret E rfl rfl rfl dX0_isLevel_36
    · have h := (if_neg c4).symm.trans h
      refine s_iconst E (v := 0) dX0_isLevel_35 ki_0 ?_
      obtain rfl := Option.some.inj h
      exact s_zret E rfl rfl rfl dX0_isLevel_36
  · have h := (if_neg c2).symm.trans h
    refine s_iconst E (v := 0) dX0_isLevel_35 ki_0 ?_
    obtain rfl := Option.some.inj h
    exact s_zret E rfl rfl rfl dX0_isLevel_36
end
abbrev rm_X1_depart : Room := { frames := 1, cells := 0, slots := 0, locals := 21 }
section
noncomputable def f_X1_depart (σ : Nat → Nat → Int32) : Option (Nat → Nat → Int32) :=
  (if 8 ≤ (σ 7 3) then (some σ) else ((f_X1_setLaid (up2 σ 7 3 ((σ 7 3) + 1)) 0).bind fun u2 => (some u2)))
set_option maxRecDepth 100000 in
set_option maxHeartbeats 4000000 in
theorem c_X1_depart (q : Nat → Nat) (σ : Nat → Nat → Int32) (z : (Nat → Nat → Int32)) (h : f_X1_depart σ = some z) : CT l dC dI cI cZ A yX1_depart cX1_depart 1 none rm_X1_depart [.ref (q 7)] (wX cI q σ) (wX cI q z) none := by
  refine b_met (by decide) (Nat.le_of_ble_eq_true rfl) ?_
  intro p e s m below meth c E
  have E : EV p s m _ meth c dC dI cI cZ cX1_depart 1 RX1 none := E
  show GG p l e rm_X1_depart s m _ below meth c _ A dC dI 1 (wX cI q σ) 0 [(0, .ref (q 7))] []
  unfold f_X1_depart at h
  refine s_aload_n E 0 rfl dX1_depart_0 rfl ?_
  refine s_geti E (y := (σ 7 3)) 7 3 in_X1 gX_7 rfl (by decide) m_f_X1_21 rfl rfl dX1_depart_1 ?_
  refine s_bipush E (v := 8) dX1_depart_4 kb_8 ?_
  refine s_icmp_ge E 24 dX1_depart_6 (by decide) (fun c1 => ?_) (fun c1 => ?_)
  · have h := (if_pos c1).symm.trans h
    obtain rfl := Option.some.inj h
    exact s_vret E rfl dX1_depart_24
  · have h := (if_neg c1).symm.trans h
    refine s_aload_n E 0 rfl dX1_depart_9 rfl ?_
    refine s_dup E dX1_depart_10 rfl ?_
    refine s_geti E (y := (σ 7 3)) 7 3 in_X1 gX_7 rfl (by decide) m_f_X1_21 rfl rfl dX1_depart_11 ?_
    refine s_iconst E (v := 1) dX1_depart_14 ki_1 ?_
    refine s_iadd E dX1_depart_15 ?_
    refine s_put E (w' := (wX cI q (up2 σ 7 3 ((σ 7 3) + 1)))) (v := .int ((σ 7 3) + 1)) 7 3 tyX1 tyX1_ok nmX1 in_X1 gX_7 rfl (by decide) m_f_X1_21 rfl (tyX1_ok 3 (by decide)) rfl rfl (Nat.le_of_ble_eq_true rfl) fX_7_3 dX1_depart_16 ?_
    refine s_aload_n E 0 rfl dX1_depart_19 rfl ?_
    refine s_iconst E (v := 0) dX1_depart_20 ki_0 ?_
    obtain ⟨u2, e2, h⟩ := bnd_some h
    refine s_callVv E kf_X1_setLaid m_l_X1_41 (c_X1_setLaid q (up2 σ 7 3 ((σ 7 3) + 1)) 0 u2 e2) ⟨rfl, rfl, by decide, by decide⟩ (q0 := 7) rfl rfl rfl rfl rfl (Nat.le_of_ble_eq_true rfl) dX1_depart_21 ?_
    obtain rfl := Option.some.inj h
    exact s_vret E rfl dX1_depart_24
end
abbrev rm_X4_members : Room := { frames := 0, cells := 0, slots := 0, locals := 0 }
section
variable {w : va_W}
noncomputable def f_X4_members (x0 : Int32) : Int32 :=
  (((x0 ||| (ush x0 8)) ||| (ush x0 16)) &&& 255)
set_option maxRecDepth 100000 in
set_option maxHeartbeats 4000000 in
theorem c_X4_members (w : va_W) (x0 : Int32) : CT l dC dI cI cZ A yX4_members cX4_members 1 (some .int) rm_X4_members [.int x0] w w (some (.int (f_X4_members x0))) := by
  refine b_met (by decide) (Nat.le_of_ble_eq_true rfl) ?_
  intro p e s m below meth c E
  have E : EV p s m _ meth c dC dI cI cZ cX4_members 1 RX4 (some .int) := E
  generalize h : f_X4_members x0 = z
  show GG p l e rm_X4_members s m _ below meth c _ A dC dI 1 w 0 [(0, .int x0)] []
  unfold f_X4_members at h
  refine s_iload_n E 0 rfl dX4_members_0 rfl ?_
  refine s_iload_n E 0 rfl dX4_members_1 rfl ?_
  refine s_bipush E (v := 8) dX4_members_2 kb_8 ?_
  refine s_iushr E dX4_members_4 ?_
  refine s_ior E dX4_members_5 ?_
  refine s_iload_n E 0 rfl dX4_members_6 rfl ?_
  refine s_bipush E (v := 16) dX4_members_7 kb_16 ?_
  refine s_iushr E dX4_members_9 ?_
  refine s_ior E dX4_members_10 ?_
  refine s_sipush E (v := 255) dX4_members_11 ks_255 ?_
  refine s_iand E dX4_members_14 ?_
  subst h
  exact s_iret E rfl rfl dX4_members_15
end
abbrev rm_X0_faresOf : Room := { frames := 0, cells := 0, slots := 0, locals := 0 }
section
noncomputable def f_X0_faresOf_L4 (σ : Nat → Nat → Int32) (x1 : Int32) : Nat → Int32 → Int32 → Option Int32
  | 0, _, _ => none
  | n + 1, y2, y3 =>
    (if (σ 3 5) ≤ y3 then (some y2) else (if ((shr x1 y3) &&& 1) = 0 then (f_X0_faresOf_L4 σ x1 n y2 (y3 + 1)) else (chk y3 8 (f_X0_faresOf_L4 σ x1 n (y2 + (σ 5 (y3.toNatClampNeg))) (y3 + 1)))))
set_option maxRecDepth 100000 in
set_option maxHeartbeats 4000000 in
theorem w_X0_faresOf_L4 (E : EV p s m args meth c dC dI cI cZ cX0_faresOf 4 RX0 (some .int)) (q : Nat → Nat) (σ : Nat → Nat → Int32) (x1 : Int32) : ∀ (n : Nat) (y2 y3 : Int32) (z : Int32), f_X0_faresOf_L4 σ x1 n y2 y3 = some z → GG p l e rm_X0_faresOf s m args below meth c Q A dC dI 4 (wX cI q σ) 35 [(0, .ref (q 3)), (1, .int x1), (2, .int z)] [] → GG p l e rm_X0_faresOf s m args below meth c Q A dC dI 4 (wX cI q σ) 4 [(0, .ref (q 3)), (1, .int x1), (2, .int y2), (3, .int y3)] [] := by
  intro n
  induction n with
  | zero =>
    intro y2 y3 z h
    rw [f_X0_faresOf_L4] at h
    cases h
  | succ n ih =>
    intro y2 y3 z h hK
    rw [f_X0_faresOf_L4] at h
    refine s_iload_n E 3 rfl dX0_faresOf_4 rfl ?_
    refine s_aload_n E 0 rfl dX0_faresOf_5 rfl ?_
    refine s_geti E (y := (σ 3 5)) 3 5 in_X0 gX_3 rfl (by decide) m_f_X0_27 rfl rfl dX0_faresOf_6 ?_
    refine s_icmp_ge E 35 dX0_faresOf_9 (by decide) (fun c1 => ?_) (fun c1 => ?_)
    · have h := (if_pos c1).symm.trans h
      refine s_sub E (lv' := [(0, .ref (q 3)), (1, .int x1), (2, .int y2)]) [0, 1, 2] rfl ?_
      obtain rfl := Option.some.inj h
      exact hK
    · have h := (if_neg c1).symm.trans h
      refine s_iload_n E 1 rfl dX0_faresOf_12 rfl ?_
      refine s_iload_n E 3 rfl dX0_faresOf_13 rfl ?_
      refine s_ishr E dX0_faresOf_14 ?_
      refine s_iconst E (v := 1) dX0_faresOf_15 ki_1 ?_
      refine s_iand E dX0_faresOf_16 ?_
      refine s_if_eq E 29 dX0_faresOf_17 (by decide) (fun c2 => ?_) (fun c2 => ?_)
      · have h := (if_pos c2).symm.trans h
        refine s_iinc E (v := (y3 + 1)) (lv' := [(0, .ref (q 3)), (1, .int x1), (2, .int y2), (3, .int (y3 + 1))]) 3 rfl dX0_faresOf_29 ki_1 rfl rfl rfl rfl (by decide) ?_
        refine s_goto E 4 dX0_faresOf_32 (by decide) ?_
        exact ih y2 (y3 + 1) z h hK
      · have h := (if_neg c2).symm.trans h
        refine s_iload_n E 2 rfl dX0_faresOf_20 rfl ?_
        refine s_aload_n E 0 rfl dX0_faresOf_21 rfl ?_
        refine s_get E (v := .ref (q 5)) 3 7 in_X0 gX_3 rfl (by decide) m_f_X0_34 rfl dX0_faresOf_22 ?_
        refine s_iload_n E 3 rfl dX0_faresOf_25 rfl ?_
        obtain ⟨b3, h⟩ := chk_some h
        refine s_iald E (v := (σ 5 (y3.toNatClampNeg))) 5 gX_5 b3 rfl dX0_faresOf_26 ?_
        refine s_iadd E dX0_faresOf_27 ?_
        refine s_istore_n E (lv' := [(0, .ref (q 3)), (1, .int x1), (2, .int (y2 + (σ 5 (y3.toNatClampNeg)))), (3, .int y3)]) dX0_faresOf_28 rfl rfl rfl rfl (by decide) ?_
        refine s_iinc E (v := (y3 + 1)) (lv' := [(0, .ref (q 3)), (1, .int x1), (2, .int (y2 + (σ 5 (y3.toNatClampNeg)))), (3, .int (y3 + 1))]) 3 rfl dX0_faresOf_29 ki_1 rfl rfl rfl rfl (by decide) ?_
        refine s_goto E 4 dX0_faresOf_32 (by decide) ?_
        exact ih (y2 + (σ 5 (y3.toNatClampNeg))) (y3 + 1) z h hK
noncomputable def f_X0_faresOf (σ : Nat → Nat → Int32) (x1 : Int32) : Option Int32 :=
  ((f_X0_faresOf_L4 σ x1 fuel 0 0).bind fun u4 => (some u4))
set_option maxRecDepth 100000 in
set_option maxHeartbeats 4000000 in
theorem c_X0_faresOf (q : Nat → Nat) (σ : Nat → Nat → Int32) (x1 : Int32) (z : Int32) (h : f_X0_faresOf σ x1 = some z) : CT l dC dI cI cZ A yX0_faresOf cX0_faresOf 4 (some .int) rm_X0_faresOf [.ref (q 3), .int x1] (wX cI q σ) (wX cI q σ) (some (.int z)) := by
  refine b_met (by decide) (Nat.le_of_ble_eq_true rfl) ?_
  intro p e s m below meth c E
  have E : EV p s m _ meth c dC dI cI cZ cX0_faresOf 4 RX0 (some .int) := E
  show GG p l e rm_X0_faresOf s m _ below meth c _ A dC dI 4 (wX cI q σ) 0 [(0, .ref (q 3)), (1, .int x1)] []
  unfold f_X0_faresOf at h
  refine s_iconst E (v := 0) dX0_faresOf_0 ki_0 ?_
  refine s_istore_n E (lv' := [(0, .ref (q 3)), (1, .int x1), (2, .int 0)]) dX0_faresOf_1 rfl rfl rfl rfl (by decide) ?_
  refine s_iconst E (v := 0) dX0_faresOf_2 ki_0 ?_
  refine s_istore_n E (lv' := [(0, .ref (q 3)), (1, .int x1), (2, .int 0), (3, .int 0)]) dX0_faresOf_3 rfl rfl rfl rfl (by decide) ?_
  obtain ⟨u4, e4, h⟩ := bnd_some h
  refine w_X0_faresOf_L4 E q σ x1 fuel 0 0 u4 e4 ?_
  refine s_iload_n E 2 rfl dX0_faresOf_35 rfl ?_
  obtain rfl := Option.some.inj h
  exact s_iret E rfl rfl dX0_faresOf_36
end
abbrev rm_X1_takeBack : Room := { frames := 0, cells := 0, slots := 0, locals := 0 }
section
noncomputable def f_X1_takeBack (σ : Nat → Nat → Int32) : (Nat → Nat → Int32) :=
  (if (σ 7 3) ≤ 0 then σ else (up2 σ 7 3 ((σ 7 3) - 1)))
set_option maxRecDepth 100000 in
set_option maxHeartbeats 4000000 in
theorem c_X1_takeBack (q : Nat → Nat) (σ : Nat → Nat → Int32) : CT l dC dI cI cZ A yX1_takeBack cX1_takeBack 1 none rm_X1_takeBack [.ref (q 7)] (wX cI q σ) (wX cI q (f_X1_takeBack σ)) none := by
  refine b_met (by decide) (Nat.le_of_ble_eq_true rfl) ?_
  intro p e s m below meth c E
  have E : EV p s m _ meth c dC dI cI cZ cX1_takeBack 1 RX1 none := E
  generalize h : f_X1_takeBack σ = z
  show GG p l e rm_X1_takeBack s m _ below meth c _ A dC dI 1 (wX cI q σ) 0 [(0, .ref (q 7))] []
  unfold f_X1_takeBack at h
  refine s_aload_n E 0 rfl dX1_takeBack_0 rfl ?_
  refine s_geti E (y := (σ 7 3)) 7 3 in_X1 gX_7 rfl (by decide) m_f_X1_21 rfl rfl dX1_takeBack_1 ?_
  refine s_if_le E 17 dX1_takeBack_4 (by decide) (fun c1 => ?_) (fun c1 => ?_)
  · have h := (if_pos c1).symm.trans h
    subst h
    exact s_vret E rfl dX1_takeBack_17
  · have h := (if_neg c1).symm.trans h
    refine s_aload_n E 0 rfl dX1_takeBack_7 rfl ?_
    refine s_dup E dX1_takeBack_8 rfl ?_
    refine s_geti E (y := (σ 7 3)) 7 3 in_X1 gX_7 rfl (by decide) m_f_X1_21 rfl rfl dX1_takeBack_9 ?_
    refine s_iconst E (v := 1) dX1_takeBack_12 ki_1 ?_
    refine s_isub E dX1_takeBack_13 ?_
    refine s_put E (w' := (wX cI q (up2 σ 7 3 ((σ 7 3) - 1)))) (v := .int ((σ 7 3) - 1)) 7 3 tyX1 tyX1_ok nmX1 in_X1 gX_7 rfl (by decide) m_f_X1_21 rfl (tyX1_ok 3 (by decide)) rfl rfl (Nat.le_of_ble_eq_true rfl) fX_7_3 dX1_takeBack_14 ?_
    subst h
    exact s_vret E rfl dX1_takeBack_17
end
abbrev rm_X1_gone : Room := { frames := 1, cells := 0, slots := 0, locals := 21 }
section
noncomputable def f_X1_gone_L4 (σ : Nat → Nat → Int32) : Nat → Int32 → Int32 → Option Int32
  | 0, _, _ => none
  | n + 1, y1, y2 =>
    (if (σ 7 3) ≤ y2 then (some y1) else ((f_X1_crewOf σ y2).bind fun u2 => (f_X1_gone_L4 σ n (y1 ||| (f_X4_members u2)) (y2 + 1))))
set_option maxRecDepth 100000 in
set_option maxHeartbeats 4000000 in
theorem w_X1_gone_L4 (E : EV p s m args meth c dC dI cI cZ cX1_gone 3 RX1 (some .int)) (q : Nat → Nat) (σ : Nat → Nat → Int32) : ∀ (n : Nat) (y1 y2 : Int32) (z : Int32), f_X1_gone_L4 σ n y1 y2 = some z → GG p l e rm_X1_gone s m args below meth c Q A dC dI 3 (wX cI q σ) 29 [(0, .ref (q 7)), (1, .int z)] [] → GG p l e rm_X1_gone s m args below meth c Q A dC dI 3 (wX cI q σ) 4 [(0, .ref (q 7)), (1, .int y1), (2, .int y2)] [] := by
  intro n
  induction n with
  | zero =>
    intro y1 y2 z h
    rw [f_X1_gone_L4] at h
    cases h
  | succ n ih =>
    intro y1 y2 z h hK
    rw [f_X1_gone_L4] at h
    refine s_iload_n E 2 rfl dX1_gone_4 rfl ?_
    refine s_aload_n E 0 rfl dX1_gone_5 rfl ?_
    refine s_geti E (y := (σ 7 3)) 7 3 in_X1 gX_7 rfl (by decide) m_f_X1_21 rfl rfl dX1_gone_6 ?_
    refine s_icmp_ge E 29 dX1_gone_9 (by decide) (fun c1 => ?_) (fun c1 => ?_)
    · have h := (if_pos c1).symm.trans h
      refine s_sub E (lv' := [(0, .ref (q 7)), (1, .int y1)]) [0, 1] rfl ?_
      obtain rfl := Option.some.inj h
      exact hK
    · have h := (if_neg c1).symm.trans h
      refine s_iload_n E 1 rfl dX1_gone_12 rfl ?_
      refine s_aload_n E 0 rfl dX1_gone_13 rfl ?_
      refine s_iload_n E 2 rfl dX1_gone_14 rfl ?_
      obtain ⟨u2, e2, h⟩ := bnd_some h
      refine s_callVi E kf_X1_crewOf m_l_X1_37 (c_X1_crewOf q σ y2 u2 e2) ⟨rfl, rfl, by decide, by decide⟩ (q0 := 7) rfl rfl rfl rfl rfl (Nat.le_of_ble_eq_true rfl) dX1_gone_15 ?_
      refine s_callSNi E kf_X4_members nst_X1_45 (c_X4_members (wX cI q σ) u2) ⟨rfl, rfl, by decide, by decide⟩ rfl rfl (Nat.le_of_ble_eq_true rfl) dX1_gone_18 ?_
      refine s_ior E dX1_gone_21 ?_
      refine s_istore_n E (lv' := [(0, .ref (q 7)), (1, .int (y1 ||| (f_X4_members u2))), (2, .int y2)]) dX1_gone_22 rfl rfl rfl rfl (by decide) ?_
      refine s_iinc E (v := (y2 + 1)) (lv' := [(0, .ref (q 7)), (1, .int (y1 ||| (f_X4_members u2))), (2, .int (y2 + 1))]) 2 rfl dX1_gone_23 ki_1 rfl rfl rfl rfl (by decide) ?_
      refine s_goto E 4 dX1_gone_26 (by decide) ?_
      exact ih (y1 ||| (f_X4_members u2)) (y2 + 1) z h hK
noncomputable def f_X1_gone (σ : Nat → Nat → Int32) : Option Int32 :=
  ((f_X1_gone_L4 σ fuel 0 0).bind fun u3 => (some u3))
set_option maxRecDepth 100000 in
set_option maxHeartbeats 4000000 in
theorem c_X1_gone (q : Nat → Nat) (σ : Nat → Nat → Int32) (z : Int32) (h : f_X1_gone σ = some z) : CT l dC dI cI cZ A yX1_gone cX1_gone 3 (some .int) rm_X1_gone [.ref (q 7)] (wX cI q σ) (wX cI q σ) (some (.int z)) := by
  refine b_met (by decide) (Nat.le_of_ble_eq_true rfl) ?_
  intro p e s m below meth c E
  have E : EV p s m _ meth c dC dI cI cZ cX1_gone 3 RX1 (some .int) := E
  show GG p l e rm_X1_gone s m _ below meth c _ A dC dI 3 (wX cI q σ) 0 [(0, .ref (q 7))] []
  unfold f_X1_gone at h
  refine s_iconst E (v := 0) dX1_gone_0 ki_0 ?_
  refine s_istore_n E (lv' := [(0, .ref (q 7)), (1, .int 0)]) dX1_gone_1 rfl rfl rfl rfl (by decide) ?_
  refine s_iconst E (v := 0) dX1_gone_2 ki_0 ?_
  refine s_istore_n E (lv' := [(0, .ref (q 7)), (1, .int 0), (2, .int 0)]) dX1_gone_3 rfl rfl rfl rfl (by decide) ?_
  obtain ⟨u3, e3, h⟩ := bnd_some h
  refine w_X1_gone_L4 E q σ fuel 0 0 u3 e3 ?_
  refine s_iload_n E 1 rfl dX1_gone_29 rfl ?_
  obtain rfl := Option.some.inj h
  exact s_iret E rfl rfl dX1_gone_30
end
abbrev rm_X0_armOf : Room := { frames := 0, cells := 0, slots := 0, locals := 0 }
section
noncomputable def f_X0_armOf (σ : Nat → Nat → Int32) (x1 : Int32) : Int32 :=
  (if (σ 3 0) = 2 then (if x1 = 0 then (σ 3 1) else (σ 3 2)) else 1)
set_option maxRecDepth 100000 in
set_option maxHeartbeats 4000000 in
theorem c_X0_armOf (q : Nat → Nat) (σ : Nat → Nat → Int32) (x1 : Int32) : CT l dC dI cI cZ A yX0_armOf cX0_armOf 2 (some .int) rm_X0_armOf [.ref (q 3), .int x1] (wX cI q σ) (wX cI q σ) (some (.int (f_X0_armOf σ x1))) := by
  refine b_met (by decide) (Nat.le_of_ble_eq_true rfl) ?_
  intro p e s m below meth c E
  have E : EV p s m _ meth c dC dI cI cZ cX0_armOf 2 RX0 (some .int) := E
  generalize h : f_X0_armOf σ x1 = z
  show GG p l e rm_X0_armOf s m _ below meth c _ A dC dI 2 (wX cI q σ) 0 [(0, .ref (q 3)), (1, .int x1)] []
  unfold f_X0_armOf at h
  refine s_aload_n E 0 rfl dX0_armOf_0 rfl ?_
  refine s_geti E (y := (σ 3 0)) 3 0 in_X0 gX_3 rfl (by decide) m_f_X0_9 rfl rfl dX0_armOf_1 ?_
  refine s_iconst E (v := 2) dX0_armOf_4 ki_2 ?_
  refine s_icmp_eq E 10 dX0_armOf_5 (by decide) (fun c1 => ?_) (fun c1 => ?_)
  · have h := (if_pos c1).symm.trans h
    refine s_iload_n E 1 rfl dX0_armOf_10 rfl ?_
    refine s_if_ne E 21 dX0_armOf_11 (by decide) (fun c2 => ?_) (fun c2 => ?_)
    · have h := (if_pos c2).symm.trans h
      refine s_aload_n E 0 rfl dX0_armOf_14 rfl ?_
      refine s_geti E (y := (σ 3 1)) 3 1 in_X0 gX_3 rfl (by decide) m_f_X0_15 rfl rfl dX0_armOf_15 ?_
      refine s_goto E 25 dX0_armOf_18 (by decide) ?_
      subst h
      exact s_iret E rfl rfl dX0_armOf_25
    · have h := (if_neg c2).symm.trans h
      refine s_aload_n E 0 rfl dX0_armOf_21 rfl ?_
      refine s_geti E (y := (σ 3 2)) 3 2 in_X0 gX_3 rfl (by decide) m_f_X0_18 rfl rfl dX0_armOf_22 ?_
      subst h
      exact s_iret E rfl rfl dX0_armOf_25
  · have h := (if_neg c1).symm.trans h
    refine s_iconst E (v := 1) dX0_armOf_8 ki_1 ?_
    subst h
    exact s_iret E rfl rfl dX0_armOf_9
end
abbrev rm_X2_isAhead : Room := { frames := 0, cells := 0, slots := 0, locals := 0 }
section
variable {w : va_W}
noncomputable def f_X2_isAhead (x0 : Int32) (x1 : Int32) : Int32 :=
  (if (x1 &&& (((((x0 ^^^ x1) ||| (ush (x0 ^^^ x1) 8)) ||| (ush (x0 ^^^ x1) 16)) &&& (-(((x0 ^^^ x1) ||| (ush (x0 ^^^ x1) 8)) ||| (ush (x0 ^^^ x1) 16)))) * 65793)) ≤ (x0 &&& (((((x0 ^^^ x1) ||| (ush (x0 ^^^ x1) 8)) ||| (ush (x0 ^^^ x1) 16)) &&& (-(((x0 ^^^ x1) ||| (ush (x0 ^^^ x1) 8)) ||| (ush (x0 ^^^ x1) 16)))) * 65793)) then 0 else 1)
set_option maxRecDepth 100000 in
set_option maxHeartbeats 4000000 in
theorem c_X2_isAhead (w : va_W) (x0 : Int32) (x1 : Int32) : CT l dC dI cI cZ A yX2_isAhead cX2_isAhead 5 (some .boolean) rm_X2_isAhead [.int x0, .int x1] w w (some (.int (f_X2_isAhead x0 x1))) := by
  refine b_met (by decide) (Nat.le_of_ble_eq_true rfl) ?_
  intro p e s m below meth c E
  have E : EV p s m _ meth c dC dI cI cZ cX2_isAhead 5 RX2 (some .boolean) := E
  generalize h : f_X2_isAhead x0 x1 = z
  show GG p l e rm_X2_isAhead s m _ below meth c _ A dC dI 5 w 0 [(0, .int x0), (1, .int x1)] []
  unfold f_X2_isAhead at h
  refine s_iload_n E 0 rfl dX2_isAhead_0 rfl ?_
  refine s_iload_n E 1 rfl dX2_isAhead_1 rfl ?_
  refine s_ixor E dX2_isAhead_2 ?_
  refine s_istore_n E (lv' := [(0, .int x0), (1, .int x1), (2, .int (x0 ^^^ x1))]) dX2_isAhead_3 rfl rfl rfl rfl (by decide) ?_
  refine s_iload_n E 2 rfl dX2_isAhead_4 rfl ?_
  refine s_iload_n E 2 rfl dX2_isAhead_5 rfl ?_
  refine s_bipush E (v := 8) dX2_isAhead_6 kb_8 ?_
  refine s_iushr E dX2_isAhead_8 ?_
  refine s_ior E dX2_isAhead_9 ?_
  refine s_iload_n E 2 rfl dX2_isAhead_10 rfl ?_
  refine s_bipush E (v := 16) dX2_isAhead_11 kb_16 ?_
  refine s_iushr E dX2_isAhead_13 ?_
  refine s_ior E dX2_isAhead_14 ?_
  refine s_istore_n E (lv' := [(0, .int x0), (1, .int x1), (2, .int (x0 ^^^ x1)), (3, .int (((x0 ^^^ x1) ||| (ush (x0 ^^^ x1) 8)) ||| (ush (x0 ^^^ x1) 16)))]) dX2_isAhead_15 rfl rfl rfl rfl (by decide) ?_
  refine s_iload_n E 3 rfl dX2_isAhead_16 rfl ?_
  refine s_iload_n E 3 rfl dX2_isAhead_17 rfl ?_
  refine s_ineg E dX2_isAhead_18 ?_
  refine s_iand E dX2_isAhead_19 ?_
  refine s_ldc E (v := (65793)) m_c_X2_165 dX2_isAhead_20 ?_
  refine s_imul E dX2_isAhead_22 ?_
  refine s_istore E (lv' := [(0, .int x0), (1, .int x1), (2, .int (x0 ^^^ x1)), (3, .int (((x0 ^^^ x1) ||| (ush (x0 ^^^ x1) 8)) ||| (ush (x0 ^^^ x1) 16))), (4, .int (((((x0 ^^^ x1) ||| (ush (x0 ^^^ x1) 8)) ||| (ush (x0 ^^^ x1) 16)) &&& (-(((x0 ^^^ x1) ||| (ush (x0 ^^^ x1) 8)) ||| (ush (x0 ^^^ x1) 16)))) * 65793))]) dX2_isAhead_23 rfl rfl rfl (by decide) ?_
  refine s_iload_n E 0 rfl dX2_isAhead_25 rfl ?_
  refine s_iload E 4 rfl dX2_isAhead_26 ?_
  refine s_iand E dX2_isAhead_28 ?_
  refine s_iload_n E 1 rfl dX2_isAhead_29 rfl ?_
  refine s_iload E 4 rfl dX2_isAhead_30 ?_
  refine s_iand E dX2_isAhead_32 ?_
  refine s_icmp_ge E 40 dX2_isAhead_33 (by decide) (fun c1 => ?_) (fun c1 => ?_)
  · have h := (if_pos c1).symm.trans h
    refine s_iconst E (v := 0) dX2_isAhead_40 ki_0 ?_
    subst h
    exact s_zret E rfl rfl rfl dX2_isAhead_41
  · have h := (if_neg c1).symm.trans h
    refine s_iconst E (v := 1) dX2_isAhead_36 ki_1 ?_
    refine s_goto E 41 dX2_isAhead_37 (by decide) ?_
    subst h
    exact s_zret E rfl rfl rfl dX2_isAhead_41
end
abbrev rm_X0_loadOf_3_10_9 : Room := { frames := 1, cells := 0, slots := 0, locals := 23 }
section
noncomputable def f_X0_loadOf_3_10_9_L24 (σ : Nat → Nat → Int32) (x5 : Int32) (x6 : Int32) : Nat → Int32 → Int32 → Option Int32
  | 0, _, _ => none
  | n + 1, y7, y8 =>
    (if (σ 3 5) ≤ y8 then (some y7) else (if ((shr x6 y8) &&& 1) = 0 then (f_X0_loadOf_3_10_9_L24 σ x5 x6 n y7 (y8 + 1)) else (chk y8 8 (chk y8 8 (f_X0_loadOf_3_10_9_L24 σ x5 x6 n (y7 + (f_X4_poundsAfter (σ 10 (y8.toNatClampNeg)) (σ 9 (y8.toNatClampNeg)) x5)) (y8 + 1))))))
set_option maxRecDepth 100000 in
set_option maxHeartbeats 4000000 in
theorem w_X0_loadOf_3_10_9_L24 (E : EV p s m args meth c dC dI cI cZ cX0_loadOf 9 RX0 (some .int)) (q : Nat → Nat) (σ : Nat → Nat → Int32) (x5 : Int32) (x6 : Int32) : ∀ (n : Nat) (y7 y8 : Int32) (z : Int32), f_X0_loadOf_3_10_9_L24 σ x5 x6 n y7 y8 = some z → GG p l e rm_X0_loadOf_3_10_9 s m args below meth c Q A dC dI 9 (wX cI q σ) 68 [(0, .ref (q 3)), (3, .ref (q 10)), (4, .ref (q 9)), (5, .int x5), (6, .int x6), (7, .int z)] [] → GG p l e rm_X0_loadOf_3_10_9 s m args below meth c Q A dC dI 9 (wX cI q σ) 24 [(0, .ref (q 3)), (3, .ref (q 10)), (4, .ref (q 9)), (5, .int x5), (6, .int x6), (7, .int y7), (8, .int y8)] [] := by
  intro n
  induction n with
  | zero =>
    intro y7 y8 z h
    rw [f_X0_loadOf_3_10_9_L24] at h
    cases h
  | succ n ih =>
    intro y7 y8 z h hK
    rw [f_X0_loadOf_3_10_9_L24] at h
    refine s_iload E 6 rfl dX0_loadOf_24 ?_
    refine s_aload_n E 0 rfl dX0_loadOf_26 rfl ?_
    refine s_geti E (y := (σ 3 5)) 3 5 in_X0 gX_3 rfl (by decide) m_f_X0_27 rfl rfl dX0_loadOf_27 ?_
    refine s_icmp_ge E 68 dX0_loadOf_30 (by decide) (fun c2 => ?_) (fun c2 => ?_)
    · have h := (if_pos c2).symm.trans h
      refine s_sub E (lv' := [(0, .ref (q 3)), (3, .ref (q 10)), (4, .ref (q 9)), (5, .int x5), (6, .int x6), (7, .int y7)]) [0, 1, 2, 3, 4, 5] rfl ?_
      obtain rfl := Option.some.inj h
      exact hK
    · have h := (if_neg c2).symm.trans h
      refine s_iload E 4 rfl dX0_loadOf_33 ?_
      refine s_iload E 6 rfl dX0_loadOf_35 ?_
      refine s_ishr E dX0_loadOf_37 ?_
      refine s_iconst E (v := 1) dX0_loadOf_38 ki_1 ?_
      refine s_iand E dX0_loadOf_39 ?_
      refine s_if_eq E 62 dX0_loadOf_40 (by decide) (fun c3 => ?_) (fun c3 => ?_)
      · have h := (if_pos c3).symm.trans h
        refine s_iinc E (v := (y8 + 1)) (lv' := [(0, .ref (q 3)), (3, .ref (q 10)), (4, .ref (q 9)), (5, .int x5), (6, .int x6), (7, .int y7), (8, .int (y8 + 1))]) 6 rfl dX0_loadOf_62 ki_1 rfl rfl rfl rfl (by decide) ?_
        refine s_goto E 24 dX0_loadOf_65 (by decide) ?_
        exact ih y7 (y8 + 1) z h hK
      · have h := (if_neg c3).symm.trans h
        refine s_iload E 5 rfl dX0_loadOf_43 ?_
        refine s_aload_n E 1 rfl dX0_loadOf_45 rfl ?_
        refine s_iload E 6 rfl dX0_loadOf_46 ?_
        obtain ⟨b4, h⟩ := chk_some h
        refine s_iald E (v := (σ 10 (y8.toNatClampNeg))) 10 gX_10 b4 rfl dX0_loadOf_48 ?_
        refine s_aload E 2 rfl dX0_loadOf_49 ?_
        refine s_iload E 6 rfl dX0_loadOf_51 ?_
        obtain ⟨b5, h⟩ := chk_some h
        refine s_iald E (v := (σ 9 (y8.toNatClampNeg))) 9 gX_9 b5 rfl dX0_loadOf_53 ?_
        refine s_iload E 3 rfl dX0_loadOf_54 ?_
        refine s_callSNi E kf_X4_poundsAfter nst_X0_65 (c_X4_poundsAfter (wX cI q σ) (σ 10 (y8.toNatClampNeg)) (σ 9 (y8.toNatClampNeg)) x5) ⟨rfl, rfl, by decide, by decide⟩ rfl rfl (Nat.le_of_ble_eq_true rfl) dX0_loadOf_56 ?_
        refine s_iadd E dX0_loadOf_59 ?_
        refine s_istore E (lv' := [(0, .ref (q 3)), (3, .ref (q 10)), (4, .ref (q 9)), (5, .int x5), (6, .int x6), (7, .int (y7 + (f_X4_poundsAfter (σ 10 (y8.toNatClampNeg)) (σ 9 (y8.toNatClampNeg)) x5))), (8, .int y8)]) dX0_loadOf_60 rfl rfl rfl (by decide) ?_
        refine s_iinc E (v := (y8 + 1)) (lv' := [(0, .ref (q 3)), (3, .ref (q 10)), (4, .ref (q 9)), (5, .int x5), (6, .int x6), (7, .int (y7 + (f_X4_poundsAfter (σ 10 (y8.toNatClampNeg)) (σ 9 (y8.toNatClampNeg)) x5))), (8, .int (y8 + 1))]) 6 rfl dX0_loadOf_62 ki_1 rfl rfl rfl rfl (by decide) ?_
        refine s_goto E 24 dX0_loadOf_65 (by decide) ?_
        exact ih (y7 + (f_X4_poundsAfter (σ 10 (y8.toNatClampNeg)) (σ 9 (y8.toNatClampNeg)) x5)) (y8 + 1) z h hK
noncomputable def f_X0_loadOf_3_10_9_J19 (σ : Nat → Nat → Int32) (t5 : Int32) (t6 : Int32) (s0 : Int32) : Option Int32 :=
  ((f_X0_loadOf_3_10_9_L24 σ t5 t6 fuel s0 0).bind fun u6 => (some u6))
set_option maxRecDepth 100000 in
set_option maxHeartbeats 4000000 in
theorem w_X0_loadOf_3_10_9_J19 (E : EV p s m args meth c dC dI cI cZ cX0_loadOf 9 RX0 (some .int)) (q : Nat → Nat) (σ : Nat → Nat → Int32) (t5 : Int32) (t6 : Int32) (s0 : Int32) (z : Int32) (h : f_X0_loadOf_3_10_9_J19 σ t5 t6 s0 = some z) : GG p l e rm_X0_loadOf_3_10_9 s m args below meth c (MQ below (CQ dC dI (some (.int z)) (wX cI q σ) A) args s 0 0 A) A dC dI 9 (wX cI q σ) 19 [(0, .ref (q 3)), (3, .ref (q 10)), (4, .ref (q 9)), (5, .int t5), (6, .int t6)] [.int s0] := by
  unfold f_X0_loadOf_3_10_9_J19 at h
  refine s_istore E (lv' := [(0, .ref (q 3)), (3, .ref (q 10)), (4, .ref (q 9)), (5, .int t5), (6, .int t6), (7, .int s0)]) dX0_loadOf_19 rfl rfl rfl (by decide) ?_
  refine s_iconst E (v := 0) dX0_loadOf_21 ki_0 ?_
  refine s_istore E (lv' := [(0, .ref (q 3)), (3, .ref (q 10)), (4, .ref (q 9)), (5, .int t5), (6, .int t6), (7, .int s0), (8, .int 0)]) dX0_loadOf_22 rfl rfl rfl (by decide) ?_
  obtain ⟨u6, e6, h⟩ := bnd_some h
  refine w_X0_loadOf_3_10_9_L24 E q σ t5 t6 fuel s0 0 u6 e6 ?_
  refine s_iload E 5 rfl dX0_loadOf_68 ?_
  obtain rfl := Option.some.inj h
  exact s_iret E rfl rfl dX0_loadOf_70
noncomputable def f_X0_loadOf_3_10_9 (σ : Nat → Nat → Int32) (x1 : Int32) (x2 : Int32) (x5 : Int32) : Option Int32 :=
  (if x2 = 0 then (f_X0_loadOf_3_10_9_J19 σ x5 (f_X4_sitters x1 x2) (σ 3 4)) else (f_X0_loadOf_3_10_9_J19 σ x5 (f_X4_sitters x1 x2) 0))
set_option maxRecDepth 100000 in
set_option maxHeartbeats 4000000 in
theorem c_X0_loadOf_3_10_9 (q : Nat → Nat) (σ : Nat → Nat → Int32) (x1 : Int32) (x2 : Int32) (x5 : Int32) (z : Int32) (h : f_X0_loadOf_3_10_9 σ x1 x2 x5 = some z) : CT l dC dI cI cZ A yX0_loadOf cX0_loadOf 9 (some .int) rm_X0_loadOf_3_10_9 [.ref (q 3), .int x1, .int x2, .ref (q 10), .ref (q 9), .int x5] (wX cI q σ) (wX cI q σ) (some (.int z)) := by
  refine b_met (by decide) (Nat.le_of_ble_eq_true rfl) ?_
  intro p e s m below meth c E
  have E : EV p s m _ meth c dC dI cI cZ cX0_loadOf 9 RX0 (some .int) := E
  show GG p l e rm_X0_loadOf_3_10_9 s m _ below meth c _ A dC dI 9 (wX cI q σ) 0 [(0, .ref (q 3)), (1, .int x1), (2, .int x2), (3, .ref (q 10)), (4, .ref (q 9)), (5, .int x5)] []
  unfold f_X0_loadOf_3_10_9 at h
  refine s_iload_n E 1 rfl dX0_loadOf_0 rfl ?_
  refine s_iload_n E 2 rfl dX0_loadOf_1 rfl ?_
  refine s_callSNi E kf_X4_sitters nst_X0_62 (c_X4_sitters (wX cI q σ) x1 x2) ⟨rfl, rfl, by decide, by decide⟩ rfl rfl (Nat.le_of_ble_eq_true rfl) dX0_loadOf_2 ?_
  refine s_istore E (lv' := [(0, .ref (q 3)), (1, .int x1), (2, .int x2), (3, .ref (q 10)), (4, .ref (q 9)), (5, .int x5), (6, .int (f_X4_sitters x1 x2))]) dX0_loadOf_5 rfl rfl rfl (by decide) ?_
  refine s_iload_n E 2 rfl dX0_loadOf_7 rfl ?_
  refine s_if_ne E 18 dX0_loadOf_8 (by decide) (fun c1 => ?_) (fun c1 => ?_)
  · have h := (if_pos c1).symm.trans h
    refine s_aload_n E 0 rfl dX0_loadOf_11 rfl ?_
    refine s_geti E (y := (σ 3 4)) 3 4 in_X0 gX_3 rfl (by decide) m_f_X0_24 rfl rfl dX0_loadOf_12 ?_
    refine s_goto E 19 dX0_loadOf_15 (by decide) ?_
    refine s_sub E (lv' := [(0, .ref (q 3)), (3, .ref (q 10)), (4, .ref (q 9)), (5, .int x5), (6, .int (f_X4_sitters x1 x2))]) [0, 3, 4, 5, 6] rfl ?_
    exact w_X0_loadOf_3_10_9_J19 E q σ x5 (f_X4_sitters x1 x2) (σ 3 4) z h
  · have h := (if_neg c1).symm.trans h
    refine s_iconst E (v := 0) dX0_loadOf_18 ki_0 ?_
    refine s_sub E (lv' := [(0, .ref (q 3)), (3, .ref (q 10)), (4, .ref (q 9)), (5, .int x5), (6, .int (f_X4_sitters x1 x2))]) [0, 3, 4, 5, 6] rfl ?_
    exact w_X0_loadOf_3_10_9_J19 E q σ x5 (f_X4_sitters x1 x2) 0 z h
end
abbrev rm_X0_tiltOf_3_10_9 : Room := { frames := 2, cells := 0, slots := 0, locals := 51 }
section
noncomputable def f_X0_tiltOf_3_10_9 (σ : Nat → Nat → Int32) (x1 : Int32) (x4 : Int32) : Option Int32 :=
  ((f_X0_loadOf_3_10_9 σ x1 0 x4).bind fun u1 => ((f_X0_loadOf_3_10_9 σ x1 1 x4).bind fun u2 => (if (σ 3 0) = 2 then (some (((σ 3 1) * u1) - ((σ 3 2) * u2))) else ((f_X0_loadOf_3_10_9 σ x1 2 x4).bind fun u4 => (some ((if u1 < (if u2 < u4 then u4 else u2) then (if u2 < u4 then u4 else u2) else u1) - (if (if u4 < u2 then u4 else u2) < u1 then (if u4 < u2 then u4 else u2) else u1)))))))
set_option maxRecDepth 100000 in
set_option maxHeartbeats 4000000 in
theorem c_X0_tiltOf_3_10_9 (q : Nat → Nat) (σ : Nat → Nat → Int32) (x1 : Int32) (x4 : Int32) (z : Int32) (h : f_X0_tiltOf_3_10_9 σ x1 x4 = some z) : CT l dC dI cI cZ A yX0_tiltOf cX0_tiltOf 10 (some .int) rm_X0_tiltOf_3_10_9 [.ref (q 3), .int x1, .ref (q 10), .ref (q 9), .int x4] (wX cI q σ) (wX cI q σ) (some (.int z)) := by
  refine b_met (by decide) (Nat.le_of_ble_eq_true rfl) ?_
  intro p e s m below meth c E
  have E : EV p s m _ meth c dC dI cI cZ cX0_tiltOf 10 RX0 (some .int) := E
  show GG p l e rm_X0_tiltOf_3_10_9 s m _ below meth c _ A dC dI 10 (wX cI q σ) 0 [(0, .ref (q 3)), (1, .int x1), (2, .ref (q 10)), (3, .ref (q 9)), (4, .int x4)] []
  unfold f_X0_tiltOf_3_10_9 at h
  refine s_aload_n E 0 rfl dX0_tiltOf_0 rfl ?_
  refine s_iload_n E 1 rfl dX0_tiltOf_1 rfl ?_
  refine s_iconst E (v := 0) dX0_tiltOf_2 ki_0 ?_
  refine s_aload_n E 2 rfl dX0_tiltOf_3 rfl ?_
  refine s_aload_n E 3 rfl dX0_tiltOf_4 rfl ?_
  refine s_iload E 4 rfl dX0_tiltOf_5 ?_
  obtain ⟨u1, e1, h⟩ := bnd_some h
  refine s_callVi E kf_X0_loadOf m_l_X0_69 (c_X0_loadOf_3_10_9 q σ x1 0 x4 u1 e1) ⟨rfl, rfl, by decide, by decide⟩ (q0 := 3) rfl rfl rfl rfl rfl (Nat.le_of_ble_eq_true rfl) dX0_tiltOf_7 ?_
  refine s_istore E (lv' := [(0, .ref (q 3)), (1, .int x1), (2, .ref (q 10)), (3, .ref (q 9)), (4, .int x4), (5, .int u1)]) dX0_tiltOf_10 rfl rfl rfl (by decide) ?_
  refine s_aload_n E 0 rfl dX0_tiltOf_12 rfl ?_
  refine s_iload_n E 1 rfl dX0_tiltOf_13 rfl ?_
  refine s_iconst E (v := 1) dX0_tiltOf_14 ki_1 ?_
  refine s_aload_n E 2 rfl dX0_tiltOf_15 rfl ?_
  refine s_aload_n E 3 rfl dX0_tiltOf_16 rfl ?_
  refine s_iload E 4 rfl dX0_tiltOf_17 ?_
  obtain ⟨u2, e2, h⟩ := bnd_some h
  refine s_callVi E kf_X0_loadOf m_l_X0_69 (c_X0_loadOf_3_10_9 q σ x1 1 x4 u2 e2) ⟨rfl, rfl, by decide, by decide⟩ (q0 := 3) rfl rfl rfl rfl rfl (Nat.le_of_ble_eq_true rfl) dX0_tiltOf_19 ?_
  refine s_istore E (lv' := [(0, .ref (q 3)), (1, .int x1), (2, .ref (q 10)), (3, .ref (q 9)), (4, .int x4), (5, .int u1), (6, .int u2)]) dX0_tiltOf_22 rfl rfl rfl (by decide) ?_
  refine s_aload_n E 0 rfl dX0_tiltOf_24 rfl ?_
  refine s_geti E (y := (σ 3 0)) 3 0 in_X0 gX_3 rfl (by decide) m_f_X0_9 rfl rfl dX0_tiltOf_25 ?_
  refine s_iconst E (v := 2) dX0_tiltOf_28 ki_2 ?_
  refine s_icmp_ne E 48 dX0_tiltOf_29 (by decide) (fun c3 => ?_) (fun c3 => ?_)
  · have h := (if_pos c3).symm.trans h
    refine s_aload_n E 0 rfl dX0_tiltOf_32 rfl ?_
    refine s_geti E (y := (σ 3 1)) 3 1 in_X0 gX_3 rfl (by decide) m_f_X0_15 rfl rfl dX0_tiltOf_33 ?_
    refine s_iload E 5 rfl dX0_tiltOf_36 ?_
    refine s_imul E dX0_tiltOf_38 ?_
    refine s_aload_n E 0 rfl dX0_tiltOf_39 rfl ?_
    refine s_geti E (y := (σ 3 2)) 3 2 in_X0 gX_3 rfl (by decide) m_f_X0_18 rfl rfl dX0_tiltOf_40 ?_
    refine s_iload E 6 rfl dX0_tiltOf_43 ?_
    refine s_imul E dX0_tiltOf_45 ?_
    refine s_isub E dX0_tiltOf_46 ?_
    obtain rfl := Option.some.inj h
    exact s_iret E rfl rfl dX0_tiltOf_47
  · have h := (if_neg c3).symm.trans h
    refine s_aload_n E 0 rfl dX0_tiltOf_48 rfl ?_
    refine s_iload_n E 1 rfl dX0_tiltOf_49 rfl ?_
    refine s_iconst E (v := 2) dX0_tiltOf_50 ki_2 ?_
    refine s_aload_n E 2 rfl dX0_tiltOf_51 rfl ?_
    refine s_aload_n E 3 rfl dX0_tiltOf_52 rfl ?_
    refine s_iload E 4 rfl dX0_tiltOf_53 ?_
    obtain ⟨u4, e4, h⟩ := bnd_some h
    refine s_callVi E kf_X0_loadOf m_l_X0_69 (c_X0_loadOf_3_10_9 q σ x1 2 x4 u4 e4) ⟨rfl, rfl, by decide, by decide⟩ (q0 := 3) rfl rfl rfl rfl rfl (Nat.le_of_ble_eq_true rfl) dX0_tiltOf_55 ?_
    refine s_istore E (lv' := [(0, .ref (q 3)), (1, .int x1), (2, .ref (q 10)), (3, .ref (q 9)), (4, .int x4), (5, .int u1), (6, .int u2), (7, .int u4)]) dX0_tiltOf_58 rfl rfl rfl (by decide) ?_
    refine s_iload E 5 rfl dX0_tiltOf_60 ?_
    refine s_iload E 6 rfl dX0_tiltOf_62 ?_
    refine s_iload E 7 rfl dX0_tiltOf_64 ?_
    refine s_mmax E m_l_X0_73 (by decide) (Nat.le_of_ble_eq_true rfl) dX0_tiltOf_66 ?_
    refine s_mmax E m_l_X0_73 (by decide) (Nat.le_of_ble_eq_true rfl) dX0_tiltOf_69 ?_
    refine s_istore E (lv' := [(0, .ref (q 3)), (1, .int x1), (2, .ref (q 10)), (3, .ref (q 9)), (4, .int x4), (5, .int u1), (6, .int u2), (7, .int u4), (8, .int (if u1 < (if u2 < u4 then u4 else u2) then (if u2 < u4 then u4 else u2) else u1))]) dX0_tiltOf_72 rfl rfl rfl (by decide) ?_
    refine s_iload E 5 rfl dX0_tiltOf_74 ?_
    refine s_iload E 6 rfl dX0_tiltOf_76 ?_
    refine s_iload E 7 rfl dX0_tiltOf_78 ?_
    refine s_mmin E m_l_X0_49 (by decide) (Nat.le_of_ble_eq_true rfl) dX0_tiltOf_80 ?_
    refine s_mmin E m_l_X0_49 (by decide) (Nat.le_of_ble_eq_true rfl) dX0_tiltOf_83 ?_
    refine s_istore E (lv' := [(0, .ref (q 3)), (1, .int x1), (2, .ref (q 10)), (3, .ref (q 9)), (4, .int x4), (5, .int u1), (6, .int u2), (7, .int u4), (8, .int (if u1 < (if u2 < u4 then u4 else u2) then (if u2 < u4 then u4 else u2) else u1)), (9, .int (if (if u4 < u2 then u4 else u2) < u1 then (if u4 < u2 then u4 else u2) else u1))]) dX0_tiltOf_86 rfl rfl rfl (by decide) ?_
    refine s_iload E 8 rfl dX0_tiltOf_88 ?_
    refine s_iload E 9 rfl dX0_tiltOf_90 ?_
    refine s_isub E dX0_tiltOf_92 ?_
    obtain rfl := Option.some.inj h
    exact s_iret E rfl rfl dX0_tiltOf_93
end
abbrev rm_X0_isLevel_3_10_7 : Room := { frames := 3, cells := 0, slots := 0, locals := 80 }
section
noncomputable def f_X0_isLevel_3_10_7 (σ : Nat → Nat → Int32) (x1 : Int32) : Option Int32 :=
  ((f_X0_tiltOf_3_10_9 σ x1 0).bind fun u1 => (if u1 = 0 then ((f_X0_tiltOf_3_10_9 σ x1 (σ 7 4)).bind fun u3 => (if u3 = 0 then (some 1) else (some 0))) else (some 0)))
set_option maxRecDepth 100000 in
set_option maxHeartbeats 4000000 in
theorem c_X0_isLevel_3_10_7 (q : Nat → Nat) (σ : Nat → Nat → Int32) (x1 : Int32) (z : Int32) (h : f_X0_isLevel_3_10_7 σ x1 = some z) : CT l dC dI cI cZ A yX0_isLevel cX0_isLevel 4 (some .boolean) rm_X0_isLevel_3_10_7 [.ref (q 3), .int x1, .ref (q 10), .ref (q 7)] (wX cI q σ) (wX cI q σ) (some (.int z)) := by
  refine b_met (by decide) (Nat.le_of_ble_eq_true rfl) ?_
  intro p e s m below meth c E
  have E : EV p s m _ meth c dC dI cI cZ cX0_isLevel 4 RX0 (some .boolean) := E
  show GG p l e rm_X0_isLevel_3_10_7 s m _ below meth c _ A dC dI 4 (wX cI q σ) 0 [(0, .ref (q 3)), (1, .int x1), (2, .ref (q 10)), (3, .ref (q 7))] []
  unfold f_X0_isLevel_3_10_7 at h
  refine s_aload_n E 0 rfl dX0_isLevel_0 rfl ?_
  refine s_iload_n E 1 rfl dX0_isLevel_1 rfl ?_
  refine s_aload_n E 2 rfl dX0_isLevel_2 rfl ?_
  refine s_aload_n E 3 rfl dX0_isLevel_3 rfl ?_
  refine s_get E (v := .ref (q 9)) 7 1 in_X1 gX_7 rfl (by decide) m_f_X0_76 rfl dX0_isLevel_4 ?_
  refine s_iconst E (v := 0) dX0_isLevel_7 ki_0 ?_
  obtain ⟨u1, e1, h⟩ := bnd_some h
  refine s_callVi E kf_X0_tiltOf m_l_X0_81 (c_X0_tiltOf_3_10_9 q σ x1 0 u1 e1) ⟨rfl, rfl, by decide, by decide⟩ (q0 := 3) rfl rfl rfl rfl rfl (Nat.le_of_ble_eq_true rfl) dX0_isLevel_8 ?_
  refine s_if_ne E 35 dX0_isLevel_11 (by decide) (fun c2 => ?_) (fun c2 => ?_)
  · have h := (if_pos c2).symm.trans h
    refine s_aload_n E 0 rfl dX0_isLevel_14 rfl ?_
    refine s_iload_n E 1 rfl dX0_isLevel_15 rfl ?_
    refine s_aload_n E 2 rfl dX0_isLevel_16 rfl ?_
    refine s_aload_n E 3 rfl dX0_isLevel_17 rfl ?_
    refine s_get E (v := .ref (q 9)) 7 1 in_X1 gX_7 rfl (by decide) m_f_X0_76 rfl dX0_isLevel_18 ?_
    refine s_aload_n E 3 rfl dX0_isLevel_21 rfl ?_
    refine s_geti E (y := (σ 7 4)) 7 4 in_X1 gX_7 rfl (by decide) m_f_X0_85 rfl rfl dX0_isLevel_22 ?_
    obtain ⟨u3, e3, h⟩ := bnd_some h
    refine s_callVi E kf_X0_tiltOf m_l_X0_81 (c_X0_tiltOf_3_10_9 q σ x1 (σ 7 4) u3 e3) ⟨rfl, rfl, by decide, by decide⟩ (q0 := 3) rfl rfl rfl rfl rfl (Nat.le_of_ble_eq_true rfl) dX0_isLevel_25 ?_
    refine s_if_ne E 35 dX0_isLevel_28 (by decide) (fun c4 => ?_) (fun c4 => ?_)
    · have h := (if_pos c4).symm.trans h
      refine s_iconst E (v := 1) dX0_isLevel_31 ki_1 ?_
      refine s_goto E 36 dX0_isLevel_32 (by decide) ?_
      obtain rfl := Option.some.inj h
      exact s_zret E rfl rfl rfl dX0_isLevel_36
    · have h := (if_neg c4).symm.trans h
      refine s_iconst E (v := 0) dX0_isLevel_35 ki_0 ?_
      obtain rfl := Option.some.inj h
      exact s_zret E rfl rfl rfl dX0_isLevel_36
  · have h := (if_neg c2).symm.trans h
    refine s_iconst E (v := 0) dX0_isLevel_35 ki_0 ?_
    obtain rfl := Option.some.inj h
    exact s_zret E rfl rfl rfl dX0_isLevel_36
end
abbrev rm_X4_isSlot : Room := { frames := 0, cells := 0, slots := 0, locals := 0 }
section
variable {w : va_W}
noncomputable def f_X4_isSlot (x0 : Int32) : Int32 :=
  (if x0 = 0 then 1 else (if x0 = 1 then 1 else 0))
set_option maxRecDepth 100000 in
set_option maxHeartbeats 4000000 in
theorem c_X4_isSlot (w : va_W) (x0 : Int32) : CT l dC dI cI cZ A yX4_isSlot cX4_isSlot 1 (some .boolean) rm_X4_isSlot [.int x0] w w (some (.int (f_X4_isSlot x0))) := by
  refine b_met (by decide) (Nat.le_of_ble_eq_true rfl) ?_
  intro p e s m below meth c E
  have E : EV p s m _ meth c dC dI cI cZ cX4_isSlot 1 RX4 (some .boolean) := E
  generalize h : f_X4_isSlot x0 = z
  show GG p l e rm_X4_isSlot s m _ below meth c _ A dC dI 1 w 0 [(0, .int x0)] []
  unfold f_X4_isSlot at h
  refine s_iload_n E 0 rfl dX4_isSlot_0 rfl ?_
  refine s_if_eq E 9 dX4_isSlot_1 (by decide) (fun c1 => ?_) (fun c1 => ?_)
  · have h := (if_pos c1).symm.trans h
    refine s_iconst E (v := 1) dX4_isSlot_9 ki_1 ?_
    refine s_goto E 14 dX4_isSlot_10 (by decide) ?_
    subst h
    exact s_zret E rfl rfl rfl dX4_isSlot_14
  · have h := (if_neg c1).symm.trans h
    refine s_iload_n E 0 rfl dX4_isSlot_4 rfl ?_
    refine s_iconst E (v := 1) dX4_isSlot_5 ki_1 ?_
    refine s_icmp_ne E 13 dX4_isSlot_6 (by decide) (fun c2 => ?_) (fun c2 => ?_)
    · have h := (if_pos c2).symm.trans h
      refine s_iconst E (v := 1) dX4_isSlot_9 ki_1 ?_
      refine s_goto E 14 dX4_isSlot_10 (by decide) ?_
      subst h
      exact s_zret E rfl rfl rfl dX4_isSlot_14
    · have h := (if_neg c2).symm.trans h
      refine s_iconst E (v := 0) dX4_isSlot_13 ki_0 ?_
      subst h
      exact s_zret E rfl rfl rfl dX4_isSlot_14
end
abbrev rm_X1_copyFrom_11_7 : Room := { frames := 0, cells := 0, slots := 0, locals := 0 }
section
noncomputable def f_X1_copyFrom_11_7_L18 : Nat → (Nat → Nat → Int32) → Int32 → Option (Nat → Nat → Int32)
  | 0, _, _ => none
  | n + 1, σ, y2 =>
    (if 8 < y2 then (some σ) else (chk y2 9 (chk y2 9 (f_X1_copyFrom_11_7_L18 n (up2 σ 12 (y2.toNatClampNeg) (σ 8 (y2.toNatClampNeg))) (y2 + 1)))))
set_option maxRecDepth 100000 in
set_option maxHeartbeats 4000000 in
theorem w_X1_copyFrom_11_7_L18 (E : EV p s m args meth c dC dI cI cZ cX1_copyFrom 3 RX1 none) (q : Nat → Nat) : ∀ (n : Nat) (σ : Nat → Nat → Int32) (y2 : Int32) (z : (Nat → Nat → Int32)), f_X1_copyFrom_11_7_L18 n σ y2 = some z → GG p l e rm_X1_copyFrom_11_7 s m args below meth c Q A dC dI 3 (wX cI q z) 42 [(0, .ref (q 11)), (1, .ref (q 7))] [] → GG p l e rm_X1_copyFrom_11_7 s m args below meth c Q A dC dI 3 (wX cI q σ) 18 [(0, .ref (q 11)), (1, .ref (q 7)), (2, .int y2)] [] := by
  intro n
  induction n with
  | zero =>
    intro σ y2 z h
    rw [f_X1_copyFrom_11_7_L18] at h
    cases h
  | succ n ih =>
    intro σ y2 z h hK
    rw [f_X1_copyFrom_11_7_L18] at h
    refine s_iload_n E 2 rfl dX1_copyFrom_18 rfl ?_
    refine s_bipush E (v := 8) dX1_copyFrom_19 kb_8 ?_
    refine s_icmp_gt E 42 dX1_copyFrom_21 (by decide) (fun c1 => ?_) (fun c1 => ?_)
    · have h := (if_pos c1).symm.trans h
      refine s_sub E (lv' := [(0, .ref (q 11)), (1, .ref (q 7))]) [0, 1] rfl ?_
      obtain rfl := Option.some.inj h
      exact hK
    · have h := (if_neg c1).symm.trans h
      refine s_aload_n E 0 rfl dX1_copyFrom_24 rfl ?_
      refine s_get E (v := .ref (q 12)) 11 0 in_X1 gX_11 rfl (by decide) m_f_X1_9 rfl dX1_copyFrom_25 ?_
      refine s_iload_n E 2 rfl dX1_copyFrom_28 rfl ?_
      refine s_aload_n E 1 rfl dX1_copyFrom_29 rfl ?_
      refine s_get E (v := .ref (q 8)) 7 0 in_X1 gX_7 rfl (by decide) m_f_X1_9 rfl dX1_copyFrom_30 ?_
      refine s_iload_n E 2 rfl dX1_copyFrom_33 rfl ?_
      obtain ⟨b2, h⟩ := chk_some h
      refine s_iald E (v := (σ 8 (y2.toNatClampNeg))) 8 gX_8 b2 rfl dX1_copyFrom_34 ?_
      obtain ⟨b3, h⟩ := chk_some h
      refine s_iast E (w' := (wX cI q (up2 σ 12 (y2.toNatClampNeg) (σ 8 (y2.toNatClampNeg))))) 12 gX_12 b3 aX_12 dX1_copyFrom_35 ?_
      refine s_iinc E (v := (y2 + 1)) (lv' := [(0, .ref (q 11)), (1, .ref (q 7)), (2, .int (y2 + 1))]) 2 rfl dX1_copyFrom_36 ki_1 rfl rfl rfl rfl (by decide) ?_
      refine s_goto E 18 dX1_copyFrom_39 (by decide) ?_
      exact ih (up2 σ 12 (y2.toNatClampNeg) (σ 8 (y2.toNatClampNeg))) (y2 + 1) z h hK
noncomputable def f_X1_copyFrom_11_7_L44 : Nat → (Nat → Nat → Int32) → Int32 → Option (Nat → Nat → Int32)
  | 0, _, _ => none
  | n + 1, σ, y2 =>
    (if 8 ≤ y2 then (some σ) else (chk y2 8 (chk y2 8 (chk y2 8 (chk y2 8 (f_X1_copyFrom_11_7_L44 n (up2 (up2 σ 13 (y2.toNatClampNeg) (σ 9 (y2.toNatClampNeg))) 14 (y2.toNatClampNeg) (σ 10 (y2.toNatClampNeg))) (y2 + 1)))))))
set_option maxRecDepth 100000 in
set_option maxHeartbeats 4000000 in
theorem w_X1_copyFrom_11_7_L44 (E : EV p s m args meth c dC dI cI cZ cX1_copyFrom 3 RX1 none) (q : Nat → Nat) : ∀ (n : Nat) (σ : Nat → Nat → Int32) (y2 : Int32) (z : (Nat → Nat → Int32)), f_X1_copyFrom_11_7_L44 n σ y2 = some z → GG p l e rm_X1_copyFrom_11_7 s m args below meth c Q A dC dI 3 (wX cI q z) 80 [(0, .ref (q 11)), (1, .ref (q 7))] [] → GG p l e rm_X1_copyFrom_11_7 s m args below meth c Q A dC dI 3 (wX cI q σ) 44 [(0, .ref (q 11)), (1, .ref (q 7)), (2, .int y2)] [] := by
  intro n
  induction n with
  | zero =>
    intro σ y2 z h
    rw [f_X1_copyFrom_11_7_L44] at h
    cases h
  | succ n ih =>
    intro σ y2 z h hK
    rw [f_X1_copyFrom_11_7_L44] at h
    refine s_iload_n E 2 rfl dX1_copyFrom_44 rfl ?_
    refine s_bipush E (v := 8) dX1_copyFrom_45 kb_8 ?_
    refine s_icmp_ge E 80 dX1_copyFrom_47 (by decide) (fun c5 => ?_) (fun c5 => ?_)
    · have h := (if_pos c5).symm.trans h
      refine s_sub E (lv' := [(0, .ref (q 11)), (1, .ref (q 7))]) [0, 1] rfl ?_
      obtain rfl := Option.some.inj h
      exact hK
    · have h := (if_neg c5).symm.trans h
      refine s_aload_n E 0 rfl dX1_copyFrom_50 rfl ?_
      refine s_get E (v := .ref (q 13)) 11 1 in_X1 gX_11 rfl (by decide) m_f_X1_15 rfl dX1_copyFrom_51 ?_
      refine s_iload_n E 2 rfl dX1_copyFrom_54 rfl ?_
      refine s_aload_n E 1 rfl dX1_copyFrom_55 rfl ?_
      refine s_get E (v := .ref (q 9)) 7 1 in_X1 gX_7 rfl (by decide) m_f_X1_15 rfl dX1_copyFrom_56 ?_
      refine s_iload_n E 2 rfl dX1_copyFrom_59 rfl ?_
      obtain ⟨b6, h⟩ := chk_some h
      refine s_iald E (v := (σ 9 (y2.toNatClampNeg))) 9 gX_9 b6 rfl dX1_copyFrom_60 ?_
      obtain ⟨b7, h⟩ := chk_some h
      refine s_iast E (w' := (wX cI q (up2 σ 13 (y2.toNatClampNeg) (σ 9 (y2.toNatClampNeg))))) 13 gX_13 b7 aX_13 dX1_copyFrom_61 ?_
      refine s_aload_n E 0 rfl dX1_copyFrom_62 rfl ?_
      refine s_get E (v := .ref (q 14)) 11 2 in_X1 gX_11 rfl (by decide) m_f_X1_18 rfl dX1_copyFrom_63 ?_
      refine s_iload_n E 2 rfl dX1_copyFrom_66 rfl ?_
      refine s_aload_n E 1 rfl dX1_copyFrom_67 rfl ?_
      refine s_get E (v := .ref (q 10)) 7 2 in_X1 gX_7 rfl (by decide) m_f_X1_18 rfl dX1_copyFrom_68 ?_
      refine s_iload_n E 2 rfl dX1_copyFrom_71 rfl ?_
      obtain ⟨b8, h⟩ := chk_some h
      refine s_iald E (v := (σ 10 (y2.toNatClampNeg))) 10 gX_10 b8 (up2_n rfl) dX1_copyFrom_72 ?_
      obtain ⟨b9, h⟩ := chk_some h
      refine s_iast E (w' := (wX cI q (up2 (up2 σ 13 (y2.toNatClampNeg) (σ 9 (y2.toNatClampNeg))) 14 (y2.toNatClampNeg) (σ 10 (y2.toNatClampNeg))))) 14 gX_14 b9 aX_14 dX1_copyFrom_73 ?_
      refine s_iinc E (v := (y2 + 1)) (lv' := [(0, .ref (q 11)), (1, .ref (q 7)), (2, .int (y2 + 1))]) 2 rfl dX1_copyFrom_74 ki_1 rfl rfl rfl rfl (by decide) ?_
      refine s_goto E 44 dX1_copyFrom_77 (by decide) ?_
      exact ih (up2 (up2 σ 13 (y2.toNatClampNeg) (σ 9 (y2.toNatClampNeg))) 14 (y2.toNatClampNeg) (σ 10 (y2.toNatClampNeg))) (y2 + 1) z h hK
noncomputable def f_X1_copyFrom_11_7 (σ : Nat → Nat → Int32) : Option (Nat → Nat → Int32) :=
  ((f_X1_copyFrom_11_7_L18 fuel (up2 (up2 σ 11 3 (σ 7 3)) 11 4 (σ 7 4)) 0).bind fun u4 => ((f_X1_copyFrom_11_7_L44 fuel u4 0).bind fun u10 => (some u10)))
set_option maxRecDepth 100000 in
set_option maxHeartbeats 4000000 in
theorem c_X1_copyFrom_11_7 (q : Nat → Nat) (σ : Nat → Nat → Int32) (z : (Nat → Nat → Int32)) (h : f_X1_copyFrom_11_7 σ = some z) : CT l dC dI cI cZ A yX1_copyFrom cX1_copyFrom 3 none rm_X1_copyFrom_11_7 [.ref (q 11), .ref (q 7)] (wX cI q σ) (wX cI q z) none := by
  refine b_met (by decide) (Nat.le_of_ble_eq_true rfl) ?_
  intro p e s m below meth c E
  have E : EV p s m _ meth c dC dI cI cZ cX1_copyFrom 3 RX1 none := E
  show GG p l e rm_X1_copyFrom_11_7 s m _ below meth c _ A dC dI 3 (wX cI q σ) 0 [(0, .ref (q 11)), (1, .ref (q 7))] []
  unfold f_X1_copyFrom_11_7 at h
  refine s_aload_n E 0 rfl dX1_copyFrom_0 rfl ?_
  refine s_aload_n E 1 rfl dX1_copyFrom_1 rfl ?_
  refine s_geti E (y := (σ 7 3)) 7 3 in_X1 gX_7 rfl (by decide) m_f_X1_21 rfl rfl dX1_copyFrom_2 ?_
  refine s_put E (w' := (wX cI q (up2 σ 11 3 (σ 7 3)))) (v := .int (σ 7 3)) 11 3 tyX1 tyX1_ok nmX1 in_X1 gX_11 rfl (by decide) m_f_X1_21 rfl (tyX1_ok 3 (by decide)) rfl rfl (Nat.le_of_ble_eq_true rfl) fX_11_3 dX1_copyFrom_5 ?_
  refine s_aload_n E 0 rfl dX1_copyFrom_8 rfl ?_
  refine s_aload_n E 1 rfl dX1_copyFrom_9 rfl ?_
  refine s_geti E (y := (σ 7 4)) 7 4 in_X1 gX_7 rfl (by decide) m_f_X1_25 rfl (up2_n rfl) dX1_copyFrom_10 ?_
  refine s_put E (w' := (wX cI q (up2 (up2 σ 11 3 (σ 7 3)) 11 4 (σ 7 4)))) (v := .int (σ 7 4)) 11 4 tyX1 tyX1_ok nmX1 in_X1 gX_11 rfl (by decide) m_f_X1_25 rfl (tyX1_ok 4 (by decide)) rfl rfl (Nat.le_of_ble_eq_true rfl) fX_11_4 dX1_copyFrom_13 ?_
  refine s_iconst E (v := 0) dX1_copyFrom_16 ki_0 ?_
  refine s_istore_n E (lv' := [(0, .ref (q 11)), (1, .ref (q 7)), (2, .int 0)]) dX1_copyFrom_17 rfl rfl rfl rfl (by decide) ?_
  obtain ⟨u4, e4, h⟩ := bnd_some h
  refine w_X1_copyFrom_11_7_L18 E q fuel (up2 (up2 σ 11 3 (σ 7 3)) 11 4 (σ 7 4)) 0 u4 e4 ?_
  refine s_iconst E (v := 0) dX1_copyFrom_42 ki_0 ?_
  refine s_istore_n E (lv' := [(0, .ref (q 11)), (1, .ref (q 7)), (2, .int 0)]) dX1_copyFrom_43 rfl rfl rfl rfl (by decide) ?_
  obtain ⟨u10, e10, h⟩ := bnd_some h
  refine w_X1_copyFrom_11_7_L44 E q fuel u4 0 u10 e10 ?_
  obtain rfl := Option.some.inj h
  exact s_vret E rfl dX1_copyFrom_80
end
abbrev rm_X1_copyFrom_15_7 : Room := { frames := 0, cells := 0, slots := 0, locals := 0 }
section
noncomputable def f_X1_copyFrom_15_7_L18 : Nat → (Nat → Nat → Int32) → Int32 → Option (Nat → Nat → Int32)
  | 0, _, _ => none
  | n + 1, σ, y2 =>
    (if 8 < y2 then (some σ) else (chk y2 9 (chk y2 9 (f_X1_copyFrom_15_7_L18 n (up2 σ 16 (y2.toNatClampNeg) (σ 8 (y2.toNatClampNeg))) (y2 + 1)))))
set_option maxRecDepth 100000 in
set_option maxHeartbeats 4000000 in
theorem w_X1_copyFrom_15_7_L18 (E : EV p s m args meth c dC dI cI cZ cX1_copyFrom 3 RX1 none) (q : Nat → Nat) : ∀ (n : Nat) (σ : Nat → Nat → Int32) (y2 : Int32) (z : (Nat → Nat → Int32)), f_X1_copyFrom_15_7_L18 n σ y2 = some z → GG p l e rm_X1_copyFrom_15_7 s m args below meth c Q A dC dI 3 (wX cI q z) 42 [(0, .ref (q 15)), (1, .ref (q 7))] [] → GG p l e rm_X1_copyFrom_15_7 s m args below meth c Q A dC dI 3 (wX cI q σ) 18 [(0, .ref (q 15)), (1, .ref (q 7)), (2, .int y2)] [] := by
  intro n
  induction n with
  | zero =>
    intro σ y2 z h
    rw [f_X1_copyFrom_15_7_L18] at h
    cases h
  | succ n ih =>
    intro σ y2 z h hK
    rw [f_X1_copyFrom_15_7_L18] at h
    refine s_iload_n E 2 rfl dX1_copyFrom_18 rfl ?_
    refine s_bipush E (v := 8) dX1_copyFrom_19 kb_8 ?_
    refine s_icmp_gt E 42 dX1_copyFrom_21 (by decide) (fun c1 => ?_) (fun c1 => ?_)
    · have h := (if_pos c1).symm.trans h
      refine s_sub E (lv' := [(0, .ref (q 15)), (1, .ref (q 7))]) [0, 1] rfl ?_
      obtain rfl := Option.some.inj h
      exact hK
    · have h := (if_neg c1).symm.trans h
      refine s_aload_n E 0 rfl dX1_copyFrom_24 rfl ?_
      refine s_get E (v := .ref (q 16)) 15 0 in_X1 gX_15 rfl (by decide) m_f_X1_9 rfl dX1_copyFrom_25 ?_
      refine s_iload_n E 2 rfl dX1_copyFrom_28 rfl ?_
      refine s_aload_n E 1 rfl dX1_copyFrom_29 rfl ?_
      refine s_get E (v := .ref (q 8)) 7 0 in_X1 gX_7 rfl (by decide) m_f_X1_9 rfl dX1_copyFrom_30 ?_
      refine s_iload_n E 2 rfl dX1_copyFrom_33 rfl ?_
      obtain ⟨b2, h⟩ := chk_some h
      refine s_iald E (v := (σ 8 (y2.toNatClampNeg))) 8 gX_8 b2 rfl dX1_copyFrom_34 ?_
      obtain ⟨b3, h⟩ := chk_some h
      refine s_iast E (w' := (wX cI q (up2 σ 16 (y2.toNatClampNeg) (σ 8 (y2.toNatClampNeg))))) 16 gX_16 b3 aX_16 dX1_copyFrom_35 ?_
      refine s_iinc E (v := (y2 + 1)) (lv' := [(0, .ref (q 15)), (1, .ref (q 7)), (2, .int (y2 + 1))]) 2 rfl dX1_copyFrom_36 ki_1 rfl rfl rfl rfl (by decide) ?_
      refine s_goto E 18 dX1_copyFrom_39 (by decide) ?_
      exact ih (up2 σ 16 (y2.toNatClampNeg) (σ 8 (y2.toNatClampNeg))) (y2 + 1) z h hK
noncomputable def f_X1_copyFrom_15_7_L44 : Nat → (Nat → Nat → Int32) → Int32 → Option (Nat → Nat → Int32)
  | 0, _, _ => none
  | n + 1, σ, y2 =>
    (if 8 ≤ y2 then (some σ) else (chk y2 8 (chk y2 8 (chk y2 8 (chk y2 8 (f_X1_copyFrom_15_7_L44 n (up2 (up2 σ 17 (y2.toNatClampNeg) (σ 9 (y2.toNatClampNeg))) 18 (y2.toNatClampNeg) (σ 10 (y2.toNatClampNeg))) (y2 + 1)))))))
set_option maxRecDepth 100000 in
set_option maxHeartbeats 4000000 in
theorem w_X1_copyFrom_15_7_L44 (E : EV p s m args meth c dC dI cI cZ cX1_copyFrom 3 RX1 none) (q : Nat → Nat) : ∀ (n : Nat) (σ : Nat → Nat → Int32) (y2 : Int32) (z : (Nat → Nat → Int32)), f_X1_copyFrom_15_7_L44 n σ y2 = some z → GG p l e rm_X1_copyFrom_15_7 s m args below meth c Q A dC dI 3 (wX cI q z) 80 [(0, .ref (q 15)), (1, .ref (q 7))] [] → GG p l e rm_X1_copyFrom_15_7 s m args below meth c Q A dC dI 3 (wX cI q σ) 44 [(0, .ref (q 15)), (1, .ref (q 7)), (2, .int y2)] [] := by
  intro n
  induction n with
  | zero =>
    intro σ y2 z h
    rw [f_X1_copyFrom_15_7_L44] at h
    cases h
  | succ n ih =>
    intro σ y2 z h hK
    rw [f_X1_copyFrom_15_7_L44] at h
    refine s_iload_n E 2 rfl dX1_copyFrom_44 rfl ?_
    refine s_bipush E (v := 8) dX1_copyFrom_45 kb_8 ?_
    refine s_icmp_ge E 80 dX1_copyFrom_47 (by decide) (fun c5 => ?_) (fun c5 => ?_)
    · have h := (if_pos c5).symm.trans h
      refine s_sub E (lv' := [(0, .ref (q 15)), (1, .ref (q 7))]) [0, 1] rfl ?_
      obtain rfl := Option.some.inj h
      exact hK
    · have h := (if_neg c5).symm.trans h
      refine s_aload_n E 0 rfl dX1_copyFrom_50 rfl ?_
      refine s_get E (v := .ref (q 17)) 15 1 in_X1 gX_15 rfl (by decide) m_f_X1_15 rfl dX1_copyFrom_51 ?_
      refine s_iload_n E 2 rfl dX1_copyFrom_54 rfl ?_
      refine s_aload_n E 1 rfl dX1_copyFrom_55 rfl ?_
      refine s_get E (v := .ref (q 9)) 7 1 in_X1 gX_7 rfl (by decide) m_f_X1_15 rfl dX1_copyFrom_56 ?_
      refine s_iload_n E 2 rfl dX1_copyFrom_59 rfl ?_
      obtain ⟨b6, h⟩ := chk_some h
      refine s_iald E (v := (σ 9 (y2.toNatClampNeg))) 9 gX_9 b6 rfl dX1_copyFrom_60 ?_
      obtain ⟨b7, h⟩ := chk_some h
      refine s_iast E (w' := (wX cI q (up2 σ 17 (y2.toNatClampNeg) (σ 9 (y2.toNatClampNeg))))) 17 gX_17 b7 aX_17 dX1_copyFrom_61 ?_
      refine s_aload_n E 0 rfl dX1_copyFrom_62 rfl ?_
      refine s_get E (v := .ref (q 18)) 15 2 in_X1 gX_15 rfl (by decide) m_f_X1_18 rfl dX1_copyFrom_63 ?_
      refine s_iload_n E 2 rfl dX1_copyFrom_66 rfl ?_
      refine s_aload_n E 1 rfl dX1_copyFrom_67 rfl ?_
      refine s_get E (v := .ref (q 10)) 7 2 in_X1 gX_7 rfl (by decide) m_f_X1_18 rfl dX1_copyFrom_68 ?_
      refine s_iload_n E 2 rfl dX1_copyFrom_71 rfl ?_
      obtain ⟨b8, h⟩ := chk_some h
      refine s_iald E (v := (σ 10 (y2.toNatClampNeg))) 10 gX_10 b8 (up2_n rfl) dX1_copyFrom_72 ?_
      obtain ⟨b9, h⟩ := chk_some h
      refine s_iast E (w' := (wX cI q (up2 (up2 σ 17 (y2.toNatClampNeg) (σ 9 (y2.toNatClampNeg))) 18 (y2.toNatClampNeg) (σ 10 (y2.toNatClampNeg))))) 18 gX_18 b9 aX_18 dX1_copyFrom_73 ?_
      refine s_iinc E (v := (y2 + 1)) (lv' := [(0, .ref (q 15)), (1, .ref (q 7)), (2, .int (y2 + 1))]) 2 rfl dX1_copyFrom_74 ki_1 rfl rfl rfl rfl (by decide) ?_
      refine s_goto E 44 dX1_copyFrom_77 (by decide) ?_
      exact ih (up2 (up2 σ 17 (y2.toNatClampNeg) (σ 9 (y2.toNatClampNeg))) 18 (y2.toNatClampNeg) (σ 10 (y2.toNatClampNeg))) (y2 + 1) z h hK
noncomputable def f_X1_copyFrom_15_7 (σ : Nat → Nat → Int32) : Option (Nat → Nat → Int32) :=
  ((f_X1_copyFrom_15_7_L18 fuel (up2 (up2 σ 15 3 (σ 7 3)) 15 4 (σ 7 4)) 0).bind fun u4 => ((f_X1_copyFrom_15_7_L44 fuel u4 0).bind fun u10 => (some u10)))
set_option maxRecDepth 100000 in
set_option maxHeartbeats 4000000 in
theorem c_X1_copyFrom_15_7 (q : Nat → Nat) (σ : Nat → Nat → Int32) (z : (Nat → Nat → Int32)) (h : f_X1_copyFrom_15_7 σ = some z) : CT l dC dI cI cZ A yX1_copyFrom cX1_copyFrom 3 none rm_X1_copyFrom_15_7 [.ref (q 15), .ref (q 7)] (wX cI q σ) (wX cI q z) none := by
  refine b_met (by decide) (Nat.le_of_ble_eq_true rfl) ?_
  intro p e s m below meth c E
  have E : EV p s m _ meth c dC dI cI cZ cX1_copyFrom 3 RX1 none := E
  show GG p l e rm_X1_copyFrom_15_7 s m _ below meth c _ A dC dI 3 (wX cI q σ) 0 [(0, .ref (q 15)), (1, .ref (q 7))] []
  unfold f_X1_copyFrom_15_7 at h
  refine s_aload_n E 0 rfl dX1_copyFrom_0 rfl ?_
  refine s_aload_n E 1 rfl dX1_copyFrom_1 rfl ?_
  refine s_geti E (y := (σ 7 3)) 7 3 in_X1 gX_7 rfl (by decide) m_f_X1_21 rfl rfl dX1_copyFrom_2 ?_
  refine s_put E (w' := (wX cI q (up2 σ 15 3 (σ 7 3)))) (v := .int (σ 7 3)) 15 3 tyX1 tyX1_ok nmX1 in_X1 gX_15 rfl (by decide) m_f_X1_21 rfl (tyX1_ok 3 (by decide)) rfl rfl (Nat.le_of_ble_eq_true rfl) fX_15_3 dX1_copyFrom_5 ?_
  refine s_aload_n E 0 rfl dX1_copyFrom_8 rfl ?_
  refine s_aload_n E 1 rfl dX1_copyFrom_9 rfl ?_
  refine s_geti E (y := (σ 7 4)) 7 4 in_X1 gX_7 rfl (by decide) m_f_X1_25 rfl (up2_n rfl) dX1_copyFrom_10 ?_
  refine s_put E (w' := (wX cI q (up2 (up2 σ 15 3 (σ 7 3)) 15 4 (σ 7 4)))) (v := .int (σ 7 4)) 15 4 tyX1 tyX1_ok nmX1 in_X1 gX_15 rfl (by decide) m_f_X1_25 rfl (tyX1_ok 4 (by decide)) rfl rfl (Nat.le_of_ble_eq_true rfl) fX_15_4 dX1_copyFrom_13 ?_
  refine s_iconst E (v := 0) dX1_copyFrom_16 ki_0 ?_
  refine s_istore_n E (lv' := [(0, .ref (q 15)), (1, .ref (q 7)), (2, .int 0)]) dX1_copyFrom_17 rfl rfl rfl rfl (by decide) ?_
  obtain ⟨u4, e4, h⟩ := bnd_some h
  refine w_X1_copyFrom_15_7_L18 E q fuel (up2 (up2 σ 15 3 (σ 7 3)) 15 4 (σ 7 4)) 0 u4 e4 ?_
  refine s_iconst E (v := 0) dX1_copyFrom_42 ki_0 ?_
  refine s_istore_n E (lv' := [(0, .ref (q 15)), (1, .ref (q 7)), (2, .int 0)]) dX1_copyFrom_43 rfl rfl rfl rfl (by decide) ?_
  obtain ⟨u10, e10, h⟩ := bnd_some h
  refine w_X1_copyFrom_15_7_L44 E q fuel u4 0 u10 e10 ?_
  obtain rfl := Option.some.inj h
  exact s_vret E rfl dX1_copyFrom_80
end
abbrev rm_X1_copyFrom_7_11 : Room := { frames := 0, cells := 0, slots := 0, locals := 0 }
section
noncomputable def f_X1_copyFrom_7_11_L18 : Nat → (Nat → Nat → Int32) → Int32 → Option (Nat → Nat → Int32)
  | 0, _, _ => none
  | n + 1, σ, y2 =>
    (if 8 < y2 then (some σ) else (chk y2 9 (chk y2 9 (f_X1_copyFrom_7_11_L18 n (up2 σ 8 (y2.toNatClampNeg) (σ 12 (y2.toNatClampNeg))) (y2 + 1)))))
set_option maxRecDepth 100000 in
set_option maxHeartbeats 4000000 in
theorem w_X1_copyFrom_7_11_L18 (E : EV p s m args meth c dC dI cI cZ cX1_copyFrom 3 RX1 none) (q : Nat → Nat) : ∀ (n : Nat) (σ : Nat → Nat → Int32) (y2 : Int32) (z : (Nat → Nat → Int32)), f_X1_copyFrom_7_11_L18 n σ y2 = some z → GG p l e rm_X1_copyFrom_7_11 s m args below meth c Q A dC dI 3 (wX cI q z) 42 [(0, .ref (q 7)), (1, .ref (q 11))] [] → GG p l e rm_X1_copyFrom_7_11 s m args below meth c Q A dC dI 3 (wX cI q σ) 18 [(0, .ref (q 7)), (1, .ref (q 11)), (2, .int y2)] [] := by
  intro n
  induction n with
  | zero =>
    intro σ y2 z h
    rw [f_X1_copyFrom_7_11_L18] at h
    cases h
  | succ n ih =>
    intro σ y2 z h hK
    rw [f_X1_copyFrom_7_11_L18] at h
    refine s_iload_n E 2 rfl dX1_copyFrom_18 rfl ?_
    refine s_bipush E (v := 8) dX1_copyFrom_19 kb_8 ?_
    refine s_icmp_gt E 42 dX1_copyFrom_21 (by decide) (fun c1 => ?_) (fun c1 => ?_)
    · have h := (if_pos c1).symm.trans h
      refine s_sub E (lv' := [(0, .ref (q 7)), (1, .ref (q 11))]) [0, 1] rfl ?_
      obtain rfl := Option.some.inj h
      exact hK
    · have h := (if_neg c1).symm.trans h
      refine s_aload_n E 0 rfl dX1_copyFrom_24 rfl ?_
      refine s_get E (v := .ref (q 8)) 7 0 in_X1 gX_7 rfl (by decide) m_f_X1_9 rfl dX1_copyFrom_25 ?_
      refine s_iload_n E 2 rfl dX1_copyFrom_28 rfl ?_
      refine s_aload_n E 1 rfl dX1_copyFrom_29 rfl ?_
      refine s_get E (v := .ref (q 12)) 11 0 in_X1 gX_11 rfl (by decide) m_f_X1_9 rfl dX1_copyFrom_30 ?_
      refine s_iload_n E 2 rfl dX1_copyFrom_33 rfl ?_
      obtain ⟨b2, h⟩ := chk_some h
      refine s_iald E (v := (σ 12 (y2.toNatClampNeg))) 12 gX_12 b2 rfl dX1_copyFrom_34 ?_
      obtain ⟨b3, h⟩ := chk_some h
      refine s_iast E (w' := (wX cI q (up2 σ 8 (y2.toNatClampNeg) (σ 12 (y2.toNatClampNeg))))) 8 gX_8 b3 aX_8 dX1_copyFrom_35 ?_
      refine s_iinc E (v := (y2 + 1)) (lv' := [(0, .ref (q 7)), (1, .ref (q 11)), (2, .int (y2 + 1))]) 2 rfl dX1_copyFrom_36 ki_1 rfl rfl rfl rfl (by decide) ?_
      refine s_goto E 18 dX1_copyFrom_39 (by decide) ?_
      exact ih (up2 σ 8 (y2.toNatClampNeg) (σ 12 (y2.toNatClampNeg))) (y2 + 1) z h hK
noncomputable def f_X1_copyFrom_7_11_L44 : Nat → (Nat → Nat → Int32) → Int32 → Option (Nat → Nat → Int32)
  | 0, _, _ => none
  | n + 1, σ, y2 =>
    (if 8 ≤ y2 then (some σ) else (chk y2 8 (chk y2 8 (chk y2 8 (chk y2 8 (f_X1_copyFrom_7_11_L44 n (up2 (up2 σ 9 (y2.toNatClampNeg) (σ 13 (y2.toNatClampNeg))) 10 (y2.toNatClampNeg) (σ 14 (y2.toNatClampNeg))) (y2 + 1)))))))
set_option maxRecDepth 100000 in
set_option maxHeartbeats 4000000 in
theorem w_X1_copyFrom_7_11_L44 (E : EV p s m args meth c dC dI cI cZ cX1_copyFrom 3 RX1 none) (q : Nat → Nat) : ∀ (n : Nat) (σ : Nat → Nat → Int32) (y2 : Int32) (z : (Nat → Nat → Int32)), f_X1_copyFrom_7_11_L44 n σ y2 = some z → GG p l e rm_X1_copyFrom_7_11 s m args below meth c Q A dC dI 3 (wX cI q z) 80 [(0, .ref (q 7)), (1, .ref (q 11))] [] → GG p l e rm_X1_copyFrom_7_11 s m args below meth c Q A dC dI 3 (wX cI q σ) 44 [(0, .ref (q 7)), (1, .ref (q 11)), (2, .int y2)] [] := by
  intro n
  induction n with
  | zero =>
    intro σ y2 z h
    rw [f_X1_copyFrom_7_11_L44] at h
    cases h
  | succ n ih =>
    intro σ y2 z h hK
    rw [f_X1_copyFrom_7_11_L44] at h
    refine s_iload_n E 2 rfl dX1_copyFrom_44 rfl ?_
    refine s_bipush E (v := 8) dX1_copyFrom_45 kb_8 ?_
    refine s_icmp_ge E 80 dX1_copyFrom_47 (by decide) (fun c5 => ?_) (fun c5 => ?_)
    · have h := (if_pos c5).symm.trans h
      refine s_sub E (lv' := [(0, .ref (q 7)), (1, .ref (q 11))]) [0, 1] rfl ?_
      obtain rfl := Option.some.inj h
      exact hK
    · have h := (if_neg c5).symm.trans h
      refine s_aload_n E 0 rfl dX1_copyFrom_50 rfl ?_
      refine s_get E (v := .ref (q 9)) 7 1 in_X1 gX_7 rfl (by decide) m_f_X1_15 rfl dX1_copyFrom_51 ?_
      refine s_iload_n E 2 rfl dX1_copyFrom_54 rfl ?_
      refine s_aload_n E 1 rfl dX1_copyFrom_55 rfl ?_
      refine s_get E (v := .ref (q 13)) 11 1 in_X1 gX_11 rfl (by decide) m_f_X1_15 rfl dX1_copyFrom_56 ?_
      refine s_iload_n E 2 rfl dX1_copyFrom_59 rfl ?_
      obtain ⟨b6, h⟩ := chk_some h
      refine s_iald E (v := (σ 13 (y2.toNatClampNeg))) 13 gX_13 b6 rfl dX1_copyFrom_60 ?_
      obtain ⟨b7, h⟩ := chk_some h
      refine s_iast E (w' := (wX cI q (up2 σ 9 (y2.toNatClampNeg) (σ 13 (y2.toNatClampNeg))))) 9 gX_9 b7 aX_9 dX1_copyFrom_61 ?_
      refine s_aload_n E 0 rfl dX1_copyFrom_62 rfl ?_
      refine s_get E (v := .ref (q 10)) 7 2 in_X1 gX_7 rfl (by decide) m_f_X1_18 rfl dX1_copyFrom_63 ?_
      refine s_iload_n E 2 rfl dX1_copyFrom_66 rfl ?_
      refine s_aload_n E 1 rfl dX1_copyFrom_67 rfl ?_
      refine s_get E (v := .ref (q 14)) 11 2 in_X1 gX_11 rfl (by decide) m_f_X1_18 rfl dX1_copyFrom_68 ?_
      refine s_iload_n E 2 rfl dX1_copyFrom_71 rfl ?_
      obtain ⟨b8, h⟩ := chk_some h
      refine s_iald E (v := (σ 14 (y2.toNatClampNeg))) 14 gX_14 b8 (up2_n rfl) dX1_copyFrom_72 ?_
      obtain ⟨b9, h⟩ := chk_some h
      refine s_iast E (w' := (wX cI q (up2 (up2 σ 9 (y2.toNatClampNeg) (σ 13 (y2.toNatClampNeg))) 10 (y2.toNatClampNeg) (σ 14 (y2.toNatClampNeg))))) 10 gX_10 b9 aX_10 dX1_copyFrom_73 ?_
      refine s_iinc E (v := (y2 + 1)) (lv' := [(0, .ref (q 7)), (1, .ref (q 11)), (2, .int (y2 + 1))]) 2 rfl dX1_copyFrom_74 ki_1 rfl rfl rfl rfl (by decide) ?_
      refine s_goto E 44 dX1_copyFrom_77 (by decide) ?_
      exact ih (up2 (up2 σ 9 (y2.toNatClampNeg) (σ 13 (y2.toNatClampNeg))) 10 (y2.toNatClampNeg) (σ 14 (y2.toNatClampNeg))) (y2 + 1) z h hK
noncomputable def f_X1_copyFrom_7_11 (σ : Nat → Nat → Int32) : Option (Nat → Nat → Int32) :=
  ((f_X1_copyFrom_7_11_L18 fuel (up2 (up2 σ 7 3 (σ 11 3)) 7 4 (σ 11 4)) 0).bind fun u4 => ((f_X1_copyFrom_7_11_L44 fuel u4 0).bind fun u10 => (some u10)))
set_option maxRecDepth 100000 in
set_option maxHeartbeats 4000000 in
theorem c_X1_copyFrom_7_11 (q : Nat → Nat) (σ : Nat → Nat → Int32) (z : (Nat → Nat → Int32)) (h : f_X1_copyFrom_7_11 σ = some z) : CT l dC dI cI cZ A yX1_copyFrom cX1_copyFrom 3 none rm_X1_copyFrom_7_11 [.ref (q 7), .ref (q 11)] (wX cI q σ) (wX cI q z) none := by
  refine b_met (by decide) (Nat.le_of_ble_eq_true rfl) ?_
  intro p e s m below meth c E
  have E : EV p s m _ meth c dC dI cI cZ cX1_copyFrom 3 RX1 none := E
  show GG p l e rm_X1_copyFrom_7_11 s m _ below meth c _ A dC dI 3 (wX cI q σ) 0 [(0, .ref (q 7)), (1, .ref (q 11))] []
  unfold f_X1_copyFrom_7_11 at h
  refine s_aload_n E 0 rfl dX1_copyFrom_0 rfl ?_
  refine s_aload_n E 1 rfl dX1_copyFrom_1 rfl ?_
  refine s_geti E (y := (σ 11 3)) 11 3 in_X1 gX_11 rfl (by decide) m_f_X1_21 rfl rfl dX1_copyFrom_2 ?_
  refine s_put E (w' := (wX cI q (up2 σ 7 3 (σ 11 3)))) (v := .int (σ 11 3)) 7 3 tyX1 tyX1_ok nmX1 in_X1 gX_7 rfl (by decide) m_f_X1_21 rfl (tyX1_ok 3 (by decide)) rfl rfl (Nat.le_of_ble_eq_true rfl) fX_7_3 dX1_copyFrom_5 ?_
  refine s_aload_n E 0 rfl dX1_copyFrom_8 rfl ?_
  refine s_aload_n E 1 rfl dX1_copyFrom_9 rfl ?_
  refine s_geti E (y := (σ 11 4)) 11 4 in_X1 gX_11 rfl (by decide) m_f_X1_25 rfl (up2_n rfl) dX1_copyFrom_10 ?_
  refine s_put E (w' := (wX cI q (up2 (up2 σ 7 3 (σ 11 3)) 7 4 (σ 11 4)))) (v := .int (σ 11 4)) 7 4 tyX1 tyX1_ok nmX1 in_X1 gX_7 rfl (by decide) m_f_X1_25 rfl (tyX1_ok 4 (by decide)) rfl rfl (Nat.le_of_ble_eq_true rfl) fX_7_4 dX1_copyFrom_13 ?_
  refine s_iconst E (v := 0) dX1_copyFrom_16 ki_0 ?_
  refine s_istore_n E (lv' := [(0, .ref (q 7)), (1, .ref (q 11)), (2, .int 0)]) dX1_copyFrom_17 rfl rfl rfl rfl (by decide) ?_
  obtain ⟨u4, e4, h⟩ := bnd_some h
  refine w_X1_copyFrom_7_11_L18 E q fuel (up2 (up2 σ 7 3 (σ 11 3)) 7 4 (σ 11 4)) 0 u4 e4 ?_
  refine s_iconst E (v := 0) dX1_copyFrom_42 ki_0 ?_
  refine s_istore_n E (lv' := [(0, .ref (q 7)), (1, .ref (q 11)), (2, .int 0)]) dX1_copyFrom_43 rfl rfl rfl rfl (by decide) ?_
  obtain ⟨u10, e10, h⟩ := bnd_some h
  refine w_X1_copyFrom_7_11_L44 E q fuel u4 0 u10 e10 ?_
  obtain rfl := Option.some.inj h
  exact s_vret E rfl dX1_copyFrom_80
end
abbrev rm_X1_copyFrom_7_15 : Room := { frames := 0, cells := 0, slots := 0, locals := 0 }
section
noncomputable def f_X1_copyFrom_7_15_L18 : Nat → (Nat → Nat → Int32) → Int32 → Option (Nat → Nat → Int32)
  | 0, _, _ => none
  | n + 1, σ, y2 =>
    (if 8 < y2 then (some σ) else (chk y2 9 (chk y2 9 (f_X1_copyFrom_7_15_L18 n (up2 σ 8 (y2.toNatClampNeg) (σ 16 (y2.toNatClampNeg))) (y2 + 1)))))
set_option maxRecDepth 100000 in
set_option maxHeartbeats 4000000 in
theorem w_X1_copyFrom_7_15_L18 (E : EV p s m args meth c dC dI cI cZ cX1_copyFrom 3 RX1 none) (q : Nat → Nat) : ∀ (n : Nat) (σ : Nat → Nat → Int32) (y2 : Int32) (z : (Nat → Nat → Int32)), f_X1_copyFrom_7_15_L18 n σ y2 = some z → GG p l e rm_X1_copyFrom_7_15 s m args below meth c Q A dC dI 3 (wX cI q z) 42 [(0, .ref (q 7)), (1, .ref (q 15))] [] → GG p l e rm_X1_copyFrom_7_15 s m args below meth c Q A dC dI 3 (wX cI q σ) 18 [(0, .ref (q 7)), (1, .ref (q 15)), (2, .int y2)] [] := by
  intro n
  induction n with
  | zero =>
    intro σ y2 z h
    rw [f_X1_copyFrom_7_15_L18] at h
    cases h
  | succ n ih =>
    intro σ y2 z h hK
    rw [f_X1_copyFrom_7_15_L18] at h
    refine s_iload_n E 2 rfl dX1_copyFrom_18 rfl ?_
    refine s_bipush E (v := 8) dX1_copyFrom_19 kb_8 ?_
    refine s_icmp_gt E 42 dX1_copyFrom_21 (by decide) (fun c1 => ?_) (fun c1 => ?_)
    · have h := (if_pos c1).symm.trans h
      refine s_sub E (lv' := [(0, .ref (q 7)), (1, .ref (q 15))]) [0, 1] rfl ?_
      obtain rfl := Option.some.inj h
      exact hK
    · have h := (if_neg c1).symm.trans h
      refine s_aload_n E 0 rfl dX1_copyFrom_24 rfl ?_
      refine s_get E (v := .ref (q 8)) 7 0 in_X1 gX_7 rfl (by decide) m_f_X1_9 rfl dX1_copyFrom_25 ?_
      refine s_iload_n E 2 rfl dX1_copyFrom_28 rfl ?_
      refine s_aload_n E 1 rfl dX1_copyFrom_29 rfl ?_
      refine s_get E (v := .ref (q 16)) 15 0 in_X1 gX_15 rfl (by decide) m_f_X1_9 rfl dX1_copyFrom_30 ?_
      refine s_iload_n E 2 rfl dX1_copyFrom_33 rfl ?_
      obtain ⟨b2, h⟩ := chk_some h
      refine s_iald E (v := (σ 16 (y2.toNatClampNeg))) 16 gX_16 b2 rfl dX1_copyFrom_34 ?_
      obtain ⟨b3, h⟩ := chk_some h
      refine s_iast E (w' := (wX cI q (up2 σ 8 (y2.toNatClampNeg) (σ 16 (y2.toNatClampNeg))))) 8 gX_8 b3 aX_8 dX1_copyFrom_35 ?_
      refine s_iinc E (v := (y2 + 1)) (lv' := [(0, .ref (q 7)), (1, .ref (q 15)), (2, .int (y2 + 1))]) 2 rfl dX1_copyFrom_36 ki_1 rfl rfl rfl rfl (by decide) ?_
      refine s_goto E 18 dX1_copyFrom_39 (by decide) ?_
      exact ih (up2 σ 8 (y2.toNatClampNeg) (σ 16 (y2.toNatClampNeg))) (y2 + 1) z h hK
noncomputable def f_X1_copyFrom_7_15_L44 : Nat → (Nat → Nat → Int32) → Int32 → Option (Nat → Nat → Int32)
  | 0, _, _ => none
  | n + 1, σ, y2 =>
    (if 8 ≤ y2 then (some σ) else (chk y2 8 (chk y2 8 (chk y2 8 (chk y2 8 (f_X1_copyFrom_7_15_L44 n (up2 (up2 σ 9 (y2.toNatClampNeg) (σ 17 (y2.toNatClampNeg))) 10 (y2.toNatClampNeg) (σ 18 (y2.toNatClampNeg))) (y2 + 1)))))))
set_option maxRecDepth 100000 in
set_option maxHeartbeats 4000000 in
theorem w_X1_copyFrom_7_15_L44 (E : EV p s m args meth c dC dI cI cZ cX1_copyFrom 3 RX1 none) (q : Nat → Nat) : ∀ (n : Nat) (σ : Nat → Nat → Int32) (y2 : Int32) (z : (Nat → Nat → Int32)), f_X1_copyFrom_7_15_L44 n σ y2 = some z → GG p l e rm_X1_copyFrom_7_15 s m args below meth c Q A dC dI 3 (wX cI q z) 80 [(0, .ref (q 7)), (1, .ref (q 15))] [] → GG p l e rm_X1_copyFrom_7_15 s m args below meth c Q A dC dI 3 (wX cI q σ) 44 [(0, .ref (q 7)), (1, .ref (q 15)), (2, .int y2)] [] := by
  intro n
  induction n with
  | zero =>
    intro σ y2 z h
    rw [f_X1_copyFrom_7_15_L44] at h
    cases h
  | succ n ih =>
    intro σ y2 z h hK
    rw [f_X1_copyFrom_7_15_L44] at h
    refine s_iload_n E 2 rfl dX1_copyFrom_44 rfl ?_
    refine s_bipush E (v := 8) dX1_copyFrom_45 kb_8 ?_
    refine s_icmp_ge E 80 dX1_copyFrom_47 (by decide) (fun c5 => ?_) (fun c5 => ?_)
    · have h := (if_pos c5).symm.trans h
      refine s_sub E (lv' := [(0, .ref (q 7)), (1, .ref (q 15))]) [0, 1] rfl ?_
      obtain rfl := Option.some.inj h
      exact hK
    · have h := (if_neg c5).symm.trans h
      refine s_aload_n E 0 rfl dX1_copyFrom_50 rfl ?_
      refine s_get E (v := .ref (q 9)) 7 1 in_X1 gX_7 rfl (by decide) m_f_X1_15 rfl dX1_copyFrom_51 ?_
      refine s_iload_n E 2 rfl dX1_copyFrom_54 rfl ?_
      refine s_aload_n E 1 rfl dX1_copyFrom_55 rfl ?_
      refine s_get E (v := .ref (q 17)) 15 1 in_X1 gX_15 rfl (by decide) m_f_X1_15 rfl dX1_copyFrom_56 ?_
      refine s_iload_n E 2 rfl dX1_copyFrom_59 rfl ?_
      obtain ⟨b6, h⟩ := chk_some h
      refine s_iald E (v := (σ 17 (y2.toNatClampNeg))) 17 gX_17 b6 rfl dX1_copyFrom_60 ?_
      obtain ⟨b7, h⟩ := chk_some h
      refine s_iast E (w' := (wX cI q (up2 σ 9 (y2.toNatClampNeg) (σ 17 (y2.toNatClampNeg))))) 9 gX_9 b7 aX_9 dX1_copyFrom_61 ?_
      refine s_aload_n E 0 rfl dX1_copyFrom_62 rfl ?_
      refine s_get E (v := .ref (q 10)) 7 2 in_X1 gX_7 rfl (by decide) m_f_X1_18 rfl dX1_copyFrom_63 ?_
      refine s_iload_n E 2 rfl dX1_copyFrom_66 rfl ?_
      refine s_aload_n E 1 rfl dX1_copyFrom_67 rfl ?_
      refine s_get E (v := .ref (q 18)) 15 2 in_X1 gX_15 rfl (by decide) m_f_X1_18 rfl dX1_copyFrom_68 ?_
      refine s_iload_n E 2 rfl dX1_copyFrom_71 rfl ?_
      obtain ⟨b8, h⟩ := chk_some h
      refine s_iald E (v := (σ 18 (y2.toNatClampNeg))) 18 gX_18 b8 (up2_n rfl) dX1_copyFrom_72 ?_
      obtain ⟨b9, h⟩ := chk_some h
      refine s_iast E (w' := (wX cI q (up2 (up2 σ 9 (y2.toNatClampNeg) (σ 17 (y2.toNatClampNeg))) 10 (y2.toNatClampNeg) (σ 18 (y2.toNatClampNeg))))) 10 gX_10 b9 aX_10 dX1_copyFrom_73 ?_
      refine s_iinc E (v := (y2 + 1)) (lv' := [(0, .ref (q 7)), (1, .ref (q 15)), (2, .int (y2 + 1))]) 2 rfl dX1_copyFrom_74 ki_1 rfl rfl rfl rfl (by decide) ?_
      refine s_goto E 44 dX1_copyFrom_77 (by decide) ?_
      exact ih (up2 (up2 σ 9 (y2.toNatClampNeg) (σ 17 (y2.toNatClampNeg))) 10 (y2.toNatClampNeg) (σ 18 (y2.toNatClampNeg))) (y2 + 1) z h hK
noncomputable def f_X1_copyFrom_7_15 (σ : Nat → Nat → Int32) : Option (Nat → Nat → Int32) :=
  ((f_X1_copyFrom_7_15_L18 fuel (up2 (up2 σ 7 3 (σ 15 3)) 7 4 (σ 15 4)) 0).bind fun u4 => ((f_X1_copyFrom_7_15_L44 fuel u4 0).bind fun u10 => (some u10)))
set_option maxRecDepth 100000 in
set_option maxHeartbeats 4000000 in
theorem c_X1_copyFrom_7_15 (q : Nat → Nat) (σ : Nat → Nat → Int32) (z : (Nat → Nat → Int32)) (h : f_X1_copyFrom_7_15 σ = some z) : CT l dC dI cI cZ A yX1_copyFrom cX1_copyFrom 3 none rm_X1_copyFrom_7_15 [.ref (q 7), .ref (q 15)] (wX cI q σ) (wX cI q z) none := by
  refine b_met (by decide) (Nat.le_of_ble_eq_true rfl) ?_
  intro p e s m below meth c E
  have E : EV p s m _ meth c dC dI cI cZ cX1_copyFrom 3 RX1 none := E
  show GG p l e rm_X1_copyFrom_7_15 s m _ below meth c _ A dC dI 3 (wX cI q σ) 0 [(0, .ref (q 7)), (1, .ref (q 15))] []
  unfold f_X1_copyFrom_7_15 at h
  refine s_aload_n E 0 rfl dX1_copyFrom_0 rfl ?_
  refine s_aload_n E 1 rfl dX1_copyFrom_1 rfl ?_
  refine s_geti E (y := (σ 15 3)) 15 3 in_X1 gX_15 rfl (by decide) m_f_X1_21 rfl rfl dX1_copyFrom_2 ?_
  refine s_put E (w' := (wX cI q (up2 σ 7 3 (σ 15 3)))) (v := .int (σ 15 3)) 7 3 tyX1 tyX1_ok nmX1 in_X1 gX_7 rfl (by decide) m_f_X1_21 rfl (tyX1_ok 3 (by decide)) rfl rfl (Nat.le_of_ble_eq_true rfl) fX_7_3 dX1_copyFrom_5 ?_
  refine s_aload_n E 0 rfl dX1_copyFrom_8 rfl ?_
  refine s_aload_n E 1 rfl dX1_copyFrom_9 rfl ?_
  refine s_geti E (y := (σ 15 4)) 15 4 in_X1 gX_15 rfl (by decide) m_f_X1_25 rfl (up2_n rfl) dX1_copyFrom_10 ?_
  refine s_put E (w' := (wX cI q (up2 (up2 σ 7 3 (σ 15 3)) 7 4 (σ 15 4)))) (v := .int (σ 15 4)) 7 4 tyX1 tyX1_ok nmX1 in_X1 gX_7 rfl (by decide) m_f_X1_25 rfl (tyX1_ok 4 (by decide)) rfl rfl (Nat.le_of_ble_eq_true rfl) fX_7_4 dX1_copyFrom_13 ?_
  refine s_iconst E (v := 0) dX1_copyFrom_16 ki_0 ?_
  refine s_istore_n E (lv' := [(0, .ref (q 7)), (1, .ref (q 15)), (2, .int 0)]) dX1_copyFrom_17 rfl rfl rfl rfl (by decide) ?_
  obtain ⟨u4, e4, h⟩ := bnd_some h
  refine w_X1_copyFrom_7_15_L18 E q fuel (up2 (up2 σ 7 3 (σ 15 3)) 7 4 (σ 15 4)) 0 u4 e4 ?_
  refine s_iconst E (v := 0) dX1_copyFrom_42 ki_0 ?_
  refine s_istore_n E (lv' := [(0, .ref (q 7)), (1, .ref (q 15)), (2, .int 0)]) dX1_copyFrom_43 rfl rfl rfl rfl (by decide) ?_
  obtain ⟨u10, e10, h⟩ := bnd_some h
  refine w_X1_copyFrom_7_15_L44 E q fuel u4 0 u10 e10 ?_
  obtain rfl := Option.some.inj h
  exact s_vret E rfl dX1_copyFrom_80
end
end
