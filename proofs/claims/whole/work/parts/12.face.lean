section
variable {p : Program} {l : Launch} {e : Env} {s : State} {m : MethodId} {args : Array Value} {below : List Frame} {meth : Method} {c : Code} {Q : State → Prop} {A : Nat → Prop} {dC : Nat → ClassId} {dI : Nat → Nat → Nat} {cI cZ : ClassId}
abbrev rm_X4_write : Room := { frames := 1, cells := 0, slots := 0, locals := 24 }
section
noncomputable def f_X4_write (σ : Nat → Nat → Int32) (x1 : Int32) (x2 : Int64) : Option (Int32 × (Nat → Nat → Int32)) :=
  (if x1 < 1 then (some ((-2), σ)) else (if x1 ≤ 8 then (if ((σ 1 1) + x1) ≤ 48 then ((f_X3_append σ x1 x2).bind fun u4 => (some ((u4 1 1), u4))) else (some ((-4), σ))) else (some ((-2), σ))))
set_option maxRecDepth 100000 in
set_option maxHeartbeats 4000000 in
theorem c_X4_write (q : Nat → Nat) (σ : Nat → Nat → Int32) (x1 : Int32) (x2 : Int64) (z : (Int32 × (Nat → Nat → Int32))) (h : f_X4_write σ x1 x2 = some z) : CT l dC dI cI cZ A yX4_write cX4_write 4 (some .int) rm_X4_write [.ref (q 0), .int x1, .long x2] (wX cI q σ) (wX cI q z.2) (some (.int z.1)) := by
  refine b_met (by decide) (Nat.le_of_ble_eq_true rfl) ?_
  intro p e s m below meth c E
  have E : EV p s m _ meth c dC dI cI cZ cX4_write 4 RX4 (some .int) := E
  show GG p l e rm_X4_write s m _ below meth c _ A dC dI 4 (wX cI q σ) 0 [(0, .ref (q 0)), (1, .int x1), (2, .long x2)] []
  unfold f_X4_write at h
  refine s_iload_n E 1 rfl dX4_write_0 rfl ?_
  refine s_iconst E (v := 1) dX4_write_1 ki_1 ?_
  refine s_icmp_lt E 11 dX4_write_2 (by decide) (fun c1 => ?_) (fun c1 => ?_)
  · have h := (if_pos c1).symm.trans h
    refine s_bipush E (v := (-2)) dX4_write_11 kb_m2 ?_
    obtain rfl := Option.some.inj h
    exact s_iret E rfl rfl dX4_write_13
  · have h := (if_neg c1).symm.trans h
    refine s_iload_n E 1 rfl dX4_write_5 rfl ?_
    refine s_bipush E (v := 8) dX4_write_6 kb_8 ?_
    refine s_icmp_le E 14 dX4_write_8 (by decide) (fun c2 => ?_) (fun c2 => ?_)
    · have h := (if_pos c2).symm.trans h
      refine s_aload_n E 0 rfl dX4_write_14 rfl ?_
      refine s_get E (v := .ref (q 1)) 0 0 in_X4 gX_0 rfl (by decide) m_f_X4_10 rfl dX4_write_15 ?_
      refine s_geti E (y := (σ 1 1)) 1 1 in_X3 gX_1 rfl (by decide) m_f_X4_43 rfl rfl dX4_write_18 ?_
      refine s_iload_n E 1 rfl dX4_write_21 rfl ?_
      refine s_iadd E dX4_write_22 ?_
      refine s_bipush E (v := 48) dX4_write_23 kb_48 ?_
      refine s_icmp_le E 31 dX4_write_25 (by decide) (fun c3 => ?_) (fun c3 => ?_)
      · have h := (if_pos c3).symm.trans h
        refine s_aload_n E 0 rfl dX4_write_31 rfl ?_
        refine s_get E (v := .ref (q 1)) 0 0 in_X4 gX_0 rfl (by decide) m_f_X4_10 rfl dX4_write_32 ?_
        refine s_iload_n E 1 rfl dX4_write_35 rfl ?_
        refine s_lload_n E 2 rfl dX4_write_36 rfl ?_
        obtain ⟨u4, e4, h⟩ := bnd_some h
        refine s_callVv E kf_X3_append m_l_X4_47 (c_X3_append q σ x1 x2 u4 e4) ⟨rfl, rfl, by decide, by decide⟩ (q0 := 1) rfl rfl rfl rfl rfl (Nat.le_of_ble_eq_true rfl) dX4_write_37 ?_
        refine s_aload_n E 0 rfl dX4_write_40 rfl ?_
        refine s_get E (v := .ref (q 1)) 0 0 in_X4 gX_0 rfl (by decide) m_f_X4_10 rfl dX4_write_41 ?_
        refine s_geti E (y := (u4 1 1)) 1 1 in_X3 gX_1 rfl (by decide) m_f_X4_43 rfl rfl dX4_write_44 ?_
        obtain rfl := Option.some.inj h
        exact s_iret E rfl rfl dX4_write_47
      · have h := (if_neg c3).symm.trans h
        refine s_bipush E (v := (-4)) dX4_write_28 kb_m4 ?_
        obtain rfl := Option.some.inj h
        exact s_iret E rfl rfl dX4_write_30
    · have h := (if_neg c2).symm.trans h
      refine s_bipush E (v := (-2)) dX4_write_11 kb_m2 ?_
      obtain rfl := Option.some.inj h
      exact s_iret E rfl rfl dX4_write_13
end
abbrev rm_X4_wipe : Room := { frames := 0, cells := 0, slots := 0, locals := 0 }
section
noncomputable def f_X4_wipe (σ : Nat → Nat → Int32) : (Int32 × (Nat → Nat → Int32)) :=
  ((σ 1 1), (up2 σ 1 1 0))
set_option maxRecDepth 100000 in
set_option maxHeartbeats 4000000 in
theorem c_X4_wipe (q : Nat → Nat) (σ : Nat → Nat → Int32) : CT l dC dI cI cZ A yX4_wipe cX4_wipe 2 (some .int) rm_X4_wipe [.ref (q 0)] (wX cI q σ) (wX cI q (f_X4_wipe σ).2) (some (.int (f_X4_wipe σ).1)) := by
  refine b_met (by decide) (Nat.le_of_ble_eq_true rfl) ?_
  intro p e s m below meth c E
  have E : EV p s m _ meth c dC dI cI cZ cX4_wipe 2 RX4 (some .int) := E
  generalize h : f_X4_wipe σ = z
  show GG p l e rm_X4_wipe s m _ below meth c _ A dC dI 2 (wX cI q σ) 0 [(0, .ref (q 0))] []
  unfold f_X4_wipe at h
  refine s_aload_n E 0 rfl dX4_wipe_0 rfl ?_
  refine s_get E (v := .ref (q 1)) 0 0 in_X4 gX_0 rfl (by decide) m_f_X4_10 rfl dX4_wipe_1 ?_
  refine s_geti E (y := (σ 1 1)) 1 1 in_X3 gX_1 rfl (by decide) m_f_X4_43 rfl rfl dX4_wipe_4 ?_
  refine s_istore_n E (lv' := [(0, .ref (q 0)), (1, .int (σ 1 1))]) dX4_wipe_7 rfl rfl rfl rfl (by decide) ?_
  refine s_aload_n E 0 rfl dX4_wipe_8 rfl ?_
  refine s_get E (v := .ref (q 1)) 0 0 in_X4 gX_0 rfl (by decide) m_f_X4_10 rfl dX4_wipe_9 ?_
  refine s_iconst E (v := 0) dX4_wipe_12 ki_0 ?_
  refine s_put E (w' := (wX cI q (up2 σ 1 1 0))) (v := .int 0) 1 1 tyX3 tyX3_ok nmX3 in_X3 gX_1 rfl (by decide) m_f_X4_43 rfl (tyX3_ok 1 (by decide)) rfl rfl (Nat.le_of_ble_eq_true rfl) fX_1_1 dX4_wipe_13 ?_
  refine s_iload_n E 1 rfl dX4_wipe_16 rfl ?_
  subst h
  exact s_iret E rfl rfl dX4_wipe_17
end
abbrev rm_X4_fault : Room := { frames := 6, cells := 0, slots := 0, locals := 128 }
section
noncomputable def f_X4_fault (σ : Nat → Nat → Int32) : Option Int32 :=
  ((f_X3_firstFault σ).bind fun u1 => (some u1))
set_option maxRecDepth 100000 in
set_option maxHeartbeats 4000000 in
theorem c_X4_fault (q : Nat → Nat) (σ : Nat → Nat → Int32) (z : Int32) (h : f_X4_fault σ = some z) : CT l dC dI cI cZ A yX4_fault cX4_fault 1 (some .int) rm_X4_fault [.ref (q 0)] (wX cI q σ) (wX cI q σ) (some (.int z)) := by
  refine b_met (by decide) (Nat.le_of_ble_eq_true rfl) ?_
  intro p e s m below meth c E
  have E : EV p s m _ meth c dC dI cI cZ cX4_fault 1 RX4 (some .int) := E
  show GG p l e rm_X4_fault s m _ below meth c _ A dC dI 1 (wX cI q σ) 0 [(0, .ref (q 0))] []
  unfold f_X4_fault at h
  refine s_aload_n E 0 rfl dX4_fault_0 rfl ?_
  refine s_get E (v := .ref (q 1)) 0 0 in_X4 gX_0 rfl (by decide) m_f_X4_10 rfl dX4_fault_1 ?_
  obtain ⟨u1, e1, h⟩ := bnd_some h
  refine s_callVi E kf_X3_firstFault m_l_X4_51 (c_X3_firstFault q σ u1 e1) ⟨rfl, rfl, by decide, by decide⟩ (q0 := 1) rfl rfl rfl rfl rfl (Nat.le_of_ble_eq_true rfl) dX4_fault_4 ?_
  obtain rfl := Option.some.inj h
  exact s_iret E rfl rfl dX4_fault_7
end
abbrev rm_X4_ferry : Room := { frames := 6, cells := 0, slots := 0, locals := 128 }
section
noncomputable def f_X4_ferry (σ : Nat → Nat → Int32) : Option (Int32 × (Nat → Nat → Int32)) :=
  ((f_X3_firstFault σ).bind fun u1 => (if u1 = (-9) then ((f_X0_readFrom σ).bind fun u3 => ((f_X1_startAnew u3).bind fun u4 => (some (((f_X2_forget (up2 (up2 u4 11 5 0) 15 5 0)) 3 5), (f_X2_forget (up2 (up2 u4 11 5 0) 15 5 0)))))) else (some ((-3), σ))))
set_option maxRecDepth 100000 in
set_option maxHeartbeats 4000000 in
theorem c_X4_ferry (q : Nat → Nat) (σ : Nat → Nat → Int32) (z : (Int32 × (Nat → Nat → Int32))) (h : f_X4_ferry σ = some z) : CT l dC dI cI cZ A yX4_ferry cX4_ferry 1 (some .int) rm_X4_ferry [.ref (q 0)] (wX cI q σ) (wX cI q z.2) (some (.int z.1)) := by
  refine b_met (by decide) (Nat.le_of_ble_eq_true rfl) ?_
  intro p e s m below meth c E
  have E : EV p s m _ meth c dC dI cI cZ cX4_ferry 1 RX4 (some .int) := E
  show GG p l e rm_X4_ferry s m _ below meth c _ A dC dI 1 (wX cI q σ) 0 [(0, .ref (q 0))] []
  unfold f_X4_ferry at h
  refine s_aload_n E 0 rfl dX4_ferry_0 rfl ?_
  refine s_get E (v := .ref (q 1)) 0 0 in_X4 gX_0 rfl (by decide) m_f_X4_10 rfl dX4_ferry_1 ?_
  obtain ⟨u1, e1, h⟩ := bnd_some h
  refine s_callVi E kf_X3_firstFault m_l_X4_51 (c_X3_firstFault q σ u1 e1) ⟨rfl, rfl, by decide, by decide⟩ (q0 := 1) rfl rfl rfl rfl rfl (Nat.le_of_ble_eq_true rfl) dX4_ferry_4 ?_
  refine s_bipush E (v := (-9)) dX4_ferry_7 kb_m9 ?_
  refine s_icmp_eq E 15 dX4_ferry_9 (by decide) (fun c2 => ?_) (fun c2 => ?_)
  · have h := (if_pos c2).symm.trans h
    refine s_aload_n E 0 rfl dX4_ferry_15 rfl ?_
    refine s_get E (v := .ref (q 3)) 0 1 in_X4 gX_0 rfl (by decide) m_f_X4_19 rfl dX4_ferry_16 ?_
    refine s_aload_n E 0 rfl dX4_ferry_19 rfl ?_
    refine s_get E (v := .ref (q 1)) 0 0 in_X4 gX_0 rfl (by decide) m_f_X4_10 rfl dX4_ferry_20 ?_
    obtain ⟨u3, e3, h⟩ := bnd_some h
    refine s_callVv E kf_X0_readFrom m_l_X4_55 (c_X0_readFrom q σ u3 e3) ⟨rfl, rfl, by decide, by decide⟩ (q0 := 3) rfl rfl rfl rfl rfl (Nat.le_of_ble_eq_true rfl) dX4_ferry_23 ?_
    refine s_aload_n E 0 rfl dX4_ferry_26 rfl ?_
    refine s_get E (v := .ref (q 7)) 0 2 in_X4 gX_0 rfl (by decide) m_f_X4_26 rfl dX4_ferry_27 ?_
    refine s_aload_n E 0 rfl dX4_ferry_30 rfl ?_
    refine s_get E (v := .ref (q 3)) 0 1 in_X4 gX_0 rfl (by decide) m_f_X4_19 rfl dX4_ferry_31 ?_
    obtain ⟨u4, e4, h⟩ := bnd_some h
    refine s_callVv E kf_X1_startAnew m_l_X4_59 (c_X1_startAnew q u3 u4 e4) ⟨rfl, rfl, by decide, by decide⟩ (q0 := 7) rfl rfl rfl rfl rfl (Nat.le_of_ble_eq_true rfl) dX4_ferry_34 ?_
    refine s_aload_n E 0 rfl dX4_ferry_37 rfl ?_
    refine s_get E (v := .ref (q 11)) 0 3 in_X4 gX_0 rfl (by decide) m_f_X4_30 rfl dX4_ferry_38 ?_
    refine s_iconst E (v := 0) dX4_ferry_41 ki_0 ?_
    refine s_put E (w' := (wX cI q (up2 u4 11 5 0))) (v := .int 0) 11 5 tyX1 tyX1_ok nmX1 in_X1 gX_11 rfl (by decide) m_f_X4_63 rfl (tyX1_ok 5 (by decide)) rfl rfl (Nat.le_of_ble_eq_true rfl) fX_11_5 dX4_ferry_42 ?_
    refine s_aload_n E 0 rfl dX4_ferry_45 rfl ?_
    refine s_get E (v := .ref (q 15)) 0 4 in_X4 gX_0 rfl (by decide) m_f_X4_33 rfl dX4_ferry_46 ?_
    refine s_iconst E (v := 0) dX4_ferry_49 ki_0 ?_
    refine s_put E (w' := (wX cI q (up2 (up2 u4 11 5 0) 15 5 0))) (v := .int 0) 15 5 tyX1 tyX1_ok nmX1 in_X1 gX_15 rfl (by decide) m_f_X4_63 rfl (tyX1_ok 5 (by decide)) rfl rfl (Nat.le_of_ble_eq_true rfl) fX_15_5 dX4_ferry_50 ?_
    refine s_aload_n E 0 rfl dX4_ferry_53 rfl ?_
    refine s_get E (v := .ref (q 19)) 0 5 in_X4 gX_0 rfl (by decide) m_f_X4_39 rfl dX4_ferry_54 ?_
    refine s_callVv E kf_X2_forget m_l_X4_67 (c_X2_forget q (up2 (up2 u4 11 5 0) 15 5 0)) ⟨rfl, rfl, by decide, by decide⟩ (q0 := 19) rfl rfl rfl rfl rfl (Nat.le_of_ble_eq_true rfl) dX4_ferry_57 ?_
    refine s_aload_n E 0 rfl dX4_ferry_60 rfl ?_
    refine s_get E (v := .ref (q 3)) 0 1 in_X4 gX_0 rfl (by decide) m_f_X4_19 rfl dX4_ferry_61 ?_
    refine s_geti E (y := ((f_X2_forget (up2 (up2 u4 11 5 0) 15 5 0)) 3 5)) 3 5 in_X0 gX_3 rfl (by decide) m_f_X4_70 rfl rfl dX4_ferry_64 ?_
    obtain rfl := Option.some.inj h
    exact s_iret E rfl rfl dX4_ferry_67
  · have h := (if_neg c2).symm.trans h
    refine s_bipush E (v := (-3)) dX4_ferry_12 kb_m3 ?_
    obtain rfl := Option.some.inj h
    exact s_iret E rfl rfl dX4_ferry_14
end
abbrev rm_X4_boat : Room := { frames := 0, cells := 0, slots := 0, locals := 0 }
section
noncomputable def f_X4_boat (σ : Nat → Nat → Int32) (x1 : Int32) : Int32 :=
  (if x1 = 0 then (σ 3 0) else (if x1 = 1 then (σ 3 1) else (if x1 = 2 then (σ 3 2) else (if x1 = 3 then (σ 3 3) else (if x1 = 4 then (σ 3 4) else (if x1 = 5 then (σ 7 4) else (-2)))))))
set_option maxRecDepth 100000 in
set_option maxHeartbeats 4000000 in
theorem c_X4_boat (q : Nat → Nat) (σ : Nat → Nat → Int32) (x1 : Int32) : CT l dC dI cI cZ A yX4_boat cX4_boat 2 (some .int) rm_X4_boat [.ref (q 0), .int x1] (wX cI q σ) (wX cI q σ) (some (.int (f_X4_boat σ x1))) := by
  refine b_met (by decide) (Nat.le_of_ble_eq_true rfl) ?_
  intro p e s m below meth c E
  have E : EV p s m _ meth c dC dI cI cZ cX4_boat 2 RX4 (some .int) := E
  generalize h : f_X4_boat σ x1 = z
  show GG p l e rm_X4_boat s m _ below meth c _ A dC dI 2 (wX cI q σ) 0 [(0, .ref (q 0)), (1, .int x1)] []
  unfold f_X4_boat at h
  refine s_iload_n E 1 rfl dX4_boat_0 rfl ?_
  by_cases c1 : x1 = 0
  · have h := (if_pos c1).symm.trans h
    refine s_swIn E 40 dX4_boat_1 (by rw [c1]; decide) (by rw [c1]; decide) (off := 39) (by rw [c1]; decide) (by decide) ?_
    refine s_aload_n E 0 rfl dX4_boat_40 rfl ?_
    refine s_get E (v := .ref (q 3)) 0 1 in_X4 gX_0 rfl (by decide) m_f_X4_19 rfl dX4_boat_41 ?_
    refine s_geti E (y := (σ 3 0)) 3 0 in_X0 gX_3 rfl (by decide) m_f_X4_73 rfl rfl dX4_boat_44 ?_
    subst h
    exact s_iret E rfl rfl dX4_boat_47
  · have h := (if_neg c1).symm.trans h
    by_cases c2 : x1 = 1
    · have h := (if_pos c2).symm.trans h
      refine s_swIn E 48 dX4_boat_1 (by rw [c2]; decide) (by rw [c2]; decide) (off := 47) (by rw [c2]; decide) (by decide) ?_
      refine s_aload_n E 0 rfl dX4_boat_48 rfl ?_
      refine s_get E (v := .ref (q 3)) 0 1 in_X4 gX_0 rfl (by decide) m_f_X4_19 rfl dX4_boat_49 ?_
      refine s_geti E (y := (σ 3 1)) 3 1 in_X0 gX_3 rfl (by decide) m_f_X4_76 rfl rfl dX4_boat_52 ?_
      subst h
      exact s_iret E rfl rfl dX4_boat_55
    · have h := (if_neg c2).symm.trans h
      by_cases c3 : x1 = 2
      · have h := (if_pos c3).symm.trans h
        refine s_swIn E 56 dX4_boat_1 (by rw [c3]; decide) (by rw [c3]; decide) (off := 55) (by rw [c3]; decide) (by decide) ?_
        refine s_aload_n E 0 rfl dX4_boat_56 rfl ?_
        refine s_get E (v := .ref (q 3)) 0 1 in_X4 gX_0 rfl (by decide) m_f_X4_19 rfl dX4_boat_57 ?_
        refine s_geti E (y := (σ 3 2)) 3 2 in_X0 gX_3 rfl (by decide) m_f_X4_79 rfl rfl dX4_boat_60 ?_
        subst h
        exact s_iret E rfl rfl dX4_boat_63
      · have h := (if_neg c3).symm.trans h
        by_cases c4 : x1 = 3
        · have h := (if_pos c4).symm.trans h
          refine s_swIn E 64 dX4_boat_1 (by rw [c4]; decide) (by rw [c4]; decide) (off := 63) (by rw [c4]; decide) (by decide) ?_
          refine s_aload_n E 0 rfl dX4_boat_64 rfl ?_
          refine s_get E (v := .ref (q 3)) 0 1 in_X4 gX_0 rfl (by decide) m_f_X4_19 rfl dX4_boat_65 ?_
          refine s_geti E (y := (σ 3 3)) 3 3 in_X0 gX_3 rfl (by decide) m_f_X4_82 rfl rfl dX4_boat_68 ?_
          subst h
          exact s_iret E rfl rfl dX4_boat_71
        · have h := (if_neg c4).symm.trans h
          by_cases c5 : x1 = 4
          · have h := (if_pos c5).symm.trans h
            refine s_swIn E 72 dX4_boat_1 (by rw [c5]; decide) (by rw [c5]; decide) (off := 71) (by rw [c5]; decide) (by decide) ?_
            refine s_aload_n E 0 rfl dX4_boat_72 rfl ?_
            refine s_get E (v := .ref (q 3)) 0 1 in_X4 gX_0 rfl (by decide) m_f_X4_19 rfl dX4_boat_73 ?_
            refine s_geti E (y := (σ 3 4)) 3 4 in_X0 gX_3 rfl (by decide) m_f_X4_85 rfl rfl dX4_boat_76 ?_
            subst h
            exact s_iret E rfl rfl dX4_boat_79
          · have h := (if_neg c5).symm.trans h
            by_cases c6 : x1 = 5
            · have h := (if_pos c6).symm.trans h
              refine s_swIn E 80 dX4_boat_1 (by rw [c6]; decide) (by rw [c6]; decide) (off := 79) (by rw [c6]; decide) (by decide) ?_
              refine s_aload_n E 0 rfl dX4_boat_80 rfl ?_
              refine s_get E (v := .ref (q 7)) 0 2 in_X4 gX_0 rfl (by decide) m_f_X4_26 rfl dX4_boat_81 ?_
              refine s_geti E (y := (σ 7 4)) 7 4 in_X1 gX_7 rfl (by decide) m_f_X4_88 rfl rfl dX4_boat_84 ?_
              subst h
              exact s_iret E rfl rfl dX4_boat_87
            · have h := (if_neg c6).symm.trans h
              have tc1 := lv_neT (a := 0) c1 (by decide)
              have tc2 := lv_neT (a := 1) c2 (by decide)
              have tc3 := lv_neT (a := 2) c3 (by decide)
              have tc4 := lv_neT (a := 3) c4 (by decide)
              have tc5 := lv_neT (a := 4) c5 (by decide)
              have tc6 := lv_neT (a := 5) c6 (by decide)
              refine s_swOut E 88 dX4_boat_1 (by omega) (by decide) ?_
              refine s_bipush E (v := (-2)) dX4_boat_88 kb_m2 ?_
              subst h
              exact s_iret E rfl rfl dX4_boat_90
end
abbrev rm_X4_person : Room := { frames := 4, cells := 0, slots := 0, locals := 87 }
section
noncomputable def f_X4_person (σ : Nat → Nat → Int32) (x1 : Int32) (x2 : Int32) : Option Int32 :=
  (if (f_X0_hasPerson σ x1) = 0 then (some (-1)) else (if x2 = 0 then (chk x1 8 (some (σ 4 (x1.toNatClampNeg)))) else (if x2 = 1 then (chk x1 8 (some (σ 5 (x1.toNatClampNeg)))) else (if x2 = 2 then (chk x1 8 (some (σ 6 (x1.toNatClampNeg)))) else (if x2 = 3 then (chk x1 8 (some ((σ 9 (x1.toNatClampNeg)) + 10))) else (if x2 = 4 then (chk x1 8 (some (σ 10 (x1.toNatClampNeg)))) else (if x2 = 5 then ((f_X1_placeOf σ x1).bind fun u13 => (some u13)) else (some (-2)))))))))
set_option maxRecDepth 100000 in
set_option maxHeartbeats 4000000 in
theorem c_X4_person (q : Nat → Nat) (σ : Nat → Nat → Int32) (x1 : Int32) (x2 : Int32) (z : Int32) (h : f_X4_person σ x1 x2 = some z) : CT l dC dI cI cZ A yX4_person cX4_person 3 (some .int) rm_X4_person [.ref (q 0), .int x1, .int x2] (wX cI q σ) (wX cI q σ) (some (.int z)) := by
  refine b_met (by decide) (Nat.le_of_ble_eq_true rfl) ?_
  intro p e s m below meth c E
  have E : EV p s m _ meth c dC dI cI cZ cX4_person 3 RX4 (some .int) := E
  show GG p l e rm_X4_person s m _ below meth c _ A dC dI 3 (wX cI q σ) 0 [(0, .ref (q 0)), (1, .int x1), (2, .int x2)] []
  unfold f_X4_person at h
  refine s_aload_n E 0 rfl dX4_person_0 rfl ?_
  refine s_get E (v := .ref (q 3)) 0 1 in_X4 gX_0 rfl (by decide) m_f_X4_19 rfl dX4_person_1 ?_
  refine s_iload_n E 1 rfl dX4_person_4 rfl ?_
  refine s_callVi E kf_X0_hasPerson m_l_X4_91 (c_X0_hasPerson q σ x1) ⟨rfl, rfl, by decide, by decide⟩ (q0 := 3) rfl rfl rfl rfl rfl (Nat.le_of_ble_eq_true rfl) dX4_person_5 ?_
  refine s_if_ne E 13 dX4_person_8 (by decide) (fun c1 => ?_) (fun c1 => ?_)
  · have h := (if_pos c1).symm.trans h
    refine s_iconst E (v := (-1)) dX4_person_11 ki_m1 ?_
    obtain rfl := Option.some.inj h
    exact s_iret E rfl rfl dX4_person_12
  · have h := (if_neg c1).symm.trans h
    refine s_iload_n E 2 rfl dX4_person_13 rfl ?_
    by_cases c2 : x2 = 0
    · have h := (if_pos c2).symm.trans h
      refine s_swIn E 52 dX4_person_14 (by rw [c2]; decide) (by rw [c2]; decide) (off := 38) (by rw [c2]; decide) (by decide) ?_
      refine s_aload_n E 0 rfl dX4_person_52 rfl ?_
      refine s_get E (v := .ref (q 3)) 0 1 in_X4 gX_0 rfl (by decide) m_f_X4_19 rfl dX4_person_53 ?_
      refine s_get E (v := .ref (q 4)) 3 6 in_X0 gX_3 rfl (by decide) m_f_X4_95 rfl dX4_person_56 ?_
      refine s_iload_n E 1 rfl dX4_person_59 rfl ?_
      obtain ⟨b3, h⟩ := chk_some h
      refine s_iald E (v := (σ 4 (x1.toNatClampNeg))) 4 gX_4 b3 rfl dX4_person_60 ?_
      obtain rfl := Option.some.inj h
      exact s_iret E rfl rfl dX4_person_61
    · have h := (if_neg c2).symm.trans h
      by_cases c4 : x2 = 1
      · have h := (if_pos c4).symm.trans h
        refine s_swIn E 62 dX4_person_14 (by rw [c4]; decide) (by rw [c4]; decide) (off := 48) (by rw [c4]; decide) (by decide) ?_
        refine s_aload_n E 0 rfl dX4_person_62 rfl ?_
        refine s_get E (v := .ref (q 3)) 0 1 in_X4 gX_0 rfl (by decide) m_f_X4_19 rfl dX4_person_63 ?_
        refine s_get E (v := .ref (q 5)) 3 7 in_X0 gX_3 rfl (by decide) m_f_X4_99 rfl dX4_person_66 ?_
        refine s_iload_n E 1 rfl dX4_person_69 rfl ?_
        obtain ⟨b5, h⟩ := chk_some h
        refine s_iald E (v := (σ 5 (x1.toNatClampNeg))) 5 gX_5 b5 rfl dX4_person_70 ?_
        obtain rfl := Option.some.inj h
        exact s_iret E rfl rfl dX4_person_71
      · have h := (if_neg c4).symm.trans h
        by_cases c6 : x2 = 2
        · have h := (if_pos c6).symm.trans h
          refine s_swIn E 72 dX4_person_14 (by rw [c6]; decide) (by rw [c6]; decide) (off := 58) (by rw [c6]; decide) (by decide) ?_
          refine s_aload_n E 0 rfl dX4_person_72 rfl ?_
          refine s_get E (v := .ref (q 3)) 0 1 in_X4 gX_0 rfl (by decide) m_f_X4_19 rfl dX4_person_73 ?_
          refine s_get E (v := .ref (q 6)) 3 8 in_X0 gX_3 rfl (by decide) m_f_X4_102 rfl dX4_person_76 ?_
          refine s_iload_n E 1 rfl dX4_person_79 rfl ?_
          obtain ⟨b7, h⟩ := chk_some h
          refine s_iald E (v := (σ 6 (x1.toNatClampNeg))) 6 gX_6 b7 rfl dX4_person_80 ?_
          obtain rfl := Option.some.inj h
          exact s_iret E rfl rfl dX4_person_81
        · have h := (if_neg c6).symm.trans h
          by_cases c8 : x2 = 3
          · have h := (if_pos c8).symm.trans h
            refine s_swIn E 82 dX4_person_14 (by rw [c8]; decide) (by rw [c8]; decide) (off := 68) (by rw [c8]; decide) (by decide) ?_
            refine s_aload_n E 0 rfl dX4_person_82 rfl ?_
            refine s_get E (v := .ref (q 7)) 0 2 in_X4 gX_0 rfl (by decide) m_f_X4_26 rfl dX4_person_83 ?_
            refine s_get E (v := .ref (q 9)) 7 1 in_X1 gX_7 rfl (by decide) m_f_X4_105 rfl dX4_person_86 ?_
            refine s_iload_n E 1 rfl dX4_person_89 rfl ?_
            obtain ⟨b9, h⟩ := chk_some h
            refine s_iald E (v := (σ 9 (x1.toNatClampNeg))) 9 gX_9 b9 rfl dX4_person_90 ?_
            refine s_bipush E (v := 10) dX4_person_91 kb_10 ?_
            refine s_iadd E dX4_person_93 ?_
            obtain rfl := Option.some.inj h
            exact s_iret E rfl rfl dX4_person_94
          · have h := (if_neg c8).symm.trans h
            by_cases c10 : x2 = 4
            · have h := (if_pos c10).symm.trans h
              refine s_swIn E 95 dX4_person_14 (by rw [c10]; decide) (by rw [c10]; decide) (off := 81) (by rw [c10]; decide) (by decide) ?_
              refine s_aload_n E 0 rfl dX4_person_95 rfl ?_
              refine s_get E (v := .ref (q 7)) 0 2 in_X4 gX_0 rfl (by decide) m_f_X4_26 rfl dX4_person_96 ?_
              refine s_get E (v := .ref (q 10)) 7 2 in_X1 gX_7 rfl (by decide) m_f_X4_108 rfl dX4_person_99 ?_
              refine s_iload_n E 1 rfl dX4_person_102 rfl ?_
              obtain ⟨b11, h⟩ := chk_some h
              refine s_iald E (v := (σ 10 (x1.toNatClampNeg))) 10 gX_10 b11 rfl dX4_person_103 ?_
              obtain rfl := Option.some.inj h
              exact s_iret E rfl rfl dX4_person_104
            · have h := (if_neg c10).symm.trans h
              by_cases c12 : x2 = 5
              · have h := (if_pos c12).symm.trans h
                refine s_swIn E 105 dX4_person_14 (by rw [c12]; decide) (by rw [c12]; decide) (off := 91) (by rw [c12]; decide) (by decide) ?_
                refine s_aload_n E 0 rfl dX4_person_105 rfl ?_
                refine s_get E (v := .ref (q 7)) 0 2 in_X4 gX_0 rfl (by decide) m_f_X4_26 rfl dX4_person_106 ?_
                refine s_iload_n E 1 rfl dX4_person_109 rfl ?_
                obtain ⟨u13, e13, h⟩ := bnd_some h
                refine s_callVi E kf_X1_placeOf m_l_X4_111 (c_X1_placeOf q σ x1 u13 e13) ⟨rfl, rfl, by decide, by decide⟩ (q0 := 7) rfl rfl rfl rfl rfl (Nat.le_of_ble_eq_true rfl) dX4_person_110 ?_
                obtain rfl := Option.some.inj h
                exact s_iret E rfl rfl dX4_person_113
              · have h := (if_neg c12).symm.trans h
                have tc2 := lv_neT (a := 0) c2 (by decide)
                have tc4 := lv_neT (a := 1) c4 (by decide)
                have tc6 := lv_neT (a := 2) c6 (by decide)
                have tc8 := lv_neT (a := 3) c8 (by decide)
                have tc10 := lv_neT (a := 4) c10 (by decide)
                have tc12 := lv_neT (a := 5) c12 (by decide)
                refine s_swOut E 114 dX4_person_14 (by omega) (by decide) ?_
                refine s_bipush E (v := (-2)) dX4_person_114 kb_m2 ?_
                obtain rfl := Option.some.inj h
                exact s_iret E rfl rfl dX4_person_116
end
abbrev rm_X4_gain : Room := { frames := 1, cells := 0, slots := 0, locals := 21 }
section
noncomputable def f_X4_gain (σ : Nat → Nat → Int32) (x1 : Int32) (x2 : Int32) : Option (Int32 × (Nat → Nat → Int32)) :=
  (if (f_X0_hasPerson σ x1) = 0 then (some ((-1), σ)) else (if x2 < (-3) then (some ((-2), σ)) else (if x2 ≤ 3 then (chk x1 8 (chk x1 8 (some (((σ 9 (x1.toNatClampNeg)) + 10), (f_X2_forget (up2 σ 9 (x1.toNatClampNeg) x2)))))) else (some ((-2), σ)))))
set_option maxRecDepth 100000 in
set_option maxHeartbeats 4000000 in
theorem c_X4_gain (q : Nat → Nat) (σ : Nat → Nat → Int32) (x1 : Int32) (x2 : Int32) (z : (Int32 × (Nat → Nat → Int32))) (h : f_X4_gain σ x1 x2 = some z) : CT l dC dI cI cZ A yX4_gain cX4_gain 4 (some .int) rm_X4_gain [.ref (q 0), .int x1, .int x2] (wX cI q σ) (wX cI q z.2) (some (.int z.1)) := by
  refine b_met (by decide) (Nat.le_of_ble_eq_true rfl) ?_
  intro p e s m below meth c E
  have E : EV p s m _ meth c dC dI cI cZ cX4_gain 4 RX4 (some .int) := E
  show GG p l e rm_X4_gain s m _ below meth c _ A dC dI 4 (wX cI q σ) 0 [(0, .ref (q 0)), (1, .int x1), (2, .int x2)] []
  unfold f_X4_gain at h
  refine s_aload_n E 0 rfl dX4_gain_0 rfl ?_
  refine s_get E (v := .ref (q 3)) 0 1 in_X4 gX_0 rfl (by decide) m_f_X4_19 rfl dX4_gain_1 ?_
  refine s_iload_n E 1 rfl dX4_gain_4 rfl ?_
  refine s_callVi E kf_X0_hasPerson m_l_X4_91 (c_X0_hasPerson q σ x1) ⟨rfl, rfl, by decide, by decide⟩ (q0 := 3) rfl rfl rfl rfl rfl (Nat.le_of_ble_eq_true rfl) dX4_gain_5 ?_
  refine s_if_ne E 13 dX4_gain_8 (by decide) (fun c1 => ?_) (fun c1 => ?_)
  · have h := (if_pos c1).symm.trans h
    refine s_iconst E (v := (-1)) dX4_gain_11 ki_m1 ?_
    obtain rfl := Option.some.inj h
    exact s_iret E rfl rfl dX4_gain_12
  · have h := (if_neg c1).symm.trans h
    refine s_iload_n E 2 rfl dX4_gain_13 rfl ?_
    refine s_bipush E (v := (-3)) dX4_gain_14 kb_m3 ?_
    refine s_icmp_lt E 24 dX4_gain_16 (by decide) (fun c2 => ?_) (fun c2 => ?_)
    · have h := (if_pos c2).symm.trans h
      refine s_bipush E (v := (-2)) dX4_gain_24 kb_m2 ?_
      obtain rfl := Option.some.inj h
      exact s_iret E rfl rfl dX4_gain_26
    · have h := (if_neg c2).symm.trans h
      refine s_iload_n E 2 rfl dX4_gain_19 rfl ?_
      refine s_iconst E (v := 3) dX4_gain_20 ki_3 ?_
      refine s_icmp_le E 27 dX4_gain_21 (by decide) (fun c3 => ?_) (fun c3 => ?_)
      · have h := (if_pos c3).symm.trans h
        refine s_aload_n E 0 rfl dX4_gain_27 rfl ?_
        refine s_get E (v := .ref (q 7)) 0 2 in_X4 gX_0 rfl (by decide) m_f_X4_26 rfl dX4_gain_28 ?_
        refine s_get E (v := .ref (q 9)) 7 1 in_X1 gX_7 rfl (by decide) m_f_X4_105 rfl dX4_gain_31 ?_
        refine s_iload_n E 1 rfl dX4_gain_34 rfl ?_
        obtain ⟨b4, h⟩ := chk_some h
        refine s_iald E (v := (σ 9 (x1.toNatClampNeg))) 9 gX_9 b4 rfl dX4_gain_35 ?_
        refine s_istore_n E (lv' := [(0, .ref (q 0)), (1, .int x1), (2, .int x2), (3, .int (σ 9 (x1.toNatClampNeg)))]) dX4_gain_36 rfl rfl rfl rfl (by decide) ?_
        refine s_aload_n E 0 rfl dX4_gain_37 rfl ?_
        refine s_get E (v := .ref (q 7)) 0 2 in_X4 gX_0 rfl (by decide) m_f_X4_26 rfl dX4_gain_38 ?_
        refine s_get E (v := .ref (q 9)) 7 1 in_X1 gX_7 rfl (by decide) m_f_X4_105 rfl dX4_gain_41 ?_
        refine s_iload_n E 1 rfl dX4_gain_44 rfl ?_
        refine s_iload_n E 2 rfl dX4_gain_45 rfl ?_
        obtain ⟨b5, h⟩ := chk_some h
        refine s_iast E (w' := (wX cI q (up2 σ 9 (x1.toNatClampNeg) x2))) 9 gX_9 b5 aX_9 dX4_gain_46 ?_
        refine s_aload_n E 0 rfl dX4_gain_47 rfl ?_
        refine s_get E (v := .ref (q 19)) 0 5 in_X4 gX_0 rfl (by decide) m_f_X4_39 rfl dX4_gain_48 ?_
        refine s_callVv E kf_X2_forget m_l_X4_67 (c_X2_forget q (up2 σ 9 (x1.toNatClampNeg) x2)) ⟨rfl, rfl, by decide, by decide⟩ (q0 := 19) rfl rfl rfl rfl rfl (Nat.le_of_ble_eq_true rfl) dX4_gain_51 ?_
        refine s_iload_n E 3 rfl dX4_gain_54 rfl ?_
        refine s_bipush E (v := 10) dX4_gain_55 kb_10 ?_
        refine s_iadd E dX4_gain_57 ?_
        obtain rfl := Option.some.inj h
        exact s_iret E rfl rfl dX4_gain_58
      · have h := (if_neg c3).symm.trans h
        refine s_bipush E (v := (-2)) dX4_gain_24 kb_m2 ?_
        obtain rfl := Option.some.inj h
        exact s_iret E rfl rfl dX4_gain_26
end
abbrev rm_X4_minutes : Room := { frames := 1, cells := 0, slots := 0, locals := 20 }
section
noncomputable def f_X4_minutes (σ : Nat → Nat → Int32) (x1 : Int32) : (Int32 × (Nat → Nat → Int32)) :=
  (if (f_X4_isMinute x1) = 0 then ((-2), σ) else ((σ 7 4), (f_X2_forget (up2 σ 7 4 x1))))
set_option maxRecDepth 100000 in
set_option maxHeartbeats 4000000 in
theorem c_X4_minutes (q : Nat → Nat) (σ : Nat → Nat → Int32) (x1 : Int32) : CT l dC dI cI cZ A yX4_minutes cX4_minutes 3 (some .int) rm_X4_minutes [.ref (q 0), .int x1] (wX cI q σ) (wX cI q (f_X4_minutes σ x1).2) (some (.int (f_X4_minutes σ x1).1)) := by
  refine b_met (by decide) (Nat.le_of_ble_eq_true rfl) ?_
  intro p e s m below meth c E
  have E : EV p s m _ meth c dC dI cI cZ cX4_minutes 3 RX4 (some .int) := E
  generalize h : f_X4_minutes σ x1 = z
  show GG p l e rm_X4_minutes s m _ below meth c _ A dC dI 3 (wX cI q σ) 0 [(0, .ref (q 0)), (1, .int x1)] []
  unfold f_X4_minutes at h
  refine s_iload_n E 1 rfl dX4_minutes_0 rfl ?_
  refine s_callSi E kf_X4_isMinute m_l_X4_115 (c_X4_isMinute (wX cI q σ) x1) ⟨rfl, rfl, by decide, by decide⟩ rfl rfl (Nat.le_of_ble_eq_true rfl) dX4_minutes_1 ?_
  refine s_if_ne E 10 dX4_minutes_4 (by decide) (fun c1 => ?_) (fun c1 => ?_)
  · have h := (if_pos c1).symm.trans h
    refine s_bipush E (v := (-2)) dX4_minutes_7 kb_m2 ?_
    subst h
    exact s_iret E rfl rfl dX4_minutes_9
  · have h := (if_neg c1).symm.trans h
    refine s_aload_n E 0 rfl dX4_minutes_10 rfl ?_
    refine s_get E (v := .ref (q 7)) 0 2 in_X4 gX_0 rfl (by decide) m_f_X4_26 rfl dX4_minutes_11 ?_
    refine s_geti E (y := (σ 7 4)) 7 4 in_X1 gX_7 rfl (by decide) m_f_X4_88 rfl rfl dX4_minutes_14 ?_
    refine s_istore_n E (lv' := [(0, .ref (q 0)), (1, .int x1), (2, .int (σ 7 4))]) dX4_minutes_17 rfl rfl rfl rfl (by decide) ?_
    refine s_aload_n E 0 rfl dX4_minutes_18 rfl ?_
    refine s_get E (v := .ref (q 7)) 0 2 in_X4 gX_0 rfl (by decide) m_f_X4_26 rfl dX4_minutes_19 ?_
    refine s_iload_n E 1 rfl dX4_minutes_22 rfl ?_
    refine s_put E (w' := (wX cI q (up2 σ 7 4 x1))) (v := .int x1) 7 4 tyX1 tyX1_ok nmX1 in_X1 gX_7 rfl (by decide) m_f_X4_88 rfl (tyX1_ok 4 (by decide)) rfl rfl (Nat.le_of_ble_eq_true rfl) fX_7_4 dX4_minutes_23 ?_
    refine s_aload_n E 0 rfl dX4_minutes_26 rfl ?_
    refine s_get E (v := .ref (q 19)) 0 5 in_X4 gX_0 rfl (by decide) m_f_X4_39 rfl dX4_minutes_27 ?_
    refine s_callVv E kf_X2_forget m_l_X4_67 (c_X2_forget q (up2 σ 7 4 x1)) ⟨rfl, rfl, by decide, by decide⟩ (q0 := 19) rfl rfl rfl rfl rfl (Nat.le_of_ble_eq_true rfl) dX4_minutes_30 ?_
    refine s_iload_n E 2 rfl dX4_minutes_33 rfl ?_
    subst h
    exact s_iret E rfl rfl dX4_minutes_34
end
abbrev rm_X4_lay : Room := { frames := 4, cells := 0, slots := 0, locals := 87 }
section
noncomputable def f_X4_lay (σ : Nat → Nat → Int32) (x1 : Int32) (x2 : Int32) : Option (Int32 × (Nat → Nat → Int32)) :=
  (if (f_X0_hasPerson σ x1) = 0 then (some ((-1), σ)) else (if (f_X0_hasEnd σ x2) = 0 then (some ((-1), σ)) else ((f_X1_placeOf σ x1).bind fun u3 => (if u3 = 10 then ((f_X0_willSit σ x1 x2).bind fun u5 => (if u5 = 0 then (some ((-3), σ)) else ((f_X1_laid σ).bind fun u7 => (if (f_J6_bitCount_0f7a4 (f_X4_sitters u7 x2)) < (σ 3 3) then ((f_X1_laid σ).bind fun u9 => ((f_X1_setLaid σ (f_X4_seat u9 x1 x2)).bind fun u10 => (some (((f_J6_bitCount_0f7a4 (f_X4_sitters u7 x2)) + 1), u10)))) else (some ((-4), σ)))))) else (some ((-3), σ))))))
set_option maxRecDepth 100000 in
set_option maxHeartbeats 4000000 in
theorem c_X4_lay (q : Nat → Nat) (σ : Nat → Nat → Int32) (x1 : Int32) (x2 : Int32) (z : (Int32 × (Nat → Nat → Int32))) (h : f_X4_lay σ x1 x2 = some z) : CT l dC dI cI cZ A yX4_lay cX4_lay 4 (some .int) rm_X4_lay [.ref (q 0), .int x1, .int x2] (wX cI q σ) (wX cI q z.2) (some (.int z.1)) := by
  refine b_met (by decide) (Nat.le_of_ble_eq_true rfl) ?_
  intro p e s m below meth c E
  have E : EV p s m _ meth c dC dI cI cZ cX4_lay 4 RX4 (some .int) := E
  show GG p l e rm_X4_lay s m _ below meth c _ A dC dI 4 (wX cI q σ) 0 [(0, .ref (q 0)), (1, .int x1), (2, .int x2)] []
  unfold f_X4_lay at h
  refine s_aload_n E 0 rfl dX4_lay_0 rfl ?_
  refine s_get E (v := .ref (q 3)) 0 1 in_X4 gX_0 rfl (by decide) m_f_X4_19 rfl dX4_lay_1 ?_
  refine s_iload_n E 1 rfl dX4_lay_4 rfl ?_
  refine s_callVi E kf_X0_hasPerson m_l_X4_91 (c_X0_hasPerson q σ x1) ⟨rfl, rfl, by decide, by decide⟩ (q0 := 3) rfl rfl rfl rfl rfl (Nat.le_of_ble_eq_true rfl) dX4_lay_5 ?_
  refine s_if_eq E 22 dX4_lay_8 (by decide) (fun c1 => ?_) (fun c1 => ?_)
  · have h := (if_pos c1).symm.trans h
    refine s_iconst E (v := (-1)) dX4_lay_22 ki_m1 ?_
    obtain rfl := Option.some.inj h
    exact s_iret E rfl rfl dX4_lay_23
  · have h := (if_neg c1).symm.trans h
    refine s_aload_n E 0 rfl dX4_lay_11 rfl ?_
    refine s_get E (v := .ref (q 3)) 0 1 in_X4 gX_0 rfl (by decide) m_f_X4_19 rfl dX4_lay_12 ?_
    refine s_iload_n E 2 rfl dX4_lay_15 rfl ?_
    refine s_callVi E kf_X0_hasEnd m_l_X4_118 (c_X0_hasEnd q σ x2) ⟨rfl, rfl, by decide, by decide⟩ (q0 := 3) rfl rfl rfl rfl rfl (Nat.le_of_ble_eq_true rfl) dX4_lay_16 ?_
    refine s_if_ne E 24 dX4_lay_19 (by decide) (fun c2 => ?_) (fun c2 => ?_)
    · have h := (if_pos c2).symm.trans h
      refine s_iconst E (v := (-1)) dX4_lay_22 ki_m1 ?_
      obtain rfl := Option.some.inj h
      exact s_iret E rfl rfl dX4_lay_23
    · have h := (if_neg c2).symm.trans h
      refine s_aload_n E 0 rfl dX4_lay_24 rfl ?_
      refine s_get E (v := .ref (q 7)) 0 2 in_X4 gX_0 rfl (by decide) m_f_X4_26 rfl dX4_lay_25 ?_
      refine s_iload_n E 1 rfl dX4_lay_28 rfl ?_
      obtain ⟨u3, e3, h⟩ := bnd_some h
      refine s_callVi E kf_X1_placeOf m_l_X4_111 (c_X1_placeOf q σ x1 u3 e3) ⟨rfl, rfl, by decide, by decide⟩ (q0 := 7) rfl rfl rfl rfl rfl (Nat.le_of_ble_eq_true rfl) dX4_lay_29 ?_
      refine s_bipush E (v := 10) dX4_lay_32 kb_10 ?_
      refine s_icmp_ne E 49 dX4_lay_34 (by decide) (fun c4 => ?_) (fun c4 => ?_)
      · have h := (if_pos c4).symm.trans h
        refine s_aload_n E 0 rfl dX4_lay_37 rfl ?_
        refine s_get E (v := .ref (q 3)) 0 1 in_X4 gX_0 rfl (by decide) m_f_X4_19 rfl dX4_lay_38 ?_
        refine s_iload_n E 1 rfl dX4_lay_41 rfl ?_
        refine s_iload_n E 2 rfl dX4_lay_42 rfl ?_
        obtain ⟨u5, e5, h⟩ := bnd_some h
        refine s_callVi E kf_X0_willSit m_l_X4_121 (c_X0_willSit q σ x1 x2 u5 e5) ⟨rfl, rfl, by decide, by decide⟩ (q0 := 3) rfl rfl rfl rfl rfl (Nat.le_of_ble_eq_true rfl) dX4_lay_43 ?_
        refine s_if_ne E 52 dX4_lay_46 (by decide) (fun c6 => ?_) (fun c6 => ?_)
        · have h := (if_pos c6).symm.trans h
          refine s_bipush E (v := (-3)) dX4_lay_49 kb_m3 ?_
          obtain rfl := Option.some.inj h
          exact s_iret E rfl rfl dX4_lay_51
        · have h := (if_neg c6).symm.trans h
          refine s_aload_n E 0 rfl dX4_lay_52 rfl ?_
          refine s_get E (v := .ref (q 7)) 0 2 in_X4 gX_0 rfl (by decide) m_f_X4_26 rfl dX4_lay_53 ?_
          obtain ⟨u7, e7, h⟩ := bnd_some h
          refine s_callVi E kf_X1_laid m_l_X4_125 (c_X1_laid q σ u7 e7) ⟨rfl, rfl, by decide, by decide⟩ (q0 := 7) rfl rfl rfl rfl rfl (Nat.le_of_ble_eq_true rfl) dX4_lay_56 ?_
          refine s_iload_n E 2 rfl dX4_lay_59 rfl ?_
          refine s_callSi E kf_X4_sitters m_l_X4_128 (c_X4_sitters (wX cI q σ) u7 x2) ⟨rfl, rfl, by decide, by decide⟩ rfl rfl (Nat.le_of_ble_eq_true rfl) dX4_lay_60 ?_
          refine s_callSi E kf_J6_bitCount_0f7a4 m_l_X4_132 (c_J6_bitCount_0f7a4 (wX cI q σ) (f_X4_sitters u7 x2)) ⟨rfl, rfl, by decide, by decide⟩ rfl rfl (Nat.le_of_ble_eq_true rfl) dX4_lay_63 ?_
          refine s_istore_n E (lv' := [(0, .ref (q 0)), (1, .int x1), (2, .int x2), (3, .int (f_J6_bitCount_0f7a4 (f_X4_sitters u7 x2)))]) dX4_lay_66 rfl rfl rfl rfl (by decide) ?_
          refine s_iload_n E 3 rfl dX4_lay_67 rfl ?_
          refine s_aload_n E 0 rfl dX4_lay_68 rfl ?_
          refine s_get E (v := .ref (q 3)) 0 1 in_X4 gX_0 rfl (by decide) m_f_X4_19 rfl dX4_lay_69 ?_
          refine s_geti E (y := (σ 3 3)) 3 3 in_X0 gX_3 rfl (by decide) m_f_X4_82 rfl rfl dX4_lay_72 ?_
          refine s_icmp_lt E 81 dX4_lay_75 (by decide) (fun c8 => ?_) (fun c8 => ?_)
          · have h := (if_pos c8).symm.trans h
            refine s_aload_n E 0 rfl dX4_lay_81 rfl ?_
            refine s_get E (v := .ref (q 7)) 0 2 in_X4 gX_0 rfl (by decide) m_f_X4_26 rfl dX4_lay_82 ?_
            refine s_aload_n E 0 rfl dX4_lay_85 rfl ?_
            refine s_get E (v := .ref (q 7)) 0 2 in_X4 gX_0 rfl (by decide) m_f_X4_26 rfl dX4_lay_86 ?_
            obtain ⟨u9, e9, h⟩ := bnd_some h
            refine s_callVi E kf_X1_laid m_l_X4_125 (c_X1_laid q σ u9 e9) ⟨rfl, rfl, by decide, by decide⟩ (q0 := 7) rfl rfl rfl rfl rfl (Nat.le_of_ble_eq_true rfl) dX4_lay_89 ?_
            refine s_iload_n E 1 rfl dX4_lay_92 rfl ?_
            refine s_iload_n E 2 rfl dX4_lay_93 rfl ?_
            refine s_callSi E kf_X4_seat m_l_X4_137 (c_X4_seat (wX cI q σ) u9 x1 x2) ⟨rfl, rfl, by decide, by decide⟩ rfl rfl (Nat.le_of_ble_eq_true rfl) dX4_lay_94 ?_
            obtain ⟨u10, e10, h⟩ := bnd_some h
            refine s_callVv E kf_X1_setLaid m_l_X4_141 (c_X1_setLaid q σ (f_X4_seat u9 x1 x2) u10 e10) ⟨rfl, rfl, by decide, by decide⟩ (q0 := 7) rfl rfl rfl rfl rfl (Nat.le_of_ble_eq_true rfl) dX4_lay_97 ?_
            refine s_iload_n E 3 rfl dX4_lay_100 rfl ?_
            refine s_iconst E (v := 1) dX4_lay_101 ki_1 ?_
            refine s_iadd E dX4_lay_102 ?_
            obtain rfl := Option.some.inj h
            exact s_iret E rfl rfl dX4_lay_103
          · have h := (if_neg c8).symm.trans h
            refine s_bipush E (v := (-4)) dX4_lay_78 kb_m4 ?_
            obtain rfl := Option.some.inj h
            exact s_iret E rfl rfl dX4_lay_80
      · have h := (if_neg c4).symm.trans h
        refine s_bipush E (v := (-3)) dX4_lay_49 kb_m3 ?_
        obtain rfl := Option.some.inj h
        exact s_iret E rfl rfl dX4_lay_51
end
abbrev rm_X4_unlay : Room := { frames := 2, cells := 0, slots := 0, locals := 43 }
section
noncomputable def f_X4_unlay (σ : Nat → Nat → Int32) (x1 : Int32) : Option (Int32 × (Nat → Nat → Int32)) :=
  (if (f_X0_hasPerson σ x1) = 0 then (some ((-1), σ)) else ((f_X1_laid σ).bind fun u2 => ((f_X4_endOf u2 x1).bind fun u3 => (if u3 = (-9) then (some ((-3), σ)) else ((f_X1_laid σ).bind fun u5 => ((f_X1_setLaid σ (f_X4_unseat u5 x1 u3)).bind fun u6 => ((f_X1_laid u6).bind fun u7 => (some ((f_J6_bitCount_0f7a4 u7), u6)))))))))
set_option maxRecDepth 100000 in
set_option maxHeartbeats 4000000 in
theorem c_X4_unlay (q : Nat → Nat) (σ : Nat → Nat → Int32) (x1 : Int32) (z : (Int32 × (Nat → Nat → Int32))) (h : f_X4_unlay σ x1 = some z) : CT l dC dI cI cZ A yX4_unlay cX4_unlay 3 (some .int) rm_X4_unlay [.ref (q 0), .int x1] (wX cI q σ) (wX cI q z.2) (some (.int z.1)) := by
  refine b_met (by decide) (Nat.le_of_ble_eq_true rfl) ?_
  intro p e s m below meth c E
  have E : EV p s m _ meth c dC dI cI cZ cX4_unlay 3 RX4 (some .int) := E
  show GG p l e rm_X4_unlay s m _ below meth c _ A dC dI 3 (wX cI q σ) 0 [(0, .ref (q 0)), (1, .int x1)] []
  unfold f_X4_unlay at h
  refine s_aload_n E 0 rfl dX4_unlay_0 rfl ?_
  refine s_get E (v := .ref (q 3)) 0 1 in_X4 gX_0 rfl (by decide) m_f_X4_19 rfl dX4_unlay_1 ?_
  refine s_iload_n E 1 rfl dX4_unlay_4 rfl ?_
  refine s_callVi E kf_X0_hasPerson m_l_X4_91 (c_X0_hasPerson q σ x1) ⟨rfl, rfl, by decide, by decide⟩ (q0 := 3) rfl rfl rfl rfl rfl (Nat.le_of_ble_eq_true rfl) dX4_unlay_5 ?_
  refine s_if_ne E 13 dX4_unlay_8 (by decide) (fun c1 => ?_) (fun c1 => ?_)
  · have h := (if_pos c1).symm.trans h
    refine s_iconst E (v := (-1)) dX4_unlay_11 ki_m1 ?_
    obtain rfl := Option.some.inj h
    exact s_iret E rfl rfl dX4_unlay_12
  · have h := (if_neg c1).symm.trans h
    refine s_aload_n E 0 rfl dX4_unlay_13 rfl ?_
    refine s_get E (v := .ref (q 7)) 0 2 in_X4 gX_0 rfl (by decide) m_f_X4_26 rfl dX4_unlay_14 ?_
    obtain ⟨u2, e2, h⟩ := bnd_some h
    refine s_callVi E kf_X1_laid m_l_X4_125 (c_X1_laid q σ u2 e2) ⟨rfl, rfl, by decide, by decide⟩ (q0 := 7) rfl rfl rfl rfl rfl (Nat.le_of_ble_eq_true rfl) dX4_unlay_17 ?_
    refine s_iload_n E 1 rfl dX4_unlay_20 rfl ?_
    obtain ⟨u3, e3, h⟩ := bnd_some h
    refine s_callSi E kf_X4_endOf m_l_X4_145 (c_X4_endOf (wX cI q σ) u2 x1 u3 e3) ⟨rfl, rfl, by decide, by decide⟩ rfl rfl (Nat.le_of_ble_eq_true rfl) dX4_unlay_21 ?_
    refine s_istore_n E (lv' := [(0, .ref (q 0)), (1, .int x1), (2, .int u3)]) dX4_unlay_24 rfl rfl rfl rfl (by decide) ?_
    refine s_iload_n E 2 rfl dX4_unlay_25 rfl ?_
    refine s_bipush E (v := (-9)) dX4_unlay_26 kb_m9 ?_
    refine s_icmp_ne E 34 dX4_unlay_28 (by decide) (fun c4 => ?_) (fun c4 => ?_)
    · have h := (if_pos c4).symm.trans h
      refine s_bipush E (v := (-3)) dX4_unlay_31 kb_m3 ?_
      obtain rfl := Option.some.inj h
      exact s_iret E rfl rfl dX4_unlay_33
    · have h := (if_neg c4).symm.trans h
      refine s_aload_n E 0 rfl dX4_unlay_34 rfl ?_
      refine s_get E (v := .ref (q 7)) 0 2 in_X4 gX_0 rfl (by decide) m_f_X4_26 rfl dX4_unlay_35 ?_
      refine s_aload_n E 0 rfl dX4_unlay_38 rfl ?_
      refine s_get E (v := .ref (q 7)) 0 2 in_X4 gX_0 rfl (by decide) m_f_X4_26 rfl dX4_unlay_39 ?_
      obtain ⟨u5, e5, h⟩ := bnd_some h
      refine s_callVi E kf_X1_laid m_l_X4_125 (c_X1_laid q σ u5 e5) ⟨rfl, rfl, by decide, by decide⟩ (q0 := 7) rfl rfl rfl rfl rfl (Nat.le_of_ble_eq_true rfl) dX4_unlay_42 ?_
      refine s_iload_n E 1 rfl dX4_unlay_45 rfl ?_
      refine s_iload_n E 2 rfl dX4_unlay_46 rfl ?_
      refine s_callSi E kf_X4_unseat m_l_X4_148 (c_X4_unseat (wX cI q σ) u5 x1 u3) ⟨rfl, rfl, by decide, by decide⟩ rfl rfl (Nat.le_of_ble_eq_true rfl) dX4_unlay_47 ?_
      obtain ⟨u6, e6, h⟩ := bnd_some h
      refine s_callVv E kf_X1_setLaid m_l_X4_141 (c_X1_setLaid q σ (f_X4_unseat u5 x1 u3) u6 e6) ⟨rfl, rfl, by decide, by decide⟩ (q0 := 7) rfl rfl rfl rfl rfl (Nat.le_of_ble_eq_true rfl) dX4_unlay_50 ?_
      refine s_aload_n E 0 rfl dX4_unlay_53 rfl ?_
      refine s_get E (v := .ref (q 7)) 0 2 in_X4 gX_0 rfl (by decide) m_f_X4_26 rfl dX4_unlay_54 ?_
      obtain ⟨u7, e7, h⟩ := bnd_some h
      refine s_callVi E kf_X1_laid m_l_X4_125 (c_X1_laid q u6 u7 e7) ⟨rfl, rfl, by decide, by decide⟩ (q0 := 7) rfl rfl rfl rfl rfl (Nat.le_of_ble_eq_true rfl) dX4_unlay_57 ?_
      refine s_callSi E kf_J6_bitCount_0f7a4 m_l_X4_132 (c_J6_bitCount_0f7a4 (wX cI q u6) u7) ⟨rfl, rfl, by decide, by decide⟩ rfl rfl (Nat.le_of_ble_eq_true rfl) dX4_unlay_60 ?_
      obtain rfl := Option.some.inj h
      exact s_iret E rfl rfl dX4_unlay_63
end
abbrev rm_X4_weighs : Room := { frames := 2, cells := 0, slots := 0, locals := 51 }
section
noncomputable def f_X4_weighs (σ : Nat → Nat → Int32) (x1 : Int32) (x2 : Int32) : Option Int32 :=
  (if (f_X0_hasEnd σ x1) = 0 then (some (-1)) else (if (f_X4_isMinute x2) = 0 then (some (-2)) else ((f_X1_laid σ).bind fun u3 => ((f_X0_loadOf_3_4_9 σ u3 x1 x2).bind fun u4 => (some u4)))))
set_option maxRecDepth 100000 in
set_option maxHeartbeats 4000000 in
theorem c_X4_weighs (q : Nat → Nat) (σ : Nat → Nat → Int32) (x1 : Int32) (x2 : Int32) (z : Int32) (h : f_X4_weighs σ x1 x2 = some z) : CT l dC dI cI cZ A yX4_weighs cX4_weighs 3 (some .int) rm_X4_weighs [.ref (q 0), .int x1, .int x2] (wX cI q σ) (wX cI q σ) (some (.int z)) := by
  refine b_met (by decide) (Nat.le_of_ble_eq_true rfl) ?_
  intro p e s m below meth c E
  have E : EV p s m _ meth c dC dI cI cZ cX4_weighs 3 RX4 (some .int) := E
  show GG p l e rm_X4_weighs s m _ below meth c _ A dC dI 3 (wX cI q σ) 0 [(0, .ref (q 0)), (1, .int x1), (2, .int x2)] []
  unfold f_X4_weighs at h
  refine s_aload_n E 0 rfl dX4_weighs_0 rfl ?_
  refine s_get E (v := .ref (q 3)) 0 1 in_X4 gX_0 rfl (by decide) m_f_X4_19 rfl dX4_weighs_1 ?_
  refine s_iload_n E 1 rfl dX4_weighs_4 rfl ?_
  refine s_callVi E kf_X0_hasEnd m_l_X4_118 (c_X0_hasEnd q σ x1) ⟨rfl, rfl, by decide, by decide⟩ (q0 := 3) rfl rfl rfl rfl rfl (Nat.le_of_ble_eq_true rfl) dX4_weighs_5 ?_
  refine s_if_ne E 13 dX4_weighs_8 (by decide) (fun c1 => ?_) (fun c1 => ?_)
  · have h := (if_pos c1).symm.trans h
    refine s_iconst E (v := (-1)) dX4_weighs_11 ki_m1 ?_
    obtain rfl := Option.some.inj h
    exact s_iret E rfl rfl dX4_weighs_12
  · have h := (if_neg c1).symm.trans h
    refine s_iload_n E 2 rfl dX4_weighs_13 rfl ?_
    refine s_callSi E kf_X4_isMinute m_l_X4_115 (c_X4_isMinute (wX cI q σ) x2) ⟨rfl, rfl, by decide, by decide⟩ rfl rfl (Nat.le_of_ble_eq_true rfl) dX4_weighs_14 ?_
    refine s_if_ne E 23 dX4_weighs_17 (by decide) (fun c2 => ?_) (fun c2 => ?_)
    · have h := (if_pos c2).symm.trans h
      refine s_bipush E (v := (-2)) dX4_weighs_20 kb_m2 ?_
      obtain rfl := Option.some.inj h
      exact s_iret E rfl rfl dX4_weighs_22
    · have h := (if_neg c2).symm.trans h
      refine s_aload_n E 0 rfl dX4_weighs_23 rfl ?_
      refine s_get E (v := .ref (q 3)) 0 1 in_X4 gX_0 rfl (by decide) m_f_X4_19 rfl dX4_weighs_24 ?_
      refine s_aload_n E 0 rfl dX4_weighs_27 rfl ?_
      refine s_get E (v := .ref (q 7)) 0 2 in_X4 gX_0 rfl (by decide) m_f_X4_26 rfl dX4_weighs_28 ?_
      obtain ⟨u3, e3, h⟩ := bnd_some h
      refine s_callVi E kf_X1_laid m_l_X4_125 (c_X1_laid q σ u3 e3) ⟨rfl, rfl, by decide, by decide⟩ (q0 := 7) rfl rfl rfl rfl rfl (Nat.le_of_ble_eq_true rfl) dX4_weighs_31 ?_
      refine s_iload_n E 1 rfl dX4_weighs_34 rfl ?_
      refine s_aload_n E 0 rfl dX4_weighs_35 rfl ?_
      refine s_get E (v := .ref (q 3)) 0 1 in_X4 gX_0 rfl (by decide) m_f_X4_19 rfl dX4_weighs_36 ?_
      refine s_get E (v := .ref (q 4)) 3 6 in_X0 gX_3 rfl (by decide) m_f_X4_95 rfl dX4_weighs_39 ?_
      refine s_aload_n E 0 rfl dX4_weighs_42 rfl ?_
      refine s_get E (v := .ref (q 7)) 0 2 in_X4 gX_0 rfl (by decide) m_f_X4_26 rfl dX4_weighs_43 ?_
      refine s_get E (v := .ref (q 9)) 7 1 in_X1 gX_7 rfl (by decide) m_f_X4_105 rfl dX4_weighs_46 ?_
      refine s_iload_n E 2 rfl dX4_weighs_49 rfl ?_
      obtain ⟨u4, e4, h⟩ := bnd_some h
      refine s_callVi E kf_X0_loadOf m_l_X4_151 (c_X0_loadOf_3_4_9 q σ u3 x1 x2 u4 e4) ⟨rfl, rfl, by decide, by decide⟩ (q0 := 3) rfl rfl rfl rfl rfl (Nat.le_of_ble_eq_true rfl) dX4_weighs_50 ?_
      obtain rfl := Option.some.inj h
      exact s_iret E rfl rfl dX4_weighs_53
end
abbrev rm_X4_off : Room := { frames := 3, cells := 0, slots := 0, locals := 80 }
section
noncomputable def f_X4_off (σ : Nat → Nat → Int32) (x1 : Int32) : Option Int32 :=
  (if (f_X4_isMinute x1) = 0 then (some (-2)) else ((f_X1_laid σ).bind fun u2 => ((f_X0_tiltOf_3_4_9 σ u2 x1).bind fun u3 => (some (u3 + 10000)))))
set_option maxRecDepth 100000 in
set_option maxHeartbeats 4000000 in
theorem c_X4_off (q : Nat → Nat) (σ : Nat → Nat → Int32) (x1 : Int32) (z : Int32) (h : f_X4_off σ x1 = some z) : CT l dC dI cI cZ A yX4_off cX4_off 2 (some .int) rm_X4_off [.ref (q 0), .int x1] (wX cI q σ) (wX cI q σ) (some (.int z)) := by
  refine b_met (by decide) (Nat.le_of_ble_eq_true rfl) ?_
  intro p e s m below meth c E
  have E : EV p s m _ meth c dC dI cI cZ cX4_off 2 RX4 (some .int) := E
  show GG p l e rm_X4_off s m _ below meth c _ A dC dI 2 (wX cI q σ) 0 [(0, .ref (q 0)), (1, .int x1)] []
  unfold f_X4_off at h
  refine s_iload_n E 1 rfl dX4_off_0 rfl ?_
  refine s_callSi E kf_X4_isMinute m_l_X4_115 (c_X4_isMinute (wX cI q σ) x1) ⟨rfl, rfl, by decide, by decide⟩ rfl rfl (Nat.le_of_ble_eq_true rfl) dX4_off_1 ?_
  refine s_if_ne E 10 dX4_off_4 (by decide) (fun c1 => ?_) (fun c1 => ?_)
  · have h := (if_pos c1).symm.trans h
    refine s_bipush E (v := (-2)) dX4_off_7 kb_m2 ?_
    obtain rfl := Option.some.inj h
    exact s_iret E rfl rfl dX4_off_9
  · have h := (if_neg c1).symm.trans h
    refine s_aload_n E 0 rfl dX4_off_10 rfl ?_
    refine s_get E (v := .ref (q 3)) 0 1 in_X4 gX_0 rfl (by decide) m_f_X4_19 rfl dX4_off_11 ?_
    refine s_aload_n E 0 rfl dX4_off_14 rfl ?_
    refine s_get E (v := .ref (q 7)) 0 2 in_X4 gX_0 rfl (by decide) m_f_X4_26 rfl dX4_off_15 ?_
    obtain ⟨u2, e2, h⟩ := bnd_some h
    refine s_callVi E kf_X1_laid m_l_X4_125 (c_X1_laid q σ u2 e2) ⟨rfl, rfl, by decide, by decide⟩ (q0 := 7) rfl rfl rfl rfl rfl (Nat.le_of_ble_eq_true rfl) dX4_off_18 ?_
    refine s_aload_n E 0 rfl dX4_off_21 rfl ?_
    refine s_get E (v := .ref (q 3)) 0 1 in_X4 gX_0 rfl (by decide) m_f_X4_19 rfl dX4_off_22 ?_
    refine s_get E (v := .ref (q 4)) 3 6 in_X0 gX_3 rfl (by decide) m_f_X4_95 rfl dX4_off_25 ?_
    refine s_aload_n E 0 rfl dX4_off_28 rfl ?_
    refine s_get E (v := .ref (q 7)) 0 2 in_X4 gX_0 rfl (by decide) m_f_X4_26 rfl dX4_off_29 ?_
    refine s_get E (v := .ref (q 9)) 7 1 in_X1 gX_7 rfl (by decide) m_f_X4_105 rfl dX4_off_32 ?_
    refine s_iload_n E 1 rfl dX4_off_35 rfl ?_
    obtain ⟨u3, e3, h⟩ := bnd_some h
    refine s_callVi E kf_X0_tiltOf m_l_X4_155 (c_X0_tiltOf_3_4_9 q σ u2 x1 u3 e3) ⟨rfl, rfl, by decide, by decide⟩ (q0 := 3) rfl rfl rfl rfl rfl (Nat.le_of_ble_eq_true rfl) dX4_off_36 ?_
    refine s_sipush E (v := 10000) dX4_off_39 ks_10000 ?_
    refine s_iadd E dX4_off_42 ?_
    obtain rfl := Option.some.inj h
    exact s_iret E rfl rfl dX4_off_43
end
abbrev rm_X4_leave : Room := { frames := 4, cells := 0, slots := 0, locals := 103 }
section
noncomputable def f_X4_leave (σ : Nat → Nat → Int32) : Option (Int32 × (Nat → Nat → Int32)) :=
  ((f_X1_laid σ).bind fun u1 => (if u1 = 0 then (some ((-3), σ)) else ((f_X0_isLevel_3_4_7 σ u1).bind fun u3 => (if u3 = 0 then (some ((-3), σ)) else (if (σ 7 3) < 8 then ((f_X1_depart σ).bind fun u6 => ((f_X0_faresOf (f_X2_forget u6) (f_X4_members u1)).bind fun u7 => (some (u7, (f_X2_forget u6))))) else (some ((-4), σ)))))))
set_option maxRecDepth 100000 in
set_option maxHeartbeats 4000000 in
theorem c_X4_leave (q : Nat → Nat) (σ : Nat → Nat → Int32) (z : (Int32 × (Nat → Nat → Int32))) (h : f_X4_leave σ = some z) : CT l dC dI cI cZ A yX4_leave cX4_leave 2 (some .int) rm_X4_leave [.ref (q 0)] (wX cI q σ) (wX cI q z.2) (some (.int z.1)) := by
  refine b_met (by decide) (Nat.le_of_ble_eq_true rfl) ?_
  intro p e s m below meth c E
  have E : EV p s m _ meth c dC dI cI cZ cX4_leave 2 RX4 (some .int) := E
  show GG p l e rm_X4_leave s m _ below meth c _ A dC dI 2 (wX cI q σ) 0 [(0, .ref (q 0))] []
  unfold f_X4_leave at h
  refine s_aload_n E 0 rfl dX4_leave_0 rfl ?_
  refine s_get E (v := .ref (q 7)) 0 2 in_X4 gX_0 rfl (by decide) m_f_X4_26 rfl dX4_leave_1 ?_
  obtain ⟨u1, e1, h⟩ := bnd_some h
  refine s_callVi E kf_X1_laid m_l_X4_125 (c_X1_laid q σ u1 e1) ⟨rfl, rfl, by decide, by decide⟩ (q0 := 7) rfl rfl rfl rfl rfl (Nat.le_of_ble_eq_true rfl) dX4_leave_4 ?_
  refine s_istore_n E (lv' := [(0, .ref (q 0)), (1, .int u1)]) dX4_leave_7 rfl rfl rfl rfl (by decide) ?_
  refine s_iload_n E 1 rfl dX4_leave_8 rfl ?_
  refine s_if_eq E 34 dX4_leave_9 (by decide) (fun c2 => ?_) (fun c2 => ?_)
  · have h := (if_pos c2).symm.trans h
    refine s_bipush E (v := (-3)) dX4_leave_34 kb_m3 ?_
    obtain rfl := Option.some.inj h
    exact s_iret E rfl rfl dX4_leave_36
  · have h := (if_neg c2).symm.trans h
    refine s_aload_n E 0 rfl dX4_leave_12 rfl ?_
    refine s_get E (v := .ref (q 3)) 0 1 in_X4 gX_0 rfl (by decide) m_f_X4_19 rfl dX4_leave_13 ?_
    refine s_iload_n E 1 rfl dX4_leave_16 rfl ?_
    refine s_aload_n E 0 rfl dX4_leave_17 rfl ?_
    refine s_get E (v := .ref (q 3)) 0 1 in_X4 gX_0 rfl (by decide) m_f_X4_19 rfl dX4_leave_18 ?_
    refine s_get E (v := .ref (q 4)) 3 6 in_X0 gX_3 rfl (by decide) m_f_X4_95 rfl dX4_leave_21 ?_
    refine s_aload_n E 0 rfl dX4_leave_24 rfl ?_
    refine s_get E (v := .ref (q 7)) 0 2 in_X4 gX_0 rfl (by decide) m_f_X4_26 rfl dX4_leave_25 ?_
    obtain ⟨u3, e3, h⟩ := bnd_some h
    refine s_callVi E kf_X0_isLevel m_l_X4_159 (c_X0_isLevel_3_4_7 q σ u1 u3 e3) ⟨rfl, rfl, by decide, by decide⟩ (q0 := 3) rfl rfl rfl rfl rfl (Nat.le_of_ble_eq_true rfl) dX4_leave_28 ?_
    refine s_if_ne E 37 dX4_leave_31 (by decide) (fun c4 => ?_) (fun c4 => ?_)
    · have h := (if_pos c4).symm.trans h
      refine s_bipush E (v := (-3)) dX4_leave_34 kb_m3 ?_
      obtain rfl := Option.some.inj h
      exact s_iret E rfl rfl dX4_leave_36
    · have h := (if_neg c4).symm.trans h
      refine s_aload_n E 0 rfl dX4_leave_37 rfl ?_
      refine s_get E (v := .ref (q 7)) 0 2 in_X4 gX_0 rfl (by decide) m_f_X4_26 rfl dX4_leave_38 ?_
      refine s_geti E (y := (σ 7 3)) 7 3 in_X1 gX_7 rfl (by decide) m_f_X4_163 rfl rfl dX4_leave_41 ?_
      refine s_bipush E (v := 8) dX4_leave_44 kb_8 ?_
      refine s_icmp_lt E 52 dX4_leave_46 (by decide) (fun c5 => ?_) (fun c5 => ?_)
      · have h := (if_pos c5).symm.trans h
        refine s_aload_n E 0 rfl dX4_leave_52 rfl ?_
        refine s_get E (v := .ref (q 7)) 0 2 in_X4 gX_0 rfl (by decide) m_f_X4_26 rfl dX4_leave_53 ?_
        obtain ⟨u6, e6, h⟩ := bnd_some h
        refine s_callVv E kf_X1_depart m_l_X4_166 (c_X1_depart q σ u6 e6) ⟨rfl, rfl, by decide, by decide⟩ (q0 := 7) rfl rfl rfl rfl rfl (Nat.le_of_ble_eq_true rfl) dX4_leave_56 ?_
        refine s_aload_n E 0 rfl dX4_leave_59 rfl ?_
        refine s_get E (v := .ref (q 19)) 0 5 in_X4 gX_0 rfl (by decide) m_f_X4_39 rfl dX4_leave_60 ?_
        refine s_callVv E kf_X2_forget m_l_X4_67 (c_X2_forget q u6) ⟨rfl, rfl, by decide, by decide⟩ (q0 := 19) rfl rfl rfl rfl rfl (Nat.le_of_ble_eq_true rfl) dX4_leave_63 ?_
        refine s_aload_n E 0 rfl dX4_leave_66 rfl ?_
        refine s_get E (v := .ref (q 3)) 0 1 in_X4 gX_0 rfl (by decide) m_f_X4_19 rfl dX4_leave_67 ?_
        refine s_iload_n E 1 rfl dX4_leave_70 rfl ?_
        refine s_callSi E kf_X4_members m_l_X4_169 (c_X4_members (wX cI q (f_X2_forget u6)) u1) ⟨rfl, rfl, by decide, by decide⟩ rfl rfl (Nat.le_of_ble_eq_true rfl) dX4_leave_71 ?_
        obtain ⟨u7, e7, h⟩ := bnd_some h
        refine s_callVi E kf_X0_faresOf m_l_X4_172 (c_X0_faresOf q (f_X2_forget u6) (f_X4_members u1) u7 e7) ⟨rfl, rfl, by decide, by decide⟩ (q0 := 3) rfl rfl rfl rfl rfl (Nat.le_of_ble_eq_true rfl) dX4_leave_74 ?_
        obtain rfl := Option.some.inj h
        exact s_iret E rfl rfl dX4_leave_77
      · have h := (if_neg c5).symm.trans h
        refine s_bipush E (v := (-4)) dX4_leave_49 kb_m4 ?_
        obtain rfl := Option.some.inj h
        exact s_iret E rfl rfl dX4_leave_51
end
abbrev rm_X4_back : Room := { frames := 1, cells := 0, slots := 0, locals := 20 }
section
noncomputable def f_X4_back (σ : Nat → Nat → Int32) : (Int32 × (Nat → Nat → Int32)) :=
  (if 1 ≤ (σ 7 3) then (((f_X2_forget (f_X1_takeBack σ)) 7 3), (f_X2_forget (f_X1_takeBack σ))) else ((-3), σ))
set_option maxRecDepth 100000 in
set_option maxHeartbeats 4000000 in
theorem c_X4_back (q : Nat → Nat) (σ : Nat → Nat → Int32) : CT l dC dI cI cZ A yX4_back cX4_back 1 (some .int) rm_X4_back [.ref (q 0)] (wX cI q σ) (wX cI q (f_X4_back σ).2) (some (.int (f_X4_back σ).1)) := by
  refine b_met (by decide) (Nat.le_of_ble_eq_true rfl) ?_
  intro p e s m below meth c E
  have E : EV p s m _ meth c dC dI cI cZ cX4_back 1 RX4 (some .int) := E
  generalize h : f_X4_back σ = z
  show GG p l e rm_X4_back s m _ below meth c _ A dC dI 1 (wX cI q σ) 0 [(0, .ref (q 0))] []
  unfold f_X4_back at h
  refine s_aload_n E 0 rfl dX4_back_0 rfl ?_
  refine s_get E (v := .ref (q 7)) 0 2 in_X4 gX_0 rfl (by decide) m_f_X4_26 rfl dX4_back_1 ?_
  refine s_geti E (y := (σ 7 3)) 7 3 in_X1 gX_7 rfl (by decide) m_f_X4_163 rfl rfl dX4_back_4 ?_
  refine s_iconst E (v := 1) dX4_back_7 ki_1 ?_
  refine s_icmp_ge E 14 dX4_back_8 (by decide) (fun c1 => ?_) (fun c1 => ?_)
  · have h := (if_pos c1).symm.trans h
    refine s_aload_n E 0 rfl dX4_back_14 rfl ?_
    refine s_get E (v := .ref (q 7)) 0 2 in_X4 gX_0 rfl (by decide) m_f_X4_26 rfl dX4_back_15 ?_
    refine s_callVv E kf_X1_takeBack m_l_X4_175 (c_X1_takeBack q σ) ⟨rfl, rfl, by decide, by decide⟩ (q0 := 7) rfl rfl rfl rfl rfl (Nat.le_of_ble_eq_true rfl) dX4_back_18 ?_
    refine s_aload_n E 0 rfl dX4_back_21 rfl ?_
    refine s_get E (v := .ref (q 19)) 0 5 in_X4 gX_0 rfl (by decide) m_f_X4_39 rfl dX4_back_22 ?_
    refine s_callVv E kf_X2_forget m_l_X4_67 (c_X2_forget q (f_X1_takeBack σ)) ⟨rfl, rfl, by decide, by decide⟩ (q0 := 19) rfl rfl rfl rfl rfl (Nat.le_of_ble_eq_true rfl) dX4_back_25 ?_
    refine s_aload_n E 0 rfl dX4_back_28 rfl ?_
    refine s_get E (v := .ref (q 7)) 0 2 in_X4 gX_0 rfl (by decide) m_f_X4_26 rfl dX4_back_29 ?_
    refine s_geti E (y := ((f_X2_forget (f_X1_takeBack σ)) 7 3)) 7 3 in_X1 gX_7 rfl (by decide) m_f_X4_163 rfl rfl dX4_back_32 ?_
    subst h
    exact s_iret E rfl rfl dX4_back_35
  · have h := (if_neg c1).symm.trans h
    refine s_bipush E (v := (-3)) dX4_back_11 kb_m3 ?_
    subst h
    exact s_iret E rfl rfl dX4_back_13
end
abbrev rm_X4_left : Room := { frames := 1, cells := 0, slots := 0, locals := 21 }
section
noncomputable def f_X4_left (σ : Nat → Nat → Int32) (x1 : Int32) (x2 : Int32) : Option Int32 :=
  (if x1 < 0 then (some (-1)) else (if (σ 7 3) ≤ x1 then (some (-1)) else (if (f_X0_hasEnd σ x2) = 0 then (some (-1)) else ((f_X1_crewOf σ x1).bind fun u4 => (some (f_X4_sitters u4 x2))))))
set_option maxRecDepth 100000 in
set_option maxHeartbeats 4000000 in
theorem c_X4_left (q : Nat → Nat) (σ : Nat → Nat → Int32) (x1 : Int32) (x2 : Int32) (z : Int32) (h : f_X4_left σ x1 x2 = some z) : CT l dC dI cI cZ A yX4_left cX4_left 3 (some .int) rm_X4_left [.ref (q 0), .int x1, .int x2] (wX cI q σ) (wX cI q σ) (some (.int z)) := by
  refine b_met (by decide) (Nat.le_of_ble_eq_true rfl) ?_
  intro p e s m below meth c E
  have E : EV p s m _ meth c dC dI cI cZ cX4_left 3 RX4 (some .int) := E
  show GG p l e rm_X4_left s m _ below meth c _ A dC dI 3 (wX cI q σ) 0 [(0, .ref (q 0)), (1, .int x1), (2, .int x2)] []
  unfold f_X4_left at h
  refine s_iload_n E 1 rfl dX4_left_0 rfl ?_
  refine s_if_lt E 26 dX4_left_1 (by decide) (fun c1 => ?_) (fun c1 => ?_)
  · have h := (if_pos c1).symm.trans h
    refine s_iconst E (v := (-1)) dX4_left_26 ki_m1 ?_
    obtain rfl := Option.some.inj h
    exact s_iret E rfl rfl dX4_left_27
  · have h := (if_neg c1).symm.trans h
    refine s_iload_n E 1 rfl dX4_left_4 rfl ?_
    refine s_aload_n E 0 rfl dX4_left_5 rfl ?_
    refine s_get E (v := .ref (q 7)) 0 2 in_X4 gX_0 rfl (by decide) m_f_X4_26 rfl dX4_left_6 ?_
    refine s_geti E (y := (σ 7 3)) 7 3 in_X1 gX_7 rfl (by decide) m_f_X4_163 rfl rfl dX4_left_9 ?_
    refine s_icmp_ge E 26 dX4_left_12 (by decide) (fun c2 => ?_) (fun c2 => ?_)
    · have h := (if_pos c2).symm.trans h
      refine s_iconst E (v := (-1)) dX4_left_26 ki_m1 ?_
      obtain rfl := Option.some.inj h
      exact s_iret E rfl rfl dX4_left_27
    · have h := (if_neg c2).symm.trans h
      refine s_aload_n E 0 rfl dX4_left_15 rfl ?_
      refine s_get E (v := .ref (q 3)) 0 1 in_X4 gX_0 rfl (by decide) m_f_X4_19 rfl dX4_left_16 ?_
      refine s_iload_n E 2 rfl dX4_left_19 rfl ?_
      refine s_callVi E kf_X0_hasEnd m_l_X4_118 (c_X0_hasEnd q σ x2) ⟨rfl, rfl, by decide, by decide⟩ (q0 := 3) rfl rfl rfl rfl rfl (Nat.le_of_ble_eq_true rfl) dX4_left_20 ?_
      refine s_if_ne E 28 dX4_left_23 (by decide) (fun c3 => ?_) (fun c3 => ?_)
      · have h := (if_pos c3).symm.trans h
        refine s_iconst E (v := (-1)) dX4_left_26 ki_m1 ?_
        obtain rfl := Option.some.inj h
        exact s_iret E rfl rfl dX4_left_27
      · have h := (if_neg c3).symm.trans h
        refine s_aload_n E 0 rfl dX4_left_28 rfl ?_
        refine s_get E (v := .ref (q 7)) 0 2 in_X4 gX_0 rfl (by decide) m_f_X4_26 rfl dX4_left_29 ?_
        refine s_iload_n E 1 rfl dX4_left_32 rfl ?_
        obtain ⟨u4, e4, h⟩ := bnd_some h
        refine s_callVi E kf_X1_crewOf m_l_X4_178 (c_X1_crewOf q σ x1 u4 e4) ⟨rfl, rfl, by decide, by decide⟩ (q0 := 7) rfl rfl rfl rfl rfl (Nat.le_of_ble_eq_true rfl) dX4_left_33 ?_
        refine s_iload_n E 2 rfl dX4_left_36 rfl ?_
        refine s_callSi E kf_X4_sitters m_l_X4_128 (c_X4_sitters (wX cI q σ) u4 x2) ⟨rfl, rfl, by decide, by decide⟩ rfl rfl (Nat.le_of_ble_eq_true rfl) dX4_left_37 ?_
        obtain rfl := Option.some.inj h
        exact s_iret E rfl rfl dX4_left_40
end
abbrev rm_X4_best : Room := { frames := 6, cells := 0, slots := 0, locals := 150 }
section
noncomputable def f_X4_best (σ : Nat → Nat → Int32) : Option (Int32 × (Nat → Nat → Int32)) :=
  ((f_X2_findChoices σ).bind fun u1 => (if (f_X2_hasChoice u1) = 0 then (some ((-9), u1)) else (some ((f_X2_bestFares u1), u1))))
set_option maxRecDepth 100000 in
set_option maxHeartbeats 4000000 in
theorem c_X4_best (q : Nat → Nat) (σ : Nat → Nat → Int32) (z : (Int32 × (Nat → Nat → Int32))) (h : f_X4_best σ = some z) : CT l dC dI cI cZ A yX4_best cX4_best 1 (some .int) rm_X4_best [.ref (q 0)] (wX cI q σ) (wX cI q z.2) (some (.int z.1)) := by
  refine b_met (by decide) (Nat.le_of_ble_eq_true rfl) ?_
  intro p e s m below meth c E
  have E : EV p s m _ meth c dC dI cI cZ cX4_best 1 RX4 (some .int) := E
  show GG p l e rm_X4_best s m _ below meth c _ A dC dI 1 (wX cI q σ) 0 [(0, .ref (q 0))] []
  unfold f_X4_best at h
  refine s_aload_n E 0 rfl dX4_best_0 rfl ?_
  refine s_get E (v := .ref (q 19)) 0 5 in_X4 gX_0 rfl (by decide) m_f_X4_39 rfl dX4_best_1 ?_
  refine s_aload_n E 0 rfl dX4_best_4 rfl ?_
  refine s_get E (v := .ref (q 3)) 0 1 in_X4 gX_0 rfl (by decide) m_f_X4_19 rfl dX4_best_5 ?_
  refine s_aload_n E 0 rfl dX4_best_8 rfl ?_
  refine s_get E (v := .ref (q 7)) 0 2 in_X4 gX_0 rfl (by decide) m_f_X4_26 rfl dX4_best_9 ?_
  obtain ⟨u1, e1, h⟩ := bnd_some h
  refine s_callVv E kf_X2_findChoices m_l_X4_181 (c_X2_findChoices q σ u1 e1) ⟨rfl, rfl, by decide, by decide⟩ (q0 := 19) rfl rfl rfl rfl rfl (Nat.le_of_ble_eq_true rfl) dX4_best_12 ?_
  refine s_aload_n E 0 rfl dX4_best_15 rfl ?_
  refine s_get E (v := .ref (q 19)) 0 5 in_X4 gX_0 rfl (by decide) m_f_X4_39 rfl dX4_best_16 ?_
  refine s_callVi E kf_X2_hasChoice m_l_X4_185 (c_X2_hasChoice q u1) ⟨rfl, rfl, by decide, by decide⟩ (q0 := 19) rfl rfl rfl rfl rfl (Nat.le_of_ble_eq_true rfl) dX4_best_19 ?_
  refine s_if_eq E 35 dX4_best_22 (by decide) (fun c2 => ?_) (fun c2 => ?_)
  · have h := (if_pos c2).symm.trans h
    refine s_bipush E (v := (-9)) dX4_best_35 kb_m9 ?_
    obtain rfl := Option.some.inj h
    exact s_iret E rfl rfl dX4_best_37
  · have h := (if_neg c2).symm.trans h
    refine s_aload_n E 0 rfl dX4_best_25 rfl ?_
    refine s_get E (v := .ref (q 19)) 0 5 in_X4 gX_0 rfl (by decide) m_f_X4_39 rfl dX4_best_26 ?_
    refine s_callVi E kf_X2_bestFares m_l_X4_189 (c_X2_bestFares q u1) ⟨rfl, rfl, by decide, by decide⟩ (q0 := 19) rfl rfl rfl rfl rfl (Nat.le_of_ble_eq_true rfl) dX4_best_29 ?_
    refine s_goto E 37 dX4_best_32 (by decide) ?_
    obtain rfl := Option.some.inj h
    exact s_iret E rfl rfl dX4_best_37
end
abbrev rm_X4_bestAt : Room := { frames := 6, cells := 0, slots := 0, locals := 150 }
section
noncomputable def f_X4_bestAt (σ : Nat → Nat → Int32) (x1 : Int32) : Option (Int32 × (Nat → Nat → Int32)) :=
  (if (f_X0_hasPerson σ x1) = 0 then (some ((-1), σ)) else ((f_X2_findChoices σ).bind fun u2 => ((f_X4_endOf (u2 19 13) x1).bind fun u3 => (some (u3, u2)))))
set_option maxRecDepth 100000 in
set_option maxHeartbeats 4000000 in
theorem c_X4_bestAt (q : Nat → Nat) (σ : Nat → Nat → Int32) (x1 : Int32) (z : (Int32 × (Nat → Nat → Int32))) (h : f_X4_bestAt σ x1 = some z) : CT l dC dI cI cZ A yX4_bestAt cX4_bestAt 2 (some .int) rm_X4_bestAt [.ref (q 0), .int x1] (wX cI q σ) (wX cI q z.2) (some (.int z.1)) := by
  refine b_met (by decide) (Nat.le_of_ble_eq_true rfl) ?_
  intro p e s m below meth c E
  have E : EV p s m _ meth c dC dI cI cZ cX4_bestAt 2 RX4 (some .int) := E
  show GG p l e rm_X4_bestAt s m _ below meth c _ A dC dI 2 (wX cI q σ) 0 [(0, .ref (q 0)), (1, .int x1)] []
  unfold f_X4_bestAt at h
  refine s_aload_n E 0 rfl dX4_bestAt_0 rfl ?_
  refine s_get E (v := .ref (q 3)) 0 1 in_X4 gX_0 rfl (by decide) m_f_X4_19 rfl dX4_bestAt_1 ?_
  refine s_iload_n E 1 rfl dX4_bestAt_4 rfl ?_
  refine s_callVi E kf_X0_hasPerson m_l_X4_91 (c_X0_hasPerson q σ x1) ⟨rfl, rfl, by decide, by decide⟩ (q0 := 3) rfl rfl rfl rfl rfl (Nat.le_of_ble_eq_true rfl) dX4_bestAt_5 ?_
  refine s_if_ne E 13 dX4_bestAt_8 (by decide) (fun c1 => ?_) (fun c1 => ?_)
  · have h := (if_pos c1).symm.trans h
    refine s_iconst E (v := (-1)) dX4_bestAt_11 ki_m1 ?_
    obtain rfl := Option.some.inj h
    exact s_iret E rfl rfl dX4_bestAt_12
  · have h := (if_neg c1).symm.trans h
    refine s_aload_n E 0 rfl dX4_bestAt_13 rfl ?_
    refine s_get E (v := .ref (q 19)) 0 5 in_X4 gX_0 rfl (by decide) m_f_X4_39 rfl dX4_bestAt_14 ?_
    refine s_aload_n E 0 rfl dX4_bestAt_17 rfl ?_
    refine s_get E (v := .ref (q 3)) 0 1 in_X4 gX_0 rfl (by decide) m_f_X4_19 rfl dX4_bestAt_18 ?_
    refine s_aload_n E 0 rfl dX4_bestAt_21 rfl ?_
    refine s_get E (v := .ref (q 7)) 0 2 in_X4 gX_0 rfl (by decide) m_f_X4_26 rfl dX4_bestAt_22 ?_
    obtain ⟨u2, e2, h⟩ := bnd_some h
    refine s_callVv E kf_X2_findChoices m_l_X4_181 (c_X2_findChoices q σ u2 e2) ⟨rfl, rfl, by decide, by decide⟩ (q0 := 19) rfl rfl rfl rfl rfl (Nat.le_of_ble_eq_true rfl) dX4_bestAt_25 ?_
    refine s_aload_n E 0 rfl dX4_bestAt_28 rfl ?_
    refine s_get E (v := .ref (q 19)) 0 5 in_X4 gX_0 rfl (by decide) m_f_X4_39 rfl dX4_bestAt_29 ?_
    refine s_geti E (y := (u2 19 13)) 19 13 in_X2 gX_19 rfl (by decide) m_f_X4_192 rfl rfl dX4_bestAt_32 ?_
    refine s_iload_n E 1 rfl dX4_bestAt_35 rfl ?_
    obtain ⟨u3, e3, h⟩ := bnd_some h
    refine s_callSi E kf_X4_endOf m_l_X4_145 (c_X4_endOf (wX cI q u2) (u2 19 13) x1 u3 e3) ⟨rfl, rfl, by decide, by decide⟩ rfl rfl (Nat.le_of_ble_eq_true rfl) dX4_bestAt_36 ?_
    obtain rfl := Option.some.inj h
    exact s_iret E rfl rfl dX4_bestAt_39
end
abbrev rm_X4_worth : Room := { frames := 6, cells := 0, slots := 0, locals := 150 }
section
noncomputable def f_X4_worth (σ : Nat → Nat → Int32) (x1 : Int32) : Option (Int32 × (Nat → Nat → Int32)) :=
  (if (f_X0_hasPerson σ x1) = 0 then (some ((-1), σ)) else ((f_X1_placeOf σ x1).bind fun u2 => (if u2 = 20 then (some ((-3), σ)) else ((f_X2_findChoices σ).bind fun u4 => ((f_X2_faresWithout u4 x1).bind fun u5 => (some (((f_X2_bestFares u4) - u5), u4)))))))
set_option maxRecDepth 100000 in
set_option maxHeartbeats 4000000 in
theorem c_X4_worth (q : Nat → Nat) (σ : Nat → Nat → Int32) (x1 : Int32) (z : (Int32 × (Nat → Nat → Int32))) (h : f_X4_worth σ x1 = some z) : CT l dC dI cI cZ A yX4_worth cX4_worth 2 (some .int) rm_X4_worth [.ref (q 0), .int x1] (wX cI q σ) (wX cI q z.2) (some (.int z.1)) := by
  refine b_met (by decide) (Nat.le_of_ble_eq_true rfl) ?_
  intro p e s m below meth c E
  have E : EV p s m _ meth c dC dI cI cZ cX4_worth 2 RX4 (some .int) := E
  show GG p l e rm_X4_worth s m _ below meth c _ A dC dI 2 (wX cI q σ) 0 [(0, .ref (q 0)), (1, .int x1)] []
  unfold f_X4_worth at h
  refine s_aload_n E 0 rfl dX4_worth_0 rfl ?_
  refine s_get E (v := .ref (q 3)) 0 1 in_X4 gX_0 rfl (by decide) m_f_X4_19 rfl dX4_worth_1 ?_
  refine s_iload_n E 1 rfl dX4_worth_4 rfl ?_
  refine s_callVi E kf_X0_hasPerson m_l_X4_91 (c_X0_hasPerson q σ x1) ⟨rfl, rfl, by decide, by decide⟩ (q0 := 3) rfl rfl rfl rfl rfl (Nat.le_of_ble_eq_true rfl) dX4_worth_5 ?_
  refine s_if_ne E 13 dX4_worth_8 (by decide) (fun c1 => ?_) (fun c1 => ?_)
  · have h := (if_pos c1).symm.trans h
    refine s_iconst E (v := (-1)) dX4_worth_11 ki_m1 ?_
    obtain rfl := Option.some.inj h
    exact s_iret E rfl rfl dX4_worth_12
  · have h := (if_neg c1).symm.trans h
    refine s_aload_n E 0 rfl dX4_worth_13 rfl ?_
    refine s_get E (v := .ref (q 7)) 0 2 in_X4 gX_0 rfl (by decide) m_f_X4_26 rfl dX4_worth_14 ?_
    refine s_iload_n E 1 rfl dX4_worth_17 rfl ?_
    obtain ⟨u2, e2, h⟩ := bnd_some h
    refine s_callVi E kf_X1_placeOf m_l_X4_111 (c_X1_placeOf q σ x1 u2 e2) ⟨rfl, rfl, by decide, by decide⟩ (q0 := 7) rfl rfl rfl rfl rfl (Nat.le_of_ble_eq_true rfl) dX4_worth_18 ?_
    refine s_bipush E (v := 20) dX4_worth_21 kb_20 ?_
    refine s_icmp_ne E 29 dX4_worth_23 (by decide) (fun c3 => ?_) (fun c3 => ?_)
    · have h := (if_pos c3).symm.trans h
      refine s_bipush E (v := (-3)) dX4_worth_26 kb_m3 ?_
      obtain rfl := Option.some.inj h
      exact s_iret E rfl rfl dX4_worth_28
    · have h := (if_neg c3).symm.trans h
      refine s_aload_n E 0 rfl dX4_worth_29 rfl ?_
      refine s_get E (v := .ref (q 19)) 0 5 in_X4 gX_0 rfl (by decide) m_f_X4_39 rfl dX4_worth_30 ?_
      refine s_aload_n E 0 rfl dX4_worth_33 rfl ?_
      refine s_get E (v := .ref (q 3)) 0 1 in_X4 gX_0 rfl (by decide) m_f_X4_19 rfl dX4_worth_34 ?_
      refine s_aload_n E 0 rfl dX4_worth_37 rfl ?_
      refine s_get E (v := .ref (q 7)) 0 2 in_X4 gX_0 rfl (by decide) m_f_X4_26 rfl dX4_worth_38 ?_
      obtain ⟨u4, e4, h⟩ := bnd_some h
      refine s_callVv E kf_X2_findChoices m_l_X4_181 (c_X2_findChoices q σ u4 e4) ⟨rfl, rfl, by decide, by decide⟩ (q0 := 19) rfl rfl rfl rfl rfl (Nat.le_of_ble_eq_true rfl) dX4_worth_41 ?_
      refine s_aload_n E 0 rfl dX4_worth_44 rfl ?_
      refine s_get E (v := .ref (q 19)) 0 5 in_X4 gX_0 rfl (by decide) m_f_X4_39 rfl dX4_worth_45 ?_
      refine s_callVi E kf_X2_bestFares m_l_X4_189 (c_X2_bestFares q u4) ⟨rfl, rfl, by decide, by decide⟩ (q0 := 19) rfl rfl rfl rfl rfl (Nat.le_of_ble_eq_true rfl) dX4_worth_48 ?_
      refine s_aload_n E 0 rfl dX4_worth_51 rfl ?_
      refine s_get E (v := .ref (q 19)) 0 5 in_X4 gX_0 rfl (by decide) m_f_X4_39 rfl dX4_worth_52 ?_
      refine s_iload_n E 1 rfl dX4_worth_55 rfl ?_
      obtain ⟨u5, e5, h⟩ := bnd_some h
      refine s_callVi E kf_X2_faresWithout m_l_X4_195 (c_X2_faresWithout q u4 x1 u5 e5) ⟨rfl, rfl, by decide, by decide⟩ (q0 := 19) rfl rfl rfl rfl rfl (Nat.le_of_ble_eq_true rfl) dX4_worth_56 ?_
      refine s_isub E dX4_worth_59 ?_
      obtain rfl := Option.some.inj h
      exact s_iret E rfl rfl dX4_worth_60
end
abbrev rm_X4_makes : Room := { frames := 6, cells := 0, slots := 0, locals := 150 }
section
noncomputable def f_X4_makes (σ : Nat → Nat → Int32) (x1 : Int32) : Option (Int32 × (Nat → Nat → Int32)) :=
  (if x1 < 1 then (some ((-2), σ)) else (if x1 ≤ 99 then ((f_X2_findChoices σ).bind fun u3 => ((f_X2_findMakeWeights u3).bind fun u4 => ((f_X2_madeBy u4 x1).bind fun u5 => (some (u5, u4))))) else (some ((-2), σ))))
set_option maxRecDepth 100000 in
set_option maxHeartbeats 4000000 in
theorem c_X4_makes (q : Nat → Nat) (σ : Nat → Nat → Int32) (x1 : Int32) (z : (Int32 × (Nat → Nat → Int32))) (h : f_X4_makes σ x1 = some z) : CT l dC dI cI cZ A yX4_makes cX4_makes 2 (some .int) rm_X4_makes [.ref (q 0), .int x1] (wX cI q σ) (wX cI q z.2) (some (.int z.1)) := by
  refine b_met (by decide) (Nat.le_of_ble_eq_true rfl) ?_
  intro p e s m below meth c E
  have E : EV p s m _ meth c dC dI cI cZ cX4_makes 2 RX4 (some .int) := E
  show GG p l e rm_X4_makes s m _ below meth c _ A dC dI 2 (wX cI q σ) 0 [(0, .ref (q 0)), (1, .int x1)] []
  unfold f_X4_makes at h
  refine s_iload_n E 1 rfl dX4_makes_0 rfl ?_
  refine s_iconst E (v := 1) dX4_makes_1 ki_1 ?_
  refine s_icmp_lt E 11 dX4_makes_2 (by decide) (fun c1 => ?_) (fun c1 => ?_)
  · have h := (if_pos c1).symm.trans h
    refine s_bipush E (v := (-2)) dX4_makes_11 kb_m2 ?_
    obtain rfl := Option.some.inj h
    exact s_iret E rfl rfl dX4_makes_13
  · have h := (if_neg c1).symm.trans h
    refine s_iload_n E 1 rfl dX4_makes_5 rfl ?_
    refine s_bipush E (v := 99) dX4_makes_6 kb_99 ?_
    refine s_icmp_le E 14 dX4_makes_8 (by decide) (fun c2 => ?_) (fun c2 => ?_)
    · have h := (if_pos c2).symm.trans h
      refine s_aload_n E 0 rfl dX4_makes_14 rfl ?_
      refine s_get E (v := .ref (q 19)) 0 5 in_X4 gX_0 rfl (by decide) m_f_X4_39 rfl dX4_makes_15 ?_
      refine s_aload_n E 0 rfl dX4_makes_18 rfl ?_
      refine s_get E (v := .ref (q 3)) 0 1 in_X4 gX_0 rfl (by decide) m_f_X4_19 rfl dX4_makes_19 ?_
      refine s_aload_n E 0 rfl dX4_makes_22 rfl ?_
      refine s_get E (v := .ref (q 7)) 0 2 in_X4 gX_0 rfl (by decide) m_f_X4_26 rfl dX4_makes_23 ?_
      obtain ⟨u3, e3, h⟩ := bnd_some h
      refine s_callVv E kf_X2_findChoices m_l_X4_181 (c_X2_findChoices q σ u3 e3) ⟨rfl, rfl, by decide, by decide⟩ (q0 := 19) rfl rfl rfl rfl rfl (Nat.le_of_ble_eq_true rfl) dX4_makes_26 ?_
      refine s_aload_n E 0 rfl dX4_makes_29 rfl ?_
      refine s_get E (v := .ref (q 19)) 0 5 in_X4 gX_0 rfl (by decide) m_f_X4_39 rfl dX4_makes_30 ?_
      obtain ⟨u4, e4, h⟩ := bnd_some h
      refine s_callVv E kf_X2_findMakeWeights m_l_X4_198 (c_X2_findMakeWeights q u3 u4 e4) ⟨rfl, rfl, by decide, by decide⟩ (q0 := 19) rfl rfl rfl rfl rfl (Nat.le_of_ble_eq_true rfl) dX4_makes_33 ?_
      refine s_aload_n E 0 rfl dX4_makes_36 rfl ?_
      refine s_get E (v := .ref (q 19)) 0 5 in_X4 gX_0 rfl (by decide) m_f_X4_39 rfl dX4_makes_37 ?_
      refine s_iload_n E 1 rfl dX4_makes_40 rfl ?_
      obtain ⟨u5, e5, h⟩ := bnd_some h
      refine s_callVi E kf_X2_madeBy m_l_X4_201 (c_X2_madeBy q u4 x1 u5 e5) ⟨rfl, rfl, by decide, by decide⟩ (q0 := 19) rfl rfl rfl rfl rfl (Nat.le_of_ble_eq_true rfl) dX4_makes_41 ?_
      obtain rfl := Option.some.inj h
      exact s_iret E rfl rfl dX4_makes_44
    · have h := (if_neg c2).symm.trans h
      refine s_bipush E (v := (-2)) dX4_makes_11 kb_m2 ?_
      obtain rfl := Option.some.inj h
      exact s_iret E rfl rfl dX4_makes_13
end
abbrev rm_X4_bestMakes : Room := { frames := 6, cells := 0, slots := 0, locals := 150 }
section
noncomputable def f_X4_bestMakes (σ : Nat → Nat → Int32) : Option (Int32 × (Nat → Nat → Int32)) :=
  ((f_X2_findChoices σ).bind fun u1 => ((f_X2_findMakeWeights u1).bind fun u2 => ((f_X2_bestMakeWeight u2).bind fun u3 => (some (u3, u2)))))
set_option maxRecDepth 100000 in
set_option maxHeartbeats 4000000 in
theorem c_X4_bestMakes (q : Nat → Nat) (σ : Nat → Nat → Int32) (z : (Int32 × (Nat → Nat → Int32))) (h : f_X4_bestMakes σ = some z) : CT l dC dI cI cZ A yX4_bestMakes cX4_bestMakes 1 (some .int) rm_X4_bestMakes [.ref (q 0)] (wX cI q σ) (wX cI q z.2) (some (.int z.1)) := by
  refine b_met (by decide) (Nat.le_of_ble_eq_true rfl) ?_
  intro p e s m below meth c E
  have E : EV p s m _ meth c dC dI cI cZ cX4_bestMakes 1 RX4 (some .int) := E
  show GG p l e rm_X4_bestMakes s m _ below meth c _ A dC dI 1 (wX cI q σ) 0 [(0, .ref (q 0))] []
  unfold f_X4_bestMakes at h
  refine s_aload_n E 0 rfl dX4_bestMakes_0 rfl ?_
  refine s_get E (v := .ref (q 19)) 0 5 in_X4 gX_0 rfl (by decide) m_f_X4_39 rfl dX4_bestMakes_1 ?_
  refine s_aload_n E 0 rfl dX4_bestMakes_4 rfl ?_
  refine s_get E (v := .ref (q 3)) 0 1 in_X4 gX_0 rfl (by decide) m_f_X4_19 rfl dX4_bestMakes_5 ?_
  refine s_aload_n E 0 rfl dX4_bestMakes_8 rfl ?_
  refine s_get E (v := .ref (q 7)) 0 2 in_X4 gX_0 rfl (by decide) m_f_X4_26 rfl dX4_bestMakes_9 ?_
  obtain ⟨u1, e1, h⟩ := bnd_some h
  refine s_callVv E kf_X2_findChoices m_l_X4_181 (c_X2_findChoices q σ u1 e1) ⟨rfl, rfl, by decide, by decide⟩ (q0 := 19) rfl rfl rfl rfl rfl (Nat.le_of_ble_eq_true rfl) dX4_bestMakes_12 ?_
  refine s_aload_n E 0 rfl dX4_bestMakes_15 rfl ?_
  refine s_get E (v := .ref (q 19)) 0 5 in_X4 gX_0 rfl (by decide) m_f_X4_39 rfl dX4_bestMakes_16 ?_
  obtain ⟨u2, e2, h⟩ := bnd_some h
  refine s_callVv E kf_X2_findMakeWeights m_l_X4_198 (c_X2_findMakeWeights q u1 u2 e2) ⟨rfl, rfl, by decide, by decide⟩ (q0 := 19) rfl rfl rfl rfl rfl (Nat.le_of_ble_eq_true rfl) dX4_bestMakes_19 ?_
  refine s_aload_n E 0 rfl dX4_bestMakes_22 rfl ?_
  refine s_get E (v := .ref (q 19)) 0 5 in_X4 gX_0 rfl (by decide) m_f_X4_39 rfl dX4_bestMakes_23 ?_
  obtain ⟨u3, e3, h⟩ := bnd_some h
  refine s_callVi E kf_X2_bestMakeWeight m_l_X4_204 (c_X2_bestMakeWeight q u2 u3 e3) ⟨rfl, rfl, by decide, by decide⟩ (q0 := 19) rfl rfl rfl rfl rfl (Nat.le_of_ble_eq_true rfl) dX4_bestMakes_26 ?_
  obtain rfl := Option.some.inj h
  exact s_iret E rfl rfl dX4_bestMakes_29
end
abbrev rm_X4_sets : Room := { frames := 6, cells := 0, slots := 0, locals := 150 }
section
noncomputable def f_X4_sets (σ : Nat → Nat → Int32) : Option (Int32 × (Nat → Nat → Int32)) :=
  ((f_X2_findChoices σ).bind fun u1 => ((f_X2_countSets u1).bind fun u2 => (some (u2, u1))))
set_option maxRecDepth 100000 in
set_option maxHeartbeats 4000000 in
theorem c_X4_sets (q : Nat → Nat) (σ : Nat → Nat → Int32) (z : (Int32 × (Nat → Nat → Int32))) (h : f_X4_sets σ = some z) : CT l dC dI cI cZ A yX4_sets cX4_sets 1 (some .int) rm_X4_sets [.ref (q 0)] (wX cI q σ) (wX cI q z.2) (some (.int z.1)) := by
  refine b_met (by decide) (Nat.le_of_ble_eq_true rfl) ?_
  intro p e s m below meth c E
  have E : EV p s m _ meth c dC dI cI cZ cX4_sets 1 RX4 (some .int) := E
  show GG p l e rm_X4_sets s m _ below meth c _ A dC dI 1 (wX cI q σ) 0 [(0, .ref (q 0))] []
  unfold f_X4_sets at h
  refine s_aload_n E 0 rfl dX4_sets_0 rfl ?_
  refine s_get E (v := .ref (q 19)) 0 5 in_X4 gX_0 rfl (by decide) m_f_X4_39 rfl dX4_sets_1 ?_
  refine s_aload_n E 0 rfl dX4_sets_4 rfl ?_
  refine s_get E (v := .ref (q 3)) 0 1 in_X4 gX_0 rfl (by decide) m_f_X4_19 rfl dX4_sets_5 ?_
  refine s_aload_n E 0 rfl dX4_sets_8 rfl ?_
  refine s_get E (v := .ref (q 7)) 0 2 in_X4 gX_0 rfl (by decide) m_f_X4_26 rfl dX4_sets_9 ?_
  obtain ⟨u1, e1, h⟩ := bnd_some h
  refine s_callVv E kf_X2_findChoices m_l_X4_181 (c_X2_findChoices q σ u1 e1) ⟨rfl, rfl, by decide, by decide⟩ (q0 := 19) rfl rfl rfl rfl rfl (Nat.le_of_ble_eq_true rfl) dX4_sets_12 ?_
  refine s_aload_n E 0 rfl dX4_sets_15 rfl ?_
  refine s_get E (v := .ref (q 19)) 0 5 in_X4 gX_0 rfl (by decide) m_f_X4_39 rfl dX4_sets_16 ?_
  obtain ⟨u2, e2, h⟩ := bnd_some h
  refine s_callVi E kf_X2_countSets m_l_X4_207 (c_X2_countSets q u1 u2 e2) ⟨rfl, rfl, by decide, by decide⟩ (q0 := 19) rfl rfl rfl rfl rfl (Nat.le_of_ble_eq_true rfl) dX4_sets_19 ?_
  obtain rfl := Option.some.inj h
  exact s_iret E rfl rfl dX4_sets_22
end
abbrev rm_X4_crossings : Room := { frames := 6, cells := 0, slots := 0, locals := 150 }
section
noncomputable def f_X4_crossings (σ : Nat → Nat → Int32) (x1 : Int32) : Option (Int32 × (Nat → Nat → Int32)) :=
  (if x1 < 1 then (some ((-2), σ)) else (if x1 ≤ 4 then ((f_X2_findChoices σ).bind fun u3 => ((f_X2_findChains u3).bind fun u4 => ((f_X2_faresWithin u4 x1).bind fun u5 => (some (u5, u4))))) else (some ((-2), σ))))
set_option maxRecDepth 100000 in
set_option maxHeartbeats 4000000 in
theorem c_X4_crossings (q : Nat → Nat) (σ : Nat → Nat → Int32) (x1 : Int32) (z : (Int32 × (Nat → Nat → Int32))) (h : f_X4_crossings σ x1 = some z) : CT l dC dI cI cZ A yX4_crossings cX4_crossings 2 (some .int) rm_X4_crossings [.ref (q 0), .int x1] (wX cI q σ) (wX cI q z.2) (some (.int z.1)) := by
  refine b_met (by decide) (Nat.le_of_ble_eq_true rfl) ?_
  intro p e s m below meth c E
  have E : EV p s m _ meth c dC dI cI cZ cX4_crossings 2 RX4 (some .int) := E
  show GG p l e rm_X4_crossings s m _ below meth c _ A dC dI 2 (wX cI q σ) 0 [(0, .ref (q 0)), (1, .int x1)] []
  unfold f_X4_crossings at h
  refine s_iload_n E 1 rfl dX4_crossings_0 rfl ?_
  refine s_iconst E (v := 1) dX4_crossings_1 ki_1 ?_
  refine s_icmp_lt E 10 dX4_crossings_2 (by decide) (fun c1 => ?_) (fun c1 => ?_)
  · have h := (if_pos c1).symm.trans h
    refine s_bipush E (v := (-2)) dX4_crossings_10 kb_m2 ?_
    obtain rfl := Option.some.inj h
    exact s_iret E rfl rfl dX4_crossings_12
  · have h := (if_neg c1).symm.trans h
    refine s_iload_n E 1 rfl dX4_crossings_5 rfl ?_
    refine s_iconst E (v := 4) dX4_crossings_6 ki_4 ?_
    refine s_icmp_le E 13 dX4_crossings_7 (by decide) (fun c2 => ?_) (fun c2 => ?_)
    · have h := (if_pos c2).symm.trans h
      refine s_aload_n E 0 rfl dX4_crossings_13 rfl ?_
      refine s_get E (v := .ref (q 19)) 0 5 in_X4 gX_0 rfl (by decide) m_f_X4_39 rfl dX4_crossings_14 ?_
      refine s_aload_n E 0 rfl dX4_crossings_17 rfl ?_
      refine s_get E (v := .ref (q 3)) 0 1 in_X4 gX_0 rfl (by decide) m_f_X4_19 rfl dX4_crossings_18 ?_
      refine s_aload_n E 0 rfl dX4_crossings_21 rfl ?_
      refine s_get E (v := .ref (q 7)) 0 2 in_X4 gX_0 rfl (by decide) m_f_X4_26 rfl dX4_crossings_22 ?_
      obtain ⟨u3, e3, h⟩ := bnd_some h
      refine s_callVv E kf_X2_findChoices m_l_X4_181 (c_X2_findChoices q σ u3 e3) ⟨rfl, rfl, by decide, by decide⟩ (q0 := 19) rfl rfl rfl rfl rfl (Nat.le_of_ble_eq_true rfl) dX4_crossings_25 ?_
      refine s_aload_n E 0 rfl dX4_crossings_28 rfl ?_
      refine s_get E (v := .ref (q 19)) 0 5 in_X4 gX_0 rfl (by decide) m_f_X4_39 rfl dX4_crossings_29 ?_
      obtain ⟨u4, e4, h⟩ := bnd_some h
      refine s_callVv E kf_X2_findChains m_l_X4_210 (c_X2_findChains q u3 u4 e4) ⟨rfl, rfl, by decide, by decide⟩ (q0 := 19) rfl rfl rfl rfl rfl (Nat.le_of_ble_eq_true rfl) dX4_crossings_32 ?_
      refine s_aload_n E 0 rfl dX4_crossings_35 rfl ?_
      refine s_get E (v := .ref (q 19)) 0 5 in_X4 gX_0 rfl (by decide) m_f_X4_39 rfl dX4_crossings_36 ?_
      refine s_iload_n E 1 rfl dX4_crossings_39 rfl ?_
      obtain ⟨u5, e5, h⟩ := bnd_some h
      refine s_callVi E kf_X2_faresWithin m_l_X4_213 (c_X2_faresWithin q u4 x1 u5 e5) ⟨rfl, rfl, by decide, by decide⟩ (q0 := 19) rfl rfl rfl rfl rfl (Nat.le_of_ble_eq_true rfl) dX4_crossings_40 ?_
      obtain rfl := Option.some.inj h
      exact s_iret E rfl rfl dX4_crossings_43
    · have h := (if_neg c2).symm.trans h
      refine s_bipush E (v := (-2)) dX4_crossings_10 kb_m2 ?_
      obtain rfl := Option.some.inj h
      exact s_iret E rfl rfl dX4_crossings_12
end
abbrev rm_X4_all : Room := { frames := 6, cells := 0, slots := 0, locals := 150 }
section
noncomputable def f_X4_all (σ : Nat → Nat → Int32) : Option (Int32 × (Nat → Nat → Int32)) :=
  ((f_X2_findChoices σ).bind fun u1 => ((f_X2_findChains u1).bind fun u2 => ((f_X2_fewestForAll u2).bind fun u3 => (some (u3, u2)))))
set_option maxRecDepth 100000 in
set_option maxHeartbeats 4000000 in
theorem c_X4_all (q : Nat → Nat) (σ : Nat → Nat → Int32) (z : (Int32 × (Nat → Nat → Int32))) (h : f_X4_all σ = some z) : CT l dC dI cI cZ A yX4_all cX4_all 1 (some .int) rm_X4_all [.ref (q 0)] (wX cI q σ) (wX cI q z.2) (some (.int z.1)) := by
  refine b_met (by decide) (Nat.le_of_ble_eq_true rfl) ?_
  intro p e s m below meth c E
  have E : EV p s m _ meth c dC dI cI cZ cX4_all 1 RX4 (some .int) := E
  show GG p l e rm_X4_all s m _ below meth c _ A dC dI 1 (wX cI q σ) 0 [(0, .ref (q 0))] []
  unfold f_X4_all at h
  refine s_aload_n E 0 rfl dX4_all_0 rfl ?_
  refine s_get E (v := .ref (q 19)) 0 5 in_X4 gX_0 rfl (by decide) m_f_X4_39 rfl dX4_all_1 ?_
  refine s_aload_n E 0 rfl dX4_all_4 rfl ?_
  refine s_get E (v := .ref (q 3)) 0 1 in_X4 gX_0 rfl (by decide) m_f_X4_19 rfl dX4_all_5 ?_
  refine s_aload_n E 0 rfl dX4_all_8 rfl ?_
  refine s_get E (v := .ref (q 7)) 0 2 in_X4 gX_0 rfl (by decide) m_f_X4_26 rfl dX4_all_9 ?_
  obtain ⟨u1, e1, h⟩ := bnd_some h
  refine s_callVv E kf_X2_findChoices m_l_X4_181 (c_X2_findChoices q σ u1 e1) ⟨rfl, rfl, by decide, by decide⟩ (q0 := 19) rfl rfl rfl rfl rfl (Nat.le_of_ble_eq_true rfl) dX4_all_12 ?_
  refine s_aload_n E 0 rfl dX4_all_15 rfl ?_
  refine s_get E (v := .ref (q 19)) 0 5 in_X4 gX_0 rfl (by decide) m_f_X4_39 rfl dX4_all_16 ?_
  obtain ⟨u2, e2, h⟩ := bnd_some h
  refine s_callVv E kf_X2_findChains m_l_X4_210 (c_X2_findChains q u1 u2 e2) ⟨rfl, rfl, by decide, by decide⟩ (q0 := 19) rfl rfl rfl rfl rfl (Nat.le_of_ble_eq_true rfl) dX4_all_19 ?_
  refine s_aload_n E 0 rfl dX4_all_22 rfl ?_
  refine s_get E (v := .ref (q 19)) 0 5 in_X4 gX_0 rfl (by decide) m_f_X4_39 rfl dX4_all_23 ?_
  obtain ⟨u3, e3, h⟩ := bnd_some h
  refine s_callVi E kf_X2_fewestForAll m_l_X4_216 (c_X2_fewestForAll q u2 u3 e3) ⟨rfl, rfl, by decide, by decide⟩ (q0 := 19) rfl rfl rfl rfl rfl (Nat.le_of_ble_eq_true rfl) dX4_all_26 ?_
  obtain rfl := Option.some.inj h
  exact s_iret E rfl rfl dX4_all_29
end
abbrev rm_X4_lightestEnd : Room := { frames := 2, cells := 0, slots := 0, locals := 51 }
section
noncomputable def f_X4_lightestEnd_J45_9 (σ : Nat → Nat → Int32) (x1 : Int32) (x2 : Int32) (t3 : Int32) (t4 : Int32) (t5 : Int32) (s0 : Int32) (rec : Int32 → Int32 → Int32 → Option Int32) : Option Int32 :=
  (if s0 = 0 then (rec t3 t4 (t5 + 1)) else ((f_X0_willSit σ x2 t5).bind fun u4 => (if u4 = 0 then (rec t3 t4 (t5 + 1)) else ((f_X0_loadOf_3_4_9 σ x1 t5 0).bind fun u6 => (if t3 = (-9) then (rec t5 ((f_X0_armOf σ t5) * u6) (t5 + 1)) else (if t4 ≤ ((f_X0_armOf σ t5) * u6) then (rec t3 t4 (t5 + 1)) else (rec t5 ((f_X0_armOf σ t5) * u6) (t5 + 1))))))))
set_option maxRecDepth 100000 in
set_option maxHeartbeats 4000000 in
theorem w_X4_lightestEnd_J45_9 (E : EV p s m args meth c dC dI cI cZ cX4_lightestEnd 8 RX4 (some .int)) (q : Nat → Nat) (σ : Nat → Nat → Int32) (x1 : Int32) (x2 : Int32) (t3 : Int32) (t4 : Int32) (t5 : Int32) (s0 : Int32) (z : Int32) (rec : Int32 → Int32 → Int32 → Option Int32) (hrec : ∀ (y3 y4 y5 : Int32), rec y3 y4 y5 = some z → GG p l e rm_X4_lightestEnd s m args below meth c Q A dC dI 8 (wX cI q σ) 9 [(0, .ref (q 0)), (1, .int x1), (2, .int x2), (3, .int y3), (4, .int y4), (5, .int y5)] []) (hK : GG p l e rm_X4_lightestEnd s m args below meth c Q A dC dI 8 (wX cI q σ) 128 [(0, .ref (q 0)), (1, .int x1), (2, .int x2), (3, .int z)] []) (h : f_X4_lightestEnd_J45_9 σ x1 x2 t3 t4 t5 s0 rec = some z) : GG p l e rm_X4_lightestEnd s m args below meth c Q A dC dI 8 (wX cI q σ) 45 [(0, .ref (q 0)), (1, .int x1), (2, .int x2), (3, .int t3), (4, .int t4), (5, .int t5)] [.int s0] := by
  unfold f_X4_lightestEnd_J45_9 at h
  refine s_istore E (lv' := [(0, .ref (q 0)), (1, .int x1), (2, .int x2), (3, .int t3), (4, .int t4), (5, .int t5), (6, .int s0)]) dX4_lightestEnd_45 rfl rfl rfl (by decide) ?_
  refine s_iload E 6 rfl dX4_lightestEnd_47 ?_
  refine s_if_eq E 122 dX4_lightestEnd_49 (by decide) (fun c3 => ?_) (fun c3 => ?_)
  · have h := (if_pos c3).symm.trans h
    refine s_iinc E (v := (t5 + 1)) (lv' := [(0, .ref (q 0)), (1, .int x1), (2, .int x2), (3, .int t3), (4, .int t4), (5, .int (t5 + 1)), (6, .int s0)]) 5 rfl dX4_lightestEnd_122 ki_1 rfl rfl rfl rfl (by decide) ?_
    refine s_goto E 9 dX4_lightestEnd_125 (by decide) ?_
    refine s_sub E (lv' := [(0, .ref (q 0)), (1, .int x1), (2, .int x2), (3, .int t3), (4, .int t4), (5, .int (t5 + 1))]) [0, 1, 2, 3, 4, 5] rfl ?_
    exact hrec t3 t4 (t5 + 1) h
  · have h := (if_neg c3).symm.trans h
    refine s_aload_n E 0 rfl dX4_lightestEnd_52 rfl ?_
    refine s_get E (v := .ref (q 3)) 0 1 in_X4 gX_0 rfl (by decide) m_f_X4_19 rfl dX4_lightestEnd_53 ?_
    refine s_iload_n E 2 rfl dX4_lightestEnd_56 rfl ?_
    refine s_iload E 5 rfl dX4_lightestEnd_57 ?_
    obtain ⟨u4, e4, h⟩ := bnd_some h
    refine s_callVi E kf_X0_willSit m_l_X4_121 (c_X0_willSit q σ x2 t5 u4 e4) ⟨rfl, rfl, by decide, by decide⟩ (q0 := 3) rfl rfl rfl rfl rfl (Nat.le_of_ble_eq_true rfl) dX4_lightestEnd_59 ?_
    refine s_if_eq E 122 dX4_lightestEnd_62 (by decide) (fun c5 => ?_) (fun c5 => ?_)
    · have h := (if_pos c5).symm.trans h
      refine s_iinc E (v := (t5 + 1)) (lv' := [(0, .ref (q 0)), (1, .int x1), (2, .int x2), (3, .int t3), (4, .int t4), (5, .int (t5 + 1)), (6, .int s0)]) 5 rfl dX4_lightestEnd_122 ki_1 rfl rfl rfl rfl (by decide) ?_
      refine s_goto E 9 dX4_lightestEnd_125 (by decide) ?_
      refine s_sub E (lv' := [(0, .ref (q 0)), (1, .int x1), (2, .int x2), (3, .int t3), (4, .int t4), (5, .int (t5 + 1))]) [0, 1, 2, 3, 4, 5] rfl ?_
      exact hrec t3 t4 (t5 + 1) h
    · have h := (if_neg c5).symm.trans h
      refine s_aload_n E 0 rfl dX4_lightestEnd_65 rfl ?_
      refine s_get E (v := .ref (q 3)) 0 1 in_X4 gX_0 rfl (by decide) m_f_X4_19 rfl dX4_lightestEnd_66 ?_
      refine s_iload E 5 rfl dX4_lightestEnd_69 ?_
      refine s_callVi E kf_X0_armOf m_l_X4_245 (c_X0_armOf q σ t5) ⟨rfl, rfl, by decide, by decide⟩ (q0 := 3) rfl rfl rfl rfl rfl (Nat.le_of_ble_eq_true rfl) dX4_lightestEnd_71 ?_
      refine s_aload_n E 0 rfl dX4_lightestEnd_74 rfl ?_
      refine s_get E (v := .ref (q 3)) 0 1 in_X4 gX_0 rfl (by decide) m_f_X4_19 rfl dX4_lightestEnd_75 ?_
      refine s_iload_n E 1 rfl dX4_lightestEnd_78 rfl ?_
      refine s_iload E 5 rfl dX4_lightestEnd_79 ?_
      refine s_aload_n E 0 rfl dX4_lightestEnd_81 rfl ?_
      refine s_get E (v := .ref (q 3)) 0 1 in_X4 gX_0 rfl (by decide) m_f_X4_19 rfl dX4_lightestEnd_82 ?_
      refine s_get E (v := .ref (q 4)) 3 6 in_X0 gX_3 rfl (by decide) m_f_X4_95 rfl dX4_lightestEnd_85 ?_
      refine s_aload_n E 0 rfl dX4_lightestEnd_88 rfl ?_
      refine s_get E (v := .ref (q 7)) 0 2 in_X4 gX_0 rfl (by decide) m_f_X4_26 rfl dX4_lightestEnd_89 ?_
      refine s_get E (v := .ref (q 9)) 7 1 in_X1 gX_7 rfl (by decide) m_f_X4_105 rfl dX4_lightestEnd_92 ?_
      refine s_iconst E (v := 0) dX4_lightestEnd_95 ki_0 ?_
      obtain ⟨u6, e6, h⟩ := bnd_some h
      refine s_callVi E kf_X0_loadOf m_l_X4_151 (c_X0_loadOf_3_4_9 q σ x1 t5 0 u6 e6) ⟨rfl, rfl, by decide, by decide⟩ (q0 := 3) rfl rfl rfl rfl rfl (Nat.le_of_ble_eq_true rfl) dX4_lightestEnd_96 ?_
      refine s_imul E dX4_lightestEnd_99 ?_
      refine s_istore E (lv' := [(0, .ref (q 0)), (1, .int x1), (2, .int x2), (3, .int t3), (4, .int t4), (5, .int t5), (6, .int s0), (7, .int ((f_X0_armOf σ t5) * u6))]) dX4_lightestEnd_100 rfl rfl rfl (by decide) ?_
      refine s_iload_n E 3 rfl dX4_lightestEnd_102 rfl ?_
      refine s_bipush E (v := (-9)) dX4_lightestEnd_103 kb_m9 ?_
      refine s_icmp_eq E 115 dX4_lightestEnd_105 (by decide) (fun c7 => ?_) (fun c7 => ?_)
      · have h := (if_pos c7).symm.trans h
        refine s_iload E 5 rfl dX4_lightestEnd_115 ?_
        refine s_istore_n E (lv' := [(0, .ref (q 0)), (1, .int x1), (2, .int x2), (3, .int t5), (4, .int t4), (5, .int t5), (6, .int s0), (7, .int ((f_X0_armOf σ t5) * u6))]) dX4_lightestEnd_117 rfl rfl rfl rfl (by decide) ?_
        refine s_iload E 7 rfl dX4_lightestEnd_118 ?_
        refine s_istore E (lv' := [(0, .ref (q 0)), (1, .int x1), (2, .int x2), (3, .int t5), (4, .int ((f_X0_armOf σ t5) * u6)), (5, .int t5), (6, .int s0), (7, .int ((f_X0_armOf σ t5) * u6))]) dX4_lightestEnd_120 rfl rfl rfl (by decide) ?_
        refine s_iinc E (v := (t5 + 1)) (lv' := [(0, .ref (q 0)), (1, .int x1), (2, .int x2), (3, .int t5), (4, .int ((f_X0_armOf σ t5) * u6)), (5, .int (t5 + 1)), (6, .int s0), (7, .int ((f_X0_armOf σ t5) * u6))]) 5 rfl dX4_lightestEnd_122 ki_1 rfl rfl rfl rfl (by decide) ?_
        refine s_goto E 9 dX4_lightestEnd_125 (by decide) ?_
        refine s_sub E (lv' := [(0, .ref (q 0)), (1, .int x1), (2, .int x2), (3, .int t5), (4, .int ((f_X0_armOf σ t5) * u6)), (5, .int (t5 + 1))]) [0, 1, 2, 3, 4, 5] rfl ?_
        exact hrec t5 ((f_X0_armOf σ t5) * u6) (t5 + 1) h
      · have h := (if_neg c7).symm.trans h
        refine s_iload E 7 rfl dX4_lightestEnd_108 ?_
        refine s_iload E 4 rfl dX4_lightestEnd_110 ?_
        refine s_icmp_ge E 122 dX4_lightestEnd_112 (by decide) (fun c8 => ?_) (fun c8 => ?_)
        · have h := (if_pos c8).symm.trans h
          refine s_iinc E (v := (t5 + 1)) (lv' := [(0, .ref (q 0)), (1, .int x1), (2, .int x2), (3, .int t3), (4, .int t4), (5, .int (t5 + 1)), (6, .int s0), (7, .int ((f_X0_armOf σ t5) * u6))]) 5 rfl dX4_lightestEnd_122 ki_1 rfl rfl rfl rfl (by decide) ?_
          refine s_goto E 9 dX4_lightestEnd_125 (by decide) ?_
          refine s_sub E (lv' := [(0, .ref (q 0)), (1, .int x1), (2, .int x2), (3, .int t3), (4, .int t4), (5, .int (t5 + 1))]) [0, 1, 2, 3, 4, 5] rfl ?_
          exact hrec t3 t4 (t5 + 1) h
        · have h := (if_neg c8).symm.trans h
          refine s_iload E 5 rfl dX4_lightestEnd_115 ?_
          refine s_istore_n E (lv' := [(0, .ref (q 0)), (1, .int x1), (2, .int x2), (3, .int t5), (4, .int t4), (5, .int t5), (6, .int s0), (7, .int ((f_X0_armOf σ t5) * u6))]) dX4_lightestEnd_117 rfl rfl rfl rfl (by decide) ?_
          refine s_iload E 7 rfl dX4_lightestEnd_118 ?_
          refine s_istore E (lv' := [(0, .ref (q 0)), (1, .int x1), (2, .int x2), (3, .int t5), (4, .int ((f_X0_armOf σ t5) * u6)), (5, .int t5), (6, .int s0), (7, .int ((f_X0_armOf σ t5) * u6))]) dX4_lightestEnd_120 rfl rfl rfl (by decide) ?_
          refine s_iinc E (v := (t5 + 1)) (lv' := [(0, .ref (q 0)), (1, .int x1), (2, .int x2), (3, .int t5), (4, .int ((f_X0_armOf σ t5) * u6)), (5, .int (t5 + 1)), (6, .int s0), (7, .int ((f_X0_armOf σ t5) * u6))]) 5 rfl dX4_lightestEnd_122 ki_1 rfl rfl rfl rfl (by decide) ?_
          refine s_goto E 9 dX4_lightestEnd_125 (by decide) ?_
          refine s_sub E (lv' := [(0, .ref (q 0)), (1, .int x1), (2, .int x2), (3, .int t5), (4, .int ((f_X0_armOf σ t5) * u6)), (5, .int (t5 + 1))]) [0, 1, 2, 3, 4, 5] rfl ?_
          exact hrec t5 ((f_X0_armOf σ t5) * u6) (t5 + 1) h
noncomputable def f_X4_lightestEnd_L9 (σ : Nat → Nat → Int32) (x1 : Int32) (x2 : Int32) : Nat → Int32 → Int32 → Int32 → Option Int32
  | 0, _, _, _ => none
  | n + 1, y3, y4, y5 =>
    (if (σ 3 0) ≤ y5 then (some y3) else (if (σ 3 3) ≤ (f_J6_bitCount_0f7a4 (f_X4_sitters x1 y5)) then (f_X4_lightestEnd_J45_9 σ x1 x2 y3 y4 y5 0 (f_X4_lightestEnd_L9 σ x1 x2 n)) else (f_X4_lightestEnd_J45_9 σ x1 x2 y3 y4 y5 1 (f_X4_lightestEnd_L9 σ x1 x2 n))))
set_option maxRecDepth 100000 in
set_option maxHeartbeats 4000000 in
theorem w_X4_lightestEnd_L9 (E : EV p s m args meth c dC dI cI cZ cX4_lightestEnd 8 RX4 (some .int)) (q : Nat → Nat) (σ : Nat → Nat → Int32) (x1 : Int32) (x2 : Int32) : ∀ (n : Nat) (y3 y4 y5 : Int32) (z : Int32), f_X4_lightestEnd_L9 σ x1 x2 n y3 y4 y5 = some z → GG p l e rm_X4_lightestEnd s m args below meth c Q A dC dI 8 (wX cI q σ) 128 [(0, .ref (q 0)), (1, .int x1), (2, .int x2), (3, .int z)] [] → GG p l e rm_X4_lightestEnd s m args below meth c Q A dC dI 8 (wX cI q σ) 9 [(0, .ref (q 0)), (1, .int x1), (2, .int x2), (3, .int y3), (4, .int y4), (5, .int y5)] [] := by
  intro n
  induction n with
  | zero =>
    intro y3 y4 y5 z h
    rw [f_X4_lightestEnd_L9] at h
    cases h
  | succ n ih =>
    intro y3 y4 y5 z h hK
    rw [f_X4_lightestEnd_L9] at h
    refine s_iload E 5 rfl dX4_lightestEnd_9 ?_
    refine s_aload_n E 0 rfl dX4_lightestEnd_11 rfl ?_
    refine s_get E (v := .ref (q 3)) 0 1 in_X4 gX_0 rfl (by decide) m_f_X4_19 rfl dX4_lightestEnd_12 ?_
    refine s_geti E (y := (σ 3 0)) 3 0 in_X0 gX_3 rfl (by decide) m_f_X4_73 rfl rfl dX4_lightestEnd_15 ?_
    refine s_icmp_ge E 128 dX4_lightestEnd_18 (by decide) (fun c1 => ?_) (fun c1 => ?_)
    · have h := (if_pos c1).symm.trans h
      refine s_sub E (lv' := [(0, .ref (q 0)), (1, .int x1), (2, .int x2), (3, .int y3)]) [0, 1, 2, 3] rfl ?_
      obtain rfl := Option.some.inj h
      exact hK
    · have h := (if_neg c1).symm.trans h
      refine s_iload_n E 1 rfl dX4_lightestEnd_21 rfl ?_
      refine s_iload E 5 rfl dX4_lightestEnd_22 ?_
      refine s_callSi E kf_X4_sitters m_l_X4_128 (c_X4_sitters (wX cI q σ) x1 y5) ⟨rfl, rfl, by decide, by decide⟩ rfl rfl (Nat.le_of_ble_eq_true rfl) dX4_lightestEnd_24 ?_
      refine s_callSi E kf_J6_bitCount_0f7a4 m_l_X4_132 (c_J6_bitCount_0f7a4 (wX cI q σ) (f_X4_sitters x1 y5)) ⟨rfl, rfl, by decide, by decide⟩ rfl rfl (Nat.le_of_ble_eq_true rfl) dX4_lightestEnd_27 ?_
      refine s_aload_n E 0 rfl dX4_lightestEnd_30 rfl ?_
      refine s_get E (v := .ref (q 3)) 0 1 in_X4 gX_0 rfl (by decide) m_f_X4_19 rfl dX4_lightestEnd_31 ?_
      refine s_geti E (y := (σ 3 3)) 3 3 in_X0 gX_3 rfl (by decide) m_f_X4_82 rfl rfl dX4_lightestEnd_34 ?_
      refine s_icmp_ge E 44 dX4_lightestEnd_37 (by decide) (fun c2 => ?_) (fun c2 => ?_)
      · have h := (if_pos c2).symm.trans h
        refine s_iconst E (v := 0) dX4_lightestEnd_44 ki_0 ?_
        exact w_X4_lightestEnd_J45_9 E q σ x1 x2 y3 y4 y5 0 z _ (fun y3 y4 y5 h => ih y3 y4 y5 z h hK) hK h
      · have h := (if_neg c2).symm.trans h
        refine s_iconst E (v := 1) dX4_lightestEnd_40 ki_1 ?_
        refine s_goto E 45 dX4_lightestEnd_41 (by decide) ?_
        exact w_X4_lightestEnd_J45_9 E q σ x1 x2 y3 y4 y5 1 z _ (fun y3 y4 y5 h => ih y3 y4 y5 z h hK) hK h
noncomputable def f_X4_lightestEnd (σ : Nat → Nat → Int32) (x1 : Int32) (x2 : Int32) : Option Int32 :=
  ((f_X4_lightestEnd_L9 σ x1 x2 fuel (-9) 0 0).bind fun u9 => (some u9))
set_option maxRecDepth 100000 in
set_option maxHeartbeats 4000000 in
theorem c_X4_lightestEnd (q : Nat → Nat) (σ : Nat → Nat → Int32) (x1 : Int32) (x2 : Int32) (z : Int32) (h : f_X4_lightestEnd σ x1 x2 = some z) : CT l dC dI cI cZ A yX4_lightestEnd cX4_lightestEnd 8 (some .int) rm_X4_lightestEnd [.ref (q 0), .int x1, .int x2] (wX cI q σ) (wX cI q σ) (some (.int z)) := by
  refine b_met (by decide) (Nat.le_of_ble_eq_true rfl) ?_
  intro p e s m below meth c E
  have E : EV p s m _ meth c dC dI cI cZ cX4_lightestEnd 8 RX4 (some .int) := E
  show GG p l e rm_X4_lightestEnd s m _ below meth c _ A dC dI 8 (wX cI q σ) 0 [(0, .ref (q 0)), (1, .int x1), (2, .int x2)] []
  unfold f_X4_lightestEnd at h
  refine s_bipush E (v := (-9)) dX4_lightestEnd_0 kb_m9 ?_
  refine s_istore_n E (lv' := [(0, .ref (q 0)), (1, .int x1), (2, .int x2), (3, .int (-9))]) dX4_lightestEnd_2 rfl rfl rfl rfl (by decide) ?_
  refine s_iconst E (v := 0) dX4_lightestEnd_3 ki_0 ?_
  refine s_istore E (lv' := [(0, .ref (q 0)), (1, .int x1), (2, .int x2), (3, .int (-9)), (4, .int 0)]) dX4_lightestEnd_4 rfl rfl rfl (by decide) ?_
  refine s_iconst E (v := 0) dX4_lightestEnd_6 ki_0 ?_
  refine s_istore E (lv' := [(0, .ref (q 0)), (1, .int x1), (2, .int x2), (3, .int (-9)), (4, .int 0), (5, .int 0)]) dX4_lightestEnd_7 rfl rfl rfl (by decide) ?_
  obtain ⟨u9, e9, h⟩ := bnd_some h
  refine w_X4_lightestEnd_L9 E q σ x1 x2 fuel (-9) 0 0 u9 e9 ?_
  refine s_iload_n E 3 rfl dX4_lightestEnd_128 rfl ?_
  obtain rfl := Option.some.inj h
  exact s_iret E rfl rfl dX4_lightestEnd_129
end
abbrev rm_X4_crewByRule : Room := { frames := 3, cells := 0, slots := 0, locals := 78 }
section
noncomputable def f_X4_crewByRule_L12 (σ : Nat → Nat → Int32) (x1 : Int32) : Nat → Int32 → Int32 → Option Int32
  | 0, _, _ => none
  | n + 1, y2, y3 =>
    (if (σ 3 5) ≤ y3 then (some y2) else (if ((shr x1 y3) &&& 1) = 0 then ((f_X4_lightestEnd σ y2 y3).bind fun u4 => (if u4 = (-9) then (f_X4_crewByRule_L12 σ x1 n y2 (y3 + 1)) else (f_X4_crewByRule_L12 σ x1 n (f_X4_seat y2 y3 u4) (y3 + 1)))) else (f_X4_crewByRule_L12 σ x1 n y2 (y3 + 1))))
set_option maxRecDepth 100000 in
set_option maxHeartbeats 4000000 in
theorem w_X4_crewByRule_L12 (E : EV p s m args meth c dC dI cI cZ cX4_crewByRule 5 RX4 (some .int)) (q : Nat → Nat) (σ : Nat → Nat → Int32) (x1 : Int32) : ∀ (n : Nat) (y2 y3 : Int32) (z : Int32), f_X4_crewByRule_L12 σ x1 n y2 y3 = some z → GG p l e rm_X4_crewByRule s m args below meth c Q A dC dI 5 (wX cI q σ) 60 [(0, .ref (q 0)), (1, .int x1), (2, .int z)] [] → GG p l e rm_X4_crewByRule s m args below meth c Q A dC dI 5 (wX cI q σ) 12 [(0, .ref (q 0)), (1, .int x1), (2, .int y2), (3, .int y3)] [] := by
  intro n
  induction n with
  | zero =>
    intro y2 y3 z h
    rw [f_X4_crewByRule_L12] at h
    cases h
  | succ n ih =>
    intro y2 y3 z h hK
    rw [f_X4_crewByRule_L12] at h
    refine s_iload_n E 3 rfl dX4_crewByRule_12 rfl ?_
    refine s_aload_n E 0 rfl dX4_crewByRule_13 rfl ?_
    refine s_get E (v := .ref (q 3)) 0 1 in_X4 gX_0 rfl (by decide) m_f_X4_19 rfl dX4_crewByRule_14 ?_
    refine s_geti E (y := (σ 3 5)) 3 5 in_X0 gX_3 rfl (by decide) m_f_X4_70 rfl rfl dX4_crewByRule_17 ?_
    refine s_icmp_ge E 60 dX4_crewByRule_20 (by decide) (fun c2 => ?_) (fun c2 => ?_)
    · have h := (if_pos c2).symm.trans h
      refine s_sub E (lv' := [(0, .ref (q 0)), (1, .int x1), (2, .int y2)]) [0, 1, 2] rfl ?_
      obtain rfl := Option.some.inj h
      exact hK
    · have h := (if_neg c2).symm.trans h
      refine s_iload_n E 1 rfl dX4_crewByRule_23 rfl ?_
      refine s_iload_n E 3 rfl dX4_crewByRule_24 rfl ?_
      refine s_ishr E dX4_crewByRule_25 ?_
      refine s_iconst E (v := 1) dX4_crewByRule_26 ki_1 ?_
      refine s_iand E dX4_crewByRule_27 ?_
      refine s_if_ne E 54 dX4_crewByRule_28 (by decide) (fun c3 => ?_) (fun c3 => ?_)
      · have h := (if_pos c3).symm.trans h
        refine s_aload_n E 0 rfl dX4_crewByRule_31 rfl ?_
        refine s_iload_n E 2 rfl dX4_crewByRule_32 rfl ?_
        refine s_iload_n E 3 rfl dX4_crewByRule_33 rfl ?_
        obtain ⟨u4, e4, h⟩ := bnd_some h
        refine s_callVi E kf_X4_lightestEnd m_l_X4_242 (c_X4_lightestEnd q σ y2 y3 u4 e4) ⟨rfl, rfl, by decide, by decide⟩ (q0 := 0) rfl rfl rfl rfl rfl (Nat.le_of_ble_eq_true rfl) dX4_crewByRule_34 ?_
        refine s_istore E (lv' := [(0, .ref (q 0)), (1, .int x1), (2, .int y2), (3, .int y3), (4, .int u4)]) dX4_crewByRule_37 rfl rfl rfl (by decide) ?_
        refine s_iload E 4 rfl dX4_crewByRule_39 ?_
        refine s_bipush E (v := (-9)) dX4_crewByRule_41 kb_m9 ?_
        refine s_icmp_eq E 54 dX4_crewByRule_43 (by decide) (fun c5 => ?_) (fun c5 => ?_)
        · have h := (if_pos c5).symm.trans h
          refine s_iinc E (v := (y3 + 1)) (lv' := [(0, .ref (q 0)), (1, .int x1), (2, .int y2), (3, .int (y3 + 1)), (4, .int u4)]) 3 rfl dX4_crewByRule_54 ki_1 rfl rfl rfl rfl (by decide) ?_
          refine s_goto E 12 dX4_crewByRule_57 (by decide) ?_
          refine s_sub E (lv' := [(0, .ref (q 0)), (1, .int x1), (2, .int y2), (3, .int (y3 + 1))]) [0, 1, 2, 3] rfl ?_
          exact ih y2 (y3 + 1) z h hK
        · have h := (if_neg c5).symm.trans h
          refine s_iload_n E 2 rfl dX4_crewByRule_46 rfl ?_
          refine s_iload_n E 3 rfl dX4_crewByRule_47 rfl ?_
          refine s_iload E 4 rfl dX4_crewByRule_48 ?_
          refine s_callSi E kf_X4_seat m_l_X4_137 (c_X4_seat (wX cI q σ) y2 y3 u4) ⟨rfl, rfl, by decide, by decide⟩ rfl rfl (Nat.le_of_ble_eq_true rfl) dX4_crewByRule_50 ?_
          refine s_istore_n E (lv' := [(0, .ref (q 0)), (1, .int x1), (2, .int (f_X4_seat y2 y3 u4)), (3, .int y3), (4, .int u4)]) dX4_crewByRule_53 rfl rfl rfl rfl (by decide) ?_
          refine s_iinc E (v := (y3 + 1)) (lv' := [(0, .ref (q 0)), (1, .int x1), (2, .int (f_X4_seat y2 y3 u4)), (3, .int (y3 + 1)), (4, .int u4)]) 3 rfl dX4_crewByRule_54 ki_1 rfl rfl rfl rfl (by decide) ?_
          refine s_goto E 12 dX4_crewByRule_57 (by decide) ?_
          refine s_sub E (lv' := [(0, .ref (q 0)), (1, .int x1), (2, .int (f_X4_seat y2 y3 u4)), (3, .int (y3 + 1))]) [0, 1, 2, 3] rfl ?_
          exact ih (f_X4_seat y2 y3 u4) (y3 + 1) z h hK
      · have h := (if_neg c3).symm.trans h
        refine s_iinc E (v := (y3 + 1)) (lv' := [(0, .ref (q 0)), (1, .int x1), (2, .int y2), (3, .int (y3 + 1))]) 3 rfl dX4_crewByRule_54 ki_1 rfl rfl rfl rfl (by decide) ?_
        refine s_goto E 12 dX4_crewByRule_57 (by decide) ?_
        exact ih y2 (y3 + 1) z h hK
noncomputable def f_X4_crewByRule (σ : Nat → Nat → Int32) : Option Int32 :=
  ((f_X1_gone σ).bind fun u1 => ((f_X4_crewByRule_L12 σ u1 fuel 0 0).bind fun u6 => (some u6)))
set_option maxRecDepth 100000 in
set_option maxHeartbeats 4000000 in
theorem c_X4_crewByRule (q : Nat → Nat) (σ : Nat → Nat → Int32) (z : Int32) (h : f_X4_crewByRule σ = some z) : CT l dC dI cI cZ A yX4_crewByRule cX4_crewByRule 5 (some .int) rm_X4_crewByRule [.ref (q 0)] (wX cI q σ) (wX cI q σ) (some (.int z)) := by
  refine b_met (by decide) (Nat.le_of_ble_eq_true rfl) ?_
  intro p e s m below meth c E
  have E : EV p s m _ meth c dC dI cI cZ cX4_crewByRule 5 RX4 (some .int) := E
  show GG p l e rm_X4_crewByRule s m _ below meth c _ A dC dI 5 (wX cI q σ) 0 [(0, .ref (q 0))] []
  unfold f_X4_crewByRule at h
  refine s_aload_n E 0 rfl dX4_crewByRule_0 rfl ?_
  refine s_get E (v := .ref (q 7)) 0 2 in_X4 gX_0 rfl (by decide) m_f_X4_26 rfl dX4_crewByRule_1 ?_
  obtain ⟨u1, e1, h⟩ := bnd_some h
  refine s_callVi E kf_X1_gone m_l_X4_239 (c_X1_gone q σ u1 e1) ⟨rfl, rfl, by decide, by decide⟩ (q0 := 7) rfl rfl rfl rfl rfl (Nat.le_of_ble_eq_true rfl) dX4_crewByRule_4 ?_
  refine s_istore_n E (lv' := [(0, .ref (q 0)), (1, .int u1)]) dX4_crewByRule_7 rfl rfl rfl rfl (by decide) ?_
  refine s_iconst E (v := 0) dX4_crewByRule_8 ki_0 ?_
  refine s_istore_n E (lv' := [(0, .ref (q 0)), (1, .int u1), (2, .int 0)]) dX4_crewByRule_9 rfl rfl rfl rfl (by decide) ?_
  refine s_iconst E (v := 0) dX4_crewByRule_10 ki_0 ?_
  refine s_istore_n E (lv' := [(0, .ref (q 0)), (1, .int u1), (2, .int 0), (3, .int 0)]) dX4_crewByRule_11 rfl rfl rfl rfl (by decide) ?_
  obtain ⟨u6, e6, h⟩ := bnd_some h
  refine w_X4_crewByRule_L12 E q σ u1 fuel 0 0 u6 e6 ?_
  refine s_iload_n E 2 rfl dX4_crewByRule_60 rfl ?_
  obtain rfl := Option.some.inj h
  exact s_iret E rfl rfl dX4_crewByRule_61
end
abbrev rm_X4_rule : Room := { frames := 4, cells := 0, slots := 0, locals := 103 }
section
noncomputable def f_X4_rule (σ : Nat → Nat → Int32) : Option Int32 :=
  ((f_X4_crewByRule σ).bind fun u1 => ((f_X0_isLevel_3_4_7 σ u1).bind fun u2 => (if u2 = 0 then (some 0) else ((f_X0_faresOf σ (f_X4_members u1)).bind fun u4 => (some u4)))))
set_option maxRecDepth 100000 in
set_option maxHeartbeats 4000000 in
theorem c_X4_rule (q : Nat → Nat) (σ : Nat → Nat → Int32) (z : Int32) (h : f_X4_rule σ = some z) : CT l dC dI cI cZ A yX4_rule cX4_rule 2 (some .int) rm_X4_rule [.ref (q 0)] (wX cI q σ) (wX cI q σ) (some (.int z)) := by
  refine b_met (by decide) (Nat.le_of_ble_eq_true rfl) ?_
  intro p e s m below meth c E
  have E : EV p s m _ meth c dC dI cI cZ cX4_rule 2 RX4 (some .int) := E
  show GG p l e rm_X4_rule s m _ below meth c _ A dC dI 2 (wX cI q σ) 0 [(0, .ref (q 0))] []
  unfold f_X4_rule at h
  refine s_aload_n E 0 rfl dX4_rule_0 rfl ?_
  obtain ⟨u1, e1, h⟩ := bnd_some h
  refine s_callVi E kf_X4_crewByRule m_l_X4_219 (c_X4_crewByRule q σ u1 e1) ⟨rfl, rfl, by decide, by decide⟩ (q0 := 0) rfl rfl rfl rfl rfl (Nat.le_of_ble_eq_true rfl) dX4_rule_1 ?_
  refine s_istore_n E (lv' := [(0, .ref (q 0)), (1, .int u1)]) dX4_rule_4 rfl rfl rfl rfl (by decide) ?_
  refine s_aload_n E 0 rfl dX4_rule_5 rfl ?_
  refine s_get E (v := .ref (q 3)) 0 1 in_X4 gX_0 rfl (by decide) m_f_X4_19 rfl dX4_rule_6 ?_
  refine s_iload_n E 1 rfl dX4_rule_9 rfl ?_
  refine s_aload_n E 0 rfl dX4_rule_10 rfl ?_
  refine s_get E (v := .ref (q 3)) 0 1 in_X4 gX_0 rfl (by decide) m_f_X4_19 rfl dX4_rule_11 ?_
  refine s_get E (v := .ref (q 4)) 3 6 in_X0 gX_3 rfl (by decide) m_f_X4_95 rfl dX4_rule_14 ?_
  refine s_aload_n E 0 rfl dX4_rule_17 rfl ?_
  refine s_get E (v := .ref (q 7)) 0 2 in_X4 gX_0 rfl (by decide) m_f_X4_26 rfl dX4_rule_18 ?_
  obtain ⟨u2, e2, h⟩ := bnd_some h
  refine s_callVi E kf_X0_isLevel m_l_X4_159 (c_X0_isLevel_3_4_7 q σ u1 u2 e2) ⟨rfl, rfl, by decide, by decide⟩ (q0 := 3) rfl rfl rfl rfl rfl (Nat.le_of_ble_eq_true rfl) dX4_rule_21 ?_
  refine s_if_eq E 41 dX4_rule_24 (by decide) (fun c3 => ?_) (fun c3 => ?_)
  · have h := (if_pos c3).symm.trans h
    refine s_iconst E (v := 0) dX4_rule_41 ki_0 ?_
    obtain rfl := Option.some.inj h
    exact s_iret E rfl rfl dX4_rule_42
  · have h := (if_neg c3).symm.trans h
    refine s_aload_n E 0 rfl dX4_rule_27 rfl ?_
    refine s_get E (v := .ref (q 3)) 0 1 in_X4 gX_0 rfl (by decide) m_f_X4_19 rfl dX4_rule_28 ?_
    refine s_iload_n E 1 rfl dX4_rule_31 rfl ?_
    refine s_callSi E kf_X4_members m_l_X4_169 (c_X4_members (wX cI q σ) u1) ⟨rfl, rfl, by decide, by decide⟩ rfl rfl (Nat.le_of_ble_eq_true rfl) dX4_rule_32 ?_
    obtain ⟨u4, e4, h⟩ := bnd_some h
    refine s_callVi E kf_X0_faresOf m_l_X4_172 (c_X0_faresOf q σ (f_X4_members u1) u4 e4) ⟨rfl, rfl, by decide, by decide⟩ (q0 := 3) rfl rfl rfl rfl rfl (Nat.le_of_ble_eq_true rfl) dX4_rule_35 ?_
    refine s_goto E 42 dX4_rule_38 (by decide) ?_
    obtain rfl := Option.some.inj h
    exact s_iret E rfl rfl dX4_rule_42
end
abbrev rm_X4_ruleAt : Room := { frames := 4, cells := 0, slots := 0, locals := 102 }
section
noncomputable def f_X4_ruleAt (σ : Nat → Nat → Int32) (x1 : Int32) : Option Int32 :=
  (if (f_X0_hasPerson σ x1) = 0 then (some (-1)) else ((f_X4_crewByRule σ).bind fun u2 => ((f_X4_endOf u2 x1).bind fun u3 => (some u3))))
set_option maxRecDepth 100000 in
set_option maxHeartbeats 4000000 in
theorem c_X4_ruleAt (q : Nat → Nat) (σ : Nat → Nat → Int32) (x1 : Int32) (z : Int32) (h : f_X4_ruleAt σ x1 = some z) : CT l dC dI cI cZ A yX4_ruleAt cX4_ruleAt 2 (some .int) rm_X4_ruleAt [.ref (q 0), .int x1] (wX cI q σ) (wX cI q σ) (some (.int z)) := by
  refine b_met (by decide) (Nat.le_of_ble_eq_true rfl) ?_
  intro p e s m below meth c E
  have E : EV p s m _ meth c dC dI cI cZ cX4_ruleAt 2 RX4 (some .int) := E
  show GG p l e rm_X4_ruleAt s m _ below meth c _ A dC dI 2 (wX cI q σ) 0 [(0, .ref (q 0)), (1, .int x1)] []
  unfold f_X4_ruleAt at h
  refine s_aload_n E 0 rfl dX4_ruleAt_0 rfl ?_
  refine s_get E (v := .ref (q 3)) 0 1 in_X4 gX_0 rfl (by decide) m_f_X4_19 rfl dX4_ruleAt_1 ?_
  refine s_iload_n E 1 rfl dX4_ruleAt_4 rfl ?_
  refine s_callVi E kf_X0_hasPerson m_l_X4_91 (c_X0_hasPerson q σ x1) ⟨rfl, rfl, by decide, by decide⟩ (q0 := 3) rfl rfl rfl rfl rfl (Nat.le_of_ble_eq_true rfl) dX4_ruleAt_5 ?_
  refine s_if_ne E 13 dX4_ruleAt_8 (by decide) (fun c1 => ?_) (fun c1 => ?_)
  · have h := (if_pos c1).symm.trans h
    refine s_iconst E (v := (-1)) dX4_ruleAt_11 ki_m1 ?_
    obtain rfl := Option.some.inj h
    exact s_iret E rfl rfl dX4_ruleAt_12
  · have h := (if_neg c1).symm.trans h
    refine s_aload_n E 0 rfl dX4_ruleAt_13 rfl ?_
    obtain ⟨u2, e2, h⟩ := bnd_some h
    refine s_callVi E kf_X4_crewByRule m_l_X4_219 (c_X4_crewByRule q σ u2 e2) ⟨rfl, rfl, by decide, by decide⟩ (q0 := 0) rfl rfl rfl rfl rfl (Nat.le_of_ble_eq_true rfl) dX4_ruleAt_14 ?_
    refine s_iload_n E 1 rfl dX4_ruleAt_17 rfl ?_
    obtain ⟨u3, e3, h⟩ := bnd_some h
    refine s_callSi E kf_X4_endOf m_l_X4_145 (c_X4_endOf (wX cI q σ) u2 x1 u3 e3) ⟨rfl, rfl, by decide, by decide⟩ rfl rfl (Nat.le_of_ble_eq_true rfl) dX4_ruleAt_18 ?_
    obtain rfl := Option.some.inj h
    exact s_iret E rfl rfl dX4_ruleAt_21
end
abbrev rm_X4_claim : Room := { frames := 1, cells := 0, slots := 0, locals := 21 }
section
noncomputable def f_X4_claim (σ : Nat → Nat → Int32) (x1 : Int32) (x2 : Int32) : Option (Int32 × (Nat → Nat → Int32)) :=
  (if (f_X0_hasPerson σ x1) = 0 then (some ((-1), σ)) else (if x2 < 1 then (some ((-2), σ)) else (if x2 ≤ 99 then (chk x1 8 (chk x1 8 (some ((σ 10 (x1.toNatClampNeg)), (up2 σ 10 (x1.toNatClampNeg) x2))))) else (some ((-2), σ)))))
set_option maxRecDepth 100000 in
set_option maxHeartbeats 4000000 in
theorem c_X4_claim (q : Nat → Nat) (σ : Nat → Nat → Int32) (x1 : Int32) (x2 : Int32) (z : (Int32 × (Nat → Nat → Int32))) (h : f_X4_claim σ x1 x2 = some z) : CT l dC dI cI cZ A yX4_claim cX4_claim 4 (some .int) rm_X4_claim [.ref (q 0), .int x1, .int x2] (wX cI q σ) (wX cI q z.2) (some (.int z.1)) := by
  refine b_met (by decide) (Nat.le_of_ble_eq_true rfl) ?_
  intro p e s m below meth c E
  have E : EV p s m _ meth c dC dI cI cZ cX4_claim 4 RX4 (some .int) := E
  show GG p l e rm_X4_claim s m _ below meth c _ A dC dI 4 (wX cI q σ) 0 [(0, .ref (q 0)), (1, .int x1), (2, .int x2)] []
  unfold f_X4_claim at h
  refine s_aload_n E 0 rfl dX4_claim_0 rfl ?_
  refine s_get E (v := .ref (q 3)) 0 1 in_X4 gX_0 rfl (by decide) m_f_X4_19 rfl dX4_claim_1 ?_
  refine s_iload_n E 1 rfl dX4_claim_4 rfl ?_
  refine s_callVi E kf_X0_hasPerson m_l_X4_91 (c_X0_hasPerson q σ x1) ⟨rfl, rfl, by decide, by decide⟩ (q0 := 3) rfl rfl rfl rfl rfl (Nat.le_of_ble_eq_true rfl) dX4_claim_5 ?_
  refine s_if_ne E 13 dX4_claim_8 (by decide) (fun c1 => ?_) (fun c1 => ?_)
  · have h := (if_pos c1).symm.trans h
    refine s_iconst E (v := (-1)) dX4_claim_11 ki_m1 ?_
    obtain rfl := Option.some.inj h
    exact s_iret E rfl rfl dX4_claim_12
  · have h := (if_neg c1).symm.trans h
    refine s_iload_n E 2 rfl dX4_claim_13 rfl ?_
    refine s_iconst E (v := 1) dX4_claim_14 ki_1 ?_
    refine s_icmp_lt E 24 dX4_claim_15 (by decide) (fun c2 => ?_) (fun c2 => ?_)
    · have h := (if_pos c2).symm.trans h
      refine s_bipush E (v := (-2)) dX4_claim_24 kb_m2 ?_
      obtain rfl := Option.some.inj h
      exact s_iret E rfl rfl dX4_claim_26
    · have h := (if_neg c2).symm.trans h
      refine s_iload_n E 2 rfl dX4_claim_18 rfl ?_
      refine s_bipush E (v := 99) dX4_claim_19 kb_99 ?_
      refine s_icmp_le E 27 dX4_claim_21 (by decide) (fun c3 => ?_) (fun c3 => ?_)
      · have h := (if_pos c3).symm.trans h
        refine s_aload_n E 0 rfl dX4_claim_27 rfl ?_
        refine s_get E (v := .ref (q 7)) 0 2 in_X4 gX_0 rfl (by decide) m_f_X4_26 rfl dX4_claim_28 ?_
        refine s_get E (v := .ref (q 10)) 7 2 in_X1 gX_7 rfl (by decide) m_f_X4_108 rfl dX4_claim_31 ?_
        refine s_iload_n E 1 rfl dX4_claim_34 rfl ?_
        obtain ⟨b4, h⟩ := chk_some h
        refine s_iald E (v := (σ 10 (x1.toNatClampNeg))) 10 gX_10 b4 rfl dX4_claim_35 ?_
        refine s_istore_n E (lv' := [(0, .ref (q 0)), (1, .int x1), (2, .int x2), (3, .int (σ 10 (x1.toNatClampNeg)))]) dX4_claim_36 rfl rfl rfl rfl (by decide) ?_
        refine s_aload_n E 0 rfl dX4_claim_37 rfl ?_
        refine s_get E (v := .ref (q 7)) 0 2 in_X4 gX_0 rfl (by decide) m_f_X4_26 rfl dX4_claim_38 ?_
        refine s_get E (v := .ref (q 10)) 7 2 in_X1 gX_7 rfl (by decide) m_f_X4_108 rfl dX4_claim_41 ?_
        refine s_iload_n E 1 rfl dX4_claim_44 rfl ?_
        refine s_iload_n E 2 rfl dX4_claim_45 rfl ?_
        obtain ⟨b5, h⟩ := chk_some h
        refine s_iast E (w' := (wX cI q (up2 σ 10 (x1.toNatClampNeg) x2))) 10 gX_10 b5 aX_10 dX4_claim_46 ?_
        refine s_iload_n E 3 rfl dX4_claim_47 rfl ?_
        obtain rfl := Option.some.inj h
        exact s_iret E rfl rfl dX4_claim_48
      · have h := (if_neg c3).symm.trans h
        refine s_bipush E (v := (-2)) dX4_claim_24 kb_m2 ?_
        obtain rfl := Option.some.inj h
        exact s_iret E rfl rfl dX4_claim_26
end
abbrev rm_X4_boatsFitBut : Room := { frames := 4, cells := 0, slots := 0, locals := 103 }
section
noncomputable def f_X4_boatsFitBut_L2 (σ : Nat → Nat → Int32) (x1 : Int32) : Nat → Int32 → Option Int32
  | 0, _ => none
  | n + 1, y2 =>
    (if (σ 7 3) ≤ y2 then (some 1) else (if y2 = x1 then (f_X4_boatsFitBut_L2 σ x1 n (y2 + 1)) else ((f_X1_crewOf σ y2).bind fun u3 => ((f_X0_isLevel_3_10_7 σ u3).bind fun u4 => (if u4 = 0 then (some 0) else (f_X4_boatsFitBut_L2 σ x1 n (y2 + 1)))))))
set_option maxRecDepth 100000 in
set_option maxHeartbeats 4000000 in
theorem w_X4_boatsFitBut_L2 (E : EV p s m args meth c dC dI cI cZ cX4_boatsFitBut 3 RX4 (some .boolean)) (q : Nat → Nat) (σ : Nat → Nat → Int32) (x1 : Int32) : ∀ (n : Nat) (y2 : Int32) (z : Int32), f_X4_boatsFitBut_L2 σ x1 n y2 = some z → GG p l e rm_X4_boatsFitBut s m args below meth c (MQ below (CQ dC dI (some (.int z)) (wX cI q σ) A) args s 0 0 A) A dC dI 3 (wX cI q σ) 2 [(0, .ref (q 0)), (1, .int x1), (2, .int y2)] [] := by
  intro n
  induction n with
  | zero =>
    intro y2 z h
    rw [f_X4_boatsFitBut_L2] at h
    cases h
  | succ n ih =>
    intro y2 z h
    rw [f_X4_boatsFitBut_L2] at h
    refine s_iload_n E 2 rfl dX4_boatsFitBut_2 rfl ?_
    refine s_aload_n E 0 rfl dX4_boatsFitBut_3 rfl ?_
    refine s_get E (v := .ref (q 7)) 0 2 in_X4 gX_0 rfl (by decide) m_f_X4_26 rfl dX4_boatsFitBut_4 ?_
    refine s_geti E (y := (σ 7 3)) 7 3 in_X1 gX_7 rfl (by decide) m_f_X4_163 rfl rfl dX4_boatsFitBut_7 ?_
    refine s_icmp_ge E 55 dX4_boatsFitBut_10 (by decide) (fun c1 => ?_) (fun c1 => ?_)
    · have h := (if_pos c1).symm.trans h
      refine s_iconst E (v := 1) dX4_boatsFitBut_55 ki_1 ?_
      obtain rfl := Option.some.inj h
      exact s_zret E rfl rfl rfl dX4_boatsFitBut_56
    · have h := (if_neg c1).symm.trans h
      refine s_iload_n E 2 rfl dX4_boatsFitBut_13 rfl ?_
      refine s_iload_n E 1 rfl dX4_boatsFitBut_14 rfl ?_
      refine s_icmp_eq E 49 dX4_boatsFitBut_15 (by decide) (fun c2 => ?_) (fun c2 => ?_)
      · have h := (if_pos c2).symm.trans h
        refine s_iinc E (v := (y2 + 1)) (lv' := [(0, .ref (q 0)), (1, .int x1), (2, .int (y2 + 1))]) 2 rfl dX4_boatsFitBut_49 ki_1 rfl rfl rfl rfl (by decide) ?_
        refine s_goto E 2 dX4_boatsFitBut_52 (by decide) ?_
        exact ih (y2 + 1) z h
      · have h := (if_neg c2).symm.trans h
        refine s_aload_n E 0 rfl dX4_boatsFitBut_18 rfl ?_
        refine s_get E (v := .ref (q 3)) 0 1 in_X4 gX_0 rfl (by decide) m_f_X4_19 rfl dX4_boatsFitBut_19 ?_
        refine s_aload_n E 0 rfl dX4_boatsFitBut_22 rfl ?_
        refine s_get E (v := .ref (q 7)) 0 2 in_X4 gX_0 rfl (by decide) m_f_X4_26 rfl dX4_boatsFitBut_23 ?_
        refine s_iload_n E 2 rfl dX4_boatsFitBut_26 rfl ?_
        obtain ⟨u3, e3, h⟩ := bnd_some h
        refine s_callVi E kf_X1_crewOf m_l_X4_178 (c_X1_crewOf q σ y2 u3 e3) ⟨rfl, rfl, by decide, by decide⟩ (q0 := 7) rfl rfl rfl rfl rfl (Nat.le_of_ble_eq_true rfl) dX4_boatsFitBut_27 ?_
        refine s_aload_n E 0 rfl dX4_boatsFitBut_30 rfl ?_
        refine s_get E (v := .ref (q 7)) 0 2 in_X4 gX_0 rfl (by decide) m_f_X4_26 rfl dX4_boatsFitBut_31 ?_
        refine s_get E (v := .ref (q 10)) 7 2 in_X1 gX_7 rfl (by decide) m_f_X4_108 rfl dX4_boatsFitBut_34 ?_
        refine s_aload_n E 0 rfl dX4_boatsFitBut_37 rfl ?_
        refine s_get E (v := .ref (q 7)) 0 2 in_X4 gX_0 rfl (by decide) m_f_X4_26 rfl dX4_boatsFitBut_38 ?_
        obtain ⟨u4, e4, h⟩ := bnd_some h
        refine s_callVi E kf_X0_isLevel m_l_X4_159 (c_X0_isLevel_3_10_7 q σ u3 u4 e4) ⟨rfl, rfl, by decide, by decide⟩ (q0 := 3) rfl rfl rfl rfl rfl (Nat.le_of_ble_eq_true rfl) dX4_boatsFitBut_41 ?_
        refine s_if_ne E 49 dX4_boatsFitBut_44 (by decide) (fun c5 => ?_) (fun c5 => ?_)
        · have h := (if_pos c5).symm.trans h
          refine s_iconst E (v := 0) dX4_boatsFitBut_47 ki_0 ?_
          obtain rfl := Option.some.inj h
          exact s_zret E rfl rfl rfl dX4_boatsFitBut_48
        · have h := (if_neg c5).symm.trans h
          refine s_iinc E (v := (y2 + 1)) (lv' := [(0, .ref (q 0)), (1, .int x1), (2, .int (y2 + 1))]) 2 rfl dX4_boatsFitBut_49 ki_1 rfl rfl rfl rfl (by decide) ?_
          refine s_goto E 2 dX4_boatsFitBut_52 (by decide) ?_
          exact ih (y2 + 1) z h
noncomputable def f_X4_boatsFitBut (σ : Nat → Nat → Int32) (x1 : Int32) : Option Int32 :=
  (f_X4_boatsFitBut_L2 σ x1 fuel 0)
set_option maxRecDepth 100000 in
set_option maxHeartbeats 4000000 in
theorem c_X4_boatsFitBut (q : Nat → Nat) (σ : Nat → Nat → Int32) (x1 : Int32) (z : Int32) (h : f_X4_boatsFitBut σ x1 = some z) : CT l dC dI cI cZ A yX4_boatsFitBut cX4_boatsFitBut 3 (some .boolean) rm_X4_boatsFitBut [.ref (q 0), .int x1] (wX cI q σ) (wX cI q σ) (some (.int z)) := by
  refine b_met (by decide) (Nat.le_of_ble_eq_true rfl) ?_
  intro p e s m below meth c E
  have E : EV p s m _ meth c dC dI cI cZ cX4_boatsFitBut 3 RX4 (some .boolean) := E
  show GG p l e rm_X4_boatsFitBut s m _ below meth c _ A dC dI 3 (wX cI q σ) 0 [(0, .ref (q 0)), (1, .int x1)] []
  unfold f_X4_boatsFitBut at h
  refine s_iconst E (v := 0) dX4_boatsFitBut_0 ki_0 ?_
  refine s_istore_n E (lv' := [(0, .ref (q 0)), (1, .int x1), (2, .int 0)]) dX4_boatsFitBut_1 rfl rfl rfl rfl (by decide) ?_
  exact w_X4_boatsFitBut_L2 E q σ x1 fuel 0 z h
end
abbrev rm_X4_fits : Room := { frames := 5, cells := 0, slots := 0, locals := 125 }
section
noncomputable def f_X4_fits (σ : Nat → Nat → Int32) : Option Int32 :=
  ((f_X4_boatsFitBut σ (-9)).bind fun u1 => (if u1 = 0 then (some 0) else (some 1)))
set_option maxRecDepth 100000 in
set_option maxHeartbeats 4000000 in
theorem c_X4_fits (q : Nat → Nat) (σ : Nat → Nat → Int32) (z : Int32) (h : f_X4_fits σ = some z) : CT l dC dI cI cZ A yX4_fits cX4_fits 1 (some .int) rm_X4_fits [.ref (q 0)] (wX cI q σ) (wX cI q σ) (some (.int z)) := by
  refine b_met (by decide) (Nat.le_of_ble_eq_true rfl) ?_
  intro p e s m below meth c E
  have E : EV p s m _ meth c dC dI cI cZ cX4_fits 1 RX4 (some .int) := E
  show GG p l e rm_X4_fits s m _ below meth c _ A dC dI 1 (wX cI q σ) 0 [(0, .ref (q 0))] []
  unfold f_X4_fits at h
  refine s_aload_n E 0 rfl dX4_fits_0 rfl ?_
  refine s_bipush E (v := (-9)) dX4_fits_1 kb_m9 ?_
  obtain ⟨u1, e1, h⟩ := bnd_some h
  refine s_callVi E kf_X4_boatsFitBut m_l_X4_222 (c_X4_boatsFitBut q σ (-9) u1 e1) ⟨rfl, rfl, by decide, by decide⟩ (q0 := 0) rfl rfl rfl rfl rfl (Nat.le_of_ble_eq_true rfl) dX4_fits_3 ?_
  refine s_if_eq E 13 dX4_fits_6 (by decide) (fun c2 => ?_) (fun c2 => ?_)
  · have h := (if_pos c2).symm.trans h
    refine s_iconst E (v := 0) dX4_fits_13 ki_0 ?_
    obtain rfl := Option.some.inj h
    exact s_iret E rfl rfl dX4_fits_14
  · have h := (if_neg c2).symm.trans h
    refine s_iconst E (v := 1) dX4_fits_9 ki_1 ?_
    refine s_goto E 14 dX4_fits_10 (by decide) ?_
    obtain rfl := Option.some.inj h
    exact s_iret E rfl rfl dX4_fits_14
end
abbrev rm_X4_claimsThatFit : Room := { frames := 5, cells := 0, slots := 0, locals := 125 }
section
noncomputable def f_X4_claimsThatFit_L44 (x1 : Int32) (x2 : Int32) : Nat → (Nat → Nat → Int32) → Int32 → Int32 → Option (Int32 × (Nat → Nat → Int32))
  | 0, _, _, _ => none
  | n + 1, σ, y4, y5 =>
    (if 99 < y5 then (some (y4, σ)) else (chk x1 8 ((f_X1_crewOf (up2 σ 10 (x1.toNatClampNeg) y5) x2).bind fun u8 => ((f_X0_isLevel_3_10_7 (up2 σ 10 (x1.toNatClampNeg) y5) u8).bind fun u9 => (if u9 = 0 then (f_X4_claimsThatFit_L44 x1 x2 n (up2 σ 10 (x1.toNatClampNeg) y5) y4 (y5 + 1)) else (f_X4_claimsThatFit_L44 x1 x2 n (up2 σ 10 (x1.toNatClampNeg) y5) (y4 + 1) (y5 + 1)))))))
set_option maxRecDepth 100000 in
set_option maxHeartbeats 4000000 in
theorem w_X4_claimsThatFit_L44 (E : EV p s m args meth c dC dI cI cZ cX4_claimsThatFit 6 RX4 (some .int)) (q : Nat → Nat) (x1 : Int32) (x2 : Int32) (x3 : Int32) : ∀ (n : Nat) (σ : Nat → Nat → Int32) (y4 y5 : Int32) (z : (Int32 × (Nat → Nat → Int32))), f_X4_claimsThatFit_L44 x1 x2 n σ y4 y5 = some z → GG p l e rm_X4_claimsThatFit s m args below meth c Q A dC dI 6 (wX cI q z.2) 100 [(0, .ref (q 0)), (1, .int x1), (2, .int x2), (3, .int x3), (4, .int z.1)] [] → GG p l e rm_X4_claimsThatFit s m args below meth c Q A dC dI 6 (wX cI q σ) 44 [(0, .ref (q 0)), (1, .int x1), (2, .int x2), (3, .int x3), (4, .int y4), (5, .int y5)] [] := by
  intro n
  induction n with
  | zero =>
    intro σ y4 y5 z h
    rw [f_X4_claimsThatFit_L44] at h
    cases h
  | succ n ih =>
    intro σ y4 y5 z h hK
    rw [f_X4_claimsThatFit_L44] at h
    refine s_iload E 5 rfl dX4_claimsThatFit_44 ?_
    refine s_bipush E (v := 99) dX4_claimsThatFit_46 kb_99 ?_
    refine s_icmp_gt E 100 dX4_claimsThatFit_48 (by decide) (fun c6 => ?_) (fun c6 => ?_)
    · have h := (if_pos c6).symm.trans h
      refine s_sub E (lv' := [(0, .ref (q 0)), (1, .int x1), (2, .int x2), (3, .int x3), (4, .int y4)]) [0, 1, 2, 3, 4] rfl ?_
      obtain rfl := Option.some.inj h
      exact hK
    · have h := (if_neg c6).symm.trans h
      refine s_aload_n E 0 rfl dX4_claimsThatFit_51 rfl ?_
      refine s_get E (v := .ref (q 7)) 0 2 in_X4 gX_0 rfl (by decide) m_f_X4_26 rfl dX4_claimsThatFit_52 ?_
      refine s_get E (v := .ref (q 10)) 7 2 in_X1 gX_7 rfl (by decide) m_f_X4_108 rfl dX4_claimsThatFit_55 ?_
      refine s_iload_n E 1 rfl dX4_claimsThatFit_58 rfl ?_
      refine s_iload E 5 rfl dX4_claimsThatFit_59 ?_
      obtain ⟨b7, h⟩ := chk_some h
      refine s_iast E (w' := (wX cI q (up2 σ 10 (x1.toNatClampNeg) y5))) 10 gX_10 b7 aX_10 dX4_claimsThatFit_61 ?_
      refine s_aload_n E 0 rfl dX4_claimsThatFit_62 rfl ?_
      refine s_get E (v := .ref (q 3)) 0 1 in_X4 gX_0 rfl (by decide) m_f_X4_19 rfl dX4_claimsThatFit_63 ?_
      refine s_aload_n E 0 rfl dX4_claimsThatFit_66 rfl ?_
      refine s_get E (v := .ref (q 7)) 0 2 in_X4 gX_0 rfl (by decide) m_f_X4_26 rfl dX4_claimsThatFit_67 ?_
      refine s_iload_n E 2 rfl dX4_claimsThatFit_70 rfl ?_
      obtain ⟨u8, e8, h⟩ := bnd_some h
      refine s_callVi E kf_X1_crewOf m_l_X4_178 (c_X1_crewOf q (up2 σ 10 (x1.toNatClampNeg) y5) x2 u8 e8) ⟨rfl, rfl, by decide, by decide⟩ (q0 := 7) rfl rfl rfl rfl rfl (Nat.le_of_ble_eq_true rfl) dX4_claimsThatFit_71 ?_
      refine s_aload_n E 0 rfl dX4_claimsThatFit_74 rfl ?_
      refine s_get E (v := .ref (q 7)) 0 2 in_X4 gX_0 rfl (by decide) m_f_X4_26 rfl dX4_claimsThatFit_75 ?_
      refine s_get E (v := .ref (q 10)) 7 2 in_X1 gX_7 rfl (by decide) m_f_X4_108 rfl dX4_claimsThatFit_78 ?_
      refine s_aload_n E 0 rfl dX4_claimsThatFit_81 rfl ?_
      refine s_get E (v := .ref (q 7)) 0 2 in_X4 gX_0 rfl (by decide) m_f_X4_26 rfl dX4_claimsThatFit_82 ?_
      obtain ⟨u9, e9, h⟩ := bnd_some h
      refine s_callVi E kf_X0_isLevel m_l_X4_159 (c_X0_isLevel_3_10_7 q (up2 σ 10 (x1.toNatClampNeg) y5) u8 u9 e9) ⟨rfl, rfl, by decide, by decide⟩ (q0 := 3) rfl rfl rfl rfl rfl (Nat.le_of_ble_eq_true rfl) dX4_claimsThatFit_85 ?_
      refine s_if_eq E 94 dX4_claimsThatFit_88 (by decide) (fun c10 => ?_) (fun c10 => ?_)
      · have h := (if_pos c10).symm.trans h
        refine s_iinc E (v := (y5 + 1)) (lv' := [(0, .ref (q 0)), (1, .int x1), (2, .int x2), (3, .int x3), (4, .int y4), (5, .int (y5 + 1))]) 5 rfl dX4_claimsThatFit_94 ki_1 rfl rfl rfl rfl (by decide) ?_
        refine s_goto E 44 dX4_claimsThatFit_97 (by decide) ?_
        exact ih (up2 σ 10 (x1.toNatClampNeg) y5) y4 (y5 + 1) z h hK
      · have h := (if_neg c10).symm.trans h
        refine s_iinc E (v := (y4 + 1)) (lv' := [(0, .ref (q 0)), (1, .int x1), (2, .int x2), (3, .int x3), (4, .int (y4 + 1)), (5, .int y5)]) 4 rfl dX4_claimsThatFit_91 ki_1 rfl rfl rfl rfl (by decide) ?_
        refine s_iinc E (v := (y5 + 1)) (lv' := [(0, .ref (q 0)), (1, .int x1), (2, .int x2), (3, .int x3), (4, .int (y4 + 1)), (5, .int (y5 + 1))]) 5 rfl dX4_claimsThatFit_94 ki_1 rfl rfl rfl rfl (by decide) ?_
        refine s_goto E 44 dX4_claimsThatFit_97 (by decide) ?_
        exact ih (up2 σ 10 (x1.toNatClampNeg) y5) (y4 + 1) (y5 + 1) z h hK
noncomputable def f_X4_claimsThatFit (σ : Nat → Nat → Int32) (x1 : Int32) : Option (Int32 × (Nat → Nat → Int32)) :=
  ((f_X1_boatOf σ x1).bind fun u1 => ((f_X4_boatsFitBut σ u1).bind fun u2 => (if u2 = 0 then (some (0, σ)) else (if u1 = (-9) then (some (99, σ)) else (chk x1 8 ((f_X4_claimsThatFit_L44 x1 u1 fuel σ 0 1).bind fun u11 => (chk x1 8 (some (u11.1, (up2 u11.2 10 (x1.toNatClampNeg) (σ 10 (x1.toNatClampNeg))))))))))))
set_option maxRecDepth 100000 in
set_option maxHeartbeats 4000000 in
theorem c_X4_claimsThatFit (q : Nat → Nat) (σ : Nat → Nat → Int32) (x1 : Int32) (z : (Int32 × (Nat → Nat → Int32))) (h : f_X4_claimsThatFit σ x1 = some z) : CT l dC dI cI cZ A yX4_claimsThatFit cX4_claimsThatFit 6 (some .int) rm_X4_claimsThatFit [.ref (q 0), .int x1] (wX cI q σ) (wX cI q z.2) (some (.int z.1)) := by
  refine b_met (by decide) (Nat.le_of_ble_eq_true rfl) ?_
  intro p e s m below meth c E
  have E : EV p s m _ meth c dC dI cI cZ cX4_claimsThatFit 6 RX4 (some .int) := E
  show GG p l e rm_X4_claimsThatFit s m _ below meth c _ A dC dI 6 (wX cI q σ) 0 [(0, .ref (q 0)), (1, .int x1)] []
  unfold f_X4_claimsThatFit at h
  refine s_aload_n E 0 rfl dX4_claimsThatFit_0 rfl ?_
  refine s_get E (v := .ref (q 7)) 0 2 in_X4 gX_0 rfl (by decide) m_f_X4_26 rfl dX4_claimsThatFit_1 ?_
  refine s_iload_n E 1 rfl dX4_claimsThatFit_4 rfl ?_
  obtain ⟨u1, e1, h⟩ := bnd_some h
  refine s_callVi E kf_X1_boatOf m_l_X4_248 (c_X1_boatOf q σ x1 u1 e1) ⟨rfl, rfl, by decide, by decide⟩ (q0 := 7) rfl rfl rfl rfl rfl (Nat.le_of_ble_eq_true rfl) dX4_claimsThatFit_5 ?_
  refine s_istore_n E (lv' := [(0, .ref (q 0)), (1, .int x1), (2, .int u1)]) dX4_claimsThatFit_8 rfl rfl rfl rfl (by decide) ?_
  refine s_aload_n E 0 rfl dX4_claimsThatFit_9 rfl ?_
  refine s_iload_n E 2 rfl dX4_claimsThatFit_10 rfl ?_
  obtain ⟨u2, e2, h⟩ := bnd_some h
  refine s_callVi E kf_X4_boatsFitBut m_l_X4_222 (c_X4_boatsFitBut q σ u1 u2 e2) ⟨rfl, rfl, by decide, by decide⟩ (q0 := 0) rfl rfl rfl rfl rfl (Nat.le_of_ble_eq_true rfl) dX4_claimsThatFit_11 ?_
  refine s_if_ne E 19 dX4_claimsThatFit_14 (by decide) (fun c3 => ?_) (fun c3 => ?_)
  · have h := (if_pos c3).symm.trans h
    refine s_iconst E (v := 0) dX4_claimsThatFit_17 ki_0 ?_
    obtain rfl := Option.some.inj h
    exact s_iret E rfl rfl dX4_claimsThatFit_18
  · have h := (if_neg c3).symm.trans h
    refine s_iload_n E 2 rfl dX4_claimsThatFit_19 rfl ?_
    refine s_bipush E (v := (-9)) dX4_claimsThatFit_20 kb_m9 ?_
    refine s_icmp_ne E 28 dX4_claimsThatFit_22 (by decide) (fun c4 => ?_) (fun c4 => ?_)
    · have h := (if_pos c4).symm.trans h
      refine s_bipush E (v := 99) dX4_claimsThatFit_25 kb_99 ?_
      obtain rfl := Option.some.inj h
      exact s_iret E rfl rfl dX4_claimsThatFit_27
    · have h := (if_neg c4).symm.trans h
      refine s_aload_n E 0 rfl dX4_claimsThatFit_28 rfl ?_
      refine s_get E (v := .ref (q 7)) 0 2 in_X4 gX_0 rfl (by decide) m_f_X4_26 rfl dX4_claimsThatFit_29 ?_
      refine s_get E (v := .ref (q 10)) 7 2 in_X1 gX_7 rfl (by decide) m_f_X4_108 rfl dX4_claimsThatFit_32 ?_
      refine s_iload_n E 1 rfl dX4_claimsThatFit_35 rfl ?_
      obtain ⟨b5, h⟩ := chk_some h
      refine s_iald E (v := (σ 10 (x1.toNatClampNeg))) 10 gX_10 b5 rfl dX4_claimsThatFit_36 ?_
      refine s_istore_n E (lv' := [(0, .ref (q 0)), (1, .int x1), (2, .int u1), (3, .int (σ 10 (x1.toNatClampNeg)))]) dX4_claimsThatFit_37 rfl rfl rfl rfl (by decide) ?_
      refine s_iconst E (v := 0) dX4_claimsThatFit_38 ki_0 ?_
      refine s_istore E (lv' := [(0, .ref (q 0)), (1, .int x1), (2, .int u1), (3, .int (σ 10 (x1.toNatClampNeg))), (4, .int 0)]) dX4_claimsThatFit_39 rfl rfl rfl (by decide) ?_
      refine s_iconst E (v := 1) dX4_claimsThatFit_41 ki_1 ?_
      refine s_istore E (lv' := [(0, .ref (q 0)), (1, .int x1), (2, .int u1), (3, .int (σ 10 (x1.toNatClampNeg))), (4, .int 0), (5, .int 1)]) dX4_claimsThatFit_42 rfl rfl rfl (by decide) ?_
      obtain ⟨u11, e11, h⟩ := bnd_some h
      refine w_X4_claimsThatFit_L44 E q x1 u1 (σ 10 (x1.toNatClampNeg)) fuel σ 0 1 u11 e11 ?_
      refine s_aload_n E 0 rfl dX4_claimsThatFit_100 rfl ?_
      refine s_get E (v := .ref (q 7)) 0 2 in_X4 gX_0 rfl (by decide) m_f_X4_26 rfl dX4_claimsThatFit_101 ?_
      refine s_get E (v := .ref (q 10)) 7 2 in_X1 gX_7 rfl (by decide) m_f_X4_108 rfl dX4_claimsThatFit_104 ?_
      refine s_iload_n E 1 rfl dX4_claimsThatFit_107 rfl ?_
      refine s_iload_n E 3 rfl dX4_claimsThatFit_108 rfl ?_
      obtain ⟨b12, h⟩ := chk_some h
      refine s_iast E (w' := (wX cI q (up2 u11.2 10 (x1.toNatClampNeg) (σ 10 (x1.toNatClampNeg))))) 10 gX_10 b12 aX_10 dX4_claimsThatFit_109 ?_
      refine s_iload E 4 rfl dX4_claimsThatFit_110 ?_
      obtain rfl := Option.some.inj h
      exact s_iret E rfl rfl dX4_claimsThatFit_112
end
abbrev rm_X4_liars : Room := { frames := 6, cells := 0, slots := 0, locals := 150 }
section
noncomputable def f_X4_liars_L15 : Nat → (Nat → Nat → Int32) → Int32 → Int32 → Option (Int32 × (Nat → Nat → Int32))
  | 0, _, _, _ => none
  | n + 1, σ, y1, y2 =>
    (if (σ 3 5) ≤ y2 then (some (y1, σ)) else ((f_X4_claimsThatFit σ y2).bind fun u4 => (if u4.1 ≤ 0 then (f_X4_liars_L15 n u4.2 y1 (y2 + 1)) else (f_X4_liars_L15 n u4.2 (y1 ||| (shl 1 y2)) (y2 + 1)))))
set_option maxRecDepth 100000 in
set_option maxHeartbeats 4000000 in
theorem w_X4_liars_L15 (E : EV p s m args meth c dC dI cI cZ cX4_liars 3 RX4 (some .int)) (q : Nat → Nat) : ∀ (n : Nat) (σ : Nat → Nat → Int32) (y1 y2 : Int32) (z : (Int32 × (Nat → Nat → Int32))), f_X4_liars_L15 n σ y1 y2 = some z → GG p l e rm_X4_liars s m args below meth c Q A dC dI 3 (wX cI q z.2) 46 [(0, .ref (q 0)), (1, .int z.1)] [] → GG p l e rm_X4_liars s m args below meth c Q A dC dI 3 (wX cI q σ) 15 [(0, .ref (q 0)), (1, .int y1), (2, .int y2)] [] := by
  intro n
  induction n with
  | zero =>
    intro σ y1 y2 z h
    rw [f_X4_liars_L15] at h
    cases h
  | succ n ih =>
    intro σ y1 y2 z h hK
    rw [f_X4_liars_L15] at h
    refine s_iload_n E 2 rfl dX4_liars_15 rfl ?_
    refine s_aload_n E 0 rfl dX4_liars_16 rfl ?_
    refine s_get E (v := .ref (q 3)) 0 1 in_X4 gX_0 rfl (by decide) m_f_X4_19 rfl dX4_liars_17 ?_
    refine s_geti E (y := (σ 3 5)) 3 5 in_X0 gX_3 rfl (by decide) m_f_X4_70 rfl rfl dX4_liars_20 ?_
    refine s_icmp_ge E 46 dX4_liars_23 (by decide) (fun c3 => ?_) (fun c3 => ?_)
    · have h := (if_pos c3).symm.trans h
      refine s_sub E (lv' := [(0, .ref (q 0)), (1, .int y1)]) [0, 1] rfl ?_
      obtain rfl := Option.some.inj h
      exact hK
    · have h := (if_neg c3).symm.trans h
      refine s_aload_n E 0 rfl dX4_liars_26 rfl ?_
      refine s_iload_n E 2 rfl dX4_liars_27 rfl ?_
      obtain ⟨u4, e4, h⟩ := bnd_some h
      refine s_callVi E kf_X4_claimsThatFit m_l_X4_225 (c_X4_claimsThatFit q σ y2 u4 e4) ⟨rfl, rfl, by decide, by decide⟩ (q0 := 0) rfl rfl rfl rfl rfl (Nat.le_of_ble_eq_true rfl) dX4_liars_28 ?_
      refine s_if_le E 40 dX4_liars_31 (by decide) (fun c5 => ?_) (fun c5 => ?_)
      · have h := (if_pos c5).symm.trans h
        refine s_iinc E (v := (y2 + 1)) (lv' := [(0, .ref (q 0)), (1, .int y1), (2, .int (y2 + 1))]) 2 rfl dX4_liars_40 ki_1 rfl rfl rfl rfl (by decide) ?_
        refine s_goto E 15 dX4_liars_43 (by decide) ?_
        exact ih u4.2 y1 (y2 + 1) z h hK
      · have h := (if_neg c5).symm.trans h
        refine s_iload_n E 1 rfl dX4_liars_34 rfl ?_
        refine s_iconst E (v := 1) dX4_liars_35 ki_1 ?_
        refine s_iload_n E 2 rfl dX4_liars_36 rfl ?_
        refine s_ishl E dX4_liars_37 ?_
        refine s_ior E dX4_liars_38 ?_
        refine s_istore_n E (lv' := [(0, .ref (q 0)), (1, .int (y1 ||| (shl 1 y2))), (2, .int y2)]) dX4_liars_39 rfl rfl rfl rfl (by decide) ?_
        refine s_iinc E (v := (y2 + 1)) (lv' := [(0, .ref (q 0)), (1, .int (y1 ||| (shl 1 y2))), (2, .int (y2 + 1))]) 2 rfl dX4_liars_40 ki_1 rfl rfl rfl rfl (by decide) ?_
        refine s_goto E 15 dX4_liars_43 (by decide) ?_
        exact ih u4.2 (y1 ||| (shl 1 y2)) (y2 + 1) z h hK
noncomputable def f_X4_liars (σ : Nat → Nat → Int32) : Option (Int32 × (Nat → Nat → Int32)) :=
  ((f_X4_boatsFitBut σ (-9)).bind fun u1 => (if u1 = 0 then ((f_X4_liars_L15 fuel σ 0 0).bind fun u6 => (some (u6.1, u6.2))) else (some (0, σ))))
set_option maxRecDepth 100000 in
set_option maxHeartbeats 4000000 in
theorem c_X4_liars (q : Nat → Nat) (σ : Nat → Nat → Int32) (z : (Int32 × (Nat → Nat → Int32))) (h : f_X4_liars σ = some z) : CT l dC dI cI cZ A yX4_liars cX4_liars 3 (some .int) rm_X4_liars [.ref (q 0)] (wX cI q σ) (wX cI q z.2) (some (.int z.1)) := by
  refine b_met (by decide) (Nat.le_of_ble_eq_true rfl) ?_
  intro p e s m below meth c E
  have E : EV p s m _ meth c dC dI cI cZ cX4_liars 3 RX4 (some .int) := E
  show GG p l e rm_X4_liars s m _ below meth c _ A dC dI 3 (wX cI q σ) 0 [(0, .ref (q 0))] []
  unfold f_X4_liars at h
  refine s_aload_n E 0 rfl dX4_liars_0 rfl ?_
  refine s_bipush E (v := (-9)) dX4_liars_1 kb_m9 ?_
  obtain ⟨u1, e1, h⟩ := bnd_some h
  refine s_callVi E kf_X4_boatsFitBut m_l_X4_222 (c_X4_boatsFitBut q σ (-9) u1 e1) ⟨rfl, rfl, by decide, by decide⟩ (q0 := 0) rfl rfl rfl rfl rfl (Nat.le_of_ble_eq_true rfl) dX4_liars_3 ?_
  refine s_if_eq E 11 dX4_liars_6 (by decide) (fun c2 => ?_) (fun c2 => ?_)
  · have h := (if_pos c2).symm.trans h
    refine s_iconst E (v := 0) dX4_liars_11 ki_0 ?_
    refine s_istore_n E (lv' := [(0, .ref (q 0)), (1, .int 0)]) dX4_liars_12 rfl rfl rfl rfl (by decide) ?_
    refine s_iconst E (v := 0) dX4_liars_13 ki_0 ?_
    refine s_istore_n E (lv' := [(0, .ref (q 0)), (1, .int 0), (2, .int 0)]) dX4_liars_14 rfl rfl rfl rfl (by decide) ?_
    obtain ⟨u6, e6, h⟩ := bnd_some h
    refine w_X4_liars_L15 E q fuel σ 0 0 u6 e6 ?_
    refine s_iload_n E 1 rfl dX4_liars_46 rfl ?_
    obtain rfl := Option.some.inj h
    exact s_iret E rfl rfl dX4_liars_47
  · have h := (if_neg c2).symm.trans h
    refine s_iconst E (v := 0) dX4_liars_9 ki_0 ?_
    obtain rfl := Option.some.inj h
    exact s_iret E rfl rfl dX4_liars_10
end
abbrev rm_X4_mayWeigh : Room := { frames := 6, cells := 0, slots := 0, locals := 150 }
section
noncomputable def f_X4_mayWeigh (σ : Nat → Nat → Int32) (x1 : Int32) : Option (Int32 × (Nat → Nat → Int32)) :=
  (if (f_X0_hasPerson σ x1) = 0 then (some ((-1), σ)) else ((f_X4_claimsThatFit σ x1).bind fun u2 => (some (u2.1, u2.2))))
set_option maxRecDepth 100000 in
set_option maxHeartbeats 4000000 in
theorem c_X4_mayWeigh (q : Nat → Nat) (σ : Nat → Nat → Int32) (x1 : Int32) (z : (Int32 × (Nat → Nat → Int32))) (h : f_X4_mayWeigh σ x1 = some z) : CT l dC dI cI cZ A yX4_mayWeigh cX4_mayWeigh 2 (some .int) rm_X4_mayWeigh [.ref (q 0), .int x1] (wX cI q σ) (wX cI q z.2) (some (.int z.1)) := by
  refine b_met (by decide) (Nat.le_of_ble_eq_true rfl) ?_
  intro p e s m below meth c E
  have E : EV p s m _ meth c dC dI cI cZ cX4_mayWeigh 2 RX4 (some .int) := E
  show GG p l e rm_X4_mayWeigh s m _ below meth c _ A dC dI 2 (wX cI q σ) 0 [(0, .ref (q 0)), (1, .int x1)] []
  unfold f_X4_mayWeigh at h
  refine s_aload_n E 0 rfl dX4_mayWeigh_0 rfl ?_
  refine s_get E (v := .ref (q 3)) 0 1 in_X4 gX_0 rfl (by decide) m_f_X4_19 rfl dX4_mayWeigh_1 ?_
  refine s_iload_n E 1 rfl dX4_mayWeigh_4 rfl ?_
  refine s_callVi E kf_X0_hasPerson m_l_X4_91 (c_X0_hasPerson q σ x1) ⟨rfl, rfl, by decide, by decide⟩ (q0 := 3) rfl rfl rfl rfl rfl (Nat.le_of_ble_eq_true rfl) dX4_mayWeigh_5 ?_
  refine s_if_ne E 13 dX4_mayWeigh_8 (by decide) (fun c1 => ?_) (fun c1 => ?_)
  · have h := (if_pos c1).symm.trans h
    refine s_iconst E (v := (-1)) dX4_mayWeigh_11 ki_m1 ?_
    obtain rfl := Option.some.inj h
    exact s_iret E rfl rfl dX4_mayWeigh_12
  · have h := (if_neg c1).symm.trans h
    refine s_aload_n E 0 rfl dX4_mayWeigh_13 rfl ?_
    refine s_iload_n E 1 rfl dX4_mayWeigh_14 rfl ?_
    obtain ⟨u2, e2, h⟩ := bnd_some h
    refine s_callVi E kf_X4_claimsThatFit m_l_X4_225 (c_X4_claimsThatFit q σ x1 u2 e2) ⟨rfl, rfl, by decide, by decide⟩ (q0 := 0) rfl rfl rfl rfl rfl (Nat.le_of_ble_eq_true rfl) dX4_mayWeigh_15 ?_
    obtain rfl := Option.some.inj h
    exact s_iret E rfl rfl dX4_mayWeigh_18
end
abbrev rm_X4_slotOf_t : Room := { frames := 0, cells := 0, slots := 0, locals := 0 }
section
set_option maxRecDepth 100000 in
set_option maxHeartbeats 4000000 in
theorem c_X4_slotOf_t (q : Nat → Nat) (σ : Nat → Nat → Int32) (x1 : Int32) (hs : x1 = 0) : CT l dC dI cI cZ A yX4_slotOf cX4_slotOf 2 (some (.object "FerriesLevel$Log")) rm_X4_slotOf_t [.ref (q 0), .int x1] (wX cI q σ) (wX cI q σ) (some (.ref (q 11))) := by
  refine b_met (by decide) (Nat.le_of_ble_eq_true rfl) ?_
  intro p e s m below meth c E
  have E : EV p s m _ meth c dC dI cI cZ cX4_slotOf 2 RX4 (some (.object "FerriesLevel$Log")) := E
  show GG p l e rm_X4_slotOf_t s m _ below meth c _ A dC dI 2 (wX cI q σ) 0 [(0, .ref (q 0)), (1, .int x1)] []
  refine s_iload_n E 1 rfl dX4_slotOf_0 rfl ?_
  refine s_if_ne E 11 dX4_slotOf_1 (by decide) (fun c1 => ?_) (fun c1 => absurd hs c1)
  refine s_aload_n E 0 rfl dX4_slotOf_4 rfl ?_
  refine s_get E (v := .ref (q 11)) 0 3 in_X4 gX_0 rfl (by decide) m_f_X4_30 rfl dX4_slotOf_5 ?_
  refine s_goto E 15 dX4_slotOf_8 (by decide) ?_
  exact s_aret E rfl rfl dX4_slotOf_15
end
abbrev rm_X4_slotOf_f : Room := { frames := 0, cells := 0, slots := 0, locals := 0 }
section
set_option maxRecDepth 100000 in
set_option maxHeartbeats 4000000 in
theorem c_X4_slotOf_f (q : Nat → Nat) (σ : Nat → Nat → Int32) (x1 : Int32) (hs : ¬ x1 = 0) : CT l dC dI cI cZ A yX4_slotOf cX4_slotOf 2 (some (.object "FerriesLevel$Log")) rm_X4_slotOf_f [.ref (q 0), .int x1] (wX cI q σ) (wX cI q σ) (some (.ref (q 15))) := by
  refine b_met (by decide) (Nat.le_of_ble_eq_true rfl) ?_
  intro p e s m below meth c E
  have E : EV p s m _ meth c dC dI cI cZ cX4_slotOf 2 RX4 (some (.object "FerriesLevel$Log")) := E
  show GG p l e rm_X4_slotOf_f s m _ below meth c _ A dC dI 2 (wX cI q σ) 0 [(0, .ref (q 0)), (1, .int x1)] []
  refine s_iload_n E 1 rfl dX4_slotOf_0 rfl ?_
  refine s_if_ne E 11 dX4_slotOf_1 (by decide) (fun c1 => absurd c1 hs) (fun c1 => ?_)
  refine s_aload_n E 0 rfl dX4_slotOf_11 rfl ?_
  refine s_get E (v := .ref (q 15)) 0 4 in_X4 gX_0 rfl (by decide) m_f_X4_33 rfl dX4_slotOf_12 ?_
  exact s_aret E rfl rfl dX4_slotOf_15
end
abbrev rm_X4_keep : Room := { frames := 1, cells := 0, slots := 0, locals := 22 }
section
noncomputable def f_X4_keep (σ : Nat → Nat → Int32) (x1 : Int32) : Option (Int32 × (Nat → Nat → Int32)) :=
  (if (f_X4_isSlot x1) = 0 then (some ((-1), σ)) else (if x1 = 0 then ((f_X1_copyFrom_11_7 σ).bind fun u3 => (some ((u3 7 3), (up2 u3 11 5 1)))) else ((f_X1_copyFrom_15_7 σ).bind fun u4 => (some ((u4 7 3), (up2 u4 15 5 1))))))
set_option maxRecDepth 100000 in
set_option maxHeartbeats 4000000 in
theorem c_X4_keep (q : Nat → Nat) (σ : Nat → Nat → Int32) (x1 : Int32) (z : (Int32 × (Nat → Nat → Int32))) (h : f_X4_keep σ x1 = some z) : CT l dC dI cI cZ A yX4_keep cX4_keep 3 (some .int) rm_X4_keep [.ref (q 0), .int x1] (wX cI q σ) (wX cI q z.2) (some (.int z.1)) := by
  refine b_met (by decide) (Nat.le_of_ble_eq_true rfl) ?_
  intro p e s m below meth c E
  have E : EV p s m _ meth c dC dI cI cZ cX4_keep 3 RX4 (some .int) := E
  show GG p l e rm_X4_keep s m _ below meth c _ A dC dI 3 (wX cI q σ) 0 [(0, .ref (q 0)), (1, .int x1)] []
  unfold f_X4_keep at h
  refine s_iload_n E 1 rfl dX4_keep_0 rfl ?_
  refine s_callSi E kf_X4_isSlot m_l_X4_228 (c_X4_isSlot (wX cI q σ) x1) ⟨rfl, rfl, by decide, by decide⟩ rfl rfl (Nat.le_of_ble_eq_true rfl) dX4_keep_1 ?_
  refine s_if_ne E 9 dX4_keep_4 (by decide) (fun c1 => ?_) (fun c1 => ?_)
  · have h := (if_pos c1).symm.trans h
    refine s_iconst E (v := (-1)) dX4_keep_7 ki_m1 ?_
    obtain rfl := Option.some.inj h
    exact s_iret E rfl rfl dX4_keep_8
  · have h := (if_neg c1).symm.trans h
    refine s_aload_n E 0 rfl dX4_keep_9 rfl ?_
    refine s_iload_n E 1 rfl dX4_keep_10 rfl ?_
    by_cases c2 : x1 = 0
    · have h := (if_pos c2).symm.trans h
      refine s_callVr E kf_X4_slotOf m_l_X4_231 (c_X4_slotOf_t q σ x1 c2) ⟨rfl, rfl, by decide, by decide⟩ (q0 := 0) rfl rfl rfl rfl rfl (Nat.le_of_ble_eq_true rfl) dX4_keep_11 ?_
      refine s_astore_n E (lv' := [(0, .ref (q 0)), (1, .int x1), (2, .ref (q 11))]) dX4_keep_14 rfl rfl rfl rfl (by decide) ?_
      refine s_aload_n E 2 rfl dX4_keep_15 rfl ?_
      refine s_aload_n E 0 rfl dX4_keep_16 rfl ?_
      refine s_get E (v := .ref (q 7)) 0 2 in_X4 gX_0 rfl (by decide) m_f_X4_26 rfl dX4_keep_17 ?_
      obtain ⟨u3, e3, h⟩ := bnd_some h
      refine s_callVv E kf_X1_copyFrom m_l_X4_235 (c_X1_copyFrom_11_7 q σ u3 e3) ⟨rfl, rfl, by decide, by decide⟩ (q0 := 11) rfl rfl rfl rfl rfl (Nat.le_of_ble_eq_true rfl) dX4_keep_20 ?_
      refine s_aload_n E 2 rfl dX4_keep_23 rfl ?_
      refine s_iconst E (v := 1) dX4_keep_24 ki_1 ?_
      refine s_put E (w' := (wX cI q (up2 u3 11 5 1))) (v := .int 1) 11 5 tyX1 tyX1_ok nmX1 in_X1 gX_11 rfl (by decide) m_f_X4_63 rfl (tyX1_ok 5 (by decide)) rfl rfl (Nat.le_of_ble_eq_true rfl) fX_11_5 dX4_keep_25 ?_
      refine s_aload_n E 0 rfl dX4_keep_28 rfl ?_
      refine s_get E (v := .ref (q 7)) 0 2 in_X4 gX_0 rfl (by decide) m_f_X4_26 rfl dX4_keep_29 ?_
      refine s_geti E (y := (u3 7 3)) 7 3 in_X1 gX_7 rfl (by decide) m_f_X4_163 rfl (up2_n rfl) dX4_keep_32 ?_
      obtain rfl := Option.some.inj h
      exact s_iret E rfl rfl dX4_keep_35
    · have h := (if_neg c2).symm.trans h
      refine s_callVr E kf_X4_slotOf m_l_X4_231 (c_X4_slotOf_f q σ x1 c2) ⟨rfl, rfl, by decide, by decide⟩ (q0 := 0) rfl rfl rfl rfl rfl (Nat.le_of_ble_eq_true rfl) dX4_keep_11 ?_
      refine s_astore_n E (lv' := [(0, .ref (q 0)), (1, .int x1), (2, .ref (q 15))]) dX4_keep_14 rfl rfl rfl rfl (by decide) ?_
      refine s_aload_n E 2 rfl dX4_keep_15 rfl ?_
      refine s_aload_n E 0 rfl dX4_keep_16 rfl ?_
      refine s_get E (v := .ref (q 7)) 0 2 in_X4 gX_0 rfl (by decide) m_f_X4_26 rfl dX4_keep_17 ?_
      obtain ⟨u4, e4, h⟩ := bnd_some h
      refine s_callVv E kf_X1_copyFrom m_l_X4_235 (c_X1_copyFrom_15_7 q σ u4 e4) ⟨rfl, rfl, by decide, by decide⟩ (q0 := 15) rfl rfl rfl rfl rfl (Nat.le_of_ble_eq_true rfl) dX4_keep_20 ?_
      refine s_aload_n E 2 rfl dX4_keep_23 rfl ?_
      refine s_iconst E (v := 1) dX4_keep_24 ki_1 ?_
      refine s_put E (w' := (wX cI q (up2 u4 15 5 1))) (v := .int 1) 15 5 tyX1 tyX1_ok nmX1 in_X1 gX_15 rfl (by decide) m_f_X4_63 rfl (tyX1_ok 5 (by decide)) rfl rfl (Nat.le_of_ble_eq_true rfl) fX_15_5 dX4_keep_25 ?_
      refine s_aload_n E 0 rfl dX4_keep_28 rfl ?_
      refine s_get E (v := .ref (q 7)) 0 2 in_X4 gX_0 rfl (by decide) m_f_X4_26 rfl dX4_keep_29 ?_
      refine s_geti E (y := (u4 7 3)) 7 3 in_X1 gX_7 rfl (by decide) m_f_X4_163 rfl (up2_n rfl) dX4_keep_32 ?_
      obtain rfl := Option.some.inj h
      exact s_iret E rfl rfl dX4_keep_35
end
abbrev rm_X4_again : Room := { frames := 1, cells := 0, slots := 0, locals := 22 }
section
noncomputable def f_X4_again (σ : Nat → Nat → Int32) (x1 : Int32) : Option (Int32 × (Nat → Nat → Int32)) :=
  (if (f_X4_isSlot x1) = 0 then (some ((-1), σ)) else (if x1 = 0 then (if (σ 11 5) = 0 then (some ((-3), σ)) else ((f_X1_copyFrom_7_11 σ).bind fun u4 => (some (((f_X2_forget u4) 7 3), (f_X2_forget u4))))) else (if (σ 15 5) = 0 then (some ((-3), σ)) else ((f_X1_copyFrom_7_15 σ).bind fun u6 => (some (((f_X2_forget u6) 7 3), (f_X2_forget u6)))))))
set_option maxRecDepth 100000 in
set_option maxHeartbeats 4000000 in
theorem c_X4_again (q : Nat → Nat) (σ : Nat → Nat → Int32) (x1 : Int32) (z : (Int32 × (Nat → Nat → Int32))) (h : f_X4_again σ x1 = some z) : CT l dC dI cI cZ A yX4_again cX4_again 3 (some .int) rm_X4_again [.ref (q 0), .int x1] (wX cI q σ) (wX cI q z.2) (some (.int z.1)) := by
  refine b_met (by decide) (Nat.le_of_ble_eq_true rfl) ?_
  intro p e s m below meth c E
  have E : EV p s m _ meth c dC dI cI cZ cX4_again 3 RX4 (some .int) := E
  show GG p l e rm_X4_again s m _ below meth c _ A dC dI 3 (wX cI q σ) 0 [(0, .ref (q 0)), (1, .int x1)] []
  unfold f_X4_again at h
  refine s_iload_n E 1 rfl dX4_again_0 rfl ?_
  refine s_callSi E kf_X4_isSlot m_l_X4_228 (c_X4_isSlot (wX cI q σ) x1) ⟨rfl, rfl, by decide, by decide⟩ rfl rfl (Nat.le_of_ble_eq_true rfl) dX4_again_1 ?_
  refine s_if_ne E 9 dX4_again_4 (by decide) (fun c1 => ?_) (fun c1 => ?_)
  · have h := (if_pos c1).symm.trans h
    refine s_iconst E (v := (-1)) dX4_again_7 ki_m1 ?_
    obtain rfl := Option.some.inj h
    exact s_iret E rfl rfl dX4_again_8
  · have h := (if_neg c1).symm.trans h
    refine s_aload_n E 0 rfl dX4_again_9 rfl ?_
    refine s_iload_n E 1 rfl dX4_again_10 rfl ?_
    by_cases c2 : x1 = 0
    · have h := (if_pos c2).symm.trans h
      refine s_callVr E kf_X4_slotOf m_l_X4_231 (c_X4_slotOf_t q σ x1 c2) ⟨rfl, rfl, by decide, by decide⟩ (q0 := 0) rfl rfl rfl rfl rfl (Nat.le_of_ble_eq_true rfl) dX4_again_11 ?_
      refine s_astore_n E (lv' := [(0, .ref (q 0)), (1, .int x1), (2, .ref (q 11))]) dX4_again_14 rfl rfl rfl rfl (by decide) ?_
      refine s_aload_n E 2 rfl dX4_again_15 rfl ?_
      refine s_geti E (y := (σ 11 5)) 11 5 in_X1 gX_11 rfl (by decide) m_f_X4_63 rfl rfl dX4_again_16 ?_
      refine s_if_ne E 25 dX4_again_19 (by decide) (fun c3 => ?_) (fun c3 => ?_)
      · have h := (if_pos c3).symm.trans h
        refine s_bipush E (v := (-3)) dX4_again_22 kb_m3 ?_
        obtain rfl := Option.some.inj h
        exact s_iret E rfl rfl dX4_again_24
      · have h := (if_neg c3).symm.trans h
        refine s_aload_n E 0 rfl dX4_again_25 rfl ?_
        refine s_get E (v := .ref (q 7)) 0 2 in_X4 gX_0 rfl (by decide) m_f_X4_26 rfl dX4_again_26 ?_
        refine s_aload_n E 2 rfl dX4_again_29 rfl ?_
        obtain ⟨u4, e4, h⟩ := bnd_some h
        refine s_callVv E kf_X1_copyFrom m_l_X4_235 (c_X1_copyFrom_7_11 q σ u4 e4) ⟨rfl, rfl, by decide, by decide⟩ (q0 := 7) rfl rfl rfl rfl rfl (Nat.le_of_ble_eq_true rfl) dX4_again_30 ?_
        refine s_aload_n E 0 rfl dX4_again_33 rfl ?_
        refine s_get E (v := .ref (q 19)) 0 5 in_X4 gX_0 rfl (by decide) m_f_X4_39 rfl dX4_again_34 ?_
        refine s_callVv E kf_X2_forget m_l_X4_67 (c_X2_forget q u4) ⟨rfl, rfl, by decide, by decide⟩ (q0 := 19) rfl rfl rfl rfl rfl (Nat.le_of_ble_eq_true rfl) dX4_again_37 ?_
        refine s_aload_n E 0 rfl dX4_again_40 rfl ?_
        refine s_get E (v := .ref (q 7)) 0 2 in_X4 gX_0 rfl (by decide) m_f_X4_26 rfl dX4_again_41 ?_
        refine s_geti E (y := ((f_X2_forget u4) 7 3)) 7 3 in_X1 gX_7 rfl (by decide) m_f_X4_163 rfl rfl dX4_again_44 ?_
        obtain rfl := Option.some.inj h
        exact s_iret E rfl rfl dX4_again_47
    · have h := (if_neg c2).symm.trans h
      refine s_callVr E kf_X4_slotOf m_l_X4_231 (c_X4_slotOf_f q σ x1 c2) ⟨rfl, rfl, by decide, by decide⟩ (q0 := 0) rfl rfl rfl rfl rfl (Nat.le_of_ble_eq_true rfl) dX4_again_11 ?_
      refine s_astore_n E (lv' := [(0, .ref (q 0)), (1, .int x1), (2, .ref (q 15))]) dX4_again_14 rfl rfl rfl rfl (by decide) ?_
      refine s_aload_n E 2 rfl dX4_again_15 rfl ?_
      refine s_geti E (y := (σ 15 5)) 15 5 in_X1 gX_15 rfl (by decide) m_f_X4_63 rfl rfl dX4_again_16 ?_
      refine s_if_ne E 25 dX4_again_19 (by decide) (fun c5 => ?_) (fun c5 => ?_)
      · have h := (if_pos c5).symm.trans h
        refine s_bipush E (v := (-3)) dX4_again_22 kb_m3 ?_
        obtain rfl := Option.some.inj h
        exact s_iret E rfl rfl dX4_again_24
      · have h := (if_neg c5).symm.trans h
        refine s_aload_n E 0 rfl dX4_again_25 rfl ?_
        refine s_get E (v := .ref (q 7)) 0 2 in_X4 gX_0 rfl (by decide) m_f_X4_26 rfl dX4_again_26 ?_
        refine s_aload_n E 2 rfl dX4_again_29 rfl ?_
        obtain ⟨u6, e6, h⟩ := bnd_some h
        refine s_callVv E kf_X1_copyFrom m_l_X4_235 (c_X1_copyFrom_7_15 q σ u6 e6) ⟨rfl, rfl, by decide, by decide⟩ (q0 := 7) rfl rfl rfl rfl rfl (Nat.le_of_ble_eq_true rfl) dX4_again_30 ?_
        refine s_aload_n E 0 rfl dX4_again_33 rfl ?_
        refine s_get E (v := .ref (q 19)) 0 5 in_X4 gX_0 rfl (by decide) m_f_X4_39 rfl dX4_again_34 ?_
        refine s_callVv E kf_X2_forget m_l_X4_67 (c_X2_forget q u6) ⟨rfl, rfl, by decide, by decide⟩ (q0 := 19) rfl rfl rfl rfl rfl (Nat.le_of_ble_eq_true rfl) dX4_again_37 ?_
        refine s_aload_n E 0 rfl dX4_again_40 rfl ?_
        refine s_get E (v := .ref (q 7)) 0 2 in_X4 gX_0 rfl (by decide) m_f_X4_26 rfl dX4_again_41 ?_
        refine s_geti E (y := ((f_X2_forget u6) 7 3)) 7 3 in_X1 gX_7 rfl (by decide) m_f_X4_163 rfl rfl dX4_again_44 ?_
        obtain rfl := Option.some.inj h
        exact s_iret E rfl rfl dX4_again_47
end
abbrev rm_X4_count : Room := { frames := 2, cells := 0, slots := 0, locals := 43 }
section
noncomputable def f_X4_count (σ : Nat → Nat → Int32) (x1 : Int32) : Option Int32 :=
  (if x1 = 0 then (some (σ 1 1)) else (if x1 = 1 then (some (σ 3 5)) else (if x1 = 2 then ((f_X1_gone σ).bind fun u4 => (some ((σ 3 5) - (f_J6_bitCount_0f7a4 u4)))) else (if x1 = 3 then ((f_X1_laid σ).bind fun u6 => (some (f_J6_bitCount_0f7a4 u6))) else (if x1 = 4 then ((f_X1_gone σ).bind fun u8 => (some (f_J6_bitCount_0f7a4 u8))) else (if x1 = 5 then (some (σ 7 3)) else (if x1 = 6 then ((f_X1_gone σ).bind fun u11 => ((f_X0_faresOf σ u11).bind fun u12 => (some u12))) else (some (-2)))))))))
set_option maxRecDepth 100000 in
set_option maxHeartbeats 4000000 in
theorem c_X4_count (q : Nat → Nat) (σ : Nat → Nat → Int32) (x1 : Int32) (z : Int32) (h : f_X4_count σ x1 = some z) : CT l dC dI cI cZ A yX4_count cX4_count 2 (some .int) rm_X4_count [.ref (q 0), .int x1] (wX cI q σ) (wX cI q σ) (some (.int z)) := by
  refine b_met (by decide) (Nat.le_of_ble_eq_true rfl) ?_
  intro p e s m below meth c E
  have E : EV p s m _ meth c dC dI cI cZ cX4_count 2 RX4 (some .int) := E
  show GG p l e rm_X4_count s m _ below meth c _ A dC dI 2 (wX cI q σ) 0 [(0, .ref (q 0)), (1, .int x1)] []
  unfold f_X4_count at h
  refine s_iload_n E 1 rfl dX4_count_0 rfl ?_
  by_cases c1 : x1 = 0
  · have h := (if_pos c1).symm.trans h
    refine s_swIn E 44 dX4_count_1 (by rw [c1]; decide) (by rw [c1]; decide) (off := 43) (by rw [c1]; decide) (by decide) ?_
    refine s_aload_n E 0 rfl dX4_count_44 rfl ?_
    refine s_get E (v := .ref (q 1)) 0 0 in_X4 gX_0 rfl (by decide) m_f_X4_10 rfl dX4_count_45 ?_
    refine s_geti E (y := (σ 1 1)) 1 1 in_X3 gX_1 rfl (by decide) m_f_X4_43 rfl rfl dX4_count_48 ?_
    obtain rfl := Option.some.inj h
    exact s_iret E rfl rfl dX4_count_51
  · have h := (if_neg c1).symm.trans h
    by_cases c2 : x1 = 1
    · have h := (if_pos c2).symm.trans h
      refine s_swIn E 52 dX4_count_1 (by rw [c2]; decide) (by rw [c2]; decide) (off := 51) (by rw [c2]; decide) (by decide) ?_
      refine s_aload_n E 0 rfl dX4_count_52 rfl ?_
      refine s_get E (v := .ref (q 3)) 0 1 in_X4 gX_0 rfl (by decide) m_f_X4_19 rfl dX4_count_53 ?_
      refine s_geti E (y := (σ 3 5)) 3 5 in_X0 gX_3 rfl (by decide) m_f_X4_70 rfl rfl dX4_count_56 ?_
      obtain rfl := Option.some.inj h
      exact s_iret E rfl rfl dX4_count_59
    · have h := (if_neg c2).symm.trans h
      by_cases c3 : x1 = 2
      · have h := (if_pos c3).symm.trans h
        refine s_swIn E 60 dX4_count_1 (by rw [c3]; decide) (by rw [c3]; decide) (off := 59) (by rw [c3]; decide) (by decide) ?_
        refine s_aload_n E 0 rfl dX4_count_60 rfl ?_
        refine s_get E (v := .ref (q 3)) 0 1 in_X4 gX_0 rfl (by decide) m_f_X4_19 rfl dX4_count_61 ?_
        refine s_geti E (y := (σ 3 5)) 3 5 in_X0 gX_3 rfl (by decide) m_f_X4_70 rfl rfl dX4_count_64 ?_
        refine s_aload_n E 0 rfl dX4_count_67 rfl ?_
        refine s_get E (v := .ref (q 7)) 0 2 in_X4 gX_0 rfl (by decide) m_f_X4_26 rfl dX4_count_68 ?_
        obtain ⟨u4, e4, h⟩ := bnd_some h
        refine s_callVi E kf_X1_gone m_l_X4_239 (c_X1_gone q σ u4 e4) ⟨rfl, rfl, by decide, by decide⟩ (q0 := 7) rfl rfl rfl rfl rfl (Nat.le_of_ble_eq_true rfl) dX4_count_71 ?_
        refine s_callSi E kf_J6_bitCount_0f7a4 m_l_X4_132 (c_J6_bitCount_0f7a4 (wX cI q σ) u4) ⟨rfl, rfl, by decide, by decide⟩ rfl rfl (Nat.le_of_ble_eq_true rfl) dX4_count_74 ?_
        refine s_isub E dX4_count_77 ?_
        obtain rfl := Option.some.inj h
        exact s_iret E rfl rfl dX4_count_78
      · have h := (if_neg c3).symm.trans h
        by_cases c5 : x1 = 3
        · have h := (if_pos c5).symm.trans h
          refine s_swIn E 79 dX4_count_1 (by rw [c5]; decide) (by rw [c5]; decide) (off := 78) (by rw [c5]; decide) (by decide) ?_
          refine s_aload_n E 0 rfl dX4_count_79 rfl ?_
          refine s_get E (v := .ref (q 7)) 0 2 in_X4 gX_0 rfl (by decide) m_f_X4_26 rfl dX4_count_80 ?_
          obtain ⟨u6, e6, h⟩ := bnd_some h
          refine s_callVi E kf_X1_laid m_l_X4_125 (c_X1_laid q σ u6 e6) ⟨rfl, rfl, by decide, by decide⟩ (q0 := 7) rfl rfl rfl rfl rfl (Nat.le_of_ble_eq_true rfl) dX4_count_83 ?_
          refine s_callSi E kf_J6_bitCount_0f7a4 m_l_X4_132 (c_J6_bitCount_0f7a4 (wX cI q σ) u6) ⟨rfl, rfl, by decide, by decide⟩ rfl rfl (Nat.le_of_ble_eq_true rfl) dX4_count_86 ?_
          obtain rfl := Option.some.inj h
          exact s_iret E rfl rfl dX4_count_89
        · have h := (if_neg c5).symm.trans h
          by_cases c7 : x1 = 4
          · have h := (if_pos c7).symm.trans h
            refine s_swIn E 90 dX4_count_1 (by rw [c7]; decide) (by rw [c7]; decide) (off := 89) (by rw [c7]; decide) (by decide) ?_
            refine s_aload_n E 0 rfl dX4_count_90 rfl ?_
            refine s_get E (v := .ref (q 7)) 0 2 in_X4 gX_0 rfl (by decide) m_f_X4_26 rfl dX4_count_91 ?_
            obtain ⟨u8, e8, h⟩ := bnd_some h
            refine s_callVi E kf_X1_gone m_l_X4_239 (c_X1_gone q σ u8 e8) ⟨rfl, rfl, by decide, by decide⟩ (q0 := 7) rfl rfl rfl rfl rfl (Nat.le_of_ble_eq_true rfl) dX4_count_94 ?_
            refine s_callSi E kf_J6_bitCount_0f7a4 m_l_X4_132 (c_J6_bitCount_0f7a4 (wX cI q σ) u8) ⟨rfl, rfl, by decide, by decide⟩ rfl rfl (Nat.le_of_ble_eq_true rfl) dX4_count_97 ?_
            obtain rfl := Option.some.inj h
            exact s_iret E rfl rfl dX4_count_100
          · have h := (if_neg c7).symm.trans h
            by_cases c9 : x1 = 5
            · have h := (if_pos c9).symm.trans h
              refine s_swIn E 101 dX4_count_1 (by rw [c9]; decide) (by rw [c9]; decide) (off := 100) (by rw [c9]; decide) (by decide) ?_
              refine s_aload_n E 0 rfl dX4_count_101 rfl ?_
              refine s_get E (v := .ref (q 7)) 0 2 in_X4 gX_0 rfl (by decide) m_f_X4_26 rfl dX4_count_102 ?_
              refine s_geti E (y := (σ 7 3)) 7 3 in_X1 gX_7 rfl (by decide) m_f_X4_163 rfl rfl dX4_count_105 ?_
              obtain rfl := Option.some.inj h
              exact s_iret E rfl rfl dX4_count_108
            · have h := (if_neg c9).symm.trans h
              by_cases c10 : x1 = 6
              · have h := (if_pos c10).symm.trans h
                refine s_swIn E 109 dX4_count_1 (by rw [c10]; decide) (by rw [c10]; decide) (off := 108) (by rw [c10]; decide) (by decide) ?_
                refine s_aload_n E 0 rfl dX4_count_109 rfl ?_
                refine s_get E (v := .ref (q 3)) 0 1 in_X4 gX_0 rfl (by decide) m_f_X4_19 rfl dX4_count_110 ?_
                refine s_aload_n E 0 rfl dX4_count_113 rfl ?_
                refine s_get E (v := .ref (q 7)) 0 2 in_X4 gX_0 rfl (by decide) m_f_X4_26 rfl dX4_count_114 ?_
                obtain ⟨u11, e11, h⟩ := bnd_some h
                refine s_callVi E kf_X1_gone m_l_X4_239 (c_X1_gone q σ u11 e11) ⟨rfl, rfl, by decide, by decide⟩ (q0 := 7) rfl rfl rfl rfl rfl (Nat.le_of_ble_eq_true rfl) dX4_count_117 ?_
                obtain ⟨u12, e12, h⟩ := bnd_some h
                refine s_callVi E kf_X0_faresOf m_l_X4_172 (c_X0_faresOf q σ u11 u12 e12) ⟨rfl, rfl, by decide, by decide⟩ (q0 := 3) rfl rfl rfl rfl rfl (Nat.le_of_ble_eq_true rfl) dX4_count_120 ?_
                obtain rfl := Option.some.inj h
                exact s_iret E rfl rfl dX4_count_123
              · have h := (if_neg c10).symm.trans h
                have tc1 := lv_neT (a := 0) c1 (by decide)
                have tc2 := lv_neT (a := 1) c2 (by decide)
                have tc3 := lv_neT (a := 2) c3 (by decide)
                have tc5 := lv_neT (a := 3) c5 (by decide)
                have tc7 := lv_neT (a := 4) c7 (by decide)
                have tc9 := lv_neT (a := 5) c9 (by decide)
                have tc10 := lv_neT (a := 6) c10 (by decide)
                refine s_swOut E 124 dX4_count_1 (by omega) (by decide) ?_
                refine s_bipush E (v := (-2)) dX4_count_124 kb_m2 ?_
                obtain rfl := Option.some.inj h
                exact s_iret E rfl rfl dX4_count_126
end
end
